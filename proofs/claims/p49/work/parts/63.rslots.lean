/-! comparing texts -/
def cmpT : Tx → Tx → Int
  | [], t => -(t.length : Int)
  | _ :: t, [] => (t.length : Int) + 1
  | a :: t, b :: v => if a = b then cmpT t v else (a : Int) - b
theorem cmpT_self : ∀ t : Tx, cmpT t t = 0
  | [] => rfl
  | a :: t => by rw [cmpT, if_pos rfl]; exact cmpT_self t
theorem cmpT_zero : ∀ t v : Tx, cmpT t v = 0 → t = v
  | [], [], _ => rfl
  | [], b :: v, h => by simp [cmpT] at h; omega
  | a :: t, [], h => by simp [cmpT] at h; omega
  | a :: t, b :: v, h => by
    rw [cmpT] at h
    split at h
    · rename_i e; rw [e, cmpT_zero t v h]
    · rename_i e; omega
theorem cmpT_eq {t v : Tx} : cmpT t v = 0 ↔ t = v := ⟨cmpT_zero t v, fun h => h ▸ cmpT_self t⟩
theorem drop_cons {t : Tx} {j : Nat} (h : j < t.length) : t.drop j = t.getD j 0 :: t.drop (j + 1) := by
  rw [List.drop_eq_getElem_cons h, List.getD_eq_getElem?_getD, List.getElem?_eq_getElem h]; rfl
theorem drop_nil {t : Tx} {j : Nat} (h : t.length ≤ j) : t.drop j = [] := List.drop_eq_nil_of_le h
theorem toInt_sub {a b : Nat} (ha : a < 2 ^ 30) (hb : b < 2 ^ 30) : (nI a - nI b).toInt = (a : Int) - b := pk_sub_toInt ha hb
theorem nI_eqv {a b : Nat} (ha : a < 2 ^ 31) (hb : b < 2 ^ 31) : nI a = nI b ↔ a = b := nI_eq ha hb
theorem s_compare_34 {post : Int32 → RM → Prop} {a b : Nat} {t v : Tx} {M : RM} (ht : mT M a t) (hv : mT M b v) (ha : a + 301 ≤ 321140) (hb : b + 301 ≤ 321140) (hp : ∀ r : Int32, r.toInt = cmpT t v → post r M) :
    ∀ (d j : Nat), j + d = min t.length v.length → cmpT (t.drop j) (v.drop j) = cmpT t v → w_compare_34 post (d + 1) (nI a) (nI b) (nI (min t.length v.length)) (nI (j + 1)) M := by
  have l1 := ht.1.1
  have l2 := hv.1.1
  have ea : (nI a).toNatClampNeg = a := nI_clamp (by omega)
  have eb : (nI b).toNatClampNeg = b := nI_clamp (by omega)
  intro d
  induction d with
  | zero =>
    intro j hj hc
    rw [w_compare_34, ea, eb, ht.2.1, hv.2.1]
    refine ⟨fun _ => ⟨vp_in_nI (by omega) (by omega), vp_in_nI (by omega) (by omega), hp _ ?_⟩, fun h => absurd (nI_lt (by omega) (by omega)) h⟩
    rw [toInt_sub (by omega) (by omega), ← hc]
    rcases Nat.lt_or_ge j t.length with q | q
    · have q2 : v.length ≤ j := by omega
      rw [drop_cons q, drop_nil q2, cmpT, List.length_drop]
      omega
    · rw [drop_nil q, cmpT, List.length_drop]
      omega
  | succ d ih =>
    intro j hj hc
    have e1 : nI a + nI (j + 1) = nI (a + 1 + j) := by rw [nI_add]; congr 1; omega
    have e2 : nI b + nI (j + 1) = nI (b + 1 + j) := by rw [nI_add]; congr 1; omega
    have q1 : j < t.length := by omega
    have q2 : j < v.length := by omega
    have g1 := getD_lt256 ht.1.2 q1
    have g2 := getD_lt256 hv.1.2 q2
    rw [w_compare_34, e1, e2, nI_clamp (n := a + 1 + j) (by omega), nI_clamp (n := b + 1 + j) (by omega), ht.2.2 j q1, hv.2.2 j q2]
    refine ⟨fun h => absurd h (nI_nlt (by omega) (by omega)), fun _ => ⟨vp_in_nI (by omega) (by omega), vp_in_nI (by omega) (by omega), fun h => ?_, fun h => ⟨vp_in_nI (by omega) (by omega), vp_in_nI (by omega) (by omega), hp _ ?_⟩⟩⟩
    · intro v16 e16
      rw [e16, nI_1]
      refine ih (j + 1) (by omega) ?_
      rw [← hc, drop_cons q1, drop_cons q2, cmpT, if_pos ((nI_eq (by omega) (by omega)).mp h)]
    · rw [toInt_sub (by omega) (by omega), ← hc, drop_cons q1, drop_cons q2, cmpT, if_neg (fun z => h (by rw [z]))]
theorem s_compare {post : Int32 → RM → Prop} {a b : Nat} {t v : Tx} {M : RM} (ht : mT M a t) (hv : mT M b v) (ha : a + 301 ≤ 321140) (hb : b + 301 ≤ 321140) (hp : ∀ r : Int32, r.toInt = cmpT t v → post r M) : w_compare post (nI a) (nI b) M := by
  have l1 := ht.1.1
  have l2 := hv.1.1
  have ea : (nI a).toNatClampNeg = a := nI_clamp (by omega)
  have eb : (nI b).toNatClampNeg = b := nI_clamp (by omega)
  rw [w_compare, ea, eb, ht.2.1, hv.2.1]
  refine ⟨vp_in_nI (by omega) (by omega), vp_in_nI (by omega) (by omega), fun h => ⟨vp_in_nI (by omega) (by omega), fun v5 e5 => ⟨v.length + 1, ?_⟩⟩, fun h => ⟨vp_in_nI (by omega) (by omega), fun v8 e8 => ⟨t.length + 1, ?_⟩⟩⟩
  · have h' := (nI_leI (by omega) (by omega)).mp h
    have e : v.length = min t.length v.length := by omega
    rw [e5]
    have := s_compare_34 ht hv ha hb hp v.length 0 (by omega) rfl
    rw [← e] at this
    exact this
  · have h' : ¬ v.length ≤ t.length := fun z => h ((nI_leI (by omega) (by omega)).mpr z)
    have e : t.length = min t.length v.length := by omega
    rw [e8]
    have := s_compare_34 ht hv ha hb hp t.length 0 (by omega) rfl
    rw [← e] at this
    exact this
theorem toInt0 {r : Int32} : r = 0 ↔ r.toInt = 0 := ⟨fun h => by rw [h]; rfl, fun h => Int32.toInt_inj.mp (by rw [h]; rfl)⟩
/-! the calls on slots -/
theorem mO.nil {M : RM} {a : Nat} (h : M 1 a = 0) : mO M a (some []) := ⟨⟨by simp, by simp⟩, h, fun j hj => absurd hj (by simp)⟩
theorem mO.len {M : RM} {a : Nat} {t : Tx} (h : mO M a (some t)) : M 1 a = nI t.length := h.2.1
theorem r_erase {post : Int32 → RM → Prop} {s : AS} {M : RM} (x : Int32) (hR : rRep s M) (hp : ∀ M', rRep (op_erase x s).2 M' → post (op_erase x s).1 M') : w_erase post x M := by
  rw [w_erase]
  refine s_isSlot x (fun e => ⟨fun z => absurd rfl z, fun _ => ?_⟩) (fun i hi hx e => ⟨fun _ => ?_, fun z => absurd z (by decide)⟩)
  · simp only [op_erase, e] at hp; exact hp M hR
  · simp only [op_erase, e] at hp
    subst hx
    refine s_at ⟨vp_in_nI (by omega) (by omega), fun v5 e5 => s_at ⟨vp_in_nI (by omega) (by omega), fun M8 e8 => ?_⟩⟩
    rw [nI_clamp (by omega)] at e5 e8
    have ho := hR.1 i hi
    have h8 : rRep (sSl s i (some [])) M8 := hR.slot hi (by rw [e8]; exact mF.up _ mF.rf (by omega) (by omega)) (mO.nil (by rw [e8, upR_1, if_pos rfl]))
    have h9 := hp M8 h8
    refine ⟨fun z => ?_, fun z => ?_⟩
    · rw [e5] at z
      have hn := ho.neg.mp z
      cases ht : aSl s i with
      | none => exact absurd ht hn
      | some t => rw [ht] at h9 ho; rw [e5, ho.len]; exact h9
    · rw [e5] at z
      cases ht : aSl s i with
      | none => rw [ht] at h9; exact h9
      | some t => exact absurd (ho.neg.mpr (by rw [ht]; simp)) z
theorem r_forget {post : Int32 → RM → Prop} {s : AS} {M : RM} (x : Int32) (hR : rRep s M) (hp : ∀ M', rRep (op_forget x s).2 M' → post (op_forget x s).1 M') : w_forget post x M := by
  rw [w_forget]
  refine s_isSlot x (fun e => ⟨fun z => absurd rfl z, fun _ => ?_⟩) (fun i hi hx e => ⟨fun _ => ?_, fun z => absurd z (by decide)⟩)
  · simp only [op_forget, e] at hp; exact hp M hR
  · simp only [op_forget, e] at hp
    subst hx
    refine s_at ⟨vp_in_nI (by omega) (by omega), fun v5 e5 => s_at ⟨vp_in_nI (by omega) (by omega), fun M8 e8 => ?_⟩⟩
    rw [nI_clamp (by omega)] at e5 e8
    have ho := hR.1 i hi
    have h8 : rRep (sSl s i none) M8 := hR.slot hi (by rw [e8]; exact mF.up _ mF.rf (by omega) (by omega)) (by show M8 1 (301 * i) = -5; rw [e8, upR_1, if_pos rfl])
    have h9 := hp M8 h8
    refine ⟨fun z => ?_, fun z => ?_⟩
    · rw [e5] at z
      have hn := ho.neg.mp z
      cases ht : aSl s i with
      | none => exact absurd ht hn
      | some t => rw [ht] at h9 ho; rw [e5, ho.len]; exact h9
    · rw [e5] at z
      cases ht : aSl s i with
      | none => rw [ht] at h9; exact h9
      | some t => exact absurd (ho.neg.mpr (by rw [ht]; simp)) z
theorem r_length {post : Int32 → RM → Prop} {s : AS} {M : RM} (x : Int32) (hR : rRep s M) (hp : ∀ M', rRep (op_length x s).2 M' → post (op_length x s).1 M') : w_length post x M := by
  rw [w_length]
  refine s_isSlot x (fun e => ⟨fun z => absurd rfl z, fun _ => ?_⟩) (fun i hi hx e => ⟨fun _ => ?_, fun z => absurd z (by decide)⟩)
  · simp only [op_length, e] at hp; exact hp M hR
  · simp only [op_length, e] at hp
    subst hx
    have ho := hR.1 i hi
    refine s_hasNothing ho hi (fun t ht => ⟨fun _ => ?_, fun z => absurd rfl z⟩) (fun ht => ⟨fun z => absurd z (by decide), fun _ => ?_⟩)
    · have h9 := hp M hR
      rw [ht] at h9 ho
      refine s_at ⟨vp_in_nI (by omega) (by omega), ?_⟩
      rw [nI_clamp (by omega), ho.len]; exact h9
    · have h9 := hp M hR
      rw [ht] at h9; exact h9
theorem ge256 {y : Int32} (h : nI 256 ≤ y) : ¬ y ≤ 255 := by
  intro q
  have h1 := Int32.le_iff_toInt_le.mp h
  have h2 := Int32.le_iff_toInt_le.mp q
  have e1 : (nI 256).toInt = 256 := nI_toInt (by omega)
  have e2 : (255 : Int32).toInt = 255 := by decide
  omega
theorem r_append {post : Int32 → RM → Prop} {s : AS} {M : RM} (x y : Int32) (hR : rRep s M) (hp : ∀ M', rRep (op_append x y s).2 M' → post (op_append x y s).1 M') : w_append post x y M := by
  rw [w_append]
  refine s_isSlot x (fun e => ⟨fun _ => ?_, fun z => absurd rfl z⟩) (fun i hi hx e => ⟨fun z => absurd z (by decide), fun _ => ?_⟩)
  · simp only [op_append, e] at hp; exact hp M hR
  · subst hx
    rcases ixO_cases y (n := 256) (by omega) with ⟨ey, h⟩ | ⟨c, hc, rfl, ey⟩
    · simp only [op_append, e, ey] at hp
      rcases h with h | h
      · exact ⟨fun _ => hp M hR, fun z => absurd h z⟩
      · exact ⟨fun _ => hp M hR, fun _ => ⟨fun z => absurd z (ge256 h), fun _ => hp M hR⟩⟩
    · simp only [op_append, e, ey] at hp
      refine ⟨fun z => absurd z (nI_pos (by omega)), fun _ => ⟨fun _ => ?_, fun z => absurd ((nI_leI (b := 255) (by omega) (by omega)).mpr (by omega)) z⟩⟩
      have ho := hR.1 i hi
      refine s_hasNothing ho hi (fun t ht => ⟨fun _ => ?_, fun z => absurd rfl z⟩) (fun ht => ⟨fun z => absurd z (by decide), fun _ => ?_⟩)
      · simp only [ht] at hp
        rw [ht] at ho
        have hT : mT M (301 * i) t := ho
        have hl := hT.1.1
        refine s_at ⟨vp_in_nI (by omega) (by omega), ?_⟩
        rw [nI_clamp (by omega), hT.2.1]
        by_cases h3 : t.length < 300
        · rw [if_pos h3] at hp
          refine ⟨fun _ => s_at ?_, fun z => absurd ((nI_eq (b := 300) (by omega) (by omega)).mp z) (by omega)⟩
          refine s_addSign hT (by omega) h3 hc (fun M' hT' hF' => s_at ⟨vp_in_nI (by omega) (by omega), ?_⟩)
          rw [nI_clamp (by omega), hT'.2.1]
          have h9 := hp M' (hR.slot hi hF' hT')
          simpa using h9
        · rw [if_neg h3] at hp
          exact ⟨fun z => absurd ((nI_eq (b := 300) (by omega) (by omega)).mpr (by omega)) z, fun _ => hp M hR⟩
      · simp only [ht] at hp; exact hp M hR
theorem r_characterAt {post : Int32 → RM → Prop} {s : AS} {M : RM} (x y : Int32) (hR : rRep s M) (hp : ∀ M', rRep (op_characterAt x y s).2 M' → post (op_characterAt x y s).1 M') : w_characterAt post x y M := by
  rw [w_characterAt]
  refine s_isSlot x (fun e => ⟨fun z => absurd rfl z, fun _ => ?_⟩) (fun i hi hx e => ⟨fun _ => ?_, fun z => absurd z (by decide)⟩)
  · simp only [op_characterAt, e] at hp; exact hp M hR
  · subst hx
    simp only [op_characterAt, e] at hp
    have ho := hR.1 i hi
    refine s_hasNothing ho hi (fun t ht => ⟨fun _ => ?_, fun z => absurd rfl z⟩) (fun ht => ⟨fun z => absurd z (by decide), fun _ => ?_⟩)
    · simp only [ht] at hp
      rw [ht] at ho
      have hT : mT M (301 * i) t := ho
      have hl := hT.1.1
      rcases ixO_cases y (n := t.length) (by omega) with ⟨ey, h⟩ | ⟨j, hj, rfl, ey⟩
      · simp only [ey] at hp
        rcases h with h | h
        · exact ⟨fun _ => hp M hR, fun z => absurd h z⟩
        · refine ⟨fun _ => hp M hR, fun _ => s_at ⟨vp_in_nI (by omega) (by omega), ?_, fun _ => hp M hR⟩⟩
          rw [nI_clamp (by omega), hT.2.1]
          intro z
          exact absurd h (Int32.not_le.mpr z)
      · simp only [ey] at hp
        refine ⟨fun z => absurd z (nI_pos (by omega)), fun _ => s_at ⟨vp_in_nI (by omega) (by omega), ?_, ?_⟩⟩
        · intro _
          refine s_at ?_
          have e3 : nI (301 * i) + 1 + nI j = nI (301 * i + 1 + j) := by rw [nI_1, nI_add]
          rw [e3, nI_clamp (n := 301 * i + 1 + j) (by omega), hT.2.2 j hj]
          exact ⟨vp_in_nI (by omega) (by omega), hp M hR⟩
        · rw [nI_clamp (n := 301 * i) (by omega), hT.2.1]
          intro z
          exact absurd (nI_lt hj (by omega)) z
    · simp only [ht] at hp; exact hp M hR
theorem r_copy {post : Int32 → RM → Prop} {s : AS} {M : RM} (x y : Int32) (hR : rRep s M) (hp : ∀ M', rRep (op_copy x y s).2 M' → post (op_copy x y s).1 M') : w_copy post x y M := by
  rw [w_copy]
  refine s_isSlot x (fun e => ⟨fun _ => ?_, fun z => absurd rfl z⟩) (fun i hi hx e => ⟨fun z => absurd z (by decide), fun _ => ?_⟩)
  · simp only [op_copy, e] at hp; exact hp M hR
  · subst hx
    refine s_isSlot y (fun ey => ⟨fun z => absurd rfl z, fun _ => ?_⟩) (fun j hj hy ey => ⟨fun _ => ?_, fun z => absurd z (by decide)⟩)
    · simp only [op_copy, e, ey] at hp; exact hp M hR
    · subst hy
      simp only [op_copy, e, ey] at hp
      have ho := hR.1 i hi
      have key : ∀ (post' : RM → Prop), (∀ M', mO M' (301 * j) (aSl s i) → rRep (sSl s j (aSl s i)) M' → post' M') → w_copyText post' (nI (301 * i)) (nI (301 * j)) M := fun post' h => s_copyText ho (by omega) (by omega) (by omega) (fun M' h1 h2 => h M' h1 (hR.slot hj h2 h1))
      refine s_hasNothing ho hi (fun t ht => ?_) (fun ht => ?_)
      · refine s_at (s_at (key _ (fun M' h1 h2 => ⟨fun _ => s_at ⟨vp_in_nI (by omega) (by omega), ?_⟩, fun z => absurd rfl z⟩)))
        have h9 := hp M' h2
        rw [ht] at h9 h1
        rw [nI_clamp (by omega), h1.len]; exact h9
      · refine s_at (s_at (key _ (fun M' h1 h2 => ⟨fun z => absurd z (by decide), fun _ => ?_⟩)))
        have h9 := hp M' h2
        rw [ht] at h9; exact h9
theorem r_same {post : Int32 → RM → Prop} {s : AS} {M : RM} (x y : Int32) (hR : rRep s M) (hp : ∀ M', rRep (op_same x y s).2 M' → post (op_same x y s).1 M') : w_same post x y M := by
  rw [w_same]
  refine s_isSlot x (fun e => ⟨fun _ => ?_, fun z => absurd rfl z⟩) (fun i hi hx e => ⟨fun z => absurd z (by decide), fun _ => ?_⟩)
  · simp only [op_same, e] at hp; exact hp M hR
  · subst hx
    refine s_isSlot y (fun ey => ⟨fun z => absurd rfl z, fun _ => ?_⟩) (fun j hj hy ey => ⟨fun _ => ?_, fun z => absurd z (by decide)⟩)
    · simp only [op_same, e, ey] at hp; exact hp M hR
    · subst hy
      simp only [op_same, e, ey] at hp
      have hoi := hR.1 i hi
      have hoj := hR.1 j hj
      have hp' := hp M hR
      have k86 : ∀ b : Int32, ((b = 0 ∨ b = 1) ∧ post b M) → w_same_86 post b M := by
        intro b hb
        rw [w_same_86]
        rcases hb with ⟨rfl | rfl, hb⟩
        · exact ⟨fun _ => hb, fun z => absurd rfl z⟩
        · exact ⟨fun z => absurd z (by decide), fun _ => hb⟩
      refine s_hasNothing hoi hi (fun t ht => ⟨fun z => absurd rfl z, fun _ => ?_⟩) (fun ht => ⟨fun _ => ?_, fun z => absurd z (by decide)⟩)
      · rw [ht] at hp' hoi
        refine s_hasNothing hoj hj (fun v hv => ⟨fun _ => ?_, fun z => absurd rfl z⟩) (fun hv => ⟨fun z => absurd z (by decide), fun _ => ?_⟩)
        · rw [hv] at hp' hoj
          rw [w_same_37]
          refine ⟨fun _ => s_at (s_at (s_compare (t := t) (v := v) hoi hoj (by omega) (by omega) (fun r hr => ⟨fun z => k86 0 ⟨Or.inl rfl, ?_⟩, fun z => k86 1 ⟨Or.inr rfl, ?_⟩⟩))), fun z => absurd rfl z⟩
          · rw [if_neg (fun q => z (toInt0.mpr (by rw [hr]; exact cmpT_eq.mpr (Option.some.inj q))))] at hp'; exact hp'
          · rw [if_pos (congrArg some (cmpT_eq.mp (by rw [← hr]; exact toInt0.mp z)))] at hp'; exact hp'
        · rw [hv] at hp'
          rw [if_neg (by simp)] at hp'
          rw [w_same_32, w_same_37]
          refine ⟨fun z => absurd z (by decide), fun _ => ?_⟩
          refine s_hasNothing (o := some t) hoi hi (fun _ _ => ⟨fun _ => ?_, fun z => absurd rfl z⟩) (fun q => absurd q (by simp))
          rw [w_same_62]; exact k86 0 ⟨Or.inl rfl, hp'⟩
      · rw [ht] at hp'
        rw [w_same_32, w_same_37]
        refine ⟨fun z => absurd z (by decide), fun _ => ?_⟩
        rw [ht] at hoi
        refine s_hasNothing (o := none) hoi hi (fun _ q => absurd q (by simp)) (fun _ => ⟨fun z => absurd z (by decide), fun _ => ?_⟩)
        refine s_hasNothing hoj hj (fun v hv => ⟨fun _ => ?_, fun z => absurd rfl z⟩) (fun hv => ⟨fun z => absurd z (by decide), fun _ => ?_⟩)
        · rw [hv, if_neg (by simp)] at hp'
          rw [w_same_62]; exact k86 0 ⟨Or.inl rfl, hp'⟩
        · rw [hv, if_pos rfl] at hp'
          exact k86 1 ⟨Or.inr rfl, hp'⟩
/-! the tape's small calls -/
theorem rRep.tape {s : AS} {M M' : RM} {t : Tx} (h : rRep s M) (hk : ∀ k i, k ≠ 4 → (k = 0 → i = 2 ∨ i = 3) → M' k i = M k i) (ht : mTape M' t) : rRep (sTp s t) M' := by
  obtain ⟨h1, h2, h3, h4, h5, h6, h7, h8⟩ := h
  refine ⟨fun i hi => (h1 i hi).congr fun j q1 q2 => hk 1 j (by omega) (by omega), ht, fun j hj => (h3 j hj).congr (hk 2 j (by omega) (by omega)) fun i q1 q2 => hk 1 i (by omega) (by omega), fun i hi => (h4 i hi).congr (hk 3 i (by omega) (by omega)) (fun l hl => hk 2 _ (by omega) (by omega)) fun j q1 q2 => hk 1 j (by omega) (by omega), fun i hi => (h5 i hi).congr (fun k q => hk k i (by omega) (by omega)) (fun j q1 q2 => hk 1 j (by omega) (by omega)) fun j q1 q2 => hk 1 j (by omega) (by omega), fun i hi => (h6 i hi).congr (fun k q => hk k i (by omega) (by omega)) fun j q1 q2 => hk 1 j (by omega) (by omega), by rw [hk 0 2 (by omega) (by omega)]; exact h7, by rw [hk 0 3 (by omega) (by omega)]; exact h8⟩
theorem upR_0 (M : RM) (i j : Nat) (x : Int32) : upR M 0 i x 0 j = if j = i then x else M 0 j := rfl
theorem upR_4 (M : RM) (i j : Nat) (x : Int32) : upR M 4 i x 4 j = if j = i then x else M 4 j := rfl
theorem r_tapeLength {post : Int32 → RM → Prop} {s : AS} {M : RM} (hR : rRep s M) (hp : ∀ M', rRep (op_tapeLength s).2 M' → post (op_tapeLength s).1 M') : w_tapeLength post M := by
  rw [w_tapeLength, hR.2.1.2.2.1]
  exact hp M hR
theorem r_tapeAt {post : Int32 → RM → Prop} {s : AS} {M : RM} (x : Int32) (hR : rRep s M) (hp : ∀ M', rRep (op_tapeAt x s).2 M' → post (op_tapeAt x s).1 M') : w_tapeAt post x M := by
  have ht := hR.2.1
  have hl := ht.1
  rw [w_tapeAt, ht.2.2.1]
  rcases ixO_cases x (n := (aTp s).length) (by omega) with ⟨e, h⟩ | ⟨j, hj, rfl, e⟩
  · simp only [op_tapeAt, e] at hp
    rcases h with h | h
    · exact ⟨fun _ => hp M hR, fun z => absurd h z⟩
    · exact ⟨fun _ => hp M hR, fun _ => ⟨fun z => absurd h (Int32.not_le.mpr z), fun _ => hp M hR⟩⟩
  · simp only [op_tapeAt, e] at hp
    refine ⟨fun z => absurd z (nI_pos (by omega)), fun _ => ⟨fun _ => ⟨vp_in_nI (by omega) (by omega), ?_⟩, fun z => absurd (nI_lt hj (by omega)) z⟩⟩
    rw [nI_clamp (by omega), ht.2.2.2 j hj]
    exact hp M hR
theorem r_wipe {post : Int32 → RM → Prop} {s : AS} {M : RM} (hR : rRep s M) (hp : ∀ M', rRep (op_wipe s).2 M' → post (op_wipe s).1 M') : w_wipe post M := by
  rw [w_wipe]
  intro v1 e1 M2 e2
  have h9 := hp M2 (hR.tape (t := []) (fun k i q1 q2 => by
    rw [e2]
    by_cases hk : k = 0
    · subst hk; rw [upR_0, if_neg (by omega)]
    · rw [upR_k M 0 0 hk]) ⟨by simp, by simp, by rw [e2]; rfl, fun j hj => absurd hj (by simp)⟩)
  rw [e1, hR.2.1.2.2.1]
  exact h9
theorem s_mayBeTyped {post : Int32 → Prop} (x : Int32) (h0 : tyO x = none → post 0) (h1 : ∀ c, c < 127 → x = nI c → tyO x = some c → post 1) : q_mayBeTyped post x := by
  have p1 : (x = 9 ∨ x = 10 ∨ x = 13 ∨ (¬ x < 32 ∧ ¬ 126 < x)) → post 1 := by
    intro h
    rcases tyO_cases x with ⟨e, q⟩ | ⟨c, hc, hx, e, q⟩
    · exact absurd h q
    · exact h1 c hc hx e
  have p0 : ¬ (x = 9 ∨ x = 10 ∨ x = 13 ∨ (¬ x < 32 ∧ ¬ 126 < x)) → post 0 := fun h => h0 (if_neg h)
  rw [q_mayBeTyped]
  refine ⟨fun a => p1 (Or.inl a), fun a => ⟨fun b => p1 (Or.inr (Or.inl b)), fun b => ⟨fun c => p1 (Or.inr (Or.inr (Or.inl c))), fun c => ⟨fun d => p0 ?_, fun d => ⟨fun f => p0 ?_, fun f => p1 (Or.inr (Or.inr (Or.inr ⟨d, f⟩)))⟩⟩⟩⟩⟩
  · rintro (q | q | q | ⟨q, -⟩)
    · exact a q
    · exact b q
    · exact c q
    · exact q d
  · rintro (q | q | q | ⟨-, q⟩)
    · exact a q
    · exact b q
    · exact c q
    · exact q f
theorem r_type {post : Int32 → RM → Prop} {s : AS} {M : RM} (x : Int32) (hR : rRep s M) (hp : ∀ M', rRep (op_type x s).2 M' → post (op_type x s).1 M') : w_type post x M := by
  have ht := hR.2.1
  have hl := ht.1
  rw [w_type]
  refine s_mayBeTyped x (fun e => ⟨fun z => absurd rfl z, fun _ => ?_⟩) (fun c hc hx e => ⟨fun _ => ?_, fun z => absurd z (by decide)⟩)
  · simp only [op_type, e] at hp; exact hp M hR
  · simp only [op_type, e] at hp
    rw [ht.2.2.1]
    by_cases h3 : (aTp s).length < 300
    · rw [if_pos h3] at hp
      refine ⟨fun _ => ⟨vp_in_nI h3 (by omega), fun M5 e5 M6 e6 => ?_⟩, fun z => absurd ((nI_eq (b := 300) (by omega) (by omega)).mp z) (by omega)⟩
      rw [nI_clamp (by omega)] at e5
      have h50 : M5 0 0 = nI (aTp s).length := by rw [e5, upR_k M _ _ (by omega)]; exact ht.2.2.1
      have h60 : M6 0 0 = nI ((aTp s).length + 1) := by rw [e6, upR_0, if_pos rfl, h50, nI_1]
      have hk : ∀ k i, k ≠ 4 → (k = 0 → i = 2 ∨ i = 3) → M6 k i = M k i := by
        intro k i q1 q2
        rw [e6]
        by_cases hk : k = 0
        · subst hk; rw [upR_0, if_neg (by omega), e5, upR_k M _ _ (by omega)]
        · rw [upR_k M5 _ _ hk, e5, upR_k M _ _ q1]
      have h64 : ∀ j, M6 4 j = if j = (aTp s).length then x else M 4 j := by
        intro j
        rw [e6, upR_k M5 _ _ (by omega), e5, upR_4]
      have h9 := hp M6 (hR.tape hk ⟨by simp; omega, ?_, by rw [h60]; simp, fun j hj => ?_⟩)
      · rw [h60]; exact h9
      · intro a ha
        rcases List.mem_append.mp ha with q | q
        · exact ht.2.1 a q
        · rw [List.mem_singleton.mp q]; exact hc
      · have hj' : j < (aTp s).length + 1 := by simpa using hj
        rw [h64, getD_app1]
        by_cases q : j = (aTp s).length
        · rw [if_pos q, if_neg (by omega), if_pos q]; exact hx
        · rw [if_neg q, if_pos (by omega)]; exact ht.2.2.2 j (by omega)
    · rw [if_neg h3] at hp
      exact ⟨fun z => absurd ((nI_eq (b := 300) (by omega) (by omega)).mpr (by omega)) z, fun _ => hp M hR⟩
theorem r_refusals {post : Int32 → RM → Prop} {s : AS} {M : RM} (x : Int32) (hR : rRep s M) (hp : ∀ M', rRep (op_refusals x s).2 M' → post (op_refusals x s).1 M') : w_refusals post x M := by
  rw [w_refusals, hR.2.2.2.2.2.2.1, hR.2.2.2.2.2.2.2]
  refine ⟨fun a => ⟨fun b => ?_, fun b => ?_⟩, fun a => ?_⟩
  · simp only [op_refusals, if_neg a, if_neg b] at hp; exact hp M hR
  · simp only [op_refusals, if_neg a, if_pos b] at hp; exact hp M hR
  · simp only [op_refusals, if_pos a] at hp; exact hp M hR
theorem s_refusedNull {post : Int32 → RM → Prop} {s : AS} {M : RM} (hR : rRep s M) (hp : ∀ M', rRep (sNp s) M' → post (-7) M') : w_refusedNull post M := by
  rw [w_refusedNull]
  intro M1 e1
  refine hp M1 ?_
  obtain ⟨h1, h2, h3, h4, h5, h6, h7, h8⟩ := hR
  have hk : ∀ k i, (k = 0 → i ≠ 2) → M1 k i = M k i := by
    intro k i q
    rw [e1]
    by_cases hk : k = 0
    · subst hk; rw [upR_0, if_neg (q rfl)]
    · rw [upR_k M _ _ hk]
  refine ⟨fun i hi => (h1 i hi).congr fun j q1 q2 => hk 1 j (by omega), h2.congr (hk 0 0 (by omega)) fun j => hk 4 j (by omega), fun j hj => (h3 j hj).congr (hk 2 j (by omega)) fun i q1 q2 => hk 1 i (by omega), fun i hi => (h4 i hi).congr (hk 3 i (by omega)) (fun l hl => hk 2 _ (by omega)) fun j q1 q2 => hk 1 j (by omega), fun i hi => (h5 i hi).congr (fun k q => hk k i (by omega)) (fun j q1 q2 => hk 1 j (by omega)) fun j q1 q2 => hk 1 j (by omega), fun i hi => (h6 i hi).congr (fun k q => hk k i (by omega)) fun j q1 q2 => hk 1 j (by omega), by rw [e1, upR_0, if_pos rfl, h7], by rw [hk 0 3 (by omega)]; exact h8⟩
