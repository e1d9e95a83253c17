/-! names -/
def keyP (ly : Nat → Ly) (P : Nat → Nat) (x : Nat) : Tx := ((ly x).getD (P x) ([], [])).1
def stepM (ly : Nat → Ly) (P : Nat → Nat) (b : Option Tx) (x : Nat) : Option Tx := if (ly x).length ≤ P x then b else match b with
  | none => some (keyP ly P x)
  | some t => if cmpT (keyP ly P x) t < 0 then some (keyP ly P x) else some t
def minG (ly : Nat → Ly) (P : Nat → Nat) : Nat → Nat → Option Tx → Option Tx
  | 0, _, b => b
  | n + 1, x, b => minG ly P n (x + 1) (stepM ly P b x)
def minF (ly : Nat → Ly) (P : Nat → Nat) (l : Nat) : Option Tx := minG ly P (l + 1) 0 none
def stepP (ly : Nat → Ly) (P : Nat → Nat) (t : Tx) (l : Nat) : Nat → Nat := fun x => if x ≤ l ∧ P x < (ly x).length ∧ keyP ly P x = t then P x + 1 else P x
def namesF (ly : Nat → Ly) (l : Nat) : Nat → (Nat → Nat) → Nat
  | 0, _ => 0
  | n + 1, P => match minF ly P l with
    | none => 0
    | some t => namesF ly l n (stepP ly P t l) + 1
def nameF (ly : Nat → Ly) (l : Nat) : Nat → (Nat → Nat) → Option Tx
  | 0, P => minF ly P l
  | n + 1, P => match minF ly P l with
    | none => none
    | some t => nameF ly l n (stepP ly P t l)
def op_names (x : Int32) (s : AS) : Int32 × AS := match ixO x 4 with
  | none => (-1, s)
  | some l => (nI (namesF (aLy s) l 160 (fun _ => 0)), s)
def op_name (x y z : Int32) (s : AS) : Int32 × AS := match ixO x 4, ixO z 6 with
  | some l, some i => match ixO y 160 with
    | none => (-5, s)
    | some j => match nameF (aLy s) l j (fun _ => 0) with
      | none => (-5, s)
      | some t => (nI t.length, sSl s i (some t))
  | _, _ => (-1, s)
/-- where a least name comes from -/
def okB (ly : Nat → Ly) (P : Nat → Nat) (l : Nat) (b : Option Tx) : Prop := ∀ t, b = some t → ∃ x, x ≤ l ∧ P x < (ly x).length ∧ keyP ly P x = t
theorem okB_step {ly : Nat → Ly} {P : Nat → Nat} {l x : Nat} {b : Option Tx} (h : okB ly P l b) (hx : x ≤ l) : okB ly P l (stepM ly P b x) := by
  intro t ht
  unfold stepM at ht
  split at ht
  · exact h t ht
  · rename_i hlt
    cases b with
    | none =>
      have := Option.some.inj ht
      exact ⟨x, hx, by omega, this⟩
    | some u =>
      have ht' : (if cmpT (keyP ly P x) u < 0 then some (keyP ly P x) else some u) = some t := ht
      split at ht'
      · exact ⟨x, hx, by omega, Option.some.inj ht'⟩
      · exact h t ht'
theorem okB_minG {ly : Nat → Ly} {P : Nat → Nat} {l : Nat} : ∀ (n x : Nat) (b : Option Tx), x + n ≤ l + 1 → okB ly P l b → okB ly P l (minG ly P n x b)
  | 0, _, _, _, h => h
  | n + 1, x, b, hx, h => okB_minG n (x + 1) _ (by omega) (okB_step h (by omega))
theorem okB_minF {ly : Nat → Ly} {P : Nat → Nat} {l : Nat} : okB ly P l (minF ly P l) := okB_minG (l + 1) 0 none (by omega) (fun t h => absurd h (by simp))
def remF (ly : Nat → Ly) (P : Nat → Nat) (l x : Nat) : Nat := if x ≤ l then (ly x).length - P x else 0
def mzF (ly : Nat → Ly) (P : Nat → Nat) (l : Nat) : Nat := remF ly P l 0 + remF ly P l 1 + remF ly P l 2 + remF ly P l 3
theorem stepP_le {ly : Nat → Ly} {P : Nat → Nat} {l : Nat} {t : Tx} (x : Nat) : P x ≤ stepP ly P t l x := by
  unfold stepP; split <;> omega
theorem remF_le {ly : Nat → Ly} {P : Nat → Nat} {l : Nat} {t : Tx} (x : Nat) : remF ly (stepP ly P t l) l x ≤ remF ly P l x := by
  have := stepP_le (ly := ly) (P := P) (l := l) (t := t) x
  unfold remF; split <;> omega
theorem mzF_lt {ly : Nat → Ly} {P : Nat → Nat} {l : Nat} {t : Tx} (hl : l < 4) (h : minF ly P l = some t) : mzF ly (stepP ly P t l) l < mzF ly P l := by
  obtain ⟨x, h1, h2, h3⟩ := okB_minF t h
  have e : remF ly (stepP ly P t l) l x < remF ly P l x := by
    unfold remF stepP
    rw [if_pos h1, if_pos h1, if_pos ⟨h1, h2, h3⟩]; omega
  have a0 := remF_le (ly := ly) (P := P) (l := l) (t := t) 0
  have a1 := remF_le (ly := ly) (P := P) (l := l) (t := t) 1
  have a2 := remF_le (ly := ly) (P := P) (l := l) (t := t) 2
  have a3 := remF_le (ly := ly) (P := P) (l := l) (t := t) 3
  have hx : x = 0 ∨ x = 1 ∨ x = 2 ∨ x = 3 := by omega
  unfold mzF
  rcases hx with rfl | rfl | rfl | rfl <;> omega
theorem nameF_none {ly : Nat → Ly} {l : Nat} (hl : l < 4) : ∀ (j : Nat) (P : Nat → Nat), mzF ly P l ≤ j → nameF ly l j P = none
  | 0, P, h => by
    show minF ly P l = none
    cases hm : minF ly P l with
    | none => rfl
    | some t => have := mzF_lt hl hm; omega
  | j + 1, P, h => by
    unfold nameF
    cases hm : minF ly P l with
    | none => rfl
    | some t =>
      have := mzF_lt hl hm
      exact nameF_none hl j _ (by omega)
theorem mz160 {ly : Nat → Ly} {l : Nat} (h : ∀ j, j < 4 → (ly j).length ≤ 40) : mzF ly (fun _ => 0) l ≤ 160 := by
  have q : ∀ x, x < 4 → remF ly (fun _ => 0) l x ≤ 40 := fun x hx => by
    have := h x hx
    unfold remF; split <;> omega
  have a0 := q 0 (by omega)
  have a1 := q 1 (by omega)
  have a2 := q 2 (by omega)
  have a3 := q 3 (by omega)
  unfold mzF; omega
theorem upR_13 (M : RM) (i j : Nat) (x : Int32) : upR M 13 i x 13 j = if j = i then x else M 13 j := rfl
def mP (ly : Nat → Ly) (P : Nat → Nat) (M : RM) : Prop := ∀ x, x < 4 → M 13 x = nI (P x) ∧ P x ≤ (ly x).length
def okI (ly : Nat → Ly) (P : Nat → Nat) (l : Nat) (b : Option Nat) : Prop := ∀ m, b = some m → m ≤ l ∧ P m < (ly m).length
theorem s_leastLayer_5 {post : Int32 → RM → Prop} {s : AS} {M : RM} {P : Nat → Nat} {l : Nat} (hR : rRep s M) (hl : l < 4) (hP : mP (aLy s) P M)
    (hp : ∀ b : Option Nat, okI (aLy s) P l b → b.map (keyP (aLy s) P) = minF (aLy s) P l → post (fI b) M) : ∀ n x b, x + n = l + 1 → okI (aLy s) P l b → minG (aLy s) P n x (b.map (keyP (aLy s) P)) = minF (aLy s) P l → w_leastLayer_5 post (n + 1) (nI l) (fI b) (nI x) M := by
  intro n
  induction n with
  | zero =>
    intro x b hx hb hm
    rw [w_leastLayer_5]
    exact ⟨fun _ => hp b hb hm, fun z => absurd (nI_lt (by omega) (by omega)) z⟩
  | succ n ih =>
    intro x b hx hb hm
    have hL := hR.2.2.1 x (by omega)
    have h40 := hL.1
    obtain ⟨p1, p2⟩ := hP x (by omega)
    have hm' : minG (aLy s) P n (x + 1) (stepM (aLy s) P (b.map (keyP (aLy s) P)) x) = minF (aLy s) P l := hm
    have k62 : minG (aLy s) P n (x + 1) (b.map (keyP (aLy s) P)) = minF (aLy s) P l → w_leastLayer_62 post (w_leastLayer_5 post (n + 1)) (nI l) (fI b) (nI x) M := by
      intro h
      rw [w_leastLayer_62, w_leastLayer_63]
      refine ⟨fun _ v ev => ?_, fun z => absurd rfl z⟩
      rw [ev, nI_1]
      exact ih (x + 1) b (by omega) hb h
    have k58 : P x < (aLy s x).length → minG (aLy s) P n (x + 1) (some (keyP (aLy s) P x)) = minF (aLy s) P l → w_leastLayer_58 post (w_leastLayer_5 post (n + 1)) (nI l) (fI b) (nI x) M := by
      intro h0 h
      rw [w_leastLayer_58, w_leastLayer_63]
      refine ⟨fun z => absurd z (by decide), fun _ v ev => ?_⟩
      rw [ev, nI_1]
      exact ih (x + 1) (some x) (by omega) (fun m q => by obtain rfl := Option.some.inj q; exact ⟨by omega, h0⟩) h
    rw [w_leastLayer_5, nI_clamp (n := x) (by omega), hL.2.1, p1]
    refine ⟨fun z => absurd z (nI_nlt (by omega) (by omega)), fun _ => ⟨vp_in_nI (by omega) (by omega), vp_in_nI (by omega) (by omega), fun z => ?_, fun z => ?_⟩⟩
    · have hle := (nI_leI (by omega) (by omega)).mp z
      refine k62 ?_
      unfold stepM at hm'
      rw [if_pos hle] at hm'; exact hm'
    · have hlt : P x < (aLy s x).length := by
        rcases Nat.lt_or_ge (P x) (aLy s x).length with q | q
        · exact q
        · exact absurd (nI_le q (by omega)) z
      unfold stepM at hm'
      rw [if_neg (by omega)] at hm'
      cases b with
      | none => exact ⟨fun _ => k58 hlt hm', fun z => absurd rfl z⟩
      | some m =>
        obtain ⟨b1, b2⟩ := hb m rfl
        have hLm := hR.2.2.1 m (by omega)
        have h40m := hLm.1
        obtain ⟨m1, m2⟩ := hP m (by omega)
        have hE := hL.e hlt
        have hEm := hLm.e b2
        have be := eA_b (l := x) (e := P x) (by omega) (by omega)
        have bm := eA_b (l := m) (e := P m) (by omega) (by omega)
        have hne : ¬ fI (some m) = -5 := fun q => absurd ((fI_none (o := some m) (fun p' hp => by obtain rfl := Option.some.inj hp; omega)).mp q) (by simp)
        refine ⟨fun z => absurd z hne, fun _ => ⟨vp_in_nI (by omega) (by omega), q_ent ⟨vp_in_nI (by omega) (by omega), ?_⟩⟩⟩
        show q_entryOf _ (nI m) (M 13 (nI m).toNatClampNeg)
        rw [nI_clamp (n := m) (by omega), m1]
        have hm2 : minG (aLy s) P n (x + 1) (if cmpT (keyP (aLy s) P x) (keyP (aLy s) P m) < 0 then some (keyP (aLy s) P x) else some (keyP (aLy s) P m)) = minF (aLy s) P l := hm'
        refine q_ent (s_compare hE.1 hEm.1 (by omega) (by omega) (fun r hr => ⟨fun z => ?_, fun z => ?_⟩))
        · refine k62 ?_
          have : ¬ cmpT (keyP (aLy s) P x) (keyP (aLy s) P m) < 0 := (neg_iff hr).mp z
          rw [if_neg this] at hm2; exact hm2
        · refine k58 hlt ?_
          have : cmpT (keyP (aLy s) P x) (keyP (aLy s) P m) < 0 := by
            rcases Int.lt_or_le (cmpT (keyP (aLy s) P x) (keyP (aLy s) P m)) 0 with q | q
            · exact q
            · exact absurd ((neg_iff hr).mpr (Int.not_lt.mpr q)) z
          rw [if_pos this] at hm2; exact hm2
theorem scrP {M0 M : RM} {i : Nat} {x : Int32} (h : mA M0 M) : mA M0 (upR M 13 i x) := h.up (by unfold scr; omega)
theorem s_layName_33 {post : Int32 → RM → Prop} {s : AS} {P : Nat → Nat} {t : Tx} {l : Nat} (hl : l < 4) (hPl : ∀ x, x < 4 → P x ≤ (aLy s x).length)
    (hp : ∀ M', rRep s M' → mT M' 1806 t → mP (aLy s) (stepP (aLy s) P t l) M' → post 1 M') : ∀ n x M, x + n = l + 1 → rRep s M → mT M 1806 t → (∀ q, q < 4 → M 13 q = nI (if q < x then stepP (aLy s) P t l q else P q)) → w_layName_33 post (n + 1) (nI l) (nI x) M := by
  intro n
  induction n with
  | zero =>
    intro x M hx hR hT hq
    rw [w_layName_33]
    refine ⟨fun _ => hp M hR hT (fun q hq4 => ⟨?_, ?_⟩), fun z => absurd (nI_lt (by omega) (by omega)) z⟩
    · rw [hq q hq4]
      by_cases h : q < x
      · rw [if_pos h]
      · rw [if_neg h]
        unfold stepP
        rw [if_neg (fun z => h (by omega))]
    · have := hPl q hq4
      unfold stepP; split <;> omega
  | succ n ih =>
    intro x M hx hR hT hq
    have hL := hR.2.2.1 x (by omega)
    have h40 := hL.1
    have p1 : M 13 x = nI (P x) := by rw [hq x (by omega), if_neg (by omega)]
    have p2 := hPl x (by omega)
    have nxt : ∀ (c : Nat) (v : Int32), P x + c = stepP (aLy s) P t l x → v = nI (x + 1) → w_layName_33 post (n + 1) (nI l) v (upR M 13 x (nI (P x) + nI c)) := by
      intro c v hc ev
      rw [ev]
      refine ih (x + 1) _ (by omega) (hR.still (scrP mA.rf)) (hT.congr fun j _ _ => by rw [upR_k _ _ _ (by decide)]) (fun q hq4 => ?_)
      rw [upR_13]
      by_cases h : q = x
      · subst h; rw [if_pos rfl, if_pos (by omega), nI_add, hc]
      · rw [if_neg h, hq q hq4]
        by_cases h2 : q < x
        · rw [if_pos h2, if_pos (by omega)]
        · rw [if_neg h2, if_neg (by omega)]
    rw [w_layName_33, nI_clamp (n := x) (by omega), hL.2.1, p1]
    refine ⟨fun z => absurd z (nI_nlt (by omega) (by omega)), fun _ => ⟨vp_in_nI (by omega) (by omega), vp_in_nI (by omega) (by omega), vp_in_nI (by omega) (by omega), fun z => ⟨vp_in_nI (by omega) (by omega), fun M14 e14 v ev => ?_⟩, fun z => ?_⟩⟩
    · have hle := (nI_leI (by omega) (by omega)).mp z
      rw [e14]
      refine nxt 0 v ?_ (by rw [ev, nI_1])
      unfold stepP
      rw [if_neg (fun z => by omega)]; rfl
    · have hlt : P x < (aLy s x).length := by
        rcases Nat.lt_or_ge (P x) (aLy s x).length with q | q
        · exact q
        · exact absurd (nI_le q (by omega)) z
      have hE := hL.e hlt
      have be := eA_b (l := x) (e := P x) (by omega) (by omega)
      refine ⟨vp_in_nI (by omega) (by omega), q_ent (s_compare (b := 1806) hE.1 hT (by omega) (by omega) (fun r hr => ⟨fun z => ⟨vp_in_nI (by omega) (by omega), fun M22 e22 v ev => ?_⟩, fun z => ⟨vp_in_nI (by omega) (by omega), fun M25 e25 v ev => ?_⟩⟩))⟩
      · rw [e22]
        refine nxt 0 v ?_ (by rw [ev, nI_1])
        unfold stepP
        rw [if_neg (fun q => z (toInt0.mpr (by rw [hr]; exact cmpT_eq.mpr q.2.2)))]; rfl
      · rw [e25]
        refine nxt 1 v ?_ (by rw [ev, nI_1])
        unfold stepP
        rw [if_pos ⟨by omega, hlt, cmpT_zero _ _ (hr.symm.trans (toInt0.mp z))⟩]
theorem s_layName {post : Int32 → RM → Prop} {s : AS} {M : RM} {P : Nat → Nat} {l : Nat} (hR : rRep s M) (hl : l < 4) (hP : mP (aLy s) P M) (h0 : minF (aLy s) P l = none → post 0 M)
    (h1 : ∀ t, minF (aLy s) P l = some t → ∀ M', rRep s M' → mT M' 1806 t → mP (aLy s) (stepP (aLy s) P t l) M' → post 1 M') : w_layName post (nI l) M := by
  rw [w_layName, w_leastLayer]
  refine ⟨l + 2, s_leastLayer_5 hR hl hP (fun b hb hm => ?_) (l + 1) 0 none (by omega) (fun m h => absurd h (by simp)) rfl⟩
  cases b with
  | none => exact ⟨fun z => absurd rfl z, fun _ => h0 hm.symm⟩
  | some m =>
    obtain ⟨b1, b2⟩ := hb m rfl
    have hLm := hR.2.2.1 m (by omega)
    have h40m := hLm.1
    obtain ⟨m1, m2⟩ := hP m (by omega)
    have hEm := hLm.e b2
    have bm := eA_b (l := m) (e := P m) (by omega) (by omega)
    have hne : ¬ fI (some m) = -5 := fun q => absurd ((fI_none (o := some m) (fun p' hp => by obtain rfl := Option.some.inj hp; omega)).mp q) (by simp)
    have hm' : minF (aLy s) P l = some (keyP (aLy s) P m) := hm.symm
    refine ⟨fun _ => ⟨vp_in_nI (by omega) (by omega), ?_⟩, fun z => absurd z hne⟩
    show q_entryOf _ (nI m) (M 13 (nI m).toNatClampNeg)
    rw [nI_clamp (n := m) (by omega), m1]
    refine q_ent (s_copyText (o := some (keyP (aLy s) P m)) (dst := 1806) hEm.1 (by omega) (by omega) (by omega) (fun M6 h6 f6 => ⟨l + 2, ?_⟩))
    have hR6 : rRep s M6 := hR.still (mA.of f6 (fun z a b => scrKV z (by omega) (by omega)))
    exact s_layName_33 hl (fun x hx => (hP x hx).2) (h1 _ hm') (l + 1) 0 M6 (by omega) hR6 h6 (fun q hq => by rw [if_neg (by omega), f6.k (by decide)]; exact (hP q hq).1)
theorem s_toNames {post : RM → Prop} {s : AS} {M : RM} (hR : rRep s M) (hp : ∀ M', rRep s M' → mP (aLy s) (fun _ => 0) M' → post M') : w_toNames post M := by
  rw [w_toNames]
  refine ⟨5, ?_⟩
  have key : ∀ n x M1, x + n = 4 → rRep s M1 → (∀ q, q < x → M1 13 q = nI 0) → w_toNames_2 post (n + 1) (nI x) M1 := by
    intro n
    induction n with
    | zero =>
      intro x M1 hx h1 hq
      rw [w_toNames_2]
      exact ⟨fun _ => hp M1 h1 (fun q hq4 => ⟨hq q (by omega), Nat.zero_le _⟩), fun z => absurd (nI_le (a := 4) (by omega) (by omega)) z⟩
    | succ n ih =>
      intro x M1 hx h1 hq
      rw [w_toNames_2, nI_clamp (n := x) (by omega)]
      refine ⟨fun z => absurd z (nI_ge (b := 4) (by omega) (by decide)), fun _ => ⟨vp_in_nI (by omega) (by omega), fun M4 e4 v ev => ?_⟩⟩
      rw [ev, nI_1]
      refine ih (x + 1) M4 (by omega) (by rw [e4]; exact h1.still (scrP mA.rf)) (fun q hq' => ?_)
      rw [e4, upR_13]
      by_cases h : q = x
      · subst h; rw [if_pos rfl]; rfl
      · rw [if_neg h]; exact hq q (by omega)
  exact key 4 0 M (by omega) hR (fun q h => absurd h (by omega))
theorem r_names {post : Int32 → RM → Prop} {s : AS} {M : RM} (x : Int32) (hR : rRep s M) (hp : ∀ M', rRep (op_names x s).2 M' → post (op_names x s).1 M') : w_names post x M := by
  rw [w_names]
  refine s_isLayer x (fun e => ⟨fun q => absurd rfl q, fun _ => ?_⟩) (fun l hl hx e => ⟨fun _ => ?_, fun q => absurd q (by decide)⟩)
  · simp only [op_names, e] at hp; exact hp M hR
  subst hx
  simp only [op_names, e] at hp
  refine s_toNames hR (fun M3 h3 p3 => ⟨161, ?_⟩)
  have key : ∀ n c P M1, mzF (aLy s) P l ≤ n → rRep s M1 → mP (aLy s) P M1 → c + namesF (aLy s) l n P = namesF (aLy s) l 160 (fun _ => 0) → w_names_15 post (n + 1) (nI l) (nI c) M1 := by
    intro n
    induction n with
    | zero =>
      intro c P M1 hz h1 p1 he
      rw [w_names_15]
      refine s_layName h1 hl p1 (fun _ => ⟨fun _ => ?_, fun z => absurd rfl z⟩) (fun t ht => absurd (mzF_lt hl ht) (by omega))
      have : c = namesF (aLy s) l 160 (fun _ => 0) := he
      rw [this]; exact hp M1 h1
    | succ n ih =>
      intro c P M1 hz h1 p1 he
      rw [w_names_15]
      refine s_layName h1 hl p1 (fun hm => ⟨fun _ => ?_, fun z => absurd rfl z⟩) (fun t ht M5 h5 _ p5 => ⟨fun z => absurd z (by decide), fun _ v ev => ?_⟩)
      · have : c = namesF (aLy s) l 160 (fun _ => 0) := by
          rw [← he]; unfold namesF; rw [hm]; rfl
        rw [this]; exact hp M1 h1
      · rw [ev, nI_1]
        refine ih (c + 1) _ M5 (by have := mzF_lt hl ht; omega) h5 p5 ?_
        have e9 : namesF (aLy s) l (n + 1) P = namesF (aLy s) l n (stepP (aLy s) P t l) + 1 := by rw [namesF, ht]
        rw [← he, e9]
        omega
  exact key 160 0 _ M3 (mz160 (fun j hj => (hR.2.2.1 j hj).1)) h3 p3 (by omega)
theorem r_name {post : Int32 → RM → Prop} {s : AS} {M : RM} (x y z : Int32) (hR : rRep s M) (hp : ∀ M', rRep (op_name x y z s).2 M' → post (op_name x y z s).1 M') : w_name post x y z M := by
  rw [w_name]
  refine s_isLayer x (fun e => ⟨fun _ => ?_, fun q => absurd rfl q⟩) (fun l hl hx e => ⟨fun q => absurd q (by decide), fun _ => ?_⟩)
  · simp only [op_name, e] at hp; exact hp M hR
  subst hx
  refine s_isSlot z (fun ez => ⟨fun q => absurd rfl q, fun _ => ?_⟩) (fun i hi hz ez => ⟨fun _ => ⟨fun hy => ?_, fun hy => ?_⟩, fun q => absurd q (by decide)⟩)
  · simp only [op_name, e, ez] at hp; exact hp M hR
  · subst hz
    simp only [op_name, e, ez] at hp
    have hy0 : ¬ y < 0 := fun q => by
      have a := Int32.lt_iff_toInt_lt.mp q
      have b := Int32.le_iff_toInt_le.mp hy
      omega
    obtain ⟨j, hj, rfl⟩ := nI_of hy0
    have hp2 : (nameF (aLy s) l j (fun _ => 0) = none → post (-5) M) ∧ (∀ M', rRep s M' → nameF (aLy s) l j (fun _ => 0) = none → post (-5) M') ∧ (∀ t M', nameF (aLy s) l j (fun _ => 0) = some t → rRep (sSl s i (some t)) M' → post (nI t.length) M') := by
      rcases ixO_cases (nI j) (n := 160) (by omega) with ⟨e1, h⟩ | ⟨j', hj', hjj, e1⟩
      · simp only [e1] at hp
        have h160 : 160 ≤ j := by
          rcases h with h | h
          · exact absurd h hy0
          · exact (nI_leI (by omega) hj).mp h
        have hn := nameF_none (ly := aLy s) hl j (fun _ => 0) (Nat.le_trans (mz160 (fun j hj => (hR.2.2.1 j hj).1)) h160)
        exact ⟨fun _ => hp M hR, fun M' h' _ => hp M' h', fun t M' q => absurd (hn.symm.trans q) (by simp)⟩
      · have : j = j' := (nI_eq hj (by omega)).mp hjj
        subst this
        simp only [e1] at hp
        refine ⟨fun q => ?_, fun M' h' q => ?_, fun t M' q h' => ?_⟩
        · simp only [q] at hp; exact hp M hR
        · simp only [q] at hp; exact hp M' h'
        · simp only [q] at hp; exact hp M' h'
    refine s_toNames hR (fun M3 h3 p3 => ⟨j + 1, ?_⟩)
    have key : ∀ n c P M1, c + n = j → rRep s M1 → mP (aLy s) P M1 → nameF (aLy s) l n P = nameF (aLy s) l j (fun _ => 0) → w_name_30 post (n + 1) (nI l) (nI j) (nI i) (nI c) M1 := by
      intro n
      induction n with
      | zero =>
        intro c P M1 hc h1 p1 he
        have he' : minF (aLy s) P l = nameF (aLy s) l j (fun _ => 0) := he
        have : c = j := by omega
        subst this
        rw [w_name_30]
        refine s_layName h1 hl p1 (fun hm => ⟨fun _ => hp2.2.1 M1 h1 (he'.symm.trans hm), fun z => absurd rfl z⟩) (fun t ht M8 h8 t8 p8 => ⟨fun z => absurd z (by decide), fun _ => ⟨fun z => absurd rfl z, fun _ => s_at ?_⟩⟩)
        refine s_copyText (o := some t) (src := 1806) t8 (by omega) (by omega) (by omega) (fun M14 h14 f14 => ⟨vp_in_nI (n := 1806) (by omega) (by omega), ?_⟩)
        have e14 : M14 1 (1806 : Int32).toNatClampNeg = nI t.length := (t8.frame f14 (by omega)).2.1
        rw [e14]
        exact hp2.2.2 t M14 (he'.symm.trans ht) (h8.slot hi f14 h14)
      | succ n ih =>
        intro c P M1 hc h1 p1 he
        rw [w_name_30]
        refine s_layName h1 hl p1 (fun hm => ⟨fun _ => hp2.2.1 M1 h1 ?_, fun z => absurd rfl z⟩) (fun t ht M8 h8 t8 p8 => ⟨fun z => absurd z (by decide), fun _ => ⟨fun _ v ev => ?_, fun z => ?_⟩⟩)
        · rw [← he]; unfold nameF; rw [hm]
        · rw [ev, nI_1]
          refine ih (c + 1) _ M8 (by omega) h8 p8 ?_
          rw [← he]
          show _ = nameF (aLy s) l (n + 1) P
          conv => rhs; unfold nameF
          rw [ht]
        · have := (nI_eq (by omega) (by omega)).mp z
          omega
    exact key j 0 _ M3 (by omega) h3 p3 rfl
  · simp only [op_name, e, ez] at hp
    have hy0 : y < 0 := by
      have b : ¬ (0 : Int32).toInt ≤ y.toInt := fun q => hy (Int32.le_iff_toInt_le.mpr q)
      exact Int32.lt_iff_toInt_lt.mpr (by omega)
    have e1 : ixO y 160 = none := if_pos (Or.inl hy0)
    simp only [e1] at hp
    exact hp M hR
