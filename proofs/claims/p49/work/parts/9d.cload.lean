/-! THE CLASS: brokenAt, load -/
theorem keyQ1 {T : Tx} {pl : List Nat} {i : Nat} (hK : kvK T pl ≤ pl.length) (h1 : prD T pl i ∧ keyA (eX T pl) pl.length i = kvK T pl) (h2 : i < kvK T pl) (h3 : eX T pl i ≠ 92) : prD T pl (i + 1) ∧ keyA (eX T pl) pl.length (i + 1) = kvK T pl := by
  have hlt : i < pl.length := Nat.lt_of_lt_of_le h2 hK
  refine ⟨prD_1 h1.1 hlt h3, ?_⟩
  have hn : ¬ (eX T pl i = 61 ∨ eX T pl i = 58 ∨ isBl (eX T pl i) = true) := fun q => by
    have := h1.2; rw [keyA_end hlt q] at this; omega
  have := h1.2
  rw [keyA_st hlt hn, if_neg h3] at this
  exact this
theorem keyQ2 {T : Tx} {pl : List Nat} {i : Nat} (hK : kvK T pl ≤ pl.length) (h1 : prD T pl i ∧ keyA (eX T pl) pl.length i = kvK T pl) (h2 : i < kvK T pl) (h3 : eX T pl i = 92) : i + 1 < kvK T pl ∧ prD T pl (i + 2) ∧ keyA (eX T pl) pl.length (i + 2) = kvK T pl := by
  have hlt : i < pl.length := Nat.lt_of_lt_of_le h2 hK
  have hn : ¬ (eX T pl i = 61 ∨ eX T pl i = 58 ∨ isBl (eX T pl i) = true) := fun q => by
    have := h1.2; rw [keyA_end hlt q] at this; omega
  have h4 := h1.2
  rw [keyA_st hlt hn, if_pos h3] at h4
  have h5 : i + 2 ≤ keyA (eX T pl) pl.length (i + 2) := keyF_ge _ _
  exact ⟨by omega, (prD_2 h1.1 hlt h3).2, h4⟩
theorem kv_le {T : Tx} {pl : List Nat} : kvK T pl ≤ pl.length → kvK T pl ≤ kvV T pl := by
  intro h
  have b : ∀ i, i ≤ pl.length → i ≤ bkA (eX T pl) pl.length i := fun i hi => (scan_b hi).1
  have h1 := b _ h
  unfold kvV valA
  split
  · rename_i q
    have := b (bkA (eX T pl) pl.length (kvK T pl) + 1) (by omega)
    omega
  · exact h1
def wtR : List (List Nat) → Nat
  | [] => 0
  | pl :: R => pl.length + 1 + wtR R
theorem ent_w {T : Tx} {p : Nat} (h : p ≤ T.length) : (entF T p).1.length + p < (entF T p).2 ∨ ((entF T p).1 = [] ∧ p < (entF T p).2) := by
  have cw : ∀ n b p pl, p ≤ T.length + 1 → ∀ q0, pl.length + q0 < p → (contF T n b p pl).1.length + q0 < (contF T n b p pl).2 := by
    intro n
    induction n with
    | zero => intro b p pl _ q0 h; exact h
    | succ n ih =>
      intro b p pl hp q0 h
      unfold contF
      by_cases q : b = false ∨ T.length < p
      · rw [if_pos q]; exact h
      · rw [if_neg q]
        have hle : p ≤ T.length := by
          rcases Nat.lt_or_ge T.length p with c | c
          · exact absurd (Or.inr c) q
          · exact c
        have b1 : p ≤ endL T p ∧ endL T p ≤ T.length := scan_b hle
        have b2 : p ≤ firstL T p (endL T p) ∧ firstL T p (endL T p) ≤ endL T p := scan_b b1.1
        have b3 := nextL_b b1.2
        have b4 := lastL_b (T := T) b2.2
        have hlen : (pl ++ lineP T (firstL T p (endL T p)) (endL T p)).length = pl.length + (lastL T (firstL T p (endL T p)) (endL T p) - firstL T p (endL T p)) := by
          rw [List.length_append]; unfold lineP; rw [rg_len]
        exact ih _ _ _ b3.2 q0 (by rw [hlen]; omega)
  have b1 : p ≤ endL T p ∧ endL T p ≤ T.length := scan_b h
  have b2 : p ≤ firstL T p (endL T p) ∧ firstL T p (endL T p) ≤ endL T p := scan_b b1.1
  have b3 := nextL_b b1.2
  have b4 := lastL_b (T := T) b2.2
  unfold entF
  split
  · exact Or.inr ⟨rfl, by show p < nextL T (endL T p); omega⟩
  · have hlen : (lineP T (firstL T p (endL T p)) (endL T p)).length = lastL T (firstL T p (endL T p)) (endL T p) - firstL T p (endL T p) := by
      unfold lineP; rw [rg_len]
    exact Or.inl (cw _ _ _ _ b3.2 p (by rw [hlen]; omega))
theorem ents_w {T : Tx} : ∀ n p, p ≤ T.length + 1 → wtR (entsF T n p) + p ≤ T.length + 1
  | 0, p, h => by show 0 + p ≤ _; omega
  | n + 1, p, h => by
    rw [entsF]
    split
    · show 0 + p ≤ _; omega
    · have hle : p ≤ T.length := by omega
      have eb := ent_b hle
      have ew := ent_w hle
      have ih := ents_w (T := T) n (entF T p).2 eb.2.1
      split
      · omega
      · rename_i hn
        have ew' : (entF T p).1.length + p < (entF T p).2 := by
          rcases ew with q | q
          · exact q
          · exact absurd q.1 hn
        show (entF T p).1.length + 1 + wtR _ + p ≤ _
        omega
theorem wt_len : ∀ R : List (List Nat), R.length ≤ wtR R
  | [] => Nat.le_refl _
  | pl :: R => by
    have := wt_len R
    show R.length + 1 ≤ pl.length + 1 + wtR R
    omega
theorem ents_ne {T : Tx} : ∀ n p, ∀ pl ∈ entsF T n p, pl ≠ []
  | 0, p, pl, h => absurd h (by simp [entsF])
  | n + 1, p, pl, h => by
    rw [entsF] at h
    split at h
    · exact absurd h (by simp)
    · split at h
      · exact ents_ne n _ pl h
      · rename_i hn
        rcases List.mem_cons.mp h with q | q
        · rw [q]; exact hn
        · exact ents_ne n _ pl q
theorem wt_len2 : ∀ R : List (List Nat), (∀ pl ∈ R, pl ≠ []) → 2 * R.length ≤ wtR R
  | [], _ => Nat.le_refl _
  | pl :: R, h => by
    have := wt_len2 R (fun q hq => h q (by simp [hq]))
    have h1 := List.length_pos_iff.mpr (h pl (by simp))
    show 2 * (R.length + 1) ≤ pl.length + 1 + wtR R
    omega
/-- key and value of an entry fit into a row -/
def fitE (T : Tx) (pl : List Nat) (N : Nat) : Prop := (kvP T pl).1.length ≤ N ∧ (kvP T pl).2.length ≤ N
theorem kvP_len {T : Tx} {pl : List Nat} (h3 : pl.length ≤ 300) (hD : prD T pl 0) : (kvP T pl).1.length + (kvP T pl).2.length ≤ pl.length := by
  have k1 := (keyA_b (T := T) (pl := pl) (pl.length + 1) 0 (by omega) (by omega) hD).1
  have k1' : kvK T pl ≤ pl.length := k1
  have l1 : (kvP T pl).1.length ≤ [].length + (kvK T pl - 0) := decG_len2 _ _ _
  have l2 : (kvP T pl).2.length ≤ [].length + (pl.length - kvV T pl) := decG_len2 _ _ _
  have := kv_le k1'
  simp at l1 l2
  omega
section CREP
variable {u : hU} {d : Nat} {mm : List Nat} {ad : Nat → Nat} {lv : Nat → Prop} {s : AS} {S : hS} {N N' : Nat} {t' : Tx} {f l k v : Int32} {g : Nat → Int32} {T : Tx} {Lt : Ly}
theorem cTp.len (h : cTp u d mm ad lv s Lt N t' N' S f l k v g) : t'.length ≤ N' := h.2.1.2.2.2.2.1.1.1
theorem c_keyText {post : Option Nat → hS → Prop} {pl : List Nat} {mc ms : Nat} (h : cTp u d mm ad lv s Lt N t' N' S (nI pl.length) l (nI (kvK (aTp s) pl)) v g) (hE : pE (aTp s) pl g) (h3 : pl.length ≤ 300) (hD : prD (aTp s) pl 0) (hm2 : 2 ≤ mc ∧ 4 + (kvP (aTp s) pl).1.length ≤ ms) (hm : N' < (kvP (aTp s) pl).1.length → 38 ≤ mc ∧ 1176 + (kvP (aTp s) pl).1.length ≤ ms)
    (hp : ∀ r S' mm' ad' N2, cTp u d mm' ad' lv s Lt N (kvP (aTp s) pl).1 N2 S' (nI pl.length) l (nI (kvK (aTp s) pl)) v g → (∀ c, c ≠ 5 → ad' c = ad c) → kp mm mm' S S' → tS u mm' S' r (kvP (aTp s) pl).1 → (N2 = N' ∨ 2 * N' + 2 ≤ N2) → ((kvP (aTp s) pl).1.length ≤ N' → N2 = N') → post (some r) S') : w_X7_keyText u post (ad 1) S mc ms := by
  obtain ⟨k1, k2⟩ := keyA_b (T := aTp s) (pl := pl) (pl.length + 1) 0 (by omega) (by omega) hD
  have k1' : kvK (aTp s) pl ≤ pl.length := k1
  rw [w_X7_keyText]
  refine ⟨_, h.o.i rfl, h.fs, mc - 2, ms - (4 + (kvP (aTp s) pl).1.length), by omega, by omega, ?_⟩
  refine c_unescape (i := 0) (Q := fun i => prD (aTp s) pl i ∧ keyA (eX (aTp s) pl) pl.length i = kvK (aTp s) pl) h hE h3 k1' (Nat.zero_le _) ⟨hD, rfl⟩ (fun i h1 h2 h3 => keyQ1 k1' h1 h2 h3) (fun i h1 h2 h3 => keyQ2 k1' h1 h2 h3) (fun q => ?_) (fun S9 mm' ad' N2 hh ha hk hor heq => ?_)
  · have := hm q; omega
  · have a1 : ad' 1 = ad 1 := ha 1 (by omega)
    have hw := hh.1.2.1
    rw [← a1]
    refine ⟨_, hh.o.r rfl, _, rfl, hh.2.1.2.2.2.2.1.fs, 2, 4 + (kvP (aTp s) pl).1.length, by omega, by omega, ?_⟩
    exact sb_toString (mm := mm') hh.2.1.2.2.2.2.1 hw.1 (Nat.le_refl _) (Nat.le_refl _) (fun r S20 hf hT => hp r S20 mm' ad' N2 (hh.still hf) ha (hk.tr (fx_kp0 hf)) hT hor heq)
theorem c_valueText {post : Option Nat → hS → Prop} {pl : List Nat} {mc ms : Nat} (h : cTp u d mm ad lv s Lt N t' N' S (nI pl.length) l k (nI (kvV (aTp s) pl)) g) (hE : pE (aTp s) pl g) (h3 : pl.length ≤ 300) (hD : prD (aTp s) pl 0) (hm2 : 2 ≤ mc ∧ 4 + (kvP (aTp s) pl).2.length ≤ ms) (hm : N' < (kvP (aTp s) pl).2.length → 38 ≤ mc ∧ 1176 + (kvP (aTp s) pl).2.length ≤ ms)
    (hp : ∀ r S' mm' ad' N2, cTp u d mm' ad' lv s Lt N (kvP (aTp s) pl).2 N2 S' (nI pl.length) l k (nI (kvV (aTp s) pl)) g → (∀ c, c ≠ 5 → ad' c = ad c) → kp mm mm' S S' → tS u mm' S' r (kvP (aTp s) pl).2 → (N2 = N' ∨ 2 * N' + 2 ≤ N2) → ((kvP (aTp s) pl).2.length ≤ N' → N2 = N') → post (some r) S') : w_X7_valueText u post (ad 1) S mc ms := by
  obtain ⟨k1, k2⟩ := keyA_b (T := aTp s) (pl := pl) (pl.length + 1) 0 (by omega) (by omega) hD
  have v1 := valA_b (T := aTp s) (pl := pl) k1 k2
  rw [w_X7_valueText]
  refine ⟨_, h.o.i rfl, _, h.o.i rfl, h.fs, mc - 2, ms - (4 + (kvP (aTp s) pl).2.length), by omega, by omega, ?_⟩
  refine c_unescape (Q := fun i => prD (aTp s) pl i) h hE h3 (Nat.le_refl _) v1.1 v1.2 (fun i h1 h2 h3 => prD_1 h1 h2 h3) (fun i h1 h2 h3 => prD_2 h1 h2 h3) (fun q => ?_) (fun S9 mm' ad' N2 hh ha hk hor heq => ?_)
  · have := hm q; omega
  · have a1 : ad' 1 = ad 1 := ha 1 (by omega)
    have hw := hh.1.2.1
    rw [← a1]
    refine ⟨_, hh.o.r rfl, _, rfl, hh.2.1.2.2.2.2.1.fs, 2, 4 + (kvP (aTp s) pl).2.length, by omega, by omega, ?_⟩
    exact sb_toString (mm := mm') hh.2.1.2.2.2.2.1 hw.1 (Nat.le_refl _) (Nat.le_refl _) (fun r S20 hf hT => hp r S20 mm' ad' N2 (hh.still hf) ha (hk.tr (fx_kp0 hf)) hT hor heq)
theorem c_brokenPlace {post : Int32 → hS → Prop} {pl : List Nat} {mc ms : Nat} (h : cTp u d mm ad lv s Lt N t' N' S (nI pl.length) l (nI (kvK (aTp s) pl)) (nI (kvV (aTp s) pl)) g) (hE : pE (aTp s) pl g) (h3 : pl.length ≤ 300) (hD : prD (aTp s) pl 0)
    (hm : fitE (aTp s) pl N' ∨ (72 ≤ mc ∧ 2344 ≤ ms))
    (hp : ∀ S' mm' ad' t2 N2, cTp u d mm' ad' lv s Lt N t2 N2 S' (nI pl.length) l (nI (kvK (aTp s) pl)) (nI (kvV (aTp s) pl)) g → (∀ c, c ≠ 5 → ad' c = ad c) → (N2 = N' ∨ 2 * N' + 2 ≤ N2) → (kvB (aTp s) pl = none → fitE (aTp s) pl N2) → post (fI (kvB (aTp s) pl)) S') : w_X7_brokenPlace u post (ad 1) S mc ms := by
  have h300 := h.2.1.2.1.1
  obtain ⟨k1, k2⟩ := keyA_b (T := aTp s) (pl := pl) (pl.length + 1) 0 (by omega) (by omega) hD
  have k1' : kvK (aTp s) pl ≤ pl.length := k1
  have v1 := valA_b (T := aTp s) (pl := pl) k1 k2
  rw [w_X7_brokenPlace]
  refine ⟨_, h.o.i rfl, h.fs, mc / 2, ms / 2, by omega, by omega, ?_⟩
  refine c_unescape (i := 0) (Q := fun i => prD (aTp s) pl i ∧ keyA (eX (aTp s) pl) pl.length i = kvK (aTp s) pl) h hE h3 k1' (Nat.zero_le _) ⟨hD, rfl⟩ (fun i h1 h2 h3 => keyQ1 k1' h1 h2 h3) (fun i h1 h2 h3 => keyQ2 k1' h1 h2 h3) (fun q => by rcases hm with w | w; exact absurd w.1 (by show ¬ (decA (eX (aTp s) pl) 0 (kvK (aTp s) pl)).2.length ≤ N'; omega); omega) (fun S9 mm1 ad1 N1 hh ha hk hor heq => ?_)
  have a1 : ad1 1 = ad 1 := ha 1 (by omega)
  cases hb : (decA (eX (aTp s) pl) 0 (kvK (aTp s) pl)).1 with
  | some b =>
    have hlt : b < kvK (aTp s) pl := decG_some _ _ _ hb
    have hb2 : kvB (aTp s) pl = some (pl.getD b 0) := by unfold kvB; rw [hb]
    have hlt2 := hE.at (i := b) (by omega)
    rw [hb2] at hp
    refine ⟨fun z => absurd (show (-5 : Int32) < 0 by decide) (by rw [← z]; exact nI_pos (by omega)), fun _ => hp S9 mm1 ad1 _ N1 hh ha hor (fun q => absurd q (by simp))⟩
  | none =>
    refine ⟨fun _ => ?_, fun z => absurd rfl z⟩
    rw [← a1]
    refine ⟨_, hh.o.i rfl, _, hh.o.i rfl, hh.fs, mc / 2, ms / 2, by omega, by omega, ?_⟩
    refine c_unescape (Q := fun i => prD (aTp s) pl i) hh hE h3 (Nat.le_refl _) v1.1 v1.2 (fun i h1 h2 h3 => prD_1 h1 h2 h3) (fun i h1 h2 h3 => prD_2 h1 h2 h3) (fun q => by rcases hm with w | w; exact absurd w.2 (by show ¬ (decA (eX (aTp s) pl) (kvV (aTp s) pl) pl.length).2.length ≤ N'; omega); omega) (fun S22 mm2 ad2 N2 hh2 ha2 hk2 hor2 heq2 => ?_)
    have hkv : kvB (aTp s) pl = (decA (eX (aTp s) pl) (kvV (aTp s) pl) pl.length).1.map (fun b => pl.getD b 0) := by unfold kvB; rw [hb]
    have e9 : fI (kvB (aTp s) pl) = brI pl (decA (eX (aTp s) pl) (kvV (aTp s) pl) pl.length).1 := by
      rw [hkv]
      cases (decA (eX (aTp s) pl) (kvV (aTp s) pl) pl.length).1 <;> rfl
    have := hp S22 mm2 ad2 _ N2 hh2 (fun c hc => (ha2 c hc).trans (ha c hc)) (by omega) (fun _ => ⟨?_, hh2.len⟩)
    · rw [e9] at this; exact this
    · have l1 : (kvP (aTp s) pl).1.length ≤ N1 := hh.len
      omega
theorem cR.full (h : cR u d mm ad lv s S) : ∃ Lt N t' N' f l k v g, cTp u d mm ad lv s Lt N t' N' S f l k v g := by
  obtain ⟨N, t', N', f, l, k, v, g, hT⟩ := h.2.2.2.2.1
  obtain ⟨L, h5⟩ := h.2.2.2.2.2.2.1
  exact ⟨L, N, t', N', f, l, k, v, g, h, hT, h5⟩
theorem cTp.dt (h : cTp u d mm ad lv s Lt N t' N' S f l k v g) : rR S d 10 1 (some (ad 1)) ∧ rR S d 10 3 (some (ad 32)) := by
  obtain ⟨sr, sg, lp, k1, -⟩ := h.1.dr
  exact ⟨k1.r rfl, k1.r rfl⟩
theorem c_rewind {post : hS → Prop} (h : cTp u d mm ad lv s Lt N t' N' S f l k v g) (hp : ∀ S', cTp u d mm ad lv s Lt N t' N' S' (nI 0) (nI 0) k v g → post S') : w_X7_rewind u post (ad 1) S := by
  rw [w_X7_rewind]
  refine ⟨_, h.o, by simp, fun S4 e4 => ?_⟩
  have h4 := h.set (l' := 0) (f' := f) (k' := k) (v' := v) e4
  exact ⟨_, h4.o, by simp, fun S8 e8 => hp S8 (h4.set (f' := 0) (l' := 0) (k' := k) (v' := v) e8)⟩
theorem c_firstBroken {post : Int32 → hS → Prop} {mc ms : Nat} (h : cTp u d mm ad lv s Lt N t' N' S f l k v g) (hmc : 360 ≤ mc) (hms : 11720 ≤ ms)
    (hp : ∀ S' mm' ad' t2 N2 f' l' k' v' g', cTp u d mm' ad' lv s Lt N t2 N2 S' f' l' k' v' g' → (∀ c, c ≠ 5 → ad' c = ad c) → (brkF (aTp s) (entsA (aTp s)) = none → ∀ pl ∈ entsA (aTp s), fitE (aTp s) pl N2) → post (fI (brkF (aTp s) (entsA (aTp s)))) S') : w_X9_firstBrokenPlace u post d S mc ms := by
  have h300 := h.2.1.2.1.1
  have hwt : wtR (entsA (aTp s)) + 0 ≤ (aTp s).length + 1 := ents_w _ _ (by omega)
  have hw2 := wt_len2 (entsA (aTp s)) (ents_ne _ _)
  rw [w_X9_firstBrokenPlace]
  refine ⟨_, h.dt.1, _, rfl, h.fs, c_rewind h (fun S6 h6 => ⟨(entsA (aTp s)).length + 1, ?_⟩)⟩
  have key : ∀ n R x pc mm1 ad1 t1 N1 S1 f1 k1 v1 g1 mc ms, R.length < n → x + R.length ≤ 300 → cTp u d mm1 ad1 lv s Lt N t1 N1 S1 f1 (nI pc) k1 v1 g1 → pc ≤ (aTp s).length + 1 → rE (aTp s) pc R → (∀ c, c ≠ 5 → ad1 c = ad c) → 72 * gD N1 ≤ mc → 2344 * gD N1 ≤ ms → brkF (aTp s) R = brkF (aTp s) (entsA (aTp s)) → (∀ pl ∈ entsA (aTp s), pl ∈ R ∨ fitE (aTp s) pl N1) → w_X9_firstBrokenPlace_9 u post d n (nI x) S1 mc ms := by
    intro n
    induction n with
    | zero => intro R x pc mm1 ad1 t1 N1 S1 f1 k1 v1 g1 mc ms a1; omega
    | succ n ih =>
      intro R x pc mm1 ad1 t1 N1 S1 f1 k1 v1 g1 mc ms a1 a2 hh hpc hRE ha b1 b2 hbr hfit
      rw [w_X9_firstBrokenPlace_9]
      refine ⟨fun z => ?_, fun z => ⟨_, hh.dt.1, _, rfl, hh.fs, c_readEntry hh hpc hRE (fun hR S' f' l' k' v' g' hh' => ⟨fun _ => ?_, fun z => absurd rfl z⟩) (fun pl R' hR S' p' g' hh' hE hD hne hpl hRE' hp' => ⟨fun z => absurd z (by decide), fun _ => ⟨_, hh'.dt.1, _, rfl, hh'.fs, ?_⟩⟩)⟩⟩
      · have := (nI_ltI (a := 300) (by omega) (by omega)).mp z
        omega
      · rw [hR] at hbr hfit
        have hbr' : none = brkF (aTp s) (entsA (aTp s)) := hbr
        have hfit' : ∀ pl ∈ entsA (aTp s), fitE (aTp s) pl N1 := fun pl hpl => by
          rcases hfit pl hpl with q | q
          · exact absurd q (by simp)
          · exact q
        rw [← hbr'] at hp
        exact hp S' mm1 ad1 t1 N1 f' l' k' v' g' hh' ha (fun _ => hfit')
      · have h16 := hh'.2.1.2.1.2.2.2
        have hkl := kvP_len (T := aTp s) (pl := pl) (by omega) hD
        have alloc : ∃ k n', k ≤ mc ∧ n' ≤ ms ∧ (fitE (aTp s) pl N1 ∨ (72 ≤ k ∧ 2344 ≤ n')) ∧ ∀ N2, (N2 = N1 ∨ 2 * N1 + 2 ≤ N2) → fitE (aTp s) pl N2 → 72 * gD N2 ≤ mc - k ∧ 2344 * gD N2 ≤ ms - n' := by
          by_cases hgr : fitE (aTp s) pl N1
          · refine ⟨0, 0, by omega, by omega, Or.inl hgr, fun N2 hor _ => ?_⟩
            rcases hor with q | q
            · rw [q]; exact ⟨b1, b2⟩
            · by_cases hg : N1 < 300
              · have := gD_lt (N := N1) (N' := N2) h16.1 hg q
                omega
              · have : gD N2 = 0 := by
                  unfold gD
                  rw [if_neg (by omega), if_neg (by omega), if_neg (by omega), if_neg (by omega), if_neg (by omega)]
                omega
          · have hg : N1 < 300 := by
              rcases Nat.lt_or_ge N1 300 with q | q
              · exact q
              · exact absurd ⟨by omega, by omega⟩ hgr
            have g1 := gD_lt (N := N1) (N' := 2 * N1 + 2) h16.1 hg (Nat.le_refl _)
            refine ⟨72, 2344, by omega, by omega, Or.inr ⟨Nat.le_refl _, Nat.le_refl _⟩, fun N2 hor hf2 => ?_⟩
            rcases hor with q | q
            · rw [q] at hf2; exact absurd hf2 hgr
            · have := gD_lt (N := N1) (N' := N2) h16.1 hg q
              omega
        obtain ⟨ka, na, hk, hn', hm, hnext⟩ := alloc
        refine ⟨ka, na, hk, hn', c_brokenPlace hh' hE (by omega) hD hm (fun S27 mm2 ad2 t2 N2 hh2 ha2 hor hft => ?_)⟩
        rw [hR, brkF] at hbr
        cases hb : kvB (aTp s) pl with
        | some b =>
          rw [hb] at hbr
          have hbr' : some b = brkF (aTp s) (entsA (aTp s)) := hbr
          rw [← hbr'] at hp
          have hb300 : b < 300 := brk_lt h300 _ _ (by omega) hbr'.symm
          refine ⟨fun z => absurd (show (-5 : Int32) < 0 by decide) (by rw [← z]; exact nI_pos (by omega)), fun _ => hp S27 mm2 ad2 t2 N2 _ _ _ _ _ hh2 (fun c hc => (ha2 c hc).trans (ha c hc)) (fun q => absurd q (by simp))⟩
        | none =>
          rw [hb] at hbr
          have hbr' : brkF (aTp s) R' = brkF (aTp s) (entsA (aTp s)) := hbr
          refine ⟨fun _ v30 e30 => ?_, fun z => absurd rfl z⟩
          have hft' := hft hb
          have hx := hnext N2 hor hft'
          rw [hR, List.length_cons] at a1 a2
          rw [e30, nI_1]
          refine ih R' (x + 1) p' mm2 ad2 t2 N2 S27 _ _ _ _ _ _ (by omega) (by omega) hh2 hp' hRE' (fun c hc => (ha2 c hc).trans (ha c hc)) hx.1 hx.2 hbr' (fun pl' hpl' => ?_)
          rcases hfit pl' hpl' with q | q
          · rw [hR] at q
            rcases List.mem_cons.mp q with w | w
            · rw [w]; exact Or.inr hft'
            · exact Or.inl w
          · exact Or.inr ⟨by have := q.1; omega, by have := q.2; omega⟩
  have g5 := gD_le N'
  exact key _ (entsA (aTp s)) 0 0 mm ad t' N' S6 _ _ _ _ mc ms (by omega) (by omega) h6 (by omega) ⟨_, 0, Or.inl rfl, by omega, by omega, rfl⟩ (fun _ _ => rfl) (by omega) (by omega) rfl (fun pl hpl => Or.inl hpl)
theorem c_brokenAt {post : Int32 → hS → Prop} {mc ms : Nat} (hmc : 1100 ≤ mc) (hms : 13600 ≤ ms) (hR : cRep u d s S) (hp : ∀ S', cRep u d (op_brokenAt s).2 S' → post (op_brokenAt s).1 S') : w_X9_brokenAt u post d S mc ms := by
  obtain ⟨mm, ad, lv, h⟩ := id hR
  obtain ⟨Lt, N, t', N', f, l, k, v, g, hT⟩ := h.full
  rw [w_X9_brokenAt]
  refine ⟨h.fs, mc, ms, Nat.le_refl _, Nat.le_refl _, c_firstBroken hT (by omega) (by omega) (fun S' mm' ad' t2 N2 f' l' k' v' g' hh _ _ => ?_)⟩
  unfold op_brokenAt at hp
  cases hb : brkF (aTp s) (entsA (aTp s)) with
  | none => rw [hb] at hp; exact hp S' ⟨_, _, _, hh.1⟩
  | some b => rw [hb] at hp; exact hp S' ⟨_, _, _, hh.1⟩
end CREP
