/-! THE CLASS: load -/
section CREP
variable {u : hU} {d : Nat} {mm : List Nat} {ad : Nat → Nat} {lv : Nat → Prop} {s : AS} {S : hS} {N N' : Nat} {t' : Tx} {f l k v : Int32} {g : Nat → Int32} {T : Tx} {Lt : Ly}
/-- the trial layer alone changes -/
theorem cTp.trial {S' : hS} {L : Ly} (h : cTp u d mm ad lv s Lt N t' N' S f l k v g) (h1 : ly1 mm ad lv 12 S S') (hL : layC u mm S' ad lv 12 L) : cTp u d mm ad lv s L N t' N' S' f l k v g := by
  obtain ⟨⟨h0, hw, k1, k2, k3, k4, k5, k6, k7, k8⟩, hD, -⟩ := h
  have hs := h1.2
  have no : ∀ (P : Nat → Prop) (c : Nat), False → ¬ P c := fun _ _ z => absurd z (fun z => z)
  have hc : ∀ c, (c = 20 + 12 ∨ c = 40 + 12) → c = 32 ∨ c = 52 := fun c z => by omega
  exact ⟨⟨h0, h1.1, k1.keep hs (no _) (by omega), k2.keep hs (fun c z => by have := hc c z; omega), k3.keep hs (no _) (fun c z => by have := hc c z; omega), k4.keep hs (no _) (fun c z => by have := hc c z; omega), ⟨L, hL⟩, k6.keep hs (no _) (fun c z => by have := hc c z; omega), k7.keep hs (no _) (fun c z => by have := hc c z; omega), k8.keep hs (no _) (fun c z => by have := hc c z; omega)⟩, hD.keep hs (no _) (fun c z => by have := hc c z; omega), hL⟩
theorem c_load94 {post : Int32 → hS → Prop} {j mc ms : Nat} {x3 : Int32} (h : cTp u d mm ad lv s Lt N t' N' S f l k v g) (hj : j < 4) (hp : ∀ S', cRep u d (sLy s j Lt) S' → post x3 S') : w_X9_load_94 u post d (ad (20 + j)) x3 S mc ms := by
  have hL := h.1.ly hj
  rw [w_X9_load_94]
  exact ⟨_, h.dt.2, ⟨_, hL.o h.1.2.1⟩, c_takeAll (j' := 12) hL h.2.2 h.1.2.1 (by omega) (fun S' h1 h2 => hp S' ⟨mm, ad, lv, h.1.layer hj h1 h2⟩)⟩
theorem c_load44 {post : Int32 → hS → Prop} {j : Nat} (hj : j < 4) (ad : Nat → Nat) {L0 : Ly} (h300 : (aTp s).length ≤ 300) (hfull : putsF (aTp s) (entsA (aTp s)) L0 = none → ∀ S', cRep u d s S' → post (-3) S') (hok : ∀ L', putsF (aTp s) (entsA (aTp s)) L0 = some L' → ∀ S', cRep u d (sLy s j L') S' → post (nI (entsA (aTp s)).length) S') :
    ∀ n R c pc mm1 ad1 t1 S1 f1 k1 v1 g1 Lc mc ms, R.length < n → c + R.length ≤ 300 → cTp u d mm1 ad1 lv s Lc N t1 N' S1 f1 (nI pc) k1 v1 g1 → pc ≤ (aTp s).length + 1 → rE (aTp s) pc R → (∀ c, c ≠ 5 → ad1 c = ad c) → (∀ pl ∈ R, fitE (aTp s) pl N') → 5 * wtR R ≤ 2 * mc → 6 * wtR R ≤ ms → putsF (aTp s) R Lc = putsF (aTp s) (entsA (aTp s)) L0 → c + R.length = (entsA (aTp s)).length → w_X9_load_44 u post d n (ad (20 + j)) (nI c) S1 mc ms := by
  intro n
  induction n with
  | zero => intro R c pc mm1 ad1 t1 S1 f1 k1 v1 g1 Lc mc ms a1; omega
  | succ n ih =>
    intro R c pc mm1 ad1 t1 S1 f1 k1 v1 g1 Lc mc ms a1 a2 hh hpc hRE ha hfit b1 b2 hpu hcn
    have e20 : ad1 (20 + j) = ad (20 + j) := ha _ (by omega)
    rw [w_X9_load_44]
    refine ⟨fun z => ?_, fun z => ⟨_, hh.dt.1, _, rfl, hh.fs, c_readEntry hh hpc hRE (fun hR S' f' l' k' v' g' hh' => ⟨fun _ => ?_, fun z => absurd rfl z⟩) (fun pl R' hR S' p' g' hh' hE hD hne hpl hRE' hp' => ⟨fun z => absurd z (by decide), fun _ => ⟨_, hh'.dt.2, _, hh'.dt.1, _, rfl, hh'.fs, ?_⟩⟩)⟩⟩
    · have := (nI_ltI (a := 300) (by omega) (by omega)).mp z
      omega
    · rw [hR] at hpu hcn
      rw [← e20]
      refine c_load94 hh' hj (fun S83 h83 => ?_)
      rw [show c = (entsA (aTp s)).length by simpa using hcn]
      exact hok Lc hpu.symm S83 h83
    · have hfp := hfit pl (by rw [hR]; simp)
      have hkl := kvP_len (T := aTp s) (pl := pl) (by omega) hD
      have hwR : wtR R = pl.length + 1 + wtR R' := by rw [hR]; rfl
      have hpos := List.length_pos_iff.mpr hne
      refine ⟨2, 4 + (kvP (aTp s) pl).1.length, by omega, by omega, ?_⟩
      refine c_keyText hh' hE (by omega) hD ⟨Nat.le_refl _, Nat.le_refl _⟩ (fun q => absurd hfp.1 (by omega)) (fun r49 S55 mm2 ad2 N2 hh2 ha2 hk2 hT2 _ he2 => ?_)
      have eN2 := he2 hfp.1
      subst eN2
      have e1 : ad2 1 = ad1 1 := ha2 1 (by omega)
      refine ⟨_, hh2.dt.1, _, rfl, hh2.fs, 2, 4 + (kvP (aTp s) pl).2.length, by omega, by omega, ?_⟩
      refine c_valueText hh2 hE (by omega) hD ⟨Nat.le_refl _, Nat.le_refl _⟩ (fun q => absurd hfp.2 (by omega)) (fun r60 S66 mm3 ad3 N3 hh3 ha3 hk3 hT3 _ he3 => ?_)
      have eN3 := he3 hfp.2
      subst eN3
      have e32 : ad3 (20 + 12) = ad1 32 := (ha3 32 (by omega)).trans (ha2 32 (by omega))
      have ha3' : ∀ c, c ≠ 5 → ad3 c = ad c := fun c hc => ((ha3 c hc).trans (ha2 c hc)).trans (ha c hc)
      have hL12 := hh3.2.2
      have hw3 := hh3.1.2.1
      refine ⟨_, rfl, ?_⟩
      rw [← e32]
      refine ⟨⟨_, hL12.o hw3⟩, 1, 2, by omega, by omega, c_put hh3.1.1.1 hL12 hw3 (Nat.le_refl _) (Nat.le_refl _) (hT2.kept hk3) (by omega) hT3 (by omega) (fun q => ⟨fun w => absurd rfl w, fun _ => ?_⟩) (fun q S75 h1 hL' => ⟨fun _ v78 e78 => ?_, fun w => absurd w (by decide)⟩)⟩
      · have q' : findF Lc (kvP (aTp s) pl).1 = none ∧ 40 ≤ Lc.length := q
        rw [hR, putsF, if_pos q'] at hpu
        exact hfull hpu.symm S66 ⟨_, _, _, hh3.1⟩
      · have q' : ¬ (findF Lc (kvP (aTp s) pl).1 = none ∧ 40 ≤ Lc.length) := q
        rw [hR, putsF, if_neg q'] at hpu
        rw [hR, List.length_cons] at a1 a2 hcn
        rw [e78, nI_1]
        have hh75 := hh3.trial h1 hL'
        exact ih R' (c + 1) p' mm3 ad3 _ S75 _ _ _ _ _ _ _ (by omega) (by omega) hh75 hp' hRE' ha3' (fun pl' hpl' => hfit pl' (by rw [hR]; simp [hpl'])) (by omega) (by omega) hpu (by omega)
theorem c_load {post : Int32 → hS → Prop} {mc ms : Nat} (hmc : 1150 ≤ mc) (hms : 13600 ≤ ms) (x : Int32) (hR : cRep u d s S) (hp : ∀ S', cRep u d (op_load x s).2 S' → post (op_load x s).1 S') : w_X9_load u post d x S mc ms := by
  obtain ⟨mm, ad, lv, h⟩ := id hR
  obtain ⟨lp, p1, p2⟩ := h.pl
  rw [w_X9_load]
  refine ⟨_, p1, _, rfl, p2.fs, c_layR x p2 (fun r hr => ⟨fun z => ?_, fun a z => ?_⟩)⟩
  · simp only [op_load, hr.nn z] at hp; exact hp S hR
  · obtain ⟨j, hj, hx, e, rfl⟩ := hr.sm z
    simp only [op_load, e] at hp
    obtain ⟨Lt, N, t', N', f, l, k, v, g, hT⟩ := h.full
    have h300 := hT.2.1.2.1.1
    refine ⟨h.fs, 360, 11720, by omega, by omega, c_firstBroken hT (Nat.le_refl _) (Nat.le_refl _) (fun S17 mm1 ad1 t2 N2 f' l' k' v' g' hh ha hfit => ?_)⟩
    cases hb : brkF (aTp s) (entsA (aTp s)) with
    | some b =>
      simp only [hb] at hp
      have hb300 : b < 300 := brk_lt h300 _ _ (by omega) hb
      exact ⟨fun z => absurd (show (-5 : Int32) < 0 by decide) (by rw [← z]; exact nI_pos (by omega)), fun _ => hp S17 ⟨_, _, _, hh.1⟩⟩
    | none =>
      simp only [hb] at hp
      refine ⟨fun _ => ?_, fun z => absurd rfl z⟩
      have hLj := hh.1.ly hj
      have e20 : ad1 (20 + j) = ad (20 + j) := ha _ (by omega)
      have hwt : wtR (entsA (aTp s)) + 0 ≤ (aTp s).length + 1 := ents_w _ _ (by omega)
      have hw2 := wt_len2 (entsA (aTp s)) (ents_ne _ _)
      rw [← e20]
      refine ⟨_, hh.dt.2, _, rfl, ⟨_, hh.2.2.o hh.1.2.1⟩, c_takeAll (j := 12) hh.2.2 hLj hh.1.2.1 (by omega) (fun S25 h1 hL => ?_)⟩
      have hh25 := hh.trial h1 hL
      refine ⟨_, hh25.dt.1, _, rfl, hh25.fs, c_rewind hh25 (fun S32 h32 => ⟨(entsA (aTp s)).length + 1, ?_⟩)⟩
      refine c_load44 (L0 := aLy s j) hj ad1 h300 (fun q S' h' => ?_) (fun L' q S' h' => ?_) _ (entsA (aTp s)) 0 0 mm1 ad1 t2 S32 _ _ _ _ (aLy s j) _ _ (by omega) (by omega) h32 (by omega) ⟨_, 0, Or.inl rfl, by omega, by omega, rfl⟩ (fun _ _ => rfl) (hfit hb) (by omega) (by omega) rfl (by omega)
      · simp only [q] at hp; exact hp S' h'
      · simp only [q] at hp; exact hp S' h'
end CREP
