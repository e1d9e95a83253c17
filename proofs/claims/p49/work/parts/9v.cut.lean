/-! THE LAW, pure: tokens -/
section CREP
variable {u : hU} {d : Nat} {s : AS} {S : hS}
theorem l_hasNone {post : Int32 → Prop} {a b : Nat} {w : Tx} (ha : a < 256) (hb : b < 256) (ht : aSl s 3 = some w) (hw : 0 < w.length) (hc : ∀ x ∈ w, x < 256 ∧ x ≠ a ∧ x ≠ b) (hR : cRep u d s S) (hp : post 1) : w_L_hasNone u post (some d) 3 (nI a) (nI b) S := by
  have hl := hR.len (by omega) ht
  have key : ∀ (j k : Nat), k + j = w.length → w_L_hasNone_18 u post (j + 1) d 3 (nI a) (nI b) 1 (nI k) S := by
    intro j
    induction j with
    | zero =>
      intro k hk
      have e : k = w.length := by omega
      subst e
      rw [w_L_hasNone_18]
      exact ⟨hR.o, z_length (i := 3) (by omega) ht hR (cT (nI_le (Nat.le_refl _) (by omega)) ⟨by decide, hp⟩)⟩
    | succ j ih =>
      intro k hk
      have hlt : k < w.length := by omega
      have hm : w.getD k 0 ∈ w := by
        rw [List.getD_eq_getElem?_getD, List.getElem?_eq_getElem hlt]; exact List.getElem_mem hlt
      obtain ⟨c1, c2, c3⟩ := hc _ hm
      rw [w_L_hasNone_18]
      refine ⟨hR.o, z_length (i := 3) (by omega) ht hR (cF (nI_ge hlt (by omega)) (cF (by decide) ⟨hR.o, z_characterAt (i := 3) (by omega) ht hlt (by omega) hR (cF ?_ ⟨hR.o, z_characterAt (i := 3) (by omega) ht hlt (by omega) hR (cF ?_ (fun v e => ?_))⟩)⟩))⟩
      · exact fun z => c2 ((nI_eqv (by omega) (by omega)).mp z)
      · exact fun z => c3 ((nI_eqv (by omega) (by omega)).mp z)
      · rw [e, nI_1]; exact ih (k + 1) (by omega)
  rw [w_L_hasNone]
  exact ⟨d, rfl, hR.o, z_length (i := 3) (by omega) ht hR (cF (nI_nle hw (by omega)) ⟨w.length + 1, key w.length 0 (by omega)⟩)⟩
/-- the tokens without delimiters -/
theorem l_cut261 {post : Int32 → hS → Prop} {t e : Tx} {a b n : Nat} {np ne : Int32} {ly : Nat → Ly} (ha : a < 256) (hb : b < 256) (he : e = [a, b]) (hc : ∀ x ∈ t, x < 256) (hn : cntA t e false 0 ≤ n) (hn2 : n ≤ 300)
    (hp : ∀ s' S', cRep u d s' S' → aLy s' = ly → aNp s' = np → aNe s' = ne → post 1 S') :
    ∀ (j k p : Nat) (s : AS) (S : hS) (mc ms : Nat), k + j = cntA t e false 0 → cntA t e false p = j → p ≤ t.length → 1150 * j ≤ mc → 13600 * j ≤ ms → aTk s 1 = some (t, e, false, p) → aLy s = ly → aNp s = np → aNe s = ne → cRep u d s S →
      w_L_cut_261 u post (j + 1) d (nI a) (nI b) 1 (nI n) (nI (cntA t e false 0)) (nI k) S mc ms := by
  intro j
  induction j with
  | zero =>
    intro k p s S mc ms hk hj hpl h1 h2 hT i1 i2 i3 hR
    have e0 : k = cntA t e false 0 := by omega
    subst e0
    have hb0 : ¬ begF t e false p < t.length := fun z => by have := cntA_pos.mpr z; omega
    rw [w_L_cut_261]
    refine cT (nI_le (Nat.le_refl _) (by omega)) ?_
    rw [w_L_cut_319]
    refine cF (by decide) (cF (nI_pos (by omega)) (cF (nI_nlt hn (by omega)) ⟨hR.o, z_more (i := 1) (by omega) hT hR ?_⟩))
    rw [if_neg hb0]
    exact dT rfl (hp s S hR i1 i2 i3)
  | succ j ih =>
    intro k p s S mc ms hk hj hpl h1 h2 hT i1 i2 i3 hR
    have hb1 : begF t e false p < t.length := cntA_pos.mp (by omega)
    have hb2 := begF_le (d := e) (r := false) hpl
    have he1 := endF_le (d := e) hb1
    have hs := cntA_s hb1
    rw [w_L_cut_261]
    refine cF (nI_ge (by omega) (by omega)) (cF (by decide) ⟨hR.o, z_count (i := 1) (by omega) hT hR (dT ?_ ⟨hR.o, 1150, 13600, by omega, by omega, ?_⟩)⟩)
    · rw [pk_sub (by omega)]; exact congrArg nI (by omega)
    · refine z_next (i := 1) (j := 3) (by omega) (by omega) (by omega) (by omega) hT hb1 hR (fun S1 r1 => ?_)
      have q3 : aSl (sTk (sSl s 3 (some ((t.drop (begF t e false p)).take (endF t e (begF t e false p) - begF t e false p)))) 1 (some (t, e, false, endF t e (begF t e false p)))) 3 = some ((t.drop (begF t e false p)).take (endF t e (begF t e false p) - begF t e false p)) := sl_self s 3 _
      have wl : ((t.drop (begF t e false p)).take (endF t e (begF t e false p) - begF t e false p)).length = endF t e (begF t e false p) - begF t e false p := by rw [List.length_take, List.length_drop]; omega
      have l300 := r1.len (by omega) q3
      rw [wl] at l300
      refine cF (nI_nle (by omega) (by omega)) (l_hasNone ha hb q3 (by omega) (fun x hx => ⟨hc x (List.mem_of_mem_drop (List.mem_of_mem_take hx)), ?_, ?_⟩) r1 (cF (by decide) (fun v ev => ?_)))
      · rintro rfl
        exact tok_no hpl hb1 x hx (by rw [he]; simp)
      · rintro rfl
        exact tok_no hpl hb1 x hx (by rw [he]; simp)
      · rw [ev, nI_1]
        exact ih (k + 1) _ _ S1 _ _ (by omega) (by omega) he1.2 (by omega) (by omega) (by rfl) (by exact i1) (by exact i2) (by exact i3) r1
/-- the tokens with their delimiters -/
theorem l_cut119 {post : Int32 → hS → Prop} {t e : Tx} {a b : Nat} {np ne : Int32} {ly : Nat → Ly} (ha : a < 256) (hb : b < 256) (he : e = [a, b]) (hc : ∀ x ∈ t, x < 256) (ht0 : 0 < t.length) (ht17 : t.length ≤ 17)
    (hp : ∀ s' S', cRep u d s' S' → aLy s' = ly → aNp s' = np → aNe s' = ne + 1 → post 1 S') :
    ∀ (j k p : Nat) (s : AS) (S : hS) (mc ms : Nat), k + j = cntA t e true 0 → cntA t e true p = j → p ≤ t.length → cntA t e true 0 ≤ 17 → 2300 * j + 23000 ≤ mc → 27200 * j + 272000 ≤ ms → aTk s 0 = some (t, e, true, p) → aSl s 0 = some t → aSl s 1 = some e → aJn s 0 = some ([], [], [], if p = 0 then none else some (t.take p), none) → aLy s = ly → aNp s = np → aNe s = ne → cRep u d s S →
      w_L_cut_119 u post (j + 1) d (nI a) (nI b) 1 (nI (cntA t e true 0)) (nI k) S mc ms := by
  intro j
  induction j with
  | zero =>
    intro k p s S mc ms hk hj hpl hn17 h1 h2 hT q0 q1 hJ i1 i2 i3 hR
    have e0 : k = cntA t e true 0 := by omega
    subst e0
    have hb0 : ¬ begF t e true p < t.length := fun z => by have := cntA_pos.mpr z; omega
    have hpe : p = t.length := by
      have : begF t e true p = p := rfl
      omega
    have hJ2 : aJn s 0 = some ([], [], [], some t, none) := by rw [hJ, if_neg (by omega), hpe, List.take_length]
    have hm := cnt_le (t := t) (d := e) t.length 0 (by omega)
    rw [w_L_cut_119]
    refine cT (nI_le (Nat.le_refl _) (by omega)) ?_
    rw [w_L_cut_184]
    refine cF (by decide) ⟨hR.o, z_more (i := 0) (by omega) hT hR ?_⟩
    rw [if_neg hb0]
    refine dT rfl ⟨hR.o, 1150, 13600, by omega, by omega, z_joined (i := 0) (j := 4) (by omega) (by omega) (by omega) (by omega) hJ2 hR (fun S1 r1 => ⟨r1.o, ?_⟩)⟩
    have p0 : aSl (sSl s 4 (some t)) 0 = some t := (sl_ne _ _ (by decide)).trans q0
    have p1 : aSl (sSl s 4 (some t)) 1 = some e := (sl_ne _ _ (by decide)).trans q1
    refine z_length (i := 0) (by omega) p0 r1 (dT rfl ⟨r1.o, z_same (i := 0) (j := 4) (by omega) (by omega) (p0.trans (sl_self _ _ _).symm) r1 (dT rfl ⟨r1.o, 1150, 13600, by omega, by omega, ?_⟩)⟩)
    refine z_next0 (i := 0) (j := 3) (t := t) (e := e) (r := true) (p := p) (by omega) (by omega) (by omega) (by omega) (by exact hT) hb0 r1 (fun S2 r2 => dT rfl ⟨r2.o, z_more0 (i := 0) (by omega) (by rfl) r2 (dT rfl ?_)⟩)
    rw [w_L_cut_247]
    refine ⟨r2.o, 1150, 13600, by omega, by omega, z_tokenizeBy (i := 1) (j := 0) (k := 1) (t := t) (e := e) (by omega) (by omega) (by omega) (by omega) (by omega) (by exact p0) (by exact p1) r2 (fun S3 r3 => ⟨cntA t e false 0 + 1, ?_⟩)⟩
    exact l_cut261 (ne := ne + 1) ha hb he hc hm (by omega) hp (cntA t e false 0) 0 0 _ S3 _ _ (by omega) rfl (by omega) (by omega) (by omega) (by rfl) (by exact i1) (by exact i2) (by exact congrArg (fun x => x + 1) i3) r3
  | succ j ih =>
    intro k p s S mc ms hk hj hpl hn17 h1 h2 hT q0 q1 hJ i1 i2 i3 hR
    have hb1 : begF t e true p < t.length := cntA_pos.mp (by omega)
    have hbe : begF t e true p = p := rfl
    have he1 := endF_le (d := e) hb1
    have hs := cntA_s hb1
    rw [hbe] at hb1 he1 hs
    rw [w_L_cut_119]
    refine cF (nI_ge (by omega) (by omega)) (cF (by decide) ⟨hR.o, z_count (i := 0) (by omega) hT hR (dT ?_ ⟨hR.o, z_more (i := 0) (by omega) hT hR ?_⟩)⟩)
    · rw [pk_sub (by omega)]; exact congrArg nI (by omega)
    · rw [if_pos (show begF t e true p < t.length from hb1)]
      refine dT rfl ⟨hR.o, 1150, 13600, by omega, by omega, z_next (i := 0) (j := 3) (by omega) (by omega) (by omega) (by omega) hT hb1 hR (fun S1 r1 => ?_)⟩
      rw [hbe] at r1 ⊢
      have tk : (t.drop p).take (endF t e p - p) = (t.take (endF t e p)).drop p := by rw [List.drop_take]
      have el : elF [] ((t.drop p).take (endF t e p - p)) (if p = 0 then none else some (t.take p)) = t.take (endF t e p) := by
        by_cases z : p = 0
        · rw [if_pos z, z]; simp [elF]
        · rw [if_neg z]
          show t.take p ++ [] ++ (t.drop p).take (endF t e p - p) = _
          rw [List.append_nil, tk]
          have h3 : t.take p = (t.take (endF t e p)).take p := by rw [List.take_take, Nat.min_eq_left (by omega)]
          rw [h3, List.take_append_drop]
      have ell : (t.take (endF t e p)).length = endF t e p := by rw [List.length_take]; omega
      have q3 : aSl (sTk (sSl s 3 (some ((t.drop p).take (endF t e p - p)))) 0 (some (t, e, true, endF t e p))) 3 = some ((t.drop p).take (endF t e p - p)) := sl_self s 3 _
      have q0' : aSl (sSl s 3 (some ((t.drop p).take (endF t e p - p)))) 0 = some t := (sl_ne _ _ (by decide)).trans q0
      have q1' : aSl (sSl s 3 (some ((t.drop p).take (endF t e p - p)))) 1 = some e := (sl_ne _ _ (by decide)).trans q1
      have qJ : aJn (sTk (sSl s 3 (some ((t.drop p).take (endF t e p - p)))) 0 (some (t, e, true, endF t e p))) 0 = some ([], [], [], if p = 0 then none else some (t.take p), none) := hJ
      refine cF (nI_nle (by omega) (by omega)) ⟨r1.o, 1150, 13600, by omega, by omega, z_add (i := 0) (j := 3) (t := (t.drop p).take (endF t e p - p)) (e := []) (el := if p = 0 then none else some (t.take p)) (by omega) (by omega) (by omega) (by omega) (by exact q3) (by exact qJ) (by rw [el, ell]; omega) r1 (fun S2 r2 => ?_)⟩
      rw [el] at r2 ⊢
      rw [ell]
      refine cF (nI_nle (by omega) (by omega)) (fun v ev => ?_)
      rw [ev, nI_1]
      refine ih (k + 1) (endF t e p) _ S2 _ _ (by omega) (by omega) he1.2 hn17 (by omega) (by omega) (by rfl) (by exact q0') (by exact q1') ?_ (by exact i1) (by exact i2) (by exact i3) r2
      rw [if_neg (by omega)]
      rfl
theorem cntA_le {t e : Tx} {r : Bool} : ∀ (n p : Nat), t.length ≤ p + n → p ≤ t.length → cntA t e r p ≤ n
  | 0, p, h, hp => by
    have b := begF_le (d := e) (r := r) hp
    rw [cntA_0 (by omega)]; exact Nat.le_refl _
  | n + 1, p, h, hp => by
    have b := begF_le (d := e) (r := r) hp
    rcases Nat.lt_or_ge (begF t e r p) t.length with q | q
    · have h2 := endF_le (d := e) q
      have := cntA_le (t := t) (e := e) (r := r) n (endF t e (begF t e r p)) (by omega) h2.2
      rw [cntA_s q]; omega
    · rw [cntA_0 q]; omega
theorem l_cut {post : Int32 → hS → Prop} {f mc ms : Nat} (hL : sL u < 2 ^ 30) (hf : f ≤ 900) (hR : cRep u d s S) (hmc : 87400 ≤ mc) (hms : 1033600 ≤ ms)
    (hp : ∀ s' S', cRep u d s' S' → aLy s' = aLy s → aNp s' = aNp s → aNe s' = aNe s + 1 → post 1 S') : w_L_cut u post (some d) (some (sB u)) (nI f) S mc ms := by
  have e1 : nI f + 1 = nI (f + 1) := nI_1 f
  have e2 : nI f + 2 = nI (f + 2) := nI_lit rfl
  have k14 := lowN_lt (v := celF u f) (n := 14) (by omega)
  have e4 : (4 : Int32) + nI (lowN (celF u f) 14) = nI (4 + lowN (celF u f) 14) := nI_add 4 _
  rw [w_L_cut]
  rw [e1, e2]
  refine l_cell (by omega) hL (l_sign (l_cell (by omega) hL (l_sign (l_cell (by omega) hL (l_low (n := 14) rfl (by omega) (by omega) ⟨19550, 231200, by omega, by omega, ?_⟩)))))
  rw [e4]
  refine l_lays (i := 0) hL (by omega) (by omega) (by omega) hR (by omega) (by omega) (fun S1 r1 => cF (by decide) ⟨2300, 27200, by omega, by omega, ?_⟩)
  refine l_lays (i := 1) (m := 2) hL (by omega) (by omega) (by omega) r1 (by omega) (by omega) (fun S2 r2 => cF (by decide) ⟨1150, 13600, by omega, by omega, ?_⟩)
  refine l_one (i := 2) (c := 0) (by omega) (by omega) r2 (by omega) (by omega) (fun S3 r3 => cF (by decide) ⟨d, rfl, r3.o, ?_⟩)
  refine z_erase (i := 2) (by omega) r3 (fun S4 r4 => dT ?_ ?_)
  · show lenO (aSl (sSl _ 2 (some [0])) 2) = 1
    rw [sl_self]; rfl
  · rw [sl_sl] at r4
    rw [w_L_cut_79]
    have tl := sgT_len u (f + 2) (4 + lowN (celF u f) 14)
    have q0 : aSl (sSl (sSl (sSl s 0 (some (sgT u (f + 2) (4 + lowN (celF u f) 14)))) 1 (some (sgT u f 2))) 2 (some [])) 0 = some (sgT u (f + 2) (4 + lowN (celF u f) 14)) := ((sl_ne _ _ (by decide)).trans (sl_ne _ _ (by decide))).trans (sl_self _ _ _)
    have q1 : aSl (sSl (sSl (sSl s 0 (some (sgT u (f + 2) (4 + lowN (celF u f) 14)))) 1 (some (sgT u f 2))) 2 (some [])) 1 = some (sgT u f 2) := (sl_ne _ _ (by decide)).trans (sl_self _ _ _)
    have ed : sgT u f 2 = [sigF (celF u f), sigF (celF u (f + 1))] := rfl
    have hpos : 0 < cntA (sgT u (f + 2) (4 + lowN (celF u f) 14)) (sgT u f 2) true 0 := cntA_pos.mpr (show 0 < (sgT u (f + 2) (4 + lowN (celF u f) 14)).length by omega)
    have hle := cntA_le (t := sgT u (f + 2) (4 + lowN (celF u f) 14)) (e := sgT u f 2) (r := true) 17 0 (by omega) (by omega)
    refine ⟨d, rfl, r4.o, 1150, 13600, by omega, by omega, z_tokenizeAll (i := 0) (j := 0) (k := 1) (by omega) (by omega) (by omega) (by omega) (by omega) q0 q1 r4 (fun S5 r5 => cF (by decide) (cF (nI_nle hpos (by omega)) ⟨r5.o, 1150, 13600, by omega, by omega, ?_⟩))⟩
    refine z_join (i := 0) (j := 2) (t := []) (by omega) (by omega) (by omega) (by omega) (by exact sl_self (sSl (sSl s 0 (some (sgT u (f + 2) (4 + lowN (celF u f) 14)))) 1 (some (sgT u f 2))) 2 (some [])) r5 (fun S6 r6 => dT rfl ⟨cntA (sgT u (f + 2) (4 + lowN (celF u f) 14)) (sgT u f 2) true 0 + 1, ?_⟩)
    exact l_cut119 (ne := aNe s) sigF_lt sigF_lt ed sgT_lt (by omega) (by omega) hp _ 0 0 _ S6 _ _ (by omega) rfl (by omega) hle (by omega) (by omega) (by rfl) (by exact q0) (by exact q1) (by rfl) (by rfl) (by rfl) (by rfl) r6
/-! parts that are joined -/
def wdF (u : hU) (f k : Nat) : Tx := if lowN (celF u (f + k)) 2 = 0 then [45 + lowN (celF u (f + k)) 200] else [45 + lowN (celF u (f + k)) 200, 65]
theorem wdF_ok (u : hU) (f k : Nat) : (wdF u f k).length = 1 + lowN (celF u (f + k)) 2 ∧ (wdF u f k).getD 0 0 = 45 + lowN (celF u (f + k)) 200 ∧ ∀ x ∈ wdF u f k, x ≠ 44 := by
  have h2 := lowN_lt (v := celF u (f + k)) (n := 2) (by omega)
  unfold wdF
  by_cases q : lowN (celF u (f + k)) 2 = 0
  · rw [if_pos q, q]
    refine ⟨rfl, rfl, fun x hx => ?_⟩
    have := List.mem_singleton.mp hx
    omega
  · rw [if_neg q]
    refine ⟨by show 2 = 1 + lowN (celF u (f + k)) 2; omega, rfl, fun x hx => ?_⟩
    rcases List.mem_cons.mp hx with z | z
    · omega
    · have := List.mem_singleton.mp z
      omega
def wsF (u : hU) (f : Nat) : Nat → List Tx
  | 0 => []
  | k + 1 => wsF u f k ++ [wdF u f k]
theorem wsF_len (u : hU) (f : Nat) : ∀ k, (wsF u f k).length = k
  | 0 => rfl
  | k + 1 => by rw [wsF, List.length_append, wsF_len u f k]; rfl
theorem wsF_mem {u : hU} {f : Nat} : ∀ {k : Nat} {w : Tx}, w ∈ wsF u f k → ∃ i, i < k ∧ w = wdF u f i
  | 0, w, h => absurd h (by simp [wsF])
  | k + 1, w, h => by
    rcases List.mem_append.mp h with q | q
    · obtain ⟨i, h1, h2⟩ := wsF_mem q
      exact ⟨i, by omega, h2⟩
    · exact ⟨k, by omega, List.mem_singleton.mp q⟩
theorem wsF_ok {u : hU} {f k : Nat} : ∀ w ∈ wsF u f k, w ≠ [] ∧ ∀ x ∈ w, x ≠ 44 := by
  intro w hw
  obtain ⟨i, -, rfl⟩ := wsF_mem hw
  obtain ⟨h1, -, h3⟩ := wdF_ok u f i
  exact ⟨fun q => by rw [q] at h1; simp at h1; omega, h3⟩
theorem wsF_get {u : hU} {f : Nat} : ∀ {k i : Nat}, i < k → (wsF u f k).drop i = wdF u f i :: (wsF u f k).drop (i + 1)
  | 0, i, h => absurd h (by omega)
  | k + 1, i, h => by
    rw [wsF]
    have hl := wsF_len u f k
    rcases Nat.lt_or_ge i k with q | q
    · rw [List.drop_append_of_le_length (by omega), List.drop_append_of_le_length (by omega), wsF_get q]; rfl
    · have e : i = k := by omega
      subst e
      have e1 : (wsF u f i ++ [wdF u f i]).drop i = [wdF u f i] := List.drop_left' hl
      have e2 : (wsF u f i ++ [wdF u f i]).drop (i + 1) = [] := List.drop_eq_nil_of_le (by rw [List.length_append, hl]; exact Nat.le_refl _)
      rw [e1, e2]
theorem joW_len (c : Nat) : ∀ (ws : List Tx), (∀ w ∈ ws, w.length ≤ 2) → (joW c ws).length ≤ 3 * ws.length
  | [], _ => Nat.le_refl _
  | [w], h => by
    have := h w (by simp)
    show w.length ≤ 3 * 1
    omega
  | w :: v :: r, h => by
    have h1 := h w (by simp)
    have h2 := joW_len c (v :: r) (fun x hx => h x (by simp [hx]))
    have e : (joW c (w :: v :: r)).length = w.length + ((joW c (v :: r)).length + 1) := by simp [joW]
    rw [e]
    simp only [List.length_cons] at h2 ⊢
    omega
theorem wsF_le2 {u : hU} {f k : Nat} : ∀ w ∈ wsF u f k, w.length ≤ 2 := by
  intro w hw
  obtain ⟨i, -, rfl⟩ := wsF_mem hw
  have h2 := lowN_lt (v := celF u (f + i)) (n := 2) (by omega)
  have := (wdF_ok u f i).1
  omega
/-- the parts are cut again -/
theorem l_joi165 {post : Int32 → hS → Prop} {f n : Nat} {np ne : Int32} {ly : Nat → Ly} (hL : sL u < 2 ^ 30) (hf : f ≤ 1000) (hn : n ≤ 5)
    (hp : ∀ s' S', cRep u d s' S' → aLy s' = ly → aNp s' = np → aNe s' = ne → post 1 S') :
    ∀ (j k p : Nat) (s : AS) (S : hS) (mc ms : Nat), k + j = n → p ≤ (joW 44 (wsF u f n)).length → (joW 44 (wsF u f n)).drop p = reW 44 k ((wsF u f n).drop k) → 1150 * j ≤ mc → 13600 * j ≤ ms → aTk s 0 = some (joW 44 (wsF u f n), [44], false, p) → aLy s = ly → aNp s = np → aNe s = ne → cRep u d s S →
      w_L_joined_165 u post (j + 1) (some d) (some (sB u)) (nI f) (nI n) 1 (nI k) S mc ms := by
  intro j
  induction j with
  | zero =>
    intro k p s S mc ms hk hpl hd h1 h2 hT i1 i2 i3 hR
    have e0 : k = n := by omega
    subst e0
    have hc := cnt_part _ k p hpl hd (fun w hw => wsF_ok w (List.mem_of_mem_drop hw))
    rw [List.length_drop, wsF_len, Nat.sub_self] at hc
    have hb0 : ¬ begF (joW 44 (wsF u f k)) [44] false p < (joW 44 (wsF u f k)).length := fun z => by have := cntA_pos.mpr z; omega
    rw [w_L_joined_165]
    refine cT (nI_le (Nat.le_refl _) (by omega)) ?_
    rw [w_L_joined_238]
    refine cF (by decide) ⟨d, rfl, hR.o, z_more (i := 0) (by omega) hT hR ?_⟩
    rw [if_neg hb0]
    exact dT rfl (hp s S hR i1 i2 i3)
  | succ j ih =>
    intro k p s S mc ms hk hpl hd h1 h2 hT i1 i2 i3 hR
    have hkn : k < n := by omega
    have hd1 := hd
    rw [wsF_get hkn] at hd1
    obtain ⟨w1, w2, w3⟩ := wdF_ok u f k
    have hok := wsF_ok (u := u) (f := f) (k := k + 1) (wdF u f k) (by simp [wsF])
    obtain ⟨t1, t2, t3, t4, t5⟩ := tok_part hpl hd1 hok.1 hok.2
    rw [w_L_joined_165]
    refine cF (nI_ge hkn (by omega)) (cF (by decide) ⟨d, rfl, hR.o, 1150, 13600, by omega, by omega, ?_⟩)
    refine z_next (i := 0) (j := 3) (by omega) (by omega) (by omega) (by omega) hT t1 hR (fun S1 r1 => ?_)
    rw [t2, t3] at r1
    rw [t2, nI_add]
    have hw2 := lowN_lt (v := celF u (f + k)) (n := 2) (by omega)
    refine l_cell (by omega) hL (l_low (n := 2) rfl (by omega) (by omega) (dT ?_ ⟨r1.o, ?_⟩))
    · rw [w1]; exact (nI_add 1 _).symm
    · refine z_characterAt (i := 3) (j := 0) (t := wdF u f k) (by omega) (by exact sl_self s 3 _) (by omega) (by omega) r1 ?_
      refine l_cell (by omega) hL (l_low (n := 200) rfl (by omega) (by omega) (dT ?_ (fun v ev => ?_)))
      · rw [w2]; exact (nI_add 45 _).symm
      · rw [ev, nI_1]
        exact ih (k + 1) _ _ S1 _ _ (by omega) t5 t4 (by omega) (by omega) (by rfl) (by exact i1) (by exact i2) (by exact i3) r1
theorem l_joined {post : Int32 → hS → Prop} {f mc ms : Nat} (hL : sL u < 2 ^ 30) (hf : f ≤ 900) (hR : cRep u d s S) (hmc : 27600 ≤ mc) (hms : 326400 ≤ ms)
    (hp : ∀ s' S', cRep u d s' S' → aLy s' = aLy s → aNp s' = aNp s → aNe s' = aNe s → post 1 S') : w_L_joined u post (some d) (some (sB u)) (nI f) S mc ms := by
  have n5 := lowN_lt (v := celF u f) (n := 5) (by omega)
  have key : ∀ (n : Nat), n ≤ 5 → 1 ≤ n → ∀ (j k : Nat) (s' : AS) (S : hS) (mc ms : Nat), k + j = n → 3450 * j + 8050 ≤ mc → 40800 * j + 95200 ≤ ms → aSl s' 0 = some [44] → aJn s' 1 = some ([44], [], [], if k = 0 then none else some (joW 44 (wsF u f k)), none) → aLy s' = aLy s → aNp s' = aNp s → aNe s' = aNe s → cRep u d s' S →
      w_L_joined_41 u post (j + 1) (some d) (some (sB u)) (nI f) (nI n) 1 (nI k) S mc ms := by
    intro n hn hn1 j
    induction j with
    | zero =>
      intro k s' S mc ms hk h1 h2 q0 hJ i1 i2 i3 hR
      have e0 : k = n := by omega
      subst e0
      rw [if_neg (by omega)] at hJ
      rw [w_L_joined_41]
      refine cT (nI_le (Nat.le_refl _) (by omega)) (cF (by decide) ⟨d, rfl, hR.o, 1150, 13600, by omega, by omega, z_joined (i := 1) (j := 2) (by omega) (by omega) (by omega) (by omega) hJ hR (fun S1 r1 => ⟨r1.o, ?_⟩)⟩)
      refine z_joinedLength (i := 1) (e := [44]) (el := joW 44 (wsF u f k)) (by omega) (by exact hJ) r1 (dT rfl ⟨r1.o, 1150, 13600, by omega, by omega, ?_⟩)
      refine z_tokenizeBy (i := 0) (j := 2) (k := 0) (t := joW 44 (wsF u f k)) (e := [44]) (by omega) (by omega) (by omega) (by omega) (by omega) (sl_self _ _ _) ((sl_ne _ _ (by decide)).trans q0) r1 (fun S2 r2 => ?_)
      have hc := cnt_part (t := joW 44 (wsF u f k)) (c := 44) (wsF u f k) 0 0 (by omega) rfl (fun w hw => wsF_ok w hw)
      rw [wsF_len] at hc
      rw [hc]
      refine dT rfl ⟨k + 1, ?_⟩
      exact l_joi165 hL (by omega) hn hp k 0 0 _ S2 _ _ (by omega) (by omega) rfl (by omega) (by omega) (by rfl) (by exact i1) (by exact i2) (by exact i3) r2
    | succ j ih =>
      intro k s' S mc ms hk h1 h2 q0 hJ i1 i2 i3 hR
      have hkn : k < n := by omega
      have hw2 := lowN_lt (v := celF u (f + k)) (n := 2) (by omega)
      have hw200 := lowN_lt (v := celF u (f + k)) (n := 200) (by omega)
      have e45 : (45 : Int32) + nI (lowN (celF u (f + k)) 200) = nI (45 + lowN (celF u (f + k)) 200) := nI_add 45 _
      rw [w_L_joined_41]
      refine cF (nI_ge hkn (by omega)) (cF (by decide) ?_)
      rw [nI_add]
      refine l_cell (by omega) hL (l_low (n := 200) rfl (by omega) (by omega) ⟨1150, 13600, by omega, by omega, ?_⟩)
      rw [e45]
      refine l_one (i := 1) (by omega) (by omega) hR (by omega) (by omega) (fun S1 r1 => cF (by decide) (l_cell (by omega) hL (l_low (n := 2) rfl (by omega) (by omega) ?_)))
      have fin : ∀ (S' : hS) (mc' ms' : Nat), cRep u d (sSl s' 1 (some (wdF u f k))) S' → mc ≤ mc' + 2300 → ms ≤ ms' + 27200 → w_L_joined_103 u post (w_L_joined_41 u post (j + 1)) (some d) (some (sB u)) (nI f) (nI n) (nI k) S' mc' ms' := by
        intro S' mc' ms' r2 m1 m2
        have el : elF [44] (wdF u f k) (if k = 0 then none else some (joW 44 (wsF u f k))) = joW 44 (wsF u f (k + 1)) := by
          by_cases z : k = 0
          · subst z; rfl
          · rw [if_neg z, wsF, joW_snoc 44 (wsF u f k) (wdF u f k) (fun q => z (by have := wsF_len u f k; rw [q] at this; exact this.symm))]; rfl
        have ell := joW_len 44 (wsF u f (k + 1)) wsF_le2
        rw [wsF_len] at ell
        have elp : 0 < (joW 44 (wsF u f (k + 1))).length := by
          rw [← el]
          have := (wdF_ok u f k).1
          by_cases z : k = 0
          · rw [if_pos z]; show 0 < (wdF u f k).length; omega
          · rw [if_neg z]
            show 0 < (joW 44 (wsF u f k) ++ [44] ++ wdF u f k).length
            rw [List.length_append]; omega
        have q0' : aSl (sSl s' 1 (some (wdF u f k))) 0 = some [44] := (sl_ne _ _ (by decide)).trans q0
        rw [w_L_joined_103]
        refine ⟨d, rfl, r2.o, 1150, 13600, by omega, by omega, z_add (i := 1) (j := 1) (t := wdF u f k) (e := [44]) (el := if k = 0 then none else some (joW 44 (wsF u f k))) (by omega) (by omega) (by omega) (by omega) (by exact sl_self _ _ _) (by exact hJ) (by rw [el]; omega) r2 (fun S3 r3 => ?_)⟩
        rw [el] at r3 ⊢
        refine cF (nI_nle elp (by omega)) (fun v ev => ?_)
        rw [ev, nI_1]
        refine ih (k + 1) _ S3 _ _ (by omega) (by omega) (by omega) (by exact q0') ?_ (by exact i1) (by exact i2) (by exact i3) r3
        rw [if_neg (by omega)]
        rfl
      by_cases z : lowN (celF u (f + k)) 2 = 0
      · refine cT (by rw [z]; rfl) (fin S1 _ _ ?_ (by omega) (by omega))
        unfold wdF
        rw [if_pos z]; exact r1
      · refine cF (nI_ne0 (by omega) (by omega)) ⟨d, rfl, r1.o, 1150, 13600, by omega, by omega, z_append (i := 1) (c := 65) (t := [45 + lowN (celF u (f + k)) 200]) (by omega) (by omega) (by omega) (by omega) (sl_self _ _ _) (by simp) r1 (fun S2 r2 => dT rfl (fin S2 _ _ ?_ (by omega) (by omega)))⟩
        rw [sl_sl] at r2
        unfold wdF
        rw [if_neg z]; exact r2
  have e1 : (1 : Int32) + nI (lowN (celF u f) 5) = nI (1 + lowN (celF u f) 5) := nI_add 1 _
  rw [w_L_joined]
  refine l_cell (by omega) hL (l_low (n := 5) rfl (by omega) (by omega) (fun v6 e6 => ⟨1150, 13600, by omega, by omega, ?_⟩))
  rw [e1] at e6
  subst e6
  refine l_one (i := 0) (c := 44) (by omega) (by omega) hR (by omega) (by omega) (fun S1 r1 => cF (by decide) ⟨d, rfl, r1.o, 1150, 13600, by omega, by omega, z_join (i := 1) (j := 0) (t := [44]) (by omega) (by omega) (by omega) (by omega) (sl_self _ _ _) r1 (fun S2 r2 => dT rfl ⟨1 + lowN (celF u f) 5 + 1, ?_⟩)⟩)
  exact key (1 + lowN (celF u f) 5) (by omega) (by omega) (1 + lowN (celF u f) 5) 0 _ S2 _ _ (by omega) (by omega) (by omega) (by exact sl_self s 0 _) (by rfl) (by rfl) (by rfl) (by rfl) r2
end CREP
