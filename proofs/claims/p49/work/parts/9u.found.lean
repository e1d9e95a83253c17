/-! THE LAW, pure: what a lookup finds; a key told three times -/
theorem namesF_mz {ly : Nat → Ly} {l : Nat} (hl : l < 4) : ∀ (m : Nat) (P : Nat → Nat), namesF ly l m P ≤ mzF ly P l
  | 0, _ => Nat.zero_le _
  | m + 1, P => by
    rw [namesF]
    cases hm : minF ly P l with
    | none => exact Nat.zero_le _
    | some t =>
      have h1 := namesF_mz (ly := ly) (l := l) hl m (stepP ly P t l)
      have h2 := mzF_lt hl hm
      show namesF ly l m (stepP ly P t l) + 1 ≤ _
      omega
section CREP
variable {u : hU} {d : Nat} {s : AS} {S : hS}
theorem l_found110 {post : Int32 → hS → Prop} {K : Option Nat → Int32 → Int32 → Int32 → hS → Nat → Nat → Prop} {l n mc ms : Nat} {t : Tx} (hl : l < 4) (ht : aSl s 0 = some t)
    (hK : ∀ S', cRep u d s S' → ∀ v, v = nI n + 1 → K (some d) (nI l) 1 v S' mc ms) :
    ∀ (j k : Nat) (S : hS), k + j = l + 1 → (∀ i, k ≤ i → i ≤ l → findF (aLy s i) t = none) → cRep u d s S → w_L_found_110 u post K (j + 1) d (nI l) 1 (nI n) (nI k) S mc ms := by
  intro j
  induction j with
  | zero =>
    intro k S hk _ hR
    have e : k = l + 1 := by omega
    subst e
    rw [w_L_found_110]
    exact cT (nI_lt (by omega) (by omega)) (hK S hR)
  | succ j ih =>
    intro k S hk hn hR
    rw [w_L_found_110]
    refine cF (nI_nlt (by omega) (by omega)) (cF (by decide) ⟨hR.o, z_has0 (l := k) (k := 0) (by omega) (by omega) ht (hn k (Nat.le_refl _) (by omega)) hR (fun S1 h1 => dT rfl (fun v e => ?_))⟩)
    rw [e, nI_1]
    exact ih (k + 1) S1 (by omega) (fun i h1 h2 => hn i (by omega) h2) h1
theorem l_found {post : Int32 → hS → Prop} {l N mc ms : Nat} (hl : l < 4) (hs : ∀ j, j < 4 → srt (aLy s j)) (hN : namesF (aLy s) l 160 (fun _ => 0) ≤ N) (hN2 : N ≤ 100) (hR : cRep u d s S) (hmc : 2300 * N + 1150 ≤ mc) (hms : 27200 * N + 13600 ≤ ms)
    (hp : ∀ f S', cRep u d (f, s.2) S' → post 1 S') : w_L_found u post (some d) (nI l) S mc ms := by
  have key : ∀ (j n : Nat) (f : Nat → Option Tx) (S : hS) (mc ms : Nat), n + j = namesF (aLy s) l 160 (fun _ => 0) → 2300 * j + 1150 ≤ mc → 27200 * j + 13600 ≤ ms → cRep u d (f, s.2) S → w_L_found_4 u post (j + 1) (some d) (nI l) 1 (nI n) S mc ms := by
    intro j
    induction j with
    | zero =>
      intro n f S mc ms hn h1 h2 hR
      rw [w_L_found_4]
      refine ⟨d, rfl, hR.o, 1150, 13600, by omega, by omega, z_names (by omega) (by omega) hl hR (fun S1 r1 => cT ?_ ⟨by decide, hp f S1 r1⟩)⟩
      show nI (namesF (aLy s) l 160 (fun _ => 0)) ≤ nI n
      exact nI_le (by omega) (by omega)
    | succ j ih =>
      intro n f S mc ms hn h1 h2 hR
      have hlt : n < namesF (aLy s) l 160 (fun _ => 0) := by omega
      obtain ⟨t, ht, x, y, hx, hy, hxy⟩ := nameF_ok 160 n (fun _ => 0) hlt
      have hfx : findF (aLy s x) t ≠ none := by
        rw [← hxy, findF_at (hs x (by omega)) hy]; simp
      obtain ⟨m, m1, m2, m3, m4⟩ := layerF_at l x hx hfx
      obtain ⟨v, hv⟩ := valF_some m3
      have lk1 : lookF (aLy s) t l = some v := by unfold lookF; rw [m1]; exact hv
      have lk2 : lookF (aLy s) t m = some v := by unfold lookF; rw [layerF_self m3]; exact hv
      rw [w_L_found_4]
      refine ⟨d, rfl, hR.o, 1150, 13600, by omega, by omega, z_names (by omega) (by omega) hl hR (fun S1 r1 => cF ?_ (cF (by decide) ⟨r1.o, 1150, 13600, by omega, by omega, ?_⟩))⟩
      · show ¬ nI (namesF (aLy s) l 160 (fun _ => 0)) ≤ nI n
        exact nI_ge hlt (by omega)
      · refine z_name (s := (f, s.2)) (i := 0) (t := t) (by omega) (by omega) hl (by omega) (by omega) ht r1 (fun S2 r2 => ?_)
        have q0 : aSl (sSl (f, s.2) 0 (some t)) 0 = some t := sl_self _ _ _
        have ql := r2.len (by omega) q0
        refine cF (nI_pos (by omega)) ?_
        rw [w_L_found_32]
        refine ⟨r2.o, z_layerOf (s := sSl (f, s.2) 0 (some t)) (k := 0) (t := t) hl (by omega) q0 m1 r2 (fun S3 r3 => cF (by decide) (cF (nI_pos (by omega)) (cF (nI_nlt m2 (by omega)) ⟨r3.o, ?_⟩)))⟩
        refine z_get (s := sSl (f, s.2) 0 (some t)) (k := 0) (i := 1) (t := t) (v := v) hl (by omega) (by omega) q0 lk1 r3 (fun S4 r4 => ?_)
        have vl := r4.len (i := 1) (by omega) (sl_self _ _ _)
        have q1 : aSl (sSl (sSl (f, s.2) 0 (some t)) 1 (some v)) 0 = some t := (sl_ne _ _ (by decide)).trans q0
        refine cF (nI_pos (by omega)) ⟨r4.o, ?_⟩
        refine z_get (s := sSl (sSl (f, s.2) 0 (some t)) 1 (some v)) (l := m) (k := 0) (i := 2) (t := t) (v := v) (by omega) (by omega) (by omega) q1 lk2 r4 (fun S5 r5 => ?_)
        have q2 : aSl (sSl (sSl (sSl (f, s.2) 0 (some t)) 1 (some v)) 2 (some v)) 0 = some t := (sl_ne _ _ (by decide)).trans q1
        have q3 : aSl (sSl (sSl (sSl (f, s.2) 0 (some t)) 1 (some v)) 2 (some v)) 1 = aSl (sSl (sSl (sSl (f, s.2) 0 (some t)) 1 (some v)) 2 (some v)) 2 := ((sl_ne _ _ (by decide)).trans (sl_self _ _ _)).trans (sl_self _ _ _).symm
        refine cF (nI_pos (by omega)) ⟨r5.o, ?_⟩
        refine z_same (i := 1) (j := 2) (by omega) (by omega) q3 r5 (dT rfl ⟨r5.o, ?_⟩)
        refine z_has1 (s := sSl (sSl (sSl (f, s.2) 0 (some t)) 1 (some v)) 2 (some v)) (l := m) (k := 0) (t := t) (by omega) (by omega) q2 m3 r5 (fun S6 r6 => dT rfl (fun v9 e9 => ⟨l - m + 1, ?_⟩))
        rw [e9, nI_1]
        refine l_found110 (s := sSl (sSl (sSl (f, s.2) 0 (some t)) 1 (some v)) 2 (some v)) (t := t) hl q2 (fun S' r7 v e => ?_) (l - m) (m + 1) S6 (by omega) (fun i h1 h2 => m4 i (by omega) h2) r6
        rw [e, nI_1]
        exact ih (n + 1) _ S' _ _ (by omega) (by omega) (by omega) r7
  rw [w_L_found]
  refine ⟨namesF (aLy s) l 160 (fun _ => 0) + 1, key _ 0 s.1 S mc ms (by omega) ?_ ?_ hR⟩
  · have := Nat.mul_le_mul_left 2300 hN; omega
  · have := Nat.mul_le_mul_left 27200 hN; omega
/-! a key told three times -/
def twX (x y z : Nat) : Tx := [97, 61, 98 + x, 10, 97, 58, 98 + y, 13, 97, 32, 98 + z, 10]
def twOk (x y z : Nat) : Bool := decide (brkF (twX x y z) (entsA (twX x y z)) = none) && (decide ((entsA (twX x y z)).length = 3) && decide (putsF (twX x y z) (entsA (twX x y z)) [] = some [([97], [98 + z])]))
theorem twOk_all : ∀ x, x < 9 → ∀ y, y < 9 → ∀ z, z < 9 → twOk x y z = true := by decide +kernel
theorem tw_load (x : Nat) (hx : x < 9) (y : Nat) (hy : y < 9) (z : Nat) (hz : z < 9) :
    brkF (twX x y z) (entsA (twX x y z)) = none ∧ (entsA (twX x y z)).length = 3 ∧ putsF (twX x y z) (entsA (twX x y z)) [] = some [([97], [98 + z])] := by
  have h := twOk_all x hx y hy z hz
  unfold twOk at h
  rw [Bool.and_eq_true, Bool.and_eq_true] at h
  exact ⟨of_decide_eq_true h.1, of_decide_eq_true h.2.1, of_decide_eq_true h.2.2⟩
theorem tyO_at : ∀ c, c < 127 → (c = 10 ∨ c = 13 ∨ 32 ≤ c) → tyO (nI c) = some c := by decide +kernel
theorem l_tw63 {post : Int32 → hS → Prop} {K : Nat → Int32 → Int32 → Int32 → hS → Nat → Nat → Prop} {k c mc ms : Nat} {v : Int32} (hk : k < 3) (hc : tyO (nI c) = some c) (hl : (aTp s).length ≤ 290) (hmc : 3450 ≤ mc) (hms : 40800 ≤ ms) (hR : cRep u d s S)
    (hK : ∀ S' mc' ms', cRep u d (sTp s (aTp s ++ [c, 98 + lowN (v >>> (nI k &&& 31)) 9, if k = 1 then 13 else 10])) S' → mc ≤ mc' + 3450 → ms ≤ ms' + 40800 → K d v 1 (nI (k + 1)) S' mc' ms') : w_L_twice_63 u post K d v (nI k) (nI c) d S mc ms := by
  have k9 := lowN_lt (v := v >>> (nI k &&& 31)) (n := 9) (by omega)
  rw [w_L_twice_63]
  refine ⟨hR.o, 1150, 13600, by omega, by omega, z_type (by omega) (by omega) hc (by omega) hR (fun S1 r1 => cF (nI_nle (by omega) (by omega)) (l_low (n := 9) rfl (by omega) (by omega) ⟨r1.o, 1150, 13600, by omega, by omega, ?_⟩))⟩
  have e98 : (98 : Int32) + nI (lowN (v >>> (nI k &&& 31)) 9) = nI (98 + lowN (v >>> (nI k &&& 31)) 9) := nI_add 98 _
  rw [e98]
  have l1 : (aTp (sTp s (aTp s ++ [c]))).length = (aTp s).length + 1 := by show (aTp s ++ [c]).length = _; simp
  refine z_type (by omega) (by omega) (tyO_at _ (by omega) (by omega)) (by omega) r1 (fun S2 r2 => cF (nI_nle (by omega) (by omega)) ?_)
  have l2 : (aTp (sTp (sTp s (aTp s ++ [c])) (aTp (sTp s (aTp s ++ [c])) ++ [98 + lowN (v >>> (nI k &&& 31)) 9]))).length = (aTp s).length + 2 := by show ((aTp s ++ [c]) ++ [_]).length = _; simp
  have last : ∀ (b : Nat) (b' : Int32), b' = nI b → tyO (nI b) = some b → b = (if k = 1 then 13 else 10) → w_L_twice_100 u post K d v (nI k) b' d S2 (mc - 1150 - 1150) (ms - 13600 - 13600) := by
    intro b b' eb hb hb2
    subst eb
    rw [w_L_twice_100]
    refine ⟨r2.o, 1150, 13600, by omega, by omega, z_type (by omega) (by omega) hb (by omega) r2 (fun S3 r3 => cF (nI_nle (by omega) (by omega)) (fun v9 e9 => ?_))⟩
    rw [e9, nI_1]
    refine hK S3 _ _ ?_ (by omega) (by omega)
    rw [← hb2]
    have e : aTp s ++ [c, 98 + lowN (v >>> (nI k &&& 31)) 9, b] = ((aTp s ++ [c]) ++ [98 + lowN (v >>> (nI k &&& 31)) 9]) ++ [b] := by simp
    rw [e]; exact r3
  by_cases q : k = 1
  · subst q
    exact dT rfl (last 13 13 rfl (by decide) rfl)
  · exact dF (fun z => q ((nI_eqv (b := 1) (by omega) (by omega)).mp z)) (last 10 10 rfl (by decide) (by rw [if_neg q]))
def twC (k : Nat) : Nat := if k = 0 then 61 else if k = 1 then 58 else 32
def twL (v : Int32) (k : Nat) : Tx := [97, twC k, 98 + lowN (v >>> (nI k &&& 31)) 9, if k = 1 then 13 else 10]
def twT (v : Int32) : Nat → Tx
  | 0 => []
  | k + 1 => twT v k ++ twL v k
theorem twT_len (v : Int32) : ∀ k, (twT v k).length = 4 * k
  | 0 => rfl
  | k + 1 => by rw [twT, List.length_append, twT_len v k]; show 4 * k + 4 = _; omega
theorem l_twice {post : Int32 → hS → Prop} {v : Int32} {mc ms : Nat} (hs : ∀ j, j < 4 → srt (aLy s j)) (hR : cRep u d s S) (hmc : 16100 ≤ mc) (hms : 190400 ≤ ms)
    (hp : ∀ s' S', cRep u d s' S' → (∀ j, j < 4 → srt (aLy s' j)) → (∀ j, j < 3 → aLy s' j = aLy s j) → (aLy s' 3).length = 1 → aNp s' = aNp s → aNe s' = aNe s → post 1 S') : w_L_twice u post (some d) v S mc ms := by
  have b4 : (aLy s 3).length < 2 ^ 31 := by
    obtain ⟨mm, ad, lv, hq⟩ := hR
    have := (hq.2.2.2.2.2.1 3 (by omega)).2.2.1
    omega
  have bT : (aTp s).length < 2 ^ 31 := by
    obtain ⟨mm, ad, lv, hq⟩ := hR
    obtain ⟨N, t', N', f', l', k', v', g, q⟩ := hq.2.2.2.2.1
    have := q.2.1.1
    omega
  have key : ∀ (j k : Nat) (S : hS) (mc ms : Nat), k + j = 3 → 4600 * j + 2300 ≤ mc → 54400 * j + 27200 ≤ ms → cRep u d (sLy (sTp s (twT v k)) 3 []) S → w_L_twice_23 u post (j + 1) d v 1 (nI k) S mc ms := by
    intro j
    induction j with
    | zero =>
      intro k S mc ms hk h1 h2 hR
      have e : k = 3 := by omega
      subst e
      obtain ⟨t1, t2, t3⟩ := tw_load (lowN (v >>> (nI 0 &&& 31)) 9) (lowN_lt (by omega)) (lowN (v >>> (nI 1 &&& 31)) 9) (lowN_lt (by omega)) (lowN (v >>> (nI 2 &&& 31)) 9) (lowN_lt (by omega))
      have eT : twT v 3 = twX (lowN (v >>> (nI 0 &&& 31)) 9) (lowN (v >>> (nI 1 &&& 31)) 9) (lowN (v >>> (nI 2 &&& 31)) 9) := rfl
      rw [← eT] at t1 t2 t3
      rw [w_L_twice_23]
      refine cT (by decide) (cF (by decide) ⟨hR.o, 1150, 13600, by omega, by omega, ?_⟩)
      have e3 : aLy (sLy (sTp s (twT v 3)) 3 []) 3 = [] := rfl
      refine z_load (l := 3) (L := [([97], [98 + lowN (v >>> (nI 2 &&& 31)) 9])]) (by omega) (by omega) (by omega) t1 (by rw [e3]; exact t3) hR (fun S1 r1 => dT (congrArg nI t2) ⟨r1.o, ?_⟩)
      have e4 : aLy (sLy (sLy (sTp s (twT v 3)) 3 []) 3 [([97], [98 + lowN (v >>> (nI 2 &&& 31)) 9])]) 3 = [([97], [98 + lowN (v >>> (nI 2 &&& 31)) 9])] := rfl
      refine z_size (l := 3) (by omega) r1 ?_
      rw [e4]
      refine dT rfl ⟨1150, 13600, by omega, by omega, l_one (i := 0) (c := 97) (by omega) (by omega) r1 (by omega) (by omega) (fun S2 r2 => cF (by decide) ⟨r2.o, ?_⟩)⟩
      have lk : lookF (aLy (sSl (sLy (sLy (sTp s (twT v 3)) 3 []) 3 [([97], [98 + lowN (v >>> (nI 2 &&& 31)) 9])]) 0 (some [97]))) [97] 3 = some [98 + lowN (v >>> (nI 2 &&& 31)) 9] := by
        have f3 : findF (aLy (sSl (sLy (sLy (sTp s (twT v 3)) 3 []) 3 [([97], [98 + lowN (v >>> (nI 2 &&& 31)) 9])]) 0 (some [97])) 3) [97] = some 0 := by
          show findF (aLy (sLy (sLy (sTp s (twT v 3)) 3 []) 3 [([97], [98 + lowN (v >>> (nI 2 &&& 31)) 9])]) 3) [97] = some 0
          rw [e4]
          exact findF_at (L := [([97], [98 + lowN (v >>> (nI 2 &&& 31)) 9])]) (x := 0) (srt_one _) (by simp)
        unfold lookF
        rw [layerF_self (by rw [f3]; simp)]
        show valF (aLy (sSl _ 0 (some [97])) 3) [97] = _
        unfold valF
        rw [f3]
        show some ((aLy (sLy (sLy (sTp s (twT v 3)) 3 []) 3 [([97], [98 + lowN (v >>> (nI 2 &&& 31)) 9])]) 3).getD 0 ([], [])).2 = _
        rw [e4]; rfl
      refine z_get (l := 3) (k := 0) (i := 1) (t := [97]) (v := [98 + lowN (v >>> (nI 2 &&& 31)) 9]) (by omega) (by omega) (by omega) (sl_self _ _ _) lk r2 (fun S3 r3 => dT rfl ?_)
      rw [w_L_twice_166]
      refine cF (by decide) ⟨r3.o, z_characterAt (i := 1) (j := 0) (t := [98 + lowN (v >>> (nI 2 &&& 31)) 9]) (by omega) (sl_self _ _ _) (by simp) (by simp) r3 (l_low (n := 9) rfl (by omega) (by omega) (dT ?_ ?_))⟩
      · exact (nI_add 98 _).symm
      · refine hp _ S3 r3 (fun i hi => ?_) (fun i hi => ?_) ?_ rfl rfl
        · show srt (aLy (sLy (sLy (sTp s (twT v 3)) 3 []) 3 [([97], [98 + lowN (v >>> (nI 2 &&& 31)) 9])]) i)
          by_cases q : i = 3
          · rw [q, e4]; exact srt_one _
          · show srt (va_up (va_up (aLy s) 3 []) 3 [([97], [98 + lowN (v >>> (nI 2 &&& 31)) 9])] i)
            rw [va_up_ne _ _ q, va_up_ne _ _ q]; exact hs i hi
        · show va_up (va_up (aLy s) 3 []) 3 [([97], [98 + lowN (v >>> (nI 2 &&& 31)) 9])] i = _
          rw [va_up_ne _ _ (by omega), va_up_ne _ _ (by omega)]
        · show (aLy (sLy (sLy (sTp s (twT v 3)) 3 []) 3 [([97], [98 + lowN (v >>> (nI 2 &&& 31)) 9])]) 3).length = 1
          rw [e4]; rfl
    | succ j ih =>
      intro k S mc ms hk h1 h2 hR
      have hk3 : k < 3 := by omega
      have hl := twT_len v k
      rw [w_L_twice_23]
      refine cF (nI_ge (b := 3) hk3 (by decide)) (cF (by decide) ⟨hR.o, 1150, 13600, by omega, by omega, ?_⟩)
      refine z_type (c := 97) (by omega) (by omega) (by decide) (show (twT v k).length < 300 by omega) hR (fun S1 r1 => cF (nI_nle (by omega) (show (twT v k).length + 1 < 2 ^ 31 by omega)) ?_)
      have go : ∀ c : Nat, tyO (nI c) = some c → c = twC k → w_L_twice_63 u post (w_L_twice_23 u post (j + 1)) d v (nI k) (nI c) d S1 (mc - 1150) (ms - 13600) := by
        intro c hc e
        refine l_tw63 (s := sTp (sLy (sTp s (twT v k)) 3 []) (twT v k ++ [97])) hk3 hc (by show (twT v k ++ [97]).length ≤ 290; simp; omega) (by omega) (by omega) r1 (fun S' mc' ms' r2 q1 q2 => ?_)
        refine ih (k + 1) S' mc' ms' (by omega) (by omega) (by omega) ?_
        have e2 : twT v (k + 1) = twT v k ++ [97] ++ [c, 98 + lowN (v >>> (nI k &&& 31)) 9, if k = 1 then 13 else 10] := by rw [twT, twL, e]; simp
        rw [e2]; exact r2
      by_cases q0 : k = 0
      · subst q0
        exact dT rfl (go 61 (by decide) rfl)
      · refine dF (fun z => q0 ((nI_eqv (b := 0) (by omega) (by omega)).mp z)) ?_
        by_cases q1 : k = 1
        · subst q1
          exact dT rfl (go 58 (by decide) rfl)
        · exact dF (fun z => q1 ((nI_eqv (b := 1) (by omega) (by omega)).mp z)) (go 32 (by decide) (by unfold twC; rw [if_neg q0, if_neg q1]))
  rw [w_L_twice]
  refine ⟨d, rfl, hR.o, 0, 0, by omega, by omega, c_wipe hR (fun S1 r1 => cF (nI_pos bT) ⟨r1.o, z_empty (l := 3) (by omega) r1 (fun S2 r2 => cF (nI_pos b4) ⟨4, key 3 0 S2 _ _ (by omega) (by omega) (by omega) r2⟩)⟩)⟩
end CREP
