/-! THE LAW, pure: the small ones -/
abbrev sB (u : hU) : Nat := u.2.2.2.1
abbrev sL (u : hU) : Nat := u.2.2.2.2.1
abbrev sX (u : hU) : Nat → Int32 := u.2.2.2.2.2
/-- what the law's cell answers -/
def celF (u : hU) (k : Nat) : Int32 := if nI (sL u) ≤ nI k then 15596309 * (nI k + 3) + 11969 else sX u k
theorem l_cell {u : hU} {S : hS} {post : Int32 → Prop} {k : Nat} (hk : k < 2 ^ 30) (hL : sL u < 2 ^ 30) (hp : post (celF u k)) : w_L_cell u post (some (sB u)) (nI k) S := by
  rw [w_L_cell]
  refine ⟨_, rfl, rfl, fun z => ?_, fun z => ⟨rfl, ?_, ?_⟩⟩
  · rw [celF, if_pos z] at hp; exact hp
  · refine vp_in_nI ?_ (Nat.lt_trans hL (by decide))
    rcases Nat.lt_or_ge k (sL u) with q | q
    · exact q
    · exact absurd (nI_le q (by omega)) z
  · rw [celF, if_neg z] at hp
    rw [nI_clamp (by omega)]; exact hp
def lowN (v : Int32) (n : Nat) : Nat := v.toBitVec.toNat % 2 ^ 31 % n
theorem lowN_lt {v : Int32} {n : Nat} (h : 0 < n) : lowN v n < n := Nat.mod_lt _ h
theorem l_low {post : Int32 → Prop} {v z : Int32} {n : Nat} (hz : z = nI n) (h0 : 0 < n) (hn : n < 2 ^ 31) (hp : post (nI (lowN v n))) : q_L_low post v z := by
  subst hz
  have e1 : v &&& 2147483647 = nI (v.toBitVec.toNat % 2 ^ 31) := pk_and v 31 (by decide +kernel)
  rw [q_L_low, e1, pk_rem (Nat.mod_lt _ (Nat.two_pow_pos 31)) h0 hn]
  exact hp
def sgL : List Nat := [9, 10, 13, 92, 61, 58, 35, 33, 32, 12, 117, 97]
def sigF (v : Int32) : Nat := if lowN v 3 = 0 then lowN (v >>> (4 &&& 31)) 256 else sgL.getD (lowN (v >>> (4 &&& 31)) 12) 97
theorem sigF_lt {v : Int32} : sigF v < 256 := by
  unfold sigF
  split
  · exact lowN_lt (by omega)
  · have h : ∀ j, j < 12 → sgL.getD j 97 < 256 := by decide
    exact h _ (lowN_lt (by omega))
theorem l_sg {post : Int32 → Prop} {v : Int32} (hp : post (nI (sigF v))) {K : Nat} {K' : Int32} (eK : K' = nI K) (hK : sgL.getD (lowN (v >>> (4 &&& 31)) 12) 97 = K) :
    q_L_low (fun r => (¬ r = (0 : Int32) → post K') ∧ (r = (0 : Int32) → q_L_low (fun r2 => post r2) (v >>> (4 &&& 31)) 256)) v 3 := by
  have h3 := lowN_lt (v := v) (n := 3) (by omega)
  refine l_low (n := 3) rfl (by omega) (by omega) ⟨fun z => ?_, fun z => l_low (n := 256) rfl (by omega) (by omega) ?_⟩
  · have q : lowN v 3 ≠ 0 := fun q => z (by rw [q]; rfl)
    unfold sigF at hp
    rw [if_neg q, hK] at hp
    rw [eK]; exact hp
  · have q : lowN v 3 = 0 := (nI_eqv (b := 0) (by omega) (by omega)).mp z
    unfold sigF at hp
    rw [if_pos q] at hp; exact hp
theorem l_sign {post : Int32 → Prop} {v : Int32} (hp : post (nI (sigF v))) : q_L_sign post v := by
  rw [q_L_sign]
  refine l_low (n := 12) rfl (by omega) (by omega) ?_
  have h12 := lowN_lt (v := v >>> (4 &&& 31)) (n := 12) (by omega)
  have inner := fun (K : Nat) (K' : Int32) (eK : K' = nI K) (hK : sgL.getD (lowN (v >>> (4 &&& 31)) 12) 97 = K) => l_sg hp eK hK
  generalize lowN (v >>> (4 &&& 31)) 12 = j at h12 inner ⊢
  have hj : j = 0 ∨ j = 1 ∨ j = 2 ∨ j = 3 ∨ j = 4 ∨ j = 5 ∨ j = 6 ∨ j = 7 ∨ j = 8 ∨ j = 9 ∨ j = 10 ∨ j = 11 := by omega
  rcases hj with rfl | rfl | rfl | rfl | rfl | rfl | rfl | rfl | rfl | rfl | rfl | rfl
  · exact dT (by decide) (inner 9 9 rfl rfl)
  · exact dF (by decide) (dT (by decide) (inner 10 10 rfl rfl))
  · exact dF (by decide) (dF (by decide) (dT (by decide) (inner 13 13 rfl rfl)))
  · exact dF (by decide) (dF (by decide) (dF (by decide) (dT (by decide) (inner 92 92 rfl rfl))))
  · exact dF (by decide) (dF (by decide) (dF (by decide) (dF (by decide) (dT (by decide) (inner 61 61 rfl rfl)))))
  · exact dF (by decide) (dF (by decide) (dF (by decide) (dF (by decide) (dF (by decide) (dT (by decide) (inner 58 58 rfl rfl))))))
  · exact dF (by decide) (dF (by decide) (dF (by decide) (dF (by decide) (dF (by decide) (dF (by decide) (dT (by decide) (inner 35 35 rfl rfl)))))))
  · exact dF (by decide) (dF (by decide) (dF (by decide) (dF (by decide) (dF (by decide) (dF (by decide) (dF (by decide) (dT (by decide) (inner 33 33 rfl rfl))))))))
  · exact dF (by decide) (dF (by decide) (dF (by decide) (dF (by decide) (dF (by decide) (dF (by decide) (dF (by decide) (dF (by decide) (dT (by decide) (inner 32 32 rfl rfl)))))))))
  · exact dF (by decide) (dF (by decide) (dF (by decide) (dF (by decide) (dF (by decide) (dF (by decide) (dF (by decide) (dF (by decide) (dF (by decide) (dT (by decide) (inner 12 12 rfl rfl))))))))))
  · exact dF (by decide) (dF (by decide) (dF (by decide) (dF (by decide) (dF (by decide) (dF (by decide) (dF (by decide) (dF (by decide) (dF (by decide) (dF (by decide) (dT (by decide) (inner 117 117 rfl rfl)))))))))))
  · exact dF (by decide) (dF (by decide) (dF (by decide) (dF (by decide) (dF (by decide) (dF (by decide) (dF (by decide) (dF (by decide) (dF (by decide) (dF (by decide) (dF (by decide) (inner 97 97 rfl rfl)))))))))))
/-- the text that the law lays from a place of the script on -/
def sgT (u : hU) (f m : Nat) : Tx := (List.range m).map (fun j => sigF (celF u (f + j)))
theorem sgT_len (u : hU) (f m : Nat) : (sgT u f m).length = m := by simp [sgT]
theorem sgT_succ (u : hU) (f k : Nat) : sgT u f (k + 1) = sgT u f k ++ [sigF (celF u (f + k))] := by simp [sgT, List.range_succ]
theorem sgT_lt {u : hU} {f m : Nat} : ∀ c ∈ sgT u f m, c < 256 := by
  intro c hc
  obtain ⟨j, -, rfl⟩ := List.mem_map.mp hc
  exact sigF_lt
theorem nI_lit {a b : Nat} {z : Int32} (hz : z = nI b) : nI a + z = nI (a + b) := by rw [hz, nI_add]
section CREP
variable {u : hU} {d : Nat} {s : AS} {S : hS}
theorem cRep.len (h : cRep u d s S) {i : Nat} (hi : i < 6) {t : Tx} (ht : aSl s i = some t) : t.length ≤ 300 := by
  obtain ⟨mm, ad, lv, h⟩ := h
  obtain ⟨o, -, h2⟩ := h.sl hi
  rw [ht] at h2
  obtain ⟨a, -, -, h3⟩ := h2
  exact h3
theorem cRep.ln1 (h : cRep u d s S) {i : Nat} (hi : i < 6) : ¬ lenO (aSl s i) = -1 := by
  cases ht : aSl s i with
  | none => exact (by decide : ¬ (-2 : Int32) = -1)
  | some t =>
    have hl := h.len hi ht
    intro z
    have z : nI t.length = -1 := z
    exact nI_pos (n := t.length) (by omega) (by rw [z]; decide)
theorem l_lays {post : Int32 → hS → Prop} {i f m mc ms : Nat} (hL : sL u < 2 ^ 30) (hi : i < 6) (hm : m ≤ 17) (hf : f ≤ 1000) (hR : cRep u d s S) (hmc : 1150 * m ≤ mc) (hms : 13600 * m ≤ ms)
    (hp : ∀ S', cRep u d (sSl s i (some (sgT u f m))) S' → post 1 S') : w_L_lays u post (some d) (nI i) (some (sB u)) (nI f) (nI m) S mc ms := by
  have key : ∀ (j k : Nat) (S : hS) (mc ms : Nat), k + j = m → 1150 * j ≤ mc → 13600 * j ≤ ms → cRep u d (sSl s i (some (sgT u f k))) S → w_L_lays_23 u post (j + 1) d (nI i) (some (sB u)) (nI f) (nI m) 1 (nI k) S mc ms := by
    intro j
    induction j with
    | zero =>
      intro k S mc ms hk _ _ hR
      rw [w_L_lays_23]
      have e : k = m := by omega
      subst e
      exact cT (nI_le (Nat.le_refl _) (by omega)) ⟨by decide, hp S hR⟩
    | succ j ih =>
      intro k S mc ms hk h1 h2 hR
      rw [w_L_lays_23]
      refine cF (nI_ge (by omega) (by omega)) (cF (by decide) ?_)
      rw [nI_add]
      refine l_cell (by omega) hL (l_sign ⟨hR.o, 1150, 13600, by omega, by omega, ?_⟩)
      refine z_append (t := sgT u f k) (by omega) (by omega) hi sigF_lt (sl_self _ _ _) (by rw [sgT_len]; omega) hR (fun S' h => ?_)
      rw [sgT_len]
      refine dT (nI_1 k).symm ?_
      intro v27 e27
      rw [e27, nI_1]
      refine ih (k + 1) S' _ _ (by omega) (by omega) (by omega) ?_
      rw [sl_sl, ← sgT_succ] at h; exact h
  rw [w_L_lays]
  exact ⟨d, rfl, hR.o, z_erase hi hR (fun S' h => cF (hR.ln1 hi) ⟨m + 1, key m 0 S' mc ms (by omega) hmc hms h⟩)⟩
theorem l_one {post : Int32 → hS → Prop} {i c mc ms : Nat} (hi : i < 6) (hc : c < 256) (hR : cRep u d s S) (hmc : 1150 ≤ mc) (hms : 13600 ≤ ms)
    (hp : ∀ S', cRep u d (sSl s i (some [c])) S' → post 1 S') : w_L_one u post (some d) (nI i) (nI c) S mc ms := by
  rw [w_L_one]
  refine ⟨d, rfl, hR.o, z_erase hi hR (fun S1 h1 => cF (hR.ln1 hi) ⟨h1.o, 1150, 13600, hmc, hms, z_append (t := []) (by omega) (by omega) hi hc (sl_self _ _ _) (by simp) h1 (fun S2 h2 => dT rfl ?_)⟩)⟩
  rw [sl_sl] at h2; exact hp S2 h2
/-! written -/
def okW (s : AS) (e : Nat) : Prop := (∀ j, j < 4 → srt (aLy s j)) ∧ (∀ j, j < 3 → (aLy s j).length ≤ e ∧ ∀ p ∈ aLy s j, okE p ∧ p.1.length ≤ 3 ∧ p.2.length ≤ 4) ∧ aNp s = 0 ∧ aNe s = 0
theorem okW_put {l e : Nat} {t b : Tx} (h : okW s e) (hl : l < 3) (hk : okE (t, b)) (h3 : t.length ≤ 3) (h4 : b.length ≤ 4) : okW (sLy s l (putF (aLy s l) t b)) (e + 1) := by
  obtain ⟨a1, a2, a3, a4⟩ := h
  refine ⟨fun j hj => ?_, fun j hj => ?_, a3, a4⟩
  · show srt (va_up (aLy s) l (putF (aLy s l) t b) j)
    by_cases q : j = l
    · rw [q, va_up_self]; exact (putF_srt (a1 l (by omega))).1
    · rw [va_up_ne _ _ q]; exact a1 j hj
  · show (va_up (aLy s) l (putF (aLy s l) t b) j).length ≤ e + 1 ∧ ∀ p ∈ va_up (aLy s) l (putF (aLy s l) t b) j, okE p ∧ p.1.length ≤ 3 ∧ p.2.length ≤ 4
    by_cases q : j = l
    · rw [q, va_up_self]
      refine ⟨?_, fun p hp => ?_⟩
      · rw [putF_length]
        have := (a2 l hl).1
        split <;> omega
      · rcases (putF_srt (a1 l (by omega))).2 p hp with z | z
        · rw [z]; exact ⟨hk, h3, h4⟩
        · exact (a2 l hl).2 p z
    · rw [va_up_ne _ _ q]
      have := a2 j hj
      exact ⟨by omega, this.2⟩
theorem wrL_le : ∀ (L : Ly), (∀ p ∈ L, p.1.length ≤ 3 ∧ p.2.length ≤ 4) → (wrL L).length ≤ 44 * L.length
  | [], _ => Nat.le_refl _
  | p :: L, h => by
    have h1 := wrL_le L (fun q hq => h q (by simp [hq]))
    have h2 := h p (by simp)
    have h3 := escT_len p.1
    have h4 := escT_len p.2
    have e : (wrL (p :: L)).length = (escT p.1).length + 1 + (escT p.2).length + 1 + (wrL L).length := by simp [wrL, wrE]; omega
    rw [e, List.length_cons]
    omega
/-- the loop over the layers -/
theorem l_written2 {post : Int32 → hS → Prop} (hp : ∀ s' S', cRep u d s' S' → okW s' 4 → post 1 S') : ∀ (j l : Nat) (s : AS) (S : hS) (mc ms : Nat), l + j = 3 → 4600 * j ≤ mc → 54400 * j ≤ ms → okW s 4 → cRep u d s S → w_L_written_100 u post (j + 1) (some d) 1 (nI l) S mc ms := by
  intro j
  induction j with
  | zero =>
    intro l s S mc ms hl _ _ hW hR
    have e : l = 3 := by omega
    subst e
    rw [w_L_written_100]
    exact cT (by decide) ⟨by decide, hp s S hR hW⟩
  | succ j ih =>
    intro l s S mc ms hl h1 h2 hW hR
    rw [w_L_written_100]
    have hl3 : l < 3 := by omega
    obtain ⟨a1, a2, a3, a4⟩ := id hW
    obtain ⟨b1, b2⟩ := a2 l hl3
    have b3 := wrL_le (aLy s l) (fun p hp => (b2 p hp).2)
    obtain ⟨r1, r2, r3⟩ := rt_load (fun e he => (b2 e he).1) (a1 l (by omega)) (show (aLy s l).length ≤ 40 by omega)
    refine cF (nI_ge (b := 3) hl3 (by decide)) (cF (by decide) ⟨d, rfl, hR.o, 1150, 13600, by omega, by omega, ?_⟩)
    refine z_write (by omega) (by omega) (by omega) (by omega) hR (fun S1 h1 => ⟨h1.o, c_tapeLength h1 (dT rfl ⟨h1.o, 1150, 13600, by omega, by omega, ?_⟩)⟩)
    refine z_brokenAt (by omega) (by omega) r1 h1 (fun S2 h2 => dT rfl ⟨h2.o, ?_⟩)
    have b4 : (aLy s 3).length < 2 ^ 31 := by
      obtain ⟨mm, ad, lv, hq⟩ := hR
      have := (hq.2.2.2.2.2.1 3 (by omega)).2.2.1
      omega
    refine z_empty (l := 3) (by omega) h2 (fun S3 h3 => cF (nI_pos b4) ⟨h3.o, 1150, 13600, by omega, by omega, ?_⟩)
    have e3 : aLy (sLy (sTp s (wrL (aLy s l))) 3 []) 3 = [] := rfl
    refine z_load (l := 3) (L := aLy s l) (by omega) (by omega) (by omega) r1 (by rw [e3]; exact r3) h3 (fun S4 h4 => ⟨h4.o, ?_⟩)
    have e4 : aLy (sLy (sLy (sTp s (wrL (aLy s l))) 3 []) 3 (aLy s l)) l = aLy s l := by
      show va_up (va_up (aLy s) 3 []) 3 (aLy s l) l = _
      rw [va_up_ne _ _ (by omega), va_up_ne _ _ (by omega)]
    have e5 : aLy (sLy (sLy (sTp s (wrL (aLy s l))) 3 []) 3 (aLy s l)) 3 = aLy s l := rfl
    refine z_size (l := l) (by omega) h4 ?_
    rw [e4]
    refine dT (congrArg nI r2) ⟨h4.o, z_alike (j := 3) (by omega) (by omega) (e4.trans e5.symm) h4 (dT rfl ⟨h4.o, z_digest (l := 3) (by omega) h4 ⟨h4.o, z_digest (l := l) (by omega) h4 (dT ?_ ?_)⟩⟩)⟩
    · rw [e4, e5]
    · rw [w_L_written_183]
      refine cF (by decide) ⟨h4.o, 1150, 13600, by omega, by omega, z_write (l := 3) (by omega) (by omega) (by omega) (by rw [e5]; omega) h4 (fun S5 h5 => ?_)⟩
      rw [e5] at h5 ⊢
      refine dT rfl (fun v e => ?_)
      rw [e, nI_1]
      refine ih (l + 1) _ S5 _ _ (by omega) (by omega) (by omega) ?_ h5
      refine ⟨fun k hk => ?_, fun k hk => ?_, a3, a4⟩
      · show srt (va_up (va_up (aLy s) 3 []) 3 (aLy s l) k)
        by_cases q : k = 3
        · rw [q, va_up_self]; exact a1 l (by omega)
        · rw [va_up_ne _ _ q, va_up_ne _ _ q]; exact a1 k hk
      · show (va_up (va_up (aLy s) 3 []) 3 (aLy s l) k).length ≤ 4 ∧ ∀ p ∈ va_up (va_up (aLy s) 3 []) 3 (aLy s l) k, okE p ∧ p.1.length ≤ 3 ∧ p.2.length ≤ 4
        rw [va_up_ne _ _ (by omega), va_up_ne _ _ (by omega)]; exact a2 k hk
theorem l_written {post : Int32 → hS → Prop} {mc ms : Nat} (hL : sL u < 2 ^ 30) (hR : cRep u d s S) (hW : okW s 0) (hmc : 50600 ≤ mc) (hms : 598400 ≤ ms)
    (hp : ∀ s' S', cRep u d s' S' → okW s' 4 → post 1 S') : w_L_written u post (some d) (some (sB u)) S mc ms := by
  have key : ∀ (j e : Nat) (s : AS) (S : hS) (mc ms : Nat), e + j = 4 → 9200 * j + 13800 ≤ mc → 108800 * j + 163200 ≤ ms → okW s e → cRep u d s S → w_L_written_4 u post (j + 1) (some d) (some (sB u)) 1 (nI e) S mc ms := by
    intro j
    induction j with
    | zero =>
      intro e s S mc ms he h1 h2 hW hR
      have q : e = 4 := by omega
      subst q
      rw [w_L_written_4]
      exact cT (by decide) ⟨4, l_written2 hp 3 0 s S mc ms (by omega) (by omega) (by omega) hW hR⟩
    | succ j ih =>
      intro e s S mc ms he h1 h2 hW hR
      rw [w_L_written_4]
      refine cF (nI_ge (b := 4) (by omega) (by decide)) (cF (by decide) (fun v ev => ?_))
      have hv : v = nI (1 + 9 * e) := by
        have e9 : (9 : Int32) * nI e = nI (9 * e) := pk_mul 9 e
        rw [ev, e9]
        exact nI_add 1 (9 * e)
      subst hv
      have e8 : nI (1 + 9 * e) + 8 = nI (1 + 9 * e + 8) := nI_lit rfl
      have e3 : nI (1 + 9 * e) + 3 = nI (1 + 9 * e + 3) := nI_lit rfl
      have em : nI e - nI e / 3 * 3 = nI (e % 3) := pk_rem (a := e) (d := 3) (by omega) (by omega) (by omega)
      rw [e8, e3, em]
      refine l_cell (by omega) hL (l_low (n := 4) rfl (by omega) (by omega) ⟨3450, 40800, by omega, by omega, ?_⟩)
      have k4 := lowN_lt (v := celF u (1 + 9 * e + 8)) (n := 4) (by omega)
      refine l_lays (i := 0) hL (by omega) (by omega) (by omega) hR (by omega) (by omega) (fun S1 r1 => cF (by decide) ?_)
      refine l_cell (by omega) hL (l_low (n := 5) rfl (by omega) (by omega) ⟨4600, 54400, by omega, by omega, ?_⟩)
      have k5 := lowN_lt (v := celF u (1 + 9 * e + 8) >>> (2 &&& 31)) (n := 5) (by omega)
      refine l_lays (i := 1) hL (by omega) (by omega) (by omega) r1 (by omega) (by omega) (fun S2 r2 => cF (by decide) ⟨d, rfl, r2.o, 1150, 13600, by omega, by omega, ?_⟩)
      have hm : e % 3 < 3 := Nat.mod_lt _ (by omega)
      have hlen := (hW.2.1 (e % 3) hm).1
      refine z_set (l := e % 3) (k := 0) (w := 1) (i := 2) (by omega) (by omega) (by omega) (by omega) (by omega) (by omega) ((sl_ne _ _ (by decide)).trans (sl_self _ _ _)) (sl_self _ _ _) (show (aLy s (e % 3)).length < 40 by omega) r2 (fun w S3 r3 => cF ?_ (fun v9 e9 => ?_))
      · refine nI_nle ?_ ?_
        · rw [putF_length]
          split
          · omega
          · rename_i q
            obtain ⟨p, hp⟩ := Option.ne_none_iff_exists'.mp q
            have := (findF_lt hp).1
            omega
        · rw [putF_length]
          have : (aLy s (e % 3)).length < 40 := by omega
          split
          · show (aLy s (e % 3)).length + 1 < 2 ^ 31; omega
          · show (aLy s (e % 3)).length < 2 ^ 31; omega
      · rw [e9, nI_1]
        refine ih (e + 1) _ S3 _ _ (by omega) (by omega) (by omega) ?_ r3
        exact okW_put (s := sSl (sSl (sSl s 0 _) 1 _) 2 w) hW hm ⟨sgT_lt, sgT_lt⟩ (by rw [sgT_len]; omega) (by rw [sgT_len]; omega)
  rw [w_L_written]
  exact ⟨5, key 4 0 s S mc ms (by omega) (by omega) (by omega) hW hR⟩
end CREP
