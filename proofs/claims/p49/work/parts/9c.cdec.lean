/-! THE CLASS: pairs are replaced -/
theorem decG_len {X : Nat → Nat} {to : Nat} : ∀ (n i : Nat) (t : Tx), t.length ≤ (decG X to n i t).2.length
  | 0, _, t => Nat.le_refl _
  | n + 1, i, t => by
    rw [decG]
    split
    · exact Nat.le_refl _
    · split
      · split
        · cases numF X (i + 2) to with
          | none => exact Nat.le_refl _
          | some v => have := decG_len (X := X) (to := to) n (i + 6) (t ++ [v]); rw [List.length_append, List.length_singleton] at this; show t.length ≤ (decG X to n (i + 6) (t ++ [v])).2.length; omega
        · have := decG_len (X := X) (to := to) n (i + 2) (t ++ [escC (X (i + 1))]); rw [List.length_append, List.length_singleton] at this; omega
      · have := decG_len (X := X) (to := to) n (i + 1) (t ++ [X i]); rw [List.length_append, List.length_singleton] at this; omega
theorem decG_len2 {X : Nat → Nat} {to : Nat} : ∀ (n i : Nat) (t : Tx), (decG X to n i t).2.length ≤ t.length + (to - i)
  | 0, _, t => by show t.length ≤ _; omega
  | n + 1, i, t => by
    rw [decG]
    split
    · show t.length ≤ _; omega
    · rename_i hlt
      split
      · split
        · cases numF X (i + 2) to with
          | none => show t.length ≤ _; omega
          | some v => have := decG_len2 (X := X) (to := to) n (i + 6) (t ++ [v]); rw [List.length_append, List.length_singleton] at this; show (decG X to n (i + 6) (t ++ [v])).2.length ≤ _; omega
        · have := decG_len2 (X := X) (to := to) n (i + 2) (t ++ [escC (X (i + 1))]); rw [List.length_append, List.length_singleton] at this; omega
      · have := decG_len2 (X := X) (to := to) n (i + 1) (t ++ [X i]); rw [List.length_append, List.length_singleton] at this; omega
theorem c_characterFor {post : Int32 → Prop} {c : Nat} (hc : c < 127) (hp : post (nI (escC c))) : q_X1_characterFor post (nI c) := by
  rw [q_X1_characterFor]
  refine ⟨fun z => ?_, fun z => ?_, fun z => ?_, fun z1 z2 z3 => ?_⟩
  · have := ne10 (b := 110) hc (by omega) z
    subst this; exact hp
  · have := ne10 (b := 114) hc (by omega) z
    subst this; exact hp
  · have := ne10 (b := 116) hc (by omega) z
    subst this; exact hp
  · have e : escC c = c := by
      unfold escC
      rw [if_neg (fun q => z3 (by rw [q]; rfl)), if_neg (fun q => z1 (by rw [q]; rfl)), if_neg (fun q => z2 (by rw [q]; rfl))]
    rw [e] at hp
    rw [u16c (by omega)]
    exact ⟨ch_nar _ (by omega), hp⟩
theorem c_digitNumber {post : Int32 → Prop} {c : Nat} (hc : c < 127) (h1 : ∀ v, hexF c = some v → post (nI v)) (h0 : hexF c = none → post (-1)) : q_X1_digitNumber post (nI c) := by
  have lt : ∀ k, k < 256 → (nI c < nI k ↔ c < k) := fun k hk => nI_ltI (by omega) (by omega)
  have gt : ∀ k, k < 256 → (nI k < nI c ↔ k < c) := fun k hk => nI_ltI (by omega) (by omega)
  have A : 65 ≤ c → c ≤ 70 → post ((nI c - 65) + 10) := fun a b => by
    rw [show nI c - 65 = nI (c - 65) from pk_sub (b := 65) a, show nI (c - 65) + 10 = nI (c - 65 + 10) from nI_add _ 10]
    refine h1 _ ?_
    unfold hexF
    rw [if_neg (by omega), if_neg (by omega), if_pos ⟨a, b⟩]
    congr 1; omega
  have B : 97 ≤ c → c ≤ 102 → post ((nI c - 97) + 10) := fun a b => by
    rw [show nI c - 97 = nI (c - 97) from pk_sub (b := 97) a, show nI (c - 97) + 10 = nI (c - 97 + 10) from nI_add _ 10]
    refine h1 _ ?_
    unfold hexF
    rw [if_neg (by omega), if_pos ⟨a, b⟩]
    congr 1; omega
  have C : 48 ≤ c → c ≤ 57 → post (nI c - 48) := fun a b => by
    rw [show nI c - 48 = nI (c - 48) from pk_sub (b := 48) a]
    refine h1 _ ?_
    unfold hexF
    rw [if_pos ⟨a, b⟩]
  have Z : ¬ (48 ≤ c ∧ c ≤ 57) → ¬ (97 ≤ c ∧ c ≤ 102) → ¬ (65 ≤ c ∧ c ≤ 70) → post (-1) := fun a b e => by
    refine h0 ?_
    unfold hexF
    rw [if_neg a, if_neg b, if_neg e]
  have l48 := lt 48 (by omega)
  have l97 := lt 97 (by omega)
  have l65 := lt 65 (by omega)
  have g70 := gt 70 (by omega)
  have g102 := gt 102 (by omega)
  have g57 := gt 57 (by omega)
  have r65 : ¬ (48 ≤ c ∧ c ≤ 57) → ¬ (97 ≤ c ∧ c ≤ 102) → ((nI c < 65 → post (-1)) ∧ (¬ nI c < 65 → (((70 : Int32) < nI c → post (-1)) ∧ (¬ (70 : Int32) < nI c → post ((nI c - 65) + 10))))) := fun a b => by
    refine ⟨fun z => Z a b ?_, fun z => ⟨fun z2 => Z a b ?_, fun z2 => A ?_ ?_⟩⟩
    · have := l65.mp z; omega
    · have := g70.mp z2; omega
    · rcases Nat.lt_or_ge c 65 with q | q
      · exact absurd (l65.mpr q) z
      · exact q
    · rcases Nat.lt_or_ge 70 c with q | q
      · exact absurd (g70.mpr q) z2
      · exact q
  have r97 : ¬ (48 ≤ c ∧ c ≤ 57) → ((nI c < 97 → ((nI c < 65 → post (-1)) ∧ (¬ nI c < 65 → (((70 : Int32) < nI c → post (-1)) ∧ (¬ (70 : Int32) < nI c → post ((nI c - 65) + 10)))))) ∧ (¬ nI c < 97 → (((102 : Int32) < nI c → ((nI c < 65 → post (-1)) ∧ (¬ nI c < 65 → (((70 : Int32) < nI c → post (-1)) ∧ (¬ (70 : Int32) < nI c → post ((nI c - 65) + 10)))))) ∧ (¬ (102 : Int32) < nI c → post ((nI c - 97) + 10))))) := fun a => by
    refine ⟨fun z => r65 a ?_, fun z => ⟨fun z2 => r65 a ?_, fun z2 => B ?_ ?_⟩⟩
    · have := l97.mp z; omega
    · have := g102.mp z2; omega
    · rcases Nat.lt_or_ge c 97 with q | q
      · exact absurd (l97.mpr q) z
      · exact q
    · rcases Nat.lt_or_ge 102 c with q | q
      · exact absurd (g102.mpr q) z2
      · exact q
  rw [q_X1_digitNumber]
  refine ⟨fun z => r97 ?_, fun z => ⟨fun z2 => r97 ?_, fun z2 => C ?_ ?_⟩⟩
  · have := l48.mp z; omega
  · have := g57.mp z2; omega
  · rcases Nat.lt_or_ge c 48 with q | q
    · exact absurd (l48.mpr q) z
    · exact q
  · rcases Nat.lt_or_ge 57 c with q | q
    · exact absurd (g57.mpr q) z2
    · exact q
section CREP
variable {u : hU} {d : Nat} {mm : List Nat} {ad : Nat → Nat} {lv : Nat → Prop} {s : AS} {S : hS} {N N' : Nat} {t' : Tx} {f l k v : Int32} {g : Nat → Int32} {T : Tx} {Lt : Ly}
theorem c_unicodeNumber {post : Int32 → Prop} {pl : List Nat} {a to : Nat} (h : cTp u d mm ad lv s Lt N t' N' S (nI pl.length) l k v g) (hE : pE (aTp s) pl g) (h3 : pl.length ≤ 300) (hto : to ≤ pl.length) (ha : a ≤ 600)
    (h1 : ∀ w, numF (eX (aTp s) pl) a to = some w → post (nI w)) (h0 : numF (eX (aTp s) pl) a to = none → ∀ r : Int32, (r = -1 ∨ ∃ w, w < 65536 ∧ 255 < w ∧ r = nI w) → post r) : w_X7_unicodeNumber u post (ad 1) (nI a) (nI to) S := by
  have hc := h.2.1.2.1.2.1
  rw [w_X7_unicodeNumber, show nI a + 4 = nI (a + 4) from nI_add a 4]
  unfold numF at h1 h0
  refine ⟨fun z => ⟨5, ?_⟩, fun z => ?_⟩
  · have hle := (nI_leI (by omega) (by omega)).mp z
    rw [if_pos hle] at h1 h0
    have key : ∀ k0 acc p, k0 ≤ 4 → p + k0 = a + 4 → (k0 = 4 → acc < 1) → (k0 = 3 → acc < 16) → (k0 = 2 → acc < 256) → (k0 = 1 → acc < 4096) → (k0 = 0 → acc < 65536) → numG (eX (aTp s) pl) k0 acc p = numG (eX (aTp s) pl) 4 0 a → w_X7_unicodeNumber_14 u post (ad 1) (k0 + 1) (nI a) (nI acc) (nI p) S := by
      intro k0
      induction k0 with
      | zero =>
        intro acc p hk hpk b4 b3 b2 b1 b0 hG
        have b0 := b0 rfl
        rw [w_X7_unicodeNumber_14, show nI a + 4 = nI (a + 4) from nI_add a 4]
        rw [← hG, numG] at h1 h0
        refine ⟨fun _ => ?_, fun z => absurd (nI_le (by omega) (by omega)) z⟩
        by_cases q : acc ≤ 255
        · rw [if_pos q] at h1; exact h1 acc rfl
        · rw [if_neg q] at h0; exact h0 rfl _ (Or.inr ⟨acc, b0, by omega, rfl⟩)
      | succ k0 ih =>
        intro acc p hk hpk b4 b3 b2 b1 b0 hG
        have hlt : p < pl.length := by omega
        have hcx : eX (aTp s) pl p < 127 := ch_lt hc _
        rw [w_X7_unicodeNumber_14, show nI a + 4 = nI (a + 4) from nI_add a 4]
        rw [numG] at hG
        refine ⟨fun z => absurd z (nI_ge (by omega) (by omega)), fun _ => ⟨h.fs, c_entrySign h hE h3 (by omega) (fun _ => c_digitNumber hcx (fun w hw => ⟨fun _ v11 e11 v12 e12 => ?_, fun z => ?_⟩) (fun hw => ⟨fun z => absurd rfl z, fun _ => ?_⟩)) (fun q => absurd q (by omega))⟩⟩
        · rw [hw] at hG
          have hv := (hexF_lt hw).1
          have e16 : (16 : Int32) * nI acc + nI w = nI (16 * acc + w) := by
            rw [show (16 : Int32) * nI acc = nI (16 * acc) from pk_mul 16 acc, nI_add]
          rw [e11, e12, e16, nI_1]
          refine ih (16 * acc + w) (p + 1) (by omega) (by omega) (fun q => by omega) (fun q => ?_) (fun q => ?_) (fun q => ?_) (fun q => ?_) hG
          · have := b4 (by omega); omega
          · have := b3 (by omega); omega
          · have := b2 (by omega); omega
          · have := b1 (by omega); omega
        · have hv := (hexF_lt hw).1
          exact absurd (show (-1 : Int32) < 0 by decide) (by rw [← z]; exact nI_pos (by omega))
        · rw [hw] at hG
          have hG' : none = numG (eX (aTp s) pl) 4 0 a := hG
          rw [← hG'] at h0
          exact h0 rfl _ (Or.inl rfl)
    exact key 4 0 a (by omega) (by omega) (fun _ => by omega) (fun q => by omega) (fun q => by omega) (fun q => by omega) (fun q => by omega) rfl
  · rw [if_neg (fun q => z (nI_le q (by omega)))] at h0
    exact h0 rfl _ (Or.inl rfl)
/-- what is unescaped has changed -/
theorem cTp.unesc {b' N2 : Nat} {S' : hS} {t2 : Tx} (h : cTp u d mm ad lv s Lt N t' N' S f l k v g) (hg : gS u S (ad 4) (ad 5) S' b') (hb : bS u S' (ad 4) b' t2 N2) (h16 : 16 ≤ N2) (h602 : N2 ≤ 602) :
    ∃ mm' ad', cTp u d mm' ad' lv s Lt N t2 N2 S' f l k v g ∧ (∀ c, c ≠ 5 → ad' c = ad c) ∧ ad' 5 = b' ∧ kp mm mm' S S' := by
  obtain ⟨h1, ⟨hl, hbd, h2, h3, h4, h5⟩, h6⟩ := h
  obtain ⟨mm', ad', hw', hs, e1, e2⟩ := h1.grow (hl 4 (by omega) (by omega)) (hl 5 (by omega) (by omega)) (by omega) hg hb.2.2.1
  have a' : ∀ c, c ≠ 5 → ad' c = ad c := fun c q => hs.2.2.1 c q
  have c' : ∀ c, lv c → c ≠ 4 → c ≠ 5 → S'.2 (ad' c) = S.2 (ad c) := fun c q q1 q2 => hs.2.2.2 c q (by omega)
  have hD : tapD u S' ad' lv (aTp s) N t2 N2 f l k v g := by
    refine ⟨hl, ⟨hbd.1, hbd.2.1, hbd.2.2.1, h16, h602⟩, ?_, ?_, by rw [e1, e2]; exact hb, ?_⟩
    · rw [c' 1 (hl 1 (by omega) (by omega)) (by omega) (by omega), a' 2 (by omega), a' 4 (by omega), a' 6 (by omega)]; exact h2
    · have q2 := c' 2 (hl 2 (by omega) (by omega)) (by omega) (by omega)
      have q3 := c' 3 (hl 3 (by omega) (by omega)) (by omega) (by omega)
      rw [a' 2 (by omega)] at q2 ⊢
      rw [a' 3 (by omega)] at q3 ⊢
      exact h3.keep hs.1.1 q2 q3
    · rw [c' 6 (hl 6 (by omega) (by omega)) (by omega) (by omega)]; exact h5
  exact ⟨mm', ad', ⟨h1.tape hw' hs (fun c q => Or.inr q) (fun c q => by omega) ⟨N, t2, N2, f, l, k, v, g, hD⟩, hD, h6.keep hs ⟨by omega, by omega⟩ ⟨by omega, by omega⟩⟩, a', e2, hs.1⟩
theorem cTp.still {S' : hS} (h : cTp u d mm ad lv s Lt N t' N' S f l k v g) (hf : fx [] S S') : cTp u d mm ad lv s Lt N t' N' S' f l k v g := by
  obtain ⟨h1, hD, h6⟩ := h
  have hs : stp mm mm ad ad lv lv S S' (fun _ => False) (fun _ => False) := stp.at h1.2.1 hf.1 (fun a ha _ => hf.2 a ha (by simp)) (fun c hc => absurd hc (fun z => z))
  exact ⟨h1.still hf, hD.keep hs (fun c z => absurd z (fun z => z)) (fun c z => absurd z (fun z => z)), h6.keep hs ⟨fun z => z, fun z => z⟩ ⟨fun z => z, fun z => z⟩⟩
theorem c_unescape {post : Int32 → hS → Prop} {pl : List Nat} {i to mc ms : Nat} {Q : Nat → Prop} (h : cTp u d mm ad lv s Lt N t' N' S (nI pl.length) l k v g) (hE : pE (aTp s) pl g) (h3 : pl.length ≤ 300) (hto : to ≤ pl.length) (hi : i ≤ to) (hQ : Q i)
    (hQ1 : ∀ i, Q i → i < to → eX (aTp s) pl i ≠ 92 → Q (i + 1)) (hQ2 : ∀ i, Q i → i < to → eX (aTp s) pl i = 92 → i + 1 < to ∧ Q (i + 2)) (hm : N' < (decA (eX (aTp s) pl) i to).2.length → 36 ≤ mc ∧ 1172 ≤ ms)
    (hp : ∀ S' mm' ad' N2, cTp u d mm' ad' lv s Lt N (decA (eX (aTp s) pl) i to).2 N2 S' (nI pl.length) l k v g → (∀ c, c ≠ 5 → ad' c = ad c) → kp mm mm' S S' → (N2 = N' ∨ 2 * N' + 2 ≤ N2) → ((decA (eX (aTp s) pl) i to).2.length ≤ N' → N2 = N') → post (brI pl (decA (eX (aTp s) pl) i to).1) S') : w_X7_unescape u post (ad 1) (nI i) (nI to) S mc ms := by
  have hc := h.2.1.2.1.2.1
  have hN := h.2.1.2.1.2.2.2
  have hLf : (decA (eX (aTp s) pl) i to).2.length ≤ 300 := by
    have : (decA (eX (aTp s) pl) i to).2.length ≤ [].length + (to - i) := decG_len2 _ _ _
    simp at this; omega
  rw [w_X7_unescape]
  refine ⟨_, h.o.r rfl, _, rfl, h.2.1.2.2.2.2.1.fs, 0, 0, by omega, by omega, sb_setLength0 h.2.1.2.2.2.2.1 hN.2 (fun S10 hf hb10 => ⟨to + 1, ?_⟩)⟩
  have hg10 : gS u S (ad 4) (ad 5) S10 (ad 5) := ⟨hf.wide (fun y hy => Or.inl (by rw [List.mem_singleton.mp hy]; simp)), Or.inl rfl⟩
  have key : ∀ n i1 t S1 b1 N1 mc ms, to < i1 + n → i1 ≤ to → Q i1 → gS u S (ad 4) (ad 5) S1 b1 → bS u S1 (ad 4) b1 t N1 → gBd N' (decA (eX (aTp s) pl) i to).2.length N1 mc ms → decG (eX (aTp s) pl) to n i1 t = decA (eX (aTp s) pl) i to → w_X7_unescape_10 u post (ad 1) n (nI to) (nI i1) S1 mc ms := by
    intro n
    induction n with
    | zero => intro i1 t S1 b1 N1 mc ms h1 h2; omega
    | succ n ih =>
      intro i1 t S1 b1 N1 mc ms h1 h2 hQi hg1 hb1 hB1 hG
      obtain ⟨mm1, ad1, hh, a1, a5, akp⟩ := h.unesc hg1 hb1 hB1.2.2.1.1 hB1.2.2.1.2
      have a4 : ad1 4 = ad 4 := a1 4 (by omega)
      have a11 : ad1 1 = ad 1 := a1 1 (by omega)
      have fin : (decA (eX (aTp s) pl) i to).2 = t → post (brI pl (decA (eX (aTp s) pl) i to).1) S1 := by
        intro e
        rw [← e] at hh
        refine hp S1 mm1 ad1 N1 hh a1 akp hB1.2.1 hB1.1
      have app : ∀ (c j : Nat) (K : Int32 → Int32), c < 256 → j ≤ to → to < j + n → Q j → K (nI i1) = nI j → decG (eX (aTp s) pl) to n j (t ++ [c]) = decA (eX (aTp s) pl) i to → (∃ k37 n38 : Nat, k37 ≤ mc ∧ n38 ≤ ms ∧ (w_J4_append_cf u (fun r36 S42 => (∀ v44 : Int32, v44 = K (nI i1) → w_X7_unescape_10 u post (ad 1) n (nI to) v44 S42 (mc - k37) (ms - n38))) (ad 4) (nI c) S1 k37 n38)) := by
        intro c j K hcc hj hjn hQj hK hG'
        have hlen := decG_len (X := eX (aTp s) pl) (to := to) n j (t ++ [c])
        rw [hG', List.length_append, List.length_singleton] at hlen
        refine ga hg1 hb1 hB1 hlen hcc (fun k n S2 b2 N2 hg2 hb2 hB2 v ev => ?_)
        rw [ev, hK]
        exact ih j _ S2 b2 N2 _ _ hjn hj hQj hg2 hb2 hB2 hG'
      rw [decG] at hG
      rw [← a11, w_X7_unescape_10]
      refine ⟨fun z => ?_, fun z => ⟨hh.fs, ?_⟩⟩
      · have hge := (nI_leI (by omega) (by omega)).mp z
        rw [if_pos hge] at hG
        have := fin (by rw [← hG])
        rw [← hG] at this; exact this
      · have hlt : i1 < to := by
          rcases Nat.lt_or_ge i1 to with q | q
          · exact q
          · exact absurd (nI_le q (by omega)) z
        rw [if_neg (by omega)] at hG
        have hcx : eX (aTp s) pl i1 < 127 := ch_lt hc _
        refine c_entrySign hh hE h3 (by omega) (fun _ => ⟨fun z1 => ⟨hh.fs, ?_⟩, fun z1 => ⟨some (ad 4), by rw [← a4]; exact hh.o.r rfl, ad 4, rfl, hb1.fs, ?_⟩⟩) (fun q => absurd q (by omega))
        · have e9 := ne10 (b := 92) hcx (by omega) z1
          obtain ⟨q1, q2⟩ := hQ2 i1 hQi hlt e9
          rw [if_pos e9] at hG
          have hcx2 : eX (aTp s) pl (i1 + 1) < 127 := ch_lt hc _
          rw [nI_1]
          refine c_entrySign hh hE h3 (by omega) (fun _ => ⟨fun z2 => ⟨hh.fs, ?_⟩, fun z2 => ⟨some (ad 4), by rw [← a4]; exact hh.o.r rfl, hh.fs, c_entrySign hh hE h3 (by omega) (fun _ => c_characterFor hcx2 ⟨ad 4, rfl, hb1.fs, ?_⟩) (fun q => absurd q (by omega))⟩⟩) (fun q => absurd q (by omega))
          · have e117 := ne10 (b := 117) hcx2 (by omega) z2
            rw [if_pos e117] at hG
            have k106 : numF (eX (aTp s) pl) (i1 + 2) to = none → w_X7_unescape_106 u post (ad1 1) (nI i1) S1 mc ms := by
              intro hn
              rw [hn] at hG
              rw [w_X7_unescape_106]
              refine ⟨hh.fs, c_tapePlace hh hE h3 (by omega) (fun _ => ?_) (fun q => absurd q (by omega))⟩
              have hG' : (some i1, t) = decA (eX (aTp s) pl) i to := hG
              have := fin (by rw [← hG'])
              rw [← hG'] at this; exact this
            rw [show nI i1 + 2 = nI (i1 + 2) from nI_add i1 2]
            refine c_unicodeNumber hh hE h3 hto (by omega) (fun w hw => ?_) (fun hn r hr => ?_)
            · have h4 : i1 + 2 + 4 ≤ to := by
                unfold numF at hw
                split at hw
                · assumption
                · exact absurd hw (by simp)
              have hNG : numG (eX (aTp s) pl) 4 0 (i1 + 2) = some w := by
                unfold numF at hw
                rw [if_pos h4] at hw; exact hw
              obtain ⟨g1, g2⟩ := numG_some 4 0 (i1 + 2) hNG
              have r0 := hQ1 (i1 + 2) q2 (by omega) (g2 0 (by omega))
              have r1 := hQ1 (i1 + 3) r0 (by omega) (g2 1 (by omega))
              have r2 := hQ1 (i1 + 4) r1 (by omega) (g2 2 (by omega))
              have r3 := hQ1 (i1 + 5) r2 (by omega) (g2 3 (by omega))
              rw [hw] at hG
              refine ⟨fun z3 => absurd (show (-1 : Int32) < 0 by decide) (by rw [← z3]; exact nI_pos (by omega)), fun _ => ⟨fun _ => ⟨some (ad 4), by rw [← a4]; exact hh.o.r rfl, ad 4, rfl, hb1.fs, ?_⟩, fun z3 => absurd (nI_le (b := 255) g1 (by omega)) z3⟩⟩
              rw [u16c (by omega), a11]
              exact app w (i1 + 6) (fun x => x + 6) (by omega) (by omega) (by omega) r3 (nI_add i1 6) hG
            · refine ⟨fun _ => k106 hn, fun z3 => ⟨fun z4 => ?_, fun _ => k106 hn⟩⟩
              rcases hr with hr | ⟨w, w1, w2, hr⟩
              · exact absurd hr z3
              · rw [hr] at z4
                have := (nI_leI (b := 255) (by omega) (by omega)).mp z4
                omega
          · have n117 : eX (aTp s) pl (i1 + 1) ≠ 117 := fun q => z2 (by rw [q]; rfl)
            rw [if_neg n117] at hG
            rw [a11]
            exact app (escC (eX (aTp s) pl (i1 + 1))) (i1 + 2) (fun x => x + 2) (escC_lt hcx2) (by omega) (by omega) q2 (nI_add i1 2) hG
        · have n9 : eX (aTp s) pl i1 ≠ 92 := fun q => z1 (by rw [q]; rfl)
          rw [if_neg n9] at hG
          rw [u16c (by omega), a11]
          exact app (eX (aTp s) pl i1) (i1 + 1) (fun x => x + 1) (by omega) (by omega) (by omega) (hQ1 i1 hQi hlt n9) (nI_1 i1) hG
  refine key (to + 1) i [] S10 (ad 5) N' mc ms (by omega) hi hQ hg10 hb10 ⟨fun _ => rfl, Or.inl rfl, hN, hLf, fun q => ?_⟩ rfl
  have := hm q
  unfold gC gM
  omega
end CREP
