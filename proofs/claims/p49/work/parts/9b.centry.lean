/-! THE CLASS: an entry is read -/
theorem cont_end {T : Tx} {n : Nat} {pl : List Nat} : contF T (n + 1) true T.length pl = (pl, T.length + 1) := by
  have e1 : endL T T.length = T.length := scan_ge (Nat.le_refl _)
  have e2 : firstL T T.length T.length = T.length := scan_ge (Nat.le_refl _)
  have e3 : slR T T.length T.length = 0 := slR_0
  have e4 : lineP T T.length T.length = [] := by
    unfold lineP lastL
    rw [e3, if_neg (by omega), Nat.sub_self]; rfl
  have e5 : nextL T T.length = T.length + 1 := if_pos (Nat.le_refl _)
  conv => lhs; unfold contF
  rw [if_neg (by rintro (q | q); exact absurd q (by simp); omega), e1, e2, e3, e4, e5, List.append_nil]
  show contF T n false (T.length + 1) pl = _
  cases n with
  | zero => rfl
  | succ n => unfold contF; rw [if_pos (Or.inl rfl)]
theorem cont_stop {T : Tx} {n : Nat} {b : Bool} {p : Nat} {pl : List Nat} (h : b = false ∨ T.length < p) : contF T n b p pl = (pl, p) := by
  cases n with
  | zero => rfl
  | succ n => unfold contF; rw [if_pos h]
/-- the class stops at the end of the tape, the reference behind it -/
def sim (T : Tx) (pc p : Nat) : Prop := pc = p ∨ (pc = T.length ∧ p = T.length + 1)
section CREP
variable {u : hU} {d : Nat} {mm : List Nat} {ad : Nat → Nat} {lv : Nat → Prop} {s : AS} {S : hS} {N N' : Nat} {t' : Tx} {f l k v : Int32} {g : Nat → Int32} {T : Tx} {Lt : Ly}
theorem c_cont {post : hS → Prop} (hp0 : ∀ S' g' pc pl', cTp u d mm ad lv s Lt N t' N' S' (nI pl'.length) (nI pc) k v g' → pE (aTp s) pl' g' → post S' → post S') : ∀ n (b : Bool) p (pl : List Nat) S g x, (aTp s).length + 1 < p + n → p ≤ (aTp s).length + 1 → x ≤ p → pl.length ≤ p → cTp u d mm ad lv s Lt N t' N' S (nI pl.length) (nI p) k v g → pE (aTp s) pl g →
    (∀ S' g' pc, cTp u d mm ad lv s Lt N t' N' S' (nI (contF (aTp s) n b p pl).1.length) (nI pc) k v g' → pE (aTp s) (contF (aTp s) n b p pl).1 g' → sim (aTp s) pc (contF (aTp s) n b p pl).2 → post S') → w_X7_readEntryLines_65 u post (ad 1) n (if b then 1 else 0) (nI x) S := by
  intro n
  induction n with
  | zero => intro b p pl S g x h1 h2; omega
  | succ n ih =>
    intro b p pl S g x h1 h2 hx hpl h hE hp
    have hl := h.2.1.2.1.1
    rw [w_X7_readEntryLines_65]
    refine ⟨fun z => ?_, fun z => ⟨fun zb => ?_, fun zb => ⟨_, h.o.i rfl, _, h.o.r rfl, _, rfl, h.b.fs, sb_len h.b ⟨fun z2 => ?_, fun z2 => ?_⟩⟩⟩⟩
    · have hx3 := (nI_ltI (a := 300) (by omega) (by omega)).mp z
      rw [cont_stop (Or.inr (by omega))] at hp
      exact hp S g p h hE (Or.inl rfl)
    · have hb : b = false := by cases b with
        | false => rfl
        | true => exact absurd zb (by decide)
      rw [cont_stop (Or.inl hb)] at hp
      exact hp S g p h hE (Or.inl rfl)
    · have hb : b = true := by cases b with
        | false => exact absurd rfl zb
        | true => rfl
      subst hb
      have hge := (nI_leI (by omega) (by omega)).mp z2
      by_cases q : p = (aTp s).length
      · subst q
        rw [cont_end] at hp
        exact hp S g _ h hE (Or.inr ⟨rfl, rfl⟩)
      · rw [cont_stop (Or.inr (by omega))] at hp
        exact hp S g p h hE (Or.inl rfl)
    · have hb : b = true := by cases b with
        | false => exact absurd rfl zb
        | true => rfl
      subst hb
      have hlt : p < (aTp s).length := by
        rcases Nat.lt_or_ge p (aTp s).length with q | q
        · exact q
        · exact absurd (nI_le q (by omega)) z2
      have b1 : p ≤ endL (aTp s) p ∧ endL (aTp s) p ≤ (aTp s).length := scan_b (by omega)
      have b2 : p ≤ firstL (aTp s) p (endL (aTp s) p) ∧ firstL (aTp s) p (endL (aTp s) p) ≤ endL (aTp s) p := scan_b b1.1
      have b3 := nextL_b b1.2
      have b4 := lastL_b (T := aTp s) b2.2
      have est : contF (aTp s) (n + 1) true p pl = contF (aTp s) n (slR (aTp s) (firstL (aTp s) p (endL (aTp s) p)) (endL (aTp s) p) % 2 == 1) (nextL (aTp s) (endL (aTp s) p)) (pl ++ lineP (aTp s) (firstL (aTp s) p (endL (aTp s) p)) (endL (aTp s) p)) := by
        conv => lhs; unfold contF
        rw [if_neg (by rintro (q | q); exact absurd q (by simp); omega)]
      rw [est] at hp
      refine ⟨h.fs, c_lineEnd h (by omega) ⟨h.fs, c_skipBlanks h b1.1 b1.2 ⟨h.fs, c_takeLine h hE b2.2 b1.2 (by omega) (fun S72 g72 h72 E72 => ⟨h72.fs, c_behindLineEnd h72 b1.2 ⟨_, h72.o, by simp, fun S82 e82 w ew => ?_⟩⟩)⟩⟩⟩
      have h82 := h72.set e82
      have hlen : (pl ++ lineP (aTp s) (firstL (aTp s) p (endL (aTp s) p)) (endL (aTp s) p)).length = pl.length + (lastL (aTp s) (firstL (aTp s) p (endL (aTp s) p)) (endL (aTp s) p) - firstL (aTp s) p (endL (aTp s) p)) := by
        rw [List.length_append]; unfold lineP; rw [rg_len]
      rw [ew, nI_1]
      have eb : (if slR (aTp s) (firstL (aTp s) p (endL (aTp s) p)) (endL (aTp s) p) % 2 = 1 then (1 : Int32) else 0) = if (slR (aTp s) (firstL (aTp s) p (endL (aTp s) p)) (endL (aTp s) p) % 2 == 1) then 1 else 0 := by
        by_cases q : slR (aTp s) (firstL (aTp s) p (endL (aTp s) p)) (endL (aTp s) p) % 2 = 1
        · rw [if_pos q, if_pos (by simpa using q)]
        · rw [if_neg q, if_neg (by simpa using q)]
      rw [eb]
      exact ih _ _ _ S82 g72 (x + 1) (by omega) b3.2 (by omega) (by rw [hlen]; omega) h82 E72 hp
theorem c_readEntryLines {post : hS → Prop} {p : Nat} (h : cTp u d mm ad lv s Lt N t' N' S (nI 0) (nI p) k v g) (hlt : p < (aTp s).length)
    (hp : ∀ S' g' pc, cTp u d mm ad lv s Lt N t' N' S' (nI (entF (aTp s) p).1.length) (nI pc) k v g' → pE (aTp s) (entF (aTp s) p).1 g' → sim (aTp s) pc (entF (aTp s) p).2 → post S') : w_X7_readEntryLines u post (ad 1) S := by
  have hl := h.2.1.2.1.1
  have hc := h.2.1.2.1.2.1
  have hE : pE (aTp s) [] g := ⟨fun x hx => absurd hx (by simp), fun i hi => absurd hi (by simp)⟩
  have b1 : p ≤ endL (aTp s) p ∧ endL (aTp s) p ≤ (aTp s).length := scan_b (by omega)
  have b2 : p ≤ firstL (aTp s) p (endL (aTp s) p) ∧ firstL (aTp s) p (endL (aTp s) p) ≤ endL (aTp s) p := scan_b b1.1
  have b3 := nextL_b b1.2
  have b4 := lastL_b (T := aTp s) b2.2
  have k36 : (ch (aTp s) (firstL (aTp s) p (endL (aTp s) p)) = 35 ∨ ch (aTp s) (firstL (aTp s) p (endL (aTp s) p)) = 33) → w_X7_readEntryLines_36 u post (ad 1) (nI (endL (aTp s) p)) S := by
    intro hq
    have e : entF (aTp s) p = ([], nextL (aTp s) (endL (aTp s) p)) := if_pos (Or.inr hq)
    rw [e] at hp
    rw [w_X7_readEntryLines_36]
    exact ⟨h.fs, c_behindLineEnd h b1.2 ⟨_, h.o, by simp, fun S32 e32 => hp S32 g _ (h.set e32) hE (Or.inl rfl)⟩⟩
  have k46 : ¬ (firstL (aTp s) p (endL (aTp s) p) < endL (aTp s) p ∧ (ch (aTp s) (firstL (aTp s) p (endL (aTp s) p)) = 35 ∨ ch (aTp s) (firstL (aTp s) p (endL (aTp s) p)) = 33)) → w_X7_readEntryLines_46 u post (ad 1) (nI (endL (aTp s) p)) (nI (firstL (aTp s) p (endL (aTp s) p))) S := by
    intro hq
    rw [w_X7_readEntryLines_46]
    refine ⟨h.fs, c_takeLine (pl := []) h hE b2.2 b1.2 (by simp) (fun S35 g35 h35 E35 => ⟨h35.fs, c_behindLineEnd h35 b1.2 ⟨_, h35.o, by simp, fun S45 e45 => ⟨(aTp s).length + 2, ?_⟩⟩⟩)⟩
    have h45 := h35.set e45
    rw [List.nil_append] at h45 E35
    have eb : (if slR (aTp s) (firstL (aTp s) p (endL (aTp s) p)) (endL (aTp s) p) % 2 = 1 then (1 : Int32) else 0) = if (slR (aTp s) (firstL (aTp s) p (endL (aTp s) p)) (endL (aTp s) p) % 2 == 1) then 1 else 0 := by
      by_cases q : slR (aTp s) (firstL (aTp s) p (endL (aTp s) p)) (endL (aTp s) p) % 2 = 1
      · rw [if_pos q, if_pos (by simpa using q)]
      · rw [if_neg q, if_neg (by simpa using q)]
    rw [eb]
    have hlen : (lineP (aTp s) (firstL (aTp s) p (endL (aTp s) p)) (endL (aTp s) p)).length = lastL (aTp s) (firstL (aTp s) p (endL (aTp s) p)) (endL (aTp s) p) - firstL (aTp s) p (endL (aTp s) p) := by unfold lineP; rw [rg_len]
    by_cases hfe : firstL (aTp s) p (endL (aTp s) p) = endL (aTp s) p
    · have e : entF (aTp s) p = ([], nextL (aTp s) (endL (aTp s) p)) := if_pos (Or.inl hfe)
      rw [e] at hp
      rw [hfe] at h45 E35 ⊢
      have e0 : lineP (aTp s) (endL (aTp s) p) (endL (aTp s) p) = [] := by
        unfold lineP lastL
        rw [slR_0, if_neg (by omega), Nat.sub_self]; rfl
      rw [e0] at h45 E35
      rw [slR_0, w_X7_readEntryLines_65]
      exact ⟨fun z => absurd z (by decide), fun _ => ⟨fun _ => hp S45 g35 _ h45 E35 (Or.inl rfl), fun z => absurd rfl z⟩⟩
    · have e : entF (aTp s) p = contF (aTp s) ((aTp s).length + 2) (slR (aTp s) (firstL (aTp s) p (endL (aTp s) p)) (endL (aTp s) p) % 2 == 1) (nextL (aTp s) (endL (aTp s) p)) (lineP (aTp s) (firstL (aTp s) p (endL (aTp s) p)) (endL (aTp s) p)) := by
        refine if_neg ?_
        rintro (q | q)
        · exact hfe q
        · exact hq ⟨by omega, q⟩
      rw [e] at hp
      exact c_cont (fun _ _ _ _ _ _ z => z) _ _ _ _ S45 g35 0 (by omega) b3.2 (by omega) (by rw [hlen]; omega) h45 E35 hp
  rw [w_X7_readEntryLines]
  refine ⟨h.fs, c_lineEnd h (by omega) ⟨h.fs, c_skipBlanks h b1.1 b1.2 ⟨fun z => k46 (fun q => ?_), fun z => ⟨h.fs, ?_⟩⟩⟩⟩
  · have := (nI_leI (by omega) (by omega)).mp z
    omega
  · have hfe : firstL (aTp s) p (endL (aTp s) p) < endL (aTp s) p := by
      rcases Nat.lt_or_ge (firstL (aTp s) p (endL (aTp s) p)) (endL (aTp s) p) with q | q
      · exact q
      · exact absurd (nI_le q (by omega)) z
    refine c_tapeSign h (by omega) (fun _ => ⟨fun z1 => k36 (Or.inl (ne10 (b := 35) (ch_lt hc _) (by omega) z1)), fun z1 => ⟨h.fs, c_tapeSign h (by omega) (fun _ => ⟨fun z2 => k46 (fun q => ?_), fun z2 => k36 (Or.inr (ne10 (b := 33) (ch_lt hc _) (by omega) z2))⟩) (fun q => absurd q (by omega))⟩⟩) (fun q => absurd q (by omega))
    rcases q.2 with q | q
    · exact z1 (by rw [q]; rfl)
    · exact z2 (by rw [q]; rfl)
/-! the signs of the entry -/
theorem c_tapePlace {post : Int32 → Prop} {pl : List Nat} {i : Nat} (h : cTp u d mm ad lv s Lt N t' N' S (nI pl.length) l k v g) (hE : pE (aTp s) pl g) (h3 : pl.length ≤ 300) (hi : i < 2 ^ 31) (h1 : i < pl.length → post (nI (pl.getD i 0))) (h0 : pl.length ≤ i → post (-5)) : w_X7_tapePlace u post (ad 1) (nI i) S := by
  rw [w_X7_tapePlace]
  refine ⟨fun z => absurd z (nI_pos hi), fun _ => ⟨_, h.o.i rfl, fun z => h0 ((nI_leI (by omega) hi).mp z), fun z => ?_⟩⟩
  have q : i < pl.length := by
    rcases Nat.lt_or_ge i pl.length with q | q
    · exact q
    · exact absurd (nI_le q hi) z
  refine ⟨fun z => absurd z (nI_ge (b := 300) (by omega) (by decide)), fun _ => ⟨_, h.o.r rfl, _, rfl, 300, g, h.q, vp_in_nI (by omega) (by omega), ?_⟩⟩
  rw [nI_clamp (by omega), hE.2 i q]; exact h1 q
theorem pE.at {pl : List Nat} {i : Nat} (h : pE T pl g) (hi : i < pl.length) : pl.getD i 0 < T.length := by
  have : pl.getD i 0 ∈ pl := by
    rw [List.getD_eq_getElem?_getD, List.getElem?_eq_getElem hi]
    exact List.getElem_mem hi
  exact h.1 _ this
theorem c_entrySign {post : Int32 → Prop} {pl : List Nat} {i : Nat} (h : cTp u d mm ad lv s Lt N t' N' S (nI pl.length) l k v g) (hE : pE (aTp s) pl g) (h3 : pl.length ≤ 300) (hi : i < 2 ^ 31) (h1 : i < pl.length → post (nI (eX (aTp s) pl i))) (h0 : pl.length ≤ i → post (-1)) : w_X7_entrySign u post (ad 1) (nI i) S := by
  have hl := h.2.1.2.1.1
  rw [w_X7_entrySign]
  refine ⟨h.fs, c_tapePlace h hE h3 hi (fun q => ⟨h.fs, ?_⟩) (fun q => ⟨h.fs, c_tapeSignM h (h0 q)⟩)⟩
  have := hE.at q
  exact c_tapeSign h (by omega) (fun _ => h1 q) (fun w => absurd w (by omega))
theorem c_endsKey {post : Int32 → Prop} {c : Nat} (hc : c < 127) (h1 : (c = 61 ∨ c = 58 ∨ isBl c = true) → post 1) (h0 : ¬ (c = 61 ∨ c = 58 ∨ isBl c = true) → post 0) : w_X7_endsKey u post (nI c) S := by
  rw [w_X7_endsKey]
  refine ⟨fun z => h1 (Or.inl (ne10 (b := 61) hc (by omega) z)), fun z => ⟨fun z2 => h1 (Or.inr (Or.inl (ne10 (b := 58) hc (by omega) z2))), fun z2 => c_isBlank (by omega) (fun q => ⟨fun _ => h0 ?_, fun w => absurd rfl w⟩) (fun q => ⟨fun w => absurd w (by decide), fun _ => h1 (Or.inr (Or.inr q))⟩)⟩⟩
  rintro (w | w | w)
  · exact z (by rw [w]; rfl)
  · exact z2 (by rw [w]; rfl)
  · rw [w] at q; exact absurd q (by decide)
theorem c_skipEntryBlanks {post : Int32 → Prop} {pl : List Nat} {i : Nat} (h : cTp u d mm ad lv s Lt N t' N' S (nI pl.length) l k v g) (hE : pE (aTp s) pl g) (h3 : pl.length ≤ 300) (hi : i ≤ 1000) (hp : post (nI (bkA (eX (aTp s) pl) pl.length i))) : w_X7_skipEntryBlanks u post (ad 1) (nI i) S := by
  have hc := h.2.1.2.1.2.1
  rw [w_X7_skipEntryBlanks]
  refine ⟨pl.length + 1001, ?_⟩
  have key : ∀ n x, x ≤ 1000 → (x ≤ pl.length ∨ x = i) → pl.length + 1000 < x + n → post (nI (bkA (eX (aTp s) pl) pl.length x)) → w_X7_skipEntryBlanks_2 u post (ad 1) n (nI x) S := by
    intro n
    induction n with
    | zero => intro x h1 h2 h3; omega
    | succ n ih =>
      intro x h1 h2 h4 hp
      rw [w_X7_skipEntryBlanks_2]
      refine ⟨_, h.o.i rfl, fun z => ?_, fun z => ⟨h.fs, ?_⟩⟩
      · have := (nI_leI (by omega) (by omega)).mp z
        rw [show bkA (eX (aTp s) pl) pl.length x = x from scan_ge this] at hp; exact hp
      · have hlt : x < pl.length := by
          rcases Nat.lt_or_ge x pl.length with q | q
          · exact q
          · exact absurd (nI_le q (by omega)) z
        have est : bkA (eX (aTp s) pl) pl.length x = if isBl (eX (aTp s) pl x) then bkA (eX (aTp s) pl) pl.length (x + 1) else x := scan_st hlt
        rw [est] at hp
        have hcx : eX (aTp s) pl x < 127 := ch_lt hc _
        refine c_entrySign h hE h3 (by omega) (fun _ => c_isBlank (by omega) (fun q => ⟨fun _ => ?_, fun w => absurd rfl w⟩) (fun q => ⟨fun w => absurd w (by decide), fun _ w ew => ?_⟩)) (fun q => absurd q (by omega))
        · rw [if_neg (by rw [q]; decide)] at hp; exact hp
        · rw [if_pos q] at hp
          rw [ew, nI_1]
          exact ih (x + 1) (by omega) (Or.inl (by omega)) (by omega) hp
  exact key _ i hi (Or.inr rfl) (by omega) hp
theorem c_splitEntry {post : hS → Prop} {pl : List Nat} (h : cTp u d mm ad lv s Lt N t' N' S (nI pl.length) l k v g) (hE : pE (aTp s) pl g) (h3 : pl.length ≤ 300) (hD : prD (aTp s) pl 0) (hp : ∀ S', cTp u d mm ad lv s Lt N t' N' S' (nI pl.length) l (nI (kvK (aTp s) pl)) (nI (kvV (aTp s) pl)) g → post S') : w_X7_splitEntry u post (ad 1) S := by
  have hc := h.2.1.2.1.2.1
  obtain ⟨k1, k2⟩ := keyA_b (T := aTp s) (pl := pl) (pl.length + 1) 0 (by omega) (by omega) hD
  have k1' : kvK (aTp s) pl ≤ pl.length := k1
  have bk := bkA_b (T := aTp s) (pl := pl) (pl.length - kvK (aTp s) pl) (kvK (aTp s) pl) (by omega) k2
  have k42 : w_X7_splitEntry_42 u post (ad 1) (nI (kvK (aTp s) pl)) S := by
    rw [w_X7_splitEntry_42]
    refine ⟨_, h.o.i rfl, _, h.o, by simp, fun S28 e28 => ?_⟩
    rw [if_neg (nI_nlt (by omega) (by omega))] at e28
    have h28 := h.set e28
    have k83 : bkA (eX (aTp s) pl) pl.length (kvK (aTp s) pl) < pl.length → (eX (aTp s) pl (bkA (eX (aTp s) pl) pl.length (kvK (aTp s) pl)) = 61 ∨ eX (aTp s) pl (bkA (eX (aTp s) pl) pl.length (kvK (aTp s) pl)) = 58) → w_X7_splitEntry_83 u post (ad 1) (nI (bkA (eX (aTp s) pl) pl.length (kvK (aTp s) pl))) S28 := by
      intro q1 q2
      rw [w_X7_splitEntry_83, nI_1]
      refine ⟨h28.fs, c_skipEntryBlanks h28 hE h3 (by omega) ⟨_, h28.o, by simp, fun S60 e60 => hp S60 (h28.set ?_)⟩⟩
      have ev : kvV (aTp s) pl = bkA (eX (aTp s) pl) pl.length (bkA (eX (aTp s) pl) pl.length (kvK (aTp s) pl) + 1) := if_pos ⟨q1, q2⟩
      rw [ev]; exact e60
    have kend : ¬ (bkA (eX (aTp s) pl) pl.length (kvK (aTp s) pl) < pl.length ∧ (eX (aTp s) pl (bkA (eX (aTp s) pl) pl.length (kvK (aTp s) pl)) = 61 ∨ eX (aTp s) pl (bkA (eX (aTp s) pl) pl.length (kvK (aTp s) pl)) = 58)) → kvV (aTp s) pl = bkA (eX (aTp s) pl) pl.length (kvK (aTp s) pl) := fun q => if_neg q
    refine ⟨_, h28.o.i rfl, h28.fs, c_skipEntryBlanks h28 hE h3 (by omega) ⟨h28.fs, c_entrySign h28 hE h3 (by omega) (fun q => ⟨fun z => k83 q (Or.inl (ne10 (b := 61) (ch_lt hc _) (by omega) z)), fun z => ⟨h28.fs, c_entrySign h28 hE h3 (by omega) (fun _ => ⟨fun z2 => ⟨_, h28.o, by simp, fun S51 e51 => hp S51 (h28.set ?_)⟩, fun z2 => k83 q (Or.inr (ne10 (b := 58) (ch_lt hc _) (by omega) z2))⟩) (fun w => absurd w (by omega))⟩⟩) (fun q => ⟨fun z => absurd z (by decide), fun _ => ⟨h28.fs, c_entrySign h28 hE h3 (by omega) (fun w => absurd w (by omega)) (fun _ => ⟨fun _ => ⟨_, h28.o, by simp, fun S51 e51 => hp S51 (h28.set ?_)⟩, fun z2 => absurd z2 (by decide)⟩)⟩⟩)⟩⟩
    · rw [kend (by
        rintro ⟨-, w | w⟩
        · exact z (by rw [w]; rfl)
        · exact z2 (by rw [w]; rfl))]
      exact e51
    · rw [kend (fun w => by omega)]; exact e51
  have key : ∀ n i, pl.length < i + n → i ≤ pl.length → prD (aTp s) pl i → keyA (eX (aTp s) pl) pl.length i = kvK (aTp s) pl → w_X7_splitEntry_2 u post (ad 1) n (nI i) S := by
    intro n
    induction n with
    | zero => intro i h1 h2; omega
    | succ n ih =>
      intro i h1 h2 hDi hk
      rw [w_X7_splitEntry_2]
      refine ⟨_, h.o.i rfl, fun z => ?_, fun z => ⟨h.fs, ?_⟩⟩
      · have := (nI_leI (by omega) (by omega)).mp z
        rw [keyA_ge this] at hk
        rw [hk]; exact k42
      · have hlt : i < pl.length := by
          rcases Nat.lt_or_ge i pl.length with q | q
          · exact q
          · exact absurd (nI_le q (by omega)) z
        have hcx : eX (aTp s) pl i < 127 := ch_lt hc _
        refine c_entrySign h hE h3 (by omega) (fun _ => c_endsKey hcx (fun q => ⟨fun _ => ?_, fun w => absurd w (by decide)⟩) (fun q => ⟨fun w => absurd rfl w, fun _ => ⟨h.fs, c_entrySign h hE h3 (by omega) (fun _ => ⟨fun z2 w ew => ?_, fun z2 w ew => ?_⟩) (fun w => absurd w (by omega))⟩⟩)) (fun q => absurd q (by omega))
        · rw [keyA_end hlt q] at hk
          rw [hk]; exact k42
        · have n9 : eX (aTp s) pl i ≠ 92 := fun w => z2 (by rw [w]; rfl)
          rw [keyA_st hlt q, if_neg n9] at hk
          rw [ew, nI_1]
          exact ih (i + 1) (by omega) (by omega) (prD_1 hDi hlt n9) hk
        · have e9 : eX (aTp s) pl i = 92 := ne10 (b := 92) hcx (by omega) z2
          rw [keyA_st hlt q, if_pos e9] at hk
          obtain ⟨q1, q2⟩ := prD_2 hDi hlt e9
          rw [ew, show nI i + 2 = nI (i + 2) from nI_add i 2]
          exact ih (i + 2) (by omega) (by omega) q2 hk
  rw [w_X7_splitEntry]
  exact ⟨pl.length + 1, key _ 0 (by omega) (by omega) hD rfl⟩
/-- the entries that are left behind a place -/
def rE (T : Tx) (pc : Nat) (R : List (List Nat)) : Prop := ∃ n p, sim T pc p ∧ T.length + 1 ≤ p + n ∧ p ≤ T.length + 1 ∧ R = entsF T n p
theorem ents_end {T : Tx} {n p : Nat} (h : T.length < p) : entsF T n p = [] := by
  cases n with
  | zero => rfl
  | succ n => rw [entsF, if_pos h]
theorem ents_last {T : Tx} {n : Nat} : entsF T n T.length = [] := by
  cases n with
  | zero => rfl
  | succ n =>
    have e1 : endL T T.length = T.length := scan_ge (Nat.le_refl _)
    have e2 : firstL T T.length T.length = T.length := scan_ge (Nat.le_refl _)
    have e3 : entF T T.length = ([], T.length + 1) := by
      unfold entF
      rw [e1, e2, if_pos (Or.inl rfl)]
      show ([], nextL T T.length) = _
      rw [show nextL T T.length = T.length + 1 from if_pos (Nat.le_refl _)]
    rw [entsF, if_neg (by omega), e3, if_pos rfl]
    exact ents_end (by omega)
theorem rE.stop {pc : Nat} {R : List (List Nat)} (h : rE T pc R) (hp : T.length ≤ pc) : R = [] := by
  obtain ⟨n, p, h1, h2, h3, h4⟩ := h
  rw [h4]
  rcases h1 with h1 | h1
  · by_cases q : p = T.length
    · rw [q]; exact ents_last
    · exact ents_end (by omega)
  · exact ents_end (by omega)
theorem c_readEntry {post : Int32 → hS → Prop} {pc : Nat} {R : List (List Nat)} (h : cTp u d mm ad lv s Lt N t' N' S f (nI pc) k v g) (hpc : pc ≤ (aTp s).length + 1) (hR : rE (aTp s) pc R)
    (h0 : R = [] → ∀ S' f' l' k' v' g', cTp u d mm ad lv s Lt N t' N' S' f' l' k' v' g' → post 0 S')
    (h1 : ∀ pl R', R = pl :: R' → ∀ S' p' g', cTp u d mm ad lv s Lt N t' N' S' (nI pl.length) (nI p') (nI (kvK (aTp s) pl)) (nI (kvV (aTp s) pl)) g' → pE (aTp s) pl g' → prD (aTp s) pl 0 → pl ≠ [] → pl.length ≤ (aTp s).length → rE (aTp s) p' R' → p' ≤ (aTp s).length + 1 → post 1 S') : w_X7_readEntry u post (ad 1) S := by
  have hl := h.2.1.2.1.1
  have k45 : ∀ S1 g1 p1 pl, cTp u d mm ad lv s Lt N t' N' S1 (nI pl.length) (nI p1) k v g1 → pE (aTp s) pl g1 → pl.length ≤ (aTp s).length → prD (aTp s) pl 0 → (pl = [] → R = []) → (pl ≠ [] → p1 ≤ (aTp s).length + 1 ∧ ∃ R', R = pl :: R' ∧ rE (aTp s) p1 R') → w_X7_readEntry_45 u post (ad 1) S1 := by
    intro S1 g1 p1 pl hh hE hpl hD q0 q1
    rw [w_X7_readEntry_45]
    refine ⟨hh.fs, c_splitEntry hh hE (by omega) hD (fun S28 h28 => ⟨_, h28.o.i rfl, fun z => ?_, fun z => ?_⟩)⟩
    · have hn : pl.length ≤ 0 := (nI_leI (b := 0) (by omega) (by decide)).mp z
      exact h0 (q0 (List.length_eq_zero_iff.mp (by omega))) S28 _ _ _ _ _ h28
    · have hn : pl ≠ [] := fun q => z (by rw [q]; decide)
      obtain ⟨q2, R', q3, q4⟩ := q1 hn
      exact h1 pl R' q3 S28 p1 g1 h28 hE hD hn hpl q4 q2
  have nilE : ∀ g1, pE (aTp s) [] g1 := fun g1 => ⟨fun x hx => absurd hx (by simp), fun i hi => absurd hi (by simp)⟩
  have key : ∀ n x pc S1 g1, (aTp s).length + 1 < pc + n → pc ≤ (aTp s).length + 1 → x ≤ pc → cTp u d mm ad lv s Lt N t' N' S1 (nI 0) (nI pc) k v g1 → rE (aTp s) pc R → w_X7_readEntry_7 u post (ad 1) n (nI x) S1 := by
    intro n
    induction n with
    | zero => intro x pc S1 g1 a1 a2; omega
    | succ n ih =>
      intro x pc S1 g1 a1 a2 hx hh hRE
      have stop : (aTp s).length ≤ pc → w_X7_readEntry_45 u post (ad 1) S1 := fun q => k45 S1 g1 pc [] hh (nilE g1) (by simp) rfl (fun _ => hRE.stop q) (fun w => absurd rfl w)
      rw [w_X7_readEntry_7]
      refine ⟨fun z => stop ?_, fun z => ⟨_, hh.o.i rfl, fun z1 => absurd rfl z1, fun _ => ⟨_, hh.o.i rfl, _, hh.o.r rfl, _, rfl, hh.b.fs, sb_len hh.b ⟨fun z2 => stop ?_, fun z2 => ⟨hh.fs, ?_⟩⟩⟩⟩⟩
      · have := (nI_ltI (a := 300) (by omega) (by omega)).mp z
        omega
      · exact (nI_leI (by omega) (by omega)).mp z2
      · have hlt : pc < (aTp s).length := by
          rcases Nat.lt_or_ge pc (aTp s).length with q | q
          · exact q
          · exact absurd (nI_le q (by omega)) z2
        have eb := ent_b (T := aTp s) (p := pc) (by omega)
        obtain ⟨m, p, s1, s2, s3, s4⟩ := hRE
        have hpp : p = pc := by
          rcases s1 with q | q
          · exact q.symm
          · omega
        subst hpp
        obtain ⟨m, rfl⟩ : ∃ m', m = m' + 1 := ⟨m - 1, by omega⟩
        rw [entsF, if_neg (by omega)] at s4
        refine c_readEntryLines hh hlt (fun S23 g23 p' h23 E23 sm w ew => ?_)
        have hp' : p < p' ∧ p' ≤ (aTp s).length + 1 := by
          rcases sm with q | q
          · rw [q]; exact ⟨eb.1, eb.2.1⟩
          · omega
        by_cases hnil : (entF (aTp s) p).1 = []
        · rw [if_pos hnil] at s4
          rw [hnil] at h23
          rw [ew, nI_1]
          exact ih (x + 1) p' S23 g23 (by omega) hp'.2 (by omega) h23 ⟨m, _, sm, by omega, eb.2.1, s4⟩
        · rw [if_neg hnil] at s4
          obtain ⟨n, rfl⟩ : ∃ n', n = n' + 1 := ⟨n - 1, by omega⟩
          have hpos : 0 < (entF (aTp s) p).1.length := List.length_pos_iff.mpr hnil
          have k45' := k45 S23 g23 p' _ h23 E23 eb.2.2.2 (prL_ent (by omega)) (fun q => absurd q hnil) (fun _ => ⟨hp'.2, _, s4, m, _, sm, by omega, eb.2.1, rfl⟩)
          rw [w_X7_readEntry_7]
          exact ⟨fun _ => k45', fun _ => ⟨_, h23.o.i rfl, fun _ => k45', fun z3 => absurd z3 (nI_ne0 hpos (by omega))⟩⟩
  rw [w_X7_readEntry]
  refine ⟨_, h.o, by simp, fun S4 e4 => ⟨(aTp s).length + 2, ?_⟩⟩
  exact key _ 0 pc S4 g (by omega) hpc (by omega) (h.set e4) hR
end CREP
