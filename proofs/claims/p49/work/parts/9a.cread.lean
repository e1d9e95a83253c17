/-! THE CLASS: the tape is read, line by line -/
section CREP
variable {u : hU} {d : Nat} {mm : List Nat} {ad : Nat → Nat} {lv : Nat → Prop} {s : AS} {S : hS} {N N' : Nat} {t' : Tx} {f l k v : Int32} {g : Nat → Int32} {T : Tx} {Lt : Ly}
/-- the drawer's state, and the tape's own fields -/
def cTp (u : hU) (d : Nat) (mm : List Nat) (ad : Nat → Nat) (lv : Nat → Prop) (s : AS) (Lt : Ly) (N : Nat) (t' : Tx) (N' : Nat) (S : hS) (f l k v : Int32) (g : Nat → Int32) : Prop := cR u d mm ad lv s S ∧ tapD u S ad lv (aTp s) N t' N' f l k v g ∧ layC u mm S ad lv 12 Lt
theorem cTp.o (h : cTp u d mm ad lv s Lt N t' N' S f l k v g) : rO S (ad 1) 8 [va_rf (some (ad 2)), va_rf (some (ad 6)), va_rf (some (ad 4)), .int f, .int l, .int k, .int v] := ⟨h.1.2.1.at (h.2.1.1 1 (by omega) (by omega)), h.2.1.2.2.1⟩
theorem cTp.fs (h : cTp u d mm ad lv s Lt N t' N' S f l k v g) : ∃ fs, rO S (ad 1) 8 fs := ⟨_, h.o⟩
theorem cTp.b (h : cTp u d mm ad lv s Lt N t' N' S f l k v g) : bS u S (ad 2) (ad 3) (aTp s) N := h.2.1.2.2.2.1
theorem cTp.q (h : cTp u d mm ad lv s Lt N t' N' S f l k v g) : rA S (u.2.1 0) (ad 6) 300 g := ⟨h.1.2.1.at (h.2.1.1 6 (by omega) (by omega)), h.2.1.2.2.2.2.2⟩
theorem cTp.set {S' : hS} {f' l' k' v' : Int32} (h : cTp u d mm ad lv s Lt N t' N' S f l k v g) (e : S' = upS S (ad 1) (.inr (8, [va_rf (some (ad 2)), va_rf (some (ad 6)), va_rf (some (ad 4)), .int f', .int l', .int k', .int v']))) : cTp u d mm ad lv s Lt N t' N' S' f' l' k' v' g := by
  obtain ⟨h1, ⟨hl, hb, h2, h3, h4, h5⟩, h6⟩ := h
  have l1 := hl 1 (by omega) (by omega)
  have hs := stp.at (Cs := fun c => c = 1) (S' := S') h1.2.1 (fun a ha => by rw [e]; exact ha) (fun a ha hc => by rw [e]; exact va_upS_ne (hc 1 rfl)) (fun c hc => by rw [hc]; exact l1)
  have o : ∀ c, 1 ≤ c → c ≤ 6 → c ≠ 1 → S'.2 (ad c) = S.2 (ad c) := fun c q1 q2 q3 => hs.2.2.2 c (hl c q1 q2) q3
  have hD : tapD u S' ad lv (aTp s) N t' N' f' l' k' v' g := ⟨hl, hb, by rw [e]; exact va_upS_self, h3.keep hs.1.1 (o 2 (by omega) (by omega) (by omega)) (o 3 (by omega) (by omega) (by omega)), h4.keep hs.1.1 (o 4 (by omega) (by omega) (by omega)) (o 5 (by omega) (by omega) (by omega)), (o 6 (by omega) (by omega) (by omega)).trans h5⟩
  exact ⟨h1.tape (h1.2.1.mono hs.1.1) hs (fun c z => absurd z (fun z => z)) (fun c z => by have z' : c = 1 := z; omega) ⟨N, t', N', f', l', k', v', g, hD⟩, hD, h6.keep hs ⟨fun z => z, fun z => z⟩ ⟨by omega, by omega⟩⟩
theorem cTp.place {S' : hS} {g' : Nat → Int32} (h : cTp u d mm ad lv s Lt N t' N' S f l k v g) (e : S' = upS S (ad 6) (.inl (u.2.1 0, 300, .inl g'))) : cTp u d mm ad lv s Lt N t' N' S' f l k v g' := by
  obtain ⟨h1, ⟨hl, hb, h2, h3, h4, h5⟩, h6⟩ := h
  have l6 := hl 6 (by omega) (by omega)
  have hs := stp.at (Cs := fun c => c = 6) (S' := S') h1.2.1 (fun a ha => by rw [e]; exact ha) (fun a ha hc => by rw [e]; exact va_upS_ne (hc 6 rfl)) (fun c hc => by rw [hc]; exact l6)
  have o : ∀ c, 1 ≤ c → c ≤ 6 → c ≠ 6 → S'.2 (ad c) = S.2 (ad c) := fun c q1 q2 q3 => hs.2.2.2 c (hl c q1 q2) q3
  have hD : tapD u S' ad lv (aTp s) N t' N' f l k v g' := ⟨hl, hb, (o 1 (by omega) (by omega) (by omega)).trans h2, h3.keep hs.1.1 (o 2 (by omega) (by omega) (by omega)) (o 3 (by omega) (by omega) (by omega)), h4.keep hs.1.1 (o 4 (by omega) (by omega) (by omega)) (o 5 (by omega) (by omega) (by omega)), by rw [e]; exact va_upS_self⟩
  exact ⟨h1.tape (h1.2.1.mono hs.1.1) hs (fun c z => absurd z (fun z => z)) (fun c z => by have z' : c = 6 := z; omega) ⟨N, t', N', f, l, k, v, g', hD⟩, hD, h6.keep hs ⟨fun z => z, fun z => z⟩ ⟨by omega, by omega⟩⟩
theorem c_tapeSign {post : Int32 → Prop} {i : Nat} (h : cTp u d mm ad lv s Lt N t' N' S f l k v g) (hi : i < 2 ^ 31) (h1 : i < (aTp s).length → post (nI (ch (aTp s) i))) (h0 : (aTp s).length ≤ i → post (-1)) : w_X7_tapeSign u post (ad 1) (nI i) S := by
  have hl := h.2.1.2.1.1
  rw [w_X7_tapeSign]
  refine ⟨fun z => absurd z (nI_pos hi), fun _ => ⟨_, h.o.r rfl, _, rfl, h.b.fs, sb_len h.b ⟨fun z => h0 ((nI_leI (by omega) hi).mp z), fun z => ?_⟩⟩⟩
  have q : i < (aTp s).length := by
    rcases Nat.lt_or_ge i (aTp s).length with q | q
    · exact q
    · exact absurd (nI_le q hi) z
  exact ⟨_, h.o.r rfl, _, rfl, h.b.fs, sb_charAt h.b q (h1 q)⟩
theorem c_tapeSignM {post : Int32 → Prop} (h : cTp u d mm ad lv s Lt N t' N' S f l k v g) (hp : post (-1)) : w_X7_tapeSign u post (ad 1) (-5) S := by
  rw [w_X7_tapeSign]
  exact ⟨fun _ => hp, fun z => absurd (by decide) z⟩
theorem ne10 {c b : Nat} (hc : c < 127) (hb : b < 127) (h : nI c = nI b) : c = b := (nI_eq (by omega) (by omega)).mp h
theorem c_lineEnd {post : Int32 → Prop} {p : Nat} (h : cTp u d mm ad lv s Lt N t' N' S f (nI p) k v g) (hp : p ≤ (aTp s).length) (hq : post (nI (endL (aTp s) p))) : w_X7_lineEnd u post (ad 1) S := by
  have hl := h.2.1.2.1.1
  have hc := h.2.1.2.1.2.1
  rw [w_X7_lineEnd]
  refine ⟨_, h.o.i rfl, (aTp s).length + 1, ?_⟩
  have key : ∀ n x, x ≤ (aTp s).length → (aTp s).length < x + n → post (nI (endL (aTp s) x)) → w_X7_lineEnd_5 u post (ad 1) n (nI x) S := by
    intro n
    induction n with
    | zero => intro x h1 h2; omega
    | succ n ih =>
      intro x h1 h2 hq
      rw [w_X7_lineEnd_5]
      refine ⟨_, h.o.r rfl, _, rfl, h.b.fs, sb_len h.b ⟨fun z => ?_, fun z => ⟨h.fs, ?_⟩⟩⟩
      · have := (nI_leI (by omega) (by omega)).mp z
        rw [show endL (aTp s) x = x from scan_ge this] at hq; exact hq
      · have hlt : x < (aTp s).length := by
          rcases Nat.lt_or_ge x (aTp s).length with q | q
          · exact q
          · exact absurd (nI_le q (by omega)) z
        have hcx := ch_lt hc x
        have est : endL (aTp s) x = if notEnd (ch (aTp s) x) then endL (aTp s) (x + 1) else x := scan_st hlt
        rw [est] at hq
        refine c_tapeSign h (by omega) (fun _ => ⟨fun z1 => ?_, fun z1 => ⟨h.fs, c_tapeSign h (by omega) (fun _ => ⟨fun z2 => ?_, fun z2 w ew => ?_⟩) (fun q => absurd q (by omega))⟩⟩) (fun q => absurd q (by omega))
        · have e := ne10 (b := 10) hcx (by omega) z1
          rw [if_neg (by rw [e]; decide)] at hq; exact hq
        · have e := ne10 (b := 13) hcx (by omega) z2
          rw [if_neg (by rw [e]; decide)] at hq; exact hq
        · have n1 : ch (aTp s) x ≠ 10 := fun q => z1 (by rw [q]; rfl)
          have n2 : ch (aTp s) x ≠ 13 := fun q => z2 (by rw [q]; rfl)
          rw [if_pos (by unfold notEnd; simp [n1, n2])] at hq
          rw [ew, nI_1]
          exact ih (x + 1) (by omega) (by omega) hq
  exact key _ p hp (by omega) hq
theorem c_isBlank {post : Int32 → Prop} {c : Nat} (hc : c < 256) (h0 : isBl c = false → post 0) (h1 : isBl c = true → post 1) : q_X9_isBlank post (nI c) := by
  rw [q_X9_isBlank]
  have e : isBl c = (c == 32 || c == 9) := rfl
  refine ⟨fun z => h1 ?_, fun z => ⟨fun z2 => h0 ?_, fun z2 => h1 ?_⟩⟩
  · have := (nI_eq (b := 32) (by omega) (by decide)).mp z
    subst this; rfl
  · have a : c ≠ 32 := fun q => z (by subst q; rfl)
    have b : c ≠ 9 := fun q => z2 (by subst q; rfl)
    rw [e]; simp [a, b]
  · have := (nI_eq (b := 9) (by omega) (by decide)).mp z2
    subst this; rfl
theorem c_skipBlanks {post : Int32 → Prop} {p e : Nat} (h : cTp u d mm ad lv s Lt N t' N' S f (nI p) k v g) (hpe : p ≤ e) (he : e ≤ (aTp s).length) (hq : post (nI (firstL (aTp s) p e))) : w_X7_skipBlanks u post (ad 1) (nI e) S := by
  have hl := h.2.1.2.1.1
  have hc := h.2.1.2.1.2.1
  rw [w_X7_skipBlanks]
  refine ⟨_, h.o.i rfl, e + 1, ?_⟩
  have key : ∀ n x, x ≤ e → e < x + n → post (nI (firstL (aTp s) x e)) → w_X7_skipBlanks_5 u post (ad 1) n (nI e) (nI x) S := by
    intro n
    induction n with
    | zero => intro x h1 h2; omega
    | succ n ih =>
      intro x h1 h2 hq
      rw [w_X7_skipBlanks_5]
      refine ⟨fun z => ?_, fun z => ⟨h.fs, ?_⟩⟩
      · have := (nI_leI (by omega) (by omega)).mp z
        rw [show firstL (aTp s) x e = x from scan_ge this] at hq; exact hq
      · have hlt : x < e := by
          rcases Nat.lt_or_ge x e with q | q
          · exact q
          · exact absurd (nI_le q (by omega)) z
        have hcx := ch_lt hc x
        have est : firstL (aTp s) x e = if isBl (ch (aTp s) x) then firstL (aTp s) (x + 1) e else x := scan_st hlt
        rw [est] at hq
        refine c_tapeSign h (by omega) (fun _ => c_isBlank (by omega) (fun q => ⟨fun _ => ?_, fun z => absurd rfl z⟩) (fun q => ⟨fun z => absurd z (by decide), fun _ w ew => ?_⟩)) (fun q => absurd q (by omega))
        · rw [if_neg (by rw [q]; decide)] at hq; exact hq
        · rw [if_pos q] at hq
          rw [ew, nI_1]
          exact ih (x + 1) (by omega) (by omega) hq
  exact key _ p hpe (by omega) hq
theorem c_behindLineEnd {post : Int32 → Prop} {e : Nat} (h : cTp u d mm ad lv s Lt N t' N' S f l k v g) (he : e ≤ (aTp s).length) (hq : post (nI (nextL (aTp s) e))) : w_X7_behindLineEnd u post (ad 1) (nI e) S := by
  have hl := h.2.1.2.1.1
  have hc := h.2.1.2.1.2.1
  have e2 : nI e + 2 = nI (e + 2) := nI_add e 2
  unfold nextL at hq
  rw [w_X7_behindLineEnd, nI_1, e2]
  refine ⟨h.fs, c_tapeSign h (by omega) (fun q => ⟨fun z => ?_, fun z => ⟨h.fs, c_tapeSign h (by omega) (fun q2 => ⟨fun z2 => ?_, fun z2 => ?_⟩) (fun q2 => ⟨fun _ => ?_, fun z2 => absurd z2 (by decide)⟩)⟩⟩) (fun q => ⟨fun _ => ?_, fun z => absurd z (by decide)⟩)⟩
  · have n1 : ch (aTp s) e ≠ 13 := fun w => z (by rw [w]; rfl)
    rw [if_neg (by omega), if_neg (fun w => n1 w.2.1)] at hq; exact hq
  · have n2 : ch (aTp s) (e + 1) ≠ 10 := fun w => z2 (by rw [w]; rfl)
    rw [if_neg (by omega), if_neg (fun w => n2 w.2.2)] at hq; exact hq
  · have e1 := ne10 (b := 13) (ch_lt hc e) (by omega) z
    have e3 := ne10 (b := 10) (ch_lt hc (e + 1)) (by omega) z2
    rw [if_neg (by omega), if_pos ⟨q2, e1, e3⟩] at hq; exact hq
  · rw [if_neg (by omega), if_neg (by omega)] at hq; exact hq
  · have : e = (aTp s).length := by omega
    rw [if_pos q, ← this] at hq; exact hq
/-- the places of an entry -/
def pE (T : Tx) (pl : List Nat) (g : Nat → Int32) : Prop := (∀ x ∈ pl, x < T.length) ∧ ∀ i, i < pl.length → g i = nI (pl.getD i 0)
theorem pE.snoc {pl : List Nat} {x : Nat} (h : pE T pl g) (hx : x < T.length) : pE T (pl ++ [x]) (upd g pl.length (nI x)) := by
  refine ⟨fun y hy => ?_, fun i hi => ?_⟩
  · rcases List.mem_append.mp hy with q | q
    · exact h.1 y q
    · rw [List.mem_singleton.mp q]; exact hx
  · have hi' : i < pl.length + 1 := by simpa using hi
    rw [getD_app1]
    by_cases q : i = pl.length
    · subst q; rw [if_neg (by omega), if_pos rfl]; exact pk_us
    · rw [if_pos (by omega), pk_un q]; exact h.2 i (by omega)
theorem slR_0 {T : Tx} {f : Nat} : slR T f f = 0 := by
  have := slR_le (T := T) (f := f) f
  omega
theorem c_takeLine {post : Int32 → hS → Prop} {F e : Nat} {pl : List Nat} (h : cTp u d mm ad lv s Lt N t' N' S (nI pl.length) l k v g) (hE : pE (aTp s) pl g) (hF : F ≤ e) (he : e ≤ (aTp s).length) (hpl : pl.length ≤ F)
    (hp : ∀ S' g', cTp u d mm ad lv s Lt N t' N' S' (nI (pl ++ lineP (aTp s) F e).length) l k v g' → pE (aTp s) (pl ++ lineP (aTp s) F e) g' → post (if slR (aTp s) F e % 2 = 1 then 1 else 0) S') : w_X7_takeLine u post (ad 1) (nI F) (nI e) S := by
  have hl := h.2.1.2.1.1
  have hc := h.2.1.2.1.2.1
  have hsl := slR_le (T := aTp s) (f := F) e
  have b4 := lastL_b (T := aTp s) hF
  -- its signs are laid
  have k60 : ∀ (b : Int32), (b = if slR (aTp s) F e % 2 = 1 then 1 else 0) → ∀ n x S1 g1, x + n = lastL (aTp s) F e → F ≤ x → cTp u d mm ad lv s Lt N t' N' S1 (nI (pl ++ rg F (x - F)).length) l k v g1 → pE (aTp s) (pl ++ rg F (x - F)) g1 → w_X7_takeLine_60 u post (ad 1) (n + 1) b (nI (lastL (aTp s) F e)) (nI x) S1 := by
    intro b hb
    have hb01 : b = 0 ∨ b = 1 := by
      rw [hb]; split
      · exact Or.inr rfl
      · exact Or.inl rfl
    have nar : narrow .boolean (.int b) = .int b := by rcases hb01 with q | q <;> rw [q] <;> decide
    intro n
    induction n with
    | zero =>
      intro x S1 g1 hx hFx h1 E1
      rw [w_X7_takeLine_60]
      refine ⟨fun _ => ⟨nar, ?_⟩, fun z => absurd (nI_le (by omega) (by omega)) z⟩
      rw [show x = lastL (aTp s) F e by omega] at h1 E1
      rw [hb]
      exact hp S1 g1 h1 E1
    | succ n ih =>
      intro x S1 g1 hx hFx h1 E1
      have hlen : (pl ++ rg F (x - F)).length = pl.length + (x - F) := by rw [List.length_append, rg_len]
      have hlt : (pl ++ rg F (x - F)).length < 300 := by omega
      rw [w_X7_takeLine_60]
      refine ⟨fun z => absurd z (nI_ge (by omega) (by omega)), fun _ => ⟨_, h1.o.i rfl, fun z => absurd z (nI_ge (b := 300) hlt (by decide)), fun _ => ⟨_, h1.o.r rfl, _, h1.o.i rfl, _, rfl, 300, g1, h1.q, vp_in_nI hlt (by omega), fun S28 e28 => ?_⟩⟩⟩
      rw [nI_clamp (n := (pl ++ rg F (x - F)).length) (by omega)] at e28
      have h28 := h1.place e28
      refine ⟨_, h28.o.i rfl, _, h28.o, by simp, fun S34 e34 w ew => ?_⟩
      rw [nI_1] at e34
      have h34 := h28.set e34
      rw [ew, nI_1]
      have erg : pl ++ rg F (x + 1 - F) = (pl ++ rg F (x - F)) ++ [x] := by
        rw [show x + 1 - F = (x - F) + 1 by omega, rg, ← List.append_assoc, show F + (x - F) = x by omega]
      refine ih (x + 1) S34 _ (by omega) (by omega) ?_ (by rw [erg]; exact E1.snoc (by omega))
      rw [erg, List.length_append, List.length_singleton]; exact h34
  have k41 : ∀ b : Int32, (b = if slR (aTp s) F e % 2 = 1 then 1 else 0) → w_X7_takeLine_41 u post (ad 1) (nI F) (nI e) b S := by
    intro b hb
    have st : cTp u d mm ad lv s Lt N t' N' S (nI (pl ++ rg F (F - F)).length) l k v g ∧ pE (aTp s) (pl ++ rg F (F - F)) g := by
      rw [Nat.sub_self]
      show cTp u d mm ad lv s Lt N t' N' S (nI (pl ++ []).length) l k v g ∧ pE (aTp s) (pl ++ []) g
      rw [List.append_nil]; exact ⟨h, hE⟩
    rw [w_X7_takeLine_41]
    refine ⟨fun z => ⟨lastL (aTp s) F e - F + 1, ?_⟩, fun z w ew => ⟨lastL (aTp s) F e - F + 1, ?_⟩⟩
    · have hm : ¬ slR (aTp s) F e % 2 = 1 := fun q => by rw [if_pos q] at hb; rw [hb] at z; exact absurd z (by decide)
      have el : lastL (aTp s) F e = e := if_neg hm
      have := k60 b hb (lastL (aTp s) F e - F) F S g (by omega) (Nat.le_refl _) st.1 st.2
      rw [el] at this ⊢
      exact this
    · have hm : slR (aTp s) F e % 2 = 1 := by
        by_cases q : slR (aTp s) F e % 2 = 1
        · exact q
        · rw [if_neg q] at hb; exact absurd hb z
      have el : lastL (aTp s) F e = e - 1 := if_pos hm
      have he1 : 1 ≤ e := by omega
      rw [ew, show nI e - 1 = nI (e - 1) from pk_sub (b := 1) he1]
      have := k60 b hb (lastL (aTp s) F e - F) F S g (by omega) (Nat.le_refl _) st.1 st.2
      rw [el] at this ⊢
      exact this
  have k29 : w_X7_takeLine_29 u post (ad 1) (nI F) (nI e) (nI (slR (aTp s) F e)) S := by
    rw [w_X7_takeLine_29, show nI (slR (aTp s) F e) - nI (slR (aTp s) F e) / 2 * 2 = nI (slR (aTp s) F e % 2) from pk_rem (d := 2) (by omega) (by omega) (by omega)]
    refine ⟨fun z => k41 0 ?_, fun z => k41 1 ?_⟩
    · rw [if_neg (fun q => z (by rw [q]; rfl))]
    · rw [if_pos ((nI_eq (b := 1) (by omega) (by omega)).mp z)]
  have key : ∀ n x, x ≤ e - F → e - F < x + n → slR (aTp s) F e = x + slR (aTp s) F (e - x) → w_X7_takeLine_2 u post (ad 1) n (nI F) (nI e) (nI x) S := by
    intro n
    induction n with
    | zero => intro x h1 h2; omega
    | succ n ih =>
      intro x h1 h2 hx
      rw [w_X7_takeLine_2, show nI e - nI F = nI (e - F) from pk_sub hF]
      refine ⟨fun z => ?_, fun z => ⟨h.fs, ?_⟩⟩
      · have := (nI_leI (by omega) (by omega)).mp z
        rw [show e - x = F by omega, slR_0] at hx
        rw [← show slR (aTp s) F e = x by omega]; exact k29
      · have hlt : x < e - F := by
          rcases Nat.lt_or_ge x (e - F) with q | q
          · exact q
          · exact absurd (nI_le q (by omega)) z
        have es : slR (aTp s) F (e - x) = if ch (aTp s) (e - x - 1) = 92 then slR (aTp s) F (e - x - 1) + 1 else 0 := by
          conv => lhs; rw [show e - x = (e - x - 1) + 1 by omega, slR, if_neg (by omega)]
        rw [show nI e - 1 = nI (e - 1) from pk_sub (b := 1) (by omega), show nI (e - 1) - nI x = nI (e - 1 - x) from pk_sub (by omega), show e - 1 - x = e - x - 1 by omega]
        refine c_tapeSign h (by omega) (fun _ => ⟨fun z1 => ?_, fun z1 w ew => ?_⟩) (fun q => absurd q (by omega))
        · have n1 : ch (aTp s) (e - x - 1) ≠ 92 := fun q => z1 (by rw [q]; rfl)
          rw [if_neg n1] at es
          rw [← show slR (aTp s) F e = x by omega]; exact k29
        · have e1 := ne10 (b := 92) (ch_lt hc _) (by omega) z1
          rw [if_pos e1] at es
          rw [ew, nI_1]
          refine ih (x + 1) (by omega) (by omega) ?_
          rw [show e - (x + 1) = e - x - 1 by omega]
          omega
  rw [w_X7_takeLine]
  exact ⟨e - F + 1, key _ 0 (by omega) (by omega) (by rw [Nat.sub_zero]; omega)⟩
end CREP
