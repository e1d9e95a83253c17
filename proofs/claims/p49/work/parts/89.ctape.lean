/-! THE CLASS: a text is put together in a new StringBuilder; append; the tape's small calls -/
theorem u16c {c : Nat} (h : c < 256) : ((nI c).toUInt32 % 65536).toInt32 = nI c := by
  have : ∀ c : Fin 256, ((nI c.1).toUInt32 % 65536).toInt32 = nI c.1 := by decide +kernel
  exact this ⟨c, h⟩
theorem fx.new {W : List Nat} {S S1 S2 : hS} (h : fx [] S S1) (h2 : fx W S1 S2) (hW : ∀ w, w ∈ W → w ∉ S.1) : fx [] S S2 :=
  ⟨fun a ha => h2.1 a (h.1 a ha), fun a ha _ => (h2.2 a (h.1 a ha) (fun z => hW a z ha)).trans (h.2 a ha (by simp))⟩
theorem fx_kp0 {mm : List Nat} {S S' : hS} (h : fx [] S S') : kp mm mm S S' := h.kp (fun a z => absurd z (by simp)) (fun _ _ z => z)
/-- a text t is put together at the new object q, whose row is b -/
def bld (u : hU) (S : hS) (q : Nat) (S1 : hS) (b : Nat) (t : Tx) (N : Nat) : Prop := fx [] S S1 ∧ (q ∉ S.1 ∧ b ∉ S.1) ∧ bS u S1 q b t N ∧ 16 ≤ N ∧ N ≤ 602
theorem bld.kp {u : hU} {mm : List Nat} {S S1 : hS} {q b N : Nat} {t : Tx} (h : bld u S q S1 b t N) : kp mm (q :: mm) S S1 :=
  ⟨h.1.1, fun a ha hm => ⟨fun z => by
    rcases List.mem_cons.mp z with z | z
    · exact h.2.1.1 (by rw [← z]; exact ha)
    · exact hm z, h.1.2 a ha (by simp)⟩⟩
theorem bld.new {u : hU} {S S22 : hS} {q mc ms : Nat} {post : hS → Prop} (hq : fr u.1 S q) (e : S22 = adS S q (.inr (1, [.null, .int 0, .int 0, .int 0]))) (hmc : 1 ≤ mc) (hms : 16 ≤ ms) (hp : ∀ S1 b, bld u S q S1 b [] 16 → post S1) : w_J4_init_da u post q S22 mc ms := by
  have h1 : fx [] S S22 := by rw [e]; exact fx.ad hq.1
  refine sb_init (by rw [e]; exact adS_mem) (by rw [e]; exact va_adS_self) hmc hms (fun S1 b hb hf hs => hp S1 b ⟨h1.new hf (fun w hw => by rw [List.mem_singleton.mp hw]; exact hq.1), ⟨hq.1, fun z => hb.1 (h1.1 b z)⟩, hs, by omega, by omega⟩)
theorem bld.step {u : hU} {S S1 S2 : hS} {q b b' N N' : Nat} {t t' : Tx} (h : bld u S q S1 b t N) (hg : gS u S1 q b S2 b') (hs : bS u S2 q b' t' N') (h1 : 16 ≤ N') (h2 : N' ≤ 602) : bld u S q S2 b' t' N' := by
  refine ⟨h.1.new hg.1 (fun w hw => ?_), ⟨h.2.1.1, ?_⟩, hs, h1, h2⟩
  · rcases List.mem_cons.mp hw with z | z
    · rw [z]; exact h.2.1.1
    · rw [List.mem_singleton.mp z]; exact h.2.1.2
  · rcases hg.2 with z | z
    · rw [z]; exact h.2.1.2
    · exact fun w => z.1 (h.1.1 _ w)
theorem bld.appS {u : hU} {mm : List Nat} {S S1 : hS} {q b N d mc ms : Nat} {t v : Tx} {post : Option Nat → hS → Prop} (h : bld u S q S1 b t N) (hv : tS u mm S d v) (hL : t.length + v.length ≤ 300) (hmc : 1 ≤ mc) (hms : 602 ≤ ms) (hp : ∀ S2 b' N', bld u S q S2 b' (t ++ v) N' → post (some q) S2) : w_J4_append_15 u post q (some d) S1 mc ms := by
  have hN := gN2_ok h.2.2.2.1 h.2.2.2.2 hL
  exact sb_appendS h.2.2.1 (hv.kept h.kp) List.mem_cons_self h.2.2.2.1 h.2.2.2.2 hL hmc hms (fun S2 b' hg hs => hp S2 b' _ (h.step hg hs hN.1 hN.2.1))
theorem bld.appC {u : hU} {S S1 : hS} {q b N c mc ms : Nat} {t : Tx} {post : Option Nat → hS → Prop} (h : bld u S q S1 b t N) (hc : c < 256) (hL : t.length + 1 ≤ 300) (hmc : 1 ≤ mc) (hms : 602 ≤ ms) (hp : ∀ S2 b' N', bld u S q S2 b' (t ++ [c]) N' → post (some q) S2) : w_J4_append_cf u post q (nI c) S1 mc ms := by
  have h1 := h.2.2.2
  have h2 := h.2.2.1.1.1
  refine sb_append h.2.2.1 hc (by omega) (fun hl => ⟨hmc, by omega⟩) (fun S2 b' hg hs => hp S2 b' _ (h.step hg hs ?_ ?_))
  · unfold gN; split <;> omega
  · unfold gN; split <;> omega
theorem bld.str {u : hU} {mm : List Nat} {S S1 : hS} {q b N mc ms : Nat} {t : Tx} {post : Option Nat → hS → Prop} (h : bld u S q S1 b t N) (hmm : ∀ x, x ∈ mm → x ∈ S.1) (hL : t.length ≤ 300) (hmc : 2 ≤ mc) (hms : 304 ≤ ms) (hp : ∀ r S2, fx [] S S2 → tS u mm S2 r t → post (some r) S2) : w_J4_toString_0e u post q S1 mc ms :=
  sb_toString h.2.2.1 (fun x hx => h.1.1 x (hmm x hx)) hmc (by omega) (fun r S2 hf ht => hp r S2 (h.1.new hf (fun w hw => absurd hw (by simp))) ht)
section CREP
variable {u : hU} {d : Nat} {mm : List Nat} {ad : Nat → Nat} {lv : Nat → Prop} {s : AS} {S : hS}
theorem c_append {post : Int32 → hS → Prop} {mc ms : Nat} (hmc : 1100 ≤ mc) (hms : 13600 ≤ ms) (x y : Int32) (hR : cRep u d s S) (hp : ∀ S', cRep u d (op_append x y s).2 S' → post (op_append x y s).1 S') : w_X9_append u post d x y S mc ms := by
  obtain ⟨mm, ad, lv, h⟩ := id hR
  rw [w_X9_append]
  refine ⟨h.fs, c_slotAt x h (fun e => ⟨fun _ => ?_, fun a z => absurd z (by simp)⟩) (fun i hi hx e => ⟨fun z => absurd z (by simp), fun a7 ea => ?_⟩)⟩
  · simp only [op_append, e] at hp; exact hp S hR
  · obtain rfl := Option.some.inj ea
    rcases ixO_cases y (n := 256) (by omega) with ⟨ey, hy⟩ | ⟨c, hc, rfl, ey⟩
    · simp only [op_append, e, ey] at hp
      rcases hy with hy | hy
      · exact ⟨fun _ => hp S hR, fun z => absurd hy z⟩
      · exact ⟨fun _ => hp S hR, fun _ => ⟨fun z => absurd z (ge256 hy), fun _ => hp S hR⟩⟩
    · simp only [op_append, e, ey] at hp
      refine ⟨fun z => absurd z (nI_pos (by omega)), fun _ => ⟨fun _ => ?_, fun z => absurd ((nI_leI (b := 255) (by omega) (by omega)).mpr (by omega)) z⟩⟩
      obtain ⟨o, k, ho⟩ := h.sl hi
      refine ⟨o, k.r rfl, ?_⟩
      cases ht : aSl s i with
      | none =>
        simp only [ht] at hp
        rw [ht] at ho
        have : o = none := ho
        subst this
        exact ⟨fun _ => hp S hR, fun a z => absurd z (by simp)⟩
      | some t =>
        simp only [ht] at hp
        rw [ht] at ho
        obtain ⟨a, rfl, h1, h2⟩ := ho
        refine ⟨fun z => absurd z (by simp), fun a13 ea => ?_⟩
        obtain rfl := Option.some.inj ea
        refine ⟨h1.get.1, st_len h1 ⟨fun z => ⟨by omega, by omega, fun q S22 hq e22 => ⟨1, 16, by omega, by omega, ?_⟩⟩, fun z => ?_⟩⟩
        · have hlt : t.length < 300 := (nI_ltI (b := 300) (by omega) (by omega)).mp z
          rw [if_pos hlt] at hp
          refine bld.new hq e22 (by omega) (by omega) (fun S30 b hb => ⟨hb.2.2.1.fs, 1, 602, by omega, by omega, ?_⟩)
          refine hb.appS h1 (by simpa using h2) (by omega) (by omega) (fun S38 b1 N1 hb1 => ⟨hb1.2.2.1.fs, 1, 602, by omega, by omega, ?_⟩)
          rw [u16c hc]
          refine hb1.appC hc (by simp; omega) (by omega) (by omega) (fun S46 b2 N2 hb2 => ⟨hb2.2.2.1.fs, 2, 304, by omega, by omega, ?_⟩)
          refine hb2.str (mm := mm) h.2.1.1 (by simp; omega) (by omega) (by omega) (fun r S54 hf hT => ?_)
          refine c_putInto (h.still hf) hi hT (by simp; omega) (fun S57 h57 => ?_)
          have h9 := hp S57 ⟨mm, ad, lv, h57⟩
          simpa using h9
        · rw [if_neg (fun q => z (nI_lt (b := 300) q (by omega)))] at hp; exact hp S hR
/-! the tape -/
/-- signs are put behind those of the tape (or what is unescaped), at the place c1; its row, at the place c2, may be a new one -/
theorem cR.grow {c1 c2 b' : Nat} {S' : hS} (h : cR u d mm ad lv s S) (hc1 : lv c1) (hc2 : lv c2) (hne : c1 ≠ c2) (hg : gS u S (ad c1) (ad c2) S' b') (hb : b' ∈ S'.1) :
    ∃ mm' ad', wf mm' S' ad' lv ∧ stp mm mm' ad ad' lv lv S S' (fun c => c = c2) (fun c => c = c1 ∨ c = c2) ∧ ad' c1 = ad c1 ∧ ad' c2 = b' := by
  have hw := h.2.1
  rcases hg.2 with z | z
  · refine ⟨mm, ad, hw.mono hg.1.1, ?_, rfl, z.symm⟩
    have hs := stp.at (Cs := fun c => c = c1 ∨ c = c2) hw hg.1.1 (fun a ha hc => hg.1.2 a ha (fun q => by
      simp only [List.mem_cons, List.not_mem_nil, or_false] at q
      rcases q with q | q
      · exact hc c1 (Or.inl rfl) q
      · exact hc c2 (Or.inr rfl) q)) (fun c hc => by rcases hc with rfl | rfl; exact hc1; exact hc2)
    exact ⟨hs.1, hs.2.1, fun _ _ => rfl, hs.2.2.2⟩
  · refine ⟨b' :: mm, va_up ad c2 b', ⟨fun a ha => ?_, fun c hc => ?_, fun c c' hc hc' e => ?_⟩, ⟨⟨hg.1.1, fun a ha hm => ⟨fun q => ?_, hg.1.2 a ha (fun q => ?_)⟩⟩, fun _ h => h, fun c hc => va_up_ne _ _ hc, fun c hc hn => ?_⟩, va_up_ne _ _ hne, va_up_self _ _ _⟩
    · rcases List.mem_cons.mp ha with q | q
      · rw [q]; exact hb
      · exact hg.1.1 a (hw.1 a q)
    · by_cases q : c = c2
      · rw [q, va_up_self]; exact List.mem_cons_self
      · rw [va_up_ne _ _ q]; exact List.mem_cons_of_mem _ (hw.2.1 c hc)
    · by_cases q : c = c2
      · by_cases q' : c' = c2
        · rw [q, q']
        · rw [q, va_up_self, va_up_ne _ _ q'] at e
          exact absurd (hw.at hc') (by rw [← e]; exact z.1)
      · by_cases q' : c' = c2
        · rw [q', va_up_self, va_up_ne _ _ q] at e
          exact absurd (hw.at hc) (by rw [e]; exact z.1)
        · rw [va_up_ne _ _ q, va_up_ne _ _ q'] at e
          exact hw.2.2 c c' hc hc' e
    · rcases List.mem_cons.mp q with q | q
      · exact z.1 (by rw [← q]; exact ha)
      · exact hm q
    · simp only [List.mem_cons, List.not_mem_nil, or_false] at q
      rcases q with q | q
      · exact hm (by rw [q]; exact hw.2.1 c1 hc1)
      · exact hm (by rw [q]; exact hw.2.1 c2 hc2)
    · rw [va_up_ne _ _ (fun q => hn (Or.inr q))]
      refine hg.1.2 _ (hw.at hc) (fun q => ?_)
      simp only [List.mem_cons, List.not_mem_nil, or_false] at q
      rcases q with q | q
      · exact hn (Or.inl (hw.2.2 c c1 hc hc1 q))
      · exact hn (Or.inr (hw.2.2 c c2 hc hc2 q))
/-- the tape's cells alone change -/
theorem cR.tape {mm' : List Nat} {ad' : Nat → Nat} {Ca Cs : Nat → Prop} {S' : hS} {T : Tx} (h : cR u d mm ad lv s S) (hw' : wf mm' S' ad' lv) (hs : stp mm mm' ad ad' lv lv S S' Ca Cs) (ha : ∀ c, Ca c → c = 3 ∨ c = 5) (hc : ∀ c, Cs c → 1 ≤ c ∧ c ≤ 6) (hT : tapC u S' ad' lv T) : cR u d mm' ad' lv (sTp s T) S' := by
  obtain ⟨⟨h0, h00⟩, hw, h1, h2, h3, h4, ⟨L, h5⟩, h6, h7, h8⟩ := h
  have e0 : ad' 0 = ad 0 := hs.2.2.1 0 (fun z => by have := ha 0 z; omega)
  refine ⟨⟨h0, e0.trans h00⟩, hw', h1.keep hs (fun c q => ?_) (fun q => ?_), h2.keep hs (fun c q => ?_), hT, h4.keep hs (fun c q => ?_) (fun c q => ?_), ⟨L, h5.keep hs ⟨fun q => ?_, fun q => ?_⟩ ⟨fun q => ?_, fun q => ?_⟩⟩, h6.keep hs (fun c q => ?_) (fun c q => ?_), h7.keep hs (fun c q => ?_) (fun c q => ?_), h8.keep hs (fun c q => ?_) (fun c q => ?_)⟩
  all_goals first
    | (have := ha _ q; unfold adF; omega)
    | (have := ha _ q; omega)
    | (have := hc _ q; omega)
theorem cR.tp (h : cR u d mm ad lv s S) : rR S d 10 1 (some (ad 1)) ∧ ∃ N t' N' f l k v g, tapD u S ad lv (aTp s) N t' N' f l k v g ∧ rO S (ad 1) 8 [va_rf (some (ad 2)), va_rf (some (ad 6)), va_rf (some (ad 4)), .int f, .int l, .int k, .int v] := by
  obtain ⟨sr, sg, lp, k1, -⟩ := h.dr
  obtain ⟨N, t', N', f, l, k, v, g, hT⟩ := h.2.2.2.2.1
  exact ⟨k1.r rfl, N, t', N', f, l, k, v, g, hT, h.2.1.at (hT.1 1 (by omega) (by omega)), hT.2.2.1⟩
theorem c_tapeLength {post : Int32 → Prop} (hR : cRep u d s S) (hp : post (op_tapeLength s).1) : w_X9_tapeLength u post d S := by
  obtain ⟨mm, ad, lv, h⟩ := id hR
  obtain ⟨k1, N, t', N', f, l, k, v, g, hT, k2⟩ := h.tp
  rw [w_X9_tapeLength]
  exact ⟨_, k1, _, rfl, _, k2.r rfl, _, rfl, hT.2.2.2.1.fs, sb_len hT.2.2.2.1 hp⟩
theorem c_tapeAt {post : Int32 → Prop} (x : Int32) (hR : cRep u d s S) (hp : post (op_tapeAt x s).1) : w_X9_tapeAt u post d x S := by
  obtain ⟨mm, ad, lv, h⟩ := id hR
  obtain ⟨k1, N, t', N', f, l, k, v, g, hT, k2⟩ := h.tp
  have hl := hT.2.1.1
  rw [w_X9_tapeAt]
  rcases ixO_cases x (n := (aTp s).length) (by omega) with ⟨ey, hy⟩ | ⟨j, hj, rfl, ey⟩
  · simp only [op_tapeAt, ey] at hp
    rcases hy with hy | hy
    · exact ⟨fun _ => hp, fun z => absurd hy z⟩
    · exact ⟨fun _ => hp, fun _ => ⟨_, k1, _, rfl, _, k2.r rfl, _, rfl, hT.2.2.2.1.fs, sb_len hT.2.2.2.1 ⟨fun z => absurd hy (Int32.not_le.mpr z), fun _ => hp⟩⟩⟩
  · simp only [op_tapeAt, ey] at hp
    exact ⟨fun z => absurd z (nI_pos (by omega)), fun _ => ⟨_, k1, _, rfl, _, k2.r rfl, _, rfl, hT.2.2.2.1.fs, sb_len hT.2.2.2.1 ⟨fun _ => ⟨_, k1, _, rfl, _, k2.r rfl, _, rfl, hT.2.2.2.1.fs, sb_charAt hT.2.2.2.1 hj hp⟩, fun z => absurd (nI_lt hj (by omega)) z⟩⟩⟩
theorem c_wipe {post : Int32 → hS → Prop} {mc ms : Nat} (hR : cRep u d s S) (hp : ∀ S', cRep u d (op_wipe s).2 S' → post (op_wipe s).1 S') : w_X9_wipe u post d S mc ms := by
  obtain ⟨mm, ad, lv, h⟩ := id hR
  obtain ⟨k1, N, t', N', f, l, k, v, g, hT, k2⟩ := h.tp
  rw [w_X9_wipe]
  refine ⟨_, k1, _, rfl, _, k2.r rfl, _, rfl, hT.2.2.2.1.fs, sb_len hT.2.2.2.1 ⟨_, k1, _, rfl, _, k2.r rfl, _, rfl, hT.2.2.2.1.fs, mc, ms, Nat.le_refl _, Nat.le_refl _, sb_setLength0 hT.2.2.2.1 hT.2.1.2.2.1.2 (fun S' hf hb => hp S' ?_)⟩⟩
  have l2 := hT.1 2 (by omega) (by omega)
  have hs := stp.at (Cs := fun c => c = 2) h.2.1 hf.1 (fun a ha hc => hf.2 a ha (fun q => hc 2 rfl (List.mem_singleton.mp q))) (fun c hc => by rw [hc]; exact l2)
  have e : ∀ c, lv c → c ≠ 2 → S'.2 (ad c) = S.2 (ad c) := fun c q1 q2 => hs.2.2.2 c q1 q2
  refine ⟨mm, ad, lv, h.tape (h.2.1.mono hf.1) hs (fun c z => absurd z (fun z => z)) (by rintro c rfl; omega) ⟨N, t', N', f, l, k, v, g, hT.1, ⟨by simp, fun c z => absurd z (by simp), hT.2.1.2.2⟩, ?_, hb, hT.2.2.2.2.1.keep hf.1 (e 4 (hT.1 4 (by omega) (by omega)) (by omega)) (e 5 (hT.1 5 (by omega) (by omega)) (by omega)), ?_⟩⟩
  · rw [e 1 (hT.1 1 (by omega) (by omega)) (by omega)]; exact hT.2.2.1
  · rw [e 6 (hT.1 6 (by omega) (by omega)) (by omega)]; exact hT.2.2.2.2.2
theorem c_isTyped {post : Int32 → Prop} (x : Int32) (h0 : tyO x = none → post 0) (h1 : ∀ c, c < 127 → x = nI c → tyO x = some c → post 1) : q_X9_isTyped post x := by
  have p1 : (x = 9 ∨ x = 10 ∨ x = 13 ∨ (¬ x < 32 ∧ ¬ 126 < x)) → post 1 := by
    intro h
    rcases tyO_cases x with ⟨e, q⟩ | ⟨c, hc, hx, e, q⟩
    · exact absurd h q
    · exact h1 c hc hx e
  have p0 : ¬ (x = 9 ∨ x = 10 ∨ x = 13 ∨ (¬ x < 32 ∧ ¬ 126 < x)) → post 0 := fun h => h0 (if_neg h)
  rw [q_X9_isTyped, q_X9_isPrinted]
  refine ⟨fun a => p1 (Or.inl a), fun a => ⟨fun b => p1 (Or.inr (Or.inl b)), fun b => ⟨fun c => p1 (Or.inr (Or.inr (Or.inl c))), fun c => ⟨fun d => ⟨fun _ => p0 ?_, fun z => absurd rfl z⟩, fun d => ⟨fun f => ⟨fun _ => p0 ?_, fun z => absurd rfl z⟩, fun f => ⟨fun z => absurd z (by decide), fun _ => p1 (Or.inr (Or.inr (Or.inr ⟨d, f⟩)))⟩⟩⟩⟩⟩⟩
  · rintro (q | q | q | ⟨q, -⟩)
    · exact a q
    · exact b q
    · exact c q
    · exact q d
  · rintro (q | q | q | ⟨-, q⟩)
    · exact a q
    · exact b q
    · exact c q
    · exact q f
theorem c_type {post : Int32 → hS → Prop} {mc ms : Nat} (hmc : 1100 ≤ mc) (hms : 13600 ≤ ms) (x : Int32) (hR : cRep u d s S) (hp : ∀ S', cRep u d (op_type x s).2 S' → post (op_type x s).1 S') : w_X9_type u post d x S mc ms := by
  obtain ⟨mm, ad, lv, h⟩ := id hR
  obtain ⟨k1, N, t', N', f, l, k, v, g, hT, k2⟩ := h.tp
  rw [w_X9_type]
  refine c_isTyped x (fun e => ⟨fun z => absurd rfl z, fun _ => ?_⟩) (fun c hc hx e => ⟨fun _ => ?_, fun z => absurd z (by decide)⟩)
  · simp only [op_type, e] at hp; exact hp S hR
  · simp only [op_type, e] at hp
    have hb := hT.2.2.2.1
    have hl := hT.2.1.1
    have hN := hT.2.1.2.2.1
    refine ⟨_, k1, _, rfl, _, k2.r rfl, _, rfl, hb.fs, sb_len hb ⟨fun z => ⟨_, k1, _, rfl, _, k2.r rfl, _, rfl, hb.fs, 1, 602, by omega, by omega, ?_⟩, fun z => ?_⟩⟩
    · have hlt : (aTp s).length < 300 := (nI_ltI (b := 300) (by omega) (by omega)).mp z
      rw [if_pos hlt] at hp
      rw [hx, u16c (by omega)]
      refine sb_append hb (by omega) (by omega) (fun q => ⟨by omega, by omega⟩) (fun S27 b' hg hb' => ?_)
      obtain ⟨mm', ad', hw', hs, e1, e2⟩ := h.grow (hT.1 2 (by omega) (by omega)) (hT.1 3 (by omega) (by omega)) (by omega) hg hb'.2.2.1
      have a' : ∀ c, c ≠ 3 → ad' c = ad c := fun c q => hs.2.2.1 c q
      have c' : ∀ c, lv c → c ≠ 2 → c ≠ 3 → S27.2 (ad' c) = S.2 (ad c) := fun c q q1 q2 => hs.2.2.2 c q (by omega)
      have hT' : tapC u S27 ad' lv (aTp s ++ [c]) := by
        refine ⟨gN N ((aTp s).length + 1), t', N', f, l, k, v, g, hT.1, ⟨by simp; omega, fun y hy => ?_, ?_, hT.2.1.2.2.2⟩, ?_, by rw [e1, e2]; exact hb', ?_, ?_⟩
        · rcases List.mem_append.mp hy with q | q
          · exact hT.2.1.2.1 y q
          · rw [List.mem_singleton.mp q]; exact hc
        · unfold gN; split <;> omega
        · rw [c' 1 (hT.1 1 (by omega) (by omega)) (by omega) (by omega), a' 2 (by omega), a' 4 (by omega), a' 6 (by omega)]; exact hT.2.2.1
        · have q4 := c' 4 (hT.1 4 (by omega) (by omega)) (by omega) (by omega)
          have q5 := c' 5 (hT.1 5 (by omega) (by omega)) (by omega) (by omega)
          rw [a' 4 (by omega)] at q4 ⊢
          rw [a' 5 (by omega)] at q5 ⊢
          exact hT.2.2.2.2.1.keep hs.1.1 q4 q5
        · rw [c' 6 (hT.1 6 (by omega) (by omega)) (by omega) (by omega)]; exact hT.2.2.2.2.2
      have h27 := h.tape hw' hs (fun c q => Or.inl q) (fun c q => by omega) hT'
      obtain ⟨k1', N1, t1', N1', f1, l1, kk1, v1, g1, hT1, k2'⟩ := h27.tp
      refine ⟨_, k1', _, rfl, _, k2'.r rfl, _, rfl, hT1.2.2.2.1.fs, sb_len hT1.2.2.2.1 ?_⟩
      have h9 := hp S27 ⟨mm', ad', lv, h27⟩
      have e9 : (aTp (sTp s (aTp s ++ [c]))).length = (aTp s).length + 1 := by
        show (aTp s ++ [c]).length = _
        simp
      rw [e9]; exact h9
    · rw [if_neg (fun q => z (nI_lt (b := 300) q (by omega)))] at hp; exact hp S hR
theorem c_refusals {post : Int32 → Prop} (x : Int32) (hR : cRep u d s S) (hp : post (op_refusals x s).1) : w_X9_refusals u post d x S := by
  obtain ⟨mm, ad, lv, h⟩ := id hR
  obtain ⟨sr, sg, lp, k1, -⟩ := h.dr
  rw [w_X9_refusals]
  refine ⟨fun a => ⟨_, k1.i rfl, ?_⟩, fun a => ⟨_, k1.i rfl, ?_⟩, fun a b => ?_⟩
  · simp only [op_refusals, if_pos a] at hp; exact hp
  · simp only [op_refusals, if_neg (show ¬ x = 0 by rw [a]; decide), if_pos a] at hp; exact hp
  · simp only [op_refusals, if_neg a, if_neg b] at hp; exact hp
/-- one of the drawer's own numbers -/
theorem cR.nums {S' : hS} {np ne : Int32} {sr lp : Nat} {sg : Nat → Option Nat} (h : cR u d mm ad lv s S) (k2 : im mm S sr (qE (u.2.1 8) 6 sg)) (k3 : ∀ i, i < 6 → sg i = some (ad (10 + i))) (k4 : pileC u mm S ad 20 lp) (e : S' = upS S d (.inr (10, [va_rf (some sr), va_rf (some (ad 1)), va_rf (some lp), va_rf (some (ad 32)), va_rf (some (ad 7)), va_rf (some (ad 8)), va_rf (some (ad 9)), .int np, .int ne]))) : cR u d mm ad lv (aSl s, aTp s, aLy s, aIm s, aTk s, aJn s, np, ne) S' := by
  obtain ⟨⟨h0, h00⟩, hw, ⟨hl, -⟩, h2, h3, h4, ⟨L, h5⟩, h6, h7, h8⟩ := h
  subst h00
  have hs : stp mm mm ad ad lv lv S S' (fun _ => False) (fun c => c = 0) := stp.at hw (fun a ha => by rw [e]; exact ha) (fun a ha hc => by rw [e]; exact va_upS_ne (hc 0 rfl)) (fun c hc => by rw [hc]; exact hl)
  have no : ∀ (P : Nat → Prop) (c : Nat), False → ¬ P c := fun _ _ z => absurd z (fun z => z)
  exact ⟨⟨h0, rfl⟩, hw.mono hs.1.1, ⟨hl, sr, sg, lp, by rw [e]; exact va_upS_self, k2.kept hs.1, k3, k4.keep hs.1 (fun _ _ => rfl)⟩, h2.keep hs (by rintro c rfl; omega), h3.keep hs (no _) (by rintro c rfl; omega), h4.keep hs (no _) (by rintro c rfl; omega), ⟨L, h5.keep hs ⟨fun z => z, fun z => z⟩ ⟨by omega, by omega⟩⟩, h6.keep hs (no _) (by rintro c rfl; omega), h7.keep hs (no _) (by rintro c rfl; omega), h8.keep hs (no _) (by rintro c rfl; omega)⟩
theorem c_refuseNull {post : Int32 → hS → Prop} (hR : cRep u d s S) (hp : ∀ S', cRep u d (sNp s) S' → post (-7) S') : w_X9_refuseNull u post d S := by
  obtain ⟨mm, ad, lv, h⟩ := id hR
  obtain ⟨sr, sg, lp, k1, k2, k3, k4⟩ := h.dr
  rw [w_X9_refuseNull]
  exact ⟨_, k1.i rfl, _, k1, by simp, fun S6 e6 => hp S6 ⟨mm, ad, lv, h.nums (np := aNp s + 1) (ne := aNe s) k2 k3 k4 e6⟩⟩
end CREP
