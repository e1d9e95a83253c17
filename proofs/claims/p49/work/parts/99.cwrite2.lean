/-! THE CLASS: a layer is written -/
theorem wrL_app : ∀ A B : Ly, wrL (A ++ B) = wrL A ++ wrL B
  | [], _ => rfl
  | p :: A, B => by
    show wrE p ++ wrL (A ++ B) = wrE p ++ wrL A ++ wrL B
    rw [wrL_app A B, List.append_assoc]
theorem wrL_split (L : Ly) (e : Nat) : (wrL L).length = (wrL (L.take e)).length + (wrL (L.drop e)).length := by
  conv => lhs; rw [← List.take_append_drop e L, wrL_app, List.length_append]
/-- how often a row may still grow -/
def gD (N : Nat) : Nat := if N < 34 then 5 else if N < 70 then 4 else if N < 142 then 3 else if N < 286 then 2 else if N < 300 then 1 else 0
theorem gD_lt {N N' : Nat} (h16 : 16 ≤ N) (h : N < 300) (h2 : 2 * N + 2 ≤ N') : gD N' + 1 ≤ gD N := by
  unfold gD
  repeat' split
  all_goals omega
theorem gD_le (N : Nat) : gD N ≤ 5 := by
  unfold gD
  repeat' split
  all_goals omega
theorem g_alloc {N Lf mc ms : Nat} (h16 : 16 ≤ N) (hLf : Lf ≤ 300) (hmc : 36 * gD N ≤ mc) (hms : 1172 * gD N ≤ ms) : ∃ k n, k ≤ mc ∧ n ≤ ms ∧ (N < Lf → 36 ≤ k ∧ 1172 ≤ n) ∧ ∀ N', Lf ≤ N' → (N' = N ∨ 2 * N + 2 ≤ N') → (Lf ≤ N → N' = N) → 36 * gD N' ≤ mc - k ∧ 1172 * gD N' ≤ ms - n := by
  by_cases q : N < Lf
  · have h1 := gD_lt (N' := 2 * N + 2) h16 (by omega) (Nat.le_refl _)
    refine ⟨36, 1172, by omega, by omega, fun _ => ⟨Nat.le_refl _, Nat.le_refl _⟩, fun N' a b c => ?_⟩
    have h2 := gD_lt (N := N) (N' := N') h16 (by omega) (by omega)
    omega
  · refine ⟨0, 0, by omega, by omega, fun z => absurd z q, fun N' a b c => ?_⟩
    rw [c (by omega)]; omega
section CREP
variable {u : hU} {d : Nat} {mm : List Nat} {ad : Nat → Nat} {lv : Nat → Prop} {s : AS} {S : hS}
/-- one sign, with a share of the room -/
theorem ga1 {a b N c mc ms : Nat} {o : Tx} {post : hS → Prop} (hb : bS u S a b o N) (h16 : 16 ≤ N) (h602 : N ≤ 602) (hL : o.length + 1 ≤ 300) (hc : c < 256) (hm : N < o.length + 1 → 36 ≤ mc ∧ 1172 ≤ ms)
    (hp : ∀ S' b' N', gS u S a b S' b' → bS u S' a b' (o ++ [c]) N' → 16 ≤ N' → N' ≤ 602 → o.length + 1 ≤ N' → (N' = N ∨ 2 * N + 2 ≤ N') → (o.length + 1 ≤ N → N' = N) → post S') : w_J4_append_cf u (fun _ S' => post S') a (nI c) S mc ms := by
  have hlN := hb.1.1
  refine sb_append hb hc (by omega) (fun q => ?_) (fun S' b' hg' hb' => hp S' b' _ hg' hb' ?_ ?_ ?_ ?_ ?_)
  · have := hm q; omega
  all_goals
    unfold gN
    try split
  all_goals omega
theorem c_writeOnto {post : hS → Prop} {l b N mc ms : Nat} {S1 : hS} (h : cR u d mm ad lv s S) (hl : l < 4) (hT : lv 2 ∧ lv 3) (hg : gS u S (ad 2) (ad 3) S1 b) (hb : bS u S1 (ad 2) b [] N) (h16 : 16 ≤ N) (h602 : N ≤ 602) (hL3 : (wrL (aLy s l)).length ≤ 300) (hmc : 180 ≤ mc) (hms : 5860 ≤ ms)
    (hp : ∀ S' b' N', gS u S (ad 2) (ad 3) S' b' → bS u S' (ad 2) b' (wrL (aLy s l)) N' → 16 ≤ N' → N' ≤ 602 → post S') : w_X3_writeOnto u post (ad (20 + l)) (some (ad 2)) S1 mc ms := by
  have hL0 := h.ly hl
  have h40 := hL0.2.2.1
  rw [w_X3_writeOnto]
  refine ⟨(aLy s l).length + 1, ?_⟩
  have key : ∀ n e S1 b N mc ms, e + n = (aLy s l).length → gS u S (ad 2) (ad 3) S1 b → bS u S1 (ad 2) b (wrL ((aLy s l).take e)) N → 16 ≤ N → N ≤ 602 → 36 * gD N ≤ mc → 1172 * gD N ≤ ms → w_X3_writeOnto_2 u post (ad (20 + l)) (n + 1) (some (ad 2)) (nI e) S1 mc ms := by
    intro n
    induction n with
    | zero =>
      intro e S1 b N mc ms he hg hb h16 h602 hmc hms
      obtain ⟨mm', ad', hw', hs, e1, e2⟩ := h.grow hT.1 hT.2 (by omega) hg hb.2.2.1
      have hL1 := hL0.keep hs ⟨by omega, by omega⟩ ⟨by omega, by omega⟩
      have e20 : ad' (20 + l) = ad (20 + l) := hs.2.2.1 _ (by omega)
      rw [← e20, w_X3_writeOnto_2]
      refine ⟨_, (hL1.o hw').i rfl, fun _ => hp S1 b N hg ?_ h16 h602, fun z => absurd (nI_le (by omega) (by omega)) z⟩
      rw [List.take_of_length_le (by omega)] at hb; exact hb
    | succ n ih =>
      intro e S1 b N mc ms he hg hb h16 h602 hmc hms
      have hel : e < (aLy s l).length := by omega
      obtain ⟨mm', ad', hw', hs, e1, e2⟩ := h.grow hT.1 hT.2 (by omega) hg hb.2.2.1
      have hL1 := hL0.keep hs ⟨by omega, by omega⟩ ⟨by omega, by omega⟩
      have e20 : ad' (20 + l) = ad (20 + l) := hs.2.2.1 _ (by omega)
      have m2 : ad 2 ∈ mm' := by rw [← e1]; exact hw'.2.1 2 hT.1
      have m3 : b ∈ mm' := by rw [← e2]; exact hw'.2.1 3 hT.2
      have hsp := wrL_split (aLy s l) e
      rw [wrL_drop hel] at hsp
      rw [← e20, w_X3_writeOnto_2]
      refine ⟨_, (hL1.o hw').i rfl, fun z => absurd z (nI_ge hel (by omega)), fun _ => ⟨⟨_, hL1.o hw'⟩, c_entryAt hL1 hw' (by omega) (fun q => absurd q (by omega)) (fun a q hE => ⟨fun z => absurd z (by simp), fun a11 e11 => ?_⟩)⟩⟩
      obtain rfl := Option.some.inj e11
      obtain ⟨ka, va, k1, k2, k3, k4, k5⟩ := hE
      obtain ⟨x1, y1, p1, p2, p3, p4⟩ := g_alloc (Lf := (wrL ((aLy s l).take e)).length + (escT ((aLy s l).getD e ([], [])).1).length) h16 (by omega) hmc hms
      refine ⟨some ka, ⟨k1.1, _, k1.2.2, rfl⟩, x1, y1, p1, p2, ?_⟩
      refine c_escapeOnto m2 m3 k2 gS.rf hb ⟨h16, h602⟩ (by omega) p3 (fun S2 b2 N2 hg2 hb2 a16 a602 aor aeq => ⟨_, rfl, hb2.fs, ?_⟩)
      have l2 := hb2.1.1
      rw [List.length_append] at l2
      obtain ⟨p5, p6⟩ := p4 N2 l2 aor aeq
      obtain ⟨x2, y2, r1, r2, r3, r4⟩ := g_alloc (Lf := (wrL ((aLy s l).take e) ++ escT ((aLy s l).getD e ([], [])).1).length + 1) a16 (by rw [List.length_append]; omega) p5 p6
      refine ⟨x2, y2, r1, r2, ?_⟩
      refine ga1 (c := 61) hb2 a16 a602 (by rw [List.length_append]; omega) (by omega) r3 (fun S3 b3 N3 hg3 hb3 c16 c602 clen cor ceq => ?_)
      obtain ⟨r5, r6⟩ := r4 N3 clen cor ceq
      have hg13 := hg2.tr hg3
      have kk := hg13.kp m2 m3
      have l3 := hb3.1.1
      obtain ⟨x3, y3, s1, s2, s3, s4⟩ := g_alloc (Lf := (wrL ((aLy s l).take e) ++ escT ((aLy s l).getD e ([], [])).1 ++ [61]).length + (escT ((aLy s l).getD e ([], [])).2).length) c16 (by simp only [List.length_append, List.length_singleton]; omega) r5 r6
      refine ⟨some va, ⟨(k1.kept kk).1, _, (k1.kept kk).2.2, rfl⟩, x3, y3, s1, s2, ?_⟩
      refine c_escapeOnto m2 m3 k4 hg13 hb3 ⟨c16, c602⟩ (by simp only [List.length_append, List.length_singleton]; omega) s3 (fun S4 b4 N4 hg4 hb4 d16 d602 dor deq => ⟨hb4.fs, ?_⟩)
      have l4 := hb4.1.1
      rw [List.length_append] at l4
      obtain ⟨s5, s6⟩ := s4 N4 l4 dor deq
      obtain ⟨x4, y4, t1, t2, t3, t4⟩ := g_alloc (Lf := (wrL ((aLy s l).take e) ++ escT ((aLy s l).getD e ([], [])).1 ++ [61] ++ escT ((aLy s l).getD e ([], [])).2).length + 1) d16 (by simp only [List.length_append, List.length_singleton]; omega) s5 s6
      refine ⟨x4, y4, t1, t2, ?_⟩
      refine ga1 (c := 10) hb4 d16 d602 (by simp only [List.length_append, List.length_singleton]; omega) (by omega) t3 (fun S5 b5 N5 hg5 hb5 f16 f602 flen for' feq v48 e48 => ?_)
      obtain ⟨t5, t6⟩ := t4 N5 flen for' feq
      rw [e48, nI_1, e20]
      refine ih (e + 1) S5 b5 N5 _ _ (by omega) (hg.tr (hg4.tr hg5)) ?_ f16 f602 t5 t6
      have e2' : (aLy s l).take (e + 1) = (aLy s l).take e ++ [(aLy s l).getD e ([], [])] := by
        rw [List.take_add_one, List.getD_eq_getElem?_getD, List.getElem?_eq_getElem hel]; rfl
      rw [e2', wrL_snoc]
      have e3 : wrL ((aLy s l).take e) ++ wrE ((aLy s l).getD e ([], [])) = wrL ((aLy s l).take e) ++ escT ((aLy s l).getD e ([], [])).1 ++ [61] ++ escT ((aLy s l).getD e ([], [])).2 ++ [10] := by
        unfold wrE; simp only [List.append_assoc]
      rw [e3]; exact hb5
  have := gD_le N
  exact key _ 0 S1 b N mc ms (by omega) hg (by rw [List.take_zero]; exact hb) h16 h602 (by omega) (by omega)
theorem layC.lat {l : Nat} {L : Ly} (h : layC u mm S ad lv l L) : ∀ p ∈ L, tLat p.1 ∧ tLat p.2 := by
  intro p hp
  obtain ⟨i, hi, rfl⟩ := List.getElem_of_mem hp
  obtain ⟨g, g1, g2⟩ := h.2.2.2.2
  obtain ⟨a, -, ka, va, k1, k2, k3, k4, k5⟩ := g2 i hi
  rw [List.getD_eq_getElem?_getD, List.getElem?_eq_getElem hi] at k2 k3 k4 k5
  exact ⟨⟨k3, k2.1.2⟩, ⟨k5, k4.1.2⟩⟩
/-- the tape's signs and their row alone have changed -/
theorem cR.signs {b N : Nat} {S' : hS} {T : Tx} (h : cR u d mm ad lv s S) (hg : gS u S (ad 2) (ad 3) S' b) (hb : bS u S' (ad 2) b T N) (h16 : 16 ≤ N) (h602 : N ≤ 602) (hT3 : T.length ≤ 300) (hT : ∀ c ∈ T, c < 127) : cRep u d (sTp s T) S' := by
  obtain ⟨k1, N0, t', N', f, l, k, v, g, hD, k2⟩ := h.tp
  obtain ⟨mm', ad', hw', hs, e1, e2⟩ := h.grow (hD.1 2 (by omega) (by omega)) (hD.1 3 (by omega) (by omega)) (by omega) hg hb.2.2.1
  have a' : ∀ c, c ≠ 3 → ad' c = ad c := fun c q => hs.2.2.1 c q
  have c' : ∀ c, lv c → c ≠ 2 → c ≠ 3 → S'.2 (ad' c) = S.2 (ad c) := fun c q q1 q2 => hs.2.2.2 c q (by omega)
  refine ⟨mm', ad', lv, h.tape hw' hs (fun c q => Or.inl q) (fun c q => by omega) ⟨N, t', N', f, l, k, v, g, hD.1, ⟨hT3, hT, ⟨h16, h602⟩, hD.2.1.2.2.2⟩, ?_, by rw [e1, e2]; exact hb, ?_, ?_⟩⟩
  · rw [c' 1 (hD.1 1 (by omega) (by omega)) (by omega) (by omega), a' 2 (by omega), a' 4 (by omega), a' 6 (by omega)]; exact hD.2.2.1
  · have q4 := c' 4 (hD.1 4 (by omega) (by omega)) (by omega) (by omega)
    have q5 := c' 5 (hD.1 5 (by omega) (by omega)) (by omega) (by omega)
    rw [a' 4 (by omega)] at q4 ⊢
    rw [a' 5 (by omega)] at q5 ⊢
    exact hD.2.2.2.2.1.keep hs.1.1 q4 q5
  · rw [c' 6 (hD.1 6 (by omega) (by omega)) (by omega) (by omega)]; exact hD.2.2.2.2.2
theorem c_write {post : Int32 → hS → Prop} {mc ms : Nat} (hmc : 1100 ≤ mc) (hms : 13600 ≤ ms) (x : Int32) (hR : cRep u d s S) (hp : ∀ S', cRep u d (op_write x s).2 S' → post (op_write x s).1 S') : w_X9_write u post d x S mc ms := by
  obtain ⟨mm, ad, lv, h⟩ := id hR
  obtain ⟨lp, p1, p2⟩ := h.pl
  obtain ⟨k1, N, t', N', f, l0, k, v, g, hD, k2⟩ := h.tp
  rw [w_X9_write]
  refine ⟨_, p1, _, rfl, p2.fs, c_layR x p2 (fun r hr => ⟨fun z => ?_, fun a z => ?_⟩)⟩
  · simp only [op_write, hr.nn z] at hp; exact hp S hR
  · obtain ⟨l, hl, hx, e, rfl⟩ := hr.sm z
    simp only [op_write, e] at hp
    have hL := h.ly hl
    have hok := wrL_ok _ hL.lat
    have h40 := hL.2.2.1
    have hbig : (wrL (aLy s l)).length < 2 ^ 31 := by
      have := Nat.mul_le_mul_left 3602 h40
      omega
    have hb := hD.2.2.2.1
    have hN := hD.2.1.2.2.1
    refine ⟨⟨_, hL.o h.2.1⟩, c_writtenLength hL h.2.1 ⟨fun z => ⟨_, k1, _, rfl, _, k2.r rfl, _, rfl, hb.fs, 0, 0, by omega, by omega, ?_⟩, fun z => ?_⟩⟩
    · have hle := (nI_leI (b := 300) hbig (by omega)).mp z
      rw [if_pos hle] at hp
      refine sb_setLength0 hb hN.2 (fun S29 hf hb29 => ?_)
      have hg : gS u S (ad 2) (ad 3) S29 (ad 3) := ⟨hf.wide (fun y hy => Or.inl (by rw [List.mem_singleton.mp hy]; simp)), Or.inl rfl⟩
      have old : ∀ c, lv c → c ≠ 2 → S29.2 (ad c) = S.2 (ad c) := fun c q1 q2 => hf.2 _ (h.2.1.at q1) (fun q => q2 (h.2.1.2.2 c 2 q1 (hD.1 2 (by omega) (by omega)) (List.mem_singleton.mp q)))
      have d29 : ∃ fs, rO S29 d 10 fs ∧ rR S29 d 10 1 (some (ad 1)) := by
        obtain ⟨b0, fs, b1, b2⟩ := k1
        have e0 : ad 0 = d := h.1.2
        have o0 := old 0 h.2.2.1.1 (by omega)
        rw [e0] at o0
        exact ⟨fs, ⟨hf.1 _ b0, o0.trans b1⟩, hf.1 _ b0, fs, o0.trans b1, b2⟩
      have t29 : rO S29 (ad 1) 8 [va_rf (some (ad 2)), va_rf (some (ad 6)), va_rf (some (ad 4)), .int f, .int l0, .int k, .int v] := ⟨hf.1 _ k2.1, (old 1 (hD.1 1 (by omega) (by omega)) (by omega)).trans k2.2⟩
      have l29 : ∃ fs, rO S29 (ad (20 + l)) 4 fs := ⟨_, hf.1 _ (hL.o h.2.1).1, (old (20 + l) hL.1 (by omega)).trans (hL.o h.2.1).2⟩
      refine ⟨_, d29.choose_spec.2, _, rfl, _, t29.r rfl, l29, 180, 5860, by omega, by omega, ?_⟩
      refine c_writeOnto h hl ⟨hD.1 2 (by omega) (by omega), hD.1 3 (by omega) (by omega)⟩ hg hb29 hN.1 hN.2 hle (by omega) (by omega) (fun S42 b42 N42 hg42 hb42 n16 n602 => ?_)
      have h42 := h.signs hg42 hb42 n16 n602 hle hok.1
      obtain ⟨mm', ad', lv', h42'⟩ := id h42
      obtain ⟨m1, N1, t1', N1', f1, l1, kk1, v1, g1, hD1, m2⟩ := h42'.tp
      refine ⟨_, m1, _, rfl, _, m2.r rfl, _, rfl, hD1.2.2.2.1.fs, sb_len hD1.2.2.2.1 ?_⟩
      exact hp S42 h42
    · rw [if_neg (fun q => z (nI_le (b := 300) q (by omega)))] at hp; exact hp S hR
end CREP
