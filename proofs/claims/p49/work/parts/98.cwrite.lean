/-! THE CLASS: write -/
theorem c_letterFor {post : Int32 → Prop} {c : Nat} (hc : c < 256) (h1 : ∀ e, letF c = some e → post (nI e)) (h0 : letF c = none → post (-1)) : q_X1_letterFor post (nI c) := by
  have cs : ∀ b : Nat, b < 256 → nI c = nI b → c = b := fun b hb z => (nI_eq (by omega) (by omega)).mp z
  rw [q_X1_letterFor]
  refine ⟨fun z => ?_, fun z => ?_, fun z => ?_, fun z => ?_, fun z => ?_, fun z => ?_, fun z => ?_, fun z => ?_, fun z => ?_, fun z1 z2 z3 z4 z5 z6 z7 z8 z9 => h0 ?_⟩
  · have := cs 9 (by omega) z; subst this; exact h1 116 rfl
  · have := cs 10 (by omega) z; subst this; exact h1 110 rfl
  · have := cs 13 (by omega) z; subst this; exact h1 114 rfl
  · have := cs 32 (by omega) z; subst this; exact h1 32 rfl
  · have := cs 33 (by omega) z; subst this; exact h1 33 rfl
  · have := cs 35 (by omega) z; subst this; exact h1 35 rfl
  · have := cs 58 (by omega) z; subst this; exact h1 58 rfl
  · have := cs 61 (by omega) z; subst this; exact h1 61 rfl
  · have := cs 92 (by omega) z; subst this; exact h1 92 rfl
  · have n1 : c ≠ 9 := fun q => z1 (by rw [q]; rfl)
    have n2 : c ≠ 10 := fun q => z2 (by rw [q]; rfl)
    have n3 : c ≠ 13 := fun q => z3 (by rw [q]; rfl)
    have n4 : c ≠ 32 := fun q => z4 (by rw [q]; rfl)
    have n5 : c ≠ 33 := fun q => z5 (by rw [q]; rfl)
    have n6 : c ≠ 35 := fun q => z6 (by rw [q]; rfl)
    have n7 : c ≠ 58 := fun q => z7 (by rw [q]; rfl)
    have n8 : c ≠ 61 := fun q => z8 (by rw [q]; rfl)
    have n9 : c ≠ 92 := fun q => z9 (by rw [q]; rfl)
    unfold letF
    rw [if_neg n1, if_neg n2, if_neg n3, if_neg (by omega)]
theorem c_isPrinted {post : Int32 → Prop} {c : Nat} (hc : c < 256) (h1 : 32 ≤ c ∧ c ≤ 126 → post 1) (h0 : ¬ (32 ≤ c ∧ c ≤ 126) → post 0) : q_X9_isPrinted post (nI c) := by
  rw [q_X9_isPrinted]
  refine ⟨fun z => h0 ?_, fun z => ⟨fun z2 => h0 ?_, fun z2 => h1 ⟨?_, ?_⟩⟩⟩
  · have := (nI_ltI (b := 32) (by omega) (by omega)).mp z
    omega
  · have := (nI_ltI (a := 126) (by omega) (by omega)).mp z2
    omega
  · rcases Nat.lt_or_ge c 32 with q | q
    · exact absurd (nI_lt (b := 32) q (by omega)) z
    · exact q
  · rcases Nat.lt_or_ge 126 c with q | q
    · exact absurd (nI_lt (a := 126) q (by omega)) z2
    · exact q
theorem escT_drop {t : Tx} {j : Nat} (h : j < t.length) : escT (t.drop j) = escF (t.getD j 0) ++ escT (t.drop (j + 1)) := by
  rw [drop_cons h]; rfl
theorem escT_take {t : Tx} {j : Nat} (h : j < t.length) : escT (t.take (j + 1)) = escT (t.take j) ++ escF (t.getD j 0) := by
  have e2 : t.take (j + 1) = t.take j ++ [t.getD j 0] := by
    rw [List.take_add_one, List.getD_eq_getElem?_getD, List.getElem?_eq_getElem h]; rfl
  rw [e2, escT_app]
  simp [escT]
theorem escT_split (t : Tx) (j : Nat) : (escT t).length = (escT (t.take j)).length + (escT (t.drop j)).length := by
  conv => lhs; rw [← List.take_append_drop j t, escT_app, List.length_append]
section CREP
variable {u : hU} {d : Nat} {mm : List Nat} {ad : Nat → Nat} {lv : Nat → Prop} {s : AS} {S : hS}
theorem c_escapedLength {post : Int32 → Prop} {a : Nat} {t : Tx} (ht : tS u mm S a t) (hp : post (nI (escT t).length)) : w_X1_escapedLength u post (some a) S := by
  have hl := ht.1.1
  rw [w_X1_escapedLength]
  refine ⟨t.length + 1, ?_⟩
  have key : ∀ n j acc, j + n = t.length → acc + (escT (t.drop j)).length = (escT t).length → w_X1_escapedLength_4 u post (n + 1) (some a) (nI acc) (nI j) S := by
    intro n
    induction n with
    | zero =>
      intro j acc hj he
      rw [w_X1_escapedLength_4]
      refine ⟨a, rfl, ht.get.1, st_len ht ⟨fun _ => ?_, fun z => absurd (nI_le (by omega) (by omega)) z⟩⟩
      rw [drop_nil (by omega)] at he
      have : acc = (escT t).length := he
      rw [this]; exact hp
    | succ n ih =>
      intro j acc hj he
      have hjl : j < t.length := by omega
      have hc := ht.lt hjl
      rw [escT_drop hjl, List.length_append] at he
      rw [w_X1_escapedLength_4]
      refine ⟨a, rfl, ht.get.1, st_len ht ⟨fun z => absurd z (nI_ge hjl (by omega)), fun _ => ⟨ht.get.1, st_charAt ht hjl (c_letterFor hc (fun e e1 => ⟨fun z => ?_, fun _ v22 e22 v23 e23 => ?_⟩) (fun e1 => ⟨fun _ => c_isPrinted hc (fun q => ⟨fun z => absurd z (by decide), fun _ v20 e20 v21 e21 => ?_⟩) (fun q => ⟨fun _ v18 e18 v19 e19 => ?_, fun z => absurd rfl z⟩), fun z => absurd rfl z⟩))⟩⟩⟩
      · have := letF_lt e1
        exact absurd (show (-1 : Int32) < 0 by decide) (by rw [← z]; exact nI_pos (by omega))
      · have el : (escF (t.getD j 0)).length = 2 := by unfold escF; rw [e1]; rfl
        rw [e22, e23, nI_1, show nI acc + 2 = nI (acc + 2) from nI_add acc 2]
        exact ih (j + 1) (acc + 2) (by omega) (by omega)
      · have el : (escF (t.getD j 0)).length = 1 := by
          unfold escF; rw [e1]
          show (if _ then _ else _ : Tx).length = 1
          rw [if_pos q]; rfl
        rw [e20, e21, nI_1, nI_1]
        exact ih (j + 1) (acc + 1) (by omega) (by omega)
      · have el : (escF (t.getD j 0)).length = 6 := by
          unfold escF; rw [e1]
          show (if _ then _ else _ : Tx).length = 6
          rw [if_neg q]; rfl
        rw [e18, e19, nI_1, show nI acc + 6 = nI (acc + 6) from nI_add acc 6]
        exact ih (j + 1) (acc + 6) (by omega) (by omega)
  exact key t.length 0 0 (by omega) (by rw [List.drop_zero]; omega)
theorem wrL_drop {L : Ly} {e : Nat} (h : e < L.length) : (wrL (L.drop e)).length = (escT (L.getD e ([], [])).1).length + 1 + ((escT (L.getD e ([], [])).2).length + 1) + (wrL (L.drop (e + 1))).length := by
  rw [dropL h]
  show (wrE _ ++ wrL _).length = _
  unfold wrE
  simp only [List.length_append, List.length_cons, List.length_nil]
  omega
theorem c_writtenLength {post : Int32 → Prop} {j : Nat} {L : Ly} (h : layC u mm S ad lv j L) (hw : wf mm S ad lv) (hp : post (nI (wrL L).length)) : w_X3_writtenLength u post (ad (20 + j)) S := by
  have h40 := h.2.2.1
  rw [w_X3_writtenLength]
  refine ⟨L.length + 1, ?_⟩
  have key : ∀ n e acc, e + n = L.length → acc + (wrL (L.drop e)).length = (wrL L).length → w_X3_writtenLength_4 u post (ad (20 + j)) (n + 1) (nI acc) (nI e) S := by
    intro n
    induction n with
    | zero =>
      intro e acc he ha
      rw [w_X3_writtenLength_4]
      refine ⟨_, (h.o hw).i rfl, fun _ => ?_, fun z => absurd (nI_le (by omega) (by omega)) z⟩
      rw [List.drop_eq_nil_of_le (by omega)] at ha
      have : acc = (wrL L).length := ha
      rw [this]; exact hp
    | succ n ih =>
      intro e acc he ha
      rw [wrL_drop (by omega)] at ha
      rw [w_X3_writtenLength_4]
      refine ⟨_, (h.o hw).i rfl, fun z => absurd z (nI_ge (by omega) (by omega)), fun _ => ⟨⟨_, h.o hw⟩, c_entryAt h hw (by omega) (fun q => absurd q (by omega)) (fun b q hE => ⟨fun z => absurd z (by simp), fun a11 e11 => ?_⟩)⟩⟩
      obtain rfl := Option.some.inj e11
      obtain ⟨ka, va, k1, k2, k3, k4, k5⟩ := hE
      refine ⟨some ka, ⟨k1.1, _, k1.2.2, rfl⟩, c_escapedLength k2 (fun v19 e19 => ⟨some va, ⟨k1.1, _, k1.2.2, rfl⟩, c_escapedLength k4 (fun v26 e26 v27 e27 => ?_)⟩)⟩
      rw [e27, e26, e19, nI_1, nI_1, nI_1, nI_add, nI_add]
      exact ih (e + 1) _ (by omega) (by omega)
  exact key L.length 0 0 (by omega) (by rw [List.drop_zero]; omega)
end CREP
/-- room for the growth of one row on the way to a text of Lf signs: N at first, N1 now -/
def gBd (N Lf N1 mc ms : Nat) : Prop := (Lf ≤ N → N1 = N) ∧ (N1 = N ∨ 2 * N + 2 ≤ N1) ∧ (16 ≤ N1 ∧ N1 ≤ 602) ∧ Lf ≤ 300 ∧ (N1 < Lf → gC N1 ≤ mc ∧ gM N1 ≤ ms)
theorem gBd.next {N Lf N1 mc ms L : Nat} (h : gBd N Lf N1 mc ms) (hL : L + 1 ≤ Lf) : ∃ k n, k ≤ mc ∧ n ≤ ms ∧ (N1 < L + 1 → 1 ≤ k ∧ 2 * N1 + 2 ≤ n) ∧ gBd N Lf (gN N1 (L + 1)) (mc - k) (ms - n) := by
  obtain ⟨h1, h2, h3, h4, h5⟩ := h
  unfold gBd
  by_cases q : N1 < L + 1
  · obtain ⟨a1, a2⟩ := h5 (by omega)
    have e : gN N1 (L + 1) = 2 * N1 + 2 := if_pos q
    rw [e]
    unfold gC gM at *
    refine ⟨1, 2 * N1 + 2, by omega, by omega, fun _ => ⟨by omega, by omega⟩, by omega, by omega, by omega, by omega, fun _ => ⟨by omega, by omega⟩⟩
  · have e : gN N1 (L + 1) = N1 := if_neg q
    rw [e]
    exact ⟨0, 0, by omega, by omega, fun z => absurd z q, h1, h2, h3, h4, h5⟩
theorem ga {u : hU} {S0 S : hS} {a b0 b N Lf N1 mc ms c : Nat} {o : Tx} {post : Nat → Nat → hS → Prop} (hg : gS u S0 a b0 S b) (hb : bS u S a b o N1) (hB : gBd N Lf N1 mc ms) (hL : o.length + 1 ≤ Lf) (hc : c < 256)
    (hp : ∀ k n S' b' N', gS u S0 a b0 S' b' → bS u S' a b' (o ++ [c]) N' → gBd N Lf N' (mc - k) (ms - n) → post k n S') : ∃ k n, k ≤ mc ∧ n ≤ ms ∧ w_J4_append_cf u (fun _ S' => post k n S') a (nI c) S k n := by
  obtain ⟨k, n, h1, h2, h3, h4⟩ := hB.next hL
  have h16 := hB.2.2.1
  exact ⟨k, n, h1, h2, sb_append hb hc (by omega) h3 (fun S' b' hg' hb' => hp k n S' b' _ (hg.tr hg') hb' h4)⟩
/-- what stays, in texts, while signs are put behind a text -/
theorem gS.kp {u : hU} {S0 S : hS} {a b0 b : Nat} {mm : List Nat} (hg : gS u S0 a b0 S b) (ha : a ∈ mm) (hb : b0 ∈ mm) : kp mm mm S0 S :=
  hg.1.kp (fun x hx => Or.inl (by
    simp only [List.mem_cons, List.not_mem_nil, or_false] at hx
    rcases hx with rfl | rfl
    · exact ha
    · exact hb)) (fun _ _ h => h)
section CREP
variable {u : hU} {d : Nat} {mm : List Nat} {ad : Nat → Nat} {lv : Nat → Prop} {s : AS} {S0 : hS}
theorem kT1 {v : Nat} (h : v < 16) : (kT 1).getD v 0 = hexS v ∧ hexS v < 256 := by
  have : ∀ v : Fin 16, (kT 1).getD v.1 0 = hexS v.1 ∧ hexS v.1 < 256 := by decide +kernel
  exact this ⟨v, h⟩
theorem c_hexStep {post : hS → Prop} {K2 : Option Nat → Option Nat → Int32 → hS → Nat → Nat → Prop} {a b0 x1 b N Lf N1 mc ms v nf : Nat} {x2 x3 x5 : Int32} {S : hS} {o : Tx} (h5 : ¬ x5 < 0) (hv : (x3 >>> (x5 &&& 31)) &&& 15 = nI v) (hv16 : v < 16) (hg : gS u S0 a b0 S b) (hb : bS u S a b o N1) (hB : gBd N Lf N1 mc ms) (hL : o.length + 1 ≤ Lf)
    (hp : ∀ mc' ms' S' b' N', gS u S0 a b0 S' b' → bS u S' a b' (o ++ [hexS v]) N' → gBd N Lf N' mc' ms' → w_X1_escapeOnto_81 u post K2 nf a x1 x2 x3 (x5 + (-4)) S' mc' ms') : w_X1_escapeOnto_81 u post K2 (nf + 1) a x1 x2 x3 x5 S mc ms := by
  obtain ⟨q1, q2⟩ := kT1 hv16
  have hT : tS u [] S (u.1 1).1 (kT 1) := st_const (by omega)
  rw [w_X1_escapeOnto_81]
  refine ⟨fun z => absurd z h5, fun _ => ⟨hT.get.1, ?_⟩⟩
  rw [hv]
  refine st_charAt hT (by show v < 16; exact hv16) ⟨hb.fs, ?_⟩
  rw [q1]
  exact ga hg hb hB hL q2 (fun k n S' b' N' hg' hb' hB' v79 e79 => by rw [e79]; exact hp _ _ S' b' N' hg' hb' hB')
theorem c_escapeOnto {post : hS → Prop} {a b0 x b N mc ms : Nat} {S : hS} {o t : Tx} (ha : a ∈ mm) (hb0 : b0 ∈ mm) (ht : tS u mm S0 x t) (hg : gS u S0 a b0 S b) (hb : bS u S a b o N) (hN : 16 ≤ N ∧ N ≤ 602) (hL : o.length + (escT t).length ≤ 300) (hm : N < o.length + (escT t).length → 36 ≤ mc ∧ 1172 ≤ ms)
    (hp : ∀ S' b' N', gS u S0 a b0 S' b' → bS u S' a b' (o ++ escT t) N' → 16 ≤ N' → N' ≤ 602 → (N' = N ∨ 2 * N + 2 ≤ N') → (o.length + (escT t).length ≤ N → N' = N) → post S') : w_X1_escapeOnto u post (some a) (some x) S mc ms := by
  have hl := ht.1.1
  rw [w_X1_escapeOnto]
  refine ⟨t.length + 1, ?_⟩
  have key : ∀ n j S1 b1 N1 mc1 ms1, j + n = t.length → gS u S0 a b0 S1 b1 → bS u S1 a b1 (o ++ escT (t.take j)) N1 → gBd N (o.length + (escT t).length) N1 mc1 ms1 → w_X1_escapeOnto_2 u post (n + 1) (some a) (some x) (nI j) S1 mc1 ms1 := by
    intro n
    induction n with
    | zero =>
      intro j S1 b1 N1 mc1 ms1 hj hg1 hb1 hB1
      have ht1 := ht.kept (hg1.kp ha hb0)
      rw [w_X1_escapeOnto_2]
      refine ⟨x, rfl, ht1.get.1, st_len ht1 ⟨fun _ => ?_, fun z => absurd (nI_le (by omega) (by omega)) z⟩⟩
      rw [List.take_of_length_le (by omega)] at hb1
      exact hp S1 b1 N1 hg1 hb1 hB1.2.2.1.1 hB1.2.2.1.2 hB1.2.1 hB1.1
    | succ n ih =>
      intro j S1 b1 N1 mc1 ms1 hj hg1 hb1 hB1
      have hjl : j < t.length := by omega
      have ht1 := ht.kept (hg1.kp ha hb0)
      have hc := ht.lt hjl
      have hsp := escT_split t j
      rw [escT_drop hjl, List.length_append] at hsp
      have hlen : (o ++ escT (t.take j)).length + (escF (t.getD j 0)).length ≤ o.length + (escT t).length := by rw [List.length_append]; omega
      have nxt : ∀ S2 b2 N2 mc2 ms2, gS u S0 a b0 S2 b2 → bS u S2 a b2 ((o ++ escT (t.take j)) ++ escF (t.getD j 0)) N2 → gBd N (o.length + (escT t).length) N2 mc2 ms2 → ∀ v : Int32, v = nI j + 1 → w_X1_escapeOnto_2 u post (n + 1) (some a) (some x) v S2 mc2 ms2 := by
        intro S2 b2 N2 mc2 ms2 hg2 hb2 hB2 v ev
        rw [ev, nI_1]
        refine ih (j + 1) S2 b2 N2 mc2 ms2 (by omega) hg2 ?_ hB2
        rw [escT_take hjl, ← List.append_assoc]; exact hb2
      rw [w_X1_escapeOnto_2]
      refine ⟨x, rfl, ht1.get.1, st_len ht1 ⟨fun z => absurd z (nI_ge hjl (by omega)), fun _ => ⟨ht1.get.1, st_charAt ht1 hjl (c_letterFor hc (fun e e1 => ⟨fun z => ?_, fun _ => ⟨a, rfl, hb1.fs, ?_⟩⟩) (fun e1 => ⟨fun _ => c_isPrinted hc (fun q => ⟨fun z => absurd z (by decide), fun _ => ⟨a, rfl, hb1.fs, ?_⟩⟩) (fun q => ⟨fun _ => ⟨a, rfl, hb1.fs, ?_⟩, fun z => absurd rfl z⟩), fun z => absurd rfl z⟩))⟩⟩⟩
      · have := letF_lt e1
        exact absurd (show (-1 : Int32) < 0 by decide) (by rw [← z]; exact nI_pos (by omega))
      · have hd := letF_lt e1
        have ee : escF (t.getD j 0) = [92] ++ [e] := by unfold escF; rw [e1]; rfl
        rw [ee] at nxt hlen
        rw [u16c (c := e) (by omega)]
        refine ga (c := 92) hg1 hb1 hB1 (by simp at hlen ⊢; omega) (by omega) (fun k1 n1 S2 b2 N2 hg2 hb2 hB2 => ⟨hb2.fs, ?_⟩)
        exact ga hg2 hb2 hB2 (by simp at hlen ⊢; omega) (by omega) (fun k2 n2 S3 b3 N3 hg3 hb3 hB3 => nxt S3 b3 N3 _ _ hg3 (by rw [← List.append_assoc]; exact hb3) hB3)
      · have ee : escF (t.getD j 0) = [t.getD j 0] := by
          unfold escF; rw [e1]
          show (if _ then _ else _ : Tx) = _
          rw [if_pos q]
        rw [ee] at nxt hlen
        rw [u16c hc]
        exact ga hg1 hb1 hB1 (by simp at hlen ⊢; omega) hc (fun k1 n1 S2 b2 N2 hg2 hb2 hB2 => nxt S2 b2 N2 _ _ hg2 hb2 hB2)
      · have ee : escF (t.getD j 0) = [92] ++ [117] ++ [hexS 0] ++ [hexS 0] ++ [hexS (t.getD j 0 / 16)] ++ [hexS (t.getD j 0 % 16)] := by
          unfold escF; rw [e1]
          show (if _ then _ else _ : Tx) = _
          rw [if_neg q]; rfl
        have hlen6 : (o ++ escT (t.take j)).length + 6 ≤ o.length + (escT t).length := by rw [ee] at hlen; simpa using hlen
        rw [ee] at nxt
        refine ga (c := 92) hg1 hb1 hB1 (by omega) (by omega) (fun k1 n1 S2 b2 N2 hg2 hb2 hB2 => ⟨hb2.fs, ?_⟩)
        refine ga (c := 117) hg2 hb2 hB2 (by rw [List.length_append, List.length_singleton]; omega) (by omega) (fun k2 n2 S3 b3 N3 hg3 hb3 hB3 => ⟨5, ?_⟩)
        have sh : ∀ c : Fin 256, ((nI c.1 >>> ((12 : Int32) &&& 31)) &&& 15 = nI 0) ∧ ((nI c.1 >>> ((12 + (-4) : Int32) &&& 31)) &&& 15 = nI 0) ∧ ((nI c.1 >>> ((12 + (-4) + (-4) : Int32) &&& 31)) &&& 15 = nI (c.1 / 16)) ∧ ((nI c.1 >>> ((12 + (-4) + (-4) + (-4) : Int32) &&& 31)) &&& 15 = nI (c.1 % 16)) := by decide +kernel
        obtain ⟨s1, s2, s3, s4⟩ := sh ⟨t.getD j 0, hc⟩
        refine c_hexStep (by decide) s1 (by omega) hg3 hb3 hB3 (by simp only [List.length_append, List.length_singleton] at hlen6 ⊢; omega) (fun mc4 ms4 S4 b4 N4 hg4 hb4 hB4 => ?_)
        refine c_hexStep (by decide) s2 (by omega) hg4 hb4 hB4 (by simp only [List.length_append, List.length_singleton] at hlen6 ⊢; omega) (fun mc5 ms5 S5 b5 N5 hg5 hb5 hB5 => ?_)
        refine c_hexStep (by decide) s3 (by omega) hg5 hb5 hB5 (by simp only [List.length_append, List.length_singleton] at hlen6 ⊢; omega) (fun mc6 ms6 S6 b6 N6 hg6 hb6 hB6 => ?_)
        refine c_hexStep (by decide) s4 (by omega) hg6 hb6 hB6 (by simp only [List.length_append, List.length_singleton] at hlen6 ⊢; omega) (fun mc7 ms7 S7 b7 N7 hg7 hb7 hB7 => ?_)
        rw [w_X1_escapeOnto_81]
        refine ⟨fun _ v65 e65 => nxt S7 b7 N7 _ _ hg7 ?_ hB7 v65 e65, fun z => absurd (by decide) z⟩
        simp only [List.append_assoc] at hb7 ⊢
        exact hb7
  refine key t.length 0 S b N mc ms (by omega) hg (by rw [List.take_zero]; show bS u S a b (o ++ []) N; rw [List.append_nil]; exact hb) ⟨fun _ => rfl, Or.inl rfl, hN, hL, fun q => ?_⟩
  have := hm q
  unfold gC gM
  omega
end CREP
