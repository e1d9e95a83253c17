/-! THE CLASS: names -/
section CREP
variable {u : hU} {d : Nat} {mm : List Nat} {ad : Nat → Nat} {lv : Nat → Prop} {s : AS} {S : hS}
/-- new cells become changeable ones -/
theorem cR.more {S' : hS} {W : List Nat} (h : cR u d mm ad lv s S) (hf : fx [] S S') (hW : ∀ x, x ∈ W → x ∉ S.1 ∧ x ∈ S'.1) : cR u d (W ++ mm) ad lv s S' := by
  obtain ⟨h0, hw, h1, h2, h3, h4, ⟨L, h5⟩, h6, h7, h8⟩ := h
  have hs : stp mm (W ++ mm) ad ad lv lv S S' (fun _ => False) (fun _ => False) := by
    refine ⟨⟨hf.1, fun a ha hm => ⟨fun z => ?_, hf.2 a ha (by simp)⟩⟩, fun _ h => h, fun _ _ => rfl, fun c hc _ => hf.2 _ (hw.at hc) (by simp)⟩
    rcases List.mem_append.mp z with z | z
    · exact (hW a z).1 ha
    · exact hm z
  have no : ∀ (P : Nat → Prop) (c : Nat), False → ¬ P c := fun _ _ z => absurd z (fun z => z)
  refine ⟨h0, ⟨fun a ha => ?_, fun c hc => List.mem_append_right _ (hw.2.1 c hc), hw.2.2⟩, h1.keep hs (no _) (fun z => z), h2.keep hs (no _), h3.keep hs (no _) (no _), h4.keep hs (no _) (no _), ⟨L, h5.keep hs ⟨fun z => z, fun z => z⟩ ⟨fun z => z, fun z => z⟩⟩, h6.keep hs (no _) (no _), h7.keep hs (no _) (no _), h8.keep hs (no _) (no _)⟩
  rcases List.mem_append.mp ha with z | z
  · exact (hW a z).2
  · exact hf.1 a (hw.1 a z)
/-- a changeable cell that belongs to nothing changes -/
theorem cR.free {c : Nat} {e : va_E} (h : cR u d mm ad lv s S) (hc : c ∈ mm) (hn : ∀ k, lv k → ad k ≠ c) : cR u d mm ad lv s (upS S c e) := by
  obtain ⟨h0, hw, h1, h2, h3, h4, ⟨L, h5⟩, h6, h7, h8⟩ := h
  have hs : stp mm mm ad ad lv lv S (upS S c e) (fun _ => False) (fun _ => False) := ⟨kp.up hc, fun _ h => h, fun _ _ => rfl, fun k hk _ => va_upS_ne (hn k hk)⟩
  have no : ∀ (P : Nat → Prop) (c : Nat), False → ¬ P c := fun _ _ z => absurd z (fun z => z)
  exact ⟨h0, hw.mono (fun a ha => ha), h1.keep hs (no _) (fun z => z), h2.keep hs (no _), h3.keep hs (no _) (no _), h4.keep hs (no _) (no _), ⟨L, h5.keep hs ⟨fun z => z, fun z => z⟩ ⟨fun z => z, fun z => z⟩⟩, h6.keep hs (no _) (no _), h7.keep hs (no _) (no _), h8.keep hs (no _) (no _)⟩
/-- a walk over the names: its object q, its cursors c -/
def wk (u : hU) (mm : List Nat) (ad : Nat → Nat) (lv : Nat → Prop) (ly : Nat → Ly) (S : hS) (q c lp l : Nat) (P : Nat → Nat) : Prop := (c ∈ mm ∧ ∀ k, lv k → ad k ≠ c) ∧ q ∈ S.1 ∧ c ∈ S.1 ∧ c ≠ q ∧ pileC u mm S ad 20 lp ∧ S.2 q = .inr (6, [va_rf (some lp), .int (nI l), va_rf (some c)]) ∧ ∃ g, S.2 c = .inl (u.2.1 0, 4, .inl g) ∧ ∀ x, x < 4 → g x = nI (P x) ∧ P x ≤ (ly x).length
theorem c_walkInit {post : hS → Prop} {S13 : hS} {q lp l mc ms : Nat} (h : cR u d mm ad lv s S) (hP : pileC u mm S ad 20 lp) (hq : fr u.1 S q) (e : S13 = adS S q (.inr (6, [.null, .int 0, .null]))) (hl : l < 4) (hmc : 1 ≤ mc) (hms : 4 ≤ ms)
    (hp : ∀ S' mm' c, cR u d mm' ad lv s S' → wk u mm' ad lv (aLy s) S' q c lp l (fun _ => 0) → post S') : w_X5_init u post q (some lp) (nI l) S13 mc ms := by
  have hw := h.2.1
  have q13 : q ∈ S13.1 := by rw [e]; exact adS_mem
  rw [w_X5_init]
  refine ⟨4, rfl, by omega, hmc, hms, fun c S3 hc e3 => ?_⟩
  have hcq : c ≠ q := fun z => hc.1 (by rw [z]; exact q13)
  have hcS : c ∉ S.1 := fun z => hc.1 (by rw [e]; exact adS_old z)
  have q3 : q ∈ S3.1 := by rw [e3]; exact adS_old q13
  have c3 : c ∈ S3.1 := by rw [e3]; exact adS_mem
  have o3 : S3.2 q = .inr (6, [.null, .int 0, .null]) := by rw [e3, va_adS_ne (fun z => hcq z.symm), e]; exact va_adS_self
  refine ⟨_, ⟨q3, o3⟩, by simp, fun S13' e13 => ⟨[.null, .int 0, .ref c], ⟨by rw [e13]; exact q3, by rw [e13]; exact va_upS_self⟩, by simp, fun S17 e17 => ⟨[va_rf (some lp), .int 0, .ref c], ⟨by rw [e17, e13]; exact q3, by rw [e17]; exact va_upS_self⟩, by simp, fun S21 e21 => ?_⟩⟩⟩
  have f21 : fx [] S S21 := by
    have m3 : ∀ a, a ∈ S.1 → a ∈ S3.1 := fun a ha => by
      rw [e3]
      refine adS_old ?_
      rw [e]; exact adS_old ha
    refine ⟨fun a ha => by rw [e21, e17, e13]; exact m3 a ha, fun a ha _ => ?_⟩
    have a1 : a ≠ q := fun z => hq.1 (by rw [← z]; exact ha)
    have a2 : a ≠ c := fun z => hcS (by rw [← z]; exact ha)
    rw [e21, va_upS_ne a1, e17, va_upS_ne a1, e13, va_upS_ne a1, e3, va_adS_ne a2, e, va_adS_ne a1]
  have q21 : q ∈ S21.1 := by rw [e21, e17, e13]; exact q3
  have c21 : c ∈ S21.1 := by rw [e21, e17, e13]; exact c3
  have hR := h.more (W := [c, q]) f21 (fun x hx => by
    simp only [List.mem_cons, List.not_mem_nil, or_false] at hx
    rcases hx with rfl | rfl
    · exact ⟨hcS, c21⟩
    · exact ⟨hq.1, q21⟩)
  have hkp : kp mm ([c, q] ++ mm) S S21 := by
    refine ⟨f21.1, fun a ha hm => ⟨fun z => ?_, f21.2 a ha (by simp)⟩⟩
    simp only [List.mem_append, List.mem_cons, List.not_mem_nil, or_false] at z
    rcases z with (z | z) | z
    · exact hcS (by rw [← z]; exact ha)
    · exact hq.1 (by rw [← z]; exact ha)
    · exact hm z
  have el : (if (3 : Int32) < nI l then 3 else nI l) = nI l := if_neg (nI_nlt (a := 3) (b := l) (by omega) (by omega))
  refine hp S21 _ c hR ⟨⟨by simp, fun k hk z => hcS (by rw [← z]; exact hw.at hk)⟩, q21, c21, hcq, hP.keep hkp (fun _ _ => rfl), ?_, fun _ => 0, ?_, fun x hx => ⟨rfl, Nat.zero_le _⟩⟩
  · rw [e21, el]; exact va_upS_self
  · rw [e21, va_upS_ne hcq, e17, va_upS_ne hcq, e13, va_upS_ne hcq, e3]; exact va_adS_self
theorem wk.o {ly : Nat → Ly} {q c lp l : Nat} {P : Nat → Nat} (h : wk u mm ad lv ly S q c lp l P) : rO S q 6 [va_rf (some lp), .int (nI l), va_rf (some c)] := ⟨h.2.1, h.2.2.2.2.2.1⟩
theorem c_keyAtCursor {post : Option Nat → Prop} {q c lp l x : Nat} {P : Nat → Nat} (h : cR u d mm ad lv s S) (hk : wk u mm ad lv (aLy s) S q c lp l P) (hx : x < 4) (h0 : (aLy s x).length ≤ P x → post none) (h1 : ∀ a, P x < (aLy s x).length → tS u mm S a (keyP (aLy s) P x) → (keyP (aLy s) P x).length ≤ 300 → post (some a)) : w_X5_keyAtCursor u post q (nI x) S := by
  have hL := h.ly hx
  have h40 := hL.2.2.1
  obtain ⟨g, g1, g2⟩ := hk.2.2.2.2.2.2
  obtain ⟨e1, e2⟩ := g2 x hx
  rw [w_X5_keyAtCursor]
  refine ⟨_, hk.o.r rfl, _, rfl, hk.2.2.2.2.1.fs, c_layerAtN hx hk.2.2.2.2.1 ⟨fun z => absurd z (by simp), fun a10 ea => ?_⟩⟩
  obtain rfl := Option.some.inj ea
  refine ⟨_, hk.o.r rfl, _, rfl, 4, g, ⟨hk.2.2.1, g1⟩, vp_in_nI hx (by omega), ⟨_, hL.o h.2.1⟩, ?_⟩
  rw [nI_clamp (by omega), e1]
  exact c_keyAt hL h.2.1 (by omega) h0 h1
theorem c_stepOver {post : hS → Prop} {q c lp l a : Nat} {P : Nat → Nat} {t : Tx} (h : cR u d mm ad lv s S) (hk : wk u mm ad lv (aLy s) S q c lp l P) (hl : l < 4) (ht : tS u mm S a t)
    (hp : ∀ S', cR u d mm ad lv s S' → wk u mm ad lv (aLy s) S' q c lp l (stepP (aLy s) P t l) → tS u mm S' a t → post S') : w_X5_stepOver u post q (some a) S := by
  rw [w_X5_stepOver]
  refine ⟨l + 2, ?_⟩
  have key : ∀ n x S', x + n = l + 1 → cR u d mm ad lv s S' → tS u mm S' a t → wk u mm ad lv (aLy s) S' q c lp l (fun y => if y < x then stepP (aLy s) P t l y else P y) → w_X5_stepOver_2 u post q (n + 1) (some a) (nI x) S' := by
    intro n
    induction n with
    | zero =>
      intro x S' hx h' ht' hk'
      rw [w_X5_stepOver_2]
      refine ⟨_, hk'.o.i rfl, fun _ => hp S' h' ?_ ht', fun z => absurd (nI_lt (by omega) (by omega)) z⟩
      have e : (fun y => if y < x then stepP (aLy s) P t l y else P y) = stepP (aLy s) P t l := by
        funext y
        by_cases q : y < x
        · rw [if_pos q]
        · rw [if_neg q]
          unfold stepP
          rw [if_neg (fun z => q (by omega))]
      rw [e] at hk'
      exact hk'
    | succ n ih =>
      intro x S' hx h' ht' hk'
      have hx4 : x < 4 := by omega
      have ePx : (if x < x then stepP (aLy s) P t l x else P x) = P x := if_neg (by omega)
      have same : stepP (aLy s) P t l x = P x → wk u mm ad lv (aLy s) S' q c lp l (fun y => if y < x + 1 then stepP (aLy s) P t l y else P y) := by
        intro e
        have e2 : (fun y => if y < x + 1 then stepP (aLy s) P t l y else P y) = (fun y => if y < x then stepP (aLy s) P t l y else P y) := by
          funext y
          by_cases q : y = x
          · subst q; rw [if_pos (by omega), if_neg (by omega)]; exact e
          · by_cases q2 : y < x
            · rw [if_pos q2, if_pos (by omega)]
            · rw [if_neg q2, if_neg (by omega)]
        rw [e2]; exact hk'
      rw [w_X5_stepOver_2]
      refine ⟨_, hk'.o.i rfl, fun z => absurd z (nI_nlt (by omega) (by omega)), fun _ => ⟨⟨_, hk'.o⟩, c_keyAtCursor h' hk' hx4 (fun q => ⟨fun _ v ev => ?_, fun b z => absurd z (by simp)⟩) (fun b q hb hb3 => ⟨fun z => absurd z (by simp), fun a11 e11 => ?_⟩)⟩⟩
      · rw [ev, nI_1]
        refine ih (x + 1) S' (by omega) h' ht' (same ?_)
        rw [ePx] at q
        unfold stepP
        rw [if_neg (by omega)]
      · obtain rfl := Option.some.inj e11
        rw [ePx] at q
        have ekey : keyP (aLy s) (fun y => if y < x then stepP (aLy s) P t l y else P y) x = keyP (aLy s) P x := congrArg (fun z => ((aLy s x).getD z ([], [])).1) ePx
        rw [ekey] at hb
        refine ⟨hb.get.1, st_equals h'.1.1 hb ht' (fun z => ⟨fun w => absurd w (by decide), fun _ => ?_⟩) (fun z => ⟨fun _ v ev => ?_, fun w => absurd rfl w⟩)⟩
        · obtain ⟨g, g1, g2⟩ := hk'.2.2.2.2.2.2
          obtain ⟨e1, e2⟩ := g2 x hx4
          have rA1 : rA S' (u.2.1 0) c 4 g := ⟨hk'.2.2.1, g1⟩
          refine ⟨_, hk'.o.r rfl, _, rfl, 4, g, rA1, vp_in_nI hx4 (by omega), 4, g, rA1, vp_in_nI hx4 (by omega), fun S31 e31 v ev => ?_⟩
          rw [nI_clamp (by omega), e1, nI_1] at e31
          rw [ev, nI_1]
          have hcm := hk'.1
          refine ih (x + 1) S31 (by omega) (by rw [e31]; exact h'.free hcm.1 hcm.2) (ht'.kept (by rw [e31]; exact kp.up hcm.1)) ⟨hcm, by rw [e31]; exact hk'.2.1, by rw [e31]; exact hk'.2.2.1, hk'.2.2.2.1, hk'.2.2.2.2.1.keep (by rw [e31]; exact kp.up hcm.1) (fun _ _ => rfl), ?_, _, by rw [e31]; exact va_upS_self, fun y hy => ?_⟩
          · rw [e31, va_upS_ne (fun z => hk'.2.2.2.1 z.symm)]; exact hk'.2.2.2.2.2.1
          · have eS : stepP (aLy s) P t l x = P x + 1 := by
              unfold stepP
              rw [if_pos ⟨by omega, q, z⟩]
            by_cases q3 : y = x
            · subst q3
              rw [pk_us]
              dsimp only
              rw [ePx, if_pos (show y < y + 1 by omega), eS]
              exact ⟨rfl, by omega⟩
            · rw [pk_un q3]
              obtain ⟨e3, e4⟩ := g2 y hy
              dsimp only at e3 e4 ⊢
              by_cases q4 : y < x
              · rw [if_pos (by omega)]
                rw [if_pos q4] at e3 e4
                exact ⟨e3, e4⟩
              · rw [if_neg (by omega)]
                rw [if_neg q4] at e3 e4
                exact ⟨e3, e4⟩
        · rw [ev, nI_1]
          refine ih (x + 1) S' (by omega) h' ht' (same ?_)
          unfold stepP
          rw [if_neg (fun w => z w.2.2)]
  refine key (l + 1) 0 S (by omega) h ht ?_
  have e : (fun y => if y < 0 then stepP (aLy s) P t l y else P y) = P := by
    funext y
    rw [if_neg (by omega)]
  rw [e]; exact hk
theorem c_nextName {post : Option Nat → hS → Prop} {q c lp l : Nat} {P : Nat → Nat} (h : cR u d mm ad lv s S) (hk : wk u mm ad lv (aLy s) S q c lp l P) (hl : l < 4) (h0 : minF (aLy s) P l = none → post none S)
    (h1 : ∀ t a S', minF (aLy s) P l = some t → cR u d mm ad lv s S' → wk u mm ad lv (aLy s) S' q c lp l (stepP (aLy s) P t l) → tS u mm S' a t → t.length ≤ 300 → post (some a) S') : w_X5_nextName u post q S := by
  rw [w_X5_nextName]
  refine ⟨l + 2, ?_⟩
  have key : ∀ n x r b, x + n = l + 1 → oT u mm S r b → minG (aLy s) P n x b = minF (aLy s) P l → w_X5_nextName_4 u post q (n + 1) r (nI x) S := by
    intro n
    induction n with
    | zero =>
      intro x r b hx hb hm
      have hm' : b = minF (aLy s) P l := hm
      rw [w_X5_nextName_4]
      refine ⟨_, hk.o.i rfl, fun _ => ?_, fun z => absurd (nI_lt (by omega) (by omega)) z⟩
      refine hb.cs (fun e1 e2 => ⟨fun _ => h0 (by rw [← hm', e1]), fun a z => absurd z (by rw [e2]; simp)⟩) (fun a t e1 e2 ht ht3 => ⟨fun z => absurd z (by rw [e2]; simp), fun a6 z => ?_⟩)
      rw [e2] at z
      obtain rfl := Option.some.inj z
      exact ⟨⟨_, hk.o⟩, c_stepOver h hk hl ht (fun S' h' hk' ht' => h1 t _ S' (by rw [← hm', e1]) h' hk' ht' ht3)⟩
    | succ n ih =>
      intro x r b hx hb hm
      have hx4 : x < 4 := by omega
      have hm' : minG (aLy s) P n (x + 1) (stepM (aLy s) P b x) = minF (aLy s) P l := hm
      rw [w_X5_nextName_4]
      refine ⟨_, hk.o.i rfl, fun z => absurd z (nI_nlt (by omega) (by omega)), fun _ => ⟨⟨_, hk.o⟩, c_keyAtCursor h hk hx4 (fun q => ⟨fun _ v ev => ?_, fun b z => absurd z (by simp)⟩) (fun ka q hka hka3 => ⟨fun z => absurd z (by simp), fun a17 e17 => ?_⟩)⟩⟩
      · rw [ev, nI_1]
        unfold stepM at hm'
        rw [if_pos q] at hm'
        exact ih (x + 1) r b (by omega) hb hm'
      · obtain rfl := Option.some.inj e17
        unfold stepM at hm'
        rw [if_neg (by omega)] at hm'
        refine hb.cs (fun e1 e2 => ⟨fun _ v ev => ?_, fun a z => absurd z (by rw [e2]; simp)⟩) (fun a t e1 e2 ht ht3 => ⟨fun z => absurd z (by rw [e2]; simp), fun a20 z => ?_⟩)
        · subst e1
          rw [ev, nI_1]
          exact ih (x + 1) (some ka) (some _) (by omega) ⟨ka, rfl, hka, hka3⟩ hm'
        · rw [e2] at z
          obtain rfl := Option.some.inj z
          subst e1
          have hm2 : minG (aLy s) P n (x + 1) (if cmpT (keyP (aLy s) P x) t < 0 then some (keyP (aLy s) P x) else some t) = minF (aLy s) P l := hm'
          refine st_compare hka ht (fun r22 hr => ⟨fun z v ev => ?_, fun z v ev => ?_⟩)
          · have hz : ¬ cmpT (keyP (aLy s) P x) t < 0 := (neg_iff hr).mp z
            rw [if_neg hz] at hm2
            rw [ev, nI_1]
            exact ih (x + 1) (some a) (some t) (by omega) ⟨a, rfl, ht, ht3⟩ hm2
          · have hz : cmpT (keyP (aLy s) P x) t < 0 := by
              rcases Int.lt_or_le (cmpT (keyP (aLy s) P x) t) 0 with q | q
              · exact q
              · exact absurd ((neg_iff hr).mpr (Int.not_lt.mpr q)) z
            rw [if_pos hz] at hm2
            rw [ev, nI_1]
            exact ih (x + 1) (some ka) (some _) (by omega) ⟨ka, rfl, hka, hka3⟩ hm2
  exact key (l + 1) 0 none none (by omega) rfl rfl
theorem c_names {post : Int32 → hS → Prop} {mc ms : Nat} (hmc : 1100 ≤ mc) (hms : 13600 ≤ ms) (x : Int32) (hR : cRep u d s S) (hp : ∀ S', cRep u d (op_names x s).2 S' → post (op_names x s).1 S') : w_X9_names u post d x S mc ms := by
  obtain ⟨mm, ad, lv, h⟩ := id hR
  obtain ⟨lp, k1, k2⟩ := h.pl
  rw [w_X9_names]
  refine ⟨_, k1, _, rfl, k2.fs, c_layR x k2 (fun r hr => ⟨fun z => ?_, fun a z => ⟨by omega, by omega, fun q S13 hq e13 => ?_⟩⟩)⟩
  · simp only [op_names, hr.nn z] at hp; exact hp S hR
  · obtain ⟨l, hl, hx, e, rfl⟩ := hr.sm z
    simp only [op_names, e] at hp
    have h13 : cR u d mm ad lv s S13 := h.still (by rw [e13]; exact fx.ad hq.1)
    obtain ⟨lp', k1', k2'⟩ := h13.pl
    have elp : lp' = lp := by
      obtain ⟨fs, b1, b2⟩ := k1.2
      obtain ⟨fs', b1', b2'⟩ := k1'.2
      have hd : S13.2 d = S.2 d := by
        rw [e13]; exact va_adS_ne (fun z => hq.1 (by rw [← z]; exact k1.1))
      rw [hd, b1] at b1'
      injection b1' with b1'
      injection b1' with _ b1'
      subst b1'
      have := Option.some.inj (b2.symm.trans b2')
      injection this with this
      exact this.symm
    subst elp
    rw [hx]
    refine ⟨_, k1', 1, 4, by omega, by omega, c_walkInit h k2 hq e13 hl (Nat.le_refl _) (Nat.le_refl _) (fun S23 mm' c h' hk' => ⟨161, ?_⟩)⟩
    have key : ∀ n c' P S1, c' + n = 160 → cR u d mm' ad lv s S1 → wk u mm' ad lv (aLy s) S1 q c lp' l P → c' + namesF (aLy s) l n P = namesF (aLy s) l 160 (fun _ => 0) → w_X9_names_28 u post d (n + 1) q (nI c') S1 (mc - 1 - 1) (ms - 3 - 4) := by
      intro n
      induction n with
      | zero =>
        intro c' P S1 hc h1 w1 he
        have : c' = namesF (aLy s) l 160 (fun _ => 0) := he
        rw [w_X9_names_28]
        refine ⟨fun _ => ?_, fun z => absurd (nI_le (a := 160) (by omega) (by omega)) z⟩
        rw [this]; exact hp S1 ⟨_, _, _, h1⟩
      | succ n ih =>
        intro c' P S1 hc h1 w1 he
        rw [w_X9_names_28]
        refine ⟨fun z => absurd z (nI_ge (b := 160) (by omega) (by decide)), fun _ => ⟨⟨_, w1.o⟩, c_nextName h1 w1 hl (fun hm => ⟨fun _ => ?_, fun a z => absurd z (by simp)⟩) (fun t a S' ht h2 w2 _ _ => ⟨fun z => absurd z (by simp), fun _ _ v ev => ?_⟩)⟩⟩
        · have : c' = namesF (aLy s) l 160 (fun _ => 0) := by
            rw [← he]; unfold namesF; rw [hm]; rfl
          rw [this]; exact hp S1 ⟨_, _, _, h1⟩
        · rw [ev, nI_1]
          refine ih (c' + 1) _ S' (by omega) h2 w2 ?_
          have e9 : namesF (aLy s) l (n + 1) P = namesF (aLy s) l n (stepP (aLy s) P t l) + 1 := by rw [namesF, ht]
          rw [← he, e9]
          omega
    exact key 160 0 _ S23 (by omega) h' hk' (by omega)
theorem c_name {post : Int32 → hS → Prop} {mc ms : Nat} (hmc : 1100 ≤ mc) (hms : 13600 ≤ ms) (x y z : Int32) (hR : cRep u d s S) (hp : ∀ S', cRep u d (op_name x y z s).2 S' → post (op_name x y z s).1 S') : w_X9_name u post d x y z S mc ms := by
  obtain ⟨mm, ad, lv, h⟩ := id hR
  obtain ⟨lp, k1, k2⟩ := h.pl
  rw [w_X9_name]
  refine ⟨h.fs, c_slotR z h (fun r3 hr3 => ⟨_, k1, _, rfl, k2.fs, c_layR x k2 (fun r hr => ⟨fun q1 => ?_, fun a q1 => ⟨fun q3 => ?_, fun a3 q3 => ?_⟩⟩)⟩)⟩
  · simp only [op_name, hr.nn q1] at hp; exact hp S hR
  · obtain ⟨l, hl, hx, e, rfl⟩ := hr.sm q1
    simp only [op_name, e, hr3.nn q3] at hp; exact hp S hR
  · obtain ⟨l, hl, hx, e, rfl⟩ := hr.sm q1
    obtain ⟨t0, ht0, hz, ez, rfl⟩ := hr3.sm q3
    simp only [op_name, e, ez] at hp
    rcases ixO_cases y (n := 160) (by omega) with ⟨ey, hy⟩ | ⟨j, hj, rfl, ey⟩
    · simp only [ey] at hp
      rcases hy with hy | hy
      · exact ⟨fun _ => hp S hR, fun w => absurd hy w⟩
      · exact ⟨fun _ => hp S hR, fun _ => ⟨fun w => absurd hy (Int32.not_le.mpr w), fun _ => hp S hR⟩⟩
    · simp only [ey] at hp
      refine ⟨fun w => absurd w (nI_pos (by omega)), fun _ => ⟨fun _ => ⟨by omega, by omega, fun q S22 hq e22 => ?_⟩, fun w => absurd (nI_lt (b := 160) hj (by omega)) w⟩⟩
      have h22 : cR u d mm ad lv s S22 := h.still (by rw [e22]; exact fx.ad hq.1)
      have k1' : rR S22 d 10 2 (some lp) := by
        obtain ⟨b0, fs, b1, b2⟩ := k1
        refine ⟨by rw [e22]; exact adS_old b0, fs, ?_, b2⟩
        rw [e22, va_adS_ne (fun z => hq.1 (by rw [← z]; exact b0))]; exact b1
      rw [hx]
      refine ⟨_, k1', 1, 4, by omega, by omega, c_walkInit h k2 hq e22 hl (Nat.le_refl _) (Nat.le_refl _) (fun S32 mm' c h' hk' => ⟨⟨_, hk'.o⟩, ?_⟩)⟩
      have k87 : ∀ r b S1, cR u d mm' ad lv s S1 → oT u mm' S1 r b → b = nameF (aLy s) l j (fun _ => 0) → w_X9_name_87 u post d (ad (10 + t0)) r S1 (mc - 1 - 1) (ms - 3 - 4) := by
        intro r b S1 h1 hb hm
        rw [w_X9_name_87]
        refine hb.cs (fun e1 e2 => ⟨fun _ => ?_, fun a z => absurd z (by rw [e2]; simp)⟩) (fun a t e1 e2 ht ht3 => ⟨fun z => absurd z (by rw [e2]; simp), fun a48 z => ?_⟩)
        · simp only [← hm, e1] at hp; exact hp S1 ⟨_, _, _, h1⟩
        · rw [e2] at z
          obtain rfl := Option.some.inj z
          simp only [← hm, e1] at hp
          exact c_putInto h1 ht0 ht ht3 (fun S' h' => hp S' ⟨_, _, _, h'⟩)
      have key : ∀ n c' r b P S1, c' + n = j → cR u d mm' ad lv s S1 → oT u mm' S1 r b → wk u mm' ad lv (aLy s) S1 q c lp l P → (match b with | none => none | some t => match n with | 0 => some t | m + 1 => nameF (aLy s) l m P) = nameF (aLy s) l j (fun _ => 0) → w_X9_name_63 u post d (n + 1) (nI j) (ad (10 + t0)) q r (nI c') S1 (mc - 1 - 1) (ms - 3 - 4) := by
        intro n
        induction n with
        | zero =>
          intro c' r b P S1 hc h1 hb w1 he
          rw [w_X9_name_63]
          refine ⟨fun _ => k87 r b S1 h1 hb ?_, fun w => absurd (nI_le (by omega) (by omega)) w⟩
          cases b with
          | none => exact he
          | some t => exact he
        | succ n ih =>
          intro c' r b P S1 hc h1 hb w1 he
          rw [w_X9_name_63]
          refine ⟨fun w => absurd w (nI_ge (by omega) (by omega)), fun _ => ?_⟩
          refine hb.cs (fun e1 e2 => ⟨fun _ => k87 none none S1 h1 rfl (by rw [e1] at he; exact he), fun a z => absurd z (by rw [e2]; simp)⟩) (fun a t e1 e2 ht ht3 => ⟨fun z => absurd z (by rw [e2]; simp), fun a48 z => ⟨⟨_, w1.o⟩, ?_⟩⟩)
          subst e1
          have he' : nameF (aLy s) l n P = nameF (aLy s) l j (fun _ => 0) := he
          refine c_nextName h1 w1 hl (fun hm v ev => ?_) (fun t' a' S' hm h2 w2 hT hT3 v ev => ?_)
          · rw [ev, nI_1]
            refine ih (c' + 1) none none P S1 (by omega) h1 rfl w1 ?_
            rw [← he']
            cases n with
            | zero => exact hm.symm
            | succ n => show none = _; unfold nameF; rw [hm]
          · rw [ev, nI_1]
            refine ih (c' + 1) (some a') (some t') _ S' (by omega) h2 ⟨a', rfl, hT, hT3⟩ w2 ?_
            rw [← he']
            cases n with
            | zero => exact hm.symm
            | succ n => show nameF (aLy s) l n _ = _; conv => rhs; unfold nameF
                        rw [hm]
      refine c_nextName h' hk' hl (fun hm => ⟨j + 1, key j 0 none none _ S32 (by omega) h' rfl hk' ?_⟩) (fun t' a' S' hm h2 w2 hT hT3 => ⟨j + 1, key j 0 (some a') (some t') _ S' (by omega) h2 ⟨a', rfl, hT, hT3⟩ w2 ?_⟩)
      · cases j with
        | zero => exact hm.symm
        | succ n => show none = _; unfold nameF; rw [hm]
      · cases j with
        | zero => exact hm.symm
        | succ n => show nameF (aLy s) l n _ = _; conv => rhs; unfold nameF
                    rw [hm]
end CREP
