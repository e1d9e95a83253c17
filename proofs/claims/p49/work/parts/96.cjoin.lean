/-! THE CLASS: joiners -/
section CREP
variable {u : hU} {d : Nat} {mm : List Nat} {ad : Nat → Nat} {lv : Nat → Prop} {s : AS} {S : hS}
def jnO (u : hU) (mm : List Nat) (S : hS) (a : Nat) (v : Jn) : Prop := (v.1.length ≤ 300 ∧ v.2.1.length + (v.2.2.2.1.getD []).length + v.2.2.1.length ≤ 300) ∧ ∃ da pa sa ea ia, rO S a 3 [va_rf (some da), va_rf (some pa), va_rf (some sa), va_rf ea, va_rf ia] ∧ tS u mm S da v.1 ∧ tS u mm S pa v.2.1 ∧ tS u mm S sa v.2.2.1 ∧ oT u mm S ea v.2.2.2.1 ∧ oT u mm S ia v.2.2.2.2
variable {a : Nat} {dl pr su : Tx} {el em : Option Tx}
theorem jnO.fs {v : Jn} (h : jnO u mm S a v) : ∃ fs, rO S a 3 fs := by
  obtain ⟨-, da, pa, sa, ea, ia, k, -⟩ := h
  exact ⟨_, k⟩
theorem c_resultLength {post : Int32 → Prop} (h : jnO u mm S a (dl, pr, su, el, em)) (hp : post (nI (jnLen (dl, pr, su, el, em)))) : w_X2_resultLength u post a S := by
  obtain ⟨hb, da, pa, sa, ea, ia, k, t1, t2, t3, t4, t5⟩ := h
  rw [w_X2_resultLength]
  refine ⟨ea, k.r rfl, t4.cs (fun e1 e2 => ⟨fun _ => ⟨ia, k.r rfl, ?_⟩, fun b z => absurd z (by rw [e2]; simp)⟩) (fun b e e1 e2 he he3 => ⟨fun z => absurd z (by rw [e2]; simp), fun b4 _ => ⟨_, k.r rfl, _, rfl, t2.get.1, st_len t2 ⟨ea, k.r rfl, b, e2, he.get.1, st_len he ⟨_, k.r rfl, _, rfl, t3.get.1, st_len t3 ?_⟩⟩⟩⟩)⟩
  · have e1' : el = none := e1
    subst e1'
    refine t5.cs (fun e3 e4 => ⟨fun _ => ⟨_, k.r rfl, _, rfl, t2.get.1, st_len t2 ⟨_, k.r rfl, _, rfl, t3.get.1, st_len t3 ?_⟩⟩, fun b z => absurd z (by rw [e4]; simp)⟩) (fun b t e3 e4 ht ht3 => ⟨fun z => absurd z (by rw [e4]; simp), fun b8 z => ⟨ia, k.r rfl, b, e4, ht.get.1, st_len ht ?_⟩⟩)
    · have e3' : em = none := e3
      subst e3'
      rw [nI_add]; exact hp
    · have e3' : em = some t := e3
      subst e3'
      exact hp
  · have e1' : el = some e := e1
    subst e1'
    rw [nI_add, nI_add]; exact hp
theorem c_together {post : Option Nat → hS → Prop} {b c mc ms : Nat} {t v w : Tx} (hmm : ∀ x, x ∈ mm → x ∈ S.1) (ht : tS u mm S a t) (hv : tS u mm S b v) (hw : tS u mm S c w) (hL : t.length + v.length + w.length ≤ 300) (hmc : 7 ≤ mc) (hms : 2200 ≤ ms)
    (hp : ∀ r S', fx [] S S' → tS u mm S' r (t ++ v ++ w) → post (some r) S') : w_X2_together u post (some a) (some b) (some c) S mc ms := by
  rw [w_X2_together]
  refine ⟨by omega, by omega, fun q S3 hq e3 => ⟨1, 16, by omega, by omega, ?_⟩⟩
  refine bld.new hq e3 (by omega) (by omega) (fun S11 b0 hb0 => ⟨hb0.2.2.1.fs, 1, 602, by omega, by omega, ?_⟩)
  refine hb0.appS ht (by simp; omega) (by omega) (by omega) (fun S19 b1 N1 hb1 => ⟨hb1.2.2.1.fs, 1, 602, by omega, by omega, ?_⟩)
  refine hb1.appS hv (by simp; omega) (by omega) (by omega) (fun S27 b2 N2 hb2 => ⟨hb2.2.2.1.fs, 1, 602, by omega, by omega, ?_⟩)
  refine hb2.appS hw (by simp; omega) (by omega) (by omega) (fun S35 b3 N3 hb3 => ⟨hb3.2.2.1.fs, 2, 304, by omega, by omega, ?_⟩)
  exact hb3.str (mm := mm) hmm (by simp; omega) (by omega) (by omega) (fun r S' hf hT => hp r S' hf (by rw [List.nil_append] at hT; exact hT))
theorem c_result {post : Option Nat → hS → Prop} {mc ms : Nat} (hmm : ∀ x, x ∈ mm → x ∈ S.1) (h : jnO u mm S a (dl, pr, su, el, em)) (hmc : 7 ≤ mc) (hms : 2200 ≤ ms)
    (hp : ∀ r S', fx [] S S' → tS u mm S' r (resF (dl, pr, su, el, em)) → (resF (dl, pr, su, el, em)).length ≤ 300 → post (some r) S') : w_X2_result u post a S mc ms := by
  obtain ⟨hb, da, pa, sa, ea, ia, k, t1, t2, t3, t4, t5⟩ := h
  have hb2 : pr.length + (el.getD []).length + su.length ≤ 300 := hb.2
  rw [w_X2_result]
  refine ⟨ea, k.r rfl, t4.cs (fun e1 e2 => ⟨fun _ => ⟨ia, k.r rfl, ?_⟩, fun b z => absurd z (by rw [e2]; simp)⟩) (fun b e e1 e2 he he3 => ⟨fun z => absurd z (by rw [e2]; simp), fun b4 _ => ⟨_, k.r rfl, ea, k.r rfl, _, k.r rfl, mc, ms, Nat.le_refl _, Nat.le_refl _, ?_⟩⟩)⟩
  · have e1' : el = none := e1
    subst e1'
    refine t5.cs (fun e3 e4 => ⟨fun _ => ⟨_, k.r rfl, _, k.r rfl, mc, ms, Nat.le_refl _, Nat.le_refl _, ?_⟩, fun b z => absurd z (by rw [e4]; simp)⟩) (fun b t e3 e4 ht ht3 => ⟨fun z => absurd z (by rw [e4]; simp), fun b8 z => ⟨ia, k.r rfl, ?_⟩⟩)
    · have e3' : em = none := e3
      subst e3'
      have hb3 : pr.length + su.length ≤ 300 := by simpa using hb2
      refine c_together hmm t2 (st_const (i := 0) (by omega)) t3 (by show pr.length + 0 + su.length ≤ 300; omega) hmc hms (fun r S' hf hT => hp r S' hf ?_ ?_)
      · have e : pr ++ kT 0 ++ su = resF (dl, pr, su, none, none) := by
          show pr ++ [] ++ su = pr ++ su
          simp
        rw [← e]; exact hT
      · show (pr ++ su).length ≤ 300
        simp; exact hb3
    · have e3' : em = some t := e3
      subst e3'
      rw [e4]
      exact hp b S fx.rf ht ht3
  · have e1' : el = some e := e1
    subst e1'
    have hb3 : pr.length + e.length + su.length ≤ 300 := hb2
    rw [e2]
    refine c_together hmm t2 he t3 hb3 hmc hms (fun r S' hf hT => hp r S' hf hT ?_)
    show (pr ++ e ++ su).length ≤ 300
    simp; omega
theorem c_lengthWith {post : Int32 → Prop} {b : Nat} {t : Tx} (h : jnO u mm S a (dl, pr, su, el, em)) (ht : tS u mm S b t) (hp : post (nI (pr.length + (elF dl t el).length + su.length))) : w_X2_lengthWith u post a (some b) S := by
  obtain ⟨hb, da, pa, sa, ea, ia, k, t1, t2, t3, t4, t5⟩ := h
  have k26 : ∀ n, post (nI (pr.length + n + t.length + su.length)) → w_X2_lengthWith_26 u post a (some b) (nI n) S := by
    intro n hn
    rw [w_X2_lengthWith_26]
    refine ⟨_, k.r rfl, _, rfl, t2.get.1, st_len t2 ⟨b, rfl, ht.get.1, st_len ht ⟨_, k.r rfl, _, rfl, t3.get.1, st_len t3 ?_⟩⟩⟩
    rw [nI_add, nI_add, nI_add]; exact hn
  rw [w_X2_lengthWith]
  refine ⟨ea, k.r rfl, t4.cs (fun e1 e2 => ⟨fun _ => k26 0 ?_, fun b z => absurd z (by rw [e2]; simp)⟩) (fun b' e e1 e2 he he3 => ⟨fun z => absurd z (by rw [e2]; simp), fun b4 _ => ⟨ea, k.r rfl, b', e2, he.get.1, st_len he ⟨_, k.r rfl, _, rfl, t1.get.1, st_len t1 ?_⟩⟩⟩)⟩
  · have e1' : el = none := e1
    subst e1'
    exact hp
  · have e1' : el = some e := e1
    subst e1'
    rw [nI_add]
    refine k26 _ ?_
    have e9 : pr.length + (e.length + dl.length) + t.length + su.length = pr.length + (elF dl t (some e)).length + su.length := by
      show _ = pr.length + (e ++ dl ++ t).length + su.length
      rw [List.length_append, List.length_append]; omega
    show post (nI (pr.length + (e.length + dl.length) + t.length + su.length))
    rw [e9]; exact hp
theorem c_addElement {post : hS → Prop} {b mc ms : Nat} {t : Tx} (hmm : ∀ x, x ∈ mm → x ∈ S.1) (ham : a ∈ mm) (h : jnO u mm S a (dl, pr, su, el, em)) (ht : tS u mm S b t) (hL : pr.length + (elF dl t el).length + su.length ≤ 300) (hmc : 7 ≤ mc) (hms : 2200 ≤ ms)
    (hp : ∀ S', fx [a] S S' → jnO u mm S' a (dl, pr, su, some (elF dl t el), em) → post S') : w_X2_addElement u post a (some b) S mc ms := by
  obtain ⟨hb, da, pa, sa, ea, ia, k, t1, t2, t3, t4, t5⟩ := h
  have fin : ∀ r S1 S2, fx [] S S1 → tS u mm S1 r (elF dl t el) → S2 = upS S1 a (.inr (3, [va_rf (some da), va_rf (some pa), va_rf (some sa), va_rf (some r), va_rf ia])) → post S2 := by
    intro r S1 S2 hf hT e2
    have k1 : kp mm mm S S2 := (fx_kp0 hf).tr (by rw [e2]; exact kp.up ham)
    have k2 : kp mm mm S1 S2 := by rw [e2]; exact kp.up ham
    have hl3 : (elF dl t el).length ≤ 300 := by omega
    refine hp S2 ⟨k1.1, fun x hx hn => ?_⟩ ⟨⟨hb.1, hL⟩, da, pa, sa, some r, ia, ⟨k1.1 a k.1, by rw [e2]; exact va_upS_self⟩, t1.kept k1, t2.kept k1, t3.kept k1, ⟨r, rfl, hT.kept k2, hl3⟩, t5.kept k1⟩
    rw [e2, va_upS_ne (fun z => hn (by rw [z]; simp))]; exact hf.2 x hx (by simp)
  rw [w_X2_addElement]
  refine ⟨ea, k.r rfl, t4.cs (fun e1 e2 => ⟨fun _ => ⟨_, k, by simp, fun S8 e8 => ?_⟩, fun b z => absurd z (by rw [e2]; simp)⟩) (fun b' e e1 e2 he he3 => ⟨fun z => absurd z (by rw [e2]; simp), fun b4 _ => ⟨ea, k.r rfl, _, k.r rfl, mc, ms, Nat.le_refl _, Nat.le_refl _, ?_⟩⟩)⟩
  · have e1' : el = none := e1
    subst e1'
    exact fin b S S8 fx.rf ht e8
  · have e1' : el = some e := e1
    subst e1'
    rw [e2]
    have hL2 : e.length + dl.length + t.length ≤ 300 := by
      have : (e ++ dl ++ t).length ≤ 300 := by
        have := hL
        show (elF dl t (some e)).length ≤ 300
        omega
      rw [List.length_append, List.length_append] at this
      exact this
    refine c_together hmm he t1 ht hL2 hmc hms (fun r S18 hf hT => ⟨[va_rf (some da), va_rf (some pa), va_rf (some sa), va_rf (some b'), va_rf ia], ⟨hf.1 a k.1, ?_⟩, by simp, fun S23 e23 => fin r S18 S23 hf hT e23⟩)
    rw [hf.2 a k.1 (by simp), k.2, e2]
/-! the drawer's joiners -/
theorem cR.jnRow (h : cR u d mm ad lv s S) : lv 9 ∧ rR S d 10 6 (some (ad 9)) ∧ ∃ g, rQ S (u.2.1 7) (ad 9) 3 g ∧ ∀ i, i < 3 → jnC u mm S ad lv i (g i) (aJn s i) := by
  obtain ⟨sr, sg, lp, k1, -⟩ := h.dr
  obtain ⟨h0, hw, -, -, -, -, -, -, -, ⟨q1, g, q2, q3⟩⟩ := h
  exact ⟨q1, k1.r rfl, g, ⟨hw.at q1, q2⟩, q3⟩
theorem jnC.obj {i : Nat} {o : Option Nat} (h : jnC u mm S ad lv i o (some (dl, pr, su, el, em))) (hw : wf mm S ad lv) : o = some (ad (70 + i)) ∧ lv (70 + i) ∧ jnO u mm S (ad (70 + i)) (dl, pr, su, el, em) := by
  obtain ⟨h1, h2, h3, da, pa, sa, ea, ia, h4, h5⟩ := h
  exact ⟨h1, h2, h3, da, pa, sa, ea, ia, ⟨hw.at h2, h4⟩, h5⟩
theorem jnO.jnC {i : Nat} {v : Jn} (h : jnO u mm S (ad (70 + i)) v) (hl : lv (70 + i)) : jnC u mm S ad lv i (some (ad (70 + i))) (some v) := by
  obtain ⟨dl, pr, su, el, em⟩ := v
  obtain ⟨h3, da, pa, sa, ea, ia, h4, h5⟩ := h
  exact ⟨rfl, hl, h3, da, pa, sa, ea, ia, h4.2, h5⟩
theorem cR.join {mm' : List Nat} {ad' : Nat → Nat} {lv' Ca Cs : Nat → Prop} {S' : hS} {i : Nat} {v : Option Jn} {g g' : Nat → Option Nat} (h : cR u d mm ad lv s S) (hi : i < 3) (hw' : wf mm' S' ad' lv') (hs : stp mm mm' ad ad' lv lv' S S' Ca Cs) (ha : ∀ c, Ca c → c = 70 + i) (hc : ∀ c, Cs c → c = 9 ∨ c = 70 + i)
    (hg : ∀ j, j < 3 → jnC u mm S ad lv j (g j) (aJn s j)) (hg' : S'.2 (ad' 9) = qE (u.2.1 7) 3 g') (hgo : ∀ j, j ≠ i → g' j = g j) (hv : jnC u mm' S' ad' lv' i (g' i) v) : cR u d mm' ad' lv' (sJn s i v) S' := by
  obtain ⟨⟨h0, h00⟩, hw, h1, h2, h3, h4, ⟨L, h5⟩, h6, h7, ⟨h81, -⟩⟩ := h
  have e0 : ad' 0 = ad 0 := hs.2.2.1 0 (fun z => by have := ha 0 z; omega)
  refine ⟨⟨h0, e0.trans h00⟩, hw', h1.keep hs (fun c q => ?_) (fun q => ?_), h2.keep hs (fun c q => ?_), h3.keep hs (fun c q => ?_) (fun c q => ?_), h4.keep hs (fun c q => ?_) (fun c q => ?_), ⟨L, h5.keep hs ⟨fun q => ?_, fun q => ?_⟩ ⟨fun q => ?_, fun q => ?_⟩⟩, h6.keep hs (fun c q => ?_) (fun c q => ?_), h7.keep hs (fun c q => ?_) (fun c q => ?_), ⟨hs.2.1 _ h81, g', hg', fun j hj => ?_⟩⟩
  all_goals first
    | (have := ha _ q; unfold adF; omega)
    | (have := ha _ q; omega)
    | (have := hc _ q; omega)
    | skip
  show jnC u mm' S' ad' lv' j (g' j) (va_up (aJn s) i v j)
  by_cases z : j = i
  · subst z; rw [va_up_self]; exact hv
  · rw [va_up_ne _ _ z, hgo j z]
    exact (hg j hj).keep hs (fun q => by have := ha _ q; omega) (fun q => by have := hc _ q; omega)
theorem c_in3 {post : Int32 → Prop} (x : Int32) (h0 : ixO x 3 = none → post 0) (h1 : ∀ i, i < 3 → x = nI i → ixO x 3 = some i → post 1) : q_X9_isWithin post x 3 := c_in x (n := 3) (by omega) h0 h1
/-- a new joiner's object, and the row that gets it -/
theorem c_joinerNew {i q da pa sa : Nat} {S22 : hS} {post : hS → Prop} (h : cR u d mm ad lv s S) (hi : i < 3) (hq : fr u.1 S q) (e22 : S22 = adS S q (.inr (3, [.null, .null, .null, .null, .null]))) (hd : tS u mm S da dl) (hd3 : dl.length ≤ 300) (hpr : tS u mm S pa pr) (hsu : tS u mm S sa su) (hL : pr.length + su.length ≤ 300)
    (hp : ∀ S28 g, (∃ fs, rO S28 q 3 fs) → rR S28 d 10 6 (some (ad 9)) → rQ S28 (u.2.1 7) (ad 9) 3 g → (∀ S35, S35 = upS S28 (ad 9) (.inl (u.2.1 7, 3, .inr (.inr (.inr (.inr (va_up g i (some q))))))) → ∃ mm' ad' lv', cR u d mm' ad' lv' (sJn s i (some (dl, pr, su, none, none))) S35 ∧ jnO u mm' S35 q (dl, pr, su, none, none)) → post S28) : w_X2_init u post q (some da) (some pa) (some sa) S22 := by
  obtain ⟨l9, k1, g, k2, k3⟩ := h.jnRow
  have hw := h.2.1
  have q5 : q ∈ S22.1 := by rw [e22]; exact adS_mem
  have o5 : S22.2 q = .inr (3, [.null, .null, .null, .null, .null]) := by rw [e22]; exact va_adS_self
  have n5 : ∀ a, a ∈ S.1 → a ≠ q := fun a ha z => hq.1 (by rw [← z]; exact ha)
  rw [w_X2_init]
  refine ⟨_, ⟨q5, o5⟩, by simp, fun S4 e4 => ⟨[va_rf (some da), .null, .null, .null, .null], ⟨by rw [e4]; exact q5, by rw [e4]; exact va_upS_self⟩, by simp, fun S8 e8 => ⟨[va_rf (some da), va_rf (some pa), .null, .null, .null], ⟨by rw [e8, e4]; exact q5, by rw [e8]; exact va_upS_self⟩, by simp, fun S12 e12 => ?_⟩⟩⟩
  have q12 : q ∈ S12.1 := by rw [e12, e8, e4]; exact q5
  have o12 : S12.2 q = .inr (3, [va_rf (some da), va_rf (some pa), va_rf (some sa), va_rf none, va_rf none]) := by rw [e12]; exact va_upS_self
  have m5 : ∀ a, a ∈ S.1 → a ∈ S22.1 := fun a ha => by rw [e22]; exact adS_old ha
  have m12 : ∀ a, a ∈ S.1 → a ∈ S12.1 := fun a ha => by rw [e12, e8, e4]; exact m5 a ha
  have f12 : ∀ a, a ∈ S.1 → S12.2 a = S.2 a := fun a ha => by rw [e12, va_upS_ne (n5 a ha), e8, va_upS_ne (n5 a ha), e4, va_upS_ne (n5 a ha), e22, va_adS_ne (n5 a ha)]
  obtain ⟨b0, fsd, b1, b2⟩ := k1
  refine hp S12 g ⟨_, q12, o12⟩ ⟨m12 _ b0, fsd, (f12 _ b0).trans b1, b2⟩ ⟨m12 _ k2.1, (f12 _ k2.1).trans k2.2⟩ (fun S18 e18 => ?_)
  have n8 : q ≠ ad 9 := fun z => hq.1 (by rw [z]; exact k2.1)
  have q18 : q ∈ S18.1 := by rw [e18]; exact q12
  have o18 : S18.2 q = .inr (3, [va_rf (some da), va_rf (some pa), va_rf (some sa), va_rf none, va_rf none]) := by rw [e18, va_upS_ne n8]; exact o12
  have m18 : ∀ a, a ∈ S.1 → a ∈ S18.1 := fun a ha => by rw [e18]; exact m12 a ha
  have f18 : ∀ a, a ∈ S.1 → a ≠ ad 9 → S18.2 a = S.2 a := fun a ha hn => by rw [e18, va_upS_ne hn]; exact f12 a ha
  have hs := stp.ext (c := 70 + i) hw l9 hq.1 m18 f18
  have e9' : va_up ad (70 + i) q 9 = ad 9 := va_up_ne _ _ (by omega)
  have e70 : va_up ad (70 + i) q (70 + i) = q := va_up_self _ _ _
  have hO : jnO u (q :: mm) S18 q (dl, pr, su, none, none) := ⟨⟨hd3, by simpa using hL⟩, da, pa, sa, none, none, ⟨q18, o18⟩, hd.kept hs.1, hpr.kept hs.1, hsu.kept hs.1, rfl, rfl⟩
  refine ⟨_, _, _, h.join (g := g) (g' := va_up g i (some q)) hi (hw.ext hq.1 m18 q18 (70 + i)) hs (fun c q => q) (fun c q => by omega) k3 (by rw [e9', e18]; exact va_upS_self) (fun j hj => va_up_ne _ _ hj) ?_, hO⟩
  rw [va_up_self]
  have hO' : jnO u (q :: mm) S18 (va_up ad (70 + i) q (70 + i)) (dl, pr, su, none, none) := by rw [e70]; exact hO
  have := hO'.jnC (lv := fun k => lv k ∨ k = 70 + i) (Or.inr rfl)
  rw [e70] at this
  exact this
theorem c_join {post : Int32 → hS → Prop} {mc ms : Nat} (hmc : 1100 ≤ mc) (hms : 13600 ≤ ms) (x y : Int32) (hR : cRep u d s S) (hp : ∀ S', cRep u d (op_join x y s).2 S' → post (op_join x y s).1 S') : w_X9_join u post d x y S mc ms := by
  obtain ⟨mm, ad, lv, h⟩ := id hR
  obtain ⟨l9, k1, g, k2, k3⟩ := h.jnRow
  rw [w_X9_join]
  refine ⟨h.fs, c_slotR y h (fun r2 hr2 => c_in3 x (fun e => ⟨fun _ => ?_, fun z => absurd rfl z⟩) (fun i hi hx e => ⟨fun z => absurd z (by decide), fun _ => ⟨fun z => ?_, fun a z => ?_⟩⟩))⟩
  · simp only [op_join, e] at hp; exact hp S hR
  · simp only [op_join, e, hr2.nn z] at hp; exact hp S hR
  · obtain ⟨j, hj, hy, ey, rfl⟩ := hr2.sm z
    simp only [op_join, e, ey] at hp
    obtain ⟨o, k, ho⟩ := h.sl hj
    refine ⟨o, k.r rfl, ho.cs (fun hv eo => ⟨fun _ => ⟨h.fs, c_refuseNull hR (fun S' h' => ?_)⟩, fun b w => absurd w (by rw [eo]; simp)⟩) (fun b t hv eo hT ht => ⟨fun w => absurd w (by rw [eo]; simp), fun b2 _ => ⟨_, k1, by omega, by omega, fun q S22 hq e22 => ⟨o, ⟨by rw [e22]; exact adS_old k.1, [va_rf o], by rw [e22, va_adS_ne (fun z => hq.1 (by rw [← z]; exact k.1))]; exact k.2, rfl⟩, ?_⟩⟩⟩)⟩
    · simp only [hv, nullS] at hp; exact hp S' h'
    · simp only [hv] at hp
      rw [eo, hx]
      refine c_joinerNew h hi hq e22 hT ht (st_const (i := 0) (by omega)) (st_const (i := 0) (by omega)) (by decide) (fun S28 g' z1 z2 z3 z4 => ⟨_, rfl, 3, g', z3, vp_in_nI hi (by omega), z1, fun S35 e35 => ?_⟩)
      rw [nI_clamp (by omega)] at e35
      obtain ⟨mm', ad', lv', h', -⟩ := z4 S35 e35
      exact hp S35 ⟨mm', ad', lv', h'⟩
theorem c_joinWithin {post : Int32 → hS → Prop} {mc ms : Nat} (hmc : 1100 ≤ mc) (hms : 13600 ≤ ms) (x y z w : Int32) (hR : cRep u d s S) (hp : ∀ S', cRep u d (op_joinWithin x y z w s).2 S' → post (op_joinWithin x y z w s).1 S') : w_X9_joinWithin u post d x y z w S mc ms := by
  obtain ⟨mm, ad, lv, h⟩ := id hR
  obtain ⟨l9, k1, g, k2, k3⟩ := h.jnRow
  have k73 : (∀ S', cRep u d (sNp s) S' → post (-7) S') → w_X9_joinWithin_73 u post d S mc ms := by
    intro q
    rw [w_X9_joinWithin_73]
    exact ⟨h.fs, c_refuseNull hR q⟩
  rw [w_X9_joinWithin]
  refine ⟨h.fs, c_slotR y h (fun r2 hr2 => ⟨h.fs, c_slotR z h (fun r3 hr3 => ⟨h.fs, c_slotR w h (fun r4 hr4 => c_in3 x (fun e => ⟨fun z => absurd rfl z, fun _ => ?_⟩) (fun i hi hx e => ⟨fun _ => ⟨fun q2 => ?_, fun a2 q2 => ⟨fun q3 => ?_, fun a3 q3 => ⟨fun q4 => ?_, fun a4 q4 => ?_⟩⟩⟩, fun z => absurd z (by decide)⟩))⟩)⟩)⟩
  · simp only [op_joinWithin, e] at hp; exact hp S hR
  · simp only [op_joinWithin, e, hr2.nn q2] at hp; exact hp S hR
  · obtain ⟨j2, hj2, hy2, ey2, rfl⟩ := hr2.sm q2
    simp only [op_joinWithin, e, ey2, hr3.nn q3] at hp; exact hp S hR
  · obtain ⟨j2, hj2, hy2, ey2, rfl⟩ := hr2.sm q2
    obtain ⟨j3, hj3, hy3, ey3, rfl⟩ := hr3.sm q3
    simp only [op_joinWithin, e, ey2, ey3, hr4.nn q4] at hp; exact hp S hR
  · obtain ⟨j2, hj2, hy2, ey2, rfl⟩ := hr2.sm q2
    obtain ⟨j3, hj3, hy3, ey3, rfl⟩ := hr3.sm q3
    obtain ⟨j4, hj4, hy4, ey4, rfl⟩ := hr4.sm q4
    simp only [op_joinWithin, e, ey2, ey3, ey4] at hp
    obtain ⟨o2, m2, ho2⟩ := h.sl hj2
    obtain ⟨o3, m3, ho3⟩ := h.sl hj3
    obtain ⟨o4, m4, ho4⟩ := h.sl hj4
    refine ⟨o2, m2.r rfl, ho2.cs (fun hv eo => ⟨fun _ => k73 (fun S' h' => ?_), fun b w => absurd w (by rw [eo]; simp)⟩) (fun b2 t2 hv2 eo2 hT2 ht2 => ⟨fun w => absurd w (by rw [eo2]; simp), fun _ _ => ⟨o3, m3.r rfl, ?_⟩⟩)⟩
    · simp only [hv, nullS] at hp; exact hp S' h'
    refine ho3.cs (fun hv eo => ⟨fun _ => k73 (fun S' h' => ?_), fun b w => absurd w (by rw [eo]; simp)⟩) (fun b3 t3 hv3 eo3 hT3 ht3 => ⟨fun w => absurd w (by rw [eo3]; simp), fun _ _ => ⟨o4, m4.r rfl, ?_⟩⟩)
    · simp only [hv2, hv, nullS] at hp; exact hp S' h'
    refine ho4.cs (fun hv eo => ⟨fun _ => k73 (fun S' h' => ?_), fun b w => absurd w (by rw [eo]; simp)⟩) (fun b4 t4 hv4 eo4 hT4 ht4 => ⟨fun w => absurd w (by rw [eo4]; simp), fun _ _ => ⟨o3, m3.r rfl, b3, eo3, hT3.get.1, st_len hT3 ⟨o4, m4.r rfl, b4, eo4, hT4.get.1, st_len hT4 ?_⟩⟩⟩)
    · simp only [hv2, hv3, hv, nullS] at hp; exact hp S' h'
    simp only [hv2, hv3, hv4] at hp
    rw [nI_add]
    refine ⟨fun q => ⟨by omega, by omega, fun qn S55 hq e55 => ?_⟩, fun q => ?_⟩
    · have hle : t3.length + t4.length ≤ 300 := (nI_leI (b := 300) (by omega) (by omega)).mp q
      rw [if_pos hle] at hp
      have r55 : ∀ (i : Nat) (o : Option Nat), rO S (ad (10 + i)) 7 [va_rf o] → rR S55 (ad (10 + i)) 7 0 o := fun i o m => ⟨by rw [e55]; exact adS_old m.1, _, by rw [e55, va_adS_ne (fun z => hq.1 (by rw [← z]; exact m.1))]; exact m.2, rfl⟩
      refine ⟨o2, r55 _ _ m2, o3, r55 _ _ m3, o4, r55 _ _ m4, ?_⟩
      rw [eo2, eo3, eo4, hx]
      refine c_joinerNew h hi hq e55 hT2 ht2 hT3 hT4 hle (fun S65 g' z1 z2 z3 z4 => ⟨_, z2, _, rfl, 3, g', z3, vp_in_nI hi (by omega), z1, fun S74 e74 => ?_⟩)
      rw [nI_clamp (by omega)] at e74
      obtain ⟨mm', ad', lv', h', hO⟩ := z4 S74 e74
      exact ⟨hO.fs, c_resultLength hO (hp S74 ⟨mm', ad', lv', h'⟩)⟩
    · rw [if_neg (fun w => q (nI_le (b := 300) w (by omega)))] at hp; exact hp S hR
theorem c_addTo {post : Int32 → hS → Prop} {i b mc ms : Nat} {v : Jn} {t : Tx} (h : cR u d mm ad lv s S) (hi : i < 3) (hv : aJn s i = some v) (ht : tS u mm S b t) (ht3 : t.length ≤ 300) (hmc : 7 ≤ mc) (hms : 2200 ≤ ms) (hp : ∀ S', cRep u d (op_el i t v s).2 S' → post (op_el i t v s).1 S') : w_X9_addTo u post (some (ad (70 + i))) (some b) S mc ms := by
  obtain ⟨l9, k1, g, k2, k3⟩ := h.jnRow
  have hw := h.2.1
  obtain ⟨dl, pr, su, el, em⟩ := v
  have hk := k3 i hi
  rw [hv] at hk
  obtain ⟨ho, hl, hO⟩ := hk.obj hw
  simp only [op_el] at hp
  have hb := hO.1
  have hel : (elF dl t el).length ≤ 1000 := by
    have h1 : dl.length ≤ 300 := hb.1
    have h2 : pr.length + (el.getD []).length + su.length ≤ 300 := hb.2
    cases el with
    | none => show t.length ≤ 1000; omega
    | some e =>
      have h3 : pr.length + e.length + su.length ≤ 300 := h2
      show (e ++ dl ++ t).length ≤ 1000
      rw [List.length_append, List.length_append]; omega
  have hb2 : pr.length + (el.getD []).length + su.length ≤ 300 := hb.2
  rw [w_X9_addTo]
  refine ⟨_, rfl, hO.fs, c_lengthWith hO ht ⟨fun z => ⟨hO.fs, mc, ms, Nat.le_refl _, Nat.le_refl _, ?_⟩, fun z => ?_⟩⟩
  · have hle := (nI_leI (b := 300) (by omega) (by omega)).mp z
    rw [if_pos hle] at hp
    refine c_addElement hw.1 (hw.2.1 _ hl) hO ht hle hmc hms (fun S14 hf hO' => ⟨hO'.fs, c_resultLength hO' (hp S14 ⟨mm, ad, lv, ?_⟩)⟩)
    have hs : stp mm mm ad ad lv lv S S14 (fun _ => False) (fun c => c = 70 + i) := stp.at hw hf.1 (fun a ha hc => hf.2 a ha (fun z => hc _ rfl (List.mem_singleton.mp z))) (fun c hc => by rw [hc]; exact hl)
    exact h.join (g := g) (g' := g) hi (hw.mono hf.1) hs (fun c z => absurd z (fun z => z)) (fun c z => Or.inr z) k3 (by rw [hs.2.2.2 9 l9 (by omega)]; exact k2.2) (fun _ _ => rfl) (by rw [ho]; exact hO'.jnC hl)
  · rw [if_neg (fun w => z (nI_le (b := 300) w (by omega)))] at hp; exact hp S ⟨mm, ad, lv, h⟩
theorem c_add {post : Int32 → hS → Prop} {mc ms : Nat} (hmc : 1100 ≤ mc) (hms : 13600 ≤ ms) (x y : Int32) (hR : cRep u d s S) (hp : ∀ S', cRep u d (op_add x y s).2 S' → post (op_add x y s).1 S') : w_X9_add u post d x y S mc ms := by
  obtain ⟨mm, ad, lv, h⟩ := id hR
  obtain ⟨l9, k1, g, k2, k3⟩ := h.jnRow
  rw [w_X9_add]
  refine ⟨h.fs, c_slotR y h (fun r2 hr2 => c_in3 x (fun e => ⟨fun _ => ?_, fun z => absurd rfl z⟩) (fun i hi hx e => ⟨fun z => absurd z (by decide), fun _ => ⟨fun z => ?_, fun a z => ⟨_, k1, _, rfl, 3, g, k2, by rw [hx]; exact vp_in_nI hi (by omega), fun o eo => ?_⟩⟩⟩))⟩
  · simp only [op_add, e] at hp; exact hp S hR
  · simp only [op_add, e, hr2.nn z] at hp; exact hp S hR
  · obtain ⟨j, hj, hy, ey, rfl⟩ := hr2.sm z
    simp only [op_add, e, ey] at hp
    rw [hx, nI_clamp (by omega)] at eo
    have hk := k3 i hi
    rw [← eo] at hk
    cases hv : aJn s i with
    | none =>
      rw [hv] at hk
      have ho : o = none := hk
      simp only [hv] at hp
      exact ⟨fun _ => hp S hR, fun a z => absurd z (by rw [ho]; simp)⟩
    | some v =>
      simp only [hv] at hp
      have hv0 := hv
      obtain ⟨dl, pr, su, el, em⟩ := v
      rw [hv] at hk
      obtain ⟨ho, hl, hO⟩ := hk.obj h.2.1
      refine ⟨fun z => absurd z (by rw [ho]; simp), fun a19 z => ?_⟩
      rw [ho] at z
      obtain rfl := Option.some.inj z
      obtain ⟨o2, m2, ho2⟩ := h.sl hj
      refine ⟨o2, m2.r rfl, ho2.cs (fun hv2 eo2 => ⟨fun _ => ?_, fun b w => absurd w (by rw [eo2]; simp)⟩) (fun b2 t2 hv2 eo2 hT2 ht2 => ⟨fun w => absurd w (by rw [eo2]; simp), fun _ _ => ⟨o2, m2.r rfl, ?_⟩⟩)⟩
      · rw [w_X9_add_54]
        simp only [hv2, Option.getD_none] at hp
        exact ⟨mc, ms, Nat.le_refl _, Nat.le_refl _, c_addTo h hi hv0 (st_const (i := 2) (by omega)) (by decide) (by omega) (by omega) hp⟩
      · rw [w_X9_add_54]
        simp only [hv2, Option.getD_some] at hp
        rw [eo2]
        exact ⟨mc, ms, Nat.le_refl _, Nat.le_refl _, c_addTo h hi hv0 hT2 ht2 (by omega) (by omega) hp⟩
theorem c_joinedLength {post : Int32 → Prop} (x : Int32) (hR : cRep u d s S) (hp : post (op_joinedLength x s).1) : w_X9_joinedLength u post d x S := by
  obtain ⟨mm, ad, lv, h⟩ := id hR
  obtain ⟨l9, k1, g, k2, k3⟩ := h.jnRow
  rw [w_X9_joinedLength]
  refine c_in3 x (fun e => ⟨fun z => absurd rfl z, fun _ => ?_⟩) (fun i hi hx e => ⟨fun _ => ⟨_, k1, _, rfl, 3, g, k2, by rw [hx]; exact vp_in_nI hi (by omega), fun o eo => ?_⟩, fun z => absurd z (by decide)⟩)
  · simp only [op_joinedLength, e] at hp; exact hp
  · rw [hx, nI_clamp (by omega)] at eo
    simp only [op_joinedLength, e] at hp
    have hk := k3 i hi
    rw [← eo] at hk
    cases hv : aJn s i with
    | none =>
      rw [hv] at hk
      have ho : o = none := hk
      simp only [hv] at hp
      exact ⟨fun _ => hp, fun a z => absurd z (by rw [ho]; simp)⟩
    | some v =>
      simp only [hv] at hp
      obtain ⟨dl, pr, su, el, em⟩ := v
      rw [hv] at hk
      obtain ⟨ho, hl, hO⟩ := hk.obj h.2.1
      refine ⟨fun z => absurd z (by rw [ho]; simp), fun a19 z => ?_⟩
      rw [ho] at z
      obtain rfl := Option.some.inj z
      exact ⟨hO.fs, c_resultLength hO hp⟩
theorem c_ifEmpty {post : Int32 → hS → Prop} (x y : Int32) (hR : cRep u d s S) (hp : ∀ S', cRep u d (op_ifEmpty x y s).2 S' → post (op_ifEmpty x y s).1 S') : w_X9_ifEmpty u post d x y S := by
  obtain ⟨mm, ad, lv, h⟩ := id hR
  obtain ⟨l9, k1, g, k2, k3⟩ := h.jnRow
  have hw := h.2.1
  rw [w_X9_ifEmpty]
  refine ⟨h.fs, c_slotR y h (fun r2 hr2 => c_in3 x (fun e => ⟨fun _ => ?_, fun z => absurd rfl z⟩) (fun i hi hx e => ⟨fun z => absurd z (by decide), fun _ => ⟨fun z => ?_, fun a z => ⟨_, k1, _, rfl, 3, g, k2, by rw [hx]; exact vp_in_nI hi (by omega), fun o eo => ?_⟩⟩⟩))⟩
  · simp only [op_ifEmpty, e] at hp; exact hp S hR
  · simp only [op_ifEmpty, e, hr2.nn z] at hp; exact hp S hR
  · obtain ⟨j, hj, hy, ey, rfl⟩ := hr2.sm z
    simp only [op_ifEmpty, e, ey] at hp
    rw [hx, nI_clamp (by omega)] at eo
    have hk := k3 i hi
    rw [← eo] at hk
    cases hv : aJn s i with
    | none =>
      rw [hv] at hk
      have ho : o = none := hk
      simp only [hv] at hp
      exact ⟨fun _ => hp S hR, fun a z => absurd z (by rw [ho]; simp)⟩
    | some v =>
      obtain ⟨dl, pr, su, el, em⟩ := v
      simp only [hv] at hp
      rw [hv] at hk
      obtain ⟨ho, hl, hO⟩ := hk.obj h.2.1
      refine ⟨fun z => absurd z (by rw [ho]; simp), fun a19 z => ?_⟩
      rw [ho] at z
      obtain rfl := Option.some.inj z
      obtain ⟨o2, m2, ho2⟩ := h.sl hj
      refine ⟨o2, m2.r rfl, ho2.cs (fun hv2 eo2 => ⟨fun _ => ⟨h.fs, c_refuseNull hR (fun S' h' => ?_)⟩, fun b w => absurd w (by rw [eo2]; simp)⟩) (fun b2 t2 hv2 eo2 hT2 ht2 => ⟨fun w => absurd w (by rw [eo2]; simp), fun _ _ => ⟨o2, m2.r rfl, ?_⟩⟩)⟩
      · simp only [hv2, nullS] at hp; exact hp S' h'
      · simp only [hv2] at hp
        obtain ⟨hb, da, pa, sa, ea, ia, kO, t1, t2', t3, t4, t5⟩ := hO
        refine ⟨_, kO, by simp, fun S33 e33 => ?_⟩
        rw [eo2] at e33
        have hs : stp mm mm ad ad lv lv S S33 (fun _ => False) (fun c => c = 70 + i) := stp.at hw (fun a ha => by rw [e33]; exact ha) (fun a ha hc => by rw [e33]; exact va_upS_ne (hc _ rfl)) (fun c hc => by rw [hc]; exact hl)
        have hO' : jnO u mm S33 (ad (70 + i)) (dl, pr, su, el, some t2) := ⟨hb, da, pa, sa, ea, some b2, ⟨hs.1.1 _ kO.1, by rw [e33]; exact va_upS_self⟩, t1.kept hs.1, t2'.kept hs.1, t3.kept hs.1, t4.kept hs.1, ⟨b2, rfl, hT2.kept hs.1, ht2⟩⟩
        have h33 := h.join (g := g) (g' := g) (v := some (dl, pr, su, el, some t2)) hi (hw.mono hs.1.1) hs (fun c z => absurd z (fun z => z)) (fun c z => Or.inr z) k3 (by rw [hs.2.2.2 9 l9 (by omega)]; exact k2.2) (fun _ _ => rfl) (by rw [← eo, ho]; exact hO'.jnC hl)
        exact ⟨hO'.fs, c_resultLength hO' (hp S33 ⟨mm, ad, lv, h33⟩)⟩
theorem c_merge {post : Int32 → hS → Prop} {mc ms : Nat} (hmc : 1100 ≤ mc) (hms : 13600 ≤ ms) (x y : Int32) (hR : cRep u d s S) (hp : ∀ S', cRep u d (op_merge x y s).2 S' → post (op_merge x y s).1 S') : w_X9_merge u post d x y S mc ms := by
  obtain ⟨mm, ad, lv, h⟩ := id hR
  obtain ⟨l9, k1, g, k2, k3⟩ := h.jnRow
  rw [w_X9_merge]
  refine c_in3 x (fun e => ⟨fun _ => ?_, fun z => absurd rfl z⟩) (fun i hi hx e => ⟨fun z => absurd z (by decide), fun _ => c_in3 y (fun ey => ⟨fun _ => ?_, fun z => absurd rfl z⟩) (fun j hj hy ey => ⟨fun z => absurd z (by decide), fun _ => ⟨fun hne => ⟨_, k1, _, rfl, 3, g, k2, by rw [hx]; exact vp_in_nI hi (by omega), fun o eo => ⟨_, k1, _, rfl, 3, g, k2, by rw [hy]; exact vp_in_nI hj (by omega), fun o2 eo2 => ?_⟩⟩, fun he => ?_⟩⟩)⟩)
  · simp only [op_merge, e] at hp; exact hp S hR
  · simp only [op_merge, e, ey] at hp; exact hp S hR
  · simp only [op_merge, e, ey] at hp
    rw [if_neg (fun q => hne (by rw [hx, hy, q]))] at hp
    rw [hx, nI_clamp (by omega)] at eo
    rw [hy, nI_clamp (by omega)] at eo2
    have hk := k3 i hi
    have hk2 := k3 j hj
    rw [← eo] at hk
    rw [← eo2] at hk2
    cases hv : aJn s i with
    | none =>
      rw [hv] at hk
      have ho : o = none := hk
      simp only [hv] at hp
      exact ⟨fun _ => hp S hR, fun a z => absurd z (by rw [ho]; simp)⟩
    | some v =>
      simp only [hv] at hp
      have hv0 := hv
      obtain ⟨dl, pr, su, el, em⟩ := v
      rw [hv] at hk
      obtain ⟨ho, hl, hO⟩ := hk.obj h.2.1
      refine ⟨fun z => absurd z (by rw [ho]; simp), fun a23 z => ?_⟩
      rw [ho] at z
      obtain rfl := Option.some.inj z
      cases hv2 : aJn s j with
      | none =>
        rw [hv2] at hk2
        have ho2 : o2 = none := hk2
        simp only [hv2] at hp
        exact ⟨fun _ => hp S hR, fun a z => absurd z (by rw [ho2]; simp)⟩
      | some v2 =>
        obtain ⟨dl2, pr2, su2, el2, em2⟩ := v2
        rw [hv2] at hk2
        obtain ⟨ho2, hl2, hO2⟩ := hk2.obj h.2.1
        refine ⟨fun z => absurd z (by rw [ho2]; simp), fun a25 z => ?_⟩
        rw [ho2] at z
        obtain rfl := Option.some.inj z
        simp only [hv2] at hp
        obtain ⟨hb, da, pa, sa, ea, ia, kO, t1, t2', t3, t4, t5⟩ := hO2
        refine ⟨ea, kO.r rfl, t4.cs (fun e1 e2 => ⟨fun _ => ⟨hO.fs, c_resultLength hO ?_⟩, fun b w => absurd w (by rw [e2]; simp)⟩) (fun b2 t2 e1 e2 hT2 ht2 => ⟨fun w => absurd w (by rw [e2]; simp), fun _ _ => ⟨ea, kO.r rfl, mc, ms, Nat.le_refl _, Nat.le_refl _, ?_⟩⟩)⟩
        · have e1' : el2 = none := e1
          subst e1'
          exact hp S hR
        · have e1' : el2 = some t2 := e1
          subst e1'
          rw [e2]
          exact c_addTo h hi hv0 hT2 ht2 (by omega) (by omega) hp
  · simp only [op_merge, e, ey] at hp
    have hij : i = j := (nI_eq (by omega) (by omega)).mp (by rw [← hx, ← hy]; exact he)
    rw [if_pos hij] at hp; exact hp S hR
theorem c_joined {post : Int32 → hS → Prop} {mc ms : Nat} (hmc : 1100 ≤ mc) (hms : 13600 ≤ ms) (x y : Int32) (hR : cRep u d s S) (hp : ∀ S', cRep u d (op_joined x y s).2 S' → post (op_joined x y s).1 S') : w_X9_joined u post d x y S mc ms := by
  obtain ⟨mm, ad, lv, h⟩ := id hR
  obtain ⟨l9, k1, g, k2, k3⟩ := h.jnRow
  have hw := h.2.1
  rw [w_X9_joined]
  refine ⟨h.fs, c_slotR y h (fun r2 hr2 => c_in3 x (fun e => ⟨fun _ => ?_, fun z => absurd rfl z⟩) (fun i hi hx e => ⟨fun z => absurd z (by decide), fun _ => ⟨fun z => ?_, fun a z => ⟨_, k1, _, rfl, 3, g, k2, by rw [hx]; exact vp_in_nI hi (by omega), fun o eo => ?_⟩⟩⟩))⟩
  · simp only [op_joined, e] at hp; exact hp S hR
  · simp only [op_joined, e, hr2.nn z] at hp; exact hp S hR
  · obtain ⟨j, hj, hy, ey, rfl⟩ := hr2.sm z
    simp only [op_joined, e, ey] at hp
    rw [hx, nI_clamp (by omega)] at eo
    have hk := k3 i hi
    rw [← eo] at hk
    cases hv : aJn s i with
    | none =>
      rw [hv] at hk
      have ho : o = none := hk
      simp only [hv] at hp
      exact ⟨fun _ => hp S hR, fun a z => absurd z (by rw [ho]; simp)⟩
    | some v =>
      simp only [hv] at hp
      obtain ⟨dl, pr, su, el, em⟩ := v
      rw [hv] at hk
      obtain ⟨ho, hl, hO⟩ := hk.obj hw
      refine ⟨fun z => absurd z (by rw [ho]; simp), fun a19 z => ?_⟩
      rw [ho] at z
      obtain rfl := Option.some.inj z
      refine ⟨hO.fs, mc, ms, Nat.le_refl _, Nat.le_refl _, c_result hw.1 hO (by omega) (by omega) (fun r S26 hf hT hl3 => ?_)⟩
      refine c_putInto (h.still hf) hj hT hl3 (fun S29 h29 => ?_)
      rw [resF_len]
      exact hp S29 ⟨mm, ad, lv, h29⟩
theorem c_setJoined {post : Int32 → hS → Prop} {mc ms : Nat} (hmc : 1100 ≤ mc) (hms : 13600 ≤ ms) (x y z : Int32) (hR : cRep u d s S) (hp : ∀ S', cRep u d (op_setJoined x y z s).2 S' → post (op_setJoined x y z s).1 S') : w_X9_setJoined u post d x y z S mc ms := by
  obtain ⟨mm, ad, lv, h⟩ := id hR
  obtain ⟨lp, p1, p2⟩ := h.pl
  obtain ⟨l9, k1, g, k2, k3⟩ := h.jnRow
  have hw := h.2.1
  rw [w_X9_setJoined]
  refine ⟨_, p1, _, rfl, p2.fs, c_layR x p2 (fun r hr => ⟨h.fs, c_slotR y h (fun r2 hr2 => ⟨fun q1 => ?_, fun a1 q1 => ⟨fun q2 => ?_, fun a2 q2 => c_in3 z (fun ez => ⟨fun w => absurd rfl w, fun _ => ?_⟩) (fun i hi hz ez => ⟨fun _ => ⟨_, k1, _, rfl, 3, g, k2, by rw [hz]; exact vp_in_nI hi (by omega), fun o eo => ?_⟩, fun w => absurd w (by decide)⟩)⟩⟩)⟩)⟩
  · simp only [op_setJoined, hr.nn q1] at hp; exact hp S hR
  · obtain ⟨l, hl, hxl, e, rfl⟩ := hr.sm q1
    simp only [op_setJoined, e, hr2.nn q2] at hp; exact hp S hR
  · obtain ⟨l, hl, hxl, e, rfl⟩ := hr.sm q1
    obtain ⟨j, hj, hy, ey, rfl⟩ := hr2.sm q2
    simp only [op_setJoined, e, ey, ez] at hp; exact hp S hR
  · obtain ⟨l, hl, hxl, e, rfl⟩ := hr.sm q1
    obtain ⟨j, hj, hy, ey, rfl⟩ := hr2.sm q2
    simp only [op_setJoined, e, ey, ez] at hp
    rw [hz, nI_clamp (by omega)] at eo
    have hk := k3 i hi
    rw [← eo] at hk
    cases hv : aJn s i with
    | none =>
      rw [hv] at hk
      have ho : o = none := hk
      simp only [hv] at hp
      exact ⟨fun _ => hp S hR, fun a z => absurd z (by rw [ho]; simp)⟩
    | some v =>
      simp only [hv] at hp
      obtain ⟨dl, pr, su, el, em⟩ := v
      rw [hv] at hk
      obtain ⟨ho, hlv, hO⟩ := hk.obj hw
      refine ⟨fun z => absurd z (by rw [ho]; simp), fun a29 z => ?_⟩
      rw [ho] at z
      obtain rfl := Option.some.inj z
      obtain ⟨o2, m2, ho2⟩ := h.sl hj
      refine ⟨o2, m2.r rfl, ho2.cs (fun hv2 eo2 => ⟨fun _ => ⟨h.fs, c_refuseNull hR (fun S' h' => ?_)⟩, fun b w => absurd w (by rw [eo2]; simp)⟩) (fun b2 t2 hv2 eo2 hT2 ht2 => ⟨fun w => absurd w (by rw [eo2]; simp), fun _ _ => ⟨o2, m2.r rfl, hO.fs, 7, 2200, by omega, by omega, ?_⟩⟩)⟩
      · simp only [hv2, nullS] at hp; exact hp S' h'
      · simp only [hv2] at hp
        refine c_result hw.1 hO (Nat.le_refl _) (Nat.le_refl _) (fun r S46 hf hT hl3 => ?_)
        have h46 := h.still hf
        have hL := h46.ly hl
        rw [eo2]
        refine ⟨⟨_, hL.o h46.2.1⟩, 1, 2, by omega, by omega, c_put h.1.1 hL h46.2.1 (Nat.le_refl _) (Nat.le_refl _) (hT2.kept (fx_kp0 hf)) ht2 hT hl3 (fun q => ⟨fun w => absurd rfl w, fun _ => ?_⟩) (fun q S54 h1 hL' => ⟨fun _ => ?_, fun w => absurd w (by decide)⟩)⟩
        · have q' : findF (aLy s l) t2 = none ∧ 40 ≤ (aLy s l).length := q
          rw [if_pos q'] at hp; exact hp S46 ⟨mm, ad, lv, h46⟩
        · have q' : ¬ (findF (aLy s l) t2 = none ∧ 40 ≤ (aLy s l).length) := q
          rw [if_neg q'] at hp
          have h54 := h46.layer hl h1 hL'
          have hL5 := h54.ly hl
          refine ⟨⟨_, hL5.o h54.2.1⟩, c_entryCount hL5 h54.2.1 ?_⟩
          have el5 : aLy (sLy s l (putF (aLy s l) t2 (resF (dl, pr, su, el, em)))) l = putF (aLy s l) t2 (resF (dl, pr, su, el, em)) := va_up_self _ _ _
          rw [el5]
          exact hp S54 ⟨mm, ad, lv, h54⟩
end CREP
