/-! THE CLASS: the calls on tokenizers -/
section CREP
variable {u : hU} {d : Nat} {mm : List Nat} {ad : Nat → Nat} {lv : Nat → Prop} {s : AS} {S : hS}
theorem wf.ext {S' : hS} {q : Nat} (hw : wf mm S ad lv) (hq : q ∉ S.1) (h1 : ∀ a, a ∈ S.1 → a ∈ S'.1) (hq' : q ∈ S'.1) (c : Nat) : wf (q :: mm) S' (va_up ad c q) (fun k => lv k ∨ k = c) := by
  have hin : ∀ k, (lv k ∨ k = c) → k ≠ c → lv k := fun k h hn => by
    rcases h with h | h
    · exact h
    · exact absurd h hn
  refine ⟨fun a ha => ?_, fun k hk => ?_, fun k k' hk hk' e => ?_⟩
  · rcases List.mem_cons.mp ha with z | z
    · rw [z]; exact hq'
    · exact h1 a (hw.1 a z)
  · by_cases z : k = c
    · rw [z, va_up_self]; exact List.mem_cons_self
    · rw [va_up_ne _ _ z]; exact List.mem_cons_of_mem _ (hw.2.1 k (hin k hk z))
  · by_cases z : k = c
    · by_cases z' : k' = c
      · rw [z, z']
      · rw [z, va_up_self, va_up_ne _ _ z'] at e
        exact absurd (hw.at (hin k' hk' z')) (by rw [← e]; exact hq)
    · by_cases z' : k' = c
      · rw [z', va_up_self, va_up_ne _ _ z] at e
        exact absurd (hw.at (hin k hk z)) (by rw [e]; exact hq)
      · rw [va_up_ne _ _ z, va_up_ne _ _ z'] at e
        exact hw.2.2 k k' (hin k hk z) (hin k' hk' z') e
/-- a step that makes the cell q, at the place c, and changes the cell at the place c0 -/
theorem stp.ext {S' : hS} {q c c0 : Nat} (hw : wf mm S ad lv) (hl0 : lv c0) (hq : q ∉ S.1) (h1 : ∀ a, a ∈ S.1 → a ∈ S'.1) (h2 : ∀ a, a ∈ S.1 → a ≠ ad c0 → S'.2 a = S.2 a) : stp mm (q :: mm) ad (va_up ad c q) lv (fun k => lv k ∨ k = c) S S' (fun k => k = c) (fun k => k = c ∨ k = c0) := by
  refine ⟨⟨h1, fun a ha hm => ⟨fun z => ?_, h2 a ha (fun z => hm (by rw [z]; exact hw.2.1 _ hl0))⟩⟩, fun _ h => Or.inl h, fun k hk => va_up_ne _ _ hk, fun k hk hn => ?_⟩
  · rcases List.mem_cons.mp z with z | z
    · exact hq (by rw [← z]; exact ha)
    · exact hm z
  · rw [va_up_ne _ _ (fun z => hn (Or.inl z))]
    exact h2 _ (hw.at hk) (fun z => hn (Or.inr (hw.2.2 k c0 hk hl0 z)))
theorem cR.tkRow (h : cR u d mm ad lv s S) : lv 8 ∧ rR S d 10 5 (some (ad 8)) ∧ ∃ g, rQ S (u.2.1 6) (ad 8) 2 g ∧ ∀ i, i < 2 → tkC u mm S ad lv i (g i) (aTk s i) := by
  obtain ⟨sr, sg, lp, k1, -⟩ := h.dr
  obtain ⟨h0, hw, -, -, -, -, -, -, ⟨q1, g, q2, q3⟩, -⟩ := h
  exact ⟨q1, k1.r rfl, g, ⟨hw.at q1, q2⟩, q3⟩
theorem tkC.obj {i : Nat} {o : Option Nat} {t dl : Tx} {r : Bool} {p : Nat} (h : tkC u mm S ad lv i o (some (t, dl, r, p))) (hw : wf mm S ad lv) : o = some (ad (60 + i)) ∧ lv (60 + i) ∧ p ≤ t.length ∧ tkO2 u mm S (ad (60 + i)) t dl r p := by
  obtain ⟨h1, h2, h3, ta, da, h4, h5, h6⟩ := h
  exact ⟨h1, h2, h3.1, h3.2, ta, da, ⟨hw.at h2, h4⟩, h5, h6⟩
/-- the tokenizers' cells alone change -/
theorem cR.tok {mm' : List Nat} {ad' : Nat → Nat} {lv' Ca Cs : Nat → Prop} {S' : hS} {i : Nat} {v : Option Tk} {g g' : Nat → Option Nat} (h : cR u d mm ad lv s S) (hi : i < 2) (hw' : wf mm' S' ad' lv') (hs : stp mm mm' ad ad' lv lv' S S' Ca Cs) (ha : ∀ c, Ca c → c = 60 + i) (hc : ∀ c, Cs c → c = 8 ∨ c = 60 + i)
    (hg : ∀ j, j < 2 → tkC u mm S ad lv j (g j) (aTk s j)) (hg' : S'.2 (ad' 8) = qE (u.2.1 6) 2 g') (hgo : ∀ j, j ≠ i → g' j = g j) (hv : tkC u mm' S' ad' lv' i (g' i) v) : cR u d mm' ad' lv' (sTk s i v) S' := by
  obtain ⟨⟨h0, h00⟩, hw, h1, h2, h3, h4, ⟨L, h5⟩, h6, ⟨h71, -⟩, h8⟩ := h
  have e0 : ad' 0 = ad 0 := hs.2.2.1 0 (fun z => by have := ha 0 z; omega)
  refine ⟨⟨h0, e0.trans h00⟩, hw', h1.keep hs (fun c q => ?_) (fun q => ?_), h2.keep hs (fun c q => ?_), h3.keep hs (fun c q => ?_) (fun c q => ?_), h4.keep hs (fun c q => ?_) (fun c q => ?_), ⟨L, h5.keep hs ⟨fun q => ?_, fun q => ?_⟩ ⟨fun q => ?_, fun q => ?_⟩⟩, h6.keep hs (fun c q => ?_) (fun c q => ?_), ⟨hs.2.1 _ h71, g', hg', fun j hj => ?_⟩, h8.keep hs (fun c q => ?_) (fun c q => ?_)⟩
  all_goals first
    | (have := ha _ q; unfold adF; omega)
    | (have := ha _ q; omega)
    | (have := hc _ q; omega)
    | skip
  show tkC u mm' S' ad' lv' j (g' j) (va_up (aTk s) i v j)
  by_cases z : j = i
  · subst z; rw [va_up_self]; exact hv
  · rw [va_up_ne _ _ z, hgo j z]
    exact (hg j hj).keep hs (fun q => by have := ha _ q; omega) (fun q => by have := hc _ q; omega)
theorem c_in2 {post : Int32 → Prop} (x : Int32) (h0 : ixO x 2 = none → post 0) (h1 : ∀ i, i < 2 → x = nI i → ixO x 2 = some i → post 1) : q_X9_isWithin post x 2 := c_in x (n := 2) (by omega) h0 h1
/-- a new tokenizer -/
theorem c_makeTokenizer {post : Int32 → hS → Prop} {i ta da mc ms : Nat} {t dl : Tx} {r : Bool} {z4 : Int32} (hmc : 1 ≤ mc) (hms : 4 ≤ ms) (h : cR u d mm ad lv s S) (hi : i < 2) (ht : tS u mm S ta t) (ht3 : t.length ≤ 300) (hd : tS u mm S da dl) (hd3 : dl.length ≤ 300) (h4 : z4 = if r then 1 else 0) (hp : ∀ S', cRep u d (op_mk i t dl r s).2 S' → post (op_mk i t dl r s).1 S') : w_X9_makeTokenizer u post d (nI i) (some ta) (some da) z4 S mc ms := by
  obtain ⟨l8, k1, g, k2, k3⟩ := h.tkRow
  have hw := h.2.1
  rw [w_X9_makeTokenizer]
  refine c_in2 (nI i) (fun e => absurd e (by rw [ixO_nI hi (by omega)]; simp)) (fun i' hi' hx e => ⟨fun _ => ⟨hmc, hms, fun q S5 hq e5 => ?_⟩, fun z => absurd z (by decide)⟩)
  have q5 : q ∈ S5.1 := by rw [e5]; exact adS_mem
  have o5 : S5.2 q = .inr (9, [.null, .int 0, .null, .int 0]) := by rw [e5]; exact va_adS_self
  have n5 : ∀ a, a ∈ S.1 → a ≠ q := fun a ha z => hq.1 (by rw [← z]; exact ha)
  rw [w_X8_init]
  refine ⟨_, ⟨q5, o5⟩, by simp, fun S4 e4 => ⟨[va_rf (some ta), .int 0, .null, .int 0], ⟨by rw [e4]; exact q5, by rw [e4]; exact va_upS_self⟩, by simp, fun S8 e8 => ⟨[va_rf (some ta), .int 0, va_rf (some da), .int 0], ⟨by rw [e8, e4]; exact q5, by rw [e8]; exact va_upS_self⟩, by simp, ?_, fun S12 e12 => ?_⟩⟩⟩
  · rw [h4]; cases r <;> decide
  have q12 : q ∈ S12.1 := by rw [e12, e8, e4]; exact q5
  have o12 : S12.2 q = .inr (9, [va_rf (some ta), .int z4, va_rf (some da), .int 0]) := by rw [e12]; exact va_upS_self
  have m5 : ∀ a, a ∈ S.1 → a ∈ S5.1 := fun a ha => by rw [e5]; exact adS_old ha
  have m12 : ∀ a, a ∈ S.1 → a ∈ S12.1 := fun a ha => by rw [e12, e8, e4]; exact m5 a ha
  have f12 : ∀ a, a ∈ S.1 → S12.2 a = S.2 a := fun a ha => by rw [e12, va_upS_ne (n5 a ha), e8, va_upS_ne (n5 a ha), e4, va_upS_ne (n5 a ha), e5, va_adS_ne (n5 a ha)]
  obtain ⟨b0, fsd, b1, b2⟩ := k1
  refine ⟨_, ⟨m12 _ b0, fsd, (f12 _ b0).trans b1, b2⟩, _, rfl, 2, g, ⟨m12 _ k2.1, (f12 _ k2.1).trans k2.2⟩, vp_in_nI hi (by omega), ⟨_, q12, o12⟩, fun S18 e18 => ?_⟩
  rw [nI_clamp (by omega)] at e18
  have n8 : q ≠ ad 8 := fun z => hq.1 (by rw [z]; exact k2.1)
  have q18 : q ∈ S18.1 := by rw [e18]; exact q12
  have o18 : S18.2 q = .inr (9, [va_rf (some ta), .int z4, va_rf (some da), .int 0]) := by rw [e18, va_upS_ne n8]; exact o12
  have m18 : ∀ a, a ∈ S.1 → a ∈ S18.1 := fun a ha => by rw [e18]; exact m12 a ha
  have f18 : ∀ a, a ∈ S.1 → a ≠ ad 8 → S18.2 a = S.2 a := fun a ha hn => by rw [e18, va_upS_ne hn]; exact f12 a ha
  have hs := stp.ext (c := 60 + i) hw l8 hq.1 m18 f18
  have e8' : va_up ad (60 + i) q 8 = ad 8 := va_up_ne _ _ (by omega)
  have e60 : va_up ad (60 + i) q (60 + i) = q := va_up_self _ _ _
  have ht' := ht.kept hs.1
  have hd' := hd.kept hs.1
  have h18 : cR u d (q :: mm) (va_up ad (60 + i) q) (fun k => lv k ∨ k = 60 + i) (sTk s i (some (t, dl, r, 0))) S18 := by
    refine h.tok (g := g) (g' := va_up g i (some q)) hi (hw.ext hq.1 m18 q18 (60 + i)) hs (fun c q => q) (fun c q => by omega) k3 ?_ (fun j hj => va_up_ne _ _ hj) ⟨by rw [va_up_self, e60], Or.inr rfl, ⟨Nat.zero_le _, ht3, hd3⟩, ta, da, ?_, ht', hd'⟩
    · rw [e8', e18]; exact va_upS_self
    · rw [e60, o18, h4]; rfl
  have hO : tkO2 u (q :: mm) S18 q t dl r 0 := ⟨⟨ht3, hd3⟩, ta, da, ⟨q18, by rw [o18, h4]; rfl⟩, ht', hd'⟩
  exact ⟨hO.fs, c_tokensLeft hO (Nat.zero_le _) (hp S18 ⟨_, _, _, h18⟩)⟩
theorem c_tokenizeSlots {post : Int32 → hS → Prop} {mc ms : Nat} (hmc : 1100 ≤ mc) (hms : 13600 ≤ ms) (x y z : Int32) (r : Bool) {z4 : Int32} (h4 : z4 = if r then 1 else 0) (hR : cRep u d s S) (hp : ∀ S', cRep u d (op_told x y z r s).2 S' → post (op_told x y z r s).1 S') : w_X9_tokenizeSlots u post d x y z z4 S mc ms := by
  obtain ⟨mm, ad, lv, h⟩ := id hR
  rw [w_X9_tokenizeSlots]
  refine ⟨h.fs, c_slotR y h (fun r2 hr2 => ⟨h.fs, c_slotR z h (fun r3 hr3 => c_in2 x (fun e => ⟨fun _ => ?_, fun z => absurd rfl z⟩) (fun i hi hx e => ⟨fun z => absurd z (by decide), fun _ => ⟨fun q2 => ?_, fun a2 q2 => ⟨fun q3 => ?_, fun a3 q3 => ?_⟩⟩⟩))⟩)⟩
  · simp only [op_told, e] at hp; exact hp S hR
  · simp only [op_told, e, hr2.nn q2] at hp; exact hp S hR
  · obtain ⟨j, hj, hy, ey, rfl⟩ := hr2.sm q2
    simp only [op_told, e, ey, hr3.nn q3] at hp; exact hp S hR
  · obtain ⟨j, hj, hy, ey, rfl⟩ := hr2.sm q2
    obtain ⟨k0, hk0, hz, ez, rfl⟩ := hr3.sm q3
    simp only [op_told, e, ey, ez] at hp
    obtain ⟨o, k, ho⟩ := h.sl hj
    obtain ⟨o3, k3, ho3⟩ := h.sl hk0
    refine ⟨o3, k3.r rfl, ho3.cs (fun hv eo => ⟨fun _ => ?_, fun b w => absurd w (by rw [eo]; simp)⟩) (fun b3 dl hv3 eo3 hD hd => ⟨fun w => absurd w (by rw [eo3]; simp), fun _ _ => ⟨o, k.r rfl, ?_⟩⟩)⟩
    · simp only [hv] at hp; exact hp S hR
    simp only [hv3] at hp
    refine ho.cs (fun hv eo => ⟨fun _ => ⟨h.fs, c_refuseNull hR (fun S' h' => ?_)⟩, fun b w => absurd w (by rw [eo]; simp)⟩) (fun b t hv eo hT ht => ⟨fun w => absurd w (by rw [eo]; simp), fun b2 _ => ⟨o, k.r rfl, o3, k3.r rfl, h.fs, mc, ms, Nat.le_refl _, Nat.le_refl _, ?_⟩⟩)
    · simp only [hv, nullS] at hp; exact hp S' h'
    · simp only [hv] at hp
      rw [eo, eo3, hx]
      exact c_makeTokenizer (by omega) (by omega) h hi hT ht hD hd h4 hp
theorem c_tokenizeBy {post : Int32 → hS → Prop} {mc ms : Nat} (hmc : 1100 ≤ mc) (hms : 13600 ≤ ms) (x y z : Int32) (hR : cRep u d s S) (hp : ∀ S', cRep u d (op_told x y z false s).2 S' → post (op_told x y z false s).1 S') : w_X9_tokenizeBy u post d x y z S mc ms := by
  obtain ⟨mm, ad, lv, h⟩ := id hR
  rw [w_X9_tokenizeBy]
  exact ⟨h.fs, mc, ms, Nat.le_refl _, Nat.le_refl _, c_tokenizeSlots hmc hms x y z false rfl hR hp⟩
theorem c_tokenizeAll {post : Int32 → hS → Prop} {mc ms : Nat} (hmc : 1100 ≤ mc) (hms : 13600 ≤ ms) (x y z : Int32) (hR : cRep u d s S) (hp : ∀ S', cRep u d (op_told x y z true s).2 S' → post (op_told x y z true s).1 S') : w_X9_tokenizeAll u post d x y z S mc ms := by
  obtain ⟨mm, ad, lv, h⟩ := id hR
  rw [w_X9_tokenizeAll]
  exact ⟨h.fs, mc, ms, Nat.le_refl _, Nat.le_refl _, c_tokenizeSlots hmc hms x y z true rfl hR hp⟩
theorem c_tokenizeValue {post : Int32 → hS → Prop} {mc ms : Nat} (hmc : 1100 ≤ mc) (hms : 13600 ≤ ms) (x y w z : Int32) (hR : cRep u d s S) (hp : ∀ S', cRep u d (op_tokenizeValue x y w z s).2 S' → post (op_tokenizeValue x y w z s).1 S') : w_X9_tokenizeValue u post d x y w z S mc ms := by
  obtain ⟨mm, ad, lv, h⟩ := id hR
  obtain ⟨lp, k1, k2⟩ := h.pl
  rw [w_X9_tokenizeValue]
  refine ⟨h.fs, c_slotR w h (fun r2 hr2 => ⟨h.fs, c_slotR z h (fun r3 hr3 => c_in2 x (fun e => ⟨fun _ => ?_, fun z => absurd rfl z⟩) (fun i hi hx e => ⟨fun z => absurd z (by decide), fun _ => ⟨_, k1, _, rfl, k2.fs, c_layR y k2 (fun r hr => ⟨fun q1 => ?_, fun a1 q1 => ⟨fun q2 => ?_, fun a2 q2 => ⟨fun q3 => ?_, fun a3 q3 => ?_⟩⟩⟩)⟩⟩))⟩)⟩
  · simp only [op_tokenizeValue, e] at hp; exact hp S hR
  · simp only [op_tokenizeValue, e, hr.nn q1] at hp; exact hp S hR
  · obtain ⟨l, hl, hyl, el, rfl⟩ := hr.sm q1
    simp only [op_tokenizeValue, e, el, hr2.nn q2] at hp; exact hp S hR
  · obtain ⟨l, hl, hyl, el, rfl⟩ := hr.sm q1
    obtain ⟨j, hj, hy, ey, rfl⟩ := hr2.sm q2
    simp only [op_tokenizeValue, e, el, ey, hr3.nn q3] at hp; exact hp S hR
  · obtain ⟨l, hl, hyl, el, rfl⟩ := hr.sm q1
    obtain ⟨j, hj, hy, ey, rfl⟩ := hr2.sm q2
    obtain ⟨k0, hk0, hz, ez, rfl⟩ := hr3.sm q3
    simp only [op_tokenizeValue, e, el, ey, ez] at hp
    obtain ⟨o, k, ho⟩ := h.sl hj
    obtain ⟨o3, k3, ho3⟩ := h.sl hk0
    refine ⟨o3, k3.r rfl, ho3.cs (fun hv eo => ⟨fun _ => ?_, fun b w => absurd w (by rw [eo]; simp)⟩) (fun b3 dl hv3 eo3 hD hd => ⟨fun w => absurd w (by rw [eo3]; simp), fun _ _ => ⟨o, k.r rfl, ?_⟩⟩)⟩
    · simp only [hv] at hp; exact hp S hR
    simp only [hv3] at hp
    refine ho.cs (fun hv eo => ⟨fun _ => ⟨h.fs, c_refuseNull hR (fun S' h' => ?_)⟩, fun b w => absurd w (by rw [eo]; simp)⟩) (fun b t hv eo hT ht => ⟨fun w => absurd w (by rw [eo]; simp), fun b2 _ => ⟨_, k1, o, k.r rfl, _, rfl, k2.fs, ?_⟩⟩)
    · simp only [hv, nullS] at hp; exact hp S' h'
    · simp only [hv] at hp
      rw [eo, hyl]
      refine c_lookUp (b := 0) h.1.1 k2 (fun l hl => by rw [Nat.zero_add]; exact h.ly hl) h.2.1 hT hl (fun q => ⟨fun _ => ?_, fun b w => absurd w (by simp)⟩) (fun va v q hv hv4 => ⟨fun w => absurd w (by simp), fun b w => ⟨o3, k3.r rfl, h.fs, mc, ms, Nat.le_refl _, Nat.le_refl _, ?_⟩⟩)
      · simp only [q] at hp; exact hp S hR
      · obtain rfl := Option.some.inj w
        simp only [q] at hp
        rw [eo3, hx]
        exact c_makeTokenizer (by omega) (by omega) h hi hv hv4 hD hd (r := false) rfl hp
theorem c_more {post : Int32 → Prop} (x : Int32) (hR : cRep u d s S) (hp : post (op_more x s).1) : w_X9_more u post d x S := by
  obtain ⟨mm, ad, lv, h⟩ := id hR
  obtain ⟨l8, k1, g, k2, k3⟩ := h.tkRow
  rw [w_X9_more]
  refine c_in2 x (fun e => ⟨fun z => absurd rfl z, fun _ => ?_⟩) (fun i hi hx e => ⟨fun _ => ⟨_, k1, _, rfl, 2, g, k2, by rw [hx]; exact vp_in_nI hi (by omega), fun o eo => ?_⟩, fun z => absurd z (by decide)⟩)
  · simp only [op_more, e] at hp; exact hp
  · rw [hx, nI_clamp (by omega)] at eo
    simp only [op_more, e] at hp
    have hk := k3 i hi
    rw [← eo] at hk
    cases hv : aTk s i with
    | none =>
      rw [hv] at hk
      have ho : o = none := hk
      simp only [hv] at hp
      exact ⟨fun _ => hp, fun a z => absurd z (by rw [ho]; simp)⟩
    | some v =>
      obtain ⟨t, dl, r, p⟩ := v
      rw [hv] at hk
      obtain ⟨ho, hl, hpl, hO⟩ := hk.obj h.2.1
      simp only [hv] at hp
      refine ⟨fun z => absurd z (by rw [ho]; simp), fun a z => ?_⟩
      rw [ho] at z
      obtain rfl := Option.some.inj z
      refine ⟨hO.fs, c_hasToken hO hpl (fun q => ⟨fun z => absurd z (by decide), fun _ => ?_⟩) (fun q => ⟨fun _ => ?_, fun z => absurd rfl z⟩)⟩
      · rw [if_pos q] at hp; exact hp
      · rw [if_neg q] at hp; exact hp
theorem c_count {post : Int32 → Prop} (x : Int32) (hR : cRep u d s S) (hp : post (op_count x s).1) : w_X9_count u post d x S := by
  obtain ⟨mm, ad, lv, h⟩ := id hR
  obtain ⟨l8, k1, g, k2, k3⟩ := h.tkRow
  rw [w_X9_count]
  refine c_in2 x (fun e => ⟨fun z => absurd rfl z, fun _ => ?_⟩) (fun i hi hx e => ⟨fun _ => ⟨_, k1, _, rfl, 2, g, k2, by rw [hx]; exact vp_in_nI hi (by omega), fun o eo => ?_⟩, fun z => absurd z (by decide)⟩)
  · simp only [op_count, e] at hp; exact hp
  · rw [hx, nI_clamp (by omega)] at eo
    simp only [op_count, e] at hp
    have hk := k3 i hi
    rw [← eo] at hk
    cases hv : aTk s i with
    | none =>
      rw [hv] at hk
      have ho : o = none := hk
      simp only [hv] at hp
      exact ⟨fun _ => hp, fun a z => absurd z (by rw [ho]; simp)⟩
    | some v =>
      obtain ⟨t, dl, r, p⟩ := v
      rw [hv] at hk
      obtain ⟨ho, hl, hpl, hO⟩ := hk.obj h.2.1
      simp only [hv] at hp
      refine ⟨fun z => absurd z (by rw [ho]; simp), fun a z => ?_⟩
      rw [ho] at z
      obtain rfl := Option.some.inj z
      exact ⟨hO.fs, c_tokensLeft hO hpl hp⟩
theorem c_refuseToken {post : Int32 → hS → Prop} {i : Nat} (h : cR u d mm ad lv s S) (hi : i < 2) (hp : ∀ S', cRep u d (sNe (sTk s i none)) S' → post (-8) S') : w_X9_refuseToken u post d (nI i) S := by
  obtain ⟨l8, k1, g, k2, k3⟩ := h.tkRow
  have hw := h.2.1
  rw [w_X9_refuseToken]
  refine c_in2 (nI i) (fun e => absurd e (by rw [ixO_nI hi (by omega)]; simp)) (fun i' hi' hx e => ⟨fun z => absurd z (by decide), fun _ => ⟨_, k1, _, rfl, 2, g, k2, vp_in_nI hi (by omega), fun S10 e10 => ?_⟩⟩)
  rw [nI_clamp (by omega)] at e10
  have hs : stp mm mm ad ad lv lv S S10 (fun _ => False) (fun c => c = 8) := stp.at hw (fun a ha => by rw [e10]; exact ha) (fun a ha hc => by rw [e10]; exact va_upS_ne (hc 8 rfl)) (fun c hc => by rw [hc]; exact l8)
  have h10 : cR u d mm ad lv (sTk s i none) S10 := h.tok (g := g) (g' := va_up g i none) hi (hw.mono hs.1.1) hs (fun c z => absurd z (fun z => z)) (fun c z => Or.inl z) k3 (by rw [e10]; exact va_upS_self) (fun j hj => va_up_ne _ _ hj) (va_up_self _ _ _)
  obtain ⟨sr, sg, lp, m1, m2, m3, m4⟩ := h10.dr
  rw [w_X9_refuseToken_15]
  exact ⟨_, m1.i rfl, _, m1, by simp, fun S16 e16 => hp S16 ⟨mm, ad, lv, h10.nums (np := aNp s) (ne := aNe s + 1) m2 m3 m4 e16⟩⟩
/-- the token behind a look whether there is one -/
theorem c_takeOr {post : Int32 → hS → Prop} {i j mc ms : Nat} {t dl : Tx} {r : Bool} {p : Nat} (hmc : 2 ≤ mc) (hms : 304 ≤ ms) (h : cR u d mm ad lv s S) (hi : i < 2) (hj : j < 6) (hk : aTk s i = some (t, dl, r, p)) (hp : ∀ S', cRep u d (op_take i j t dl r p s).2 S' → post (op_take i j t dl r p s).1 S') :
    w_X8_hasToken u (fun r20 => ((¬ r20 = (0 : Int32) → ((∃ fs, rO S (ad (60 + i)) 9 fs) ∧ (∃ k27 n28 : Nat, k27 ≤ mc ∧ n28 ≤ ms ∧ (w_X8_takeToken u (fun r26 S32 => (w_X9_putInto u (fun r34 S35 => post r34 S35) (some (ad (10 + j))) r26 S32)) (ad (60 + i))  S k27 n28)))) ∧ (r20 = (0 : Int32) → ((∃ fs, rO S d 10 fs) ∧ (w_X9_refuseToken u (fun r37 S39 => post r37 S39) d (nI i) S))))) (ad (60 + i)) S := by
  obtain ⟨l8, k1, g, k2, k3⟩ := h.tkRow
  have hw := h.2.1
  have hk0 := k3 i hi
  rw [hk] at hk0
  obtain ⟨ho, hl, hpl, hO⟩ := hk0.obj hw
  have b := begF_le (d := dl) (r := r) hpl
  unfold op_take at hp
  refine c_hasToken hO hpl (fun q => ⟨fun _ => ⟨hO.fs, mc, ms, Nat.le_refl _, Nat.le_refl _, ?_⟩, fun z => absurd z (by decide)⟩) (fun q => ⟨fun z => absurd rfl z, fun _ => ⟨h.fs, c_refuseToken h hi (fun S' h' => ?_)⟩⟩)
  · rw [if_pos q] at hp
    have b1 := endF_le (d := dl) q
    refine c_takeToken hO hw.1 (hw.2.1 _ hl) hpl q hmc hms (fun qa S32 hf hx hT => ?_)
    obtain ⟨ta, da, x1, x2, x3⟩ := hx
    have hs : stp mm mm ad ad lv lv S S32 (fun _ => False) (fun c => c = 60 + i) := stp.at hw hf.1 (fun a ha hc => hf.2 a ha (fun z => hc _ rfl (List.mem_singleton.mp z))) (fun c hc => by rw [hc]; exact hl)
    have h32 : cR u d mm ad lv (sTk s i (some (t, dl, r, endF t dl (begF t dl r p)))) S32 := h.tok (g := g) (g' := g) hi (hw.mono hf.1) hs (fun c z => absurd z (fun z => z)) (fun c z => Or.inr z) k3 (by rw [hs.2.2.2 8 l8 (by omega)]; exact k2.2) (fun _ _ => rfl) ⟨ho, hl, ⟨b1.2, hO.1⟩, ta, da, x1, x2, x3⟩
    have hlen : ((t.drop (begF t dl r p)).take (endF t dl (begF t dl r p) - begF t dl r p)).length = endF t dl (begF t dl r p) - begF t dl r p := by rw [List.length_take, List.length_drop]; omega
    have hl3 := hO.1.1
    refine c_putInto h32 hj hT (by rw [hlen]; omega) (fun S35 h35 => ?_)
    rw [hlen]
    exact hp S35 ⟨mm, ad, lv, h35⟩
  · rw [if_neg q] at hp; exact hp S' h'
theorem c_next {post : Int32 → hS → Prop} {mc ms : Nat} (hmc : 1100 ≤ mc) (hms : 13600 ≤ ms) (x y : Int32) (hR : cRep u d s S) (hp : ∀ S', cRep u d (op_next x y s).2 S' → post (op_next x y s).1 S') : w_X9_next u post d x y S mc ms := by
  obtain ⟨mm, ad, lv, h⟩ := id hR
  obtain ⟨l8, k1, g, k2, k3⟩ := h.tkRow
  rw [w_X9_next]
  refine ⟨h.fs, c_slotR y h (fun r2 hr2 => c_in2 x (fun e => ⟨fun _ => ?_, fun z => absurd rfl z⟩) (fun i hi hx e => ⟨fun z => absurd z (by decide), fun _ => ⟨fun z => ?_, fun a z => ⟨_, k1, _, rfl, 2, g, k2, by rw [hx]; exact vp_in_nI hi (by omega), fun o eo => ?_⟩⟩⟩))⟩
  · simp only [op_next, e] at hp; exact hp S hR
  · simp only [op_next, e, hr2.nn z] at hp; exact hp S hR
  · obtain ⟨j, hj, hy, ey, rfl⟩ := hr2.sm z
    simp only [op_next, e, ey] at hp
    rw [hx, nI_clamp (by omega)] at eo
    have hk := k3 i hi
    rw [← eo] at hk
    cases hv : aTk s i with
    | none =>
      rw [hv] at hk
      have ho : o = none := hk
      simp only [hv] at hp
      exact ⟨fun _ => hp S hR, fun a z => absurd z (by rw [ho]; simp)⟩
    | some v =>
      obtain ⟨t, dl, r, p⟩ := v
      rw [hv] at hk
      obtain ⟨ho, hl, hpl, hO⟩ := hk.obj h.2.1
      simp only [hv] at hp
      refine ⟨fun z => absurd z (by rw [ho]; simp), fun a19 z => ?_⟩
      rw [ho] at z
      obtain rfl := Option.some.inj z
      rw [hx]
      exact ⟨hO.fs, c_takeOr (by omega) (by omega) h hi hj hv hp⟩
theorem c_nextBy {post : Int32 → hS → Prop} {mc ms : Nat} (hmc : 1100 ≤ mc) (hms : 13600 ≤ ms) (x y z : Int32) (hR : cRep u d s S) (hp : ∀ S', cRep u d (op_nextBy x y z s).2 S' → post (op_nextBy x y z s).1 S') : w_X9_nextBy u post d x y z S mc ms := by
  obtain ⟨mm, ad, lv, h⟩ := id hR
  obtain ⟨l8, k1, g, k2, k3⟩ := h.tkRow
  have hw := h.2.1
  rw [w_X9_nextBy]
  refine ⟨h.fs, c_slotR y h (fun r2 hr2 => ⟨h.fs, c_slotR z h (fun r3 hr3 => c_in2 x (fun e => ⟨fun _ => ?_, fun z => absurd rfl z⟩) (fun i hi hx e => ⟨fun z => absurd z (by decide), fun _ => ⟨fun q2 => ?_, fun a2 q2 => ⟨fun q3 => ?_, fun a3 q3 => ⟨_, k1, _, rfl, 2, g, k2, by rw [hx]; exact vp_in_nI hi (by omega), fun o eo => ?_⟩⟩⟩⟩))⟩)⟩
  · simp only [op_nextBy, e] at hp; exact hp S hR
  · simp only [op_nextBy, e, hr2.nn q2] at hp; exact hp S hR
  · obtain ⟨j, hj, hy, ey, rfl⟩ := hr2.sm q2
    simp only [op_nextBy, e, ey, hr3.nn q3] at hp; exact hp S hR
  · obtain ⟨k0, hk0, hy, ey, rfl⟩ := hr2.sm q2
    obtain ⟨j, hj, hz, ez, rfl⟩ := hr3.sm q3
    simp only [op_nextBy, e, ey, ez] at hp
    rw [hx, nI_clamp (by omega)] at eo
    have hk := k3 i hi
    rw [← eo] at hk
    cases hv : aTk s i with
    | none =>
      rw [hv] at hk
      have ho : o = none := hk
      simp only [hv] at hp
      exact ⟨fun _ => hp S hR, fun a z => absurd z (by rw [ho]; simp)⟩
    | some v =>
      obtain ⟨t, dl, r, p⟩ := v
      rw [hv] at hk
      obtain ⟨ho, hl, hpl, hO⟩ := hk.obj h.2.1
      simp only [hv] at hp
      refine ⟨fun z => absurd z (by rw [ho]; simp), fun a26 z => ?_⟩
      rw [ho] at z
      obtain rfl := Option.some.inj z
      obtain ⟨o2, m2, ho2⟩ := h.sl hk0
      refine ⟨o2, m2.r rfl, ho2.cs (fun hv2 eo2 => ⟨fun _ => ?_, fun b w => absurd w (by rw [eo2]; simp)⟩) (fun b3 d' hv3 eo3 hD hd => ⟨fun w => absurd w (by rw [eo3]; simp), fun _ _ => ⟨o2, m2.r rfl, ?_⟩⟩)⟩
      · simp only [hv2] at hp; exact hp S hR
      · simp only [hv3] at hp
        obtain ⟨l3, ta, da, kO, hT, hDl⟩ := hO
        refine ⟨_, kO, by simp, fun S36 e36 => ?_⟩
        rw [eo3] at e36
        have hs : stp mm mm ad ad lv lv S S36 (fun _ => False) (fun c => c = 60 + i) := stp.at hw (fun a ha => by rw [e36]; exact ha) (fun a ha hc => by rw [e36]; exact va_upS_ne (hc _ rfl)) (fun c hc => by rw [hc]; exact hl)
        have h36 : cR u d mm ad lv (sTk s i (some (t, d', r, p))) S36 := h.tok (g := g) (g' := g) hi (hw.mono hs.1.1) hs (fun c z => absurd z (fun z => z)) (fun c z => Or.inr z) k3 (by rw [hs.2.2.2 8 l8 (by omega)]; exact k2.2) (fun _ _ => rfl) ⟨by rw [← eo]; exact ho, hl, ⟨hpl, l3.1, hd⟩, ta, b3, by rw [e36]; exact va_upS_self, hT.kept hs.1, hD.kept hs.1⟩
        rw [hx]
        refine ⟨⟨_, hs.1.1 _ kO.1, by rw [e36]; exact va_upS_self⟩, c_takeOr (i := i) (j := j) (t := t) (dl := d') (r := r) (p := p) (by omega) (by omega) h36 hi hj (va_up_self _ _ _) (fun S' h' => ?_)⟩
        have e1 : op_take i j t d' r p (sTk s i (some (t, d', r, p))) = op_take i j t d' r p s := by
          have up2 : ∀ (w : Option Tk), va_up (va_up (aTk s) i (some (t, d', r, p))) i w = va_up (aTk s) i w := by
            intro w
            funext y
            by_cases q : y = i
            · subst q; rw [va_up_self, va_up_self]
            · rw [va_up_ne _ _ q, va_up_ne _ _ q, va_up_ne _ _ q]
          unfold op_take
          split
          · show (_, (va_up s.1 j _, s.2.1, s.2.2.1, s.2.2.2.1, va_up (va_up (aTk s) i (some (t, d', r, p))) i _, s.2.2.2.2.2)) = _
            rw [up2]
          · show (_, (s.1, s.2.1, s.2.2.1, s.2.2.2.1, va_up (va_up (aTk s) i (some (t, d', r, p))) i none, _)) = _
            rw [up2]
        rw [e1] at h' ⊢
        exact hp S' h'
end CREP
