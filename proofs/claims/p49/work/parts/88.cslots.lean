/-! THE CLASS: slots -/
theorem c_in {post : Int32 → Prop} (x : Int32) {n : Nat} (hn : n < 2 ^ 31) (h0 : ixO x n = none → post 0) (h1 : ∀ i, i < n → x = nI i → ixO x n = some i → post 1) : q_X9_isWithin post x (nI n) := by
  rw [q_X9_isWithin]
  rcases ixO_cases x hn with ⟨e, h⟩ | ⟨i, hi, rfl, e⟩
  · rcases h with h | h
    · exact ⟨fun _ => h0 e, fun z => absurd h z⟩
    · exact ⟨fun _ => h0 e, fun _ => ⟨fun _ => h0 e, fun z => absurd h z⟩⟩
  · exact ⟨fun z => absurd z (nI_pos (by omega)), fun _ => ⟨fun z => absurd z (nI_ge hi hn), fun _ => h1 i hi rfl e⟩⟩
theorem rO.r {S : hS} {a ci n : Nat} {fs : List Value} {o : Option Nat} (k : rO S a ci fs) (e : fs[n]? = some (va_rf o)) : rR S a ci n o := ⟨k.1, fs, k.2, e⟩
theorem rO.i {S : hS} {a ci n : Nat} {fs : List Value} {x : Int32} (k : rO S a ci fs) (e : fs[n]? = some (.int x)) : rI S a ci n x := ⟨k.1, fs, k.2, e⟩
theorem st_const {u : hU} {mm : List Nat} {S : hS} {i : Nat} (hi : i < 3) : tS u mm S (u.1 i).1 (kT i) := by
  refine ⟨?_, Or.inl ⟨i, hi, rfl, rfl⟩⟩
  match i, hi with
  | 0, _ => decide
  | 1, _ => decide
  | 2, _ => decide
  | 3, _ => decide
theorem tS.less {u : hU} {mm mm' : List Nat} {S : hS} {a : Nat} {t : Tx} (h : tS u mm S a t) (hs : ∀ x, x ∈ mm' → x ∈ mm) : tS u mm' S a t := by
  obtain ⟨h1, h2 | ⟨hc, ha, hm, b, fs, g, e1, e2, e3, hb, hbm, e4, e5⟩⟩ := h
  · exact ⟨h1, Or.inl h2⟩
  · exact ⟨h1, Or.inr ⟨hc, ha, fun z => hm (hs _ z), b, fs, g, e1, e2, e3, hb, fun z => hbm (hs _ z), e4, e5⟩⟩
section CREP
variable {u : hU} {d : Nat} {mm : List Nat} {ad : Nat → Nat} {lv : Nat → Prop} {s : AS} {S : hS}
theorem cR.dr (h : cR u d mm ad lv s S) : ∃ sr sg lp, rO S d 10 [va_rf (some sr), va_rf (some (ad 1)), va_rf (some lp), va_rf (some (ad 32)), va_rf (some (ad 7)), va_rf (some (ad 8)), va_rf (some (ad 9)), .int (aNp s), .int (aNe s)] ∧ im mm S sr (qE (u.2.1 8) 6 sg) ∧ (∀ i, i < 6 → sg i = some (ad (10 + i))) ∧ pileC u mm S ad 20 lp := by
  obtain ⟨⟨h0, rfl⟩, hw, ⟨hl, sr, sg, lp, h1, h2, h3, h4⟩, -⟩ := h
  exact ⟨sr, sg, lp, ⟨hw.at hl, h1⟩, h2, h3, h4⟩
theorem cR.fs (h : cR u d mm ad lv s S) : ∃ fs, rO S d 10 fs := by
  obtain ⟨sr, sg, lp, h1, -⟩ := h.dr
  exact ⟨_, h1⟩
theorem cR.sl (h : cR u d mm ad lv s S) {i : Nat} (hi : i < 6) : ∃ o, rO S (ad (10 + i)) 7 [va_rf o] ∧ oT u mm S o (aSl s i) := by
  obtain ⟨h0, hw, h1, h2, -⟩ := h
  obtain ⟨q1, o, q2, q3⟩ := h2 i hi
  exact ⟨o, ⟨hw.at q1, q2⟩, q3⟩
theorem c_slotAt {post : Option Nat → Prop} (x : Int32) (h : cR u d mm ad lv s S) (h0 : ixO x 6 = none → post none) (h1 : ∀ i, i < 6 → x = nI i → ixO x 6 = some i → post (some (ad (10 + i)))) : w_X9_slotAt u post d x S := by
  obtain ⟨sr, sg, lp, k1, k2, k3, k4⟩ := h.dr
  rw [w_X9_slotAt]
  refine c_in x (n := 6) (by omega) (fun e => ⟨fun _ => h0 e, fun z => absurd rfl z⟩) (fun i hi hx e => ⟨fun z => absurd z (by decide), fun _ => ⟨some sr, k1.r rfl, sr, rfl, 6, sg, ⟨k2.1, k2.2.2⟩, ?_, fun o eo => ?_⟩⟩)
  · rw [hx]; exact vp_in_nI hi (by omega)
  · rw [hx, nI_clamp (by omega), k3 i hi] at eo
    rw [eo]; exact h1 i hi hx e
theorem c_lenO {post : Int32 → Prop} {o : Option Nat} {v : Option Tx} (ho : oT u mm S o v) (hp : post (lenO v)) : w_X9_lengthOrNothing u post o S := by
  rw [w_X9_lengthOrNothing]
  cases v with
  | none =>
    have : o = none := ho
    subst this
    exact ⟨fun _ => hp, fun a z => absurd z (by simp)⟩
  | some t =>
    obtain ⟨a, rfl, h1, h2⟩ := ho
    exact ⟨fun z => absurd z (by simp), fun a2 z => by obtain rfl := Option.some.inj z; exact ⟨h1.get.1, st_len h1 hp⟩⟩
theorem c_putInto {post : Int32 → hS → Prop} {i a : Nat} {t : Tx} (h : cR u d mm ad lv s S) (hi : i < 6) (ht : tS u mm S a t) (hl : t.length ≤ 300) (hp : ∀ S', cR u d mm ad lv (sSl s i (some t)) S' → post (nI t.length) S') : w_X9_putInto u post (some (ad (10 + i))) (some a) S := by
  obtain ⟨o, k, ho⟩ := h.sl hi
  rw [w_X9_putInto]
  refine ⟨_, rfl, _, k, by simp, fun S5 e5 => ?_⟩
  have hk : kp mm mm S S5 := by rw [e5]; exact kp.up (h.2.1.2.1 _ (h.2.2.2.1 i hi).1)
  have h5 := ht.kept hk
  exact ⟨a, rfl, h5.get.1, st_len h5 (hp S5 (h.slot hi ⟨a, rfl, ht, hl⟩ e5))⟩
theorem c_erase {post : Int32 → hS → Prop} (x : Int32) (hR : cRep u d s S) (hp : ∀ S', cRep u d (op_erase x s).2 S' → post (op_erase x s).1 S') : w_X9_erase u post d x S := by
  obtain ⟨mm, ad, lv, h⟩ := id hR
  rw [w_X9_erase]
  refine ⟨h.fs, c_slotAt x h (fun e => ⟨fun _ => ?_, fun a z => absurd z (by simp)⟩) (fun i hi hx e => ⟨fun z => absurd z (by simp), fun a7 ea => ?_⟩)⟩
  · simp only [op_erase, e] at hp; exact hp S hR
  · obtain rfl := Option.some.inj ea
    simp only [op_erase, e] at hp
    obtain ⟨o, k, ho⟩ := h.sl hi
    exact ⟨o, k.r rfl, c_lenO ho ⟨_, k, by simp, fun S17 e17 => hp S17 ⟨mm, ad, lv, h.slot hi ⟨_, rfl, st_const (i := 0) (by omega), by simp⟩ e17⟩⟩⟩
theorem c_forget {post : Int32 → hS → Prop} (x : Int32) (hR : cRep u d s S) (hp : ∀ S', cRep u d (op_forget x s).2 S' → post (op_forget x s).1 S') : w_X9_forget u post d x S := by
  obtain ⟨mm, ad, lv, h⟩ := id hR
  rw [w_X9_forget]
  refine ⟨h.fs, c_slotAt x h (fun e => ⟨fun _ => ?_, fun a z => absurd z (by simp)⟩) (fun i hi hx e => ⟨fun z => absurd z (by simp), fun a7 ea => ?_⟩)⟩
  · simp only [op_forget, e] at hp; exact hp S hR
  · obtain rfl := Option.some.inj ea
    simp only [op_forget, e] at hp
    obtain ⟨o, k, ho⟩ := h.sl hi
    exact ⟨o, k.r rfl, c_lenO ho ⟨_, k, by simp, fun S17 e17 => hp S17 ⟨mm, ad, lv, h.slot hi (o := none) (v := none) rfl e17⟩⟩⟩
theorem c_length {post : Int32 → Prop} (x : Int32) (hR : cRep u d s S) (hp : post (op_length x s).1) : w_X9_length u post d x S := by
  obtain ⟨mm, ad, lv, h⟩ := id hR
  rw [w_X9_length]
  refine ⟨h.fs, c_slotAt x h (fun e => ⟨fun _ => ?_, fun a z => absurd z (by simp)⟩) (fun i hi hx e => ⟨fun z => absurd z (by simp), fun a7 ea => ?_⟩)⟩
  · simp only [op_length, e] at hp; exact hp
  · obtain rfl := Option.some.inj ea
    simp only [op_length, e] at hp
    obtain ⟨o, k, ho⟩ := h.sl hi
    exact ⟨o, k.r rfl, c_lenO ho hp⟩
theorem c_characterAt {post : Int32 → Prop} (x y : Int32) (hR : cRep u d s S) (hp : post (op_characterAt x y s).1) : w_X9_characterAt u post d x y S := by
  obtain ⟨mm, ad, lv, h⟩ := id hR
  rw [w_X9_characterAt]
  refine ⟨h.fs, c_slotAt x h (fun e => ⟨fun _ => ?_, fun a z => absurd z (by simp)⟩) (fun i hi hx e => ⟨fun z => absurd z (by simp), fun a7 ea => ?_⟩)⟩
  · simp only [op_characterAt, e] at hp; exact hp
  · obtain rfl := Option.some.inj ea
    simp only [op_characterAt, e] at hp
    obtain ⟨o, k, ho⟩ := h.sl hi
    refine ⟨o, k.r rfl, ?_⟩
    cases ht : aSl s i with
    | none =>
      simp only [ht] at hp
      rw [ht] at ho
      have : o = none := ho
      subst this
      exact ⟨fun _ => hp, fun a z => absurd z (by simp)⟩
    | some t =>
      simp only [ht] at hp
      rw [ht] at ho
      obtain ⟨a, rfl, h1, h2⟩ := ho
      refine ⟨fun z => absurd z (by simp), fun a11 ea => ?_⟩
      obtain rfl := Option.some.inj ea
      rcases ixO_cases y (n := t.length) (by omega) with ⟨ey, hy⟩ | ⟨j, hj, rfl, ey⟩
      · simp only [ey] at hp
        rcases hy with hy | hy
        · exact ⟨fun _ => hp, fun z => absurd hy z⟩
        · exact ⟨fun _ => hp, fun _ => ⟨h1.get.1, st_len h1 ⟨fun z => absurd hy (Int32.not_le.mpr z), fun _ => hp⟩⟩⟩
      · simp only [ey] at hp
        exact ⟨fun z => absurd z (nI_pos (by omega)), fun _ => ⟨h1.get.1, st_len h1 ⟨fun _ => ⟨h1.get.1, st_charAt h1 hj hp⟩, fun z => absurd (nI_lt hj (by omega)) z⟩⟩⟩
theorem c_copy {post : Int32 → hS → Prop} (x y : Int32) (hR : cRep u d s S) (hp : ∀ S', cRep u d (op_copy x y s).2 S' → post (op_copy x y s).1 S') : w_X9_copy u post d x y S := by
  obtain ⟨mm, ad, lv, h⟩ := id hR
  rw [w_X9_copy]
  refine ⟨h.fs, c_slotAt x h (fun e => ?_) (fun i hi hx e => ?_)⟩
  · simp only [op_copy, e] at hp
    exact ⟨h.fs, c_slotAt y h (fun ey => ⟨fun _ => hp S hR, fun a z => absurd z (by simp)⟩) (fun j hj hy ey => ⟨fun _ => hp S hR, fun a z => absurd z (by simp)⟩)⟩
  · refine ⟨h.fs, c_slotAt y h (fun ey => ⟨fun z => absurd z (by simp), fun a12 ea => ⟨fun _ => ?_, fun a z => absurd z (by simp)⟩⟩) (fun j hj hy ey => ⟨fun z => absurd z (by simp), fun a12 ea => ⟨fun z => absurd z (by simp), fun a14 ea2 => ?_⟩⟩)⟩
    · simp only [op_copy, e, ey] at hp; exact hp S hR
    · obtain rfl := Option.some.inj ea
      obtain rfl := Option.some.inj ea2
      simp only [op_copy, e, ey] at hp
      obtain ⟨o, k, ho⟩ := h.sl hi
      obtain ⟨o2, k2, ho2⟩ := h.sl hj
      refine ⟨o, k.r rfl, _, k2, by simp, fun S20 e20 => ?_⟩
      have h20 := h.slot hj ho e20
      have hk : kp mm mm S S20 := by rw [e20]; exact kp.up (h.2.1.2.1 _ (h.2.2.2.1 j hj).1)
      exact ⟨o, ⟨hk.1 _ k2.1, [va_rf o], by rw [e20]; exact va_upS_self, rfl⟩, c_lenO (ho.kept hk) (hp S20 ⟨mm, ad, lv, h20⟩)⟩
theorem c_same {post : Int32 → Prop} (x y : Int32) (hR : cRep u d s S) (hp : post (op_same x y s).1) : w_X9_same u post d x y S := by
  obtain ⟨mm, ad, lv, h⟩ := id hR
  rw [w_X9_same]
  refine ⟨h.fs, c_slotAt x h (fun e => ?_) (fun i hi hx e => ?_)⟩
  · simp only [op_same, e] at hp
    exact ⟨h.fs, c_slotAt y h (fun ey => ⟨fun _ => hp, fun a z => absurd z (by simp)⟩) (fun j hj hy ey => ⟨fun _ => hp, fun a z => absurd z (by simp)⟩)⟩
  · refine ⟨h.fs, c_slotAt y h (fun ey => ⟨fun z => absurd z (by simp), fun a12 ea => ⟨fun _ => ?_, fun a z => absurd z (by simp)⟩⟩) (fun j hj hy ey => ⟨fun z => absurd z (by simp), fun a12 ea => ⟨fun z => absurd z (by simp), fun a14 ea2 => ?_⟩⟩)⟩
    · simp only [op_same, e, ey] at hp; exact hp
    · obtain rfl := Option.some.inj ea
      obtain rfl := Option.some.inj ea2
      simp only [op_same, e, ey] at hp
      obtain ⟨o, k, ho⟩ := h.sl hi
      obtain ⟨o2, k2, ho2⟩ := h.sl hj
      have k39 : (o = none → o2 = none → post 1) → (∀ a, o2 = some a → o = none → post 0) → (∀ a, o = some a → post 0) → w_X9_same_39 u post d (ad (10 + i)) (ad (10 + j)) S := by
        intro p1 p2 p3
        rw [w_X9_same_39]
        exact ⟨o, k.r rfl, fun z => ⟨o2, k2.r rfl, fun z2 => p1 z z2, fun a z2 => p2 a z2 z⟩, fun a z => p3 a z⟩
      refine ⟨o, k.r rfl, ?_⟩
      cases hti : aSl s i with
      | none =>
        rw [hti] at ho hp
        have : o = none := ho
        subst this
        refine ⟨fun _ => k39 (fun _ z => ?_) (fun a z _ => ?_) (fun a z => absurd z (by simp)), fun a z => absurd z (by simp)⟩
        · cases htj : aSl s j with
          | none => rw [htj, if_pos rfl] at hp; exact hp
          | some v => rw [htj] at ho2; obtain ⟨a, q, -⟩ := ho2; rw [z] at q; exact absurd q (by simp)
        · cases htj : aSl s j with
          | none => rw [htj] at ho2; rw [show o2 = none from ho2] at z; exact absurd z (by simp)
          | some v => rw [htj, if_neg (by simp)] at hp; exact hp
      | some t =>
        rw [hti] at ho hp
        obtain ⟨a, rfl, h1, h2⟩ := ho
        refine ⟨fun z => absurd z (by simp), fun a18 _ => ⟨o2, k2.r rfl, ?_⟩⟩
        cases htj : aSl s j with
        | none =>
          rw [htj, if_neg (by simp)] at hp
          rw [htj] at ho2
          rw [show o2 = none from ho2] at k39 ⊢
          exact ⟨fun _ => k39 (fun z => absurd z (by simp)) (fun a z => absurd z (by simp)) (fun _ _ => hp), fun a z => absurd z (by simp)⟩
        | some v =>
          rw [htj] at hp ho2
          obtain ⟨b, rfl, h3, h4⟩ := ho2
          refine ⟨fun z => absurd z (by simp), fun a22 _ => ⟨some a, k.r rfl, some b, k2.r rfl, a, rfl, h1.get.1, st_equals h.1.1 h1 h3 (fun q => ⟨fun z => absurd z (by decide), fun _ => ?_⟩) (fun q => ⟨fun _ => ?_, fun z => absurd rfl z⟩)⟩⟩
          · rw [if_pos (by rw [q])] at hp; exact hp
          · rw [if_neg (fun z => q (Option.some.inj z))] at hp; exact hp
end CREP
