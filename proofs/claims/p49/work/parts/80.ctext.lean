/-! THE CLASS'S TEXTS: bytes, Strings -/
theorem sb_get (c : Nat) (h : c < 256) : ((((sb_b c) &&& 255) : Int32).toUInt32 % 65536).toInt32 = nI c := by
  have : ∀ c : Fin 256, ((((sb_b c.1) &&& 255) : Int32).toUInt32 % 65536).toInt32 = nI c.1 := by decide +kernel
  exact this ⟨c, h⟩
theorem sb_put (c : Nat) (h : c < 256) : vp_nar .byte (nI c).toInt8.toInt32 = sb_b c := by
  have : ∀ c : Fin 256, vp_nar .byte (nI c.1).toInt8.toInt32 = sb_b c.1 := by decide +kernel
  exact this ⟨c, h⟩
theorem sb_i8 (c : Nat) : (nI c).toInt8.toInt32 = sb_b c := rfl
theorem sb_fit (c : Nat) (h : c < 256) : fits .byte (.int (sb_b c)) = true := by
  have : ∀ c : Fin 256, fits .byte (.int (sb_b c.1)) = true := by decide +kernel
  exact this ⟨c, h⟩
theorem ch_nar (c : Nat) (h : c < 256) : narrow .char (.int (nI c)) = .int (nI c) := by
  have : ∀ c : Fin 256, narrow .char (.int (nI c.1)) = .int (nI c.1) := by decide +kernel
  exact this ⟨c, h⟩
theorem sb_inj {c d : Nat} (hc : c < 256) (hd : d < 256) (h : sb_b c = sb_b d) : c = d := by
  have h1 := sb_get c hc
  rw [h, sb_get d hd] at h1
  exact ((nI_eq (by omega) (by omega)).mp h1).symm
theorem shr0 {n : Nat} (h : n < 2 ^ 31) : nI n >>> ((0 : Int32) &&& 31) = nI n := by
  rw [show ((0 : Int32) &&& 31) = 0 by decide, pk_shrN h 0 0 (by decide)]
  simp
theorem shl0 (x : Int32) : x <<< ((0 : Int32) &&& 31) = x := by
  rw [show ((0 : Int32) &&& 31) = 0 by decide]
  simp
def bytesOf (g : Nat → Int32) (t : Tx) : Prop := ∀ j, j < t.length → g j = sb_b (t.getD j 0)
/-- a String of the class: a text constant, or an object of the pool that nothing changes -/
def tS (u : hU) (mm : List Nat) (S : hS) (a : Nat) (t : Tx) : Prop := (t.length ≤ 65536 ∧ ∀ c ∈ t, c < 256) ∧
  ((∃ i, i < 3 ∧ a = (u.1 i).1 ∧ t = kT i) ∨ ((∀ i, i < 3 → a ≠ (u.1 i).1) ∧ a ∈ S.1 ∧ a ∉ mm ∧ ∃ (b : Nat) (fs : List Value) (g : Nat → Int32), S.2 a = .inr (0, fs) ∧ fs[0]? = some (va_rf (some b)) ∧ fs[1]? = some (.int 0) ∧ b ∈ S.1 ∧ b ∉ mm ∧ S.2 b = .inl (u.2.1 2, t.length, .inl g) ∧ bytesOf g t))
theorem tS.lt {u : hU} {mm : List Nat} {S : hS} {a : Nat} {t : Tx} (h : tS u mm S a t) {j : Nat} (hj : j < t.length) : t.getD j 0 < 256 := getD_lt256 h.1.2 hj
theorem tS.get {u : hU} {mm : List Nat} {S : hS} {a : Nat} {t : Tx} (h : tS u mm S a t) : rS u.1 S a ∧ rSC u.1 S a 0 ∧ ∃ b g, rSV u.1 S a b ∧ rB u.1 (u.2.1 2) S b t.length g ∧ bytesOf g t := by
  obtain ⟨h1, ⟨i, hi, ha, ht⟩ | ⟨hc, ha, hm, b, fs, g, e1, e2, e3, hb, hbm, e4, e5⟩⟩ := h
  · subst ht
    exact ⟨Or.inr ⟨i, hi, ha⟩, Or.inr ⟨i, hi, ha, rfl⟩, (u.1 i).2, _, Or.inr ⟨i, hi, ha, rfl⟩, Or.inr ⟨i, hi, rfl, rfl, rfl⟩, fun j _ => rfl⟩
  · exact ⟨Or.inl ⟨fs, ha, e1⟩, Or.inl ⟨ha, fs, e1, e3⟩, b, g, Or.inl ⟨ha, fs, e1, e2⟩, Or.inl ⟨hb, e4⟩, e5⟩
/-- what a step keeps: nothing is lost, and what cannot be changed stays -/
def kp (mm mm' : List Nat) (S S' : hS) : Prop := (∀ a, a ∈ S.1 → a ∈ S'.1) ∧ ∀ a, a ∈ S.1 → a ∉ mm → a ∉ mm' ∧ S'.2 a = S.2 a
theorem kp.rf {mm : List Nat} {S : hS} : kp mm mm S S := ⟨fun _ h => h, fun _ _ h => ⟨h, rfl⟩⟩
theorem kp.tr {mm m1 m2 : List Nat} {S S1 S2 : hS} (h : kp mm m1 S S1) (h2 : kp m1 m2 S1 S2) : kp mm m2 S S2 := by
  refine ⟨fun a ha => h2.1 a (h.1 a ha), fun a ha hm => ?_⟩
  obtain ⟨p, q⟩ := h.2 a ha hm
  obtain ⟨p2, q2⟩ := h2.2 a (h.1 a ha) p
  exact ⟨p2, q2.trans q⟩
theorem kp.up {mm : List Nat} {S : hS} {a : Nat} {e : va_E} (h : a ∈ mm) : kp mm mm S (upS S a e) := by
  refine ⟨fun _ h => h, fun b hb hm => ⟨hm, ?_⟩⟩
  exact va_up_ne _ _ (fun z => hm (z ▸ h))
theorem kp.ad {mm : List Nat} {S : hS} {q : Nat} {e : va_E} (h : q ∉ S.1) : kp mm mm S (adS S q e) := by
  refine ⟨fun a ha => List.mem_append_left _ ha, fun b hb hm => ⟨hm, ?_⟩⟩
  exact va_up_ne _ _ (fun z => h (z ▸ hb))
theorem kp.more {mm : List Nat} {S : hS} {q : Nat} (h : q ∉ S.1) : kp mm (q :: mm) S S :=
  ⟨fun _ h => h, fun a ha hm => ⟨fun z => by
    rcases List.mem_cons.mp z with z | z
    · exact h (z ▸ ha)
    · exact hm z, rfl⟩⟩
theorem kp.adm {mm : List Nat} {S : hS} {q : Nat} {e : va_E} (h : q ∉ S.1) : kp mm (q :: mm) S (adS S q e) := by
  refine ⟨fun a ha => List.mem_append_left _ ha, fun b hb hm => ⟨fun z => ?_, ?_⟩⟩
  · rcases List.mem_cons.mp z with z | z
    · exact h (z ▸ hb)
    · exact hm z
  · exact va_up_ne _ _ (fun z => h (z ▸ hb))
theorem tS.kept {u : hU} {mm mm' : List Nat} {S S' : hS} {a : Nat} {t : Tx} (h : tS u mm S a t) (hk : kp mm mm' S S') : tS u mm' S' a t := by
  obtain ⟨h1, h2 | ⟨hc, ha, hm, b, fs, g, e1, e2, e3, hb, hbm, e4, e5⟩⟩ := h
  · exact ⟨h1, Or.inl h2⟩
  · obtain ⟨p, q⟩ := hk.2 a ha hm
    obtain ⟨p2, q2⟩ := hk.2 b hb hbm
    exact ⟨h1, Or.inr ⟨hc, hk.1 a ha, p, b, fs, g, by rw [q]; exact e1, e2, e3, hk.1 b hb, p2, by rw [q2]; exact e4, e5⟩⟩
theorem bytes_eq {g : Nat → Int32} {t v : Tx} (h1 : bytesOf g t) (h2 : bytesOf g v) (hl : t.length = v.length) (ht : ∀ c ∈ t, c < 256) (hv : ∀ c ∈ v, c < 256) : t = v := by
  refine List.ext_getElem hl (fun j a b => ?_)
  have e : sb_b (t.getD j 0) = sb_b (v.getD j 0) := (h1 j a).symm.trans (h2 j b)
  have := sb_inj (getD_lt256 ht a) (getD_lt256 hv b) e
  rw [List.getD_eq_getElem?_getD, List.getD_eq_getElem?_getD, List.getElem?_eq_getElem a, List.getElem?_eq_getElem b] at this
  exact this
/-- one address, one text -/
theorem tS.one {u : hU} {mm : List Nat} {S : hS} {a : Nat} {t v : Tx} (hu : ∀ i j, i < 3 → j < 3 → (u.1 i).1 = (u.1 j).1 → i = j) (h : tS u mm S a t) (h2 : tS u mm S a v) : t = v := by
  obtain ⟨h1, ⟨i, hi, ha, ht⟩ | ⟨hc, ha, hm, b, fs, g, e1, e2, e3, hb, hbm, e4, e5⟩⟩ := h
  · obtain ⟨h1', ⟨i', hi', ha', ht'⟩ | ⟨hc', -⟩⟩ := h2
    · have := hu i i' hi hi' (ha.symm.trans ha')
      subst this
      rw [ht, ht']
    · exact absurd ha (hc' i hi)
  · obtain ⟨h1', ⟨i', hi', ha', ht'⟩ | ⟨hc', -, -, b', fs', g', e1', e2', e3', hb', hbm', e4', e5'⟩⟩ := h2
    · exact absurd ha' (hc i' hi')
    · have ef : fs = fs' := by
        have := e1.symm.trans e1'
        injection this with q
        injection q with q1 q2
      subst ef
      have eb : b = b' := by
        have := Option.some.inj (e2.symm.trans e2')
        injection this
      subst eb
      have := e4.symm.trans e4'
      injection this with q
      injection q with q1 q2
      injection q2 with q3 q4
      injection q4 with q5
      subst q5
      exact bytes_eq e5 e5' q3 h1.2 h1'.2
theorem st_len {u : hU} {mm : List Nat} {S : hS} {a : Nat} {t : Tx} {post : Int32 → Prop} (h : tS u mm S a t) (hp : post (nI t.length)) : w_J0_length_8a u post a S := by
  obtain ⟨h1, h2, b, g, h3, h4, h5⟩ := h.get
  have hl := h.1.1
  rw [w_J0_length_8a]
  refine ⟨b, h3, t.length, g, h4, h1, ?_⟩
  rw [w_J0_coder_7d]
  refine ⟨fun z => absurd z (by decide), fun _ => ⟨0, h2, by decide, ?_⟩⟩
  rw [shr0 (by omega)]; exact hp
theorem st_isLatin1 {u : hU} {mm : List Nat} {S : hS} {a : Nat} {t : Tx} {post : Int32 → Prop} (h : tS u mm S a t) (hp : post 1) : w_J0_isLatin1_aa u post a S := by
  obtain ⟨h1, h2, b, g, h3, h4, h5⟩ := h.get
  rw [w_J0_isLatin1_aa]
  exact ⟨fun z => absurd z (by decide), fun _ => ⟨0, h2, fun z => absurd rfl z, fun _ => hp⟩⟩
theorem st_check {u : hU} {S : hS} {post : Prop} {i n : Nat} (hi : i < n) (hn : n < 2 ^ 31) (hp : post) : w_J0_checkIndex_df u post (nI i) (nI n) S := by
  rw [w_J0_checkIndex_df, w_J3_checkIndex_8e]
  exact ⟨fun z => absurd z (nI_pos (by omega)), fun _ => ⟨fun _ => hp, fun z => absurd (nI_lt hi hn) z⟩⟩
theorem st_charAt {u : hU} {mm : List Nat} {S : hS} {a i : Nat} {t : Tx} {post : Int32 → Prop} (h : tS u mm S a t) (hi : i < t.length) (hp : post (nI (t.getD i 0))) : w_J0_charAt_50 u post a (nI i) S := by
  obtain ⟨h1, h2, b, g, h3, h4, h5⟩ := h.get
  have hl := h.1.1
  have hc := h.lt hi
  rw [w_J0_charAt_50]
  refine ⟨h1, st_isLatin1 h ⟨fun z => absurd z (by decide), fun _ => ⟨b, h3, ?_⟩⟩⟩
  rw [w_J1_charAt_3b]
  refine ⟨b, rfl, t.length, g, h4, st_check hi (by omega) ⟨t.length, g, h4, vp_in_nI hi (by omega), ?_⟩⟩
  rw [nI_clamp (n := i) (by omega), h5 i hi, sb_get _ hc]
  exact ⟨ch_nar _ hc, ch_nar _ hc, hp⟩
