/-! StringBuilder: text t, in the first places of its row b of N bytes -/
/-- a step that writes at W alone -/
def fx (W : List Nat) (S S' : hS) : Prop := (∀ a, a ∈ S.1 → a ∈ S'.1) ∧ ∀ a, a ∈ S.1 → a ∉ W → S'.2 a = S.2 a
theorem fx.rf {W : List Nat} {S : hS} : fx W S S := ⟨fun _ h => h, fun _ _ _ => rfl⟩
theorem fx.tr {W : List Nat} {S S1 S2 : hS} (h : fx W S S1) (h2 : fx W S1 S2) : fx W S S2 := ⟨fun a ha => h2.1 a (h.1 a ha), fun a ha hw => (h2.2 a (h.1 a ha) hw).trans (h.2 a ha hw)⟩
theorem fx.wide {W V : List Nat} {S S1 : hS} (h : fx W S S1) (hs : ∀ a, a ∈ W → a ∈ V ∨ a ∉ S.1) : fx V S S1 := ⟨h.1, fun a ha hv => h.2 a ha (fun z => by
  rcases hs a z with q | q
  · exact hv q
  · exact q ha)⟩
theorem fx.up {W : List Nat} {S : hS} {a : Nat} {e : va_E} (h : a ∈ W) : fx W S (upS S a e) :=
  ⟨fun _ h => h, fun b hb hw => by
    have hne : b ≠ a := fun z => hw (by rw [z]; exact h)
    show va_up S.2 a e b = _
    exact va_up_ne _ _ hne⟩
theorem fx.ad {W : List Nat} {S : hS} {q : Nat} {e : va_E} (h : q ∉ S.1) : fx W S (adS S q e) :=
  ⟨fun a ha => List.mem_append_left _ ha, fun b hb _ => by
    have hne : b ≠ q := fun z => h (by rw [← z]; exact hb)
    show va_up S.2 q e b = _
    exact va_up_ne _ _ hne⟩
theorem fx.kp {W mm mm' : List Nat} {S S' : hS} (h : fx W S S') (hw : ∀ a, a ∈ W → a ∈ mm ∨ a ∉ S.1) (hm : ∀ a, a ∈ S.1 → a ∉ mm → a ∉ mm') : kp mm mm' S S' :=
  ⟨h.1, fun a ha hn => ⟨hm a ha hn, h.2 a ha (fun z => by
    rcases hw a z with q | q
    · exact hn q
    · exact q ha)⟩⟩
def bS (u : hU) (S : hS) (a b : Nat) (t : Tx) (N : Nat) : Prop := (t.length ≤ N ∧ N ≤ 65536 ∧ ∀ c ∈ t, c < 256) ∧ a ∈ S.1 ∧ b ∈ S.1 ∧ b ≠ a ∧ ∃ (x : Int32) (g : Nat → Int32), S.2 a = .inr (1, [va_rf (some b), .int 0, .int x, .int (nI t.length)]) ∧ S.2 b = .inl (u.2.1 2, N, .inl g) ∧ bytesOf g t ∧ ∀ j, j < N → ∃ c, c < 256 ∧ g j = sb_b c
theorem bS.keep {u : hU} {S S' : hS} {a b N : Nat} {t : Tx} (h : bS u S a b t N) (hs : ∀ x, x ∈ S.1 → x ∈ S'.1) (ha : S'.2 a = S.2 a) (hb : S'.2 b = S.2 b) : bS u S' a b t N := by
  obtain ⟨h0, h1, h2, h3, x, g, e1, e2, e3⟩ := h
  exact ⟨h0, hs a h1, hs b h2, h3, x, g, by rw [ha]; exact e1, by rw [hb]; exact e2, e3⟩
theorem bS.fs {u : hU} {S : hS} {a b N : Nat} {t : Tx} (h : bS u S a b t N) : ∃ fs, rO S a 1 fs := by
  obtain ⟨h0, h1, h2, h3, x, g, e1, -⟩ := h
  exact ⟨_, h1, e1⟩
theorem sb_len {u : hU} {S : hS} {a b N : Nat} {t : Tx} {post : Int32 → Prop} (h : bS u S a b t N) (hp : post (nI t.length)) : w_J4_length_8a u post a S := by
  obtain ⟨h0, h1, h2, h3, x, g, e1, -⟩ := h
  rw [w_J4_length_8a, w_J5_length_8a]
  exact ⟨⟨_, h1, e1⟩, _, ⟨h1, _, e1, rfl⟩, hp⟩
theorem sb_isLatin1 {u : hU} {S : hS} {a b N : Nat} {t : Tx} {post : Int32 → Prop} (h : bS u S a b t N) (hp : post 1) : w_J5_isLatin1_aa u post a S := by
  obtain ⟨h0, h1, h2, h3, x, g, e1, -⟩ := h
  rw [w_J5_isLatin1_aa]
  exact ⟨fun z => absurd z (by decide), fun _ => ⟨0, ⟨h1, _, e1, rfl⟩, fun z => absurd rfl z, fun _ => hp⟩⟩
theorem sb_charAt {u : hU} {S : hS} {a b N i : Nat} {t : Tx} {post : Int32 → Prop} (h : bS u S a b t N) (hi : i < t.length) (hp : post (nI (t.getD i 0))) : w_J4_charAt_50 u post a (nI i) S := by
  obtain ⟨h0, h1, h2, h3, x, g, e1, e5, e6, e7⟩ := h
  have hc := getD_lt256 h0.2.2 hi
  have hB : rB u.1 (u.2.1 2) S b N g := Or.inl ⟨h2, e5⟩
  rw [w_J4_charAt_50, w_J5_charAt_50]
  refine ⟨⟨_, h1, e1⟩, 0, ⟨h1, _, e1, rfl⟩, some b, ⟨h1, _, e1, rfl⟩, nI t.length, ⟨h1, _, e1, rfl⟩, b, rfl, N, g, hB, fun v11 e11 => ?_⟩
  have ev : v11 = nI t.length := by
    rw [e11, shr0 (by omega)]
    by_cases q : N < t.length
    · omega
    · rw [if_neg (nI_nlt (by omega) (by omega))]
  rw [ev]
  refine st_check hi (by omega) ⟨fun z => absurd rfl z, fun _ => ⟨N, g, hB, vp_in_nI (by omega) (by omega), ?_⟩⟩
  rw [nI_clamp (n := i) (by omega), e6 i hi, sb_get _ hc]
  exact ⟨ch_nar _ hc, ch_nar _ hc, hp⟩
theorem sb_newCap {u : hU} {S : hS} {a b N m : Nat} {t : Tx} {post : Int32 → Prop} (h : bS u S a b t N) (hm : N < m) (hm2 : m ≤ 65536) (hp : post (nI (if m < 2 * N + 2 then 2 * N + 2 else m))) : w_J5_newCapacity_0f u post a (nI m) S := by
  obtain ⟨h0, h1, h2, h3, x, g, e1, e5, e6, e7⟩ := h
  have hc0 : rI S a 1 1 0 := ⟨h1, _, e1, rfl⟩
  rw [w_J5_newCapacity_0f]
  refine ⟨some b, ⟨h1, _, e1, rfl⟩, b, rfl, N, g, Or.inl ⟨h2, e5⟩, fun v7 h7 => ⟨0, hc0, fun v10 h10 v11 h11 => ⟨0, hc0, ?_⟩⟩⟩
  rw [shl0] at h10
  rw [h10, h7, pk_sub (by omega)] at h11
  have e2' : v7 + ((2 : Int32) <<< ((0 : Int32) &&& 31)) = nI (N + 2) := by
    rw [shl0, h7]; exact nI_add N 2
  rw [e2', h11, q_J8_newLength_ca]
  intro v1 hv1
  have hv : v1 = nI (if m < 2 * N + 2 then 2 * N + 2 else m) := by
    rw [hv1, h7]
    by_cases q : m - N < N + 2
    · rw [if_pos (nI_lt q (by omega)), if_pos (by omega), nI_add]; congr 1; omega
    · rw [if_neg (nI_nlt (by omega) (by omega)), if_neg (by omega), nI_add]; congr 1; omega
  have hb : (if m < 2 * N + 2 then 2 * N + 2 else m) ≤ 200000 ∧ 0 < (if m < 2 * N + 2 then 2 * N + 2 else m) := by split <;> omega
  rw [hv]
  refine ⟨fun z => absurd z (nI_nle hb.2 (by omega)), fun _ => ⟨fun z => absurd (nI_ltI (a := 2147483639) (by decide) (by omega) |>.mp z) (by omega), fun _ => ⟨fun _ => ⟨0, hc0, ?_⟩, fun z => ?_⟩⟩⟩
  · rw [shr0 (by omega)]; exact hp
  · have := (nI_eq (b := 2147483647) (by omega) (by decide)).mp z
    omega
theorem s_copyOf {u : hU} {S : hS} {b N N' mc ms : Nat} {g : Nat → Int32} {post : Option Nat → hS → Prop} (hb : rB u.1 (u.2.1 2) S b N g) (hlt : N < N') (hN : N' ≤ 65536) (hfit : ∀ k, k < N → fits .byte (.int (g k)) = true) (hmc : 1 ≤ mc) (hms : N' ≤ ms)
    (hp : ∀ q g', fr u.1 S q → (∀ k, k < N → g' k = g k) → (∀ k, N ≤ k → g' k = 0) → post (some q) (adS S q (.inl (u.2.1 2, N', .inl g')))) : w_J7_copyOf_90 u post (some b) (nI N') S mc ms := by
  rw [w_J7_copyOf_90]
  refine ⟨b, rfl, N, g, hb, fun _ => ⟨N', rfl, hN, hmc, hms, fun q S8 hq e8 => ⟨N, g, by rw [e8]; exact hb.ad hq.1, N, g, N', fun _ => 0, by rw [e8]; exact hb.ad hq.1, by rw [e8]; exact rA.new, ?_, fun S25 e25 => ?_⟩⟩, fun z => ?_⟩
  · rw [if_neg (nI_nlt (by omega) (by omega)), nI_clamp (n := N) (by omega), show (0 : Int32).toNatClampNeg = 0 by decide]
    exact ⟨by decide, by decide, nI_pos (by omega), by omega, by omega, fun k hk => by rw [Nat.zero_add]; exact hfit k hk⟩
  · rw [if_neg (nI_nlt (by omega) (by omega)), nI_clamp (n := N) (by omega), show (0 : Int32).toNatClampNeg = 0 by decide, e8, adS_up] at e25
    rw [e25]
    refine hp q _ hq (fun k hk => ?_) (fun k hk => ?_)
    · rw [pk_cpy_in (by omega) (by omega)]
      congr 1; omega
    · rw [pk_cpy_out (by omega)]
  · have := (nI_eq (by omega) (by omega)).mp z
    omega
theorem sb_ensure {u : hU} {S : hS} {a b N m mc ms : Nat} {t : Tx} {post : hS → Prop} (h : bS u S a b t N) (hm2 : m ≤ 65536) (hcap : 2 * N + 2 ≤ 65536) (hroom : N < m → 1 ≤ mc ∧ (if m < 2 * N + 2 then 2 * N + 2 else m) ≤ ms) (hp0 : m ≤ N → post S)
    (hp1 : N < m → ∀ q S', fr u.1 S q → fx [a] S S' → bS u S' a q t (if m < 2 * N + 2 then 2 * N + 2 else m) → post S') : w_J5_ensureCapacityInternal_d0 u post a (nI m) S mc ms := by
  obtain ⟨h0, h1, h2, h3, x, g, e1, e5, e6, e7⟩ := id h
  have hc0 : rI S a 1 1 0 := ⟨h1, _, e1, rfl⟩
  have hB : rB u.1 (u.2.1 2) S b N g := Or.inl ⟨h2, e5⟩
  rw [w_J5_ensureCapacityInternal_d0]
  refine ⟨some b, ⟨h1, _, e1, rfl⟩, b, rfl, N, g, hB, 0, hc0, fun v9 h9 => ?_⟩
  rw [shr0 (by omega)] at h9
  have hi : (nI m - v9).toInt = (m : Int) - N := by rw [h9]; exact toInt_sub (by omega) (by omega)
  have z0 : (0 : Int32).toInt = 0 := by decide
  refine ⟨fun z => hp0 ?_, fun z => ⟨some b, ⟨h1, _, e1, rfl⟩, ⟨_, h1, e1⟩, ?_⟩⟩
  · have := Int32.le_iff_toInt_le.mp z
    omega
  · have hlt : N < m := by
      rcases Nat.lt_or_ge N m with q | q
      · exact q
      · exact absurd (Int32.le_iff_toInt_le.mpr (by omega)) z
    have hr := hroom hlt
    have hb' : N < (if m < 2 * N + 2 then 2 * N + 2 else m) ∧ (if m < 2 * N + 2 then 2 * N + 2 else m) ≤ 65536 := by split <;> omega
    refine sb_newCap h hlt hm2 ⟨0, hc0, mc, ms, Nat.le_refl _, Nat.le_refl _, ?_⟩
    rw [shl0]
    refine s_copyOf hB hb'.1 hb'.2 (fun k hk => ?_) hr.1 hr.2 (fun q g' hq hg1 hg2 => ?_)
    · obtain ⟨c, hc, e⟩ := e7 k hk
      rw [e]; exact sb_fit c hc
    have hne : a ≠ q := fun z => hq.1 (by rw [← z]; exact h1)
    have o1 : (adS S q (.inl (u.2.1 2, (if m < 2 * N + 2 then 2 * N + 2 else m), .inl g'))).2 a = .inr (1, [va_rf (some b), .int 0, .int x, .int (nI t.length)]) := by
      show va_up S.2 q _ a = _
      rw [va_up_ne _ _ hne]; exact e1
    refine ⟨_, ⟨List.mem_append_left _ h1, o1⟩, by simp, fun S30 e30 => ?_⟩
    have q30 : q ∈ S30.1 := by rw [e30]; exact List.mem_append_right _ (List.mem_singleton.mpr rfl)
    refine hp1 hlt q S30 hq ?_ ⟨⟨by omega, hb'.2, h0.2.2⟩, by rw [e30]; exact List.mem_append_left _ h1, q30, fun z => hne z.symm, x, g', ?_, ?_, fun j hj => ?_, fun j hj => ?_⟩
    · rw [e30]; exact (fx.ad hq.1).tr (fx.up (by simp))
    · rw [e30]; exact va_up_self _ _ _
    · rw [e30]
      show va_up _ a _ q = _
      rw [va_up_ne _ _ (fun z => hne z.symm)]
      exact va_up_self _ _ _
    · rw [hg1 j (by omega)]; exact e6 j hj
    · by_cases q2 : j < N
      · rw [hg1 j q2]; exact e7 j q2
      · rw [hg2 j (by omega)]; exact ⟨0, by omega, by decide⟩
