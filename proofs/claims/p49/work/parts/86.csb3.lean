theorem st_coder {u : hU} {mm : List Nat} {S : hS} {a : Nat} {t : Tx} {post : Int32 → Prop} (h : tS u mm S a t) (hp : post 0) : w_J0_coder_7d u post a S := by
  obtain ⟨h1, h2, b, g, h3, h4, h5⟩ := h.get
  rw [w_J0_coder_7d]
  exact ⟨fun z => absurd z (by decide), fun _ => ⟨0, h2, by decide, hp⟩⟩
theorem app_getD {t v : Tx} {j : Nat} : (t ++ v).getD j 0 = if j < t.length then t.getD j 0 else v.getD (j - t.length) 0 := by
  rw [List.getD_eq_getElem?_getD, List.getElem?_append]
  split
  · rw [List.getD_eq_getElem?_getD]
  · rw [List.getD_eq_getElem?_getD]
/-- the row after an append of n signs -/
def gN2 (N m : Nat) : Nat := if N < m then (if m < 2 * N + 2 then 2 * N + 2 else m) else N
theorem gN2_ok {N m : Nat} (h16 : 16 ≤ N) (h2 : N ≤ 602) (hm : m ≤ 300) : 16 ≤ gN2 N m ∧ gN2 N m ≤ 602 ∧ m ≤ gN2 N m := by
  unfold gN2
  split
  · split <;> omega
  · omega
/-- append(String) -/
theorem sb_appendS {u : hU} {mm : List Nat} {S : hS} {a b N d mc ms : Nat} {t v : Tx} {post : Option Nat → hS → Prop} (h : bS u S a b t N) (hv : tS u mm S d v) (ha : a ∈ mm) (h16 : 16 ≤ N) (h602 : N ≤ 602) (hL : t.length + v.length ≤ 300) (hmc : 1 ≤ mc) (hms : 602 ≤ ms)
    (hp : ∀ S' b', gS u S a b S' b' → bS u S' a b' (t ++ v) (gN2 N (t.length + v.length)) → post (some a) S') : w_J4_append_15 u post a (some d) S mc ms := by
  obtain ⟨h0, h1, h2, h3, x, g, e1, -⟩ := id h
  have hN := gN2_ok h16 h602 hL
  have fin : ∀ b1 S1, gS u S a b S1 b1 → tS u mm S1 d v → bS u S1 a b1 t (gN2 N (t.length + v.length)) → (∃ v18 : Int32, rI S1 a 1 3 v18 ∧ ((∃ fs, rO S1 a 1 fs) ∧ (w_J5_putStringAt_47 u (fun S22 => (∃ v24 : Int32, rI S22 a 1 3 v24 ∧ (∃ fs26 : List Value, rO S22 a 1 fs26 ∧ 3 < fs26.length ∧ (∀ S29 : hS, S29 = upS S22 a (.inr (1, fs26.set 3 (.int (v24 + nI v.length)))) → post (some a) S29)))) a v18 (some d) S1))) := by
    intro b1 S1 hg hv1 hb1
    obtain ⟨z0, z1, z2, z3, x1, g1, y1, y2, y3, y4⟩ := id hb1
    obtain ⟨d1, d2, bd, gd, d3, d4, d5⟩ := hv1.get
    have hvl := hv1.1
    refine ⟨nI t.length, ⟨z1, _, y1, rfl⟩, ⟨_, z1, y1⟩, ?_⟩
    rw [w_J5_putStringAt_47]
    refine ⟨⟨_, z1, y1⟩, ?_⟩
    rw [w_J5_inflateIfNeededFor_a7]
    refine ⟨fun z => absurd z (by decide), fun _ => ⟨0, ⟨z1, _, y1, rfl⟩, d, rfl, d1, st_coder hv1 ⟨fun _ => ⟨some b1, ⟨z1, _, y1, rfl⟩, 0, ⟨z1, _, y1, rfl⟩, d, rfl, d1, ?_⟩, fun z => z rfl⟩⟩⟩
    rw [w_J0_getBytes_84]
    refine ⟨d1, st_coder hv1 ⟨fun z => absurd rfl z, fun _ => ⟨bd, d3, bd, d3, v.length, gd, d4, b1, rfl, v.length, gd, _, g1, d4, ⟨z2, y2⟩, ?_, fun S29 e29 => ?_⟩⟩⟩
    · rw [shl0, nI_clamp (n := t.length) (by omega), nI_clamp (n := v.length) (by omega), show (0 : Int32).toNatClampNeg = 0 by decide]
      refine ⟨by decide, nI_pos (by omega), nI_pos (by omega), by omega, hN.2.2, fun i hi => ?_⟩
      rw [Nat.zero_add, d5 i hi]
      exact sb_fit _ (hv1.lt hi)
    · rw [shl0, nI_clamp (n := t.length) (by omega), nI_clamp (n := v.length) (by omega), show (0 : Int32).toNatClampNeg = 0 by decide] at e29
      have o29 : S29.2 a = .inr (1, [va_rf (some b1), .int 0, .int x1, .int (nI t.length)]) := by
        rw [e29]
        show va_up S1.2 b1 _ a = _
        rw [va_up_ne _ _ (fun z => z3 z.symm)]; exact y1
      have m29 : ∀ y, y ∈ S1.1 → y ∈ S29.1 := fun y hy => by rw [e29]; exact hy
      refine ⟨nI t.length, ⟨m29 a z1, _, o29, rfl⟩, _, ⟨m29 a z1, o29⟩, by simp, fun S30 e30 => ?_⟩
      have f29 : fx [a, b1] S1 S29 := by rw [e29]; exact fx.up (by simp)
      have f30 : fx [a, b1] S1 S30 := by rw [e30]; exact f29.tr (fx.up (by simp))
      refine hp S30 b1 (hg.tr ⟨f30, Or.inl rfl⟩) ⟨⟨by rw [List.length_append]; exact hN.2.2, by omega, fun y hy => ?_⟩, f30.1 a z1, f30.1 b1 z2, z3, x1, va_cpy gd g1 0 t.length v.length, ?_, ?_, fun j hj => ?_, fun j hj => ?_⟩
      · rcases List.mem_append.mp hy with q | q
        · exact h0.2.2 y q
        · exact hvl.2 y q
      · rw [e30]
        show va_up S29.2 a _ a = _
        rw [va_up_self, nI_add, List.length_append]
        rfl
      · rw [e30]
        show va_up S29.2 a _ b1 = _
        rw [va_up_ne _ _ z3, e29]
        exact va_up_self _ _ _
      · rw [List.length_append] at hj
        rw [app_getD]
        by_cases q : j < t.length
        · rw [if_pos q, pk_cpy_out (by omega)]; exact y3 j q
        · rw [if_neg q, pk_cpy_in (by omega) (by omega), Nat.zero_add]; exact d5 _ (by omega)
      · by_cases q : t.length ≤ j ∧ j < t.length + v.length
        · rw [pk_cpy_in q.1 q.2, Nat.zero_add]
          exact ⟨_, hv1.lt (by omega), d5 _ (by omega)⟩
        · rw [pk_cpy_out (by omega)]; exact y4 j hj
  rw [w_J4_append_15]
  refine ⟨⟨_, h1, e1⟩, mc, ms, Nat.le_refl _, Nat.le_refl _, ?_⟩
  rw [w_J5_append_cf]
  refine ⟨fun z => absurd z (by simp), fun a2 ea2 => ?_⟩
  obtain rfl := Option.some.inj ea2
  refine ⟨hv.get.1, st_len hv ⟨nI t.length, ⟨h1, _, e1, rfl⟩, ⟨_, h1, e1⟩, mc, ms, Nat.le_refl _, Nat.le_refl _, ?_⟩⟩
  rw [nI_add]
  refine sb_ensure h (by omega) (by omega) (fun hl => ⟨hmc, ?_⟩) (fun hl => ?_) (fun hl q S1 hq hf hb => ?_)
  · split <;> omega
  · have e : gN2 N (t.length + v.length) = N := if_neg (by omega)
    exact fin b S gS.rf hv (by rw [e]; exact h)
  · have e : gN2 N (t.length + v.length) = (if (t.length + v.length) < 2 * N + 2 then 2 * N + 2 else (t.length + v.length)) := if_pos hl
    exact fin q S1 ⟨hf.wide (fun y hy => Or.inl (by rw [List.mem_singleton.mp hy]; simp)), Or.inr hq⟩ (hv.kept (hf.kp (mm := mm) (mm' := mm) (fun y hy => Or.inl (by rw [List.mem_singleton.mp hy]; exact ha)) (fun _ _ h => h))) (by rw [e]; exact hb)
/-- setLength(0) -/
theorem sb_setLength0 {u : hU} {S : hS} {a b N mc ms : Nat} {t : Tx} {post : hS → Prop} (h : bS u S a b t N) (hN : N ≤ 602)
    (hp : ∀ S', fx [a] S S' → bS u S' a b [] N → post S') : w_J4_setLength_d0 u post a 0 S mc ms := by
  obtain ⟨h0, h1, h2, h3, x, g, e1, e5, e6, e7⟩ := id h
  have fin : ∀ S' x', S'.1 = S.1 → S'.2 a = .inr (1, [va_rf (some b), .int 0, .int x', .int 0]) → (∀ y, y ≠ a → S'.2 y = S.2 y) → post S' := by
    intro S' x' q1 q2 q3
    refine hp S' ⟨fun y hy => by rw [q1]; exact hy, fun y hy hw => q3 y (fun z => hw (by rw [z]; simp))⟩ ⟨⟨by simp, h0.2.1, fun c hc => absurd hc (by simp)⟩, by rw [q1]; exact h1, by rw [q1]; exact h2, h3, x', g, q2, by rw [q3 b h3]; exact e5, fun j hj => absurd hj (by simp), e7⟩
  rw [w_J4_setLength_d0]
  refine ⟨⟨_, h1, e1⟩, mc, ms, Nat.le_refl _, Nat.le_refl _, ?_⟩
  rw [w_J5_setLength_d0]
  refine ⟨fun _ => ⟨⟨_, h1, e1⟩, mc, ms, Nat.le_refl _, Nat.le_refl _, ?_⟩, fun z => absurd (by decide) z⟩
  refine sb_ensure (m := 0) h (by omega) (by omega) (fun hl => absurd hl (by omega)) (fun _ => ?_) (fun hl => absurd hl (by omega))
  refine ⟨nI t.length, ⟨h1, _, e1, rfl⟩, fun _ => ⟨nI t.length, ⟨h1, _, e1, rfl⟩, fun z => ⟨_, ⟨h1, e1⟩, by simp, fun S19 e19 => ?_⟩, fun z => ⟨_, ⟨h1, e1⟩, by simp, fun S23 e23 => ⟨[va_rf (some b), .int 0, .int 1, .int (nI t.length)], ⟨by rw [e23]; exact h1, by rw [e23]; exact va_up_self _ _ _⟩, by simp, fun S27 e27 => ?_⟩⟩⟩, fun z => absurd (nI_pos' (by omega)) z⟩
  · refine fin S19 x (by rw [e19]; rfl) (by rw [e19]; exact va_up_self _ _ _) (fun y hy => ?_)
    rw [e19]; exact va_up_ne _ _ hy
  · refine fin S27 1 (by rw [e27, e23]; rfl) (by rw [e27]; exact va_up_self _ _ _) (fun y hy => ?_)
    rw [e27]
    show va_up S23.2 a _ y = _
    rw [va_up_ne _ _ hy, e23]; exact va_up_ne _ _ hy
/-- a new, empty one -/
theorem sb_init {u : hU} {S : hS} {a mc ms : Nat} {post : hS → Prop} (h1 : a ∈ S.1) (e1 : S.2 a = .inr (1, [.null, .int 0, .int 0, .int 0])) (hmc : 1 ≤ mc) (hms : 16 ≤ ms)
    (hp : ∀ S' b, fr u.1 S b → fx [a] S S' → bS u S' a b [] 16 → post S') : w_J4_init_da u post a S mc ms := by
  rw [w_J4_init_da]
  refine ⟨mc, ms, Nat.le_refl _, Nat.le_refl _, ?_⟩
  rw [w_J5_init_d0]
  refine ⟨fun z => absurd z (by decide), fun _ => ⟨16, rfl, by omega, hmc, hms, fun q S4 hq e4 => ?_⟩⟩
  have hne : a ≠ q := fun z => hq.1 (by rw [← z]; exact h1)
  have m4 : a ∈ S4.1 := by rw [e4]; exact List.mem_append_left _ h1
  have o4 : S4.2 a = .inr (1, [.null, .int 0, .int 0, .int 0]) := by
    rw [e4]
    show va_up S.2 q _ a = _
    rw [va_up_ne _ _ hne]; exact e1
  refine ⟨_, ⟨m4, o4⟩, by simp, fun S14 e14 => ⟨[.ref q, .int 0, .int 0, .int 0], ⟨by rw [e14]; exact m4, by rw [e14]; exact va_up_self _ _ _⟩, by simp, fun S18 e18 => ?_⟩⟩
  have q18 : q ∈ S18.1 := by rw [e18, e14, e4]; exact List.mem_append_right _ (List.mem_singleton.mpr rfl)
  refine hp S18 q hq ?_ ⟨⟨by simp, by omega, fun c hc => absurd hc (by simp)⟩, by rw [e18, e14]; exact m4, q18, fun z => hne z.symm, 0, fun _ => 0, ?_, ?_, fun j hj => absurd hj (by simp), fun j hj => ⟨0, by omega, (by decide : (0 : Int32) = sb_b 0)⟩⟩
  · rw [e18, e14, e4]; exact ((fx.ad hq.1).tr (fx.up (by simp))).tr (fx.up (by simp))
  · rw [e18]; exact va_up_self _ _ _
  · rw [e18]
    show va_up S14.2 a _ q = _
    rw [va_up_ne _ _ (fun z => hne z.symm), e14]
    show va_up S4.2 a _ q = _
    rw [va_up_ne _ _ (fun z => hne z.symm), e4]
    exact va_up_self _ _ _
/-- toString: a new text -/
theorem sb_toString {u : hU} {mm : List Nat} {S : hS} {a b N mc ms : Nat} {t : Tx} {post : Option Nat → hS → Prop} (h : bS u S a b t N) (hmm : ∀ x, x ∈ mm → x ∈ S.1) (hmc : 2 ≤ mc) (hms : 4 + t.length ≤ ms)
    (hp : ∀ q S', fx [] S S' → tS u mm S' q t → post (some q) S') : w_J4_toString_0e u post a S mc ms := by
  obtain ⟨h0, h1, h2, h3, x, g, e1, e5, e6, e7⟩ := id h
  rw [w_J4_toString_0e]
  refine ⟨by omega, by omega, fun q S3 hq e3 => ⟨mc - 1, ms - 4, Nat.le_refl _, Nat.le_refl _, ?_⟩⟩
  have m3 : ∀ y, y ∈ S.1 → y ∈ S3.1 := fun y hy => by rw [e3]; exact List.mem_append_left _ hy
  have f3 : ∀ y, y ∈ S.1 → S3.2 y = S.2 y := fun y hy => by
    rw [e3]
    exact va_up_ne _ _ (fun z => hq.1 (by rw [← z]; exact hy))
  have hb3 : bS u S3 a b t N := h.keep m3 (f3 a h1) (f3 b h2)
  have q3 : q ∈ S3.1 := by rw [e3]; exact List.mem_append_right _ (List.mem_singleton.mpr rfl)
  have o3 : S3.2 q = .inr (0, [.null, .int 0, .int 0, .int 0]) := by rw [e3]; exact va_up_self _ _ _
  have hfit : ∀ k, k < N → fits .byte (.int (g k)) = true := fun k hk => by
    obtain ⟨c, hc, e⟩ := e7 k hk
    rw [e]; exact sb_fit c hc
  rw [w_J0_init_81]
  refine ⟨mc - 1, ms - 4, Nat.le_refl _, Nat.le_refl _, ?_⟩
  rw [w_J0_init_db]
  refine ⟨a, rfl, hb3.fs, ?_⟩
  rw [w_J5_getValue_6d]
  refine ⟨some b, ⟨m3 a h1, _, by rw [f3 a h1]; exact e1, rfl⟩, hb3.fs, sb_len hb3 ⟨hb3.fs, sb_isLatin1 hb3 ⟨fun z => absurd z (by decide), fun _ => ⟨_, ⟨q3, o3⟩, by simp, fun S25 e25 => ⟨mc - 1, ms - 4, Nat.le_refl _, Nat.le_refl _, ?_⟩⟩⟩⟩⟩
  have bq : b ≠ q := fun z => hq.1 (by rw [← z]; exact h2)
  have hB25 : rA S25 (u.2.1 2) b N g := by
    rw [e25]
    refine ⟨m3 b h2, ?_⟩
    show va_up S3.2 q _ b = _
    rw [va_up_ne _ _ bq, f3 b h2]; exact e5
  have q25 : q ∈ S25.1 := by rw [e25]; exact q3
  have o25 : S25.2 q = .inr (0, [.null, .int 0, .int 0, .int 0]) := by rw [e25]; exact va_up_self _ _ _
  have fin : ∀ r g', fr u.1 S25 r → (∀ k, k < t.length → g' k = g k) → ∀ S31, S31 = adS S25 r (.inl (u.2.1 2, t.length, .inl g')) → (∃ fs33 : List Value, rO S31 q 0 fs33 ∧ 0 < fs33.length ∧ (∀ S36 : hS, S36 = upS S31 q (.inr (0, fs33.set 0 (va_rf (some r)))) → post (some q) S36)) := by
    intro r g' hr hg' S31 e31
    have qr : q ≠ r := fun z => hr.1 (by rw [← z]; exact q25)
    have o31 : S31.2 q = .inr (0, [.null, .int 0, .int 0, .int 0]) := by
      rw [e31]
      show va_up S25.2 r _ q = _
      rw [va_up_ne _ _ qr]; exact o25
    have q31 : q ∈ S31.1 := by rw [e31]; exact List.mem_append_left _ q25
    have r31 : r ∈ S31.1 := by rw [e31]; exact List.mem_append_right _ (List.mem_singleton.mpr rfl)
    have hrS : r ∉ S.1 := fun z => hr.1 (by rw [e25]; exact m3 r z)
    refine ⟨_, ⟨q31, o31⟩, by simp, fun S36 e36 => ?_⟩
    refine hp q S36 ⟨fun y hy => ?_, fun y hy _ => ?_⟩ ⟨⟨by omega, h0.2.2⟩, Or.inr ⟨hq.2, by rw [e36]; exact q31, fun z => hq.1 (hmm q z), r, _, g', by rw [e36]; exact va_up_self _ _ _, rfl, rfl, by rw [e36]; exact r31, fun z => hrS (hmm r z), ?_, fun j hj => ?_⟩⟩
    · rw [e36, e31]
      refine List.mem_append_left _ ?_
      rw [e25]; exact m3 y hy
    · have y1 : y ≠ q := fun z => hq.1 (by rw [← z]; exact hy)
      have y2 : y ≠ r := fun z => hrS (by rw [← z]; exact hy)
      rw [e36]
      show va_up S31.2 q _ y = _
      rw [va_up_ne _ _ y1, e31]
      show va_up S25.2 r _ y = _
      rw [va_up_ne _ _ y2, e25]
      show va_up S3.2 q _ y = _
      rw [va_up_ne _ _ y1]; exact f3 y hy
    · rw [e36]
      show va_up S31.2 q _ r = _
      rw [va_up_ne _ _ (fun z => qr z.symm), e31]
      exact va_up_self _ _ _
    · rw [hg' j hj]; exact e6 j hj
  rw [w_J7_copyOfRange_39]
  refine ⟨fun z => absurd rfl z, fun _ => ⟨b, rfl, N, g, Or.inl hB25, fun z => ⟨N, g, hB25, hfit, by omega, ?_, fun r S14 hr e14 => ⟨N, g, by rw [e14]; exact rA.new, ?_⟩⟩, fun z => ?_⟩⟩
  · have := (nI_eq (by omega) (by omega)).mp z
    omega
  · have hn := (nI_eq (by omega) (by omega)).mp z
    exact fin r g hr (fun _ _ => rfl) S14 (by rw [e14, hn])
  · rw [w_J7_copyOfRange_39_10]
    refine ⟨mc - 1, ms - 4, Nat.le_refl _, Nat.le_refl _, ?_⟩
    refine s_copyRange (i := 0) (j := t.length) (Or.inl hB25) (by omega) h0.1 (by omega) (fun k _ hk => hfit k (by omega)) (by omega) (by omega) (fun r g' hr hg' => ?_)
    exact fin r g' hr (fun k hk => by rw [hg' k (by omega), Nat.zero_add]) _ rfl
