theorem adS_up {S : hS} {q : Nat} {e e' : va_E} : upS (adS S q e) q e' = adS S q e' := by
  show (S.1 ++ [q], va_up (va_up S.2 q e) q e') = (S.1 ++ [q], va_up S.2 q e')
  have : va_up (va_up S.2 q e) q e' = va_up S.2 q e' := by
    funext a
    by_cases h : a = q
    · subst h; rw [va_up_self, va_up_self]
    · rw [va_up_ne _ _ h, va_up_ne _ _ h, va_up_ne _ _ h]
  rw [this]
theorem rA.new {S : hS} {q N : Nat} {cA : ClassId} {g : Nat → Int32} : rA (adS S q (.inl (cA, N, .inl g))) cA q N g :=
  ⟨List.mem_append_right _ (List.mem_singleton.mpr rfl), va_up_self _ _ _⟩
theorem rB.ad {cx : Nat → Nat × Nat} {cB : ClassId} {S : hS} {b N q : Nat} {g : Nat → Int32} {e : va_E} (h : rB cx cB S b N g) (hq : q ∉ S.1) : rB cx cB (adS S q e) b N g := by
  rcases h with ⟨h1, h2⟩ | h
  · refine Or.inl ⟨List.mem_append_left _ h1, ?_⟩
    have hne : b ≠ q := fun z => hq (by rw [← z]; exact h1)
    show va_up S.2 q e b = _
    rw [va_up_ne _ _ hne]; exact h2
  · exact Or.inr h
theorem s_copyRange {u : hU} {S : hS} {b N i j mc ms : Nat} {g : Nat → Int32} {post : Option Nat → hS → Prop} (hb : rB u.1 (u.2.1 2) S b N g) (hij : i ≤ j) (hjN : j ≤ N) (hN : N ≤ 65536) (hfit : ∀ k, i ≤ k → k < j → fits .byte (.int (g k)) = true) (hmc : 1 ≤ mc) (hms : j - i ≤ ms)
    (hp : ∀ q g', fr u.1 S q → (∀ k, k < j - i → g' k = g (i + k)) → post (some q) (adS S q (.inl (u.2.1 2, j - i, .inl g')))) : w_J7_copyOfRangeByte_39 u post (some b) (nI i) (nI j) S mc ms := by
  rw [w_J7_copyOfRangeByte_39, w_J7_checkLength_df]
  refine ⟨fun _ v5 e5 => ⟨j - i, by rw [e5, pk_sub hij], by omega, hmc, hms, fun q S8 hq e8 => ⟨b, rfl, N, g, ?_, N, g, j - i, fun _ => 0, ?_, ?_, ?_, fun S26 e26 => ?_⟩⟩, fun z => absurd (nI_le hij (by omega)) z⟩
  · rw [e8]; exact hb.ad hq.1
  · rw [e8]; exact hb.ad hq.1
  · rw [e8]; exact rA.new
  all_goals
    have e5' : v5 = nI (j - i) := by rw [e5, pk_sub hij]
    have em : (if v5 < (nI N - nI i) then v5 else (nI N - nI i)) = nI (j - i) := by
      rw [e5', pk_sub (show i ≤ N by omega)]
      by_cases h : j - i < N - i
      · rw [if_pos (nI_lt h (by omega))]
      · rw [if_neg (nI_nlt (by omega) (by omega))]
        congr 1; omega
  · rw [em, nI_clamp (n := i) (by omega), nI_clamp (n := j - i) (by omega), show (0 : Int32).toNatClampNeg = 0 by decide]
    exact ⟨nI_pos (by omega), by decide, nI_pos (by omega), by omega, by omega, fun k hk => hfit (i + k) (by omega) (by omega)⟩
  · rw [em, nI_clamp (n := i) (by omega), nI_clamp (n := j - i) (by omega), show (0 : Int32).toNatClampNeg = 0 by decide, e8, adS_up] at e26
    rw [e26]
    refine hp q _ hq (fun k hk => ?_)
    rw [pk_cpy_in (by omega) (by omega)]
    congr 1
theorem kp.fresh {mm mm' : List Nat} {S S1 : hS} {q : Nat} {e : va_E} (h : kp mm mm' S S1) (hq : q ∉ S.1) : kp mm mm' S (upS S1 q e) := by
  refine ⟨h.1, fun x hx hm => ⟨(h.2 x hx hm).1, ?_⟩⟩
  have hne : x ≠ q := fun z => hq (by rw [← z]; exact hx)
  show va_up S1.2 q e x = _
  rw [va_up_ne _ _ hne]; exact (h.2 x hx hm).2
theorem s_newString {u : hU} {mm : List Nat} {S : hS} {b N i j mc ms : Nat} {g : Nat → Int32} {t : Tx} {post : Option Nat → hS → Prop} (hb : rB u.1 (u.2.1 2) S b N g) (hij : i < j) (hjN : j ≤ N) (hN : N ≤ 65536) (hne : i ≠ 0 ∨ j ≠ N) (ht : t.length = j - i) (htc : ∀ c ∈ t, c < 256) (hg : ∀ k, k < j - i → g (i + k) = sb_b (t.getD k 0)) (hmm : ∀ a, a ∈ mm → a ∈ S.1) (hmc : 2 ≤ mc) (hms : 4 + (j - i) ≤ ms)
    (hp : ∀ q S', q ∉ S.1 → kp mm mm S S' → (∀ a, a ∈ mm → a ∈ S'.1) → tS u mm S' q t → post (some q) S') : w_J1_newString_b4 u post (some b) (nI i) (nI (j - i)) S mc ms := by
  have hfit : ∀ k, i ≤ k → k < j → fits .byte (.int (g k)) = true := fun k h1 h2 => by
    have := hg (k - i) (by omega)
    rw [show i + (k - i) = k by omega] at this
    rw [this]
    exact sb_fit _ (getD_lt256 htc (by omega))
  rw [w_J1_newString_b4]
  refine ⟨fun _ => ⟨by omega, by omega, fun q S4 hq e4 => ⟨mc - 1, ms - 4, Nat.le_refl _, Nat.le_refl _, ?_⟩⟩, fun z => absurd z (nI_ne0 (by omega) (by omega))⟩
  have e9 : nI i + nI (j - i) = nI j := by rw [nI_add]; congr 1; omega
  rw [e9]
  have hb4 : rB u.1 (u.2.1 2) S4 b N g := by rw [e4]; exact hb.ad hq.1
  have k10 : w_J7_copyOfRange_39_10 u (fun r7 S12 => w_J0_init_03 u (fun S15 => post (some q) S15) q r7 0 S12) (some b) (nI i) (nI j) S4 (mc - 1) (ms - 4) := by
    rw [w_J7_copyOfRange_39_10]
    refine ⟨mc - 1, ms - 4, Nat.le_refl _, Nat.le_refl _, s_copyRange hb4 (by omega) hjN hN hfit (by omega) (by omega) (fun a g' ha hg' => ?_)⟩
    have hqa : q ∈ S4.1 := by rw [e4]; exact List.mem_append_right _ (List.mem_singleton.mpr rfl)
    have hqne : q ≠ a := fun z => ha.1 (by rw [← z]; exact hqa)
    have haS : a ∉ S.1 := fun z => ha.1 (by rw [e4]; exact List.mem_append_left _ z)
    rw [w_J0_init_03]
    have o1 : (adS S4 a (.inl (u.2.1 2, j - i, .inl g'))).2 q = .inr (0, [.null, .int 0, .int 0, .int 0]) := by
      show va_up S4.2 a _ q = _
      rw [va_up_ne _ _ hqne, e4]
      exact va_up_self _ _ _
    refine ⟨_, ⟨List.mem_append_left _ hqa, o1⟩, by decide, fun S5 e5 => ⟨[va_rf (some a), .int 0, .int 0, .int 0], ⟨by rw [e5]; exact List.mem_append_left _ hqa, by rw [e5]; exact va_up_self _ _ _⟩, by simp, ⟨by decide, by decide⟩, fun S8 e8 => ?_⟩⟩
    have k1 : kp mm mm S S4 := by rw [e4]; exact kp.ad hq.1
    have k2 : kp mm mm S (adS S4 a (.inl (u.2.1 2, j - i, .inl g'))) := k1.tr (kp.ad ha.1)
    have k3 : kp mm mm S S5 := by rw [e5]; exact k2.fresh hq.1
    have k4 : kp mm mm S S8 := by rw [e8]; exact k3.fresh hq.1
    have q8 : S8.2 q = .inr (0, [va_rf (some a), .int 0, .int 0, .int 0]) := by rw [e8]; exact va_up_self _ _ _
    have a8 : S8.2 a = .inl (u.2.1 2, j - i, .inl g') := by
      rw [e8]
      show va_up S5.2 q _ a = _
      rw [va_up_ne _ _ (fun z => hqne z.symm), e5]
      show va_up _ q _ a = _
      rw [va_up_ne _ _ (fun z => hqne z.symm)]
      exact va_up_self _ _ _
    have m8 : ∀ x, x ∈ S4.1 ∨ x = a → x ∈ S8.1 := by
      intro x hx
      rw [e8, e5]
      rcases hx with h | h
      · exact List.mem_append_left _ h
      · exact List.mem_append_right _ (List.mem_singleton.mpr h)
    refine hp q S8 hq.1 k4 (fun x hx => k4.1 x (hmm x hx)) ⟨⟨by omega, htc⟩, Or.inr ⟨fun i hi => hq.2 i hi, m8 q (Or.inl hqa), fun z => hq.1 (hmm q z), a, _, g', q8, rfl, rfl, m8 a (Or.inr rfl), fun z => haS (hmm a z), by rw [ht]; exact a8, fun k hk => ?_⟩⟩
    rw [hg' k (by omega)]; exact hg k (by omega)
  rw [w_J7_copyOfRange_39]
  refine ⟨fun _ => k10, fun z => ⟨b, rfl, N, g, hb4, fun z2 => ?_, fun _ => k10⟩⟩
  have h1 := (nI_eq (a := i) (b := 0) (by omega) (by decide)).mp z
  have h2 := (nI_eq (a := j) (b := N) (by omega) (by omega)).mp z2
  omega
theorem getD_cut {t : Tx} {i j k : Nat} (hk : k < j - i) (hj : j ≤ t.length) : ((t.drop i).take (j - i)).getD k 0 = t.getD (i + k) 0 := by
  rw [List.getD_eq_getElem?_getD, List.getD_eq_getElem?_getD, List.getElem?_take, if_pos hk, List.getElem?_drop]
theorem st_substring {u : hU} {mm : List Nat} {S : hS} {a i j mc ms : Nat} {t : Tx} {post : Option Nat → hS → Prop} (h : tS u mm S a t) (hij : i < j) (hj : j ≤ t.length) (hmm : ∀ a, a ∈ mm → a ∈ S.1) (hmc : 2 ≤ mc) (hms : 4 + (j - i) ≤ ms)
    (hp : ∀ q S', kp mm mm S S' → (∀ a, a ∈ mm → a ∈ S'.1) → tS u mm S' q ((t.drop i).take (j - i)) → post (some q) S') : w_J0_substring_37 u post a (nI i) (nI j) S mc ms := by
  obtain ⟨a1, a2, b, g, a3, a4, a5⟩ := h.get
  have hl := h.1.1
  have hlen : ((t.drop i).take (j - i)).length = j - i := by rw [List.length_take, List.length_drop]; omega
  have k22 : (i ≠ 0 ∨ j ≠ t.length) → w_J0_substring_37_22 u post a (nI i) (nI j) S mc ms := by
    intro hne
    rw [w_J0_substring_37_22]
    intro v12 e12
    rw [pk_sub (by omega)] at e12
    refine ⟨a1, st_isLatin1 h ⟨fun z => absurd z (by decide), fun _ => ⟨b, a3, mc, ms, Nat.le_refl _, Nat.le_refl _, ?_⟩⟩⟩
    rw [e12]
    refine s_newString a4 hij hj hl hne hlen (fun c hc => h.1.2 c (List.mem_of_mem_drop (List.mem_of_mem_take hc))) (fun k hk => ?_) hmm hmc hms (fun q S' _ hk hm' hT => hp q S' hk hm' hT)
    rw [a5 (i + k) (by omega), getD_cut hk hj]
  rw [w_J0_substring_37]
  refine ⟨a1, st_len h ?_⟩
  rw [w_J0_checkBoundsBeginEnd_23, w_J3_checkFromToIndex_8c]
  refine ⟨fun z => absurd z (nI_pos (by omega)), fun _ => ⟨fun z => absurd z (nI_nlt (by omega) (by omega)), fun _ => ⟨fun _ => ⟨fun z => k22 (Or.inl (fun q => z (by rw [q]; rfl))), fun z => ⟨fun z2 => k22 (Or.inr (fun q => z2 (by rw [q]))), fun z2 => ?_⟩⟩, fun z => absurd (nI_le hj (by omega)) z⟩⟩⟩
  have h1 := (nI_eq (a := i) (b := 0) (by omega) (by decide)).mp z
  have h2 := (nI_eq (by omega) (by omega)).mp z2
  refine hp a S kp.rf hmm ?_
  have e9 : (t.drop i).take (j - i) = t := by
    rw [h1, h2, List.drop_zero, Nat.sub_zero, List.take_length]
  rw [e9]; exact h
