/-! THE CLASS: tokenizers -/
theorem fx_fresh {W : List Nat} {S S1 : hS} {q : Nat} {e : va_E} (h : fx W S S1) (hq : q ∉ S.1) : fx W S (upS S1 q e) :=
  ⟨h.1, fun x hx hm => by
    have hne : x ≠ q := fun z => hq (by rw [← z]; exact hx)
    rw [va_upS_ne hne]; exact h.2 x hx hm⟩
theorem s_newString2 {u : hU} {mm : List Nat} {S : hS} {b N i j mc ms : Nat} {g : Nat → Int32} {t : Tx} {post : Option Nat → hS → Prop} (hb : rB u.1 (u.2.1 2) S b N g) (hij : i < j) (hjN : j ≤ N) (hN : N ≤ 65536) (hne : i ≠ 0 ∨ j ≠ N) (ht : t.length = j - i) (htc : ∀ c ∈ t, c < 256) (hg : ∀ k, k < j - i → g (i + k) = sb_b (t.getD k 0)) (hmm : ∀ a, a ∈ mm → a ∈ S.1) (hmc : 2 ≤ mc) (hms : 4 + (j - i) ≤ ms)
    (hp : ∀ q S', fx [] S S' → tS u mm S' q t → post (some q) S') : w_J1_newString_b4 u post (some b) (nI i) (nI (j - i)) S mc ms := by
  have hfit : ∀ k, i ≤ k → k < j → fits .byte (.int (g k)) = true := fun k h1 h2 => by
    have := hg (k - i) (by omega)
    rw [show i + (k - i) = k by omega] at this
    rw [this]
    exact sb_fit _ (getD_lt256 htc (by omega))
  rw [w_J1_newString_b4]
  refine ⟨fun _ => ⟨by omega, by omega, fun q S4 hq e4 => ⟨mc - 1, ms - 4, Nat.le_refl _, Nat.le_refl _, ?_⟩⟩, fun z => absurd z (nI_ne0 (by omega) (by omega))⟩
  have e9 : nI i + nI (j - i) = nI j := by rw [nI_add]; congr 1; omega
  rw [e9]
  have hb4 : rB u.1 (u.2.1 2) S4 b N g := by rw [e4]; exact hb.ad hq.1
  have k10 : w_J7_copyOfRange_39_10 u (fun r7 S12 => w_J0_init_03 u (fun S15 => post (some q) S15) q r7 0 S12) (some b) (nI i) (nI j) S4 (mc - 1) (ms - 4) := by
    rw [w_J7_copyOfRange_39_10]
    refine ⟨mc - 1, ms - 4, Nat.le_refl _, Nat.le_refl _, s_copyRange hb4 (by omega) hjN hN hfit (by omega) (by omega) (fun a g' ha hg' => ?_)⟩
    have hqa : q ∈ S4.1 := by rw [e4]; exact List.mem_append_right _ (List.mem_singleton.mpr rfl)
    have hqne : q ≠ a := fun z => ha.1 (by rw [← z]; exact hqa)
    have haS : a ∉ S.1 := fun z => ha.1 (by rw [e4]; exact List.mem_append_left _ z)
    rw [w_J0_init_03]
    have o1 : (adS S4 a (.inl (u.2.1 2, j - i, .inl g'))).2 q = .inr (0, [.null, .int 0, .int 0, .int 0]) := by
      show va_up S4.2 a _ q = _
      rw [va_up_ne _ _ hqne, e4]
      exact va_up_self _ _ _
    refine ⟨_, ⟨List.mem_append_left _ hqa, o1⟩, by decide, fun S5 e5 => ⟨[va_rf (some a), .int 0, .int 0, .int 0], ⟨by rw [e5]; exact List.mem_append_left _ hqa, by rw [e5]; exact va_up_self _ _ _⟩, by simp, ⟨by decide, by decide⟩, fun S8 e8 => ?_⟩⟩
    have k1 : fx [] S S4 := by rw [e4]; exact fx.ad hq.1
    have k2 : fx [] S (adS S4 a (.inl (u.2.1 2, j - i, .inl g'))) := k1.tr (fx.ad ha.1)
    have k3 : fx [] S S5 := by rw [e5]; exact fx_fresh k2 hq.1
    have k4 : fx [] S S8 := by rw [e8]; exact fx_fresh k3 hq.1
    have q8 : S8.2 q = .inr (0, [va_rf (some a), .int 0, .int 0, .int 0]) := by rw [e8]; exact va_up_self _ _ _
    have a8 : S8.2 a = .inl (u.2.1 2, j - i, .inl g') := by
      rw [e8]
      show va_up S5.2 q _ a = _
      rw [va_up_ne _ _ (fun z => hqne z.symm), e5]
      show va_up _ q _ a = _
      rw [va_up_ne _ _ (fun z => hqne z.symm)]
      exact va_up_self _ _ _
    have m8 : ∀ x, x ∈ S4.1 ∨ x = a → x ∈ S8.1 := by
      intro x hx
      rw [e8, e5]
      rcases hx with h | h
      · exact List.mem_append_left _ h
      · exact List.mem_append_right _ (List.mem_singleton.mpr h)
    refine hp q S8 k4 ⟨⟨by omega, htc⟩, Or.inr ⟨fun i hi => hq.2 i hi, m8 q (Or.inl hqa), fun z => hq.1 (hmm q z), a, _, g', q8, rfl, rfl, m8 a (Or.inr rfl), fun z => haS (hmm a z), by rw [ht]; exact a8, fun k hk => ?_⟩⟩
    rw [hg' k (by omega)]; exact hg k (by omega)
  rw [w_J7_copyOfRange_39]
  refine ⟨fun _ => k10, fun z => ⟨b, rfl, N, g, hb4, fun z2 => ?_, fun _ => k10⟩⟩
  have h1 := (nI_eq (a := i) (b := 0) (by omega) (by decide)).mp z
  have h2 := (nI_eq (a := j) (b := N) (by omega) (by omega)).mp z2
  omega
theorem st_substring2 {u : hU} {mm : List Nat} {S : hS} {a i j mc ms : Nat} {t : Tx} {post : Option Nat → hS → Prop} (h : tS u mm S a t) (hij : i < j) (hj : j ≤ t.length) (hmm : ∀ a, a ∈ mm → a ∈ S.1) (hmc : 2 ≤ mc) (hms : 4 + (j - i) ≤ ms)
    (hp : ∀ q S', fx [] S S' → tS u mm S' q ((t.drop i).take (j - i)) → post (some q) S') : w_J0_substring_37 u post a (nI i) (nI j) S mc ms := by
  obtain ⟨a1, a2, b, g, a3, a4, a5⟩ := h.get
  have hl := h.1.1
  have hlen : ((t.drop i).take (j - i)).length = j - i := by rw [List.length_take, List.length_drop]; omega
  have k22 : (i ≠ 0 ∨ j ≠ t.length) → w_J0_substring_37_22 u post a (nI i) (nI j) S mc ms := by
    intro hne
    rw [w_J0_substring_37_22]
    intro v12 e12
    rw [pk_sub (by omega)] at e12
    refine ⟨a1, st_isLatin1 h ⟨fun z => absurd z (by decide), fun _ => ⟨b, a3, mc, ms, Nat.le_refl _, Nat.le_refl _, ?_⟩⟩⟩
    rw [e12]
    refine s_newString2 a4 hij hj hl hne hlen (fun c hc => h.1.2 c (List.mem_of_mem_drop (List.mem_of_mem_take hc))) (fun k hk => ?_) hmm hmc hms (fun q S' hk hT => hp q S' hk hT)
    rw [a5 (i + k) (by omega), getD_cut hk hj]
  rw [w_J0_substring_37]
  refine ⟨a1, st_len h ?_⟩
  rw [w_J0_checkBoundsBeginEnd_23, w_J3_checkFromToIndex_8c]
  refine ⟨fun z => absurd z (nI_pos (by omega)), fun _ => ⟨fun z => absurd z (nI_nlt (by omega) (by omega)), fun _ => ⟨fun _ => ⟨fun z => k22 (Or.inl (fun q => z (by rw [q]; rfl))), fun z => ⟨fun z2 => k22 (Or.inr (fun q => z2 (by rw [q]))), fun z2 => ?_⟩⟩, fun z => absurd (nI_le hj (by omega)) z⟩⟩⟩
  have h1 := (nI_eq (a := i) (b := 0) (by omega) (by decide)).mp z
  have h2 := (nI_eq (by omega) (by omega)).mp z2
  refine hp a S fx.rf ?_
  have e9 : (t.drop i).take (j - i) = t := by
    rw [h1, h2, List.drop_zero, Nat.sub_zero, List.take_length]
  rw [e9]; exact h
section CREP
variable {u : hU} {d : Nat} {mm : List Nat} {ad : Nat → Nat} {lv : Nat → Prop} {s : AS} {S : hS}
/-- a tokenizer's object a: its text and delimiters -/
def tkO2 (u : hU) (mm : List Nat) (S : hS) (a : Nat) (t dl : Tx) (r : Bool) (p : Nat) : Prop := (t.length ≤ 300 ∧ dl.length ≤ 300) ∧ ∃ ta da, rO S a 9 [va_rf (some ta), .int (if r then 1 else 0), va_rf (some da), .int (nI p)] ∧ tS u mm S ta t ∧ tS u mm S da dl
variable {a p : Nat} {t dl : Tx} {r : Bool}
theorem tkO2.fs (h : tkO2 u mm S a t dl r p) : ∃ fs, rO S a 9 fs := by
  obtain ⟨h0, ta, da, k, -⟩ := h
  exact ⟨_, k⟩
theorem c_isDelim {post : Int32 → Prop} {x : Nat} (h : tkO2 u mm S a t dl r p) (hx : x < t.length) (h1 : t.getD x 0 ∈ dl → post 1) (h0 : t.getD x 0 ∉ dl → post 0) : w_X8_isDelimiter u post a (nI x) S := by
  obtain ⟨⟨l1, l2⟩, ta, da, k, ht, hd⟩ := h
  rw [w_X8_isDelimiter]
  refine ⟨_, k.r rfl, _, rfl, ht.get.1, st_len ht (c_inN (by omega) (by omega) (fun _ => ⟨fun z => absurd z (by decide), fun _ => ⟨_, k.r rfl, _, k.r rfl, _, rfl, ht.get.1, st_charAt ht hx ⟨_, rfl, hd.get.1, st_indexOf hd (ht.lt hx) (fun q i hi => ⟨fun z => absurd z (nI_pos (by omega)), fun _ => h1 q⟩) (fun q => ⟨fun _ => h0 q, fun z => absurd (by decide) z⟩)⟩⟩⟩) (fun q => absurd hx (by omega)))⟩
theorem c_tokenStart {post : Int32 → Prop} (h : tkO2 u mm S a t dl r p) {x : Nat} (hx : x ≤ t.length) (hp : post (nI (begF t dl r x))) : w_X8_tokenStart u post a (nI x) S := by
  rw [w_X8_tokenStart]
  refine ⟨t.length + 1, ?_⟩
  have key : ∀ n x, x ≤ t.length → t.length < x + n → post (nI (begF t dl r x)) → w_X8_tokenStart_2 u post a n (nI x) S := by
    intro n
    induction n with
    | zero => intro x h1 h2; omega
    | succ n ih =>
      intro x h1 h2 hp
      obtain ⟨⟨l1, l2⟩, ta, da, k, ht, hd⟩ := id h
      rw [w_X8_tokenStart_2]
      cases r with
      | true => exact ⟨1, k.i rfl, fun _ => hp, fun z => absurd z (by decide)⟩
      | false =>
        refine ⟨0, k.i rfl, fun z => absurd rfl z, fun _ => ⟨_, k.r rfl, _, rfl, ht.get.1, st_len ht ⟨fun z => ?_, fun z => ?_⟩⟩⟩
        · have := (nI_leI (by omega) (by omega)).mp z
          rw [begF_ge this] at hp; exact hp
        · have hlt : x < t.length := by
            rcases Nat.lt_or_ge x t.length with q | q
            · exact q
            · exact absurd (nI_le q (by omega)) z
          rw [begF_st hlt] at hp
          refine ⟨h.fs, c_isDelim h hlt (fun q => ⟨fun z => absurd z (by decide), fun _ v e => ?_⟩) (fun q => ⟨fun _ => ?_, fun z => absurd rfl z⟩)⟩
          · rw [if_pos q] at hp
            rw [e, nI_1]
            exact ih (x + 1) (by omega) (by omega) hp
          · rw [if_neg q] at hp; exact hp
  exact key _ x hx (by omega) hp
theorem c_tokenEnd {post : Int32 → Prop} (h : tkO2 u mm S a t dl r p) {x : Nat} (hx : x < t.length) (hr : r = false → t.getD x 0 ∉ dl) (hp : post (nI (endF t dl x))) : w_X8_tokenEnd u post a (nI x) S := by
  obtain ⟨⟨l1, l2⟩, ta, da, k, ht, hd⟩ := id h
  have key : ∀ n x, x ≤ t.length → t.length < x + n → post (nI (enF t dl x)) → w_X8_tokenEnd_32 u post a n (nI x) S := by
    intro n
    induction n with
    | zero => intro x h1 h2; omega
    | succ n ih =>
      intro x h1 h2 hp
      rw [w_X8_tokenEnd_32]
      refine ⟨_, k.r rfl, _, rfl, ht.get.1, st_len ht ⟨fun z => ?_, fun z => ?_⟩⟩
      · have := (nI_leI (by omega) (by omega)).mp z
        rw [enF_ge this] at hp; exact hp
      · have hlt : x < t.length := by
          rcases Nat.lt_or_ge x t.length with q | q
          · exact q
          · exact absurd (nI_le q (by omega)) z
        rw [enF_st hlt] at hp
        refine ⟨h.fs, c_isDelim h hlt (fun q => ⟨fun _ => ?_, fun z => absurd z (by decide)⟩) (fun q => ⟨fun z => absurd rfl z, fun _ v e => ?_⟩)⟩
        · rw [if_pos q] at hp; exact hp
        · rw [if_neg q] at hp
          rw [e, nI_1]
          exact ih (x + 1) (by omega) (by omega) hp
  unfold endF at hp
  rw [w_X8_tokenEnd]
  cases r with
  | false =>
    have hn := hr rfl
    rw [if_neg hn] at hp
    exact ⟨0, k.i rfl, fun _ => ⟨t.length + 1, key _ x (by omega) (by omega) hp⟩, fun z => absurd rfl z⟩
  | true =>
    refine ⟨1, k.i rfl, fun z => absurd z (by decide), fun _ => ⟨_, k.r rfl, _, rfl, ht.get.1, st_len ht ⟨fun z => absurd z (nI_ge hx (by omega)), fun _ => ⟨h.fs, c_isDelim h hx (fun q => ⟨fun z => absurd z (by decide), fun _ => ?_⟩) (fun q => ⟨fun _ => ⟨t.length + 1, key _ x (by omega) (by omega) ?_⟩, fun z => absurd rfl z⟩)⟩⟩⟩⟩
    · rw [if_pos q] at hp
      rw [nI_1]; exact hp
    · rw [if_neg q] at hp; exact hp
theorem begF_not {x : Nat} (hx : x ≤ t.length) (hlt : begF t dl r x < t.length) : r = false → t.getD (begF t dl r x) 0 ∉ dl := by
  rintro rfl
  have key : ∀ n x, x ≤ t.length → t.length < x + n → begF t dl false x < t.length → t.getD (begF t dl false x) 0 ∉ dl := by
    intro n
    induction n with
    | zero => intro x h1 h2; omega
    | succ n ih =>
      intro x h1 h2 hl
      rcases Nat.lt_or_ge x t.length with q | q
      · rw [begF_st q] at hl ⊢
        by_cases z : t.getD x 0 ∈ dl
        · rw [if_pos z] at hl ⊢
          exact ih (x + 1) (by omega) (by omega) hl
        · rw [if_neg z]; exact z
      · rw [begF_ge q] at hl; omega
  exact key (t.length + 1) x hx (by omega) hlt
theorem c_hasToken {post : Int32 → Prop} (h : tkO2 u mm S a t dl r p) (hp : p ≤ t.length) (h1 : begF t dl r p < t.length → post 1) (h0 : ¬ begF t dl r p < t.length → post 0) : w_X8_hasToken u post a S := by
  obtain ⟨⟨l1, l2⟩, ta, da, k, ht, hd⟩ := id h
  have b := begF_le (d := dl) (r := r) hp
  rw [w_X8_hasToken]
  refine ⟨_, k.i rfl, h.fs, c_tokenStart h hp ⟨_, k.r rfl, _, rfl, ht.get.1, st_len ht ⟨fun z => h0 (fun q => absurd z (nI_ge q (by omega))), fun z => h1 ?_⟩⟩⟩
  rcases Nat.lt_or_ge (begF t dl r p) t.length with q | q
  · exact q
  · exact absurd (nI_le q (by omega)) z
theorem c_tokensLeft {post : Int32 → Prop} (h : tkO2 u mm S a t dl r p) (hp0 : p ≤ t.length) (hp : post (nI (cntA t dl r p))) : w_X8_tokensLeft u post a S := by
  obtain ⟨⟨l1, l2⟩, ta, da, k, ht, hd⟩ := id h
  have b := begF_le (d := dl) (r := r) hp0
  have key : ∀ n c x, x ≤ t.length → t.length < x + n → c ≤ x → (x < t.length → r = false → t.getD x 0 ∉ dl) → post (nI (c + cntF t dl r n x)) → w_X8_tokensLeft_11 u post a n (nI c) (nI x) S := by
    intro n
    induction n with
    | zero => intro c x h1 h2; omega
    | succ n ih =>
      intro c x h1 h2 hc hr hp
      rw [w_X8_tokensLeft_11]
      refine ⟨_, k.r rfl, _, rfl, ht.get.1, st_len ht ⟨fun z => ?_, fun z => ?_⟩⟩
      · have := (nI_leI (by omega) (by omega)).mp z
        rw [cntF, if_pos this] at hp; exact hp
      · have hlt : x < t.length := by
          rcases Nat.lt_or_ge x t.length with q | q
          · exact q
          · exact absurd (nI_le q (by omega)) z
        have b1 := endF_le (d := dl) hlt
        have b2 := begF_le (d := dl) (r := r) b1.2
        refine ⟨_, k.r rfl, _, rfl, ht.get.1, st_len ht ⟨fun z => absurd z (nI_ge (by omega) (by omega)), fun _ v e => ⟨h.fs, c_tokenEnd h hlt (hr hlt) ⟨h.fs, c_tokenStart h b1.2 ?_⟩⟩⟩⟩
        rw [e, nI_1]
        refine ih (c + 1) _ b2.2 (by omega) (by omega) (fun q => begF_not b1.2 q) ?_
        rw [cntF, if_neg (by omega)] at hp
        rw [show c + 1 + cntF t dl r n (begF t dl r (endF t dl x)) = c + (cntF t dl r n (begF t dl r (endF t dl x)) + 1) by omega]
        exact hp
  rw [w_X8_tokensLeft]
  refine ⟨_, k.i rfl, h.fs, c_tokenStart h hp0 ⟨t.length + 1, ?_⟩⟩
  refine key _ 0 _ b.2 (by omega) (by omega) (fun q => begF_not hp0 q) ?_
  rw [Nat.zero_add]; exact hp
/-- the next token is taken -/
theorem c_takeToken {post : Option Nat → hS → Prop} {mc ms : Nat} (h : tkO2 u mm S a t dl r p) (hmm : ∀ x, x ∈ mm → x ∈ S.1) (ham : a ∈ mm) (hp0 : p ≤ t.length) (hlt : begF t dl r p < t.length) (hmc : 2 ≤ mc) (hms : 304 ≤ ms)
    (hp : ∀ q S', fx [a] S S' → (∃ ta da, S'.2 a = .inr (9, [va_rf (some ta), .int (if r then 1 else 0), va_rf (some da), .int (nI (endF t dl (begF t dl r p)))]) ∧ tS u mm S' ta t ∧ tS u mm S' da dl) → tS u mm S' q ((t.drop (begF t dl r p)).take (endF t dl (begF t dl r p) - begF t dl r p)) → post (some q) S') : w_X8_takeToken u post a S mc ms := by
  obtain ⟨⟨l1, l2⟩, ta, da, k, ht, hd⟩ := id h
  have b := begF_le (d := dl) (r := r) hp0
  have b1 := endF_le (d := dl) hlt
  rw [w_X8_takeToken]
  refine ⟨_, k.i rfl, h.fs, c_tokenStart h hp0 ⟨h.fs, c_tokenEnd h hlt (begF_not hp0 hlt) ⟨_, k, by simp, fun S16 e16 => ?_⟩⟩⟩
  have k16 : kp mm mm S S16 := by rw [e16]; exact kp.up ham
  have f16 : fx [a] S S16 := by rw [e16]; exact fx.up (by simp)
  have o16 : rO S16 a 9 [va_rf (some ta), .int (if r then 1 else 0), va_rf (some da), .int (nI (endF t dl (begF t dl r p)))] := ⟨f16.1 a k.1, by rw [e16]; exact va_upS_self⟩
  have ht16 := ht.kept k16
  refine ⟨_, o16.i rfl, fun z => absurd z (nI_ge b1.1 (by omega)), fun _ => ⟨_, o16.r rfl, _, o16.i rfl, _, rfl, ht16.get.1, mc, ms, Nat.le_refl _, Nat.le_refl _, ?_⟩⟩
  refine st_substring2 ht16 b1.1 b1.2 (fun x hx => k16.1 x (hmm x hx)) hmc (by omega) (fun q S31 hf hT => ?_)
  have k31 : kp mm mm S16 S31 := fx_kp0 hf
  refine hp q S31 (f16.tr (hf.wide (fun x hx => absurd hx (by simp)))) ⟨ta, da, ?_, ht16.kept k31, (hd.kept k16).kept k31⟩ hT
  rw [hf.2 a o16.1 (by simp)]; exact o16.2
end CREP
