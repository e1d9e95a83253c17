theorem mEn.z {M M' : RM} {T : Tx} {pl : List Nat} {a b : Nat} (h : mEn M T pl) (hF : mF M M' a b) : mEn M' T pl :=
  ⟨by rw [hF.k (by decide)]; exact h.1, h.2.1, fun i hi => ⟨by rw [hF.k (by decide)]; exact (h.2.2 i hi).1, by rw [hF.k (by decide)]; exact (h.2.2 i hi).2⟩⟩
theorem s_keyEnd_2 {post : Int32 → RM → Prop} {M : RM} {T : Tx} {pl : List Nat} (hE : mEn M T pl) (hT : ∀ c ∈ T, c < 127) (hpl : pl.length ≤ 300) : ∀ n i, pl.length < i + n → i ≤ pl.length → prD T pl i → post (nI (keyA (eX T pl) pl.length i)) M → w_keyEnd_2 post n (nI i) M := by
  intro n
  induction n with
  | zero => intro i h1 h2; omega
  | succ n ih =>
    intro i h1 h2 hD hp
    rw [w_keyEnd_2, hE.1]
    refine ⟨fun z => ?_, fun z => ?_⟩
    · have := (nI_leI (by omega) (by omega)).mp z
      rw [keyA_ge this] at hp; exact hp
    · have hlt : i < pl.length := by
        rcases Nat.lt_or_ge i pl.length with q | q
        · exact q
        · exact absurd (nI_le q (by omega)) z
      have hc : eX T pl i < 127 := ch_lt hT _
      have h11 : M 11 i = nI (eX T pl i) := (hE.2.2 i hlt).1
      rw [nI_clamp (n := i) (by omega), h11]
      have hv : vp_in (nI i) 300 := vp_in_nI (by omega) (by omega)
      refine ⟨hv, fun z1 => ?_, fun z1 => ⟨hv, fun z2 => ?_, fun z2 => ⟨hv, s_isBlank (by omega) (fun hb => ⟨fun z => absurd rfl z, fun _ => ⟨hv, fun z3 v ev => ?_, fun z3 v ev => ?_⟩⟩) (fun hb => ⟨fun _ => ?_, fun z => absurd z (by decide)⟩)⟩⟩⟩
      · rw [keyA_end hlt (Or.inl ((nI_eq (b := 61) (by omega) (by decide)).mp z1))] at hp; exact hp
      · rw [keyA_end hlt (Or.inr (Or.inl ((nI_eq (b := 58) (by omega) (by decide)).mp z2)))] at hp; exact hp
      · have hn : ¬ (eX T pl i = 61 ∨ eX T pl i = 58 ∨ isBl (eX T pl i) = true) := by
          rintro (q | q | q)
          · exact z1 (by rw [q]; rfl)
          · exact z2 (by rw [q]; rfl)
          · rw [hb] at q; exact absurd q (by decide)
        have h9 : eX T pl i ≠ 92 := fun q => z3 (by rw [q]; rfl)
        rw [keyA_st hlt hn, if_neg h9] at hp
        rw [ev, nI_1]
        exact ih (i + 1) (by omega) (by omega) (prD_1 hD hlt h9) hp
      · have hn : ¬ (eX T pl i = 61 ∨ eX T pl i = 58 ∨ isBl (eX T pl i) = true) := by
          rintro (q | q | q)
          · exact z1 (by rw [q]; rfl)
          · exact z2 (by rw [q]; rfl)
          · rw [hb] at q; exact absurd q (by decide)
        have h9 : eX T pl i = 92 := (nI_eq (b := 92) (by omega) (by decide)).mp z3
        obtain ⟨a, b⟩ := prD_2 hD hlt h9
        rw [keyA_st hlt hn, if_pos h9] at hp
        rw [ev, show nI i + 2 = nI (i + 2) from nI_add i 2]
        exact ih (i + 2) (by omega) (by omega) b hp
      · rw [keyA_end hlt (Or.inr (Or.inr hb))] at hp; exact hp
theorem s_overBlanks {post : Int32 → RM → Prop} {M : RM} {T : Tx} {pl : List Nat} (hE : mEn M T pl) (hT : ∀ c ∈ T, c < 127) (hpl : pl.length ≤ 300) {i0 : Nat} (hi0 : i0 ≤ pl.length) (hp : post (nI (bkA (eX T pl) pl.length i0)) M) : w_overBlanks post (nI i0) M := by
  rw [w_overBlanks]
  refine ⟨pl.length + 1, ?_⟩
  have key : ∀ n i, pl.length < i + n → i ≤ pl.length → bkA (eX T pl) pl.length i = bkA (eX T pl) pl.length i0 → w_overBlanks_2 post n (nI i) M := by
    intro n
    induction n with
    | zero => intro i h1 h2; omega
    | succ n ih =>
      intro i h1 h2 h3
      rw [w_overBlanks_2, hE.1]
      refine ⟨fun z => ?_, fun z => ?_⟩
      · have := (nI_leI (by omega) (by omega)).mp z
        have e9 : bkA (eX T pl) pl.length i = i := scan_ge this
        rw [← h3, e9] at hp; exact hp
      · have hlt : i < pl.length := by
          rcases Nat.lt_or_ge i pl.length with q | q
          · exact q
          · exact absurd (nI_le q (by omega)) z
        have hc : eX T pl i < 127 := ch_lt hT _
        have h11 : M 11 i = nI (eX T pl i) := (hE.2.2 i hlt).1
        have hst : bkA (eX T pl) pl.length i = if isBl (eX T pl i) then bkA (eX T pl) pl.length (i + 1) else i := scan_st hlt
        rw [nI_clamp (n := i) (by omega), h11]
        refine ⟨vp_in_nI (by omega) (by omega), s_isBlank (by omega) (fun hb => ⟨fun _ => ?_, fun z => absurd rfl z⟩) (fun hb => ⟨fun z => absurd z (by decide), fun _ v ev => ?_⟩)⟩
        · rw [hst, if_neg (by rw [hb]; decide)] at h3
          rw [← h3] at hp; exact hp
        · rw [ev, nI_1]
          rw [hst, if_pos hb] at h3
          exact ih (i + 1) (by omega) (by omega) h3
  exact key _ i0 (by omega) hi0 rfl
theorem s_valueBegin {post : Int32 → RM → Prop} {M : RM} {T : Tx} {pl : List Nat} (hE : mEn M T pl) (hT : ∀ c ∈ T, c < 127) (hpl : pl.length ≤ 300) {k : Nat} (hk : k ≤ pl.length) (hD : prD T pl k) (hp : post (nI (valA (eX T pl) pl.length k)) M) : w_valueBegin post (nI k) M := by
  have hb := bkA_b (T := T) (pl := pl) (pl.length - k) k (by omega) hD
  rw [w_valueBegin]
  refine s_overBlanks hE hT hpl hk ?_
  have k40 : ¬ (bkA (eX T pl) pl.length k < pl.length ∧ (eX T pl (bkA (eX T pl) pl.length k) = 61 ∨ eX T pl (bkA (eX T pl) pl.length k) = 58)) → w_valueBegin_40 post (nI (bkA (eX T pl) pl.length k)) M := by
    intro h
    unfold valA at hp
    rw [if_neg h] at hp
    rw [w_valueBegin_40, w_valueBegin_41]
    exact ⟨fun _ => hp, fun z => absurd rfl z⟩
  have k36 : (bkA (eX T pl) pl.length k < pl.length ∧ (eX T pl (bkA (eX T pl) pl.length k) = 61 ∨ eX T pl (bkA (eX T pl) pl.length k) = 58)) → w_valueBegin_36 post (nI (bkA (eX T pl) pl.length k)) M := by
    intro h
    unfold valA at hp
    rw [if_pos h] at hp
    rw [w_valueBegin_36, w_valueBegin_41]
    refine ⟨fun z => absurd z (by decide), fun _ => ?_⟩
    rw [nI_1]
    exact s_overBlanks hE hT hpl (by omega) hp
  rw [hE.1]
  refine ⟨fun z => k40 (fun q => ?_), fun z => ?_⟩
  · have := (nI_leI (by omega) (by omega)).mp z
    omega
  · have hlt : bkA (eX T pl) pl.length k < pl.length := by
      rcases Nat.lt_or_ge (bkA (eX T pl) pl.length k) pl.length with q | q
      · exact q
      · exact absurd (nI_le q (by omega)) z
    have hc : eX T pl (bkA (eX T pl) pl.length k) < 127 := ch_lt hT _
    have h11 : M 11 (bkA (eX T pl) pl.length k) = nI (eX T pl (bkA (eX T pl) pl.length k)) := (hE.2.2 _ hlt).1
    rw [nI_clamp (n := bkA (eX T pl) pl.length k) (by omega), h11]
    have hv : vp_in (nI (bkA (eX T pl) pl.length k)) 300 := vp_in_nI (by omega) (by omega)
    refine ⟨hv, fun z1 => k36 ⟨hlt, Or.inl ((nI_eq (b := 61) (by omega) (by decide)).mp z1)⟩, fun z1 => ⟨hv, fun z2 => k40 ?_, fun z2 => k36 ⟨hlt, Or.inr ((nI_eq (b := 58) (by omega) (by decide)).mp z2)⟩⟩⟩
    rintro ⟨-, q | q⟩
    · exact z1 (by rw [q]; rfl)
    · exact z2 (by rw [q]; rfl)
theorem hexF_lt {c v : Nat} (h : hexF c = some v) : v < 16 ∧ c ≠ 92 := by
  unfold hexF at h
  split at h
  · obtain rfl := Option.some.inj h; omega
  · split at h
    · obtain rfl := Option.some.inj h; omega
    · split at h
      · obtain rfl := Option.some.inj h; omega
      · exact absurd h (by simp)
theorem s_hexOf {post : Int32 → Prop} {c : Nat} (hc : c < 256) (hp : post (fI (hexF c))) : q_hexOf post (nI c) := by
  have lt : ∀ k, k < 256 → (nI c < nI k ↔ c < k) := fun k hk => nI_ltI (by omega) (by omega)
  have gt : ∀ k, k < 256 → (nI k < nI c ↔ k < c) := fun k hk => nI_ltI (by omega) (by omega)
  have k65 : ¬ (48 ≤ c ∧ c ≤ 57) → ¬ (97 ≤ c ∧ c ≤ 102) → ((nI c < 65 → post (-5)) ∧ (¬ nI c < 65 → ((70 < nI c → post (-5)) ∧ (¬ 70 < nI c → post ((nI c - 65) + 10))))) := by
    intro h1 h2
    refine ⟨fun z => ?_, fun z => ⟨fun z2 => ?_, fun z2 => ?_⟩⟩
    · have := (lt 65 (by omega)).mp z
      unfold hexF at hp
      rw [if_neg h1, if_neg h2, if_neg (by omega)] at hp; exact hp
    · have := (gt 70 (by omega)).mp z2
      unfold hexF at hp
      rw [if_neg h1, if_neg h2, if_neg (by omega)] at hp; exact hp
    · have a : ¬ c < 65 := fun q => z ((lt 65 (by omega)).mpr q)
      have b : ¬ 70 < c := fun q => z2 ((gt 70 (by omega)).mpr q)
      unfold hexF at hp
      rw [if_neg h1, if_neg h2, if_pos (by omega)] at hp
      have e : nI c - 65 + 10 = nI (c - 55) := by
        rw [show nI c - 65 = nI (c - 65) from pk_sub (b := 65) (by omega), show nI (c - 65) + 10 = nI (c - 65 + 10) from nI_add _ 10]
        congr 1; omega
      rw [e]; exact hp
  have k97 : ¬ (48 ≤ c ∧ c ≤ 57) → ((nI c < 97 → ((nI c < 65 → post (-5)) ∧ (¬ nI c < 65 → ((70 < nI c → post (-5)) ∧ (¬ 70 < nI c → post ((nI c - 65) + 10)))))) ∧ (¬ nI c < 97 → ((102 < nI c → ((nI c < 65 → post (-5)) ∧ (¬ nI c < 65 → ((70 < nI c → post (-5)) ∧ (¬ 70 < nI c → post ((nI c - 65) + 10)))))) ∧ (¬ 102 < nI c → post ((nI c - 97) + 10))))) := by
    intro h1
    refine ⟨fun z => k65 h1 ?_, fun z => ⟨fun z2 => k65 h1 ?_, fun z2 => ?_⟩⟩
    · have := (lt 97 (by omega)).mp z
      omega
    · have := (gt 102 (by omega)).mp z2
      omega
    · have a : ¬ c < 97 := fun q => z ((lt 97 (by omega)).mpr q)
      have b : ¬ 102 < c := fun q => z2 ((gt 102 (by omega)).mpr q)
      unfold hexF at hp
      rw [if_neg h1, if_pos (by omega)] at hp
      have e : nI c - 97 + 10 = nI (c - 87) := by
        rw [show nI c - 97 = nI (c - 97) from pk_sub (b := 97) (by omega), show nI (c - 97) + 10 = nI (c - 97 + 10) from nI_add _ 10]
        congr 1; omega
      rw [e]; exact hp
  rw [q_hexOf]
  refine ⟨fun z => k97 ?_, fun z => ⟨fun z2 => k97 ?_, fun z2 => ?_⟩⟩
  · have := (lt 48 (by omega)).mp z
    omega
  · have := (gt 57 (by omega)).mp z2
    omega
  · have a : ¬ c < 48 := fun q => z ((lt 48 (by omega)).mpr q)
    have b : ¬ 57 < c := fun q => z2 ((gt 57 (by omega)).mpr q)
    unfold hexF at hp
    rw [if_pos (by omega)] at hp
    rw [show nI c - 48 = nI (c - 48) from pk_sub (b := 48) (by omega)]; exact hp
theorem numG_some {X : Nat → Nat} : ∀ (k a p : Nat) {v : Nat}, numG X k a p = some v → v ≤ 255 ∧ ∀ j, j < k → X (p + j) ≠ 92
  | 0, a, p, v, h => by
    rw [numG] at h
    split at h
    · obtain rfl := Option.some.inj h
      exact ⟨by assumption, fun j hj => absurd hj (by omega)⟩
    · exact absurd h (by simp)
  | k + 1, a, p, v, h => by
    rw [numG] at h
    cases hx : hexF (X p) with
    | none => rw [hx] at h; exact absurd h (by simp)
    | some w =>
      rw [hx] at h
      obtain ⟨h1, h2⟩ := numG_some k _ _ h
      refine ⟨h1, fun j hj => ?_⟩
      cases j with
      | zero => exact (hexF_lt hx).2
      | succ j => have := h2 j (by omega); rw [show p + (j + 1) = p + 1 + j by omega]; exact this
theorem s_numberAt {post : Int32 → RM → Prop} {M : RM} {T : Tx} {pl : List Nat} (hE : mEn M T pl) (hT : ∀ c ∈ T, c < 127) (hpl : pl.length ≤ 300) {a to : Nat} (hto : to ≤ pl.length) (ha : a ≤ 600) (hp : post (fI (numF (eX T pl) a to)) M) : w_numberAt post (nI a) (nI to) M := by
  rw [w_numberAt, show nI a + 4 = nI (a + 4) from nI_add a 4]
  refine ⟨fun z => ⟨5, ?_⟩, fun z => ?_⟩
  · have hle := (nI_leI (by omega) (by omega)).mp z
    unfold numF at hp
    rw [if_pos hle] at hp
    have key : ∀ k acc p, k ≤ 4 → p + k = a + 4 → (k = 4 → acc < 1) → (k = 3 → acc < 16) → (k = 2 → acc < 256) → (k = 1 → acc < 4096) → (k = 0 → acc < 65536) → numG (eX T pl) k acc p = numG (eX T pl) 4 0 a → w_numberAt_15 post (k + 1) (nI a) (nI acc) (nI p) M := by
      intro k
      induction k with
      | zero =>
        intro acc p hk hpk b4 b3 b2 b1 b0 hG
        have b0 := b0 rfl
        rw [w_numberAt_15, show nI a + 4 = nI (a + 4) from nI_add a 4]
        rw [← hG, numG] at hp
        refine ⟨fun _ => ⟨fun z => ?_, fun z => ?_⟩, fun z => absurd (nI_le (by omega) (by omega)) z⟩
        · rw [if_pos ((nI_leI (b := 255) (by omega) (by decide)).mp z)] at hp; exact hp
        · rw [if_neg (fun q => z (nI_le (b := 255) q (by decide)))] at hp; exact hp
      | succ k ih =>
        intro acc p hk hpk b4 b3 b2 b1 b0 hG
        have hlt : p < pl.length := by omega
        have hc : eX T pl p < 127 := ch_lt hT _
        have h11 : M 11 p = nI (eX T pl p) := (hE.2.2 p hlt).1
        rw [w_numberAt_15, show nI a + 4 = nI (a + 4) from nI_add a 4, nI_clamp (n := p) (by omega), h11]
        refine ⟨fun z => absurd z (nI_ge (by omega) (by omega)), fun _ => ⟨vp_in_nI (by omega) (by omega), s_hexOf (by omega) ?_⟩⟩
        rw [numG] at hG
        cases hx : hexF (eX T pl p) with
        | none =>
          rw [hx] at hG
          have hG' : none = numG (eX T pl) 4 0 a := hG
          rw [← hG'] at hp
          exact ⟨fun z => absurd z (by decide), fun _ => hp⟩
        | some v =>
          rw [hx] at hG
          have hv := (hexF_lt hx).1
          refine ⟨fun _ v8 e8 v9 e9 => ?_, fun z => absurd (nI_pos' (by omega)) z⟩
          have e16 : (16 : Int32) * nI acc + fI (some v) = nI (16 * acc + v) := by
            show (16 : Int32) * nI acc + nI v = _
            rw [show (16 : Int32) * nI acc = nI (16 * acc) from pk_mul 16 acc, nI_add]
          rw [e8, e9, e16, nI_1]
          refine ih (16 * acc + v) (p + 1) (by omega) (by omega) (fun q => by omega) (fun q => ?_) (fun q => ?_) (fun q => ?_) (fun q => ?_) hG
          · have := b4 (by omega); omega
          · have := b3 (by omega); omega
          · have := b2 (by omega); omega
          · have := b1 (by omega); omega
    exact key 4 0 a (by omega) (by omega) (fun _ => by omega) (fun q => by omega) (fun q => by omega) (fun q => by omega) (fun q => by omega) rfl
  · unfold numF at hp
    rw [if_neg (fun q => z (nI_le q (by omega)))] at hp; exact hp
def brI (pl : List Nat) : Option Nat → Int32
  | none => -5
  | some b => nI (pl.getD b 0)
theorem escC_lt {d : Nat} (h : d < 127) : escC d < 256 := by
  unfold escC
  split
  · omega
  · split
    · omega
    · split <;> omega
theorem s_decode_10 {post : Int32 → RM → Prop} {M0 : RM} {T : Tx} {pl : List Nat} {a to : Nat} {Q : Nat → Prop} (hT : ∀ c ∈ T, c < 127) (hpl : pl.length ≤ 300) (hto : to ≤ pl.length) (ha : a + 301 ≤ 2408) (ha2 : 1806 ≤ a) (hE0 : mEn M0 T pl)
    (hQ1 : ∀ i, Q i → i < to → eX T pl i ≠ 92 → (Q (i + 1) ∨ hexF (eX T pl i) = none ∧ Q (i + 1))) (hQ2 : ∀ i, Q i → i < to → eX T pl i = 92 → i + 1 < to ∧ Q (i + 2)) : ∀ n i t M, to < i + n → i ≤ to → Q i → t.length ≤ i → mF M0 M a (a + 301) → mT M a t → (∀ M', mF M0 M' a (a + 301) → mT M' a (decG (eX T pl) to n i t).2 → post (brI pl (decG (eX T pl) to n i t).1) M') → w_decode_10 post n (nI to) (nI a) (nI i) M := by
  have hQ1' : ∀ i, Q i → i < to → eX T pl i ≠ 92 → Q (i + 1) := fun i h1 h2 h3 => by
    rcases hQ1 i h1 h2 h3 with q | q
    · exact q
    · exact q.2
  intro n
  induction n with
  | zero => intro i t M h1 h2; omega
  | succ n ih =>
    intro i t M h1 h2 hQ ht hF hM hp
    have hE := hE0.z hF
    rw [w_decode_10]
    refine ⟨fun z => ?_, fun z => ?_⟩
    · have hge := (nI_leI (by omega) (by omega)).mp z
      rw [decG, if_pos hge] at hp
      exact hp M hF hM
    · have hlt : i < to := by
        rcases Nat.lt_or_ge i to with q | q
        · exact q
        · exact absurd (nI_le q (by omega)) z
      have hc : eX T pl i < 127 := ch_lt hT _
      have h11 : M 11 i = nI (eX T pl i) := (hE.2.2 i (by omega)).1
      rw [decG, if_neg (by omega)] at hp
      rw [nI_clamp (n := i) (by omega), h11]
      refine ⟨vp_in_nI (by omega) (by omega), fun z1 => ?_, fun z1 => ⟨vp_in_nI (by omega) (by omega), ?_⟩⟩
      · have h9 : eX T pl i = 92 := (nI_eq (b := 92) (by omega) (by decide)).mp z1
        obtain ⟨q1, q2⟩ := hQ2 i hQ hlt h9
        have hc2 : eX T pl (i + 1) < 127 := ch_lt hT _
        have h112 : M 11 (i + 1) = nI (eX T pl (i + 1)) := (hE.2.2 (i + 1) (by omega)).1
        rw [if_pos h9] at hp
        rw [nI_1, nI_clamp (n := i + 1) (by omega), h112]
        refine ⟨vp_in_nI (by omega) (by omega), fun z2 => ⟨vp_in_nI (by omega) (by omega), fun v10 e10 => ?_⟩, fun z2 => ?_⟩
        · have hne : eX T pl (i + 1) ≠ 117 := fun q => z2 (by rw [q]; rfl)
          rw [if_neg hne] at hp
          have k148 : ∀ x : Int32, x = nI (escC (eX T pl (i + 1))) → w_decode_148 post (w_decode_10 post n) (nI to) (nI a) (nI i) x (nI a) M := by
            intro x hx
            rw [w_decode_148, hx]
            refine s_addSign hM (by omega) (by omega) (escC_lt hc2) (fun M23 h23 f23 v ev => ?_)
            rw [ev, show nI i + 2 = nI (i + 2) from nI_add i 2]
            exact ih (i + 2) _ M23 (by omega) (by omega) q2 (by simp; omega) (hF.tr f23) h23 hp
          rw [e10]
          refine ⟨fun w1 => ⟨fun w2 => ⟨fun w3 => k148 _ ?_, fun w3 => k148 _ ?_⟩, fun w2 => k148 _ ?_⟩, fun w1 => k148 _ ?_⟩
          · unfold escC
            rw [if_neg (fun q => w1 (by rw [q]; rfl)), if_neg (fun q => w2 (by rw [q]; rfl)), if_neg (fun q => w3 (by rw [q]; rfl))]
          · have := (nI_eq (b := 114) (by omega) (by decide)).mp w3
            rw [this]; rfl
          · have := (nI_eq (b := 110) (by omega) (by decide)).mp w2
            rw [this]; rfl
          · have := (nI_eq (b := 116) (by omega) (by decide)).mp w1
            rw [this]; rfl
        · have he : eX T pl (i + 1) = 117 := (nI_eq (b := 117) (by omega) (by decide)).mp z2
          rw [if_pos he] at hp
          rw [show nI i + 2 = nI (i + 2) from nI_add i 2]
          refine s_numberAt hE hT hpl hto (by omega) ?_
          cases hn : numF (eX T pl) (i + 2) to with
          | none =>
            rw [hn] at hp
            have h12 : M 12 i = nI (pl.getD i 0) := (hE.2.2 i (by omega)).2
            refine ⟨fun z => absurd z (by decide), fun _ => ⟨vp_in_nI (by omega) (by omega), ?_⟩⟩
            rw [h12]
            exact hp M hF hM
          | some v =>
            rw [hn] at hp
            have h4 : i + 2 + 4 ≤ to := by
              unfold numF at hn
              split at hn
              · assumption
              · exact absurd hn (by simp)
            have hG : numG (eX T pl) 4 0 (i + 2) = some v := by
              unfold numF at hn
              rw [if_pos h4] at hn; exact hn
            obtain ⟨g1, g2⟩ := numG_some 4 0 (i + 2) hG
            have a0 := g2 0 (by omega)
            have a1 := g2 1 (by omega)
            have a2 := g2 2 (by omega)
            have a3 := g2 3 (by omega)
            have r0 := hQ1' (i + 2) q2 (by omega) a0
            have r1 := hQ1' (i + 3) r0 (by omega) a1
            have r2 := hQ1' (i + 4) r1 (by omega) a2
            have r3 := hQ1' (i + 5) r2 (by omega) a3
            refine ⟨fun _ => ?_, fun z => absurd (nI_pos' (by omega)) z⟩
            refine s_addSign (c := v) hM (by omega) (by omega) (by omega) (fun M17 h17 f17 w ew => ?_)
            rw [ew, show nI i + 6 = nI (i + 6) from nI_add i 6]
            exact ih (i + 6) _ M17 (by omega) (by omega) r3 (by simp; omega) (hF.tr f17) h17 hp
      · have h9 : eX T pl i ≠ 92 := fun q => z1 (by rw [q]; rfl)
        rw [if_neg h9] at hp
        refine s_addSign hM (by omega) (by omega) (by omega) (fun M21 h21 f21 v ev => ?_)
        rw [ev, nI_1]
        exact ih (i + 1) _ M21 (by omega) (by omega) (hQ1' i hQ hlt h9) (by simp; omega) (hF.tr f21) h21 hp
theorem s_decode {post : Int32 → RM → Prop} {M : RM} {T : Tx} {pl : List Nat} {a i to : Nat} {Q : Nat → Prop} (hT : ∀ c ∈ T, c < 127) (hpl : pl.length ≤ 300) (hto : to ≤ pl.length) (ha : a + 301 ≤ 2408) (ha2 : 1806 ≤ a) (hE : mEn M T pl) (hi : i ≤ to) (hQ : Q i)
    (hQ1 : ∀ i, Q i → i < to → eX T pl i ≠ 92 → Q (i + 1)) (hQ2 : ∀ i, Q i → i < to → eX T pl i = 92 → i + 1 < to ∧ Q (i + 2)) (hp : ∀ M', mF M M' a (a + 301) → mT M' a (decA (eX T pl) i to).2 → post (brI pl (decA (eX T pl) i to).1) M') : w_decode post (nI i) (nI to) (nI a) M := by
  rw [w_decode, nI_clamp (n := a) (by omega)]
  refine ⟨vp_in_nI (by omega) (by omega), fun M2 e2 => ⟨to + 1, ?_⟩⟩
  refine s_decode_10 (Q := Q) hT hpl hto ha ha2 hE (fun i h1 h2 h3 => Or.inl (hQ1 i h1 h2 h3)) hQ2 (to + 1) i [] M2 (by omega) hi hQ (by simp) ?_ ?_ hp
  · rw [e2]; exact mF.up _ mF.rf (by omega) (by omega)
  · exact mO.nil (by rw [e2, upR_at])
