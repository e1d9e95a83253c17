/-! THE LAW, pure: both programs answer by the same op_ -/
theorem op_length_st (x : Int32) (s : AS) : (op_length x s).2 = s := by
  unfold op_length; (repeat' split) <;> rfl
theorem op_characterAt_st (x y : Int32) (s : AS) : (op_characterAt x y s).2 = s := by
  unfold op_characterAt; (repeat' split) <;> rfl
theorem op_same_st (x y : Int32) (s : AS) : (op_same x y s).2 = s := by
  unfold op_same; (repeat' split) <;> rfl
theorem op_tapeLength_st (s : AS) : (op_tapeLength  s).2 = s := by
  unfold op_tapeLength; (repeat' split) <;> rfl
theorem op_tapeAt_st (x : Int32) (s : AS) : (op_tapeAt x s).2 = s := by
  unfold op_tapeAt; (repeat' split) <;> rfl
theorem op_refusals_st (x : Int32) (s : AS) : (op_refusals x s).2 = s := by
  unfold op_refusals; (repeat' split) <;> rfl
theorem op_size_st (x : Int32) (s : AS) : (op_size x s).2 = s := by
  unfold op_size; (repeat' split) <;> rfl
theorem op_digest_st (x : Int32) (s : AS) : (op_digest x s).2 = s := by
  unfold op_digest; (repeat' split) <;> rfl
theorem op_alike_st (x y : Int32) (s : AS) : (op_alike x y s).2 = s := by
  unfold op_alike; (repeat' split) <;> rfl
theorem op_more_st (x : Int32) (s : AS) : (op_more x s).2 = s := by
  unfold op_more; (repeat' split) <;> rfl
theorem op_count_st (x : Int32) (s : AS) : (op_count x s).2 = s := by
  unfold op_count; (repeat' split) <;> rfl
theorem op_joinedLength_st (x : Int32) (s : AS) : (op_joinedLength x s).2 = s := by
  unfold op_joinedLength; (repeat' split) <;> rfl
section CREP
variable {u : hU} {d L : Nat} {s : AS} {S : hS} {M : RM} {xs : Nat → Int32}
theorem cRep.o (h : cRep u d s S) : ∃ fs, rO S d 10 fs := by
  obtain ⟨mm, ad, lv, ⟨_, h0⟩, hw, ⟨h1, sr, sg, lp, h2, _⟩, _⟩ := h
  exact ⟨_, by rw [← h0]; exact hw.at h1, by rw [← h0]; exact h2⟩
theorem vin_law {x j : Nat} (hx : x + 5 ≤ L) (hL : L < 2 ^ 30) (hj : j < 5) : vp_in (nI x + nI j) L := by
  rw [nI_add]; exact vp_in_nI (by omega) (by omega)
theorem l_c0 {K : Int32 → hS → RM → Nat → Nat → Prop} {x mc ms : Nat} (hx : x + 5 ≤ L) (hL : L < 2 ^ 30) (hR : cRep u d s S) (hM : rRep s M) (hmc : 1150 ≤ mc) (hms : 13600 ≤ ms)
    (hK : ∀ s' S' M' mc' ms', cRep u d s' S' → rRep s' M' → mc ≤ mc' + 1150 → ms ≤ ms' + 13600 → K (nI x) S' M' mc' ms') : w_law_c0 u d L xs K (nI x) S M mc ms := by
  rw [w_law_c0]
  exact ⟨vin_law (j := 1) hx hL (by omega), hR.o, c_erase _ hR (fun S1 h1 => ⟨vin_law (j := 1) hx hL (by omega), r_erase _ hM (fun M1 h2 => ⟨fun _ => hK _ S1 M1 mc ms h1 h2 (by omega) (by omega), fun z => absurd rfl z⟩)⟩)⟩
theorem l_c1 {K : Int32 → hS → RM → Nat → Nat → Prop} {x mc ms : Nat} (hx : x + 5 ≤ L) (hL : L < 2 ^ 30) (hR : cRep u d s S) (hM : rRep s M) (hmc : 1150 ≤ mc) (hms : 13600 ≤ ms)
    (hK : ∀ s' S' M' mc' ms', cRep u d s' S' → rRep s' M' → mc ≤ mc' + 1150 → ms ≤ ms' + 13600 → K (nI x) S' M' mc' ms') : w_law_c1 u d L xs K (nI x) S M mc ms := by
  rw [w_law_c1]
  exact ⟨vin_law (j := 1) hx hL (by omega), hR.o, c_forget _ hR (fun S1 h1 => ⟨vin_law (j := 1) hx hL (by omega), r_forget _ hM (fun M1 h2 => ⟨fun _ => hK _ S1 M1 mc ms h1 h2 (by omega) (by omega), fun z => absurd rfl z⟩)⟩)⟩
theorem l_c2 {K : Int32 → hS → RM → Nat → Nat → Prop} {x mc ms : Nat} (hx : x + 5 ≤ L) (hL : L < 2 ^ 30) (hR : cRep u d s S) (hM : rRep s M) (hmc : 1150 ≤ mc) (hms : 13600 ≤ ms)
    (hK : ∀ s' S' M' mc' ms', cRep u d s' S' → rRep s' M' → mc ≤ mc' + 1150 → ms ≤ ms' + 13600 → K (nI x) S' M' mc' ms') : w_law_c2 u d L xs K (nI x) S M mc ms := by
  rw [w_law_c2]
  exact ⟨vin_law (j := 1) hx hL (by omega), vin_law (j := 2) hx hL (by omega), hR.o, 1150, 13600, by omega, by omega, c_append (by omega) (by omega) _ _ hR (fun S1 h1 => ⟨vin_law (j := 1) hx hL (by omega), vin_law (j := 2) hx hL (by omega), r_append _ _ hM (fun M1 h2 => ⟨fun _ => hK _ S1 M1 (mc - 1150) (ms - 13600) h1 h2 (by omega) (by omega), fun z => absurd rfl z⟩)⟩)⟩
theorem l_c3 {K : Int32 → hS → RM → Nat → Nat → Prop} {x mc ms : Nat} (hx : x + 5 ≤ L) (hL : L < 2 ^ 30) (hR : cRep u d s S) (hM : rRep s M) (hmc : 1150 ≤ mc) (hms : 13600 ≤ ms)
    (hK : ∀ s' S' M' mc' ms', cRep u d s' S' → rRep s' M' → mc ≤ mc' + 1150 → ms ≤ ms' + 13600 → K (nI x) S' M' mc' ms') : w_law_c3 u d L xs K (nI x) S M mc ms := by
  rw [w_law_c3]
  exact ⟨vin_law (j := 1) hx hL (by omega), hR.o, c_length _ hR ⟨vin_law (j := 1) hx hL (by omega), r_length _ hM (fun M1 h2 => ⟨fun _ => hK s S M1 mc ms hR (by rw [op_length_st] at h2; exact h2) (by omega) (by omega), fun z => absurd rfl z⟩)⟩⟩
theorem l_c4 {K : Int32 → hS → RM → Nat → Nat → Prop} {x mc ms : Nat} (hx : x + 5 ≤ L) (hL : L < 2 ^ 30) (hR : cRep u d s S) (hM : rRep s M) (hmc : 1150 ≤ mc) (hms : 13600 ≤ ms)
    (hK : ∀ s' S' M' mc' ms', cRep u d s' S' → rRep s' M' → mc ≤ mc' + 1150 → ms ≤ ms' + 13600 → K (nI x) S' M' mc' ms') : w_law_c4 u d L xs K (nI x) S M mc ms := by
  rw [w_law_c4]
  exact ⟨vin_law (j := 1) hx hL (by omega), vin_law (j := 2) hx hL (by omega), hR.o, c_characterAt _ _ hR ⟨vin_law (j := 1) hx hL (by omega), vin_law (j := 2) hx hL (by omega), r_characterAt _ _ hM (fun M1 h2 => ⟨fun _ => hK s S M1 mc ms hR (by rw [op_characterAt_st] at h2; exact h2) (by omega) (by omega), fun z => absurd rfl z⟩)⟩⟩
theorem l_c5 {K : Int32 → hS → RM → Nat → Nat → Prop} {x mc ms : Nat} (hx : x + 5 ≤ L) (hL : L < 2 ^ 30) (hR : cRep u d s S) (hM : rRep s M) (hmc : 1150 ≤ mc) (hms : 13600 ≤ ms)
    (hK : ∀ s' S' M' mc' ms', cRep u d s' S' → rRep s' M' → mc ≤ mc' + 1150 → ms ≤ ms' + 13600 → K (nI x) S' M' mc' ms') : w_law_c5 u d L xs K (nI x) S M mc ms := by
  rw [w_law_c5]
  exact ⟨vin_law (j := 1) hx hL (by omega), vin_law (j := 2) hx hL (by omega), hR.o, c_copy _ _ hR (fun S1 h1 => ⟨vin_law (j := 1) hx hL (by omega), vin_law (j := 2) hx hL (by omega), r_copy _ _ hM (fun M1 h2 => ⟨fun _ => hK _ S1 M1 mc ms h1 h2 (by omega) (by omega), fun z => absurd rfl z⟩)⟩)⟩
theorem l_c6 {K : Int32 → hS → RM → Nat → Nat → Prop} {x mc ms : Nat} (hx : x + 5 ≤ L) (hL : L < 2 ^ 30) (hR : cRep u d s S) (hM : rRep s M) (hmc : 1150 ≤ mc) (hms : 13600 ≤ ms)
    (hK : ∀ s' S' M' mc' ms', cRep u d s' S' → rRep s' M' → mc ≤ mc' + 1150 → ms ≤ ms' + 13600 → K (nI x) S' M' mc' ms') : w_law_c6 u d L xs K (nI x) S M mc ms := by
  rw [w_law_c6]
  exact ⟨vin_law (j := 1) hx hL (by omega), vin_law (j := 2) hx hL (by omega), hR.o, c_same _ _ hR ⟨vin_law (j := 1) hx hL (by omega), vin_law (j := 2) hx hL (by omega), r_same _ _ hM (fun M1 h2 => ⟨fun _ => hK s S M1 mc ms hR (by rw [op_same_st] at h2; exact h2) (by omega) (by omega), fun z => absurd rfl z⟩)⟩⟩
theorem l_c7 {K : Int32 → hS → RM → Nat → Nat → Prop} {x mc ms : Nat} (hx : x + 5 ≤ L) (hL : L < 2 ^ 30) (hR : cRep u d s S) (hM : rRep s M) (hmc : 1150 ≤ mc) (hms : 13600 ≤ ms)
    (hK : ∀ s' S' M' mc' ms', cRep u d s' S' → rRep s' M' → mc ≤ mc' + 1150 → ms ≤ ms' + 13600 → K (nI x) S' M' mc' ms') : w_law_c7 u d L xs K (nI x) S M mc ms := by
  rw [w_law_c7]
  exact ⟨vin_law (j := 1) hx hL (by omega), hR.o, 1150, 13600, by omega, by omega, c_type (by omega) (by omega) _ hR (fun S1 h1 => ⟨vin_law (j := 1) hx hL (by omega), r_type _ hM (fun M1 h2 => ⟨fun _ => hK _ S1 M1 (mc - 1150) (ms - 13600) h1 h2 (by omega) (by omega), fun z => absurd rfl z⟩)⟩)⟩
theorem l_c8 {K : Int32 → hS → RM → Nat → Nat → Prop} {x mc ms : Nat} (hx : x + 5 ≤ L) (hL : L < 2 ^ 30) (hR : cRep u d s S) (hM : rRep s M) (hmc : 1150 ≤ mc) (hms : 13600 ≤ ms)
    (hK : ∀ s' S' M' mc' ms', cRep u d s' S' → rRep s' M' → mc ≤ mc' + 1150 → ms ≤ ms' + 13600 → K (nI x) S' M' mc' ms') : w_law_c8 u d L xs K (nI x) S M mc ms := by
  rw [w_law_c8]
  exact ⟨hR.o, c_tapeLength  hR (r_tapeLength hM (fun M1 h2 => ⟨fun _ => hK s S M1 mc ms hR (by rw [op_tapeLength_st] at h2; exact h2) (by omega) (by omega), fun z => absurd rfl z⟩))⟩
theorem l_c9 {K : Int32 → hS → RM → Nat → Nat → Prop} {x mc ms : Nat} (hx : x + 5 ≤ L) (hL : L < 2 ^ 30) (hR : cRep u d s S) (hM : rRep s M) (hmc : 1150 ≤ mc) (hms : 13600 ≤ ms)
    (hK : ∀ s' S' M' mc' ms', cRep u d s' S' → rRep s' M' → mc ≤ mc' + 1150 → ms ≤ ms' + 13600 → K (nI x) S' M' mc' ms') : w_law_c9 u d L xs K (nI x) S M mc ms := by
  rw [w_law_c9]
  exact ⟨vin_law (j := 1) hx hL (by omega), hR.o, c_tapeAt _ hR ⟨vin_law (j := 1) hx hL (by omega), r_tapeAt _ hM (fun M1 h2 => ⟨fun _ => hK s S M1 mc ms hR (by rw [op_tapeAt_st] at h2; exact h2) (by omega) (by omega), fun z => absurd rfl z⟩)⟩⟩
theorem l_c10 {K : Int32 → hS → RM → Nat → Nat → Prop} {x mc ms : Nat} (hx : x + 5 ≤ L) (hL : L < 2 ^ 30) (hR : cRep u d s S) (hM : rRep s M) (hmc : 1150 ≤ mc) (hms : 13600 ≤ ms)
    (hK : ∀ s' S' M' mc' ms', cRep u d s' S' → rRep s' M' → mc ≤ mc' + 1150 → ms ≤ ms' + 13600 → K (nI x) S' M' mc' ms') : w_law_c10 u d L xs K (nI x) S M mc ms := by
  rw [w_law_c10]
  exact ⟨hR.o, 1150, 13600, by omega, by omega, c_wipe  hR (fun S1 h1 => (r_wipe hM (fun M1 h2 => ⟨fun _ => hK _ S1 M1 (mc - 1150) (ms - 13600) h1 h2 (by omega) (by omega), fun z => absurd rfl z⟩)))⟩
theorem l_c11 {K : Int32 → hS → RM → Nat → Nat → Prop} {x mc ms : Nat} (hx : x + 5 ≤ L) (hL : L < 2 ^ 30) (hR : cRep u d s S) (hM : rRep s M) (hmc : 1150 ≤ mc) (hms : 13600 ≤ ms)
    (hK : ∀ s' S' M' mc' ms', cRep u d s' S' → rRep s' M' → mc ≤ mc' + 1150 → ms ≤ ms' + 13600 → K (nI x) S' M' mc' ms') : w_law_c11 u d L xs K (nI x) S M mc ms := by
  rw [w_law_c11]
  exact ⟨vin_law (j := 1) hx hL (by omega), hR.o, 1150, 13600, by omega, by omega, c_load (by omega) (by omega) _ hR (fun S1 h1 => ⟨vin_law (j := 1) hx hL (by omega), r_load _ hM (fun M1 h2 => ⟨fun _ => hK _ S1 M1 (mc - 1150) (ms - 13600) h1 h2 (by omega) (by omega), fun z => absurd rfl z⟩)⟩)⟩
theorem l_c12 {K : Int32 → hS → RM → Nat → Nat → Prop} {x mc ms : Nat} (hx : x + 5 ≤ L) (hL : L < 2 ^ 30) (hR : cRep u d s S) (hM : rRep s M) (hmc : 1150 ≤ mc) (hms : 13600 ≤ ms)
    (hK : ∀ s' S' M' mc' ms', cRep u d s' S' → rRep s' M' → mc ≤ mc' + 1150 → ms ≤ ms' + 13600 → K (nI x) S' M' mc' ms') : w_law_c12 u d L xs K (nI x) S M mc ms := by
  rw [w_law_c12]
  exact ⟨hR.o, 1150, 13600, by omega, by omega, c_brokenAt (by omega) (by omega)  hR (fun S1 h1 => (r_brokenAt hM (fun M1 h2 => ⟨fun _ => hK _ S1 M1 (mc - 1150) (ms - 13600) h1 h2 (by omega) (by omega), fun z => absurd rfl z⟩)))⟩
theorem l_c13 {K : Int32 → hS → RM → Nat → Nat → Prop} {x mc ms : Nat} (hx : x + 5 ≤ L) (hL : L < 2 ^ 30) (hR : cRep u d s S) (hM : rRep s M) (hmc : 1150 ≤ mc) (hms : 13600 ≤ ms)
    (hK : ∀ s' S' M' mc' ms', cRep u d s' S' → rRep s' M' → mc ≤ mc' + 1150 → ms ≤ ms' + 13600 → K (nI x) S' M' mc' ms') : w_law_c13 u d L xs K (nI x) S M mc ms := by
  rw [w_law_c13]
  exact ⟨vin_law (j := 1) hx hL (by omega), hR.o, 1150, 13600, by omega, by omega, c_write (by omega) (by omega) _ hR (fun S1 h1 => ⟨vin_law (j := 1) hx hL (by omega), r_write _ hM (fun M1 h2 => ⟨fun _ => hK _ S1 M1 (mc - 1150) (ms - 13600) h1 h2 (by omega) (by omega), fun z => absurd rfl z⟩)⟩)⟩
theorem l_c14 {K : Int32 → hS → RM → Nat → Nat → Prop} {x mc ms : Nat} (hx : x + 5 ≤ L) (hL : L < 2 ^ 30) (hR : cRep u d s S) (hM : rRep s M) (hmc : 1150 ≤ mc) (hms : 13600 ≤ ms)
    (hK : ∀ s' S' M' mc' ms', cRep u d s' S' → rRep s' M' → mc ≤ mc' + 1150 → ms ≤ ms' + 13600 → K (nI x) S' M' mc' ms') : w_law_c14 u d L xs K (nI x) S M mc ms := by
  rw [w_law_c14]
  exact ⟨vin_law (j := 1) hx hL (by omega), vin_law (j := 2) hx hL (by omega), vin_law (j := 3) hx hL (by omega), hR.o, c_get _ _ _ hR (fun S1 h1 => ⟨vin_law (j := 1) hx hL (by omega), vin_law (j := 2) hx hL (by omega), vin_law (j := 3) hx hL (by omega), r_getKey _ _ _ hM (fun M1 h2 => ⟨fun _ => hK _ S1 M1 mc ms h1 h2 (by omega) (by omega), fun z => absurd rfl z⟩)⟩)⟩
theorem l_c15 {K : Int32 → hS → RM → Nat → Nat → Prop} {x mc ms : Nat} (hx : x + 5 ≤ L) (hL : L < 2 ^ 30) (hR : cRep u d s S) (hM : rRep s M) (hmc : 1150 ≤ mc) (hms : 13600 ≤ ms)
    (hK : ∀ s' S' M' mc' ms', cRep u d s' S' → rRep s' M' → mc ≤ mc' + 1150 → ms ≤ ms' + 13600 → K (nI x) S' M' mc' ms') : w_law_c15 u d L xs K (nI x) S M mc ms := by
  rw [w_law_c15]
  exact ⟨vin_law (j := 1) hx hL (by omega), vin_law (j := 2) hx hL (by omega), vin_law (j := 3) hx hL (by omega), vin_law (j := 4) hx hL (by omega), hR.o, c_getOr _ _ _ _ hR (fun S1 h1 => ⟨vin_law (j := 1) hx hL (by omega), vin_law (j := 2) hx hL (by omega), vin_law (j := 3) hx hL (by omega), vin_law (j := 4) hx hL (by omega), r_getOr _ _ _ _ hM (fun M1 h2 => ⟨fun _ => hK _ S1 M1 mc ms h1 h2 (by omega) (by omega), fun z => absurd rfl z⟩)⟩)⟩
theorem l_c16 {K : Int32 → hS → RM → Nat → Nat → Prop} {x mc ms : Nat} (hx : x + 5 ≤ L) (hL : L < 2 ^ 30) (hR : cRep u d s S) (hM : rRep s M) (hmc : 1150 ≤ mc) (hms : 13600 ≤ ms)
    (hK : ∀ s' S' M' mc' ms', cRep u d s' S' → rRep s' M' → mc ≤ mc' + 1150 → ms ≤ ms' + 13600 → K (nI x) S' M' mc' ms') : w_law_c16 u d L xs K (nI x) S M mc ms := by
  rw [w_law_c16]
  exact ⟨vin_law (j := 1) hx hL (by omega), vin_law (j := 2) hx hL (by omega), hR.o, c_has _ _ hR (fun S1 h1 => ⟨vin_law (j := 1) hx hL (by omega), vin_law (j := 2) hx hL (by omega), r_has _ _ hM (fun M1 h2 => ⟨fun _ => hK _ S1 M1 mc ms h1 h2 (by omega) (by omega), fun z => absurd rfl z⟩)⟩)⟩
theorem l_c17 {K : Int32 → hS → RM → Nat → Nat → Prop} {x mc ms : Nat} (hx : x + 5 ≤ L) (hL : L < 2 ^ 30) (hR : cRep u d s S) (hM : rRep s M) (hmc : 1150 ≤ mc) (hms : 13600 ≤ ms)
    (hK : ∀ s' S' M' mc' ms', cRep u d s' S' → rRep s' M' → mc ≤ mc' + 1150 → ms ≤ ms' + 13600 → K (nI x) S' M' mc' ms') : w_law_c17 u d L xs K (nI x) S M mc ms := by
  rw [w_law_c17]
  exact ⟨vin_law (j := 1) hx hL (by omega), vin_law (j := 2) hx hL (by omega), hR.o, c_layerOf _ _ hR (fun S1 h1 => ⟨vin_law (j := 1) hx hL (by omega), vin_law (j := 2) hx hL (by omega), r_layerOf _ _ hM (fun M1 h2 => ⟨fun _ => hK _ S1 M1 mc ms h1 h2 (by omega) (by omega), fun z => absurd rfl z⟩)⟩)⟩
theorem l_c18 {K : Int32 → hS → RM → Nat → Nat → Prop} {x mc ms : Nat} (hx : x + 5 ≤ L) (hL : L < 2 ^ 30) (hR : cRep u d s S) (hM : rRep s M) (hmc : 1150 ≤ mc) (hms : 13600 ≤ ms)
    (hK : ∀ s' S' M' mc' ms', cRep u d s' S' → rRep s' M' → mc ≤ mc' + 1150 → ms ≤ ms' + 13600 → K (nI x) S' M' mc' ms') : w_law_c18 u d L xs K (nI x) S M mc ms := by
  rw [w_law_c18]
  exact ⟨vin_law (j := 1) hx hL (by omega), vin_law (j := 2) hx hL (by omega), vin_law (j := 3) hx hL (by omega), vin_law (j := 4) hx hL (by omega), hR.o, 1150, 13600, by omega, by omega, c_set (by omega) (by omega) _ _ _ _ hR (fun S1 h1 => ⟨vin_law (j := 1) hx hL (by omega), vin_law (j := 2) hx hL (by omega), vin_law (j := 3) hx hL (by omega), vin_law (j := 4) hx hL (by omega), r_set _ _ _ _ hM (fun M1 h2 => ⟨fun _ => hK _ S1 M1 (mc - 1150) (ms - 13600) h1 h2 (by omega) (by omega), fun z => absurd rfl z⟩)⟩)⟩
theorem l_c19 {K : Int32 → hS → RM → Nat → Nat → Prop} {x mc ms : Nat} (hx : x + 5 ≤ L) (hL : L < 2 ^ 30) (hR : cRep u d s S) (hM : rRep s M) (hmc : 1150 ≤ mc) (hms : 13600 ≤ ms)
    (hK : ∀ s' S' M' mc' ms', cRep u d s' S' → rRep s' M' → mc ≤ mc' + 1150 → ms ≤ ms' + 13600 → K (nI x) S' M' mc' ms') : w_law_c19 u d L xs K (nI x) S M mc ms := by
  rw [w_law_c19]
  exact ⟨vin_law (j := 1) hx hL (by omega), vin_law (j := 2) hx hL (by omega), vin_law (j := 3) hx hL (by omega), hR.o, c_drop _ _ _ hR (fun S1 h1 => ⟨vin_law (j := 1) hx hL (by omega), vin_law (j := 2) hx hL (by omega), vin_law (j := 3) hx hL (by omega), r_drop _ _ _ hM (fun M1 h2 => ⟨fun _ => hK _ S1 M1 mc ms h1 h2 (by omega) (by omega), fun z => absurd rfl z⟩)⟩)⟩
theorem l_c20 {K : Int32 → hS → RM → Nat → Nat → Prop} {x mc ms : Nat} (hx : x + 5 ≤ L) (hL : L < 2 ^ 30) (hR : cRep u d s S) (hM : rRep s M) (hmc : 1150 ≤ mc) (hms : 13600 ≤ ms)
    (hK : ∀ s' S' M' mc' ms', cRep u d s' S' → rRep s' M' → mc ≤ mc' + 1150 → ms ≤ ms' + 13600 → K (nI x) S' M' mc' ms') : w_law_c20 u d L xs K (nI x) S M mc ms := by
  rw [w_law_c20]
  exact ⟨vin_law (j := 1) hx hL (by omega), hR.o, c_empty _ hR (fun S1 h1 => ⟨vin_law (j := 1) hx hL (by omega), r_empty _ hM (fun M1 h2 => ⟨fun _ => hK _ S1 M1 mc ms h1 h2 (by omega) (by omega), fun z => absurd rfl z⟩)⟩)⟩
theorem l_c21 {K : Int32 → hS → RM → Nat → Nat → Prop} {x mc ms : Nat} (hx : x + 5 ≤ L) (hL : L < 2 ^ 30) (hR : cRep u d s S) (hM : rRep s M) (hmc : 1150 ≤ mc) (hms : 13600 ≤ ms)
    (hK : ∀ s' S' M' mc' ms', cRep u d s' S' → rRep s' M' → mc ≤ mc' + 1150 → ms ≤ ms' + 13600 → K (nI x) S' M' mc' ms') : w_law_c21 u d L xs K (nI x) S M mc ms := by
  rw [w_law_c21]
  exact ⟨vin_law (j := 1) hx hL (by omega), hR.o, c_size _ hR ⟨vin_law (j := 1) hx hL (by omega), r_size _ hM (fun M1 h2 => ⟨fun _ => hK s S M1 mc ms hR (by rw [op_size_st] at h2; exact h2) (by omega) (by omega), fun z => absurd rfl z⟩)⟩⟩
theorem l_c22 {K : Int32 → hS → RM → Nat → Nat → Prop} {x mc ms : Nat} (hx : x + 5 ≤ L) (hL : L < 2 ^ 30) (hR : cRep u d s S) (hM : rRep s M) (hmc : 1150 ≤ mc) (hms : 13600 ≤ ms)
    (hK : ∀ s' S' M' mc' ms', cRep u d s' S' → rRep s' M' → mc ≤ mc' + 1150 → ms ≤ ms' + 13600 → K (nI x) S' M' mc' ms') : w_law_c22 u d L xs K (nI x) S M mc ms := by
  rw [w_law_c22]
  exact ⟨vin_law (j := 1) hx hL (by omega), hR.o, 1150, 13600, by omega, by omega, c_names (by omega) (by omega) _ hR (fun S1 h1 => ⟨vin_law (j := 1) hx hL (by omega), r_names _ hM (fun M1 h2 => ⟨fun _ => hK _ S1 M1 (mc - 1150) (ms - 13600) h1 h2 (by omega) (by omega), fun z => absurd rfl z⟩)⟩)⟩
theorem l_c23 {K : Int32 → hS → RM → Nat → Nat → Prop} {x mc ms : Nat} (hx : x + 5 ≤ L) (hL : L < 2 ^ 30) (hR : cRep u d s S) (hM : rRep s M) (hmc : 1150 ≤ mc) (hms : 13600 ≤ ms)
    (hK : ∀ s' S' M' mc' ms', cRep u d s' S' → rRep s' M' → mc ≤ mc' + 1150 → ms ≤ ms' + 13600 → K (nI x) S' M' mc' ms') : w_law_c23 u d L xs K (nI x) S M mc ms := by
  rw [w_law_c23]
  exact ⟨vin_law (j := 1) hx hL (by omega), vin_law (j := 2) hx hL (by omega), vin_law (j := 3) hx hL (by omega), hR.o, 1150, 13600, by omega, by omega, c_name (by omega) (by omega) _ _ _ hR (fun S1 h1 => ⟨vin_law (j := 1) hx hL (by omega), vin_law (j := 2) hx hL (by omega), vin_law (j := 3) hx hL (by omega), r_name _ _ _ hM (fun M1 h2 => ⟨fun _ => hK _ S1 M1 (mc - 1150) (ms - 13600) h1 h2 (by omega) (by omega), fun z => absurd rfl z⟩)⟩)⟩
theorem l_c24 {K : Int32 → hS → RM → Nat → Nat → Prop} {x mc ms : Nat} (hx : x + 5 ≤ L) (hL : L < 2 ^ 30) (hR : cRep u d s S) (hM : rRep s M) (hmc : 1150 ≤ mc) (hms : 13600 ≤ ms)
    (hK : ∀ s' S' M' mc' ms', cRep u d s' S' → rRep s' M' → mc ≤ mc' + 1150 → ms ≤ ms' + 13600 → K (nI x) S' M' mc' ms') : w_law_c24 u d L xs K (nI x) S M mc ms := by
  rw [w_law_c24]
  exact ⟨vin_law (j := 1) hx hL (by omega), vin_law (j := 2) hx hL (by omega), vin_law (j := 3) hx hL (by omega), hR.o, c_keyFrom _ _ _ hR (fun S1 h1 => ⟨vin_law (j := 1) hx hL (by omega), vin_law (j := 2) hx hL (by omega), vin_law (j := 3) hx hL (by omega), r_keyFrom _ _ _ hM (fun M1 h2 => ⟨fun _ => hK _ S1 M1 mc ms h1 h2 (by omega) (by omega), fun z => absurd rfl z⟩)⟩)⟩
theorem l_c25 {K : Int32 → hS → RM → Nat → Nat → Prop} {x mc ms : Nat} (hx : x + 5 ≤ L) (hL : L < 2 ^ 30) (hR : cRep u d s S) (hM : rRep s M) (hmc : 1150 ≤ mc) (hms : 13600 ≤ ms)
    (hK : ∀ s' S' M' mc' ms', cRep u d s' S' → rRep s' M' → mc ≤ mc' + 1150 → ms ≤ ms' + 13600 → K (nI x) S' M' mc' ms') : w_law_c25 u d L xs K (nI x) S M mc ms := by
  rw [w_law_c25]
  exact ⟨vin_law (j := 1) hx hL (by omega), vin_law (j := 2) hx hL (by omega), hR.o, c_alike _ _ hR ⟨vin_law (j := 1) hx hL (by omega), vin_law (j := 2) hx hL (by omega), r_alike _ _ hM (fun M1 h2 => ⟨fun _ => hK s S M1 mc ms hR (by rw [op_alike_st] at h2; exact h2) (by omega) (by omega), fun z => absurd rfl z⟩)⟩⟩
theorem l_c26 {K : Int32 → hS → RM → Nat → Nat → Prop} {x mc ms : Nat} (hx : x + 5 ≤ L) (hL : L < 2 ^ 30) (hR : cRep u d s S) (hM : rRep s M) (hmc : 1150 ≤ mc) (hms : 13600 ≤ ms)
    (hK : ∀ s' S' M' mc' ms', cRep u d s' S' → rRep s' M' → mc ≤ mc' + 1150 → ms ≤ ms' + 13600 → K (nI x) S' M' mc' ms') : w_law_c26 u d L xs K (nI x) S M mc ms := by
  rw [w_law_c26]
  exact ⟨vin_law (j := 1) hx hL (by omega), hR.o, c_digest _ hR ⟨vin_law (j := 1) hx hL (by omega), r_digest _ hM (fun M1 h2 => ⟨fun _ => hK s S M1 mc ms hR (by rw [op_digest_st] at h2; exact h2) (by omega) (by omega), fun z => absurd rfl z⟩)⟩⟩
theorem l_c27 {K : Int32 → hS → RM → Nat → Nat → Prop} {x mc ms : Nat} (hx : x + 5 ≤ L) (hL : L < 2 ^ 30) (hR : cRep u d s S) (hM : rRep s M) (hmc : 1150 ≤ mc) (hms : 13600 ≤ ms)
    (hK : ∀ s' S' M' mc' ms', cRep u d s' S' → rRep s' M' → mc ≤ mc' + 1150 → ms ≤ ms' + 13600 → K (nI x) S' M' mc' ms') : w_law_c27 u d L xs K (nI x) S M mc ms := by
  rw [w_law_c27]
  exact ⟨vin_law (j := 1) hx hL (by omega), vin_law (j := 2) hx hL (by omega), hR.o, 1150, 13600, by omega, by omega, c_tokenize (by omega) (by omega) _ _ hR (fun S1 h1 => ⟨vin_law (j := 1) hx hL (by omega), vin_law (j := 2) hx hL (by omega), r_tokenize _ _ hM (fun M1 h2 => ⟨fun _ => hK _ S1 M1 (mc - 1150) (ms - 13600) h1 h2 (by omega) (by omega), fun z => absurd rfl z⟩)⟩)⟩
theorem l_c28 {K : Int32 → hS → RM → Nat → Nat → Prop} {x mc ms : Nat} (hx : x + 5 ≤ L) (hL : L < 2 ^ 30) (hR : cRep u d s S) (hM : rRep s M) (hmc : 1150 ≤ mc) (hms : 13600 ≤ ms)
    (hK : ∀ s' S' M' mc' ms', cRep u d s' S' → rRep s' M' → mc ≤ mc' + 1150 → ms ≤ ms' + 13600 → K (nI x) S' M' mc' ms') : w_law_c28 u d L xs K (nI x) S M mc ms := by
  rw [w_law_c28]
  exact ⟨vin_law (j := 1) hx hL (by omega), vin_law (j := 2) hx hL (by omega), vin_law (j := 3) hx hL (by omega), hR.o, 1150, 13600, by omega, by omega, c_tokenizeBy (by omega) (by omega) _ _ _ hR (fun S1 h1 => ⟨vin_law (j := 1) hx hL (by omega), vin_law (j := 2) hx hL (by omega), vin_law (j := 3) hx hL (by omega), r_tokenizeBy _ _ _ hM (fun M1 h2 => ⟨fun _ => hK _ S1 M1 (mc - 1150) (ms - 13600) h1 h2 (by omega) (by omega), fun z => absurd rfl z⟩)⟩)⟩
theorem l_c29 {K : Int32 → hS → RM → Nat → Nat → Prop} {x mc ms : Nat} (hx : x + 5 ≤ L) (hL : L < 2 ^ 30) (hR : cRep u d s S) (hM : rRep s M) (hmc : 1150 ≤ mc) (hms : 13600 ≤ ms)
    (hK : ∀ s' S' M' mc' ms', cRep u d s' S' → rRep s' M' → mc ≤ mc' + 1150 → ms ≤ ms' + 13600 → K (nI x) S' M' mc' ms') : w_law_c29 u d L xs K (nI x) S M mc ms := by
  rw [w_law_c29]
  exact ⟨vin_law (j := 1) hx hL (by omega), vin_law (j := 2) hx hL (by omega), vin_law (j := 3) hx hL (by omega), hR.o, 1150, 13600, by omega, by omega, c_tokenizeAll (by omega) (by omega) _ _ _ hR (fun S1 h1 => ⟨vin_law (j := 1) hx hL (by omega), vin_law (j := 2) hx hL (by omega), vin_law (j := 3) hx hL (by omega), r_tokenizeAll _ _ _ hM (fun M1 h2 => ⟨fun _ => hK _ S1 M1 (mc - 1150) (ms - 13600) h1 h2 (by omega) (by omega), fun z => absurd rfl z⟩)⟩)⟩
theorem l_c30 {K : Int32 → hS → RM → Nat → Nat → Prop} {x mc ms : Nat} (hx : x + 5 ≤ L) (hL : L < 2 ^ 30) (hR : cRep u d s S) (hM : rRep s M) (hmc : 1150 ≤ mc) (hms : 13600 ≤ ms)
    (hK : ∀ s' S' M' mc' ms', cRep u d s' S' → rRep s' M' → mc ≤ mc' + 1150 → ms ≤ ms' + 13600 → K (nI x) S' M' mc' ms') : w_law_c30 u d L xs K (nI x) S M mc ms := by
  rw [w_law_c30]
  exact ⟨vin_law (j := 1) hx hL (by omega), vin_law (j := 2) hx hL (by omega), vin_law (j := 3) hx hL (by omega), vin_law (j := 4) hx hL (by omega), hR.o, 1150, 13600, by omega, by omega, c_tokenizeValue (by omega) (by omega) _ _ _ _ hR (fun S1 h1 => ⟨vin_law (j := 1) hx hL (by omega), vin_law (j := 2) hx hL (by omega), vin_law (j := 3) hx hL (by omega), vin_law (j := 4) hx hL (by omega), r_tokenizeValue _ _ _ _ hM (fun M1 h2 => ⟨fun _ => hK _ S1 M1 (mc - 1150) (ms - 13600) h1 h2 (by omega) (by omega), fun z => absurd rfl z⟩)⟩)⟩
theorem l_c31 {K : Int32 → hS → RM → Nat → Nat → Prop} {x mc ms : Nat} (hx : x + 5 ≤ L) (hL : L < 2 ^ 30) (hR : cRep u d s S) (hM : rRep s M) (hmc : 1150 ≤ mc) (hms : 13600 ≤ ms)
    (hK : ∀ s' S' M' mc' ms', cRep u d s' S' → rRep s' M' → mc ≤ mc' + 1150 → ms ≤ ms' + 13600 → K (nI x) S' M' mc' ms') : w_law_c31 u d L xs K (nI x) S M mc ms := by
  rw [w_law_c31]
  exact ⟨vin_law (j := 1) hx hL (by omega), hR.o, c_more _ hR ⟨vin_law (j := 1) hx hL (by omega), r_more _ hM (fun M1 h2 => ⟨fun _ => hK s S M1 mc ms hR (by rw [op_more_st] at h2; exact h2) (by omega) (by omega), fun z => absurd rfl z⟩)⟩⟩
theorem l_c32 {K : Int32 → hS → RM → Nat → Nat → Prop} {x mc ms : Nat} (hx : x + 5 ≤ L) (hL : L < 2 ^ 30) (hR : cRep u d s S) (hM : rRep s M) (hmc : 1150 ≤ mc) (hms : 13600 ≤ ms)
    (hK : ∀ s' S' M' mc' ms', cRep u d s' S' → rRep s' M' → mc ≤ mc' + 1150 → ms ≤ ms' + 13600 → K (nI x) S' M' mc' ms') : w_law_c32 u d L xs K (nI x) S M mc ms := by
  rw [w_law_c32]
  exact ⟨vin_law (j := 1) hx hL (by omega), hR.o, c_count _ hR ⟨vin_law (j := 1) hx hL (by omega), r_count _ hM (fun M1 h2 => ⟨fun _ => hK s S M1 mc ms hR (by rw [op_count_st] at h2; exact h2) (by omega) (by omega), fun z => absurd rfl z⟩)⟩⟩
theorem l_c33 {K : Int32 → hS → RM → Nat → Nat → Prop} {x mc ms : Nat} (hx : x + 5 ≤ L) (hL : L < 2 ^ 30) (hR : cRep u d s S) (hM : rRep s M) (hmc : 1150 ≤ mc) (hms : 13600 ≤ ms)
    (hK : ∀ s' S' M' mc' ms', cRep u d s' S' → rRep s' M' → mc ≤ mc' + 1150 → ms ≤ ms' + 13600 → K (nI x) S' M' mc' ms') : w_law_c33 u d L xs K (nI x) S M mc ms := by
  rw [w_law_c33]
  exact ⟨vin_law (j := 1) hx hL (by omega), vin_law (j := 2) hx hL (by omega), hR.o, 1150, 13600, by omega, by omega, c_next (by omega) (by omega) _ _ hR (fun S1 h1 => ⟨vin_law (j := 1) hx hL (by omega), vin_law (j := 2) hx hL (by omega), r_next _ _ hM (fun M1 h2 => ⟨fun _ => hK _ S1 M1 (mc - 1150) (ms - 13600) h1 h2 (by omega) (by omega), fun z => absurd rfl z⟩)⟩)⟩
theorem l_c34 {K : Int32 → hS → RM → Nat → Nat → Prop} {x mc ms : Nat} (hx : x + 5 ≤ L) (hL : L < 2 ^ 30) (hR : cRep u d s S) (hM : rRep s M) (hmc : 1150 ≤ mc) (hms : 13600 ≤ ms)
    (hK : ∀ s' S' M' mc' ms', cRep u d s' S' → rRep s' M' → mc ≤ mc' + 1150 → ms ≤ ms' + 13600 → K (nI x) S' M' mc' ms') : w_law_c34 u d L xs K (nI x) S M mc ms := by
  rw [w_law_c34]
  exact ⟨vin_law (j := 1) hx hL (by omega), vin_law (j := 2) hx hL (by omega), vin_law (j := 3) hx hL (by omega), hR.o, 1150, 13600, by omega, by omega, c_nextBy (by omega) (by omega) _ _ _ hR (fun S1 h1 => ⟨vin_law (j := 1) hx hL (by omega), vin_law (j := 2) hx hL (by omega), vin_law (j := 3) hx hL (by omega), r_nextBy _ _ _ hM (fun M1 h2 => ⟨fun _ => hK _ S1 M1 (mc - 1150) (ms - 13600) h1 h2 (by omega) (by omega), fun z => absurd rfl z⟩)⟩)⟩
theorem l_c35 {K : Int32 → hS → RM → Nat → Nat → Prop} {x mc ms : Nat} (hx : x + 5 ≤ L) (hL : L < 2 ^ 30) (hR : cRep u d s S) (hM : rRep s M) (hmc : 1150 ≤ mc) (hms : 13600 ≤ ms)
    (hK : ∀ s' S' M' mc' ms', cRep u d s' S' → rRep s' M' → mc ≤ mc' + 1150 → ms ≤ ms' + 13600 → K (nI x) S' M' mc' ms') : w_law_c35 u d L xs K (nI x) S M mc ms := by
  rw [w_law_c35]
  exact ⟨vin_law (j := 1) hx hL (by omega), vin_law (j := 2) hx hL (by omega), hR.o, 1150, 13600, by omega, by omega, c_join (by omega) (by omega) _ _ hR (fun S1 h1 => ⟨vin_law (j := 1) hx hL (by omega), vin_law (j := 2) hx hL (by omega), r_join _ _ hM (fun M1 h2 => ⟨fun _ => hK _ S1 M1 (mc - 1150) (ms - 13600) h1 h2 (by omega) (by omega), fun z => absurd rfl z⟩)⟩)⟩
theorem l_c36 {K : Int32 → hS → RM → Nat → Nat → Prop} {x mc ms : Nat} (hx : x + 5 ≤ L) (hL : L < 2 ^ 30) (hR : cRep u d s S) (hM : rRep s M) (hmc : 1150 ≤ mc) (hms : 13600 ≤ ms)
    (hK : ∀ s' S' M' mc' ms', cRep u d s' S' → rRep s' M' → mc ≤ mc' + 1150 → ms ≤ ms' + 13600 → K (nI x) S' M' mc' ms') : w_law_c36 u d L xs K (nI x) S M mc ms := by
  rw [w_law_c36]
  exact ⟨vin_law (j := 1) hx hL (by omega), vin_law (j := 2) hx hL (by omega), vin_law (j := 3) hx hL (by omega), vin_law (j := 4) hx hL (by omega), hR.o, 1150, 13600, by omega, by omega, c_joinWithin (by omega) (by omega) _ _ _ _ hR (fun S1 h1 => ⟨vin_law (j := 1) hx hL (by omega), vin_law (j := 2) hx hL (by omega), vin_law (j := 3) hx hL (by omega), vin_law (j := 4) hx hL (by omega), r_joinWithin _ _ _ _ hM (fun M1 h2 => ⟨fun _ => hK _ S1 M1 (mc - 1150) (ms - 13600) h1 h2 (by omega) (by omega), fun z => absurd rfl z⟩)⟩)⟩
theorem l_c37 {K : Int32 → hS → RM → Nat → Nat → Prop} {x mc ms : Nat} (hx : x + 5 ≤ L) (hL : L < 2 ^ 30) (hR : cRep u d s S) (hM : rRep s M) (hmc : 1150 ≤ mc) (hms : 13600 ≤ ms)
    (hK : ∀ s' S' M' mc' ms', cRep u d s' S' → rRep s' M' → mc ≤ mc' + 1150 → ms ≤ ms' + 13600 → K (nI x) S' M' mc' ms') : w_law_c37 u d L xs K (nI x) S M mc ms := by
  rw [w_law_c37]
  exact ⟨vin_law (j := 1) hx hL (by omega), vin_law (j := 2) hx hL (by omega), hR.o, 1150, 13600, by omega, by omega, c_add (by omega) (by omega) _ _ hR (fun S1 h1 => ⟨vin_law (j := 1) hx hL (by omega), vin_law (j := 2) hx hL (by omega), r_add _ _ hM (fun M1 h2 => ⟨fun _ => hK _ S1 M1 (mc - 1150) (ms - 13600) h1 h2 (by omega) (by omega), fun z => absurd rfl z⟩)⟩)⟩
theorem l_c38 {K : Int32 → hS → RM → Nat → Nat → Prop} {x mc ms : Nat} (hx : x + 5 ≤ L) (hL : L < 2 ^ 30) (hR : cRep u d s S) (hM : rRep s M) (hmc : 1150 ≤ mc) (hms : 13600 ≤ ms)
    (hK : ∀ s' S' M' mc' ms', cRep u d s' S' → rRep s' M' → mc ≤ mc' + 1150 → ms ≤ ms' + 13600 → K (nI x) S' M' mc' ms') : w_law_c38 u d L xs K (nI x) S M mc ms := by
  rw [w_law_c38]
  exact ⟨vin_law (j := 1) hx hL (by omega), vin_law (j := 2) hx hL (by omega), hR.o, c_ifEmpty _ _ hR (fun S1 h1 => ⟨vin_law (j := 1) hx hL (by omega), vin_law (j := 2) hx hL (by omega), r_ifEmpty _ _ hM (fun M1 h2 => ⟨fun _ => hK _ S1 M1 mc ms h1 h2 (by omega) (by omega), fun z => absurd rfl z⟩)⟩)⟩
theorem l_c39 {K : Int32 → hS → RM → Nat → Nat → Prop} {x mc ms : Nat} (hx : x + 5 ≤ L) (hL : L < 2 ^ 30) (hR : cRep u d s S) (hM : rRep s M) (hmc : 1150 ≤ mc) (hms : 13600 ≤ ms)
    (hK : ∀ s' S' M' mc' ms', cRep u d s' S' → rRep s' M' → mc ≤ mc' + 1150 → ms ≤ ms' + 13600 → K (nI x) S' M' mc' ms') : w_law_c39 u d L xs K (nI x) S M mc ms := by
  rw [w_law_c39]
  exact ⟨vin_law (j := 1) hx hL (by omega), vin_law (j := 2) hx hL (by omega), hR.o, 1150, 13600, by omega, by omega, c_merge (by omega) (by omega) _ _ hR (fun S1 h1 => ⟨vin_law (j := 1) hx hL (by omega), vin_law (j := 2) hx hL (by omega), r_merge _ _ hM (fun M1 h2 => ⟨fun _ => hK _ S1 M1 (mc - 1150) (ms - 13600) h1 h2 (by omega) (by omega), fun z => absurd rfl z⟩)⟩)⟩
theorem l_c40 {K : Int32 → hS → RM → Nat → Nat → Prop} {x mc ms : Nat} (hx : x + 5 ≤ L) (hL : L < 2 ^ 30) (hR : cRep u d s S) (hM : rRep s M) (hmc : 1150 ≤ mc) (hms : 13600 ≤ ms)
    (hK : ∀ s' S' M' mc' ms', cRep u d s' S' → rRep s' M' → mc ≤ mc' + 1150 → ms ≤ ms' + 13600 → K (nI x) S' M' mc' ms') : w_law_c40 u d L xs K (nI x) S M mc ms := by
  rw [w_law_c40]
  exact ⟨vin_law (j := 1) hx hL (by omega), vin_law (j := 2) hx hL (by omega), hR.o, 1150, 13600, by omega, by omega, c_joined (by omega) (by omega) _ _ hR (fun S1 h1 => ⟨vin_law (j := 1) hx hL (by omega), vin_law (j := 2) hx hL (by omega), r_joined _ _ hM (fun M1 h2 => ⟨fun _ => hK _ S1 M1 (mc - 1150) (ms - 13600) h1 h2 (by omega) (by omega), fun z => absurd rfl z⟩)⟩)⟩
theorem l_c41 {K : Int32 → hS → RM → Nat → Nat → Prop} {x mc ms : Nat} (hx : x + 5 ≤ L) (hL : L < 2 ^ 30) (hR : cRep u d s S) (hM : rRep s M) (hmc : 1150 ≤ mc) (hms : 13600 ≤ ms)
    (hK : ∀ s' S' M' mc' ms', cRep u d s' S' → rRep s' M' → mc ≤ mc' + 1150 → ms ≤ ms' + 13600 → K (nI x) S' M' mc' ms') : w_law_c41 u d L xs K (nI x) S M mc ms := by
  rw [w_law_c41]
  exact ⟨vin_law (j := 1) hx hL (by omega), hR.o, c_joinedLength _ hR ⟨vin_law (j := 1) hx hL (by omega), r_joinedLength _ hM (fun M1 h2 => ⟨fun _ => hK s S M1 mc ms hR (by rw [op_joinedLength_st] at h2; exact h2) (by omega) (by omega), fun z => absurd rfl z⟩)⟩⟩
theorem l_c42 {K : Int32 → hS → RM → Nat → Nat → Prop} {x mc ms : Nat} (hx : x + 5 ≤ L) (hL : L < 2 ^ 30) (hR : cRep u d s S) (hM : rRep s M) (hmc : 1150 ≤ mc) (hms : 13600 ≤ ms)
    (hK : ∀ s' S' M' mc' ms', cRep u d s' S' → rRep s' M' → mc ≤ mc' + 1150 → ms ≤ ms' + 13600 → K (nI x) S' M' mc' ms') : w_law_c42 u d L xs K (nI x) S M mc ms := by
  rw [w_law_c42]
  exact ⟨vin_law (j := 1) hx hL (by omega), vin_law (j := 2) hx hL (by omega), vin_law (j := 3) hx hL (by omega), hR.o, 1150, 13600, by omega, by omega, c_setJoined (by omega) (by omega) _ _ _ hR (fun S1 h1 => ⟨vin_law (j := 1) hx hL (by omega), vin_law (j := 2) hx hL (by omega), vin_law (j := 3) hx hL (by omega), r_setJoined _ _ _ hM (fun M1 h2 => ⟨fun _ => hK _ S1 M1 (mc - 1150) (ms - 13600) h1 h2 (by omega) (by omega), fun z => absurd rfl z⟩)⟩)⟩
theorem l_c43 {K : Int32 → hS → RM → Nat → Nat → Prop} {x mc ms : Nat} (hx : x + 5 ≤ L) (hL : L < 2 ^ 30) (hR : cRep u d s S) (hM : rRep s M) (hmc : 1150 ≤ mc) (hms : 13600 ≤ ms)
    (hK : ∀ s' S' M' mc' ms', cRep u d s' S' → rRep s' M' → mc ≤ mc' + 1150 → ms ≤ ms' + 13600 → K (nI x) S' M' mc' ms') : w_law_c43 u d L xs K (nI x) S M mc ms := by
  rw [w_law_c43]
  exact ⟨vin_law (j := 1) hx hL (by omega), hR.o, 1150, 13600, by omega, by omega, c_keep (by omega) (by omega) _ hR (fun S1 h1 => ⟨vin_law (j := 1) hx hL (by omega), r_keep _ hM (fun M1 h2 => ⟨fun _ => hK _ S1 M1 (mc - 1150) (ms - 13600) h1 h2 (by omega) (by omega), fun z => absurd rfl z⟩)⟩)⟩
theorem l_c44 {K : Int32 → hS → RM → Nat → Nat → Prop} {x mc ms : Nat} (hx : x + 5 ≤ L) (hL : L < 2 ^ 30) (hR : cRep u d s S) (hM : rRep s M) (hmc : 1150 ≤ mc) (hms : 13600 ≤ ms)
    (hK : ∀ s' S' M' mc' ms', cRep u d s' S' → rRep s' M' → mc ≤ mc' + 1150 → ms ≤ ms' + 13600 → K (nI x) S' M' mc' ms') : w_law_c44 u d L xs K (nI x) S M mc ms := by
  rw [w_law_c44]
  exact ⟨vin_law (j := 1) hx hL (by omega), hR.o, c_restore _ hR (fun S1 h1 => ⟨vin_law (j := 1) hx hL (by omega), r_restore _ hM (fun M1 h2 => ⟨fun _ => hK _ S1 M1 mc ms h1 h2 (by omega) (by omega), fun z => absurd rfl z⟩)⟩)⟩
theorem l_c45 {K : Int32 → hS → RM → Nat → Nat → Prop} {x mc ms : Nat} (hx : x + 5 ≤ L) (hL : L < 2 ^ 30) (hR : cRep u d s S) (hM : rRep s M) (hmc : 1150 ≤ mc) (hms : 13600 ≤ ms)
    (hK : ∀ s' S' M' mc' ms', cRep u d s' S' → rRep s' M' → mc ≤ mc' + 1150 → ms ≤ ms' + 13600 → K (nI x) S' M' mc' ms') : w_law_c45 u d L xs K (nI x) S M mc ms := by
  rw [w_law_c45]
  exact ⟨vin_law (j := 1) hx hL (by omega), hR.o, c_refusals _ hR ⟨vin_law (j := 1) hx hL (by omega), r_refusals _ hM (fun M1 h2 => ⟨fun _ => hK s S M1 mc ms hR (by rw [op_refusals_st] at h2; exact h2) (by omega) (by omega), fun z => absurd rfl z⟩)⟩⟩
theorem l_18 (hL : L < 2 ^ 30) : ∀ (n x : Nat) (s : AS) (S : hS) (M : RM) (mc ms : Nat), L < x + 5 * n → x ≤ L → cRep u d s S → rRep s M → 1150 * n ≤ mc → 13600 * n ≤ ms → w_law_18 u d L xs n (nI x) S M mc ms := by
  intro n
  induction n with
  | zero => intro x s S M mc ms h1 h2 _ _ _ _; omega
  | succ n ih =>
    intro x s S M mc ms h1 h2 hR hM hmc hms
    rw [w_law_18]
    refine ⟨fun _ => trivial, fun hc => ?_⟩
    have hx : x + 5 ≤ L := by
      have e := toInt_sub (a := L) (b := 5) (by omega) (by omega)
      have e2 : (nI x).toInt = (x : Int) := nI_toInt (by omega)
      rw [Int32.lt_iff_toInt_lt, show (nI L - 5 : Int32) = nI L - nI 5 from rfl, e, e2] at hc
      omega
    have hK : ∀ s' S' M' mc' ms', cRep u d s' S' → rRep s' M' → mc ≤ mc' + 1150 → ms ≤ ms' + 13600 → ∀ x4 : Int32, x4 = nI x + 5 → w_law_18 u d L xs n x4 S' M' mc' ms' := by
      intro s' S' M' mc' ms' hR' hM' b1 b2 x4 e4
      rw [e4, show (5 : Int32) = nI 5 from rfl, nI_add]
      exact ih (x + 5) s' S' M' mc' ms' (by omega) (by omega) hR' hM' (by omega) (by omega)
    refine ⟨vp_in_nI (by omega) (by omega), fun v _ => ⟨fun _ => hK s S M mc ms hR hM (by omega) (by omega), fun _ => l_c0 hx hL hR hM (by omega) (by omega) hK, fun _ => l_c1 hx hL hR hM (by omega) (by omega) hK, fun _ => l_c2 hx hL hR hM (by omega) (by omega) hK, fun _ => l_c3 hx hL hR hM (by omega) (by omega) hK, fun _ => l_c4 hx hL hR hM (by omega) (by omega) hK, fun _ => l_c5 hx hL hR hM (by omega) (by omega) hK, fun _ => l_c6 hx hL hR hM (by omega) (by omega) hK, fun _ => l_c7 hx hL hR hM (by omega) (by omega) hK, fun _ => l_c8 hx hL hR hM (by omega) (by omega) hK, fun _ => l_c9 hx hL hR hM (by omega) (by omega) hK, fun _ => l_c10 hx hL hR hM (by omega) (by omega) hK, fun _ => l_c11 hx hL hR hM (by omega) (by omega) hK, fun _ => l_c12 hx hL hR hM (by omega) (by omega) hK, fun _ => l_c13 hx hL hR hM (by omega) (by omega) hK, fun _ => l_c14 hx hL hR hM (by omega) (by omega) hK, fun _ => l_c15 hx hL hR hM (by omega) (by omega) hK, fun _ => l_c16 hx hL hR hM (by omega) (by omega) hK, fun _ => l_c17 hx hL hR hM (by omega) (by omega) hK, fun _ => l_c18 hx hL hR hM (by omega) (by omega) hK, fun _ => l_c19 hx hL hR hM (by omega) (by omega) hK, fun _ => l_c20 hx hL hR hM (by omega) (by omega) hK, fun _ => l_c21 hx hL hR hM (by omega) (by omega) hK, fun _ => l_c22 hx hL hR hM (by omega) (by omega) hK, fun _ => l_c23 hx hL hR hM (by omega) (by omega) hK, fun _ => l_c24 hx hL hR hM (by omega) (by omega) hK, fun _ => l_c25 hx hL hR hM (by omega) (by omega) hK, fun _ => l_c26 hx hL hR hM (by omega) (by omega) hK, fun _ => l_c27 hx hL hR hM (by omega) (by omega) hK, fun _ => l_c28 hx hL hR hM (by omega) (by omega) hK, fun _ => l_c29 hx hL hR hM (by omega) (by omega) hK, fun _ => l_c30 hx hL hR hM (by omega) (by omega) hK, fun _ => l_c31 hx hL hR hM (by omega) (by omega) hK, fun _ => l_c32 hx hL hR hM (by omega) (by omega) hK, fun _ => l_c33 hx hL hR hM (by omega) (by omega) hK, fun _ => l_c34 hx hL hR hM (by omega) (by omega) hK, fun _ => l_c35 hx hL hR hM (by omega) (by omega) hK, fun _ => l_c36 hx hL hR hM (by omega) (by omega) hK, fun _ => l_c37 hx hL hR hM (by omega) (by omega) hK, fun _ => l_c38 hx hL hR hM (by omega) (by omega) hK, fun _ => l_c39 hx hL hR hM (by omega) (by omega) hK, fun _ => l_c40 hx hL hR hM (by omega) (by omega) hK, fun _ => l_c41 hx hL hR hM (by omega) (by omega) hK, fun _ => l_c42 hx hL hR hM (by omega) (by omega) hK, fun _ => l_c43 hx hL hR hM (by omega) (by omega) hK, fun _ => l_c44 hx hL hR hM (by omega) (by omega) hK, fun _ => l_c45 hx hL hR hM (by omega) (by omega) hK⟩⟩
end CREP
