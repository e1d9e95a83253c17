/-! TOKENS: pure -/
theorem cntF_more {t d : Tx} {r : Bool} : ∀ (n n' p : Nat), t.length < p + n → t.length < p + n' → cntF t d r n p = cntF t d r n' p
  | 0, 0, _, _, _ => rfl
  | 0, n' + 1, p, h, _ => by rw [cntF, cntF, if_pos (by omega)]
  | n + 1, 0, p, _, h => by rw [cntF, cntF, if_pos (by omega)]
  | n + 1, n' + 1, p, h, h' => by
    rw [cntF, cntF]
    by_cases q : t.length ≤ p
    · rw [if_pos q, if_pos q]
    · rw [if_neg q, if_neg q]
      have e := endF_le (d := d) (show p < t.length by omega)
      have b := begF_le (d := d) (r := r) e.2
      rw [cntF_more n n' _ (by omega) (by omega)]
/-- tokens from a position on -/
theorem cntA_0 {t d : Tx} {r : Bool} {p : Nat} (h : t.length ≤ begF t d r p) : cntA t d r p = 0 := by
  unfold cntA; rw [cntF, if_pos h]
theorem cntA_s {t d : Tx} {r : Bool} {p : Nat} (h : begF t d r p < t.length) : cntA t d r p = cntA t d r (endF t d (begF t d r p)) + 1 := by
  have e := endF_le (d := d) h
  have b := begF_le (d := d) (r := r) e.2
  unfold cntA
  rw [cntF, if_neg (by omega), cntF_more t.length (t.length + 1) _ (by omega) (by omega)]
theorem cntA_pos {t d : Tx} {r : Bool} {p : Nat} : 0 < cntA t d r p ↔ begF t d r p < t.length := by
  rcases Nat.lt_or_ge (begF t d r p) t.length with q | q
  · exact ⟨fun _ => q, fun _ => by rw [cntA_s q]; omega⟩
  · exact ⟨fun h => by rw [cntA_0 q] at h; omega, fun h => by omega⟩
theorem begF_nd {t d : Tx} : ∀ (n p : Nat), p + n = t.length → begF t d false p < t.length → t.getD (begF t d false p) 0 ∉ d
  | 0, p, h, h2 => by rw [begF_ge (by omega)] at h2; omega
  | n + 1, p, h, h2 => by
    rw [begF_st (by omega)] at h2 ⊢
    by_cases q : t.getD p 0 ∈ d
    · rw [if_pos q] at h2 ⊢
      exact begF_nd n (p + 1) (by omega) h2
    · rw [if_neg q]; exact q
theorem runL_mem (P : Nat → Bool) : ∀ (t : Tx), ∀ c ∈ t.take (runL P t), P c = true
  | [], c, h => absurd h (by simp)
  | a :: t, c, h => by
    rw [runL_cons] at h
    by_cases q : P a = true
    · rw [if_pos q, List.take_succ_cons] at h
      rcases List.mem_cons.mp h with e | e
      · rw [e]; exact q
      · exact runL_mem P t c e
    · rw [if_neg q] at h; exact absurd h (by simp)
/-- a token of a tokenizer that does not return delimiters holds none -/
theorem tok_no {t d : Tx} {p : Nat} (hp : p ≤ t.length) (h : begF t d false p < t.length) : ∀ c ∈ (t.drop (begF t d false p)).take (endF t d (begF t d false p) - begF t d false p), c ∉ d := by
  have h1 := begF_nd (t.length - p) p (by omega) h
  intro c hc
  unfold endF at hc
  rw [if_neg h1, Nat.add_sub_cancel_left] at hc
  exact of_decide_eq_true (runL_mem _ _ c hc)
/-- without delimiters there are no more tokens than with them -/
theorem cnt_le {t d : Tx} : ∀ (n p : Nat), t.length ≤ p + n → cntA t d false p ≤ cntA t d true p
  | 0, p, h => by rw [cntA_0 (by rw [begF_ge (by omega)]; omega)]; exact Nat.zero_le _
  | n + 1, p, h => by
    rcases Nat.lt_or_ge p t.length with q | q
    · have et : begF t d true p = p := rfl
      have e := endF_le (d := d) q
      have s1 : cntA t d true p = cntA t d true (endF t d p) + 1 := cntA_s (r := true) q
      by_cases m : t.getD p 0 ∈ d
      · have e1 : endF t d p = p + 1 := by unfold endF; rw [if_pos m]
        have e2 : cntA t d false p = cntA t d false (p + 1) := by
          unfold cntA; rw [begF_st q, if_pos m]
        have := cnt_le (t := t) (d := d) n (p + 1) (by omega)
        rw [s1, e1, e2]; omega
      · have eb : begF t d false p = p := by rw [begF_st q, if_neg m]
        have s2 := cntA_s (t := t) (d := d) (r := false) (p := p) (by rw [eb]; exact q)
        rw [eb] at s2
        have := cnt_le (t := t) (d := d) n (endF t d p) (by omega)
        rw [s1, s2]; omega
    · rw [cntA_0 (by rw [begF_ge q]; exact q)]; exact Nat.zero_le _
/-! parts that are joined by a sign, and cut again -/
def joW (c : Nat) : List Tx → Tx
  | [] => []
  | [w] => w
  | w :: v :: r => w ++ c :: joW c (v :: r)
theorem joW_snoc (c : Nat) : ∀ (ws : List Tx) (w : Tx), ws ≠ [] → joW c (ws ++ [w]) = joW c ws ++ [c] ++ w
  | [], _, h => absurd rfl h
  | [v], w, _ => by simp [joW]
  | v :: v2 :: r, w, _ => by
    have ih := joW_snoc c (v2 :: r) w (by simp)
    show joW c (v :: v2 :: (r ++ [w])) = v ++ c :: joW c (v2 :: r) ++ [c] ++ w
    rw [joW]
    have ih : joW c (v2 :: (r ++ [w])) = joW c (v2 :: r) ++ [c] ++ w := ih
    rw [ih]; simp
/-- what is left behind k parts -/
def reW (c : Nat) (k : Nat) (ws : List Tx) : Tx := match k, ws with
  | 0, ws => joW c ws
  | _ + 1, [] => []
  | _ + 1, w :: r => c :: joW c (w :: r)
theorem joW_reW (c : Nat) (w : Tx) (r : List Tx) (k : Nat) : joW c (w :: r) = w ++ reW c (k + 1) r := by
  cases r with
  | nil => simp [joW, reW]
  | cons v r => rfl
theorem runL_all {P : Nat → Bool} : ∀ {w u : Tx}, (∀ c ∈ w, P c = true) → (u = [] ∨ P (u.getD 0 0) = false) → runL P (w ++ u) = w.length
  | [], u, _, h => by
    cases u with
    | nil => rfl
    | cons a u =>
      rcases h with h | h
      · cases h
      · have h : P a = false := h
        show runL P (a :: u) = 0
        rw [runL_cons, if_neg (by rw [h]; decide)]
  | a :: w, u, hw, h => by
    show runL P (a :: (w ++ u)) = w.length + 1
    rw [runL_cons, if_pos (hw a (by simp)), runL_all (fun c hc => hw c (by simp [hc])) h]
theorem reW_hd (c k : Nat) (r : List Tx) : reW c (k + 1) r = [] ∨ (reW c (k + 1) r).getD 0 0 = c := by
  cases r with
  | nil => exact Or.inl rfl
  | cons v r => exact Or.inr rfl
/-- the next token, where the parts w :: r are left -/
theorem tok_part {t : Tx} {c k p : Nat} {w : Tx} {r : List Tx} (hp : p ≤ t.length) (h : t.drop p = reW c k (w :: r)) (hw : w ≠ []) (hc : ∀ x ∈ w, x ≠ c) :
    begF t [c] false p < t.length ∧ endF t [c] (begF t [c] false p) - begF t [c] false p = w.length ∧ (t.drop (begF t [c] false p)).take w.length = w ∧ t.drop (endF t [c] (begF t [c] false p)) = reW c (k + 1) r ∧ endF t [c] (begF t [c] false p) ≤ t.length := by
  have hb : ∃ b, begF t [c] false p = b ∧ t.drop b = joW c (w :: r) ∧ b ≤ t.length := by
    obtain ⟨a, w', rfl⟩ : ∃ a w', w = a :: w' := by cases w with | nil => exact absurd rfl hw | cons a w' => exact ⟨a, w', rfl⟩
    have ha : a ≠ c := hc a (by simp)
    have hj : joW c ((a :: w') :: r) = a :: (w' ++ reW c (k + 1) r) := joW_reW c (a :: w') r k
    cases k with
    | zero =>
      have h0 : t.drop p = joW c ((a :: w') :: r) := h
      refine ⟨p, ?_, h0, hp⟩
      have e : runL (fun x => decide (x ∈ [c])) (t.drop p) = 0 := by rw [h0, hj, runL_cons, if_neg (by simpa using ha)]
      show p + runL (fun x => decide (x ∈ [c])) (t.drop p) = p
      omega
    | succ k =>
      have h0 : t.drop p = c :: joW c ((a :: w') :: r) := h
      have hl : p < t.length := by
        rcases Nat.lt_or_ge p t.length with q | q
        · exact q
        · rw [List.drop_eq_nil_of_le q] at h0; cases h0
      have h1 : t.drop (p + 1) = joW c ((a :: w') :: r) := by
        rw [drop_cons hl] at h0; exact (List.cons.inj h0).2
      refine ⟨p + 1, ?_, h1, by omega⟩
      have hj2 : joW c ((a :: w') :: r) = a :: (w' ++ reW c (k + 1) r) := joW_reW c (a :: w') r k
      have e : runL (fun x => decide (x ∈ [c])) (t.drop p) = 0 + 1 := by rw [h0, runL_cons, if_pos (by simp), hj2, runL_cons, if_neg (by simpa using ha)]
      show p + runL (fun x => decide (x ∈ [c])) (t.drop p) = p + 1
      omega
  obtain ⟨b, e, hd, hle⟩ := hb
  rw [e]
  rw [joW_reW c w r k] at hd
  have hlen : t.length - b = w.length + (reW c (k + 1) r).length := by
    have := congrArg List.length hd
    rw [List.length_drop, List.length_append] at this; exact this
  have hwl : 0 < w.length := List.length_pos_iff.mpr hw
  have hbl : b < t.length := by omega
  have hg : t.getD b 0 ∉ [c] := by
    have h1 := drop_cons hbl
    rw [hd] at h1
    obtain ⟨a, w', rfl⟩ : ∃ a w', w = a :: w' := by cases w with | nil => exact absurd rfl hw | cons a w' => exact ⟨a, w', rfl⟩
    have : a = t.getD b 0 := (List.cons.inj h1).1
    rw [← this]; simpa using hc a (by simp)
  have he : endF t [c] b = b + w.length := by
    unfold endF
    rw [if_neg hg, hd, runL_all (fun x hx => by simpa using hc x hx)]
    rcases reW_hd c k r with q | q
    · exact Or.inl q
    · right; rw [q]; simp
  rw [he]
  refine ⟨hbl, by omega, ?_, ?_, by omega⟩
  · rw [hd, List.take_left' rfl]
  · rw [← List.drop_drop, hd, List.drop_left' rfl]
theorem cnt_part {t : Tx} {c : Nat} : ∀ (ws : List Tx) (k p : Nat), p ≤ t.length → t.drop p = reW c k ws → (∀ w ∈ ws, w ≠ [] ∧ ∀ x ∈ w, x ≠ c) → cntA t [c] false p = ws.length
  | [], k, p, hp, h, _ => by
    have : t.drop p = [] := by rw [h]; cases k <;> rfl
    have hl : t.length ≤ p := by
      have := congrArg List.length this
      rw [List.length_drop] at this
      have h3 : t.length - p = 0 := this
      omega
    exact cntA_0 (by rw [begF_ge hl]; exact hl)
  | w :: ws, k, p, hp, h, hw => by
    obtain ⟨h1, h2, h3, h4, h5⟩ := tok_part hp h (hw w (by simp)).1 (hw w (by simp)).2
    rw [cntA_s h1, cnt_part ws (k + 1) _ h5 h4 (fun v hv => hw v (by simp [hv]))]; rfl
