/-! WHAT IS WRITTEN IS READ AGAIN: pure, over the texts alone -/
theorem getD_app_l {a b : Tx} {j : Nat} (h : j < a.length) : (a ++ b).getD j 0 = a.getD j 0 := by
  rw [List.getD_eq_getElem?_getD, List.getD_eq_getElem?_getD, List.getElem?_append_left h]
theorem getD_app_r {a b : Tx} (j : Nat) : (a ++ b).getD (a.length + j) 0 = b.getD j 0 := by
  rw [List.getD_eq_getElem?_getD, List.getD_eq_getElem?_getD, List.getElem?_append_right (Nat.le_add_right _ _), Nat.add_sub_cancel_left]
/-- the text t stands in X from i on -/
def stA (X : Nat → Nat) (i : Nat) (t : Tx) : Prop := ∀ j, j < t.length → X (i + j) = t.getD j 0
theorem stA.l {X : Nat → Nat} {i : Nat} {t v : Tx} (h : stA X i (t ++ v)) : stA X i t := fun j hj => by
  rw [h j (by rw [List.length_append]; omega), getD_app_l hj]
theorem stA.r {X : Nat → Nat} {i : Nat} {t v : Tx} (h : stA X i (t ++ v)) : stA X (i + t.length) v := fun j hj => by
  rw [Nat.add_assoc, h (t.length + j) (by rw [List.length_append]; omega), getD_app_r]
theorem stA.hd {X : Nat → Nat} {i c : Nat} {t : Tx} (h : stA X i (c :: t)) : X i = c := h 0 (by simp)
theorem stA.tl {X : Nat → Nat} {i c : Nat} {t : Tx} (h : stA X i (c :: t)) : stA X (i + 1) t := fun j hj => by
  have := h (j + 1) (by simp; exact hj)
  rw [show i + 1 + j = i + (j + 1) by omega, this]; rfl
theorem scan_to {P : Nat → Bool} {X : Nat → Nat} {m : Nat} : ∀ (n i : Nat), i + n ≤ m → (∀ j, j < n → P (X (i + j)) = true) → (i + n = m ∨ P (X (i + n)) = false) → scan P X m i = i + n
  | 0, i, h, _, h2 => by
    rcases Nat.lt_or_ge i m with q | q
    · rw [scan_st q]
      rcases h2 with e | e
      · omega
      · rw [show i + 0 = i by omega] at e; rw [if_neg (by rw [e]; decide)]; rfl
    · rw [scan_ge q]; rfl
  | n + 1, i, h, h1, h2 => by
    have := scan_to (P := P) (X := X) (m := m) n (i + 1) (by omega) (fun j hj => by rw [show i + 1 + j = i + (j + 1) by omega]; exact h1 (j + 1) (by omega)) (by rw [show i + 1 + n = i + (n + 1) by omega]; exact h2)
    have h0 : P (X i) = true := h1 0 (by omega)
    rw [scan_st (by omega), if_pos h0, this]; omega
/-! the escapes of one sign -/
theorem escF_cs : ∀ c, c < 256 →
    ((escF c).length = 2 ∧ (escF c).getD 0 0 = 92 ∧ (escF c).getD 1 0 ≠ 117 ∧ escC ((escF c).getD 1 0) = c) ∨
    ((escF c).length = 1 ∧ (escF c).getD 0 0 = c ∧ c ≠ 92 ∧ c ≠ 61 ∧ c ≠ 58 ∧ isBl c = false) ∨
    ((escF c).length = 6 ∧ (escF c).getD 0 0 = 92 ∧ (escF c).getD 1 0 = 117 ∧ (escF c).getD 2 0 = 48 ∧ (escF c).getD 3 0 = 48 ∧ hexF ((escF c).getD 4 0) = some (c / 16) ∧ hexF ((escF c).getD 5 0) = some (c % 16) ∧
      ((escF c).getD 4 0 ≠ 92 ∧ (escF c).getD 4 0 ≠ 61 ∧ (escF c).getD 4 0 ≠ 58 ∧ isBl ((escF c).getD 4 0) = false) ∧ ((escF c).getD 5 0 ≠ 92 ∧ (escF c).getD 5 0 ≠ 61 ∧ (escF c).getD 5 0 ≠ 58 ∧ isBl ((escF c).getD 5 0) = false)) := by decide +kernel
theorem escF_no : ∀ c, c < 256 → ∀ x ∈ escF c, notEnd x = true := by decide +kernel
theorem escF_0 : ∀ c, c < 256 → (escF c ≠ [] ∧ isBl ((escF c).getD 0 0) = false ∧ (escF c).getD 0 0 ≠ 35 ∧ (escF c).getD 0 0 ≠ 33) := by decide +kernel
theorem escF_pr : ∀ c, c < 256 → prL (escF c) = true := by decide +kernel
theorem escT_no : ∀ t : Tx, (∀ c ∈ t, c < 256) → ∀ x ∈ escT t, notEnd x = true
  | [], _, x, h => absurd h (by simp [escT])
  | c :: t, hc, x, h => by
    rw [escT] at h
    rcases List.mem_append.mp h with q | q
    · exact escF_no c (hc c (by simp)) x q
    · exact escT_no t (fun d hd => hc d (by simp [hd])) x q
theorem escT_pr : ∀ t : Tx, (∀ c ∈ t, c < 256) → prL (escT t) = true
  | [], _ => rfl
  | c :: t, hc => by
    rw [escT]
    exact prL_app _ _ _ (Nat.le_refl _) (escF_pr c (hc c (by simp))) (escT_pr t (fun d hd => hc d (by simp [hd])))
/-! the key's end, and what pairs are replaced by -/
theorem keyA_1 {X : Nat → Nat} {m i c : Nat} (h : i < m) (hx : X i = c) (h1 : c ≠ 92 ∧ c ≠ 61 ∧ c ≠ 58 ∧ isBl c = false) : keyA X m i = keyA X m (i + 1) := by
  rw [keyA_st h (by rw [hx]; rintro (q | q | q); exact h1.2.1 q; exact h1.2.2.1 q; rw [h1.2.2.2] at q; cases q), if_neg (by rw [hx]; exact h1.1)]
theorem keyA_2 {X : Nat → Nat} {m i : Nat} (h : i < m) (hx : X i = 92) : keyA X m i = keyA X m (i + 2) := by
  rw [keyA_st h (by rw [hx]; decide), if_pos hx]
theorem keyA_esc {X : Nat → Nat} {m : Nat} : ∀ (t : Tx) (i : Nat), (∀ c ∈ t, c < 256) → stA X i (escT t) → i + (escT t).length < m → X (i + (escT t).length) = 61 → keyA X m i = i + (escT t).length
  | [], i, _, _, hm, h61 => by
    have e : i + (escT ([] : Tx)).length = i := rfl
    rw [e] at h61 hm ⊢
    exact keyA_end hm (Or.inl h61)
  | c :: t, i, hc, h, hm, h61 => by
    have hc0 : c < 256 := hc c (by simp)
    have e : escT (c :: t) = escF c ++ escT t := rfl
    rw [e] at h hm h61 ⊢
    have hF := h.l
    have hT := h.r
    rw [List.length_append] at hm h61 ⊢
    have ih := keyA_esc (X := X) (m := m) t (i + (escF c).length) (fun d hd => hc d (by simp [hd])) hT (by omega) (by rw [Nat.add_assoc]; exact h61)
    rw [show i + ((escF c).length + (escT t).length) = i + (escF c).length + (escT t).length by omega, ← ih]
    rcases escF_cs c hc0 with ⟨l, a0, a1, a2⟩ | ⟨l, a0, a1⟩ | ⟨l, a0, a1, a2, a3, a4, a5, a6, a7⟩
    · have x0 : X i = 92 := (hF 0 (by omega)).trans a0
      rw [l, keyA_2 (by omega) x0]
    · have x0 : X i = c := (hF 0 (by omega)).trans a0
      rw [l, keyA_1 (by omega) x0 a1]
    · have n48 : (48 : Nat) ≠ 92 ∧ (48 : Nat) ≠ 61 ∧ (48 : Nat) ≠ 58 ∧ isBl 48 = false := by decide
      have x0 : X i = 92 := (hF 0 (by omega)).trans a0
      rw [l, keyA_2 (by omega) x0, keyA_1 (by omega) ((hF 2 (by omega)).trans a2) n48, keyA_1 (by omega) ((hF 3 (by omega)).trans a3) n48,
        keyA_1 (by omega) ((hF 4 (by omega)).trans rfl) a6, keyA_1 (by omega) ((hF 5 (by omega)).trans rfl) a7]
theorem numF_esc {X : Nat → Nat} {c p to : Nat} (hc : c < 256) (h : p + 4 ≤ to) (h0 : X p = 48) (h1 : X (p + 1) = 48) (h2 : hexF (X (p + 1 + 1)) = some (c / 16)) (h3 : hexF (X (p + 1 + 1 + 1)) = some (c % 16)) : numF X p to = some c := by
  have e48 : hexF 48 = some 0 := by decide
  unfold numF
  rw [if_pos h]
  simp only [numG, h0, h1, h2, h3, e48]
  split
  · exact congrArg some (by omega)
  · exfalso; omega
theorem decG_esc {X : Nat → Nat} {to : Nat} : ∀ (t : Tx) (n i : Nat) (acc : Tx), (∀ c ∈ t, c < 256) → stA X i (escT t) → i + (escT t).length = to → to < i + n → decG X to n i acc = (none, acc ++ t)
  | [], n, i, acc, _, _, hto, hn => by
    have e : i + (escT ([] : Tx)).length = i := rfl
    rw [e] at hto
    cases n with
    | zero => omega
    | succ n => rw [decG, if_pos (by omega), List.append_nil]
  | c :: t, n, i, acc, hc, h, hto, hn => by
    have hc0 : c < 256 := hc c (by simp)
    have e : escT (c :: t) = escF c ++ escT t := rfl
    rw [e] at h hto
    have hF := h.l
    have hT := h.r
    rw [List.length_append] at hto
    have ea : acc ++ c :: t = (acc ++ [c]) ++ t := by simp
    cases n with
    | zero => rcases escF_cs c hc0 with ⟨l, _⟩ | ⟨l, _⟩ | ⟨l, _⟩ <;> omega
    | succ n =>
      rcases escF_cs c hc0 with ⟨l, a0, a1, a2⟩ | ⟨l, a0, a1⟩ | ⟨l, a0, a1, a2, a3, a4, a5, a6, a7⟩
      · rw [l] at hT
        have ih := decG_esc (X := X) (to := to) t n (i + 2) (acc ++ [c]) (fun d hd => hc d (by simp [hd])) hT (by omega) (by omega)
        have x0 : X i = 92 := (hF 0 (by omega)).trans a0
        rw [decG, if_neg (by omega), if_pos x0, if_neg (by rw [hF 1 (by omega)]; exact a1), hF 1 (by omega), a2, ih, ea]
      · rw [l] at hT
        have ih := decG_esc (X := X) (to := to) t n (i + 1) (acc ++ [c]) (fun d hd => hc d (by simp [hd])) hT (by omega) (by omega)
        have x0 : X i = c := (hF 0 (by omega)).trans a0
        rw [decG, if_neg (by omega), if_neg (by rw [x0]; exact a1.1), x0, ih, ea]
      · rw [l] at hT
        have ih := decG_esc (X := X) (to := to) t n (i + 6) (acc ++ [c]) (fun d hd => hc d (by simp [hd])) hT (by omega) (by omega)
        have hN : numF X (i + 2) to = some c := numF_esc hc0 (by omega) ((hF 2 (by omega)).trans a2) ((hF 3 (by omega)).trans a3) (by rw [show i + 2 + 1 + 1 = i + 4 by omega, hF 4 (by omega)]; exact a4) (by rw [show i + 2 + 1 + 1 + 1 = i + 5 by omega, hF 5 (by omega)]; exact a5)
        have x0 : X i = 92 := (hF 0 (by omega)).trans a0
        rw [decG, if_neg (by omega), if_pos x0, if_pos ((hF 1 (by omega)).trans a1), hN]
        show decG X to n (i + 6) (acc ++ [c]) = _
        rw [ih, ea]
/-! one written entry -/
def bdE (p : Tx × Tx) : Tx := escT p.1 ++ ([61] ++ escT p.2)
theorem wrE_bd (p : Tx × Tx) : wrE p = bdE p ++ [10] := by simp [wrE, bdE]
def okE (p : Tx × Tx) : Prop := (∀ c ∈ p.1, c < 256) ∧ ∀ c ∈ p.2, c < 256
theorem bdE_no {p : Tx × Tx} (h : okE p) : ∀ x ∈ bdE p, notEnd x = true := by
  intro x hx
  rcases List.mem_append.mp hx with q | q
  · exact escT_no _ h.1 x q
  · rcases List.mem_append.mp q with q | q
    · rw [List.mem_singleton.mp q]; decide
    · exact escT_no _ h.2 x q
theorem bdE_pr {p : Tx × Tx} (h : okE p) : prL (bdE p) = true :=
  prL_app _ _ _ (Nat.le_refl _) (escT_pr _ h.1) (prL_app _ _ _ (Nat.le_refl _) (by decide) (escT_pr _ h.2))
theorem bdE_pos (p : Tx × Tx) : 0 < (bdE p).length := by simp [bdE]; omega
theorem bdE_0 {p : Tx × Tx} (h : okE p) : isBl ((bdE p).getD 0 0) = false ∧ (bdE p).getD 0 0 ≠ 35 ∧ (bdE p).getD 0 0 ≠ 33 := by
  obtain ⟨k, v⟩ := p
  cases k with
  | nil => show isBl 61 = false ∧ (61 : Nat) ≠ 35 ∧ (61 : Nat) ≠ 33; decide
  | cons c k =>
    have hc := escF_0 c (h.1 c (by simp))
    have e : bdE (c :: k, v) = escF c ++ (escT k ++ ([61] ++ escT v)) := by simp [bdE, escT]
    rw [e, getD_app_l (List.length_pos_iff.mpr hc.1)]
    exact hc.2
theorem escT_0 {t : Tx} (h : ∀ c ∈ t, c < 256) (hp : 0 < (escT t).length) : isBl ((escT t).getD 0 0) = false := by
  cases t with
  | nil => simp [escT] at hp
  | cons c k =>
    have hc := escF_0 c (h c (by simp))
    rw [escT, getD_app_l (List.length_pos_iff.mpr hc.1)]
    exact hc.2.1
theorem rg_get {f : Nat} : ∀ {k i : Nat}, i < k → (rg f k).getD i 0 = f + i
  | 0, i, h => absurd h (by omega)
  | k + 1, i, h => by
    rw [rg, List.getD_eq_getElem?_getD]
    rcases Nat.lt_or_ge i k with q | q
    · rw [List.getElem?_append_left (by rw [rg_len]; exact q), ← List.getD_eq_getElem?_getD]; exact rg_get q
    · have : i = k := by omega
      subst this
      rw [List.getElem?_append_right (by rw [rg_len]; exact Nat.le_refl _), rg_len, Nat.sub_self]; rfl
theorem rg_map {T : Tx} {p : Nat} : ∀ {B : Tx}, stA (ch T) p B → (rg p B.length).map (ch T) = B := by
  intro B h
  refine List.ext_getElem (by rw [List.length_map, rg_len]) (fun i h1 h2 => ?_)
  rw [List.getElem_map]
  have h3 : i < B.length := h2
  have e1 : (rg p B.length)[i]'(by rw [rg_len]; exact h3) = p + i := by
    have := rg_get (f := p) h3
    rw [List.getD_eq_getElem?_getD, List.getElem?_eq_getElem (by rw [rg_len]; exact h3)] at this
    exact this
  rw [e1, h i h3, List.getD_eq_getElem?_getD, List.getElem?_eq_getElem h3]; rfl
theorem entF_at {T : Tx} {p : Nat} {e : Tx × Tx} (he : okE e) (h : stA (ch T) p (wrE e)) (hl : p + (wrE e).length ≤ T.length) : entF T p = (rg p (bdE e).length, p + (wrE e).length) := by
  rw [wrE_bd] at h hl ⊢
  rw [List.length_append] at hl ⊢
  have hl : p + ((bdE e).length + 1) ≤ T.length := hl
  show entF T p = (rg p (bdE e).length, p + ((bdE e).length + 1))
  have hB := h.l
  have h10 : ch T (p + (bdE e).length) = 10 := h.r.hd
  have hpos := bdE_pos e
  have b0 := bdE_0 he
  have x0 : ch T p = (bdE e).getD 0 0 := hB 0 hpos
  have hE : endL T p = p + (bdE e).length := scan_to (bdE e).length p (by omega) (fun j hj => by
    rw [hB j hj]
    refine bdE_no he _ ?_
    rw [List.getD_eq_getElem?_getD, List.getElem?_eq_getElem hj]; exact List.getElem_mem hj) (Or.inr (by rw [h10]; decide))
  have hf : firstL T p (p + (bdE e).length) = p := scan_to 0 p (by omega) (fun j hj => absurd hj (by omega)) (Or.inr (by show isBl (ch T p) = false; rw [x0]; exact b0.1))
  have hs : slR T p (p + (bdE e).length) % 2 = 0 := by
    have := prL_seg T p (bdE e).length
    rw [rg_map hB, bdE_pr he] at this
    exact eq_of_beq this.symm
  have hn : nextL T (p + (bdE e).length) = p + ((bdE e).length + 1) := by
    unfold nextL
    rw [if_neg (by omega), if_neg (by rw [h10]; rintro ⟨_, q, _⟩; exact absurd q (by decide))]; rfl
  unfold entF
  rw [hE, hf, if_neg (by rw [x0]; rintro (q | q | q); omega; exact b0.2.1 q; exact b0.2.2 q), hn]
  have hb : (slR T p (p + (bdE e).length) % 2 == 1) = false := by rw [hs]; rfl
  rw [hb, contF, if_pos (Or.inl rfl)]
  unfold lineP lastL
  rw [hs, if_neg (by decide), Nat.add_sub_cancel_left]
theorem eX_at {T : Tx} {p : Nat} {B : Tx} (h : stA (ch T) p B) : stA (eX T (rg p B.length)) 0 B := fun j hj => by
  rw [Nat.zero_add]
  show ch T ((rg p B.length).getD j 0) = B.getD j 0
  rw [rg_get hj]; exact h j hj
theorem kv_at {T : Tx} {p : Nat} {e : Tx × Tx} (he : okE e) (h : stA (ch T) p (bdE e)) : kvP T (rg p (bdE e).length) = e ∧ kvB T (rg p (bdE e).length) = none := by
  have hX : stA (eX T (rg p (bdE e).length)) 0 (escT e.1 ++ ([61] ++ escT e.2)) := eX_at h
  have e1 : (bdE e).length = (escT e.1).length + (1 + (escT e.2).length) := by simp [bdE]; omega
  have hK := hX.l
  have h61 : eX T (rg p (bdE e).length) (0 + (escT e.1).length) = 61 := hX.r.l.hd
  have hV : stA (eX T (rg p (bdE e).length)) ((escT e.1).length + 1) (escT e.2) := by
    have := hX.r.r
    rw [Nat.zero_add] at this
    exact this
  rw [Nat.zero_add] at h61
  have hm : (rg p (bdE e).length).length = (bdE e).length := rg_len _ _
  have k1 : kvK T (rg p (bdE e).length) = (escT e.1).length := by
    unfold kvK
    rw [hm]
    have := keyA_esc (X := eX T (rg p (bdE e).length)) (m := (bdE e).length) e.1 0 he.1 hK (by omega) (by rw [Nat.zero_add]; exact h61)
    rw [this, Nat.zero_add]
  have v1 : kvV T (rg p (bdE e).length) = (escT e.1).length + 1 := by
    unfold kvV valA bkA
    rw [k1, hm]
    have s1 : scan isBl (eX T (rg p (bdE e).length)) (bdE e).length (escT e.1).length = (escT e.1).length := scan_to 0 _ (by omega) (fun j hj => absurd hj (by omega)) (Or.inr (by show isBl (eX T _ (escT e.1).length) = false; rw [h61]; decide))
    rw [s1, if_pos ⟨by omega, Or.inl h61⟩]
    refine scan_to 0 _ (by omega) (fun j hj => absurd hj (by omega)) ?_
    rcases Nat.eq_zero_or_pos (escT e.2).length with q | q
    · left; omega
    · right
      show isBl (eX T _ ((escT e.1).length + 1)) = false
      have := hV 0 q
      rw [show (escT e.1).length + 1 + 0 = (escT e.1).length + 1 by omega] at this
      rw [this]; exact escT_0 he.2 q
  have d1 : decA (eX T (rg p (bdE e).length)) 0 (escT e.1).length = (none, e.1) := by
    unfold decA
    have := decG_esc (X := eX T (rg p (bdE e).length)) (to := (escT e.1).length) e.1 ((escT e.1).length + 1) 0 [] he.1 hK (by omega) (by omega)
    rw [this]; rfl
  have d2 : decA (eX T (rg p (bdE e).length)) ((escT e.1).length + 1) (bdE e).length = (none, e.2) := by
    unfold decA
    have := decG_esc (X := eX T (rg p (bdE e).length)) (to := (bdE e).length) e.2 ((bdE e).length + 1) ((escT e.1).length + 1) [] he.2 hV (by omega) (by omega)
    rw [this]; rfl
  constructor
  · unfold kvP; rw [k1, v1, hm, d1, d2]
  · unfold kvB; rw [k1, v1, hm, d1, d2]; rfl
/-! a written layer -/
def poL : Nat → Ly → List (List Nat)
  | _, [] => []
  | p, e :: L => rg p (bdE e).length :: poL (p + (wrE e).length) L
theorem poL_len : ∀ (L : Ly) (p : Nat), (poL p L).length = L.length
  | [], _ => rfl
  | e :: L, p => by rw [poL, List.length_cons, poL_len L, List.length_cons]
theorem wrE_pos (e : Tx × Tx) : 2 ≤ (wrE e).length := by simp [wrE]; omega
theorem ents_at {T : Tx} : ∀ (L : Ly) (n p : Nat), (∀ e ∈ L, okE e) → stA (ch T) p (wrL L) → p + (wrL L).length = T.length → T.length < p + n → entsF T n p = poL p L
  | [], n, p, _, _, h, _ => by
    have e : p = T.length := h
    rw [e]; exact ents_last
  | e :: L, 0, p, _, _, h, hn => by omega
  | e :: L, n + 1, p, hk, h, hl, hn => by
    have e0 : wrL (e :: L) = wrE e ++ wrL L := rfl
    rw [e0] at h hl
    rw [List.length_append] at hl
    have w2 := wrE_pos e
    have hE := entF_at (hk e (by simp)) h.l (by omega)
    have ih := ents_at (T := T) L n (p + (wrE e).length) (fun d hd => hk d (by simp [hd])) h.r (by omega) (by omega)
    have hne : rg p (bdE e).length ≠ [] := by
      intro q
      have := congrArg List.length q
      rw [rg_len] at this
      have h3 : (bdE e).length = 0 := this
      have := bdE_pos e
      omega
    rw [entsF, if_neg (by omega), hE, if_neg hne, ih]; rfl
theorem brk_at {T : Tx} : ∀ (L : Ly) (p : Nat), (∀ e ∈ L, okE e) → stA (ch T) p (wrL L) → brkF T (poL p L) = none
  | [], _, _, _ => rfl
  | e :: L, p, hk, h => by
    have e0 : wrL (e :: L) = wrE e ++ wrL L := rfl
    rw [e0] at h
    have hb := h.l
    rw [wrE_bd] at hb
    have := (kv_at (hk e (by simp)) hb.l).2
    rw [poL, brkF, this]
    exact brk_at L _ (fun d hd => hk d (by simp [hd])) h.r
/-! keys in order -/
theorem cmpT_anti : ∀ a b : Tx, cmpT a b = - cmpT b a
  | [], [] => rfl
  | [], _ :: v => by simp only [cmpT, List.length_cons]; omega
  | _ :: t, [] => by simp only [cmpT, List.length_cons]; omega
  | a :: t, b :: v => by
    rw [cmpT, cmpT]
    by_cases q : a = b
    · rw [if_pos q, if_pos q.symm]; exact cmpT_anti t v
    · rw [if_neg q, if_neg (fun z => q z.symm)]; omega
theorem cmpT_trans : ∀ a b c : Tx, cmpT a b < 0 → cmpT b c < 0 → cmpT a c < 0
  | [], [], _, h, _ => absurd h (by decide)
  | [], _ :: _, [], _, h => by simp only [cmpT] at h; omega
  | [], _ :: _, _ :: _, _, _ => by simp only [cmpT, List.length_cons]; omega
  | _ :: _, [], _, h, _ => by simp only [cmpT] at h; omega
  | _ :: _, _ :: _, [], _, h => by simp only [cmpT] at h; omega
  | a :: t, b :: v, c :: w, h, h2 => by
    rw [cmpT] at h h2 ⊢
    by_cases q1 : a = b
    · rw [if_pos q1] at h
      by_cases q2 : b = c
      · rw [if_pos q2] at h2
        rw [if_pos (q1.trans q2)]; exact cmpT_trans t v w h h2
      · rw [if_neg q2] at h2
        rw [if_neg (by omega)]; omega
    · rw [if_neg q1] at h
      by_cases q2 : b = c
      · rw [if_neg (by omega)]; omega
      · rw [if_neg q2] at h2
        rw [if_neg (by omega)]; omega
def srt (L : Ly) : Prop := (L.map (fun p => p.1)).Pairwise (fun a b => cmpT a b < 0)
theorem placeF_end : ∀ {L : Ly} {k : Tx}, (∀ p ∈ L, cmpT p.1 k < 0) → placeF L k = L.length
  | [], _, _ => rfl
  | p :: L, k, h => by
    rw [placeF, if_pos (h p (by simp)), placeF_end (L := L) (fun q hq => h q (by simp [hq]))]; rfl
theorem putF_end {L : Ly} {k v : Tx} (h : ∀ p ∈ L, cmpT p.1 k < 0) : findF L k = none ∧ putF L k v = L ++ [(k, v)] := by
  have hp := placeF_end h
  have hf : findF L k = none := by unfold findF; rw [if_neg (fun q => by have := q.1; omega)]
  refine ⟨hf, ?_⟩
  unfold putF
  rw [hf]
  show L.take (placeF L k) ++ (k, v) :: L.drop (placeF L k) = _
  rw [hp, List.take_length, List.drop_length]
theorem puts_at {T : Tx} : ∀ (L : Ly) (p : Nat) (M : Ly), (∀ e ∈ L, okE e) → stA (ch T) p (wrL L) → srt (M ++ L) → (M ++ L).length ≤ 40 → putsF T (poL p L) M = some (M ++ L)
  | [], _, M, _, _, _, _ => by rw [poL, putsF, List.append_nil]
  | e :: L, p, M, hk, h, hs, hl => by
    have e0 : wrL (e :: L) = wrE e ++ wrL L := rfl
    rw [e0] at h
    have hb := h.l
    rw [wrE_bd] at hb
    have hkv := (kv_at (hk e (by simp)) hb.l).1
    have hlt : ∀ q ∈ M, cmpT q.1 e.1 < 0 := by
      intro q hq
      have := hs
      rw [srt, List.map_append, List.pairwise_append] at this
      exact this.2.2 q.1 (List.mem_map_of_mem hq) e.1 (by simp)
    have hp := putF_end (v := e.2) hlt
    have hM : M ++ e :: L = (M ++ [(e.1, e.2)]) ++ L := by simp
    rw [List.length_append, List.length_cons] at hl
    rw [poL, putsF, hkv, if_neg (by rintro ⟨_, q⟩; omega), hp.2, hM]
    refine puts_at L _ _ (fun d hd => hk d (by simp [hd])) h.r (by rw [← hM]; exact hs) ?_
    rw [← hM, List.length_append, List.length_cons]; exact hl
/-- what is written of a layer is read again -/
theorem rt_load {L : Ly} (hk : ∀ e ∈ L, okE e) (hs : srt L) (hl : L.length ≤ 40) : brkF (wrL L) (entsA (wrL L)) = none ∧ (entsA (wrL L)).length = L.length ∧ putsF (wrL L) (entsA (wrL L)) [] = some L := by
  have h0 : stA (ch (wrL L)) 0 (wrL L) := fun j _ => by rw [Nat.zero_add]; rfl
  have e : entsA (wrL L) = poL 0 L := ents_at L _ 0 hk h0 (by omega) (by omega)
  rw [e]
  exact ⟨brk_at L 0 hk h0, poL_len L 0, puts_at L 0 [] hk h0 hs hl⟩
