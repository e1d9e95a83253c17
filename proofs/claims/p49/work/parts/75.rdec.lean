/-! an entry's key and value -/
def prL : Tx → Bool
  | [] => true
  | [c] => !(c == 92)
  | c :: d :: t => if c == 92 then prL t else prL (d :: t)
theorem prL_snoc : ∀ (n : Nat) (S : Tx) (c : Nat), S.length ≤ n → prL (S ++ [c]) = if prL S then !(c == 92) else true
  | _, [], c, _ => rfl
  | _, [a], c, _ => by
    show (if a == 92 then prL [] else prL [c]) = if (!(a == 92)) then !(c == 92) else true
    cases h : (a == 92) <;> rfl
  | 0, a :: b :: t, c, h => by simp at h
  | n + 1, a :: b :: t, c, h => by
    show (if a == 92 then prL (t ++ [c]) else prL ((b :: t) ++ [c])) = if (if a == 92 then prL t else prL (b :: t)) then !(c == 92) else true
    cases h9 : (a == 92) with
    | true => exact prL_snoc n t c (by simp at h; omega)
    | false => exact prL_snoc n (b :: t) c (by simp at h ⊢; omega)
theorem prL_app : ∀ (n : Nat) (S U : Tx), S.length ≤ n → prL S = true → prL U = true → prL (S ++ U) = true
  | _, [], U, _, _, h => h
  | _, [a], U, _, h, hu => by
    have ha : (a == 92) = false := by
      have h' : (!(a == 92)) = true := h
      cases q : (a == 92)
      · rfl
      · rw [q] at h'; exact absurd h' (by decide)
    cases U with
    | nil => exact h
    | cons b U =>
      show (if a == 92 then prL U else prL (b :: U)) = true
      rw [ha]; exact hu
  | 0, a :: b :: t, U, h, _, _ => by simp at h
  | n + 1, a :: b :: t, U, hl, h, hu => by
    have h' : (if a == 92 then prL t else prL (b :: t)) = true := h
    show (if a == 92 then prL (t ++ U) else prL ((b :: t) ++ U)) = true
    cases h9 : (a == 92) with
    | true =>
      rw [h9] at h'
      exact prL_app n t U (by simp at hl; omega) h' hu
    | false =>
      rw [h9] at h'
      exact prL_app n (b :: t) U (by simp at hl ⊢; omega) h' hu
theorem prL_seg (T : Tx) (f : Nat) : ∀ k, prL ((rg f k).map (ch T)) = (slR T f (f + k) % 2 == 0)
  | 0 => by
    have : slR T f f = 0 := by
      have := slR_le (T := T) (f := f) f
      omega
    show true = (slR T f f % 2 == 0)
    rw [this]; rfl
  | k + 1 => by
    rw [rg, List.map_append]
    show prL ((rg f k).map (ch T) ++ [ch T (f + k)]) = (slR T f ((f + k) + 1) % 2 == 0)
    have hsl : slR T f ((f + k) + 1) = if ch T (f + k) = 92 then slR T f (f + k) + 1 else 0 := by rw [slR, if_neg (by omega)]
    rw [prL_snoc _ _ _ (Nat.le_refl _), prL_seg T f k, hsl]
    by_cases h : ch T (f + k) = 92
    · rw [if_pos h, h]
      rcases Nat.mod_two_eq_zero_or_one (slR T f (f + k)) with q | q
      · rw [q, show (slR T f (f + k) + 1) % 2 = 1 by omega]; rfl
      · rw [q, show (slR T f (f + k) + 1) % 2 = 0 by omega]; rfl
    · rw [if_neg h]
      have : (ch T (f + k) == 92) = false := by simpa using h
      rw [this]
      cases (slR T f (f + k) % 2 == 0) <;> rfl
theorem prL_line {T : Tx} {f e : Nat} (h : f ≤ e) : prL ((lineP T f e).map (ch T)) = true := by
  have hs := slR_le (T := T) (f := f) e
  unfold lineP
  rw [prL_seg]
  unfold lastL
  rcases Nat.mod_two_eq_zero_or_one (slR T f e) with q | q
  · rw [if_neg (by omega), show f + (e - f) = e by omega, q]; rfl
  · rw [if_pos q, show f + (e - 1 - f) = e - 1 by omega]
    have e9 : e = (e - 1) + 1 := by omega
    have hst : slR T f e = if ch T (e - 1) = 92 then slR T f (e - 1) + 1 else 0 := by
      conv => lhs; rw [e9, slR, if_neg (by omega)]
    by_cases h9 : ch T (e - 1) = 92
    · rw [if_pos h9] at hst
      rw [show slR T f (e - 1) % 2 = 0 by omega]; rfl
    · rw [if_neg h9] at hst
      omega
theorem prL_cont {T : Tx} : ∀ (n : Nat) (b : Bool) (p : Nat) (pl : List Nat), p ≤ T.length + 1 → prL (pl.map (ch T)) = true → prL ((contF T n b p pl).1.map (ch T)) = true
  | 0, _, _, _, _, h => h
  | n + 1, b, p, pl, hp, h => by
    unfold contF
    by_cases q : b = false ∨ T.length < p
    · rw [if_pos q]; exact h
    · rw [if_neg q]
      have hle : p ≤ T.length := by
        rcases Nat.lt_or_ge T.length p with c | c
        · exact absurd (Or.inr c) q
        · exact c
      have b1 : p ≤ endL T p ∧ endL T p ≤ T.length := scan_b hle
      have b2 : p ≤ firstL T p (endL T p) ∧ firstL T p (endL T p) ≤ endL T p := scan_b b1.1
      refine prL_cont n _ _ _ (nextL_b b1.2).2 ?_
      rw [List.map_append]
      exact prL_app _ _ _ (Nat.le_refl _) h (prL_line b2.2)
theorem prL_ent {T : Tx} {p : Nat} (hle : p ≤ T.length) : prL ((entF T p).1.map (ch T)) = true := by
  have b1 : p ≤ endL T p ∧ endL T p ≤ T.length := scan_b hle
  have b2 : p ≤ firstL T p (endL T p) ∧ firstL T p (endL T p) ≤ endL T p := scan_b b1.1
  unfold entF
  split
  · rfl
  · exact prL_cont _ _ _ _ (nextL_b b1.2).2 (prL_line b2.2)
/-- the signs of an entry, as a function -/
def eX (T : Tx) (pl : List Nat) (i : Nat) : Nat := ch T (pl.getD i 0)
def prD (T : Tx) (pl : List Nat) (i : Nat) : Prop := prL ((pl.map (ch T)).drop i) = true
theorem eX_drop {T : Tx} {pl : List Nat} {i : Nat} (h : i < pl.length) : (pl.map (ch T)).drop i = eX T pl i :: (pl.map (ch T)).drop (i + 1) := by
  rw [drop_cons (by simpa using h)]
  congr 1
  rw [List.getD_eq_getElem?_getD, List.getElem?_map, List.getElem?_eq_getElem h]
  show ch T pl[i] = ch T (pl.getD i 0)
  rw [List.getD_eq_getElem?_getD, List.getElem?_eq_getElem h]; rfl
theorem prD_1 {T : Tx} {pl : List Nat} {i : Nat} (h : prD T pl i) (hi : i < pl.length) (h9 : eX T pl i ≠ 92) : prD T pl (i + 1) := by
  unfold prD at h ⊢
  rw [eX_drop hi] at h
  have h9' : (eX T pl i == 92) = false := by simpa using h9
  cases hd : (pl.map (ch T)).drop (i + 1) with
  | nil => rfl
  | cons b t =>
    rw [hd] at h
    have h' : (if eX T pl i == 92 then prL t else prL (b :: t)) = true := h
    rw [h9'] at h'; exact h'
theorem prD_2 {T : Tx} {pl : List Nat} {i : Nat} (h : prD T pl i) (hi : i < pl.length) (h9 : eX T pl i = 92) : i + 1 < pl.length ∧ prD T pl (i + 2) := by
  unfold prD at h ⊢
  rw [eX_drop hi, h9] at h
  rcases Nat.lt_or_ge (i + 1) pl.length with q | q
  · refine ⟨q, ?_⟩
    rw [eX_drop q] at h
    exact h
  · rw [List.drop_eq_nil_of_le (by simpa using q)] at h
    exact absurd h (by decide)
def keyF (X : Nat → Nat) (m : Nat) : Nat → Nat → Nat
  | 0, i => i
  | n + 1, i => if m ≤ i then i else if X i = 61 ∨ X i = 58 ∨ isBl (X i) = true then i else keyF X m n (if X i = 92 then i + 2 else i + 1)
theorem keyF_ge {X : Nat → Nat} {m : Nat} : ∀ (n i : Nat), i ≤ keyF X m n i
  | 0, i => Nat.le_refl i
  | n + 1, i => by
    unfold keyF
    split
    · omega
    · split
      · omega
      · split
        · exact Nat.le_trans (by omega) (keyF_ge n (i + 2))
        · exact Nat.le_trans (by omega) (keyF_ge n (i + 1))
def keyA (X : Nat → Nat) (m i : Nat) : Nat := keyF X m (m + 1 - i) i
/-- more fuel than needed changes nothing -/
theorem keyF_more {X : Nat → Nat} {m : Nat} : ∀ (n n' i : Nat), m < i + n → m < i + n' → keyF X m n i = keyF X m n' i
  | 0, n', i, h, h' => by
    cases n' with
    | zero => rfl
    | succ n' => rw [keyF, keyF, if_pos (by omega)]
  | n + 1, 0, i, h, h' => by rw [keyF, keyF, if_pos (by omega)]
  | n + 1, n' + 1, i, h, h' => by
    rw [keyF, keyF]
    split
    · rfl
    · split
      · rfl
      · split
        · exact keyF_more n n' (i + 2) (by omega) (by omega)
        · exact keyF_more n n' (i + 1) (by omega) (by omega)
theorem keyA_ge {X : Nat → Nat} {m i : Nat} (h : m ≤ i) : keyA X m i = i := by
  unfold keyA
  cases hn : m + 1 - i with
  | zero => rfl
  | succ n => rw [keyF, if_pos h]
theorem keyA_end {X : Nat → Nat} {m i : Nat} (h : i < m) (hx : X i = 61 ∨ X i = 58 ∨ isBl (X i) = true) : keyA X m i = i := by
  unfold keyA
  rw [show m + 1 - i = (m - i) + 1 by omega, keyF, if_neg (by omega), if_pos hx]
theorem keyA_st {X : Nat → Nat} {m i : Nat} (h : i < m) (hx : ¬ (X i = 61 ∨ X i = 58 ∨ isBl (X i) = true)) : keyA X m i = keyA X m (if X i = 92 then i + 2 else i + 1) := by
  unfold keyA
  rw [show m + 1 - i = (m - i) + 1 by omega, keyF, if_neg (by omega), if_neg hx]
  refine keyF_more _ _ _ ?_ ?_
  · split <;> omega
  · split <;> omega
theorem keyA_b {T : Tx} {pl : List Nat} : ∀ (d i : Nat), pl.length < i + d → i ≤ pl.length → prD T pl i → keyA (eX T pl) pl.length i ≤ pl.length ∧ prD T pl (keyA (eX T pl) pl.length i)
  | 0, i, h, h2, _ => by omega
  | d + 1, i, h, h2, hp => by
    rcases Nat.lt_or_ge i pl.length with q | q
    · by_cases hx : eX T pl i = 61 ∨ eX T pl i = 58 ∨ isBl (eX T pl i) = true
      · rw [keyA_end q hx]; exact ⟨h2, hp⟩
      · rw [keyA_st q hx]
        by_cases h9 : eX T pl i = 92
        · rw [if_pos h9]
          obtain ⟨a, b⟩ := prD_2 hp q h9
          exact keyA_b d (i + 2) (by omega) (by omega) b
        · rw [if_neg h9]
          exact keyA_b d (i + 1) (by omega) (by omega) (prD_1 hp q h9)
    · rw [keyA_ge q]; exact ⟨h2, hp⟩
def bkA (X : Nat → Nat) (m i : Nat) : Nat := scan isBl X m i
def valA (X : Nat → Nat) (m k : Nat) : Nat := if bkA X m k < m ∧ (X (bkA X m k) = 61 ∨ X (bkA X m k) = 58) then bkA X m (bkA X m k + 1) else bkA X m k
theorem bl92 {c : Nat} (h : isBl c = true) : c ≠ 92 := by rintro rfl; exact absurd h (by decide)
theorem bkA_b {T : Tx} {pl : List Nat} : ∀ (d i : Nat), i + d = pl.length → prD T pl i → bkA (eX T pl) pl.length i ≤ pl.length ∧ prD T pl (bkA (eX T pl) pl.length i)
  | 0, i, h, hp => by
    have : bkA (eX T pl) pl.length i = i := scan_ge (by omega)
    rw [this]; exact ⟨by omega, hp⟩
  | d + 1, i, h, hp => by
    have : bkA (eX T pl) pl.length i = if isBl (eX T pl i) then bkA (eX T pl) pl.length (i + 1) else i := scan_st (by omega)
    rw [this]
    by_cases hb : isBl (eX T pl i) = true
    · rw [if_pos hb]
      exact bkA_b d (i + 1) (by omega) (prD_1 hp (by omega) (bl92 hb))
    · rw [if_neg hb]; exact ⟨by omega, hp⟩
theorem valA_b {T : Tx} {pl : List Nat} {k : Nat} (hk : k ≤ pl.length) (hp : prD T pl k) : valA (eX T pl) pl.length k ≤ pl.length ∧ prD T pl (valA (eX T pl) pl.length k) := by
  have h := bkA_b (T := T) (pl := pl) (pl.length - k) k (by omega) hp
  unfold valA
  split
  · rename_i q
    refine bkA_b (pl.length - (bkA (eX T pl) pl.length k + 1)) _ (by omega) (prD_1 h.2 q.1 ?_)
    rcases q.2 with c | c <;> rw [c] <;> decide
  · exact h
def hexF (c : Nat) : Option Nat := if 48 ≤ c ∧ c ≤ 57 then some (c - 48) else if 97 ≤ c ∧ c ≤ 102 then some (c - 87) else if 65 ≤ c ∧ c ≤ 70 then some (c - 55) else none
def numG (X : Nat → Nat) : Nat → Nat → Nat → Option Nat
  | 0, a, _ => if a ≤ 255 then some a else none
  | k + 1, a, p => match hexF (X p) with
    | none => none
    | some v => numG X k (16 * a + v) (p + 1)
def numF (X : Nat → Nat) (a to : Nat) : Option Nat := if a + 4 ≤ to then numG X 4 0 a else none
def escC (d : Nat) : Nat := if d = 116 then 9 else if d = 110 then 10 else if d = 114 then 13 else d
def decG (X : Nat → Nat) (to : Nat) : Nat → Nat → Tx → Option Nat × Tx
  | 0, _, t => (none, t)
  | n + 1, i, t => if to ≤ i then (none, t) else if X i = 92 then (if X (i + 1) = 117 then (match numF X (i + 2) to with
      | none => (some i, t)
      | some v => decG X to n (i + 6) (t ++ [v])) else decG X to n (i + 2) (t ++ [escC (X (i + 1))])) else decG X to n (i + 1) (t ++ [X i])
def decA (X : Nat → Nat) (i to : Nat) : Option Nat × Tx := decG X to (to + 1) i []
