/-! THE CLASS HOLDS an abstract state -/
theorem va_upS_ne {S : hS} {a x : Nat} {e : va_E} (h : x ≠ a) : (upS S a e).2 x = S.2 x := va_up_ne _ _ h
theorem va_upS_self {S : hS} {a : Nat} {e : va_E} : (upS S a e).2 a = e := va_up_self _ _ _
theorem va_adS_ne {S : hS} {a x : Nat} {e : va_E} (h : x ≠ a) : (adS S a e).2 x = S.2 x := va_up_ne _ _ h
theorem va_adS_self {S : hS} {a : Nat} {e : va_E} : (adS S a e).2 a = e := va_up_self _ _ _
theorem adS_mem {S : hS} {a : Nat} {e : va_E} : a ∈ (adS S a e).1 := List.mem_append_right _ (List.mem_singleton.mpr rfl)
theorem adS_old {S : hS} {a x : Nat} {e : va_E} (h : x ∈ S.1) : x ∈ (adS S a e).1 := List.mem_append_left _ h
/-- a cell that nothing changes -/
def im (mm : List Nat) (S : hS) (a : Nat) (e : va_E) : Prop := a ∈ S.1 ∧ a ∉ mm ∧ S.2 a = e
theorem im.kept {mm mm' : List Nat} {S S' : hS} {a : Nat} {e : va_E} (h : im mm S a e) (hk : kp mm mm' S S') : im mm' S' a e :=
  ⟨hk.1 a h.1, (hk.2 a h.1 h.2.1).1, (hk.2 a h.1 h.2.1).2.trans h.2.2⟩
abbrev qE (c : ClassId) (n : Nat) (g : Nat → Option Nat) : va_E := .inl (c, n, .inr (.inr (.inr (.inr g))))
/-- the changeable cells, by their places: 0 drawer, 1 tape, 2, 3 its signs and their row, 4, 5 what is unescaped, 6 places, 7, 8, 9 the rows of images, tokenizers, joiners, 10.. slots, 20.. layers (20 + 12: trial), 40.. their rows, 60.. tokenizers, 70.. joiners -/
def wf (mm : List Nat) (S : hS) (ad : Nat → Nat) (lv : Nat → Prop) : Prop := (∀ a, a ∈ mm → a ∈ S.1) ∧ (∀ c, lv c → ad c ∈ mm) ∧ ∀ c c', lv c → lv c' → ad c = ad c' → c = c'
theorem wf.at {mm : List Nat} {S : hS} {ad : Nat → Nat} {lv : Nat → Prop} (h : wf mm S ad lv) {c : Nat} (hc : lv c) : ad c ∈ S.1 := h.1 _ (h.2.1 c hc)
theorem wf.ne {mm : List Nat} {S : hS} {ad : Nat → Nat} {lv : Nat → Prop} (h : wf mm S ad lv) {c c' : Nat} (hc : lv c) (hc' : lv c') (hne : c ≠ c') : ad c ≠ ad c' := fun z => hne (h.2.2 c c' hc hc' z)
/-- a step: contents may differ at the places of Cs, addresses at those of Ca -/
def stp (mm mm' : List Nat) (ad ad' : Nat → Nat) (lv lv' : Nat → Prop) (S S' : hS) (Ca Cs : Nat → Prop) : Prop :=
  kp mm mm' S S' ∧ (∀ c, lv c → lv' c) ∧ (∀ c, ¬ Ca c → ad' c = ad c) ∧ ∀ c, lv c → ¬ Cs c → S'.2 (ad' c) = S.2 (ad c)
def oT (u : hU) (mm : List Nat) (S : hS) (o : Option Nat) (v : Option Tx) : Prop := match v with
  | none => o = none
  | some t => ∃ a, o = some a ∧ tS u mm S a t ∧ t.length ≤ 300
theorem oT.kept {u : hU} {mm mm' : List Nat} {S S' : hS} {o : Option Nat} {v : Option Tx} (h : oT u mm S o v) (hk : kp mm mm' S S') : oT u mm' S' o v := by
  cases v with
  | none => exact h
  | some t =>
    obtain ⟨a, e, h1, h2⟩ := h
    exact ⟨a, e, h1.kept hk, h2⟩
def pileC (u : hU) (mm : List Nat) (S : hS) (ad : Nat → Nat) (base a : Nat) : Prop := ∃ r g, im mm S a (.inr (5, [va_rf (some r)])) ∧ im mm S r (qE (u.2.1 4) 4 g) ∧ ∀ j, j < 4 → g j = some (ad (base + j))
theorem pileC.keep {u : hU} {mm mm' : List Nat} {S S' : hS} {ad ad' : Nat → Nat} {base a : Nat} (h : pileC u mm S ad base a) (hk : kp mm mm' S S') (ha : ∀ j, j < 4 → ad' (base + j) = ad (base + j)) : pileC u mm' S' ad' base a := by
  obtain ⟨r, g, h1, h2, h3⟩ := h
  exact ⟨r, g, h1.kept hk, h2.kept hk, fun j hj => by rw [ha j hj]; exact h3 j hj⟩
def entC (u : hU) (mm : List Nat) (S : hS) (a : Nat) (p : Tx × Tx) : Prop := ∃ ka va, im mm S a (.inr (2, [va_rf (some ka), va_rf (some va)])) ∧ tS u mm S ka p.1 ∧ p.1.length ≤ 300 ∧ tS u mm S va p.2 ∧ p.2.length ≤ 300
theorem entC.kept {u : hU} {mm mm' : List Nat} {S S' : hS} {a : Nat} {p : Tx × Tx} (h : entC u mm S a p) (hk : kp mm mm' S S') : entC u mm' S' a p := by
  obtain ⟨ka, va, h1, h2, h3, h4, h5⟩ := h
  exact ⟨ka, va, h1.kept hk, h2.kept hk, h3, h4.kept hk, h5⟩
/-- a layer at the place j -/
def layC (u : hU) (mm : List Nat) (S : hS) (ad : Nat → Nat) (lv : Nat → Prop) (j : Nat) (L : Ly) : Prop := lv (20 + j) ∧ lv (40 + j) ∧ L.length ≤ 40 ∧ S.2 (ad (20 + j)) = .inr (4, [va_rf (some (ad (40 + j))), .int (nI L.length)]) ∧
  ∃ g, S.2 (ad (40 + j)) = qE (u.2.1 3) 40 g ∧ ∀ e, e < L.length → ∃ a, g e = some a ∧ entC u mm S a (L.getD e ([], []))
theorem layC.keep {u : hU} {mm mm' : List Nat} {S S' : hS} {ad ad' : Nat → Nat} {lv lv' Ca Cs : Nat → Prop} {j : Nat} {L : Ly} (h : layC u mm S ad lv j L) (hs : stp mm mm' ad ad' lv lv' S S' Ca Cs) (ha : ¬ Ca (20 + j) ∧ ¬ Ca (40 + j)) (hc : ¬ Cs (20 + j) ∧ ¬ Cs (40 + j)) : layC u mm' S' ad' lv' j L := by
  obtain ⟨h1, h2, h3, h4, g, h5, h6⟩ := h
  refine ⟨hs.2.1 _ h1, hs.2.1 _ h2, h3, ?_, g, ?_, fun e he => ?_⟩
  · rw [hs.2.2.2 _ h1 hc.1, hs.2.2.1 _ ha.2]; exact h4
  · rw [hs.2.2.2 _ h2 hc.2]; exact h5
  · obtain ⟨a, q1, q2⟩ := h6 e he
    exact ⟨a, q1, q2.kept hs.1⟩
/-- the tape: what is filled in of the entry, where its line starts, where key and value are, the places, what is unescaped -/
def tapD (u : hU) (S : hS) (ad : Nat → Nat) (lv : Nat → Prop) (T : Tx) (N : Nat) (t' : Tx) (N' : Nat) (f l k v : Int32) (g : Nat → Int32) : Prop := (∀ c, 1 ≤ c → c ≤ 6 → lv c) ∧ (T.length ≤ 300 ∧ (∀ c ∈ T, c < 127) ∧ (16 ≤ N ∧ N ≤ 602) ∧ 16 ≤ N' ∧ N' ≤ 602) ∧
  S.2 (ad 1) = .inr (8, [va_rf (some (ad 2)), va_rf (some (ad 6)), va_rf (some (ad 4)), .int f, .int l, .int k, .int v]) ∧ bS u S (ad 2) (ad 3) T N ∧ bS u S (ad 4) (ad 5) t' N' ∧ S.2 (ad 6) = .inl (u.2.1 0, 300, .inl g)
theorem tapD.keep {u : hU} {mm mm' : List Nat} {S S' : hS} {ad ad' : Nat → Nat} {lv lv' Ca Cs : Nat → Prop} {T t' : Tx} {N N' : Nat} {f l k v : Int32} {g : Nat → Int32} (h : tapD u S ad lv T N t' N' f l k v g) (hs : stp mm mm' ad ad' lv lv' S S' Ca Cs) (ha : ∀ c, Ca c → ¬ (1 ≤ c ∧ c ≤ 6)) (hc : ∀ c, Cs c → ¬ (1 ≤ c ∧ c ≤ 6)) : tapD u S' ad' lv' T N t' N' f l k v g := by
  obtain ⟨h0, h1, h2, h3, h4, h5⟩ := h
  have a' : ∀ c, 1 ≤ c → c ≤ 6 → ad' c = ad c := fun c z1 z2 => hs.2.2.1 c (fun z => ha c z ⟨z1, z2⟩)
  have c' : ∀ c, 1 ≤ c → c ≤ 6 → S'.2 (ad' c) = S.2 (ad c) := fun c z1 z2 => hs.2.2.2 c (h0 c z1 z2) (fun z => hc c z ⟨z1, z2⟩)
  refine ⟨fun c z1 z2 => hs.2.1 c (h0 c z1 z2), h1, ?_, ?_, ?_, ?_⟩
  · rw [c' 1 (by omega) (by omega), a' 2 (by omega) (by omega), a' 6 (by omega) (by omega), a' 4 (by omega) (by omega)]; exact h2
  · have e2 := c' 2 (by omega) (by omega)
    have e3 := c' 3 (by omega) (by omega)
    rw [a' 2 (by omega) (by omega)] at e2 ⊢
    rw [a' 3 (by omega) (by omega)] at e3 ⊢
    exact h3.keep hs.1.1 e2 e3
  · have e2 := c' 4 (by omega) (by omega)
    have e3 := c' 5 (by omega) (by omega)
    rw [a' 4 (by omega) (by omega)] at e2 ⊢
    rw [a' 5 (by omega) (by omega)] at e3 ⊢
    exact h4.keep hs.1.1 e2 e3
  · rw [c' 6 (by omega) (by omega)]; exact h5
def tapC (u : hU) (S : hS) (ad : Nat → Nat) (lv : Nat → Prop) (T : Tx) : Prop := ∃ N t' N' f l k v g, tapD u S ad lv T N t' N' f l k v g
theorem tapC.keep {u : hU} {mm mm' : List Nat} {S S' : hS} {ad ad' : Nat → Nat} {lv lv' Ca Cs : Nat → Prop} {T : Tx} (h : tapC u S ad lv T) (hs : stp mm mm' ad ad' lv lv' S S' Ca Cs) (ha : ∀ c, Ca c → ¬ (1 ≤ c ∧ c ≤ 6)) (hc : ∀ c, Cs c → ¬ (1 ≤ c ∧ c ≤ 6)) : tapC u S' ad' lv' T := by
  obtain ⟨N, t', N', f, l, k, v, g, h⟩ := h
  exact ⟨N, t', N', f, l, k, v, g, h.keep hs ha hc⟩
def tkC (u : hU) (mm : List Nat) (S : hS) (ad : Nat → Nat) (lv : Nat → Prop) (i : Nat) (o : Option Nat) (v : Option Tk) : Prop := match v with
  | none => o = none
  | some (t, d, r, p) => o = some (ad (60 + i)) ∧ lv (60 + i) ∧ (p ≤ t.length ∧ t.length ≤ 300 ∧ d.length ≤ 300) ∧ ∃ ta da, S.2 (ad (60 + i)) = .inr (9, [va_rf (some ta), .int (if r then 1 else 0), va_rf (some da), .int (nI p)]) ∧ tS u mm S ta t ∧ tS u mm S da d
theorem tkC.keep {u : hU} {mm mm' : List Nat} {S S' : hS} {ad ad' : Nat → Nat} {lv lv' Ca Cs : Nat → Prop} {i : Nat} {o : Option Nat} {v : Option Tk} (h : tkC u mm S ad lv i o v) (hs : stp mm mm' ad ad' lv lv' S S' Ca Cs) (ha : ¬ Ca (60 + i)) (hc : ¬ Cs (60 + i)) : tkC u mm' S' ad' lv' i o v := by
  match v, h with
  | none, h => exact h
  | some (t, d, r, p), h =>
    obtain ⟨h1, h2, h3, ta, da, h4, h5, h6⟩ := h
    exact ⟨by rw [hs.2.2.1 _ ha]; exact h1, hs.2.1 _ h2, h3, ta, da, by rw [hs.2.2.2 _ h2 hc]; exact h4, h5.kept hs.1, h6.kept hs.1⟩
def jnC (u : hU) (mm : List Nat) (S : hS) (ad : Nat → Nat) (lv : Nat → Prop) (i : Nat) (o : Option Nat) (v : Option Jn) : Prop := match v with
  | none => o = none
  | some (d, pr, su, el, em) => o = some (ad (70 + i)) ∧ lv (70 + i) ∧ (d.length ≤ 300 ∧ pr.length + (el.getD []).length + su.length ≤ 300) ∧ ∃ da pa sa ea ia, S.2 (ad (70 + i)) = .inr (3, [va_rf (some da), va_rf (some pa), va_rf (some sa), va_rf ea, va_rf ia]) ∧ tS u mm S da d ∧ tS u mm S pa pr ∧ tS u mm S sa su ∧ oT u mm S ea el ∧ oT u mm S ia em
theorem jnC.keep {u : hU} {mm mm' : List Nat} {S S' : hS} {ad ad' : Nat → Nat} {lv lv' Ca Cs : Nat → Prop} {i : Nat} {o : Option Nat} {v : Option Jn} (h : jnC u mm S ad lv i o v) (hs : stp mm mm' ad ad' lv lv' S S' Ca Cs) (ha : ¬ Ca (70 + i)) (hc : ¬ Cs (70 + i)) : jnC u mm' S' ad' lv' i o v := by
  match v, h with
  | none, h => exact h
  | some (d, pr, su, el, em), h =>
    obtain ⟨h1, h2, h3, da, pa, sa, ea, ia, h4, h5, h6, h7, h8, h9⟩ := h
    exact ⟨by rw [hs.2.2.1 _ ha]; exact h1, hs.2.1 _ h2, h3, da, pa, sa, ea, ia, by rw [hs.2.2.2 _ h2 hc]; exact h4, h5.kept hs.1, h6.kept hs.1, h7.kept hs.1, h8.kept hs.1, h9.kept hs.1⟩
def imC (u : hU) (mm : List Nat) (S : hS) (ad : Nat → Nat) (lv : Nat → Prop) (i : Nat) (o : Option Nat) (v : Option (Nat → Ly)) : Prop := match v with
  | none => o = none
  | some f => ∃ p, o = some p ∧ pileC u mm S ad (20 + (4 + 4 * i)) p ∧ ∀ l, l < 4 → layC u mm S ad lv (4 + 4 * i + l) (f l)
theorem imC.keep {u : hU} {mm mm' : List Nat} {S S' : hS} {ad ad' : Nat → Nat} {lv lv' Ca Cs : Nat → Prop} {i : Nat} {o : Option Nat} {v : Option (Nat → Ly)} (h : imC u mm S ad lv i o v) (hs : stp mm mm' ad ad' lv lv' S S' Ca Cs) (ha : ∀ l, l < 4 → ¬ Ca (20 + (4 + 4 * i + l)) ∧ ¬ Ca (40 + (4 + 4 * i + l))) (hc : ∀ l, l < 4 → ¬ Cs (20 + (4 + 4 * i + l)) ∧ ¬ Cs (40 + (4 + 4 * i + l))) : imC u mm' S' ad' lv' i o v := by
  cases v with
  | none => exact h
  | some f =>
    obtain ⟨p, h1, h2, h3⟩ := h
    refine ⟨p, h1, h2.keep hs.1 (fun j hj => ?_), fun l hl => (h3 l hl).keep hs (ha l hl) (hc l hl)⟩
    have e : 20 + (4 + 4 * i) + j = 20 + (4 + 4 * i + j) := by omega
    rw [e]; exact hs.2.2.1 _ (ha j hj).1
def drC (u : hU) (mm : List Nat) (S : hS) (ad : Nat → Nat) (lv : Nat → Prop) (np ne : Int32) : Prop := lv 0 ∧ ∃ sr sg lp, S.2 (ad 0) = .inr (10, [va_rf (some sr), va_rf (some (ad 1)), va_rf (some lp), va_rf (some (ad 32)), va_rf (some (ad 7)), va_rf (some (ad 8)), va_rf (some (ad 9)), .int np, .int ne]) ∧ im mm S sr (qE (u.2.1 8) 6 sg) ∧ (∀ i, i < 6 → sg i = some (ad (10 + i))) ∧ pileC u mm S ad 20 lp
def adF (c : Nat) : Prop := c = 0 ∨ c = 1 ∨ c = 7 ∨ c = 8 ∨ c = 9 ∨ c = 32 ∨ (10 ≤ c ∧ c < 16) ∨ (20 ≤ c ∧ c < 24)
theorem drC.keep {u : hU} {mm mm' : List Nat} {S S' : hS} {ad ad' : Nat → Nat} {lv lv' Ca Cs : Nat → Prop} {np ne : Int32} (h : drC u mm S ad lv np ne) (hs : stp mm mm' ad ad' lv lv' S S' Ca Cs) (ha : ∀ c, Ca c → ¬ adF c) (hc : ¬ Cs 0) : drC u mm' S' ad' lv' np ne := by
  obtain ⟨h1, sr, sg, lp, h2, h3, h4, h5⟩ := h
  have a' : ∀ c, adF c → ad' c = ad c := fun c hc => hs.2.2.1 c (fun z => ha c z hc)
  unfold adF at a'
  refine ⟨hs.2.1 _ h1, sr, sg, lp, ?_, h3.kept hs.1, fun i hi => ?_, h5.keep hs.1 (fun j hj => ?_)⟩
  · rw [hs.2.2.2 _ h1 hc, a' 1 (by omega), a' 32 (by omega), a' 7 (by omega), a' 8 (by omega), a' 9 (by omega)]; exact h2
  · rw [a' (10 + i) (by omega)]; exact h4 i hi
  · exact a' (20 + j) (by omega)
def slC (u : hU) (mm : List Nat) (S : hS) (ad : Nat → Nat) (lv : Nat → Prop) (f : Nat → Option Tx) : Prop := ∀ i, i < 6 → lv (10 + i) ∧ ∃ o, S.2 (ad (10 + i)) = .inr (7, [va_rf o]) ∧ oT u mm S o (f i)
theorem slC.keep {u : hU} {mm mm' : List Nat} {S S' : hS} {ad ad' : Nat → Nat} {lv lv' Ca Cs : Nat → Prop} {f : Nat → Option Tx} (h : slC u mm S ad lv f) (hs : stp mm mm' ad ad' lv lv' S S' Ca Cs) (hc : ∀ c, Cs c → ¬ (10 ≤ c ∧ c < 16)) : slC u mm' S' ad' lv' f := by
  intro i hi
  obtain ⟨h1, o, h2, h3⟩ := h i hi
  exact ⟨hs.2.1 _ h1, o, by rw [hs.2.2.2 _ h1 (fun z => hc _ z (by omega))]; exact h2, h3.kept hs.1⟩
def lysC (u : hU) (mm : List Nat) (S : hS) (ad : Nat → Nat) (lv : Nat → Prop) (f : Nat → Ly) : Prop := ∀ j, j < 4 → layC u mm S ad lv j (f j)
theorem lysC.keep {u : hU} {mm mm' : List Nat} {S S' : hS} {ad ad' : Nat → Nat} {lv lv' Ca Cs : Nat → Prop} {f : Nat → Ly} (h : lysC u mm S ad lv f) (hs : stp mm mm' ad ad' lv lv' S S' Ca Cs) (ha : ∀ c, Ca c → ¬ ((20 ≤ c ∧ c < 24) ∨ (40 ≤ c ∧ c < 44))) (hc : ∀ c, Cs c → ¬ ((20 ≤ c ∧ c < 24) ∨ (40 ≤ c ∧ c < 44))) : lysC u mm' S' ad' lv' f :=
  fun j hj => (h j hj).keep hs ⟨fun z => ha _ z (by omega), fun z => ha _ z (by omega)⟩ ⟨fun z => hc _ z (by omega), fun z => hc _ z (by omega)⟩
def imsC (u : hU) (mm : List Nat) (S : hS) (ad : Nat → Nat) (lv : Nat → Prop) (f : Nat → Option (Nat → Ly)) : Prop := lv 7 ∧ ∃ g, S.2 (ad 7) = qE (u.2.1 5) 2 g ∧ ∀ i, i < 2 → imC u mm S ad lv i (g i) (f i)
theorem imsC.keep {u : hU} {mm mm' : List Nat} {S S' : hS} {ad ad' : Nat → Nat} {lv lv' Ca Cs : Nat → Prop} {f : Nat → Option (Nat → Ly)} (h : imsC u mm S ad lv f) (hs : stp mm mm' ad ad' lv lv' S S' Ca Cs) (ha : ∀ c, Ca c → ¬ ((24 ≤ c ∧ c < 32) ∨ (44 ≤ c ∧ c < 52))) (hc : ∀ c, Cs c → ¬ (c = 7 ∨ (24 ≤ c ∧ c < 32) ∨ (44 ≤ c ∧ c < 52))) : imsC u mm' S' ad' lv' f := by
  obtain ⟨h1, g, h2, h3⟩ := h
  refine ⟨hs.2.1 _ h1, g, by rw [hs.2.2.2 _ h1 (fun z => hc _ z (by omega))]; exact h2, fun i hi => (h3 i hi).keep hs (fun l hl => ⟨fun z => ha _ z (by omega), fun z => ha _ z (by omega)⟩) (fun l hl => ⟨fun z => hc _ z (by omega), fun z => hc _ z (by omega)⟩)⟩
def tksC (u : hU) (mm : List Nat) (S : hS) (ad : Nat → Nat) (lv : Nat → Prop) (f : Nat → Option Tk) : Prop := lv 8 ∧ ∃ g, S.2 (ad 8) = qE (u.2.1 6) 2 g ∧ ∀ i, i < 2 → tkC u mm S ad lv i (g i) (f i)
theorem tksC.keep {u : hU} {mm mm' : List Nat} {S S' : hS} {ad ad' : Nat → Nat} {lv lv' Ca Cs : Nat → Prop} {f : Nat → Option Tk} (h : tksC u mm S ad lv f) (hs : stp mm mm' ad ad' lv lv' S S' Ca Cs) (ha : ∀ c, Ca c → ¬ (60 ≤ c ∧ c < 62)) (hc : ∀ c, Cs c → ¬ (c = 8 ∨ (60 ≤ c ∧ c < 62))) : tksC u mm' S' ad' lv' f := by
  obtain ⟨h1, g, h2, h3⟩ := h
  exact ⟨hs.2.1 _ h1, g, by rw [hs.2.2.2 _ h1 (fun z => hc _ z (by omega))]; exact h2, fun i hi => (h3 i hi).keep hs (fun z => ha _ z (by omega)) (fun z => hc _ z (by omega))⟩
def jnsC (u : hU) (mm : List Nat) (S : hS) (ad : Nat → Nat) (lv : Nat → Prop) (f : Nat → Option Jn) : Prop := lv 9 ∧ ∃ g, S.2 (ad 9) = qE (u.2.1 7) 3 g ∧ ∀ i, i < 3 → jnC u mm S ad lv i (g i) (f i)
theorem jnsC.keep {u : hU} {mm mm' : List Nat} {S S' : hS} {ad ad' : Nat → Nat} {lv lv' Ca Cs : Nat → Prop} {f : Nat → Option Jn} (h : jnsC u mm S ad lv f) (hs : stp mm mm' ad ad' lv lv' S S' Ca Cs) (ha : ∀ c, Ca c → ¬ (70 ≤ c ∧ c < 73)) (hc : ∀ c, Cs c → ¬ (c = 9 ∨ (70 ≤ c ∧ c < 73))) : jnsC u mm' S' ad' lv' f := by
  obtain ⟨h1, g, h2, h3⟩ := h
  exact ⟨hs.2.1 _ h1, g, by rw [hs.2.2.2 _ h1 (fun z => hc _ z (by omega))]; exact h2, fun i hi => (h3 i hi).keep hs (fun z => ha _ z (by omega)) (fun z => hc _ z (by omega))⟩
def uOk (u : hU) : Prop := ∀ i j, i < 3 → j < 3 → (u.1 i).1 = (u.1 j).1 → i = j
def triC (u : hU) (mm : List Nat) (S : hS) (ad : Nat → Nat) (lv : Nat → Prop) : Prop := ∃ L, layC u mm S ad lv 12 L
def cR (u : hU) (d : Nat) (mm : List Nat) (ad : Nat → Nat) (lv : Nat → Prop) (s : AS) (S : hS) : Prop := (uOk u ∧ ad 0 = d) ∧ wf mm S ad lv ∧ drC u mm S ad lv (aNp s) (aNe s) ∧ slC u mm S ad lv (aSl s) ∧ tapC u S ad lv (aTp s) ∧ lysC u mm S ad lv (aLy s) ∧ triC u mm S ad lv ∧ imsC u mm S ad lv (aIm s) ∧ tksC u mm S ad lv (aTk s) ∧ jnsC u mm S ad lv (aJn s)
def cRep (u : hU) (d : Nat) (s : AS) (S : hS) : Prop := ∃ mm ad lv, cR u d mm ad lv s S
/-- contents alone differ, at the places of Cs -/
theorem stp.at {mm : List Nat} {ad : Nat → Nat} {lv Cs : Nat → Prop} {S S' : hS} (hw : wf mm S ad lv) (h1 : ∀ a, a ∈ S.1 → a ∈ S'.1) (h2 : ∀ a, a ∈ S.1 → (∀ c, Cs c → a ≠ ad c) → S'.2 a = S.2 a) (hl : ∀ c, Cs c → lv c) : stp mm mm ad ad lv lv S S' (fun _ => False) Cs := by
  refine ⟨⟨h1, fun a ha hm => ⟨hm, h2 a ha (fun c hc z => hm (z ▸ hw.2.1 c (hl c hc)))⟩⟩, fun _ h => h, fun _ _ => rfl, fun c hc hn => h2 _ (hw.at hc) (fun c' hc' z => hn ?_)⟩
  rw [hw.2.2 c c' hc (hl c' hc') z]; exact hc'
theorem wf.mono {mm : List Nat} {ad : Nat → Nat} {lv : Nat → Prop} {S S' : hS} (hw : wf mm S ad lv) (h1 : ∀ a, a ∈ S.1 → a ∈ S'.1) : wf mm S' ad lv := ⟨fun a ha => h1 a (hw.1 a ha), hw.2.1, hw.2.2⟩
/-- nothing old changes -/
theorem cR.still {u : hU} {d : Nat} {mm : List Nat} {ad : Nat → Nat} {lv : Nat → Prop} {s : AS} {S S' : hS} (h : cR u d mm ad lv s S) (hf : fx [] S S') : cR u d mm ad lv s S' := by
  obtain ⟨h0, hw, h1, h2, h3, h4, ⟨L, h5⟩, h6, h7, h8⟩ := h
  have hs : stp mm mm ad ad lv lv S S' (fun _ => False) (fun _ => False) := stp.at hw hf.1 (fun a ha _ => hf.2 a ha (by simp)) (fun c hc => absurd hc (fun z => z))
  have no : ∀ (P : Nat → Prop) (c : Nat), False → ¬ P c := fun _ _ z => absurd z (fun z => z)
  exact ⟨h0, hw.mono hf.1, h1.keep hs (no _) (fun z => z), h2.keep hs (no _), h3.keep hs (no _) (no _), h4.keep hs (no _) (no _), ⟨L, h5.keep hs ⟨fun z => z, fun z => z⟩ ⟨fun z => z, fun z => z⟩⟩, h6.keep hs (no _) (no _), h7.keep hs (no _) (no _), h8.keep hs (no _) (no _)⟩
/-- a slot gets a text, or nothing -/
theorem cR.slot {u : hU} {d : Nat} {mm : List Nat} {ad : Nat → Nat} {lv : Nat → Prop} {s : AS} {S S' : hS} {i : Nat} {o : Option Nat} {v : Option Tx} (h : cR u d mm ad lv s S) (hi : i < 6) (hv : oT u mm S o v) (e : S' = upS S (ad (10 + i)) (.inr (7, [va_rf o]))) : cR u d mm ad lv (sSl s i v) S' := by
  obtain ⟨h0, hw, h1, h2, h3, h4, ⟨L, h5⟩, h6, h7, h8⟩ := h
  have hs : stp mm mm ad ad lv lv S S' (fun _ => False) (fun c => c = 10 + i) := stp.at hw (fun a ha => by rw [e]; exact ha) (fun a ha hc => by rw [e]; exact va_upS_ne (hc _ rfl)) (fun c hc => by rw [hc]; exact (h2 i hi).1)
  have no : ∀ (P : Nat → Prop) (c : Nat), False → ¬ P c := fun _ _ z => absurd z (fun z => z)
  refine ⟨h0, hw.mono hs.1.1, h1.keep hs (no _) (by omega), fun j hj => ?_, h3.keep hs (no _) (by rintro c rfl; omega), h4.keep hs (no _) (by rintro c rfl; omega), ⟨L, h5.keep hs ⟨fun z => z, fun z => z⟩ ⟨by omega, by omega⟩⟩, h6.keep hs (no _) (by rintro c rfl; omega), h7.keep hs (no _) (by rintro c rfl; omega), h8.keep hs (no _) (by rintro c rfl; omega)⟩
  show lv (10 + j) ∧ ∃ o, S'.2 (ad (10 + j)) = .inr (7, [va_rf o]) ∧ oT u mm S' o (va_up (aSl s) i v j)
  by_cases q : j = i
  · subst q
    exact ⟨(h2 j hj).1, o, by rw [e]; exact va_upS_self, by rw [va_up_self]; exact hv.kept hs.1⟩
  · obtain ⟨q1, o', q2, q3⟩ := h2 j hj
    exact ⟨q1, o', by rw [hs.2.2.2 _ q1 (by omega)]; exact q2, by rw [va_up_ne _ _ q]; exact q3.kept hs.1⟩
