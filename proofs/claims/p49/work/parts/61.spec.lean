/-! THE ABSTRACT STATE, that both programs are tied to, and what each call does to it -/
abbrev Tx : Type := List Nat
abbrev Ly : Type := List (Tx × Tx)
/-- a tokenizer: text, delimiters, whether it returns them, position -/
abbrev Tk : Type := Tx × Tx × Bool × Nat
/-- a joiner: delimiter, prefix, suffix, what its elements are together, the text for the case that there are none -/
abbrev Jn : Type := Tx × Tx × Tx × Option Tx × Option Tx
abbrev AS : Type := (Nat → Option Tx) × Tx × (Nat → Ly) × (Nat → Option (Nat → Ly)) × (Nat → Option Tk) × (Nat → Option Jn) × Int32 × Int32
abbrev aSl (s : AS) : Nat → Option Tx := s.1
abbrev aTp (s : AS) : Tx := s.2.1
abbrev aLy (s : AS) : Nat → Ly := s.2.2.1
abbrev aIm (s : AS) : Nat → Option (Nat → Ly) := s.2.2.2.1
abbrev aTk (s : AS) : Nat → Option Tk := s.2.2.2.2.1
abbrev aJn (s : AS) : Nat → Option Jn := s.2.2.2.2.2.1
abbrev aNp (s : AS) : Int32 := s.2.2.2.2.2.2.1
abbrev aNe (s : AS) : Int32 := s.2.2.2.2.2.2.2
abbrev sSl (s : AS) (i : Nat) (v : Option Tx) : AS := (va_up s.1 i v, s.2)
abbrev sTp (s : AS) (t : Tx) : AS := (s.1, t, s.2.2)
abbrev sLy (s : AS) (i : Nat) (l : Ly) : AS := (s.1, s.2.1, va_up s.2.2.1 i l, s.2.2.2)
abbrev sLys (s : AS) (f : Nat → Ly) : AS := (s.1, s.2.1, f, s.2.2.2)
abbrev sIm (s : AS) (i : Nat) (v : Option (Nat → Ly)) : AS := (s.1, s.2.1, s.2.2.1, va_up s.2.2.2.1 i v, s.2.2.2.2)
abbrev sTk (s : AS) (i : Nat) (v : Option Tk) : AS := (s.1, s.2.1, s.2.2.1, s.2.2.2.1, va_up s.2.2.2.2.1 i v, s.2.2.2.2.2)
abbrev sJn (s : AS) (i : Nat) (v : Option Jn) : AS := (s.1, s.2.1, s.2.2.1, s.2.2.2.1, s.2.2.2.2.1, va_up s.2.2.2.2.2.1 i v, s.2.2.2.2.2.2)
abbrev sNp (s : AS) : AS := (s.1, s.2.1, s.2.2.1, s.2.2.2.1, s.2.2.2.2.1, s.2.2.2.2.2.1, s.2.2.2.2.2.2.1 + 1, s.2.2.2.2.2.2.2)
abbrev sNe (s : AS) : AS := (s.1, s.2.1, s.2.2.1, s.2.2.2.1, s.2.2.2.2.1, s.2.2.2.2.2.1, s.2.2.2.2.2.2.1, s.2.2.2.2.2.2.2 + 1)
/-- a number as an index below n -/
def ixO (x : Int32) (n : Nat) : Option Nat := if x < 0 ∨ nI n ≤ x then none else some x.toNatClampNeg
theorem ixO_cases (x : Int32) {n : Nat} (hn : n < 2 ^ 31) : (ixO x n = none ∧ (x < 0 ∨ nI n ≤ x)) ∨ ∃ i, i < n ∧ x = nI i ∧ ixO x n = some i := by
  rcases pk_ix x hn with h | h | ⟨j, hj, rfl⟩
  · exact Or.inl ⟨if_pos (Or.inl h), Or.inl h⟩
  · exact Or.inl ⟨if_pos (Or.inr h), Or.inr h⟩
  · refine Or.inr ⟨j, hj, rfl, ?_⟩
    unfold ixO
    rw [if_neg (by rintro (q | q); exact nI_pos (by omega) q; exact nI_ge hj hn q), nI_clamp (by omega)]
def lenO (o : Option Tx) : Int32 := match o with
  | none => -2
  | some t => nI t.length
/-! slots -/
def op_erase (x : Int32) (s : AS) : Int32 × AS := match ixO x 6 with
  | none => (-1, s)
  | some i => (lenO (aSl s i), sSl s i (some []))
def op_forget (x : Int32) (s : AS) : Int32 × AS := match ixO x 6 with
  | none => (-1, s)
  | some i => (lenO (aSl s i), sSl s i none)
def op_append (x y : Int32) (s : AS) : Int32 × AS := match ixO x 6, ixO y 256 with
  | some i, some c => match aSl s i with
    | none => (-2, s)
    | some t => if t.length < 300 then (nI (t.length + 1), sSl s i (some (t ++ [c]))) else (-3, s)
  | _, _ => (-1, s)
def op_length (x : Int32) (s : AS) : Int32 × AS := match ixO x 6 with
  | none => (-1, s)
  | some i => (lenO (aSl s i), s)
def op_characterAt (x y : Int32) (s : AS) : Int32 × AS := match ixO x 6 with
  | none => (-1, s)
  | some i => match aSl s i with
    | none => (-2, s)
    | some t => match ixO y t.length with
      | none => (-5, s)
      | some j => (nI (t.getD j 0), s)
def op_copy (x y : Int32) (s : AS) : Int32 × AS := match ixO x 6, ixO y 6 with
  | some i, some j => (lenO (aSl s i), sSl s j (aSl s i))
  | _, _ => (-1, s)
def op_same (x y : Int32) (s : AS) : Int32 × AS := match ixO x 6, ixO y 6 with
  | some i, some j => (if aSl s i = aSl s j then 1 else 0, s)
  | _, _ => (-1, s)
/-! tape -/
def typed (c : Nat) : Prop := c = 9 ∨ c = 10 ∨ c = 13 ∨ (32 ≤ c ∧ c ≤ 126)
def tyO (x : Int32) : Option Nat := if x = 9 ∨ x = 10 ∨ x = 13 ∨ (¬ x < 32 ∧ ¬ 126 < x) then some x.toNatClampNeg else none
theorem tyO_cases (x : Int32) : (tyO x = none ∧ ¬ (x = 9 ∨ x = 10 ∨ x = 13 ∨ (¬ x < 32 ∧ ¬ 126 < x))) ∨ ∃ c, c < 127 ∧ x = nI c ∧ tyO x = some c ∧ (x = 9 ∨ x = 10 ∨ x = 13 ∨ (¬ x < 32 ∧ ¬ 126 < x)) := by
  by_cases h : x = 9 ∨ x = 10 ∨ x = 13 ∨ (¬ x < 32 ∧ ¬ 126 < x)
  · refine Or.inr ?_
    have h0 : ∃ c, c < 127 ∧ x = nI c := by
      rcases h with rfl | rfl | rfl | ⟨h1, h2⟩
      · exact ⟨9, by omega, rfl⟩
      · exact ⟨10, by omega, rfl⟩
      · exact ⟨13, by omega, rfl⟩
      · have h3 : ¬ x < 0 := fun q => h1 (by
          have a := Int32.lt_iff_toInt_lt.mp q
          refine Int32.lt_iff_toInt_lt.mpr ?_
          have e : (32 : Int32).toInt = 32 := by decide
          have e0 : (0 : Int32).toInt = 0 := by decide
          omega)
        obtain ⟨j, hj, rfl⟩ := nI_of h3
        refine ⟨j, ?_, rfl⟩
        rcases Nat.lt_or_ge 126 j with q | q
        · exact absurd (nI_lt (a := 126) q hj) h2
        · omega
    obtain ⟨c, hc, rfl⟩ := h0
    refine ⟨c, hc, rfl, ?_, h⟩
    unfold tyO
    rw [if_pos h, nI_clamp (by omega)]
  · exact Or.inl ⟨if_neg h, h⟩
def op_type (x : Int32) (s : AS) : Int32 × AS := match tyO x with
  | none => (-1, s)
  | some c => if (aTp s).length < 300 then (nI ((aTp s).length + 1), sTp s (aTp s ++ [c])) else (-3, s)
def op_tapeLength (s : AS) : Int32 × AS := (nI (aTp s).length, s)
def op_tapeAt (x : Int32) (s : AS) : Int32 × AS := match ixO x (aTp s).length with
  | none => (-5, s)
  | some j => (nI ((aTp s).getD j 0), s)
def op_wipe (s : AS) : Int32 × AS := (nI (aTp s).length, sTp s [])
def op_refusals (x : Int32) (s : AS) : Int32 × AS := if x = 0 then (aNp s, s) else if x = 1 then (aNe s, s) else (-1, s)
