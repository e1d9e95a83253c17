/-! ROWS: larger rows, and rows of booleans -/
section HROWS
variable {p : Program} {l : Launch} {e : Env} {R : Room} {s : State} {m : MethodId} {args : Array Value} {below : List Frame} {meth : Method} {c : Code} {k n : Nat} {Q : State → Prop}
variable {D : va_G} {tys : List (ClassId × FieldType)} {A : Nat → Prop} {cc : ByteArray} {nL : Nat} {own : String} {Ts : List Cond} {H : Heap} {locs : List Loc} {ls : Array Slot} {pc : Nat} {rest : List Value}
variable {cx : Nat → Nat × Nat} {vF : hV} {X : va_W} {S : hS}
theorem h_newI4 (C0 : hX p s m args c cc nL own Ts D tys A cx vF) (hW : gW D A s.heap (hC X S) H locs) {cI : ClassId} (ht : tys[0]? = some (cI, .int)) (harr : (Cond.arrayClass .int) ∈ Ts) {x : Int32} {N : Nat} (hn : ¬ x < 0) (hN : x.toNatClampNeg = N) (hbytes : N ≤ 400000) (hcells : k + 1 ≤ R.cells) (hslots : n + N ≤ R.slots) (hdg : decode cc pc = .ok (.newarray .int, 2))
    (kk : ∀ (q : Nat) (H1 : Heap), fr cx S q → gW D A s.heap (hC X (adS S q (.inl (cI, N, .inl (fun _ => 0))))) H1 locs → W p l e R s m args below meth c H1 locs (k + 1) (n + N) Q (F0 m (pc + 2) ls (.ref q :: rest))) : W p l e R s m args below meth c H locs k n Q (F0 m pc ls (.int x :: rest)) := by
  obtain ⟨⟨hx, hb, hml, ho, hts, hK, hA⟩, hR⟩ := id C0
  refine va_newa (atype := .int) (ty := .int) (a0 := (N, .inl (fun _ => 0))) hx hb (hts _ harr) rfl hK hW.1 hW.2.1 hW.2.2 hA (fun cA => rfl) hn hN (by show N * 4 ≤ _; omega) hcells hslots hdg (fun q cA H1 hK' hP hD hSS => ?_)
  have e1 : cA = cI := by
    have h1 := (hK'.2 tys.length (cA, .int) (by simp)).2
    have h2 := (hK.2 0 (cI, .int) ht).2
    exact Option.some.inj (h1.symm.trans h2)
  subst e1
  exact kk q H1 (h_fr C0.2 (h_add hW hP hD hSS).1 hD) (h_add hW hP hD hSS).2
theorem h_newZ (C0 : hX p s m args c cc nL own Ts D tys A cx vF) (hW : gW D A s.heap (hC X S) H locs) {cI : ClassId} (ht : tys[1]? = some (cI, .boolean)) (harr : (Cond.arrayClass .boolean) ∈ Ts) {x : Int32} {N : Nat} (hn : ¬ x < 0) (hN : x.toNatClampNeg = N) (hbytes : N ≤ 400000) (hcells : k + 1 ≤ R.cells) (hslots : n + N ≤ R.slots) (hdg : decode cc pc = .ok (.newarray .boolean, 2))
    (kk : ∀ (q : Nat) (H1 : Heap), fr cx S q → gW D A s.heap (hC X (adS S q (.inl (cI, N, .inl (fun _ => 0))))) H1 locs → W p l e R s m args below meth c H1 locs (k + 1) (n + N) Q (F0 m (pc + 2) ls (.ref q :: rest))) : W p l e R s m args below meth c H locs k n Q (F0 m pc ls (.int x :: rest)) := by
  obtain ⟨⟨hx, hb, hml, ho, hts, hK, hA⟩, hR⟩ := id C0
  refine va_newa (atype := .boolean) (ty := .boolean) (a0 := (N, .inl (fun _ => 0))) hx hb (hts _ harr) rfl hK hW.1 hW.2.1 hW.2.2 hA (fun cA => rfl) hn hN (by show N * 1 ≤ _; omega) hcells hslots hdg (fun q cA H1 hK' hP hD hSS => ?_)
  have e1 : cA = cI := by
    have h1 := (hK'.2 tys.length (cA, .boolean) (by simp)).2
    have h2 := (hK.2 1 (cI, .boolean) ht).2
    exact Option.some.inj (h1.symm.trans h2)
  subst e1
  exact kk q H1 (h_fr C0.2 (h_add hW hP hD hSS).1 hD) (h_add hW hP hD hSS).2
end HROWS
