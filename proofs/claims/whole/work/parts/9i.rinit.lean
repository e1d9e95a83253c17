/-! THE REFERENCE: its constructor -/
section CREP
variable {u : hU} {S : hS}
/-- one row more: the place k, told by the field j -/
theorem rstep {S S3 : hS} {ad : Nat → Nat} {k j t0 q : Nat} {co : Nat → va_E} {fs : List Value} {e : va_E} (h : pl S ad (fun x => x ≤ k) co) (ht : ad 0 = t0) (o : co 0 = .inr (11, fs)) (hq : fr u.1 S q) (e3 : S3 = adS S q e) :
    rO S3 t0 11 fs ∧ ∀ S13, S13 = upS S3 t0 (.inr (11, fs.set j (.ref q))) → pl S13 (va_up ad (k + 1) q) (fun x => x ≤ k + 1) (va_up (va_up co (k + 1) e) 0 (.inr (11, fs.set j (.ref q)))) ∧ S13.1 = S.1 ++ [q] := by
  have p3 := h.new (c := k + 1) (P' := fun x => x ≤ k + 1) hq.1 e3 (by omega) (fun x hx => by omega)
  have a3 : va_up ad (k + 1) q 0 = t0 := (va_up_ne _ _ (by omega)).trans ht
  refine ⟨p3.o (c := 0) (Nat.zero_le _) a3 ((va_up_ne _ _ (by omega)).trans o), fun S13 e13 => ⟨p3.up (c := 0) (Nat.zero_le _) a3 e13, ?_⟩⟩
  rw [e13, e3]; rfl
/-- the slots hold nothing -/
theorem c_rloop {post : hS → Prop} {t0 a mc ms : Nat} {fs : List Value} {co0 : Nat → va_E} {ad : Nat → Nat} {L : List Nat} (ha : ad 0 = t0) (ha1 : ad 1 = a) (hf : fs[0]? = some (.ref a))
    (hp : ∀ S' co g, pl S' ad (fun x => x ≤ 13) co → co 0 = .inr (11, fs) → co 1 = .inl (u.2.1 0, 321140, .inl g) → (∀ i, i < 6 → g (301 * i) = -5) → (∀ c, 2 ≤ c → co c = co0 c) → S'.1 = L → post S') :
    ∀ (n x : Nat) (S1 : hS) (co : Nat → va_E) (g : Nat → Int32), x + n = 6 → pl S1 ad (fun x => x ≤ 13) co → co 0 = .inr (11, fs) → co 1 = .inl (u.2.1 0, 321140, .inl g) → (∀ i, i < x → g (301 * i) = -5) → (∀ c, 2 ≤ c → co c = co0 c) → S1.1 = L → w_X10_init_107 u post t0 (n + 1) (nI x) S1 mc ms := by
  intro n
  induction n with
  | zero =>
    intro x S1 co g hx p1 o0 o1 hg hc hL
    have : x = 6 := by omega
    subst this
    rw [w_X10_init_107]
    exact ⟨fun _ => hp S1 co g p1 o0 o1 hg hc hL, fun z => absurd (by decide) z⟩
  | succ n ih =>
    intro x S1 co g hx p1 o0 o1 hg hc hL
    have m0 := p1.1 0 (Nat.zero_le _)
    have m1 := p1.1 1 (by omega)
    rw [ha, o0] at m0
    rw [ha1, o1] at m1
    have em : (301 : Int32) * nI x = nI (301 * x) := pk_mul 301 x
    rw [w_X10_init_107]
    refine ⟨fun z => absurd z (nI_ge (b := 6) (by omega) (by decide)), fun _ => ⟨some a, ⟨m0.1, fs, m0.2, hf⟩, a, rfl, 321140, g, m1, ?_, fun S2 e2 v ev => ?_⟩⟩
    · rw [em]; exact vp_in_nI (by omega) (by omega)
    · rw [em, nI_clamp (by omega)] at e2
      rw [ev, nI_1]
      have p2 := p1.up (c := 1) (by omega) ha1 e2
      refine ih (x + 1) S2 _ (upd g (301 * x) (-5)) (by omega) p2 ((va_up_ne _ _ (by omega)).trans o0) (va_up_self _ _ _) (fun i hi => ?_) (fun c hc2 => (va_up_ne _ _ (by omega)).trans (hc c hc2)) (by rw [e2]; exact hL)
      by_cases z : i = x
      · rw [z]; exact if_pos rfl
      · exact (if_neg (by omega)).trans (hg i (by omega))
set_option maxHeartbeats 1000000 in
theorem c_rinit {t0 mc ms : Nat} {post : hS → Prop} {f : Nat → va_E} (hf : f t0 = .inr (11, [.null, .null, .null, .null, .int 0, .null, .int 0, .null, .null, .null, .null, .null, .int 0, .int 0, .int 0, .int 0, .int 0, .null, .null, .int 0, .null])) (hmc : 13 ≤ mc) (hms : 322371 ≤ ms)
    (hp : ∀ (S' : hS) (h : Nat → Nat) (M : RM), va_pl S'.1 S'.2 = rcells (u.2.1 0) (u.2.1 1) h M [] → h 0 = t0 → rRep aE M → post S') : w_X10_init u post t0 ([t0], f) mc ms := by
  rw [w_X10_init]
  have P0 : pl ([t0], f) (fun _ => t0) (fun x => x ≤ 0) (fun _ => f t0) := ⟨fun c _ => ⟨List.mem_singleton.mpr rfl, rfl⟩, fun c c' hc hc' _ => by omega⟩
  have A0 : (fun _ => t0) 0 = t0 := rfl
  refine ⟨321140, rfl, by omega, by omega, by omega, fun q1 T0 f0 e0 => ?_⟩
  have R0 := rstep (j := 0) P0 A0 hf f0 e0
  refine ⟨_, R0.1, by simp, fun S0 g0 => ?_⟩
  obtain ⟨P1, L1⟩ := R0.2 _ g0
  have A1 := (va_up_ne (fun _ => t0) q1 (by omega : (0 : Nat) ≠ 1)).trans A0
  refine ⟨13, rfl, by omega, by omega, by omega, fun q2 T1 f1 e1 => ?_⟩
  have R1 := rstep (j := 1) P1 A1 (va_up_self _ _ _) f1 e1
  refine ⟨_, R1.1, by simp, fun S1 g1 => ?_⟩
  obtain ⟨P2, L2⟩ := R1.2 _ g1
  have A2 := (va_up_ne (va_up (fun _ => t0) 1 q1) q2 (by omega : (0 : Nat) ≠ 2)).trans A1
  refine ⟨2, rfl, by omega, by omega, by omega, fun q3 T2 f2 e2 => ?_⟩
  have R2 := rstep (j := 2) P2 A2 (va_up_self _ _ _) f2 e2
  refine ⟨_, R2.1, by simp, fun S2 g2 => ?_⟩
  obtain ⟨P3, L3⟩ := R2.2 _ g2
  have A3 := (va_up_ne (va_up (va_up (fun _ => t0) 1 q1) 2 q2) q3 (by omega : (0 : Nat) ≠ 3)).trans A2
  refine ⟨300, rfl, by omega, by omega, by omega, fun q4 T3 f3 e3 => ?_⟩
  have R3 := rstep (j := 3) P3 A3 (va_up_self _ _ _) f3 e3
  refine ⟨_, R3.1, by simp, fun S3 g3 => ?_⟩
  obtain ⟨P4, L4⟩ := R3.2 _ g3
  have A4 := (va_up_ne (va_up (va_up (va_up (fun _ => t0) 1 q1) 2 q2) 3 q3) q4 (by omega : (0 : Nat) ≠ 4)).trans A3
  refine ⟨300, rfl, by omega, by omega, by omega, fun q5 T4 f4 e4 => ?_⟩
  have R4 := rstep (j := 5) P4 A4 (va_up_self _ _ _) f4 e4
  refine ⟨_, R4.1, by simp, fun S4 g4 => ?_⟩
  obtain ⟨P5, L5⟩ := R4.2 _ g4
  have A5 := (va_up_ne (va_up (va_up (va_up (va_up (fun _ => t0) 1 q1) 2 q2) 3 q3) 4 q4) q5 (by omega : (0 : Nat) ≠ 5)).trans A4
  refine ⟨2, rfl, by omega, by omega, by omega, fun q6 T5 f5 e5 => ?_⟩
  have R5 := rstep (j := 7) P5 A5 (va_up_self _ _ _) f5 e5
  refine ⟨_, R5.1, by simp, fun S5 g5 => ?_⟩
  obtain ⟨P6, L6⟩ := R5.2 _ g5
  have A6 := (va_up_ne (va_up (va_up (va_up (va_up (va_up (fun _ => t0) 1 q1) 2 q2) 3 q3) 4 q4) 5 q5) q6 (by omega : (0 : Nat) ≠ 6)).trans A5
  refine ⟨2, rfl, by omega, by omega, by omega, fun q7 T6 f6 e6 => ?_⟩
  have R6 := rstep (j := 8) P6 A6 (va_up_self _ _ _) f6 e6
  refine ⟨_, R6.1, by simp, fun S6 g6 => ?_⟩
  obtain ⟨P7, L7⟩ := R6.2 _ g6
  have A7 := (va_up_ne (va_up (va_up (va_up (va_up (va_up (va_up (fun _ => t0) 1 q1) 2 q2) 3 q3) 4 q4) 5 q5) 6 q6) q7 (by omega : (0 : Nat) ≠ 7)).trans A6
  refine ⟨2, rfl, by omega, by omega, by omega, fun q8 T7 f7 e7 => ?_⟩
  have R7 := rstep (j := 9) P7 A7 (va_up_self _ _ _) f7 e7
  refine ⟨_, R7.1, by simp, fun S7 g7 => ?_⟩
  obtain ⟨P8, L8⟩ := R7.2 _ g7
  have A8 := (va_up_ne (va_up (va_up (va_up (va_up (va_up (va_up (va_up (fun _ => t0) 1 q1) 2 q2) 3 q3) 4 q4) 5 q5) 6 q6) 7 q7) q8 (by omega : (0 : Nat) ≠ 8)).trans A7
  refine ⟨3, rfl, by omega, by omega, by omega, fun q9 T8 f8 e8 => ?_⟩
  have R8 := rstep (j := 10) P8 A8 (va_up_self _ _ _) f8 e8
  refine ⟨_, R8.1, by simp, fun S8 g8 => ?_⟩
  obtain ⟨P9, L9⟩ := R8.2 _ g8
  have A9 := (va_up_ne (va_up (va_up (va_up (va_up (va_up (va_up (va_up (va_up (fun _ => t0) 1 q1) 2 q2) 3 q3) 4 q4) 5 q5) 6 q6) 7 q7) 8 q8) q9 (by omega : (0 : Nat) ≠ 9)).trans A8
  refine ⟨3, rfl, by omega, by omega, by omega, fun q10 T9 f9 e9 => ?_⟩
  have R9 := rstep (j := 11) P9 A9 (va_up_self _ _ _) f9 e9
  refine ⟨_, R9.1, by simp, fun S9 g9 => ?_⟩
  obtain ⟨P10, L10⟩ := R9.2 _ g9
  have A10 := (va_up_ne (va_up (va_up (va_up (va_up (va_up (va_up (va_up (va_up (va_up (fun _ => t0) 1 q1) 2 q2) 3 q3) 4 q4) 5 q5) 6 q6) 7 q7) 8 q8) 9 q9) q10 (by omega : (0 : Nat) ≠ 10)).trans A9
  refine ⟨300, rfl, by omega, by omega, by omega, fun q11 T10 f10 e10 => ?_⟩
  have R10 := rstep (j := 17) P10 A10 (va_up_self _ _ _) f10 e10
  refine ⟨_, R10.1, by simp, fun S10 g10 => ?_⟩
  obtain ⟨P11, L11⟩ := R10.2 _ g10
  have A11 := (va_up_ne (va_up (va_up (va_up (va_up (va_up (va_up (va_up (va_up (va_up (va_up (fun _ => t0) 1 q1) 2 q2) 3 q3) 4 q4) 5 q5) 6 q6) 7 q7) 8 q8) 9 q9) 10 q10) q11 (by omega : (0 : Nat) ≠ 11)).trans A10
  refine ⟨300, rfl, by omega, by omega, by omega, fun q12 T11 f11 e11 => ?_⟩
  have R11 := rstep (j := 18) P11 A11 (va_up_self _ _ _) f11 e11
  refine ⟨_, R11.1, by simp, fun S11 g11 => ?_⟩
  obtain ⟨P12, L12⟩ := R11.2 _ g11
  have A12 := (va_up_ne (va_up (va_up (va_up (va_up (va_up (va_up (va_up (va_up (va_up (va_up (va_up (fun _ => t0) 1 q1) 2 q2) 3 q3) 4 q4) 5 q5) 6 q6) 7 q7) 8 q8) 9 q9) 10 q10) 11 q11) q12 (by omega : (0 : Nat) ≠ 12)).trans A11
  refine ⟨4, rfl, by omega, by omega, by omega, fun q13 T12 f12 e12 => ?_⟩
  have R12 := rstep (j := 20) P12 A12 (va_up_self _ _ _) f12 e12
  refine ⟨_, R12.1, by simp, fun S12 g12 => ?_⟩
  obtain ⟨P13, L13⟩ := R12.2 _ g12
  have A13 := (va_up_ne (va_up (va_up (va_up (va_up (va_up (va_up (va_up (va_up (va_up (va_up (va_up (va_up (fun _ => t0) 1 q1) 2 q2) 3 q3) 4 q4) 5 q5) 6 q6) 7 q7) 8 q8) 9 q9) 10 q10) 11 q11) 12 q12) q13 (by omega : (0 : Nat) ≠ 13)).trans A12
  refine ⟨7, ?_⟩
  refine c_rloop (fs := [.ref q1, .ref q2, .ref q3, .ref q4, .int 0, .ref q5, .int 0, .ref q6, .ref q7, .ref q8, .ref q9, .ref q10, .int 0, .int 0, .int 0, .int 0, .int 0, .ref q11, .ref q12, .int 0, .ref q13]) (L := S12.1) A13 rfl rfl (fun S' co g p c0 c1 hg hc hL => ?_) 6 0 S12 _ (fun _ => 0) rfl P13 (va_up_self _ _ _) rfl (fun i hi => absurd hi (Nat.not_lt_zero _)) (fun c _ => rfl) rfl
  have hL' : S'.1 = [t0, q1, q2, q3, q4, q5, q6, q7, q8, q9, q10, q11, q12, q13] := by rw [hL, L13, L12, L11, L10, L9, L8, L7, L6, L5, L4, L3, L2, L1]; rfl
  have m0 : S'.2 t0 = .inr (11, [.ref q1, .ref q2, .ref q3, .ref q4, .int 0, .ref q5, .int 0, .ref q6, .ref q7, .ref q8, .ref q9, .ref q10, .int 0, .int 0, .int 0, .int 0, .int 0, .ref q11, .ref q12, .int 0, .ref q13]) := ((p.1 0 (by omega)).2).trans c0
  have m1 : S'.2 q1 = .inl (u.2.1 0, 321140, .inl g) := ((p.1 1 (by omega)).2).trans c1
  have m2 : S'.2 q2 = .inl (u.2.1 0, 13, .inl (fun _ => 0)) := ((p.1 2 (by omega)).2).trans ((hc 2 (by omega)).trans rfl)
  have m3 : S'.2 q3 = .inl (u.2.1 1, 2, .inl (fun _ => 0)) := ((p.1 3 (by omega)).2).trans ((hc 3 (by omega)).trans rfl)
  have m4 : S'.2 q4 = .inl (u.2.1 0, 300, .inl (fun _ => 0)) := ((p.1 4 (by omega)).2).trans ((hc 4 (by omega)).trans rfl)
  have m5 : S'.2 q5 = .inl (u.2.1 0, 300, .inl (fun _ => 0)) := ((p.1 5 (by omega)).2).trans ((hc 5 (by omega)).trans rfl)
  have m6 : S'.2 q6 = .inl (u.2.1 1, 2, .inl (fun _ => 0)) := ((p.1 6 (by omega)).2).trans ((hc 6 (by omega)).trans rfl)
  have m7 : S'.2 q7 = .inl (u.2.1 1, 2, .inl (fun _ => 0)) := ((p.1 7 (by omega)).2).trans ((hc 7 (by omega)).trans rfl)
  have m8 : S'.2 q8 = .inl (u.2.1 0, 2, .inl (fun _ => 0)) := ((p.1 8 (by omega)).2).trans ((hc 8 (by omega)).trans rfl)
  have m9 : S'.2 q9 = .inl (u.2.1 1, 3, .inl (fun _ => 0)) := ((p.1 9 (by omega)).2).trans ((hc 9 (by omega)).trans rfl)
  have m10 : S'.2 q10 = .inl (u.2.1 1, 3, .inl (fun _ => 0)) := ((p.1 10 (by omega)).2).trans ((hc 10 (by omega)).trans rfl)
  have m11 : S'.2 q11 = .inl (u.2.1 0, 300, .inl (fun _ => 0)) := ((p.1 11 (by omega)).2).trans ((hc 11 (by omega)).trans rfl)
  have m12 : S'.2 q12 = .inl (u.2.1 0, 300, .inl (fun _ => 0)) := ((p.1 12 (by omega)).2).trans ((hc 12 (by omega)).trans rfl)
  have m13 : S'.2 q13 = .inl (u.2.1 0, 4, .inl (fun _ => 0)) := ((p.1 13 (by omega)).2).trans ((hc 13 (by omega)).trans rfl)
  refine hp S' (va_up (va_up (va_up (va_up (va_up (va_up (va_up (va_up (va_up (va_up (va_up (va_up (va_up (fun _ => t0) 1 q1) 2 q2) 3 q3) 4 q4) 5 q5) 6 q6) 7 q7) 8 q8) 9 q9) 10 q10) 11 q11) 12 q12) 13 q13) (fun k i => if k = 1 then g i else 0) ?_ A13 ⟨fun i hi => hg i hi, ⟨Nat.zero_le _, fun c hc => absurd hc List.not_mem_nil, rfl, fun j hj => absurd hj (Nat.not_lt_zero _)⟩, fun j hj => ⟨Nat.zero_le _, rfl, fun e he => absurd he (Nat.not_lt_zero _)⟩, fun i hi => rfl, fun i hi => rfl, fun i hi => rfl, rfl, rfl⟩
  rw [hL']
  show [(t0, S'.2 t0), (q1, S'.2 q1), (q2, S'.2 q2), (q3, S'.2 q3), (q4, S'.2 q4), (q5, S'.2 q5), (q6, S'.2 q6), (q7, S'.2 q7), (q8, S'.2 q8), (q9, S'.2 q9), (q10, S'.2 q10), (q11, S'.2 q11), (q12, S'.2 q12), (q13, S'.2 q13)] = _
  rw [m0, m1, m2, m3, m4, m5, m6, m7, m8, m9, m10, m11, m12, m13]
  rfl
end CREP
