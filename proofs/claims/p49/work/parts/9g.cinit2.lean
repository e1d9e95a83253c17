/-! THE CLASS: its constructor, the whole -/
/-- the empty state -/
def aE : AS := (fun _ => none, [], fun _ => [], fun _ => none, fun _ => none, fun _ => none, 0, 0)
def P1 (x : Nat) : Prop := x ≤ 6 ∨ x = 80 ∨ (10 ≤ x ∧ x < 16)
def P2 (x : Nat) : Prop := x ≤ 6 ∨ (10 ≤ x ∧ x < 16) ∨ (20 ≤ x ∧ x < 24) ∨ (40 ≤ x ∧ x < 44) ∨ (80 ≤ x ∧ x ≤ 82)
def P3 (x : Nat) : Prop := x ≤ 6 ∨ (10 ≤ x ∧ x < 16) ∨ (20 ≤ x ∧ x < 24) ∨ x = 32 ∨ (40 ≤ x ∧ x < 44) ∨ x = 52 ∨ (80 ≤ x ∧ x ≤ 82)
def P4 (x : Nat) : Prop := x ≤ 15 ∨ (20 ≤ x ∧ x < 24) ∨ x = 32 ∨ (40 ≤ x ∧ x < 44) ∨ x = 52 ∨ (80 ≤ x ∧ x ≤ 82)
def lvb (x : Nat) : Bool := decide (x ≤ 15) || (decide (20 ≤ x) && decide (x < 24)) || decide (x = 32) || (decide (40 ≤ x) && decide (x < 44)) || decide (x = 52)
def LV (x : Nat) : Prop := lvb x = true
theorem LV_iff (x : Nat) : LV x ↔ (x ≤ 15 ∨ (20 ≤ x ∧ x < 24) ∨ x = 32 ∨ (40 ≤ x ∧ x < 44) ∨ x = 52) := by
  unfold LV lvb; simp only [Bool.or_eq_true, Bool.and_eq_true, decide_eq_true_eq, or_assoc]
section CREP
variable {u : hU} {S : hS}
/-- from the places to the class's state -/
theorem cRep_empty {t0 : Nat} {ad : Nat → Nat} {co : Nat → va_E} (hu : uOk u) (h : pl S ad P4 co) (ht : ad 0 = t0)
    (h0 : co 0 = .inr (10, [va_rf (some (ad 80)), va_rf (some (ad 1)), va_rf (some (ad 81)), va_rf (some (ad 32)), va_rf (some (ad 7)), va_rf (some (ad 8)), va_rf (some (ad 9)), .int 0, .int 0]))
    (h80 : ∃ g, co 80 = qE (u.2.1 8) 6 g ∧ ∀ i, i < 6 → g i = some (ad (10 + i))) (hs : ∀ i, i < 6 → co (10 + i) = .inr (7, [.null]))
    (t1 : co 1 = .inr (8, [va_rf (some (ad 2)), va_rf (some (ad 6)), va_rf (some (ad 4)), .int 0, .int 0, .int 0, .int 0])) (B1 : bS u S (ad 2) (ad 3) [] 16) (B2 : bS u S (ad 4) (ad 5) [] 16) (t6 : co 6 = .inl (u.2.1 0, 300, .inl (fun _ => 0)))
    (h81 : co 81 = .inr (5, [va_rf (some (ad 82))])) (h82 : ∃ g, co 82 = qE (u.2.1 4) 4 g ∧ ∀ l, l < 4 → g l = some (ad (20 + l)))
    (hl : ∀ l, l < 4 → co (20 + l) = .inr (4, [va_rf (some (ad (40 + l))), .int 0]) ∧ co (40 + l) = qE (u.2.1 3) 40 (fun _ => none))
    (h32 : co 32 = .inr (4, [va_rf (some (ad 52)), .int 0])) (h52 : co 52 = qE (u.2.1 3) 40 (fun _ => none))
    (h7 : co 7 = qE (u.2.1 5) 2 (fun _ => none)) (h8 : co 8 = qE (u.2.1 6) 2 (fun _ => none)) (h9 : co 9 = qE (u.2.1 7) 3 (fun _ => none)) : cRep u t0 aE S := by
  obtain ⟨g80, h80, h80'⟩ := h80
  obtain ⟨g82, h82, h82'⟩ := h82
  have hLP : ∀ c, LV c → P4 c := fun c hc => by rw [LV_iff] at hc; unfold P4; omega
  have hL80 : ∀ c, LV c → c < 80 := fun c hc => by rw [LV_iff] at hc; omega
  have em : ∀ a, a ∈ ((List.range 80).filter (fun c => lvb c)).map ad → ∃ c, LV c ∧ ad c = a := fun a ha => by
    obtain ⟨c, hc, e⟩ := List.mem_map.mp ha
    exact ⟨c, (List.mem_filter.mp hc).2, e⟩
  have hi : ∀ c, P4 c → 80 ≤ c → im (((List.range 80).filter (fun c => lvb c)).map ad) S (ad c) (co c) := fun c hc h80 => by
    refine ⟨(h.1 c hc).1, fun z => ?_, (h.1 c hc).2⟩
    obtain ⟨c', q, e⟩ := em _ z
    have := h.2 c' c (hLP c' q) hc e
    have := hL80 c' q
    omega
  refine ⟨((List.range 80).filter (fun c => lvb c)).map ad, ad, LV, ⟨hu, ht⟩, ⟨fun a ha => ?_, fun c hc => ?_, fun c c' hc hc' e => h.2 c c' (hLP c hc) (hLP c' hc') e⟩, ?_, ?_, ?_, ?_, ?_, ?_, ?_, ?_⟩
  · obtain ⟨c, q, e⟩ := em a ha
    rw [← e]; exact (h.1 c (hLP c q)).1
  · exact List.mem_map.mpr ⟨c, List.mem_filter.mpr ⟨List.mem_range.mpr (hL80 c hc), hc⟩, rfl⟩
  · refine ⟨by rw [LV_iff]; omega, ad 80, g80, ad 81, ?_, ?_, h80', ad 82, g82, ?_, ?_, h82'⟩
    · rw [(h.1 0 (by unfold P4; omega)).2]; exact h0
    · rw [← h80]; exact hi 80 (by unfold P4; omega) (by omega)
    · rw [← h81]; exact hi 81 (by unfold P4; omega) (by omega)
    · rw [← h82]; exact hi 82 (by unfold P4; omega) (by omega)
  · exact fun i hi => ⟨by rw [LV_iff]; omega, none, by rw [(h.1 (10 + i) (by unfold P4; omega)).2, hs i hi]; rfl, rfl⟩
  · refine ⟨16, [], 16, 0, 0, 0, 0, fun _ => 0, fun c _ _ => by rw [LV_iff]; omega, ⟨by decide, fun c hc => absurd hc List.not_mem_nil, by omega, by omega, by omega⟩, ?_, B1, B2, ?_⟩
    · rw [(h.1 1 (by unfold P4; omega)).2]; exact t1
    · rw [(h.1 6 (by unfold P4; omega)).2]; exact t6
  · refine fun j hj => ⟨by rw [LV_iff]; omega, by rw [LV_iff]; omega, Nat.zero_le _, ?_, fun _ => none, ?_, fun e he => absurd he (Nat.not_lt_zero _)⟩
    · rw [(h.1 (20 + j) (by unfold P4; omega)).2]; exact (hl j hj).1
    · rw [(h.1 (40 + j) (by unfold P4; omega)).2]; exact (hl j hj).2
  · refine ⟨[], by rw [LV_iff]; omega, by rw [LV_iff]; omega, Nat.zero_le _, ?_, fun _ => none, ?_, fun e he => absurd he (Nat.not_lt_zero _)⟩
    · rw [(h.1 (20 + 12) (by unfold P4; omega)).2]; exact h32
    · rw [(h.1 (40 + 12) (by unfold P4; omega)).2]; exact h52
  · exact ⟨by rw [LV_iff]; omega, fun _ => none, by rw [(h.1 7 (by unfold P4; omega)).2]; exact h7, fun i _ => rfl⟩
  · exact ⟨by rw [LV_iff]; omega, fun _ => none, by rw [(h.1 8 (by unfold P4; omega)).2]; exact h8, fun i _ => rfl⟩
  · exact ⟨by rw [LV_iff]; omega, fun _ => none, by rw [(h.1 9 (by unfold P4; omega)).2]; exact h9, fun i _ => rfl⟩
theorem c_init {t0 mc ms : Nat} {post : hS → Prop} (hu : uOk u) (h1 : t0 ∈ S.1) (e1 : S.2 t0 = .inr (10, [.null, .null, .null, .null, .null, .null, .null, .int 0, .int 0])) (hmc : 40 ≤ mc) (hms : 700 ≤ ms)
    (hp : ∀ S', cRep u t0 aE S' → post S') : w_X9_init u post t0 S mc ms := by
  refine c_slotsInit h1 e1 (by omega) (by omega) (fun S1 ad co mc1 ms1 l1 p1 a0 o0 s80 sl b1 b2 => ?_)
  rw [w_X9_init_15]
  refine ⟨fun _ => ⟨by omega, by omega, fun q1 S2 f2 e2 => ⟨5, 340, by omega, by omega, ?_⟩⟩, fun z => absurd (by decide) z⟩
  have p2 := p1.new (c := 1) (P' := fun x => sP 6 x ∨ x = 1) f2.1 e2 (by unfold sP; omega) (fun x hx => hx)
  refine c_tapeInit p2 (Or.inr rfl) (va_up_self _ _ _) (va_up_self _ _ _) (fun c z1 z2 => by unfold sP; omega) (by omega) (by omega) (fun S3 ad3 co3 l3 p3 k3 j3 t1 B1 B2 t6 => ?_)
  have K3 : ∀ c, sP 6 c → ad3 c = ad c := fun c hc => (k3 c (Or.inl hc)).trans (va_up_ne _ _ (by unfold sP at hc; omega))
  have J3 : ∀ c, sP 6 c → co3 c = co c := fun c hc => (j3 c (Or.inl hc) (by unfold sP at hc; omega)).trans (va_up_ne _ _ (by unfold sP at hc; omega))
  have K1 : ad3 1 = q1 := (k3 1 (Or.inr rfl)).trans (va_up_self _ _ _)
  have p3 := p3.mono (P' := P1) (fun c hc => by unfold P1 at hc; unfold sP; omega)
  have a3 : ad3 0 = t0 := (K3 0 (Or.inl rfl)).trans a0
  have o3 := (J3 0 (Or.inl rfl)).trans o0
  rw [← K3 80 (Or.inr (Or.inl rfl))] at o3
  refine ⟨_, p3.o (c := 0) (by unfold P1; omega) a3 o3, by simp, fun S4 e4 => ⟨by omega, by omega, fun q5 S5 f5 e5 => ⟨9, 172, by omega, by omega, ?_⟩⟩⟩
  have p4 := p3.up (c := 0) (by unfold P1; omega) a3 e4
  have p5 := p4.new (c := 81) (P' := fun x => P1 x ∨ x = 81) f5.1 e5 (by unfold P1; omega) (fun x hx => hx)
  refine c_pilePl p5 (Or.inr rfl) (va_up_self _ _ _) (va_up_self _ _ _) (fun c hc => by unfold nP at hc; unfold P1; omega) (by omega) (by omega) (fun S6 ad6 co6 l6 p6 k6 j6 h81 h82 hl => ?_)
  have K6 : ∀ c, P1 c → ad6 c = ad3 c := fun c hc => (k6 c (Or.inl hc)).trans (va_up_ne _ _ (by unfold P1 at hc; omega))
  have J6 : ∀ c, P1 c → c ≠ 0 → co6 c = co3 c := fun c hc hn => (j6 c (Or.inl hc) (by unfold P1 at hc; omega)).trans ((va_up_ne _ _ (by unfold P1 at hc; omega)).trans (va_up_ne _ _ hn))
  have K81 : ad6 81 = q5 := (k6 81 (Or.inr rfl)).trans (va_up_self _ _ _)
  have p6 := p6.mono (P' := P2) (fun c hc => by unfold P2 at hc; unfold P1 nP; omega)
  have a6 : ad6 0 = t0 := (K6 0 (by unfold P1; omega)).trans a3
  have o6 := (j6 0 (Or.inl (by unfold P1; omega)) (by omega)).trans ((va_up_ne _ _ (by omega)).trans (va_up_self _ _ _))
  refine ⟨_, p6.o (c := 0) (by unfold P2; omega) a6 o6, by simp, fun S7 e7 => ⟨by omega, by omega, fun q8 S8 f8 e8 => ⟨1, 40, by omega, by omega, ?_⟩⟩⟩
  have p7 := p6.up (c := 0) (by unfold P2; omega) a6 e7
  have p8 := p7.new (c := 32) (P' := fun x => P2 x ∨ x = 32) f8.1 e8 (by unfold P2; omega) (fun x hx => hx)
  refine c_layerPl p8 (Or.inr rfl) (va_up_self _ _ _) (va_up_self _ _ _) (by unfold P2; omega) (by omega) (by omega) (fun S9 ad9 co9 l9 p9 k9 j9 h32 h52 => ?_)
  have K9 : ∀ c, P2 c → ad9 c = ad6 c := fun c hc => (k9 c (Or.inl hc)).trans (va_up_ne _ _ (by unfold P2 at hc; omega))
  have J9 : ∀ c, P2 c → c ≠ 0 → co9 c = co6 c := fun c hc hn => (j9 c (Or.inl hc) (by unfold P2 at hc; omega)).trans ((va_up_ne _ _ (by unfold P2 at hc; omega)).trans (va_up_ne _ _ hn))
  have K32 : ad9 32 = q8 := (k9 32 (Or.inr rfl)).trans (va_up_self _ _ _)
  have p9 := p9.mono (P' := P3) (fun c hc => by unfold P3 at hc; unfold P2; omega)
  have a9 : ad9 0 = t0 := (K9 0 (by unfold P2; omega)).trans a6
  have o9 := (j9 0 (Or.inl (by unfold P2; omega)) (by omega)).trans ((va_up_ne _ _ (by omega)).trans (va_up_self _ _ _))
  refine ⟨_, p9.o (c := 0) (by unfold P3; omega) a9 o9, by simp, fun S10 e10 => ⟨2, rfl, by omega, by omega, by omega, fun q11 S11 f11 e11 => ?_⟩⟩
  have p10 := p9.up (c := 0) (by unfold P3; omega) a9 e10
  have p11 := p10.new (c := 7) (P' := fun x => P3 x ∨ x = 7) f11.1 e11 (by unfold P3; omega) (fun x hx => hx)
  have a11 : va_up ad9 7 q11 0 = t0 := (va_up_ne _ _ (by omega)).trans a9
  refine ⟨_, p11.o (c := 0) (Or.inl (by unfold P3; omega)) a11 ((va_up_ne _ _ (by omega)).trans (va_up_self _ _ _)), by simp, fun S12 e12 => ⟨2, rfl, by omega, by omega, by omega, fun q13 S13 f13 e13 => ?_⟩⟩
  have p12 := p11.up (c := 0) (Or.inl (by unfold P3; omega)) a11 e12
  have p13 := p12.new (c := 8) (P' := fun x => (P3 x ∨ x = 7) ∨ x = 8) f13.1 e13 (by unfold P3; omega) (fun x hx => hx)
  have a13 : va_up (va_up ad9 7 q11) 8 q13 0 = t0 := (va_up_ne _ _ (by omega)).trans a11
  refine ⟨_, p13.o (c := 0) (Or.inl (Or.inl (by unfold P3; omega))) a13 ((va_up_ne _ _ (by omega)).trans (va_up_self _ _ _)), by simp, fun S14 e14 => ⟨3, rfl, by omega, by omega, by omega, fun q15 S15 f15 e15 => ?_⟩⟩
  have p14 := p13.up (c := 0) (Or.inl (Or.inl (by unfold P3; omega))) a13 e14
  have p15 := p14.new (c := 9) (P' := P4) f15.1 e15 (by unfold P3; omega) (fun x hx => by unfold P4 at hx; unfold P3; omega)
  have a15 : va_up (va_up (va_up ad9 7 q11) 8 q13) 9 q15 0 = t0 := (va_up_ne _ _ (by omega)).trans a13
  refine ⟨_, p15.o (c := 0) (by unfold P4; omega) a15 ((va_up_ne _ _ (by omega)).trans (va_up_self _ _ _)), by simp, fun S16 e16 => ?_⟩
  have p16 := p15.up (c := 0) (by unfold P4; omega) a15 e16
  refine ⟨_, p16.o (c := 0) (by unfold P4; omega) a15 (va_up_self _ _ _), by simp, fun S17 e17 => ?_⟩
  have p17 := p16.up (c := 0) (by unfold P4; omega) a15 e17
  refine ⟨_, p17.o (c := 0) (by unfold P4; omega) a15 (va_up_self _ _ _), by simp, fun S18 e18 => ?_⟩
  have p18 := p17.up (c := 0) (by unfold P4; omega) a15 e18
  have L : ∀ x, x ∈ S3.1 → x ∈ S18.1 := fun x hx => up_old (up_old (up_old (ad_old (up_old (ad_old (up_old (ad_old (up_old (l9 x (ad_old (up_old (l6 x (ad_old (up_old hx e4) e5)) e7) e8)) e10) e11) e12) e13) e14) e15) e16) e17) e18
  have fin : ∀ adF cf, pl S18 adF P4 cf → adF 0 = t0 → (∀ c, P3 c → adF c = ad9 c) → (∀ c, P3 c → c ≠ 0 → cf c = co9 c) → adF 7 = q11 → adF 8 = q13 → adF 9 = q15 →
      cf 0 = .inr (10, [va_rf (some (ad3 80)), va_rf (some q1), va_rf (some q5), va_rf (some q8), va_rf (some q11), va_rf (some q13), va_rf (some q15), .int 0, .int 0]) → cf 7 = qE (u.2.1 5) 2 (fun _ => none) → cf 8 = qE (u.2.1 6) 2 (fun _ => none) → cf 9 = qE (u.2.1 7) 3 (fun _ => none) → post S18 := by
    intro adF cf pF z0 A J A7 A8 A9 c0 c7 c8 c9
    have A2 : ∀ c, P2 c → adF c = ad6 c := fun c hc => (A c (by unfold P2 at hc; unfold P3; omega)).trans (K9 c hc)
    have A1 : ∀ c, P1 c → adF c = ad3 c := fun c hc => (A2 c (by unfold P1 at hc; unfold P2; omega)).trans (K6 c hc)
    have A0 : ∀ c, sP 6 c → adF c = ad c := fun c hc => (A1 c (by unfold sP at hc; unfold P1; omega)).trans (K3 c hc)
    have J2 : ∀ c, P2 c → c ≠ 0 → cf c = co6 c := fun c hc hn => (J c (by unfold P2 at hc; unfold P3; omega) hn).trans (J9 c hc hn)
    have J1 : ∀ c, P1 c → c ≠ 0 → cf c = co3 c := fun c hc hn => (J2 c (by unfold P1 at hc; unfold P2; omega) hn).trans (J6 c hc hn)
    have J0 : ∀ c, sP 6 c → c ≠ 0 → cf c = co c := fun c hc hn => (J1 c (by unfold sP at hc; unfold P1; omega) hn).trans (J3 c hc)
    have bb : ∀ a b, P1 a → P1 b → a ≠ 0 → b ≠ 0 → bS u S3 (ad3 a) (ad3 b) [] 16 → bS u S18 (adF a) (adF b) [] 16 := fun a b ha hb na nb hB => by
      have ea := pF.1 a (by unfold P1 at ha; unfold P4; omega)
      have eb := pF.1 b (by unfold P1 at hb; unfold P4; omega)
      rw [A1 a ha] at ea ⊢
      rw [A1 b hb] at eb ⊢
      exact hB.keep L (ea.2.trans ((J1 a ha na).trans (p3.1 a ha).2.symm)) (eb.2.trans ((J1 b hb nb).trans (p3.1 b hb).2.symm))
    refine hp S18 (cRep_empty hu pF z0 ?_ ?_ (fun i hi => (J0 (10 + i) (by unfold sP; omega) (by omega)).trans (sl i hi)) ?_ (bb 2 3 (by unfold P1; omega) (by unfold P1; omega) (by omega) (by omega) B1) (bb 4 5 (by unfold P1; omega) (by unfold P1; omega) (by omega) (by omega) B2) ((J1 6 (by unfold P1; omega) (by omega)).trans t6) ?_ ?_ (fun l hl' => ⟨?_, ?_⟩) ?_ ?_ c7 c8 c9)
    · rw [A1 80 (by unfold P1; omega), A1 1 (by unfold P1; omega), K1, A2 81 (by unfold P2; omega), K81, A 32 (by unfold P3; omega), K32, A7, A8, A9]; exact c0
    · obtain ⟨g, g1, g2⟩ := s80
      exact ⟨g, (J0 80 (by unfold sP; omega) (by omega)).trans g1, fun i hi => by rw [A0 (10 + i) (by unfold sP; omega)]; exact g2 i hi⟩
    · rw [J1 1 (by unfold P1; omega) (by omega), A1 2 (by unfold P1; omega), A1 6 (by unfold P1; omega), A1 4 (by unfold P1; omega)]; exact t1
    · rw [J2 81 (by unfold P2; omega) (by omega), A2 82 (by unfold P2; omega)]; exact h81
    · obtain ⟨g, g1, g2⟩ := h82
      exact ⟨g, (J2 82 (by unfold P2; omega) (by omega)).trans g1, fun l hl' => by rw [A2 (20 + l) (by unfold P2; omega)]; exact g2 l hl'⟩
    · rw [J2 (20 + l) (by unfold P2; omega) (by omega), A2 (40 + l) (by unfold P2; omega)]; exact (hl l hl').1
    · rw [J2 (40 + l) (by unfold P2; omega) (by omega)]; exact (hl l hl').2
    · rw [J 32 (by unfold P3; omega) (by omega), A 52 (by unfold P3; omega)]; exact h32
    · rw [J 52 (by unfold P3; omega) (by omega)]; exact h52
  refine fin _ _ p18 a15 (fun c hc => ?_) (fun c hc hn => ?_) rfl rfl rfl ?_ ?_ ?_ ?_
  · unfold P3 at hc
    rw [va_up_ne _ _ (by omega), va_up_ne _ _ (by omega), va_up_ne _ _ (by omega)]
  · unfold P3 at hc
    rw [va_up_ne _ _ hn, va_up_ne _ _ hn, va_up_ne _ _ hn, va_up_ne _ _ (by omega), va_up_ne _ _ hn, va_up_ne _ _ (by omega), va_up_ne _ _ hn, va_up_ne _ _ (by omega), va_up_ne _ _ hn]
  · exact va_up_self _ _ _
  · rw [va_up_ne _ _ (by omega), va_up_ne _ _ (by omega), va_up_ne _ _ (by omega), va_up_ne _ _ (by omega), va_up_ne _ _ (by omega), va_up_ne _ _ (by omega), va_up_ne _ _ (by omega)]; exact va_up_self _ _ _
  · rw [va_up_ne _ _ (by omega), va_up_ne _ _ (by omega), va_up_ne _ _ (by omega), va_up_ne _ _ (by omega), va_up_ne _ _ (by omega)]; exact va_up_self _ _ _
  · rw [va_up_ne _ _ (by omega), va_up_ne _ _ (by omega), va_up_ne _ _ (by omega)]; exact va_up_self _ _ _
end CREP
