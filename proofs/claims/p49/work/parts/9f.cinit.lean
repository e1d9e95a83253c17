/-! THE CLASS: its constructor -/
/-- what stands at places -/
def pl (S : hS) (ad : Nat → Nat) (P : Nat → Prop) (co : Nat → va_E) : Prop := (∀ c, P c → ad c ∈ S.1 ∧ S.2 (ad c) = co c) ∧ ∀ c c', P c → P c' → ad c = ad c' → c = c'
theorem up_old {S S' : hS} {a x : Nat} {e : va_E} (h : x ∈ S.1) (es : S' = upS S a e) : x ∈ S'.1 := by rw [es]; exact h
theorem ad_old {S S' : hS} {a x : Nat} {e : va_E} (h : x ∈ S.1) (es : S' = adS S a e) : x ∈ S'.1 := by rw [es]; exact adS_old h
theorem pl.mono {S : hS} {ad : Nat → Nat} {P P' : Nat → Prop} {co : Nat → va_E} (h : pl S ad P co) (hs : ∀ c, P' c → P c) : pl S ad P' co := ⟨fun c hc => h.1 c (hs c hc), fun c c' hc hc' => h.2 c c' (hs c hc) (hs c' hc')⟩
/-- new places in a step that changes one old place's contents at most -/
theorem pl.ext {S S' : hS} {ad ad' : Nat → Nat} {P P' : Nat → Prop} {co co' : Nat → va_E} {W : List Nat} {w : Nat} (h : pl S ad P co) (f : fx W S S') (hW : ∀ c, P c → ad c ∈ W → c = w)
    (ha : ∀ c, P c → ad' c = ad c) (hco : ∀ c, P c → c ≠ w → co' c = co c) (hcw : P w → S'.2 (ad w) = co' w) (hnew : ∀ c, P' c → P c ∨ (ad' c ∉ S.1 ∧ ad' c ∈ S'.1 ∧ S'.2 (ad' c) = co' c))
    (hinj : ∀ c c', P' c → ¬ P c → P' c' → ¬ P c' → ad' c = ad' c' → c = c') : pl S' ad' P' co' := by
  refine ⟨fun c hc => ?_, fun c c' hc hc' e => ?_⟩
  · rcases hnew c hc with q | q
    · rw [ha c q]
      refine ⟨f.1 _ (h.1 c q).1, ?_⟩
      by_cases z : c = w
      · rw [z] at q ⊢; exact hcw q
      · rw [f.2 _ (h.1 c q).1 (fun y => z (hW c q y)), hco c q z]; exact (h.1 c q).2
    · exact q.2
  · by_cases q : P c
    · by_cases q' : P c'
      · rw [ha c q, ha c' q'] at e; exact h.2 c c' q q' e
      · rcases hnew c' hc' with y | y
        · exact absurd y q'
        · exact absurd (h.1 c q).1 (by rw [← ha c q, e]; exact y.1)
    · by_cases q' : P c'
      · rcases hnew c hc with y | y
        · exact absurd y q
        · exact absurd (h.1 c' q').1 (by rw [← ha c' q', ← e]; exact y.1)
      · exact hinj c c' hc q hc' q' e
theorem pl.new {S S' : hS} {ad : Nat → Nat} {P P' : Nat → Prop} {co : Nat → va_E} {q c : Nat} {e : va_E} (h : pl S ad P co) (hq : q ∉ S.1) (es : S' = adS S q e) (hc : ¬ P c) (hP : ∀ x, P' x → P x ∨ x = c) : pl S' (va_up ad c q) P' (va_up co c e) := by
  have hne : ∀ x, P x → x ≠ c := fun x hx z => hc (z ▸ hx)
  refine h.ext (W := []) (w := c) (by rw [es]; exact fx.ad hq) (fun x _ z => absurd z (by simp)) (fun x hx => va_up_ne _ _ (hne x hx)) (fun x hx _ => va_up_ne _ _ (hne x hx)) (fun z => absurd z hc) (fun x hx => ?_) (fun x x' hx nx hx' nx' _ => ?_)
  · rcases hP x hx with z | z
    · exact Or.inl z
    · rw [z, va_up_self, va_up_self, es]; exact Or.inr ⟨hq, adS_mem, va_adS_self⟩
  · rw [(hP x hx).resolve_left nx, (hP x' hx').resolve_left nx']
theorem pl.up {S S' : hS} {ad : Nat → Nat} {P : Nat → Prop} {co : Nat → va_E} {c a : Nat} {e : va_E} (h : pl S ad P co) (hc : P c) (ea : ad c = a) (es : S' = upS S a e) : pl S' ad P (va_up co c e) := by
  refine ⟨fun x hx => ⟨by rw [es]; exact (h.1 x hx).1, ?_⟩, h.2⟩
  rw [es, ← ea]
  by_cases z : x = c
  · rw [z, va_up_self]; exact va_upS_self
  · rw [va_up_ne _ _ z, va_upS_ne (fun y => z (h.2 x c hx hc y))]; exact (h.1 x hx).2
theorem pl.o {S : hS} {ad : Nat → Nat} {P : Nat → Prop} {co : Nat → va_E} (h : pl S ad P co) {c a ci : Nat} {fs : List Value} (hc : P c) (ea : ad c = a) (e : co c = .inr (ci, fs)) : rO S a ci fs := by
  rw [← ea]; exact ⟨(h.1 c hc).1, (h.1 c hc).2.trans e⟩
section CREP
variable {u : hU} {S : hS}
theorem pl.sb {ad : Nat → Nat} {P : Nat → Prop} {co : Nat → va_E} {post : hS → Prop} {a c r mc ms : Nat} (h : pl S ad P co) (hc : P c) (ea : ad c = a) (e : co c = .inr (1, [.null, .int 0, .int 0, .int 0])) (hr : ¬ P r) (hmc : 1 ≤ mc) (hms : 16 ≤ ms)
    (hp : ∀ S' b, (∀ x, x ∈ S.1 → x ∈ S'.1) → pl S' (va_up ad r b) (fun x => P x ∨ x = r) (va_up (va_up co c (S'.2 a)) r (S'.2 b)) → bS u S' a b [] 16 → post S') : w_J4_init_da u post a S mc ms := by
  have hne : ∀ x, P x → x ≠ r := fun x hx z => hr (z ▸ hx)
  refine sb_init (by rw [← ea]; exact (h.1 c hc).1) (by rw [← ea]; exact (h.1 c hc).2.trans e) hmc hms (fun S' b hb f hB => hp S' b f.1 (h.ext (W := [a]) (w := c) f (fun x hx z => ?_) (fun x hx => va_up_ne _ _ (hne x hx)) (fun x hx z => ?_) (fun _ => ?_) (fun x hx => ?_) (fun x x' hx nx hx' nx' _ => ?_)) hB)
  · exact h.2 x c hx hc ((List.mem_singleton.mp z).trans ea.symm)
  · rw [va_up_ne _ _ (hne x hx), va_up_ne _ _ z]
  · rw [va_up_ne _ _ (hne c hc), va_up_self, ea]
  · rcases hx with z | z
    · exact Or.inl z
    · rw [z, va_up_self, va_up_self]; exact Or.inr ⟨hb.1, hB.2.2.1, rfl⟩
  · rw [hx.resolve_left nx, hx'.resolve_left nx']
/-- the tape -/
theorem c_tapeInit {ad : Nat → Nat} {P : Nat → Prop} {co : Nat → va_E} {post : hS → Prop} {a mc ms : Nat} (h : pl S ad P co) (hc : P 1) (ea : ad 1 = a) (e : co 1 = .inr (8, [.null, .null, .null, .int 0, .int 0, .int 0, .int 0])) (hr : ∀ c, 2 ≤ c → c ≤ 6 → ¬ P c) (hmc : 5 ≤ mc) (hms : 340 ≤ ms)
    (hp : ∀ S' ad' co', (∀ x, x ∈ S.1 → x ∈ S'.1) → pl S' ad' (fun x => P x ∨ (2 ≤ x ∧ x ≤ 6)) co' → (∀ c, P c → ad' c = ad c) → (∀ c, P c → c ≠ 1 → co' c = co c) → co' 1 = .inr (8, [va_rf (some (ad' 2)), va_rf (some (ad' 6)), va_rf (some (ad' 4)), .int 0, .int 0, .int 0, .int 0]) →
      bS u S' (ad' 2) (ad' 3) [] 16 → bS u S' (ad' 4) (ad' 5) [] 16 → co' 6 = .inl (u.2.1 0, 300, .inl (fun _ => 0)) → post S') : w_X7_init u post a S mc ms := by
  have ne : ∀ x c, P x → 2 ≤ c → c ≤ 6 → x ≠ c := fun x c hx h1 h2 z => hr c h1 h2 (z ▸ hx)
  rw [w_X7_init]
  refine ⟨by omega, by omega, fun q1 S3 f1 e3 => ⟨1, 16, by omega, by omega, ?_⟩⟩
  have p3 := h.new (c := 2) (P' := fun x => P x ∨ x = 2) f1.1 e3 (hr 2 (by omega) (by omega)) (fun x hx => hx)
  refine p3.sb (c := 2) (r := 3) (Or.inr rfl) (va_up_self _ _ _) (va_up_self _ _ _) (fun z => by rcases z with z | z; exact hr 3 (by omega) (by omega) z; omega) (by omega) (by omega) (fun S11 b11 l11 p11 B11 => ?_)
  have c1 : ∀ f : Nat → va_E, ∀ e2 e3 : va_E, va_up (va_up f 2 e2) 3 e3 1 = f 1 := fun f e2 e3 => by rw [va_up_ne _ _ (by omega), va_up_ne _ _ (by omega)]
  refine ⟨_, p11.o (c := 1) (Or.inl (Or.inl hc)) (by rw [va_up_ne _ _ (by omega), va_up_ne _ _ (by omega)]; exact ea) (by rw [c1, va_up_ne _ _ (by omega)]; exact e), by simp, fun S16 e16 => ⟨300, rfl, by omega, by omega, by omega, fun q17 S19 f17 e19 => ?_⟩⟩
  have p16 := p11.up (c := 1) (Or.inl (Or.inl hc)) (by rw [va_up_ne _ _ (by omega), va_up_ne _ _ (by omega)]; exact ea) e16
  have p19 := p16.new (c := 6) (P' := fun x => ((P x ∨ x = 2) ∨ x = 3) ∨ x = 6) f17.1 e19 (fun z => by rcases z with (z | z) | z; exact hr 6 (by omega) (by omega) z; omega; omega) (fun x hx => hx)
  refine ⟨_, p19.o (c := 1) (Or.inl (Or.inl (Or.inl hc))) (by rw [va_up_ne _ _ (by omega), va_up_ne _ _ (by omega), va_up_ne _ _ (by omega)]; exact ea) (by rw [va_up_ne _ _ (by omega)]; exact va_up_self _ _ _), by simp, fun S29 e29 => ⟨by omega, by omega, fun q30 S32 f30 e32 => ⟨1, 16, by omega, by omega, ?_⟩⟩⟩
  have p29 := p19.up (c := 1) (Or.inl (Or.inl (Or.inl hc))) (by rw [va_up_ne _ _ (by omega), va_up_ne _ _ (by omega), va_up_ne _ _ (by omega)]; exact ea) e29
  have p32 := p29.new (c := 4) (P' := fun x => (((P x ∨ x = 2) ∨ x = 3) ∨ x = 6) ∨ x = 4) f30.1 e32 (fun z => by rcases z with ((z | z) | z) | z; exact hr 4 (by omega) (by omega) z; omega; omega; omega) (fun x hx => hx)
  refine p32.sb (c := 4) (r := 5) (Or.inr rfl) (va_up_self _ _ _) (va_up_self _ _ _) (fun z => by rcases z with (((z | z) | z) | z) | z; exact hr 5 (by omega) (by omega) z; all_goals omega) (by omega) (by omega) (fun S40 b40 l40 p40 B40 => ?_)
  refine ⟨_, p40.o (c := 1) (Or.inl (Or.inl (Or.inl (Or.inl (Or.inl hc))))) (by rw [va_up_ne _ _ (by omega), va_up_ne _ _ (by omega), va_up_ne _ _ (by omega), va_up_ne _ _ (by omega), va_up_ne _ _ (by omega)]; exact ea) (by rw [va_up_ne _ _ (by omega), va_up_ne _ _ (by omega), va_up_ne _ _ (by omega)]; exact va_up_self _ _ _), by simp, fun S45 e45 => ?_⟩
  have p45 := p40.up (c := 1) (Or.inl (Or.inl (Or.inl (Or.inl (Or.inl hc))))) (by rw [va_up_ne _ _ (by omega), va_up_ne _ _ (by omega), va_up_ne _ _ (by omega), va_up_ne _ _ (by omega), va_up_ne _ _ (by omega)]; exact ea) e45
  have A : ∀ x, va_up (va_up (va_up (va_up (va_up ad 2 q1) 3 b11) 6 q17) 4 q30) 5 b40 x = if x = 5 then b40 else if x = 4 then q30 else if x = 6 then q17 else if x = 3 then b11 else if x = 2 then q1 else ad x := fun x => rfl
  have A2 : va_up (va_up (va_up (va_up (va_up ad 2 q1) 3 b11) 6 q17) 4 q30) 5 b40 2 = q1 := rfl
  have A3 : va_up (va_up (va_up (va_up (va_up ad 2 q1) 3 b11) 6 q17) 4 q30) 5 b40 3 = b11 := rfl
  have A4 : va_up (va_up (va_up (va_up (va_up ad 2 q1) 3 b11) 6 q17) 4 q30) 5 b40 4 = q30 := rfl
  have A5 : va_up (va_up (va_up (va_up (va_up ad 2 q1) 3 b11) 6 q17) 4 q30) 5 b40 5 = b40 := rfl
  have A6 : va_up (va_up (va_up (va_up (va_up ad 2 q1) 3 b11) 6 q17) 4 q30) 5 b40 6 = q17 := rfl
  have m2 := (p45.1 2 (Or.inl (Or.inl (Or.inl (Or.inl (Or.inr rfl)))))).2
  have m3 := (p45.1 3 (Or.inl (Or.inl (Or.inl (Or.inr rfl))))).2
  have m4 := (p45.1 4 (Or.inl (Or.inr rfl))).2
  have m5 := (p45.1 5 (Or.inr rfl)).2
  have L3 : ∀ x, x ∈ S.1 → x ∈ S3.1 := fun x hx => by rw [e3]; exact adS_old hx
  have L45 : ∀ x, x ∈ S11.1 → x ∈ S45.1 := fun x hx => by
    have h19 : x ∈ S19.1 := by rw [e19, e16]; exact adS_old hx
    have h32 : x ∈ S32.1 := by rw [e32, e29]; exact adS_old h19
    rw [e45]; exact l40 x h32
  refine hp S45 _ _ (fun x hx => L45 x (l11 x (L3 x hx))) (p45.mono (fun x hx => ?_)) (fun c hc => ?_) (fun c hc hn => ?_) ?_ ?_ ?_ ?_
  · rcases hx with hx | ⟨hx, hy⟩
    · exact Or.inl (Or.inl (Or.inl (Or.inl (Or.inl hx))))
    · have : x = 2 ∨ x = 3 ∨ x = 4 ∨ x = 5 ∨ x = 6 := by omega
      rcases this with z | z | z | z | z
      · exact Or.inl (Or.inl (Or.inl (Or.inl (Or.inr z))))
      · exact Or.inl (Or.inl (Or.inl (Or.inr z)))
      · exact Or.inl (Or.inr z)
      · exact Or.inr z
      · exact Or.inl (Or.inl (Or.inr z))
  · rw [A, if_neg (ne c 5 hc (by omega) (by omega)), if_neg (ne c 4 hc (by omega) (by omega)), if_neg (ne c 6 hc (by omega) (by omega)), if_neg (ne c 3 hc (by omega) (by omega)), if_neg (ne c 2 hc (by omega) (by omega))]
  · have n2 := ne c 2 hc (by omega) (by omega)
    have n3 := ne c 3 hc (by omega) (by omega)
    have n4 := ne c 4 hc (by omega) (by omega)
    have n5 := ne c 5 hc (by omega) (by omega)
    have n6 := ne c 6 hc (by omega) (by omega)
    rw [va_up_ne _ _ hn, va_up_ne _ _ n5, va_up_ne _ _ n4, va_up_ne _ _ n4, va_up_ne _ _ hn, va_up_ne _ _ n6, va_up_ne _ _ hn, va_up_ne _ _ n3, va_up_ne _ _ n2, va_up_ne _ _ n2]
  · rw [va_up_self, A2, A6, A4]; rfl
  · rw [A2, A3]
    rw [A2] at m2
    rw [A3] at m3
    exact B11.keep L45 (m2.trans rfl) (m3.trans rfl)
  · rw [A4, A5]
    rw [A4] at m4
    rw [A5] at m5
    exact B40.keep (fun x hx => by rw [e45]; exact hx) (m4.trans rfl) (m5.trans rfl)
  · rfl
/-- the places of a new pile -/
def nP (x : Nat) : Prop := (20 ≤ x ∧ x < 24) ∨ (40 ≤ x ∧ x < 44) ∨ x = 82
theorem c_pilePl {ad : Nat → Nat} {P : Nat → Prop} {co : Nat → va_E} {post : hS → Prop} {a mc ms : Nat} (h : pl S ad P co) (hc : P 81) (ea : ad 81 = a) (e : co 81 = .inr (5, [.null])) (hr : ∀ c, nP c → ¬ P c) (hmc : 9 ≤ mc) (hms : 172 ≤ ms)
    (hp : ∀ S' ad' co', (∀ x, x ∈ S.1 → x ∈ S'.1) → pl S' ad' (fun x => P x ∨ nP x) co' → (∀ c, P c → ad' c = ad c) → (∀ c, P c → c ≠ 81 → co' c = co c) → co' 81 = .inr (5, [va_rf (some (ad' 82))]) →
      (∃ g, co' 82 = qE (u.2.1 4) 4 g ∧ ∀ l, l < 4 → g l = some (ad' (20 + l))) → (∀ l, l < 4 → co' (20 + l) = .inr (4, [va_rf (some (ad' (40 + l))), .int 0]) ∧ co' (40 + l) = qE (u.2.1 3) 40 (fun _ => none)) → post S') : w_X4_init u post a S mc ms := by
  refine c_pileInit (by rw [← ea]; exact (h.1 81 hc).1) (by rw [← ea]; exact (h.1 81 hc).2.trans e) hmc hms (fun S' na f hN => ?_)
  obtain ⟨n1, n2, n3, g, n4, n5⟩ := hN
  have ha : ∀ c, P c → (fun x => if 20 ≤ x ∧ x < 24 then na (2 * (x - 20)) else if 40 ≤ x ∧ x < 44 then na (2 * (x - 40) + 1) else if x = 82 then na 8 else ad x) c = ad c := fun c hc => by
    have := fun z => hr c z hc
    unfold nP at this
    show (if 20 ≤ c ∧ c < 24 then na (2 * (c - 20)) else if 40 ≤ c ∧ c < 44 then na (2 * (c - 40) + 1) else if c = 82 then na 8 else ad c) = ad c
    rw [if_neg (fun z => this (Or.inl z)), if_neg (fun z => this (Or.inr (Or.inl z))), if_neg (fun z => this (Or.inr (Or.inr z)))]
  have hk : ∀ c, nP c → ∃ k, k < 9 ∧ (fun x => if 20 ≤ x ∧ x < 24 then na (2 * (x - 20)) else if 40 ≤ x ∧ x < 44 then na (2 * (x - 40) + 1) else if x = 82 then na 8 else ad x) c = na k ∧ ((20 ≤ c ∧ c < 24 ∧ k = 2 * (c - 20)) ∨ (40 ≤ c ∧ c < 44 ∧ k = 2 * (c - 40) + 1) ∨ (c = 82 ∧ k = 8)) := fun c z => by
    rcases z with z | z | z
    · exact ⟨2 * (c - 20), by omega, if_pos z, Or.inl ⟨z.1, z.2, rfl⟩⟩
    · exact ⟨2 * (c - 40) + 1, by omega, (if_neg (by omega)).trans (if_pos z), Or.inr (Or.inl ⟨z.1, z.2, rfl⟩)⟩
    · exact ⟨8, by omega, (if_neg (by omega)).trans ((if_neg (by omega)).trans (if_pos z)), Or.inr (Or.inr ⟨z, rfl⟩)⟩
  have h20 : ∀ l, l < 4 → (fun x => if 20 ≤ x ∧ x < 24 then na (2 * (x - 20)) else if 40 ≤ x ∧ x < 44 then na (2 * (x - 40) + 1) else if x = 82 then na 8 else ad x) (20 + l) = na (2 * l) := fun l hl => (if_pos ⟨by omega, by omega⟩).trans (by rw [Nat.add_sub_cancel_left])
  have h40 : ∀ l, l < 4 → (fun x => if 20 ≤ x ∧ x < 24 then na (2 * (x - 20)) else if 40 ≤ x ∧ x < 44 then na (2 * (x - 40) + 1) else if x = 82 then na 8 else ad x) (40 + l) = na (2 * l + 1) := fun l hl => (if_neg (by omega)).trans ((if_pos ⟨by omega, by omega⟩).trans (by rw [Nat.add_sub_cancel_left]))
  have h82 : (fun x => if 20 ≤ x ∧ x < 24 then na (2 * (x - 20)) else if 40 ≤ x ∧ x < 44 then na (2 * (x - 40) + 1) else if x = 82 then na 8 else ad x) 82 = na 8 := rfl
  revert ha hk h20 h40 h82
  generalize (fun x => if 20 ≤ x ∧ x < 24 then na (2 * (x - 20)) else if 40 ≤ x ∧ x < 44 then na (2 * (x - 40) + 1) else if x = 82 then na 8 else ad x) = ad'
  intro ha hk h20 h40 h82
  have hold : ∀ c, P c → c ≠ 81 → S'.2 (ad' c) = co c := fun c q z => by
    rw [ha c q, f.2 _ (h.1 c q).1 (fun y => z (h.2 c 81 q hc ((List.mem_singleton.mp y).trans ea.symm)))]
    exact (h.1 c q).2
  refine hp S' ad' (fun x => S'.2 (ad' x)) f.1 (h.ext (w := 81) f (fun x hx z => h.2 x 81 hx hc ((List.mem_singleton.mp z).trans ea.symm)) ha hold (fun _ => by rw [ha 81 hc]) (fun x hx => ?_) (fun x x' hx nx hx' nx' e' => ?_)) ha hold ?_ ⟨g, ?_, fun l hl => ?_⟩ (fun l hl => ⟨?_, ?_⟩)
  · rcases hx with z | z
    · exact Or.inl z
    · obtain ⟨k, k1, k2, _⟩ := hk x z
      rw [k2]; exact Or.inr ⟨(n1 k k1).1, (n1 k k1).2, rfl⟩
  · obtain ⟨k, k1, k2, k3⟩ := hk x (hx.resolve_left nx)
    obtain ⟨k', k1', k2', k3'⟩ := hk x' (hx'.resolve_left nx')
    have := n2 k k' k1 k1' (by rw [← k2, ← k2', e'])
    omega
  · show S'.2 (ad' 81) = _
    rw [ha 81 hc, h82, ea]; exact n3
  · show S'.2 (ad' 82) = _
    rw [h82]; exact n4
  · rw [h20 l hl]; exact (n5 l hl).1
  · show S'.2 (ad' (20 + l)) = _
    rw [h20 l hl, h40 l hl]; exact (n5 l hl).2.1
  · show S'.2 (ad' (40 + l)) = _
    rw [h40 l hl]; exact (n5 l hl).2.2
theorem c_layerPl {ad : Nat → Nat} {P : Nat → Prop} {co : Nat → va_E} {post : hS → Prop} {a mc ms : Nat} (h : pl S ad P co) (hc : P 32) (ea : ad 32 = a) (e : co 32 = .inr (4, [.null, .int 0])) (hr : ¬ P 52) (hmc : 1 ≤ mc) (hms : 40 ≤ ms)
    (hp : ∀ S' ad' co', (∀ x, x ∈ S.1 → x ∈ S'.1) → pl S' ad' (fun x => P x ∨ x = 52) co' → (∀ c, P c → ad' c = ad c) → (∀ c, P c → c ≠ 32 → co' c = co c) → co' 32 = .inr (4, [va_rf (some (ad' 52)), .int 0]) → co' 52 = qE (u.2.1 3) 40 (fun _ => none) → post S') : w_X3_init u post a S mc ms := by
  have ne : ∀ x, P x → x ≠ 52 := fun x hx z => hr (z ▸ hx)
  refine c_layerInit (by rw [← ea]; exact (h.1 32 hc).1) (by rw [← ea]; exact (h.1 32 hc).2.trans e) hmc hms (fun S' r r1 r2 f e1 e2 => ?_)
  have ha : ∀ c, P c → va_up ad 52 r c = ad c := fun c q => va_up_ne _ _ (ne c q)
  have hold : ∀ c, P c → c ≠ 32 → S'.2 (va_up ad 52 r c) = co c := fun c q z => by
    rw [ha c q, f.2 _ (h.1 c q).1 (fun y => z (h.2 c 32 q hc ((List.mem_singleton.mp y).trans ea.symm)))]
    exact (h.1 c q).2
  refine hp S' (va_up ad 52 r) (fun x => S'.2 (va_up ad 52 r x)) f.1 (h.ext (w := 32) f (fun x hx z => h.2 x 32 hx hc ((List.mem_singleton.mp z).trans ea.symm)) ha hold (fun _ => by rw [ha 32 hc]) (fun x hx => ?_) (fun x x' hx nx hx' nx' e' => ?_)) ha hold ?_ ?_
  · rcases hx with z | z
    · exact Or.inl z
    · rw [z, va_up_self]; exact Or.inr ⟨r1, r2, rfl⟩
  · rw [hx.resolve_left nx, hx'.resolve_left nx']
  · show S'.2 (va_up ad 52 r 32) = _
    rw [ha 32 hc, va_up_self, ea]; exact e1
  · show S'.2 (va_up ad 52 r 52) = _
    rw [va_up_self]; exact e2
/-- the slots -/
def sP (n x : Nat) : Prop := x = 0 ∨ x = 80 ∨ (10 ≤ x ∧ x < 10 + n)
theorem c_slotsInit {t0 mc ms : Nat} {post : hS → Prop} (h1 : t0 ∈ S.1) (e1 : S.2 t0 = .inr (10, [.null, .null, .null, .null, .null, .null, .null, .int 0, .int 0])) (hmc : 7 ≤ mc) (hms : 12 ≤ ms)
    (hp : ∀ S' ad co mc' ms', (∀ x, x ∈ S.1 → x ∈ S'.1) → pl S' ad (sP 6) co → ad 0 = t0 → co 0 = .inr (10, [va_rf (some (ad 80)), .null, .null, .null, .null, .null, .null, .int 0, .int 0]) →
      (∃ g, co 80 = qE (u.2.1 8) 6 g ∧ ∀ i, i < 6 → g i = some (ad (10 + i))) → (∀ i, i < 6 → co (10 + i) = .inr (7, [.null])) → mc ≤ mc' + 7 → ms ≤ ms' + 12 → w_X9_init_15 u post t0 1 6 S' mc' ms') : w_X9_init u post t0 S mc ms := by
  rw [w_X9_init]
  refine ⟨6, rfl, by omega, by omega, by omega, fun q S3 hq e3 => ?_⟩
  have p0 : pl S (fun _ => t0) (fun x => x = 0) (fun _ => S.2 t0) := ⟨fun c _ => ⟨h1, rfl⟩, fun c c' hc hc' _ => hc.trans hc'.symm⟩
  have key : ∀ (n x : Nat) (S1 : hS) (ad : Nat → Nat) (co : Nat → va_E) (mc1 ms1 : Nat), x + n = 6 → (∀ y, y ∈ S.1 → y ∈ S1.1) → pl S1 ad (sP x) co → ad 0 = t0 → co 0 = .inr (10, [va_rf (some (ad 80)), .null, .null, .null, .null, .null, .null, .int 0, .int 0]) →
      (∃ g, co 80 = qE (u.2.1 8) 6 g ∧ ∀ i, i < x → g i = some (ad (10 + i))) → (∀ i, i < x → co (10 + i) = .inr (7, [.null])) → mc ≤ mc1 + 1 + x → ms ≤ ms1 + 6 + x → w_X9_init_15 u post t0 (n + 1) (nI x) S1 mc1 ms1 := by
    intro n
    induction n with
    | zero =>
      intro x S1 ad co mc1 ms1 hx l1 p1 a1 o1 g1 s1 b1 b2
      have : x = 6 := by omega
      subst this
      exact hp S1 ad co mc1 ms1 l1 p1 a1 o1 g1 s1 (by omega) (by omega)
    | succ n ih =>
      intro x S1 ad co mc1 ms1 hx l1 p1 a1 o1 g1 s1 b1 b2
      obtain ⟨g, g2, g3⟩ := g1
      rw [w_X9_init_15]
      refine ⟨fun z => absurd z (nI_ge (b := 6) (by omega) (by decide)), fun _ => ⟨some (ad 80), ⟨(p1.o (c := 0) (Or.inl rfl) a1 o1).1, _, (p1.o (c := 0) (Or.inl rfl) a1 o1).2, rfl⟩, by omega, by omega, fun q S2 hq2 e2 => ?_⟩⟩
      have p2 := p1.new (c := 10 + x) (P' := sP (x + 1)) hq2.1 e2 (by unfold sP; omega) (by unfold sP; omega)
      have k80 : va_up ad (10 + x) q 80 = ad 80 := va_up_ne _ _ (by omega)
      have k0 : va_up ad (10 + x) q 0 = ad 0 := va_up_ne _ _ (by omega)
      rw [w_X6_init]
      have m80 := p2.1 80 (Or.inr (Or.inl rfl))
      rw [k80, va_up_ne _ _ (by omega), g2] at m80
      refine ⟨_, rfl, 6, g, m80, vp_in_nI (by omega) (by omega), ⟨_, by rw [e2]; exact adS_mem, by rw [e2]; exact va_adS_self⟩, fun S3 e3' v ev => ?_⟩
      rw [nI_clamp (by omega)] at e3'
      rw [ev, nI_1]
      have p3 := p2.up (c := 80) (Or.inr (Or.inl rfl)) k80 e3'
      refine ih (x + 1) S3 _ _ _ _ (by omega) (fun y hy => up_old (ad_old (l1 y hy) e2) e3') p3 (k0.trans a1) ?_ ⟨va_up g x (some q), va_up_self _ _ _, fun i hi => ?_⟩ (fun i hi => ?_) (by omega) (by omega)
      · rw [va_up_ne _ _ (by omega), va_up_ne _ _ (by omega), k80]; exact o1
      · by_cases z : i = x
        · rw [z, va_up_self, va_up_self]
        · rw [va_up_ne _ _ z, va_up_ne _ _ (by omega)]; exact g3 i (by omega)
      · rw [va_up_ne _ _ (by omega)]
        by_cases z : i = x
        · rw [z, va_up_self]
        · rw [va_up_ne _ _ (by omega)]; exact s1 i (by omega)
  have p3 := p0.new (c := 80) (P' := sP 0) hq.1 e3 (by omega) (by unfold sP; omega)
  refine ⟨_, p3.o (c := 0) (Or.inl rfl) (va_up_ne _ _ (by omega)) (by rw [va_up_ne _ _ (by omega)]; exact e1), by simp, fun S13 e13 => ⟨7, ?_⟩⟩
  have p13 := p3.up (c := 0) (Or.inl rfl) (va_up_ne _ _ (by omega)) e13
  refine key 6 0 S13 _ _ _ _ rfl (fun y hy => up_old (ad_old hy e3) e13) p13 (va_up_ne _ _ (by omega)) ?_ ⟨fun _ => none, ?_, fun i hi => absurd hi (by omega)⟩ (fun i hi => absurd hi (by omega)) (by omega) (by omega)
  · rw [va_up_self, va_up_self]; rfl
  · rw [va_up_ne _ _ (by omega)]; exact va_up_self _ _ _
end CREP
