/-! THE CLASS: piles of layers, images -/
section CREP
variable {u : hU} {d : Nat} {mm : List Nat} {ad : Nat → Nat} {lv : Nat → Prop} {s : AS} {S : hS}
theorem stp.wide {mm' : List Nat} {ad' : Nat → Nat} {lv' Ca Cs Ca' Cs' : Nat → Prop} {S' : hS} (h : stp mm mm' ad ad' lv lv' S S' Ca Cs) (ha : ∀ c, Ca c → Ca' c) (hc : ∀ c, Cs c → Cs' c) : stp mm mm' ad ad' lv lv' S S' Ca' Cs' :=
  ⟨h.1, h.2.1, fun c q => h.2.2.1 c (fun z => q (ha c z)), fun c hl q => h.2.2.2 c hl (fun z => q (hc c z))⟩
theorem stp.tr {m1 m2 : List Nat} {ad1 ad2 : Nat → Nat} {lv1 lv2 Ca Cs : Nat → Prop} {S1 S2 : hS} (h : stp mm m1 ad ad1 lv lv1 S S1 Ca Cs) (h2 : stp m1 m2 ad1 ad2 lv1 lv2 S1 S2 Ca Cs) : stp mm m2 ad ad2 lv lv2 S S2 Ca Cs :=
  ⟨h.1.tr h2.1, fun c q => h2.2.1 c (h.2.1 c q), fun c q => (h2.2.2.1 c q).trans (h.2.2.1 c q), fun c hl q => (h2.2.2.2 c (h.2.1 c hl) q).trans (h.2.2.2 c hl q)⟩
theorem stp.rf {Ca Cs : Nat → Prop} : stp mm mm ad ad lv lv S S Ca Cs := ⟨kp.rf, fun _ h => h, fun _ _ => rfl, fun _ _ _ => rfl⟩
/-- the places of a pile's layers -/
def PC (b c : Nat) : Prop := (20 + b ≤ c ∧ c < 24 + b) ∨ (40 + b ≤ c ∧ c < 44 + b)
theorem c_pileTake {post : hS → Prop} {a a' b b' : Nat} {f g : Nat → Ly} (hP : pileC u mm S ad (20 + b) a) (hP' : pileC u mm S ad (20 + b') a') (hL : ∀ l, l < 4 → layC u mm S ad lv (b + l) (f l)) (hL' : ∀ l, l < 4 → layC u mm S ad lv (b' + l) (g l)) (hw : wf mm S ad lv) (hb : (b + 4 ≤ b' ∨ b' + 4 ≤ b) ∧ b ≤ 12 ∧ b' ≤ 12)
    (hp : ∀ S', wf mm S' ad lv → stp mm mm ad ad lv lv S S' (fun _ => False) (PC b) → (∀ l, l < 4 → layC u mm S' ad lv (b + l) (g l)) → post S') : w_X4_takeAll u post a (some a') S := by
  rw [w_X4_takeAll]
  refine ⟨5, ?_⟩
  have key : ∀ n x S1, x + n = 4 → wf mm S1 ad lv → stp mm mm ad ad lv lv S S1 (fun _ => False) (PC b) → (∀ l, l < 4 → layC u mm S1 ad lv (b + l) (if l < x then g l else f l)) → w_X4_takeAll_2 u post a (n + 1) (some a') (nI x) S1 := by
    intro n
    induction n with
    | zero =>
      intro x S1 hx w1 s1 h1
      rw [w_X4_takeAll_2]
      refine ⟨fun _ => hp S1 w1 s1 (fun l hl => ?_), fun z => absurd (nI_le (a := 4) (b := x) (by omega) (by omega)) z⟩
      have := h1 l hl
      rw [if_pos (by omega)] at this; exact this
    | succ n ih =>
      intro x S1 hx w1 s1 h1
      have hx4 : x < 4 := by omega
      obtain ⟨r, q, k1, k2, k3⟩ := (hP.keep s1.1 (fun _ _ => rfl)).o
      obtain ⟨r', q', k1', k2', k3'⟩ := (hP'.keep s1.1 (fun _ _ => rfl)).o
      have hT := h1 x hx4
      rw [if_neg (by omega)] at hT
      have hS' : ∀ l, l < 4 → layC u mm S1 ad lv (b' + l) (g l) := fun l hl => (hL' l hl).keep s1 ⟨fun z => z, fun z => z⟩ ⟨by unfold PC; omega, by unfold PC; omega⟩
      rw [w_X4_takeAll_2]
      refine ⟨fun z => absurd z (nI_ge (b := 4) (by omega) (by decide)), fun _ => ⟨_, k1.r rfl, _, rfl, 4, q, k2, vp_in_nI hx4 (by omega), fun o10 e10 => ⟨a', rfl, _, k1'.r rfl, _, rfl, 4, q', k2', vp_in_nI hx4 (by omega), fun o19 e19 => ?_⟩⟩⟩
      rw [nI_clamp (by omega), k3 x hx4] at e10
      rw [nI_clamp (by omega), k3' x hx4] at e19
      rw [show 20 + b + x = 20 + (b + x) by omega] at e10
      rw [show 20 + b' + x = 20 + (b' + x) by omega] at e19
      refine ⟨_, e10, ⟨_, hT.o w1⟩, ?_⟩
      rw [e19]
      refine c_takeAll hT (hS' x hx4) w1 (by omega) (fun S2 l1 hN v ev => ?_)
      rw [ev, nI_1]
      refine ih (x + 1) S2 (by omega) l1.1 (s1.tr (l1.2.wide (fun _ z => z) (fun c z => by unfold PC; omega))) (fun l hl => ?_)
      by_cases z : l = x
      · subst z; rw [if_pos (by omega)]; exact hN
      · have := (h1 l hl).keep l1.2 ⟨fun z => z, fun z => z⟩ ⟨by omega, by omega⟩
        by_cases z2 : l < x
        · rw [if_pos z2] at this; rw [if_pos (by omega)]; exact this
        · rw [if_neg z2] at this; rw [if_neg (by omega)]; exact this
  exact key 4 0 S (by omega) hw stp.rf (fun l hl => by rw [if_neg (by omega)]; exact hL l hl)
theorem c_pileCount {post : Int32 → Prop} {a b : Nat} {f : Nat → Ly} (hP : pileC u mm S ad (20 + b) a) (hL : ∀ l, l < 4 → layC u mm S ad lv (b + l) (f l)) (hw : wf mm S ad lv) (hp : post (sumL f)) : w_X4_entryCount u post a S := by
  obtain ⟨r, q, k1, k2, k3⟩ := hP.o
  have step : ∀ x acc n, x < 4 → w_X4_entryCount_13 u post a n (nI (acc + (f x).length)) r (nI 4) (nI (x + 1)) S → w_X4_entryCount_13 u post a (n + 1) (nI acc) r (nI 4) (nI x) S := by
    intro x acc n hx h
    have hT := hL x hx
    rw [w_X4_entryCount_13]
    refine ⟨fun z => absurd z (nI_ge (b := 4) (by omega) (by decide)), fun _ => ⟨4, q, k2, vp_in_nI hx (by omega), fun o14 e14 => ?_⟩⟩
    rw [nI_clamp (by omega), k3 x hx, show 20 + b + x = 20 + (b + x) by omega] at e14
    refine ⟨_, e14, ⟨_, hT.o hw⟩, c_entryCount hT hw (fun v21 e21 v22 e22 => ?_)⟩
    rw [e21, e22, nI_add, nI_1]; exact h
  rw [w_X4_entryCount]
  refine ⟨_, k1.r rfl, _, rfl, 4, q, k2, fun v7 e7 => ⟨5, ?_⟩⟩
  rw [e7]
  refine step 0 0 4 (by omega) (step 1 _ 3 (by omega) (step 2 _ 2 (by omega) (step 3 _ 1 (by omega) ?_)))
  rw [w_X4_entryCount_13]
  refine ⟨fun _ => ?_, fun z => absurd (by decide) z⟩
  rw [Nat.zero_add]; exact hp
/-- the cells of a new pile: 2 l and 2 l + 1 the l-th layer and its row, 8 the pile's row -/
def npC (u : hU) (S S' : hS) (q : Nat) (na : Nat → Nat) : Prop := (∀ i, i < 9 → na i ∉ S.1 ∧ na i ∈ S'.1) ∧ (∀ i j, i < 9 → j < 9 → na i = na j → i = j) ∧ S'.2 q = .inr (5, [va_rf (some (na 8))]) ∧ ∃ g, S'.2 (na 8) = qE (u.2.1 4) 4 g ∧ ∀ l, l < 4 → g l = some (na (2 * l)) ∧ S'.2 (na (2 * l)) = .inr (4, [va_rf (some (na (2 * l + 1))), .int 0]) ∧ S'.2 (na (2 * l + 1)) = qE (u.2.1 3) 40 (fun _ => none)
theorem c_layerInit {post : hS → Prop} {a mc ms : Nat} (h1 : a ∈ S.1) (e1 : S.2 a = .inr (4, [.null, .int 0])) (hmc : 1 ≤ mc) (hms : 40 ≤ ms) (hp : ∀ S' r, r ∉ S.1 → r ∈ S'.1 → fx [a] S S' → S'.2 a = .inr (4, [va_rf (some r), .int 0]) → S'.2 r = qE (u.2.1 3) 40 (fun _ => none) → post S') : w_X3_init u post a S mc ms := by
  rw [w_X3_init]
  refine ⟨40, rfl, by omega, hmc, hms, fun r S3 hr e3 => ?_⟩
  have hne : a ≠ r := fun z => hr.1 (by rw [← z]; exact h1)
  have m3 : a ∈ S3.1 := by rw [e3]; exact adS_old h1
  have o3 : S3.2 a = .inr (4, [.null, .int 0]) := by rw [e3, va_adS_ne hne]; exact e1
  have r3 : r ∈ S3.1 := by rw [e3]; exact adS_mem
  refine ⟨_, ⟨m3, o3⟩, by simp, fun S13 e13 => hp S13 r hr.1 (by rw [e13]; exact r3) ?_ (by rw [e13]; exact va_upS_self) (by rw [e13, va_upS_ne (fun z => hne z.symm), e3]; exact va_adS_self)⟩
  rw [e13, e3]; exact (fx.ad hr.1).tr (fx.up (by simp))
theorem c_pileInit {post : hS → Prop} {q mc ms : Nat} (h1 : q ∈ S.1) (e1 : S.2 q = .inr (5, [.null])) (hmc : 9 ≤ mc) (hms : 172 ≤ ms) (hp : ∀ S' na, fx [q] S S' → npC u S S' q na → post S') : w_X4_init u post q S mc ms := by
  rw [w_X4_init]
  refine ⟨4, rfl, by omega, by omega, by omega, fun r S3 hr e3 => ?_⟩
  have hne : q ≠ r := fun z => hr.1 (by rw [← z]; exact h1)
  have m3 : ∀ a, a ∈ S.1 → a ∈ S3.1 := fun a ha => by rw [e3]; exact adS_old ha
  have r3 : r ∈ S3.1 := by rw [e3]; exact adS_mem
  have o3 : S3.2 q = .inr (5, [.null]) := by rw [e3, va_adS_ne hne]; exact e1
  refine ⟨_, ⟨m3 q h1, o3⟩, by simp, fun S13 e13 => ⟨5, ?_⟩⟩
  have m13 : ∀ a, a ∈ S3.1 → a ∈ S13.1 := fun a ha => by rw [e13]; exact ha
  have key : ∀ (n x : Nat) (S1 : hS) (na : Nat → Nat) (mc1 ms1 : Nat), x + n = 4 → fx [q] S S1 → (∀ i, (i < 2 * x ∨ i = 8) → na i ∉ S.1 ∧ na i ∈ S1.1) → (∀ i j, (i < 2 * x ∨ i = 8) → (j < 2 * x ∨ j = 8) → na i = na j → i = j) → S1.2 q = .inr (5, [va_rf (some (na 8))]) →
      (∃ g, S1.2 (na 8) = qE (u.2.1 4) 4 g ∧ ∀ l, l < x → g l = some (na (2 * l)) ∧ S1.2 (na (2 * l)) = .inr (4, [va_rf (some (na (2 * l + 1))), .int 0]) ∧ S1.2 (na (2 * l + 1)) = qE (u.2.1 3) 40 (fun _ => none)) → 2 * n ≤ mc1 → 42 * n ≤ ms1 → w_X4_init_14 u post q (n + 1) (nI x) S1 mc1 ms1 := by
    intro n
    induction n with
    | zero =>
      intro x S1 na mc1 ms1 hx f1 n1 n2 o1 hg hmc1 hms1
      rw [w_X4_init_14]
      refine ⟨fun _ => hp S1 na f1 ⟨fun i hi => n1 i (by omega), fun i j hi hj => n2 i j (by omega) (by omega), o1, ?_⟩, fun z => absurd (nI_le (a := 4) (b := x) (by omega) (by omega)) z⟩
      obtain ⟨g, g1, g2⟩ := hg
      exact ⟨g, g1, fun l hl => g2 l (by omega)⟩
    | succ n ih =>
      intro x S1 na mc1 ms1 hx f1 n1 n2 o1 hg hmc1 hms1
      obtain ⟨g, g1, g2⟩ := hg
      have q1 : q ∈ S1.1 := f1.1 q h1
      have hq8 : na 8 ≠ q := fun z => (n1 8 (Or.inr rfl)).1 (by rw [z]; exact h1)
      rw [w_X4_init_14]
      refine ⟨fun z => absurd z (nI_ge (b := 4) (by omega) (by decide)), fun _ => ⟨_, ⟨q1, _, o1, rfl⟩, by omega, by omega, fun la S20 hla e20 => ⟨1, 40, by omega, by omega, ?_⟩⟩⟩
      have m20 : ∀ a, a ∈ S1.1 → a ∈ S20.1 := fun a ha => by rw [e20]; exact adS_old ha
      have f20 : ∀ a, a ∈ S1.1 → S20.2 a = S1.2 a := fun a ha => by rw [e20]; exact va_adS_ne (fun z => hla.1 (by rw [← z]; exact ha))
      refine c_layerInit (u := u) (S := S20) (a := la) (by rw [e20]; exact adS_mem) (by rw [e20]; exact va_adS_self) (by omega) (by omega) (fun S28 ra hra1 hra2 f28 o28 r28 => ?_)
      have la28 : la ∈ S28.1 := f28.1 la (by rw [e20]; exact adS_mem)
      have f28' : ∀ a, a ∈ S1.1 → S28.2 a = S1.2 a := fun a ha => (f28.2 a (m20 a ha) (fun z => hla.1 (by rw [← List.mem_singleton.mp z]; exact ha))).trans (f20 a ha)
      have m28 : ∀ a, a ∈ S1.1 → a ∈ S28.1 := fun a ha => f28.1 a (m20 a ha)
      have k8 : S28.2 (na 8) = qE (u.2.1 4) 4 g := (f28' _ (n1 8 (Or.inr rfl)).2).trans g1
      refine ⟨_, rfl, 4, g, ⟨m28 _ (n1 8 (Or.inr rfl)).2, k8⟩, vp_in_nI (by omega) (by omega), ⟨_, la28, o28⟩, fun S35 e35 v37 e37 => ?_⟩
      rw [nI_clamp (by omega)] at e35
      rw [e37, nI_1]
      have laS1 : la ∉ S1.1 := hla.1
      have raS1 : ra ∉ S1.1 := fun z => hra1 (m20 ra z)
      have hlr : la ≠ ra := fun z => hra1 (by rw [← z, e20]; exact adS_mem)
      have N8 : va_up (va_up na (2 * x) la) (2 * x + 1) ra 8 = na 8 := by rw [va_up_ne _ _ (by omega), va_up_ne _ _ (by omega)]
      have Nl : va_up (va_up na (2 * x) la) (2 * x + 1) ra (2 * x) = la := by rw [va_up_ne _ _ (by omega), va_up_self]
      have Nr : va_up (va_up na (2 * x) la) (2 * x + 1) ra (2 * x + 1) = ra := va_up_self _ _ _
      have No : ∀ i, i ≠ 2 * x → i ≠ 2 * x + 1 → va_up (va_up na (2 * x) la) (2 * x + 1) ra i = na i := fun i z1 z2 => by rw [va_up_ne _ _ z2, va_up_ne _ _ z1]
      have hla8 : la ≠ na 8 := fun z => laS1 (by rw [z]; exact (n1 8 (Or.inr rfl)).2)
      have hra8 : ra ≠ na 8 := fun z => raS1 (by rw [z]; exact (n1 8 (Or.inr rfl)).2)
      have f35 : ∀ a, a ∈ S1.1 → a ≠ na 8 → S35.2 a = S1.2 a := fun a ha hn => by rw [e35, va_upS_ne hn]; exact f28' a ha
      have m35 : ∀ a, a ∈ S28.1 → a ∈ S35.1 := fun a ha => by rw [e35]; exact ha
      refine ih (x + 1) S35 (va_up (va_up na (2 * x) la) (2 * x + 1) ra) _ _ (by omega) ⟨fun a ha => m35 _ (m28 a (f1.1 a ha)), fun a ha hn => ?_⟩ (fun i hi => ?_) (fun i j hi hj e => ?_) ?_ ⟨va_up g x (some la), ?_, fun l hl => ?_⟩ (by omega) (by omega)
      · rw [f35 a (f1.1 a ha) (fun z => (n1 8 (Or.inr rfl)).1 (by rw [← z]; exact ha))]; exact f1.2 a ha hn
      · by_cases z1 : i = 2 * x
        · rw [z1, Nl]; exact ⟨fun z => laS1 (f1.1 _ z), m35 _ la28⟩
        · by_cases z2 : i = 2 * x + 1
          · rw [z2, Nr]; exact ⟨fun z => raS1 (f1.1 _ z), m35 _ hra2⟩
          · rw [No i z1 z2]
            have := n1 i (by omega)
            exact ⟨this.1, m35 _ (m28 _ this.2)⟩
      · have old : ∀ i, (i < 2 * (x + 1) ∨ i = 8) → i ≠ 2 * x → i ≠ 2 * x + 1 → na i ∈ S1.1 := fun i hi z1 z2 => (n1 i (by omega)).2
        by_cases z1 : i = 2 * x
        · by_cases y1 : j = 2 * x
          · rw [z1, y1]
          · by_cases y2 : j = 2 * x + 1
            · rw [z1, y2, Nl, Nr] at e; exact absurd e hlr
            · rw [z1, Nl, No j y1 y2] at e; exact absurd (old j hj y1 y2) (by rw [← e]; exact laS1)
        · by_cases z2 : i = 2 * x + 1
          · by_cases y1 : j = 2 * x
            · rw [z2, y1, Nl, Nr] at e; exact absurd e.symm hlr
            · by_cases y2 : j = 2 * x + 1
              · rw [z2, y2]
              · rw [z2, Nr, No j y1 y2] at e; exact absurd (old j hj y1 y2) (by rw [← e]; exact raS1)
          · rw [No i z1 z2] at e
            by_cases y1 : j = 2 * x
            · rw [y1, Nl] at e; exact absurd (old i hi z1 z2) (by rw [e]; exact laS1)
            · by_cases y2 : j = 2 * x + 1
              · rw [y2, Nr] at e; exact absurd (old i hi z1 z2) (by rw [e]; exact raS1)
              · rw [No j y1 y2] at e
                exact n2 i j (by omega) (by omega) e
      · rw [N8, f35 q q1 (fun z => hq8 z.symm)]; exact o1
      · rw [N8, e35]; exact va_upS_self
      · by_cases z : l = x
        · subst z
          rw [va_up_self, Nl, Nr]
          refine ⟨rfl, ?_, ?_⟩
          · rw [e35, va_upS_ne hla8]; exact o28
          · rw [e35, va_upS_ne hra8]; exact r28
        · rw [va_up_ne _ _ z, No (2 * l) (by omega) (by omega), No (2 * l + 1) (by omega) (by omega)]
          obtain ⟨a1, a2, a3⟩ := g2 l (by omega)
          have b1 := n1 (2 * l) (by omega)
          have b2 := n1 (2 * l + 1) (by omega)
          refine ⟨a1, ?_, ?_⟩
          · rw [f35 _ b1.2 (fun z => by have := n2 (2 * l) 8 (by omega) (Or.inr rfl) z; omega)]; exact a2
          · rw [f35 _ b2.2 (fun z => by have := n2 (2 * l + 1) 8 (by omega) (Or.inr rfl) z; omega)]; exact a3
  refine key 4 0 S13 (fun _ => r) _ _ (by omega) ?_ (fun i hi => ⟨hr.1, by rw [e13]; exact r3⟩) (fun i j hi hj _ => by omega) (by rw [e13]; exact va_upS_self) ⟨fun _ => none, ?_, fun l hl => absurd hl (by omega)⟩ (by omega) (by omega)
  · rw [e13, e3]; exact (fx.ad hr.1).tr (fx.up (by simp))
  · rw [e13, va_upS_ne (fun z => hne z.symm), e3]; exact va_adS_self
/-! the drawer's images -/
theorem cR.imRow (h : cR u d mm ad lv s S) : lv 7 ∧ rR S d 10 4 (some (ad 7)) ∧ ∃ g, rQ S (u.2.1 5) (ad 7) 2 g ∧ ∀ i, i < 2 → imC u mm S ad lv i (g i) (aIm s i) := by
  obtain ⟨sr, sg, lp, k1, -⟩ := h.dr
  obtain ⟨h0, hw, -, -, -, -, -, ⟨q1, g, q2, q3⟩, -⟩ := h
  exact ⟨q1, k1.r rfl, g, ⟨hw.at q1, q2⟩, q3⟩
/-- the cells of image i alone change -/
theorem cR.img {mm' : List Nat} {ad' : Nat → Nat} {lv' Ca Cs : Nat → Prop} {S' : hS} {i : Nat} {v : Option (Nat → Ly)} {g g' : Nat → Option Nat} (h : cR u d mm ad lv s S) (hi : i < 2) (hw' : wf mm' S' ad' lv') (hs : stp mm mm' ad ad' lv lv' S S' Ca Cs) (ha : ∀ c, Ca c → PC (4 + 4 * i) c) (hc : ∀ c, Cs c → c = 7 ∨ PC (4 + 4 * i) c)
    (hg : ∀ j, j < 2 → imC u mm S ad lv j (g j) (aIm s j)) (hg' : S'.2 (ad' 7) = qE (u.2.1 5) 2 g') (hgo : ∀ j, j ≠ i → g' j = g j) (hv : imC u mm' S' ad' lv' i (g' i) v) : cR u d mm' ad' lv' (sIm s i v) S' := by
  obtain ⟨⟨h0, h00⟩, hw, h1, h2, h3, h4, ⟨L, h5⟩, ⟨h61, -⟩, h7, h8⟩ := h
  unfold PC at ha hc
  have e0 : ad' 0 = ad 0 := hs.2.2.1 0 (fun z => by have := ha 0 z; omega)
  refine ⟨⟨h0, e0.trans h00⟩, hw', h1.keep hs (fun c q => ?_) (fun q => ?_), h2.keep hs (fun c q => ?_), h3.keep hs (fun c q => ?_) (fun c q => ?_), h4.keep hs (fun c q => ?_) (fun c q => ?_), ⟨L, h5.keep hs ⟨fun q => ?_, fun q => ?_⟩ ⟨fun q => ?_, fun q => ?_⟩⟩, ⟨hs.2.1 _ h61, g', hg', fun j hj => ?_⟩, h7.keep hs (fun c q => ?_) (fun c q => ?_), h8.keep hs (fun c q => ?_) (fun c q => ?_)⟩
  all_goals first
    | (have := ha _ q; unfold adF; omega)
    | (have := ha _ q; omega)
    | (have := hc _ q; omega)
    | skip
  show imC u mm' S' ad' lv' j (g' j) (va_up (aIm s) i v j)
  by_cases z : j = i
  · subst z; rw [va_up_self]; exact hv
  · rw [va_up_ne _ _ z, hgo j z]
    exact (hg j hj).keep hs (fun l hl => ⟨fun q => by have := ha _ q; omega, fun q => by have := ha _ q; omega⟩) (fun l hl => ⟨fun q => by have := hc _ q; omega, fun q => by have := hc _ q; omega⟩)
/-- image i takes the layers -/
theorem c_keep36 {post : Int32 → hS → Prop} {i p mc ms : Nat} {f : Nat → Ly} (h : cR u d mm ad lv s S) (hi : i < 2) (hf : aIm s i = some f) {g : Nat → Option Nat} (hq : rQ S (u.2.1 5) (ad 7) 2 g) (hgp : g i = some p) (hg : ∀ j, j < 2 → imC u mm S ad lv j (g j) (aIm s j))
    (hp : ∀ S', cRep u d (sIm s i (some (aLy s))) S' → post (sumL (aLy s)) S') : w_X9_keep_36 u post d p S mc ms := by
  obtain ⟨lp, k1, k2⟩ := h.pl
  obtain ⟨l7, -⟩ := h.imRow
  have hw := h.2.1
  have hI := hg i hi
  rw [hf, hgp] at hI
  obtain ⟨p', e1, hP, hL⟩ := hI
  obtain rfl := Option.some.inj e1
  rw [w_X9_keep_36]
  refine ⟨_, k1, hP.fs, c_pileTake (b := 4 + 4 * i) (b' := 0) hP k2 hL (fun l hl => by rw [Nat.zero_add]; exact h.ly hl) hw (by omega) (fun S38 w38 s38 L38 => ?_)⟩
  have hP38 := hP.keep s38.1 (fun _ _ => rfl)
  have h38 : cR u d mm ad lv (sIm s i (some (aLy s))) S38 := h.img (g := g) (g' := g) hi w38 s38 (fun c z => absurd z (fun z => z)) (fun c z => Or.inr z) hg (by rw [s38.2.2.2 7 l7 (by unfold PC; omega)]; exact hq.2) (fun _ _ => rfl) ⟨p, hgp, hP38, L38⟩
  exact ⟨hP38.fs, c_pileCount hP38 L38 w38 (hp S38 ⟨mm, ad, lv, h38⟩)⟩
theorem c_keep {post : Int32 → hS → Prop} {mc ms : Nat} (hmc : 1100 ≤ mc) (hms : 13600 ≤ ms) (x : Int32) (hR : cRep u d s S) (hp : ∀ S', cRep u d (op_keep x s).2 S' → post (op_keep x s).1 S') : w_X9_keep u post d x S mc ms := by
  obtain ⟨mm, ad, lv, h⟩ := id hR
  obtain ⟨l7, k1, g, k2, k3⟩ := h.imRow
  have hw := h.2.1
  rw [w_X9_keep]
  refine c_in2 x (fun e => ⟨fun z => absurd rfl z, fun _ => ?_⟩) (fun i hi hx e => ⟨fun _ => ⟨_, k1, _, rfl, 2, g, k2, by rw [hx]; exact vp_in_nI hi (by omega), fun o eo => ?_⟩, fun z => absurd z (by decide)⟩)
  · simp only [op_keep, e] at hp; exact hp S hR
  · rw [hx, nI_clamp (by omega)] at eo
    simp only [op_keep, e] at hp
    have hk := k3 i hi
    cases hv : aIm s i with
    | some f =>
      rw [hv] at hk
      obtain ⟨p, e1, hP, hL⟩ := hk
      rw [e1] at eo
      refine ⟨fun z => absurd z (by rw [eo]; simp), fun a12 z => ?_⟩
      rw [eo] at z
      obtain rfl := Option.some.inj z
      exact c_keep36 h hi hv k2 e1 k3 hp
    | none =>
      rw [hv] at hk
      have e1 : g i = none := hk
      rw [e1] at eo
      refine ⟨fun _ => ⟨by omega, by omega, fun q S15 hq e15 => ⟨9, 172, by omega, by omega, ?_⟩⟩, fun a12 z => absurd z (by rw [eo]; simp)⟩
      have f15 : fx [] S S15 := by rw [e15]; exact fx.ad hq.1
      refine c_pileInit (u := u) (by rw [e15]; exact adS_mem) (by rw [e15]; exact va_adS_self) (Nat.le_refl _) (Nat.le_refl _) (fun S23 na f23 hn => ?_)
      obtain ⟨n1, n2, n3, gp, n4, n5⟩ := hn
      have f : fx [] S S23 := f15.new f23 (fun w hw => by rw [List.mem_singleton.mp hw]; exact hq.1)
      have nS : ∀ j, j < 9 → na j ∉ S.1 := fun j hj z => (n1 j hj).1 (f15.1 _ z)
      have naq : ∀ j, j < 9 → na j ≠ q := fun j hj z => (n1 j hj).1 (by rw [z, e15]; exact adS_mem)
      have q23 : q ∈ S23.1 := f23.1 q (by rw [e15]; exact adS_mem)
      have h23 := h.still f
      obtain ⟨-, k1', g', k2', k3'⟩ := h23.imRow
      have eg : g' = g := by
        have a1 := k2'.2
        rw [f.2 _ k2.1 (by simp), k2.2] at a1
        injection a1 with a1
        injection a1 with _ a1
        injection a1 with _ a1
        injection a1 with a1
        injection a1 with a1
        injection a1 with a1
        injection a1 with a1
        exact a1.symm
      subst eg
      refine ⟨_, k1', _, rfl, 2, g', k2', by rw [hx]; exact vp_in_nI hi (by omega), ⟨_, q23, n3⟩, fun S32 e32 => ?_⟩
      rw [hx, nI_clamp (by omega)] at e32
      have a7S : ad 7 ∈ S.1 := k2.1
      have q7 : q ≠ ad 7 := fun z => hq.1 (by rw [z]; exact a7S)
      have na7 : ∀ j, j < 9 → na j ≠ ad 7 := fun j hj z => nS j hj (by rw [z]; exact a7S)
      have f32 : ∀ a, a ∈ S.1 → a ≠ ad 7 → S32.2 a = S.2 a := fun a ha hn => by rw [e32, va_upS_ne hn]; exact f.2 a ha (by simp)
      have m32 : ∀ a, a ∈ S23.1 → a ∈ S32.1 := fun a ha => by rw [e32]; exact ha
      let ad' : Nat → Nat := fun c => if 24 + 4 * i ≤ c ∧ c < 28 + 4 * i then na (2 * (c - (24 + 4 * i))) else if 44 + 4 * i ≤ c ∧ c < 48 + 4 * i then na (2 * (c - (44 + 4 * i)) + 1) else ad c
      let lv' : Nat → Prop := fun c => lv c ∨ PC (4 + 4 * i) c
      let mm' : List Nat := (List.range 8).map na ++ mm
      have A1 : ∀ l, l < 4 → ad' (20 + (4 + 4 * i + l)) = na (2 * l) := fun l hl => by
        show (if _ then _ else _) = _
        rw [if_pos (by omega), show 20 + (4 + 4 * i + l) - (24 + 4 * i) = l by omega]
      have A2 : ∀ l, l < 4 → ad' (40 + (4 + 4 * i + l)) = na (2 * l + 1) := fun l hl => by
        show (if _ then _ else _) = _
        rw [if_neg (by omega), if_pos (by omega), show 40 + (4 + 4 * i + l) - (44 + 4 * i) = l by omega]
      have A3 : ∀ c, ¬ PC (4 + 4 * i) c → ad' c = ad c := fun c hc => by
        unfold PC at hc
        show (if _ then _ else _) = _
        rw [if_neg (by omega), if_neg (by omega)]
      have A4 : ∀ c, PC (4 + 4 * i) c → ∃ j, j < 8 ∧ ad' c = na j ∧ ((c < 40 ∧ j = 2 * (c - (24 + 4 * i))) ∨ (40 ≤ c ∧ j = 2 * (c - (44 + 4 * i)) + 1)) := fun c hc => by
        unfold PC at hc
        rcases hc with hc | hc
        · refine ⟨2 * (c - (24 + 4 * i)), by omega, ?_, Or.inl ⟨by omega, rfl⟩⟩
          show (if _ then _ else _) = _
          rw [if_pos (by omega)]
        · refine ⟨2 * (c - (44 + 4 * i)) + 1, by omega, ?_, Or.inr ⟨by omega, rfl⟩⟩
          show (if _ then _ else _) = _
          rw [if_neg (by omega), if_pos (by omega)]
      have inm : ∀ j, j < 8 → na j ∈ mm' := fun j hj => List.mem_append_left _ (List.mem_map.mpr ⟨j, List.mem_range.mpr hj, rfl⟩)
      have kpm : kp mm mm' S S32 := by
        refine ⟨fun a ha => m32 _ (f.1 a ha), fun a ha hm => ⟨fun z => ?_, f32 a ha (fun z => hm (by rw [z]; exact hw.2.1 7 l7))⟩⟩
        rcases List.mem_append.mp z with z | z
        · obtain ⟨j, hj, e⟩ := List.mem_map.mp z
          exact nS j (by have := List.mem_range.mp hj; omega) (by rw [e]; exact ha)
        · exact hm z
      have w32 : wf mm' S32 ad' lv' := by
        refine ⟨fun a ha => ?_, fun c hc => ?_, fun c c' hc hc' e => ?_⟩
        · rcases List.mem_append.mp ha with z | z
          · obtain ⟨j, hj, e⟩ := List.mem_map.mp z
            rw [← e]; exact m32 _ (n1 j (by have := List.mem_range.mp hj; omega)).2
          · exact m32 _ (f.1 a (hw.1 a z))
        · by_cases z : PC (4 + 4 * i) c
          · obtain ⟨j, hj, e, -⟩ := A4 c z
            rw [e]; exact inm j hj
          · rw [A3 c z]
            rcases hc with hc | hc
            · exact List.mem_append_right _ (hw.2.1 c hc)
            · exact absurd hc z
        · by_cases z : PC (4 + 4 * i) c
          · obtain ⟨j, hj, e1, e2⟩ := A4 c z
            by_cases z' : PC (4 + 4 * i) c'
            · obtain ⟨j', hj', e1', e2'⟩ := A4 c' z'
              have := n2 j j' (by omega) (by omega) (by rw [← e1, ← e1']; exact e)
              unfold PC at z z'
              omega
            · rw [e1, A3 c' z'] at e
              rcases hc' with hc' | hc'
              · exact absurd (hw.at hc') (by rw [← e]; exact nS j (by omega))
              · exact absurd hc' z'
          · by_cases z' : PC (4 + 4 * i) c'
            · obtain ⟨j', hj', e1', e2'⟩ := A4 c' z'
              rw [e1', A3 c z] at e
              rcases hc with hc | hc
              · exact absurd (hw.at hc) (by rw [e]; exact nS j' (by omega))
              · exact absurd hc z
            · rw [A3 c z, A3 c' z'] at e
              rcases hc with hc | hc
              · rcases hc' with hc' | hc'
                · exact hw.2.2 c c' hc hc' e
                · exact absurd hc' z'
              · exact absurd hc z
      have s32 : stp mm mm' ad ad' lv lv' S S32 (PC (4 + 4 * i)) (fun c => c = 7 ∨ PC (4 + 4 * i) c) := by
        refine ⟨kpm, fun c q => Or.inl q, A3, fun c hc hn => ?_⟩
        rw [A3 c (fun z => hn (Or.inr z))]
        exact f32 _ (hw.at hc) (fun z => hn (Or.inl (hw.2.2 c 7 hc l7 z)))
      have hL32 : ∀ l, l < 4 → layC u mm' S32 ad' lv' (4 + 4 * i + l) ((fun _ => []) l) := fun l hl => by
        obtain ⟨b1, b2, b3⟩ := n5 l hl
        refine ⟨Or.inr (by unfold PC; omega), Or.inr (by unfold PC; omega), by simp, ?_, fun _ => none, ?_, fun e he => absurd he (by simp)⟩
        · rw [A1 l hl, A2 l hl, e32, va_upS_ne (na7 _ (by omega))]; exact b2
        · rw [A2 l hl, e32, va_upS_ne (na7 _ (by omega))]; exact b3
      have nmm : ∀ a, a ∉ S.1 → (∀ j, j < 8 → na j ≠ a) → a ∉ mm' := fun a ha hn z => by
        rcases List.mem_append.mp z with z | z
        · obtain ⟨j, hj, e⟩ := List.mem_map.mp z
          exact hn j (List.mem_range.mp hj) e
        · exact ha (hw.1 a z)
      have hP32 : pileC u mm' S32 ad' (20 + (4 + 4 * i)) q := by
        refine ⟨na 8, gp, ⟨m32 _ q23, nmm q hq.1 (fun j hj => naq j (by omega)), by rw [e32, va_upS_ne q7]; exact n3⟩, ⟨m32 _ (n1 8 (by omega)).2, nmm _ (nS 8 (by omega)) (fun j hj z => by have := n2 j 8 (by omega) (by omega) z; omega), by rw [e32, va_upS_ne (na7 8 (by omega))]; exact n4⟩, fun j hj => ?_⟩
        rw [show 20 + (4 + 4 * i) + j = 20 + (4 + 4 * i + j) by omega, A1 j hj]
        exact (n5 j hj).1
      have e7 : S32.2 (ad' 7) = qE (u.2.1 5) 2 (va_up g' i (some q)) := by
        rw [A3 7 (by unfold PC; omega), e32]; exact va_upS_self
      have h32 : cR u d mm' ad' lv' (sIm s i (some (fun _ => []))) S32 := h.img (g := g') (g' := va_up g' i (some q)) hi w32 s32 (fun c z => z) (fun c z => z) k3 e7 (fun j hj => va_up_ne _ _ hj) ⟨q, va_up_self _ _ _, hP32, hL32⟩
      obtain ⟨-, -, g2, q2, q3⟩ := h32.imRow
      have eg2 : g2 = va_up g' i (some q) := by
        have a1 := q2.2
        rw [e7] at a1
        injection a1 with a1
        injection a1 with _ a1
        injection a1 with _ a1
        injection a1 with a1
        injection a1 with a1
        injection a1 with a1
        injection a1 with a1
        exact a1.symm
      refine c_keep36 h32 hi (va_up_self _ _ _) q2 (by rw [eg2]; exact va_up_self _ _ _) q3 (fun S' h' => ?_)
      have up2 : va_up (va_up (aIm s) i (some (fun _ => []))) i (some (aLy s)) = va_up (aIm s) i (some (aLy s)) := by
        funext y
        by_cases q : y = i
        · subst q; rw [va_up_self, va_up_self]
        · rw [va_up_ne _ _ q, va_up_ne _ _ q, va_up_ne _ _ q]
      have es : sIm (sIm s i (some (fun _ => []))) i (some (aLy (sIm s i (some (fun _ => []))))) = sIm s i (some (aLy s)) := by
        show (s.1, s.2.1, s.2.2.1, va_up (va_up (aIm s) i (some (fun _ => []))) i (some (aLy s)), s.2.2.2.2) = _
        rw [up2]
      rw [es] at h'
      exact hp S' h'
theorem c_restore {post : Int32 → hS → Prop} (x : Int32) (hR : cRep u d s S) (hp : ∀ S', cRep u d (op_restore x s).2 S' → post (op_restore x s).1 S') : w_X9_restore u post d x S := by
  obtain ⟨mm, ad, lv, h⟩ := id hR
  obtain ⟨l7, k1, g, k2, k3⟩ := h.imRow
  obtain ⟨lp, p1, p2⟩ := h.pl
  have hw := h.2.1
  rw [w_X9_restore]
  refine c_in2 x (fun e => ⟨fun z => absurd rfl z, fun _ => ?_⟩) (fun i hi hx e => ⟨fun _ => ⟨_, k1, _, rfl, 2, g, k2, by rw [hx]; exact vp_in_nI hi (by omega), fun o eo => ?_⟩, fun z => absurd z (by decide)⟩)
  · simp only [op_restore, e] at hp; exact hp S hR
  · rw [hx, nI_clamp (by omega)] at eo
    simp only [op_restore, e] at hp
    have hk := k3 i hi
    cases hv : aIm s i with
    | none =>
      rw [hv] at hk
      have e1 : g i = none := hk
      simp only [hv] at hp
      exact ⟨fun _ => hp S hR, fun a z => absurd z (by rw [eo, e1]; simp)⟩
    | some f =>
      rw [hv] at hk
      obtain ⟨p, e1, hP, hL⟩ := hk
      simp only [hv] at hp
      rw [e1] at eo
      refine ⟨fun z => absurd z (by rw [eo]; simp), fun a12 z => ⟨_, p1, _, rfl, p2.fs, ?_⟩⟩
      rw [eo] at z
      obtain rfl := Option.some.inj z
      refine c_pileTake (b := 0) (b' := 4 + 4 * i) p2 hP (fun l hl => by rw [Nat.zero_add]; exact h.ly hl) hL hw (by omega) (fun S18 w18 s18 L18 => ?_)
      obtain ⟨⟨h0, h00⟩, -, h1, h2, h3, h4, ⟨Lt, h5⟩, h6, h7, h8⟩ := id h
      have no : ∀ (P : Nat → Prop) (c : Nat), False → ¬ P c := fun _ _ z => absurd z (fun z => z)
      have h18 : cR u d mm ad lv (sLys s (resL f (aLy s) 4)) S18 := by
        refine ⟨⟨h0, h00⟩, w18, h1.keep s18 (no _) (by unfold PC; omega), h2.keep s18 (fun c z => by unfold PC at z; omega), h3.keep s18 (no _) (fun c z => by unfold PC at z; omega), fun j hj => ?_, ⟨Lt, h5.keep s18 ⟨fun z => z, fun z => z⟩ ⟨by unfold PC; omega, by unfold PC; omega⟩⟩, h6.keep s18 (no _) (fun c z => by unfold PC at z; omega), h7.keep s18 (no _) (fun c z => by unfold PC at z; omega), h8.keep s18 (no _) (fun c z => by unfold PC at z; omega)⟩
        have := L18 j hj
        rw [Nat.zero_add] at this
        show layC u mm S18 ad lv j (resL f (aLy s) 4 j)
        unfold resL
        rw [if_pos hj]; exact this
      obtain ⟨lp', p1', p2'⟩ := h18.pl
      exact ⟨_, p1', _, rfl, p2'.fs, c_pileCount (b := 0) p2' L18 w18 (hp S18 ⟨mm, ad, lv, h18⟩)⟩
end CREP
