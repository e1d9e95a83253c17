/-! write -/
theorem cT {A X Y : Prop} (h : A) (x : X) : (A → X) ∧ (¬ A → Y) := ⟨fun _ => x, fun z => absurd h z⟩
theorem cF {A X Y : Prop} (h : ¬ A) (y : Y) : (A → X) ∧ (¬ A → Y) := ⟨fun z => absurd z h, fun _ => y⟩
theorem dT {A X Y : Prop} (h : A) (y : Y) : (¬ A → X) ∧ (A → Y) := ⟨fun z => absurd h z, fun _ => y⟩
theorem dF {A X Y : Prop} (h : ¬ A) (x : X) : (¬ A → X) ∧ (A → Y) := ⟨fun _ => x, fun z => absurd z h⟩
def hexS (n : Nat) : Nat := if 10 ≤ n then 87 + n else 48 + n
def letF (c : Nat) : Option Nat := if c = 9 then some 116 else if c = 10 then some 110 else if c = 13 then some 114 else if c = 92 ∨ c = 61 ∨ c = 58 ∨ c = 35 ∨ c = 33 ∨ c = 32 then some c else none
def escF (c : Nat) : Tx := match letF c with
  | some d => [92, d]
  | none => if 32 ≤ c ∧ c ≤ 126 then [c] else [92, 117, 48, 48, hexS (c / 16), hexS (c % 16)]
def escT : Tx → Tx
  | [] => []
  | c :: t => escF c ++ escT t
def wrE (p : Tx × Tx) : Tx := escT p.1 ++ [61] ++ escT p.2 ++ [10]
def wrL : Ly → Tx
  | [] => []
  | p :: L => wrE p ++ wrL L
def op_write (x : Int32) (s : AS) : Int32 × AS := match ixO x 4 with
  | none => (-1, s)
  | some l => if (wrL (aLy s l)).length ≤ 300 then (nI (wrL (aLy s l)).length, sTp s (wrL (aLy s l))) else (-3, s)
theorem escF_len (c : Nat) : (escF c).length ≤ 6 := by
  unfold escF
  cases letF c with
  | some d => simp
  | none => show (if _ then _ else _ : Tx).length ≤ 6; split <;> simp
theorem escT_len : ∀ t : Tx, (escT t).length ≤ 6 * t.length
  | [] => Nat.le_refl _
  | c :: t => by
    have := escT_len t
    have := escF_len c
    simp only [escT, List.length_append, List.length_cons]; omega
theorem escT_app : ∀ t u : Tx, escT (t ++ u) = escT t ++ escT u
  | [], _ => rfl
  | c :: t, u => by
    show escF c ++ escT (t ++ u) = escF c ++ escT t ++ escT u
    rw [escT_app t u, List.append_assoc]
theorem hexS_lt {n : Nat} (h : n < 16) : hexS n < 127 := by unfold hexS; split <;> omega
theorem letF_lt {c d : Nat} (h : letF c = some d) : d < 127 := by
  unfold letF at h
  split at h
  · obtain rfl := Option.some.inj h; omega
  · split at h
    · obtain rfl := Option.some.inj h; omega
    · split at h
      · obtain rfl := Option.some.inj h; omega
      · split at h
        · obtain rfl := Option.some.inj h; omega
        · exact absurd h (by simp)
theorem escF_lt {c : Nat} (hc : c < 256) : ∀ x ∈ escF c, x < 127 := by
  intro x hx
  unfold escF at hx
  cases hl : letF c with
  | some d =>
    rw [hl] at hx
    have := letF_lt hl
    have hx' : x ∈ [92, d] := hx
    simp only [List.mem_cons, List.not_mem_nil, or_false] at hx'
    omega
  | none =>
    rw [hl] at hx
    have hx' : x ∈ (if 32 ≤ c ∧ c ≤ 126 then [c] else [92, 117, 48, 48, hexS (c / 16), hexS (c % 16)]) := hx
    split at hx'
    · simp only [List.mem_cons, List.not_mem_nil, or_false] at hx'; omega
    · have h1 := hexS_lt (n := c / 16) (by omega)
      have h2 := hexS_lt (n := c % 16) (by omega)
      simp only [List.mem_cons, List.not_mem_nil, or_false] at hx'
      omega
theorem escT_lt : ∀ t : Tx, (∀ c ∈ t, c < 256) → ∀ x ∈ escT t, x < 127
  | [], _ => fun x hx => absurd hx (by simp [escT])
  | c :: t, h => fun x hx => by
    rcases List.mem_append.mp hx with q | q
    · exact escF_lt (h c (by simp)) x q
    · exact escT_lt t (fun y hy => h y (by simp [hy])) x q
theorem wrE_lt {p : Tx × Tx} (h1 : ∀ c ∈ p.1, c < 256) (h2 : ∀ c ∈ p.2, c < 256) : ∀ x ∈ wrE p, x < 127 := by
  intro x hx
  unfold wrE at hx
  rcases List.mem_append.mp hx with q | q
  · rcases List.mem_append.mp q with q | q
    · rcases List.mem_append.mp q with q | q
      · exact escT_lt _ h1 x q
      · simp at q; omega
    · exact escT_lt _ h2 x q
  · simp at q; omega
theorem wrE_len {p : Tx × Tx} (h1 : p.1.length ≤ 300) (h2 : p.2.length ≤ 300) : (wrE p).length ≤ 3602 := by
  have := escT_len p.1
  have := escT_len p.2
  unfold wrE; simp only [List.length_append, List.length_cons, List.length_nil]; omega
theorem wrL_ok : ∀ L : Ly, (∀ p ∈ L, tLat p.1 ∧ tLat p.2) → (∀ x ∈ wrL L, x < 127) ∧ (wrL L).length ≤ 3602 * L.length
  | [], _ => ⟨fun x hx => absurd hx (by simp [wrL]), Nat.le_refl _⟩
  | p :: L, h => by
    obtain ⟨a, b⟩ := wrL_ok L (fun q hq => h q (by simp [hq]))
    obtain ⟨p1, p2⟩ := h p (by simp)
    refine ⟨fun x hx => ?_, ?_⟩
    · rcases List.mem_append.mp hx with q | q
      · exact wrE_lt p1.2 p2.2 x q
      · exact a x q
    · have := wrE_len p1.1 p2.1
      simp only [wrL, List.length_append, List.length_cons]; omega
theorem mLay.lat {M : RM} {l : Nat} {L : Ly} (h : mLay M l L) : ∀ p ∈ L, tLat p.1 ∧ tLat p.2 := by
  intro p hp
  obtain ⟨i, hi, rfl⟩ := List.getElem_of_mem hp
  have := h.e hi
  rw [List.getD_eq_getElem?_getD, List.getElem?_eq_getElem hi] at this
  exact ⟨this.1.1, this.2.1⟩
/-- what is written so far -/
def mW (M : RM) (o : Tx) : Prop := M 0 1 = nI o.length ∧ ∀ j, j < o.length → j < 300 → M 5 j = nI (o.getD j 0)
theorem upR_5 (M : RM) (i j : Nat) (x : Int32) : upR M 5 i x 5 j = if j = i then x else M 5 j := rfl
theorem s_writes {post : RM → Prop} {s : AS} {M : RM} {o : Tx} {c : Nat} {x : Int32} (hx : x = nI c) (hR : rRep s M) (hW : mW M o) (hl : o.length < 2 ^ 30) (hp : ∀ M', rRep s M' → mW M' (o ++ [c]) → post M') : w_writes post x M := by
  subst hx
  obtain ⟨h1, h2⟩ := hW
  have hlen : (o ++ [c]).length = o.length + 1 := by simp
  rw [w_writes, h1]
  refine ⟨fun z => ?_, fun z => ?_⟩
  · have hge := (nI_leI (a := 300) (by decide) (by omega)).mp z
    rw [w_writes_20, h1]
    intro M4 e4
    refine hp M4 (hR.still (by rw [e4]; exact mA.rf.up (by unfold scr; omega))) ⟨by rw [e4, upR_at, nI_1, hlen], fun j hj hj3 => ?_⟩
    rw [e4, upR_k _ _ _ (by decide), getD_app1, if_pos (by omega)]
    exact h2 j (by omega) hj3
  · have hlt : o.length < 300 := by
      rcases Nat.lt_or_ge o.length 300 with q | q
      · exact q
      · exact absurd (nI_le (a := 300) q (by omega)) z
    refine ⟨vp_in_nI (by omega) (by omega), fun M3 e3 => ?_⟩
    rw [nI_clamp (n := o.length) (by omega)] at e3
    rw [w_writes_20]
    intro M4 e4
    have k1 : M3 0 1 = nI o.length := by rw [e3, upR_k _ _ _ (by decide)]; exact h1
    rw [k1] at e4
    refine hp M4 (hR.still (by rw [e4]; refine mA.up ?_ (by unfold scr; omega); rw [e3]; exact mA.rf.up (by unfold scr; omega))) ⟨by rw [e4, upR_at, nI_1, hlen], fun j hj hj3 => ?_⟩
    rw [e4, upR_k _ _ _ (by decide), e3, upR_5, getD_app1]
    by_cases q : j = o.length
    · rw [if_pos q, if_neg (by omega), if_pos q]
    · rw [if_neg q, if_pos (by omega)]
      exact h2 j (by omega) hj3
theorem s_hexSign {post : Int32 → Prop} {n : Nat} {x : Int32} (hx : x = nI n) (h : n < 16) (hp : post (nI (hexS n))) : q_hexSign post x := by
  subst hx
  rw [q_hexSign]
  unfold hexS at hp
  refine ⟨fun z => ?_, fun z => ?_⟩
  · have := (nI_leI (a := 10) (by decide) (by omega)).mp z
    rw [if_pos this] at hp
    have e : (97 : Int32) + nI n - 10 = nI (87 + n) := by
      rw [show (97 : Int32) = nI 97 from rfl, show (10 : Int32) = nI 10 from rfl, nI_add, pk_sub (by omega)]
      congr 1; omega
    rw [e]; exact hp
  · rw [if_neg (fun q => z (nI_le (a := 10) q (by omega)))] at hp
    have e : (48 : Int32) + nI n = nI (48 + n) := nI_add 48 n
    rw [e]; exact hp
theorem app2 (o : Tx) (a b : Nat) : o ++ [a] ++ [b] = o ++ [a, b] := by simp
/-- a sign that is written by a backslash and a letter -/
theorem s_ws74 {post : RM → Prop} {s : AS} {M : RM} {o : Tx} {c d : Nat} (hc : c < 256) (hd : letF c = some d) (hR : rRep s M) (hW : mW M o) (hl : o.length + 6 < 2 ^ 30) (hp : ∀ M', rRep s M' → mW M' (o ++ [92, d]) → post M') : w_writesSign_74 post (nI c) M := by
  have fin : ∀ (x : Int32) (M1 : RM), x = nI d → rRep s M1 → mW M1 (o ++ [92]) → w_writesSign_115 post x M1 := by
    intro x M1 hx h1 w1
    rw [w_writesSign_115]
    exact s_writes hx h1 w1 (by simp; omega) (fun M' h' w' => hp M' h' (by rw [app2] at w'; exact w'))
  have ne : ∀ k, k < 256 → c ≠ k → ¬ nI c = nI k := fun k hk q z => q ((nI_eq (by omega) (by omega)).mp z)
  rw [w_writesSign_74]
  refine s_writes (c := 92) rfl hR hW (by omega) (fun M1 h1 w1 => ?_)
  unfold letF at hd
  by_cases h9 : c = 9
  · subst h9
    have : 116 = d := Option.some.inj hd
    exact dT rfl (fin _ M1 (by rw [← this]; rfl) h1 w1)
  · rw [if_neg h9] at hd
    refine dF (ne 9 (by omega) h9) ?_
    by_cases h10 : c = 10
    · subst h10
      have : 110 = d := Option.some.inj hd
      exact dT rfl (fin _ M1 (by rw [← this]; rfl) h1 w1)
    · rw [if_neg h10] at hd
      refine dF (ne 10 (by omega) h10) ?_
      by_cases h13 : c = 13
      · subst h13
        have : 114 = d := Option.some.inj hd
        exact dT rfl (fin _ M1 (by rw [← this]; rfl) h1 w1)
      · rw [if_neg h13] at hd
        refine dF (ne 13 (by omega) h13) (fin _ M1 ?_ h1 w1)
        split at hd
        · rw [Option.some.inj hd]
        · exact absurd hd (by simp)
theorem s_ws133 {post : RM → Prop} {s : AS} {M : RM} {o : Tx} {c : Nat} (hc : c < 256) (hR : rRep s M) (hW : mW M o) (hl : o.length + 6 < 2 ^ 30) (hp : ∀ M', rRep s M' → mW M' (o ++ [92, 117, 48, 48, hexS (c / 16), hexS (c % 16)]) → post M') : w_writesSign_133 post (nI c) M := by
  have e1 : nI c / 16 = nI (c / 16) := pk_div (d := 16) (by omega) (by omega) (by decide)
  have e2 : nI c - nI c / 16 * 16 = nI (c % 16) := pk_rem (d := 16) (by omega) (by omega) (by decide)
  rw [w_writesSign_133, e2, e1]
  refine s_writes (c := 92) rfl hR hW (by omega) (fun M1 h1 w1 => ?_)
  refine s_writes (c := 117) rfl h1 w1 (by simp; omega) (fun M2 h2 w2 => ?_)
  refine s_writes (c := 48) rfl h2 w2 (by simp; omega) (fun M3 h3 w3 => ?_)
  refine s_writes (c := 48) rfl h3 w3 (by simp; omega) (fun M4 h4 w4 => s_hexSign rfl (by omega) ?_)
  refine s_writes rfl h4 w4 (by simp; omega) (fun M5 h5 w5 => s_hexSign rfl (by omega) ?_)
  refine s_writes rfl h5 w5 (by simp; omega) (fun M6 h6 w6 => hp M6 h6 ?_)
  have e : o ++ [92] ++ [117] ++ [48] ++ [48] ++ [hexS (c / 16)] ++ [hexS (c % 16)] = o ++ [92, 117, 48, 48, hexS (c / 16), hexS (c % 16)] := by simp
  rw [e] at w6; exact w6
theorem s_writesSign {post : RM → Prop} {s : AS} {M : RM} {o : Tx} {c : Nat} (hc : c < 256) (hR : rRep s M) (hW : mW M o) (hl : o.length + 6 < 2 ^ 30) (hp : ∀ M', rRep s M' → mW M' (o ++ escF c) → post M') : w_writesSign post (nI c) M := by
  have ne : ∀ k, k < 256 → c ≠ k → ¬ nI c = nI k := fun k hk q z => q ((nI_eq (by omega) (by omega)).mp z)
  unfold escF at hp
  cases hd : letF c with
  | some d =>
    have hp' : ∀ M', rRep s M' → mW M' (o ++ [92, d]) → post M' := by rw [hd] at hp; exact hp
    have k74 := s_ws74 hc hd hR hW hl hp'
    have k65 : ∀ x2 s0 : Int32, (x2 = 0 → ¬ s0 = 0) → w_writesSign_65 post (nI c) x2 s0 M := fun x2 s0 h => by
      rw [w_writesSign_65]
      refine ⟨fun _ => k74, fun z => ⟨fun q => absurd q (h z), fun _ => k74⟩⟩
    have k60 : ∀ x2 : Int32, w_writesSign_60 post (nI c) x2 M := fun x2 => by
      rw [w_writesSign_60]; exact k65 x2 1 (fun _ => by decide)
    have k23 : ∀ s0 : Int32, (s0 = 0 → (c = 92 ∨ c = 61 ∨ c = 58 ∨ c = 35 ∨ c = 33 ∨ c = 32)) → w_writesSign_23 post (nI c) s0 M := fun s0 h => by
      rw [w_writesSign_23]
      refine ⟨fun _ => k60 s0, fun a1 => ⟨fun _ => k60 s0, fun a2 => ⟨fun _ => k60 s0, fun a3 => ⟨fun _ => k60 s0, fun a4 => ⟨fun _ => k60 s0, fun a5 => ⟨fun a6 => ?_, fun _ => k60 s0⟩⟩⟩⟩⟩⟩
      refine k65 s0 0 (fun z => absurd (h z) ?_)
      rintro (q | q | q | q | q | q)
      · exact a1 (by rw [q]; rfl)
      · exact a2 (by rw [q]; rfl)
      · exact a3 (by rw [q]; rfl)
      · exact a4 (by rw [q]; rfl)
      · exact a5 (by rw [q]; rfl)
      · exact a6 (by rw [q]; rfl)
    have k18 : w_writesSign_18 post (nI c) M := by
      rw [w_writesSign_18]; exact k23 1 (fun z => absurd z (by decide))
    rw [w_writesSign]
    refine ⟨fun _ => k18, fun a1 => ⟨fun _ => k18, fun a2 => ⟨fun a3 => k23 0 (fun _ => ?_), fun _ => k18⟩⟩⟩
    unfold letF at hd
    rw [if_neg (fun q => a1 (by rw [q]; rfl)), if_neg (fun q => a2 (by rw [q]; rfl)), if_neg (fun q => a3 (by rw [q]; rfl))] at hd
    split at hd
    · assumption
    · exact absurd hd (by simp)
  | none =>
    have hp' : ∀ M', rRep s M' → mW M' (o ++ (if 32 ≤ c ∧ c ≤ 126 then [c] else [92, 117, 48, 48, hexS (c / 16), hexS (c % 16)])) → post M' := by rw [hd] at hp; exact hp
    have n9 : c ≠ 9 := fun q => by subst q; exact absurd hd (by decide)
    have n10 : c ≠ 10 := fun q => by subst q; exact absurd hd (by decide)
    have n13 : c ≠ 13 := fun q => by subst q; exact absurd hd (by decide)
    have n92 : c ≠ 92 := fun q => by subst q; exact absurd hd (by decide)
    have n61 : c ≠ 61 := fun q => by subst q; exact absurd hd (by decide)
    have n58 : c ≠ 58 := fun q => by subst q; exact absurd hd (by decide)
    have n35 : c ≠ 35 := fun q => by subst q; exact absurd hd (by decide)
    have n33 : c ≠ 33 := fun q => by subst q; exact absurd hd (by decide)
    have n32 : c ≠ 32 := fun q => by subst q; exact absurd hd (by decide)
    rw [w_writesSign]
    refine cF (ne 9 (by omega) n9) (cF (ne 10 (by omega) n10) (dF (ne 13 (by omega) n13) ?_))
    rw [w_writesSign_23]
    refine cF (ne 92 (by omega) n92) (cF (ne 61 (by omega) n61) (cF (ne 58 (by omega) n58) (cF (ne 35 (by omega) n35) (cF (ne 33 (by omega) n33) (dF (ne 32 (by omega) n32) ?_)))))
    rw [w_writesSign_65]
    refine dT rfl (cT rfl ⟨fun z => ?_, fun z => ⟨fun z2 => ?_, fun z2 => ?_⟩⟩)
    · have := (nI_ltI (b := 32) (by omega) (by decide)).mp z
      rw [if_neg (by omega)] at hp'
      exact s_ws133 hc hR hW hl hp'
    · have h1 : ¬ c < 32 := fun q => z (nI_lt (b := 32) q (by decide))
      have h2 := (nI_leI (b := 126) (by omega) (by decide)).mp z2
      rw [if_pos (by omega)] at hp'
      exact s_writes rfl hR hW (by omega) hp'
    · have h2 : ¬ c ≤ 126 := fun q => z2 (nI_le (b := 126) q (by decide))
      rw [if_neg (by omega)] at hp'
      exact s_ws133 hc hR hW hl hp'
theorem s_writesText {post : RM → Prop} {s : AS} {M : RM} {o t : Tx} {a : Nat} (ha : a + 301 ≤ 321140) (hT : ∀ M', rRep s M' → mT M' a t) (hR : rRep s M) (hW : mW M o) (hl : o.length + 6 * 301 < 2 ^ 30) (hp : ∀ M', rRep s M' → mW M' (o ++ escT t) → post M') : w_writesText post (nI a) M := by
  have ht := (hT M hR).1
  have hl3 := ht.1
  rw [w_writesText]
  refine ⟨t.length + 1, ?_⟩
  have key : ∀ n j M1, j + n = t.length → rRep s M1 → mW M1 (o ++ escT (t.take j)) → w_writesText_2 post (n + 1) (nI a) (nI (j + 1)) M1 := by
    intro n
    induction n with
    | zero =>
      intro j M1 hj h1 w1
      rw [w_writesText_2, nI_clamp (n := a) (by omega), (hT M1 h1).2.1]
      refine ⟨vp_in_nI (by omega) (by omega), fun _ => hp M1 h1 ?_, fun z => absurd (nI_lt (by omega) (by omega)) z⟩
      rw [List.take_of_length_le (by omega)] at w1; exact w1
    | succ n ih =>
      intro j M1 hj h1 w1
      have e1 : nI a + nI (j + 1) = nI (a + 1 + j) := by rw [nI_add]; congr 1; omega
      have hjl : j < t.length := by omega
      rw [w_writesText_2, nI_clamp (n := a) (by omega), (hT M1 h1).2.1, e1, nI_clamp (n := a + 1 + j) (by omega), (hT M1 h1).2.2 j hjl]
      have hb := escT_len (t.take j)
      have hb2 : (t.take j).length ≤ 300 := by rw [List.length_take]; omega
      refine ⟨vp_in_nI (by omega) (by omega), fun z => absurd z (nI_nlt (by omega) (by omega)), fun _ => ⟨vp_in_nI (by omega) (by omega), ?_⟩⟩
      refine s_writesSign (getD_lt256 ht.2 hjl) h1 w1 (by rw [List.length_append]; omega) (fun M5 h5 w5 v ev => ?_)
      rw [ev, nI_1]
      refine ih (j + 1) M5 (by omega) h5 ?_
      have e2 : t.take (j + 1) = t.take j ++ [t.getD j 0] := by
        rw [List.take_add_one, List.getD_eq_getElem?_getD, List.getElem?_eq_getElem hjl]; rfl
      rw [e2, escT_app, ← List.append_assoc]
      have e3 : escT [t.getD j 0] = escF (t.getD j 0) := by simp [escT]
      rw [e3]; exact w5
  exact key t.length 0 M (by omega) hR (by rw [List.take_zero]; show mW M (o ++ []); rw [List.append_nil]; exact hW)
theorem wrL_snoc : ∀ (L : Ly) (p : Tx × Tx), wrL (L ++ [p]) = wrL L ++ wrE p
  | [], p => by simp [wrL]
  | q :: L, p => by
    show wrE q ++ wrL (L ++ [p]) = wrE q ++ wrL L ++ wrE p
    rw [wrL_snoc L p, List.append_assoc]
theorem r_write {post : Int32 → RM → Prop} {s : AS} {M : RM} (x : Int32) (hR : rRep s M) (hp : ∀ M', rRep (op_write x s).2 M' → post (op_write x s).1 M') : w_write post x M := by
  rw [w_write]
  refine s_isLayer x (fun e => ⟨fun q => absurd rfl q, fun _ => ?_⟩) (fun l hl hx e => ⟨fun _ M3 e3 => ⟨(aLy s l).length + 1, ?_⟩, fun q => absurd q (by decide)⟩)
  · simp only [op_write, e] at hp; exact hp M hR
  subst hx
  simp only [op_write, e] at hp
  have hL0 := hR.2.2.1 l hl
  have h40 := hL0.1
  have hok := wrL_ok _ hL0.lat
  have key : ∀ n j M1, j + n = (aLy s l).length → rRep s M1 → mW M1 (wrL ((aLy s l).take j)) → w_write_16 post (n + 1) (nI l) (nI j) M1 := by
    intro n
    induction n with
    | zero =>
      intro j M1 hj h1 w1
      have hL := h1.2.2.1 l hl
      rw [List.take_of_length_le (by omega)] at w1
      rw [w_write_16, nI_clamp (n := l) (by omega), hL.2.1, w1.1]
      refine ⟨vp_in_nI (by omega) (by omega), fun _ => ⟨fun z => ?_, fun z => ?_⟩, fun z => absurd (nI_le (by omega) (by omega)) z⟩
      · have h3 := (nI_leI (b := 300) (by omega) (by decide)).mp z
        rw [if_pos h3] at hp
        refine ⟨(wrL (aLy s l)).length + 1, ?_⟩
        have k2 : ∀ m i M2, i + m = (wrL (aLy s l)).length → (∀ k z, k ≠ 4 → M2 k z = M1 k z) → (∀ z, z < i → M2 4 z = nI ((wrL (aLy s l)).getD z 0)) → w_write_77 post (m + 1) (nI i) M2 := by
          intro m
          induction m with
          | zero =>
            intro i M2 hi hF h4
            have e01 : M2 0 1 = nI (wrL (aLy s l)).length := by rw [hF 0 1 (by decide)]; exact w1.1
            rw [w_write_77, e01]
            refine ⟨fun _ M17 e17 => ?_, fun z => absurd (nI_le (by omega) (by omega)) z⟩
            have e00 : M17 0 0 = nI (wrL (aLy s l)).length := by rw [e17, upR_at]
            rw [e00]
            refine hp M17 (h1.tape (fun k z hk h0 => ?_) ⟨h3, hok.1, e00, fun z hz => ?_⟩)
            · rw [e17]
              by_cases q : k = 0
              · subst q
                have hz := h0 rfl
                rw [upR_0, if_neg (by omega)]; exact hF 0 z hk
              · rw [upR_k _ _ _ q]; exact hF k z hk
            · rw [e17, upR_k _ _ _ (by decide)]; exact h4 z (by omega)
          | succ m ih2 =>
            intro i M2 hi hF h4
            have e01 : M2 0 1 = nI (wrL (aLy s l)).length := by rw [hF 0 1 (by decide)]; exact w1.1
            rw [w_write_77, e01, nI_clamp (n := i) (by omega)]
            refine ⟨fun z => absurd z (nI_ge (by omega) (by omega)), fun _ => ⟨vp_in_nI (by omega) (by omega), vp_in_nI (by omega) (by omega), fun M20 e20 v ev => ?_⟩⟩
            rw [ev, nI_1]
            refine ih2 (i + 1) M20 (by omega) (fun k z hk => by rw [e20, upR_k _ _ _ hk]; exact hF k z hk) (fun z hz => ?_)
            rw [e20, upR_4]
            by_cases q : z = i
            · subst q; rw [if_pos rfl, hF 5 z (by decide)]; exact w1.2 z (by omega) (by omega)
            · rw [if_neg q]; exact h4 z (by omega)
        exact k2 _ 0 M1 (by omega) (fun _ _ _ => rfl) (fun z h => absurd h (by omega))
      · rw [if_neg (fun q => z (nI_le (b := 300) q (by decide)))] at hp
        exact hp M1 h1
    | succ n ih =>
      intro j M1 hj h1 w1
      have hL := h1.2.2.1 l hl
      have hjl : j < (aLy s l).length := by omega
      have be := eA_b (l := l) (e := j) (by omega) (by omega)
      have hlen : (wrL ((aLy s l).take j)).length ≤ 3602 * 40 := by
        have := (wrL_ok ((aLy s l).take j) (fun p hp => hL0.lat p (List.mem_of_mem_take hp))).2
        have h2 : ((aLy s l).take j).length ≤ 40 := by rw [List.length_take]; omega
        have := Nat.mul_le_mul_left 3602 h2
        omega
      have hE : ∀ M', rRep s M' → mE M' l j ((aLy s l).getD j ([], [])) := fun M' h' => (h'.2.2.1 l hl).e hjl
      have b1 := escT_len ((aLy s l).getD j ([], [])).1
      have b2 := escT_len ((aLy s l).getD j ([], [])).2
      have c1 := (hE M1 h1).1.1.1
      have c2 := (hE M1 h1).2.1.1
      rw [w_write_16, nI_clamp (n := l) (by omega), hL.2.1]
      refine ⟨vp_in_nI (by omega) (by omega), fun z => absurd z (nI_ge (by omega) (by omega)), fun _ => q_ent ?_⟩
      refine s_writesText (by omega) (fun M' h' => (hE M' h').1) h1 w1 (by omega) (fun M10 h10 w10 => ?_)
      refine s_writes (c := 61) rfl h10 w10 (by rw [List.length_append]; omega) (fun M11 h11 w11 => q_val ?_)
      refine s_writesText (by omega) (fun M' h' => (hE M' h').2) h11 w11 (by simp only [List.length_append, List.length_cons, List.length_nil]; omega) (fun M13 h13 w13 => ?_)
      refine s_writes (c := 10) rfl h13 w13 (by simp only [List.length_append, List.length_cons, List.length_nil]; omega) (fun M14 h14 w14 v ev => ?_)
      rw [ev, nI_1]
      refine ih (j + 1) M14 (by omega) h14 ?_
      have e2 : (aLy s l).take (j + 1) = (aLy s l).take j ++ [(aLy s l).getD j ([], [])] := by
        rw [List.take_add_one, List.getD_eq_getElem?_getD, List.getElem?_eq_getElem hjl]; rfl
      rw [e2, wrL_snoc]
      have e3 : wrL ((aLy s l).take j) ++ wrE ((aLy s l).getD j ([], [])) = wrL ((aLy s l).take j) ++ escT ((aLy s l).getD j ([], [])).1 ++ [61] ++ escT ((aLy s l).getD j ([], [])).2 ++ [10] := by
        unfold wrE; simp only [List.append_assoc]
      rw [e3]; exact w14
  refine key _ 0 M3 (by omega) (hR.still (by rw [e3]; exact mA.rf.up (by unfold scr; omega))) ⟨by rw [e3, upR_at]; rfl, fun j hj => absurd hj (by simp [wrL])⟩
