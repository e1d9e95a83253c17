/-! the calls on tokenizers -/
def runL (P : Nat → Bool) : Tx → Nat
  | [] => 0
  | c :: t => if P c then runL P t + 1 else 0
theorem runL_cons (P : Nat → Bool) (c : Nat) (t : Tx) : runL P (c :: t) = if P c then runL P t + 1 else 0 := rfl
theorem runL_le (P : Nat → Bool) : ∀ t : Tx, runL P t ≤ t.length
  | [] => Nat.le_refl 0
  | c :: t => by
    unfold runL
    split
    · have := runL_le P t; simp only [List.length_cons]; omega
    · omega
def begF (t d : Tx) (r : Bool) (p : Nat) : Nat := if r then p else p + runL (fun c => decide (c ∈ d)) (t.drop p)
def endF (t d : Tx) (p : Nat) : Nat := if t.getD p 0 ∈ d then p + 1 else p + runL (fun c => decide (c ∉ d)) (t.drop p)
def cntF (t d : Tx) (r : Bool) : Nat → Nat → Nat
  | 0, _ => 0
  | n + 1, p => if t.length ≤ p then 0 else cntF t d r n (begF t d r (endF t d p)) + 1
theorem begF_le {t d : Tx} {r : Bool} {p : Nat} (h : p ≤ t.length) : p ≤ begF t d r p ∧ begF t d r p ≤ t.length := by
  unfold begF
  split
  · omega
  · have := runL_le (fun c => decide (c ∈ d)) (t.drop p)
    rw [List.length_drop] at this; omega
theorem endF_le {t d : Tx} {p : Nat} (h : p < t.length) : p < endF t d p ∧ endF t d p ≤ t.length := by
  unfold endF
  split
  · omega
  · rename_i hn
    have := runL_le (fun c => decide (c ∉ d)) (t.drop p)
    rw [List.length_drop] at this
    refine ⟨?_, by omega⟩
    rw [drop_cons h]
    show p < p + runL _ (t.getD p 0 :: _)
    unfold runL
    rw [if_pos (by simpa using hn)]; omega
theorem begF_ge {t d : Tx} {p : Nat} (h : t.length ≤ p) : begF t d false p = p := by
  unfold begF; rw [drop_nil h]; rfl
theorem begF_st {t d : Tx} {p : Nat} (h : p < t.length) : begF t d false p = if t.getD p 0 ∈ d then begF t d false (p + 1) else p := by
  show p + runL (fun c => decide (c ∈ d)) (t.drop p) = if t.getD p 0 ∈ d then p + 1 + runL (fun c => decide (c ∈ d)) (t.drop (p + 1)) else p
  rw [drop_cons h, runL_cons]
  by_cases q : t.getD p 0 ∈ d
  · rw [if_pos (decide_eq_true q), if_pos q]; omega
  · rw [if_neg (by rw [decide_eq_false q]; decide), if_neg q]; rfl
def enF (t d : Tx) (p : Nat) : Nat := p + runL (fun c => decide (c ∉ d)) (t.drop p)
theorem enF_ge {t d : Tx} {p : Nat} (h : t.length ≤ p) : enF t d p = p := by
  unfold enF; rw [drop_nil h]; rfl
theorem enF_st {t d : Tx} {p : Nat} (h : p < t.length) : enF t d p = if t.getD p 0 ∈ d then p else enF t d (p + 1) := by
  show p + runL (fun c => decide (c ∉ d)) (t.drop p) = if t.getD p 0 ∈ d then p else p + 1 + runL (fun c => decide (c ∉ d)) (t.drop (p + 1))
  rw [drop_cons h, runL_cons]
  by_cases q : t.getD p 0 ∈ d
  · rw [if_neg (by rw [decide_eq_false (fun z => z q)]; decide), if_pos q]; rfl
  · rw [if_pos (decide_eq_true q), if_neg q]; omega
def mDel (M : RM) (i : Nat) (d : Tx) : Prop := (∀ c ∈ d, c < 256) ∧ ∀ c, c < 256 → M 1 (7540 + 256 * i + c) = if c ∈ d then 1 else 0
theorem e_del (i c : Nat) : (7540 : Int32) + 256 * nI i + nI c = nI (7540 + 256 * i + c) := by
  rw [show (256 : Int32) * nI i = nI (256 * i) from pk_mul 256 i, show (7540 : Int32) = nI 7540 from rfl, nI_add, nI_add]
theorem q_tt {post : Int32 → Prop} {i : Nat} (h : post (nI (6930 + 301 * i))) : q_tokenText post (nI i) := by
  rw [q_tokenText, show (301 : Int32) * nI i = nI (301 * i) from pk_mul 301 i, show (6930 : Int32) = nI 6930 from rfl, nI_add]
  exact h
theorem s_isTokenizer {post : Int32 → Prop} (x : Int32) (h0 : ixO x 2 = none → post 0) (h1 : ∀ i, i < 2 → x = nI i → ixO x 2 = some i → post 1) : q_isTokenizer post x := by
  rw [q_isTokenizer]
  rcases ixO_cases x (n := 2) (by omega) with ⟨e, h⟩ | ⟨i, hi, rfl, e⟩
  · have n0 : ¬ x = 0 := by rintro rfl; exact absurd h (by decide)
    have n1 : ¬ x = 1 := by rintro rfl; exact absurd h (by decide)
    exact ⟨fun z => absurd z n0, fun _ => ⟨fun _ => h0 e, fun z => absurd z n1⟩⟩
  · refine ⟨fun _ => h1 i hi rfl e, fun z => ⟨fun z1 => ?_, fun _ => h1 i hi rfl e⟩⟩
    have : i = 0 ∨ i = 1 := by omega
    rcases this with rfl | rfl
    · exact absurd rfl z
    · exact absurd rfl z1
theorem s_isDelimiter {post : Int32 → RM → Prop} {M : RM} {i c : Nat} {d : Tx} (hd : mDel M i d) (hi : i < 2) (hc : c < 256) (h0 : c ∉ d → post 0 M) (h1 : c ∈ d → post 1 M) : w_isDelimiter post (nI i) (nI c) M := by
  rw [w_isDelimiter, e_del, nI_clamp (n := 7540 + 256 * i + c) (by omega), hd.2 c hc]
  refine ⟨vp_in_nI (by omega) (by omega), fun z => h0 fun q => z (if_pos q), fun z => h1 ?_⟩
  by_cases q : c ∈ d
  · exact q
  · rw [if_neg q] at z; exact absurd z (by decide)
theorem s_signOf {post : Int32 → RM → Prop} {M : RM} {i p : Nat} {t : Tx} (hT : mT M (6930 + 301 * i) t) (hi : i < 2) (hp : p < t.length) (h : post (nI (t.getD p 0)) M) : w_signOf post (nI i) (nI p) M := by
  have hl := hT.1.1
  have e1 : nI (6930 + 301 * i) + 1 + nI p = nI (6930 + 301 * i + 1 + p) := by rw [nI_1, nI_add]
  rw [w_signOf]
  refine q_tt ?_
  rw [e1, nI_clamp (n := 6930 + 301 * i + 1 + p) (by omega), hT.2.2 p hp]
  exact ⟨vp_in_nI (by omega) (by omega), h⟩
theorem s_beginOf_2 {post : Int32 → RM → Prop} {M : RM} {i : Nat} {t d : Tx} {r : Bool} (hT : mT M (6930 + 301 * i) t) (hd : mDel M i d) (hi : i < 2) (h7 : M 7 i = if r then 1 else 0) : ∀ n p, p ≤ t.length → t.length < p + n → post (nI (begF t d r p)) M → w_beginOf_2 post n (nI i) (nI p) M := by
  have hl := hT.1.1
  intro n
  induction n with
  | zero => intro p h1 h2; omega
  | succ n ih =>
    intro p h1 h2 h
    rw [w_beginOf_2, nI_clamp (n := i) (by omega), h7]
    cases r with
    | true => exact ⟨vp_in_nI hi (by omega), fun _ => h, fun z => absurd z (by decide)⟩
    | false =>
      refine ⟨vp_in_nI hi (by omega), fun z => absurd rfl z, fun _ => q_tt ⟨vp_in_nI (by omega) (by omega), ?_⟩⟩
      rw [nI_clamp (n := 6930 + 301 * i) (by omega), hT.2.1]
      refine ⟨fun z => ?_, fun z => ?_⟩
      · have := (nI_leI (by omega) (by omega)).mp z
        rw [begF_ge this] at h; exact h
      · have hlt : p < t.length := by
          rcases Nat.lt_or_ge p t.length with q | q
          · exact q
          · exact absurd (nI_le q (by omega)) z
        rw [begF_st hlt] at h
        refine s_signOf hT hi hlt (s_isDelimiter hd hi (getD_lt256 hT.1.2 hlt) (fun q => ⟨fun _ => ?_, fun z => absurd rfl z⟩) (fun q => ⟨fun z => absurd z (by decide), fun _ v e => ?_⟩))
        · rw [if_neg q] at h; exact h
        · rw [if_pos q] at h
          rw [e, nI_1]
          exact ih (p + 1) (by omega) (by omega) h
theorem s_beginOf {post : Int32 → RM → Prop} {M : RM} {i p : Nat} {t d : Tx} {r : Bool} (hT : mT M (6930 + 301 * i) t) (hd : mDel M i d) (hi : i < 2) (h7 : M 7 i = if r then 1 else 0) (hp : p ≤ t.length) (h : post (nI (begF t d r p)) M) : w_beginOf post (nI i) (nI p) M := by
  rw [w_beginOf]
  exact ⟨t.length + 1, s_beginOf_2 hT hd hi h7 _ p hp (by omega) h⟩
theorem s_endOf_20 {post : Int32 → RM → Prop} {M : RM} {i : Nat} {t d : Tx} (hT : mT M (6930 + 301 * i) t) (hd : mDel M i d) (hi : i < 2) : ∀ n p, p ≤ t.length → t.length < p + n → post (nI (enF t d p)) M → w_endOf_20 post n (nI i) (nI p) M := by
  have hl := hT.1.1
  intro n
  induction n with
  | zero => intro p h1 h2; omega
  | succ n ih =>
    intro p h1 h2 h
    rw [w_endOf_20]
    refine q_tt ⟨vp_in_nI (by omega) (by omega), ?_⟩
    rw [nI_clamp (n := 6930 + 301 * i) (by omega), hT.2.1]
    refine ⟨fun z => ?_, fun z => ?_⟩
    · have := (nI_leI (by omega) (by omega)).mp z
      rw [enF_ge this] at h; exact h
    · have hlt : p < t.length := by
        rcases Nat.lt_or_ge p t.length with q | q
        · exact q
        · exact absurd (nI_le q (by omega)) z
      rw [enF_st hlt] at h
      refine s_signOf hT hi hlt (s_isDelimiter hd hi (getD_lt256 hT.1.2 hlt) (fun q => ⟨fun z => absurd rfl z, fun _ v e => ?_⟩) (fun q => ⟨fun _ => ?_, fun z => absurd z (by decide)⟩))
      · rw [if_neg q] at h
        rw [e, nI_1]
        exact ih (p + 1) (by omega) (by omega) h
      · rw [if_pos q] at h; exact h
theorem s_endOf {post : Int32 → RM → Prop} {M : RM} {i p : Nat} {t d : Tx} (hT : mT M (6930 + 301 * i) t) (hd : mDel M i d) (hi : i < 2) (hp : p < t.length) (h : post (nI (endF t d p)) M) : w_endOf post (nI i) (nI p) M := by
  have hl := hT.1.1
  rw [w_endOf]
  unfold endF at h
  refine s_signOf hT hi hp (s_isDelimiter hd hi (getD_lt256 hT.1.2 hp) (fun q => ⟨fun _ => ⟨t.length + 1, ?_⟩, fun z => absurd rfl z⟩) (fun q => ⟨fun z => absurd z (by decide), fun _ => ?_⟩))
  · rw [if_neg q] at h
    exact s_endOf_20 hT hd hi _ p (by omega) (by omega) h
  · rw [if_pos q] at h
    rw [nI_1]; exact h
theorem s_counted_14 {post : Int32 → RM → Prop} {M : RM} {i : Nat} {t d : Tx} {r : Bool} (hT : mT M (6930 + 301 * i) t) (hd : mDel M i d) (hi : i < 2) (h7 : M 7 i = if r then 1 else 0) : ∀ n x p, p ≤ t.length → t.length < p + n → post (nI (x + cntF t d r n p)) M → w_counted_14 post n (nI i) (nI x) (nI p) M := by
  have hl := hT.1.1
  intro n
  induction n with
  | zero => intro x p h1 h2; omega
  | succ n ih =>
    intro x p h1 h2 h
    rw [w_counted_14]
    refine q_tt ⟨vp_in_nI (by omega) (by omega), ?_⟩
    rw [nI_clamp (n := 6930 + 301 * i) (by omega), hT.2.1]
    refine ⟨fun z => ?_, fun z => ?_⟩
    · have := (nI_leI (by omega) (by omega)).mp z
      rw [cntF, if_pos this] at h; exact h
    · have hlt : p < t.length := by
        rcases Nat.lt_or_ge p t.length with q | q
        · exact q
        · exact absurd (nI_le q (by omega)) z
      intro v e
      have b1 := endF_le (d := d) hlt
      have b2 := begF_le (d := d) (r := r) b1.2
      refine s_endOf hT hd hi hlt (s_beginOf hT hd hi h7 b1.2 ?_)
      rw [e, nI_1]
      refine ih _ _ b2.2 (by omega) ?_
      rw [cntF, if_neg (by omega)] at h
      rw [show x + 1 + cntF t d r n (begF t d r (endF t d p)) = x + (cntF t d r n (begF t d r (endF t d p)) + 1) by omega]
      exact h
def cntA (t d : Tx) (r : Bool) (p : Nat) : Nat := cntF t d r (t.length + 1) (begF t d r p)
theorem s_counted {post : Int32 → RM → Prop} {M : RM} {i p : Nat} {t d : Tx} {r : Bool} (hT : mT M (6930 + 301 * i) t) (hd : mDel M i d) (hi : i < 2) (h7 : M 7 i = if r then 1 else 0) (h8 : M 8 i = nI p) (hp : p ≤ t.length) (h : post (nI (cntA t d r p)) M) : w_counted post (nI i) M := by
  have b := begF_le (d := d) (r := r) hp
  rw [w_counted, nI_clamp (n := i) (by omega), h8]
  refine ⟨vp_in_nI hi (by omega), s_beginOf hT hd hi h7 hp ⟨t.length + 1, ?_⟩⟩
  refine s_counted_14 hT hd hi h7 _ 0 _ b.2 (by omega) ?_
  rw [Nat.zero_add]; exact h
/-! its delimiters are laid -/
theorem s_layDelimiters_34 {post : RM → Prop} {M0 : RM} {a i : Nat} {d : Tx} (ha : a + 301 ≤ 321140) (hi : i < 2) (hdis : a + 301 ≤ 7540 + 256 * i ∨ 7540 + 256 * i + 256 ≤ a)
    (hp : ∀ M', mDel M' i d → mF M0 M' (7540 + 256 * i) (7540 + 256 * i + 256) → post M') : ∀ n j M, j + n = d.length → mT M a d → (∀ c, c < 256 → M 1 (7540 + 256 * i + c) = if c ∈ d.take j then 1 else 0) → mF M0 M (7540 + 256 * i) (7540 + 256 * i + 256) → w_layDelimiters_34 post (n + 1) (nI i) (nI a) (nI (j + 1)) M := by
  intro n
  induction n with
  | zero =>
    intro j M hj hT hc hF
    have hl := hT.1.1
    rw [w_layDelimiters_34, nI_clamp (n := a) (by omega), hT.2.1]
    refine ⟨vp_in_nI (by omega) (by omega), fun _ => hp M ⟨hT.1.2, fun c q => ?_⟩ hF, fun z => absurd (nI_lt (by omega) (by omega)) z⟩
    rw [hc c q, List.take_of_length_le (by omega)]
  | succ n ih =>
    intro j M hj hT hc hF
    have hl := hT.1.1
    have hjl : j < d.length := by omega
    have h256 := getD_lt256 hT.1.2 hjl
    have e1 : nI a + nI (j + 1) = nI (a + 1 + j) := by rw [nI_add]; congr 1; omega
    rw [w_layDelimiters_34, nI_clamp (n := a) (by omega), hT.2.1, e1, nI_clamp (n := a + 1 + j) (by omega), hT.2.2 j hjl, e_del, nI_clamp (n := 7540 + 256 * i + d.getD j 0) (by omega)]
    refine ⟨vp_in_nI (by omega) (by omega), fun z => absurd z (nI_nlt (by omega) (by omega)), fun _ => ⟨vp_in_nI (by omega) (by omega), vp_in_nI (by omega) (by omega), fun M' e v ev => ?_⟩⟩
    have f1 : mF M M' (7540 + 256 * i) (7540 + 256 * i + 256) := by rw [e]; exact mF.up _ mF.rf (by omega) (by omega)
    rw [ev, nI_1]
    refine ih (j + 1) M' (by omega) (hT.frame f1 (by omega)) (fun c q => ?_) (hF.tr f1)
    have ht : d.take (j + 1) = d.take j ++ [d.getD j 0] := by
      rw [List.take_add_one, List.getD_eq_getElem?_getD, List.getElem?_eq_getElem hjl]; rfl
    rw [e, upR_1, ht]
    by_cases qc : c = d.getD j 0
    · rw [if_pos (by omega), if_pos (by rw [qc]; simp)]
    · rw [if_neg (by omega), hc c q]
      by_cases qm : c ∈ d.take j
      · rw [if_pos qm, if_pos (List.mem_append_left _ qm)]
      · rw [if_neg qm, if_neg (by
          intro z
          rcases List.mem_append.mp z with z | z
          · exact qm z
          · exact qc (List.mem_singleton.mp z))]
theorem s_layDelimiters_2 {post : RM → Prop} {M0 : RM} {a i : Nat} {d : Tx} (ha : a + 301 ≤ 321140) (hi : i < 2) (hdis : a + 301 ≤ 7540 + 256 * i ∨ 7540 + 256 * i + 256 ≤ a)
    (hp : ∀ M', mDel M' i d → mF M0 M' (7540 + 256 * i) (7540 + 256 * i + 256) → post M') : ∀ n x M, x + n = 256 → mT M a d → (∀ c, c < x → M 1 (7540 + 256 * i + c) = 0) → mF M0 M (7540 + 256 * i) (7540 + 256 * i + 256) → w_layDelimiters_2 post (n + 1) (nI i) (nI a) (nI x) M := by
  intro n
  induction n with
  | zero =>
    intro x M hx hT hc hF
    rw [w_layDelimiters_2]
    refine ⟨fun _ => ⟨d.length + 1, ?_⟩, fun z => absurd (nI_le (a := 256) (b := x) (by omega) (by omega)) z⟩
    exact s_layDelimiters_34 ha hi hdis hp d.length 0 M (by omega) hT (fun c q => by rw [hc c (by omega)]; simp) hF
  | succ n ih =>
    intro x M hx hT hc hF
    rw [w_layDelimiters_2, e_del, nI_clamp (n := 7540 + 256 * i + x) (by omega)]
    refine ⟨fun z => absurd z (nI_ge (b := 256) (by omega) (by decide)), fun _ => ⟨vp_in_nI (by omega) (by omega), fun M' e v ev => ?_⟩⟩
    have f1 : mF M M' (7540 + 256 * i) (7540 + 256 * i + 256) := by rw [e]; exact mF.up _ mF.rf (by omega) (by omega)
    rw [ev, nI_1]
    refine ih (x + 1) M' (by omega) (hT.frame f1 (by omega)) (fun c q => ?_) (hF.tr f1)
    rw [e, upR_1]
    split
    · rfl
    · exact hc c (by omega)
theorem s_layDelimiters {post : RM → Prop} {M : RM} {a i : Nat} {d : Tx} (hT : mT M a d) (ha : a + 301 ≤ 321140) (hi : i < 2) (hdis : a + 301 ≤ 7540 + 256 * i ∨ 7540 + 256 * i + 256 ≤ a)
    (hp : ∀ M', mDel M' i d → mF M M' (7540 + 256 * i) (7540 + 256 * i + 256) → post M') : w_layDelimiters post (nI i) (nI a) M := by
  rw [w_layDelimiters]
  exact ⟨257, s_layDelimiters_2 ha hi hdis hp 256 0 M (by omega) hT (fun c q => absurd q (by omega)) mF.rf⟩
/-- the places of one tokenizer -/
def tkO (i k j : Nat) : Prop := ((k = 6 ∨ k = 7 ∨ k = 8) ∧ j = i) ∨ (k = 1 ∧ ((6930 + 301 * i ≤ j ∧ j < 6930 + 301 * i + 301) ∨ (7540 + 256 * i ≤ j ∧ j < 7540 + 256 * i + 256)))
theorem rRep.tok {s : AS} {M M' : RM} {i : Nat} {v : Option Tk} (h : rRep s M) (hi : i < 2) (hF : ∀ k j, ¬ tkO i k j → M' k j = M k j) (hv : mTok M' i v) : rRep (sTk s i v) M' := by
  obtain ⟨h1, h2, h3, h4, h5, h6, h7, h8⟩ := h
  have n1 : ∀ j, (j < 6930 ∨ 8052 ≤ j) → M' 1 j = M 1 j := fun j q => hF 1 j (by unfold tkO; omega)
  have n4 : ∀ x z : Nat, 8100 + 24080 * (4 * (x + 1)) ≤ z → M' 1 z = M 1 z := fun x z q => n1 z (Or.inr (Nat.le_trans (Nat.le_trans (by decide) (Nat.le_add_right 8100 _)) q))
  have nk : ∀ k j, k ≠ 1 → k ≠ 6 → k ≠ 7 → k ≠ 8 → M' k j = M k j := fun k j q1 q2 q3 q4 => hF k j (by unfold tkO; omega)
  refine ⟨fun j hj => (h1 j hj).congr fun z q1 q2 => n1 z (by omega), h2.congr (nk 0 0 (by omega) (by omega) (by omega) (by omega)) fun j => nk 4 j (by omega) (by omega) (by omega) (by omega), fun j hj => (h3 j hj).congr (nk 2 j (by omega) (by omega) (by omega) (by omega)) fun z q1 q2 => n1 z (by omega), fun j hj => (h4 j hj).congr (nk 3 j (by omega) (by omega) (by omega) (by omega)) (fun l hl => nk 2 _ (by omega) (by omega) (by omega) (by omega)) fun z q1 q2 => n4 j z q1, fun j hj => ?_, fun j hj => (h6 j hj).congr (fun k q => nk k j (by omega) (by omega) (by omega) (by omega)) fun z q1 q2 => n1 z (by omega), by rw [nk 0 2 (by omega) (by omega) (by omega) (by omega)]; exact h7, by rw [nk 0 3 (by omega) (by omega) (by omega) (by omega)]; exact h8⟩
  show mTok M' j (va_up (aTk s) i v j)
  by_cases hji : j = i
  · subst hji; rw [va_up_self]; exact hv
  · rw [va_up_ne _ _ hji]
    exact (h5 j hj).congr (fun k q => hF k j (by unfold tkO; omega)) (fun z q1 q2 => hF 1 z (by unfold tkO; omega)) fun z q1 q2 => hF 1 z (by unfold tkO; omega)
