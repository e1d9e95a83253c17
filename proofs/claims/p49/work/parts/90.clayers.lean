/-! THE CLASS: a layer is looked at -/
theorem c_inN {post : Int32 → Prop} {e n : Nat} (he : e < 2 ^ 31) (hn : n < 2 ^ 31) (h1 : e < n → post 1) (h0 : n ≤ e → post 0) : q_X9_isWithin post (nI e) (nI n) := by
  rw [q_X9_isWithin]
  refine ⟨fun z => absurd z (nI_pos he), fun _ => ⟨fun z => h0 ((nI_leI hn he).mp z), fun z => h1 ?_⟩⟩
  rcases Nat.lt_or_ge e n with q | q
  · exact q
  · exact absurd (nI_le q he) z
section CREP
variable {u : hU} {d : Nat} {mm : List Nat} {ad : Nat → Nat} {lv : Nat → Prop} {s : AS} {S : hS} {j : Nat} {L : Ly}
theorem layC.o (h : layC u mm S ad lv j L) (hw : wf mm S ad lv) : rO S (ad (20 + j)) 4 [va_rf (some (ad (40 + j))), .int (nI L.length)] := ⟨hw.at h.1, h.2.2.2.1⟩
theorem layC.q (h : layC u mm S ad lv j L) (hw : wf mm S ad lv) : ∃ g, rQ S (u.2.1 3) (ad (40 + j)) 40 g ∧ ∀ e, e < L.length → ∃ a, g e = some a ∧ entC u mm S a (L.getD e ([], [])) := by
  obtain ⟨h1, h2, h3, h4, g, h5, h6⟩ := h
  exact ⟨g, ⟨hw.at h2, h5⟩, h6⟩
theorem c_entryCount {post : Int32 → Prop} (h : layC u mm S ad lv j L) (hw : wf mm S ad lv) (hp : post (nI L.length)) : w_X3_entryCount u post (ad (20 + j)) S := by
  rw [w_X3_entryCount]
  exact ⟨_, (h.o hw).i rfl, hp⟩
theorem c_entryAt {post : Option Nat → Prop} {e : Nat} (h : layC u mm S ad lv j L) (hw : wf mm S ad lv) (he : e < 2 ^ 31) (h0 : L.length ≤ e → post none) (h1 : ∀ a, e < L.length → entC u mm S a (L.getD e ([], [])) → post (some a)) : w_X3_entryAt u post (ad (20 + j)) (nI e) S := by
  have h40 := h.2.2.1
  obtain ⟨g, hq, hg⟩ := h.q hw
  rw [w_X3_entryAt]
  refine ⟨_, (h.o hw).i rfl, c_inN he (by omega) (fun q => ⟨fun z => absurd z (by decide), fun _ => ⟨fun z => ?_, fun _ => ⟨_, (h.o hw).r rfl, _, rfl, 40, g, hq, vp_in_nI (by omega) (by omega), fun o eo => ?_⟩⟩⟩) (fun q => ⟨fun _ => h0 q, fun z => absurd rfl z⟩)⟩
  · have := (nI_leI (a := 40) (by omega) he).mp z
    omega
  · rw [nI_clamp he] at eo
    obtain ⟨a, e1, e2⟩ := hg e q
    rw [eo, e1]; exact h1 a q e2
theorem c_keyAt {post : Option Nat → Prop} {e : Nat} (h : layC u mm S ad lv j L) (hw : wf mm S ad lv) (he : e < 2 ^ 31) (h0 : L.length ≤ e → post none) (h1 : ∀ a, e < L.length → tS u mm S a (L.getD e ([], [])).1 → (L.getD e ([], [])).1.length ≤ 300 → post (some a)) : w_X3_keyAt u post (ad (20 + j)) (nI e) S := by
  rw [w_X3_keyAt]
  refine ⟨⟨_, h.o hw⟩, c_entryAt h hw he (fun q => ⟨fun _ => h0 q, fun a z => absurd z (by simp)⟩) (fun a q hE => ⟨fun z => absurd z (by simp), fun a7 ea => ?_⟩)⟩
  obtain rfl := Option.some.inj ea
  obtain ⟨ka, va, k1, k2, k3, k4, k5⟩ := hE
  exact ⟨some ka, ⟨k1.1, _, k1.2.2, rfl⟩, h1 ka q k2 k3⟩
theorem c_placeFrom {post : Int32 → Prop} {a : Nat} {k : Tx} (h : layC u mm S ad lv j L) (hw : wf mm S ad lv) (hk : tS u mm S a k) (hp : post (nI (placeF L k))) : w_X3_placeFrom u post (ad (20 + j)) (some a) S := by
  have h40 := h.2.2.1
  have key : ∀ (n e : Nat), e + n = L.length → placeF (L.drop e) k + e = placeF L k → w_X3_placeFrom_2 u post (ad (20 + j)) (n + 1) (some a) (nI e) S := by
    intro n
    induction n with
    | zero =>
      intro e he hc
      rw [w_X3_placeFrom_2]
      refine ⟨_, (h.o hw).i rfl, fun _ => ⟨_, (h.o hw).i rfl, ?_⟩, fun z => absurd (nI_le (by omega) (by omega)) z⟩
      rw [List.drop_eq_nil_of_le (by omega), placeF, Nat.zero_add] at hc
      rw [show L.length = e by omega, hc]; exact hp
    | succ n ih =>
      intro e he hc
      have he' : e < L.length := by omega
      rw [w_X3_placeFrom_2]
      refine ⟨_, (h.o hw).i rfl, fun z => absurd z (nI_ge he' (by omega)), fun _ => ⟨⟨_, h.o hw⟩, c_entryAt h hw (by omega) (fun q => absurd q (by omega)) (fun b _ hE => ⟨fun z => absurd z (by simp), fun a13 ea => ?_⟩)⟩⟩
      obtain rfl := Option.some.inj ea
      obtain ⟨ka, va, k1, k2, k3, k4, k5⟩ := hE
      refine ⟨some ka, ⟨k1.1, _, k1.2.2, rfl⟩, st_compare k2 hk (fun r hr => ⟨fun z => ?_, fun z => ?_⟩)⟩
      · have hz : cmpT (L.getD e ([], [])).1 k < 0 := by
          have e0 : (0 : Int32).toInt = 0 := by decide
          have := Int32.lt_iff_toInt_lt.mp z
          omega
        intro v20 e20
        rw [e20, nI_1]
        refine ih (e + 1) (by omega) ?_
        rw [dropL he', placeF, if_pos hz] at hc
        omega
      · have hz : ¬ cmpT (L.getD e ([], [])).1 k < 0 := by
          intro q
          have e0 : (0 : Int32).toInt = 0 := by decide
          exact z (Int32.lt_iff_toInt_lt.mpr (by omega))
        rw [dropL he', placeF, if_neg hz, Nat.zero_add] at hc
        rw [hc]; exact hp
  rw [w_X3_placeFrom]
  exact ⟨L.length + 1, key L.length 0 (by omega) rfl⟩
theorem c_valueOf {post : Option Nat → Prop} {a : Nat} {k : Tx} (hu : uOk u) (h : layC u mm S ad lv j L) (hw : wf mm S ad lv) (hk : tS u mm S a k) (h0 : findF L k = none → post none) (h1 : ∀ p va, findF L k = some p → tS u mm S va (L.getD p ([], [])).2 → (L.getD p ([], [])).2.length ≤ 300 → post (some va)) : w_X3_valueOf u post (ad (20 + j)) (some a) S := by
  have h40 := h.2.2.1
  have hle := placeF_le L k
  rw [w_X3_valueOf]
  refine ⟨⟨_, h.o hw⟩, c_placeFrom h hw hk ⟨⟨_, h.o hw⟩, c_entryAt h hw (by omega) (fun q => ⟨fun _ => h0 ?_, fun b z => absurd z (by simp)⟩) (fun b q hE => ⟨fun z => absurd z (by simp), fun a12 ea => ?_⟩)⟩⟩
  · unfold findF; rw [if_neg (by omega)]
  · obtain rfl := Option.some.inj ea
    obtain ⟨ka, va, k1, k2, k3, k4, k5⟩ := hE
    refine ⟨some ka, ⟨k1.1, _, k1.2.2, rfl⟩, ka, rfl, k2.get.1, st_equals hu k2 hk (fun z => ⟨fun w => absurd w (by decide), fun _ => ⟨some va, ⟨k1.1, _, k1.2.2, rfl⟩, ?_⟩⟩) (fun z => ⟨fun _ => h0 ?_, fun w => absurd rfl w⟩)⟩
    · exact h1 (placeF L k) va (by unfold findF; rw [if_pos ⟨q, z⟩]) k4 k5
    · unfold findF; rw [if_neg (fun w => z w.2)]
theorem c_hasEntriesOf {post : Int32 → Prop} {j' : Nat} {L' : Ly} (hu : uOk u) (h : layC u mm S ad lv j L) (h' : layC u mm S ad lv j' L') (hw : wf mm S ad lv) (h1 : L = L' → post 1) (h0 : L ≠ L' → post 0) : w_X3_hasEntriesOf u post (ad (20 + j)) (some (ad (20 + j'))) S := by
  have h40 := h.2.2.1
  have h40' := h'.2.2.1
  rw [w_X3_hasEntriesOf]
  refine ⟨_, (h.o hw).i rfl, _, rfl, _, (h'.o hw).i rfl, fun z => ⟨L.length + 1, ?_⟩, fun z => h0 (fun q => z (by rw [q]))⟩
  have hl := (nI_eq (by omega) (by omega)).mp z
  have key : ∀ n e, e + n = L.length → (∀ q, q < e → L.getD q ([], []) = L'.getD q ([], [])) → w_X3_hasEntriesOf_15 u post (ad (20 + j)) (n + 1) (ad (20 + j')) (nI e) S := by
    intro n
    induction n with
    | zero =>
      intro e he hq
      rw [w_X3_hasEntriesOf_15]
      exact ⟨_, (h.o hw).i rfl, fun _ => h1 (ly_ext hl (fun q hq' => hq q (by omega))), fun z => absurd (nI_le (by omega) (by omega)) z⟩
    | succ n ih =>
      intro e he hq
      rw [w_X3_hasEntriesOf_15]
      refine ⟨_, (h.o hw).i rfl, fun z => absurd z (nI_ge (by omega) (by omega)), fun _ => ⟨⟨_, h.o hw⟩, c_entryAt h hw (by omega) (fun q => absurd q (by omega)) (fun b q hE => ⟨⟨_, h'.o hw⟩, c_entryAt h' hw (by omega) (fun q => absurd q (by omega)) (fun b' q' hE' => ⟨fun z => absurd z (by simp), fun a22 e22 => ⟨fun z => absurd z (by simp), fun a24 e24 => ?_⟩⟩)⟩)⟩⟩
      obtain rfl := Option.some.inj e22
      obtain rfl := Option.some.inj e24
      obtain ⟨ka, va, k1, k2, k3, k4, k5⟩ := hE
      obtain ⟨ka', va', k1', k2', k3', k4', k5'⟩ := hE'
      refine ⟨some ka, ⟨k1.1, _, k1.2.2, rfl⟩, some ka', ⟨k1'.1, _, k1'.2.2, rfl⟩, ka, rfl, k2.get.1, st_equals hu k2 k2' (fun z => ⟨fun w => absurd w (by decide), fun _ => ⟨some va, ⟨k1.1, _, k1.2.2, rfl⟩, some va', ⟨k1'.1, _, k1'.2.2, rfl⟩, va, rfl, k4.get.1, st_equals hu k4 k4' (fun z2 => ⟨fun _ v ev => ?_, fun w => absurd w (by decide)⟩) (fun z2 => ⟨fun w => absurd rfl w, fun _ => h0 (fun w => z2 (by rw [w]))⟩)⟩⟩) (fun z => ⟨fun _ => h0 (fun w => z (by rw [w])), fun w => absurd rfl w⟩)⟩
      rw [ev, nI_1]
      refine ih (e + 1) (by omega) (fun q hq' => ?_)
      rcases Nat.lt_or_ge q e with q1 | q1
      · exact hq q q1
      · have : q = e := by omega
        subst this
        exact Prod.ext z z2
  exact key L.length 0 (by omega) (fun q h => absurd h (by omega))
theorem c_digestOn {post : Int32 → Prop} {a : Nat} {t : Tx} {c : Int32} (ht : tS u mm S a t) (h : Int32) (hp : post (mixF h t c)) : w_X3_digestOn u post h (some a) c S := by
  have hl := ht.1.1
  rw [w_X3_digestOn]
  refine ⟨t.length + 1, ?_⟩
  have key : ∀ n i g, i + n = t.length → mixF g (t.drop i) c = mixF h t c → w_X3_digestOn_5 u post (n + 1) (some a) c g (nI i) S := by
    intro n
    induction n with
    | zero =>
      intro i g hi hg
      rw [w_X3_digestOn_5]
      refine ⟨a, rfl, ht.get.1, st_len ht ⟨fun _ => ?_, fun z => absurd (nI_le (by omega) (by omega)) z⟩⟩
      rw [← hg, drop_nil (by omega)] at hp
      exact hp
    | succ n ih =>
      intro i g hi hg
      rw [w_X3_digestOn_5]
      refine ⟨a, rfl, ht.get.1, st_len ht ⟨fun z => absurd z (nI_ge (by omega) (by omega)), fun _ => ⟨ht.get.1, st_charAt ht (by omega) (fun v14 e14 v15 e15 => ?_)⟩⟩⟩
      rw [e15, nI_1]
      refine ih (i + 1) v14 (by omega) ?_
      rw [drop_cons (by omega)] at hg
      rw [e14, ← hg]; rfl
  exact key t.length 0 h (by omega) rfl
theorem c_digestNumber {post : Int32 → Prop} (h : layC u mm S ad lv j L) (hw : wf mm S ad lv) (hp : post (digF 7 L)) : w_X3_digestNumber u post (ad (20 + j)) S := by
  have h40 := h.2.2.1
  rw [w_X3_digestNumber]
  refine ⟨L.length + 1, ?_⟩
  have key : ∀ n e g, e + n = L.length → digF g (L.drop e) = digF 7 L → w_X3_digestNumber_5 u post (ad (20 + j)) (n + 1) g (nI e) S := by
    intro n
    induction n with
    | zero =>
      intro e g he hg
      rw [w_X3_digestNumber_5]
      refine ⟨_, (h.o hw).i rfl, fun _ => ?_, fun z => absurd (nI_le (by omega) (by omega)) z⟩
      rw [List.drop_eq_nil_of_le (by omega)] at hg
      rw [← hg] at hp; exact hp
    | succ n ih =>
      intro e g he hg
      rw [w_X3_digestNumber_5]
      refine ⟨_, (h.o hw).i rfl, fun z => absurd z (nI_ge (by omega) (by omega)), fun _ => ⟨⟨_, h.o hw⟩, c_entryAt h hw (by omega) (fun q => absurd q (by omega)) (fun b q hE => ⟨fun z => absurd z (by simp), fun a11 e11 => ?_⟩)⟩⟩
      obtain rfl := Option.some.inj e11
      obtain ⟨ka, va, k1, k2, k3, k4, k5⟩ := hE
      refine ⟨some ka, ⟨k1.1, _, k1.2.2, rfl⟩, c_digestOn k2 g ⟨some va, ⟨k1.1, _, k1.2.2, rfl⟩, c_digestOn k4 _ (fun v ev => ?_)⟩⟩
      rw [ev, nI_1]
      refine ih (e + 1) _ (by omega) ?_
      rw [dropL (by omega)] at hg
      exact hg
  exact key _ 0 7 (by omega) rfl
/-! a pile of layers -/
theorem pileC.o {base a : Nat} (h : pileC u mm S ad base a) : ∃ r g, rO S a 5 [va_rf (some r)] ∧ rQ S (u.2.1 4) r 4 g ∧ ∀ i, i < 4 → g i = some (ad (base + i)) := by
  obtain ⟨r, g, h1, h2, h3⟩ := h
  exact ⟨r, g, ⟨h1.1, h1.2.2⟩, ⟨h2.1, h2.2.2⟩, h3⟩
theorem pileC.fs {base a : Nat} (h : pileC u mm S ad base a) : ∃ fs, rO S a 5 fs := by
  obtain ⟨r, g, h1, -⟩ := h.o
  exact ⟨_, h1⟩
theorem c_layerAt {post : Option Nat → Prop} {base a : Nat} (x : Int32) (h : pileC u mm S ad base a) (h0 : ixO x 4 = none → post none) (h1 : ∀ l, l < 4 → x = nI l → ixO x 4 = some l → post (some (ad (base + l)))) : w_X4_layerAt u post a x S := by
  obtain ⟨r, g, k1, k2, k3⟩ := h.o
  rw [w_X4_layerAt]
  refine c_in x (n := 4) (by omega) (fun e => ⟨fun _ => h0 e, fun z => absurd rfl z⟩) (fun i hi hx e => ⟨fun z => absurd z (by decide), fun _ => ⟨some r, k1.r rfl, r, rfl, 4, g, k2, ?_, fun o eo => ?_⟩⟩)
  · rw [hx]; exact vp_in_nI hi (by omega)
  · rw [hx, nI_clamp (by omega), k3 i hi] at eo
    rw [eo]; exact h1 i hi hx e
theorem ixO_nI {l n : Nat} (h : l < n) (hn : n < 2 ^ 31) : ixO (nI l) n = some l := by
  rcases ixO_cases (nI l) hn with ⟨e, q⟩ | ⟨i, hi, hx, e⟩
  · rcases q with q | q
    · exact absurd q (nI_pos (by omega))
    · exact absurd q (nI_ge h hn)
  · have := (nI_eq (by omega) (by omega)).mp hx
    rw [e, this]
theorem c_layerAtN {post : Option Nat → Prop} {base a l : Nat} (hl : l < 4) (h : pileC u mm S ad base a) (h1 : post (some (ad (base + l)))) : w_X4_layerAt u post a (nI l) S :=
  c_layerAt (nI l) h (fun e => absurd e (by rw [ixO_nI hl (by omega)]; simp)) (fun l' hl' hx _ => by
    have := (nI_eq (by omega) (by omega)).mp hx
    subst this; exact h1)
theorem c_layerHaving {post : Int32 → Prop} {a ka b : Nat} {k : Tx} {f : Nat → Ly} (hu : uOk u) (hP : pileC u mm S ad (20 + b) a) (hL : ∀ l, l < 4 → layC u mm S ad lv (b + l) (f l)) (hw : wf mm S ad lv) (hk : tS u mm S ka k) {l : Nat} (hl : l < 4) (hp : post (fI (layerF f k l))) : w_X4_layerHaving u post a (nI l) (some ka) S := by
  rw [w_X4_layerHaving]
  refine ⟨l + 2, ?_⟩
  have key : ∀ l, l < 4 → post (fI (layerF f k l)) → w_X4_layerHaving_2 u post a (l + 2) (some ka) (nI l) S := by
    intro l
    induction l with
    | zero =>
      intro hl hp
      rw [w_X4_layerHaving_2]
      refine ⟨fun z => absurd z (nI_pos (by omega)), fun _ => ⟨hP.fs, c_layerAtN hl hP ⟨fun z => absurd z (by simp), fun a9 e9 => ?_⟩⟩⟩
      obtain rfl := Option.some.inj e9
      have h0 := hL 0 hl
      refine ⟨⟨_, h0.o hw⟩, c_valueOf hu h0 hw hk (fun q => ⟨fun _ v ev => ?_, fun a z => absurd z (by simp)⟩) (fun p va q _ _ => ⟨fun z => absurd z (by simp), fun a17 _ => ?_⟩)⟩
      · rw [layerF, if_pos q] at hp
        rw [ev, w_X4_layerHaving_2]
        exact ⟨fun _ => hp, fun z => absurd (by decide) z⟩
      · rw [layerF, if_neg (by rw [q]; simp)] at hp
        exact hp
    | succ l ih =>
      intro hl hp
      rw [w_X4_layerHaving_2]
      refine ⟨fun z => absurd z (nI_pos (by omega)), fun _ => ⟨hP.fs, c_layerAtN hl hP ⟨fun z => absurd z (by simp), fun a9 e9 => ?_⟩⟩⟩
      obtain rfl := Option.some.inj e9
      have h0 := hL (l + 1) hl
      rw [← Nat.add_assoc] at h0
      have h00 := h0
      rw [show 20 + b + (l + 1) = 20 + (b + l + 1) by omega]
      refine ⟨⟨_, h0.o hw⟩, c_valueOf hu h0 hw hk (fun q => ⟨fun _ v ev => ?_, fun a z => absurd z (by simp)⟩) (fun p va q _ _ => ⟨fun z => absurd z (by simp), fun a17 _ => ?_⟩)⟩
      · rw [layerF, if_pos q] at hp
        rw [ev, show nI (l + 1) + (-1) = nI l from pk_m1 l]
        exact ih (by omega) hp
      · rw [layerF, if_neg (by rw [q]; simp)] at hp
        exact hp
  exact key l hl hp
theorem c_lookUp {post : Option Nat → Prop} {a ka b : Nat} {k : Tx} {f : Nat → Ly} (hu : uOk u) (hP : pileC u mm S ad (20 + b) a) (hL : ∀ l, l < 4 → layC u mm S ad lv (b + l) (f l)) (hw : wf mm S ad lv) (hk : tS u mm S ka k) {l : Nat} (hl : l < 4) (h0 : lookF f k l = none → post none) (h1 : ∀ va v, lookF f k l = some v → tS u mm S va v → v.length ≤ 300 → post (some va)) : w_X4_lookUp u post a (nI l) (some ka) S := by
  rw [w_X4_lookUp]
  refine ⟨hP.fs, c_layerHaving hu hP hL hw hk hl ⟨hP.fs, ?_⟩⟩
  cases e : layerF f k l with
  | none =>
    refine c_layerAt _ hP (fun _ => ⟨fun _ => h0 (by unfold lookF; rw [e]), fun a z => absurd z (by simp)⟩) (fun l' hl' hx _ => ?_)
    exact absurd (show (-5 : Int32) < 0 by decide) (by rw [show (-5 : Int32) = nI l' from hx]; exact nI_pos (by omega))
  | some m =>
    have hm := layerF_le e
    refine c_layerAtN (by omega) hP ⟨fun z => absurd z (by simp), fun a12 e12 => ?_⟩
    obtain rfl := Option.some.inj e12
    have hm0 := hL m (by omega)
    rw [show 20 + b + m = 20 + (b + m) by omega]
    refine ⟨⟨_, hm0.o hw⟩, c_valueOf hu hm0 hw hk (fun q => absurd q hm.2) (fun p va q q2 q3 => h1 va _ ?_ q2 q3)⟩
    unfold lookF valF
    rw [e]
    show (match findF (f m) k with | none => none | some p => some ((f m).getD p ([], [])).2) = _
    rw [q]
end CREP
