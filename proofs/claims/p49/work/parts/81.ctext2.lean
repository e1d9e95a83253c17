theorem st_equals_9 {u : hU} {S : hS} {b b' : Nat} {g g' : Nat → Int32} {t v : Tx} {post : Int32 → Prop} (hB : rB u.1 (u.2.1 2) S b t.length g) (hB' : rB u.1 (u.2.1 2) S b' v.length g') (hg : bytesOf g t) (hg' : bytesOf g' v) (ht : t.length ≤ 65536 ∧ ∀ c ∈ t, c < 256) (hv : ∀ c ∈ v, c < 256) (hl : t.length = v.length) (h1 : t = v → post 1) (h0 : t ≠ v → post 0) : ∀ n j, j + n = t.length → (∀ i, i < j → t.getD i 0 = v.getD i 0) → w_J1_equals_b5_9 u post (n + 1) b b' (nI j) S := by
  have hlt := ht.1
  intro n
  induction n with
  | zero =>
    intro j hj hq
    rw [w_J1_equals_b5_9]
    refine ⟨t.length, g, hB, fun _ => h1 ?_, fun z => absurd (nI_le (by omega) (by omega)) z⟩
    refine List.ext_getElem hl (fun i a c => ?_)
    have := hq i (by omega)
    rw [List.getD_eq_getElem?_getD, List.getD_eq_getElem?_getD, List.getElem?_eq_getElem a, List.getElem?_eq_getElem c] at this
    exact this
  | succ n ih =>
    intro j hj hq
    have hjt : j < t.length := by omega
    have hjv : j < v.length := by omega
    rw [w_J1_equals_b5_9]
    refine ⟨t.length, g, hB, fun z => absurd z (nI_ge (by omega) (by omega)), fun _ => ⟨t.length, g, hB, vp_in_nI hjt (by omega), v.length, g', hB', vp_in_nI hjv (by omega), ?_⟩⟩
    rw [nI_clamp (n := j) (by omega), hg j hjt, hg' j hjv]
    refine ⟨fun z w ew => ?_, fun z => h0 (fun q => z (by rw [q]))⟩
    rw [ew, nI_1]
    refine ih (j + 1) (by omega) (fun i hi => ?_)
    by_cases q : i = j
    · subst q; exact sb_inj (getD_lt256 ht.2 hjt) (getD_lt256 hv hjv) z
    · exact hq i (by omega)
theorem st_equals {u : hU} {mm : List Nat} {S : hS} {a b : Nat} {t v : Tx} {post : Int32 → Prop} (hu : ∀ i j, i < 3 → j < 3 → (u.1 i).1 = (u.1 j).1 → i = j) (ha : tS u mm S a t) (hb : tS u mm S b v) (h1 : t = v → post 1) (h0 : t ≠ v → post 0) : w_J0_equals_9e u post a (some b) S := by
  obtain ⟨a1, a2, b1, g, a3, a4, a5⟩ := ha.get
  obtain ⟨c1, c2, b2, g', c3, c4, c5⟩ := hb.get
  have la := ha.1.1
  have lb := hb.1.1
  rw [w_J0_equals_9e]
  refine ⟨fun _ => ⟨b, rfl, c1, fun z => absurd z (by decide), fun _ => ⟨c1, fun z => absurd z (by decide), fun _ => ⟨0, a2, 0, c2, fun z => absurd rfl z, fun _ => ?_⟩⟩⟩, fun z => ?_⟩
  · rw [w_J0_equals_9e_36]
    refine ⟨b1, a3, b2, c3, ?_⟩
    rw [w_J1_equals_b5]
    refine ⟨b1, rfl, t.length, g, a4, b2, rfl, v.length, g', c4, fun z => ⟨fun _ => h0 (fun q => z (by rw [q])), fun q => absurd rfl q⟩, fun z => ⟨t.length + 1, ?_⟩⟩
    have hl := (nI_eq (by omega) (by omega)).mp z
    exact st_equals_9 a4 c4 a5 c5 ha.1 hb.1.2 hl (fun q => ⟨fun z => absurd z (by decide), fun _ => h1 q⟩) (fun q => ⟨fun _ => h0 q, fun z => absurd rfl z⟩) t.length 0 (by omega) (fun i hi => absurd hi (by omega))
  · obtain rfl := Option.some.inj z
    exact h1 (ha.one hu hb)
theorem cmp_drop {t v : Tx} {j : Nat} (h1 : j < t.length) (h2 : j < v.length) : cmpT (t.drop j) (v.drop j) = if t.getD j 0 = v.getD j 0 then cmpT (t.drop (j + 1)) (v.drop (j + 1)) else (t.getD j 0 : Int) - v.getD j 0 := by
  rw [drop_cons h1, drop_cons h2]; rfl
theorem cmp_end {t v : Tx} {j : Nat} (hj : j = if v.length < t.length then v.length else t.length) : cmpT (t.drop j) (v.drop j) = (t.length : Int) - v.length := by
  by_cases h : v.length < t.length
  · rw [if_pos h] at hj
    rw [drop_cons (show j < t.length by omega), drop_nil (t := v) (by omega)]
    show ((t.drop (j + 1)).length : Int) + 1 = _
    rw [List.length_drop]; omega
  · rw [if_neg h] at hj
    rw [drop_nil (t := t) (by omega)]
    show -((v.drop j).length : Int) = _
    rw [List.length_drop]; omega
theorem st_compare {u : hU} {mm : List Nat} {S : hS} {a b : Nat} {t v : Tx} {post : Int32 → Prop} (ha : tS u mm S a t) (hb : tS u mm S b v) (hp : ∀ r : Int32, r.toInt = cmpT t v → post r) : w_X9_compareTexts u post (some a) (some b) S := by
  have la := ha.1.1
  have lb := hb.1.1
  have ra := ha.get.1
  have rb := hb.get.1
  rw [w_X9_compareTexts]
  refine ⟨a, rfl, ra, st_len ha ⟨b, rfl, rb, st_len hb (fun v13 e13 => ⟨t.length + 1, ?_⟩)⟩⟩
  have hm : v13 = nI (if v.length < t.length then v.length else t.length) := by
    rw [e13]
    by_cases h : v.length < t.length
    · rw [if_pos h, if_pos (nI_lt h (by omega))]
    · rw [if_neg h, if_neg (nI_nlt (by omega) (by omega))]
  rw [hm]
  have key : ∀ n j, (if v.length < t.length then v.length else t.length) < j + n → j ≤ (if v.length < t.length then v.length else t.length) → cmpT (t.drop j) (v.drop j) = cmpT t v → w_X9_compareTexts_14 u post n a b (nI (if v.length < t.length then v.length else t.length)) (nI j) S := by
    intro n
    induction n with
    | zero => intro j h1 h2; omega
    | succ n ih =>
      intro j h1 h2 h3
      have hmm : (if v.length < t.length then v.length else t.length) ≤ t.length ∧ (if v.length < t.length then v.length else t.length) ≤ v.length := by split <;> omega
      rw [w_X9_compareTexts_14]
      refine ⟨fun z => ⟨ra, st_len ha ⟨rb, st_len hb (hp _ ?_)⟩⟩, fun z => ⟨ra, ?_⟩⟩
      · have hle := (nI_leI (by omega) (by omega)).mp z
        rw [toInt_sub (by omega) (by omega), ← h3]
        exact (cmp_end (by omega)).symm
      · have hlt : j < (if v.length < t.length then v.length else t.length) := by
          rcases Nat.lt_or_ge j (if v.length < t.length then v.length else t.length) with q | q
          · exact q
          · exact absurd (nI_le q (by omega)) z
        have hjt : j < t.length := by omega
        have hjv : j < v.length := by omega
        have c1 := ha.lt hjt
        have c2 := hb.lt hjv
        refine st_charAt ha hjt ⟨rb, st_charAt hb hjv (fun v36 e36 => ⟨fun z2 w ew => ?_, fun z2 => hp _ ?_⟩)⟩
        · have hi := toInt_sub (a := t.getD j 0) (b := v.getD j 0) (by omega) (by omega)
          rw [← e36, z2] at hi
          have h0 : (0 : Int32).toInt = 0 := by decide
          have he : t.getD j 0 = v.getD j 0 := by omega
          rw [ew, nI_1]
          refine ih (j + 1) (by omega) (by omega) ?_
          rw [← h3, cmp_drop hjt hjv, if_pos he]
        · have hi := toInt_sub (a := t.getD j 0) (b := v.getD j 0) (by omega) (by omega)
          have he : t.getD j 0 ≠ v.getD j 0 := fun q => z2 (by rw [e36, q]; exact Int32.sub_self _)
          rw [e36, hi, ← h3, cmp_drop hjt hjv, if_neg he]
  exact key _ 0 (by split <;> omega) (Nat.zero_le _) rfl
