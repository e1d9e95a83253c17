theorem st_indexOf {u : hU} {mm : List Nat} {S : hS} {a c : Nat} {d : Tx} {post : Int32 → Prop} (ha : tS u mm S a d) (hc : c < 256) (h1 : c ∈ d → ∀ i, i < d.length → post (nI i)) (h0 : c ∉ d → post (-1)) : w_J0_indexOf_0f u post a (nI c) S := by
  obtain ⟨a1, a2, b, g, a3, a4, a5⟩ := ha.get
  have hl := ha.1.1
  rw [w_J0_indexOf_0f]
  refine ⟨a1, ?_⟩
  rw [w_J0_indexOf_7c]
  refine ⟨a1, st_isLatin1 ha ⟨fun z => absurd z (by decide), fun _ => ⟨b, a3, a1, st_len ha ?_⟩⟩⟩
  rw [w_J1_indexOf_4c, q_J1_canEncode_9a]
  refine ⟨fun z => absurd z (nI_pos (by omega)), fun _ => ⟨fun z => absurd (nI_ltI (a := 255) (by decide) (by omega) |>.mp z) (by omega), fun _ => ⟨fun _ v3 e3 => ⟨b, rfl, d.length, g, a4, fun v8 e8 => ?_⟩, fun z => absurd z (by decide)⟩⟩⟩
  have e3' : v3 = nI 0 := by rw [e3]; decide
  have e8' : v8 = nI d.length := by
    rw [e8, if_neg (nI_nlt (Nat.le_refl _) (by omega))]
  rw [e3', e8']
  refine ⟨fun z => ?_, fun z => ?_⟩
  · rw [w_J1_indexOfChar_4c]
    intro v1 e1
    refine ⟨d.length + 1, ?_⟩
    have e1' : v1 = sb_b c := e1
    rw [e1']
    have key : ∀ n j, j + n = d.length → (∀ i, i < j → d.getD i 0 ≠ c) → w_J1_indexOfChar_4c_7 u post (n + 1) (some b) (nI d.length) (sb_b c) (nI j) S := by
      intro n
      induction n with
      | zero =>
        intro j hj hq
        rw [w_J1_indexOfChar_4c_7]
        refine ⟨fun _ => h0 (fun hm => ?_), fun z => absurd (nI_le (by omega) (by omega)) z⟩
        obtain ⟨i, hi, e⟩ := List.getElem_of_mem hm
        refine hq i (by omega) ?_
        rw [List.getD_eq_getElem?_getD, List.getElem?_eq_getElem hi]; exact e
      | succ n ih =>
        intro j hj hq
        have hjd : j < d.length := by omega
        rw [w_J1_indexOfChar_4c_7]
        refine ⟨fun z => absurd z (nI_ge (by omega) (by omega)), fun _ => ⟨b, rfl, d.length, g, a4, vp_in_nI hjd (by omega), ?_⟩⟩
        rw [nI_clamp (n := j) (by omega), a5 j hjd]
        refine ⟨fun z w ew => ?_, fun z => h1 ?_ j hjd⟩
        · rw [ew, nI_1]
          refine ih (j + 1) (by omega) (fun i hi => ?_)
          by_cases q : i = j
          · subst q; exact fun e => z (by rw [e])
          · exact hq i (by omega)
        · have e := sb_inj (ha.lt hjd) hc z
          rw [← e, List.getD_eq_getElem?_getD, List.getElem?_eq_getElem hjd]
          exact List.getElem_mem hjd
    exact key d.length 0 (by omega) (fun i hi => absurd hi (by omega))
  · have : d.length = 0 := by
      rcases Nat.eq_zero_or_pos d.length with q | q
      · exact q
      · exact absurd (nI_lt q (by omega)) z
    have hd : d = [] := List.length_eq_zero_iff.mp this
    exact h0 (by rw [hd]; simp)
