/-! NAMES, LOOKUPS, KEYS IN ORDER: pure -/
theorem placeF_at : ∀ {L : Ly} {x : Nat}, srt L → x < L.length → placeF L (L.getD x ([], [])).1 = x
  | [], x, _, h => absurd h (by simp)
  | p :: L, 0, _, _ => by
    show placeF (p :: L) p.1 = 0
    rw [placeF, cmpT_self, if_neg (by decide)]
  | p :: L, x + 1, hs, h => by
    have hs' : srt L := (List.pairwise_cons.mp hs).2
    have hx : x < L.length := by simpa using h
    show placeF (p :: L) (L.getD x ([], [])).1 = x + 1
    have hlt : cmpT p.1 (L.getD x ([], [])).1 < 0 := by
      refine (List.pairwise_cons.mp hs).1 _ (List.mem_map.mpr ⟨L.getD x ([], []), ?_, rfl⟩)
      rw [List.getD_eq_getElem?_getD, List.getElem?_eq_getElem hx]; exact List.getElem_mem hx
    rw [placeF, if_pos hlt, placeF_at hs' hx]
theorem findF_at {L : Ly} {x : Nat} (hs : srt L) (hx : x < L.length) : findF L (L.getD x ([], [])).1 = some x := by
  unfold findF
  rw [placeF_at hs hx, if_pos ⟨hx, rfl⟩]
theorem nameF_ok {ly : Nat → Ly} {l : Nat} : ∀ (m n : Nat) (P : Nat → Nat), n < namesF ly l m P → ∃ t, nameF ly l n P = some t ∧ ∃ x y, x ≤ l ∧ y < (ly x).length ∧ ((ly x).getD y ([], [])).1 = t
  | 0, n, P, h => absurd h (by simp [namesF])
  | m + 1, n, P, h => by
    rw [namesF] at h
    cases hm : minF ly P l with
    | none => rw [hm] at h; simp at h
    | some t =>
      rw [hm] at h
      have h : n < namesF ly l m (stepP ly P t l) + 1 := h
      cases n with
      | zero =>
        obtain ⟨x, h1, h2, h3⟩ := okB_minF t hm
        exact ⟨t, by rw [nameF]; exact hm, x, P x, h1, h2, h3⟩
      | succ n =>
        obtain ⟨v, h1, h2⟩ := nameF_ok (ly := ly) (l := l) m n (stepP ly P t l) (by omega)
        exact ⟨v, by rw [nameF, hm]; exact h1, h2⟩
theorem layerF_at {ly : Nat → Ly} {t : Tx} : ∀ (l x : Nat), x ≤ l → findF (ly x) t ≠ none → ∃ m, layerF ly t l = some m ∧ m ≤ l ∧ findF (ly m) t ≠ none ∧ ∀ k, m < k → k ≤ l → findF (ly k) t = none
  | 0, x, hx, h => by
    have : x = 0 := by omega
    subst this
    exact ⟨0, by rw [layerF, if_neg h], Nat.le_refl _, h, fun k h1 h2 => by omega⟩
  | l + 1, x, hx, h => by
    by_cases q : findF (ly (l + 1)) t = none
    · have hx' : x ≤ l := by
        rcases Nat.lt_or_ge l x with z | z
        · have : x = l + 1 := by omega
          rw [this] at h; exact absurd q h
        · exact z
      obtain ⟨m, h1, h2, h3, h4⟩ := layerF_at (ly := ly) (t := t) l x hx' h
      refine ⟨m, by rw [layerF, if_pos q]; exact h1, by omega, h3, fun k k1 k2 => ?_⟩
      rcases Nat.lt_or_ge l k with z | z
      · have : k = l + 1 := by omega
        rw [this]; exact q
      · exact h4 k k1 z
    · exact ⟨l + 1, by rw [layerF, if_neg q], Nat.le_refl _, q, fun k k1 k2 => by omega⟩
theorem layerF_self {ly : Nat → Ly} {t : Tx} {m : Nat} (h : findF (ly m) t ≠ none) : layerF ly t m = some m := by
  cases m with
  | zero => rw [layerF, if_neg h]
  | succ m => rw [layerF, if_neg h]
theorem valF_some {L : Ly} {t : Tx} (h : findF L t ≠ none) : ∃ v, valF L t = some v := by
  unfold valF
  cases hf : findF L t with
  | none => exact absurd hf h
  | some p => exact ⟨_, rfl⟩
/-! an entry is put: the keys stay in order -/
theorem insK : ∀ (L : Ly) (k v : Tx), srt L → findF L k = none → srt (L.take (placeF L k) ++ (k, v) :: L.drop (placeF L k)) ∧ ∀ p ∈ L.take (placeF L k) ++ (k, v) :: L.drop (placeF L k), p = (k, v) ∨ p ∈ L
  | [], k, v, _, _ => ⟨by simp [srt, placeF], fun p hp => by simp [placeF] at hp; exact Or.inl hp⟩
  | p :: L, k, v, hs, hf => by
    have hs1 := (List.pairwise_cons.mp hs).1
    have hs2 : srt L := (List.pairwise_cons.mp hs).2
    by_cases q : cmpT p.1 k < 0
    · have e : placeF (p :: L) k = placeF L k + 1 := by rw [placeF, if_pos q]
      have hf' : findF L k = none := by
        unfold findF at hf ⊢
        rw [e] at hf
        split at hf
        · cases hf
        · rename_i z
          rw [if_neg]
          rintro ⟨z1, z2⟩
          exact z ⟨by simp; exact z1, z2⟩
      obtain ⟨i1, i2⟩ := insK L k v hs2 hf'
      rw [e, List.take_succ_cons, List.drop_succ_cons, List.cons_append]
      refine ⟨?_, fun r hr => ?_⟩
      · refine List.pairwise_cons.mpr ⟨fun a ha => ?_, i1⟩
        obtain ⟨r, hr, rfl⟩ := List.mem_map.mp ha
        rcases i2 r hr with z | z
        · rw [z]; exact q
        · exact hs1 _ (List.mem_map_of_mem z)
      · rcases List.mem_cons.mp hr with z | z
        · exact Or.inr (by rw [z]; simp)
        · rcases i2 r z with z | z
          · exact Or.inl z
          · exact Or.inr (by simp [z])
    · have e : placeF (p :: L) k = 0 := by rw [placeF, if_neg q]
      have hne : p.1 ≠ k := by
        intro z
        unfold findF at hf
        rw [e, if_pos ⟨by simp, z⟩] at hf; cases hf
      have hlt : cmpT k p.1 < 0 := by
        rw [cmpT_anti]
        rcases Int.lt_trichotomy (cmpT p.1 k) 0 with z | z | z
        · exact absurd z q
        · exact absurd (cmpT_eq.mp z) hne
        · omega
      rw [e, List.take_zero, List.drop_zero, List.nil_append]
      refine ⟨List.pairwise_cons.mpr ⟨fun a ha => ?_, hs⟩, fun r hr => ?_⟩
      · rcases List.mem_cons.mp ha with z | z
        · rw [z]; exact hlt
        · exact cmpT_trans _ _ _ hlt (hs1 a z)
      · rcases List.mem_cons.mp hr with z | z
        · exact Or.inl z
        · exact Or.inr z
theorem putF_srt {L : Ly} {k v : Tx} (hs : srt L) : srt (putF L k v) ∧ ∀ p ∈ putF L k v, p = (k, v) ∨ p ∈ L := by
  unfold putF
  cases hf : findF L k with
  | none => exact insK L k v hs hf
  | some p =>
    obtain ⟨h1, h2, h3⟩ := findF_lt hf
    refine ⟨?_, fun r hr => ?_⟩
    · show srt (L.set p (k, v))
      have e : (L.set p (k, v)).map (fun p => p.1) = L.map (fun p => p.1) := by
        rw [List.map_set]
        have : k = (L.map (fun p => p.1))[p]'(by simpa using h1) := by
          rw [List.getElem_map, ← h3, List.getD_eq_getElem?_getD, List.getElem?_eq_getElem h1]; rfl
        show (L.map (fun p => p.1)).set p k = _
        rw [this, List.set_getElem_self]
      unfold srt
      rw [e]; exact hs
    · have hr : r ∈ L.set p (k, v) := hr
      rcases List.mem_or_eq_of_mem_set hr with z | z
      · exact Or.inr z
      · exact Or.inl z
theorem srt_nil : srt [] := List.Pairwise.nil
theorem srt_one (p : Tx × Tx) : srt [p] := List.pairwise_singleton _ _
