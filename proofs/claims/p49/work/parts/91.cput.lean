/-! THE CLASS: a layer is changed -/
theorem upS_upS {S : hS} {a : Nat} {e e' : va_E} : upS (upS S a e) a e' = upS S a e' := by
  show (S.1, va_up (va_up S.2 a e) a e') = (S.1, va_up S.2 a e')
  congr 1
  funext x
  by_cases h : x = a
  · subst h; rw [va_up_self, va_up_self]
  · rw [va_up_ne _ _ h, va_up_ne _ _ h, va_up_ne _ _ h]
theorem upS_id {S : hS} {a : Nat} {e : va_E} (h : S.2 a = e) : upS S a e = S := by
  show (S.1, va_up S.2 a e) = S
  have : va_up S.2 a e = S.2 := by
    funext x
    by_cases q : x = a
    · subst q; rw [va_up_self]; exact h.symm
    · rw [va_up_ne _ _ q]
  rw [this]
/-- an entry goes in at a place p ≤ length -/
def insF (L : Ly) (p : Nat) (x : Tx × Tx) : Ly := L.take p ++ x :: L.drop p
theorem insF_getD {L : Ly} {p e : Nat} {x z : Tx × Tx} (hp : p ≤ L.length) : (insF L p x).getD e z = if e < p then L.getD e z else if e = p then x else L.getD (e - 1) z := by
  unfold insF
  have hl : (L.take p).length = p := by rw [List.length_take]; omega
  rw [List.getD_eq_getElem?_getD, List.getElem?_append, hl]
  by_cases h1 : e < p
  · rw [if_pos h1, if_pos h1, List.getElem?_take, if_pos h1, List.getD_eq_getElem?_getD]
  · rw [if_neg h1, if_neg h1]
    by_cases h2 : e = p
    · rw [if_pos h2, h2, Nat.sub_self]; rfl
    · rw [if_neg h2, show e - p = (e - 1 - p) + 1 by omega, List.getElem?_cons_succ, List.getElem?_drop, List.getD_eq_getElem?_getD]
      congr 2
      omega
theorem insF_length {L : Ly} {p : Nat} {x : Tx × Tx} (hp : p ≤ L.length) : (insF L p x).length = L.length + 1 := by
  unfold insF
  simp
  omega
theorem setL_getD {L : Ly} {p e : Nat} {x z : Tx × Tx} (hp : p < L.length) : (L.set p x).getD e z = if e = p then x else L.getD e z := by
  rw [List.getD_eq_getElem?_getD, List.getElem?_set]
  by_cases h : p = e
  · rw [if_pos h, if_pos h.symm, if_pos hp]; rfl
  · rw [if_neg h, if_neg (fun q => h q.symm), List.getD_eq_getElem?_getD]
theorem era_getD {L : Ly} {p e : Nat} {z : Tx × Tx} : (L.eraseIdx p).getD e z = if e < p then L.getD e z else L.getD (e + 1) z := by
  rw [List.getD_eq_getElem?_getD, List.getElem?_eraseIdx]
  by_cases h : e < p
  · rw [if_pos h, if_pos h, List.getD_eq_getElem?_getD]
  · rw [if_neg h, if_neg h, List.getD_eq_getElem?_getD]
section CREP
variable {u : hU} {d : Nat} {mm : List Nat} {ad : Nat → Nat} {lv : Nat → Prop} {s : AS} {S : hS} {j : Nat} {L : Ly}
/-- a step that changes the cells of one layer alone -/
def ly1 (mm : List Nat) (ad : Nat → Nat) (lv : Nat → Prop) (j : Nat) (S S' : hS) : Prop := wf mm S' ad lv ∧ stp mm mm ad ad lv lv S S' (fun _ => False) (fun c => c = 20 + j ∨ c = 40 + j)
theorem ly1.mk {S' : hS} (hw : wf mm S ad lv) (hj : lv (20 + j) ∧ lv (40 + j)) (h1 : ∀ a, a ∈ S.1 → a ∈ S'.1) (h2 : ∀ a, a ∈ S.1 → a ≠ ad (20 + j) → a ≠ ad (40 + j) → S'.2 a = S.2 a) : ly1 mm ad lv j S S' :=
  ⟨hw.mono h1, stp.at hw h1 (fun a ha hc => h2 a ha (hc _ (Or.inl rfl)) (hc _ (Or.inr rfl))) (fun c hc => by rcases hc with rfl | rfl; exact hj.1; exact hj.2)⟩
/-- the new entry is laid at a place of the row -/
theorem c_put_85 {post : Int32 → hS → Prop} {ka va p mc ms : Nat} {k v : Tx} {x : Int32} {g : Nat → Option Nat} (hw : wf mm S ad lv) (hj : lv (20 + j) ∧ lv (40 + j)) (h1 : S.2 (ad (20 + j)) = .inr (4, [va_rf (some (ad (40 + j))), .int x])) (h2 : S.2 (ad (40 + j)) = qE (u.2.1 3) 40 g) (hp40 : p < 40) (hmc : 1 ≤ mc) (hms : 2 ≤ ms)
    (hk : tS u mm S ka k) (hk3 : k.length ≤ 300) (hv : tS u mm S va v) (hv3 : v.length ≤ 300)
    (hp : ∀ q S', kp mm mm S S' → (∀ a, a ∈ S.1 → a ≠ ad (40 + j) → S'.2 a = S.2 a) → S'.2 (ad (40 + j)) = qE (u.2.1 3) 40 (va_up g p (some q)) → entC u mm S' q (k, v) → post 1 S') : w_X3_put_85 u post (ad (20 + j)) (some ka) (some va) (nI p) S mc ms := by
  rw [w_X3_put_85]
  refine ⟨_, ⟨hw.at hj.1, _, h1, rfl⟩, hmc, hms, fun q S58 hq e58 => ?_⟩
  have m58 : ∀ a, a ∈ S.1 → a ∈ S58.1 := fun a ha => by rw [e58]; exact adS_old ha
  have f58 : ∀ a, a ∈ S.1 → S58.2 a = S.2 a := fun a ha => by rw [e58]; exact va_adS_ne (fun z => hq.1 (by rw [← z]; exact ha))
  have q58 : q ∈ S58.1 := by rw [e58]; exact adS_mem
  have o58 : S58.2 q = .inr (2, [.null, .null]) := by rw [e58]; exact va_adS_self
  have hne : ad (40 + j) ≠ q := fun z => hq.1 (by rw [← z]; exact hw.at hj.2)
  rw [w_X0_init]
  refine ⟨_, ⟨q58, o58⟩, by simp, fun S4 e4 => ⟨[va_rf (some ka), .null], ⟨by rw [e4]; exact q58, by rw [e4]; exact va_upS_self⟩, by simp, fun S8 e8 => ?_⟩⟩
  have f8 : ∀ a, a ∈ S.1 → S8.2 a = S.2 a := fun a ha => by
    have hn : a ≠ q := fun z => hq.1 (by rw [← z]; exact ha)
    rw [e8, va_upS_ne hn, e4, va_upS_ne hn]; exact f58 a ha
  have m8 : ∀ a, a ∈ S58.1 → a ∈ S8.1 := fun a ha => by rw [e8, e4]; exact ha
  have o8 : S8.2 q = .inr (2, [va_rf (some ka), va_rf (some va)]) := by rw [e8]; exact va_upS_self
  have r8 : rQ S8 (u.2.1 3) (ad (40 + j)) 40 g := ⟨m8 _ (m58 _ (hw.at hj.2)), (f8 _ (hw.at hj.2)).trans h2⟩
  refine ⟨_, rfl, 40, g, r8, vp_in_nI hp40 (by omega), ⟨_, m8 _ q58, o8⟩, fun S69 e69 => ?_⟩
  rw [nI_clamp (by omega)] at e69
  have k69 : kp mm mm S S69 := by
    refine ⟨fun a ha => by rw [e69]; exact m8 _ (m58 a ha), fun a ha hm => ⟨hm, ?_⟩⟩
    rw [e69, va_upS_ne (fun z => hm (by rw [z]; exact hw.2.1 _ hj.2))]; exact f8 a ha
  refine hp q S69 k69 (fun a ha hn => by rw [e69, va_upS_ne hn]; exact f8 a ha) (by rw [e69]; exact va_upS_self) ?_
  exact ⟨ka, va, ⟨by rw [e69]; exact m8 _ q58, fun z => hq.1 (hw.1 q z), by rw [e69, va_upS_ne (fun z => hne z.symm)]; exact o8⟩, hk.kept k69, hk3, hv.kept k69, hv3⟩
/-- entries behind a place move up by one -/
def shR (g : Nat → Option Nat) (n m : Nat) : Nat → Option Nat := fun e => if m < e ∧ e ≤ n then g (e - 1) else g e
theorem shR_top (g : Nat → Option Nat) (n : Nat) : shR g n n = g := by
  funext e
  unfold shR
  rw [if_neg (by omega)]
theorem shR_step (g : Nat → Option Nat) {n m : Nat} (hm : m < n) {a : Nat} (ha : g m = some a) : va_up (shR g n (m + 1)) (m + 1) (some a) = shR g n m := by
  funext e
  by_cases h : e = m + 1
  · subst h
    rw [va_up_self]
    unfold shR
    rw [if_pos (by omega), ← ha]
    rfl
  · rw [va_up_ne _ _ h]
    unfold shR
    by_cases q : m + 1 < e ∧ e ≤ n
    · rw [if_pos q, if_pos (by omega)]
    · rw [if_neg q, if_neg (by omega)]
theorem c_put {post : Int32 → hS → Prop} {ka va mc ms : Nat} {k v : Tx} (hu : uOk u) (h : layC u mm S ad lv j L) (hw : wf mm S ad lv) (hmc : 1 ≤ mc) (hms : 2 ≤ ms) (hk : tS u mm S ka k) (hk3 : k.length ≤ 300) (hv : tS u mm S va v) (hv3 : v.length ≤ 300)
    (h0 : fullF L k → post 0 S) (h1 : ¬ fullF L k → ∀ S', ly1 mm ad lv j S S' → layC u mm S' ad lv j (putF L k v) → post 1 S') : w_X3_put u post (ad (20 + j)) (some ka) (some va) S mc ms := by
  have h40 := h.2.2.1
  have hle := placeF_le L k
  have hj : lv (20 + j) ∧ lv (40 + j) := ⟨h.1, h.2.1⟩
  obtain ⟨g, hg1, hg2⟩ := h.2.2.2.2
  have hne : ad (40 + j) ≠ ad (20 + j) := hw.ne hj.2 hj.1 (by omega)
  -- no such entry: it goes in
  have new : findF L k = none → w_X3_put_30 u post (ad (20 + j)) (some ka) (some va) (nI (placeF L k)) S mc ms := by
    intro hf
    rw [w_X3_put_30]
    refine ⟨_, (h.o hw).i rfl, fun z => ⟨_, (h.o hw).i rfl, L.length - placeF L k + 1, ?_⟩, fun z => h0 ⟨hf, ?_⟩⟩
    · have hlt : L.length < 40 := (nI_ltI (b := 40) (by omega) (by omega)).mp z
      have hnf : ¬ fullF L k := fun q => by have := q.2; omega
      have ent : ∀ e, e < L.length → ∃ a, g e = some a ∧ entC u mm S a (L.getD e ([], [])) := hg2
      have key : ∀ n m, placeF L k + n = m → m ≤ L.length → w_X3_put_47 u post (ad (20 + j)) (n + 1) (some ka) (some va) (nI (placeF L k)) (nI m) (upS S (ad (40 + j)) (qE (u.2.1 3) 40 (shR g L.length m))) mc ms := by
        intro n
        induction n with
        | zero =>
          intro m hm hml
          rw [w_X3_put_47]
          refine ⟨fun _ => ?_, fun w => absurd (nI_le (by omega) (by omega)) w⟩
          have o1 : (upS S (ad (40 + j)) (qE (u.2.1 3) 40 (shR g L.length m))).2 (ad (20 + j)) = .inr (4, [va_rf (some (ad (40 + j))), .int (nI L.length)]) := by rw [va_upS_ne (fun z => hne z.symm)]; exact h.2.2.2.1
          refine ⟨nI L.length, ⟨hw.at hj.1, _, o1, rfl⟩, _, ⟨hw.at hj.1, o1⟩, by simp, fun S34 e34 => ?_⟩
          rw [nI_1] at e34
          have k34 : kp mm mm S S34 := by
            rw [e34]
            exact (kp.up (hw.2.1 _ hj.2)).tr (kp.up (hw.2.1 _ hj.1))
          have w34 : wf mm S34 ad lv := hw.mono k34.1
          refine c_put_85 (p := placeF L k) (x := nI (L.length + 1)) (g := shR g L.length m) w34 hj (by rw [e34]; exact va_upS_self) (by rw [e34, va_upS_ne hne]; exact va_upS_self) (by omega) hmc hms (hk.kept k34) hk3 (hv.kept k34) hv3 (fun q S' k' f' o' ent' => ?_)
          have kS : kp mm mm S S' := k34.tr k'
          have eP : putF L k v = insF L (placeF L k) (k, v) := by
            unfold putF
            rw [hf]; rfl
          have o20 : S'.2 (ad (20 + j)) = .inr (4, [va_rf (some (ad (40 + j))), .int (nI (L.length + 1))]) := by
            rw [f' _ (w34.at hj.1) (fun z => hne z.symm), e34]; exact va_upS_self
          refine h1 hnf S' (ly1.mk hw hj kS.1 (fun a ha q1 q2 => ?_)) ?_
          · rw [f' a (k34.1 a ha) q2, e34, va_upS_ne q1, va_upS_ne q2]
          · rw [eP]
            refine ⟨hj.1, hj.2, by rw [insF_length hle]; omega, by rw [insF_length hle]; exact o20, _, o', fun e he => ?_⟩
            rw [insF_length hle] at he
            rw [insF_getD hle]
            by_cases q1 : e = placeF L k
            · rw [q1, va_up_self, if_neg (by omega), if_pos rfl]
              exact ⟨q, rfl, ent'⟩
            · rw [va_up_ne _ _ q1]
              unfold shR
              by_cases q2 : e < placeF L k
              · rw [if_neg (by omega), if_pos q2]
                obtain ⟨a, q3, q4⟩ := ent e (by omega)
                exact ⟨a, q3, q4.kept kS⟩
              · rw [if_pos (by omega), if_neg q2, if_neg q1]
                obtain ⟨a, q3, q4⟩ := ent (e - 1) (by omega)
                exact ⟨a, q3, q4.kept kS⟩
        | succ n ih =>
          intro m hm hml
          obtain ⟨m, rfl⟩ : ∃ m', m = m' + 1 := ⟨m - 1, by omega⟩
          obtain ⟨a, ga, ea⟩ := ent m (by omega)
          have o1 : (upS S (ad (40 + j)) (qE (u.2.1 3) 40 (shR g L.length (m + 1)))).2 (ad (20 + j)) = .inr (4, [va_rf (some (ad (40 + j))), .int (nI L.length)]) := by rw [va_upS_ne (fun z => hne z.symm)]; exact h.2.2.2.1
          have r1 : rQ (upS S (ad (40 + j)) (qE (u.2.1 3) 40 (shR g L.length (m + 1)))) (u.2.1 3) (ad (40 + j)) 40 (shR g L.length (m + 1)) := ⟨hw.at hj.2, va_upS_self⟩
          have rr : rR (upS S (ad (40 + j)) (qE (u.2.1 3) 40 (shR g L.length (m + 1)))) (ad (20 + j)) 4 0 (some (ad (40 + j))) := ⟨hw.at hj.1, _, o1, rfl⟩
          rw [w_X3_put_47]
          refine ⟨fun w => absurd w (nI_ge (by omega) (by omega)), fun _ => ⟨_, rr, _, rr, _, rfl, 40, _, r1, by rw [nI_pred]; exact vp_in_nI (by omega) (by omega), fun o eo => ?_⟩⟩
          rw [nI_pred, nI_clamp (by omega)] at eo
          have eo' : o = some a := by
            rw [eo]
            unfold shR
            rw [if_neg (by omega)]; exact ga
          refine ⟨a, eo', _, rfl, 40, _, r1, vp_in_nI (by omega) (by omega), ?_, fun S51 e51 v53 e53 => ?_⟩
          · obtain ⟨ka', va', q1, -⟩ := ea
            refine ⟨[va_rf (some ka'), va_rf (some va')], q1.1, ?_⟩
            rw [va_upS_ne (fun z => q1.2.1 (by rw [z]; exact hw.2.1 _ hj.2))]; exact q1.2.2
          · rw [nI_clamp (by omega), upS_upS, shR_step g (by omega) ga] at e51
            rw [e53, e51, show nI (m + 1) + (-1) = nI m from pk_m1 m]
            exact ih m (by omega) (by omega)
      have := key (L.length - placeF L k) L.length (by omega) (Nat.le_refl _)
      rw [shR_top, upS_id hg1] at this
      exact this
    · rcases Nat.lt_or_ge L.length 40 with q | q
      · exact absurd (nI_lt (b := 40) q (by omega)) z
      · exact q
  rw [w_X3_put]
  refine ⟨⟨_, h.o hw⟩, c_placeFrom h hw hk ⟨⟨_, h.o hw⟩, c_entryAt h hw (by omega) (fun q => ⟨fun _ => new ?_, fun b z => absurd z (by simp)⟩) (fun b q hE => ⟨fun z => absurd z (by simp), fun a12 ea => ?_⟩)⟩⟩
  · unfold findF; rw [if_neg (by omega)]
  · obtain rfl := Option.some.inj ea
    obtain ⟨ka', va', k1, k2, k3, k4, k5⟩ := hE
    refine ⟨some ka', ⟨k1.1, _, k1.2.2, rfl⟩, ka', rfl, k2.get.1, st_equals hu k2 hk (fun z => ⟨fun _ => ?_, fun w => absurd w (by decide)⟩) (fun z => ⟨fun w => absurd rfl w, fun _ => new ?_⟩)⟩
    · have hf : findF L k = some (placeF L k) := by unfold findF; rw [if_pos ⟨q, z⟩]
      have hnf : ¬ fullF L k := fun w => by rw [w.1] at hf; cases hf
      refine c_put_85 (p := placeF L k) hw hj h.2.2.2.1 hg1 (by omega) hmc hms hk hk3 hv hv3 (fun q' S' k' f' o' ent' => ?_)
      have eP : putF L k v = L.set (placeF L k) (k, v) := by
        unfold putF
        rw [hf]
      refine h1 hnf S' (ly1.mk hw hj k'.1 (fun a ha q1 q2 => f' a ha q2)) ?_
      rw [eP]
      refine ⟨hj.1, hj.2, by rw [List.length_set]; exact h40, by rw [List.length_set, f' _ (hw.at hj.1) (fun z => hne z.symm)]; exact h.2.2.2.1, _, o', fun e he => ?_⟩
      rw [List.length_set] at he
      rw [setL_getD q]
      by_cases q1 : e = placeF L k
      · rw [q1, va_up_self, if_pos rfl]; exact ⟨q', rfl, ent'⟩
      · rw [va_up_ne _ _ q1, if_neg q1]
        obtain ⟨a, q3, q4⟩ := hg2 e he
        exact ⟨a, q3, q4.kept k'⟩
    · unfold findF; rw [if_neg (fun w => z w.2)]
theorem c_removeAll {post : hS → Prop} (h : layC u mm S ad lv j L) (hw : wf mm S ad lv) (hp : ∀ S', ly1 mm ad lv j S S' → layC u mm S' ad lv j [] → post S') : w_X3_removeAll u post (ad (20 + j)) S := by
  have hj : lv (20 + j) ∧ lv (40 + j) := ⟨h.1, h.2.1⟩
  have hne : ad (40 + j) ≠ ad (20 + j) := hw.ne hj.2 hj.1 (by omega)
  obtain ⟨g, hg1, hg2⟩ := h.2.2.2.2
  rw [w_X3_removeAll]
  refine ⟨_, h.o hw, by simp, fun S4 e4 => hp S4 (ly1.mk hw hj (fun a ha => by rw [e4]; exact ha) (fun a ha q1 q2 => by rw [e4]; exact va_upS_ne q1)) ⟨hj.1, hj.2, by simp, by rw [e4]; exact va_upS_self, g, by rw [e4, va_upS_ne hne]; exact hg1, fun e he => absurd he (by simp)⟩⟩
/-- entries behind a place move down by one -/
def shL (g : Nat → Option Nat) (p m : Nat) : Nat → Option Nat := fun e => if p ≤ e ∧ e + 1 < m then g (e + 1) else g e
theorem shL_0 (g : Nat → Option Nat) (p : Nat) : shL g p (p + 1) = g := by
  funext e
  unfold shL
  rw [if_neg (by omega)]
theorem shL_step (g : Nat → Option Nat) {p m : Nat} (hm : p < m) {a : Nat} (ha : g m = some a) : va_up (shL g p m) (m - 1) (some a) = shL g p (m + 1) := by
  funext e
  by_cases h : e = m - 1
  · subst h
    rw [va_up_self]
    unfold shL
    rw [if_pos (by omega), ← ha]
    congr 1
    omega
  · rw [va_up_ne _ _ h]
    unfold shL
    by_cases q : p ≤ e ∧ e + 1 < m
    · rw [if_pos q, if_pos (by omega)]
    · rw [if_neg q, if_neg (by omega)]
theorem c_remove {post : hS → Prop} {ka p : Nat} {k : Tx} (hu : uOk u) (h : layC u mm S ad lv j L) (hw : wf mm S ad lv) (hk : tS u mm S ka k) (hf : findF L k = some p) (hp : ∀ S', ly1 mm ad lv j S S' → layC u mm S' ad lv j (L.eraseIdx p) → post S') : w_X3_remove u post (ad (20 + j)) (some ka) S := by
  have h40 := h.2.2.1
  have hle := placeF_le L k
  obtain ⟨hpl, hpe, hpk⟩ := findF_lt hf
  have hj : lv (20 + j) ∧ lv (40 + j) := ⟨h.1, h.2.1⟩
  obtain ⟨g, hg1, hg2⟩ := h.2.2.2.2
  have hne : ad (40 + j) ≠ ad (20 + j) := hw.ne hj.2 hj.1 (by omega)
  have key : ∀ n m, m + n = L.length → p < m → w_X3_remove_33 u post (ad (20 + j)) (n + 1) (nI m) (upS S (ad (40 + j)) (qE (u.2.1 3) 40 (shL g p m))) := by
    intro n
    induction n with
    | zero =>
      intro m hm hpm
      have o1 : (upS S (ad (40 + j)) (qE (u.2.1 3) 40 (shL g p m))).2 (ad (20 + j)) = .inr (4, [va_rf (some (ad (40 + j))), .int (nI L.length)]) := by rw [va_upS_ne (fun z => hne z.symm)]; exact h.2.2.2.1
      rw [w_X3_remove_33]
      refine ⟨_, ⟨hw.at hj.1, _, o1, rfl⟩, fun _ => ⟨nI L.length, ⟨hw.at hj.1, _, o1, rfl⟩, _, ⟨hw.at hj.1, o1⟩, by simp, fun S32 e32 => ?_⟩, fun w => absurd (nI_le (by omega) (by omega)) w⟩
      have el : nI L.length - 1 = nI (L.length - 1) := pk_sub (b := 1) (by omega)
      rw [el] at e32
      have k32 : kp mm mm S S32 := by
        rw [e32]
        exact (kp.up (hw.2.1 _ hj.2)).tr (kp.up (hw.2.1 _ hj.1))
      refine hp S32 (ly1.mk hw hj k32.1 (fun a ha q1 q2 => by rw [e32, va_upS_ne q1, va_upS_ne q2])) ⟨hj.1, hj.2, by rw [List.length_eraseIdx, if_pos hpl]; omega, by rw [e32, List.length_eraseIdx, if_pos hpl]; exact va_upS_self, _, by rw [e32, va_upS_ne hne]; exact va_upS_self, fun e he => ?_⟩
      rw [List.length_eraseIdx, if_pos hpl] at he
      rw [era_getD]
      unfold shL
      by_cases q1 : e < p
      · rw [if_neg (by omega), if_pos q1]
        obtain ⟨a, q3, q4⟩ := hg2 e (by omega)
        exact ⟨a, q3, q4.kept k32⟩
      · rw [if_pos (by omega), if_neg q1]
        obtain ⟨a, q3, q4⟩ := hg2 (e + 1) (by omega)
        exact ⟨a, q3, q4.kept k32⟩
    | succ n ih =>
      intro m hm hpm
      obtain ⟨a, ga, ea⟩ := hg2 m (by omega)
      have o1 : (upS S (ad (40 + j)) (qE (u.2.1 3) 40 (shL g p m))).2 (ad (20 + j)) = .inr (4, [va_rf (some (ad (40 + j))), .int (nI L.length)]) := by rw [va_upS_ne (fun z => hne z.symm)]; exact h.2.2.2.1
      have r1 : rQ (upS S (ad (40 + j)) (qE (u.2.1 3) 40 (shL g p m))) (u.2.1 3) (ad (40 + j)) 40 (shL g p m) := ⟨hw.at hj.2, va_upS_self⟩
      have rr : rR (upS S (ad (40 + j)) (qE (u.2.1 3) 40 (shL g p m))) (ad (20 + j)) 4 0 (some (ad (40 + j))) := ⟨hw.at hj.1, _, o1, rfl⟩
      rw [w_X3_remove_33]
      refine ⟨_, ⟨hw.at hj.1, _, o1, rfl⟩, fun w => absurd w (nI_ge (by omega) (by omega)), fun _ => ⟨_, rr, _, rr, _, rfl, 40, _, r1, vp_in_nI (by omega) (by omega), fun o eo => ?_⟩⟩
      rw [nI_clamp (by omega)] at eo
      have eo' : o = some a := by
        rw [eo]
        unfold shL
        rw [if_neg (by omega)]; exact ga
      have em : nI m - 1 = nI (m - 1) := pk_sub (b := 1) (by omega)
      rw [em]
      refine ⟨a, eo', _, rfl, 40, _, r1, vp_in_nI (by omega) (by omega), ?_, fun S49 e49 v51 e51 => ?_⟩
      · obtain ⟨ka', va', q1, -⟩ := ea
        refine ⟨[va_rf (some ka'), va_rf (some va')], q1.1, ?_⟩
        rw [va_upS_ne (fun z => q1.2.1 (by rw [z]; exact hw.2.1 _ hj.2))]; exact q1.2.2
      · rw [nI_clamp (by omega), upS_upS, shL_step g hpm ga] at e49
        rw [e51, e49, nI_1]
        exact ih (m + 1) (by omega) (by omega)
  rw [w_X3_remove]
  refine ⟨⟨_, h.o hw⟩, c_placeFrom h hw hk ⟨⟨_, h.o hw⟩, c_entryAt h hw (by omega) (fun q => absurd q (by omega)) (fun b q hE => ⟨fun z => absurd z (by simp), fun a12 ea => ?_⟩)⟩⟩
  obtain rfl := Option.some.inj ea
  obtain ⟨ka', va', k1, k2, k3, k4, k5⟩ := hE
  refine ⟨some ka', ⟨k1.1, _, k1.2.2, rfl⟩, ka', rfl, k2.get.1, st_equals hu k2 hk (fun z => ⟨fun _ v22 e22 => ⟨L.length - p - 1 + 1, ?_⟩, fun w => absurd w (by decide)⟩) (fun z => absurd (by rw [← hpe]; exact hpk) z)⟩
  rw [e22, nI_1, ← hpe]
  have := key (L.length - p - 1) (p + 1) (by omega) (by omega)
  rw [shL_0, upS_id hg1] at this
  exact this
/-- a layer takes the entries of another one -/
theorem c_takeAll {post : hS → Prop} {j' : Nat} {L' : Ly} (h : layC u mm S ad lv j L) (h' : layC u mm S ad lv j' L') (hw : wf mm S ad lv) (hjj : j ≠ j' ∧ j < 20 ∧ j' < 20) (hp : ∀ S', ly1 mm ad lv j S S' → layC u mm S' ad lv j L' → post S') : w_X3_takeAll u post (ad (20 + j)) (some (ad (20 + j'))) S := by
  have h40 := h.2.2.1
  have h40' := h'.2.2.1
  have hj : lv (20 + j) ∧ lv (40 + j) := ⟨h.1, h.2.1⟩
  have hj' : lv (20 + j') ∧ lv (40 + j') := ⟨h'.1, h'.2.1⟩
  obtain ⟨g, hg1, hg2⟩ := h.2.2.2.2
  obtain ⟨g', hg1', hg2'⟩ := h'.2.2.2.2
  have hne : ad (40 + j) ≠ ad (20 + j) := hw.ne hj.2 hj.1 (by omega)
  have n1 : ad (20 + j') ≠ ad (40 + j) := hw.ne hj'.1 hj.2 (by omega)
  have n2 : ad (40 + j') ≠ ad (40 + j) := hw.ne hj'.2 hj.2 (by omega)
  rw [w_X3_takeAll]
  refine ⟨L'.length + 1, ?_⟩
  have key : ∀ n m g0, m + n = L'.length → (∀ e, e < m → g0 e = g' e) → w_X3_takeAll_2 u post (ad (20 + j)) (n + 1) (some (ad (20 + j'))) (nI m) (upS S (ad (40 + j)) (qE (u.2.1 3) 40 g0)) := by
    intro n
    induction n with
    | zero =>
      intro m g0 hm hg0
      have o1 : (upS S (ad (40 + j)) (qE (u.2.1 3) 40 g0)).2 (ad (20 + j)) = .inr (4, [va_rf (some (ad (40 + j))), .int (nI L.length)]) := by rw [va_upS_ne (fun z => hne z.symm)]; exact h.2.2.2.1
      have o2 : (upS S (ad (40 + j)) (qE (u.2.1 3) 40 g0)).2 (ad (20 + j')) = .inr (4, [va_rf (some (ad (40 + j'))), .int (nI L'.length)]) := by rw [va_upS_ne n1]; exact h'.2.2.2.1
      rw [w_X3_takeAll_2]
      refine ⟨_, rfl, _, ⟨hw.at hj'.1, _, o2, rfl⟩, fun _ => ⟨_, ⟨hw.at hj'.1, _, o2, rfl⟩, _, ⟨hw.at hj.1, o1⟩, by simp, fun S11 e11 => ?_⟩, fun w => absurd (nI_le (by omega) (by omega)) w⟩
      have k11 : kp mm mm S S11 := by
        rw [e11]
        exact (kp.up (hw.2.1 _ hj.2)).tr (kp.up (hw.2.1 _ hj.1))
      refine hp S11 (ly1.mk hw hj k11.1 (fun a ha q1 q2 => by rw [e11, va_upS_ne q1, va_upS_ne q2])) ⟨hj.1, hj.2, h40', by rw [e11]; exact va_upS_self, g0, by rw [e11, va_upS_ne hne]; exact va_upS_self, fun e he => ?_⟩
      rw [hg0 e (by omega)]
      obtain ⟨a, q3, q4⟩ := hg2' e he
      exact ⟨a, q3, q4.kept k11⟩
    | succ n ih =>
      intro m g0 hm hg0
      have o1 : (upS S (ad (40 + j)) (qE (u.2.1 3) 40 g0)).2 (ad (20 + j)) = .inr (4, [va_rf (some (ad (40 + j))), .int (nI L.length)]) := by rw [va_upS_ne (fun z => hne z.symm)]; exact h.2.2.2.1
      have o2 : (upS S (ad (40 + j)) (qE (u.2.1 3) 40 g0)).2 (ad (20 + j')) = .inr (4, [va_rf (some (ad (40 + j'))), .int (nI L'.length)]) := by rw [va_upS_ne n1]; exact h'.2.2.2.1
      obtain ⟨a, ga, ea⟩ := hg2' m (by omega)
      rw [w_X3_takeAll_2]
      refine ⟨_, rfl, _, ⟨hw.at hj'.1, _, o2, rfl⟩, fun w => absurd w (nI_ge (by omega) (by omega)), fun _ => ⟨_, ⟨hw.at hj.1, _, o1, rfl⟩, _, ⟨hw.at hj'.1, _, o2, rfl⟩, _, rfl, 40, g', ⟨hw.at hj'.2, by rw [va_upS_ne n2]; exact hg1'⟩, vp_in_nI (by omega) (by omega), fun o eo => ?_⟩⟩
      rw [nI_clamp (by omega), ga] at eo
      refine ⟨a, eo, _, rfl, 40, g0, ⟨hw.at hj.2, va_upS_self⟩, vp_in_nI (by omega) (by omega), ?_, fun S28 e28 v30 e30 => ?_⟩
      · obtain ⟨ka', va', q1, -⟩ := ea
        refine ⟨[va_rf (some ka'), va_rf (some va')], q1.1, ?_⟩
        rw [va_upS_ne (fun z => q1.2.1 (by rw [z]; exact hw.2.1 _ hj.2))]; exact q1.2.2
      · rw [nI_clamp (by omega), upS_upS] at e28
        rw [e30, e28, nI_1]
        refine ih (m + 1) _ (by omega) (fun e he => ?_)
        by_cases q : e = m
        · rw [q, va_up_self, ga]
        · rw [va_up_ne _ _ q]; exact hg0 e (by omega)
  have := key L'.length 0 g (by omega) (fun e he => absurd he (by omega))
  rw [upS_id hg1] at this
  exact this
end CREP
