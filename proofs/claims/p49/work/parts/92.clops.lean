/-! THE CLASS: the calls on layers -/
section CREP
variable {u : hU} {d : Nat} {mm : List Nat} {ad : Nat → Nat} {lv : Nat → Prop} {s : AS} {S : hS}
/-- what slotAt answers -/
def sloR (ad : Nat → Nat) (x : Int32) (r : Option Nat) : Prop := (ixO x 6 = none ∧ r = none) ∨ ∃ i, i < 6 ∧ x = nI i ∧ ixO x 6 = some i ∧ r = some (ad (10 + i))
def lyR (ad : Nat → Nat) (x : Int32) (r : Option Nat) : Prop := (ixO x 4 = none ∧ r = none) ∨ ∃ i, i < 4 ∧ x = nI i ∧ ixO x 4 = some i ∧ r = some (ad (20 + i))
theorem sloR.nn {x : Int32} {r : Option Nat} (h : sloR ad x r) (hr : r = none) : ixO x 6 = none := by
  rcases h with h | ⟨i, -, -, -, h⟩
  · exact h.1
  · rw [h] at hr; cases hr
theorem sloR.sm {x : Int32} {r : Option Nat} {a : Nat} (h : sloR ad x r) (hr : r = some a) : ∃ i, i < 6 ∧ x = nI i ∧ ixO x 6 = some i ∧ a = ad (10 + i) := by
  rcases h with h | ⟨i, h1, h2, h3, h⟩
  · rw [h.2] at hr; cases hr
  · rw [h] at hr; exact ⟨i, h1, h2, h3, (Option.some.inj hr).symm⟩
theorem lyR.nn {x : Int32} {r : Option Nat} (h : lyR ad x r) (hr : r = none) : ixO x 4 = none := by
  rcases h with h | ⟨i, -, -, -, h⟩
  · exact h.1
  · rw [h] at hr; cases hr
theorem lyR.sm {x : Int32} {r : Option Nat} {a : Nat} (h : lyR ad x r) (hr : r = some a) : ∃ i, i < 4 ∧ x = nI i ∧ ixO x 4 = some i ∧ a = ad (20 + i) := by
  rcases h with h | ⟨i, h1, h2, h3, h⟩
  · rw [h.2] at hr; cases hr
  · rw [h] at hr; exact ⟨i, h1, h2, h3, (Option.some.inj hr).symm⟩
theorem c_slotR {post : Option Nat → Prop} (x : Int32) (h : cR u d mm ad lv s S) (hp : ∀ r, sloR ad x r → post r) : w_X9_slotAt u post d x S :=
  c_slotAt x h (fun e => hp _ (Or.inl ⟨e, rfl⟩)) (fun i hi hx e => hp _ (Or.inr ⟨i, hi, hx, e, rfl⟩))
theorem c_layR {post : Option Nat → Prop} {lp : Nat} (x : Int32) (hP : pileC u mm S ad 20 lp) (hp : ∀ r, lyR ad x r → post r) : w_X4_layerAt u post lp x S :=
  c_layerAt x hP (fun e => hp _ (Or.inl ⟨e, rfl⟩)) (fun i hi hx e => hp _ (Or.inr ⟨i, hi, hx, e, rfl⟩))
theorem cR.pl (h : cR u d mm ad lv s S) : ∃ lp, rR S d 10 2 (some lp) ∧ pileC u mm S ad 20 lp := by
  obtain ⟨sr, sg, lp, k1, k2, k3, k4⟩ := h.dr
  exact ⟨lp, k1.r rfl, k4⟩
theorem cR.ly (h : cR u d mm ad lv s S) {l : Nat} (hl : l < 4) : layC u mm S ad lv l (aLy s l) := h.2.2.2.2.2.1 l hl
/-- one of the four layers changes -/
theorem cR.layer {S' : hS} {l : Nat} {L : Ly} (h : cR u d mm ad lv s S) (hl : l < 4) (h1 : ly1 mm ad lv l S S') (hL : layC u mm S' ad lv l L) : cR u d mm ad lv (sLy s l L) S' := by
  obtain ⟨h0, hw, k1, k2, k3, k4, ⟨Lt, k5⟩, k6, k7, k8⟩ := h
  have hs := h1.2
  have no : ∀ (P : Nat → Prop) (c : Nat), False → ¬ P c := fun _ _ z => absurd z (fun z => z)
  refine ⟨h0, h1.1, k1.keep hs (no _) (by omega), k2.keep hs (by rintro c (rfl | rfl) <;> omega), k3.keep hs (no _) (by rintro c (rfl | rfl) <;> omega), fun j hj => ?_, ⟨Lt, k5.keep hs ⟨fun z => z, fun z => z⟩ ⟨by omega, by omega⟩⟩, k6.keep hs (no _) (by rintro c (rfl | rfl) <;> omega), k7.keep hs (no _) (by rintro c (rfl | rfl) <;> omega), k8.keep hs (no _) (by rintro c (rfl | rfl) <;> omega)⟩
  show layC u mm S' ad lv j (va_up (aLy s) l L j)
  by_cases q : j = l
  · subst q; rw [va_up_self]; exact hL
  · rw [va_up_ne _ _ q]
    exact (k4 j hj).keep hs ⟨fun z => z, fun z => z⟩ ⟨by omega, by omega⟩
theorem c_size {post : Int32 → Prop} (x : Int32) (hR : cRep u d s S) (hp : post (op_size x s).1) : w_X9_size u post d x S := by
  obtain ⟨mm, ad, lv, h⟩ := id hR
  obtain ⟨lp, k1, k2⟩ := h.pl
  rw [w_X9_size]
  refine ⟨_, k1, _, rfl, k2.fs, c_layR x k2 (fun r hr => ⟨fun z => ?_, fun a z => ?_⟩)⟩
  · simp only [op_size, hr.nn z] at hp; exact hp
  · obtain ⟨l, hl, hx, e, rfl⟩ := hr.sm z
    simp only [op_size, e] at hp
    exact ⟨⟨_, (h.ly hl).o h.2.1⟩, c_entryCount (h.ly hl) h.2.1 hp⟩
theorem c_empty {post : Int32 → hS → Prop} (x : Int32) (hR : cRep u d s S) (hp : ∀ S', cRep u d (op_empty x s).2 S' → post (op_empty x s).1 S') : w_X9_empty u post d x S := by
  obtain ⟨mm, ad, lv, h⟩ := id hR
  obtain ⟨lp, k1, k2⟩ := h.pl
  rw [w_X9_empty]
  refine ⟨_, k1, _, rfl, k2.fs, c_layR x k2 (fun r hr => ⟨fun z => ?_, fun a z => ?_⟩)⟩
  · simp only [op_empty, hr.nn z] at hp; exact hp S hR
  · obtain ⟨l, hl, hx, e, rfl⟩ := hr.sm z
    simp only [op_empty, e] at hp
    exact ⟨⟨_, (h.ly hl).o h.2.1⟩, c_entryCount (h.ly hl) h.2.1 ⟨⟨_, (h.ly hl).o h.2.1⟩, c_removeAll (h.ly hl) h.2.1 (fun S' h1 h2 => hp S' ⟨mm, ad, lv, h.layer hl h1 h2⟩)⟩⟩
theorem c_digest {post : Int32 → Prop} (x : Int32) (hR : cRep u d s S) (hp : post (op_digest x s).1) : w_X9_digest u post d x S := by
  obtain ⟨mm, ad, lv, h⟩ := id hR
  obtain ⟨lp, k1, k2⟩ := h.pl
  rw [w_X9_digest]
  refine ⟨_, k1, _, rfl, k2.fs, c_layR x k2 (fun r hr => ⟨fun z => ?_, fun a z => ?_⟩)⟩
  · simp only [op_digest, hr.nn z] at hp; exact hp
  · obtain ⟨l, hl, hx, e, rfl⟩ := hr.sm z
    simp only [op_digest, e] at hp
    exact ⟨⟨_, (h.ly hl).o h.2.1⟩, c_digestNumber (h.ly hl) h.2.1 hp⟩
theorem c_alike {post : Int32 → Prop} (x y : Int32) (hR : cRep u d s S) (hp : post (op_alike x y s).1) : w_X9_alike u post d x y S := by
  obtain ⟨mm, ad, lv, h⟩ := id hR
  obtain ⟨lp, k1, k2⟩ := h.pl
  rw [w_X9_alike]
  refine ⟨_, k1, _, rfl, k2.fs, c_layR x k2 (fun r hr => ⟨_, k1, _, rfl, k2.fs, c_layR y k2 (fun r2 hr2 => ⟨fun z => ?_, fun a z => ⟨fun z2 => ?_, fun a2 z2 => ?_⟩⟩)⟩)⟩
  · simp only [op_alike, hr.nn z] at hp; exact hp
  · obtain ⟨l, hl, hx, e, rfl⟩ := hr.sm z
    simp only [op_alike, e, hr2.nn z2] at hp; exact hp
  · obtain ⟨l, hl, hx, e, rfl⟩ := hr.sm z
    obtain ⟨l2, hl2, hx2, e2, rfl⟩ := hr2.sm z2
    simp only [op_alike, e, e2] at hp
    refine ⟨⟨_, (h.ly hl).o h.2.1⟩, c_hasEntriesOf h.1.1 (h.ly hl) (h.ly hl2) h.2.1 (fun q => ⟨fun w => absurd w (by decide), fun _ => ?_⟩) (fun q => ⟨fun _ => ?_, fun w => absurd rfl w⟩)⟩
    · rw [if_pos q] at hp; exact hp
    · rw [if_neg q] at hp; exact hp
/-- a key's slot: nothing, or a text -/
theorem oT.cs {o : Option Nat} {v : Option Tx} (h : oT u mm S o v) {P : Prop} (h0 : v = none → o = none → P) (h1 : ∀ a t, v = some t → o = some a → tS u mm S a t → t.length ≤ 300 → P) : P := by
  cases v with
  | none => exact h0 rfl h
  | some t => obtain ⟨a, rfl, q1, q2⟩ := h; exact h1 a t rfl rfl q1 q2
theorem c_has {post : Int32 → hS → Prop} (x y : Int32) (hR : cRep u d s S) (hp : ∀ S', cRep u d (op_has x y s).2 S' → post (op_has x y s).1 S') : w_X9_has u post d x y S := by
  obtain ⟨mm, ad, lv, h⟩ := id hR
  obtain ⟨lp, k1, k2⟩ := h.pl
  rw [w_X9_has]
  refine ⟨_, k1, _, rfl, k2.fs, c_layR x k2 (fun r hr => ⟨h.fs, c_slotR y h (fun r2 hr2 => ⟨fun z => ?_, fun a z => ⟨fun z2 => ?_, fun a2 z2 => ?_⟩⟩)⟩)⟩
  · simp only [op_has, hr.nn z] at hp; exact hp S hR
  · obtain ⟨l, hl, hx, e, rfl⟩ := hr.sm z
    simp only [op_has, e, hr2.nn z2] at hp; exact hp S hR
  · obtain ⟨l, hl, hx, e, rfl⟩ := hr.sm z
    obtain ⟨i, hi, hy, ey, rfl⟩ := hr2.sm z2
    simp only [op_has, e, ey] at hp
    obtain ⟨o, k, ho⟩ := h.sl hi
    refine ⟨o, k.r rfl, ho.cs (fun hv eo => ⟨fun _ => ⟨h.fs, c_refuseNull hR (fun S' h' => ?_)⟩, fun b w => absurd w (by rw [eo]; simp)⟩) (fun b t hv eo hT ht => ⟨fun w => absurd w (by rw [eo]; simp), fun b2 _ => ⟨o, k.r rfl, ⟨_, (h.ly hl).o h.2.1⟩, ?_⟩⟩)⟩
    · simp only [hv, nullS] at hp; exact hp S' h'
    · simp only [hv] at hp
      rw [eo]
      refine c_valueOf h.1.1 (h.ly hl) h.2.1 hT (fun q => ⟨fun _ => ?_, fun b w => absurd w (by simp)⟩) (fun p va q _ _ => ⟨fun w => absurd w (by simp), fun b _ => ?_⟩)
      · rw [if_pos q] at hp; exact hp S hR
      · rw [if_neg (by rw [q]; simp)] at hp; exact hp S hR
theorem c_layerOf {post : Int32 → hS → Prop} (x y : Int32) (hR : cRep u d s S) (hp : ∀ S', cRep u d (op_layerOf x y s).2 S' → post (op_layerOf x y s).1 S') : w_X9_layerOf u post d x y S := by
  obtain ⟨mm, ad, lv, h⟩ := id hR
  obtain ⟨lp, k1, k2⟩ := h.pl
  rw [w_X9_layerOf]
  refine ⟨h.fs, c_slotR y h (fun r2 hr2 => ⟨_, k1, _, rfl, k2.fs, c_layR x k2 (fun r hr => ⟨fun z => ?_, fun a z => ⟨fun z2 => ?_, fun a2 z2 => ?_⟩⟩)⟩)⟩
  · simp only [op_layerOf, hr.nn z] at hp; exact hp S hR
  · obtain ⟨l, hl, hx, e, rfl⟩ := hr.sm z
    simp only [op_layerOf, e, hr2.nn z2] at hp; exact hp S hR
  · obtain ⟨l, hl, hx, e, rfl⟩ := hr.sm z
    obtain ⟨i, hi, hy, ey, rfl⟩ := hr2.sm z2
    simp only [op_layerOf, e, ey] at hp
    obtain ⟨o, k, ho⟩ := h.sl hi
    refine ⟨o, k.r rfl, ho.cs (fun hv eo => ⟨fun _ => ⟨h.fs, c_refuseNull hR (fun S' h' => ?_)⟩, fun b w => absurd w (by rw [eo]; simp)⟩) (fun b t hv eo hT ht => ⟨fun w => absurd w (by rw [eo]; simp), fun b2 _ => ⟨_, k1, o, k.r rfl, _, rfl, k2.fs, ?_⟩⟩)⟩
    · simp only [hv, nullS] at hp; exact hp S' h'
    · simp only [hv] at hp
      rw [eo, hx]
      exact c_layerHaving (b := 0) h.1.1 k2 (fun l hl => by rw [Nat.zero_add]; exact h.ly hl) h.2.1 hT hl (hp S hR)
theorem c_get {post : Int32 → hS → Prop} (x y z : Int32) (hR : cRep u d s S) (hp : ∀ S', cRep u d (op_get x y z s).2 S' → post (op_get x y z s).1 S') : w_X9_get u post d x y z S := by
  obtain ⟨mm, ad, lv, h⟩ := id hR
  obtain ⟨lp, k1, k2⟩ := h.pl
  rw [w_X9_get]
  refine ⟨h.fs, c_slotR y h (fun r2 hr2 => ⟨h.fs, c_slotR z h (fun r3 hr3 => ⟨_, k1, _, rfl, k2.fs, c_layR x k2 (fun r hr => ⟨fun q1 => ?_, fun a q1 => ⟨fun q2 => ?_, fun a2 q2 => ⟨fun q3 => ?_, fun a3 q3 => ?_⟩⟩⟩)⟩)⟩)⟩
  · simp only [op_get, hr.nn q1] at hp; exact hp S hR
  · obtain ⟨l, hl, hx, e, rfl⟩ := hr.sm q1
    simp only [op_get, e, hr2.nn q2] at hp; exact hp S hR
  · obtain ⟨l, hl, hx, e, rfl⟩ := hr.sm q1
    obtain ⟨i, hi, hy, ey, rfl⟩ := hr2.sm q2
    simp only [op_get, e, ey, hr3.nn q3] at hp; exact hp S hR
  · obtain ⟨l, hl, hx, e, rfl⟩ := hr.sm q1
    obtain ⟨i, hi, hy, ey, rfl⟩ := hr2.sm q2
    obtain ⟨t0, ht0, hz, ez, rfl⟩ := hr3.sm q3
    simp only [op_get, e, ey, ez] at hp
    obtain ⟨o, k, ho⟩ := h.sl hi
    refine ⟨o, k.r rfl, ho.cs (fun hv eo => ⟨fun _ => ⟨h.fs, c_refuseNull hR (fun S' h' => ?_)⟩, fun b w => absurd w (by rw [eo]; simp)⟩) (fun b t hv eo hT ht => ⟨fun w => absurd w (by rw [eo]; simp), fun b2 _ => ⟨_, k1, o, k.r rfl, _, rfl, k2.fs, ?_⟩⟩)⟩
    · simp only [hv, nullS] at hp; exact hp S' h'
    · simp only [hv] at hp
      rw [eo, hx]
      refine c_lookUp (b := 0) h.1.1 k2 (fun l hl => by rw [Nat.zero_add]; exact h.ly hl) h.2.1 hT hl (fun q => ⟨fun _ => ?_, fun b w => absurd w (by simp)⟩) (fun va v q hv hv3 => ⟨fun w => absurd w (by simp), fun b w => ?_⟩)
      · simp only [q] at hp; exact hp S hR
      · obtain rfl := Option.some.inj w
        simp only [q] at hp
        exact c_putInto h ht0 hv hv3 (fun S' h' => hp S' ⟨mm, ad, lv, h'⟩)
theorem c_getOr {post : Int32 → hS → Prop} (x y w z : Int32) (hR : cRep u d s S) (hp : ∀ S', cRep u d (op_getOr x y w z s).2 S' → post (op_getOr x y w z s).1 S') : w_X9_getOr u post d x y w z S := by
  obtain ⟨mm, ad, lv, h⟩ := id hR
  obtain ⟨lp, k1, k2⟩ := h.pl
  rw [w_X9_getOr]
  refine ⟨h.fs, c_slotR y h (fun r2 hr2 => ⟨h.fs, c_slotR w h (fun r4 hr4 => ⟨h.fs, c_slotR z h (fun r3 hr3 => ⟨_, k1, _, rfl, k2.fs, c_layR x k2 (fun r hr => ⟨fun q1 => ?_, fun a q1 => ⟨fun q2 => ?_, fun a2 q2 => ⟨fun q4 => ?_, fun a4 q4 => ⟨fun q3 => ?_, fun a3 q3 => ?_⟩⟩⟩⟩)⟩)⟩)⟩)⟩
  · simp only [op_getOr, hr.nn q1] at hp; exact hp S hR
  · obtain ⟨l, hl, hx, e, rfl⟩ := hr.sm q1
    simp only [op_getOr, e, hr2.nn q2] at hp; exact hp S hR
  · obtain ⟨l, hl, hx, e, rfl⟩ := hr.sm q1
    obtain ⟨i, hi, hy, ey, rfl⟩ := hr2.sm q2
    simp only [op_getOr, e, ey, hr4.nn q4] at hp; exact hp S hR
  · obtain ⟨l, hl, hx, e, rfl⟩ := hr.sm q1
    obtain ⟨i, hi, hy, ey, rfl⟩ := hr2.sm q2
    obtain ⟨i4, hi4, hy4, ey4, rfl⟩ := hr4.sm q4
    simp only [op_getOr, e, ey, ey4, hr3.nn q3] at hp; exact hp S hR
  · obtain ⟨l, hl, hx, e, rfl⟩ := hr.sm q1
    obtain ⟨i, hi, hy, ey, rfl⟩ := hr2.sm q2
    obtain ⟨i4, hi4, hy4, ey4, rfl⟩ := hr4.sm q4
    obtain ⟨t0, ht0, hz, ez, rfl⟩ := hr3.sm q3
    simp only [op_getOr, e, ey, ey4, ez] at hp
    obtain ⟨o, k, ho⟩ := h.sl hi
    obtain ⟨o4, k4, ho4⟩ := h.sl hi4
    refine ⟨o, k.r rfl, ho.cs (fun hv eo => ⟨fun _ => ⟨h.fs, c_refuseNull hR (fun S' h' => ?_)⟩, fun b w => absurd w (by rw [eo]; simp)⟩) (fun b t hv eo hT ht => ⟨fun w => absurd w (by rw [eo]; simp), fun b2 _ => ⟨_, k1, o, k.r rfl, _, rfl, k2.fs, ?_⟩⟩)⟩
    · simp only [hv, nullS] at hp; exact hp S' h'
    · simp only [hv] at hp
      rw [eo, hx]
      refine c_lookUp (b := 0) h.1.1 k2 (fun l hl => by rw [Nat.zero_add]; exact h.ly hl) h.2.1 hT hl (fun q => ⟨fun _ => ⟨o4, k4.r rfl, ?_⟩, fun b w => absurd w (by simp)⟩) (fun va v q hv hv3 => ⟨fun w => absurd w (by simp), fun b w => ?_⟩)
      · simp only [q] at hp
        rw [w_X9_getOr_90]
        refine ho4.cs (fun hv eo => ⟨fun _ => ?_, fun b w => absurd w (by rw [eo]; simp)⟩) (fun b v hv eo hV hv3 => ⟨fun w => absurd w (by rw [eo]; simp), fun b2 w => ?_⟩)
        · simp only [hv] at hp; exact hp S hR
        · rw [eo] at w
          obtain rfl := Option.some.inj w
          simp only [hv] at hp
          exact c_putInto h ht0 hV hv3 (fun S' h' => hp S' ⟨mm, ad, lv, h'⟩)
      · obtain rfl := Option.some.inj w
        simp only [q] at hp
        rw [w_X9_getOr_90]
        refine ⟨fun w => absurd w (by simp), fun b2 w => ?_⟩
        obtain rfl := Option.some.inj w
        exact c_putInto h ht0 hv hv3 (fun S' h' => hp S' ⟨mm, ad, lv, h'⟩)
theorem c_keyFrom {post : Int32 → hS → Prop} (x y z : Int32) (hR : cRep u d s S) (hp : ∀ S', cRep u d (op_keyFrom x y z s).2 S' → post (op_keyFrom x y z s).1 S') : w_X9_keyFrom u post d x y z S := by
  obtain ⟨mm, ad, lv, h⟩ := id hR
  obtain ⟨lp, k1, k2⟩ := h.pl
  rw [w_X9_keyFrom]
  refine ⟨_, k1, _, rfl, k2.fs, c_layR x k2 (fun r hr => ⟨h.fs, c_slotR y h (fun r2 hr2 => ⟨h.fs, c_slotR z h (fun r3 hr3 => ⟨fun q1 => ?_, fun a q1 => ⟨fun q2 => ?_, fun a2 q2 => ⟨fun q3 => ?_, fun a3 q3 => ?_⟩⟩⟩)⟩)⟩)⟩
  · simp only [op_keyFrom, hr.nn q1] at hp; exact hp S hR
  · obtain ⟨l, hl, hx, e, rfl⟩ := hr.sm q1
    simp only [op_keyFrom, e, hr2.nn q2] at hp; exact hp S hR
  · obtain ⟨l, hl, hx, e, rfl⟩ := hr.sm q1
    obtain ⟨i, hi, hy, ey, rfl⟩ := hr2.sm q2
    simp only [op_keyFrom, e, ey, hr3.nn q3] at hp; exact hp S hR
  · obtain ⟨l, hl, hx, e, rfl⟩ := hr.sm q1
    obtain ⟨i, hi, hy, ey, rfl⟩ := hr2.sm q2
    obtain ⟨t0, ht0, hz, ez, rfl⟩ := hr3.sm q3
    simp only [op_keyFrom, e, ey, ez] at hp
    obtain ⟨o, k, ho⟩ := h.sl hi
    have hL := h.ly hl
    have h40 := hL.2.2.1
    refine ⟨o, k.r rfl, ho.cs (fun hv eo => ⟨fun _ => ?_, fun b w => absurd w (by rw [eo]; simp)⟩) (fun b t hv eo hT ht => ⟨fun w => absurd w (by rw [eo]; simp), fun b2 _ => ⟨o, k.r rfl, ⟨_, hL.o h.2.1⟩, ?_⟩⟩)⟩
    · simp only [hv] at hp; exact hp S hR
    · simp only [hv] at hp
      rw [eo]
      have hle := placeF_le (aLy s l) t
      refine c_placeFrom hL h.2.1 hT ⟨⟨_, hL.o h.2.1⟩, c_keyAt hL h.2.1 (by omega) (fun q => ⟨fun _ => ?_, fun b w => absurd w (by simp)⟩) (fun ka q hk hk3 => ⟨fun w => absurd w (by simp), fun b w => ?_⟩)⟩
      · rw [if_pos (by omega)] at hp; exact hp S hR
      · obtain rfl := Option.some.inj w
        rw [if_neg (by omega)] at hp
        exact c_putInto h ht0 hk hk3 (fun S' h' => hp S' ⟨mm, ad, lv, h'⟩)
theorem c_drop {post : Int32 → hS → Prop} (x y z : Int32) (hR : cRep u d s S) (hp : ∀ S', cRep u d (op_drop x y z s).2 S' → post (op_drop x y z s).1 S') : w_X9_drop u post d x y z S := by
  obtain ⟨mm, ad, lv, h⟩ := id hR
  obtain ⟨lp, k1, k2⟩ := h.pl
  rw [w_X9_drop]
  refine ⟨_, k1, _, rfl, k2.fs, c_layR x k2 (fun r hr => ⟨h.fs, c_slotR y h (fun r2 hr2 => ⟨h.fs, c_slotR z h (fun r3 hr3 => ⟨fun q1 => ?_, fun a q1 => ⟨fun q2 => ?_, fun a2 q2 => ⟨fun q3 => ?_, fun a3 q3 => ?_⟩⟩⟩)⟩)⟩)⟩
  · simp only [op_drop, hr.nn q1] at hp; exact hp S hR
  · obtain ⟨l, hl, hx, e, rfl⟩ := hr.sm q1
    simp only [op_drop, e, hr2.nn q2] at hp; exact hp S hR
  · obtain ⟨l, hl, hx, e, rfl⟩ := hr.sm q1
    obtain ⟨i, hi, hy, ey, rfl⟩ := hr2.sm q2
    simp only [op_drop, e, ey, hr3.nn q3] at hp; exact hp S hR
  · obtain ⟨l, hl, hx, e, rfl⟩ := hr.sm q1
    obtain ⟨i, hi, hy, ey, rfl⟩ := hr2.sm q2
    obtain ⟨t0, ht0, hz, ez, rfl⟩ := hr3.sm q3
    simp only [op_drop, e, ey, ez] at hp
    obtain ⟨o, k, ho⟩ := h.sl hi
    have hL := h.ly hl
    refine ⟨o, k.r rfl, ho.cs (fun hv eo => ⟨fun _ => ⟨h.fs, c_refuseNull hR (fun S' h' => ?_)⟩, fun b w => absurd w (by rw [eo]; simp)⟩) (fun b t hv eo hT ht => ⟨fun w => absurd w (by rw [eo]; simp), fun b2 _ => ⟨o, k.r rfl, ⟨_, hL.o h.2.1⟩, ?_⟩⟩)⟩
    · simp only [hv, nullS] at hp; exact hp S' h'
    · simp only [hv] at hp
      subst eo
      refine c_valueOf h.1.1 hL h.2.1 hT (fun q => ⟨fun _ => ?_, fun b w => absurd w (by simp)⟩) (fun p va q hV hv3 => ⟨fun w => absurd w (by simp), fun b w => ⟨_, k.r rfl, ⟨_, hL.o h.2.1⟩, ?_⟩⟩)
      · simp only [q] at hp; exact hp S hR
      · obtain rfl := Option.some.inj w
        simp only [q] at hp
        refine c_remove h.1.1 hL h.2.1 hT q (fun S46 h1 hL' => ?_)
        have h46 := h.layer hl h1 hL'
        obtain ⟨o3, k3, ho3⟩ := h46.sl ht0
        refine ⟨_, k3, by simp, fun S51 e51 => ?_⟩
        have h51 := h46.slot ht0 (o := some va) (v := some ((aLy s l).getD p ([], [])).2) ⟨va, rfl, hV.kept h1.2.1, hv3⟩ e51
        have hL5 := h51.ly hl
        refine ⟨⟨_, hL5.o h51.2.1⟩, c_entryCount hL5 h51.2.1 ?_⟩
        have h9 := hp S51 ⟨mm, ad, lv, h51⟩
        have el : (aLy (sSl (sLy s l ((aLy s l).eraseIdx p)) t0 (some ((aLy s l).getD p ([], [])).2)) l) = (aLy s l).eraseIdx p := va_up_self _ _ _
        rw [el, List.length_eraseIdx, if_pos (findF_lt q).1]
        exact h9
theorem c_set {post : Int32 → hS → Prop} {mc ms : Nat} (hmc : 1100 ≤ mc) (hms : 13600 ≤ ms) (x y v z : Int32) (hR : cRep u d s S) (hp : ∀ S', cRep u d (op_set x y v z s).2 S' → post (op_set x y v z s).1 S') : w_X9_set u post d x y v z S mc ms := by
  obtain ⟨mm, ad, lv, h⟩ := id hR
  obtain ⟨lp, k1, k2⟩ := h.pl
  rw [w_X9_set]
  refine ⟨_, k1, _, rfl, k2.fs, c_layR x k2 (fun r hr => ⟨h.fs, c_slotR y h (fun r2 hr2 => ⟨h.fs, c_slotR v h (fun r4 hr4 => ⟨h.fs, c_slotR z h (fun r3 hr3 => ⟨fun q1 => ?_, fun a q1 => ⟨fun q2 => ?_, fun a2 q2 => ⟨fun q4 => ?_, fun a4 q4 => ⟨fun q3 => ?_, fun a3 q3 => ?_⟩⟩⟩⟩)⟩)⟩)⟩)⟩
  · simp only [op_set, hr.nn q1] at hp; exact hp S hR
  · obtain ⟨l, hl, hx, e, rfl⟩ := hr.sm q1
    simp only [op_set, e, hr2.nn q2] at hp; exact hp S hR
  · obtain ⟨l, hl, hx, e, rfl⟩ := hr.sm q1
    obtain ⟨i, hi, hy, ey, rfl⟩ := hr2.sm q2
    simp only [op_set, e, ey, hr4.nn q4] at hp; exact hp S hR
  · obtain ⟨l, hl, hx, e, rfl⟩ := hr.sm q1
    obtain ⟨i, hi, hy, ey, rfl⟩ := hr2.sm q2
    obtain ⟨i4, hi4, hy4, ey4, rfl⟩ := hr4.sm q4
    simp only [op_set, e, ey, ey4, hr3.nn q3] at hp; exact hp S hR
  · obtain ⟨l, hl, hx, e, rfl⟩ := hr.sm q1
    obtain ⟨i, hi, hy, ey, rfl⟩ := hr2.sm q2
    obtain ⟨i4, hi4, hy4, ey4, rfl⟩ := hr4.sm q4
    obtain ⟨t0, ht0, hz, ez, rfl⟩ := hr3.sm q3
    simp only [op_set, e, ey, ey4, ez] at hp
    obtain ⟨o, k, ho⟩ := h.sl hi
    obtain ⟨o4, k4, ho4⟩ := h.sl hi4
    have hL := h.ly hl
    refine ⟨o4, k4.r rfl, ho4.cs (fun hv eo => ⟨fun _ => ?_, fun b w => absurd w (by rw [eo]; simp)⟩) (fun vb vt hv eo4 hV hv3 => ⟨fun w => absurd w (by rw [eo4]; simp), fun b2 _ => ⟨o, k.r rfl, ?_⟩⟩)⟩
    · simp only [hv] at hp; exact hp S hR
    simp only [hv] at hp
    refine ho.cs (fun hv eo => ⟨fun _ => ⟨h.fs, c_refuseNull hR (fun S' h' => ?_)⟩, fun b w => absurd w (by rw [eo]; simp)⟩) (fun b t hv eo hT ht => ⟨fun w => absurd w (by rw [eo]; simp), fun b2 _ => ⟨o, k.r rfl, ⟨_, hL.o h.2.1⟩, ?_⟩⟩)
    · simp only [hv, nullS] at hp; exact hp S' h'
    simp only [hv] at hp
    have rest : ∀ (r46 : Option Nat) (prev : Option Tx), oT u mm S r46 prev → (fullF (aLy s l) t → post (-3) S) → (¬ fullF (aLy s l) t → ∀ S', cRep u d (sLy (sSl s t0 prev) l (putF (aLy s l) t vt)) S' → post (nI (putF (aLy s l) t vt).length) S') → (∃ k56 n57 : Nat, k56 ≤ mc ∧ n57 ≤ ms ∧ (w_X3_put u (fun r55 S61 => ((¬ r55 = (0 : Int32) → (∃ fs64 : List Value, rO S61 (ad (10 + t0)) 7 fs64 ∧ 0 < fs64.length ∧ (∀ S67 : hS, S67 = upS S61 (ad (10 + t0)) (.inr (7, fs64.set 0 (va_rf r46))) → ((∃ fs, rO S67 (ad (20 + l)) 4 fs) ∧ (w_X3_entryCount u (fun r68 => post r68 S67) (ad (20 + l))  S67))))) ∧ (r55 = (0 : Int32) → post (-3) S61))) (ad (20 + l)) (some b) (some vb) S k56 n57)) := by
      intro r46 prev hprev hfull hnew
      refine ⟨1, 2, by omega, by omega, c_put h.1.1 hL h.2.1 (Nat.le_refl _) (Nat.le_refl _) hT ht hV hv3 (fun q => ⟨fun w => absurd rfl w, fun _ => hfull q⟩) (fun q S61 h1 hL' => ⟨fun _ => ?_, fun w => absurd w (by decide)⟩)⟩
      have h61 := h.layer hl h1 hL'
      obtain ⟨o3, k3, ho3⟩ := h61.sl ht0
      refine ⟨_, k3, by simp, fun S67 e67 => ?_⟩
      have h67 := h61.slot ht0 (hprev.kept h1.2.1) e67
      have hL6 := h67.ly hl
      refine ⟨⟨_, hL6.o h67.2.1⟩, c_entryCount hL6 h67.2.1 ?_⟩
      have h9 := hnew q S67 ⟨mm, ad, lv, h67⟩
      have el : (aLy (sSl (sLy s l (putF (aLy s l) t vt)) t0 prev) l) = putF (aLy s l) t vt := va_up_self _ _ _
      rw [el]
      exact h9
    subst eo eo4
    refine c_valueOf h.1.1 hL h.2.1 hT (fun q => ⟨_, k.r rfl, _, k4.r rfl, ⟨_, hL.o h.2.1⟩, ?_⟩) (fun p va q hV2 hv4 => ⟨_, k.r rfl, _, k4.r rfl, ⟨_, hL.o h.2.1⟩, ?_⟩)
    · simp only [q] at hp
      refine rest none none rfl (fun w => ?_) (fun w S' h' => ?_)
      · rw [if_pos w.2] at hp; exact hp S hR
      · rw [if_neg (fun w2 => w ⟨q, w2⟩)] at hp; exact hp S' h'
    · simp only [q] at hp
      exact rest (some va) (some _) ⟨va, rfl, hV2, hv4⟩ (fun w => absurd w.1 (by rw [q]; simp)) (fun w S' h' => hp S' h')
end CREP
