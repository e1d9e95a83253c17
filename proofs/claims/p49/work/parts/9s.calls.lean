/-! THE CALLS in the cases that the law comes to: answer and state, plainly -/
theorem sl_self (s : AS) (i : Nat) (v : Option Tx) : aSl (sSl s i v) i = v := va_up_self _ _ _
theorem sl_ne (s : AS) {i j : Nat} (v : Option Tx) (h : j ≠ i) : aSl (sSl s i v) j = aSl s j := va_up_ne _ _ h
theorem up_up {α : Type} (f : Nat → α) (k : Nat) (v w : α) : va_up (va_up f k v) k w = va_up f k w := by
  funext j
  by_cases q : j = k
  · rw [q, va_up_self, va_up_self]
  · rw [va_up_ne _ _ q, va_up_ne _ _ q, va_up_ne _ _ q]
theorem sl_sl (s : AS) (i : Nat) (v w : Option Tx) : sSl (sSl s i v) i w = sSl s i w := by
  show (va_up (va_up s.1 i v) i w, s.2) = (va_up s.1 i w, s.2)
  rw [up_up]
section CREP
variable {u : hU} {d : Nat} {s : AS} {S : hS}
theorem cRep.o (h : cRep u d s S) : ∃ fs, rO S d 10 fs := by
  obtain ⟨mm, ad, lv, ⟨_, h0⟩, hw, ⟨h1, sr, sg, lp, h2, _⟩, _⟩ := h
  exact ⟨_, by rw [← h0]; exact hw.at h1, by rw [← h0]; exact h2⟩
theorem ev_erase {i : Nat} (hi : i < 6) : op_erase (nI i) s = (lenO (aSl s i), sSl s i (some [])) := by
  simp only [op_erase, ixO_nI hi (show 6 < 2 ^ 31 by omega)]
theorem z_erase {post : Int32 → hS → Prop} {i : Nat} (hi : i < 6) (hR : cRep u d s S)
    (hp : ∀ S', cRep u d (sSl s i (some [])) S' → post (lenO (aSl s i)) S') : w_X9_erase u post d (nI i) S := c_erase _ hR (by rw [ev_erase hi]; exact hp)
theorem ev_append {i c : Nat} {t : Tx} (hi : i < 6) (hc : c < 256) (ht : aSl s i = some t) (hl : t.length < 300) : op_append (nI i) (nI c) s = (nI (t.length + 1), sSl s i (some (t ++ [c]))) := by
  simp only [op_append, ixO_nI hi (show 6 < 2 ^ 31 by omega), ixO_nI hc (show 256 < 2 ^ 31 by omega), ht, if_pos hl]
theorem z_append {post : Int32 → hS → Prop} {i c : Nat} {t : Tx} {mc ms : Nat} (hmc : 1100 ≤ mc) (hms : 13600 ≤ ms) (hi : i < 6) (hc : c < 256) (ht : aSl s i = some t) (hl : t.length < 300) (hR : cRep u d s S)
    (hp : ∀ S', cRep u d (sSl s i (some (t ++ [c]))) S' → post (nI (t.length + 1)) S') : w_X9_append u post d (nI i) (nI c) S mc ms := c_append hmc hms _ _ hR (by rw [ev_append hi hc ht hl]; exact hp)
theorem ev_length {i : Nat} {t : Tx} (hi : i < 6) (ht : aSl s i = some t) : op_length (nI i) s = (nI t.length, s) := by
  simp only [op_length, ixO_nI hi (show 6 < 2 ^ 31 by omega), ht, lenO]
theorem z_length {post : Int32 → Prop} {i : Nat} {t : Tx} (hi : i < 6) (ht : aSl s i = some t) (hR : cRep u d s S)
    (hp : post (nI t.length)) : w_X9_length u post d (nI i) S := c_length _ hR (by rw [ev_length hi ht]; exact hp)
theorem ev_characterAt {i j : Nat} {t : Tx} (hi : i < 6) (ht : aSl s i = some t) (hj : j < t.length) (hl : t.length < 2 ^ 31) : op_characterAt (nI i) (nI j) s = (nI (t.getD j 0), s) := by
  simp only [op_characterAt, ixO_nI hi (show 6 < 2 ^ 31 by omega), ht, ixO_nI hj hl]
theorem z_characterAt {post : Int32 → Prop} {i j : Nat} {t : Tx} (hi : i < 6) (ht : aSl s i = some t) (hj : j < t.length) (hl : t.length < 2 ^ 31) (hR : cRep u d s S)
    (hp : post (nI (t.getD j 0))) : w_X9_characterAt u post d (nI i) (nI j) S := c_characterAt _ _ hR (by rw [ev_characterAt hi ht hj hl]; exact hp)
theorem ev_same {i j : Nat} (hi : i < 6) (hj : j < 6) (he : aSl s i = aSl s j) : op_same (nI i) (nI j) s = (1, s) := by
  simp only [op_same, ixO_nI hi (show 6 < 2 ^ 31 by omega), ixO_nI hj (show 6 < 2 ^ 31 by omega), if_pos he]
theorem z_same {post : Int32 → Prop} {i j : Nat} (hi : i < 6) (hj : j < 6) (he : aSl s i = aSl s j) (hR : cRep u d s S)
    (hp : post 1) : w_X9_same u post d (nI i) (nI j) S := c_same _ _ hR (by rw [ev_same hi hj he]; exact hp)
theorem ev_type {c : Nat} (hty : tyO (nI c) = some c) (hl : (aTp s).length < 300) : op_type (nI c) s = (nI ((aTp s).length + 1), sTp s (aTp s ++ [c])) := by
  simp only [op_type, hty, if_pos hl]
theorem z_type {post : Int32 → hS → Prop} {c : Nat} {mc ms : Nat} (hmc : 1100 ≤ mc) (hms : 13600 ≤ ms) (hty : tyO (nI c) = some c) (hl : (aTp s).length < 300) (hR : cRep u d s S)
    (hp : ∀ S', cRep u d (sTp s (aTp s ++ [c])) S' → post (nI ((aTp s).length + 1)) S') : w_X9_type u post d (nI c) S mc ms := c_type hmc hms _ hR (by rw [ev_type hty hl]; exact hp)
theorem ev_load {l : Nat} {L : Ly} (hl : l < 4) (hb : brkF (aTp s) (entsA (aTp s)) = none) (hL : putsF (aTp s) (entsA (aTp s)) (aLy s l) = some L) : op_load (nI l) s = (nI (entsA (aTp s)).length, sLy s l L) := by
  simp only [op_load, ixO_nI hl (show 4 < 2 ^ 31 by omega), hb, hL]
theorem z_load {post : Int32 → hS → Prop} {l : Nat} {L : Ly} {mc ms : Nat} (hmc : 1150 ≤ mc) (hms : 13600 ≤ ms) (hl : l < 4) (hb : brkF (aTp s) (entsA (aTp s)) = none) (hL : putsF (aTp s) (entsA (aTp s)) (aLy s l) = some L) (hR : cRep u d s S)
    (hp : ∀ S', cRep u d (sLy s l L) S' → post (nI (entsA (aTp s)).length) S') : w_X9_load u post d (nI l) S mc ms := c_load hmc hms _ hR (by rw [ev_load hl hb hL]; exact hp)
theorem ev_brokenAt (hb : brkF (aTp s) (entsA (aTp s)) = none) : op_brokenAt s = (-5, s) := by
  simp only [op_brokenAt, hb]
theorem z_brokenAt {post : Int32 → hS → Prop} {mc ms : Nat} (hmc : 1100 ≤ mc) (hms : 13600 ≤ ms) (hb : brkF (aTp s) (entsA (aTp s)) = none) (hR : cRep u d s S)
    (hp : ∀ S', cRep u d s S' → post (-5) S') : w_X9_brokenAt u post d S mc ms := c_brokenAt hmc hms hR (by rw [ev_brokenAt hb]; exact hp)
theorem ev_write {l : Nat} (hl : l < 4) (hw : (wrL (aLy s l)).length ≤ 300) : op_write (nI l) s = (nI (wrL (aLy s l)).length, sTp s (wrL (aLy s l))) := by
  simp only [op_write, ixO_nI hl (show 4 < 2 ^ 31 by omega), if_pos hw]
theorem z_write {post : Int32 → hS → Prop} {l : Nat} {mc ms : Nat} (hmc : 1100 ≤ mc) (hms : 13600 ≤ ms) (hl : l < 4) (hw : (wrL (aLy s l)).length ≤ 300) (hR : cRep u d s S)
    (hp : ∀ S', cRep u d (sTp s (wrL (aLy s l))) S' → post (nI (wrL (aLy s l)).length) S') : w_X9_write u post d (nI l) S mc ms := c_write hmc hms _ hR (by rw [ev_write hl hw]; exact hp)
theorem ev_get {l k i : Nat} {t v : Tx} (hl : l < 4) (hk : k < 6) (hi : i < 6) (ht : aSl s k = some t) (hv : lookF (aLy s) t l = some v) : op_get (nI l) (nI k) (nI i) s = (nI v.length, sSl s i (some v)) := by
  simp only [op_get, ixO_nI hl (show 4 < 2 ^ 31 by omega), ixO_nI hk (show 6 < 2 ^ 31 by omega), ixO_nI hi (show 6 < 2 ^ 31 by omega), ht, hv]
theorem z_get {post : Int32 → hS → Prop} {l k i : Nat} {t v : Tx} (hl : l < 4) (hk : k < 6) (hi : i < 6) (ht : aSl s k = some t) (hv : lookF (aLy s) t l = some v) (hR : cRep u d s S)
    (hp : ∀ S', cRep u d (sSl s i (some v)) S' → post (nI v.length) S') : w_X9_get u post d (nI l) (nI k) (nI i) S := c_get _ _ _ hR (by rw [ev_get hl hk hi ht hv]; exact hp)
theorem ev_has {l k : Nat} {t : Tx} (hl : l < 4) (hk : k < 6) (ht : aSl s k = some t) : op_has (nI l) (nI k) s = ((if findF (aLy s l) t = none then 0 else 1), s) := by
  simp only [op_has, ixO_nI hl (show 4 < 2 ^ 31 by omega), ixO_nI hk (show 6 < 2 ^ 31 by omega), ht]
theorem z_has {post : Int32 → hS → Prop} {l k : Nat} {t : Tx} (hl : l < 4) (hk : k < 6) (ht : aSl s k = some t) (hR : cRep u d s S)
    (hp : ∀ S', cRep u d s S' → post (if findF (aLy s l) t = none then 0 else 1) S') : w_X9_has u post d (nI l) (nI k) S := c_has _ _ hR (by rw [ev_has hl hk ht]; exact hp)
theorem z_has1 {post : Int32 → hS → Prop} {l k : Nat} {t : Tx} (hl : l < 4) (hk : k < 6) (ht : aSl s k = some t) (hf : findF (aLy s l) t ≠ none) (hR : cRep u d s S)
    (hp : ∀ S', cRep u d s S' → post 1 S') : w_X9_has u post d (nI l) (nI k) S := z_has hl hk ht hR (fun S' h => by rw [if_neg hf]; exact hp S' h)
theorem z_has0 {post : Int32 → hS → Prop} {l k : Nat} {t : Tx} (hl : l < 4) (hk : k < 6) (ht : aSl s k = some t) (hf : findF (aLy s l) t = none) (hR : cRep u d s S)
    (hp : ∀ S', cRep u d s S' → post 0 S') : w_X9_has u post d (nI l) (nI k) S := z_has hl hk ht hR (fun S' h => by rw [if_pos hf]; exact hp S' h)
theorem ev_layerOf {l k m : Nat} {t : Tx} (hl : l < 4) (hk : k < 6) (ht : aSl s k = some t) (hm : layerF (aLy s) t l = some m) : op_layerOf (nI l) (nI k) s = (nI m, s) := by
  simp only [op_layerOf, ixO_nI hl (show 4 < 2 ^ 31 by omega), ixO_nI hk (show 6 < 2 ^ 31 by omega), ht, hm, fI]
theorem z_layerOf {post : Int32 → hS → Prop} {l k m : Nat} {t : Tx} (hl : l < 4) (hk : k < 6) (ht : aSl s k = some t) (hm : layerF (aLy s) t l = some m) (hR : cRep u d s S)
    (hp : ∀ S', cRep u d s S' → post (nI m) S') : w_X9_layerOf u post d (nI l) (nI k) S := c_layerOf _ _ hR (by rw [ev_layerOf hl hk ht hm]; exact hp)
theorem ev_set {l k w i : Nat} {t b : Tx} (hl : l < 4) (hk : k < 6) (hw : w < 6) (hi : i < 6) (ht : aSl s k = some t) (hb : aSl s w = some b) (h40 : (aLy s l).length < 40) : ∃ v, op_set (nI l) (nI k) (nI w) (nI i) s = (nI (putF (aLy s l) t b).length, sLy (sSl s i v) l (putF (aLy s l) t b)) := by
  cases hf : findF (aLy s l) t with
  | none => exact ⟨none, by simp only [op_set, ixO_nI hl (show 4 < 2 ^ 31 by omega), ixO_nI hk (show 6 < 2 ^ 31 by omega), ixO_nI hw (show 6 < 2 ^ 31 by omega), ixO_nI hi (show 6 < 2 ^ 31 by omega), hb, ht, hf, if_neg (show ¬ 40 ≤ (aLy s l).length by omega)]⟩
  | some p => exact ⟨_, by simp only [op_set, ixO_nI hl (show 4 < 2 ^ 31 by omega), ixO_nI hk (show 6 < 2 ^ 31 by omega), ixO_nI hw (show 6 < 2 ^ 31 by omega), ixO_nI hi (show 6 < 2 ^ 31 by omega), hb, ht, hf]; rfl⟩
theorem z_set {post : Int32 → hS → Prop} {l k w i : Nat} {t b : Tx} {mc ms : Nat} (hmc : 1100 ≤ mc) (hms : 13600 ≤ ms) (hl : l < 4) (hk : k < 6) (hw : w < 6) (hi : i < 6) (ht : aSl s k = some t) (hb : aSl s w = some b) (h40 : (aLy s l).length < 40) (hR : cRep u d s S)
    (hp : ∀ v S', cRep u d (sLy (sSl s i v) l (putF (aLy s l) t b)) S' → post (nI (putF (aLy s l) t b).length) S') : w_X9_set u post d (nI l) (nI k) (nI w) (nI i) S mc ms := by
  obtain ⟨v, e⟩ := ev_set (s := s) hl hk hw hi ht hb h40
  exact c_set hmc hms _ _ _ _ hR (by rw [e]; exact hp v)
theorem ev_empty {l : Nat} (hl : l < 4) : op_empty (nI l) s = (nI (aLy s l).length, sLy s l []) := by
  simp only [op_empty, ixO_nI hl (show 4 < 2 ^ 31 by omega)]
theorem z_empty {post : Int32 → hS → Prop} {l : Nat} (hl : l < 4) (hR : cRep u d s S)
    (hp : ∀ S', cRep u d (sLy s l []) S' → post (nI (aLy s l).length) S') : w_X9_empty u post d (nI l) S := c_empty _ hR (by rw [ev_empty hl]; exact hp)
theorem ev_size {l : Nat} (hl : l < 4) : op_size (nI l) s = (nI (aLy s l).length, s) := by
  simp only [op_size, ixO_nI hl (show 4 < 2 ^ 31 by omega)]
theorem z_size {post : Int32 → Prop} {l : Nat} (hl : l < 4) (hR : cRep u d s S)
    (hp : post (nI (aLy s l).length)) : w_X9_size u post d (nI l) S := c_size _ hR (by rw [ev_size hl]; exact hp)
theorem ev_alike {i j : Nat} (hi : i < 4) (hj : j < 4) (he : aLy s i = aLy s j) : op_alike (nI i) (nI j) s = (1, s) := by
  simp only [op_alike, ixO_nI hi (show 4 < 2 ^ 31 by omega), ixO_nI hj (show 4 < 2 ^ 31 by omega), if_pos he]
theorem z_alike {post : Int32 → Prop} {i j : Nat} (hi : i < 4) (hj : j < 4) (he : aLy s i = aLy s j) (hR : cRep u d s S)
    (hp : post 1) : w_X9_alike u post d (nI i) (nI j) S := c_alike _ _ hR (by rw [ev_alike hi hj he]; exact hp)
theorem ev_digest {l : Nat} (hl : l < 4) : op_digest (nI l) s = (digF 7 (aLy s l), s) := by
  simp only [op_digest, ixO_nI hl (show 4 < 2 ^ 31 by omega)]
theorem z_digest {post : Int32 → Prop} {l : Nat} (hl : l < 4) (hR : cRep u d s S)
    (hp : post (digF 7 (aLy s l))) : w_X9_digest u post d (nI l) S := c_digest _ hR (by rw [ev_digest hl]; exact hp)
theorem ev_names {l : Nat} (hl : l < 4) : op_names (nI l) s = (nI (namesF (aLy s) l 160 (fun _ => 0)), s) := by
  simp only [op_names, ixO_nI hl (show 4 < 2 ^ 31 by omega)]
theorem z_names {post : Int32 → hS → Prop} {l : Nat} {mc ms : Nat} (hmc : 1100 ≤ mc) (hms : 13600 ≤ ms) (hl : l < 4) (hR : cRep u d s S)
    (hp : ∀ S', cRep u d s S' → post (nI (namesF (aLy s) l 160 (fun _ => 0))) S') : w_X9_names u post d (nI l) S mc ms := c_names hmc hms _ hR (by rw [ev_names hl]; exact hp)
theorem ev_name {l j i : Nat} {t : Tx} (hl : l < 4) (hi : i < 6) (hj : j < 160) (ht : nameF (aLy s) l j (fun _ => 0) = some t) : op_name (nI l) (nI j) (nI i) s = (nI t.length, sSl s i (some t)) := by
  simp only [op_name, ixO_nI hl (show 4 < 2 ^ 31 by omega), ixO_nI hi (show 6 < 2 ^ 31 by omega), ixO_nI hj (show 160 < 2 ^ 31 by omega), ht]
theorem z_name {post : Int32 → hS → Prop} {l j i : Nat} {t : Tx} {mc ms : Nat} (hmc : 1100 ≤ mc) (hms : 13600 ≤ ms) (hl : l < 4) (hi : i < 6) (hj : j < 160) (ht : nameF (aLy s) l j (fun _ => 0) = some t) (hR : cRep u d s S)
    (hp : ∀ S', cRep u d (sSl s i (some t)) S' → post (nI t.length) S') : w_X9_name u post d (nI l) (nI j) (nI i) S mc ms := c_name hmc hms _ _ _ hR (by rw [ev_name hl hi hj ht]; exact hp)
theorem ev_told {i j k : Nat} {t e : Tx} {r : Bool} (hi : i < 2) (hj : j < 6) (hk : k < 6) (ht : aSl s j = some t) (he : aSl s k = some e) : op_told (nI i) (nI j) (nI k) r s = (nI (cntA t e r 0), sTk s i (some (t, e, r, 0))) := by
  simp only [op_told, ixO_nI hi (show 2 < 2 ^ 31 by omega), ixO_nI hj (show 6 < 2 ^ 31 by omega), ixO_nI hk (show 6 < 2 ^ 31 by omega), ht, he, op_mk]
theorem z_tokenizeBy {post : Int32 → hS → Prop} {i j k : Nat} {t e : Tx} {mc ms : Nat} (hmc : 1100 ≤ mc) (hms : 13600 ≤ ms) (hi : i < 2) (hj : j < 6) (hk : k < 6) (ht : aSl s j = some t) (he : aSl s k = some e) (hR : cRep u d s S)
    (hp : ∀ S', cRep u d (sTk s i (some (t, e, false, 0))) S' → post (nI (cntA t e false 0)) S') : w_X9_tokenizeBy u post d (nI i) (nI j) (nI k) S mc ms := c_tokenizeBy hmc hms _ _ _ hR (by rw [ev_told hi hj hk ht he]; exact hp)
theorem z_tokenizeAll {post : Int32 → hS → Prop} {i j k : Nat} {t e : Tx} {mc ms : Nat} (hmc : 1100 ≤ mc) (hms : 13600 ≤ ms) (hi : i < 2) (hj : j < 6) (hk : k < 6) (ht : aSl s j = some t) (he : aSl s k = some e) (hR : cRep u d s S)
    (hp : ∀ S', cRep u d (sTk s i (some (t, e, true, 0))) S' → post (nI (cntA t e true 0)) S') : w_X9_tokenizeAll u post d (nI i) (nI j) (nI k) S mc ms := c_tokenizeAll hmc hms _ _ _ hR (by rw [ev_told hi hj hk ht he]; exact hp)
theorem ev_more {i p : Nat} {t e : Tx} {r : Bool} (hi : i < 2) (hk : aTk s i = some (t, e, r, p)) : op_more (nI i) s = ((if begF t e r p < t.length then 1 else 0), s) := by
  simp only [op_more, ixO_nI hi (show 2 < 2 ^ 31 by omega), hk]
theorem z_more {post : Int32 → Prop} {i p : Nat} {t e : Tx} {r : Bool} (hi : i < 2) (hk : aTk s i = some (t, e, r, p)) (hR : cRep u d s S)
    (hp : post (if begF t e r p < t.length then 1 else 0)) : w_X9_more u post d (nI i) S := c_more _ hR (by rw [ev_more hi hk]; exact hp)
theorem ev_more0 {i : Nat} (hi : i < 2) (hk : aTk s i = none) : op_more (nI i) s = (-4, s) := by
  simp only [op_more, ixO_nI hi (show 2 < 2 ^ 31 by omega), hk]
theorem z_more0 {post : Int32 → Prop} {i : Nat} (hi : i < 2) (hk : aTk s i = none) (hR : cRep u d s S)
    (hp : post (-4)) : w_X9_more u post d (nI i) S := c_more _ hR (by rw [ev_more0 hi hk]; exact hp)
theorem ev_count {i p : Nat} {t e : Tx} {r : Bool} (hi : i < 2) (hk : aTk s i = some (t, e, r, p)) : op_count (nI i) s = (nI (cntA t e r p), s) := by
  simp only [op_count, ixO_nI hi (show 2 < 2 ^ 31 by omega), hk]
theorem z_count {post : Int32 → Prop} {i p : Nat} {t e : Tx} {r : Bool} (hi : i < 2) (hk : aTk s i = some (t, e, r, p)) (hR : cRep u d s S)
    (hp : post (nI (cntA t e r p))) : w_X9_count u post d (nI i) S := c_count _ hR (by rw [ev_count hi hk]; exact hp)
theorem ev_next {i j p : Nat} {t e : Tx} {r : Bool} (hi : i < 2) (hj : j < 6) (hk : aTk s i = some (t, e, r, p)) (hb : begF t e r p < t.length) : op_next (nI i) (nI j) s = (nI (endF t e (begF t e r p) - begF t e r p), sTk (sSl s j (some ((t.drop (begF t e r p)).take (endF t e (begF t e r p) - begF t e r p)))) i (some (t, e, r, endF t e (begF t e r p)))) := by
  simp only [op_next, ixO_nI hi (show 2 < 2 ^ 31 by omega), ixO_nI hj (show 6 < 2 ^ 31 by omega), hk, op_take, if_pos hb]
theorem z_next {post : Int32 → hS → Prop} {i j p : Nat} {t e : Tx} {r : Bool} {mc ms : Nat} (hmc : 1100 ≤ mc) (hms : 13600 ≤ ms) (hi : i < 2) (hj : j < 6) (hk : aTk s i = some (t, e, r, p)) (hb : begF t e r p < t.length) (hR : cRep u d s S)
    (hp : ∀ S', cRep u d (sTk (sSl s j (some ((t.drop (begF t e r p)).take (endF t e (begF t e r p) - begF t e r p)))) i (some (t, e, r, endF t e (begF t e r p)))) S' → post (nI (endF t e (begF t e r p) - begF t e r p)) S') : w_X9_next u post d (nI i) (nI j) S mc ms := c_next hmc hms _ _ hR (by rw [ev_next hi hj hk hb]; exact hp)
theorem ev_next0 {i j p : Nat} {t e : Tx} {r : Bool} (hi : i < 2) (hj : j < 6) (hk : aTk s i = some (t, e, r, p)) (hb : ¬ begF t e r p < t.length) : op_next (nI i) (nI j) s = (-8, sNe (sTk s i none)) := by
  simp only [op_next, ixO_nI hi (show 2 < 2 ^ 31 by omega), ixO_nI hj (show 6 < 2 ^ 31 by omega), hk, op_take, if_neg hb]
theorem z_next0 {post : Int32 → hS → Prop} {i j p : Nat} {t e : Tx} {r : Bool} {mc ms : Nat} (hmc : 1100 ≤ mc) (hms : 13600 ≤ ms) (hi : i < 2) (hj : j < 6) (hk : aTk s i = some (t, e, r, p)) (hb : ¬ begF t e r p < t.length) (hR : cRep u d s S)
    (hp : ∀ S', cRep u d (sNe (sTk s i none)) S' → post (-8) S') : w_X9_next u post d (nI i) (nI j) S mc ms := c_next hmc hms _ _ hR (by rw [ev_next0 hi hj hk hb]; exact hp)
theorem ev_join {i j : Nat} {t : Tx} (hi : i < 3) (hj : j < 6) (ht : aSl s j = some t) : op_join (nI i) (nI j) s = (0, sJn s i (some (t, [], [], none, none))) := by
  simp only [op_join, ixO_nI hi (show 3 < 2 ^ 31 by omega), ixO_nI hj (show 6 < 2 ^ 31 by omega), ht]
theorem z_join {post : Int32 → hS → Prop} {i j : Nat} {t : Tx} {mc ms : Nat} (hmc : 1100 ≤ mc) (hms : 13600 ≤ ms) (hi : i < 3) (hj : j < 6) (ht : aSl s j = some t) (hR : cRep u d s S)
    (hp : ∀ S', cRep u d (sJn s i (some (t, [], [], none, none))) S' → post 0 S') : w_X9_join u post d (nI i) (nI j) S mc ms := c_join hmc hms _ _ hR (by rw [ev_join hi hj ht]; exact hp)
theorem ev_add {i j : Nat} {t e : Tx} {el : Option Tx} (hi : i < 3) (hj : j < 6) (ht : aSl s j = some t) (hJ : aJn s i = some (e, [], [], el, none)) (hl : (elF e t el).length ≤ 300) : op_add (nI i) (nI j) s = (nI (elF e t el).length, sJn s i (some (e, [], [], some (elF e t el), none))) := by
  have e0 : ([] : Tx).length + (elF e t el).length + ([] : Tx).length = (elF e t el).length := by simp
  simp only [op_add, ixO_nI hi (show 3 < 2 ^ 31 by omega), ixO_nI hj (show 6 < 2 ^ 31 by omega), hJ, ht, op_el, Option.getD_some, jnLen, e0, if_pos hl]
theorem z_add {post : Int32 → hS → Prop} {i j : Nat} {t e : Tx} {el : Option Tx} {mc ms : Nat} (hmc : 1100 ≤ mc) (hms : 13600 ≤ ms) (hi : i < 3) (hj : j < 6) (ht : aSl s j = some t) (hJ : aJn s i = some (e, [], [], el, none)) (hl : (elF e t el).length ≤ 300) (hR : cRep u d s S)
    (hp : ∀ S', cRep u d (sJn s i (some (e, [], [], some (elF e t el), none))) S' → post (nI (elF e t el).length) S') : w_X9_add u post d (nI i) (nI j) S mc ms := c_add hmc hms _ _ hR (by rw [ev_add hi hj ht hJ hl]; exact hp)
theorem ev_joined {i j : Nat} {e el : Tx} (hi : i < 3) (hj : j < 6) (hJ : aJn s i = some (e, [], [], some el, none)) : op_joined (nI i) (nI j) s = (nI el.length, sSl s j (some el)) := by
  have e0 : ([] : Tx).length + el.length + ([] : Tx).length = el.length := by simp
  have e1 : ([] : Tx) ++ el ++ [] = el := by simp
  simp only [op_joined, ixO_nI hi (show 3 < 2 ^ 31 by omega), ixO_nI hj (show 6 < 2 ^ 31 by omega), hJ, jnLen, resF, e0, e1]
theorem z_joined {post : Int32 → hS → Prop} {i j : Nat} {e el : Tx} {mc ms : Nat} (hmc : 1100 ≤ mc) (hms : 13600 ≤ ms) (hi : i < 3) (hj : j < 6) (hJ : aJn s i = some (e, [], [], some el, none)) (hR : cRep u d s S)
    (hp : ∀ S', cRep u d (sSl s j (some el)) S' → post (nI el.length) S') : w_X9_joined u post d (nI i) (nI j) S mc ms := c_joined hmc hms _ _ hR (by rw [ev_joined hi hj hJ]; exact hp)
theorem ev_joinedLength {i : Nat} {e el : Tx} (hi : i < 3) (hJ : aJn s i = some (e, [], [], some el, none)) : op_joinedLength (nI i) s = (nI el.length, s) := by
  have e0 : ([] : Tx).length + el.length + ([] : Tx).length = el.length := by simp
  simp only [op_joinedLength, ixO_nI hi (show 3 < 2 ^ 31 by omega), hJ, jnLen, e0]
theorem z_joinedLength {post : Int32 → Prop} {i : Nat} {e el : Tx} (hi : i < 3) (hJ : aJn s i = some (e, [], [], some el, none)) (hR : cRep u d s S)
    (hp : post (nI el.length)) : w_X9_joinedLength u post d (nI i) S := c_joinedLength _ hR (by rw [ev_joinedLength hi hJ]; exact hp)
end CREP
