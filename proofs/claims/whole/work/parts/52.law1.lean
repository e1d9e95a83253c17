section LAWM
variable {p : Program} {l : Launch} {e : Env} {s : State} {m : MethodId} {b : Nat} {below : List Frame} {meth : Method} {c : Code} {Q : State → Prop}
variable {D : va_G} {u : hU} {ad : Nat → Nat} {d0 L : Nat} {xs : Nat → Int32}

def w_law_c0 (u : hU) (d0 L : Nat) (xs : Nat → Int32) (K : Int32 → hS → RM → Nat → Nat → Prop) (x3 : Int32) (S : hS) (M : RM) (mc ms : Nat) : Prop := (vp_in (x3 + 1) L ∧ ((∃ fs, rO S d0 10 fs) ∧ w_X9_erase u (fun r1 S1 => (vp_in (x3 + 1) L ∧ (w_erase (fun r2 M1 => ((r1 = r2 → K x3 S1 M1 mc ms) ∧ (¬ r1 = r2 → False))) (xs (x3 + 1).toNatClampNeg) M))) d0 (xs (x3 + 1).toNatClampNeg) S))
set_option maxHeartbeats 4000000 in
set_option maxRecDepth 100000 in
theorem t_law_c0 (C0 : hX p s m #[Value.ref b] c cL_law 4 RL wsL_law D (gt u.2.1) (fun q => s.heap.size ≤ q) u.1 u.2.2) (hXs : va_X b L xs s s.heap) (hbl : b < s.heap.size) (K : Int32 → hS → RM → Nat → Nat → Prop) (hKK : ∀ (x3 : Int32) (S : hS) (M : RM) (mc ms k n : Nat), k + mc ≤ 600000 ∧ n + ms ≤ 7302249 → K x3 S M mc ms → gG p l e room_1 s m #[Value.ref b] below meth c Q D (fun q => s.heap.size ≤ q) 4 k n (rcells (u.2.1 0) (u.2.1 1) ad M (va_pl S.1 S.2)) 1680 [(0, .ref b), (1, .ref d0), (2, .ref (ad 0)), (3, .int x3)] []) (x3 : Int32) (S : hS) (M : RM) (mc ms k n : Nat) (hkn : k + mc ≤ 600000 ∧ n + ms ≤ 7302249) (hw : w_law_c0 u d0 L xs K x3 S M mc ms) : gG p l e room_1 s m #[Value.ref b] below meth c Q D (fun q => s.heap.size ≤ q) 4 k n (rcells (u.2.1 0) (u.2.1 1) ad M (va_pl S.1 S.2)) 232 [(0, .ref b), (1, .ref d0), (2, .ref (ad 0)), (3, .int x3)] [] := by
  obtain ⟨⟨hx, hb, hml, ho, hts, hK, hA⟩, hR⟩ := id C0
  have hbA : ¬ (fun q : Nat => s.heap.size ≤ q) b := Nat.not_le.mpr hbl
  intro H locs ls hW hl
  rw [w_law_c0] at hw
  refine lv_aload_n hx hb dL_law_232 rfl (lv_at hl 1 rfl) ?_
  refine lv_aload_n hx hb dL_law_233 rfl (lv_at hl 0 rfl) ?_
  refine lv_iload_n hx hb dL_law_234 rfl (lv_at hl 3 rfl) ?_
  refine lv_iconst (v := 1) hx hb dL_law_235 (by decide) ?_
  refine lv_iadd hx hb dL_law_236 ?_
  obtain ⟨ha1, hw⟩ := hw
  refine va_sld hx hb hXs hbl hbA hW.2.2 ha1 dL_law_237 ?_
  obtain ⟨hob, hw⟩ := hw
  have hW : gW D (fun q => s.heap.size ≤ q) s.heap (hC (rcells (u.2.1 0) (u.2.1 1) ad M []) S) H locs := hW
  refine h_goi C0 hW (va_runV (As := [.int (xs (x3 + 1).toNatClampNeg)]) (rest := []) ⟨hx, hb, hml, ho, hts⟩ (k_X9_erase (l := l) (u := u) (X := rcells (u.2.1 0) (u.2.1 1) ad M []) (sz := H.size) _ d0 (xs (x3 + 1).toNatClampNeg) S  hw) (cwV 1 hts gL_law_X9_erase rfl rfl rfl (by decide +kernel) ⟨Nat.le_of_ble_eq_true rfl, Nat.le_of_ble_eq_true rfl⟩) ⟨h_blind, (h_recv C0 hW (ci := 10) rfl hob), (h_pre C0 hW [.ref d0, .int (xs (x3 + 1).toNatClampNeg)])⟩ rfl rfl hl.1 rfl (lv_room (Nat.le_of_ble_eq_true rfl)) dL_law_238 ⟨by show _ ≤ 600000; omega, by show _ ≤ 7302249; omega⟩) (fun r1 S1 H locs h1 hW => ?_)
  replace hw := h1
  have hkn : (k + 0) + mc ≤ 600000 ∧ (n + 0) + ms ≤ 7302249 := by omega
  have hW : gW D (fun q => s.heap.size ≤ q) s.heap (rcells (u.2.1 0) (u.2.1 1) ad M (va_pl S1.1 S1.2)) H locs := hW
  refine lv_aload_n hx hb dL_law_241 rfl (lv_at hl 2 rfl) ?_
  refine lv_aload_n hx hb dL_law_242 rfl (lv_at hl 0 rfl) ?_
  refine lv_iload_n hx hb dL_law_243 rfl (lv_at hl 3 rfl) ?_
  refine lv_iconst (v := 1) hx hb dL_law_244 (by decide) ?_
  refine lv_iadd hx hb dL_law_245 ?_
  obtain ⟨hb1, hw⟩ := hw
  refine va_sld hx hb hXs hbl hbA hW.2.2 hb1 dL_law_246 ?_
  refine g_calli (cw0 := fun M => rcells (u.2.1 0) (u.2.1 1) ad M (va_pl S1.1 S1.2)) (M := M) (As := [.int (xs (x3 + 1).toNatClampNeg)]) (rest := [.int r1]) C0.1 hW hl.1 (k_erase (l := l) _ (xs (x3 + 1).toNatClampNeg) _ hw) (cwV 1 hts gL_law_X10_erase rfl rfl rfl (by decide +kernel) ⟨Nat.le_of_ble_eq_true rfl, Nat.le_of_ble_eq_true rfl⟩) (va_recv (q := (RX10, TX10, 21)) hK hW.1 (ci := 11) (q0 := 0) rfl rfl) (Nat.le_of_ble_eq_true rfl) dL_law_247 rfl ⟨by show _ ≤ 600000; omega, by show _ ≤ 7302249; omega⟩ (fun r2 M1 H locs h3 hW => ?_)
  replace hw := h3
  refine lv_icmp_eq (tgt := 1680) hx hb dL_law_250 (by decide) (fun c1 => ?_) (fun c1 => ?_)
  · have hkn : ((k + 0) + 0) + mc ≤ 600000 ∧ ((n + 0) + 0) + ms ≤ 7302249 := by omega
    exact hKK x3 S1 M1 mc ms _ _ hkn (hw.1 c1) _ _ _ hW hl
  · exact (hw.2 c1).elim
def w_law_c1 (u : hU) (d0 L : Nat) (xs : Nat → Int32) (K : Int32 → hS → RM → Nat → Nat → Prop) (x3 : Int32) (S : hS) (M : RM) (mc ms : Nat) : Prop := (vp_in (x3 + 1) L ∧ ((∃ fs, rO S d0 10 fs) ∧ w_X9_forget u (fun r1 S1 => (vp_in (x3 + 1) L ∧ (w_forget (fun r2 M1 => ((r1 = r2 → K x3 S1 M1 mc ms) ∧ (¬ r1 = r2 → False))) (xs (x3 + 1).toNatClampNeg) M))) d0 (xs (x3 + 1).toNatClampNeg) S))
set_option maxHeartbeats 4000000 in
set_option maxRecDepth 100000 in
theorem t_law_c1 (C0 : hX p s m #[Value.ref b] c cL_law 4 RL wsL_law D (gt u.2.1) (fun q => s.heap.size ≤ q) u.1 u.2.2) (hXs : va_X b L xs s s.heap) (hbl : b < s.heap.size) (K : Int32 → hS → RM → Nat → Nat → Prop) (hKK : ∀ (x3 : Int32) (S : hS) (M : RM) (mc ms k n : Nat), k + mc ≤ 600000 ∧ n + ms ≤ 7302249 → K x3 S M mc ms → gG p l e room_1 s m #[Value.ref b] below meth c Q D (fun q => s.heap.size ≤ q) 4 k n (rcells (u.2.1 0) (u.2.1 1) ad M (va_pl S.1 S.2)) 1680 [(0, .ref b), (1, .ref d0), (2, .ref (ad 0)), (3, .int x3)] []) (x3 : Int32) (S : hS) (M : RM) (mc ms k n : Nat) (hkn : k + mc ≤ 600000 ∧ n + ms ≤ 7302249) (hw : w_law_c1 u d0 L xs K x3 S M mc ms) : gG p l e room_1 s m #[Value.ref b] below meth c Q D (fun q => s.heap.size ≤ q) 4 k n (rcells (u.2.1 0) (u.2.1 1) ad M (va_pl S.1 S.2)) 255 [(0, .ref b), (1, .ref d0), (2, .ref (ad 0)), (3, .int x3)] [] := by
  obtain ⟨⟨hx, hb, hml, ho, hts, hK, hA⟩, hR⟩ := id C0
  have hbA : ¬ (fun q : Nat => s.heap.size ≤ q) b := Nat.not_le.mpr hbl
  intro H locs ls hW hl
  rw [w_law_c1] at hw
  refine lv_aload_n hx hb dL_law_255 rfl (lv_at hl 1 rfl) ?_
  refine lv_aload_n hx hb dL_law_256 rfl (lv_at hl 0 rfl) ?_
  refine lv_iload_n hx hb dL_law_257 rfl (lv_at hl 3 rfl) ?_
  refine lv_iconst (v := 1) hx hb dL_law_258 (by decide) ?_
  refine lv_iadd hx hb dL_law_259 ?_
  obtain ⟨ha1, hw⟩ := hw
  refine va_sld hx hb hXs hbl hbA hW.2.2 ha1 dL_law_260 ?_
  obtain ⟨hob, hw⟩ := hw
  have hW : gW D (fun q => s.heap.size ≤ q) s.heap (hC (rcells (u.2.1 0) (u.2.1 1) ad M []) S) H locs := hW
  refine h_goi C0 hW (va_runV (As := [.int (xs (x3 + 1).toNatClampNeg)]) (rest := []) ⟨hx, hb, hml, ho, hts⟩ (k_X9_forget (l := l) (u := u) (X := rcells (u.2.1 0) (u.2.1 1) ad M []) (sz := H.size) _ d0 (xs (x3 + 1).toNatClampNeg) S  hw) (cwV 1 hts gL_law_X9_forget rfl rfl rfl (by decide +kernel) ⟨Nat.le_of_ble_eq_true rfl, Nat.le_of_ble_eq_true rfl⟩) ⟨h_blind, (h_recv C0 hW (ci := 10) rfl hob), (h_pre C0 hW [.ref d0, .int (xs (x3 + 1).toNatClampNeg)])⟩ rfl rfl hl.1 rfl (lv_room (Nat.le_of_ble_eq_true rfl)) dL_law_261 ⟨by show _ ≤ 600000; omega, by show _ ≤ 7302249; omega⟩) (fun r1 S1 H locs h1 hW => ?_)
  replace hw := h1
  have hkn : (k + 0) + mc ≤ 600000 ∧ (n + 0) + ms ≤ 7302249 := by omega
  have hW : gW D (fun q => s.heap.size ≤ q) s.heap (rcells (u.2.1 0) (u.2.1 1) ad M (va_pl S1.1 S1.2)) H locs := hW
  refine lv_aload_n hx hb dL_law_264 rfl (lv_at hl 2 rfl) ?_
  refine lv_aload_n hx hb dL_law_265 rfl (lv_at hl 0 rfl) ?_
  refine lv_iload_n hx hb dL_law_266 rfl (lv_at hl 3 rfl) ?_
  refine lv_iconst (v := 1) hx hb dL_law_267 (by decide) ?_
  refine lv_iadd hx hb dL_law_268 ?_
  obtain ⟨hb1, hw⟩ := hw
  refine va_sld hx hb hXs hbl hbA hW.2.2 hb1 dL_law_269 ?_
  refine g_calli (cw0 := fun M => rcells (u.2.1 0) (u.2.1 1) ad M (va_pl S1.1 S1.2)) (M := M) (As := [.int (xs (x3 + 1).toNatClampNeg)]) (rest := [.int r1]) C0.1 hW hl.1 (k_forget (l := l) _ (xs (x3 + 1).toNatClampNeg) _ hw) (cwV 1 hts gL_law_X10_forget rfl rfl rfl (by decide +kernel) ⟨Nat.le_of_ble_eq_true rfl, Nat.le_of_ble_eq_true rfl⟩) (va_recv (q := (RX10, TX10, 21)) hK hW.1 (ci := 11) (q0 := 0) rfl rfl) (Nat.le_of_ble_eq_true rfl) dL_law_270 rfl ⟨by show _ ≤ 600000; omega, by show _ ≤ 7302249; omega⟩ (fun r2 M1 H locs h3 hW => ?_)
  replace hw := h3
  refine lv_icmp_eq (tgt := 1680) hx hb dL_law_273 (by decide) (fun c1 => ?_) (fun c1 => ?_)
  · have hkn : ((k + 0) + 0) + mc ≤ 600000 ∧ ((n + 0) + 0) + ms ≤ 7302249 := by omega
    exact hKK x3 S1 M1 mc ms _ _ hkn (hw.1 c1) _ _ _ hW hl
  · exact (hw.2 c1).elim
def w_law_c2 (u : hU) (d0 L : Nat) (xs : Nat → Int32) (K : Int32 → hS → RM → Nat → Nat → Prop) (x3 : Int32) (S : hS) (M : RM) (mc ms : Nat) : Prop := (vp_in (x3 + 1) L ∧ (vp_in (x3 + 2) L ∧ ((∃ fs, rO S d0 10 fs) ∧ (∃ k1 n1 : Nat, k1 ≤ mc ∧ n1 ≤ ms ∧ w_X9_append u (fun r1 S1 => (vp_in (x3 + 1) L ∧ (vp_in (x3 + 2) L ∧ (w_append (fun r2 M1 => ((r1 = r2 → K x3 S1 M1 (mc - k1) (ms - n1)) ∧ (¬ r1 = r2 → False))) (xs (x3 + 1).toNatClampNeg) (xs (x3 + 2).toNatClampNeg) M)))) d0 (xs (x3 + 1).toNatClampNeg) (xs (x3 + 2).toNatClampNeg) S k1 n1))))
set_option maxHeartbeats 4000000 in
set_option maxRecDepth 100000 in
theorem t_law_c2 (C0 : hX p s m #[Value.ref b] c cL_law 4 RL wsL_law D (gt u.2.1) (fun q => s.heap.size ≤ q) u.1 u.2.2) (hXs : va_X b L xs s s.heap) (hbl : b < s.heap.size) (K : Int32 → hS → RM → Nat → Nat → Prop) (hKK : ∀ (x3 : Int32) (S : hS) (M : RM) (mc ms k n : Nat), k + mc ≤ 600000 ∧ n + ms ≤ 7302249 → K x3 S M mc ms → gG p l e room_1 s m #[Value.ref b] below meth c Q D (fun q => s.heap.size ≤ q) 4 k n (rcells (u.2.1 0) (u.2.1 1) ad M (va_pl S.1 S.2)) 1680 [(0, .ref b), (1, .ref d0), (2, .ref (ad 0)), (3, .int x3)] []) (x3 : Int32) (S : hS) (M : RM) (mc ms k n : Nat) (hkn : k + mc ≤ 600000 ∧ n + ms ≤ 7302249) (hw : w_law_c2 u d0 L xs K x3 S M mc ms) : gG p l e room_1 s m #[Value.ref b] below meth c Q D (fun q => s.heap.size ≤ q) 4 k n (rcells (u.2.1 0) (u.2.1 1) ad M (va_pl S.1 S.2)) 278 [(0, .ref b), (1, .ref d0), (2, .ref (ad 0)), (3, .int x3)] [] := by
  obtain ⟨⟨hx, hb, hml, ho, hts, hK, hA⟩, hR⟩ := id C0
  have hbA : ¬ (fun q : Nat => s.heap.size ≤ q) b := Nat.not_le.mpr hbl
  intro H locs ls hW hl
  rw [w_law_c2] at hw
  refine lv_aload_n hx hb dL_law_278 rfl (lv_at hl 1 rfl) ?_
  refine lv_aload_n hx hb dL_law_279 rfl (lv_at hl 0 rfl) ?_
  refine lv_iload_n hx hb dL_law_280 rfl (lv_at hl 3 rfl) ?_
  refine lv_iconst (v := 1) hx hb dL_law_281 (by decide) ?_
  refine lv_iadd hx hb dL_law_282 ?_
  obtain ⟨ha1, hw⟩ := hw
  refine va_sld hx hb hXs hbl hbA hW.2.2 ha1 dL_law_283 ?_
  refine lv_aload_n hx hb dL_law_284 rfl (lv_at hl 0 rfl) ?_
  refine lv_iload_n hx hb dL_law_285 rfl (lv_at hl 3 rfl) ?_
  refine lv_iconst (v := 2) hx hb dL_law_286 (by decide) ?_
  refine lv_iadd hx hb dL_law_287 ?_
  obtain ⟨ha2, hw⟩ := hw
  refine va_sld hx hb hXs hbl hbA hW.2.2 ha2 dL_law_288 ?_
  obtain ⟨hob, k1, n1, hk1, hn1, hw⟩ := hw
  have hW : gW D (fun q => s.heap.size ≤ q) s.heap (hC (rcells (u.2.1 0) (u.2.1 1) ad M []) S) H locs := hW
  refine h_goi C0 hW (va_runV (As := [.int (xs (x3 + 1).toNatClampNeg), .int (xs (x3 + 2).toNatClampNeg)]) (rest := []) ⟨hx, hb, hml, ho, hts⟩ (k_X9_append (l := l) (u := u) (X := rcells (u.2.1 0) (u.2.1 1) ad M []) (sz := H.size) _ d0 (xs (x3 + 1).toNatClampNeg) (xs (x3 + 2).toNatClampNeg) S k1 n1 hw) (cwV 2 hts gL_law_X9_append rfl rfl rfl (by decide +kernel) ⟨Nat.le_of_ble_eq_true rfl, Nat.le_of_ble_eq_true rfl⟩) ⟨h_blind, (h_recv C0 hW (ci := 10) rfl hob), (h_pre C0 hW [.ref d0, .int (xs (x3 + 1).toNatClampNeg), .int (xs (x3 + 2).toNatClampNeg)])⟩ rfl rfl hl.1 rfl (lv_room (Nat.le_of_ble_eq_true rfl)) dL_law_289 ⟨by show _ ≤ 600000; omega, by show _ ≤ 7302249; omega⟩) (fun r1 S1 H locs h1 hW => ?_)
  replace hw := h1
  have hkn : (k + k1) + (mc - k1) ≤ 600000 ∧ (n + n1) + (ms - n1) ≤ 7302249 := by omega
  have hW : gW D (fun q => s.heap.size ≤ q) s.heap (rcells (u.2.1 0) (u.2.1 1) ad M (va_pl S1.1 S1.2)) H locs := hW
  refine lv_aload_n hx hb dL_law_292 rfl (lv_at hl 2 rfl) ?_
  refine lv_aload_n hx hb dL_law_293 rfl (lv_at hl 0 rfl) ?_
  refine lv_iload_n hx hb dL_law_294 rfl (lv_at hl 3 rfl) ?_
  refine lv_iconst (v := 1) hx hb dL_law_295 (by decide) ?_
  refine lv_iadd hx hb dL_law_296 ?_
  obtain ⟨hb1, hw⟩ := hw
  refine va_sld hx hb hXs hbl hbA hW.2.2 hb1 dL_law_297 ?_
  refine lv_aload_n hx hb dL_law_298 rfl (lv_at hl 0 rfl) ?_
  refine lv_iload_n hx hb dL_law_299 rfl (lv_at hl 3 rfl) ?_
  refine lv_iconst (v := 2) hx hb dL_law_300 (by decide) ?_
  refine lv_iadd hx hb dL_law_301 ?_
  obtain ⟨hb2, hw⟩ := hw
  refine va_sld hx hb hXs hbl hbA hW.2.2 hb2 dL_law_302 ?_
  refine g_calli (cw0 := fun M => rcells (u.2.1 0) (u.2.1 1) ad M (va_pl S1.1 S1.2)) (M := M) (As := [.int (xs (x3 + 1).toNatClampNeg), .int (xs (x3 + 2).toNatClampNeg)]) (rest := [.int r1]) C0.1 hW hl.1 (k_append (l := l) _ (xs (x3 + 1).toNatClampNeg) (xs (x3 + 2).toNatClampNeg) _ hw) (cwV 2 hts gL_law_X10_append rfl rfl rfl (by decide +kernel) ⟨Nat.le_of_ble_eq_true rfl, Nat.le_of_ble_eq_true rfl⟩) (va_recv (q := (RX10, TX10, 21)) hK hW.1 (ci := 11) (q0 := 0) rfl rfl) (Nat.le_of_ble_eq_true rfl) dL_law_303 rfl ⟨by show _ ≤ 600000; omega, by show _ ≤ 7302249; omega⟩ (fun r2 M1 H locs h3 hW => ?_)
  replace hw := h3
  refine lv_icmp_eq (tgt := 1680) hx hb dL_law_306 (by decide) (fun c1 => ?_) (fun c1 => ?_)
  · have hkn : ((k + k1) + 0) + (mc - k1) ≤ 600000 ∧ ((n + n1) + 0) + (ms - n1) ≤ 7302249 := by omega
    exact hKK x3 S1 M1 (mc - k1) (ms - n1) _ _ hkn (hw.1 c1) _ _ _ hW hl
  · exact (hw.2 c1).elim
def w_law_c3 (u : hU) (d0 L : Nat) (xs : Nat → Int32) (K : Int32 → hS → RM → Nat → Nat → Prop) (x3 : Int32) (S : hS) (M : RM) (mc ms : Nat) : Prop := (vp_in (x3 + 1) L ∧ ((∃ fs, rO S d0 10 fs) ∧ w_X9_length u (fun r1 => (vp_in (x3 + 1) L ∧ (w_length (fun r2 M1 => ((r1 = r2 → K x3 S M1 mc ms) ∧ (¬ r1 = r2 → False))) (xs (x3 + 1).toNatClampNeg) M))) d0 (xs (x3 + 1).toNatClampNeg) S))
set_option maxHeartbeats 4000000 in
set_option maxRecDepth 100000 in
theorem t_law_c3 (C0 : hX p s m #[Value.ref b] c cL_law 4 RL wsL_law D (gt u.2.1) (fun q => s.heap.size ≤ q) u.1 u.2.2) (hXs : va_X b L xs s s.heap) (hbl : b < s.heap.size) (K : Int32 → hS → RM → Nat → Nat → Prop) (hKK : ∀ (x3 : Int32) (S : hS) (M : RM) (mc ms k n : Nat), k + mc ≤ 600000 ∧ n + ms ≤ 7302249 → K x3 S M mc ms → gG p l e room_1 s m #[Value.ref b] below meth c Q D (fun q => s.heap.size ≤ q) 4 k n (rcells (u.2.1 0) (u.2.1 1) ad M (va_pl S.1 S.2)) 1680 [(0, .ref b), (1, .ref d0), (2, .ref (ad 0)), (3, .int x3)] []) (x3 : Int32) (S : hS) (M : RM) (mc ms k n : Nat) (hkn : k + mc ≤ 600000 ∧ n + ms ≤ 7302249) (hw : w_law_c3 u d0 L xs K x3 S M mc ms) : gG p l e room_1 s m #[Value.ref b] below meth c Q D (fun q => s.heap.size ≤ q) 4 k n (rcells (u.2.1 0) (u.2.1 1) ad M (va_pl S.1 S.2)) 311 [(0, .ref b), (1, .ref d0), (2, .ref (ad 0)), (3, .int x3)] [] := by
  obtain ⟨⟨hx, hb, hml, ho, hts, hK, hA⟩, hR⟩ := id C0
  have hbA : ¬ (fun q : Nat => s.heap.size ≤ q) b := Nat.not_le.mpr hbl
  intro H locs ls hW hl
  rw [w_law_c3] at hw
  refine lv_aload_n hx hb dL_law_311 rfl (lv_at hl 1 rfl) ?_
  refine lv_aload_n hx hb dL_law_312 rfl (lv_at hl 0 rfl) ?_
  refine lv_iload_n hx hb dL_law_313 rfl (lv_at hl 3 rfl) ?_
  refine lv_iconst (v := 1) hx hb dL_law_314 (by decide) ?_
  refine lv_iadd hx hb dL_law_315 ?_
  obtain ⟨ha1, hw⟩ := hw
  refine va_sld hx hb hXs hbl hbA hW.2.2 ha1 dL_law_316 ?_
  obtain ⟨hob, hw⟩ := hw
  have hW : gW D (fun q => s.heap.size ≤ q) s.heap (hC (rcells (u.2.1 0) (u.2.1 1) ad M []) S) H locs := hW
  refine h_goi C0 hW (va_runV (As := [.int (xs (x3 + 1).toNatClampNeg)]) (rest := []) ⟨hx, hb, hml, ho, hts⟩ (k_X9_length (l := l) (u := u) (X := rcells (u.2.1 0) (u.2.1 1) ad M []) (sz := H.size) _ d0 (xs (x3 + 1).toNatClampNeg) S  hw) (cwV 1 hts gL_law_X9_length rfl rfl rfl (by decide +kernel) ⟨Nat.le_of_ble_eq_true rfl, Nat.le_of_ble_eq_true rfl⟩) ⟨h_blind, (h_recv C0 hW (ci := 10) rfl hob), (h_pre C0 hW [.ref d0, .int (xs (x3 + 1).toNatClampNeg)])⟩ rfl rfl hl.1 rfl (lv_room (Nat.le_of_ble_eq_true rfl)) dL_law_317 ⟨by show _ ≤ 600000; omega, by show _ ≤ 7302249; omega⟩) (fun r1 S1 H locs h1 hW => ?_)
  obtain ⟨h2, hp⟩ := h1
  rw [h2] at hW
  replace hw := hp
  have hkn : (k + 0) + mc ≤ 600000 ∧ (n + 0) + ms ≤ 7302249 := by omega
  have hW : gW D (fun q => s.heap.size ≤ q) s.heap (rcells (u.2.1 0) (u.2.1 1) ad M (va_pl S.1 S.2)) H locs := hW
  refine lv_aload_n hx hb dL_law_320 rfl (lv_at hl 2 rfl) ?_
  refine lv_aload_n hx hb dL_law_321 rfl (lv_at hl 0 rfl) ?_
  refine lv_iload_n hx hb dL_law_322 rfl (lv_at hl 3 rfl) ?_
  refine lv_iconst (v := 1) hx hb dL_law_323 (by decide) ?_
  refine lv_iadd hx hb dL_law_324 ?_
  obtain ⟨hb1, hw⟩ := hw
  refine va_sld hx hb hXs hbl hbA hW.2.2 hb1 dL_law_325 ?_
  refine g_calli (cw0 := fun M => rcells (u.2.1 0) (u.2.1 1) ad M (va_pl S.1 S.2)) (M := M) (As := [.int (xs (x3 + 1).toNatClampNeg)]) (rest := [.int r1]) C0.1 hW hl.1 (k_length (l := l) _ (xs (x3 + 1).toNatClampNeg) _ hw) (cwV 1 hts gL_law_X10_length rfl rfl rfl (by decide +kernel) ⟨Nat.le_of_ble_eq_true rfl, Nat.le_of_ble_eq_true rfl⟩) (va_recv (q := (RX10, TX10, 21)) hK hW.1 (ci := 11) (q0 := 0) rfl rfl) (Nat.le_of_ble_eq_true rfl) dL_law_326 rfl ⟨by show _ ≤ 600000; omega, by show _ ≤ 7302249; omega⟩ (fun r2 M1 H locs h3 hW => ?_)
  replace hw := h3
  refine lv_icmp_eq (tgt := 1680) hx hb dL_law_329 (by decide) (fun c1 => ?_) (fun c1 => ?_)
  · have hkn : ((k + 0) + 0) + mc ≤ 600000 ∧ ((n + 0) + 0) + ms ≤ 7302249 := by omega
    exact hKK x3 S M1 mc ms _ _ hkn (hw.1 c1) _ _ _ hW hl
  · exact (hw.2 c1).elim
def w_law_c4 (u : hU) (d0 L : Nat) (xs : Nat → Int32) (K : Int32 → hS → RM → Nat → Nat → Prop) (x3 : Int32) (S : hS) (M : RM) (mc ms : Nat) : Prop := (vp_in (x3 + 1) L ∧ (vp_in (x3 + 2) L ∧ ((∃ fs, rO S d0 10 fs) ∧ w_X9_characterAt u (fun r1 => (vp_in (x3 + 1) L ∧ (vp_in (x3 + 2) L ∧ (w_characterAt (fun r2 M1 => ((r1 = r2 → K x3 S M1 mc ms) ∧ (¬ r1 = r2 → False))) (xs (x3 + 1).toNatClampNeg) (xs (x3 + 2).toNatClampNeg) M)))) d0 (xs (x3 + 1).toNatClampNeg) (xs (x3 + 2).toNatClampNeg) S)))
set_option maxHeartbeats 4000000 in
set_option maxRecDepth 100000 in
theorem t_law_c4 (C0 : hX p s m #[Value.ref b] c cL_law 4 RL wsL_law D (gt u.2.1) (fun q => s.heap.size ≤ q) u.1 u.2.2) (hXs : va_X b L xs s s.heap) (hbl : b < s.heap.size) (K : Int32 → hS → RM → Nat → Nat → Prop) (hKK : ∀ (x3 : Int32) (S : hS) (M : RM) (mc ms k n : Nat), k + mc ≤ 600000 ∧ n + ms ≤ 7302249 → K x3 S M mc ms → gG p l e room_1 s m #[Value.ref b] below meth c Q D (fun q => s.heap.size ≤ q) 4 k n (rcells (u.2.1 0) (u.2.1 1) ad M (va_pl S.1 S.2)) 1680 [(0, .ref b), (1, .ref d0), (2, .ref (ad 0)), (3, .int x3)] []) (x3 : Int32) (S : hS) (M : RM) (mc ms k n : Nat) (hkn : k + mc ≤ 600000 ∧ n + ms ≤ 7302249) (hw : w_law_c4 u d0 L xs K x3 S M mc ms) : gG p l e room_1 s m #[Value.ref b] below meth c Q D (fun q => s.heap.size ≤ q) 4 k n (rcells (u.2.1 0) (u.2.1 1) ad M (va_pl S.1 S.2)) 334 [(0, .ref b), (1, .ref d0), (2, .ref (ad 0)), (3, .int x3)] [] := by
  obtain ⟨⟨hx, hb, hml, ho, hts, hK, hA⟩, hR⟩ := id C0
  have hbA : ¬ (fun q : Nat => s.heap.size ≤ q) b := Nat.not_le.mpr hbl
  intro H locs ls hW hl
  rw [w_law_c4] at hw
  refine lv_aload_n hx hb dL_law_334 rfl (lv_at hl 1 rfl) ?_
  refine lv_aload_n hx hb dL_law_335 rfl (lv_at hl 0 rfl) ?_
  refine lv_iload_n hx hb dL_law_336 rfl (lv_at hl 3 rfl) ?_
  refine lv_iconst (v := 1) hx hb dL_law_337 (by decide) ?_
  refine lv_iadd hx hb dL_law_338 ?_
  obtain ⟨ha1, hw⟩ := hw
  refine va_sld hx hb hXs hbl hbA hW.2.2 ha1 dL_law_339 ?_
  refine lv_aload_n hx hb dL_law_340 rfl (lv_at hl 0 rfl) ?_
  refine lv_iload_n hx hb dL_law_341 rfl (lv_at hl 3 rfl) ?_
  refine lv_iconst (v := 2) hx hb dL_law_342 (by decide) ?_
  refine lv_iadd hx hb dL_law_343 ?_
  obtain ⟨ha2, hw⟩ := hw
  refine va_sld hx hb hXs hbl hbA hW.2.2 ha2 dL_law_344 ?_
  obtain ⟨hob, hw⟩ := hw
  have hW : gW D (fun q => s.heap.size ≤ q) s.heap (hC (rcells (u.2.1 0) (u.2.1 1) ad M []) S) H locs := hW
  refine h_goi C0 hW (va_runV (As := [.int (xs (x3 + 1).toNatClampNeg), .int (xs (x3 + 2).toNatClampNeg)]) (rest := []) ⟨hx, hb, hml, ho, hts⟩ (k_X9_characterAt (l := l) (u := u) (X := rcells (u.2.1 0) (u.2.1 1) ad M []) (sz := H.size) _ d0 (xs (x3 + 1).toNatClampNeg) (xs (x3 + 2).toNatClampNeg) S  hw) (cwV 2 hts gL_law_X9_characterAt rfl rfl rfl (by decide +kernel) ⟨Nat.le_of_ble_eq_true rfl, Nat.le_of_ble_eq_true rfl⟩) ⟨h_blind, (h_recv C0 hW (ci := 10) rfl hob), (h_pre C0 hW [.ref d0, .int (xs (x3 + 1).toNatClampNeg), .int (xs (x3 + 2).toNatClampNeg)])⟩ rfl rfl hl.1 rfl (lv_room (Nat.le_of_ble_eq_true rfl)) dL_law_345 ⟨by show _ ≤ 600000; omega, by show _ ≤ 7302249; omega⟩) (fun r1 S1 H locs h1 hW => ?_)
  obtain ⟨h2, hp⟩ := h1
  rw [h2] at hW
  replace hw := hp
  have hkn : (k + 0) + mc ≤ 600000 ∧ (n + 0) + ms ≤ 7302249 := by omega
  have hW : gW D (fun q => s.heap.size ≤ q) s.heap (rcells (u.2.1 0) (u.2.1 1) ad M (va_pl S.1 S.2)) H locs := hW
  refine lv_aload_n hx hb dL_law_348 rfl (lv_at hl 2 rfl) ?_
  refine lv_aload_n hx hb dL_law_349 rfl (lv_at hl 0 rfl) ?_
  refine lv_iload_n hx hb dL_law_350 rfl (lv_at hl 3 rfl) ?_
  refine lv_iconst (v := 1) hx hb dL_law_351 (by decide) ?_
  refine lv_iadd hx hb dL_law_352 ?_
  obtain ⟨hb1, hw⟩ := hw
  refine va_sld hx hb hXs hbl hbA hW.2.2 hb1 dL_law_353 ?_
  refine lv_aload_n hx hb dL_law_354 rfl (lv_at hl 0 rfl) ?_
  refine lv_iload_n hx hb dL_law_355 rfl (lv_at hl 3 rfl) ?_
  refine lv_iconst (v := 2) hx hb dL_law_356 (by decide) ?_
  refine lv_iadd hx hb dL_law_357 ?_
  obtain ⟨hb2, hw⟩ := hw
  refine va_sld hx hb hXs hbl hbA hW.2.2 hb2 dL_law_358 ?_
  refine g_calli (cw0 := fun M => rcells (u.2.1 0) (u.2.1 1) ad M (va_pl S.1 S.2)) (M := M) (As := [.int (xs (x3 + 1).toNatClampNeg), .int (xs (x3 + 2).toNatClampNeg)]) (rest := [.int r1]) C0.1 hW hl.1 (k_characterAt (l := l) _ (xs (x3 + 1).toNatClampNeg) (xs (x3 + 2).toNatClampNeg) _ hw) (cwV 2 hts gL_law_X10_characterAt rfl rfl rfl (by decide +kernel) ⟨Nat.le_of_ble_eq_true rfl, Nat.le_of_ble_eq_true rfl⟩) (va_recv (q := (RX10, TX10, 21)) hK hW.1 (ci := 11) (q0 := 0) rfl rfl) (Nat.le_of_ble_eq_true rfl) dL_law_359 rfl ⟨by show _ ≤ 600000; omega, by show _ ≤ 7302249; omega⟩ (fun r2 M1 H locs h3 hW => ?_)
  replace hw := h3
  refine lv_icmp_eq (tgt := 1680) hx hb dL_law_362 (by decide) (fun c1 => ?_) (fun c1 => ?_)
  · have hkn : ((k + 0) + 0) + mc ≤ 600000 ∧ ((n + 0) + 0) + ms ≤ 7302249 := by omega
    exact hKK x3 S M1 mc ms _ _ hkn (hw.1 c1) _ _ _ hW hl
  · exact (hw.2 c1).elim
def w_law_c5 (u : hU) (d0 L : Nat) (xs : Nat → Int32) (K : Int32 → hS → RM → Nat → Nat → Prop) (x3 : Int32) (S : hS) (M : RM) (mc ms : Nat) : Prop := (vp_in (x3 + 1) L ∧ (vp_in (x3 + 2) L ∧ ((∃ fs, rO S d0 10 fs) ∧ w_X9_copy u (fun r1 S1 => (vp_in (x3 + 1) L ∧ (vp_in (x3 + 2) L ∧ (w_copy (fun r2 M1 => ((r1 = r2 → K x3 S1 M1 mc ms) ∧ (¬ r1 = r2 → False))) (xs (x3 + 1).toNatClampNeg) (xs (x3 + 2).toNatClampNeg) M)))) d0 (xs (x3 + 1).toNatClampNeg) (xs (x3 + 2).toNatClampNeg) S)))
set_option maxHeartbeats 4000000 in
set_option maxRecDepth 100000 in
theorem t_law_c5 (C0 : hX p s m #[Value.ref b] c cL_law 4 RL wsL_law D (gt u.2.1) (fun q => s.heap.size ≤ q) u.1 u.2.2) (hXs : va_X b L xs s s.heap) (hbl : b < s.heap.size) (K : Int32 → hS → RM → Nat → Nat → Prop) (hKK : ∀ (x3 : Int32) (S : hS) (M : RM) (mc ms k n : Nat), k + mc ≤ 600000 ∧ n + ms ≤ 7302249 → K x3 S M mc ms → gG p l e room_1 s m #[Value.ref b] below meth c Q D (fun q => s.heap.size ≤ q) 4 k n (rcells (u.2.1 0) (u.2.1 1) ad M (va_pl S.1 S.2)) 1680 [(0, .ref b), (1, .ref d0), (2, .ref (ad 0)), (3, .int x3)] []) (x3 : Int32) (S : hS) (M : RM) (mc ms k n : Nat) (hkn : k + mc ≤ 600000 ∧ n + ms ≤ 7302249) (hw : w_law_c5 u d0 L xs K x3 S M mc ms) : gG p l e room_1 s m #[Value.ref b] below meth c Q D (fun q => s.heap.size ≤ q) 4 k n (rcells (u.2.1 0) (u.2.1 1) ad M (va_pl S.1 S.2)) 367 [(0, .ref b), (1, .ref d0), (2, .ref (ad 0)), (3, .int x3)] [] := by
  obtain ⟨⟨hx, hb, hml, ho, hts, hK, hA⟩, hR⟩ := id C0
  have hbA : ¬ (fun q : Nat => s.heap.size ≤ q) b := Nat.not_le.mpr hbl
  intro H locs ls hW hl
  rw [w_law_c5] at hw
  refine lv_aload_n hx hb dL_law_367 rfl (lv_at hl 1 rfl) ?_
  refine lv_aload_n hx hb dL_law_368 rfl (lv_at hl 0 rfl) ?_
  refine lv_iload_n hx hb dL_law_369 rfl (lv_at hl 3 rfl) ?_
  refine lv_iconst (v := 1) hx hb dL_law_370 (by decide) ?_
  refine lv_iadd hx hb dL_law_371 ?_
  obtain ⟨ha1, hw⟩ := hw
  refine va_sld hx hb hXs hbl hbA hW.2.2 ha1 dL_law_372 ?_
  refine lv_aload_n hx hb dL_law_373 rfl (lv_at hl 0 rfl) ?_
  refine lv_iload_n hx hb dL_law_374 rfl (lv_at hl 3 rfl) ?_
  refine lv_iconst (v := 2) hx hb dL_law_375 (by decide) ?_
  refine lv_iadd hx hb dL_law_376 ?_
  obtain ⟨ha2, hw⟩ := hw
  refine va_sld hx hb hXs hbl hbA hW.2.2 ha2 dL_law_377 ?_
  obtain ⟨hob, hw⟩ := hw
  have hW : gW D (fun q => s.heap.size ≤ q) s.heap (hC (rcells (u.2.1 0) (u.2.1 1) ad M []) S) H locs := hW
  refine h_goi C0 hW (va_runV (As := [.int (xs (x3 + 1).toNatClampNeg), .int (xs (x3 + 2).toNatClampNeg)]) (rest := []) ⟨hx, hb, hml, ho, hts⟩ (k_X9_copy (l := l) (u := u) (X := rcells (u.2.1 0) (u.2.1 1) ad M []) (sz := H.size) _ d0 (xs (x3 + 1).toNatClampNeg) (xs (x3 + 2).toNatClampNeg) S  hw) (cwV 2 hts gL_law_X9_copy rfl rfl rfl (by decide +kernel) ⟨Nat.le_of_ble_eq_true rfl, Nat.le_of_ble_eq_true rfl⟩) ⟨h_blind, (h_recv C0 hW (ci := 10) rfl hob), (h_pre C0 hW [.ref d0, .int (xs (x3 + 1).toNatClampNeg), .int (xs (x3 + 2).toNatClampNeg)])⟩ rfl rfl hl.1 rfl (lv_room (Nat.le_of_ble_eq_true rfl)) dL_law_378 ⟨by show _ ≤ 600000; omega, by show _ ≤ 7302249; omega⟩) (fun r1 S1 H locs h1 hW => ?_)
  replace hw := h1
  have hkn : (k + 0) + mc ≤ 600000 ∧ (n + 0) + ms ≤ 7302249 := by omega
  have hW : gW D (fun q => s.heap.size ≤ q) s.heap (rcells (u.2.1 0) (u.2.1 1) ad M (va_pl S1.1 S1.2)) H locs := hW
  refine lv_aload_n hx hb dL_law_381 rfl (lv_at hl 2 rfl) ?_
  refine lv_aload_n hx hb dL_law_382 rfl (lv_at hl 0 rfl) ?_
  refine lv_iload_n hx hb dL_law_383 rfl (lv_at hl 3 rfl) ?_
  refine lv_iconst (v := 1) hx hb dL_law_384 (by decide) ?_
  refine lv_iadd hx hb dL_law_385 ?_
  obtain ⟨hb1, hw⟩ := hw
  refine va_sld hx hb hXs hbl hbA hW.2.2 hb1 dL_law_386 ?_
  refine lv_aload_n hx hb dL_law_387 rfl (lv_at hl 0 rfl) ?_
  refine lv_iload_n hx hb dL_law_388 rfl (lv_at hl 3 rfl) ?_
  refine lv_iconst (v := 2) hx hb dL_law_389 (by decide) ?_
  refine lv_iadd hx hb dL_law_390 ?_
  obtain ⟨hb2, hw⟩ := hw
  refine va_sld hx hb hXs hbl hbA hW.2.2 hb2 dL_law_391 ?_
  refine g_calli (cw0 := fun M => rcells (u.2.1 0) (u.2.1 1) ad M (va_pl S1.1 S1.2)) (M := M) (As := [.int (xs (x3 + 1).toNatClampNeg), .int (xs (x3 + 2).toNatClampNeg)]) (rest := [.int r1]) C0.1 hW hl.1 (k_copy (l := l) _ (xs (x3 + 1).toNatClampNeg) (xs (x3 + 2).toNatClampNeg) _ hw) (cwV 2 hts gL_law_X10_copy rfl rfl rfl (by decide +kernel) ⟨Nat.le_of_ble_eq_true rfl, Nat.le_of_ble_eq_true rfl⟩) (va_recv (q := (RX10, TX10, 21)) hK hW.1 (ci := 11) (q0 := 0) rfl rfl) (Nat.le_of_ble_eq_true rfl) dL_law_392 rfl ⟨by show _ ≤ 600000; omega, by show _ ≤ 7302249; omega⟩ (fun r2 M1 H locs h3 hW => ?_)
  replace hw := h3
  refine lv_icmp_eq (tgt := 1680) hx hb dL_law_395 (by decide) (fun c1 => ?_) (fun c1 => ?_)
  · have hkn : ((k + 0) + 0) + mc ≤ 600000 ∧ ((n + 0) + 0) + ms ≤ 7302249 := by omega
    exact hKK x3 S1 M1 mc ms _ _ hkn (hw.1 c1) _ _ _ hW hl
  · exact (hw.2 c1).elim
def w_law_c6 (u : hU) (d0 L : Nat) (xs : Nat → Int32) (K : Int32 → hS → RM → Nat → Nat → Prop) (x3 : Int32) (S : hS) (M : RM) (mc ms : Nat) : Prop := (vp_in (x3 + 1) L ∧ (vp_in (x3 + 2) L ∧ ((∃ fs, rO S d0 10 fs) ∧ w_X9_same u (fun r1 => (vp_in (x3 + 1) L ∧ (vp_in (x3 + 2) L ∧ (w_same (fun r2 M1 => ((r1 = r2 → K x3 S M1 mc ms) ∧ (¬ r1 = r2 → False))) (xs (x3 + 1).toNatClampNeg) (xs (x3 + 2).toNatClampNeg) M)))) d0 (xs (x3 + 1).toNatClampNeg) (xs (x3 + 2).toNatClampNeg) S)))
set_option maxHeartbeats 4000000 in
set_option maxRecDepth 100000 in
theorem t_law_c6 (C0 : hX p s m #[Value.ref b] c cL_law 4 RL wsL_law D (gt u.2.1) (fun q => s.heap.size ≤ q) u.1 u.2.2) (hXs : va_X b L xs s s.heap) (hbl : b < s.heap.size) (K : Int32 → hS → RM → Nat → Nat → Prop) (hKK : ∀ (x3 : Int32) (S : hS) (M : RM) (mc ms k n : Nat), k + mc ≤ 600000 ∧ n + ms ≤ 7302249 → K x3 S M mc ms → gG p l e room_1 s m #[Value.ref b] below meth c Q D (fun q => s.heap.size ≤ q) 4 k n (rcells (u.2.1 0) (u.2.1 1) ad M (va_pl S.1 S.2)) 1680 [(0, .ref b), (1, .ref d0), (2, .ref (ad 0)), (3, .int x3)] []) (x3 : Int32) (S : hS) (M : RM) (mc ms k n : Nat) (hkn : k + mc ≤ 600000 ∧ n + ms ≤ 7302249) (hw : w_law_c6 u d0 L xs K x3 S M mc ms) : gG p l e room_1 s m #[Value.ref b] below meth c Q D (fun q => s.heap.size ≤ q) 4 k n (rcells (u.2.1 0) (u.2.1 1) ad M (va_pl S.1 S.2)) 400 [(0, .ref b), (1, .ref d0), (2, .ref (ad 0)), (3, .int x3)] [] := by
  obtain ⟨⟨hx, hb, hml, ho, hts, hK, hA⟩, hR⟩ := id C0
  have hbA : ¬ (fun q : Nat => s.heap.size ≤ q) b := Nat.not_le.mpr hbl
  intro H locs ls hW hl
  rw [w_law_c6] at hw
  refine lv_aload_n hx hb dL_law_400 rfl (lv_at hl 1 rfl) ?_
  refine lv_aload_n hx hb dL_law_401 rfl (lv_at hl 0 rfl) ?_
  refine lv_iload_n hx hb dL_law_402 rfl (lv_at hl 3 rfl) ?_
  refine lv_iconst (v := 1) hx hb dL_law_403 (by decide) ?_
  refine lv_iadd hx hb dL_law_404 ?_
  obtain ⟨ha1, hw⟩ := hw
  refine va_sld hx hb hXs hbl hbA hW.2.2 ha1 dL_law_405 ?_
  refine lv_aload_n hx hb dL_law_406 rfl (lv_at hl 0 rfl) ?_
  refine lv_iload_n hx hb dL_law_407 rfl (lv_at hl 3 rfl) ?_
  refine lv_iconst (v := 2) hx hb dL_law_408 (by decide) ?_
  refine lv_iadd hx hb dL_law_409 ?_
  obtain ⟨ha2, hw⟩ := hw
  refine va_sld hx hb hXs hbl hbA hW.2.2 ha2 dL_law_410 ?_
  obtain ⟨hob, hw⟩ := hw
  have hW : gW D (fun q => s.heap.size ≤ q) s.heap (hC (rcells (u.2.1 0) (u.2.1 1) ad M []) S) H locs := hW
  refine h_goi C0 hW (va_runV (As := [.int (xs (x3 + 1).toNatClampNeg), .int (xs (x3 + 2).toNatClampNeg)]) (rest := []) ⟨hx, hb, hml, ho, hts⟩ (k_X9_same (l := l) (u := u) (X := rcells (u.2.1 0) (u.2.1 1) ad M []) (sz := H.size) _ d0 (xs (x3 + 1).toNatClampNeg) (xs (x3 + 2).toNatClampNeg) S  hw) (cwV 2 hts gL_law_X9_same rfl rfl rfl (by decide +kernel) ⟨Nat.le_of_ble_eq_true rfl, Nat.le_of_ble_eq_true rfl⟩) ⟨h_blind, (h_recv C0 hW (ci := 10) rfl hob), (h_pre C0 hW [.ref d0, .int (xs (x3 + 1).toNatClampNeg), .int (xs (x3 + 2).toNatClampNeg)])⟩ rfl rfl hl.1 rfl (lv_room (Nat.le_of_ble_eq_true rfl)) dL_law_411 ⟨by show _ ≤ 600000; omega, by show _ ≤ 7302249; omega⟩) (fun r1 S1 H locs h1 hW => ?_)
  obtain ⟨h2, hp⟩ := h1
  rw [h2] at hW
  replace hw := hp
  have hkn : (k + 0) + mc ≤ 600000 ∧ (n + 0) + ms ≤ 7302249 := by omega
  have hW : gW D (fun q => s.heap.size ≤ q) s.heap (rcells (u.2.1 0) (u.2.1 1) ad M (va_pl S.1 S.2)) H locs := hW
  refine lv_aload_n hx hb dL_law_414 rfl (lv_at hl 2 rfl) ?_
  refine lv_aload_n hx hb dL_law_415 rfl (lv_at hl 0 rfl) ?_
  refine lv_iload_n hx hb dL_law_416 rfl (lv_at hl 3 rfl) ?_
  refine lv_iconst (v := 1) hx hb dL_law_417 (by decide) ?_
  refine lv_iadd hx hb dL_law_418 ?_
  obtain ⟨hb1, hw⟩ := hw
  refine va_sld hx hb hXs hbl hbA hW.2.2 hb1 dL_law_419 ?_
  refine lv_aload_n hx hb dL_law_420 rfl (lv_at hl 0 rfl) ?_
  refine lv_iload_n hx hb dL_law_421 rfl (lv_at hl 3 rfl) ?_
  refine lv_iconst (v := 2) hx hb dL_law_422 (by decide) ?_
  refine lv_iadd hx hb dL_law_423 ?_
  obtain ⟨hb2, hw⟩ := hw
  refine va_sld hx hb hXs hbl hbA hW.2.2 hb2 dL_law_424 ?_
  refine g_calli (cw0 := fun M => rcells (u.2.1 0) (u.2.1 1) ad M (va_pl S.1 S.2)) (M := M) (As := [.int (xs (x3 + 1).toNatClampNeg), .int (xs (x3 + 2).toNatClampNeg)]) (rest := [.int r1]) C0.1 hW hl.1 (k_same (l := l) _ (xs (x3 + 1).toNatClampNeg) (xs (x3 + 2).toNatClampNeg) _ hw) (cwV 2 hts gL_law_X10_same rfl rfl rfl (by decide +kernel) ⟨Nat.le_of_ble_eq_true rfl, Nat.le_of_ble_eq_true rfl⟩) (va_recv (q := (RX10, TX10, 21)) hK hW.1 (ci := 11) (q0 := 0) rfl rfl) (Nat.le_of_ble_eq_true rfl) dL_law_425 rfl ⟨by show _ ≤ 600000; omega, by show _ ≤ 7302249; omega⟩ (fun r2 M1 H locs h3 hW => ?_)
  replace hw := h3
  refine lv_icmp_eq (tgt := 1680) hx hb dL_law_428 (by decide) (fun c1 => ?_) (fun c1 => ?_)
  · have hkn : ((k + 0) + 0) + mc ≤ 600000 ∧ ((n + 0) + 0) + ms ≤ 7302249 := by omega
    exact hKK x3 S M1 mc ms _ _ hkn (hw.1 c1) _ _ _ hW hl
  · exact (hw.2 c1).elim
def w_law_c7 (u : hU) (d0 L : Nat) (xs : Nat → Int32) (K : Int32 → hS → RM → Nat → Nat → Prop) (x3 : Int32) (S : hS) (M : RM) (mc ms : Nat) : Prop := (vp_in (x3 + 1) L ∧ ((∃ fs, rO S d0 10 fs) ∧ (∃ k1 n1 : Nat, k1 ≤ mc ∧ n1 ≤ ms ∧ w_X9_type u (fun r1 S1 => (vp_in (x3 + 1) L ∧ (w_type (fun r2 M1 => ((r1 = r2 → K x3 S1 M1 (mc - k1) (ms - n1)) ∧ (¬ r1 = r2 → False))) (xs (x3 + 1).toNatClampNeg) M))) d0 (xs (x3 + 1).toNatClampNeg) S k1 n1)))
set_option maxHeartbeats 4000000 in
set_option maxRecDepth 100000 in
theorem t_law_c7 (C0 : hX p s m #[Value.ref b] c cL_law 4 RL wsL_law D (gt u.2.1) (fun q => s.heap.size ≤ q) u.1 u.2.2) (hXs : va_X b L xs s s.heap) (hbl : b < s.heap.size) (K : Int32 → hS → RM → Nat → Nat → Prop) (hKK : ∀ (x3 : Int32) (S : hS) (M : RM) (mc ms k n : Nat), k + mc ≤ 600000 ∧ n + ms ≤ 7302249 → K x3 S M mc ms → gG p l e room_1 s m #[Value.ref b] below meth c Q D (fun q => s.heap.size ≤ q) 4 k n (rcells (u.2.1 0) (u.2.1 1) ad M (va_pl S.1 S.2)) 1680 [(0, .ref b), (1, .ref d0), (2, .ref (ad 0)), (3, .int x3)] []) (x3 : Int32) (S : hS) (M : RM) (mc ms k n : Nat) (hkn : k + mc ≤ 600000 ∧ n + ms ≤ 7302249) (hw : w_law_c7 u d0 L xs K x3 S M mc ms) : gG p l e room_1 s m #[Value.ref b] below meth c Q D (fun q => s.heap.size ≤ q) 4 k n (rcells (u.2.1 0) (u.2.1 1) ad M (va_pl S.1 S.2)) 433 [(0, .ref b), (1, .ref d0), (2, .ref (ad 0)), (3, .int x3)] [] := by
  obtain ⟨⟨hx, hb, hml, ho, hts, hK, hA⟩, hR⟩ := id C0
  have hbA : ¬ (fun q : Nat => s.heap.size ≤ q) b := Nat.not_le.mpr hbl
  intro H locs ls hW hl
  rw [w_law_c7] at hw
  refine lv_aload_n hx hb dL_law_433 rfl (lv_at hl 1 rfl) ?_
  refine lv_aload_n hx hb dL_law_434 rfl (lv_at hl 0 rfl) ?_
  refine lv_iload_n hx hb dL_law_435 rfl (lv_at hl 3 rfl) ?_
  refine lv_iconst (v := 1) hx hb dL_law_436 (by decide) ?_
  refine lv_iadd hx hb dL_law_437 ?_
  obtain ⟨ha1, hw⟩ := hw
  refine va_sld hx hb hXs hbl hbA hW.2.2 ha1 dL_law_438 ?_
  obtain ⟨hob, k1, n1, hk1, hn1, hw⟩ := hw
  have hW : gW D (fun q => s.heap.size ≤ q) s.heap (hC (rcells (u.2.1 0) (u.2.1 1) ad M []) S) H locs := hW
  refine h_goi C0 hW (va_runV (As := [.int (xs (x3 + 1).toNatClampNeg)]) (rest := []) ⟨hx, hb, hml, ho, hts⟩ (k_X9_type (l := l) (u := u) (X := rcells (u.2.1 0) (u.2.1 1) ad M []) (sz := H.size) _ d0 (xs (x3 + 1).toNatClampNeg) S k1 n1 hw) (cwV 1 hts gL_law_X9_type rfl rfl rfl (by decide +kernel) ⟨Nat.le_of_ble_eq_true rfl, Nat.le_of_ble_eq_true rfl⟩) ⟨h_blind, (h_recv C0 hW (ci := 10) rfl hob), (h_pre C0 hW [.ref d0, .int (xs (x3 + 1).toNatClampNeg)])⟩ rfl rfl hl.1 rfl (lv_room (Nat.le_of_ble_eq_true rfl)) dL_law_439 ⟨by show _ ≤ 600000; omega, by show _ ≤ 7302249; omega⟩) (fun r1 S1 H locs h1 hW => ?_)
  replace hw := h1
  have hkn : (k + k1) + (mc - k1) ≤ 600000 ∧ (n + n1) + (ms - n1) ≤ 7302249 := by omega
  have hW : gW D (fun q => s.heap.size ≤ q) s.heap (rcells (u.2.1 0) (u.2.1 1) ad M (va_pl S1.1 S1.2)) H locs := hW
  refine lv_aload_n hx hb dL_law_442 rfl (lv_at hl 2 rfl) ?_
  refine lv_aload_n hx hb dL_law_443 rfl (lv_at hl 0 rfl) ?_
  refine lv_iload_n hx hb dL_law_444 rfl (lv_at hl 3 rfl) ?_
  refine lv_iconst (v := 1) hx hb dL_law_445 (by decide) ?_
  refine lv_iadd hx hb dL_law_446 ?_
  obtain ⟨hb1, hw⟩ := hw
  refine va_sld hx hb hXs hbl hbA hW.2.2 hb1 dL_law_447 ?_
  refine g_calli (cw0 := fun M => rcells (u.2.1 0) (u.2.1 1) ad M (va_pl S1.1 S1.2)) (M := M) (As := [.int (xs (x3 + 1).toNatClampNeg)]) (rest := [.int r1]) C0.1 hW hl.1 (k_type (l := l) _ (xs (x3 + 1).toNatClampNeg) _ hw) (cwV 1 hts gL_law_X10_type rfl rfl rfl (by decide +kernel) ⟨Nat.le_of_ble_eq_true rfl, Nat.le_of_ble_eq_true rfl⟩) (va_recv (q := (RX10, TX10, 21)) hK hW.1 (ci := 11) (q0 := 0) rfl rfl) (Nat.le_of_ble_eq_true rfl) dL_law_448 rfl ⟨by show _ ≤ 600000; omega, by show _ ≤ 7302249; omega⟩ (fun r2 M1 H locs h3 hW => ?_)
  replace hw := h3
  refine lv_icmp_eq (tgt := 1680) hx hb dL_law_451 (by decide) (fun c1 => ?_) (fun c1 => ?_)
  · have hkn : ((k + k1) + 0) + (mc - k1) ≤ 600000 ∧ ((n + n1) + 0) + (ms - n1) ≤ 7302249 := by omega
    exact hKK x3 S1 M1 (mc - k1) (ms - n1) _ _ hkn (hw.1 c1) _ _ _ hW hl
  · exact (hw.2 c1).elim
def w_law_c8 (u : hU) (d0 L : Nat) (xs : Nat → Int32) (K : Int32 → hS → RM → Nat → Nat → Prop) (x3 : Int32) (S : hS) (M : RM) (mc ms : Nat) : Prop := ((∃ fs, rO S d0 10 fs) ∧ w_X9_tapeLength u (fun r1 => (w_tapeLength (fun r2 M1 => ((r1 = r2 → K x3 S M1 mc ms) ∧ (¬ r1 = r2 → False)))  M)) d0  S)
set_option maxHeartbeats 4000000 in
set_option maxRecDepth 100000 in
theorem t_law_c8 (C0 : hX p s m #[Value.ref b] c cL_law 4 RL wsL_law D (gt u.2.1) (fun q => s.heap.size ≤ q) u.1 u.2.2) (hXs : va_X b L xs s s.heap) (hbl : b < s.heap.size) (K : Int32 → hS → RM → Nat → Nat → Prop) (hKK : ∀ (x3 : Int32) (S : hS) (M : RM) (mc ms k n : Nat), k + mc ≤ 600000 ∧ n + ms ≤ 7302249 → K x3 S M mc ms → gG p l e room_1 s m #[Value.ref b] below meth c Q D (fun q => s.heap.size ≤ q) 4 k n (rcells (u.2.1 0) (u.2.1 1) ad M (va_pl S.1 S.2)) 1680 [(0, .ref b), (1, .ref d0), (2, .ref (ad 0)), (3, .int x3)] []) (x3 : Int32) (S : hS) (M : RM) (mc ms k n : Nat) (hkn : k + mc ≤ 600000 ∧ n + ms ≤ 7302249) (hw : w_law_c8 u d0 L xs K x3 S M mc ms) : gG p l e room_1 s m #[Value.ref b] below meth c Q D (fun q => s.heap.size ≤ q) 4 k n (rcells (u.2.1 0) (u.2.1 1) ad M (va_pl S.1 S.2)) 456 [(0, .ref b), (1, .ref d0), (2, .ref (ad 0)), (3, .int x3)] [] := by
  obtain ⟨⟨hx, hb, hml, ho, hts, hK, hA⟩, hR⟩ := id C0
  have hbA : ¬ (fun q : Nat => s.heap.size ≤ q) b := Nat.not_le.mpr hbl
  intro H locs ls hW hl
  rw [w_law_c8] at hw
  refine lv_aload_n hx hb dL_law_456 rfl (lv_at hl 1 rfl) ?_
  obtain ⟨hob, hw⟩ := hw
  have hW : gW D (fun q => s.heap.size ≤ q) s.heap (hC (rcells (u.2.1 0) (u.2.1 1) ad M []) S) H locs := hW
  refine h_goi C0 hW (va_runV (As := []) (rest := []) ⟨hx, hb, hml, ho, hts⟩ (k_X9_tapeLength (l := l) (u := u) (X := rcells (u.2.1 0) (u.2.1 1) ad M []) (sz := H.size) _ d0  S  hw) (cwV 0 hts gL_law_X9_tapeLength rfl rfl rfl (by decide +kernel) ⟨Nat.le_of_ble_eq_true rfl, Nat.le_of_ble_eq_true rfl⟩) ⟨h_blind, (h_recv C0 hW (ci := 10) rfl hob), (h_pre C0 hW [.ref d0])⟩ rfl rfl hl.1 rfl (lv_room (Nat.le_of_ble_eq_true rfl)) dL_law_457 ⟨by show _ ≤ 600000; omega, by show _ ≤ 7302249; omega⟩) (fun r1 S1 H locs h1 hW => ?_)
  obtain ⟨h2, hp⟩ := h1
  rw [h2] at hW
  replace hw := hp
  have hkn : (k + 0) + mc ≤ 600000 ∧ (n + 0) + ms ≤ 7302249 := by omega
  have hW : gW D (fun q => s.heap.size ≤ q) s.heap (rcells (u.2.1 0) (u.2.1 1) ad M (va_pl S.1 S.2)) H locs := hW
  refine lv_aload_n hx hb dL_law_460 rfl (lv_at hl 2 rfl) ?_
  refine g_calli (cw0 := fun M => rcells (u.2.1 0) (u.2.1 1) ad M (va_pl S.1 S.2)) (M := M) (As := []) (rest := [.int r1]) C0.1 hW hl.1 (k_tapeLength (l := l) _  _ hw) (cwV 0 hts gL_law_X10_tapeLength rfl rfl rfl (by decide +kernel) ⟨Nat.le_of_ble_eq_true rfl, Nat.le_of_ble_eq_true rfl⟩) (va_recv (q := (RX10, TX10, 21)) hK hW.1 (ci := 11) (q0 := 0) rfl rfl) (Nat.le_of_ble_eq_true rfl) dL_law_461 rfl ⟨by show _ ≤ 600000; omega, by show _ ≤ 7302249; omega⟩ (fun r2 M1 H locs h3 hW => ?_)
  replace hw := h3
  refine lv_icmp_eq (tgt := 1680) hx hb dL_law_464 (by decide) (fun c1 => ?_) (fun c1 => ?_)
  · have hkn : ((k + 0) + 0) + mc ≤ 600000 ∧ ((n + 0) + 0) + ms ≤ 7302249 := by omega
    exact hKK x3 S M1 mc ms _ _ hkn (hw.1 c1) _ _ _ hW hl
  · exact (hw.2 c1).elim
def w_law_c9 (u : hU) (d0 L : Nat) (xs : Nat → Int32) (K : Int32 → hS → RM → Nat → Nat → Prop) (x3 : Int32) (S : hS) (M : RM) (mc ms : Nat) : Prop := (vp_in (x3 + 1) L ∧ ((∃ fs, rO S d0 10 fs) ∧ w_X9_tapeAt u (fun r1 => (vp_in (x3 + 1) L ∧ (w_tapeAt (fun r2 M1 => ((r1 = r2 → K x3 S M1 mc ms) ∧ (¬ r1 = r2 → False))) (xs (x3 + 1).toNatClampNeg) M))) d0 (xs (x3 + 1).toNatClampNeg) S))
set_option maxHeartbeats 4000000 in
set_option maxRecDepth 100000 in
theorem t_law_c9 (C0 : hX p s m #[Value.ref b] c cL_law 4 RL wsL_law D (gt u.2.1) (fun q => s.heap.size ≤ q) u.1 u.2.2) (hXs : va_X b L xs s s.heap) (hbl : b < s.heap.size) (K : Int32 → hS → RM → Nat → Nat → Prop) (hKK : ∀ (x3 : Int32) (S : hS) (M : RM) (mc ms k n : Nat), k + mc ≤ 600000 ∧ n + ms ≤ 7302249 → K x3 S M mc ms → gG p l e room_1 s m #[Value.ref b] below meth c Q D (fun q => s.heap.size ≤ q) 4 k n (rcells (u.2.1 0) (u.2.1 1) ad M (va_pl S.1 S.2)) 1680 [(0, .ref b), (1, .ref d0), (2, .ref (ad 0)), (3, .int x3)] []) (x3 : Int32) (S : hS) (M : RM) (mc ms k n : Nat) (hkn : k + mc ≤ 600000 ∧ n + ms ≤ 7302249) (hw : w_law_c9 u d0 L xs K x3 S M mc ms) : gG p l e room_1 s m #[Value.ref b] below meth c Q D (fun q => s.heap.size ≤ q) 4 k n (rcells (u.2.1 0) (u.2.1 1) ad M (va_pl S.1 S.2)) 469 [(0, .ref b), (1, .ref d0), (2, .ref (ad 0)), (3, .int x3)] [] := by
  obtain ⟨⟨hx, hb, hml, ho, hts, hK, hA⟩, hR⟩ := id C0
  have hbA : ¬ (fun q : Nat => s.heap.size ≤ q) b := Nat.not_le.mpr hbl
  intro H locs ls hW hl
  rw [w_law_c9] at hw
  refine lv_aload_n hx hb dL_law_469 rfl (lv_at hl 1 rfl) ?_
  refine lv_aload_n hx hb dL_law_470 rfl (lv_at hl 0 rfl) ?_
  refine lv_iload_n hx hb dL_law_471 rfl (lv_at hl 3 rfl) ?_
  refine lv_iconst (v := 1) hx hb dL_law_472 (by decide) ?_
  refine lv_iadd hx hb dL_law_473 ?_
  obtain ⟨ha1, hw⟩ := hw
  refine va_sld hx hb hXs hbl hbA hW.2.2 ha1 dL_law_474 ?_
  obtain ⟨hob, hw⟩ := hw
  have hW : gW D (fun q => s.heap.size ≤ q) s.heap (hC (rcells (u.2.1 0) (u.2.1 1) ad M []) S) H locs := hW
  refine h_goi C0 hW (va_runV (As := [.int (xs (x3 + 1).toNatClampNeg)]) (rest := []) ⟨hx, hb, hml, ho, hts⟩ (k_X9_tapeAt (l := l) (u := u) (X := rcells (u.2.1 0) (u.2.1 1) ad M []) (sz := H.size) _ d0 (xs (x3 + 1).toNatClampNeg) S  hw) (cwV 1 hts gL_law_X9_tapeAt rfl rfl rfl (by decide +kernel) ⟨Nat.le_of_ble_eq_true rfl, Nat.le_of_ble_eq_true rfl⟩) ⟨h_blind, (h_recv C0 hW (ci := 10) rfl hob), (h_pre C0 hW [.ref d0, .int (xs (x3 + 1).toNatClampNeg)])⟩ rfl rfl hl.1 rfl (lv_room (Nat.le_of_ble_eq_true rfl)) dL_law_475 ⟨by show _ ≤ 600000; omega, by show _ ≤ 7302249; omega⟩) (fun r1 S1 H locs h1 hW => ?_)
  obtain ⟨h2, hp⟩ := h1
  rw [h2] at hW
  replace hw := hp
  have hkn : (k + 0) + mc ≤ 600000 ∧ (n + 0) + ms ≤ 7302249 := by omega
  have hW : gW D (fun q => s.heap.size ≤ q) s.heap (rcells (u.2.1 0) (u.2.1 1) ad M (va_pl S.1 S.2)) H locs := hW
  refine lv_aload_n hx hb dL_law_478 rfl (lv_at hl 2 rfl) ?_
  refine lv_aload_n hx hb dL_law_479 rfl (lv_at hl 0 rfl) ?_
  refine lv_iload_n hx hb dL_law_480 rfl (lv_at hl 3 rfl) ?_
  refine lv_iconst (v := 1) hx hb dL_law_481 (by decide) ?_
  refine lv_iadd hx hb dL_law_482 ?_
  obtain ⟨hb1, hw⟩ := hw
  refine va_sld hx hb hXs hbl hbA hW.2.2 hb1 dL_law_483 ?_
  refine g_calli (cw0 := fun M => rcells (u.2.1 0) (u.2.1 1) ad M (va_pl S.1 S.2)) (M := M) (As := [.int (xs (x3 + 1).toNatClampNeg)]) (rest := [.int r1]) C0.1 hW hl.1 (k_tapeAt (l := l) _ (xs (x3 + 1).toNatClampNeg) _ hw) (cwV 1 hts gL_law_X10_tapeAt rfl rfl rfl (by decide +kernel) ⟨Nat.le_of_ble_eq_true rfl, Nat.le_of_ble_eq_true rfl⟩) (va_recv (q := (RX10, TX10, 21)) hK hW.1 (ci := 11) (q0 := 0) rfl rfl) (Nat.le_of_ble_eq_true rfl) dL_law_484 rfl ⟨by show _ ≤ 600000; omega, by show _ ≤ 7302249; omega⟩ (fun r2 M1 H locs h3 hW => ?_)
  replace hw := h3
  refine lv_icmp_eq (tgt := 1680) hx hb dL_law_487 (by decide) (fun c1 => ?_) (fun c1 => ?_)
  · have hkn : ((k + 0) + 0) + mc ≤ 600000 ∧ ((n + 0) + 0) + ms ≤ 7302249 := by omega
    exact hKK x3 S M1 mc ms _ _ hkn (hw.1 c1) _ _ _ hW hl
  · exact (hw.2 c1).elim
def w_law_c10 (u : hU) (d0 L : Nat) (xs : Nat → Int32) (K : Int32 → hS → RM → Nat → Nat → Prop) (x3 : Int32) (S : hS) (M : RM) (mc ms : Nat) : Prop := ((∃ fs, rO S d0 10 fs) ∧ (∃ k1 n1 : Nat, k1 ≤ mc ∧ n1 ≤ ms ∧ w_X9_wipe u (fun r1 S1 => (w_wipe (fun r2 M1 => ((r1 = r2 → K x3 S1 M1 (mc - k1) (ms - n1)) ∧ (¬ r1 = r2 → False)))  M)) d0  S k1 n1))
set_option maxHeartbeats 4000000 in
set_option maxRecDepth 100000 in
theorem t_law_c10 (C0 : hX p s m #[Value.ref b] c cL_law 4 RL wsL_law D (gt u.2.1) (fun q => s.heap.size ≤ q) u.1 u.2.2) (hXs : va_X b L xs s s.heap) (hbl : b < s.heap.size) (K : Int32 → hS → RM → Nat → Nat → Prop) (hKK : ∀ (x3 : Int32) (S : hS) (M : RM) (mc ms k n : Nat), k + mc ≤ 600000 ∧ n + ms ≤ 7302249 → K x3 S M mc ms → gG p l e room_1 s m #[Value.ref b] below meth c Q D (fun q => s.heap.size ≤ q) 4 k n (rcells (u.2.1 0) (u.2.1 1) ad M (va_pl S.1 S.2)) 1680 [(0, .ref b), (1, .ref d0), (2, .ref (ad 0)), (3, .int x3)] []) (x3 : Int32) (S : hS) (M : RM) (mc ms k n : Nat) (hkn : k + mc ≤ 600000 ∧ n + ms ≤ 7302249) (hw : w_law_c10 u d0 L xs K x3 S M mc ms) : gG p l e room_1 s m #[Value.ref b] below meth c Q D (fun q => s.heap.size ≤ q) 4 k n (rcells (u.2.1 0) (u.2.1 1) ad M (va_pl S.1 S.2)) 492 [(0, .ref b), (1, .ref d0), (2, .ref (ad 0)), (3, .int x3)] [] := by
  obtain ⟨⟨hx, hb, hml, ho, hts, hK, hA⟩, hR⟩ := id C0
  have hbA : ¬ (fun q : Nat => s.heap.size ≤ q) b := Nat.not_le.mpr hbl
  intro H locs ls hW hl
  rw [w_law_c10] at hw
  refine lv_aload_n hx hb dL_law_492 rfl (lv_at hl 1 rfl) ?_
  obtain ⟨hob, k1, n1, hk1, hn1, hw⟩ := hw
  have hW : gW D (fun q => s.heap.size ≤ q) s.heap (hC (rcells (u.2.1 0) (u.2.1 1) ad M []) S) H locs := hW
  refine h_goi C0 hW (va_runV (As := []) (rest := []) ⟨hx, hb, hml, ho, hts⟩ (k_X9_wipe (l := l) (u := u) (X := rcells (u.2.1 0) (u.2.1 1) ad M []) (sz := H.size) _ d0  S k1 n1 hw) (cwV 0 hts gL_law_X9_wipe rfl rfl rfl (by decide +kernel) ⟨Nat.le_of_ble_eq_true rfl, Nat.le_of_ble_eq_true rfl⟩) ⟨h_blind, (h_recv C0 hW (ci := 10) rfl hob), (h_pre C0 hW [.ref d0])⟩ rfl rfl hl.1 rfl (lv_room (Nat.le_of_ble_eq_true rfl)) dL_law_493 ⟨by show _ ≤ 600000; omega, by show _ ≤ 7302249; omega⟩) (fun r1 S1 H locs h1 hW => ?_)
  replace hw := h1
  have hkn : (k + k1) + (mc - k1) ≤ 600000 ∧ (n + n1) + (ms - n1) ≤ 7302249 := by omega
  have hW : gW D (fun q => s.heap.size ≤ q) s.heap (rcells (u.2.1 0) (u.2.1 1) ad M (va_pl S1.1 S1.2)) H locs := hW
  refine lv_aload_n hx hb dL_law_496 rfl (lv_at hl 2 rfl) ?_
  refine g_calli (cw0 := fun M => rcells (u.2.1 0) (u.2.1 1) ad M (va_pl S1.1 S1.2)) (M := M) (As := []) (rest := [.int r1]) C0.1 hW hl.1 (k_wipe (l := l) _  _ hw) (cwV 0 hts gL_law_X10_wipe rfl rfl rfl (by decide +kernel) ⟨Nat.le_of_ble_eq_true rfl, Nat.le_of_ble_eq_true rfl⟩) (va_recv (q := (RX10, TX10, 21)) hK hW.1 (ci := 11) (q0 := 0) rfl rfl) (Nat.le_of_ble_eq_true rfl) dL_law_497 rfl ⟨by show _ ≤ 600000; omega, by show _ ≤ 7302249; omega⟩ (fun r2 M1 H locs h3 hW => ?_)
  replace hw := h3
  refine lv_icmp_eq (tgt := 1680) hx hb dL_law_500 (by decide) (fun c1 => ?_) (fun c1 => ?_)
  · have hkn : ((k + k1) + 0) + (mc - k1) ≤ 600000 ∧ ((n + n1) + 0) + (ms - n1) ≤ 7302249 := by omega
    exact hKK x3 S1 M1 (mc - k1) (ms - n1) _ _ hkn (hw.1 c1) _ _ _ hW hl
  · exact (hw.2 c1).elim
def w_law_c11 (u : hU) (d0 L : Nat) (xs : Nat → Int32) (K : Int32 → hS → RM → Nat → Nat → Prop) (x3 : Int32) (S : hS) (M : RM) (mc ms : Nat) : Prop := (vp_in (x3 + 1) L ∧ ((∃ fs, rO S d0 10 fs) ∧ (∃ k1 n1 : Nat, k1 ≤ mc ∧ n1 ≤ ms ∧ w_X9_load u (fun r1 S1 => (vp_in (x3 + 1) L ∧ (w_load (fun r2 M1 => ((r1 = r2 → K x3 S1 M1 (mc - k1) (ms - n1)) ∧ (¬ r1 = r2 → False))) (xs (x3 + 1).toNatClampNeg) M))) d0 (xs (x3 + 1).toNatClampNeg) S k1 n1)))
set_option maxHeartbeats 4000000 in
set_option maxRecDepth 100000 in
theorem t_law_c11 (C0 : hX p s m #[Value.ref b] c cL_law 4 RL wsL_law D (gt u.2.1) (fun q => s.heap.size ≤ q) u.1 u.2.2) (hXs : va_X b L xs s s.heap) (hbl : b < s.heap.size) (K : Int32 → hS → RM → Nat → Nat → Prop) (hKK : ∀ (x3 : Int32) (S : hS) (M : RM) (mc ms k n : Nat), k + mc ≤ 600000 ∧ n + ms ≤ 7302249 → K x3 S M mc ms → gG p l e room_1 s m #[Value.ref b] below meth c Q D (fun q => s.heap.size ≤ q) 4 k n (rcells (u.2.1 0) (u.2.1 1) ad M (va_pl S.1 S.2)) 1680 [(0, .ref b), (1, .ref d0), (2, .ref (ad 0)), (3, .int x3)] []) (x3 : Int32) (S : hS) (M : RM) (mc ms k n : Nat) (hkn : k + mc ≤ 600000 ∧ n + ms ≤ 7302249) (hw : w_law_c11 u d0 L xs K x3 S M mc ms) : gG p l e room_1 s m #[Value.ref b] below meth c Q D (fun q => s.heap.size ≤ q) 4 k n (rcells (u.2.1 0) (u.2.1 1) ad M (va_pl S.1 S.2)) 505 [(0, .ref b), (1, .ref d0), (2, .ref (ad 0)), (3, .int x3)] [] := by
  obtain ⟨⟨hx, hb, hml, ho, hts, hK, hA⟩, hR⟩ := id C0
  have hbA : ¬ (fun q : Nat => s.heap.size ≤ q) b := Nat.not_le.mpr hbl
  intro H locs ls hW hl
  rw [w_law_c11] at hw
  refine lv_aload_n hx hb dL_law_505 rfl (lv_at hl 1 rfl) ?_
  refine lv_aload_n hx hb dL_law_506 rfl (lv_at hl 0 rfl) ?_
  refine lv_iload_n hx hb dL_law_507 rfl (lv_at hl 3 rfl) ?_
  refine lv_iconst (v := 1) hx hb dL_law_508 (by decide) ?_
  refine lv_iadd hx hb dL_law_509 ?_
  obtain ⟨ha1, hw⟩ := hw
  refine va_sld hx hb hXs hbl hbA hW.2.2 ha1 dL_law_510 ?_
  obtain ⟨hob, k1, n1, hk1, hn1, hw⟩ := hw
  have hW : gW D (fun q => s.heap.size ≤ q) s.heap (hC (rcells (u.2.1 0) (u.2.1 1) ad M []) S) H locs := hW
  refine h_goi C0 hW (va_runV (As := [.int (xs (x3 + 1).toNatClampNeg)]) (rest := []) ⟨hx, hb, hml, ho, hts⟩ (k_X9_load (l := l) (u := u) (X := rcells (u.2.1 0) (u.2.1 1) ad M []) (sz := H.size) _ d0 (xs (x3 + 1).toNatClampNeg) S k1 n1 hw) (cwV 1 hts gL_law_X9_load rfl rfl rfl (by decide +kernel) ⟨Nat.le_of_ble_eq_true rfl, Nat.le_of_ble_eq_true rfl⟩) ⟨h_blind, (h_recv C0 hW (ci := 10) rfl hob), (h_pre C0 hW [.ref d0, .int (xs (x3 + 1).toNatClampNeg)])⟩ rfl rfl hl.1 rfl (lv_room (Nat.le_of_ble_eq_true rfl)) dL_law_511 ⟨by show _ ≤ 600000; omega, by show _ ≤ 7302249; omega⟩) (fun r1 S1 H locs h1 hW => ?_)
  replace hw := h1
  have hkn : (k + k1) + (mc - k1) ≤ 600000 ∧ (n + n1) + (ms - n1) ≤ 7302249 := by omega
  have hW : gW D (fun q => s.heap.size ≤ q) s.heap (rcells (u.2.1 0) (u.2.1 1) ad M (va_pl S1.1 S1.2)) H locs := hW
  refine lv_aload_n hx hb dL_law_514 rfl (lv_at hl 2 rfl) ?_
  refine lv_aload_n hx hb dL_law_515 rfl (lv_at hl 0 rfl) ?_
  refine lv_iload_n hx hb dL_law_516 rfl (lv_at hl 3 rfl) ?_
  refine lv_iconst (v := 1) hx hb dL_law_517 (by decide) ?_
  refine lv_iadd hx hb dL_law_518 ?_
  obtain ⟨hb1, hw⟩ := hw
  refine va_sld hx hb hXs hbl hbA hW.2.2 hb1 dL_law_519 ?_
  refine g_calli (cw0 := fun M => rcells (u.2.1 0) (u.2.1 1) ad M (va_pl S1.1 S1.2)) (M := M) (As := [.int (xs (x3 + 1).toNatClampNeg)]) (rest := [.int r1]) C0.1 hW hl.1 (k_load (l := l) _ (xs (x3 + 1).toNatClampNeg) _ hw) (cwV 1 hts gL_law_X10_load rfl rfl rfl (by decide +kernel) ⟨Nat.le_of_ble_eq_true rfl, Nat.le_of_ble_eq_true rfl⟩) (va_recv (q := (RX10, TX10, 21)) hK hW.1 (ci := 11) (q0 := 0) rfl rfl) (Nat.le_of_ble_eq_true rfl) dL_law_520 rfl ⟨by show _ ≤ 600000; omega, by show _ ≤ 7302249; omega⟩ (fun r2 M1 H locs h3 hW => ?_)
  replace hw := h3
  refine lv_icmp_eq (tgt := 1680) hx hb dL_law_523 (by decide) (fun c1 => ?_) (fun c1 => ?_)
  · have hkn : ((k + k1) + 0) + (mc - k1) ≤ 600000 ∧ ((n + n1) + 0) + (ms - n1) ≤ 7302249 := by omega
    exact hKK x3 S1 M1 (mc - k1) (ms - n1) _ _ hkn (hw.1 c1) _ _ _ hW hl
  · exact (hw.2 c1).elim
def w_law_c12 (u : hU) (d0 L : Nat) (xs : Nat → Int32) (K : Int32 → hS → RM → Nat → Nat → Prop) (x3 : Int32) (S : hS) (M : RM) (mc ms : Nat) : Prop := ((∃ fs, rO S d0 10 fs) ∧ (∃ k1 n1 : Nat, k1 ≤ mc ∧ n1 ≤ ms ∧ w_X9_brokenAt u (fun r1 S1 => (w_brokenAt (fun r2 M1 => ((r1 = r2 → K x3 S1 M1 (mc - k1) (ms - n1)) ∧ (¬ r1 = r2 → False)))  M)) d0  S k1 n1))
set_option maxHeartbeats 4000000 in
set_option maxRecDepth 100000 in
theorem t_law_c12 (C0 : hX p s m #[Value.ref b] c cL_law 4 RL wsL_law D (gt u.2.1) (fun q => s.heap.size ≤ q) u.1 u.2.2) (hXs : va_X b L xs s s.heap) (hbl : b < s.heap.size) (K : Int32 → hS → RM → Nat → Nat → Prop) (hKK : ∀ (x3 : Int32) (S : hS) (M : RM) (mc ms k n : Nat), k + mc ≤ 600000 ∧ n + ms ≤ 7302249 → K x3 S M mc ms → gG p l e room_1 s m #[Value.ref b] below meth c Q D (fun q => s.heap.size ≤ q) 4 k n (rcells (u.2.1 0) (u.2.1 1) ad M (va_pl S.1 S.2)) 1680 [(0, .ref b), (1, .ref d0), (2, .ref (ad 0)), (3, .int x3)] []) (x3 : Int32) (S : hS) (M : RM) (mc ms k n : Nat) (hkn : k + mc ≤ 600000 ∧ n + ms ≤ 7302249) (hw : w_law_c12 u d0 L xs K x3 S M mc ms) : gG p l e room_1 s m #[Value.ref b] below meth c Q D (fun q => s.heap.size ≤ q) 4 k n (rcells (u.2.1 0) (u.2.1 1) ad M (va_pl S.1 S.2)) 528 [(0, .ref b), (1, .ref d0), (2, .ref (ad 0)), (3, .int x3)] [] := by
  obtain ⟨⟨hx, hb, hml, ho, hts, hK, hA⟩, hR⟩ := id C0
  have hbA : ¬ (fun q : Nat => s.heap.size ≤ q) b := Nat.not_le.mpr hbl
  intro H locs ls hW hl
  rw [w_law_c12] at hw
  refine lv_aload_n hx hb dL_law_528 rfl (lv_at hl 1 rfl) ?_
  obtain ⟨hob, k1, n1, hk1, hn1, hw⟩ := hw
  have hW : gW D (fun q => s.heap.size ≤ q) s.heap (hC (rcells (u.2.1 0) (u.2.1 1) ad M []) S) H locs := hW
  refine h_goi C0 hW (va_runV (As := []) (rest := []) ⟨hx, hb, hml, ho, hts⟩ (k_X9_brokenAt (l := l) (u := u) (X := rcells (u.2.1 0) (u.2.1 1) ad M []) (sz := H.size) _ d0  S k1 n1 hw) (cwV 0 hts gL_law_X9_brokenAt rfl rfl rfl (by decide +kernel) ⟨Nat.le_of_ble_eq_true rfl, Nat.le_of_ble_eq_true rfl⟩) ⟨h_blind, (h_recv C0 hW (ci := 10) rfl hob), (h_pre C0 hW [.ref d0])⟩ rfl rfl hl.1 rfl (lv_room (Nat.le_of_ble_eq_true rfl)) dL_law_529 ⟨by show _ ≤ 600000; omega, by show _ ≤ 7302249; omega⟩) (fun r1 S1 H locs h1 hW => ?_)
  replace hw := h1
  have hkn : (k + k1) + (mc - k1) ≤ 600000 ∧ (n + n1) + (ms - n1) ≤ 7302249 := by omega
  have hW : gW D (fun q => s.heap.size ≤ q) s.heap (rcells (u.2.1 0) (u.2.1 1) ad M (va_pl S1.1 S1.2)) H locs := hW
  refine lv_aload_n hx hb dL_law_532 rfl (lv_at hl 2 rfl) ?_
  refine g_calli (cw0 := fun M => rcells (u.2.1 0) (u.2.1 1) ad M (va_pl S1.1 S1.2)) (M := M) (As := []) (rest := [.int r1]) C0.1 hW hl.1 (k_brokenAt (l := l) _  _ hw) (cwV 0 hts gL_law_X10_brokenAt rfl rfl rfl (by decide +kernel) ⟨Nat.le_of_ble_eq_true rfl, Nat.le_of_ble_eq_true rfl⟩) (va_recv (q := (RX10, TX10, 21)) hK hW.1 (ci := 11) (q0 := 0) rfl rfl) (Nat.le_of_ble_eq_true rfl) dL_law_533 rfl ⟨by show _ ≤ 600000; omega, by show _ ≤ 7302249; omega⟩ (fun r2 M1 H locs h3 hW => ?_)
  replace hw := h3
  refine lv_icmp_eq (tgt := 1680) hx hb dL_law_536 (by decide) (fun c1 => ?_) (fun c1 => ?_)
  · have hkn : ((k + k1) + 0) + (mc - k1) ≤ 600000 ∧ ((n + n1) + 0) + (ms - n1) ≤ 7302249 := by omega
    exact hKK x3 S1 M1 (mc - k1) (ms - n1) _ _ hkn (hw.1 c1) _ _ _ hW hl
  · exact (hw.2 c1).elim
def w_law_c13 (u : hU) (d0 L : Nat) (xs : Nat → Int32) (K : Int32 → hS → RM → Nat → Nat → Prop) (x3 : Int32) (S : hS) (M : RM) (mc ms : Nat) : Prop := (vp_in (x3 + 1) L ∧ ((∃ fs, rO S d0 10 fs) ∧ (∃ k1 n1 : Nat, k1 ≤ mc ∧ n1 ≤ ms ∧ w_X9_write u (fun r1 S1 => (vp_in (x3 + 1) L ∧ (w_write (fun r2 M1 => ((r1 = r2 → K x3 S1 M1 (mc - k1) (ms - n1)) ∧ (¬ r1 = r2 → False))) (xs (x3 + 1).toNatClampNeg) M))) d0 (xs (x3 + 1).toNatClampNeg) S k1 n1)))
set_option maxHeartbeats 4000000 in
set_option maxRecDepth 100000 in
theorem t_law_c13 (C0 : hX p s m #[Value.ref b] c cL_law 4 RL wsL_law D (gt u.2.1) (fun q => s.heap.size ≤ q) u.1 u.2.2) (hXs : va_X b L xs s s.heap) (hbl : b < s.heap.size) (K : Int32 → hS → RM → Nat → Nat → Prop) (hKK : ∀ (x3 : Int32) (S : hS) (M : RM) (mc ms k n : Nat), k + mc ≤ 600000 ∧ n + ms ≤ 7302249 → K x3 S M mc ms → gG p l e room_1 s m #[Value.ref b] below meth c Q D (fun q => s.heap.size ≤ q) 4 k n (rcells (u.2.1 0) (u.2.1 1) ad M (va_pl S.1 S.2)) 1680 [(0, .ref b), (1, .ref d0), (2, .ref (ad 0)), (3, .int x3)] []) (x3 : Int32) (S : hS) (M : RM) (mc ms k n : Nat) (hkn : k + mc ≤ 600000 ∧ n + ms ≤ 7302249) (hw : w_law_c13 u d0 L xs K x3 S M mc ms) : gG p l e room_1 s m #[Value.ref b] below meth c Q D (fun q => s.heap.size ≤ q) 4 k n (rcells (u.2.1 0) (u.2.1 1) ad M (va_pl S.1 S.2)) 541 [(0, .ref b), (1, .ref d0), (2, .ref (ad 0)), (3, .int x3)] [] := by
  obtain ⟨⟨hx, hb, hml, ho, hts, hK, hA⟩, hR⟩ := id C0
  have hbA : ¬ (fun q : Nat => s.heap.size ≤ q) b := Nat.not_le.mpr hbl
  intro H locs ls hW hl
  rw [w_law_c13] at hw
  refine lv_aload_n hx hb dL_law_541 rfl (lv_at hl 1 rfl) ?_
  refine lv_aload_n hx hb dL_law_542 rfl (lv_at hl 0 rfl) ?_
  refine lv_iload_n hx hb dL_law_543 rfl (lv_at hl 3 rfl) ?_
  refine lv_iconst (v := 1) hx hb dL_law_544 (by decide) ?_
  refine lv_iadd hx hb dL_law_545 ?_
  obtain ⟨ha1, hw⟩ := hw
  refine va_sld hx hb hXs hbl hbA hW.2.2 ha1 dL_law_546 ?_
  obtain ⟨hob, k1, n1, hk1, hn1, hw⟩ := hw
  have hW : gW D (fun q => s.heap.size ≤ q) s.heap (hC (rcells (u.2.1 0) (u.2.1 1) ad M []) S) H locs := hW
  refine h_goi C0 hW (va_runV (As := [.int (xs (x3 + 1).toNatClampNeg)]) (rest := []) ⟨hx, hb, hml, ho, hts⟩ (k_X9_write (l := l) (u := u) (X := rcells (u.2.1 0) (u.2.1 1) ad M []) (sz := H.size) _ d0 (xs (x3 + 1).toNatClampNeg) S k1 n1 hw) (cwV 1 hts gL_law_X9_write rfl rfl rfl (by decide +kernel) ⟨Nat.le_of_ble_eq_true rfl, Nat.le_of_ble_eq_true rfl⟩) ⟨h_blind, (h_recv C0 hW (ci := 10) rfl hob), (h_pre C0 hW [.ref d0, .int (xs (x3 + 1).toNatClampNeg)])⟩ rfl rfl hl.1 rfl (lv_room (Nat.le_of_ble_eq_true rfl)) dL_law_547 ⟨by show _ ≤ 600000; omega, by show _ ≤ 7302249; omega⟩) (fun r1 S1 H locs h1 hW => ?_)
  replace hw := h1
  have hkn : (k + k1) + (mc - k1) ≤ 600000 ∧ (n + n1) + (ms - n1) ≤ 7302249 := by omega
  have hW : gW D (fun q => s.heap.size ≤ q) s.heap (rcells (u.2.1 0) (u.2.1 1) ad M (va_pl S1.1 S1.2)) H locs := hW
  refine lv_aload_n hx hb dL_law_550 rfl (lv_at hl 2 rfl) ?_
  refine lv_aload_n hx hb dL_law_551 rfl (lv_at hl 0 rfl) ?_
  refine lv_iload_n hx hb dL_law_552 rfl (lv_at hl 3 rfl) ?_
  refine lv_iconst (v := 1) hx hb dL_law_553 (by decide) ?_
  refine lv_iadd hx hb dL_law_554 ?_
  obtain ⟨hb1, hw⟩ := hw
  refine va_sld hx hb hXs hbl hbA hW.2.2 hb1 dL_law_555 ?_
  refine g_calli (cw0 := fun M => rcells (u.2.1 0) (u.2.1 1) ad M (va_pl S1.1 S1.2)) (M := M) (As := [.int (xs (x3 + 1).toNatClampNeg)]) (rest := [.int r1]) C0.1 hW hl.1 (k_write (l := l) _ (xs (x3 + 1).toNatClampNeg) _ hw) (cwV 1 hts gL_law_X10_write rfl rfl rfl (by decide +kernel) ⟨Nat.le_of_ble_eq_true rfl, Nat.le_of_ble_eq_true rfl⟩) (va_recv (q := (RX10, TX10, 21)) hK hW.1 (ci := 11) (q0 := 0) rfl rfl) (Nat.le_of_ble_eq_true rfl) dL_law_556 rfl ⟨by show _ ≤ 600000; omega, by show _ ≤ 7302249; omega⟩ (fun r2 M1 H locs h3 hW => ?_)
  replace hw := h3
  refine lv_icmp_eq (tgt := 1680) hx hb dL_law_559 (by decide) (fun c1 => ?_) (fun c1 => ?_)
  · have hkn : ((k + k1) + 0) + (mc - k1) ≤ 600000 ∧ ((n + n1) + 0) + (ms - n1) ≤ 7302249 := by omega
    exact hKK x3 S1 M1 (mc - k1) (ms - n1) _ _ hkn (hw.1 c1) _ _ _ hW hl
  · exact (hw.2 c1).elim
def w_law_c14 (u : hU) (d0 L : Nat) (xs : Nat → Int32) (K : Int32 → hS → RM → Nat → Nat → Prop) (x3 : Int32) (S : hS) (M : RM) (mc ms : Nat) : Prop := (vp_in (x3 + 1) L ∧ (vp_in (x3 + 2) L ∧ (vp_in (x3 + 3) L ∧ ((∃ fs, rO S d0 10 fs) ∧ w_X9_get u (fun r1 S1 => (vp_in (x3 + 1) L ∧ (vp_in (x3 + 2) L ∧ (vp_in (x3 + 3) L ∧ (w_get (fun r2 M1 => ((r1 = r2 → K x3 S1 M1 mc ms) ∧ (¬ r1 = r2 → False))) (xs (x3 + 1).toNatClampNeg) (xs (x3 + 2).toNatClampNeg) (xs (x3 + 3).toNatClampNeg) M))))) d0 (xs (x3 + 1).toNatClampNeg) (xs (x3 + 2).toNatClampNeg) (xs (x3 + 3).toNatClampNeg) S))))
set_option maxHeartbeats 4000000 in
set_option maxRecDepth 100000 in
theorem t_law_c14 (C0 : hX p s m #[Value.ref b] c cL_law 4 RL wsL_law D (gt u.2.1) (fun q => s.heap.size ≤ q) u.1 u.2.2) (hXs : va_X b L xs s s.heap) (hbl : b < s.heap.size) (K : Int32 → hS → RM → Nat → Nat → Prop) (hKK : ∀ (x3 : Int32) (S : hS) (M : RM) (mc ms k n : Nat), k + mc ≤ 600000 ∧ n + ms ≤ 7302249 → K x3 S M mc ms → gG p l e room_1 s m #[Value.ref b] below meth c Q D (fun q => s.heap.size ≤ q) 4 k n (rcells (u.2.1 0) (u.2.1 1) ad M (va_pl S.1 S.2)) 1680 [(0, .ref b), (1, .ref d0), (2, .ref (ad 0)), (3, .int x3)] []) (x3 : Int32) (S : hS) (M : RM) (mc ms k n : Nat) (hkn : k + mc ≤ 600000 ∧ n + ms ≤ 7302249) (hw : w_law_c14 u d0 L xs K x3 S M mc ms) : gG p l e room_1 s m #[Value.ref b] below meth c Q D (fun q => s.heap.size ≤ q) 4 k n (rcells (u.2.1 0) (u.2.1 1) ad M (va_pl S.1 S.2)) 564 [(0, .ref b), (1, .ref d0), (2, .ref (ad 0)), (3, .int x3)] [] := by
  obtain ⟨⟨hx, hb, hml, ho, hts, hK, hA⟩, hR⟩ := id C0
  have hbA : ¬ (fun q : Nat => s.heap.size ≤ q) b := Nat.not_le.mpr hbl
  intro H locs ls hW hl
  rw [w_law_c14] at hw
  refine lv_aload_n hx hb dL_law_564 rfl (lv_at hl 1 rfl) ?_
  refine lv_aload_n hx hb dL_law_565 rfl (lv_at hl 0 rfl) ?_
  refine lv_iload_n hx hb dL_law_566 rfl (lv_at hl 3 rfl) ?_
  refine lv_iconst (v := 1) hx hb dL_law_567 (by decide) ?_
  refine lv_iadd hx hb dL_law_568 ?_
  obtain ⟨ha1, hw⟩ := hw
  refine va_sld hx hb hXs hbl hbA hW.2.2 ha1 dL_law_569 ?_
  refine lv_aload_n hx hb dL_law_570 rfl (lv_at hl 0 rfl) ?_
  refine lv_iload_n hx hb dL_law_571 rfl (lv_at hl 3 rfl) ?_
  refine lv_iconst (v := 2) hx hb dL_law_572 (by decide) ?_
  refine lv_iadd hx hb dL_law_573 ?_
  obtain ⟨ha2, hw⟩ := hw
  refine va_sld hx hb hXs hbl hbA hW.2.2 ha2 dL_law_574 ?_
  refine lv_aload_n hx hb dL_law_575 rfl (lv_at hl 0 rfl) ?_
  refine lv_iload_n hx hb dL_law_576 rfl (lv_at hl 3 rfl) ?_
  refine lv_iconst (v := 3) hx hb dL_law_577 (by decide) ?_
  refine lv_iadd hx hb dL_law_578 ?_
  obtain ⟨ha3, hw⟩ := hw
  refine va_sld hx hb hXs hbl hbA hW.2.2 ha3 dL_law_579 ?_
  obtain ⟨hob, hw⟩ := hw
  have hW : gW D (fun q => s.heap.size ≤ q) s.heap (hC (rcells (u.2.1 0) (u.2.1 1) ad M []) S) H locs := hW
  refine h_goi C0 hW (va_runV (As := [.int (xs (x3 + 1).toNatClampNeg), .int (xs (x3 + 2).toNatClampNeg), .int (xs (x3 + 3).toNatClampNeg)]) (rest := []) ⟨hx, hb, hml, ho, hts⟩ (k_X9_get (l := l) (u := u) (X := rcells (u.2.1 0) (u.2.1 1) ad M []) (sz := H.size) _ d0 (xs (x3 + 1).toNatClampNeg) (xs (x3 + 2).toNatClampNeg) (xs (x3 + 3).toNatClampNeg) S  hw) (cwV 3 hts gL_law_X9_get rfl rfl rfl (by decide +kernel) ⟨Nat.le_of_ble_eq_true rfl, Nat.le_of_ble_eq_true rfl⟩) ⟨h_blind, (h_recv C0 hW (ci := 10) rfl hob), (h_pre C0 hW [.ref d0, .int (xs (x3 + 1).toNatClampNeg), .int (xs (x3 + 2).toNatClampNeg), .int (xs (x3 + 3).toNatClampNeg)])⟩ rfl rfl hl.1 rfl (lv_room (Nat.le_of_ble_eq_true rfl)) dL_law_580 ⟨by show _ ≤ 600000; omega, by show _ ≤ 7302249; omega⟩) (fun r1 S1 H locs h1 hW => ?_)
  replace hw := h1
  have hkn : (k + 0) + mc ≤ 600000 ∧ (n + 0) + ms ≤ 7302249 := by omega
  have hW : gW D (fun q => s.heap.size ≤ q) s.heap (rcells (u.2.1 0) (u.2.1 1) ad M (va_pl S1.1 S1.2)) H locs := hW
  refine lv_aload_n hx hb dL_law_583 rfl (lv_at hl 2 rfl) ?_
  refine lv_aload_n hx hb dL_law_584 rfl (lv_at hl 0 rfl) ?_
  refine lv_iload_n hx hb dL_law_585 rfl (lv_at hl 3 rfl) ?_
  refine lv_iconst (v := 1) hx hb dL_law_586 (by decide) ?_
  refine lv_iadd hx hb dL_law_587 ?_
  obtain ⟨hb1, hw⟩ := hw
  refine va_sld hx hb hXs hbl hbA hW.2.2 hb1 dL_law_588 ?_
  refine lv_aload_n hx hb dL_law_589 rfl (lv_at hl 0 rfl) ?_
  refine lv_iload_n hx hb dL_law_590 rfl (lv_at hl 3 rfl) ?_
  refine lv_iconst (v := 2) hx hb dL_law_591 (by decide) ?_
  refine lv_iadd hx hb dL_law_592 ?_
  obtain ⟨hb2, hw⟩ := hw
  refine va_sld hx hb hXs hbl hbA hW.2.2 hb2 dL_law_593 ?_
  refine lv_aload_n hx hb dL_law_594 rfl (lv_at hl 0 rfl) ?_
  refine lv_iload_n hx hb dL_law_595 rfl (lv_at hl 3 rfl) ?_
  refine lv_iconst (v := 3) hx hb dL_law_596 (by decide) ?_
  refine lv_iadd hx hb dL_law_597 ?_
  obtain ⟨hb3, hw⟩ := hw
  refine va_sld hx hb hXs hbl hbA hW.2.2 hb3 dL_law_598 ?_
  refine g_calli (cw0 := fun M => rcells (u.2.1 0) (u.2.1 1) ad M (va_pl S1.1 S1.2)) (M := M) (As := [.int (xs (x3 + 1).toNatClampNeg), .int (xs (x3 + 2).toNatClampNeg), .int (xs (x3 + 3).toNatClampNeg)]) (rest := [.int r1]) C0.1 hW hl.1 (k_get (l := l) _ (xs (x3 + 1).toNatClampNeg) (xs (x3 + 2).toNatClampNeg) (xs (x3 + 3).toNatClampNeg) _ hw) (cwV 3 hts gL_law_X10_get rfl rfl rfl (by decide +kernel) ⟨Nat.le_of_ble_eq_true rfl, Nat.le_of_ble_eq_true rfl⟩) (va_recv (q := (RX10, TX10, 21)) hK hW.1 (ci := 11) (q0 := 0) rfl rfl) (Nat.le_of_ble_eq_true rfl) dL_law_599 rfl ⟨by show _ ≤ 600000; omega, by show _ ≤ 7302249; omega⟩ (fun r2 M1 H locs h3 hW => ?_)
  replace hw := h3
  refine lv_icmp_eq (tgt := 1680) hx hb dL_law_602 (by decide) (fun c1 => ?_) (fun c1 => ?_)
  · have hkn : ((k + 0) + 0) + mc ≤ 600000 ∧ ((n + 0) + 0) + ms ≤ 7302249 := by omega
    exact hKK x3 S1 M1 mc ms _ _ hkn (hw.1 c1) _ _ _ hW hl
  · exact (hw.2 c1).elim
def w_law_c15 (u : hU) (d0 L : Nat) (xs : Nat → Int32) (K : Int32 → hS → RM → Nat → Nat → Prop) (x3 : Int32) (S : hS) (M : RM) (mc ms : Nat) : Prop := (vp_in (x3 + 1) L ∧ (vp_in (x3 + 2) L ∧ (vp_in (x3 + 3) L ∧ (vp_in (x3 + 4) L ∧ ((∃ fs, rO S d0 10 fs) ∧ w_X9_getOr u (fun r1 S1 => (vp_in (x3 + 1) L ∧ (vp_in (x3 + 2) L ∧ (vp_in (x3 + 3) L ∧ (vp_in (x3 + 4) L ∧ (w_getOr (fun r2 M1 => ((r1 = r2 → K x3 S1 M1 mc ms) ∧ (¬ r1 = r2 → False))) (xs (x3 + 1).toNatClampNeg) (xs (x3 + 2).toNatClampNeg) (xs (x3 + 3).toNatClampNeg) (xs (x3 + 4).toNatClampNeg) M)))))) d0 (xs (x3 + 1).toNatClampNeg) (xs (x3 + 2).toNatClampNeg) (xs (x3 + 3).toNatClampNeg) (xs (x3 + 4).toNatClampNeg) S)))))
set_option maxHeartbeats 4000000 in
set_option maxRecDepth 100000 in
theorem t_law_c15 (C0 : hX p s m #[Value.ref b] c cL_law 4 RL wsL_law D (gt u.2.1) (fun q => s.heap.size ≤ q) u.1 u.2.2) (hXs : va_X b L xs s s.heap) (hbl : b < s.heap.size) (K : Int32 → hS → RM → Nat → Nat → Prop) (hKK : ∀ (x3 : Int32) (S : hS) (M : RM) (mc ms k n : Nat), k + mc ≤ 600000 ∧ n + ms ≤ 7302249 → K x3 S M mc ms → gG p l e room_1 s m #[Value.ref b] below meth c Q D (fun q => s.heap.size ≤ q) 4 k n (rcells (u.2.1 0) (u.2.1 1) ad M (va_pl S.1 S.2)) 1680 [(0, .ref b), (1, .ref d0), (2, .ref (ad 0)), (3, .int x3)] []) (x3 : Int32) (S : hS) (M : RM) (mc ms k n : Nat) (hkn : k + mc ≤ 600000 ∧ n + ms ≤ 7302249) (hw : w_law_c15 u d0 L xs K x3 S M mc ms) : gG p l e room_1 s m #[Value.ref b] below meth c Q D (fun q => s.heap.size ≤ q) 4 k n (rcells (u.2.1 0) (u.2.1 1) ad M (va_pl S.1 S.2)) 607 [(0, .ref b), (1, .ref d0), (2, .ref (ad 0)), (3, .int x3)] [] := by
  obtain ⟨⟨hx, hb, hml, ho, hts, hK, hA⟩, hR⟩ := id C0
  have hbA : ¬ (fun q : Nat => s.heap.size ≤ q) b := Nat.not_le.mpr hbl
  intro H locs ls hW hl
  rw [w_law_c15] at hw
  refine lv_aload_n hx hb dL_law_607 rfl (lv_at hl 1 rfl) ?_
  refine lv_aload_n hx hb dL_law_608 rfl (lv_at hl 0 rfl) ?_
  refine lv_iload_n hx hb dL_law_609 rfl (lv_at hl 3 rfl) ?_
  refine lv_iconst (v := 1) hx hb dL_law_610 (by decide) ?_
  refine lv_iadd hx hb dL_law_611 ?_
  obtain ⟨ha1, hw⟩ := hw
  refine va_sld hx hb hXs hbl hbA hW.2.2 ha1 dL_law_612 ?_
  refine lv_aload_n hx hb dL_law_613 rfl (lv_at hl 0 rfl) ?_
  refine lv_iload_n hx hb dL_law_614 rfl (lv_at hl 3 rfl) ?_
  refine lv_iconst (v := 2) hx hb dL_law_615 (by decide) ?_
  refine lv_iadd hx hb dL_law_616 ?_
  obtain ⟨ha2, hw⟩ := hw
  refine va_sld hx hb hXs hbl hbA hW.2.2 ha2 dL_law_617 ?_
  refine lv_aload_n hx hb dL_law_618 rfl (lv_at hl 0 rfl) ?_
  refine lv_iload_n hx hb dL_law_619 rfl (lv_at hl 3 rfl) ?_
  refine lv_iconst (v := 3) hx hb dL_law_620 (by decide) ?_
  refine lv_iadd hx hb dL_law_621 ?_
  obtain ⟨ha3, hw⟩ := hw
  refine va_sld hx hb hXs hbl hbA hW.2.2 ha3 dL_law_622 ?_
  refine lv_aload_n hx hb dL_law_623 rfl (lv_at hl 0 rfl) ?_
  refine lv_iload_n hx hb dL_law_624 rfl (lv_at hl 3 rfl) ?_
  refine lv_iconst (v := 4) hx hb dL_law_625 (by decide) ?_
  refine lv_iadd hx hb dL_law_626 ?_
  obtain ⟨ha4, hw⟩ := hw
  refine va_sld hx hb hXs hbl hbA hW.2.2 ha4 dL_law_627 ?_
  obtain ⟨hob, hw⟩ := hw
  have hW : gW D (fun q => s.heap.size ≤ q) s.heap (hC (rcells (u.2.1 0) (u.2.1 1) ad M []) S) H locs := hW
  refine h_goi C0 hW (va_runV (As := [.int (xs (x3 + 1).toNatClampNeg), .int (xs (x3 + 2).toNatClampNeg), .int (xs (x3 + 3).toNatClampNeg), .int (xs (x3 + 4).toNatClampNeg)]) (rest := []) ⟨hx, hb, hml, ho, hts⟩ (k_X9_getOr (l := l) (u := u) (X := rcells (u.2.1 0) (u.2.1 1) ad M []) (sz := H.size) _ d0 (xs (x3 + 1).toNatClampNeg) (xs (x3 + 2).toNatClampNeg) (xs (x3 + 3).toNatClampNeg) (xs (x3 + 4).toNatClampNeg) S  hw) (cwV 4 hts gL_law_X9_getOr rfl rfl rfl (by decide +kernel) ⟨Nat.le_of_ble_eq_true rfl, Nat.le_of_ble_eq_true rfl⟩) ⟨h_blind, (h_recv C0 hW (ci := 10) rfl hob), (h_pre C0 hW [.ref d0, .int (xs (x3 + 1).toNatClampNeg), .int (xs (x3 + 2).toNatClampNeg), .int (xs (x3 + 3).toNatClampNeg), .int (xs (x3 + 4).toNatClampNeg)])⟩ rfl rfl hl.1 rfl (lv_room (Nat.le_of_ble_eq_true rfl)) dL_law_628 ⟨by show _ ≤ 600000; omega, by show _ ≤ 7302249; omega⟩) (fun r1 S1 H locs h1 hW => ?_)
  replace hw := h1
  have hkn : (k + 0) + mc ≤ 600000 ∧ (n + 0) + ms ≤ 7302249 := by omega
  have hW : gW D (fun q => s.heap.size ≤ q) s.heap (rcells (u.2.1 0) (u.2.1 1) ad M (va_pl S1.1 S1.2)) H locs := hW
  refine lv_aload_n hx hb dL_law_631 rfl (lv_at hl 2 rfl) ?_
  refine lv_aload_n hx hb dL_law_632 rfl (lv_at hl 0 rfl) ?_
  refine lv_iload_n hx hb dL_law_633 rfl (lv_at hl 3 rfl) ?_
  refine lv_iconst (v := 1) hx hb dL_law_634 (by decide) ?_
  refine lv_iadd hx hb dL_law_635 ?_
  obtain ⟨hb1, hw⟩ := hw
  refine va_sld hx hb hXs hbl hbA hW.2.2 hb1 dL_law_636 ?_
  refine lv_aload_n hx hb dL_law_637 rfl (lv_at hl 0 rfl) ?_
  refine lv_iload_n hx hb dL_law_638 rfl (lv_at hl 3 rfl) ?_
  refine lv_iconst (v := 2) hx hb dL_law_639 (by decide) ?_
  refine lv_iadd hx hb dL_law_640 ?_
  obtain ⟨hb2, hw⟩ := hw
  refine va_sld hx hb hXs hbl hbA hW.2.2 hb2 dL_law_641 ?_
  refine lv_aload_n hx hb dL_law_642 rfl (lv_at hl 0 rfl) ?_
  refine lv_iload_n hx hb dL_law_643 rfl (lv_at hl 3 rfl) ?_
  refine lv_iconst (v := 3) hx hb dL_law_644 (by decide) ?_
  refine lv_iadd hx hb dL_law_645 ?_
  obtain ⟨hb3, hw⟩ := hw
  refine va_sld hx hb hXs hbl hbA hW.2.2 hb3 dL_law_646 ?_
  refine lv_aload_n hx hb dL_law_647 rfl (lv_at hl 0 rfl) ?_
  refine lv_iload_n hx hb dL_law_648 rfl (lv_at hl 3 rfl) ?_
  refine lv_iconst (v := 4) hx hb dL_law_649 (by decide) ?_
  refine lv_iadd hx hb dL_law_650 ?_
  obtain ⟨hb4, hw⟩ := hw
  refine va_sld hx hb hXs hbl hbA hW.2.2 hb4 dL_law_651 ?_
  refine g_calli (cw0 := fun M => rcells (u.2.1 0) (u.2.1 1) ad M (va_pl S1.1 S1.2)) (M := M) (As := [.int (xs (x3 + 1).toNatClampNeg), .int (xs (x3 + 2).toNatClampNeg), .int (xs (x3 + 3).toNatClampNeg), .int (xs (x3 + 4).toNatClampNeg)]) (rest := [.int r1]) C0.1 hW hl.1 (k_getOr (l := l) _ (xs (x3 + 1).toNatClampNeg) (xs (x3 + 2).toNatClampNeg) (xs (x3 + 3).toNatClampNeg) (xs (x3 + 4).toNatClampNeg) _ hw) (cwV 4 hts gL_law_X10_getOr rfl rfl rfl (by decide +kernel) ⟨Nat.le_of_ble_eq_true rfl, Nat.le_of_ble_eq_true rfl⟩) (va_recv (q := (RX10, TX10, 21)) hK hW.1 (ci := 11) (q0 := 0) rfl rfl) (Nat.le_of_ble_eq_true rfl) dL_law_652 rfl ⟨by show _ ≤ 600000; omega, by show _ ≤ 7302249; omega⟩ (fun r2 M1 H locs h3 hW => ?_)
  replace hw := h3
  refine lv_icmp_eq (tgt := 1680) hx hb dL_law_655 (by decide) (fun c1 => ?_) (fun c1 => ?_)
  · have hkn : ((k + 0) + 0) + mc ≤ 600000 ∧ ((n + 0) + 0) + ms ≤ 7302249 := by omega
    exact hKK x3 S1 M1 mc ms _ _ hkn (hw.1 c1) _ _ _ hW hl
  · exact (hw.2 c1).elim
def w_law_c16 (u : hU) (d0 L : Nat) (xs : Nat → Int32) (K : Int32 → hS → RM → Nat → Nat → Prop) (x3 : Int32) (S : hS) (M : RM) (mc ms : Nat) : Prop := (vp_in (x3 + 1) L ∧ (vp_in (x3 + 2) L ∧ ((∃ fs, rO S d0 10 fs) ∧ w_X9_has u (fun r1 S1 => (vp_in (x3 + 1) L ∧ (vp_in (x3 + 2) L ∧ (w_has (fun r2 M1 => ((r1 = r2 → K x3 S1 M1 mc ms) ∧ (¬ r1 = r2 → False))) (xs (x3 + 1).toNatClampNeg) (xs (x3 + 2).toNatClampNeg) M)))) d0 (xs (x3 + 1).toNatClampNeg) (xs (x3 + 2).toNatClampNeg) S)))
set_option maxHeartbeats 4000000 in
set_option maxRecDepth 100000 in
theorem t_law_c16 (C0 : hX p s m #[Value.ref b] c cL_law 4 RL wsL_law D (gt u.2.1) (fun q => s.heap.size ≤ q) u.1 u.2.2) (hXs : va_X b L xs s s.heap) (hbl : b < s.heap.size) (K : Int32 → hS → RM → Nat → Nat → Prop) (hKK : ∀ (x3 : Int32) (S : hS) (M : RM) (mc ms k n : Nat), k + mc ≤ 600000 ∧ n + ms ≤ 7302249 → K x3 S M mc ms → gG p l e room_1 s m #[Value.ref b] below meth c Q D (fun q => s.heap.size ≤ q) 4 k n (rcells (u.2.1 0) (u.2.1 1) ad M (va_pl S.1 S.2)) 1680 [(0, .ref b), (1, .ref d0), (2, .ref (ad 0)), (3, .int x3)] []) (x3 : Int32) (S : hS) (M : RM) (mc ms k n : Nat) (hkn : k + mc ≤ 600000 ∧ n + ms ≤ 7302249) (hw : w_law_c16 u d0 L xs K x3 S M mc ms) : gG p l e room_1 s m #[Value.ref b] below meth c Q D (fun q => s.heap.size ≤ q) 4 k n (rcells (u.2.1 0) (u.2.1 1) ad M (va_pl S.1 S.2)) 660 [(0, .ref b), (1, .ref d0), (2, .ref (ad 0)), (3, .int x3)] [] := by
  obtain ⟨⟨hx, hb, hml, ho, hts, hK, hA⟩, hR⟩ := id C0
  have hbA : ¬ (fun q : Nat => s.heap.size ≤ q) b := Nat.not_le.mpr hbl
  intro H locs ls hW hl
  rw [w_law_c16] at hw
  refine lv_aload_n hx hb dL_law_660 rfl (lv_at hl 1 rfl) ?_
  refine lv_aload_n hx hb dL_law_661 rfl (lv_at hl 0 rfl) ?_
  refine lv_iload_n hx hb dL_law_662 rfl (lv_at hl 3 rfl) ?_
  refine lv_iconst (v := 1) hx hb dL_law_663 (by decide) ?_
  refine lv_iadd hx hb dL_law_664 ?_
  obtain ⟨ha1, hw⟩ := hw
  refine va_sld hx hb hXs hbl hbA hW.2.2 ha1 dL_law_665 ?_
  refine lv_aload_n hx hb dL_law_666 rfl (lv_at hl 0 rfl) ?_
  refine lv_iload_n hx hb dL_law_667 rfl (lv_at hl 3 rfl) ?_
  refine lv_iconst (v := 2) hx hb dL_law_668 (by decide) ?_
  refine lv_iadd hx hb dL_law_669 ?_
  obtain ⟨ha2, hw⟩ := hw
  refine va_sld hx hb hXs hbl hbA hW.2.2 ha2 dL_law_670 ?_
  obtain ⟨hob, hw⟩ := hw
  have hW : gW D (fun q => s.heap.size ≤ q) s.heap (hC (rcells (u.2.1 0) (u.2.1 1) ad M []) S) H locs := hW
  refine h_goi C0 hW (va_runV (As := [.int (xs (x3 + 1).toNatClampNeg), .int (xs (x3 + 2).toNatClampNeg)]) (rest := []) ⟨hx, hb, hml, ho, hts⟩ (k_X9_has (l := l) (u := u) (X := rcells (u.2.1 0) (u.2.1 1) ad M []) (sz := H.size) _ d0 (xs (x3 + 1).toNatClampNeg) (xs (x3 + 2).toNatClampNeg) S  hw) (cwV 2 hts gL_law_X9_has rfl rfl rfl (by decide +kernel) ⟨Nat.le_of_ble_eq_true rfl, Nat.le_of_ble_eq_true rfl⟩) ⟨h_blind, (h_recv C0 hW (ci := 10) rfl hob), (h_pre C0 hW [.ref d0, .int (xs (x3 + 1).toNatClampNeg), .int (xs (x3 + 2).toNatClampNeg)])⟩ rfl rfl hl.1 rfl (lv_room (Nat.le_of_ble_eq_true rfl)) dL_law_671 ⟨by show _ ≤ 600000; omega, by show _ ≤ 7302249; omega⟩) (fun r1 S1 H locs h1 hW => ?_)
  replace hw := h1
  have hkn : (k + 0) + mc ≤ 600000 ∧ (n + 0) + ms ≤ 7302249 := by omega
  have hW : gW D (fun q => s.heap.size ≤ q) s.heap (rcells (u.2.1 0) (u.2.1 1) ad M (va_pl S1.1 S1.2)) H locs := hW
  refine lv_aload_n hx hb dL_law_674 rfl (lv_at hl 2 rfl) ?_
  refine lv_aload_n hx hb dL_law_675 rfl (lv_at hl 0 rfl) ?_
  refine lv_iload_n hx hb dL_law_676 rfl (lv_at hl 3 rfl) ?_
  refine lv_iconst (v := 1) hx hb dL_law_677 (by decide) ?_
  refine lv_iadd hx hb dL_law_678 ?_
  obtain ⟨hb1, hw⟩ := hw
  refine va_sld hx hb hXs hbl hbA hW.2.2 hb1 dL_law_679 ?_
  refine lv_aload_n hx hb dL_law_680 rfl (lv_at hl 0 rfl) ?_
  refine lv_iload_n hx hb dL_law_681 rfl (lv_at hl 3 rfl) ?_
  refine lv_iconst (v := 2) hx hb dL_law_682 (by decide) ?_
  refine lv_iadd hx hb dL_law_683 ?_
  obtain ⟨hb2, hw⟩ := hw
  refine va_sld hx hb hXs hbl hbA hW.2.2 hb2 dL_law_684 ?_
  refine g_calli (cw0 := fun M => rcells (u.2.1 0) (u.2.1 1) ad M (va_pl S1.1 S1.2)) (M := M) (As := [.int (xs (x3 + 1).toNatClampNeg), .int (xs (x3 + 2).toNatClampNeg)]) (rest := [.int r1]) C0.1 hW hl.1 (k_has (l := l) _ (xs (x3 + 1).toNatClampNeg) (xs (x3 + 2).toNatClampNeg) _ hw) (cwV 2 hts gL_law_X10_has rfl rfl rfl (by decide +kernel) ⟨Nat.le_of_ble_eq_true rfl, Nat.le_of_ble_eq_true rfl⟩) (va_recv (q := (RX10, TX10, 21)) hK hW.1 (ci := 11) (q0 := 0) rfl rfl) (Nat.le_of_ble_eq_true rfl) dL_law_685 rfl ⟨by show _ ≤ 600000; omega, by show _ ≤ 7302249; omega⟩ (fun r2 M1 H locs h3 hW => ?_)
  replace hw := h3
  refine lv_icmp_eq (tgt := 1680) hx hb dL_law_688 (by decide) (fun c1 => ?_) (fun c1 => ?_)
  · have hkn : ((k + 0) + 0) + mc ≤ 600000 ∧ ((n + 0) + 0) + ms ≤ 7302249 := by omega
    exact hKK x3 S1 M1 mc ms _ _ hkn (hw.1 c1) _ _ _ hW hl
  · exact (hw.2 c1).elim
def w_law_c17 (u : hU) (d0 L : Nat) (xs : Nat → Int32) (K : Int32 → hS → RM → Nat → Nat → Prop) (x3 : Int32) (S : hS) (M : RM) (mc ms : Nat) : Prop := (vp_in (x3 + 1) L ∧ (vp_in (x3 + 2) L ∧ ((∃ fs, rO S d0 10 fs) ∧ w_X9_layerOf u (fun r1 S1 => (vp_in (x3 + 1) L ∧ (vp_in (x3 + 2) L ∧ (w_layerOf (fun r2 M1 => ((r1 = r2 → K x3 S1 M1 mc ms) ∧ (¬ r1 = r2 → False))) (xs (x3 + 1).toNatClampNeg) (xs (x3 + 2).toNatClampNeg) M)))) d0 (xs (x3 + 1).toNatClampNeg) (xs (x3 + 2).toNatClampNeg) S)))
set_option maxHeartbeats 4000000 in
set_option maxRecDepth 100000 in
theorem t_law_c17 (C0 : hX p s m #[Value.ref b] c cL_law 4 RL wsL_law D (gt u.2.1) (fun q => s.heap.size ≤ q) u.1 u.2.2) (hXs : va_X b L xs s s.heap) (hbl : b < s.heap.size) (K : Int32 → hS → RM → Nat → Nat → Prop) (hKK : ∀ (x3 : Int32) (S : hS) (M : RM) (mc ms k n : Nat), k + mc ≤ 600000 ∧ n + ms ≤ 7302249 → K x3 S M mc ms → gG p l e room_1 s m #[Value.ref b] below meth c Q D (fun q => s.heap.size ≤ q) 4 k n (rcells (u.2.1 0) (u.2.1 1) ad M (va_pl S.1 S.2)) 1680 [(0, .ref b), (1, .ref d0), (2, .ref (ad 0)), (3, .int x3)] []) (x3 : Int32) (S : hS) (M : RM) (mc ms k n : Nat) (hkn : k + mc ≤ 600000 ∧ n + ms ≤ 7302249) (hw : w_law_c17 u d0 L xs K x3 S M mc ms) : gG p l e room_1 s m #[Value.ref b] below meth c Q D (fun q => s.heap.size ≤ q) 4 k n (rcells (u.2.1 0) (u.2.1 1) ad M (va_pl S.1 S.2)) 693 [(0, .ref b), (1, .ref d0), (2, .ref (ad 0)), (3, .int x3)] [] := by
  obtain ⟨⟨hx, hb, hml, ho, hts, hK, hA⟩, hR⟩ := id C0
  have hbA : ¬ (fun q : Nat => s.heap.size ≤ q) b := Nat.not_le.mpr hbl
  intro H locs ls hW hl
  rw [w_law_c17] at hw
  refine lv_aload_n hx hb dL_law_693 rfl (lv_at hl 1 rfl) ?_
  refine lv_aload_n hx hb dL_law_694 rfl (lv_at hl 0 rfl) ?_
  refine lv_iload_n hx hb dL_law_695 rfl (lv_at hl 3 rfl) ?_
  refine lv_iconst (v := 1) hx hb dL_law_696 (by decide) ?_
  refine lv_iadd hx hb dL_law_697 ?_
  obtain ⟨ha1, hw⟩ := hw
  refine va_sld hx hb hXs hbl hbA hW.2.2 ha1 dL_law_698 ?_
  refine lv_aload_n hx hb dL_law_699 rfl (lv_at hl 0 rfl) ?_
  refine lv_iload_n hx hb dL_law_700 rfl (lv_at hl 3 rfl) ?_
  refine lv_iconst (v := 2) hx hb dL_law_701 (by decide) ?_
  refine lv_iadd hx hb dL_law_702 ?_
  obtain ⟨ha2, hw⟩ := hw
  refine va_sld hx hb hXs hbl hbA hW.2.2 ha2 dL_law_703 ?_
  obtain ⟨hob, hw⟩ := hw
  have hW : gW D (fun q => s.heap.size ≤ q) s.heap (hC (rcells (u.2.1 0) (u.2.1 1) ad M []) S) H locs := hW
  refine h_goi C0 hW (va_runV (As := [.int (xs (x3 + 1).toNatClampNeg), .int (xs (x3 + 2).toNatClampNeg)]) (rest := []) ⟨hx, hb, hml, ho, hts⟩ (k_X9_layerOf (l := l) (u := u) (X := rcells (u.2.1 0) (u.2.1 1) ad M []) (sz := H.size) _ d0 (xs (x3 + 1).toNatClampNeg) (xs (x3 + 2).toNatClampNeg) S  hw) (cwV 2 hts gL_law_X9_layerOf rfl rfl rfl (by decide +kernel) ⟨Nat.le_of_ble_eq_true rfl, Nat.le_of_ble_eq_true rfl⟩) ⟨h_blind, (h_recv C0 hW (ci := 10) rfl hob), (h_pre C0 hW [.ref d0, .int (xs (x3 + 1).toNatClampNeg), .int (xs (x3 + 2).toNatClampNeg)])⟩ rfl rfl hl.1 rfl (lv_room (Nat.le_of_ble_eq_true rfl)) dL_law_704 ⟨by show _ ≤ 600000; omega, by show _ ≤ 7302249; omega⟩) (fun r1 S1 H locs h1 hW => ?_)
  replace hw := h1
  have hkn : (k + 0) + mc ≤ 600000 ∧ (n + 0) + ms ≤ 7302249 := by omega
  have hW : gW D (fun q => s.heap.size ≤ q) s.heap (rcells (u.2.1 0) (u.2.1 1) ad M (va_pl S1.1 S1.2)) H locs := hW
  refine lv_aload_n hx hb dL_law_707 rfl (lv_at hl 2 rfl) ?_
  refine lv_aload_n hx hb dL_law_708 rfl (lv_at hl 0 rfl) ?_
  refine lv_iload_n hx hb dL_law_709 rfl (lv_at hl 3 rfl) ?_
  refine lv_iconst (v := 1) hx hb dL_law_710 (by decide) ?_
  refine lv_iadd hx hb dL_law_711 ?_
  obtain ⟨hb1, hw⟩ := hw
  refine va_sld hx hb hXs hbl hbA hW.2.2 hb1 dL_law_712 ?_
  refine lv_aload_n hx hb dL_law_713 rfl (lv_at hl 0 rfl) ?_
  refine lv_iload_n hx hb dL_law_714 rfl (lv_at hl 3 rfl) ?_
  refine lv_iconst (v := 2) hx hb dL_law_715 (by decide) ?_
  refine lv_iadd hx hb dL_law_716 ?_
  obtain ⟨hb2, hw⟩ := hw
  refine va_sld hx hb hXs hbl hbA hW.2.2 hb2 dL_law_717 ?_
  refine g_calli (cw0 := fun M => rcells (u.2.1 0) (u.2.1 1) ad M (va_pl S1.1 S1.2)) (M := M) (As := [.int (xs (x3 + 1).toNatClampNeg), .int (xs (x3 + 2).toNatClampNeg)]) (rest := [.int r1]) C0.1 hW hl.1 (k_layerOf (l := l) _ (xs (x3 + 1).toNatClampNeg) (xs (x3 + 2).toNatClampNeg) _ hw) (cwV 2 hts gL_law_X10_layerOf rfl rfl rfl (by decide +kernel) ⟨Nat.le_of_ble_eq_true rfl, Nat.le_of_ble_eq_true rfl⟩) (va_recv (q := (RX10, TX10, 21)) hK hW.1 (ci := 11) (q0 := 0) rfl rfl) (Nat.le_of_ble_eq_true rfl) dL_law_718 rfl ⟨by show _ ≤ 600000; omega, by show _ ≤ 7302249; omega⟩ (fun r2 M1 H locs h3 hW => ?_)
  replace hw := h3
  refine lv_icmp_eq (tgt := 1680) hx hb dL_law_721 (by decide) (fun c1 => ?_) (fun c1 => ?_)
  · have hkn : ((k + 0) + 0) + mc ≤ 600000 ∧ ((n + 0) + 0) + ms ≤ 7302249 := by omega
    exact hKK x3 S1 M1 mc ms _ _ hkn (hw.1 c1) _ _ _ hW hl
  · exact (hw.2 c1).elim
def w_law_c18 (u : hU) (d0 L : Nat) (xs : Nat → Int32) (K : Int32 → hS → RM → Nat → Nat → Prop) (x3 : Int32) (S : hS) (M : RM) (mc ms : Nat) : Prop := (vp_in (x3 + 1) L ∧ (vp_in (x3 + 2) L ∧ (vp_in (x3 + 3) L ∧ (vp_in (x3 + 4) L ∧ ((∃ fs, rO S d0 10 fs) ∧ (∃ k1 n1 : Nat, k1 ≤ mc ∧ n1 ≤ ms ∧ w_X9_set u (fun r1 S1 => (vp_in (x3 + 1) L ∧ (vp_in (x3 + 2) L ∧ (vp_in (x3 + 3) L ∧ (vp_in (x3 + 4) L ∧ (w_set (fun r2 M1 => ((r1 = r2 → K x3 S1 M1 (mc - k1) (ms - n1)) ∧ (¬ r1 = r2 → False))) (xs (x3 + 1).toNatClampNeg) (xs (x3 + 2).toNatClampNeg) (xs (x3 + 3).toNatClampNeg) (xs (x3 + 4).toNatClampNeg) M)))))) d0 (xs (x3 + 1).toNatClampNeg) (xs (x3 + 2).toNatClampNeg) (xs (x3 + 3).toNatClampNeg) (xs (x3 + 4).toNatClampNeg) S k1 n1))))))
set_option maxHeartbeats 4000000 in
set_option maxRecDepth 100000 in
theorem t_law_c18 (C0 : hX p s m #[Value.ref b] c cL_law 4 RL wsL_law D (gt u.2.1) (fun q => s.heap.size ≤ q) u.1 u.2.2) (hXs : va_X b L xs s s.heap) (hbl : b < s.heap.size) (K : Int32 → hS → RM → Nat → Nat → Prop) (hKK : ∀ (x3 : Int32) (S : hS) (M : RM) (mc ms k n : Nat), k + mc ≤ 600000 ∧ n + ms ≤ 7302249 → K x3 S M mc ms → gG p l e room_1 s m #[Value.ref b] below meth c Q D (fun q => s.heap.size ≤ q) 4 k n (rcells (u.2.1 0) (u.2.1 1) ad M (va_pl S.1 S.2)) 1680 [(0, .ref b), (1, .ref d0), (2, .ref (ad 0)), (3, .int x3)] []) (x3 : Int32) (S : hS) (M : RM) (mc ms k n : Nat) (hkn : k + mc ≤ 600000 ∧ n + ms ≤ 7302249) (hw : w_law_c18 u d0 L xs K x3 S M mc ms) : gG p l e room_1 s m #[Value.ref b] below meth c Q D (fun q => s.heap.size ≤ q) 4 k n (rcells (u.2.1 0) (u.2.1 1) ad M (va_pl S.1 S.2)) 726 [(0, .ref b), (1, .ref d0), (2, .ref (ad 0)), (3, .int x3)] [] := by
  obtain ⟨⟨hx, hb, hml, ho, hts, hK, hA⟩, hR⟩ := id C0
  have hbA : ¬ (fun q : Nat => s.heap.size ≤ q) b := Nat.not_le.mpr hbl
  intro H locs ls hW hl
  rw [w_law_c18] at hw
  refine lv_aload_n hx hb dL_law_726 rfl (lv_at hl 1 rfl) ?_
  refine lv_aload_n hx hb dL_law_727 rfl (lv_at hl 0 rfl) ?_
  refine lv_iload_n hx hb dL_law_728 rfl (lv_at hl 3 rfl) ?_
  refine lv_iconst (v := 1) hx hb dL_law_729 (by decide) ?_
  refine lv_iadd hx hb dL_law_730 ?_
  obtain ⟨ha1, hw⟩ := hw
  refine va_sld hx hb hXs hbl hbA hW.2.2 ha1 dL_law_731 ?_
  refine lv_aload_n hx hb dL_law_732 rfl (lv_at hl 0 rfl) ?_
  refine lv_iload_n hx hb dL_law_733 rfl (lv_at hl 3 rfl) ?_
  refine lv_iconst (v := 2) hx hb dL_law_734 (by decide) ?_
  refine lv_iadd hx hb dL_law_735 ?_
  obtain ⟨ha2, hw⟩ := hw
  refine va_sld hx hb hXs hbl hbA hW.2.2 ha2 dL_law_736 ?_
  refine lv_aload_n hx hb dL_law_737 rfl (lv_at hl 0 rfl) ?_
  refine lv_iload_n hx hb dL_law_738 rfl (lv_at hl 3 rfl) ?_
  refine lv_iconst (v := 3) hx hb dL_law_739 (by decide) ?_
  refine lv_iadd hx hb dL_law_740 ?_
  obtain ⟨ha3, hw⟩ := hw
  refine va_sld hx hb hXs hbl hbA hW.2.2 ha3 dL_law_741 ?_
  refine lv_aload_n hx hb dL_law_742 rfl (lv_at hl 0 rfl) ?_
  refine lv_iload_n hx hb dL_law_743 rfl (lv_at hl 3 rfl) ?_
  refine lv_iconst (v := 4) hx hb dL_law_744 (by decide) ?_
  refine lv_iadd hx hb dL_law_745 ?_
  obtain ⟨ha4, hw⟩ := hw
  refine va_sld hx hb hXs hbl hbA hW.2.2 ha4 dL_law_746 ?_
  obtain ⟨hob, k1, n1, hk1, hn1, hw⟩ := hw
  have hW : gW D (fun q => s.heap.size ≤ q) s.heap (hC (rcells (u.2.1 0) (u.2.1 1) ad M []) S) H locs := hW
  refine h_goi C0 hW (va_runV (As := [.int (xs (x3 + 1).toNatClampNeg), .int (xs (x3 + 2).toNatClampNeg), .int (xs (x3 + 3).toNatClampNeg), .int (xs (x3 + 4).toNatClampNeg)]) (rest := []) ⟨hx, hb, hml, ho, hts⟩ (k_X9_set (l := l) (u := u) (X := rcells (u.2.1 0) (u.2.1 1) ad M []) (sz := H.size) _ d0 (xs (x3 + 1).toNatClampNeg) (xs (x3 + 2).toNatClampNeg) (xs (x3 + 3).toNatClampNeg) (xs (x3 + 4).toNatClampNeg) S k1 n1 hw) (cwV 4 hts gL_law_X9_set rfl rfl rfl (by decide +kernel) ⟨Nat.le_of_ble_eq_true rfl, Nat.le_of_ble_eq_true rfl⟩) ⟨h_blind, (h_recv C0 hW (ci := 10) rfl hob), (h_pre C0 hW [.ref d0, .int (xs (x3 + 1).toNatClampNeg), .int (xs (x3 + 2).toNatClampNeg), .int (xs (x3 + 3).toNatClampNeg), .int (xs (x3 + 4).toNatClampNeg)])⟩ rfl rfl hl.1 rfl (lv_room (Nat.le_of_ble_eq_true rfl)) dL_law_747 ⟨by show _ ≤ 600000; omega, by show _ ≤ 7302249; omega⟩) (fun r1 S1 H locs h1 hW => ?_)
  replace hw := h1
  have hkn : (k + k1) + (mc - k1) ≤ 600000 ∧ (n + n1) + (ms - n1) ≤ 7302249 := by omega
  have hW : gW D (fun q => s.heap.size ≤ q) s.heap (rcells (u.2.1 0) (u.2.1 1) ad M (va_pl S1.1 S1.2)) H locs := hW
  refine lv_aload_n hx hb dL_law_750 rfl (lv_at hl 2 rfl) ?_
  refine lv_aload_n hx hb dL_law_751 rfl (lv_at hl 0 rfl) ?_
  refine lv_iload_n hx hb dL_law_752 rfl (lv_at hl 3 rfl) ?_
  refine lv_iconst (v := 1) hx hb dL_law_753 (by decide) ?_
  refine lv_iadd hx hb dL_law_754 ?_
  obtain ⟨hb1, hw⟩ := hw
  refine va_sld hx hb hXs hbl hbA hW.2.2 hb1 dL_law_755 ?_
  refine lv_aload_n hx hb dL_law_756 rfl (lv_at hl 0 rfl) ?_
  refine lv_iload_n hx hb dL_law_757 rfl (lv_at hl 3 rfl) ?_
  refine lv_iconst (v := 2) hx hb dL_law_758 (by decide) ?_
  refine lv_iadd hx hb dL_law_759 ?_
  obtain ⟨hb2, hw⟩ := hw
  refine va_sld hx hb hXs hbl hbA hW.2.2 hb2 dL_law_760 ?_
  refine lv_aload_n hx hb dL_law_761 rfl (lv_at hl 0 rfl) ?_
  refine lv_iload_n hx hb dL_law_762 rfl (lv_at hl 3 rfl) ?_
  refine lv_iconst (v := 3) hx hb dL_law_763 (by decide) ?_
  refine lv_iadd hx hb dL_law_764 ?_
  obtain ⟨hb3, hw⟩ := hw
  refine va_sld hx hb hXs hbl hbA hW.2.2 hb3 dL_law_765 ?_
  refine lv_aload_n hx hb dL_law_766 rfl (lv_at hl 0 rfl) ?_
  refine lv_iload_n hx hb dL_law_767 rfl (lv_at hl 3 rfl) ?_
  refine lv_iconst (v := 4) hx hb dL_law_768 (by decide) ?_
  refine lv_iadd hx hb dL_law_769 ?_
  obtain ⟨hb4, hw⟩ := hw
  refine va_sld hx hb hXs hbl hbA hW.2.2 hb4 dL_law_770 ?_
  refine g_calli (cw0 := fun M => rcells (u.2.1 0) (u.2.1 1) ad M (va_pl S1.1 S1.2)) (M := M) (As := [.int (xs (x3 + 1).toNatClampNeg), .int (xs (x3 + 2).toNatClampNeg), .int (xs (x3 + 3).toNatClampNeg), .int (xs (x3 + 4).toNatClampNeg)]) (rest := [.int r1]) C0.1 hW hl.1 (k_set (l := l) _ (xs (x3 + 1).toNatClampNeg) (xs (x3 + 2).toNatClampNeg) (xs (x3 + 3).toNatClampNeg) (xs (x3 + 4).toNatClampNeg) _ hw) (cwV 4 hts gL_law_X10_set rfl rfl rfl (by decide +kernel) ⟨Nat.le_of_ble_eq_true rfl, Nat.le_of_ble_eq_true rfl⟩) (va_recv (q := (RX10, TX10, 21)) hK hW.1 (ci := 11) (q0 := 0) rfl rfl) (Nat.le_of_ble_eq_true rfl) dL_law_771 rfl ⟨by show _ ≤ 600000; omega, by show _ ≤ 7302249; omega⟩ (fun r2 M1 H locs h3 hW => ?_)
  replace hw := h3
  refine lv_icmp_eq (tgt := 1680) hx hb dL_law_774 (by decide) (fun c1 => ?_) (fun c1 => ?_)
  · have hkn : ((k + k1) + 0) + (mc - k1) ≤ 600000 ∧ ((n + n1) + 0) + (ms - n1) ≤ 7302249 := by omega
    exact hKK x3 S1 M1 (mc - k1) (ms - n1) _ _ hkn (hw.1 c1) _ _ _ hW hl
  · exact (hw.2 c1).elim
def w_law_c19 (u : hU) (d0 L : Nat) (xs : Nat → Int32) (K : Int32 → hS → RM → Nat → Nat → Prop) (x3 : Int32) (S : hS) (M : RM) (mc ms : Nat) : Prop := (vp_in (x3 + 1) L ∧ (vp_in (x3 + 2) L ∧ (vp_in (x3 + 3) L ∧ ((∃ fs, rO S d0 10 fs) ∧ w_X9_drop u (fun r1 S1 => (vp_in (x3 + 1) L ∧ (vp_in (x3 + 2) L ∧ (vp_in (x3 + 3) L ∧ (w_drop (fun r2 M1 => ((r1 = r2 → K x3 S1 M1 mc ms) ∧ (¬ r1 = r2 → False))) (xs (x3 + 1).toNatClampNeg) (xs (x3 + 2).toNatClampNeg) (xs (x3 + 3).toNatClampNeg) M))))) d0 (xs (x3 + 1).toNatClampNeg) (xs (x3 + 2).toNatClampNeg) (xs (x3 + 3).toNatClampNeg) S))))
set_option maxHeartbeats 4000000 in
set_option maxRecDepth 100000 in
theorem t_law_c19 (C0 : hX p s m #[Value.ref b] c cL_law 4 RL wsL_law D (gt u.2.1) (fun q => s.heap.size ≤ q) u.1 u.2.2) (hXs : va_X b L xs s s.heap) (hbl : b < s.heap.size) (K : Int32 → hS → RM → Nat → Nat → Prop) (hKK : ∀ (x3 : Int32) (S : hS) (M : RM) (mc ms k n : Nat), k + mc ≤ 600000 ∧ n + ms ≤ 7302249 → K x3 S M mc ms → gG p l e room_1 s m #[Value.ref b] below meth c Q D (fun q => s.heap.size ≤ q) 4 k n (rcells (u.2.1 0) (u.2.1 1) ad M (va_pl S.1 S.2)) 1680 [(0, .ref b), (1, .ref d0), (2, .ref (ad 0)), (3, .int x3)] []) (x3 : Int32) (S : hS) (M : RM) (mc ms k n : Nat) (hkn : k + mc ≤ 600000 ∧ n + ms ≤ 7302249) (hw : w_law_c19 u d0 L xs K x3 S M mc ms) : gG p l e room_1 s m #[Value.ref b] below meth c Q D (fun q => s.heap.size ≤ q) 4 k n (rcells (u.2.1 0) (u.2.1 1) ad M (va_pl S.1 S.2)) 779 [(0, .ref b), (1, .ref d0), (2, .ref (ad 0)), (3, .int x3)] [] := by
  obtain ⟨⟨hx, hb, hml, ho, hts, hK, hA⟩, hR⟩ := id C0
  have hbA : ¬ (fun q : Nat => s.heap.size ≤ q) b := Nat.not_le.mpr hbl
  intro H locs ls hW hl
  rw [w_law_c19] at hw
  refine lv_aload_n hx hb dL_law_779 rfl (lv_at hl 1 rfl) ?_
  refine lv_aload_n hx hb dL_law_780 rfl (lv_at hl 0 rfl) ?_
  refine lv_iload_n hx hb dL_law_781 rfl (lv_at hl 3 rfl) ?_
  refine lv_iconst (v := 1) hx hb dL_law_782 (by decide) ?_
  refine lv_iadd hx hb dL_law_783 ?_
  obtain ⟨ha1, hw⟩ := hw
  refine va_sld hx hb hXs hbl hbA hW.2.2 ha1 dL_law_784 ?_
  refine lv_aload_n hx hb dL_law_785 rfl (lv_at hl 0 rfl) ?_
  refine lv_iload_n hx hb dL_law_786 rfl (lv_at hl 3 rfl) ?_
  refine lv_iconst (v := 2) hx hb dL_law_787 (by decide) ?_
  refine lv_iadd hx hb dL_law_788 ?_
  obtain ⟨ha2, hw⟩ := hw
  refine va_sld hx hb hXs hbl hbA hW.2.2 ha2 dL_law_789 ?_
  refine lv_aload_n hx hb dL_law_790 rfl (lv_at hl 0 rfl) ?_
  refine lv_iload_n hx hb dL_law_791 rfl (lv_at hl 3 rfl) ?_
  refine lv_iconst (v := 3) hx hb dL_law_792 (by decide) ?_
  refine lv_iadd hx hb dL_law_793 ?_
  obtain ⟨ha3, hw⟩ := hw
  refine va_sld hx hb hXs hbl hbA hW.2.2 ha3 dL_law_794 ?_
  obtain ⟨hob, hw⟩ := hw
  have hW : gW D (fun q => s.heap.size ≤ q) s.heap (hC (rcells (u.2.1 0) (u.2.1 1) ad M []) S) H locs := hW
  refine h_goi C0 hW (va_runV (As := [.int (xs (x3 + 1).toNatClampNeg), .int (xs (x3 + 2).toNatClampNeg), .int (xs (x3 + 3).toNatClampNeg)]) (rest := []) ⟨hx, hb, hml, ho, hts⟩ (k_X9_drop (l := l) (u := u) (X := rcells (u.2.1 0) (u.2.1 1) ad M []) (sz := H.size) _ d0 (xs (x3 + 1).toNatClampNeg) (xs (x3 + 2).toNatClampNeg) (xs (x3 + 3).toNatClampNeg) S  hw) (cwV 3 hts gL_law_X9_drop rfl rfl rfl (by decide +kernel) ⟨Nat.le_of_ble_eq_true rfl, Nat.le_of_ble_eq_true rfl⟩) ⟨h_blind, (h_recv C0 hW (ci := 10) rfl hob), (h_pre C0 hW [.ref d0, .int (xs (x3 + 1).toNatClampNeg), .int (xs (x3 + 2).toNatClampNeg), .int (xs (x3 + 3).toNatClampNeg)])⟩ rfl rfl hl.1 rfl (lv_room (Nat.le_of_ble_eq_true rfl)) dL_law_795 ⟨by show _ ≤ 600000; omega, by show _ ≤ 7302249; omega⟩) (fun r1 S1 H locs h1 hW => ?_)
  replace hw := h1
  have hkn : (k + 0) + mc ≤ 600000 ∧ (n + 0) + ms ≤ 7302249 := by omega
  have hW : gW D (fun q => s.heap.size ≤ q) s.heap (rcells (u.2.1 0) (u.2.1 1) ad M (va_pl S1.1 S1.2)) H locs := hW
  refine lv_aload_n hx hb dL_law_798 rfl (lv_at hl 2 rfl) ?_
  refine lv_aload_n hx hb dL_law_799 rfl (lv_at hl 0 rfl) ?_
  refine lv_iload_n hx hb dL_law_800 rfl (lv_at hl 3 rfl) ?_
  refine lv_iconst (v := 1) hx hb dL_law_801 (by decide) ?_
  refine lv_iadd hx hb dL_law_802 ?_
  obtain ⟨hb1, hw⟩ := hw
  refine va_sld hx hb hXs hbl hbA hW.2.2 hb1 dL_law_803 ?_
  refine lv_aload_n hx hb dL_law_804 rfl (lv_at hl 0 rfl) ?_
  refine lv_iload_n hx hb dL_law_805 rfl (lv_at hl 3 rfl) ?_
  refine lv_iconst (v := 2) hx hb dL_law_806 (by decide) ?_
  refine lv_iadd hx hb dL_law_807 ?_
  obtain ⟨hb2, hw⟩ := hw
  refine va_sld hx hb hXs hbl hbA hW.2.2 hb2 dL_law_808 ?_
  refine lv_aload_n hx hb dL_law_809 rfl (lv_at hl 0 rfl) ?_
  refine lv_iload_n hx hb dL_law_810 rfl (lv_at hl 3 rfl) ?_
  refine lv_iconst (v := 3) hx hb dL_law_811 (by decide) ?_
  refine lv_iadd hx hb dL_law_812 ?_
  obtain ⟨hb3, hw⟩ := hw
  refine va_sld hx hb hXs hbl hbA hW.2.2 hb3 dL_law_813 ?_
  refine g_calli (cw0 := fun M => rcells (u.2.1 0) (u.2.1 1) ad M (va_pl S1.1 S1.2)) (M := M) (As := [.int (xs (x3 + 1).toNatClampNeg), .int (xs (x3 + 2).toNatClampNeg), .int (xs (x3 + 3).toNatClampNeg)]) (rest := [.int r1]) C0.1 hW hl.1 (k_drop (l := l) _ (xs (x3 + 1).toNatClampNeg) (xs (x3 + 2).toNatClampNeg) (xs (x3 + 3).toNatClampNeg) _ hw) (cwV 3 hts gL_law_X10_drop rfl rfl rfl (by decide +kernel) ⟨Nat.le_of_ble_eq_true rfl, Nat.le_of_ble_eq_true rfl⟩) (va_recv (q := (RX10, TX10, 21)) hK hW.1 (ci := 11) (q0 := 0) rfl rfl) (Nat.le_of_ble_eq_true rfl) dL_law_814 rfl ⟨by show _ ≤ 600000; omega, by show _ ≤ 7302249; omega⟩ (fun r2 M1 H locs h3 hW => ?_)
  replace hw := h3
  refine lv_icmp_eq (tgt := 1680) hx hb dL_law_817 (by decide) (fun c1 => ?_) (fun c1 => ?_)
  · have hkn : ((k + 0) + 0) + mc ≤ 600000 ∧ ((n + 0) + 0) + ms ≤ 7302249 := by omega
    exact hKK x3 S1 M1 mc ms _ _ hkn (hw.1 c1) _ _ _ hW hl
  · exact (hw.2 c1).elim
def w_law_c20 (u : hU) (d0 L : Nat) (xs : Nat → Int32) (K : Int32 → hS → RM → Nat → Nat → Prop) (x3 : Int32) (S : hS) (M : RM) (mc ms : Nat) : Prop := (vp_in (x3 + 1) L ∧ ((∃ fs, rO S d0 10 fs) ∧ w_X9_empty u (fun r1 S1 => (vp_in (x3 + 1) L ∧ (w_empty (fun r2 M1 => ((r1 = r2 → K x3 S1 M1 mc ms) ∧ (¬ r1 = r2 → False))) (xs (x3 + 1).toNatClampNeg) M))) d0 (xs (x3 + 1).toNatClampNeg) S))
set_option maxHeartbeats 4000000 in
set_option maxRecDepth 100000 in
theorem t_law_c20 (C0 : hX p s m #[Value.ref b] c cL_law 4 RL wsL_law D (gt u.2.1) (fun q => s.heap.size ≤ q) u.1 u.2.2) (hXs : va_X b L xs s s.heap) (hbl : b < s.heap.size) (K : Int32 → hS → RM → Nat → Nat → Prop) (hKK : ∀ (x3 : Int32) (S : hS) (M : RM) (mc ms k n : Nat), k + mc ≤ 600000 ∧ n + ms ≤ 7302249 → K x3 S M mc ms → gG p l e room_1 s m #[Value.ref b] below meth c Q D (fun q => s.heap.size ≤ q) 4 k n (rcells (u.2.1 0) (u.2.1 1) ad M (va_pl S.1 S.2)) 1680 [(0, .ref b), (1, .ref d0), (2, .ref (ad 0)), (3, .int x3)] []) (x3 : Int32) (S : hS) (M : RM) (mc ms k n : Nat) (hkn : k + mc ≤ 600000 ∧ n + ms ≤ 7302249) (hw : w_law_c20 u d0 L xs K x3 S M mc ms) : gG p l e room_1 s m #[Value.ref b] below meth c Q D (fun q => s.heap.size ≤ q) 4 k n (rcells (u.2.1 0) (u.2.1 1) ad M (va_pl S.1 S.2)) 822 [(0, .ref b), (1, .ref d0), (2, .ref (ad 0)), (3, .int x3)] [] := by
  obtain ⟨⟨hx, hb, hml, ho, hts, hK, hA⟩, hR⟩ := id C0
  have hbA : ¬ (fun q : Nat => s.heap.size ≤ q) b := Nat.not_le.mpr hbl
  intro H locs ls hW hl
  rw [w_law_c20] at hw
  refine lv_aload_n hx hb dL_law_822 rfl (lv_at hl 1 rfl) ?_
  refine lv_aload_n hx hb dL_law_823 rfl (lv_at hl 0 rfl) ?_
  refine lv_iload_n hx hb dL_law_824 rfl (lv_at hl 3 rfl) ?_
  refine lv_iconst (v := 1) hx hb dL_law_825 (by decide) ?_
  refine lv_iadd hx hb dL_law_826 ?_
  obtain ⟨ha1, hw⟩ := hw
  refine va_sld hx hb hXs hbl hbA hW.2.2 ha1 dL_law_827 ?_
  obtain ⟨hob, hw⟩ := hw
  have hW : gW D (fun q => s.heap.size ≤ q) s.heap (hC (rcells (u.2.1 0) (u.2.1 1) ad M []) S) H locs := hW
  refine h_goi C0 hW (va_runV (As := [.int (xs (x3 + 1).toNatClampNeg)]) (rest := []) ⟨hx, hb, hml, ho, hts⟩ (k_X9_empty (l := l) (u := u) (X := rcells (u.2.1 0) (u.2.1 1) ad M []) (sz := H.size) _ d0 (xs (x3 + 1).toNatClampNeg) S  hw) (cwV 1 hts gL_law_X9_empty rfl rfl rfl (by decide +kernel) ⟨Nat.le_of_ble_eq_true rfl, Nat.le_of_ble_eq_true rfl⟩) ⟨h_blind, (h_recv C0 hW (ci := 10) rfl hob), (h_pre C0 hW [.ref d0, .int (xs (x3 + 1).toNatClampNeg)])⟩ rfl rfl hl.1 rfl (lv_room (Nat.le_of_ble_eq_true rfl)) dL_law_828 ⟨by show _ ≤ 600000; omega, by show _ ≤ 7302249; omega⟩) (fun r1 S1 H locs h1 hW => ?_)
  replace hw := h1
  have hkn : (k + 0) + mc ≤ 600000 ∧ (n + 0) + ms ≤ 7302249 := by omega
  have hW : gW D (fun q => s.heap.size ≤ q) s.heap (rcells (u.2.1 0) (u.2.1 1) ad M (va_pl S1.1 S1.2)) H locs := hW
  refine lv_aload_n hx hb dL_law_831 rfl (lv_at hl 2 rfl) ?_
  refine lv_aload_n hx hb dL_law_832 rfl (lv_at hl 0 rfl) ?_
  refine lv_iload_n hx hb dL_law_833 rfl (lv_at hl 3 rfl) ?_
  refine lv_iconst (v := 1) hx hb dL_law_834 (by decide) ?_
  refine lv_iadd hx hb dL_law_835 ?_
  obtain ⟨hb1, hw⟩ := hw
  refine va_sld hx hb hXs hbl hbA hW.2.2 hb1 dL_law_836 ?_
  refine g_calli (cw0 := fun M => rcells (u.2.1 0) (u.2.1 1) ad M (va_pl S1.1 S1.2)) (M := M) (As := [.int (xs (x3 + 1).toNatClampNeg)]) (rest := [.int r1]) C0.1 hW hl.1 (k_empty (l := l) _ (xs (x3 + 1).toNatClampNeg) _ hw) (cwV 1 hts gL_law_X10_empty rfl rfl rfl (by decide +kernel) ⟨Nat.le_of_ble_eq_true rfl, Nat.le_of_ble_eq_true rfl⟩) (va_recv (q := (RX10, TX10, 21)) hK hW.1 (ci := 11) (q0 := 0) rfl rfl) (Nat.le_of_ble_eq_true rfl) dL_law_837 rfl ⟨by show _ ≤ 600000; omega, by show _ ≤ 7302249; omega⟩ (fun r2 M1 H locs h3 hW => ?_)
  replace hw := h3
  refine lv_icmp_eq (tgt := 1680) hx hb dL_law_840 (by decide) (fun c1 => ?_) (fun c1 => ?_)
  · have hkn : ((k + 0) + 0) + mc ≤ 600000 ∧ ((n + 0) + 0) + ms ≤ 7302249 := by omega
    exact hKK x3 S1 M1 mc ms _ _ hkn (hw.1 c1) _ _ _ hW hl
  · exact (hw.2 c1).elim
def w_law_c21 (u : hU) (d0 L : Nat) (xs : Nat → Int32) (K : Int32 → hS → RM → Nat → Nat → Prop) (x3 : Int32) (S : hS) (M : RM) (mc ms : Nat) : Prop := (vp_in (x3 + 1) L ∧ ((∃ fs, rO S d0 10 fs) ∧ w_X9_size u (fun r1 => (vp_in (x3 + 1) L ∧ (w_size (fun r2 M1 => ((r1 = r2 → K x3 S M1 mc ms) ∧ (¬ r1 = r2 → False))) (xs (x3 + 1).toNatClampNeg) M))) d0 (xs (x3 + 1).toNatClampNeg) S))
set_option maxHeartbeats 4000000 in
set_option maxRecDepth 100000 in
theorem t_law_c21 (C0 : hX p s m #[Value.ref b] c cL_law 4 RL wsL_law D (gt u.2.1) (fun q => s.heap.size ≤ q) u.1 u.2.2) (hXs : va_X b L xs s s.heap) (hbl : b < s.heap.size) (K : Int32 → hS → RM → Nat → Nat → Prop) (hKK : ∀ (x3 : Int32) (S : hS) (M : RM) (mc ms k n : Nat), k + mc ≤ 600000 ∧ n + ms ≤ 7302249 → K x3 S M mc ms → gG p l e room_1 s m #[Value.ref b] below meth c Q D (fun q => s.heap.size ≤ q) 4 k n (rcells (u.2.1 0) (u.2.1 1) ad M (va_pl S.1 S.2)) 1680 [(0, .ref b), (1, .ref d0), (2, .ref (ad 0)), (3, .int x3)] []) (x3 : Int32) (S : hS) (M : RM) (mc ms k n : Nat) (hkn : k + mc ≤ 600000 ∧ n + ms ≤ 7302249) (hw : w_law_c21 u d0 L xs K x3 S M mc ms) : gG p l e room_1 s m #[Value.ref b] below meth c Q D (fun q => s.heap.size ≤ q) 4 k n (rcells (u.2.1 0) (u.2.1 1) ad M (va_pl S.1 S.2)) 845 [(0, .ref b), (1, .ref d0), (2, .ref (ad 0)), (3, .int x3)] [] := by
  obtain ⟨⟨hx, hb, hml, ho, hts, hK, hA⟩, hR⟩ := id C0
  have hbA : ¬ (fun q : Nat => s.heap.size ≤ q) b := Nat.not_le.mpr hbl
  intro H locs ls hW hl
  rw [w_law_c21] at hw
  refine lv_aload_n hx hb dL_law_845 rfl (lv_at hl 1 rfl) ?_
  refine lv_aload_n hx hb dL_law_846 rfl (lv_at hl 0 rfl) ?_
  refine lv_iload_n hx hb dL_law_847 rfl (lv_at hl 3 rfl) ?_
  refine lv_iconst (v := 1) hx hb dL_law_848 (by decide) ?_
  refine lv_iadd hx hb dL_law_849 ?_
  obtain ⟨ha1, hw⟩ := hw
  refine va_sld hx hb hXs hbl hbA hW.2.2 ha1 dL_law_850 ?_
  obtain ⟨hob, hw⟩ := hw
  have hW : gW D (fun q => s.heap.size ≤ q) s.heap (hC (rcells (u.2.1 0) (u.2.1 1) ad M []) S) H locs := hW
  refine h_goi C0 hW (va_runV (As := [.int (xs (x3 + 1).toNatClampNeg)]) (rest := []) ⟨hx, hb, hml, ho, hts⟩ (k_X9_size (l := l) (u := u) (X := rcells (u.2.1 0) (u.2.1 1) ad M []) (sz := H.size) _ d0 (xs (x3 + 1).toNatClampNeg) S  hw) (cwV 1 hts gL_law_X9_size rfl rfl rfl (by decide +kernel) ⟨Nat.le_of_ble_eq_true rfl, Nat.le_of_ble_eq_true rfl⟩) ⟨h_blind, (h_recv C0 hW (ci := 10) rfl hob), (h_pre C0 hW [.ref d0, .int (xs (x3 + 1).toNatClampNeg)])⟩ rfl rfl hl.1 rfl (lv_room (Nat.le_of_ble_eq_true rfl)) dL_law_851 ⟨by show _ ≤ 600000; omega, by show _ ≤ 7302249; omega⟩) (fun r1 S1 H locs h1 hW => ?_)
  obtain ⟨h2, hp⟩ := h1
  rw [h2] at hW
  replace hw := hp
  have hkn : (k + 0) + mc ≤ 600000 ∧ (n + 0) + ms ≤ 7302249 := by omega
  have hW : gW D (fun q => s.heap.size ≤ q) s.heap (rcells (u.2.1 0) (u.2.1 1) ad M (va_pl S.1 S.2)) H locs := hW
  refine lv_aload_n hx hb dL_law_854 rfl (lv_at hl 2 rfl) ?_
  refine lv_aload_n hx hb dL_law_855 rfl (lv_at hl 0 rfl) ?_
  refine lv_iload_n hx hb dL_law_856 rfl (lv_at hl 3 rfl) ?_
  refine lv_iconst (v := 1) hx hb dL_law_857 (by decide) ?_
  refine lv_iadd hx hb dL_law_858 ?_
  obtain ⟨hb1, hw⟩ := hw
  refine va_sld hx hb hXs hbl hbA hW.2.2 hb1 dL_law_859 ?_
  refine g_calli (cw0 := fun M => rcells (u.2.1 0) (u.2.1 1) ad M (va_pl S.1 S.2)) (M := M) (As := [.int (xs (x3 + 1).toNatClampNeg)]) (rest := [.int r1]) C0.1 hW hl.1 (k_size (l := l) _ (xs (x3 + 1).toNatClampNeg) _ hw) (cwV 1 hts gL_law_X10_size rfl rfl rfl (by decide +kernel) ⟨Nat.le_of_ble_eq_true rfl, Nat.le_of_ble_eq_true rfl⟩) (va_recv (q := (RX10, TX10, 21)) hK hW.1 (ci := 11) (q0 := 0) rfl rfl) (Nat.le_of_ble_eq_true rfl) dL_law_860 rfl ⟨by show _ ≤ 600000; omega, by show _ ≤ 7302249; omega⟩ (fun r2 M1 H locs h3 hW => ?_)
  replace hw := h3
  refine lv_icmp_eq (tgt := 1680) hx hb dL_law_863 (by decide) (fun c1 => ?_) (fun c1 => ?_)
  · have hkn : ((k + 0) + 0) + mc ≤ 600000 ∧ ((n + 0) + 0) + ms ≤ 7302249 := by omega
    exact hKK x3 S M1 mc ms _ _ hkn (hw.1 c1) _ _ _ hW hl
  · exact (hw.2 c1).elim
def w_law_c22 (u : hU) (d0 L : Nat) (xs : Nat → Int32) (K : Int32 → hS → RM → Nat → Nat → Prop) (x3 : Int32) (S : hS) (M : RM) (mc ms : Nat) : Prop := (vp_in (x3 + 1) L ∧ ((∃ fs, rO S d0 10 fs) ∧ (∃ k1 n1 : Nat, k1 ≤ mc ∧ n1 ≤ ms ∧ w_X9_names u (fun r1 S1 => (vp_in (x3 + 1) L ∧ (w_names (fun r2 M1 => ((r1 = r2 → K x3 S1 M1 (mc - k1) (ms - n1)) ∧ (¬ r1 = r2 → False))) (xs (x3 + 1).toNatClampNeg) M))) d0 (xs (x3 + 1).toNatClampNeg) S k1 n1)))
set_option maxHeartbeats 4000000 in
set_option maxRecDepth 100000 in
theorem t_law_c22 (C0 : hX p s m #[Value.ref b] c cL_law 4 RL wsL_law D (gt u.2.1) (fun q => s.heap.size ≤ q) u.1 u.2.2) (hXs : va_X b L xs s s.heap) (hbl : b < s.heap.size) (K : Int32 → hS → RM → Nat → Nat → Prop) (hKK : ∀ (x3 : Int32) (S : hS) (M : RM) (mc ms k n : Nat), k + mc ≤ 600000 ∧ n + ms ≤ 7302249 → K x3 S M mc ms → gG p l e room_1 s m #[Value.ref b] below meth c Q D (fun q => s.heap.size ≤ q) 4 k n (rcells (u.2.1 0) (u.2.1 1) ad M (va_pl S.1 S.2)) 1680 [(0, .ref b), (1, .ref d0), (2, .ref (ad 0)), (3, .int x3)] []) (x3 : Int32) (S : hS) (M : RM) (mc ms k n : Nat) (hkn : k + mc ≤ 600000 ∧ n + ms ≤ 7302249) (hw : w_law_c22 u d0 L xs K x3 S M mc ms) : gG p l e room_1 s m #[Value.ref b] below meth c Q D (fun q => s.heap.size ≤ q) 4 k n (rcells (u.2.1 0) (u.2.1 1) ad M (va_pl S.1 S.2)) 868 [(0, .ref b), (1, .ref d0), (2, .ref (ad 0)), (3, .int x3)] [] := by
  obtain ⟨⟨hx, hb, hml, ho, hts, hK, hA⟩, hR⟩ := id C0
  have hbA : ¬ (fun q : Nat => s.heap.size ≤ q) b := Nat.not_le.mpr hbl
  intro H locs ls hW hl
  rw [w_law_c22] at hw
  refine lv_aload_n hx hb dL_law_868 rfl (lv_at hl 1 rfl) ?_
  refine lv_aload_n hx hb dL_law_869 rfl (lv_at hl 0 rfl) ?_
  refine lv_iload_n hx hb dL_law_870 rfl (lv_at hl 3 rfl) ?_
  refine lv_iconst (v := 1) hx hb dL_law_871 (by decide) ?_
  refine lv_iadd hx hb dL_law_872 ?_
  obtain ⟨ha1, hw⟩ := hw
  refine va_sld hx hb hXs hbl hbA hW.2.2 ha1 dL_law_873 ?_
  obtain ⟨hob, k1, n1, hk1, hn1, hw⟩ := hw
  have hW : gW D (fun q => s.heap.size ≤ q) s.heap (hC (rcells (u.2.1 0) (u.2.1 1) ad M []) S) H locs := hW
  refine h_goi C0 hW (va_runV (As := [.int (xs (x3 + 1).toNatClampNeg)]) (rest := []) ⟨hx, hb, hml, ho, hts⟩ (k_X9_names (l := l) (u := u) (X := rcells (u.2.1 0) (u.2.1 1) ad M []) (sz := H.size) _ d0 (xs (x3 + 1).toNatClampNeg) S k1 n1 hw) (cwV 1 hts gL_law_X9_names rfl rfl rfl (by decide +kernel) ⟨Nat.le_of_ble_eq_true rfl, Nat.le_of_ble_eq_true rfl⟩) ⟨h_blind, (h_recv C0 hW (ci := 10) rfl hob), (h_pre C0 hW [.ref d0, .int (xs (x3 + 1).toNatClampNeg)])⟩ rfl rfl hl.1 rfl (lv_room (Nat.le_of_ble_eq_true rfl)) dL_law_874 ⟨by show _ ≤ 600000; omega, by show _ ≤ 7302249; omega⟩) (fun r1 S1 H locs h1 hW => ?_)
  replace hw := h1
  have hkn : (k + k1) + (mc - k1) ≤ 600000 ∧ (n + n1) + (ms - n1) ≤ 7302249 := by omega
  have hW : gW D (fun q => s.heap.size ≤ q) s.heap (rcells (u.2.1 0) (u.2.1 1) ad M (va_pl S1.1 S1.2)) H locs := hW
  refine lv_aload_n hx hb dL_law_877 rfl (lv_at hl 2 rfl) ?_
  refine lv_aload_n hx hb dL_law_878 rfl (lv_at hl 0 rfl) ?_
  refine lv_iload_n hx hb dL_law_879 rfl (lv_at hl 3 rfl) ?_
  refine lv_iconst (v := 1) hx hb dL_law_880 (by decide) ?_
  refine lv_iadd hx hb dL_law_881 ?_
  obtain ⟨hb1, hw⟩ := hw
  refine va_sld hx hb hXs hbl hbA hW.2.2 hb1 dL_law_882 ?_
  refine g_calli (cw0 := fun M => rcells (u.2.1 0) (u.2.1 1) ad M (va_pl S1.1 S1.2)) (M := M) (As := [.int (xs (x3 + 1).toNatClampNeg)]) (rest := [.int r1]) C0.1 hW hl.1 (k_names (l := l) _ (xs (x3 + 1).toNatClampNeg) _ hw) (cwV 1 hts gL_law_X10_names rfl rfl rfl (by decide +kernel) ⟨Nat.le_of_ble_eq_true rfl, Nat.le_of_ble_eq_true rfl⟩) (va_recv (q := (RX10, TX10, 21)) hK hW.1 (ci := 11) (q0 := 0) rfl rfl) (Nat.le_of_ble_eq_true rfl) dL_law_883 rfl ⟨by show _ ≤ 600000; omega, by show _ ≤ 7302249; omega⟩ (fun r2 M1 H locs h3 hW => ?_)
  replace hw := h3
  refine lv_icmp_eq (tgt := 1680) hx hb dL_law_886 (by decide) (fun c1 => ?_) (fun c1 => ?_)
  · have hkn : ((k + k1) + 0) + (mc - k1) ≤ 600000 ∧ ((n + n1) + 0) + (ms - n1) ≤ 7302249 := by omega
    exact hKK x3 S1 M1 (mc - k1) (ms - n1) _ _ hkn (hw.1 c1) _ _ _ hW hl
  · exact (hw.2 c1).elim
def w_law_c23 (u : hU) (d0 L : Nat) (xs : Nat → Int32) (K : Int32 → hS → RM → Nat → Nat → Prop) (x3 : Int32) (S : hS) (M : RM) (mc ms : Nat) : Prop := (vp_in (x3 + 1) L ∧ (vp_in (x3 + 2) L ∧ (vp_in (x3 + 3) L ∧ ((∃ fs, rO S d0 10 fs) ∧ (∃ k1 n1 : Nat, k1 ≤ mc ∧ n1 ≤ ms ∧ w_X9_name u (fun r1 S1 => (vp_in (x3 + 1) L ∧ (vp_in (x3 + 2) L ∧ (vp_in (x3 + 3) L ∧ (w_name (fun r2 M1 => ((r1 = r2 → K x3 S1 M1 (mc - k1) (ms - n1)) ∧ (¬ r1 = r2 → False))) (xs (x3 + 1).toNatClampNeg) (xs (x3 + 2).toNatClampNeg) (xs (x3 + 3).toNatClampNeg) M))))) d0 (xs (x3 + 1).toNatClampNeg) (xs (x3 + 2).toNatClampNeg) (xs (x3 + 3).toNatClampNeg) S k1 n1)))))
set_option maxHeartbeats 4000000 in
set_option maxRecDepth 100000 in
theorem t_law_c23 (C0 : hX p s m #[Value.ref b] c cL_law 4 RL wsL_law D (gt u.2.1) (fun q => s.heap.size ≤ q) u.1 u.2.2) (hXs : va_X b L xs s s.heap) (hbl : b < s.heap.size) (K : Int32 → hS → RM → Nat → Nat → Prop) (hKK : ∀ (x3 : Int32) (S : hS) (M : RM) (mc ms k n : Nat), k + mc ≤ 600000 ∧ n + ms ≤ 7302249 → K x3 S M mc ms → gG p l e room_1 s m #[Value.ref b] below meth c Q D (fun q => s.heap.size ≤ q) 4 k n (rcells (u.2.1 0) (u.2.1 1) ad M (va_pl S.1 S.2)) 1680 [(0, .ref b), (1, .ref d0), (2, .ref (ad 0)), (3, .int x3)] []) (x3 : Int32) (S : hS) (M : RM) (mc ms k n : Nat) (hkn : k + mc ≤ 600000 ∧ n + ms ≤ 7302249) (hw : w_law_c23 u d0 L xs K x3 S M mc ms) : gG p l e room_1 s m #[Value.ref b] below meth c Q D (fun q => s.heap.size ≤ q) 4 k n (rcells (u.2.1 0) (u.2.1 1) ad M (va_pl S.1 S.2)) 891 [(0, .ref b), (1, .ref d0), (2, .ref (ad 0)), (3, .int x3)] [] := by
  obtain ⟨⟨hx, hb, hml, ho, hts, hK, hA⟩, hR⟩ := id C0
  have hbA : ¬ (fun q : Nat => s.heap.size ≤ q) b := Nat.not_le.mpr hbl
  intro H locs ls hW hl
  rw [w_law_c23] at hw
  refine lv_aload_n hx hb dL_law_891 rfl (lv_at hl 1 rfl) ?_
  refine lv_aload_n hx hb dL_law_892 rfl (lv_at hl 0 rfl) ?_
  refine lv_iload_n hx hb dL_law_893 rfl (lv_at hl 3 rfl) ?_
  refine lv_iconst (v := 1) hx hb dL_law_894 (by decide) ?_
  refine lv_iadd hx hb dL_law_895 ?_
  obtain ⟨ha1, hw⟩ := hw
  refine va_sld hx hb hXs hbl hbA hW.2.2 ha1 dL_law_896 ?_
  refine lv_aload_n hx hb dL_law_897 rfl (lv_at hl 0 rfl) ?_
  refine lv_iload_n hx hb dL_law_898 rfl (lv_at hl 3 rfl) ?_
  refine lv_iconst (v := 2) hx hb dL_law_899 (by decide) ?_
  refine lv_iadd hx hb dL_law_900 ?_
  obtain ⟨ha2, hw⟩ := hw
  refine va_sld hx hb hXs hbl hbA hW.2.2 ha2 dL_law_901 ?_
  refine lv_aload_n hx hb dL_law_902 rfl (lv_at hl 0 rfl) ?_
  refine lv_iload_n hx hb dL_law_903 rfl (lv_at hl 3 rfl) ?_
  refine lv_iconst (v := 3) hx hb dL_law_904 (by decide) ?_
  refine lv_iadd hx hb dL_law_905 ?_
  obtain ⟨ha3, hw⟩ := hw
  refine va_sld hx hb hXs hbl hbA hW.2.2 ha3 dL_law_906 ?_
  obtain ⟨hob, k1, n1, hk1, hn1, hw⟩ := hw
  have hW : gW D (fun q => s.heap.size ≤ q) s.heap (hC (rcells (u.2.1 0) (u.2.1 1) ad M []) S) H locs := hW
  refine h_goi C0 hW (va_runV (As := [.int (xs (x3 + 1).toNatClampNeg), .int (xs (x3 + 2).toNatClampNeg), .int (xs (x3 + 3).toNatClampNeg)]) (rest := []) ⟨hx, hb, hml, ho, hts⟩ (k_X9_name (l := l) (u := u) (X := rcells (u.2.1 0) (u.2.1 1) ad M []) (sz := H.size) _ d0 (xs (x3 + 1).toNatClampNeg) (xs (x3 + 2).toNatClampNeg) (xs (x3 + 3).toNatClampNeg) S k1 n1 hw) (cwV 3 hts gL_law_X9_name rfl rfl rfl (by decide +kernel) ⟨Nat.le_of_ble_eq_true rfl, Nat.le_of_ble_eq_true rfl⟩) ⟨h_blind, (h_recv C0 hW (ci := 10) rfl hob), (h_pre C0 hW [.ref d0, .int (xs (x3 + 1).toNatClampNeg), .int (xs (x3 + 2).toNatClampNeg), .int (xs (x3 + 3).toNatClampNeg)])⟩ rfl rfl hl.1 rfl (lv_room (Nat.le_of_ble_eq_true rfl)) dL_law_907 ⟨by show _ ≤ 600000; omega, by show _ ≤ 7302249; omega⟩) (fun r1 S1 H locs h1 hW => ?_)
  replace hw := h1
  have hkn : (k + k1) + (mc - k1) ≤ 600000 ∧ (n + n1) + (ms - n1) ≤ 7302249 := by omega
  have hW : gW D (fun q => s.heap.size ≤ q) s.heap (rcells (u.2.1 0) (u.2.1 1) ad M (va_pl S1.1 S1.2)) H locs := hW
  refine lv_aload_n hx hb dL_law_910 rfl (lv_at hl 2 rfl) ?_
  refine lv_aload_n hx hb dL_law_911 rfl (lv_at hl 0 rfl) ?_
  refine lv_iload_n hx hb dL_law_912 rfl (lv_at hl 3 rfl) ?_
  refine lv_iconst (v := 1) hx hb dL_law_913 (by decide) ?_
  refine lv_iadd hx hb dL_law_914 ?_
  obtain ⟨hb1, hw⟩ := hw
  refine va_sld hx hb hXs hbl hbA hW.2.2 hb1 dL_law_915 ?_
  refine lv_aload_n hx hb dL_law_916 rfl (lv_at hl 0 rfl) ?_
  refine lv_iload_n hx hb dL_law_917 rfl (lv_at hl 3 rfl) ?_
  refine lv_iconst (v := 2) hx hb dL_law_918 (by decide) ?_
  refine lv_iadd hx hb dL_law_919 ?_
  obtain ⟨hb2, hw⟩ := hw
  refine va_sld hx hb hXs hbl hbA hW.2.2 hb2 dL_law_920 ?_
  refine lv_aload_n hx hb dL_law_921 rfl (lv_at hl 0 rfl) ?_
  refine lv_iload_n hx hb dL_law_922 rfl (lv_at hl 3 rfl) ?_
  refine lv_iconst (v := 3) hx hb dL_law_923 (by decide) ?_
  refine lv_iadd hx hb dL_law_924 ?_
  obtain ⟨hb3, hw⟩ := hw
  refine va_sld hx hb hXs hbl hbA hW.2.2 hb3 dL_law_925 ?_
  refine g_calli (cw0 := fun M => rcells (u.2.1 0) (u.2.1 1) ad M (va_pl S1.1 S1.2)) (M := M) (As := [.int (xs (x3 + 1).toNatClampNeg), .int (xs (x3 + 2).toNatClampNeg), .int (xs (x3 + 3).toNatClampNeg)]) (rest := [.int r1]) C0.1 hW hl.1 (k_name (l := l) _ (xs (x3 + 1).toNatClampNeg) (xs (x3 + 2).toNatClampNeg) (xs (x3 + 3).toNatClampNeg) _ hw) (cwV 3 hts gL_law_X10_name rfl rfl rfl (by decide +kernel) ⟨Nat.le_of_ble_eq_true rfl, Nat.le_of_ble_eq_true rfl⟩) (va_recv (q := (RX10, TX10, 21)) hK hW.1 (ci := 11) (q0 := 0) rfl rfl) (Nat.le_of_ble_eq_true rfl) dL_law_926 rfl ⟨by show _ ≤ 600000; omega, by show _ ≤ 7302249; omega⟩ (fun r2 M1 H locs h3 hW => ?_)
  replace hw := h3
  refine lv_icmp_eq (tgt := 1680) hx hb dL_law_929 (by decide) (fun c1 => ?_) (fun c1 => ?_)
  · have hkn : ((k + k1) + 0) + (mc - k1) ≤ 600000 ∧ ((n + n1) + 0) + (ms - n1) ≤ 7302249 := by omega
    exact hKK x3 S1 M1 (mc - k1) (ms - n1) _ _ hkn (hw.1 c1) _ _ _ hW hl
  · exact (hw.2 c1).elim
def w_law_c24 (u : hU) (d0 L : Nat) (xs : Nat → Int32) (K : Int32 → hS → RM → Nat → Nat → Prop) (x3 : Int32) (S : hS) (M : RM) (mc ms : Nat) : Prop := (vp_in (x3 + 1) L ∧ (vp_in (x3 + 2) L ∧ (vp_in (x3 + 3) L ∧ ((∃ fs, rO S d0 10 fs) ∧ w_X9_keyFrom u (fun r1 S1 => (vp_in (x3 + 1) L ∧ (vp_in (x3 + 2) L ∧ (vp_in (x3 + 3) L ∧ (w_keyFrom (fun r2 M1 => ((r1 = r2 → K x3 S1 M1 mc ms) ∧ (¬ r1 = r2 → False))) (xs (x3 + 1).toNatClampNeg) (xs (x3 + 2).toNatClampNeg) (xs (x3 + 3).toNatClampNeg) M))))) d0 (xs (x3 + 1).toNatClampNeg) (xs (x3 + 2).toNatClampNeg) (xs (x3 + 3).toNatClampNeg) S))))
set_option maxHeartbeats 4000000 in
set_option maxRecDepth 100000 in
theorem t_law_c24 (C0 : hX p s m #[Value.ref b] c cL_law 4 RL wsL_law D (gt u.2.1) (fun q => s.heap.size ≤ q) u.1 u.2.2) (hXs : va_X b L xs s s.heap) (hbl : b < s.heap.size) (K : Int32 → hS → RM → Nat → Nat → Prop) (hKK : ∀ (x3 : Int32) (S : hS) (M : RM) (mc ms k n : Nat), k + mc ≤ 600000 ∧ n + ms ≤ 7302249 → K x3 S M mc ms → gG p l e room_1 s m #[Value.ref b] below meth c Q D (fun q => s.heap.size ≤ q) 4 k n (rcells (u.2.1 0) (u.2.1 1) ad M (va_pl S.1 S.2)) 1680 [(0, .ref b), (1, .ref d0), (2, .ref (ad 0)), (3, .int x3)] []) (x3 : Int32) (S : hS) (M : RM) (mc ms k n : Nat) (hkn : k + mc ≤ 600000 ∧ n + ms ≤ 7302249) (hw : w_law_c24 u d0 L xs K x3 S M mc ms) : gG p l e room_1 s m #[Value.ref b] below meth c Q D (fun q => s.heap.size ≤ q) 4 k n (rcells (u.2.1 0) (u.2.1 1) ad M (va_pl S.1 S.2)) 934 [(0, .ref b), (1, .ref d0), (2, .ref (ad 0)), (3, .int x3)] [] := by
  obtain ⟨⟨hx, hb, hml, ho, hts, hK, hA⟩, hR⟩ := id C0
  have hbA : ¬ (fun q : Nat => s.heap.size ≤ q) b := Nat.not_le.mpr hbl
  intro H locs ls hW hl
  rw [w_law_c24] at hw
  refine lv_aload_n hx hb dL_law_934 rfl (lv_at hl 1 rfl) ?_
  refine lv_aload_n hx hb dL_law_935 rfl (lv_at hl 0 rfl) ?_
  refine lv_iload_n hx hb dL_law_936 rfl (lv_at hl 3 rfl) ?_
  refine lv_iconst (v := 1) hx hb dL_law_937 (by decide) ?_
  refine lv_iadd hx hb dL_law_938 ?_
  obtain ⟨ha1, hw⟩ := hw
  refine va_sld hx hb hXs hbl hbA hW.2.2 ha1 dL_law_939 ?_
  refine lv_aload_n hx hb dL_law_940 rfl (lv_at hl 0 rfl) ?_
  refine lv_iload_n hx hb dL_law_941 rfl (lv_at hl 3 rfl) ?_
  refine lv_iconst (v := 2) hx hb dL_law_942 (by decide) ?_
  refine lv_iadd hx hb dL_law_943 ?_
  obtain ⟨ha2, hw⟩ := hw
  refine va_sld hx hb hXs hbl hbA hW.2.2 ha2 dL_law_944 ?_
  refine lv_aload_n hx hb dL_law_945 rfl (lv_at hl 0 rfl) ?_
  refine lv_iload_n hx hb dL_law_946 rfl (lv_at hl 3 rfl) ?_
  refine lv_iconst (v := 3) hx hb dL_law_947 (by decide) ?_
  refine lv_iadd hx hb dL_law_948 ?_
  obtain ⟨ha3, hw⟩ := hw
  refine va_sld hx hb hXs hbl hbA hW.2.2 ha3 dL_law_949 ?_
  obtain ⟨hob, hw⟩ := hw
  have hW : gW D (fun q => s.heap.size ≤ q) s.heap (hC (rcells (u.2.1 0) (u.2.1 1) ad M []) S) H locs := hW
  refine h_goi C0 hW (va_runV (As := [.int (xs (x3 + 1).toNatClampNeg), .int (xs (x3 + 2).toNatClampNeg), .int (xs (x3 + 3).toNatClampNeg)]) (rest := []) ⟨hx, hb, hml, ho, hts⟩ (k_X9_keyFrom (l := l) (u := u) (X := rcells (u.2.1 0) (u.2.1 1) ad M []) (sz := H.size) _ d0 (xs (x3 + 1).toNatClampNeg) (xs (x3 + 2).toNatClampNeg) (xs (x3 + 3).toNatClampNeg) S  hw) (cwV 3 hts gL_law_X9_keyFrom rfl rfl rfl (by decide +kernel) ⟨Nat.le_of_ble_eq_true rfl, Nat.le_of_ble_eq_true rfl⟩) ⟨h_blind, (h_recv C0 hW (ci := 10) rfl hob), (h_pre C0 hW [.ref d0, .int (xs (x3 + 1).toNatClampNeg), .int (xs (x3 + 2).toNatClampNeg), .int (xs (x3 + 3).toNatClampNeg)])⟩ rfl rfl hl.1 rfl (lv_room (Nat.le_of_ble_eq_true rfl)) dL_law_950 ⟨by show _ ≤ 600000; omega, by show _ ≤ 7302249; omega⟩) (fun r1 S1 H locs h1 hW => ?_)
  replace hw := h1
  have hkn : (k + 0) + mc ≤ 600000 ∧ (n + 0) + ms ≤ 7302249 := by omega
  have hW : gW D (fun q => s.heap.size ≤ q) s.heap (rcells (u.2.1 0) (u.2.1 1) ad M (va_pl S1.1 S1.2)) H locs := hW
  refine lv_aload_n hx hb dL_law_953 rfl (lv_at hl 2 rfl) ?_
  refine lv_aload_n hx hb dL_law_954 rfl (lv_at hl 0 rfl) ?_
  refine lv_iload_n hx hb dL_law_955 rfl (lv_at hl 3 rfl) ?_
  refine lv_iconst (v := 1) hx hb dL_law_956 (by decide) ?_
  refine lv_iadd hx hb dL_law_957 ?_
  obtain ⟨hb1, hw⟩ := hw
  refine va_sld hx hb hXs hbl hbA hW.2.2 hb1 dL_law_958 ?_
  refine lv_aload_n hx hb dL_law_959 rfl (lv_at hl 0 rfl) ?_
  refine lv_iload_n hx hb dL_law_960 rfl (lv_at hl 3 rfl) ?_
  refine lv_iconst (v := 2) hx hb dL_law_961 (by decide) ?_
  refine lv_iadd hx hb dL_law_962 ?_
  obtain ⟨hb2, hw⟩ := hw
  refine va_sld hx hb hXs hbl hbA hW.2.2 hb2 dL_law_963 ?_
  refine lv_aload_n hx hb dL_law_964 rfl (lv_at hl 0 rfl) ?_
  refine lv_iload_n hx hb dL_law_965 rfl (lv_at hl 3 rfl) ?_
  refine lv_iconst (v := 3) hx hb dL_law_966 (by decide) ?_
  refine lv_iadd hx hb dL_law_967 ?_
  obtain ⟨hb3, hw⟩ := hw
  refine va_sld hx hb hXs hbl hbA hW.2.2 hb3 dL_law_968 ?_
  refine g_calli (cw0 := fun M => rcells (u.2.1 0) (u.2.1 1) ad M (va_pl S1.1 S1.2)) (M := M) (As := [.int (xs (x3 + 1).toNatClampNeg), .int (xs (x3 + 2).toNatClampNeg), .int (xs (x3 + 3).toNatClampNeg)]) (rest := [.int r1]) C0.1 hW hl.1 (k_keyFrom (l := l) _ (xs (x3 + 1).toNatClampNeg) (xs (x3 + 2).toNatClampNeg) (xs (x3 + 3).toNatClampNeg) _ hw) (cwV 3 hts gL_law_X10_keyFrom rfl rfl rfl (by decide +kernel) ⟨Nat.le_of_ble_eq_true rfl, Nat.le_of_ble_eq_true rfl⟩) (va_recv (q := (RX10, TX10, 21)) hK hW.1 (ci := 11) (q0 := 0) rfl rfl) (Nat.le_of_ble_eq_true rfl) dL_law_969 rfl ⟨by show _ ≤ 600000; omega, by show _ ≤ 7302249; omega⟩ (fun r2 M1 H locs h3 hW => ?_)
  replace hw := h3
  refine lv_icmp_eq (tgt := 1680) hx hb dL_law_972 (by decide) (fun c1 => ?_) (fun c1 => ?_)
  · have hkn : ((k + 0) + 0) + mc ≤ 600000 ∧ ((n + 0) + 0) + ms ≤ 7302249 := by omega
    exact hKK x3 S1 M1 mc ms _ _ hkn (hw.1 c1) _ _ _ hW hl
  · exact (hw.2 c1).elim
def w_law_c25 (u : hU) (d0 L : Nat) (xs : Nat → Int32) (K : Int32 → hS → RM → Nat → Nat → Prop) (x3 : Int32) (S : hS) (M : RM) (mc ms : Nat) : Prop := (vp_in (x3 + 1) L ∧ (vp_in (x3 + 2) L ∧ ((∃ fs, rO S d0 10 fs) ∧ w_X9_alike u (fun r1 => (vp_in (x3 + 1) L ∧ (vp_in (x3 + 2) L ∧ (w_alike (fun r2 M1 => ((r1 = r2 → K x3 S M1 mc ms) ∧ (¬ r1 = r2 → False))) (xs (x3 + 1).toNatClampNeg) (xs (x3 + 2).toNatClampNeg) M)))) d0 (xs (x3 + 1).toNatClampNeg) (xs (x3 + 2).toNatClampNeg) S)))
set_option maxHeartbeats 4000000 in
set_option maxRecDepth 100000 in
theorem t_law_c25 (C0 : hX p s m #[Value.ref b] c cL_law 4 RL wsL_law D (gt u.2.1) (fun q => s.heap.size ≤ q) u.1 u.2.2) (hXs : va_X b L xs s s.heap) (hbl : b < s.heap.size) (K : Int32 → hS → RM → Nat → Nat → Prop) (hKK : ∀ (x3 : Int32) (S : hS) (M : RM) (mc ms k n : Nat), k + mc ≤ 600000 ∧ n + ms ≤ 7302249 → K x3 S M mc ms → gG p l e room_1 s m #[Value.ref b] below meth c Q D (fun q => s.heap.size ≤ q) 4 k n (rcells (u.2.1 0) (u.2.1 1) ad M (va_pl S.1 S.2)) 1680 [(0, .ref b), (1, .ref d0), (2, .ref (ad 0)), (3, .int x3)] []) (x3 : Int32) (S : hS) (M : RM) (mc ms k n : Nat) (hkn : k + mc ≤ 600000 ∧ n + ms ≤ 7302249) (hw : w_law_c25 u d0 L xs K x3 S M mc ms) : gG p l e room_1 s m #[Value.ref b] below meth c Q D (fun q => s.heap.size ≤ q) 4 k n (rcells (u.2.1 0) (u.2.1 1) ad M (va_pl S.1 S.2)) 977 [(0, .ref b), (1, .ref d0), (2, .ref (ad 0)), (3, .int x3)] [] := by
  obtain ⟨⟨hx, hb, hml, ho, hts, hK, hA⟩, hR⟩ := id C0
  have hbA : ¬ (fun q : Nat => s.heap.size ≤ q) b := Nat.not_le.mpr hbl
  intro H locs ls hW hl
  rw [w_law_c25] at hw
  refine lv_aload_n hx hb dL_law_977 rfl (lv_at hl 1 rfl) ?_
  refine lv_aload_n hx hb dL_law_978 rfl (lv_at hl 0 rfl) ?_
  refine lv_iload_n hx hb dL_law_979 rfl (lv_at hl 3 rfl) ?_
  refine lv_iconst (v := 1) hx hb dL_law_980 (by decide) ?_
  refine lv_iadd hx hb dL_law_981 ?_
  obtain ⟨ha1, hw⟩ := hw
  refine va_sld hx hb hXs hbl hbA hW.2.2 ha1 dL_law_982 ?_
  refine lv_aload_n hx hb dL_law_983 rfl (lv_at hl 0 rfl) ?_
  refine lv_iload_n hx hb dL_law_984 rfl (lv_at hl 3 rfl) ?_
  refine lv_iconst (v := 2) hx hb dL_law_985 (by decide) ?_
  refine lv_iadd hx hb dL_law_986 ?_
  obtain ⟨ha2, hw⟩ := hw
  refine va_sld hx hb hXs hbl hbA hW.2.2 ha2 dL_law_987 ?_
  obtain ⟨hob, hw⟩ := hw
  have hW : gW D (fun q => s.heap.size ≤ q) s.heap (hC (rcells (u.2.1 0) (u.2.1 1) ad M []) S) H locs := hW
  refine h_goi C0 hW (va_runV (As := [.int (xs (x3 + 1).toNatClampNeg), .int (xs (x3 + 2).toNatClampNeg)]) (rest := []) ⟨hx, hb, hml, ho, hts⟩ (k_X9_alike (l := l) (u := u) (X := rcells (u.2.1 0) (u.2.1 1) ad M []) (sz := H.size) _ d0 (xs (x3 + 1).toNatClampNeg) (xs (x3 + 2).toNatClampNeg) S  hw) (cwV 2 hts gL_law_X9_alike rfl rfl rfl (by decide +kernel) ⟨Nat.le_of_ble_eq_true rfl, Nat.le_of_ble_eq_true rfl⟩) ⟨h_blind, (h_recv C0 hW (ci := 10) rfl hob), (h_pre C0 hW [.ref d0, .int (xs (x3 + 1).toNatClampNeg), .int (xs (x3 + 2).toNatClampNeg)])⟩ rfl rfl hl.1 rfl (lv_room (Nat.le_of_ble_eq_true rfl)) dL_law_988 ⟨by show _ ≤ 600000; omega, by show _ ≤ 7302249; omega⟩) (fun r1 S1 H locs h1 hW => ?_)
  obtain ⟨h2, hp⟩ := h1
  rw [h2] at hW
  replace hw := hp
  have hkn : (k + 0) + mc ≤ 600000 ∧ (n + 0) + ms ≤ 7302249 := by omega
  have hW : gW D (fun q => s.heap.size ≤ q) s.heap (rcells (u.2.1 0) (u.2.1 1) ad M (va_pl S.1 S.2)) H locs := hW
  refine lv_aload_n hx hb dL_law_991 rfl (lv_at hl 2 rfl) ?_
  refine lv_aload_n hx hb dL_law_992 rfl (lv_at hl 0 rfl) ?_
  refine lv_iload_n hx hb dL_law_993 rfl (lv_at hl 3 rfl) ?_
  refine lv_iconst (v := 1) hx hb dL_law_994 (by decide) ?_
  refine lv_iadd hx hb dL_law_995 ?_
  obtain ⟨hb1, hw⟩ := hw
  refine va_sld hx hb hXs hbl hbA hW.2.2 hb1 dL_law_996 ?_
  refine lv_aload_n hx hb dL_law_997 rfl (lv_at hl 0 rfl) ?_
  refine lv_iload_n hx hb dL_law_998 rfl (lv_at hl 3 rfl) ?_
  refine lv_iconst (v := 2) hx hb dL_law_999 (by decide) ?_
  refine lv_iadd hx hb dL_law_1000 ?_
  obtain ⟨hb2, hw⟩ := hw
  refine va_sld hx hb hXs hbl hbA hW.2.2 hb2 dL_law_1001 ?_
  refine g_calli (cw0 := fun M => rcells (u.2.1 0) (u.2.1 1) ad M (va_pl S.1 S.2)) (M := M) (As := [.int (xs (x3 + 1).toNatClampNeg), .int (xs (x3 + 2).toNatClampNeg)]) (rest := [.int r1]) C0.1 hW hl.1 (k_alike (l := l) _ (xs (x3 + 1).toNatClampNeg) (xs (x3 + 2).toNatClampNeg) _ hw) (cwV 2 hts gL_law_X10_alike rfl rfl rfl (by decide +kernel) ⟨Nat.le_of_ble_eq_true rfl, Nat.le_of_ble_eq_true rfl⟩) (va_recv (q := (RX10, TX10, 21)) hK hW.1 (ci := 11) (q0 := 0) rfl rfl) (Nat.le_of_ble_eq_true rfl) dL_law_1002 rfl ⟨by show _ ≤ 600000; omega, by show _ ≤ 7302249; omega⟩ (fun r2 M1 H locs h3 hW => ?_)
  replace hw := h3
  refine lv_icmp_eq (tgt := 1680) hx hb dL_law_1005 (by decide) (fun c1 => ?_) (fun c1 => ?_)
  · have hkn : ((k + 0) + 0) + mc ≤ 600000 ∧ ((n + 0) + 0) + ms ≤ 7302249 := by omega
    exact hKK x3 S M1 mc ms _ _ hkn (hw.1 c1) _ _ _ hW hl
  · exact (hw.2 c1).elim
def w_law_c26 (u : hU) (d0 L : Nat) (xs : Nat → Int32) (K : Int32 → hS → RM → Nat → Nat → Prop) (x3 : Int32) (S : hS) (M : RM) (mc ms : Nat) : Prop := (vp_in (x3 + 1) L ∧ ((∃ fs, rO S d0 10 fs) ∧ w_X9_digest u (fun r1 => (vp_in (x3 + 1) L ∧ (w_digest (fun r2 M1 => ((r1 = r2 → K x3 S M1 mc ms) ∧ (¬ r1 = r2 → False))) (xs (x3 + 1).toNatClampNeg) M))) d0 (xs (x3 + 1).toNatClampNeg) S))
set_option maxHeartbeats 4000000 in
set_option maxRecDepth 100000 in
theorem t_law_c26 (C0 : hX p s m #[Value.ref b] c cL_law 4 RL wsL_law D (gt u.2.1) (fun q => s.heap.size ≤ q) u.1 u.2.2) (hXs : va_X b L xs s s.heap) (hbl : b < s.heap.size) (K : Int32 → hS → RM → Nat → Nat → Prop) (hKK : ∀ (x3 : Int32) (S : hS) (M : RM) (mc ms k n : Nat), k + mc ≤ 600000 ∧ n + ms ≤ 7302249 → K x3 S M mc ms → gG p l e room_1 s m #[Value.ref b] below meth c Q D (fun q => s.heap.size ≤ q) 4 k n (rcells (u.2.1 0) (u.2.1 1) ad M (va_pl S.1 S.2)) 1680 [(0, .ref b), (1, .ref d0), (2, .ref (ad 0)), (3, .int x3)] []) (x3 : Int32) (S : hS) (M : RM) (mc ms k n : Nat) (hkn : k + mc ≤ 600000 ∧ n + ms ≤ 7302249) (hw : w_law_c26 u d0 L xs K x3 S M mc ms) : gG p l e room_1 s m #[Value.ref b] below meth c Q D (fun q => s.heap.size ≤ q) 4 k n (rcells (u.2.1 0) (u.2.1 1) ad M (va_pl S.1 S.2)) 1010 [(0, .ref b), (1, .ref d0), (2, .ref (ad 0)), (3, .int x3)] [] := by
  obtain ⟨⟨hx, hb, hml, ho, hts, hK, hA⟩, hR⟩ := id C0
  have hbA : ¬ (fun q : Nat => s.heap.size ≤ q) b := Nat.not_le.mpr hbl
  intro H locs ls hW hl
  rw [w_law_c26] at hw
  refine lv_aload_n hx hb dL_law_1010 rfl (lv_at hl 1 rfl) ?_
  refine lv_aload_n hx hb dL_law_1011 rfl (lv_at hl 0 rfl) ?_
  refine lv_iload_n hx hb dL_law_1012 rfl (lv_at hl 3 rfl) ?_
  refine lv_iconst (v := 1) hx hb dL_law_1013 (by decide) ?_
  refine lv_iadd hx hb dL_law_1014 ?_
  obtain ⟨ha1, hw⟩ := hw
  refine va_sld hx hb hXs hbl hbA hW.2.2 ha1 dL_law_1015 ?_
  obtain ⟨hob, hw⟩ := hw
  have hW : gW D (fun q => s.heap.size ≤ q) s.heap (hC (rcells (u.2.1 0) (u.2.1 1) ad M []) S) H locs := hW
  refine h_goi C0 hW (va_runV (As := [.int (xs (x3 + 1).toNatClampNeg)]) (rest := []) ⟨hx, hb, hml, ho, hts⟩ (k_X9_digest (l := l) (u := u) (X := rcells (u.2.1 0) (u.2.1 1) ad M []) (sz := H.size) _ d0 (xs (x3 + 1).toNatClampNeg) S  hw) (cwV 1 hts gL_law_X9_digest rfl rfl rfl (by decide +kernel) ⟨Nat.le_of_ble_eq_true rfl, Nat.le_of_ble_eq_true rfl⟩) ⟨h_blind, (h_recv C0 hW (ci := 10) rfl hob), (h_pre C0 hW [.ref d0, .int (xs (x3 + 1).toNatClampNeg)])⟩ rfl rfl hl.1 rfl (lv_room (Nat.le_of_ble_eq_true rfl)) dL_law_1016 ⟨by show _ ≤ 600000; omega, by show _ ≤ 7302249; omega⟩) (fun r1 S1 H locs h1 hW => ?_)
  obtain ⟨h2, hp⟩ := h1
  rw [h2] at hW
  replace hw := hp
  have hkn : (k + 0) + mc ≤ 600000 ∧ (n + 0) + ms ≤ 7302249 := by omega
  have hW : gW D (fun q => s.heap.size ≤ q) s.heap (rcells (u.2.1 0) (u.2.1 1) ad M (va_pl S.1 S.2)) H locs := hW
  refine lv_aload_n hx hb dL_law_1019 rfl (lv_at hl 2 rfl) ?_
  refine lv_aload_n hx hb dL_law_1020 rfl (lv_at hl 0 rfl) ?_
  refine lv_iload_n hx hb dL_law_1021 rfl (lv_at hl 3 rfl) ?_
  refine lv_iconst (v := 1) hx hb dL_law_1022 (by decide) ?_
  refine lv_iadd hx hb dL_law_1023 ?_
  obtain ⟨hb1, hw⟩ := hw
  refine va_sld hx hb hXs hbl hbA hW.2.2 hb1 dL_law_1024 ?_
  refine g_calli (cw0 := fun M => rcells (u.2.1 0) (u.2.1 1) ad M (va_pl S.1 S.2)) (M := M) (As := [.int (xs (x3 + 1).toNatClampNeg)]) (rest := [.int r1]) C0.1 hW hl.1 (k_digest (l := l) _ (xs (x3 + 1).toNatClampNeg) _ hw) (cwV 1 hts gL_law_X10_digest rfl rfl rfl (by decide +kernel) ⟨Nat.le_of_ble_eq_true rfl, Nat.le_of_ble_eq_true rfl⟩) (va_recv (q := (RX10, TX10, 21)) hK hW.1 (ci := 11) (q0 := 0) rfl rfl) (Nat.le_of_ble_eq_true rfl) dL_law_1025 rfl ⟨by show _ ≤ 600000; omega, by show _ ≤ 7302249; omega⟩ (fun r2 M1 H locs h3 hW => ?_)
  replace hw := h3
  refine lv_icmp_eq (tgt := 1680) hx hb dL_law_1028 (by decide) (fun c1 => ?_) (fun c1 => ?_)
  · have hkn : ((k + 0) + 0) + mc ≤ 600000 ∧ ((n + 0) + 0) + ms ≤ 7302249 := by omega
    exact hKK x3 S M1 mc ms _ _ hkn (hw.1 c1) _ _ _ hW hl
  · exact (hw.2 c1).elim
def w_law_c27 (u : hU) (d0 L : Nat) (xs : Nat → Int32) (K : Int32 → hS → RM → Nat → Nat → Prop) (x3 : Int32) (S : hS) (M : RM) (mc ms : Nat) : Prop := (vp_in (x3 + 1) L ∧ (vp_in (x3 + 2) L ∧ ((∃ fs, rO S d0 10 fs) ∧ (∃ k1 n1 : Nat, k1 ≤ mc ∧ n1 ≤ ms ∧ w_X9_tokenize u (fun r1 S1 => (vp_in (x3 + 1) L ∧ (vp_in (x3 + 2) L ∧ (w_tokenize (fun r2 M1 => ((r1 = r2 → K x3 S1 M1 (mc - k1) (ms - n1)) ∧ (¬ r1 = r2 → False))) (xs (x3 + 1).toNatClampNeg) (xs (x3 + 2).toNatClampNeg) M)))) d0 (xs (x3 + 1).toNatClampNeg) (xs (x3 + 2).toNatClampNeg) S k1 n1))))
set_option maxHeartbeats 4000000 in
set_option maxRecDepth 100000 in
theorem t_law_c27 (C0 : hX p s m #[Value.ref b] c cL_law 4 RL wsL_law D (gt u.2.1) (fun q => s.heap.size ≤ q) u.1 u.2.2) (hXs : va_X b L xs s s.heap) (hbl : b < s.heap.size) (K : Int32 → hS → RM → Nat → Nat → Prop) (hKK : ∀ (x3 : Int32) (S : hS) (M : RM) (mc ms k n : Nat), k + mc ≤ 600000 ∧ n + ms ≤ 7302249 → K x3 S M mc ms → gG p l e room_1 s m #[Value.ref b] below meth c Q D (fun q => s.heap.size ≤ q) 4 k n (rcells (u.2.1 0) (u.2.1 1) ad M (va_pl S.1 S.2)) 1680 [(0, .ref b), (1, .ref d0), (2, .ref (ad 0)), (3, .int x3)] []) (x3 : Int32) (S : hS) (M : RM) (mc ms k n : Nat) (hkn : k + mc ≤ 600000 ∧ n + ms ≤ 7302249) (hw : w_law_c27 u d0 L xs K x3 S M mc ms) : gG p l e room_1 s m #[Value.ref b] below meth c Q D (fun q => s.heap.size ≤ q) 4 k n (rcells (u.2.1 0) (u.2.1 1) ad M (va_pl S.1 S.2)) 1033 [(0, .ref b), (1, .ref d0), (2, .ref (ad 0)), (3, .int x3)] [] := by
  obtain ⟨⟨hx, hb, hml, ho, hts, hK, hA⟩, hR⟩ := id C0
  have hbA : ¬ (fun q : Nat => s.heap.size ≤ q) b := Nat.not_le.mpr hbl
  intro H locs ls hW hl
  rw [w_law_c27] at hw
  refine lv_aload_n hx hb dL_law_1033 rfl (lv_at hl 1 rfl) ?_
  refine lv_aload_n hx hb dL_law_1034 rfl (lv_at hl 0 rfl) ?_
  refine lv_iload_n hx hb dL_law_1035 rfl (lv_at hl 3 rfl) ?_
  refine lv_iconst (v := 1) hx hb dL_law_1036 (by decide) ?_
  refine lv_iadd hx hb dL_law_1037 ?_
  obtain ⟨ha1, hw⟩ := hw
  refine va_sld hx hb hXs hbl hbA hW.2.2 ha1 dL_law_1038 ?_
  refine lv_aload_n hx hb dL_law_1039 rfl (lv_at hl 0 rfl) ?_
  refine lv_iload_n hx hb dL_law_1040 rfl (lv_at hl 3 rfl) ?_
  refine lv_iconst (v := 2) hx hb dL_law_1041 (by decide) ?_
  refine lv_iadd hx hb dL_law_1042 ?_
  obtain ⟨ha2, hw⟩ := hw
  refine va_sld hx hb hXs hbl hbA hW.2.2 ha2 dL_law_1043 ?_
  obtain ⟨hob, k1, n1, hk1, hn1, hw⟩ := hw
  have hW : gW D (fun q => s.heap.size ≤ q) s.heap (hC (rcells (u.2.1 0) (u.2.1 1) ad M []) S) H locs := hW
  refine h_goi C0 hW (va_runV (As := [.int (xs (x3 + 1).toNatClampNeg), .int (xs (x3 + 2).toNatClampNeg)]) (rest := []) ⟨hx, hb, hml, ho, hts⟩ (k_X9_tokenize (l := l) (u := u) (X := rcells (u.2.1 0) (u.2.1 1) ad M []) (sz := H.size) _ d0 (xs (x3 + 1).toNatClampNeg) (xs (x3 + 2).toNatClampNeg) S k1 n1 hw) (cwV 2 hts gL_law_X9_tokenize rfl rfl rfl (by decide +kernel) ⟨Nat.le_of_ble_eq_true rfl, Nat.le_of_ble_eq_true rfl⟩) ⟨h_blind, (h_recv C0 hW (ci := 10) rfl hob), (h_pre C0 hW [.ref d0, .int (xs (x3 + 1).toNatClampNeg), .int (xs (x3 + 2).toNatClampNeg)])⟩ rfl rfl hl.1 rfl (lv_room (Nat.le_of_ble_eq_true rfl)) dL_law_1044 ⟨by show _ ≤ 600000; omega, by show _ ≤ 7302249; omega⟩) (fun r1 S1 H locs h1 hW => ?_)
  replace hw := h1
  have hkn : (k + k1) + (mc - k1) ≤ 600000 ∧ (n + n1) + (ms - n1) ≤ 7302249 := by omega
  have hW : gW D (fun q => s.heap.size ≤ q) s.heap (rcells (u.2.1 0) (u.2.1 1) ad M (va_pl S1.1 S1.2)) H locs := hW
  refine lv_aload_n hx hb dL_law_1047 rfl (lv_at hl 2 rfl) ?_
  refine lv_aload_n hx hb dL_law_1048 rfl (lv_at hl 0 rfl) ?_
  refine lv_iload_n hx hb dL_law_1049 rfl (lv_at hl 3 rfl) ?_
  refine lv_iconst (v := 1) hx hb dL_law_1050 (by decide) ?_
  refine lv_iadd hx hb dL_law_1051 ?_
  obtain ⟨hb1, hw⟩ := hw
  refine va_sld hx hb hXs hbl hbA hW.2.2 hb1 dL_law_1052 ?_
  refine lv_aload_n hx hb dL_law_1053 rfl (lv_at hl 0 rfl) ?_
  refine lv_iload_n hx hb dL_law_1054 rfl (lv_at hl 3 rfl) ?_
  refine lv_iconst (v := 2) hx hb dL_law_1055 (by decide) ?_
  refine lv_iadd hx hb dL_law_1056 ?_
  obtain ⟨hb2, hw⟩ := hw
  refine va_sld hx hb hXs hbl hbA hW.2.2 hb2 dL_law_1057 ?_
  refine g_calli (cw0 := fun M => rcells (u.2.1 0) (u.2.1 1) ad M (va_pl S1.1 S1.2)) (M := M) (As := [.int (xs (x3 + 1).toNatClampNeg), .int (xs (x3 + 2).toNatClampNeg)]) (rest := [.int r1]) C0.1 hW hl.1 (k_tokenize (l := l) _ (xs (x3 + 1).toNatClampNeg) (xs (x3 + 2).toNatClampNeg) _ hw) (cwV 2 hts gL_law_X10_tokenize rfl rfl rfl (by decide +kernel) ⟨Nat.le_of_ble_eq_true rfl, Nat.le_of_ble_eq_true rfl⟩) (va_recv (q := (RX10, TX10, 21)) hK hW.1 (ci := 11) (q0 := 0) rfl rfl) (Nat.le_of_ble_eq_true rfl) dL_law_1058 rfl ⟨by show _ ≤ 600000; omega, by show _ ≤ 7302249; omega⟩ (fun r2 M1 H locs h3 hW => ?_)
  replace hw := h3
  refine lv_icmp_eq (tgt := 1680) hx hb dL_law_1061 (by decide) (fun c1 => ?_) (fun c1 => ?_)
  · have hkn : ((k + k1) + 0) + (mc - k1) ≤ 600000 ∧ ((n + n1) + 0) + (ms - n1) ≤ 7302249 := by omega
    exact hKK x3 S1 M1 (mc - k1) (ms - n1) _ _ hkn (hw.1 c1) _ _ _ hW hl
  · exact (hw.2 c1).elim
def w_law_c28 (u : hU) (d0 L : Nat) (xs : Nat → Int32) (K : Int32 → hS → RM → Nat → Nat → Prop) (x3 : Int32) (S : hS) (M : RM) (mc ms : Nat) : Prop := (vp_in (x3 + 1) L ∧ (vp_in (x3 + 2) L ∧ (vp_in (x3 + 3) L ∧ ((∃ fs, rO S d0 10 fs) ∧ (∃ k1 n1 : Nat, k1 ≤ mc ∧ n1 ≤ ms ∧ w_X9_tokenizeBy u (fun r1 S1 => (vp_in (x3 + 1) L ∧ (vp_in (x3 + 2) L ∧ (vp_in (x3 + 3) L ∧ (w_tokenizeBy (fun r2 M1 => ((r1 = r2 → K x3 S1 M1 (mc - k1) (ms - n1)) ∧ (¬ r1 = r2 → False))) (xs (x3 + 1).toNatClampNeg) (xs (x3 + 2).toNatClampNeg) (xs (x3 + 3).toNatClampNeg) M))))) d0 (xs (x3 + 1).toNatClampNeg) (xs (x3 + 2).toNatClampNeg) (xs (x3 + 3).toNatClampNeg) S k1 n1)))))
set_option maxHeartbeats 4000000 in
set_option maxRecDepth 100000 in
theorem t_law_c28 (C0 : hX p s m #[Value.ref b] c cL_law 4 RL wsL_law D (gt u.2.1) (fun q => s.heap.size ≤ q) u.1 u.2.2) (hXs : va_X b L xs s s.heap) (hbl : b < s.heap.size) (K : Int32 → hS → RM → Nat → Nat → Prop) (hKK : ∀ (x3 : Int32) (S : hS) (M : RM) (mc ms k n : Nat), k + mc ≤ 600000 ∧ n + ms ≤ 7302249 → K x3 S M mc ms → gG p l e room_1 s m #[Value.ref b] below meth c Q D (fun q => s.heap.size ≤ q) 4 k n (rcells (u.2.1 0) (u.2.1 1) ad M (va_pl S.1 S.2)) 1680 [(0, .ref b), (1, .ref d0), (2, .ref (ad 0)), (3, .int x3)] []) (x3 : Int32) (S : hS) (M : RM) (mc ms k n : Nat) (hkn : k + mc ≤ 600000 ∧ n + ms ≤ 7302249) (hw : w_law_c28 u d0 L xs K x3 S M mc ms) : gG p l e room_1 s m #[Value.ref b] below meth c Q D (fun q => s.heap.size ≤ q) 4 k n (rcells (u.2.1 0) (u.2.1 1) ad M (va_pl S.1 S.2)) 1066 [(0, .ref b), (1, .ref d0), (2, .ref (ad 0)), (3, .int x3)] [] := by
  obtain ⟨⟨hx, hb, hml, ho, hts, hK, hA⟩, hR⟩ := id C0
  have hbA : ¬ (fun q : Nat => s.heap.size ≤ q) b := Nat.not_le.mpr hbl
  intro H locs ls hW hl
  rw [w_law_c28] at hw
  refine lv_aload_n hx hb dL_law_1066 rfl (lv_at hl 1 rfl) ?_
  refine lv_aload_n hx hb dL_law_1067 rfl (lv_at hl 0 rfl) ?_
  refine lv_iload_n hx hb dL_law_1068 rfl (lv_at hl 3 rfl) ?_
  refine lv_iconst (v := 1) hx hb dL_law_1069 (by decide) ?_
  refine lv_iadd hx hb dL_law_1070 ?_
  obtain ⟨ha1, hw⟩ := hw
  refine va_sld hx hb hXs hbl hbA hW.2.2 ha1 dL_law_1071 ?_
  refine lv_aload_n hx hb dL_law_1072 rfl (lv_at hl 0 rfl) ?_
  refine lv_iload_n hx hb dL_law_1073 rfl (lv_at hl 3 rfl) ?_
  refine lv_iconst (v := 2) hx hb dL_law_1074 (by decide) ?_
  refine lv_iadd hx hb dL_law_1075 ?_
  obtain ⟨ha2, hw⟩ := hw
  refine va_sld hx hb hXs hbl hbA hW.2.2 ha2 dL_law_1076 ?_
  refine lv_aload_n hx hb dL_law_1077 rfl (lv_at hl 0 rfl) ?_
  refine lv_iload_n hx hb dL_law_1078 rfl (lv_at hl 3 rfl) ?_
  refine lv_iconst (v := 3) hx hb dL_law_1079 (by decide) ?_
  refine lv_iadd hx hb dL_law_1080 ?_
  obtain ⟨ha3, hw⟩ := hw
  refine va_sld hx hb hXs hbl hbA hW.2.2 ha3 dL_law_1081 ?_
  obtain ⟨hob, k1, n1, hk1, hn1, hw⟩ := hw
  have hW : gW D (fun q => s.heap.size ≤ q) s.heap (hC (rcells (u.2.1 0) (u.2.1 1) ad M []) S) H locs := hW
  refine h_goi C0 hW (va_runV (As := [.int (xs (x3 + 1).toNatClampNeg), .int (xs (x3 + 2).toNatClampNeg), .int (xs (x3 + 3).toNatClampNeg)]) (rest := []) ⟨hx, hb, hml, ho, hts⟩ (k_X9_tokenizeBy (l := l) (u := u) (X := rcells (u.2.1 0) (u.2.1 1) ad M []) (sz := H.size) _ d0 (xs (x3 + 1).toNatClampNeg) (xs (x3 + 2).toNatClampNeg) (xs (x3 + 3).toNatClampNeg) S k1 n1 hw) (cwV 3 hts gL_law_X9_tokenizeBy rfl rfl rfl (by decide +kernel) ⟨Nat.le_of_ble_eq_true rfl, Nat.le_of_ble_eq_true rfl⟩) ⟨h_blind, (h_recv C0 hW (ci := 10) rfl hob), (h_pre C0 hW [.ref d0, .int (xs (x3 + 1).toNatClampNeg), .int (xs (x3 + 2).toNatClampNeg), .int (xs (x3 + 3).toNatClampNeg)])⟩ rfl rfl hl.1 rfl (lv_room (Nat.le_of_ble_eq_true rfl)) dL_law_1082 ⟨by show _ ≤ 600000; omega, by show _ ≤ 7302249; omega⟩) (fun r1 S1 H locs h1 hW => ?_)
  replace hw := h1
  have hkn : (k + k1) + (mc - k1) ≤ 600000 ∧ (n + n1) + (ms - n1) ≤ 7302249 := by omega
  have hW : gW D (fun q => s.heap.size ≤ q) s.heap (rcells (u.2.1 0) (u.2.1 1) ad M (va_pl S1.1 S1.2)) H locs := hW
  refine lv_aload_n hx hb dL_law_1085 rfl (lv_at hl 2 rfl) ?_
  refine lv_aload_n hx hb dL_law_1086 rfl (lv_at hl 0 rfl) ?_
  refine lv_iload_n hx hb dL_law_1087 rfl (lv_at hl 3 rfl) ?_
  refine lv_iconst (v := 1) hx hb dL_law_1088 (by decide) ?_
  refine lv_iadd hx hb dL_law_1089 ?_
  obtain ⟨hb1, hw⟩ := hw
  refine va_sld hx hb hXs hbl hbA hW.2.2 hb1 dL_law_1090 ?_
  refine lv_aload_n hx hb dL_law_1091 rfl (lv_at hl 0 rfl) ?_
  refine lv_iload_n hx hb dL_law_1092 rfl (lv_at hl 3 rfl) ?_
  refine lv_iconst (v := 2) hx hb dL_law_1093 (by decide) ?_
  refine lv_iadd hx hb dL_law_1094 ?_
  obtain ⟨hb2, hw⟩ := hw
  refine va_sld hx hb hXs hbl hbA hW.2.2 hb2 dL_law_1095 ?_
  refine lv_aload_n hx hb dL_law_1096 rfl (lv_at hl 0 rfl) ?_
  refine lv_iload_n hx hb dL_law_1097 rfl (lv_at hl 3 rfl) ?_
  refine lv_iconst (v := 3) hx hb dL_law_1098 (by decide) ?_
  refine lv_iadd hx hb dL_law_1099 ?_
  obtain ⟨hb3, hw⟩ := hw
  refine va_sld hx hb hXs hbl hbA hW.2.2 hb3 dL_law_1100 ?_
  refine g_calli (cw0 := fun M => rcells (u.2.1 0) (u.2.1 1) ad M (va_pl S1.1 S1.2)) (M := M) (As := [.int (xs (x3 + 1).toNatClampNeg), .int (xs (x3 + 2).toNatClampNeg), .int (xs (x3 + 3).toNatClampNeg)]) (rest := [.int r1]) C0.1 hW hl.1 (k_tokenizeBy (l := l) _ (xs (x3 + 1).toNatClampNeg) (xs (x3 + 2).toNatClampNeg) (xs (x3 + 3).toNatClampNeg) _ hw) (cwV 3 hts gL_law_X10_tokenizeBy rfl rfl rfl (by decide +kernel) ⟨Nat.le_of_ble_eq_true rfl, Nat.le_of_ble_eq_true rfl⟩) (va_recv (q := (RX10, TX10, 21)) hK hW.1 (ci := 11) (q0 := 0) rfl rfl) (Nat.le_of_ble_eq_true rfl) dL_law_1101 rfl ⟨by show _ ≤ 600000; omega, by show _ ≤ 7302249; omega⟩ (fun r2 M1 H locs h3 hW => ?_)
  replace hw := h3
  refine lv_icmp_eq (tgt := 1680) hx hb dL_law_1104 (by decide) (fun c1 => ?_) (fun c1 => ?_)
  · have hkn : ((k + k1) + 0) + (mc - k1) ≤ 600000 ∧ ((n + n1) + 0) + (ms - n1) ≤ 7302249 := by omega
    exact hKK x3 S1 M1 (mc - k1) (ms - n1) _ _ hkn (hw.1 c1) _ _ _ hW hl
  · exact (hw.2 c1).elim
def w_law_c29 (u : hU) (d0 L : Nat) (xs : Nat → Int32) (K : Int32 → hS → RM → Nat → Nat → Prop) (x3 : Int32) (S : hS) (M : RM) (mc ms : Nat) : Prop := (vp_in (x3 + 1) L ∧ (vp_in (x3 + 2) L ∧ (vp_in (x3 + 3) L ∧ ((∃ fs, rO S d0 10 fs) ∧ (∃ k1 n1 : Nat, k1 ≤ mc ∧ n1 ≤ ms ∧ w_X9_tokenizeAll u (fun r1 S1 => (vp_in (x3 + 1) L ∧ (vp_in (x3 + 2) L ∧ (vp_in (x3 + 3) L ∧ (w_tokenizeAll (fun r2 M1 => ((r1 = r2 → K x3 S1 M1 (mc - k1) (ms - n1)) ∧ (¬ r1 = r2 → False))) (xs (x3 + 1).toNatClampNeg) (xs (x3 + 2).toNatClampNeg) (xs (x3 + 3).toNatClampNeg) M))))) d0 (xs (x3 + 1).toNatClampNeg) (xs (x3 + 2).toNatClampNeg) (xs (x3 + 3).toNatClampNeg) S k1 n1)))))
set_option maxHeartbeats 4000000 in
set_option maxRecDepth 100000 in
theorem t_law_c29 (C0 : hX p s m #[Value.ref b] c cL_law 4 RL wsL_law D (gt u.2.1) (fun q => s.heap.size ≤ q) u.1 u.2.2) (hXs : va_X b L xs s s.heap) (hbl : b < s.heap.size) (K : Int32 → hS → RM → Nat → Nat → Prop) (hKK : ∀ (x3 : Int32) (S : hS) (M : RM) (mc ms k n : Nat), k + mc ≤ 600000 ∧ n + ms ≤ 7302249 → K x3 S M mc ms → gG p l e room_1 s m #[Value.ref b] below meth c Q D (fun q => s.heap.size ≤ q) 4 k n (rcells (u.2.1 0) (u.2.1 1) ad M (va_pl S.1 S.2)) 1680 [(0, .ref b), (1, .ref d0), (2, .ref (ad 0)), (3, .int x3)] []) (x3 : Int32) (S : hS) (M : RM) (mc ms k n : Nat) (hkn : k + mc ≤ 600000 ∧ n + ms ≤ 7302249) (hw : w_law_c29 u d0 L xs K x3 S M mc ms) : gG p l e room_1 s m #[Value.ref b] below meth c Q D (fun q => s.heap.size ≤ q) 4 k n (rcells (u.2.1 0) (u.2.1 1) ad M (va_pl S.1 S.2)) 1109 [(0, .ref b), (1, .ref d0), (2, .ref (ad 0)), (3, .int x3)] [] := by
  obtain ⟨⟨hx, hb, hml, ho, hts, hK, hA⟩, hR⟩ := id C0
  have hbA : ¬ (fun q : Nat => s.heap.size ≤ q) b := Nat.not_le.mpr hbl
  intro H locs ls hW hl
  rw [w_law_c29] at hw
  refine lv_aload_n hx hb dL_law_1109 rfl (lv_at hl 1 rfl) ?_
  refine lv_aload_n hx hb dL_law_1110 rfl (lv_at hl 0 rfl) ?_
  refine lv_iload_n hx hb dL_law_1111 rfl (lv_at hl 3 rfl) ?_
  refine lv_iconst (v := 1) hx hb dL_law_1112 (by decide) ?_
  refine lv_iadd hx hb dL_law_1113 ?_
  obtain ⟨ha1, hw⟩ := hw
  refine va_sld hx hb hXs hbl hbA hW.2.2 ha1 dL_law_1114 ?_
  refine lv_aload_n hx hb dL_law_1115 rfl (lv_at hl 0 rfl) ?_
  refine lv_iload_n hx hb dL_law_1116 rfl (lv_at hl 3 rfl) ?_
  refine lv_iconst (v := 2) hx hb dL_law_1117 (by decide) ?_
  refine lv_iadd hx hb dL_law_1118 ?_
  obtain ⟨ha2, hw⟩ := hw
  refine va_sld hx hb hXs hbl hbA hW.2.2 ha2 dL_law_1119 ?_
  refine lv_aload_n hx hb dL_law_1120 rfl (lv_at hl 0 rfl) ?_
  refine lv_iload_n hx hb dL_law_1121 rfl (lv_at hl 3 rfl) ?_
  refine lv_iconst (v := 3) hx hb dL_law_1122 (by decide) ?_
  refine lv_iadd hx hb dL_law_1123 ?_
  obtain ⟨ha3, hw⟩ := hw
  refine va_sld hx hb hXs hbl hbA hW.2.2 ha3 dL_law_1124 ?_
  obtain ⟨hob, k1, n1, hk1, hn1, hw⟩ := hw
  have hW : gW D (fun q => s.heap.size ≤ q) s.heap (hC (rcells (u.2.1 0) (u.2.1 1) ad M []) S) H locs := hW
  refine h_goi C0 hW (va_runV (As := [.int (xs (x3 + 1).toNatClampNeg), .int (xs (x3 + 2).toNatClampNeg), .int (xs (x3 + 3).toNatClampNeg)]) (rest := []) ⟨hx, hb, hml, ho, hts⟩ (k_X9_tokenizeAll (l := l) (u := u) (X := rcells (u.2.1 0) (u.2.1 1) ad M []) (sz := H.size) _ d0 (xs (x3 + 1).toNatClampNeg) (xs (x3 + 2).toNatClampNeg) (xs (x3 + 3).toNatClampNeg) S k1 n1 hw) (cwV 3 hts gL_law_X9_tokenizeAll rfl rfl rfl (by decide +kernel) ⟨Nat.le_of_ble_eq_true rfl, Nat.le_of_ble_eq_true rfl⟩) ⟨h_blind, (h_recv C0 hW (ci := 10) rfl hob), (h_pre C0 hW [.ref d0, .int (xs (x3 + 1).toNatClampNeg), .int (xs (x3 + 2).toNatClampNeg), .int (xs (x3 + 3).toNatClampNeg)])⟩ rfl rfl hl.1 rfl (lv_room (Nat.le_of_ble_eq_true rfl)) dL_law_1125 ⟨by show _ ≤ 600000; omega, by show _ ≤ 7302249; omega⟩) (fun r1 S1 H locs h1 hW => ?_)
  replace hw := h1
  have hkn : (k + k1) + (mc - k1) ≤ 600000 ∧ (n + n1) + (ms - n1) ≤ 7302249 := by omega
  have hW : gW D (fun q => s.heap.size ≤ q) s.heap (rcells (u.2.1 0) (u.2.1 1) ad M (va_pl S1.1 S1.2)) H locs := hW
  refine lv_aload_n hx hb dL_law_1128 rfl (lv_at hl 2 rfl) ?_
  refine lv_aload_n hx hb dL_law_1129 rfl (lv_at hl 0 rfl) ?_
  refine lv_iload_n hx hb dL_law_1130 rfl (lv_at hl 3 rfl) ?_
  refine lv_iconst (v := 1) hx hb dL_law_1131 (by decide) ?_
  refine lv_iadd hx hb dL_law_1132 ?_
  obtain ⟨hb1, hw⟩ := hw
  refine va_sld hx hb hXs hbl hbA hW.2.2 hb1 dL_law_1133 ?_
  refine lv_aload_n hx hb dL_law_1134 rfl (lv_at hl 0 rfl) ?_
  refine lv_iload_n hx hb dL_law_1135 rfl (lv_at hl 3 rfl) ?_
  refine lv_iconst (v := 2) hx hb dL_law_1136 (by decide) ?_
  refine lv_iadd hx hb dL_law_1137 ?_
  obtain ⟨hb2, hw⟩ := hw
  refine va_sld hx hb hXs hbl hbA hW.2.2 hb2 dL_law_1138 ?_
  refine lv_aload_n hx hb dL_law_1139 rfl (lv_at hl 0 rfl) ?_
  refine lv_iload_n hx hb dL_law_1140 rfl (lv_at hl 3 rfl) ?_
  refine lv_iconst (v := 3) hx hb dL_law_1141 (by decide) ?_
  refine lv_iadd hx hb dL_law_1142 ?_
  obtain ⟨hb3, hw⟩ := hw
  refine va_sld hx hb hXs hbl hbA hW.2.2 hb3 dL_law_1143 ?_
  refine g_calli (cw0 := fun M => rcells (u.2.1 0) (u.2.1 1) ad M (va_pl S1.1 S1.2)) (M := M) (As := [.int (xs (x3 + 1).toNatClampNeg), .int (xs (x3 + 2).toNatClampNeg), .int (xs (x3 + 3).toNatClampNeg)]) (rest := [.int r1]) C0.1 hW hl.1 (k_tokenizeAll (l := l) _ (xs (x3 + 1).toNatClampNeg) (xs (x3 + 2).toNatClampNeg) (xs (x3 + 3).toNatClampNeg) _ hw) (cwV 3 hts gL_law_X10_tokenizeAll rfl rfl rfl (by decide +kernel) ⟨Nat.le_of_ble_eq_true rfl, Nat.le_of_ble_eq_true rfl⟩) (va_recv (q := (RX10, TX10, 21)) hK hW.1 (ci := 11) (q0 := 0) rfl rfl) (Nat.le_of_ble_eq_true rfl) dL_law_1144 rfl ⟨by show _ ≤ 600000; omega, by show _ ≤ 7302249; omega⟩ (fun r2 M1 H locs h3 hW => ?_)
  replace hw := h3
  refine lv_icmp_eq (tgt := 1680) hx hb dL_law_1147 (by decide) (fun c1 => ?_) (fun c1 => ?_)
  · have hkn : ((k + k1) + 0) + (mc - k1) ≤ 600000 ∧ ((n + n1) + 0) + (ms - n1) ≤ 7302249 := by omega
    exact hKK x3 S1 M1 (mc - k1) (ms - n1) _ _ hkn (hw.1 c1) _ _ _ hW hl
  · exact (hw.2 c1).elim
def w_law_c30 (u : hU) (d0 L : Nat) (xs : Nat → Int32) (K : Int32 → hS → RM → Nat → Nat → Prop) (x3 : Int32) (S : hS) (M : RM) (mc ms : Nat) : Prop := (vp_in (x3 + 1) L ∧ (vp_in (x3 + 2) L ∧ (vp_in (x3 + 3) L ∧ (vp_in (x3 + 4) L ∧ ((∃ fs, rO S d0 10 fs) ∧ (∃ k1 n1 : Nat, k1 ≤ mc ∧ n1 ≤ ms ∧ w_X9_tokenizeValue u (fun r1 S1 => (vp_in (x3 + 1) L ∧ (vp_in (x3 + 2) L ∧ (vp_in (x3 + 3) L ∧ (vp_in (x3 + 4) L ∧ (w_tokenizeValue (fun r2 M1 => ((r1 = r2 → K x3 S1 M1 (mc - k1) (ms - n1)) ∧ (¬ r1 = r2 → False))) (xs (x3 + 1).toNatClampNeg) (xs (x3 + 2).toNatClampNeg) (xs (x3 + 3).toNatClampNeg) (xs (x3 + 4).toNatClampNeg) M)))))) d0 (xs (x3 + 1).toNatClampNeg) (xs (x3 + 2).toNatClampNeg) (xs (x3 + 3).toNatClampNeg) (xs (x3 + 4).toNatClampNeg) S k1 n1))))))
set_option maxHeartbeats 4000000 in
set_option maxRecDepth 100000 in
theorem t_law_c30 (C0 : hX p s m #[Value.ref b] c cL_law 4 RL wsL_law D (gt u.2.1) (fun q => s.heap.size ≤ q) u.1 u.2.2) (hXs : va_X b L xs s s.heap) (hbl : b < s.heap.size) (K : Int32 → hS → RM → Nat → Nat → Prop) (hKK : ∀ (x3 : Int32) (S : hS) (M : RM) (mc ms k n : Nat), k + mc ≤ 600000 ∧ n + ms ≤ 7302249 → K x3 S M mc ms → gG p l e room_1 s m #[Value.ref b] below meth c Q D (fun q => s.heap.size ≤ q) 4 k n (rcells (u.2.1 0) (u.2.1 1) ad M (va_pl S.1 S.2)) 1680 [(0, .ref b), (1, .ref d0), (2, .ref (ad 0)), (3, .int x3)] []) (x3 : Int32) (S : hS) (M : RM) (mc ms k n : Nat) (hkn : k + mc ≤ 600000 ∧ n + ms ≤ 7302249) (hw : w_law_c30 u d0 L xs K x3 S M mc ms) : gG p l e room_1 s m #[Value.ref b] below meth c Q D (fun q => s.heap.size ≤ q) 4 k n (rcells (u.2.1 0) (u.2.1 1) ad M (va_pl S.1 S.2)) 1152 [(0, .ref b), (1, .ref d0), (2, .ref (ad 0)), (3, .int x3)] [] := by
  obtain ⟨⟨hx, hb, hml, ho, hts, hK, hA⟩, hR⟩ := id C0
  have hbA : ¬ (fun q : Nat => s.heap.size ≤ q) b := Nat.not_le.mpr hbl
  intro H locs ls hW hl
  rw [w_law_c30] at hw
  refine lv_aload_n hx hb dL_law_1152 rfl (lv_at hl 1 rfl) ?_
  refine lv_aload_n hx hb dL_law_1153 rfl (lv_at hl 0 rfl) ?_
  refine lv_iload_n hx hb dL_law_1154 rfl (lv_at hl 3 rfl) ?_
  refine lv_iconst (v := 1) hx hb dL_law_1155 (by decide) ?_
  refine lv_iadd hx hb dL_law_1156 ?_
  obtain ⟨ha1, hw⟩ := hw
  refine va_sld hx hb hXs hbl hbA hW.2.2 ha1 dL_law_1157 ?_
  refine lv_aload_n hx hb dL_law_1158 rfl (lv_at hl 0 rfl) ?_
  refine lv_iload_n hx hb dL_law_1159 rfl (lv_at hl 3 rfl) ?_
  refine lv_iconst (v := 2) hx hb dL_law_1160 (by decide) ?_
  refine lv_iadd hx hb dL_law_1161 ?_
  obtain ⟨ha2, hw⟩ := hw
  refine va_sld hx hb hXs hbl hbA hW.2.2 ha2 dL_law_1162 ?_
  refine lv_aload_n hx hb dL_law_1163 rfl (lv_at hl 0 rfl) ?_
  refine lv_iload_n hx hb dL_law_1164 rfl (lv_at hl 3 rfl) ?_
  refine lv_iconst (v := 3) hx hb dL_law_1165 (by decide) ?_
  refine lv_iadd hx hb dL_law_1166 ?_
  obtain ⟨ha3, hw⟩ := hw
  refine va_sld hx hb hXs hbl hbA hW.2.2 ha3 dL_law_1167 ?_
  refine lv_aload_n hx hb dL_law_1168 rfl (lv_at hl 0 rfl) ?_
  refine lv_iload_n hx hb dL_law_1169 rfl (lv_at hl 3 rfl) ?_
  refine lv_iconst (v := 4) hx hb dL_law_1170 (by decide) ?_
  refine lv_iadd hx hb dL_law_1171 ?_
  obtain ⟨ha4, hw⟩ := hw
  refine va_sld hx hb hXs hbl hbA hW.2.2 ha4 dL_law_1172 ?_
  obtain ⟨hob, k1, n1, hk1, hn1, hw⟩ := hw
  have hW : gW D (fun q => s.heap.size ≤ q) s.heap (hC (rcells (u.2.1 0) (u.2.1 1) ad M []) S) H locs := hW
  refine h_goi C0 hW (va_runV (As := [.int (xs (x3 + 1).toNatClampNeg), .int (xs (x3 + 2).toNatClampNeg), .int (xs (x3 + 3).toNatClampNeg), .int (xs (x3 + 4).toNatClampNeg)]) (rest := []) ⟨hx, hb, hml, ho, hts⟩ (k_X9_tokenizeValue (l := l) (u := u) (X := rcells (u.2.1 0) (u.2.1 1) ad M []) (sz := H.size) _ d0 (xs (x3 + 1).toNatClampNeg) (xs (x3 + 2).toNatClampNeg) (xs (x3 + 3).toNatClampNeg) (xs (x3 + 4).toNatClampNeg) S k1 n1 hw) (cwV 4 hts gL_law_X9_tokenizeValue rfl rfl rfl (by decide +kernel) ⟨Nat.le_of_ble_eq_true rfl, Nat.le_of_ble_eq_true rfl⟩) ⟨h_blind, (h_recv C0 hW (ci := 10) rfl hob), (h_pre C0 hW [.ref d0, .int (xs (x3 + 1).toNatClampNeg), .int (xs (x3 + 2).toNatClampNeg), .int (xs (x3 + 3).toNatClampNeg), .int (xs (x3 + 4).toNatClampNeg)])⟩ rfl rfl hl.1 rfl (lv_room (Nat.le_of_ble_eq_true rfl)) dL_law_1173 ⟨by show _ ≤ 600000; omega, by show _ ≤ 7302249; omega⟩) (fun r1 S1 H locs h1 hW => ?_)
  replace hw := h1
  have hkn : (k + k1) + (mc - k1) ≤ 600000 ∧ (n + n1) + (ms - n1) ≤ 7302249 := by omega
  have hW : gW D (fun q => s.heap.size ≤ q) s.heap (rcells (u.2.1 0) (u.2.1 1) ad M (va_pl S1.1 S1.2)) H locs := hW
  refine lv_aload_n hx hb dL_law_1176 rfl (lv_at hl 2 rfl) ?_
  refine lv_aload_n hx hb dL_law_1177 rfl (lv_at hl 0 rfl) ?_
  refine lv_iload_n hx hb dL_law_1178 rfl (lv_at hl 3 rfl) ?_
  refine lv_iconst (v := 1) hx hb dL_law_1179 (by decide) ?_
  refine lv_iadd hx hb dL_law_1180 ?_
  obtain ⟨hb1, hw⟩ := hw
  refine va_sld hx hb hXs hbl hbA hW.2.2 hb1 dL_law_1181 ?_
  refine lv_aload_n hx hb dL_law_1182 rfl (lv_at hl 0 rfl) ?_
  refine lv_iload_n hx hb dL_law_1183 rfl (lv_at hl 3 rfl) ?_
  refine lv_iconst (v := 2) hx hb dL_law_1184 (by decide) ?_
  refine lv_iadd hx hb dL_law_1185 ?_
  obtain ⟨hb2, hw⟩ := hw
  refine va_sld hx hb hXs hbl hbA hW.2.2 hb2 dL_law_1186 ?_
  refine lv_aload_n hx hb dL_law_1187 rfl (lv_at hl 0 rfl) ?_
  refine lv_iload_n hx hb dL_law_1188 rfl (lv_at hl 3 rfl) ?_
  refine lv_iconst (v := 3) hx hb dL_law_1189 (by decide) ?_
  refine lv_iadd hx hb dL_law_1190 ?_
  obtain ⟨hb3, hw⟩ := hw
  refine va_sld hx hb hXs hbl hbA hW.2.2 hb3 dL_law_1191 ?_
  refine lv_aload_n hx hb dL_law_1192 rfl (lv_at hl 0 rfl) ?_
  refine lv_iload_n hx hb dL_law_1193 rfl (lv_at hl 3 rfl) ?_
  refine lv_iconst (v := 4) hx hb dL_law_1194 (by decide) ?_
  refine lv_iadd hx hb dL_law_1195 ?_
  obtain ⟨hb4, hw⟩ := hw
  refine va_sld hx hb hXs hbl hbA hW.2.2 hb4 dL_law_1196 ?_
  refine g_calli (cw0 := fun M => rcells (u.2.1 0) (u.2.1 1) ad M (va_pl S1.1 S1.2)) (M := M) (As := [.int (xs (x3 + 1).toNatClampNeg), .int (xs (x3 + 2).toNatClampNeg), .int (xs (x3 + 3).toNatClampNeg), .int (xs (x3 + 4).toNatClampNeg)]) (rest := [.int r1]) C0.1 hW hl.1 (k_tokenizeValue (l := l) _ (xs (x3 + 1).toNatClampNeg) (xs (x3 + 2).toNatClampNeg) (xs (x3 + 3).toNatClampNeg) (xs (x3 + 4).toNatClampNeg) _ hw) (cwV 4 hts gL_law_X10_tokenizeValue rfl rfl rfl (by decide +kernel) ⟨Nat.le_of_ble_eq_true rfl, Nat.le_of_ble_eq_true rfl⟩) (va_recv (q := (RX10, TX10, 21)) hK hW.1 (ci := 11) (q0 := 0) rfl rfl) (Nat.le_of_ble_eq_true rfl) dL_law_1197 rfl ⟨by show _ ≤ 600000; omega, by show _ ≤ 7302249; omega⟩ (fun r2 M1 H locs h3 hW => ?_)
  replace hw := h3
  refine lv_icmp_eq (tgt := 1680) hx hb dL_law_1200 (by decide) (fun c1 => ?_) (fun c1 => ?_)
  · have hkn : ((k + k1) + 0) + (mc - k1) ≤ 600000 ∧ ((n + n1) + 0) + (ms - n1) ≤ 7302249 := by omega
    exact hKK x3 S1 M1 (mc - k1) (ms - n1) _ _ hkn (hw.1 c1) _ _ _ hW hl
  · exact (hw.2 c1).elim
def w_law_c31 (u : hU) (d0 L : Nat) (xs : Nat → Int32) (K : Int32 → hS → RM → Nat → Nat → Prop) (x3 : Int32) (S : hS) (M : RM) (mc ms : Nat) : Prop := (vp_in (x3 + 1) L ∧ ((∃ fs, rO S d0 10 fs) ∧ w_X9_more u (fun r1 => (vp_in (x3 + 1) L ∧ (w_more (fun r2 M1 => ((r1 = r2 → K x3 S M1 mc ms) ∧ (¬ r1 = r2 → False))) (xs (x3 + 1).toNatClampNeg) M))) d0 (xs (x3 + 1).toNatClampNeg) S))
set_option maxHeartbeats 4000000 in
set_option maxRecDepth 100000 in
theorem t_law_c31 (C0 : hX p s m #[Value.ref b] c cL_law 4 RL wsL_law D (gt u.2.1) (fun q => s.heap.size ≤ q) u.1 u.2.2) (hXs : va_X b L xs s s.heap) (hbl : b < s.heap.size) (K : Int32 → hS → RM → Nat → Nat → Prop) (hKK : ∀ (x3 : Int32) (S : hS) (M : RM) (mc ms k n : Nat), k + mc ≤ 600000 ∧ n + ms ≤ 7302249 → K x3 S M mc ms → gG p l e room_1 s m #[Value.ref b] below meth c Q D (fun q => s.heap.size ≤ q) 4 k n (rcells (u.2.1 0) (u.2.1 1) ad M (va_pl S.1 S.2)) 1680 [(0, .ref b), (1, .ref d0), (2, .ref (ad 0)), (3, .int x3)] []) (x3 : Int32) (S : hS) (M : RM) (mc ms k n : Nat) (hkn : k + mc ≤ 600000 ∧ n + ms ≤ 7302249) (hw : w_law_c31 u d0 L xs K x3 S M mc ms) : gG p l e room_1 s m #[Value.ref b] below meth c Q D (fun q => s.heap.size ≤ q) 4 k n (rcells (u.2.1 0) (u.2.1 1) ad M (va_pl S.1 S.2)) 1205 [(0, .ref b), (1, .ref d0), (2, .ref (ad 0)), (3, .int x3)] [] := by
  obtain ⟨⟨hx, hb, hml, ho, hts, hK, hA⟩, hR⟩ := id C0
  have hbA : ¬ (fun q : Nat => s.heap.size ≤ q) b := Nat.not_le.mpr hbl
  intro H locs ls hW hl
  rw [w_law_c31] at hw
  refine lv_aload_n hx hb dL_law_1205 rfl (lv_at hl 1 rfl) ?_
  refine lv_aload_n hx hb dL_law_1206 rfl (lv_at hl 0 rfl) ?_
  refine lv_iload_n hx hb dL_law_1207 rfl (lv_at hl 3 rfl) ?_
  refine lv_iconst (v := 1) hx hb dL_law_1208 (by decide) ?_
  refine lv_iadd hx hb dL_law_1209 ?_
  obtain ⟨ha1, hw⟩ := hw
  refine va_sld hx hb hXs hbl hbA hW.2.2 ha1 dL_law_1210 ?_
  obtain ⟨hob, hw⟩ := hw
  have hW : gW D (fun q => s.heap.size ≤ q) s.heap (hC (rcells (u.2.1 0) (u.2.1 1) ad M []) S) H locs := hW
  refine h_goi C0 hW (va_runV (As := [.int (xs (x3 + 1).toNatClampNeg)]) (rest := []) ⟨hx, hb, hml, ho, hts⟩ (k_X9_more (l := l) (u := u) (X := rcells (u.2.1 0) (u.2.1 1) ad M []) (sz := H.size) _ d0 (xs (x3 + 1).toNatClampNeg) S  hw) (cwV 1 hts gL_law_X9_more rfl rfl rfl (by decide +kernel) ⟨Nat.le_of_ble_eq_true rfl, Nat.le_of_ble_eq_true rfl⟩) ⟨h_blind, (h_recv C0 hW (ci := 10) rfl hob), (h_pre C0 hW [.ref d0, .int (xs (x3 + 1).toNatClampNeg)])⟩ rfl rfl hl.1 rfl (lv_room (Nat.le_of_ble_eq_true rfl)) dL_law_1211 ⟨by show _ ≤ 600000; omega, by show _ ≤ 7302249; omega⟩) (fun r1 S1 H locs h1 hW => ?_)
  obtain ⟨h2, hp⟩ := h1
  rw [h2] at hW
  replace hw := hp
  have hkn : (k + 0) + mc ≤ 600000 ∧ (n + 0) + ms ≤ 7302249 := by omega
  have hW : gW D (fun q => s.heap.size ≤ q) s.heap (rcells (u.2.1 0) (u.2.1 1) ad M (va_pl S.1 S.2)) H locs := hW
  refine lv_aload_n hx hb dL_law_1214 rfl (lv_at hl 2 rfl) ?_
  refine lv_aload_n hx hb dL_law_1215 rfl (lv_at hl 0 rfl) ?_
  refine lv_iload_n hx hb dL_law_1216 rfl (lv_at hl 3 rfl) ?_
  refine lv_iconst (v := 1) hx hb dL_law_1217 (by decide) ?_
  refine lv_iadd hx hb dL_law_1218 ?_
  obtain ⟨hb1, hw⟩ := hw
  refine va_sld hx hb hXs hbl hbA hW.2.2 hb1 dL_law_1219 ?_
  refine g_calli (cw0 := fun M => rcells (u.2.1 0) (u.2.1 1) ad M (va_pl S.1 S.2)) (M := M) (As := [.int (xs (x3 + 1).toNatClampNeg)]) (rest := [.int r1]) C0.1 hW hl.1 (k_more (l := l) _ (xs (x3 + 1).toNatClampNeg) _ hw) (cwV 1 hts gL_law_X10_more rfl rfl rfl (by decide +kernel) ⟨Nat.le_of_ble_eq_true rfl, Nat.le_of_ble_eq_true rfl⟩) (va_recv (q := (RX10, TX10, 21)) hK hW.1 (ci := 11) (q0 := 0) rfl rfl) (Nat.le_of_ble_eq_true rfl) dL_law_1220 rfl ⟨by show _ ≤ 600000; omega, by show _ ≤ 7302249; omega⟩ (fun r2 M1 H locs h3 hW => ?_)
  replace hw := h3
  refine lv_icmp_eq (tgt := 1680) hx hb dL_law_1223 (by decide) (fun c1 => ?_) (fun c1 => ?_)
  · have hkn : ((k + 0) + 0) + mc ≤ 600000 ∧ ((n + 0) + 0) + ms ≤ 7302249 := by omega
    exact hKK x3 S M1 mc ms _ _ hkn (hw.1 c1) _ _ _ hW hl
  · exact (hw.2 c1).elim
def w_law_c32 (u : hU) (d0 L : Nat) (xs : Nat → Int32) (K : Int32 → hS → RM → Nat → Nat → Prop) (x3 : Int32) (S : hS) (M : RM) (mc ms : Nat) : Prop := (vp_in (x3 + 1) L ∧ ((∃ fs, rO S d0 10 fs) ∧ w_X9_count u (fun r1 => (vp_in (x3 + 1) L ∧ (w_count (fun r2 M1 => ((r1 = r2 → K x3 S M1 mc ms) ∧ (¬ r1 = r2 → False))) (xs (x3 + 1).toNatClampNeg) M))) d0 (xs (x3 + 1).toNatClampNeg) S))
set_option maxHeartbeats 4000000 in
set_option maxRecDepth 100000 in
theorem t_law_c32 (C0 : hX p s m #[Value.ref b] c cL_law 4 RL wsL_law D (gt u.2.1) (fun q => s.heap.size ≤ q) u.1 u.2.2) (hXs : va_X b L xs s s.heap) (hbl : b < s.heap.size) (K : Int32 → hS → RM → Nat → Nat → Prop) (hKK : ∀ (x3 : Int32) (S : hS) (M : RM) (mc ms k n : Nat), k + mc ≤ 600000 ∧ n + ms ≤ 7302249 → K x3 S M mc ms → gG p l e room_1 s m #[Value.ref b] below meth c Q D (fun q => s.heap.size ≤ q) 4 k n (rcells (u.2.1 0) (u.2.1 1) ad M (va_pl S.1 S.2)) 1680 [(0, .ref b), (1, .ref d0), (2, .ref (ad 0)), (3, .int x3)] []) (x3 : Int32) (S : hS) (M : RM) (mc ms k n : Nat) (hkn : k + mc ≤ 600000 ∧ n + ms ≤ 7302249) (hw : w_law_c32 u d0 L xs K x3 S M mc ms) : gG p l e room_1 s m #[Value.ref b] below meth c Q D (fun q => s.heap.size ≤ q) 4 k n (rcells (u.2.1 0) (u.2.1 1) ad M (va_pl S.1 S.2)) 1228 [(0, .ref b), (1, .ref d0), (2, .ref (ad 0)), (3, .int x3)] [] := by
  obtain ⟨⟨hx, hb, hml, ho, hts, hK, hA⟩, hR⟩ := id C0
  have hbA : ¬ (fun q : Nat => s.heap.size ≤ q) b := Nat.not_le.mpr hbl
  intro H locs ls hW hl
  rw [w_law_c32] at hw
  refine lv_aload_n hx hb dL_law_1228 rfl (lv_at hl 1 rfl) ?_
  refine lv_aload_n hx hb dL_law_1229 rfl (lv_at hl 0 rfl) ?_
  refine lv_iload_n hx hb dL_law_1230 rfl (lv_at hl 3 rfl) ?_
  refine lv_iconst (v := 1) hx hb dL_law_1231 (by decide) ?_
  refine lv_iadd hx hb dL_law_1232 ?_
  obtain ⟨ha1, hw⟩ := hw
  refine va_sld hx hb hXs hbl hbA hW.2.2 ha1 dL_law_1233 ?_
  obtain ⟨hob, hw⟩ := hw
  have hW : gW D (fun q => s.heap.size ≤ q) s.heap (hC (rcells (u.2.1 0) (u.2.1 1) ad M []) S) H locs := hW
  refine h_goi C0 hW (va_runV (As := [.int (xs (x3 + 1).toNatClampNeg)]) (rest := []) ⟨hx, hb, hml, ho, hts⟩ (k_X9_count (l := l) (u := u) (X := rcells (u.2.1 0) (u.2.1 1) ad M []) (sz := H.size) _ d0 (xs (x3 + 1).toNatClampNeg) S  hw) (cwV 1 hts gL_law_X9_count rfl rfl rfl (by decide +kernel) ⟨Nat.le_of_ble_eq_true rfl, Nat.le_of_ble_eq_true rfl⟩) ⟨h_blind, (h_recv C0 hW (ci := 10) rfl hob), (h_pre C0 hW [.ref d0, .int (xs (x3 + 1).toNatClampNeg)])⟩ rfl rfl hl.1 rfl (lv_room (Nat.le_of_ble_eq_true rfl)) dL_law_1234 ⟨by show _ ≤ 600000; omega, by show _ ≤ 7302249; omega⟩) (fun r1 S1 H locs h1 hW => ?_)
  obtain ⟨h2, hp⟩ := h1
  rw [h2] at hW
  replace hw := hp
  have hkn : (k + 0) + mc ≤ 600000 ∧ (n + 0) + ms ≤ 7302249 := by omega
  have hW : gW D (fun q => s.heap.size ≤ q) s.heap (rcells (u.2.1 0) (u.2.1 1) ad M (va_pl S.1 S.2)) H locs := hW
  refine lv_aload_n hx hb dL_law_1237 rfl (lv_at hl 2 rfl) ?_
  refine lv_aload_n hx hb dL_law_1238 rfl (lv_at hl 0 rfl) ?_
  refine lv_iload_n hx hb dL_law_1239 rfl (lv_at hl 3 rfl) ?_
  refine lv_iconst (v := 1) hx hb dL_law_1240 (by decide) ?_
  refine lv_iadd hx hb dL_law_1241 ?_
  obtain ⟨hb1, hw⟩ := hw
  refine va_sld hx hb hXs hbl hbA hW.2.2 hb1 dL_law_1242 ?_
  refine g_calli (cw0 := fun M => rcells (u.2.1 0) (u.2.1 1) ad M (va_pl S.1 S.2)) (M := M) (As := [.int (xs (x3 + 1).toNatClampNeg)]) (rest := [.int r1]) C0.1 hW hl.1 (k_count (l := l) _ (xs (x3 + 1).toNatClampNeg) _ hw) (cwV 1 hts gL_law_X10_count rfl rfl rfl (by decide +kernel) ⟨Nat.le_of_ble_eq_true rfl, Nat.le_of_ble_eq_true rfl⟩) (va_recv (q := (RX10, TX10, 21)) hK hW.1 (ci := 11) (q0 := 0) rfl rfl) (Nat.le_of_ble_eq_true rfl) dL_law_1243 rfl ⟨by show _ ≤ 600000; omega, by show _ ≤ 7302249; omega⟩ (fun r2 M1 H locs h3 hW => ?_)
  replace hw := h3
  refine lv_icmp_eq (tgt := 1680) hx hb dL_law_1246 (by decide) (fun c1 => ?_) (fun c1 => ?_)
  · have hkn : ((k + 0) + 0) + mc ≤ 600000 ∧ ((n + 0) + 0) + ms ≤ 7302249 := by omega
    exact hKK x3 S M1 mc ms _ _ hkn (hw.1 c1) _ _ _ hW hl
  · exact (hw.2 c1).elim
def w_law_c33 (u : hU) (d0 L : Nat) (xs : Nat → Int32) (K : Int32 → hS → RM → Nat → Nat → Prop) (x3 : Int32) (S : hS) (M : RM) (mc ms : Nat) : Prop := (vp_in (x3 + 1) L ∧ (vp_in (x3 + 2) L ∧ ((∃ fs, rO S d0 10 fs) ∧ (∃ k1 n1 : Nat, k1 ≤ mc ∧ n1 ≤ ms ∧ w_X9_next u (fun r1 S1 => (vp_in (x3 + 1) L ∧ (vp_in (x3 + 2) L ∧ (w_next (fun r2 M1 => ((r1 = r2 → K x3 S1 M1 (mc - k1) (ms - n1)) ∧ (¬ r1 = r2 → False))) (xs (x3 + 1).toNatClampNeg) (xs (x3 + 2).toNatClampNeg) M)))) d0 (xs (x3 + 1).toNatClampNeg) (xs (x3 + 2).toNatClampNeg) S k1 n1))))
set_option maxHeartbeats 4000000 in
set_option maxRecDepth 100000 in
theorem t_law_c33 (C0 : hX p s m #[Value.ref b] c cL_law 4 RL wsL_law D (gt u.2.1) (fun q => s.heap.size ≤ q) u.1 u.2.2) (hXs : va_X b L xs s s.heap) (hbl : b < s.heap.size) (K : Int32 → hS → RM → Nat → Nat → Prop) (hKK : ∀ (x3 : Int32) (S : hS) (M : RM) (mc ms k n : Nat), k + mc ≤ 600000 ∧ n + ms ≤ 7302249 → K x3 S M mc ms → gG p l e room_1 s m #[Value.ref b] below meth c Q D (fun q => s.heap.size ≤ q) 4 k n (rcells (u.2.1 0) (u.2.1 1) ad M (va_pl S.1 S.2)) 1680 [(0, .ref b), (1, .ref d0), (2, .ref (ad 0)), (3, .int x3)] []) (x3 : Int32) (S : hS) (M : RM) (mc ms k n : Nat) (hkn : k + mc ≤ 600000 ∧ n + ms ≤ 7302249) (hw : w_law_c33 u d0 L xs K x3 S M mc ms) : gG p l e room_1 s m #[Value.ref b] below meth c Q D (fun q => s.heap.size ≤ q) 4 k n (rcells (u.2.1 0) (u.2.1 1) ad M (va_pl S.1 S.2)) 1251 [(0, .ref b), (1, .ref d0), (2, .ref (ad 0)), (3, .int x3)] [] := by
  obtain ⟨⟨hx, hb, hml, ho, hts, hK, hA⟩, hR⟩ := id C0
  have hbA : ¬ (fun q : Nat => s.heap.size ≤ q) b := Nat.not_le.mpr hbl
  intro H locs ls hW hl
  rw [w_law_c33] at hw
  refine lv_aload_n hx hb dL_law_1251 rfl (lv_at hl 1 rfl) ?_
  refine lv_aload_n hx hb dL_law_1252 rfl (lv_at hl 0 rfl) ?_
  refine lv_iload_n hx hb dL_law_1253 rfl (lv_at hl 3 rfl) ?_
  refine lv_iconst (v := 1) hx hb dL_law_1254 (by decide) ?_
  refine lv_iadd hx hb dL_law_1255 ?_
  obtain ⟨ha1, hw⟩ := hw
  refine va_sld hx hb hXs hbl hbA hW.2.2 ha1 dL_law_1256 ?_
  refine lv_aload_n hx hb dL_law_1257 rfl (lv_at hl 0 rfl) ?_
  refine lv_iload_n hx hb dL_law_1258 rfl (lv_at hl 3 rfl) ?_
  refine lv_iconst (v := 2) hx hb dL_law_1259 (by decide) ?_
  refine lv_iadd hx hb dL_law_1260 ?_
  obtain ⟨ha2, hw⟩ := hw
  refine va_sld hx hb hXs hbl hbA hW.2.2 ha2 dL_law_1261 ?_
  obtain ⟨hob, k1, n1, hk1, hn1, hw⟩ := hw
  have hW : gW D (fun q => s.heap.size ≤ q) s.heap (hC (rcells (u.2.1 0) (u.2.1 1) ad M []) S) H locs := hW
  refine h_goi C0 hW (va_runV (As := [.int (xs (x3 + 1).toNatClampNeg), .int (xs (x3 + 2).toNatClampNeg)]) (rest := []) ⟨hx, hb, hml, ho, hts⟩ (k_X9_next (l := l) (u := u) (X := rcells (u.2.1 0) (u.2.1 1) ad M []) (sz := H.size) _ d0 (xs (x3 + 1).toNatClampNeg) (xs (x3 + 2).toNatClampNeg) S k1 n1 hw) (cwV 2 hts gL_law_X9_next rfl rfl rfl (by decide +kernel) ⟨Nat.le_of_ble_eq_true rfl, Nat.le_of_ble_eq_true rfl⟩) ⟨h_blind, (h_recv C0 hW (ci := 10) rfl hob), (h_pre C0 hW [.ref d0, .int (xs (x3 + 1).toNatClampNeg), .int (xs (x3 + 2).toNatClampNeg)])⟩ rfl rfl hl.1 rfl (lv_room (Nat.le_of_ble_eq_true rfl)) dL_law_1262 ⟨by show _ ≤ 600000; omega, by show _ ≤ 7302249; omega⟩) (fun r1 S1 H locs h1 hW => ?_)
  replace hw := h1
  have hkn : (k + k1) + (mc - k1) ≤ 600000 ∧ (n + n1) + (ms - n1) ≤ 7302249 := by omega
  have hW : gW D (fun q => s.heap.size ≤ q) s.heap (rcells (u.2.1 0) (u.2.1 1) ad M (va_pl S1.1 S1.2)) H locs := hW
  refine lv_aload_n hx hb dL_law_1265 rfl (lv_at hl 2 rfl) ?_
  refine lv_aload_n hx hb dL_law_1266 rfl (lv_at hl 0 rfl) ?_
  refine lv_iload_n hx hb dL_law_1267 rfl (lv_at hl 3 rfl) ?_
  refine lv_iconst (v := 1) hx hb dL_law_1268 (by decide) ?_
  refine lv_iadd hx hb dL_law_1269 ?_
  obtain ⟨hb1, hw⟩ := hw
  refine va_sld hx hb hXs hbl hbA hW.2.2 hb1 dL_law_1270 ?_
  refine lv_aload_n hx hb dL_law_1271 rfl (lv_at hl 0 rfl) ?_
  refine lv_iload_n hx hb dL_law_1272 rfl (lv_at hl 3 rfl) ?_
  refine lv_iconst (v := 2) hx hb dL_law_1273 (by decide) ?_
  refine lv_iadd hx hb dL_law_1274 ?_
  obtain ⟨hb2, hw⟩ := hw
  refine va_sld hx hb hXs hbl hbA hW.2.2 hb2 dL_law_1275 ?_
  refine g_calli (cw0 := fun M => rcells (u.2.1 0) (u.2.1 1) ad M (va_pl S1.1 S1.2)) (M := M) (As := [.int (xs (x3 + 1).toNatClampNeg), .int (xs (x3 + 2).toNatClampNeg)]) (rest := [.int r1]) C0.1 hW hl.1 (k_next (l := l) _ (xs (x3 + 1).toNatClampNeg) (xs (x3 + 2).toNatClampNeg) _ hw) (cwV 2 hts gL_law_X10_next rfl rfl rfl (by decide +kernel) ⟨Nat.le_of_ble_eq_true rfl, Nat.le_of_ble_eq_true rfl⟩) (va_recv (q := (RX10, TX10, 21)) hK hW.1 (ci := 11) (q0 := 0) rfl rfl) (Nat.le_of_ble_eq_true rfl) dL_law_1276 rfl ⟨by show _ ≤ 600000; omega, by show _ ≤ 7302249; omega⟩ (fun r2 M1 H locs h3 hW => ?_)
  replace hw := h3
  refine lv_icmp_eq (tgt := 1680) hx hb dL_law_1279 (by decide) (fun c1 => ?_) (fun c1 => ?_)
  · have hkn : ((k + k1) + 0) + (mc - k1) ≤ 600000 ∧ ((n + n1) + 0) + (ms - n1) ≤ 7302249 := by omega
    exact hKK x3 S1 M1 (mc - k1) (ms - n1) _ _ hkn (hw.1 c1) _ _ _ hW hl
  · exact (hw.2 c1).elim
def w_law_c34 (u : hU) (d0 L : Nat) (xs : Nat → Int32) (K : Int32 → hS → RM → Nat → Nat → Prop) (x3 : Int32) (S : hS) (M : RM) (mc ms : Nat) : Prop := (vp_in (x3 + 1) L ∧ (vp_in (x3 + 2) L ∧ (vp_in (x3 + 3) L ∧ ((∃ fs, rO S d0 10 fs) ∧ (∃ k1 n1 : Nat, k1 ≤ mc ∧ n1 ≤ ms ∧ w_X9_nextBy u (fun r1 S1 => (vp_in (x3 + 1) L ∧ (vp_in (x3 + 2) L ∧ (vp_in (x3 + 3) L ∧ (w_nextBy (fun r2 M1 => ((r1 = r2 → K x3 S1 M1 (mc - k1) (ms - n1)) ∧ (¬ r1 = r2 → False))) (xs (x3 + 1).toNatClampNeg) (xs (x3 + 2).toNatClampNeg) (xs (x3 + 3).toNatClampNeg) M))))) d0 (xs (x3 + 1).toNatClampNeg) (xs (x3 + 2).toNatClampNeg) (xs (x3 + 3).toNatClampNeg) S k1 n1)))))
set_option maxHeartbeats 4000000 in
set_option maxRecDepth 100000 in
theorem t_law_c34 (C0 : hX p s m #[Value.ref b] c cL_law 4 RL wsL_law D (gt u.2.1) (fun q => s.heap.size ≤ q) u.1 u.2.2) (hXs : va_X b L xs s s.heap) (hbl : b < s.heap.size) (K : Int32 → hS → RM → Nat → Nat → Prop) (hKK : ∀ (x3 : Int32) (S : hS) (M : RM) (mc ms k n : Nat), k + mc ≤ 600000 ∧ n + ms ≤ 7302249 → K x3 S M mc ms → gG p l e room_1 s m #[Value.ref b] below meth c Q D (fun q => s.heap.size ≤ q) 4 k n (rcells (u.2.1 0) (u.2.1 1) ad M (va_pl S.1 S.2)) 1680 [(0, .ref b), (1, .ref d0), (2, .ref (ad 0)), (3, .int x3)] []) (x3 : Int32) (S : hS) (M : RM) (mc ms k n : Nat) (hkn : k + mc ≤ 600000 ∧ n + ms ≤ 7302249) (hw : w_law_c34 u d0 L xs K x3 S M mc ms) : gG p l e room_1 s m #[Value.ref b] below meth c Q D (fun q => s.heap.size ≤ q) 4 k n (rcells (u.2.1 0) (u.2.1 1) ad M (va_pl S.1 S.2)) 1284 [(0, .ref b), (1, .ref d0), (2, .ref (ad 0)), (3, .int x3)] [] := by
  obtain ⟨⟨hx, hb, hml, ho, hts, hK, hA⟩, hR⟩ := id C0
  have hbA : ¬ (fun q : Nat => s.heap.size ≤ q) b := Nat.not_le.mpr hbl
  intro H locs ls hW hl
  rw [w_law_c34] at hw
  refine lv_aload_n hx hb dL_law_1284 rfl (lv_at hl 1 rfl) ?_
  refine lv_aload_n hx hb dL_law_1285 rfl (lv_at hl 0 rfl) ?_
  refine lv_iload_n hx hb dL_law_1286 rfl (lv_at hl 3 rfl) ?_
  refine lv_iconst (v := 1) hx hb dL_law_1287 (by decide) ?_
  refine lv_iadd hx hb dL_law_1288 ?_
  obtain ⟨ha1, hw⟩ := hw
  refine va_sld hx hb hXs hbl hbA hW.2.2 ha1 dL_law_1289 ?_
  refine lv_aload_n hx hb dL_law_1290 rfl (lv_at hl 0 rfl) ?_
  refine lv_iload_n hx hb dL_law_1291 rfl (lv_at hl 3 rfl) ?_
  refine lv_iconst (v := 2) hx hb dL_law_1292 (by decide) ?_
  refine lv_iadd hx hb dL_law_1293 ?_
  obtain ⟨ha2, hw⟩ := hw
  refine va_sld hx hb hXs hbl hbA hW.2.2 ha2 dL_law_1294 ?_
  refine lv_aload_n hx hb dL_law_1295 rfl (lv_at hl 0 rfl) ?_
  refine lv_iload_n hx hb dL_law_1296 rfl (lv_at hl 3 rfl) ?_
  refine lv_iconst (v := 3) hx hb dL_law_1297 (by decide) ?_
  refine lv_iadd hx hb dL_law_1298 ?_
  obtain ⟨ha3, hw⟩ := hw
  refine va_sld hx hb hXs hbl hbA hW.2.2 ha3 dL_law_1299 ?_
  obtain ⟨hob, k1, n1, hk1, hn1, hw⟩ := hw
  have hW : gW D (fun q => s.heap.size ≤ q) s.heap (hC (rcells (u.2.1 0) (u.2.1 1) ad M []) S) H locs := hW
  refine h_goi C0 hW (va_runV (As := [.int (xs (x3 + 1).toNatClampNeg), .int (xs (x3 + 2).toNatClampNeg), .int (xs (x3 + 3).toNatClampNeg)]) (rest := []) ⟨hx, hb, hml, ho, hts⟩ (k_X9_nextBy (l := l) (u := u) (X := rcells (u.2.1 0) (u.2.1 1) ad M []) (sz := H.size) _ d0 (xs (x3 + 1).toNatClampNeg) (xs (x3 + 2).toNatClampNeg) (xs (x3 + 3).toNatClampNeg) S k1 n1 hw) (cwV 3 hts gL_law_X9_nextBy rfl rfl rfl (by decide +kernel) ⟨Nat.le_of_ble_eq_true rfl, Nat.le_of_ble_eq_true rfl⟩) ⟨h_blind, (h_recv C0 hW (ci := 10) rfl hob), (h_pre C0 hW [.ref d0, .int (xs (x3 + 1).toNatClampNeg), .int (xs (x3 + 2).toNatClampNeg), .int (xs (x3 + 3).toNatClampNeg)])⟩ rfl rfl hl.1 rfl (lv_room (Nat.le_of_ble_eq_true rfl)) dL_law_1300 ⟨by show _ ≤ 600000; omega, by show _ ≤ 7302249; omega⟩) (fun r1 S1 H locs h1 hW => ?_)
  replace hw := h1
  have hkn : (k + k1) + (mc - k1) ≤ 600000 ∧ (n + n1) + (ms - n1) ≤ 7302249 := by omega
  have hW : gW D (fun q => s.heap.size ≤ q) s.heap (rcells (u.2.1 0) (u.2.1 1) ad M (va_pl S1.1 S1.2)) H locs := hW
  refine lv_aload_n hx hb dL_law_1303 rfl (lv_at hl 2 rfl) ?_
  refine lv_aload_n hx hb dL_law_1304 rfl (lv_at hl 0 rfl) ?_
  refine lv_iload_n hx hb dL_law_1305 rfl (lv_at hl 3 rfl) ?_
  refine lv_iconst (v := 1) hx hb dL_law_1306 (by decide) ?_
  refine lv_iadd hx hb dL_law_1307 ?_
  obtain ⟨hb1, hw⟩ := hw
  refine va_sld hx hb hXs hbl hbA hW.2.2 hb1 dL_law_1308 ?_
  refine lv_aload_n hx hb dL_law_1309 rfl (lv_at hl 0 rfl) ?_
  refine lv_iload_n hx hb dL_law_1310 rfl (lv_at hl 3 rfl) ?_
  refine lv_iconst (v := 2) hx hb dL_law_1311 (by decide) ?_
  refine lv_iadd hx hb dL_law_1312 ?_
  obtain ⟨hb2, hw⟩ := hw
  refine va_sld hx hb hXs hbl hbA hW.2.2 hb2 dL_law_1313 ?_
  refine lv_aload_n hx hb dL_law_1314 rfl (lv_at hl 0 rfl) ?_
  refine lv_iload_n hx hb dL_law_1315 rfl (lv_at hl 3 rfl) ?_
  refine lv_iconst (v := 3) hx hb dL_law_1316 (by decide) ?_
  refine lv_iadd hx hb dL_law_1317 ?_
  obtain ⟨hb3, hw⟩ := hw
  refine va_sld hx hb hXs hbl hbA hW.2.2 hb3 dL_law_1318 ?_
  refine g_calli (cw0 := fun M => rcells (u.2.1 0) (u.2.1 1) ad M (va_pl S1.1 S1.2)) (M := M) (As := [.int (xs (x3 + 1).toNatClampNeg), .int (xs (x3 + 2).toNatClampNeg), .int (xs (x3 + 3).toNatClampNeg)]) (rest := [.int r1]) C0.1 hW hl.1 (k_nextBy (l := l) _ (xs (x3 + 1).toNatClampNeg) (xs (x3 + 2).toNatClampNeg) (xs (x3 + 3).toNatClampNeg) _ hw) (cwV 3 hts gL_law_X10_nextBy rfl rfl rfl (by decide +kernel) ⟨Nat.le_of_ble_eq_true rfl, Nat.le_of_ble_eq_true rfl⟩) (va_recv (q := (RX10, TX10, 21)) hK hW.1 (ci := 11) (q0 := 0) rfl rfl) (Nat.le_of_ble_eq_true rfl) dL_law_1319 rfl ⟨by show _ ≤ 600000; omega, by show _ ≤ 7302249; omega⟩ (fun r2 M1 H locs h3 hW => ?_)
  replace hw := h3
  refine lv_icmp_eq (tgt := 1680) hx hb dL_law_1322 (by decide) (fun c1 => ?_) (fun c1 => ?_)
  · have hkn : ((k + k1) + 0) + (mc - k1) ≤ 600000 ∧ ((n + n1) + 0) + (ms - n1) ≤ 7302249 := by omega
    exact hKK x3 S1 M1 (mc - k1) (ms - n1) _ _ hkn (hw.1 c1) _ _ _ hW hl
  · exact (hw.2 c1).elim
def w_law_c35 (u : hU) (d0 L : Nat) (xs : Nat → Int32) (K : Int32 → hS → RM → Nat → Nat → Prop) (x3 : Int32) (S : hS) (M : RM) (mc ms : Nat) : Prop := (vp_in (x3 + 1) L ∧ (vp_in (x3 + 2) L ∧ ((∃ fs, rO S d0 10 fs) ∧ (∃ k1 n1 : Nat, k1 ≤ mc ∧ n1 ≤ ms ∧ w_X9_join u (fun r1 S1 => (vp_in (x3 + 1) L ∧ (vp_in (x3 + 2) L ∧ (w_join (fun r2 M1 => ((r1 = r2 → K x3 S1 M1 (mc - k1) (ms - n1)) ∧ (¬ r1 = r2 → False))) (xs (x3 + 1).toNatClampNeg) (xs (x3 + 2).toNatClampNeg) M)))) d0 (xs (x3 + 1).toNatClampNeg) (xs (x3 + 2).toNatClampNeg) S k1 n1))))
set_option maxHeartbeats 4000000 in
set_option maxRecDepth 100000 in
theorem t_law_c35 (C0 : hX p s m #[Value.ref b] c cL_law 4 RL wsL_law D (gt u.2.1) (fun q => s.heap.size ≤ q) u.1 u.2.2) (hXs : va_X b L xs s s.heap) (hbl : b < s.heap.size) (K : Int32 → hS → RM → Nat → Nat → Prop) (hKK : ∀ (x3 : Int32) (S : hS) (M : RM) (mc ms k n : Nat), k + mc ≤ 600000 ∧ n + ms ≤ 7302249 → K x3 S M mc ms → gG p l e room_1 s m #[Value.ref b] below meth c Q D (fun q => s.heap.size ≤ q) 4 k n (rcells (u.2.1 0) (u.2.1 1) ad M (va_pl S.1 S.2)) 1680 [(0, .ref b), (1, .ref d0), (2, .ref (ad 0)), (3, .int x3)] []) (x3 : Int32) (S : hS) (M : RM) (mc ms k n : Nat) (hkn : k + mc ≤ 600000 ∧ n + ms ≤ 7302249) (hw : w_law_c35 u d0 L xs K x3 S M mc ms) : gG p l e room_1 s m #[Value.ref b] below meth c Q D (fun q => s.heap.size ≤ q) 4 k n (rcells (u.2.1 0) (u.2.1 1) ad M (va_pl S.1 S.2)) 1327 [(0, .ref b), (1, .ref d0), (2, .ref (ad 0)), (3, .int x3)] [] := by
  obtain ⟨⟨hx, hb, hml, ho, hts, hK, hA⟩, hR⟩ := id C0
  have hbA : ¬ (fun q : Nat => s.heap.size ≤ q) b := Nat.not_le.mpr hbl
  intro H locs ls hW hl
  rw [w_law_c35] at hw
  refine lv_aload_n hx hb dL_law_1327 rfl (lv_at hl 1 rfl) ?_
  refine lv_aload_n hx hb dL_law_1328 rfl (lv_at hl 0 rfl) ?_
  refine lv_iload_n hx hb dL_law_1329 rfl (lv_at hl 3 rfl) ?_
  refine lv_iconst (v := 1) hx hb dL_law_1330 (by decide) ?_
  refine lv_iadd hx hb dL_law_1331 ?_
  obtain ⟨ha1, hw⟩ := hw
  refine va_sld hx hb hXs hbl hbA hW.2.2 ha1 dL_law_1332 ?_
  refine lv_aload_n hx hb dL_law_1333 rfl (lv_at hl 0 rfl) ?_
  refine lv_iload_n hx hb dL_law_1334 rfl (lv_at hl 3 rfl) ?_
  refine lv_iconst (v := 2) hx hb dL_law_1335 (by decide) ?_
  refine lv_iadd hx hb dL_law_1336 ?_
  obtain ⟨ha2, hw⟩ := hw
  refine va_sld hx hb hXs hbl hbA hW.2.2 ha2 dL_law_1337 ?_
  obtain ⟨hob, k1, n1, hk1, hn1, hw⟩ := hw
  have hW : gW D (fun q => s.heap.size ≤ q) s.heap (hC (rcells (u.2.1 0) (u.2.1 1) ad M []) S) H locs := hW
  refine h_goi C0 hW (va_runV (As := [.int (xs (x3 + 1).toNatClampNeg), .int (xs (x3 + 2).toNatClampNeg)]) (rest := []) ⟨hx, hb, hml, ho, hts⟩ (k_X9_join (l := l) (u := u) (X := rcells (u.2.1 0) (u.2.1 1) ad M []) (sz := H.size) _ d0 (xs (x3 + 1).toNatClampNeg) (xs (x3 + 2).toNatClampNeg) S k1 n1 hw) (cwV 2 hts gL_law_X9_join rfl rfl rfl (by decide +kernel) ⟨Nat.le_of_ble_eq_true rfl, Nat.le_of_ble_eq_true rfl⟩) ⟨h_blind, (h_recv C0 hW (ci := 10) rfl hob), (h_pre C0 hW [.ref d0, .int (xs (x3 + 1).toNatClampNeg), .int (xs (x3 + 2).toNatClampNeg)])⟩ rfl rfl hl.1 rfl (lv_room (Nat.le_of_ble_eq_true rfl)) dL_law_1338 ⟨by show _ ≤ 600000; omega, by show _ ≤ 7302249; omega⟩) (fun r1 S1 H locs h1 hW => ?_)
  replace hw := h1
  have hkn : (k + k1) + (mc - k1) ≤ 600000 ∧ (n + n1) + (ms - n1) ≤ 7302249 := by omega
  have hW : gW D (fun q => s.heap.size ≤ q) s.heap (rcells (u.2.1 0) (u.2.1 1) ad M (va_pl S1.1 S1.2)) H locs := hW
  refine lv_aload_n hx hb dL_law_1341 rfl (lv_at hl 2 rfl) ?_
  refine lv_aload_n hx hb dL_law_1342 rfl (lv_at hl 0 rfl) ?_
  refine lv_iload_n hx hb dL_law_1343 rfl (lv_at hl 3 rfl) ?_
  refine lv_iconst (v := 1) hx hb dL_law_1344 (by decide) ?_
  refine lv_iadd hx hb dL_law_1345 ?_
  obtain ⟨hb1, hw⟩ := hw
  refine va_sld hx hb hXs hbl hbA hW.2.2 hb1 dL_law_1346 ?_
  refine lv_aload_n hx hb dL_law_1347 rfl (lv_at hl 0 rfl) ?_
  refine lv_iload_n hx hb dL_law_1348 rfl (lv_at hl 3 rfl) ?_
  refine lv_iconst (v := 2) hx hb dL_law_1349 (by decide) ?_
  refine lv_iadd hx hb dL_law_1350 ?_
  obtain ⟨hb2, hw⟩ := hw
  refine va_sld hx hb hXs hbl hbA hW.2.2 hb2 dL_law_1351 ?_
  refine g_calli (cw0 := fun M => rcells (u.2.1 0) (u.2.1 1) ad M (va_pl S1.1 S1.2)) (M := M) (As := [.int (xs (x3 + 1).toNatClampNeg), .int (xs (x3 + 2).toNatClampNeg)]) (rest := [.int r1]) C0.1 hW hl.1 (k_join (l := l) _ (xs (x3 + 1).toNatClampNeg) (xs (x3 + 2).toNatClampNeg) _ hw) (cwV 2 hts gL_law_X10_join rfl rfl rfl (by decide +kernel) ⟨Nat.le_of_ble_eq_true rfl, Nat.le_of_ble_eq_true rfl⟩) (va_recv (q := (RX10, TX10, 21)) hK hW.1 (ci := 11) (q0 := 0) rfl rfl) (Nat.le_of_ble_eq_true rfl) dL_law_1352 rfl ⟨by show _ ≤ 600000; omega, by show _ ≤ 7302249; omega⟩ (fun r2 M1 H locs h3 hW => ?_)
  replace hw := h3
  refine lv_icmp_eq (tgt := 1680) hx hb dL_law_1355 (by decide) (fun c1 => ?_) (fun c1 => ?_)
  · have hkn : ((k + k1) + 0) + (mc - k1) ≤ 600000 ∧ ((n + n1) + 0) + (ms - n1) ≤ 7302249 := by omega
    exact hKK x3 S1 M1 (mc - k1) (ms - n1) _ _ hkn (hw.1 c1) _ _ _ hW hl
  · exact (hw.2 c1).elim
def w_law_c36 (u : hU) (d0 L : Nat) (xs : Nat → Int32) (K : Int32 → hS → RM → Nat → Nat → Prop) (x3 : Int32) (S : hS) (M : RM) (mc ms : Nat) : Prop := (vp_in (x3 + 1) L ∧ (vp_in (x3 + 2) L ∧ (vp_in (x3 + 3) L ∧ (vp_in (x3 + 4) L ∧ ((∃ fs, rO S d0 10 fs) ∧ (∃ k1 n1 : Nat, k1 ≤ mc ∧ n1 ≤ ms ∧ w_X9_joinWithin u (fun r1 S1 => (vp_in (x3 + 1) L ∧ (vp_in (x3 + 2) L ∧ (vp_in (x3 + 3) L ∧ (vp_in (x3 + 4) L ∧ (w_joinWithin (fun r2 M1 => ((r1 = r2 → K x3 S1 M1 (mc - k1) (ms - n1)) ∧ (¬ r1 = r2 → False))) (xs (x3 + 1).toNatClampNeg) (xs (x3 + 2).toNatClampNeg) (xs (x3 + 3).toNatClampNeg) (xs (x3 + 4).toNatClampNeg) M)))))) d0 (xs (x3 + 1).toNatClampNeg) (xs (x3 + 2).toNatClampNeg) (xs (x3 + 3).toNatClampNeg) (xs (x3 + 4).toNatClampNeg) S k1 n1))))))
set_option maxHeartbeats 4000000 in
set_option maxRecDepth 100000 in
theorem t_law_c36 (C0 : hX p s m #[Value.ref b] c cL_law 4 RL wsL_law D (gt u.2.1) (fun q => s.heap.size ≤ q) u.1 u.2.2) (hXs : va_X b L xs s s.heap) (hbl : b < s.heap.size) (K : Int32 → hS → RM → Nat → Nat → Prop) (hKK : ∀ (x3 : Int32) (S : hS) (M : RM) (mc ms k n : Nat), k + mc ≤ 600000 ∧ n + ms ≤ 7302249 → K x3 S M mc ms → gG p l e room_1 s m #[Value.ref b] below meth c Q D (fun q => s.heap.size ≤ q) 4 k n (rcells (u.2.1 0) (u.2.1 1) ad M (va_pl S.1 S.2)) 1680 [(0, .ref b), (1, .ref d0), (2, .ref (ad 0)), (3, .int x3)] []) (x3 : Int32) (S : hS) (M : RM) (mc ms k n : Nat) (hkn : k + mc ≤ 600000 ∧ n + ms ≤ 7302249) (hw : w_law_c36 u d0 L xs K x3 S M mc ms) : gG p l e room_1 s m #[Value.ref b] below meth c Q D (fun q => s.heap.size ≤ q) 4 k n (rcells (u.2.1 0) (u.2.1 1) ad M (va_pl S.1 S.2)) 1360 [(0, .ref b), (1, .ref d0), (2, .ref (ad 0)), (3, .int x3)] [] := by
  obtain ⟨⟨hx, hb, hml, ho, hts, hK, hA⟩, hR⟩ := id C0
  have hbA : ¬ (fun q : Nat => s.heap.size ≤ q) b := Nat.not_le.mpr hbl
  intro H locs ls hW hl
  rw [w_law_c36] at hw
  refine lv_aload_n hx hb dL_law_1360 rfl (lv_at hl 1 rfl) ?_
  refine lv_aload_n hx hb dL_law_1361 rfl (lv_at hl 0 rfl) ?_
  refine lv_iload_n hx hb dL_law_1362 rfl (lv_at hl 3 rfl) ?_
  refine lv_iconst (v := 1) hx hb dL_law_1363 (by decide) ?_
  refine lv_iadd hx hb dL_law_1364 ?_
  obtain ⟨ha1, hw⟩ := hw
  refine va_sld hx hb hXs hbl hbA hW.2.2 ha1 dL_law_1365 ?_
  refine lv_aload_n hx hb dL_law_1366 rfl (lv_at hl 0 rfl) ?_
  refine lv_iload_n hx hb dL_law_1367 rfl (lv_at hl 3 rfl) ?_
  refine lv_iconst (v := 2) hx hb dL_law_1368 (by decide) ?_
  refine lv_iadd hx hb dL_law_1369 ?_
  obtain ⟨ha2, hw⟩ := hw
  refine va_sld hx hb hXs hbl hbA hW.2.2 ha2 dL_law_1370 ?_
  refine lv_aload_n hx hb dL_law_1371 rfl (lv_at hl 0 rfl) ?_
  refine lv_iload_n hx hb dL_law_1372 rfl (lv_at hl 3 rfl) ?_
  refine lv_iconst (v := 3) hx hb dL_law_1373 (by decide) ?_
  refine lv_iadd hx hb dL_law_1374 ?_
  obtain ⟨ha3, hw⟩ := hw
  refine va_sld hx hb hXs hbl hbA hW.2.2 ha3 dL_law_1375 ?_
  refine lv_aload_n hx hb dL_law_1376 rfl (lv_at hl 0 rfl) ?_
  refine lv_iload_n hx hb dL_law_1377 rfl (lv_at hl 3 rfl) ?_
  refine lv_iconst (v := 4) hx hb dL_law_1378 (by decide) ?_
  refine lv_iadd hx hb dL_law_1379 ?_
  obtain ⟨ha4, hw⟩ := hw
  refine va_sld hx hb hXs hbl hbA hW.2.2 ha4 dL_law_1380 ?_
  obtain ⟨hob, k1, n1, hk1, hn1, hw⟩ := hw
  have hW : gW D (fun q => s.heap.size ≤ q) s.heap (hC (rcells (u.2.1 0) (u.2.1 1) ad M []) S) H locs := hW
  refine h_goi C0 hW (va_runV (As := [.int (xs (x3 + 1).toNatClampNeg), .int (xs (x3 + 2).toNatClampNeg), .int (xs (x3 + 3).toNatClampNeg), .int (xs (x3 + 4).toNatClampNeg)]) (rest := []) ⟨hx, hb, hml, ho, hts⟩ (k_X9_joinWithin (l := l) (u := u) (X := rcells (u.2.1 0) (u.2.1 1) ad M []) (sz := H.size) _ d0 (xs (x3 + 1).toNatClampNeg) (xs (x3 + 2).toNatClampNeg) (xs (x3 + 3).toNatClampNeg) (xs (x3 + 4).toNatClampNeg) S k1 n1 hw) (cwV 4 hts gL_law_X9_joinWithin rfl rfl rfl (by decide +kernel) ⟨Nat.le_of_ble_eq_true rfl, Nat.le_of_ble_eq_true rfl⟩) ⟨h_blind, (h_recv C0 hW (ci := 10) rfl hob), (h_pre C0 hW [.ref d0, .int (xs (x3 + 1).toNatClampNeg), .int (xs (x3 + 2).toNatClampNeg), .int (xs (x3 + 3).toNatClampNeg), .int (xs (x3 + 4).toNatClampNeg)])⟩ rfl rfl hl.1 rfl (lv_room (Nat.le_of_ble_eq_true rfl)) dL_law_1381 ⟨by show _ ≤ 600000; omega, by show _ ≤ 7302249; omega⟩) (fun r1 S1 H locs h1 hW => ?_)
  replace hw := h1
  have hkn : (k + k1) + (mc - k1) ≤ 600000 ∧ (n + n1) + (ms - n1) ≤ 7302249 := by omega
  have hW : gW D (fun q => s.heap.size ≤ q) s.heap (rcells (u.2.1 0) (u.2.1 1) ad M (va_pl S1.1 S1.2)) H locs := hW
  refine lv_aload_n hx hb dL_law_1384 rfl (lv_at hl 2 rfl) ?_
  refine lv_aload_n hx hb dL_law_1385 rfl (lv_at hl 0 rfl) ?_
  refine lv_iload_n hx hb dL_law_1386 rfl (lv_at hl 3 rfl) ?_
  refine lv_iconst (v := 1) hx hb dL_law_1387 (by decide) ?_
  refine lv_iadd hx hb dL_law_1388 ?_
  obtain ⟨hb1, hw⟩ := hw
  refine va_sld hx hb hXs hbl hbA hW.2.2 hb1 dL_law_1389 ?_
  refine lv_aload_n hx hb dL_law_1390 rfl (lv_at hl 0 rfl) ?_
  refine lv_iload_n hx hb dL_law_1391 rfl (lv_at hl 3 rfl) ?_
  refine lv_iconst (v := 2) hx hb dL_law_1392 (by decide) ?_
  refine lv_iadd hx hb dL_law_1393 ?_
  obtain ⟨hb2, hw⟩ := hw
  refine va_sld hx hb hXs hbl hbA hW.2.2 hb2 dL_law_1394 ?_
  refine lv_aload_n hx hb dL_law_1395 rfl (lv_at hl 0 rfl) ?_
  refine lv_iload_n hx hb dL_law_1396 rfl (lv_at hl 3 rfl) ?_
  refine lv_iconst (v := 3) hx hb dL_law_1397 (by decide) ?_
  refine lv_iadd hx hb dL_law_1398 ?_
  obtain ⟨hb3, hw⟩ := hw
  refine va_sld hx hb hXs hbl hbA hW.2.2 hb3 dL_law_1399 ?_
  refine lv_aload_n hx hb dL_law_1400 rfl (lv_at hl 0 rfl) ?_
  refine lv_iload_n hx hb dL_law_1401 rfl (lv_at hl 3 rfl) ?_
  refine lv_iconst (v := 4) hx hb dL_law_1402 (by decide) ?_
  refine lv_iadd hx hb dL_law_1403 ?_
  obtain ⟨hb4, hw⟩ := hw
  refine va_sld hx hb hXs hbl hbA hW.2.2 hb4 dL_law_1404 ?_
  refine g_calli (cw0 := fun M => rcells (u.2.1 0) (u.2.1 1) ad M (va_pl S1.1 S1.2)) (M := M) (As := [.int (xs (x3 + 1).toNatClampNeg), .int (xs (x3 + 2).toNatClampNeg), .int (xs (x3 + 3).toNatClampNeg), .int (xs (x3 + 4).toNatClampNeg)]) (rest := [.int r1]) C0.1 hW hl.1 (k_joinWithin (l := l) _ (xs (x3 + 1).toNatClampNeg) (xs (x3 + 2).toNatClampNeg) (xs (x3 + 3).toNatClampNeg) (xs (x3 + 4).toNatClampNeg) _ hw) (cwV 4 hts gL_law_X10_joinWithin rfl rfl rfl (by decide +kernel) ⟨Nat.le_of_ble_eq_true rfl, Nat.le_of_ble_eq_true rfl⟩) (va_recv (q := (RX10, TX10, 21)) hK hW.1 (ci := 11) (q0 := 0) rfl rfl) (Nat.le_of_ble_eq_true rfl) dL_law_1405 rfl ⟨by show _ ≤ 600000; omega, by show _ ≤ 7302249; omega⟩ (fun r2 M1 H locs h3 hW => ?_)
  replace hw := h3
  refine lv_icmp_eq (tgt := 1680) hx hb dL_law_1408 (by decide) (fun c1 => ?_) (fun c1 => ?_)
  · have hkn : ((k + k1) + 0) + (mc - k1) ≤ 600000 ∧ ((n + n1) + 0) + (ms - n1) ≤ 7302249 := by omega
    exact hKK x3 S1 M1 (mc - k1) (ms - n1) _ _ hkn (hw.1 c1) _ _ _ hW hl
  · exact (hw.2 c1).elim
def w_law_c37 (u : hU) (d0 L : Nat) (xs : Nat → Int32) (K : Int32 → hS → RM → Nat → Nat → Prop) (x3 : Int32) (S : hS) (M : RM) (mc ms : Nat) : Prop := (vp_in (x3 + 1) L ∧ (vp_in (x3 + 2) L ∧ ((∃ fs, rO S d0 10 fs) ∧ (∃ k1 n1 : Nat, k1 ≤ mc ∧ n1 ≤ ms ∧ w_X9_add u (fun r1 S1 => (vp_in (x3 + 1) L ∧ (vp_in (x3 + 2) L ∧ (w_add (fun r2 M1 => ((r1 = r2 → K x3 S1 M1 (mc - k1) (ms - n1)) ∧ (¬ r1 = r2 → False))) (xs (x3 + 1).toNatClampNeg) (xs (x3 + 2).toNatClampNeg) M)))) d0 (xs (x3 + 1).toNatClampNeg) (xs (x3 + 2).toNatClampNeg) S k1 n1))))
set_option maxHeartbeats 4000000 in
set_option maxRecDepth 100000 in
theorem t_law_c37 (C0 : hX p s m #[Value.ref b] c cL_law 4 RL wsL_law D (gt u.2.1) (fun q => s.heap.size ≤ q) u.1 u.2.2) (hXs : va_X b L xs s s.heap) (hbl : b < s.heap.size) (K : Int32 → hS → RM → Nat → Nat → Prop) (hKK : ∀ (x3 : Int32) (S : hS) (M : RM) (mc ms k n : Nat), k + mc ≤ 600000 ∧ n + ms ≤ 7302249 → K x3 S M mc ms → gG p l e room_1 s m #[Value.ref b] below meth c Q D (fun q => s.heap.size ≤ q) 4 k n (rcells (u.2.1 0) (u.2.1 1) ad M (va_pl S.1 S.2)) 1680 [(0, .ref b), (1, .ref d0), (2, .ref (ad 0)), (3, .int x3)] []) (x3 : Int32) (S : hS) (M : RM) (mc ms k n : Nat) (hkn : k + mc ≤ 600000 ∧ n + ms ≤ 7302249) (hw : w_law_c37 u d0 L xs K x3 S M mc ms) : gG p l e room_1 s m #[Value.ref b] below meth c Q D (fun q => s.heap.size ≤ q) 4 k n (rcells (u.2.1 0) (u.2.1 1) ad M (va_pl S.1 S.2)) 1413 [(0, .ref b), (1, .ref d0), (2, .ref (ad 0)), (3, .int x3)] [] := by
  obtain ⟨⟨hx, hb, hml, ho, hts, hK, hA⟩, hR⟩ := id C0
  have hbA : ¬ (fun q : Nat => s.heap.size ≤ q) b := Nat.not_le.mpr hbl
  intro H locs ls hW hl
  rw [w_law_c37] at hw
  refine lv_aload_n hx hb dL_law_1413 rfl (lv_at hl 1 rfl) ?_
  refine lv_aload_n hx hb dL_law_1414 rfl (lv_at hl 0 rfl) ?_
  refine lv_iload_n hx hb dL_law_1415 rfl (lv_at hl 3 rfl) ?_
  refine lv_iconst (v := 1) hx hb dL_law_1416 (by decide) ?_
  refine lv_iadd hx hb dL_law_1417 ?_
  obtain ⟨ha1, hw⟩ := hw
  refine va_sld hx hb hXs hbl hbA hW.2.2 ha1 dL_law_1418 ?_
  refine lv_aload_n hx hb dL_law_1419 rfl (lv_at hl 0 rfl) ?_
  refine lv_iload_n hx hb dL_law_1420 rfl (lv_at hl 3 rfl) ?_
  refine lv_iconst (v := 2) hx hb dL_law_1421 (by decide) ?_
  refine lv_iadd hx hb dL_law_1422 ?_
  obtain ⟨ha2, hw⟩ := hw
  refine va_sld hx hb hXs hbl hbA hW.2.2 ha2 dL_law_1423 ?_
  obtain ⟨hob, k1, n1, hk1, hn1, hw⟩ := hw
  have hW : gW D (fun q => s.heap.size ≤ q) s.heap (hC (rcells (u.2.1 0) (u.2.1 1) ad M []) S) H locs := hW
  refine h_goi C0 hW (va_runV (As := [.int (xs (x3 + 1).toNatClampNeg), .int (xs (x3 + 2).toNatClampNeg)]) (rest := []) ⟨hx, hb, hml, ho, hts⟩ (k_X9_add (l := l) (u := u) (X := rcells (u.2.1 0) (u.2.1 1) ad M []) (sz := H.size) _ d0 (xs (x3 + 1).toNatClampNeg) (xs (x3 + 2).toNatClampNeg) S k1 n1 hw) (cwV 2 hts gL_law_X9_add rfl rfl rfl (by decide +kernel) ⟨Nat.le_of_ble_eq_true rfl, Nat.le_of_ble_eq_true rfl⟩) ⟨h_blind, (h_recv C0 hW (ci := 10) rfl hob), (h_pre C0 hW [.ref d0, .int (xs (x3 + 1).toNatClampNeg), .int (xs (x3 + 2).toNatClampNeg)])⟩ rfl rfl hl.1 rfl (lv_room (Nat.le_of_ble_eq_true rfl)) dL_law_1424 ⟨by show _ ≤ 600000; omega, by show _ ≤ 7302249; omega⟩) (fun r1 S1 H locs h1 hW => ?_)
  replace hw := h1
  have hkn : (k + k1) + (mc - k1) ≤ 600000 ∧ (n + n1) + (ms - n1) ≤ 7302249 := by omega
  have hW : gW D (fun q => s.heap.size ≤ q) s.heap (rcells (u.2.1 0) (u.2.1 1) ad M (va_pl S1.1 S1.2)) H locs := hW
  refine lv_aload_n hx hb dL_law_1427 rfl (lv_at hl 2 rfl) ?_
  refine lv_aload_n hx hb dL_law_1428 rfl (lv_at hl 0 rfl) ?_
  refine lv_iload_n hx hb dL_law_1429 rfl (lv_at hl 3 rfl) ?_
  refine lv_iconst (v := 1) hx hb dL_law_1430 (by decide) ?_
  refine lv_iadd hx hb dL_law_1431 ?_
  obtain ⟨hb1, hw⟩ := hw
  refine va_sld hx hb hXs hbl hbA hW.2.2 hb1 dL_law_1432 ?_
  refine lv_aload_n hx hb dL_law_1433 rfl (lv_at hl 0 rfl) ?_
  refine lv_iload_n hx hb dL_law_1434 rfl (lv_at hl 3 rfl) ?_
  refine lv_iconst (v := 2) hx hb dL_law_1435 (by decide) ?_
  refine lv_iadd hx hb dL_law_1436 ?_
  obtain ⟨hb2, hw⟩ := hw
  refine va_sld hx hb hXs hbl hbA hW.2.2 hb2 dL_law_1437 ?_
  refine g_calli (cw0 := fun M => rcells (u.2.1 0) (u.2.1 1) ad M (va_pl S1.1 S1.2)) (M := M) (As := [.int (xs (x3 + 1).toNatClampNeg), .int (xs (x3 + 2).toNatClampNeg)]) (rest := [.int r1]) C0.1 hW hl.1 (k_add (l := l) _ (xs (x3 + 1).toNatClampNeg) (xs (x3 + 2).toNatClampNeg) _ hw) (cwV 2 hts gL_law_X10_add rfl rfl rfl (by decide +kernel) ⟨Nat.le_of_ble_eq_true rfl, Nat.le_of_ble_eq_true rfl⟩) (va_recv (q := (RX10, TX10, 21)) hK hW.1 (ci := 11) (q0 := 0) rfl rfl) (Nat.le_of_ble_eq_true rfl) dL_law_1438 rfl ⟨by show _ ≤ 600000; omega, by show _ ≤ 7302249; omega⟩ (fun r2 M1 H locs h3 hW => ?_)
  replace hw := h3
  refine lv_icmp_eq (tgt := 1680) hx hb dL_law_1441 (by decide) (fun c1 => ?_) (fun c1 => ?_)
  · have hkn : ((k + k1) + 0) + (mc - k1) ≤ 600000 ∧ ((n + n1) + 0) + (ms - n1) ≤ 7302249 := by omega
    exact hKK x3 S1 M1 (mc - k1) (ms - n1) _ _ hkn (hw.1 c1) _ _ _ hW hl
  · exact (hw.2 c1).elim
def w_law_c38 (u : hU) (d0 L : Nat) (xs : Nat → Int32) (K : Int32 → hS → RM → Nat → Nat → Prop) (x3 : Int32) (S : hS) (M : RM) (mc ms : Nat) : Prop := (vp_in (x3 + 1) L ∧ (vp_in (x3 + 2) L ∧ ((∃ fs, rO S d0 10 fs) ∧ w_X9_ifEmpty u (fun r1 S1 => (vp_in (x3 + 1) L ∧ (vp_in (x3 + 2) L ∧ (w_ifEmpty (fun r2 M1 => ((r1 = r2 → K x3 S1 M1 mc ms) ∧ (¬ r1 = r2 → False))) (xs (x3 + 1).toNatClampNeg) (xs (x3 + 2).toNatClampNeg) M)))) d0 (xs (x3 + 1).toNatClampNeg) (xs (x3 + 2).toNatClampNeg) S)))
set_option maxHeartbeats 4000000 in
set_option maxRecDepth 100000 in
theorem t_law_c38 (C0 : hX p s m #[Value.ref b] c cL_law 4 RL wsL_law D (gt u.2.1) (fun q => s.heap.size ≤ q) u.1 u.2.2) (hXs : va_X b L xs s s.heap) (hbl : b < s.heap.size) (K : Int32 → hS → RM → Nat → Nat → Prop) (hKK : ∀ (x3 : Int32) (S : hS) (M : RM) (mc ms k n : Nat), k + mc ≤ 600000 ∧ n + ms ≤ 7302249 → K x3 S M mc ms → gG p l e room_1 s m #[Value.ref b] below meth c Q D (fun q => s.heap.size ≤ q) 4 k n (rcells (u.2.1 0) (u.2.1 1) ad M (va_pl S.1 S.2)) 1680 [(0, .ref b), (1, .ref d0), (2, .ref (ad 0)), (3, .int x3)] []) (x3 : Int32) (S : hS) (M : RM) (mc ms k n : Nat) (hkn : k + mc ≤ 600000 ∧ n + ms ≤ 7302249) (hw : w_law_c38 u d0 L xs K x3 S M mc ms) : gG p l e room_1 s m #[Value.ref b] below meth c Q D (fun q => s.heap.size ≤ q) 4 k n (rcells (u.2.1 0) (u.2.1 1) ad M (va_pl S.1 S.2)) 1446 [(0, .ref b), (1, .ref d0), (2, .ref (ad 0)), (3, .int x3)] [] := by
  obtain ⟨⟨hx, hb, hml, ho, hts, hK, hA⟩, hR⟩ := id C0
  have hbA : ¬ (fun q : Nat => s.heap.size ≤ q) b := Nat.not_le.mpr hbl
  intro H locs ls hW hl
  rw [w_law_c38] at hw
  refine lv_aload_n hx hb dL_law_1446 rfl (lv_at hl 1 rfl) ?_
  refine lv_aload_n hx hb dL_law_1447 rfl (lv_at hl 0 rfl) ?_
  refine lv_iload_n hx hb dL_law_1448 rfl (lv_at hl 3 rfl) ?_
  refine lv_iconst (v := 1) hx hb dL_law_1449 (by decide) ?_
  refine lv_iadd hx hb dL_law_1450 ?_
  obtain ⟨ha1, hw⟩ := hw
  refine va_sld hx hb hXs hbl hbA hW.2.2 ha1 dL_law_1451 ?_
  refine lv_aload_n hx hb dL_law_1452 rfl (lv_at hl 0 rfl) ?_
  refine lv_iload_n hx hb dL_law_1453 rfl (lv_at hl 3 rfl) ?_
  refine lv_iconst (v := 2) hx hb dL_law_1454 (by decide) ?_
  refine lv_iadd hx hb dL_law_1455 ?_
  obtain ⟨ha2, hw⟩ := hw
  refine va_sld hx hb hXs hbl hbA hW.2.2 ha2 dL_law_1456 ?_
  obtain ⟨hob, hw⟩ := hw
  have hW : gW D (fun q => s.heap.size ≤ q) s.heap (hC (rcells (u.2.1 0) (u.2.1 1) ad M []) S) H locs := hW
  refine h_goi C0 hW (va_runV (As := [.int (xs (x3 + 1).toNatClampNeg), .int (xs (x3 + 2).toNatClampNeg)]) (rest := []) ⟨hx, hb, hml, ho, hts⟩ (k_X9_ifEmpty (l := l) (u := u) (X := rcells (u.2.1 0) (u.2.1 1) ad M []) (sz := H.size) _ d0 (xs (x3 + 1).toNatClampNeg) (xs (x3 + 2).toNatClampNeg) S  hw) (cwV 2 hts gL_law_X9_ifEmpty rfl rfl rfl (by decide +kernel) ⟨Nat.le_of_ble_eq_true rfl, Nat.le_of_ble_eq_true rfl⟩) ⟨h_blind, (h_recv C0 hW (ci := 10) rfl hob), (h_pre C0 hW [.ref d0, .int (xs (x3 + 1).toNatClampNeg), .int (xs (x3 + 2).toNatClampNeg)])⟩ rfl rfl hl.1 rfl (lv_room (Nat.le_of_ble_eq_true rfl)) dL_law_1457 ⟨by show _ ≤ 600000; omega, by show _ ≤ 7302249; omega⟩) (fun r1 S1 H locs h1 hW => ?_)
  replace hw := h1
  have hkn : (k + 0) + mc ≤ 600000 ∧ (n + 0) + ms ≤ 7302249 := by omega
  have hW : gW D (fun q => s.heap.size ≤ q) s.heap (rcells (u.2.1 0) (u.2.1 1) ad M (va_pl S1.1 S1.2)) H locs := hW
  refine lv_aload_n hx hb dL_law_1460 rfl (lv_at hl 2 rfl) ?_
  refine lv_aload_n hx hb dL_law_1461 rfl (lv_at hl 0 rfl) ?_
  refine lv_iload_n hx hb dL_law_1462 rfl (lv_at hl 3 rfl) ?_
  refine lv_iconst (v := 1) hx hb dL_law_1463 (by decide) ?_
  refine lv_iadd hx hb dL_law_1464 ?_
  obtain ⟨hb1, hw⟩ := hw
  refine va_sld hx hb hXs hbl hbA hW.2.2 hb1 dL_law_1465 ?_
  refine lv_aload_n hx hb dL_law_1466 rfl (lv_at hl 0 rfl) ?_
  refine lv_iload_n hx hb dL_law_1467 rfl (lv_at hl 3 rfl) ?_
  refine lv_iconst (v := 2) hx hb dL_law_1468 (by decide) ?_
  refine lv_iadd hx hb dL_law_1469 ?_
  obtain ⟨hb2, hw⟩ := hw
  refine va_sld hx hb hXs hbl hbA hW.2.2 hb2 dL_law_1470 ?_
  refine g_calli (cw0 := fun M => rcells (u.2.1 0) (u.2.1 1) ad M (va_pl S1.1 S1.2)) (M := M) (As := [.int (xs (x3 + 1).toNatClampNeg), .int (xs (x3 + 2).toNatClampNeg)]) (rest := [.int r1]) C0.1 hW hl.1 (k_ifEmpty (l := l) _ (xs (x3 + 1).toNatClampNeg) (xs (x3 + 2).toNatClampNeg) _ hw) (cwV 2 hts gL_law_X10_ifEmpty rfl rfl rfl (by decide +kernel) ⟨Nat.le_of_ble_eq_true rfl, Nat.le_of_ble_eq_true rfl⟩) (va_recv (q := (RX10, TX10, 21)) hK hW.1 (ci := 11) (q0 := 0) rfl rfl) (Nat.le_of_ble_eq_true rfl) dL_law_1471 rfl ⟨by show _ ≤ 600000; omega, by show _ ≤ 7302249; omega⟩ (fun r2 M1 H locs h3 hW => ?_)
  replace hw := h3
  refine lv_icmp_eq (tgt := 1680) hx hb dL_law_1474 (by decide) (fun c1 => ?_) (fun c1 => ?_)
  · have hkn : ((k + 0) + 0) + mc ≤ 600000 ∧ ((n + 0) + 0) + ms ≤ 7302249 := by omega
    exact hKK x3 S1 M1 mc ms _ _ hkn (hw.1 c1) _ _ _ hW hl
  · exact (hw.2 c1).elim
def w_law_c39 (u : hU) (d0 L : Nat) (xs : Nat → Int32) (K : Int32 → hS → RM → Nat → Nat → Prop) (x3 : Int32) (S : hS) (M : RM) (mc ms : Nat) : Prop := (vp_in (x3 + 1) L ∧ (vp_in (x3 + 2) L ∧ ((∃ fs, rO S d0 10 fs) ∧ (∃ k1 n1 : Nat, k1 ≤ mc ∧ n1 ≤ ms ∧ w_X9_merge u (fun r1 S1 => (vp_in (x3 + 1) L ∧ (vp_in (x3 + 2) L ∧ (w_merge (fun r2 M1 => ((r1 = r2 → K x3 S1 M1 (mc - k1) (ms - n1)) ∧ (¬ r1 = r2 → False))) (xs (x3 + 1).toNatClampNeg) (xs (x3 + 2).toNatClampNeg) M)))) d0 (xs (x3 + 1).toNatClampNeg) (xs (x3 + 2).toNatClampNeg) S k1 n1))))
set_option maxHeartbeats 4000000 in
set_option maxRecDepth 100000 in
theorem t_law_c39 (C0 : hX p s m #[Value.ref b] c cL_law 4 RL wsL_law D (gt u.2.1) (fun q => s.heap.size ≤ q) u.1 u.2.2) (hXs : va_X b L xs s s.heap) (hbl : b < s.heap.size) (K : Int32 → hS → RM → Nat → Nat → Prop) (hKK : ∀ (x3 : Int32) (S : hS) (M : RM) (mc ms k n : Nat), k + mc ≤ 600000 ∧ n + ms ≤ 7302249 → K x3 S M mc ms → gG p l e room_1 s m #[Value.ref b] below meth c Q D (fun q => s.heap.size ≤ q) 4 k n (rcells (u.2.1 0) (u.2.1 1) ad M (va_pl S.1 S.2)) 1680 [(0, .ref b), (1, .ref d0), (2, .ref (ad 0)), (3, .int x3)] []) (x3 : Int32) (S : hS) (M : RM) (mc ms k n : Nat) (hkn : k + mc ≤ 600000 ∧ n + ms ≤ 7302249) (hw : w_law_c39 u d0 L xs K x3 S M mc ms) : gG p l e room_1 s m #[Value.ref b] below meth c Q D (fun q => s.heap.size ≤ q) 4 k n (rcells (u.2.1 0) (u.2.1 1) ad M (va_pl S.1 S.2)) 1479 [(0, .ref b), (1, .ref d0), (2, .ref (ad 0)), (3, .int x3)] [] := by
  obtain ⟨⟨hx, hb, hml, ho, hts, hK, hA⟩, hR⟩ := id C0
  have hbA : ¬ (fun q : Nat => s.heap.size ≤ q) b := Nat.not_le.mpr hbl
  intro H locs ls hW hl
  rw [w_law_c39] at hw
  refine lv_aload_n hx hb dL_law_1479 rfl (lv_at hl 1 rfl) ?_
  refine lv_aload_n hx hb dL_law_1480 rfl (lv_at hl 0 rfl) ?_
  refine lv_iload_n hx hb dL_law_1481 rfl (lv_at hl 3 rfl) ?_
  refine lv_iconst (v := 1) hx hb dL_law_1482 (by decide) ?_
  refine lv_iadd hx hb dL_law_1483 ?_
  obtain ⟨ha1, hw⟩ := hw
  refine va_sld hx hb hXs hbl hbA hW.2.2 ha1 dL_law_1484 ?_
  refine lv_aload_n hx hb dL_law_1485 rfl (lv_at hl 0 rfl) ?_
  refine lv_iload_n hx hb dL_law_1486 rfl (lv_at hl 3 rfl) ?_
  refine lv_iconst (v := 2) hx hb dL_law_1487 (by decide) ?_
  refine lv_iadd hx hb dL_law_1488 ?_
  obtain ⟨ha2, hw⟩ := hw
  refine va_sld hx hb hXs hbl hbA hW.2.2 ha2 dL_law_1489 ?_
  obtain ⟨hob, k1, n1, hk1, hn1, hw⟩ := hw
  have hW : gW D (fun q => s.heap.size ≤ q) s.heap (hC (rcells (u.2.1 0) (u.2.1 1) ad M []) S) H locs := hW
  refine h_goi C0 hW (va_runV (As := [.int (xs (x3 + 1).toNatClampNeg), .int (xs (x3 + 2).toNatClampNeg)]) (rest := []) ⟨hx, hb, hml, ho, hts⟩ (k_X9_merge (l := l) (u := u) (X := rcells (u.2.1 0) (u.2.1 1) ad M []) (sz := H.size) _ d0 (xs (x3 + 1).toNatClampNeg) (xs (x3 + 2).toNatClampNeg) S k1 n1 hw) (cwV 2 hts gL_law_X9_merge rfl rfl rfl (by decide +kernel) ⟨Nat.le_of_ble_eq_true rfl, Nat.le_of_ble_eq_true rfl⟩) ⟨h_blind, (h_recv C0 hW (ci := 10) rfl hob), (h_pre C0 hW [.ref d0, .int (xs (x3 + 1).toNatClampNeg), .int (xs (x3 + 2).toNatClampNeg)])⟩ rfl rfl hl.1 rfl (lv_room (Nat.le_of_ble_eq_true rfl)) dL_law_1490 ⟨by show _ ≤ 600000; omega, by show _ ≤ 7302249; omega⟩) (fun r1 S1 H locs h1 hW => ?_)
  replace hw := h1
  have hkn : (k + k1) + (mc - k1) ≤ 600000 ∧ (n + n1) + (ms - n1) ≤ 7302249 := by omega
  have hW : gW D (fun q => s.heap.size ≤ q) s.heap (rcells (u.2.1 0) (u.2.1 1) ad M (va_pl S1.1 S1.2)) H locs := hW
  refine lv_aload_n hx hb dL_law_1493 rfl (lv_at hl 2 rfl) ?_
  refine lv_aload_n hx hb dL_law_1494 rfl (lv_at hl 0 rfl) ?_
  refine lv_iload_n hx hb dL_law_1495 rfl (lv_at hl 3 rfl) ?_
  refine lv_iconst (v := 1) hx hb dL_law_1496 (by decide) ?_
  refine lv_iadd hx hb dL_law_1497 ?_
  obtain ⟨hb1, hw⟩ := hw
  refine va_sld hx hb hXs hbl hbA hW.2.2 hb1 dL_law_1498 ?_
  refine lv_aload_n hx hb dL_law_1499 rfl (lv_at hl 0 rfl) ?_
  refine lv_iload_n hx hb dL_law_1500 rfl (lv_at hl 3 rfl) ?_
  refine lv_iconst (v := 2) hx hb dL_law_1501 (by decide) ?_
  refine lv_iadd hx hb dL_law_1502 ?_
  obtain ⟨hb2, hw⟩ := hw
  refine va_sld hx hb hXs hbl hbA hW.2.2 hb2 dL_law_1503 ?_
  refine g_calli (cw0 := fun M => rcells (u.2.1 0) (u.2.1 1) ad M (va_pl S1.1 S1.2)) (M := M) (As := [.int (xs (x3 + 1).toNatClampNeg), .int (xs (x3 + 2).toNatClampNeg)]) (rest := [.int r1]) C0.1 hW hl.1 (k_merge (l := l) _ (xs (x3 + 1).toNatClampNeg) (xs (x3 + 2).toNatClampNeg) _ hw) (cwV 2 hts gL_law_X10_merge rfl rfl rfl (by decide +kernel) ⟨Nat.le_of_ble_eq_true rfl, Nat.le_of_ble_eq_true rfl⟩) (va_recv (q := (RX10, TX10, 21)) hK hW.1 (ci := 11) (q0 := 0) rfl rfl) (Nat.le_of_ble_eq_true rfl) dL_law_1504 rfl ⟨by show _ ≤ 600000; omega, by show _ ≤ 7302249; omega⟩ (fun r2 M1 H locs h3 hW => ?_)
  replace hw := h3
  refine lv_icmp_eq (tgt := 1680) hx hb dL_law_1507 (by decide) (fun c1 => ?_) (fun c1 => ?_)
  · have hkn : ((k + k1) + 0) + (mc - k1) ≤ 600000 ∧ ((n + n1) + 0) + (ms - n1) ≤ 7302249 := by omega
    exact hKK x3 S1 M1 (mc - k1) (ms - n1) _ _ hkn (hw.1 c1) _ _ _ hW hl
  · exact (hw.2 c1).elim
def w_law_c40 (u : hU) (d0 L : Nat) (xs : Nat → Int32) (K : Int32 → hS → RM → Nat → Nat → Prop) (x3 : Int32) (S : hS) (M : RM) (mc ms : Nat) : Prop := (vp_in (x3 + 1) L ∧ (vp_in (x3 + 2) L ∧ ((∃ fs, rO S d0 10 fs) ∧ (∃ k1 n1 : Nat, k1 ≤ mc ∧ n1 ≤ ms ∧ w_X9_joined u (fun r1 S1 => (vp_in (x3 + 1) L ∧ (vp_in (x3 + 2) L ∧ (w_joined (fun r2 M1 => ((r1 = r2 → K x3 S1 M1 (mc - k1) (ms - n1)) ∧ (¬ r1 = r2 → False))) (xs (x3 + 1).toNatClampNeg) (xs (x3 + 2).toNatClampNeg) M)))) d0 (xs (x3 + 1).toNatClampNeg) (xs (x3 + 2).toNatClampNeg) S k1 n1))))
set_option maxHeartbeats 4000000 in
set_option maxRecDepth 100000 in
theorem t_law_c40 (C0 : hX p s m #[Value.ref b] c cL_law 4 RL wsL_law D (gt u.2.1) (fun q => s.heap.size ≤ q) u.1 u.2.2) (hXs : va_X b L xs s s.heap) (hbl : b < s.heap.size) (K : Int32 → hS → RM → Nat → Nat → Prop) (hKK : ∀ (x3 : Int32) (S : hS) (M : RM) (mc ms k n : Nat), k + mc ≤ 600000 ∧ n + ms ≤ 7302249 → K x3 S M mc ms → gG p l e room_1 s m #[Value.ref b] below meth c Q D (fun q => s.heap.size ≤ q) 4 k n (rcells (u.2.1 0) (u.2.1 1) ad M (va_pl S.1 S.2)) 1680 [(0, .ref b), (1, .ref d0), (2, .ref (ad 0)), (3, .int x3)] []) (x3 : Int32) (S : hS) (M : RM) (mc ms k n : Nat) (hkn : k + mc ≤ 600000 ∧ n + ms ≤ 7302249) (hw : w_law_c40 u d0 L xs K x3 S M mc ms) : gG p l e room_1 s m #[Value.ref b] below meth c Q D (fun q => s.heap.size ≤ q) 4 k n (rcells (u.2.1 0) (u.2.1 1) ad M (va_pl S.1 S.2)) 1512 [(0, .ref b), (1, .ref d0), (2, .ref (ad 0)), (3, .int x3)] [] := by
  obtain ⟨⟨hx, hb, hml, ho, hts, hK, hA⟩, hR⟩ := id C0
  have hbA : ¬ (fun q : Nat => s.heap.size ≤ q) b := Nat.not_le.mpr hbl
  intro H locs ls hW hl
  rw [w_law_c40] at hw
  refine lv_aload_n hx hb dL_law_1512 rfl (lv_at hl 1 rfl) ?_
  refine lv_aload_n hx hb dL_law_1513 rfl (lv_at hl 0 rfl) ?_
  refine lv_iload_n hx hb dL_law_1514 rfl (lv_at hl 3 rfl) ?_
  refine lv_iconst (v := 1) hx hb dL_law_1515 (by decide) ?_
  refine lv_iadd hx hb dL_law_1516 ?_
  obtain ⟨ha1, hw⟩ := hw
  refine va_sld hx hb hXs hbl hbA hW.2.2 ha1 dL_law_1517 ?_
  refine lv_aload_n hx hb dL_law_1518 rfl (lv_at hl 0 rfl) ?_
  refine lv_iload_n hx hb dL_law_1519 rfl (lv_at hl 3 rfl) ?_
  refine lv_iconst (v := 2) hx hb dL_law_1520 (by decide) ?_
  refine lv_iadd hx hb dL_law_1521 ?_
  obtain ⟨ha2, hw⟩ := hw
  refine va_sld hx hb hXs hbl hbA hW.2.2 ha2 dL_law_1522 ?_
  obtain ⟨hob, k1, n1, hk1, hn1, hw⟩ := hw
  have hW : gW D (fun q => s.heap.size ≤ q) s.heap (hC (rcells (u.2.1 0) (u.2.1 1) ad M []) S) H locs := hW
  refine h_goi C0 hW (va_runV (As := [.int (xs (x3 + 1).toNatClampNeg), .int (xs (x3 + 2).toNatClampNeg)]) (rest := []) ⟨hx, hb, hml, ho, hts⟩ (k_X9_joined (l := l) (u := u) (X := rcells (u.2.1 0) (u.2.1 1) ad M []) (sz := H.size) _ d0 (xs (x3 + 1).toNatClampNeg) (xs (x3 + 2).toNatClampNeg) S k1 n1 hw) (cwV 2 hts gL_law_X9_joined rfl rfl rfl (by decide +kernel) ⟨Nat.le_of_ble_eq_true rfl, Nat.le_of_ble_eq_true rfl⟩) ⟨h_blind, (h_recv C0 hW (ci := 10) rfl hob), (h_pre C0 hW [.ref d0, .int (xs (x3 + 1).toNatClampNeg), .int (xs (x3 + 2).toNatClampNeg)])⟩ rfl rfl hl.1 rfl (lv_room (Nat.le_of_ble_eq_true rfl)) dL_law_1523 ⟨by show _ ≤ 600000; omega, by show _ ≤ 7302249; omega⟩) (fun r1 S1 H locs h1 hW => ?_)
  replace hw := h1
  have hkn : (k + k1) + (mc - k1) ≤ 600000 ∧ (n + n1) + (ms - n1) ≤ 7302249 := by omega
  have hW : gW D (fun q => s.heap.size ≤ q) s.heap (rcells (u.2.1 0) (u.2.1 1) ad M (va_pl S1.1 S1.2)) H locs := hW
  refine lv_aload_n hx hb dL_law_1526 rfl (lv_at hl 2 rfl) ?_
  refine lv_aload_n hx hb dL_law_1527 rfl (lv_at hl 0 rfl) ?_
  refine lv_iload_n hx hb dL_law_1528 rfl (lv_at hl 3 rfl) ?_
  refine lv_iconst (v := 1) hx hb dL_law_1529 (by decide) ?_
  refine lv_iadd hx hb dL_law_1530 ?_
  obtain ⟨hb1, hw⟩ := hw
  refine va_sld hx hb hXs hbl hbA hW.2.2 hb1 dL_law_1531 ?_
  refine lv_aload_n hx hb dL_law_1532 rfl (lv_at hl 0 rfl) ?_
  refine lv_iload_n hx hb dL_law_1533 rfl (lv_at hl 3 rfl) ?_
  refine lv_iconst (v := 2) hx hb dL_law_1534 (by decide) ?_
  refine lv_iadd hx hb dL_law_1535 ?_
  obtain ⟨hb2, hw⟩ := hw
  refine va_sld hx hb hXs hbl hbA hW.2.2 hb2 dL_law_1536 ?_
  refine g_calli (cw0 := fun M => rcells (u.2.1 0) (u.2.1 1) ad M (va_pl S1.1 S1.2)) (M := M) (As := [.int (xs (x3 + 1).toNatClampNeg), .int (xs (x3 + 2).toNatClampNeg)]) (rest := [.int r1]) C0.1 hW hl.1 (k_joined (l := l) _ (xs (x3 + 1).toNatClampNeg) (xs (x3 + 2).toNatClampNeg) _ hw) (cwV 2 hts gL_law_X10_joined rfl rfl rfl (by decide +kernel) ⟨Nat.le_of_ble_eq_true rfl, Nat.le_of_ble_eq_true rfl⟩) (va_recv (q := (RX10, TX10, 21)) hK hW.1 (ci := 11) (q0 := 0) rfl rfl) (Nat.le_of_ble_eq_true rfl) dL_law_1537 rfl ⟨by show _ ≤ 600000; omega, by show _ ≤ 7302249; omega⟩ (fun r2 M1 H locs h3 hW => ?_)
  replace hw := h3
  refine lv_icmp_eq (tgt := 1680) hx hb dL_law_1540 (by decide) (fun c1 => ?_) (fun c1 => ?_)
  · have hkn : ((k + k1) + 0) + (mc - k1) ≤ 600000 ∧ ((n + n1) + 0) + (ms - n1) ≤ 7302249 := by omega
    exact hKK x3 S1 M1 (mc - k1) (ms - n1) _ _ hkn (hw.1 c1) _ _ _ hW hl
  · exact (hw.2 c1).elim
def w_law_c41 (u : hU) (d0 L : Nat) (xs : Nat → Int32) (K : Int32 → hS → RM → Nat → Nat → Prop) (x3 : Int32) (S : hS) (M : RM) (mc ms : Nat) : Prop := (vp_in (x3 + 1) L ∧ ((∃ fs, rO S d0 10 fs) ∧ w_X9_joinedLength u (fun r1 => (vp_in (x3 + 1) L ∧ (w_joinedLength (fun r2 M1 => ((r1 = r2 → K x3 S M1 mc ms) ∧ (¬ r1 = r2 → False))) (xs (x3 + 1).toNatClampNeg) M))) d0 (xs (x3 + 1).toNatClampNeg) S))
set_option maxHeartbeats 4000000 in
set_option maxRecDepth 100000 in
theorem t_law_c41 (C0 : hX p s m #[Value.ref b] c cL_law 4 RL wsL_law D (gt u.2.1) (fun q => s.heap.size ≤ q) u.1 u.2.2) (hXs : va_X b L xs s s.heap) (hbl : b < s.heap.size) (K : Int32 → hS → RM → Nat → Nat → Prop) (hKK : ∀ (x3 : Int32) (S : hS) (M : RM) (mc ms k n : Nat), k + mc ≤ 600000 ∧ n + ms ≤ 7302249 → K x3 S M mc ms → gG p l e room_1 s m #[Value.ref b] below meth c Q D (fun q => s.heap.size ≤ q) 4 k n (rcells (u.2.1 0) (u.2.1 1) ad M (va_pl S.1 S.2)) 1680 [(0, .ref b), (1, .ref d0), (2, .ref (ad 0)), (3, .int x3)] []) (x3 : Int32) (S : hS) (M : RM) (mc ms k n : Nat) (hkn : k + mc ≤ 600000 ∧ n + ms ≤ 7302249) (hw : w_law_c41 u d0 L xs K x3 S M mc ms) : gG p l e room_1 s m #[Value.ref b] below meth c Q D (fun q => s.heap.size ≤ q) 4 k n (rcells (u.2.1 0) (u.2.1 1) ad M (va_pl S.1 S.2)) 1545 [(0, .ref b), (1, .ref d0), (2, .ref (ad 0)), (3, .int x3)] [] := by
  obtain ⟨⟨hx, hb, hml, ho, hts, hK, hA⟩, hR⟩ := id C0
  have hbA : ¬ (fun q : Nat => s.heap.size ≤ q) b := Nat.not_le.mpr hbl
  intro H locs ls hW hl
  rw [w_law_c41] at hw
  refine lv_aload_n hx hb dL_law_1545 rfl (lv_at hl 1 rfl) ?_
  refine lv_aload_n hx hb dL_law_1546 rfl (lv_at hl 0 rfl) ?_
  refine lv_iload_n hx hb dL_law_1547 rfl (lv_at hl 3 rfl) ?_
  refine lv_iconst (v := 1) hx hb dL_law_1548 (by decide) ?_
  refine lv_iadd hx hb dL_law_1549 ?_
  obtain ⟨ha1, hw⟩ := hw
  refine va_sld hx hb hXs hbl hbA hW.2.2 ha1 dL_law_1550 ?_
  obtain ⟨hob, hw⟩ := hw
  have hW : gW D (fun q => s.heap.size ≤ q) s.heap (hC (rcells (u.2.1 0) (u.2.1 1) ad M []) S) H locs := hW
  refine h_goi C0 hW (va_runV (As := [.int (xs (x3 + 1).toNatClampNeg)]) (rest := []) ⟨hx, hb, hml, ho, hts⟩ (k_X9_joinedLength (l := l) (u := u) (X := rcells (u.2.1 0) (u.2.1 1) ad M []) (sz := H.size) _ d0 (xs (x3 + 1).toNatClampNeg) S  hw) (cwV 1 hts gL_law_X9_joinedLength rfl rfl rfl (by decide +kernel) ⟨Nat.le_of_ble_eq_true rfl, Nat.le_of_ble_eq_true rfl⟩) ⟨h_blind, (h_recv C0 hW (ci := 10) rfl hob), (h_pre C0 hW [.ref d0, .int (xs (x3 + 1).toNatClampNeg)])⟩ rfl rfl hl.1 rfl (lv_room (Nat.le_of_ble_eq_true rfl)) dL_law_1551 ⟨by show _ ≤ 600000; omega, by show _ ≤ 7302249; omega⟩) (fun r1 S1 H locs h1 hW => ?_)
  obtain ⟨h2, hp⟩ := h1
  rw [h2] at hW
  replace hw := hp
  have hkn : (k + 0) + mc ≤ 600000 ∧ (n + 0) + ms ≤ 7302249 := by omega
  have hW : gW D (fun q => s.heap.size ≤ q) s.heap (rcells (u.2.1 0) (u.2.1 1) ad M (va_pl S.1 S.2)) H locs := hW
  refine lv_aload_n hx hb dL_law_1554 rfl (lv_at hl 2 rfl) ?_
  refine lv_aload_n hx hb dL_law_1555 rfl (lv_at hl 0 rfl) ?_
  refine lv_iload_n hx hb dL_law_1556 rfl (lv_at hl 3 rfl) ?_
  refine lv_iconst (v := 1) hx hb dL_law_1557 (by decide) ?_
  refine lv_iadd hx hb dL_law_1558 ?_
  obtain ⟨hb1, hw⟩ := hw
  refine va_sld hx hb hXs hbl hbA hW.2.2 hb1 dL_law_1559 ?_
  refine g_calli (cw0 := fun M => rcells (u.2.1 0) (u.2.1 1) ad M (va_pl S.1 S.2)) (M := M) (As := [.int (xs (x3 + 1).toNatClampNeg)]) (rest := [.int r1]) C0.1 hW hl.1 (k_joinedLength (l := l) _ (xs (x3 + 1).toNatClampNeg) _ hw) (cwV 1 hts gL_law_X10_joinedLength rfl rfl rfl (by decide +kernel) ⟨Nat.le_of_ble_eq_true rfl, Nat.le_of_ble_eq_true rfl⟩) (va_recv (q := (RX10, TX10, 21)) hK hW.1 (ci := 11) (q0 := 0) rfl rfl) (Nat.le_of_ble_eq_true rfl) dL_law_1560 rfl ⟨by show _ ≤ 600000; omega, by show _ ≤ 7302249; omega⟩ (fun r2 M1 H locs h3 hW => ?_)
  replace hw := h3
  refine lv_icmp_eq (tgt := 1680) hx hb dL_law_1563 (by decide) (fun c1 => ?_) (fun c1 => ?_)
  · have hkn : ((k + 0) + 0) + mc ≤ 600000 ∧ ((n + 0) + 0) + ms ≤ 7302249 := by omega
    exact hKK x3 S M1 mc ms _ _ hkn (hw.1 c1) _ _ _ hW hl
  · exact (hw.2 c1).elim
def w_law_c42 (u : hU) (d0 L : Nat) (xs : Nat → Int32) (K : Int32 → hS → RM → Nat → Nat → Prop) (x3 : Int32) (S : hS) (M : RM) (mc ms : Nat) : Prop := (vp_in (x3 + 1) L ∧ (vp_in (x3 + 2) L ∧ (vp_in (x3 + 3) L ∧ ((∃ fs, rO S d0 10 fs) ∧ (∃ k1 n1 : Nat, k1 ≤ mc ∧ n1 ≤ ms ∧ w_X9_setJoined u (fun r1 S1 => (vp_in (x3 + 1) L ∧ (vp_in (x3 + 2) L ∧ (vp_in (x3 + 3) L ∧ (w_setJoined (fun r2 M1 => ((r1 = r2 → K x3 S1 M1 (mc - k1) (ms - n1)) ∧ (¬ r1 = r2 → False))) (xs (x3 + 1).toNatClampNeg) (xs (x3 + 2).toNatClampNeg) (xs (x3 + 3).toNatClampNeg) M))))) d0 (xs (x3 + 1).toNatClampNeg) (xs (x3 + 2).toNatClampNeg) (xs (x3 + 3).toNatClampNeg) S k1 n1)))))
set_option maxHeartbeats 4000000 in
set_option maxRecDepth 100000 in
theorem t_law_c42 (C0 : hX p s m #[Value.ref b] c cL_law 4 RL wsL_law D (gt u.2.1) (fun q => s.heap.size ≤ q) u.1 u.2.2) (hXs : va_X b L xs s s.heap) (hbl : b < s.heap.size) (K : Int32 → hS → RM → Nat → Nat → Prop) (hKK : ∀ (x3 : Int32) (S : hS) (M : RM) (mc ms k n : Nat), k + mc ≤ 600000 ∧ n + ms ≤ 7302249 → K x3 S M mc ms → gG p l e room_1 s m #[Value.ref b] below meth c Q D (fun q => s.heap.size ≤ q) 4 k n (rcells (u.2.1 0) (u.2.1 1) ad M (va_pl S.1 S.2)) 1680 [(0, .ref b), (1, .ref d0), (2, .ref (ad 0)), (3, .int x3)] []) (x3 : Int32) (S : hS) (M : RM) (mc ms k n : Nat) (hkn : k + mc ≤ 600000 ∧ n + ms ≤ 7302249) (hw : w_law_c42 u d0 L xs K x3 S M mc ms) : gG p l e room_1 s m #[Value.ref b] below meth c Q D (fun q => s.heap.size ≤ q) 4 k n (rcells (u.2.1 0) (u.2.1 1) ad M (va_pl S.1 S.2)) 1568 [(0, .ref b), (1, .ref d0), (2, .ref (ad 0)), (3, .int x3)] [] := by
  obtain ⟨⟨hx, hb, hml, ho, hts, hK, hA⟩, hR⟩ := id C0
  have hbA : ¬ (fun q : Nat => s.heap.size ≤ q) b := Nat.not_le.mpr hbl
  intro H locs ls hW hl
  rw [w_law_c42] at hw
  refine lv_aload_n hx hb dL_law_1568 rfl (lv_at hl 1 rfl) ?_
  refine lv_aload_n hx hb dL_law_1569 rfl (lv_at hl 0 rfl) ?_
  refine lv_iload_n hx hb dL_law_1570 rfl (lv_at hl 3 rfl) ?_
  refine lv_iconst (v := 1) hx hb dL_law_1571 (by decide) ?_
  refine lv_iadd hx hb dL_law_1572 ?_
  obtain ⟨ha1, hw⟩ := hw
  refine va_sld hx hb hXs hbl hbA hW.2.2 ha1 dL_law_1573 ?_
  refine lv_aload_n hx hb dL_law_1574 rfl (lv_at hl 0 rfl) ?_
  refine lv_iload_n hx hb dL_law_1575 rfl (lv_at hl 3 rfl) ?_
  refine lv_iconst (v := 2) hx hb dL_law_1576 (by decide) ?_
  refine lv_iadd hx hb dL_law_1577 ?_
  obtain ⟨ha2, hw⟩ := hw
  refine va_sld hx hb hXs hbl hbA hW.2.2 ha2 dL_law_1578 ?_
  refine lv_aload_n hx hb dL_law_1579 rfl (lv_at hl 0 rfl) ?_
  refine lv_iload_n hx hb dL_law_1580 rfl (lv_at hl 3 rfl) ?_
  refine lv_iconst (v := 3) hx hb dL_law_1581 (by decide) ?_
  refine lv_iadd hx hb dL_law_1582 ?_
  obtain ⟨ha3, hw⟩ := hw
  refine va_sld hx hb hXs hbl hbA hW.2.2 ha3 dL_law_1583 ?_
  obtain ⟨hob, k1, n1, hk1, hn1, hw⟩ := hw
  have hW : gW D (fun q => s.heap.size ≤ q) s.heap (hC (rcells (u.2.1 0) (u.2.1 1) ad M []) S) H locs := hW
  refine h_goi C0 hW (va_runV (As := [.int (xs (x3 + 1).toNatClampNeg), .int (xs (x3 + 2).toNatClampNeg), .int (xs (x3 + 3).toNatClampNeg)]) (rest := []) ⟨hx, hb, hml, ho, hts⟩ (k_X9_setJoined (l := l) (u := u) (X := rcells (u.2.1 0) (u.2.1 1) ad M []) (sz := H.size) _ d0 (xs (x3 + 1).toNatClampNeg) (xs (x3 + 2).toNatClampNeg) (xs (x3 + 3).toNatClampNeg) S k1 n1 hw) (cwV 3 hts gL_law_X9_setJoined rfl rfl rfl (by decide +kernel) ⟨Nat.le_of_ble_eq_true rfl, Nat.le_of_ble_eq_true rfl⟩) ⟨h_blind, (h_recv C0 hW (ci := 10) rfl hob), (h_pre C0 hW [.ref d0, .int (xs (x3 + 1).toNatClampNeg), .int (xs (x3 + 2).toNatClampNeg), .int (xs (x3 + 3).toNatClampNeg)])⟩ rfl rfl hl.1 rfl (lv_room (Nat.le_of_ble_eq_true rfl)) dL_law_1584 ⟨by show _ ≤ 600000; omega, by show _ ≤ 7302249; omega⟩) (fun r1 S1 H locs h1 hW => ?_)
  replace hw := h1
  have hkn : (k + k1) + (mc - k1) ≤ 600000 ∧ (n + n1) + (ms - n1) ≤ 7302249 := by omega
  have hW : gW D (fun q => s.heap.size ≤ q) s.heap (rcells (u.2.1 0) (u.2.1 1) ad M (va_pl S1.1 S1.2)) H locs := hW
  refine lv_aload_n hx hb dL_law_1587 rfl (lv_at hl 2 rfl) ?_
  refine lv_aload_n hx hb dL_law_1588 rfl (lv_at hl 0 rfl) ?_
  refine lv_iload_n hx hb dL_law_1589 rfl (lv_at hl 3 rfl) ?_
  refine lv_iconst (v := 1) hx hb dL_law_1590 (by decide) ?_
  refine lv_iadd hx hb dL_law_1591 ?_
  obtain ⟨hb1, hw⟩ := hw
  refine va_sld hx hb hXs hbl hbA hW.2.2 hb1 dL_law_1592 ?_
  refine lv_aload_n hx hb dL_law_1593 rfl (lv_at hl 0 rfl) ?_
  refine lv_iload_n hx hb dL_law_1594 rfl (lv_at hl 3 rfl) ?_
  refine lv_iconst (v := 2) hx hb dL_law_1595 (by decide) ?_
  refine lv_iadd hx hb dL_law_1596 ?_
  obtain ⟨hb2, hw⟩ := hw
  refine va_sld hx hb hXs hbl hbA hW.2.2 hb2 dL_law_1597 ?_
  refine lv_aload_n hx hb dL_law_1598 rfl (lv_at hl 0 rfl) ?_
  refine lv_iload_n hx hb dL_law_1599 rfl (lv_at hl 3 rfl) ?_
  refine lv_iconst (v := 3) hx hb dL_law_1600 (by decide) ?_
  refine lv_iadd hx hb dL_law_1601 ?_
  obtain ⟨hb3, hw⟩ := hw
  refine va_sld hx hb hXs hbl hbA hW.2.2 hb3 dL_law_1602 ?_
  refine g_calli (cw0 := fun M => rcells (u.2.1 0) (u.2.1 1) ad M (va_pl S1.1 S1.2)) (M := M) (As := [.int (xs (x3 + 1).toNatClampNeg), .int (xs (x3 + 2).toNatClampNeg), .int (xs (x3 + 3).toNatClampNeg)]) (rest := [.int r1]) C0.1 hW hl.1 (k_setJoined (l := l) _ (xs (x3 + 1).toNatClampNeg) (xs (x3 + 2).toNatClampNeg) (xs (x3 + 3).toNatClampNeg) _ hw) (cwV 3 hts gL_law_X10_setJoined rfl rfl rfl (by decide +kernel) ⟨Nat.le_of_ble_eq_true rfl, Nat.le_of_ble_eq_true rfl⟩) (va_recv (q := (RX10, TX10, 21)) hK hW.1 (ci := 11) (q0 := 0) rfl rfl) (Nat.le_of_ble_eq_true rfl) dL_law_1603 rfl ⟨by show _ ≤ 600000; omega, by show _ ≤ 7302249; omega⟩ (fun r2 M1 H locs h3 hW => ?_)
  replace hw := h3
  refine lv_icmp_eq (tgt := 1680) hx hb dL_law_1606 (by decide) (fun c1 => ?_) (fun c1 => ?_)
  · have hkn : ((k + k1) + 0) + (mc - k1) ≤ 600000 ∧ ((n + n1) + 0) + (ms - n1) ≤ 7302249 := by omega
    exact hKK x3 S1 M1 (mc - k1) (ms - n1) _ _ hkn (hw.1 c1) _ _ _ hW hl
  · exact (hw.2 c1).elim
def w_law_c43 (u : hU) (d0 L : Nat) (xs : Nat → Int32) (K : Int32 → hS → RM → Nat → Nat → Prop) (x3 : Int32) (S : hS) (M : RM) (mc ms : Nat) : Prop := (vp_in (x3 + 1) L ∧ ((∃ fs, rO S d0 10 fs) ∧ (∃ k1 n1 : Nat, k1 ≤ mc ∧ n1 ≤ ms ∧ w_X9_keep u (fun r1 S1 => (vp_in (x3 + 1) L ∧ (w_keep (fun r2 M1 => ((r1 = r2 → K x3 S1 M1 (mc - k1) (ms - n1)) ∧ (¬ r1 = r2 → False))) (xs (x3 + 1).toNatClampNeg) M))) d0 (xs (x3 + 1).toNatClampNeg) S k1 n1)))
set_option maxHeartbeats 4000000 in
set_option maxRecDepth 100000 in
theorem t_law_c43 (C0 : hX p s m #[Value.ref b] c cL_law 4 RL wsL_law D (gt u.2.1) (fun q => s.heap.size ≤ q) u.1 u.2.2) (hXs : va_X b L xs s s.heap) (hbl : b < s.heap.size) (K : Int32 → hS → RM → Nat → Nat → Prop) (hKK : ∀ (x3 : Int32) (S : hS) (M : RM) (mc ms k n : Nat), k + mc ≤ 600000 ∧ n + ms ≤ 7302249 → K x3 S M mc ms → gG p l e room_1 s m #[Value.ref b] below meth c Q D (fun q => s.heap.size ≤ q) 4 k n (rcells (u.2.1 0) (u.2.1 1) ad M (va_pl S.1 S.2)) 1680 [(0, .ref b), (1, .ref d0), (2, .ref (ad 0)), (3, .int x3)] []) (x3 : Int32) (S : hS) (M : RM) (mc ms k n : Nat) (hkn : k + mc ≤ 600000 ∧ n + ms ≤ 7302249) (hw : w_law_c43 u d0 L xs K x3 S M mc ms) : gG p l e room_1 s m #[Value.ref b] below meth c Q D (fun q => s.heap.size ≤ q) 4 k n (rcells (u.2.1 0) (u.2.1 1) ad M (va_pl S.1 S.2)) 1611 [(0, .ref b), (1, .ref d0), (2, .ref (ad 0)), (3, .int x3)] [] := by
  obtain ⟨⟨hx, hb, hml, ho, hts, hK, hA⟩, hR⟩ := id C0
  have hbA : ¬ (fun q : Nat => s.heap.size ≤ q) b := Nat.not_le.mpr hbl
  intro H locs ls hW hl
  rw [w_law_c43] at hw
  refine lv_aload_n hx hb dL_law_1611 rfl (lv_at hl 1 rfl) ?_
  refine lv_aload_n hx hb dL_law_1612 rfl (lv_at hl 0 rfl) ?_
  refine lv_iload_n hx hb dL_law_1613 rfl (lv_at hl 3 rfl) ?_
  refine lv_iconst (v := 1) hx hb dL_law_1614 (by decide) ?_
  refine lv_iadd hx hb dL_law_1615 ?_
  obtain ⟨ha1, hw⟩ := hw
  refine va_sld hx hb hXs hbl hbA hW.2.2 ha1 dL_law_1616 ?_
  obtain ⟨hob, k1, n1, hk1, hn1, hw⟩ := hw
  have hW : gW D (fun q => s.heap.size ≤ q) s.heap (hC (rcells (u.2.1 0) (u.2.1 1) ad M []) S) H locs := hW
  refine h_goi C0 hW (va_runV (As := [.int (xs (x3 + 1).toNatClampNeg)]) (rest := []) ⟨hx, hb, hml, ho, hts⟩ (k_X9_keep (l := l) (u := u) (X := rcells (u.2.1 0) (u.2.1 1) ad M []) (sz := H.size) _ d0 (xs (x3 + 1).toNatClampNeg) S k1 n1 hw) (cwV 1 hts gL_law_X9_keep rfl rfl rfl (by decide +kernel) ⟨Nat.le_of_ble_eq_true rfl, Nat.le_of_ble_eq_true rfl⟩) ⟨h_blind, (h_recv C0 hW (ci := 10) rfl hob), (h_pre C0 hW [.ref d0, .int (xs (x3 + 1).toNatClampNeg)])⟩ rfl rfl hl.1 rfl (lv_room (Nat.le_of_ble_eq_true rfl)) dL_law_1617 ⟨by show _ ≤ 600000; omega, by show _ ≤ 7302249; omega⟩) (fun r1 S1 H locs h1 hW => ?_)
  replace hw := h1
  have hkn : (k + k1) + (mc - k1) ≤ 600000 ∧ (n + n1) + (ms - n1) ≤ 7302249 := by omega
  have hW : gW D (fun q => s.heap.size ≤ q) s.heap (rcells (u.2.1 0) (u.2.1 1) ad M (va_pl S1.1 S1.2)) H locs := hW
  refine lv_aload_n hx hb dL_law_1620 rfl (lv_at hl 2 rfl) ?_
  refine lv_aload_n hx hb dL_law_1621 rfl (lv_at hl 0 rfl) ?_
  refine lv_iload_n hx hb dL_law_1622 rfl (lv_at hl 3 rfl) ?_
  refine lv_iconst (v := 1) hx hb dL_law_1623 (by decide) ?_
  refine lv_iadd hx hb dL_law_1624 ?_
  obtain ⟨hb1, hw⟩ := hw
  refine va_sld hx hb hXs hbl hbA hW.2.2 hb1 dL_law_1625 ?_
  refine g_calli (cw0 := fun M => rcells (u.2.1 0) (u.2.1 1) ad M (va_pl S1.1 S1.2)) (M := M) (As := [.int (xs (x3 + 1).toNatClampNeg)]) (rest := [.int r1]) C0.1 hW hl.1 (k_keep (l := l) _ (xs (x3 + 1).toNatClampNeg) _ hw) (cwV 1 hts gL_law_X10_keep rfl rfl rfl (by decide +kernel) ⟨Nat.le_of_ble_eq_true rfl, Nat.le_of_ble_eq_true rfl⟩) (va_recv (q := (RX10, TX10, 21)) hK hW.1 (ci := 11) (q0 := 0) rfl rfl) (Nat.le_of_ble_eq_true rfl) dL_law_1626 rfl ⟨by show _ ≤ 600000; omega, by show _ ≤ 7302249; omega⟩ (fun r2 M1 H locs h3 hW => ?_)
  replace hw := h3
  refine lv_icmp_eq (tgt := 1680) hx hb dL_law_1629 (by decide) (fun c1 => ?_) (fun c1 => ?_)
  · have hkn : ((k + k1) + 0) + (mc - k1) ≤ 600000 ∧ ((n + n1) + 0) + (ms - n1) ≤ 7302249 := by omega
    exact hKK x3 S1 M1 (mc - k1) (ms - n1) _ _ hkn (hw.1 c1) _ _ _ hW hl
  · exact (hw.2 c1).elim
def w_law_c44 (u : hU) (d0 L : Nat) (xs : Nat → Int32) (K : Int32 → hS → RM → Nat → Nat → Prop) (x3 : Int32) (S : hS) (M : RM) (mc ms : Nat) : Prop := (vp_in (x3 + 1) L ∧ ((∃ fs, rO S d0 10 fs) ∧ w_X9_restore u (fun r1 S1 => (vp_in (x3 + 1) L ∧ (w_restore (fun r2 M1 => ((r1 = r2 → K x3 S1 M1 mc ms) ∧ (¬ r1 = r2 → False))) (xs (x3 + 1).toNatClampNeg) M))) d0 (xs (x3 + 1).toNatClampNeg) S))
set_option maxHeartbeats 4000000 in
set_option maxRecDepth 100000 in
theorem t_law_c44 (C0 : hX p s m #[Value.ref b] c cL_law 4 RL wsL_law D (gt u.2.1) (fun q => s.heap.size ≤ q) u.1 u.2.2) (hXs : va_X b L xs s s.heap) (hbl : b < s.heap.size) (K : Int32 → hS → RM → Nat → Nat → Prop) (hKK : ∀ (x3 : Int32) (S : hS) (M : RM) (mc ms k n : Nat), k + mc ≤ 600000 ∧ n + ms ≤ 7302249 → K x3 S M mc ms → gG p l e room_1 s m #[Value.ref b] below meth c Q D (fun q => s.heap.size ≤ q) 4 k n (rcells (u.2.1 0) (u.2.1 1) ad M (va_pl S.1 S.2)) 1680 [(0, .ref b), (1, .ref d0), (2, .ref (ad 0)), (3, .int x3)] []) (x3 : Int32) (S : hS) (M : RM) (mc ms k n : Nat) (hkn : k + mc ≤ 600000 ∧ n + ms ≤ 7302249) (hw : w_law_c44 u d0 L xs K x3 S M mc ms) : gG p l e room_1 s m #[Value.ref b] below meth c Q D (fun q => s.heap.size ≤ q) 4 k n (rcells (u.2.1 0) (u.2.1 1) ad M (va_pl S.1 S.2)) 1634 [(0, .ref b), (1, .ref d0), (2, .ref (ad 0)), (3, .int x3)] [] := by
  obtain ⟨⟨hx, hb, hml, ho, hts, hK, hA⟩, hR⟩ := id C0
  have hbA : ¬ (fun q : Nat => s.heap.size ≤ q) b := Nat.not_le.mpr hbl
  intro H locs ls hW hl
  rw [w_law_c44] at hw
  refine lv_aload_n hx hb dL_law_1634 rfl (lv_at hl 1 rfl) ?_
  refine lv_aload_n hx hb dL_law_1635 rfl (lv_at hl 0 rfl) ?_
  refine lv_iload_n hx hb dL_law_1636 rfl (lv_at hl 3 rfl) ?_
  refine lv_iconst (v := 1) hx hb dL_law_1637 (by decide) ?_
  refine lv_iadd hx hb dL_law_1638 ?_
  obtain ⟨ha1, hw⟩ := hw
  refine va_sld hx hb hXs hbl hbA hW.2.2 ha1 dL_law_1639 ?_
  obtain ⟨hob, hw⟩ := hw
  have hW : gW D (fun q => s.heap.size ≤ q) s.heap (hC (rcells (u.2.1 0) (u.2.1 1) ad M []) S) H locs := hW
  refine h_goi C0 hW (va_runV (As := [.int (xs (x3 + 1).toNatClampNeg)]) (rest := []) ⟨hx, hb, hml, ho, hts⟩ (k_X9_restore (l := l) (u := u) (X := rcells (u.2.1 0) (u.2.1 1) ad M []) (sz := H.size) _ d0 (xs (x3 + 1).toNatClampNeg) S  hw) (cwV 1 hts gL_law_X9_restore rfl rfl rfl (by decide +kernel) ⟨Nat.le_of_ble_eq_true rfl, Nat.le_of_ble_eq_true rfl⟩) ⟨h_blind, (h_recv C0 hW (ci := 10) rfl hob), (h_pre C0 hW [.ref d0, .int (xs (x3 + 1).toNatClampNeg)])⟩ rfl rfl hl.1 rfl (lv_room (Nat.le_of_ble_eq_true rfl)) dL_law_1640 ⟨by show _ ≤ 600000; omega, by show _ ≤ 7302249; omega⟩) (fun r1 S1 H locs h1 hW => ?_)
  replace hw := h1
  have hkn : (k + 0) + mc ≤ 600000 ∧ (n + 0) + ms ≤ 7302249 := by omega
  have hW : gW D (fun q => s.heap.size ≤ q) s.heap (rcells (u.2.1 0) (u.2.1 1) ad M (va_pl S1.1 S1.2)) H locs := hW
  refine lv_aload_n hx hb dL_law_1643 rfl (lv_at hl 2 rfl) ?_
  refine lv_aload_n hx hb dL_law_1644 rfl (lv_at hl 0 rfl) ?_
  refine lv_iload_n hx hb dL_law_1645 rfl (lv_at hl 3 rfl) ?_
  refine lv_iconst (v := 1) hx hb dL_law_1646 (by decide) ?_
  refine lv_iadd hx hb dL_law_1647 ?_
  obtain ⟨hb1, hw⟩ := hw
  refine va_sld hx hb hXs hbl hbA hW.2.2 hb1 dL_law_1648 ?_
  refine g_calli (cw0 := fun M => rcells (u.2.1 0) (u.2.1 1) ad M (va_pl S1.1 S1.2)) (M := M) (As := [.int (xs (x3 + 1).toNatClampNeg)]) (rest := [.int r1]) C0.1 hW hl.1 (k_restore (l := l) _ (xs (x3 + 1).toNatClampNeg) _ hw) (cwV 1 hts gL_law_X10_restore rfl rfl rfl (by decide +kernel) ⟨Nat.le_of_ble_eq_true rfl, Nat.le_of_ble_eq_true rfl⟩) (va_recv (q := (RX10, TX10, 21)) hK hW.1 (ci := 11) (q0 := 0) rfl rfl) (Nat.le_of_ble_eq_true rfl) dL_law_1649 rfl ⟨by show _ ≤ 600000; omega, by show _ ≤ 7302249; omega⟩ (fun r2 M1 H locs h3 hW => ?_)
  replace hw := h3
  refine lv_icmp_eq (tgt := 1680) hx hb dL_law_1652 (by decide) (fun c1 => ?_) (fun c1 => ?_)
  · have hkn : ((k + 0) + 0) + mc ≤ 600000 ∧ ((n + 0) + 0) + ms ≤ 7302249 := by omega
    exact hKK x3 S1 M1 mc ms _ _ hkn (hw.1 c1) _ _ _ hW hl
  · exact (hw.2 c1).elim
def w_law_c45 (u : hU) (d0 L : Nat) (xs : Nat → Int32) (K : Int32 → hS → RM → Nat → Nat → Prop) (x3 : Int32) (S : hS) (M : RM) (mc ms : Nat) : Prop := (vp_in (x3 + 1) L ∧ ((∃ fs, rO S d0 10 fs) ∧ w_X9_refusals u (fun r1 => (vp_in (x3 + 1) L ∧ (w_refusals (fun r2 M1 => ((r1 = r2 → K x3 S M1 mc ms) ∧ (¬ r1 = r2 → False))) (xs (x3 + 1).toNatClampNeg) M))) d0 (xs (x3 + 1).toNatClampNeg) S))
set_option maxHeartbeats 4000000 in
set_option maxRecDepth 100000 in
theorem t_law_c45 (C0 : hX p s m #[Value.ref b] c cL_law 4 RL wsL_law D (gt u.2.1) (fun q => s.heap.size ≤ q) u.1 u.2.2) (hXs : va_X b L xs s s.heap) (hbl : b < s.heap.size) (K : Int32 → hS → RM → Nat → Nat → Prop) (hKK : ∀ (x3 : Int32) (S : hS) (M : RM) (mc ms k n : Nat), k + mc ≤ 600000 ∧ n + ms ≤ 7302249 → K x3 S M mc ms → gG p l e room_1 s m #[Value.ref b] below meth c Q D (fun q => s.heap.size ≤ q) 4 k n (rcells (u.2.1 0) (u.2.1 1) ad M (va_pl S.1 S.2)) 1680 [(0, .ref b), (1, .ref d0), (2, .ref (ad 0)), (3, .int x3)] []) (x3 : Int32) (S : hS) (M : RM) (mc ms k n : Nat) (hkn : k + mc ≤ 600000 ∧ n + ms ≤ 7302249) (hw : w_law_c45 u d0 L xs K x3 S M mc ms) : gG p l e room_1 s m #[Value.ref b] below meth c Q D (fun q => s.heap.size ≤ q) 4 k n (rcells (u.2.1 0) (u.2.1 1) ad M (va_pl S.1 S.2)) 1657 [(0, .ref b), (1, .ref d0), (2, .ref (ad 0)), (3, .int x3)] [] := by
  obtain ⟨⟨hx, hb, hml, ho, hts, hK, hA⟩, hR⟩ := id C0
  have hbA : ¬ (fun q : Nat => s.heap.size ≤ q) b := Nat.not_le.mpr hbl
  intro H locs ls hW hl
  rw [w_law_c45] at hw
  refine lv_aload_n hx hb dL_law_1657 rfl (lv_at hl 1 rfl) ?_
  refine lv_aload_n hx hb dL_law_1658 rfl (lv_at hl 0 rfl) ?_
  refine lv_iload_n hx hb dL_law_1659 rfl (lv_at hl 3 rfl) ?_
  refine lv_iconst (v := 1) hx hb dL_law_1660 (by decide) ?_
  refine lv_iadd hx hb dL_law_1661 ?_
  obtain ⟨ha1, hw⟩ := hw
  refine va_sld hx hb hXs hbl hbA hW.2.2 ha1 dL_law_1662 ?_
  obtain ⟨hob, hw⟩ := hw
  have hW : gW D (fun q => s.heap.size ≤ q) s.heap (hC (rcells (u.2.1 0) (u.2.1 1) ad M []) S) H locs := hW
  refine h_goi C0 hW (va_runV (As := [.int (xs (x3 + 1).toNatClampNeg)]) (rest := []) ⟨hx, hb, hml, ho, hts⟩ (k_X9_refusals (l := l) (u := u) (X := rcells (u.2.1 0) (u.2.1 1) ad M []) (sz := H.size) _ d0 (xs (x3 + 1).toNatClampNeg) S  hw) (cwV 1 hts gL_law_X9_refusals rfl rfl rfl (by decide +kernel) ⟨Nat.le_of_ble_eq_true rfl, Nat.le_of_ble_eq_true rfl⟩) ⟨h_blind, (h_recv C0 hW (ci := 10) rfl hob), (h_pre C0 hW [.ref d0, .int (xs (x3 + 1).toNatClampNeg)])⟩ rfl rfl hl.1 rfl (lv_room (Nat.le_of_ble_eq_true rfl)) dL_law_1663 ⟨by show _ ≤ 600000; omega, by show _ ≤ 7302249; omega⟩) (fun r1 S1 H locs h1 hW => ?_)
  obtain ⟨h2, hp⟩ := h1
  rw [h2] at hW
  replace hw := hp
  have hkn : (k + 0) + mc ≤ 600000 ∧ (n + 0) + ms ≤ 7302249 := by omega
  have hW : gW D (fun q => s.heap.size ≤ q) s.heap (rcells (u.2.1 0) (u.2.1 1) ad M (va_pl S.1 S.2)) H locs := hW
  refine lv_aload_n hx hb dL_law_1666 rfl (lv_at hl 2 rfl) ?_
  refine lv_aload_n hx hb dL_law_1667 rfl (lv_at hl 0 rfl) ?_
  refine lv_iload_n hx hb dL_law_1668 rfl (lv_at hl 3 rfl) ?_
  refine lv_iconst (v := 1) hx hb dL_law_1669 (by decide) ?_
  refine lv_iadd hx hb dL_law_1670 ?_
  obtain ⟨hb1, hw⟩ := hw
  refine va_sld hx hb hXs hbl hbA hW.2.2 hb1 dL_law_1671 ?_
  refine g_calli (cw0 := fun M => rcells (u.2.1 0) (u.2.1 1) ad M (va_pl S.1 S.2)) (M := M) (As := [.int (xs (x3 + 1).toNatClampNeg)]) (rest := [.int r1]) C0.1 hW hl.1 (k_refusals (l := l) _ (xs (x3 + 1).toNatClampNeg) _ hw) (cwV 1 hts gL_law_X10_refusals rfl rfl rfl (by decide +kernel) ⟨Nat.le_of_ble_eq_true rfl, Nat.le_of_ble_eq_true rfl⟩) (va_recv (q := (RX10, TX10, 21)) hK hW.1 (ci := 11) (q0 := 0) rfl rfl) (Nat.le_of_ble_eq_true rfl) dL_law_1672 rfl ⟨by show _ ≤ 600000; omega, by show _ ≤ 7302249; omega⟩ (fun r2 M1 H locs h3 hW => ?_)
  replace hw := h3
  refine lv_icmp_eq (tgt := 1680) hx hb dL_law_1675 (by decide) (fun c1 => ?_) (fun c1 => ?_)
  · have hkn : ((k + 0) + 0) + mc ≤ 600000 ∧ ((n + 0) + 0) + ms ≤ 7302249 := by omega
    exact hKK x3 S M1 mc ms _ _ hkn (hw.1 c1) _ _ _ hW hl
  · exact (hw.2 c1).elim
def w_law_18 (u : hU) (d0 L : Nat) (xs : Nat → Int32) : Nat → Int32 → hS → RM → Nat → Nat → Prop
  | 0, _, _, _, _, _ => False
  | nf + 1, x3, S, M, mc, ms => ((nI L - 5 < x3 → True) ∧ (¬ nI L - 5 < x3 → (vp_in x3 L ∧ (∀ v : Int32, v = xs x3.toNatClampNeg &&& 63 → (((v < 0 ∨ 45 < v) → (∀ x4 : Int32, x4 = x3 + 5 → w_law_18 u d0 L xs nf x4 S M mc ms)) ∧ (v = 0 → w_law_c0 u d0 L xs (fun x3 S M mc ms => ∀ x4 : Int32, x4 = x3 + 5 → w_law_18 u d0 L xs nf x4 S M mc ms) x3 S M mc ms) ∧ (v = 1 → w_law_c1 u d0 L xs (fun x3 S M mc ms => ∀ x4 : Int32, x4 = x3 + 5 → w_law_18 u d0 L xs nf x4 S M mc ms) x3 S M mc ms) ∧ (v = 2 → w_law_c2 u d0 L xs (fun x3 S M mc ms => ∀ x4 : Int32, x4 = x3 + 5 → w_law_18 u d0 L xs nf x4 S M mc ms) x3 S M mc ms) ∧ (v = 3 → w_law_c3 u d0 L xs (fun x3 S M mc ms => ∀ x4 : Int32, x4 = x3 + 5 → w_law_18 u d0 L xs nf x4 S M mc ms) x3 S M mc ms) ∧ (v = 4 → w_law_c4 u d0 L xs (fun x3 S M mc ms => ∀ x4 : Int32, x4 = x3 + 5 → w_law_18 u d0 L xs nf x4 S M mc ms) x3 S M mc ms) ∧ (v = 5 → w_law_c5 u d0 L xs (fun x3 S M mc ms => ∀ x4 : Int32, x4 = x3 + 5 → w_law_18 u d0 L xs nf x4 S M mc ms) x3 S M mc ms) ∧ (v = 6 → w_law_c6 u d0 L xs (fun x3 S M mc ms => ∀ x4 : Int32, x4 = x3 + 5 → w_law_18 u d0 L xs nf x4 S M mc ms) x3 S M mc ms) ∧ (v = 7 → w_law_c7 u d0 L xs (fun x3 S M mc ms => ∀ x4 : Int32, x4 = x3 + 5 → w_law_18 u d0 L xs nf x4 S M mc ms) x3 S M mc ms) ∧ (v = 8 → w_law_c8 u d0 L xs (fun x3 S M mc ms => ∀ x4 : Int32, x4 = x3 + 5 → w_law_18 u d0 L xs nf x4 S M mc ms) x3 S M mc ms) ∧ (v = 9 → w_law_c9 u d0 L xs (fun x3 S M mc ms => ∀ x4 : Int32, x4 = x3 + 5 → w_law_18 u d0 L xs nf x4 S M mc ms) x3 S M mc ms) ∧ (v = 10 → w_law_c10 u d0 L xs (fun x3 S M mc ms => ∀ x4 : Int32, x4 = x3 + 5 → w_law_18 u d0 L xs nf x4 S M mc ms) x3 S M mc ms) ∧ (v = 11 → w_law_c11 u d0 L xs (fun x3 S M mc ms => ∀ x4 : Int32, x4 = x3 + 5 → w_law_18 u d0 L xs nf x4 S M mc ms) x3 S M mc ms) ∧ (v = 12 → w_law_c12 u d0 L xs (fun x3 S M mc ms => ∀ x4 : Int32, x4 = x3 + 5 → w_law_18 u d0 L xs nf x4 S M mc ms) x3 S M mc ms) ∧ (v = 13 → w_law_c13 u d0 L xs (fun x3 S M mc ms => ∀ x4 : Int32, x4 = x3 + 5 → w_law_18 u d0 L xs nf x4 S M mc ms) x3 S M mc ms) ∧ (v = 14 → w_law_c14 u d0 L xs (fun x3 S M mc ms => ∀ x4 : Int32, x4 = x3 + 5 → w_law_18 u d0 L xs nf x4 S M mc ms) x3 S M mc ms) ∧ (v = 15 → w_law_c15 u d0 L xs (fun x3 S M mc ms => ∀ x4 : Int32, x4 = x3 + 5 → w_law_18 u d0 L xs nf x4 S M mc ms) x3 S M mc ms) ∧ (v = 16 → w_law_c16 u d0 L xs (fun x3 S M mc ms => ∀ x4 : Int32, x4 = x3 + 5 → w_law_18 u d0 L xs nf x4 S M mc ms) x3 S M mc ms) ∧ (v = 17 → w_law_c17 u d0 L xs (fun x3 S M mc ms => ∀ x4 : Int32, x4 = x3 + 5 → w_law_18 u d0 L xs nf x4 S M mc ms) x3 S M mc ms) ∧ (v = 18 → w_law_c18 u d0 L xs (fun x3 S M mc ms => ∀ x4 : Int32, x4 = x3 + 5 → w_law_18 u d0 L xs nf x4 S M mc ms) x3 S M mc ms) ∧ (v = 19 → w_law_c19 u d0 L xs (fun x3 S M mc ms => ∀ x4 : Int32, x4 = x3 + 5 → w_law_18 u d0 L xs nf x4 S M mc ms) x3 S M mc ms) ∧ (v = 20 → w_law_c20 u d0 L xs (fun x3 S M mc ms => ∀ x4 : Int32, x4 = x3 + 5 → w_law_18 u d0 L xs nf x4 S M mc ms) x3 S M mc ms) ∧ (v = 21 → w_law_c21 u d0 L xs (fun x3 S M mc ms => ∀ x4 : Int32, x4 = x3 + 5 → w_law_18 u d0 L xs nf x4 S M mc ms) x3 S M mc ms) ∧ (v = 22 → w_law_c22 u d0 L xs (fun x3 S M mc ms => ∀ x4 : Int32, x4 = x3 + 5 → w_law_18 u d0 L xs nf x4 S M mc ms) x3 S M mc ms) ∧ (v = 23 → w_law_c23 u d0 L xs (fun x3 S M mc ms => ∀ x4 : Int32, x4 = x3 + 5 → w_law_18 u d0 L xs nf x4 S M mc ms) x3 S M mc ms) ∧ (v = 24 → w_law_c24 u d0 L xs (fun x3 S M mc ms => ∀ x4 : Int32, x4 = x3 + 5 → w_law_18 u d0 L xs nf x4 S M mc ms) x3 S M mc ms) ∧ (v = 25 → w_law_c25 u d0 L xs (fun x3 S M mc ms => ∀ x4 : Int32, x4 = x3 + 5 → w_law_18 u d0 L xs nf x4 S M mc ms) x3 S M mc ms) ∧ (v = 26 → w_law_c26 u d0 L xs (fun x3 S M mc ms => ∀ x4 : Int32, x4 = x3 + 5 → w_law_18 u d0 L xs nf x4 S M mc ms) x3 S M mc ms) ∧ (v = 27 → w_law_c27 u d0 L xs (fun x3 S M mc ms => ∀ x4 : Int32, x4 = x3 + 5 → w_law_18 u d0 L xs nf x4 S M mc ms) x3 S M mc ms) ∧ (v = 28 → w_law_c28 u d0 L xs (fun x3 S M mc ms => ∀ x4 : Int32, x4 = x3 + 5 → w_law_18 u d0 L xs nf x4 S M mc ms) x3 S M mc ms) ∧ (v = 29 → w_law_c29 u d0 L xs (fun x3 S M mc ms => ∀ x4 : Int32, x4 = x3 + 5 → w_law_18 u d0 L xs nf x4 S M mc ms) x3 S M mc ms) ∧ (v = 30 → w_law_c30 u d0 L xs (fun x3 S M mc ms => ∀ x4 : Int32, x4 = x3 + 5 → w_law_18 u d0 L xs nf x4 S M mc ms) x3 S M mc ms) ∧ (v = 31 → w_law_c31 u d0 L xs (fun x3 S M mc ms => ∀ x4 : Int32, x4 = x3 + 5 → w_law_18 u d0 L xs nf x4 S M mc ms) x3 S M mc ms) ∧ (v = 32 → w_law_c32 u d0 L xs (fun x3 S M mc ms => ∀ x4 : Int32, x4 = x3 + 5 → w_law_18 u d0 L xs nf x4 S M mc ms) x3 S M mc ms) ∧ (v = 33 → w_law_c33 u d0 L xs (fun x3 S M mc ms => ∀ x4 : Int32, x4 = x3 + 5 → w_law_18 u d0 L xs nf x4 S M mc ms) x3 S M mc ms) ∧ (v = 34 → w_law_c34 u d0 L xs (fun x3 S M mc ms => ∀ x4 : Int32, x4 = x3 + 5 → w_law_18 u d0 L xs nf x4 S M mc ms) x3 S M mc ms) ∧ (v = 35 → w_law_c35 u d0 L xs (fun x3 S M mc ms => ∀ x4 : Int32, x4 = x3 + 5 → w_law_18 u d0 L xs nf x4 S M mc ms) x3 S M mc ms) ∧ (v = 36 → w_law_c36 u d0 L xs (fun x3 S M mc ms => ∀ x4 : Int32, x4 = x3 + 5 → w_law_18 u d0 L xs nf x4 S M mc ms) x3 S M mc ms) ∧ (v = 37 → w_law_c37 u d0 L xs (fun x3 S M mc ms => ∀ x4 : Int32, x4 = x3 + 5 → w_law_18 u d0 L xs nf x4 S M mc ms) x3 S M mc ms) ∧ (v = 38 → w_law_c38 u d0 L xs (fun x3 S M mc ms => ∀ x4 : Int32, x4 = x3 + 5 → w_law_18 u d0 L xs nf x4 S M mc ms) x3 S M mc ms) ∧ (v = 39 → w_law_c39 u d0 L xs (fun x3 S M mc ms => ∀ x4 : Int32, x4 = x3 + 5 → w_law_18 u d0 L xs nf x4 S M mc ms) x3 S M mc ms) ∧ (v = 40 → w_law_c40 u d0 L xs (fun x3 S M mc ms => ∀ x4 : Int32, x4 = x3 + 5 → w_law_18 u d0 L xs nf x4 S M mc ms) x3 S M mc ms) ∧ (v = 41 → w_law_c41 u d0 L xs (fun x3 S M mc ms => ∀ x4 : Int32, x4 = x3 + 5 → w_law_18 u d0 L xs nf x4 S M mc ms) x3 S M mc ms) ∧ (v = 42 → w_law_c42 u d0 L xs (fun x3 S M mc ms => ∀ x4 : Int32, x4 = x3 + 5 → w_law_18 u d0 L xs nf x4 S M mc ms) x3 S M mc ms) ∧ (v = 43 → w_law_c43 u d0 L xs (fun x3 S M mc ms => ∀ x4 : Int32, x4 = x3 + 5 → w_law_18 u d0 L xs nf x4 S M mc ms) x3 S M mc ms) ∧ (v = 44 → w_law_c44 u d0 L xs (fun x3 S M mc ms => ∀ x4 : Int32, x4 = x3 + 5 → w_law_18 u d0 L xs nf x4 S M mc ms) x3 S M mc ms) ∧ (v = 45 → w_law_c45 u d0 L xs (fun x3 S M mc ms => ∀ x4 : Int32, x4 = x3 + 5 → w_law_18 u d0 L xs nf x4 S M mc ms) x3 S M mc ms))))))
theorem sw_law (v : Int32) : (v < 0 ∨ 45 < v) ∨ v = 0 ∨ v = 1 ∨ v = 2 ∨ v = 3 ∨ v = 4 ∨ v = 5 ∨ v = 6 ∨ v = 7 ∨ v = 8 ∨ v = 9 ∨ v = 10 ∨ v = 11 ∨ v = 12 ∨ v = 13 ∨ v = 14 ∨ v = 15 ∨ v = 16 ∨ v = 17 ∨ v = 18 ∨ v = 19 ∨ v = 20 ∨ v = 21 ∨ v = 22 ∨ v = 23 ∨ v = 24 ∨ v = 25 ∨ v = 26 ∨ v = 27 ∨ v = 28 ∨ v = 29 ∨ v = 30 ∨ v = 31 ∨ v = 32 ∨ v = 33 ∨ v = 34 ∨ v = 35 ∨ v = 36 ∨ v = 37 ∨ v = 38 ∨ v = 39 ∨ v = 40 ∨ v = 41 ∨ v = 42 ∨ v = 43 ∨ v = 44 ∨ v = 45 := by
  by_cases h0 : v < 0
  · exact Or.inl (Or.inl h0)
  by_cases h1 : 45 < v
  · exact Or.inl (Or.inr h1)
  obtain ⟨j, hj, rfl⟩ := nI_of h0
  have hj2 : j ≤ 45 := by
    rcases Nat.lt_or_ge 45 j with q | q
    · exact absurd (nI_lt q hj) h1
    · exact q
  refine Or.inr ?_
  rcases (show j = 0 ∨ j = 1 ∨ j = 2 ∨ j = 3 ∨ j = 4 ∨ j = 5 ∨ j = 6 ∨ j = 7 ∨ j = 8 ∨ j = 9 ∨ j = 10 ∨ j = 11 ∨ j = 12 ∨ j = 13 ∨ j = 14 ∨ j = 15 ∨ j = 16 ∨ j = 17 ∨ j = 18 ∨ j = 19 ∨ j = 20 ∨ j = 21 ∨ j = 22 ∨ j = 23 ∨ j = 24 ∨ j = 25 ∨ j = 26 ∨ j = 27 ∨ j = 28 ∨ j = 29 ∨ j = 30 ∨ j = 31 ∨ j = 32 ∨ j = 33 ∨ j = 34 ∨ j = 35 ∨ j = 36 ∨ j = 37 ∨ j = 38 ∨ j = 39 ∨ j = 40 ∨ j = 41 ∨ j = 42 ∨ j = 43 ∨ j = 44 ∨ j = 45 by omega) with rfl | rfl | rfl | rfl | rfl | rfl | rfl | rfl | rfl | rfl | rfl | rfl | rfl | rfl | rfl | rfl | rfl | rfl | rfl | rfl | rfl | rfl | rfl | rfl | rfl | rfl | rfl | rfl | rfl | rfl | rfl | rfl | rfl | rfl | rfl | rfl | rfl | rfl | rfl | rfl | rfl | rfl | rfl | rfl | rfl | rfl <;> decide
end LAWM
