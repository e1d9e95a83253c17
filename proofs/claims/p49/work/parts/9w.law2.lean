/-! THE LAW, pure: whole -/
section CREP
variable {u : hU} {d : Nat} {s : AS} {S : hS}
theorem rem_le {ly : Nat → Ly} {l x n : Nat} (h : (ly x).length ≤ n) : remF ly (fun _ => 0) l x ≤ n := by
  unfold remF; split <;> omega
theorem l_law103 {post : Int32 → hS → Prop} {mc ms : Nat} (h0 : aNp s = 0) (h3 : aNe s = 3) (hR : cRep u d s S) (hp : post 1 S) : w_L_law_103 u post d 1 S mc ms := by
  rw [w_L_law_103]
  have e1 : op_refusals 1 s = (aNe s, s) := by unfold op_refusals; rw [if_neg (by decide), if_pos rfl]
  have e0 : op_refusals 0 s = (aNp s, s) := by unfold op_refusals; rw [if_pos rfl]
  refine cF (by decide) ⟨hR.o, c_refusals _ hR ?_⟩
  rw [e1]
  refine dT h3 ⟨hR.o, c_refusals _ hR ?_⟩
  rw [e0]
  exact dT h0 hp
theorem l_law52 {post : Int32 → hS → Prop} (hL : sL u < 2 ^ 30) (hp : ∀ S', post 1 S') : ∀ (j k : Nat) (s : AS) (S : hS) (mc ms : Nat), k + j = 3 → 115000 * j ≤ mc → 1360000 * j ≤ ms → aNp s = 0 → aNe s = nI k → cRep u d s S → w_L_law_52 u post (j + 1) (some (sB u)) d 1 (nI k) S mc ms := by
  intro j
  induction j with
  | zero =>
    intro k s S mc ms hk _ _ h0 h3 hR
    have e : k = 3 := by omega
    subst e
    rw [w_L_law_52]
    exact cT (by decide) (l_law103 h0 h3 hR (hp S))
  | succ j ih =>
    intro k s S mc ms hk h1 h2 h0 h3 hR
    have e20 : (20 : Int32) * nI k = nI (20 * k) := pk_mul 20 k
    have e40 : (40 : Int32) + nI (20 * k) = nI (40 + 20 * k) := nI_add 40 _
    have e44 : (44 : Int32) + nI (20 * k) = nI (44 + 20 * k) := nI_add 44 _
    rw [w_L_law_52]
    refine cF (nI_ge (b := 3) (by omega) (by decide)) (cF (by decide) ⟨87400, 1033600, by omega, by omega, ?_⟩)
    rw [e20, e40, e44]
    refine l_cut hL (by omega) hR (by omega) (by omega) (fun s1 S1 r1 i1 i2 i3 => cF (by decide) ⟨27600, 326400, by omega, by omega, ?_⟩)
    refine l_joined hL (by omega) r1 (by omega) (by omega) (fun s2 S2 r2 j1 j2 j3 => cF (by decide) (fun v ev => ?_))
    rw [ev, nI_1]
    refine ih (k + 1) s2 S2 _ _ (by omega) (by omega) (by omega) (by rw [j2, i2, h0]) ?_ r2
    rw [j3, i3, h3, nI_1]
theorem l_law {post : Int32 → hS → Prop} (hu : uOk u) (hL : sL u < 2 ^ 30) (hp : ∀ S', post 1 S') : w_L_law u post (some (sB u)) (([] : List Nat), fun _ => .inr (0, [])) 775694 6775166 := by
  rw [w_L_law]
  refine ⟨by omega, by omega, fun q1 S3 hfr e3 => ⟨40, 700, by omega, by omega, c_init hu (by rw [e3]; exact adS_mem) (by rw [e3]; exact va_adS_self) (by omega) (by omega) (fun S1 r1 => ⟨50600, 598400, by omega, by omega, ?_⟩)⟩⟩
  have w0 : okW aE 0 := ⟨fun j _ => srt_nil, fun j _ => ⟨Nat.le_refl _, fun p hp => absurd hp (List.not_mem_nil)⟩, rfl, rfl⟩
  refine l_written hL r1 w0 (by omega) (by omega) (fun s1 S2 r2 w2 => cF (by decide) ⟨28750, 340000, by omega, by omega, ?_⟩)
  obtain ⟨a1, a2, a3, a4⟩ := w2
  have n2 : namesF (aLy s1) 2 160 (fun _ => 0) ≤ 12 := by
    have h := namesF_mz (ly := aLy s1) (l := 2) (by omega) 160 (fun _ => 0)
    have b0 := rem_le (l := 2) (a2 0 (by omega)).1
    have b1 := rem_le (l := 2) (a2 1 (by omega)).1
    have b2 := rem_le (l := 2) (a2 2 (by omega)).1
    have b3 : remF (aLy s1) (fun _ => 0) 2 3 = 0 := by unfold remF; rw [if_neg (by omega)]
    unfold mzF at h
    omega
  refine l_found (l := 2) (N := 12) (by omega) a1 n2 (by omega) r2 (by omega) (by omega) (fun f S4 r4 => cF (by decide) (l_cell (k := 0) (by omega) hL ⟨16100, 190400, by omega, by omega, ?_⟩))
  refine l_twice (s := (f, s1.2)) a1 r4 (by omega) (by omega) (fun s2 S5 r5 c1 c2 c3 c4 c5 => cF (by decide) ⟨31050, 367200, by omega, by omega, ?_⟩)
  have n3 : namesF (aLy s2) 3 160 (fun _ => 0) ≤ 13 := by
    have h := namesF_mz (ly := aLy s2) (l := 3) (by omega) 160 (fun _ => 0)
    have b0 := rem_le (ly := aLy s2) (l := 3) (n := 4) (x := 0) (by rw [c2 0 (by omega)]; exact (a2 0 (by omega)).1)
    have b1 := rem_le (ly := aLy s2) (l := 3) (n := 4) (x := 1) (by rw [c2 1 (by omega)]; exact (a2 1 (by omega)).1)
    have b2 := rem_le (ly := aLy s2) (l := 3) (n := 4) (x := 2) (by rw [c2 2 (by omega)]; exact (a2 2 (by omega)).1)
    have b3 := rem_le (ly := aLy s2) (l := 3) (n := 1) (x := 3) (by rw [c3]; exact Nat.le_refl _)
    unfold mzF at h
    omega
  refine l_found (l := 3) (N := 13) (by omega) c1 n3 (by omega) r5 (by omega) (by omega) (fun f2 S6 r6 => cF (by decide) ⟨4, ?_⟩)
  refine l_law52 hL hp 3 0 (f2, s2.2) S6 _ _ (by omega) (by omega) (by omega) ?_ ?_ r6
  · show aNp s2 = 0
    rw [c4]; exact a3
  · show aNe s2 = nI 0
    rw [c5, nI_0]; exact a4
end CREP
