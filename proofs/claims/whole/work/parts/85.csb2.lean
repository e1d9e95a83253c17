theorem q_enc {post : Int32 → Prop} {c : Nat} (hc : c < 256) (hp : post 1) : q_J1_canEncode_fc post (nI c) := by
  rw [q_J1_canEncode_fc]
  exact ⟨fun z => absurd (nI_ltI (a := 255) (by decide) (by omega) |>.mp z) (by omega), fun _ => hp⟩
/-- a sign is put behind a text for which there is room -/
theorem sb_putChar {u : hU} {mm : List Nat} {S : hS} {a N c : Nat} {t : Tx} {post : Option Nat → hS → Prop} (h : bS u mm S a t N) (hc : c < 256) (hr : t.length + 1 ≤ N)
    (hp : ∀ S' b, b ∈ mm → fx [a, b] S S' → bS u mm S' a (t ++ [c]) N → post (some a) S') : (∃ fs, rO S a 1 fs) ∧ (∃ o19 : Option Nat, rR S a 1 0 o19 ∧ (∃ v21 : Int32, rI S a 1 3 v21 ∧ (∃ fs23 : List Value, rO S a 1 fs23 ∧ 3 < fs23.length ∧ (∀ S26 : hS, S26 = upS S a (.inr (1, fs23.set 3 (.int (v21 + 1)))) → (∃ a27 : Nat, o19 = some a27 ∧ (∃ (N28 : Nat) (g29 : Nat → Int32), rA S26 (u.2.1 2) a27 N28 g29 ∧ vp_in v21 N28 ∧ (∀ S32 : hS, S32 = upS S26 a27 (.inl (u.2.1 2, N28, .inl (upd g29 (v21 : Int32).toNatClampNeg (vp_nar .byte (nI c : Int32).toInt8.toInt32)))) → post (some a) S32))))))) := by
  obtain ⟨h0, h1, h2, b, x, g, e1, e2, e3, e4, e5, e6, e7⟩ := id h
  refine ⟨⟨_, h1, e1⟩, some b, ⟨h1, _, e1, rfl⟩, nI t.length, ⟨h1, _, e1, rfl⟩, _, ⟨h1, e1⟩, by simp, fun S26 e26 => ⟨b, rfl, N, g, ⟨by rw [e26]; exact e2, ?_⟩, vp_in_nI (by omega) (by omega), fun S32 e32 => ?_⟩⟩
  · rw [e26]
    show va_up S.2 a _ b = _
    rw [va_up_ne _ _ e4]; exact e5
  · rw [nI_clamp (n := t.length) (by omega), sb_put c hc] at e32
    have f1 : fx [a, b] S S26 := by rw [e26]; exact fx.up (by simp)
    have f2 : fx [a, b] S S32 := by rw [e32]; exact f1.tr (fx.up (by simp))
    refine hp S32 b e3 f2 ⟨⟨by simp; omega, h0.2.1, fun y hy => ?_⟩, f2.1 a h1, h2, b, x, upd g t.length (sb_b c), ?_, f2.1 b e2, e3, e4, ?_, fun j hj => ?_, fun j hj => ?_⟩
    · rcases List.mem_append.mp hy with q | q
      · exact h0.2.2 y q
      · rw [List.mem_singleton.mp q]; exact hc
    · rw [e32]
      show va_up _ b _ a = _
      rw [va_up_ne _ _ (fun z => e4 z.symm), e26]
      show va_up _ a _ a = _
      rw [va_up_self, nI_1, List.length_append]
      rfl
    · rw [e32]; exact va_up_self _ _ _
    · have hj' : j < t.length + 1 := by simpa using hj
      rw [getD_app1]
      by_cases q : j = t.length
      · subst q; rw [if_neg (by omega), if_pos rfl]; exact pk_us
      · rw [if_pos (by omega), pk_un q]; exact e6 j (by omega)
    · by_cases q : j = t.length
      · subst q; exact ⟨c, hc, pk_us⟩
      · rw [pk_un q]; exact e7 j hj
/-- append(char): room for one growth of the row is asked for where the row is full -/
theorem sb_append {u : hU} {mm : List Nat} {S : hS} {a N c mc ms : Nat} {t : Tx} {post : Option Nat → hS → Prop} (h : bS u mm S a t N) (hc : c < 256) (hcap : 2 * N + 2 ≤ 65536) (hmm : ∀ x, x ∈ mm → x ∈ S.1) (hroom : N < t.length + 1 → 1 ≤ mc ∧ 2 * N + 2 ≤ ms)
    (hp : ∀ V S' N' b, (∀ q, q ∈ V → q ∉ S.1 ∧ q ∈ S'.1) → (∀ x, x ∈ V ++ mm → x ∈ S'.1) → (b ∈ mm ∨ b ∈ V) → fx [a, b] S S' → bS u (V ++ mm) S' a (t ++ [c]) N' → ((t.length + 1 ≤ N ∧ N' = N) ∨ (N < t.length + 1 ∧ N' = 2 * N + 2)) → post (some a) S') : w_J4_append_cf u post a (nI c) S mc ms := by
  obtain ⟨h0, h1, h2, b, x, g, e1, -⟩ := id h
  have fin : ∀ V S1 N1, (∀ q, q ∈ V → q ∉ S.1 ∧ q ∈ S1.1) → (∀ x, x ∈ V ++ mm → x ∈ S1.1) → fx [a] S S1 → bS u (V ++ mm) S1 a t N1 → t.length + 1 ≤ N1 → ((t.length + 1 ≤ N ∧ N1 = N) ∨ (N < t.length + 1 ∧ N1 = 2 * N + 2)) → ∀ mc ms, ((∃ fs, rO S1 a 1 fs) ∧ (w_J5_isLatin1_aa u (fun r11 => ((r11 = (0 : Int32) → (w_J5_append_3f_45 u (fun r1 S7 => post (some a) S7) a (nI c) S1 mc ms)) ∧ (¬ r11 = (0 : Int32) → (q_J1_canEncode_fc (fun r17 => ((r17 = (0 : Int32) → (w_J5_append_3f_45 u (fun r1 S7 => post (some a) S7) a (nI c) S1 mc ms)) ∧ (¬ r17 = (0 : Int32) → (∃ o19 : Option Nat, rR S1 a 1 0 o19 ∧ (∃ v21 : Int32, rI S1 a 1 3 v21 ∧ (∃ fs23 : List Value, rO S1 a 1 fs23 ∧ 3 < fs23.length ∧ (∀ S26 : hS, S26 = upS S1 a (.inr (1, fs23.set 3 (.int (v21 + 1)))) → (∃ a27 : Nat, o19 = some a27 ∧ (∃ (N28 : Nat) (g29 : Nat → Int32), rA S26 (u.2.1 2) a27 N28 g29 ∧ vp_in v21 N28 ∧ (∀ S32 : hS, S32 = upS S26 a27 (.inl (u.2.1 2, N28, .inl (upd g29 (v21 : Int32).toNatClampNeg (vp_nar .byte (nI c : Int32).toInt8.toInt32)))) → post (some a) S32)))))))))) (nI c))))) a S1)) := by
    intro V S1 N1 hV hVm hf hb hr hN mc ms
    have hput := sb_putChar (post := fun _ S' => post (some a) S') hb hc hr (fun S' b hbm f' hb' => by
      refine hp V S' N1 b (fun q hq => ⟨(hV q hq).1, f'.1 q (hV q hq).2⟩) (fun x hx => f'.1 x (hVm x hx)) ?_ ?_ hb' hN
      · rcases List.mem_append.mp hbm with q | q
        · exact Or.inr q
        · exact Or.inl q
      · exact (hf.wide (fun y hy => Or.inl (by rw [List.mem_singleton.mp hy]; simp))).tr f')
    exact ⟨hput.1, sb_isLatin1 hb ⟨fun z => absurd z (by decide), fun _ => q_enc hc ⟨fun z => absurd z (by decide), fun _ => hput.2⟩⟩⟩
  rw [w_J4_append_cf]
  refine ⟨⟨_, h1, e1⟩, mc, ms, Nat.le_refl _, Nat.le_refl _, ?_⟩
  rw [w_J5_append_3f]
  refine ⟨nI t.length, ⟨h1, _, e1, rfl⟩, ⟨_, h1, e1⟩, mc, ms, Nat.le_refl _, Nat.le_refl _, ?_⟩
  rw [nI_1]
  refine sb_ensure h (by omega) hcap hmm (fun hl => ?_) (fun hl => ?_) (fun hl q S1 hq hq1 hf hb => ?_)
  · have := hroom hl
    rw [if_pos (by omega)]; exact this
  · exact fin [] S N (fun q hq => absurd hq (by simp)) (fun x hx => hmm x hx) fx.rf h hl (Or.inl ⟨hl, rfl⟩) _ _
  · rw [if_pos (by omega)] at hb
    refine fin [q] S1 (2 * N + 2) (fun y hy => ?_) (fun y hy => ?_) hf hb (by omega) (Or.inr ⟨hl, rfl⟩) _ _
    · rw [List.mem_singleton.mp hy]; exact ⟨hq.1, hq1⟩
    · rcases List.mem_cons.mp hy with z | z
      · rw [z]; exact hq1
      · exact hf.1 y (hmm y z)
