theorem q_enc {post : Int32 → Prop} {c : Nat} (hc : c < 256) (hp : post 1) : q_J1_canEncode_fc post (nI c) := by
  rw [q_J1_canEncode_fc]
  exact ⟨fun z => absurd (nI_ltI (a := 255) (by decide) (by omega) |>.mp z) (by omega), fun _ => hp⟩
/-- a sign is put behind a text for which there is room -/
theorem sb_putChar {u : hU} {S : hS} {a b N c : Nat} {t : Tx} {post : Option Nat → hS → Prop} (h : bS u S a b t N) (hc : c < 256) (hr : t.length + 1 ≤ N)
    (hp : ∀ S', fx [a, b] S S' → bS u S' a b (t ++ [c]) N → post (some a) S') : (∃ fs, rO S a 1 fs) ∧ (∃ o19 : Option Nat, rR S a 1 0 o19 ∧ (∃ v21 : Int32, rI S a 1 3 v21 ∧ (∃ fs23 : List Value, rO S a 1 fs23 ∧ 3 < fs23.length ∧ (∀ S26 : hS, S26 = upS S a (.inr (1, fs23.set 3 (.int (v21 + 1)))) → (∃ a27 : Nat, o19 = some a27 ∧ (∃ (N28 : Nat) (g29 : Nat → Int32), rA S26 (u.2.1 2) a27 N28 g29 ∧ vp_in v21 N28 ∧ (∀ S32 : hS, S32 = upS S26 a27 (.inl (u.2.1 2, N28, .inl (upd g29 (v21 : Int32).toNatClampNeg (vp_nar .byte (nI c : Int32).toInt8.toInt32)))) → post (some a) S32))))))) := by
  obtain ⟨h0, h1, e2, e4, x, g, e1, e5, e6, e7⟩ := id h
  refine ⟨⟨_, h1, e1⟩, some b, ⟨h1, _, e1, rfl⟩, nI t.length, ⟨h1, _, e1, rfl⟩, _, ⟨h1, e1⟩, by simp, fun S26 e26 => ⟨b, rfl, N, g, ⟨by rw [e26]; exact e2, ?_⟩, vp_in_nI (by omega) (by omega), fun S32 e32 => ?_⟩⟩
  · rw [e26]
    show va_up S.2 a _ b = _
    rw [va_up_ne _ _ e4]; exact e5
  · rw [nI_clamp (n := t.length) (by omega), sb_put c hc] at e32
    have f1 : fx [a, b] S S26 := by rw [e26]; exact fx.up (by simp)
    have f2 : fx [a, b] S S32 := by rw [e32]; exact f1.tr (fx.up (by simp))
    refine hp S32 f2 ⟨⟨by simp; omega, h0.2.1, fun y hy => ?_⟩, f2.1 a h1, f2.1 b e2, e4, x, upd g t.length (sb_b c), ?_, ?_, fun j hj => ?_, fun j hj => ?_⟩
    · rcases List.mem_append.mp hy with q | q
      · exact h0.2.2 y q
      · rw [List.mem_singleton.mp q]; exact hc
    · rw [e32]
      show va_up _ b _ a = _
      rw [va_up_ne _ _ (fun z => e4 z.symm), e26]
      show va_up _ a _ a = _
      rw [va_up_self, nI_1, List.length_append]
      rfl
    · rw [e32]; exact va_up_self _ _ _
    · have hj' : j < t.length + 1 := by simpa using hj
      rw [getD_app1]
      by_cases q : j = t.length
      · subst q; rw [if_neg (by omega), if_pos rfl]; exact pk_us
      · rw [if_pos (by omega), pk_un q]; exact e6 j (by omega)
    · by_cases q : j = t.length
      · subst q; exact ⟨c, hc, pk_us⟩
      · rw [pk_un q]; exact e7 j hj
/-- what puts signs behind a text does to the pool: the old cells but a, b stay; the row is the old one, or a new one -/
def gS (u : hU) (S : hS) (a b : Nat) (S' : hS) (b' : Nat) : Prop := fx [a, b] S S' ∧ (b' = b ∨ fr u.1 S b')
theorem gS.rf {u : hU} {S : hS} {a b : Nat} : gS u S a b S b := ⟨fx.rf, Or.inl rfl⟩
theorem gS.tr {u : hU} {S S1 S2 : hS} {a b b1 b2 : Nat} (h : gS u S a b S1 b1) (h2 : gS u S1 a b1 S2 b2) : gS u S a b S2 b2 := by
  refine ⟨⟨fun x hx => h2.1.1 x (h.1.1 x hx), fun x hx hw => ?_⟩, ?_⟩
  · have h1 := h.1.2 x hx hw
    refine (h2.1.2 x (h.1.1 x hx) (fun z => ?_)).trans h1
    simp only [List.mem_cons, List.not_mem_nil, or_false] at z hw
    rcases z with z | z
    · exact hw (Or.inl z)
    · rcases h.2 with q | q
      · exact hw (Or.inr (z.trans q))
      · exact q.1 (by rw [← z]; exact hx)
  · rcases h2.2 with q | q
    · rw [q]; exact h.2
    · exact Or.inr ⟨fun z => q.1 (h.1.1 _ z), q.2⟩
/-- room for all growth that is still to come -/
def gC (N : Nat) : Nat := (602 - N) / 16
def gM (N : Nat) : Nat := 2 * (602 - N)
def gN (N L : Nat) : Nat := if N < L then 2 * N + 2 else N
theorem g_plan {N L E F mc ms : Nat} (h16 : 16 ≤ N) (h2 : N ≤ 602) (hL : L ≤ 300) (hc : gC N + E ≤ mc) (hm : gM N + F ≤ ms) : ∃ k n, k ≤ mc ∧ n ≤ ms ∧ (N < L → 1 ≤ k ∧ 2 * N + 2 ≤ n) ∧ gC (gN N L) + E ≤ mc - k ∧ gM (gN N L) + F ≤ ms - n ∧ 16 ≤ gN N L ∧ gN N L ≤ 602 := by
  unfold gC gM gN at *
  by_cases q : N < L
  · refine ⟨1, 2 * N + 2, by omega, by omega, fun _ => ⟨by omega, by omega⟩, ?_, ?_, ?_, ?_⟩
    all_goals rw [if_pos q]
    all_goals omega
  · refine ⟨0, 0, by omega, by omega, fun z => absurd z q, ?_, ?_, ?_, ?_⟩
    all_goals rw [if_neg q]
    all_goals omega
/-- append(char) -/
theorem sb_append {u : hU} {S : hS} {a b N c mc ms : Nat} {t : Tx} {post : Option Nat → hS → Prop} (h : bS u S a b t N) (hc : c < 256) (hcap : 2 * N + 2 ≤ 65536) (hroom : N < t.length + 1 → 1 ≤ mc ∧ 2 * N + 2 ≤ ms)
    (hp : ∀ S' b', gS u S a b S' b' → bS u S' a b' (t ++ [c]) (gN N (t.length + 1)) → post (some a) S') : w_J4_append_cf u post a (nI c) S mc ms := by
  obtain ⟨h0, h1, h2, h3, x, g, e1, -⟩ := id h
  have fin : ∀ b1 S1, gS u S a b S1 b1 → bS u S1 a b1 t (gN N (t.length + 1)) → t.length + 1 ≤ gN N (t.length + 1) → ∀ mc ms, ((∃ fs, rO S1 a 1 fs) ∧ (w_J5_isLatin1_aa u (fun r11 => ((r11 = (0 : Int32) → (w_J5_append_3f_45 u (fun r1 S7 => post (some a) S7) a (nI c) S1 mc ms)) ∧ (¬ r11 = (0 : Int32) → (q_J1_canEncode_fc (fun r17 => ((r17 = (0 : Int32) → (w_J5_append_3f_45 u (fun r1 S7 => post (some a) S7) a (nI c) S1 mc ms)) ∧ (¬ r17 = (0 : Int32) → (∃ o19 : Option Nat, rR S1 a 1 0 o19 ∧ (∃ v21 : Int32, rI S1 a 1 3 v21 ∧ (∃ fs23 : List Value, rO S1 a 1 fs23 ∧ 3 < fs23.length ∧ (∀ S26 : hS, S26 = upS S1 a (.inr (1, fs23.set 3 (.int (v21 + 1)))) → (∃ a27 : Nat, o19 = some a27 ∧ (∃ (N28 : Nat) (g29 : Nat → Int32), rA S26 (u.2.1 2) a27 N28 g29 ∧ vp_in v21 N28 ∧ (∀ S32 : hS, S32 = upS S26 a27 (.inl (u.2.1 2, N28, .inl (upd g29 (v21 : Int32).toNatClampNeg (vp_nar .byte (nI c : Int32).toInt8.toInt32)))) → post (some a) S32)))))))))) (nI c))))) a S1)) := by
    intro b1 S1 hg hb hr mc ms
    have hput := sb_putChar (post := fun _ S' => post (some a) S') hb hc hr (fun S' f' hb' => hp S' b1 (hg.tr ⟨f', Or.inl rfl⟩) hb')
    exact ⟨hput.1, sb_isLatin1 hb ⟨fun z => absurd z (by decide), fun _ => q_enc hc ⟨fun z => absurd z (by decide), fun _ => hput.2⟩⟩⟩
  rw [w_J4_append_cf]
  refine ⟨⟨_, h1, e1⟩, mc, ms, Nat.le_refl _, Nat.le_refl _, ?_⟩
  rw [w_J5_append_3f]
  refine ⟨nI t.length, ⟨h1, _, e1, rfl⟩, ⟨_, h1, e1⟩, mc, ms, Nat.le_refl _, Nat.le_refl _, ?_⟩
  rw [nI_1]
  refine sb_ensure h (by omega) hcap (fun hl => ?_) (fun hl => ?_) (fun hl q S1 hq hf hb => ?_)
  · have := hroom hl
    rw [if_pos (by omega)]; exact this
  · have hN : gN N (t.length + 1) = N := if_neg (by omega)
    exact fin b S gS.rf (by rw [hN]; exact h) (by omega) _ _
  · have hN : gN N (t.length + 1) = 2 * N + 2 := if_pos hl
    rw [if_pos (by omega)] at hb
    exact fin q S1 ⟨hf.wide (fun y hy => Or.inl (by rw [List.mem_singleton.mp hy]; simp)), Or.inr hq⟩ (by rw [hN]; exact hb) (by omega) _ _
