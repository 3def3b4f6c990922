/-- what a break needs and keeps -/
def gOk (s : MSt) : Prop := ftB (s 0) 0 9 ∧ ftB (s 3) 0 9 ∧ IB (s 8 8) ∧ (0 ≤ s 8 11 ∧ s 8 11 ≤ 3) ∧ ftOk (s 7)
theorem tellS_map {s : MSt} {what p : Int} {a k : Nat} (h : a ≠ 8) : tellS s what p a k = s a k := by
  unfold tellS
  rw [us_na h]
  by_cases c : s 8 8 = 0
  · simp only [if_pos c]
    split
    · rw [us_na h, us_na h, us_na h]
    · rw [us_na h, us_na h]
  · simp only [if_neg c]
    split
    · rw [us_na h]
    · rfl
theorem tellS_8 {s : MSt} {what p : Int} : tellS s what p 8 8 = wr (s 8 8 + 1) := by
  unfold tellS
  rw [us_at]
  by_cases c : s 8 8 = 0
  · simp only [if_pos c]
    split
    · rw [us_nk (by decide), us_nk (by decide), us_nk (by decide)]
    · rw [us_nk (by decide), us_nk (by decide)]
  · simp only [if_neg c]
    split
    · rw [us_nk (by decide)]
    · rfl
theorem tellS_11 {s : MSt} {what p : Int} : tellS s what p 8 11 = if s 8 11 = 0 then what else s 8 11 := by
  unfold tellS
  rw [us_nk (by decide)]
  by_cases c : s 8 8 = 0
  · simp only [if_pos c]
    rw [us_nk (by decide), us_nk (by decide)]
    by_cases d : s 8 11 = 0
    · rw [if_pos d, if_pos d, us_at]
    · rw [if_neg d, if_neg d, us_nk (by decide), us_nk (by decide)]
  · simp only [if_neg c]
    by_cases d : s 8 11 = 0
    · rw [if_pos d, if_pos d, us_at]
    · rw [if_neg d, if_neg d]
theorem tellS_9 {s : MSt} {what p : Int} : tellS s what p 8 9 = if s 8 8 = 0 then what else s 8 9 := by
  unfold tellS
  rw [us_nk (by decide)]
  by_cases c : s 8 8 = 0
  · simp only [if_pos c]
    rw [us_nk (by decide), us_nk (by decide)]
    split
    · rw [us_nk (by decide), us_nk (by decide), us_at]
    · rw [us_nk (by decide), us_at]
  · simp only [if_neg c]
    split
    · rw [us_nk (by decide)]
    · rfl
theorem tellS_10 {s : MSt} {what p : Int} : tellS s what p 8 10 = if s 8 8 = 0 then p else s 8 10 := by
  unfold tellS
  rw [us_nk (by decide)]
  by_cases c : s 8 8 = 0
  · simp only [if_pos c]
    rw [us_nk (by decide), us_nk (by decide)]
    split
    · rw [us_nk (by decide), us_at]
    · rw [us_at]
  · simp only [if_neg c]
    split
    · rw [us_nk (by decide)]
    · rfl
theorem tellS_o {s : MSt} {what p : Int} {j : Nat} (h : j ≠ 8 ∧ j ≠ 9 ∧ j ≠ 10 ∧ j ≠ 11) : tellS s what p 8 j = s 8 j := by
  unfold tellS
  rw [us_nk h.1]
  by_cases c : s 8 8 = 0
  · simp only [if_pos c]
    split
    · rw [us_nk h.2.2.2, us_nk h.2.2.1, us_nk h.2.1]
    · rw [us_nk h.2.2.1, us_nk h.2.1]
  · simp only [if_neg c]
    split
    · rw [us_nk h.2.2.2]
    · rfl
theorem gOk_tell {s : MSt} (h : gOk s) {what p : Int} (hw : 0 ≤ what ∧ what ≤ 3) : gOk (tellS s what p) := by
  obtain ⟨h1, h2, h3, h4, h5⟩ := h
  refine ⟨fun q hq => by rw [tellS_map (by decide)]; exact h1 q hq, fun q hq => by rw [tellS_map (by decide)]; exact h2 q hq, by rw [tellS_8]; exact wr_IB _, ?_, fun k hk => by rw [tellS_map (by decide)]; exact h5 k hk⟩
  rw [tellS_11]
  split <;> omega
theorem sagS_f {s : MSt} {p : Int} {a k : Nat} (h : a ≠ 0) (h3 : a ≠ 3) : sagS s p a k = s a k := by
  unfold sagS learnS
  rw [us_na h3, us_na h]
theorem gOk_sag {s : MSt} (h : gOk s) {p : Int} (hp : nB p) : gOk (sagS s p) := by
  obtain ⟨h1, h2, h3, h4, h5⟩ := h
  have hb := h1 p.toNat (nB_nat hp).2
  refine ⟨fun q hq => ?_, fun q hq => ?_, by rw [sagS_f (by decide) (by decide)]; exact h3, by rw [sagS_f (by decide) (by decide)]; exact h4, fun k hk => by rw [sagS_f (by decide) (by decide)]; exact h5 k hk⟩
  · unfold sagS learnS
    rw [us_na (by decide)]
    by_cases e : q = p.toNat
    · subst e; rw [us_at]; omega
    · rw [us_nk e]; exact h1 q hq
  · unfold sagS learnS
    by_cases e : q = p.toNat
    · subst e; rw [us_at, us_at]; omega
    · rw [us_nk e, us_na (by decide)]; exact h2 q hq
/-- the ground gives way under some feet -/
def brS (σ : Nat → Bool) : Nat → Nat → MSt → MSt
  | 0, _, s => s
  | n + 1, i, s => brS σ n (i + 1) (if σ i then tellS (sagS s (s 7 i)) 2 (s 7 i) else s)
theorem gOk_br {σ : Nat → Bool} : ∀ n i s, i + n ≤ 6 → gOk s → (∀ k, k < 6 → σ k = true → s 7 k ≠ -1) → gOk (brS σ n i s)
  | 0, i, s, _, h, _ => h
  | n + 1, i, s, hi, h, hσ => by
    unfold brS
    by_cases c : σ i = true
    · rw [if_pos c]
      have hp : nB (s 7 i) := (h.2.2.2.2 i (by omega)).resolve_left (hσ i (by omega) c)
      exact gOk_br n (i + 1) _ (by omega) (gOk_tell (gOk_sag h hp) (by decide)) (fun k hk hs => by rw [tellS_map (by decide), sagS_f (by decide) (by decide)]; exact hσ k hk hs)
    · rw [if_neg c]
      exact gOk_br n (i + 1) s (by omega) h hσ
theorem cc_break {σ : Nat → Bool} : ∀ (n fu i : Nat) (s : MSt) (z f : Nat → Nat → Int32), i + n = 6 → n < fu → CS s z f → gOk s → (∀ k, k < 6 → σ k = true → s 7 k ≠ -1) → ∃ z' f', g_X10_breakGround_l2 fu (mk σ) (iv i) z f = some (z', f') ∧ CS (brS σ n i s) z' f' ∧ Fm z f z' f' := by
  intro n
  induction n with
  | zero =>
    intro fu i s z f hi hf h _ _
    obtain ⟨fu, rfl⟩ : ∃ x, fu = x + 1 := ⟨fu - 1, by omega⟩
    obtain rfl : i = 6 := by omega
    refine ⟨z, f, ?_, h, fm_rf⟩
    rw [g_X10_breakGround_l2, if_pos y6]
  | succ n ih =>
    intro fu i s z f hi hf h hg hσ
    obtain ⟨fu, rfl⟩ : ∃ x, fu = x + 1 := ⟨fu - 1, by omega⟩
    rw [g_X10_breakGround_l2, if_neg (n6 (by omega)), mk_get i (by omega)]
    unfold g_X10_breakGround_b45 brS
    rw [iv_1]
    by_cases c : σ i = true
    · have hp : nB (s 7 i) := (hg.2.2.2.2 i (by omega)).resolve_left (hσ i (by omega) c)
      have e24 : f 24 i = iv (s 7 i) := h.1 (24, 7, 6) (by decide) i (show i < 6 by omega)
      obtain ⟨f1, e1, c1, m1⟩ := cc_sag h hp (hg.1 _ (nB_nat hp).2)
      have g1 := gOk_sag hg hp
      obtain ⟨z2, e2, c2, m2⟩ := cc_tell (what := 2) (p := s 7 i) c1 g1.2.2.1 (by have := g1.2.2.2.1; unfold IB; omega)
      have e24' : f1 24 i = iv (s 7 i) := by
        have := c1.1 (24, 7, 6) (by decide) i (show i < 6 by omega)
        rw [show sagS s (s 7 i) 7 i = s 7 i from sagS_f (by decide) (by decide)] at this
        exact this
      obtain ⟨z3, f3, e3, c3, m3⟩ := ih fu (i + 1) _ z2 f1 (by omega) (by omega) c2 (gOk_tell g1 (by decide)) (fun k hk hs => by rw [tellS_map (by decide), sagS_f (by decide) (by decide)]; exact hσ k hk hs)
      refine ⟨z3, f3, ?_, ?_, fm_tr m1 (fm_tr m2 m3)⟩
      · rw [if_pos c, if_neg (by decide), rdR_iv (by omega) (by decide), e24, e1, bn2_some, show (2 : Int32) = iv 2 from rfl]
        rw [e2, bn2_some]
        exact e3
      · rw [if_pos c]; exact c3
    · obtain ⟨z3, f3, e3, c3, m3⟩ := ih fu (i + 1) s z f (by omega) (by omega) h hg hσ
      refine ⟨z3, f3, ?_, ?_, m3⟩
      · rw [if_neg c, if_pos rfl]
        exact e3
      · rw [if_neg c]; exact c3
