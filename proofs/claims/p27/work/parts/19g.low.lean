/-! the lowest foot, and the corners all told -/
section
variable {s : MSt} {z f : Nat → Nat → Int32}
def atOK (s : MSt) (k : Nat) (t : Int) : Prop := (t = -1 ∧ ∀ j, j < k → s 7 j = -1) ∨ ∃ a : Nat, t = a ∧ a < k ∧ s 7 a ≠ -1 ∧ ∀ j, j < k → s 7 j ≠ -1 → s 7 a ≤ s 7 j
theorem so_712 (hB : BD s) (hF : FX s f) {i9 i10 i12 : Int32} : ∀ (m fu k : Nat) (t : Int), k + m = 6 → m < fu → atOK s k t → ∃ t', atOK s 6 t' ∧ g_L_isSo_l712 fu i9 i10 (mk (dnS s)) i12 1 (iv t) (iv k) z f = g_L_isSo_l806 FU i9 i10 (mk (dnS s)) i12 1 (iv t') (iv t') 0 0 0 z f := by
  intro m
  induction m with
  | zero =>
    intro fu k t hk hf h
    obtain ⟨fu, rfl⟩ : ∃ x, fu = x + 1 := ⟨fu - 1, by omega⟩
    have : k = 6 := by omega
    subst this
    refine ⟨t, h, ?_⟩
    rw [g_L_isSo_l712, if_pos (show (6 : Int32) ≤ iv ((6 : Nat) : Int) by decide)]
  | succ m ih =>
    intro fu k t hk hf h
    obtain ⟨fu, rfl⟩ : ∃ x, fu = x + 1 := ⟨fu - 1, by omega⟩
    have k6 : k < 6 := by omega
    have keep : atOK s (k + 1) t → ∃ t', atOK s 6 t' ∧ g_L_isSo_b770 (fun y0 y1 y2 y3 y4 y5 y6 z f => g_L_isSo_l712 fu y0 y1 y2 y3 y4 y5 y6 z f) i9 i10 (mk (dnS s)) i12 1 (iv t) (iv k) z f = g_L_isSo_l806 FU i9 i10 (mk (dnS s)) i12 1 (iv t') (iv t') 0 0 0 z f := fun q => by
      unfold g_L_isSo_b770 g_L_isSo_b771
      rw [if_pos rfl]
      unfold g_L_isSo_b785
      rw [iv_1]
      exact ih fu (k + 1) t (by omega) (by omega) q
    have take : atOK s (k + 1) (k : Int) → ∃ t', atOK s 6 t' ∧ g_L_isSo_b766 (fun y0 y1 y2 y3 y4 y5 y6 z f => g_L_isSo_l712 fu y0 y1 y2 y3 y4 y5 y6 z f) i9 i10 (mk (dnS s)) i12 1 (iv t) (iv k) z f = g_L_isSo_l806 FU i9 i10 (mk (dnS s)) i12 1 (iv t') (iv t') 0 0 0 z f := fun q => by
      unfold g_L_isSo_b766 g_L_isSo_b771
      rw [if_neg (show ¬ (1 : Int32) = 0 by decide)]
      unfold g_L_isSo_b785
      rw [iv_1]
      exact ih fu (k + 1) (k : Int) (by omega) (by omega) q
    rw [g_L_isSo_l712, if_neg (show ¬ (6 : Int32) ≤ iv (k : Nat) from fun e => by have := (iv_le (a := 6) (by decide) (ibn (by omega))).mp e; omega)]
    by_cases d : s 7 k = -1
    · rw [if_neg (fun e => (mo_bit k6).mp e d)]
      refine keep ?_
      rcases h with ⟨h1, h2⟩ | ⟨a, h1, h2, h3, h4⟩
      · refine Or.inl ⟨h1, fun j hj => ?_⟩
        rcases Nat.lt_or_eq_of_le (Nat.le_of_lt_succ hj) with q | q
        · exact h2 j q
        · subst q; exact d
      · refine Or.inr ⟨a, h1, by omega, h3, fun j hj hd => ?_⟩
        rcases Nat.lt_or_eq_of_le (Nat.le_of_lt_succ hj) with q | q
        · exact h4 j q hd
        · subst q; exact absurd d hd
    · rw [if_pos ((mo_bit k6).mpr d)]
      have nk := (hB.2.2.2 k k6).resolve_left d
      rcases h with ⟨rfl, h2⟩ | ⟨a, rfl, h2, h3, h4⟩
      · rw [if_pos (show iv (-1) < (0 : Int32) by decide)]
        refine take (Or.inr ⟨k, rfl, by omega, d, fun j hj hd => ?_⟩)
        rcases Nat.lt_or_eq_of_le (Nat.le_of_lt_succ hj) with q | q
        · exact absurd (h2 j q) hd
        · subst q; exact Int.le_refl _
      · have na := (hB.2.2.2 a (by omega)).resolve_left h3
        have bk : 0 ≤ s 7 k ∧ s 7 k < 400 := nk
        have ba : 0 ≤ s 7 a ∧ s 7 a < 400 := na
        rw [if_neg (show ¬ iv (a : Nat) < (0 : Int32) from fun e => by have := (iv_lt (b := 0) (ibn (by omega)) (by decide)).mp e; omega), ix_iv k6 (by decide), ix_iv (show a < 6 by omega) (by decide)]
        simp only [Option.bind_some]
        rw [at_p hF k6 d nk, at_p hF (by omega) h3 na]
        have e1 : (iv (s 7 a) ≤ iv (s 7 k)) ↔ s 7 a ≤ s 7 k := iv_le (ib_s (by omega)) (ib_s (by omega))
        by_cases c : s 7 a ≤ s 7 k
        · rw [if_pos (e1.mpr c)]
          refine keep (Or.inr ⟨a, rfl, by omega, h3, fun j hj hd => ?_⟩)
          rcases Nat.lt_or_eq_of_le (Nat.le_of_lt_succ hj) with q | q
          · exact h4 j q hd
          · subst q; exact c
        · rw [if_neg (fun e => c (e1.mp e))]
          refine take (Or.inr ⟨k, rfl, by omega, d, fun j hj hd => ?_⟩)
          rcases Nat.lt_or_eq_of_le (Nat.le_of_lt_succ hj) with q | q
          · have := h4 j q hd; omega
          · subst q; exact Int.le_refl _
theorem so_706 {n : Int} (hC : CS s z f) (hL : LW s f) (hW : WF n s) {one two : Int} (h1 : 0 ≤ one ∧ one < 60000) (h2 : 0 ≤ two ∧ two < 60000) : OK1 n (g_L_isSo_b706 (iv one) (iv two) (mk (dnS s)) (if stB s (-1) then 1 else 0) 1 z f) := by
  have hk := hW.1.1
  have hB := ko_bd hk
  unfold g_L_isSo_b706
  obtain ⟨t, ht, e⟩ := so_712 (z := z) hB hL.2.2.1 (i9 := iv one) (i10 := iv two) (i12 := if stB s (-1) then 1 else 0) 6 FU 0 (-1) (by decide) (by decide) (Or.inl ⟨rfl, fun j hj => absurd hj (Nat.not_lt_zero _)⟩)
  refine Eq.mpr (congrArg (OK1 n) e) ?_
  obtain ⟨m, c, hc⟩ := co_ex hk hC
  have hcor := hc
  rcases ht with ⟨rfl, hu⟩ | ⟨a, rfl, ha, hd, hmin⟩
  · rcases hc with ⟨-, rfl, -⟩ | ⟨st, hst, -⟩
    · rw [show FU = 1999 + 1 from rfl, g_L_isSo_l806, if_pos (show iv (-1) < (0 : Int32) by decide)]
      exact so_1138 (m := 0) (b := false) (y := FP.fconst0) hC hL hW h1 h2 hcor (by decide) ⟨fun q => absurd q (by decide), fun q => absurd q (by decide)⟩ (fun q => absurd q (by decide))
    · obtain ⟨k, hk6, dk, -⟩ := fl_m.mp hst
      exact absurd (hu k hk6) dk
  · have hin : s 7 a ∈ fls (s 7) (-1) := fl_m.mpr ⟨a, ha, hd, rfl⟩
    rcases hc with ⟨e0, -, -⟩ | ⟨st, hst, hS, hm1, h6, hr, hm, hcN⟩
    · rw [e0] at hin; cases hin
    · have es : c 0 = s 7 a := by
        have e0 : c 0 = st := by rw [hcN]; rfl
        rw [e0]
        obtain ⟨k, hk6, dk, ek⟩ := fl_m.mp hst
        have q1 := hmin k hk6 dk
        apply Classical.byContradiction
        intro hne
        have := hS.2 (pt (s 7 a)) (fp_m.mpr ⟨a, ha, hd, rfl⟩) (fun e => hne (pt_inj e).symm)
        rw [pt_fi, pt_fi] at this
        omega
      exact so_806 hW h1 h2 hcor hm1 ha es m FU 0 a FP.fconst0 false z f (by omega) (by show m + 1 < 2000; omega) hC hL ha es.symm ok_0 rfl (fun _ => rfl) (fun q => by omega)
end
