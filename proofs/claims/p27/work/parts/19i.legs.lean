/-! so it is, of each leg, and all of it -/
section
variable {s : MSt} {z f : Nat → Nat → Int32}
theorem so_224 {n : Int} (hW : WF n s) {one two : Int} (h1 : 0 ≤ one ∧ one < 60000) (h2 : 0 ≤ two ∧ two < 60000) : ∀ (m fu k : Nat) (z f : Nat → Nat → Int32), k + m = (s 8 0).toNat → m < fu → CS s z f → LW s f → OK1 n (g_L_isSo_l224 fu (iv one) (iv two) (mk (dnS s)) (if stB s (-1) then 1 else 0) 1 (iv k) z f) := by
  have hk := hW.1.1
  have hB := ko_bd hk
  have h8 := ko_8 hk
  intro m
  induction m with
  | zero =>
    intro fu k z f hkm hf hC hL
    obtain ⟨fu, rfl⟩ : ∃ x, fu = x + 1 := ⟨fu - 1, by omega⟩
    rw [g_L_isSo_l224, lm_g hL.1 7 0, if_pos ((iv_le (by unfold IB; omega) (ibn (by omega))).mpr (by omega))]
    exact so_706 hC hL hW h1 h2
  | succ m ih =>
    intro fu k z f hkm hf hC hL
    obtain ⟨fu, rfl⟩ : ∃ x, fu = x + 1 := ⟨fu - 1, by omega⟩
    have k6 : k < 6 := by omega
    have hl : (k : Int) < s 8 0 := by omega
    have lg : lgP s k := ⟨by omega, hl⟩
    have ask : ∀ w, 0 ≤ w ∧ w ≤ 2 → nthR (g_X10_foot (iv k) (iv w) z f) = some (iv (ftA s k w)) := fun w hw => by
      have e := cq_foot hk hC (a := (k : Int)) (w := w) (ibn (by omega)) (ib_s (by omega))
      have o : oFoot s k w = (0, ftA s k w) := by unfold oFoot; rw [if_pos lg, if_pos hw, Int.toNat_natCast]
      rw [o] at e
      exact nth_r e
    have a0 := ask 0 (by decide)
    have a1 := ask 1 (by decide)
    have a2 := ask 2 (by decide)
    rw [show iv 0 = (0 : Int32) from rfl] at a0
    rw [show iv 1 = (1 : Int32) from rfl] at a1
    rw [show iv 2 = (2 : Int32) from rfl] at a2
    have f0 : ftA s k 0 = if s 7 k = -1 then 0 else 1 := rfl
    have f1 : ftA s k 1 = if s 7 k = -1 then -1 else (pt (s 7 k)).1 := rfl
    have f2 : ftA s k 2 = if s 7 k = -1 then -1 else (pt (s 7 k)).2 := rfl
    have kt : KO (us s 7 k (-1)) := ko_us hk (a := 7) (show (-1 : Int) ≤ -1 ∧ (-1 : Int) ≤ 399 by decide)
    have lt : LM (us s 7 k (-1)) f := lm_7 hL.1
    have ft : FX (us s 7 k (-1)) f := fx_up hL.2.2.1
    -- behind the foothold
    have would : ∀ {D : Int32}, (D = 0 ↔ s 7 k = -1) → OK1 n (g_L_isSo_b557 (fun y0 y1 y2 y3 y4 y5 z f => g_L_isSo_l224 fu y0 y1 y2 y3 y4 y5 z f) (iv one) (iv two) (mk (dnS s)) (if stB s (-1) then 1 else 0) (iv k) D (mk (dnS (us s 7 k (-1)))) 1 z f) := fun {D} hD => by
      have last : OK1 n (g_L_isSo_b677 (fun y0 y1 y2 y3 y4 y5 z f => g_L_isSo_l224 fu y0 y1 y2 y3 y4 y5 z f) (iv one) (iv two) (mk (dnS s)) (if stB s (-1) then 1 else 0) 1 (iv k) (iv (woA s k)) z f) := by
        obtain ⟨z1, f1', e, j⟩ := cq_would hk hC (a := (k : Int)) (ibn (by omega))
        have o : oWould s k = (0, woA s k) := by unfold oWould; rw [if_pos lg, Int.toNat_natCast]
        rw [o] at e
        have nx := ih fu (k + 1) z1 f1' (by omega) (by omega) (cj_cs j hC) (fm_ls j.2.2 hL)
        unfold g_L_isSo_b677
        rw [if_neg (show ¬ (1 : Int32) = 0 by decide), nth_w e, bn3_some, if_pos rfl]
        unfold g_L_isSo_b698
        rw [iv_1]
        exact nx
      have no : ¬ mlP s k → OK1 n (g_L_isSo_b601 (fun y0 y1 y2 y3 y4 y5 z f => g_L_isSo_l224 fu y0 y1 y2 y3 y4 y5 z f) (iv one) (iv two) (mk (dnS s)) (if stB s (-1) then 1 else 0) 1 (iv k) (mk (dnS (us s 7 k (-1)))) z f) := fun q => by
        have e : woA s k = -1 := by unfold woA; rw [if_neg q]
        rw [e] at last
        unfold g_L_isSo_b601 g_L_isSo_b602
        rw [if_neg (show ¬ (-1 : Int32) = 0 by decide)]
        exact last
      unfold g_L_isSo_b557
      rw [lm_g hL.1 0 6, lm_g hL.1 3 7]
      have e3 : (iv (s 8 7) ≤ (0 : Int32)) ↔ s 8 7 ≤ 0 := iv_le (b := 0) (by unfold IB; omega) (by decide)
      by_cases c1 : s 8 6 = 0
      · rw [if_neg (fun e => (stand_1 hk).mp e c1)]
        exact no (fun q => q.1 c1)
      rw [if_pos ((stand_1 hk).mpr c1)]
      by_cases c2 : s 7 k = -1
      · rw [if_pos (hD.mpr c2)]
        exact no (fun q => q.2.2.1 c2)
      rw [if_neg (fun e => c2 (hD.mp e))]
      by_cases c3 : s 8 7 ≤ 0
      · rw [if_pos (e3.mpr c3)]
        exact no (fun q => by have := q.2.1; omega)
      rw [if_neg (fun e => c3 (e3.mp e)), la_holds (ko_bd kt) lt ft, Option.bind_some, ← stB_wo]
      by_cases c4 : stB s k = true
      · rw [if_pos c4, if_neg (show ¬ (1 : Int32) = 0 by decide)]
        have hp : mlP s k := ⟨c1, by omega, c2, c4⟩
        unfold g_L_isSo_b602
        rw [if_pos rfl, la_sink (ko_bd kt) lt ft, Option.bind_some, show (0 : Int32) = iv 0 from rfl, so_623 6 FU (us s 7 k (-1)) 0 cnS_le (by decide) kt lt ft]
        unfold g_L_isSo_b675
        have e : (if stB (swN 6 (us s 7 k (-1))) (-1) = true then (if mk (skS (us s 7 k (-1))) = 0 then (0 : Int) else 1) else 2) = woA s k := by
          unfold woA
          rw [if_pos hp]
          by_cases q : mk (skS (us s 7 k (-1))) = 0
          · have es : swN 6 (us s 7 k (-1)) = us s 7 k (-1) := by rw [swN, if_pos q]
            rw [es, ← stB_wo, if_pos c4, if_pos q, if_pos q]
          · rw [if_neg q, if_neg q]
        rw [show iv 0 = (0 : Int32) from rfl, e]
        exact last
      · rw [if_neg c4, if_pos rfl]
        exact no (fun q => c4 q.2.2.2)
    have scan : ∀ {D : Int32}, (D = 0 ↔ s 7 k = -1) → OK1 n (g_L_isSo_b330 (fun y0 y1 y2 y3 y4 y5 z f => g_L_isSo_l224 fu y0 y1 y2 y3 y4 y5 z f) (iv one) (iv two) (mk (dnS s)) (if stB s (-1) then 1 else 0) (iv k) D 1 z f) := fun {D} hD => by
      unfold g_L_isSo_b330
      have lv := la_level (z := z) (ko_bd kt) lt ft
      rw [lvs_us] at lv
      rw [dn_clr k6, lv, Option.bind_some]
      have sc := so_366 (k224 := fun y0 y1 y2 y3 y4 y5 z f => g_L_isSo_l224 fu y0 y1 y2 y3 y4 y5 z f) (i9 := iv one) (i10 := iv two) (i11 := mk (dnS s)) (i12 := if stB s (-1) then 1 else 0) (i15 := D) hk hC hL k6 hl 400 FU 0 (-1) 10000 (by decide) (by decide) (Or.inl ⟨rfl, rfl, fun q hq => by have := hq.1; unfold nB at this; omega⟩)
      refine Eq.mpr (congrArg (OK1 n) sc) ?_
      exact would hD
    rw [g_L_isSo_l224, lm_g hL.1 7 0, if_neg (fun e => by have := (iv_le (by unfold IB; omega) (ibn (by omega))).mp e; omega), if_neg (show ¬ (1 : Int32) = 0 by decide)]
    by_cases d : s 7 k = -1
    · rw [if_pos d] at f0 f1 f2
      rw [if_neg (fun e => (mo_bit k6).mp e d)]
      unfold g_L_isSo_b255
      rw [a0, Option.bind_some, if_pos rfl, f0]
      unfold g_L_isSo_b274
      rw [if_pos (show iv 0 = (0 : Int32) from rfl), a1, Option.bind_some, if_pos rfl, f1]
      unfold g_L_isSo_b298
      rw [if_pos (show iv (-1) = (-1 : Int32) from rfl), a2, Option.bind_some, if_pos rfl, f2]
      unfold g_L_isSo_b322
      rw [if_pos (show iv (-1) = (-1 : Int32) from rfl)]
      exact scan ⟨fun _ => d, fun _ => rfl⟩
    · obtain ⟨xk, yk⟩ := hL.2.2.1 k k6 d
      rw [if_neg d] at f0 f1 f2
      rw [if_pos ((mo_bit k6).mpr d)]
      unfold g_L_isSo_b255
      rw [a0, Option.bind_some, if_neg (show ¬ (1 : Int32) = 0 by decide), f0]
      unfold g_L_isSo_b274
      rw [if_pos (show iv 1 = (1 : Int32) from rfl), a1, Option.bind_some, if_neg (show ¬ (1 : Int32) = 0 by decide), f1, ix_iv k6 (by decide), Option.bind_some, xk]
      unfold g_L_isSo_b298
      rw [if_pos rfl, a2, Option.bind_some, if_neg (show ¬ (1 : Int32) = 0 by decide), f2, ix_iv k6 (by decide), Option.bind_some, yk]
      unfold g_L_isSo_b322
      rw [if_pos rfl]
      exact scan ⟨fun e => absurd e (by decide), fun e => absurd e d⟩
theorem la_so {n : Int} (hC : CS s z f) (hL : LW s f) (hW : WF n s) {one two : Int} (h1 : 0 ≤ one ∧ one < 60000) (h2 : 0 ≤ two ∧ two < 60000) : OK1 n (g_L_isSo (iv one) (iv two) z f) := by
  have hk := hW.1.1
  have hB := ko_bd hk
  have h8 := ko_8 hk
  have ask : ∀ a, 0 ≤ a ∧ a ≤ 11 → nthR (g_X10_machine (iv a) z f) = some (iv (mchS s a)) := fun a ha => by
    have e := cq_machine hk hC (a := a) (ib_s (by omega))
    have o : oMach s a = (0, mchS s a) := by unfold oMach; rw [if_pos ha]
    rw [o] at e
    exact nth_r e
  have a0 := ask 0 (by decide)
  have a1 := ask 1 (by decide)
  have a2 := ask 2 (by decide)
  have a3 := ask 3 (by decide)
  have a4 := ask 4 (by decide)
  have a5 := ask 5 (by decide)
  have a6 := ask 6 (by decide)
  have a7 := ask 7 (by decide)
  have a8 := ask 8 (by decide)
  have a9 := ask 9 (by decide)
  have a10 := ask 10 (by decide)
  have a11 := ask 11 (by decide)
  rw [show iv 0 = (0 : Int32) from rfl] at a0
  rw [show iv 1 = (1 : Int32) from rfl] at a1
  rw [show iv 2 = (2 : Int32) from rfl] at a2
  rw [show iv 3 = (3 : Int32) from rfl] at a3
  rw [show iv 4 = (4 : Int32) from rfl] at a4
  rw [show iv 5 = (5 : Int32) from rfl] at a5
  rw [show iv 6 = (6 : Int32) from rfl] at a6
  rw [show iv 7 = (7 : Int32) from rfl] at a7
  rw [show iv 8 = (8 : Int32) from rfl] at a8
  rw [show iv 9 = (9 : Int32) from rfl] at a9
  rw [show iv 10 = (10 : Int32) from rfl] at a10
  rw [show iv 11 = (11 : Int32) from rfl] at a11
  have m2 : mchS s 2 = s 8 6 := by
    show (if s 8 6 = 0 then (0 : Int) else 1) = _
    by_cases c : s 8 6 = 0
    · rw [if_pos c, c]
    · rw [if_neg c]; omega
  have tail : ∀ {v w : Int32}, v = w → OK1 n (g_L_isSo_b193 (iv one) (iv two) (mk (dnS s)) (if stB s (-1) then 1 else 0) v w z f) := fun {v w} e => by
    unfold g_L_isSo_b193
    rw [if_pos e]
    obtain ⟨z1, f1, e1, j1⟩ := cq_isStable hk hC
    have C1 := cj_cs j1 hC
    have L1 := fm_ls j1.2.2 hL
    obtain ⟨z2, f2, e2, j2⟩ := cq_isStableAnew hk C1
    have C2 := cj_cs j2 C1
    have L2 := fm_ls j2.2.2 L1
    rw [e1, bn3_some, if_pos rfl, e2, bn3_some, if_pos rfl]
    unfold g_L_isSo_b219
    exact so_224 hW h1 h2 (s 8 0).toNat FU 0 z2 f2 (by omega) (by show _ < 2000; omega) C2 L2
  unfold g_L_isSo
  rw [hL.2.1, la_holds hB hL.1 hL.2.2.1, Option.bind_some, a0, Option.bind_some, lm_g hL.1 1 4, if_pos (show iv (mchS s 0) = iv (s 8 4) from rfl), a1, Option.bind_some, lm_g hL.1 2 5, if_pos (show iv (mchS s 1) = iv (s 8 5) from rfl), a2, Option.bind_some, lm_g hL.1 0 6, m2, if_pos rfl, a3, Option.bind_some, lm_g hL.1 3 7, if_pos (show iv (mchS s 3) = iv (s 8 7) from rfl), a4, Option.bind_some, lm_g hL.1 4 1, if_pos (show iv (mchS s 4) = iv (s 8 1) from rfl), a5, Option.bind_some, la_level hB hL.1 hL.2.2.1, Option.bind_some, if_pos (show iv (mchS s 5) = iv (lvS (s 3) (s 7) (-1)) from rfl), a6, Option.bind_some, la_press hB hL.1, Option.bind_some, if_pos (show iv (mchS s 6) = iv (psS s) from rfl), a7, Option.bind_some, la_many, Option.bind_some, if_pos (show iv (mchS s 7) = iv (cnS (s 7) : Nat) from rfl), a8, Option.bind_some, lm_g hL.1 9 8, if_pos (show iv (mchS s 8) = iv (s 8 8) from rfl), a9, Option.bind_some, lm_g hL.1 11 12, if_pos (show iv (mchS s 9) = iv (s 8 12) from rfl), a10, Option.bind_some, lm_g hL.1 7 0, if_pos (show iv (mchS s 10) = iv (s 8 0) from rfl), a11, Option.bind_some, lm_g hL.1 12 13, lm_g hL.1 13 14]
  have m11 : mchS s 11 = if s 8 13 = 0 then -1 else s 8 14 := rfl
  have e0 : (iv (s 8 13) = (0 : Int32)) ↔ s 8 13 = 0 := iv_eq (b := 0) (by unfold IB; omega) (by decide)
  rw [m11]
  by_cases c : s 8 13 = 0
  · rw [if_pos (e0.mpr c), if_pos c]
    exact tail rfl
  · rw [if_neg (fun e => c (e0.mp e)), if_neg c]
    exact tail rfl
end
