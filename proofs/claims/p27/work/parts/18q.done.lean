/-! done: loading, lifting, placing, shifting -/
section
variable {s : MSt} {z f : Nat → Nat → Int32}
theorem lw_ld (h : LW s f) {w x y : Int} : LW (ldS s w x y) (upf (upf (upf f 74 4 (iv w)) 74 5 (iv x)) 74 6 (iv y)) := lw_u (lw_u (lw_u h (c := 4) (j := 1) (by decide) (by decide)) (c := 5) (j := 2) (by decide) (by decide)) (c := 6) (j := 3) (by decide) (by decide)
theorem fl_3 {a b c : Nat} {u v w : Int32} : Fl f (upf (upf (upf f 74 a u) 74 b v) 74 c w) := fl_tr (fl_u (by decide)) (fl_tr (fl_u (by decide)) (fl_u (by decide)))
theorem lb245_1 {a b : Int32} (h : a = b) : g_L_isDone_b245 a b z f = some (1, z, f) := by
  unfold g_L_isDone_b245
  exact if_pos h
theorem lb780_1 {a b : Int32} (h : a = b) : g_L_isDone_b780 a b z f = some (1, z, f) := by
  unfold g_L_isDone_b780
  exact if_pos h
theorem lb951_1 {a b : Int32} (h : a = b) : g_L_isDone_b951 a b z f = some (1, z, f) := by
  unfold g_L_isDone_b951
  exact if_pos h
theorem lb1091_1 {a b : Int32} (h : a = b) : g_L_isDone_b1091 a b z f = some (1, z, f) := by
  unfold g_L_isDone_b1091
  exact if_pos h
theorem lb1466_1 {a b : Int32} (h : a = b) : g_L_isDone_b1466 a b z f = some (1, z, f) := by
  unfold g_L_isDone_b1466
  exact if_pos h
theorem lb669_1 {a b : Int32} (h : a = b) : g_L_isDone_b669 a b z f = some (1, z, f) := by
  unfold g_L_isDone_b669
  exact if_pos h
theorem la_done0 {n : Int} (hn : n < 1000000) (hC : CS s z f) (hL : LW s f) (hW : WF n s) {w x y : Int} (hw : 0 ≤ w ∧ w ≤ 21) (hx : -3 ≤ x ∧ x ≤ 3) (hy : -3 ≤ y ∧ y ≤ 6) : OK1 n (g_L_isDone_b64 (iv w) (iv x) (iv y) z f) := by
  have hk := hW.1.1
  have h8 := ko_8 hk
  have ask : ∀ {f1} (_ : CS s z f1), ∃ z' f', g_L_does 5 (iv w) (iv x) (iv y) 0 0 z f1 = some (dvC [-2000000, -1000000] (oLoad s w x y).1 (oLoad s w x y).2.1, z', f') ∧ CS (oLoad s w x y).2.2 z' f' ∧ Fm z f1 z' f' := fun {f1} c1 => by
    obtain ⟨z', f', e, c, F⟩ := cq_load hn hW.1 c1 (ib_s (a := w) (by omega)) (ib_s (a := x) (by omega)) (ib_s (a := y) (by omega))
    refine ⟨z', f', ?_, c, F⟩
    rw [do_5]
    exact dq_w e wl_AS oc_load
  have lN := lw_ld hL (w := w) (x := x) (y := y)
  have lB : LW s (upf (upf (upf (upf (upf (upf (upf f 74 4 (iv w)) 74 5 (iv x)) 74 6 (iv y)) 74 14 0) 74 4 (f 74 4)) 74 5 (f 74 5)) 74 6 (f 74 6)) := by
    have := lw_ld (lwz_14 (v := 0) lN) (w := s 8 1) (x := s 8 2) (y := s 8 3)
    rw [show ldS (ldS s w x y) (s 8 1) (s 8 2) (s 8 3) = s from ld_bk] at this
    rw [lm_g hL.1 4 1, lm_g hL.1 5 2, lm_g hL.1 6 3]
    exact this
  have lF : Fl f (upf (upf (upf (upf (upf (upf (upf f 74 4 (iv w)) 74 5 (iv x)) 74 6 (iv y)) 74 14 0) 74 4 (f 74 4)) 74 5 (f 74 5)) 74 6 (f 74 6)) := fl_tr fl_3 (fl_tr (fl_u (by decide)) fl_3)
  have no : ∀ {i : Int32}, (i = 0 → ¬ ldP w x y) → (i ≠ 0 → ldP w x y ∧ ¬ ldQ s w x y) → OK1 n (g_L_isDone_b158 (iv w) (iv x) (iv y) i (f 74 4) (f 74 5) (f 74 6) z (upf (upf (upf f 74 4 (iv w)) 74 5 (iv x)) 74 6 (iv y))) := fun {i} q0 q1 => by
    unfold g_L_isDone_b158 g_L_isDone_b159
    rw [lt2_e, if_pos rfl, lt2_e, lt2_e, lt2_e]
    unfold g_L_isDone_b207
    obtain ⟨z', f', e, c, F⟩ := ask (fl_cs lF hC)
    by_cases hi : i = 0
    · have o : oLoad s w x y = (1, 0, s) := by unfold oLoad; rw [if_neg (q0 hi)]
      rw [o] at e c
      dsimp only at e c
      refine ⟨s, z', f', ?_, c, fm_ls F lB, hW⟩
      rw [e, bn3_some, if_pos hi]
      exact lb245_1 rfl
    · have o : oLoad s w x y = (2, 0, s) := by unfold oLoad; rw [if_pos (q1 hi).1, if_neg (q1 hi).2]
      rw [o] at e c
      dsimp only at e c
      refine ⟨s, z', f', ?_, c, fm_ls F lB, hW⟩
      rw [e, bn3_some, if_neg hi, if_pos rfl]
      exact lb245_1 rfl
  have no0 : ¬ ldP w x y → OK1 n (g_L_isDone_b84 (iv w) (iv x) (iv y) z f) := fun q => by
    unfold g_L_isDone_b84 g_L_isDone_b85
    rw [lt2_e, lt2_e, lt2_e, if_pos rfl]
    exact no (fun _ => q) (fun h => absurd rfl h)
  have yes : ldP w x y → ldQ s w x y → OK1 n (g_L_isDone_b154 (iv w) (iv x) (iv y) 1 (f 74 4) (f 74 5) (f 74 6) z (upf (upf (upf f 74 4 (iv w)) 74 5 (iv x)) 74 6 (iv y))) := fun hp hq => by
    unfold g_L_isDone_b154 g_L_isDone_b159
    rw [lt2_e, if_neg (show ¬ (1 : Int32) = 0 by decide)]
    obtain ⟨f1, e1, l1, F1⟩ := la_settles (z := z) hn (wb_ld hW hp hq) (lx_0 lN)
    rw [e1, bn2_some]
    unfold g_L_isDone_b207
    obtain ⟨z', f', e, c, F⟩ := ask (fl_cs (fl_tr (fl_tr fl_3 (fl_u (by decide))) F1) hC)
    have wg := wf_load hn hW w x y
    have o : oLoad s w x y = (0, stlS (us (ldS s w x y) 8 11 0) 8 11, stlS (us (ldS s w x y) 8 11 0)) := by unfold oLoad; rw [if_pos hp, if_pos hq]
    rw [o] at e c wg
    dsimp only at e c wg
    refine ⟨_, z', f', ?_, c, fm_ls F l1.1, wg⟩
    rw [e, bn3_some, if_neg (show ¬ (1 : Int32) = 0 by decide), if_neg (show ¬ (1 : Int32) = 0 by decide), (F 74 (by decide)).2, l1.2]
    exact lb245_1 dv_0
  unfold g_L_isDone_b64
  have e1 : ((21 : Int32) ≤ iv w) ↔ 21 ≤ w := iv_le (a := 21) (by decide) (ib_s (by omega))
  have e2 : ((6 : Int32) ≤ iv y) ↔ 6 ≤ y := iv_le (a := 6) (by decide) (ib_s (by omega))
  by_cases c1 : 21 ≤ w
  · rw [if_pos (e1.mpr c1)]
    exact no0 (fun q => by have := q.1; omega)
  rw [if_neg (fun e => c1 (e1.mp e))]
  by_cases c2 : 6 ≤ y
  · rw [if_pos (e2.mpr c2)]
    exact no0 (fun q => by have := q.2.2; omega)
  rw [if_neg (fun e => c2 (e2.mp e))]
  have hp : ldP w x y := ⟨by omega, by omega, by omega⟩
  unfold g_L_isDone_b85
  rw [lt2_e, lt2_e, lt2_e, if_neg (show ¬ (1 : Int32) = 0 by decide), lm_g lN.1 0 6, show ldS s w x y 8 6 = s 8 6 from ld_o (fun _ => by decide)]
  have e5 : (iv (s 8 6) = (0 : Int32)) ↔ s 8 6 = 0 := iv_eq (b := 0) (by unfold IB; omega) (by decide)
  by_cases c3 : s 8 6 = 0
  · rw [if_pos (e5.mpr c3)]
    exact yes hp (Or.inl c3)
  rw [if_neg (fun e => c3 (e5.mp e)), lN.2.1, la_holds (ko_bd (ai_ld hW.1 hp).1) lN.1 lN.2.2.1, Option.bind_some]
  by_cases c4 : stB (ldS s w x y) (-1) = true
  · rw [if_pos c4, if_neg (show ¬ (1 : Int32) = 0 by decide)]
    exact yes hp (Or.inr c4)
  · rw [if_neg c4, if_pos rfl]
    exact no (fun e => absurd e (by decide)) (fun _ => ⟨hp, fun q => q.elim c3 c4⟩)
theorem la_done2 {n : Int} (hn : n < 1000000) (hC : CS s z f) (hL : LW s f) (hW : WF n s) {k : Nat} (hk : (k : Int) ≤ s 8 0) {i : Int32} (h0 : i = 0 → ¬ (k : Int) < s 8 0) (h1 : i ≠ 0 → (k : Int) < s 8 0) : OK1 n (if i = 0 then g_L_isDone_b740 (iv k) i z f else bn3 (g_L_lifts (iv k) z f) fun x2 z3 u4 => if x2 = 0 then g_L_isDone_b740 (iv k) i z3 u4 else g_L_isDone_b741 (iv k) i 1 z3 u4) := by
  have hk' := hW.1.1
  have h8 := ko_8 hk'
  have ask : ∀ {f1} (_ : CS s z f1), ∃ z' f', g_L_does 7 (iv k) 0 0 0 0 z f1 = some (dvC [-3000000, -1000000] (oLift s k).1 (oLift s k).2.1, z', f') ∧ CS (oLift s k).2.2 z' f' ∧ Fm z f1 z' f' := fun {f1} c1 => by
    obtain ⟨z', f', e, c, F⟩ := cq_lift hn hW.1 c1 (ib_s (a := k) (by omega))
    refine ⟨z', f', ?_, c, F⟩
    rw [do_7]
    exact dq_w e wl_IS oc_lift
  by_cases hi : i = 0
  · rw [if_pos hi]
    obtain ⟨z', f', e, c, F⟩ := ask hC
    have o : oLift s k = (1, 0, s) := by unfold oLift; rw [if_neg (fun q => h0 hi q.2)]
    rw [o] at e c
    dsimp only at e c
    refine ⟨s, z', f', ?_, c, fm_ls F hL, hW⟩
    unfold g_L_isDone_b740 g_L_isDone_b741
    rw [e, bn3_some, if_pos hi]
    exact lb780_1 rfl
  · rw [if_neg hi]
    have hl := h1 hi
    have lg : lgP s k := ⟨by omega, hl⟩
    obtain ⟨f1, e1, y1, n1, F1⟩ := la_lifts (z := z) hn hW hL (k := k) (by omega)
    obtain ⟨z', f', e, c, F⟩ := ask (fl_cs F1 hC)
    have wg := wf_lift hn hW k
    rw [e1, bn3_some]
    by_cases hp : mlP s k
    · have o : oLift s k = (0, stlS (lfS s k) 8 11, stlS (lfS s k)) := by unfold oLift; rw [if_pos lg]; exact if_pos hp
      rw [o] at e c wg
      dsimp only at e c wg
      have l1 := y1 hp
      refine ⟨_, z', f', ?_, c, fm_ls F l1.1, wg⟩
      rw [if_pos hp, if_neg (show ¬ (1 : Int32) = 0 by decide)]
      unfold g_L_isDone_b741
      rw [e, bn3_some, if_neg hi, if_neg (show ¬ (1 : Int32) = 0 by decide), (F 74 (by decide)).2, l1.2]
      exact lb780_1 dv_0
    · have o : oLift s k = (2, 0, s) := by unfold oLift; rw [if_pos lg]; exact if_neg hp
      rw [o] at e c wg
      dsimp only at e c wg
      refine ⟨_, z', f', ?_, c, fm_ls F (n1 hp).1, wg⟩
      rw [if_neg hp, if_pos rfl]
      unfold g_L_isDone_b740 g_L_isDone_b741
      rw [e, bn3_some, if_neg hi, if_pos rfl]
      exact lb780_1 rfl
theorem la_done3 {n : Int} (hn : n < 1000000) (hC : CS s z f) (hL : LW s f) (hW : WF n s) {k : Nat} (hk : (k : Int) ≤ s 8 0) {i : Int32} (h0 : i = 0 → ¬ (k : Int) < s 8 0) (h1 : i ≠ 0 → (k : Int) < s 8 0) {two : Int} (h2 : 0 ≤ two ∧ two < 100000) : OK1 n (if i = 0 then g_L_isDone_b813 (iv two) (iv k) i 5 z f else (g_L_hipX (iv k) z f).bind fun x1 => g_L_isDone_b813 (iv two) (iv k) i x1 z f) := by
  have hk' := hW.1.1
  have hB := ko_bd hk'
  have h8 := ko_8 hk'
  have ask : ∀ {x y : Int} (_ : IB x) (_ : IB y) {f1} (_ : CS s z f1), ∃ z' f', g_L_does 8 (iv k) (iv x) (iv y) 0 0 z f1 = some (dvC [-3000000, -2000000, -1000000] (oPlace s k x y).1 (oPlace s k x y).2.1, z', f') ∧ CS (oPlace s k x y).2.2 z' f' ∧ Fm z f1 z' f' := fun {x y} ix iy {f1} c1 => by
    obtain ⟨z', f', e, c, F⟩ := cq_place hn hW.1 c1 (ib_s (a := k) (by omega)) ix iy
    refine ⟨z', f', ?_, c, F⟩
    rw [do_8]
    exact dq_w e wl_IAS oc_place
  have core : ∀ {X Y : Int}, -50 ≤ X ∧ X ≤ 50 → -50 ≤ Y ∧ Y ≤ 50 → OK1 n (g_L_isDone_b840 (iv two) (iv k) i (iv (X + two % 5 - 2)) (iv Y) z f) := fun {X Y} hX hY => by
    unfold g_L_isDone_b840
    rw [show jrem (iv two / 5) 5 = iv (two / 5 % 5) from jv (c := 5) (d := 5) h2 (by decide) (by decide), iv_add, show iv (Y + two / 5 % 5) - 2 = iv (Y + two / 5 % 5 - 2) from iv_sub _ 2]
    generalize hx : X + two % 5 - 2 = x
    generalize hy : Y + two / 5 % 5 - 2 = y
    have ix : IB x := ib_s (by omega)
    have iy : IB y := ib_s (by omega)
    rw [la_in ix iy, Option.bind_some]
    by_cases hi : i = 0
    · rw [if_pos hi]
      obtain ⟨z', f', e, c, F⟩ := ask ix iy hC
      have o : oPlace s k x y = (1, 0, s) := by unfold oPlace; rw [if_neg (fun q => h0 hi q.2)]
      rw [o] at e c
      dsimp only at e c
      refine ⟨s, z', f', ?_, c, fm_ls F hL, hW⟩
      unfold g_L_isDone_b899 g_L_isDone_b900
      rw [e, bn3_some, if_pos hi]
      exact lb951_1 rfl
    · rw [if_neg hi]
      have hl := h1 hi
      have lg : lgP s k := ⟨by omega, hl⟩
      obtain ⟨q1, q2⟩ | ⟨hp, hpt, q3⟩ := paS_cs x y
      · rw [if_neg q2, if_pos rfl]
        obtain ⟨z', f', e, c, F⟩ := ask ix iy hC
        have o : oPlace s k x y = (2, 0, s) := by unfold oPlace; rw [if_pos lg, if_pos q1]
        rw [o] at e c
        dsimp only at e c
        refine ⟨s, z', f', ?_, c, fm_ls F hL, hW⟩
        unfold g_L_isDone_b899 g_L_isDone_b900
        rw [e, bn3_some, if_neg hi, if_pos rfl]
        exact lb951_1 rfl
      · rw [if_pos q3, if_neg (show ¬ (1 : Int32) = 0 by decide)]
        obtain ⟨f1, e1, y1, n1, F1⟩ := la_places (z := z) hn hW hL (k := k) (by omega) hl hp
        rw [hpt] at e1
        obtain ⟨z', f', e, c, F⟩ := ask ix iy (fl_cs F1 hC)
        have wg := wf_place hn hW k x y
        have hne : ¬ paS x y = -1 := by unfold nB at hp; omega
        rw [e1, bn3_some]
        by_cases hq : plP s k (paS x y)
        · have o : oPlace s k x y = (0, stlS (plS s k (paS x y)) 8 11, stlS (plS s k (paS x y))) := by unfold oPlace; rw [if_pos lg, if_neg hne]; exact if_pos hq
          rw [o] at e c wg
          dsimp only at e c wg
          have l1 := y1 hq
          refine ⟨_, z', f', ?_, c, fm_ls F l1.1, wg⟩
          rw [if_pos hq, if_neg (show ¬ (1 : Int32) = 0 by decide)]
          unfold g_L_isDone_b900
          rw [e, bn3_some, if_neg hi, if_neg (show ¬ (1 : Int32) = 0 by decide), if_neg (show ¬ (1 : Int32) = 0 by decide), (F 74 (by decide)).2, l1.2]
          exact lb951_1 dv_0
        · have o : oPlace s k x y = (3, 0, s) := by unfold oPlace; rw [if_pos lg, if_neg hne]; exact if_neg hq
          rw [o] at e c wg
          dsimp only at e c wg
          refine ⟨_, z', f', ?_, c, fm_ls F (n1 hq).1, wg⟩
          rw [if_neg hq, if_pos rfl]
          unfold g_L_isDone_b899 g_L_isDone_b900
          rw [e, bn3_some, if_neg hi, if_neg (show ¬ (1 : Int32) = 0 by decide), if_pos rfl]
          exact lb951_1 rfl
  by_cases hi : i = 0
  · rw [if_pos hi]
    unfold g_L_isDone_b813
    rw [if_pos hi, show jrem (iv two) 5 = iv (two % 5) from jw (d := 5) h2 (by decide), show (5 : Int32) + iv (two % 5) = iv (5 + two % 5) from iv_add 5 _, show iv (5 + two % 5) - 2 = iv (5 + two % 5 - 2) from iv_sub _ 2, show (5 : Int32) = iv 5 from rfl]
    exact core (X := 5) (Y := 5) (by decide) (by decide)
  · have hl := h1 hi
    have hb := hip_bd hB (k := k) (by omega)
    rw [if_neg hi, la_hipX hB hL.1 (by omega) hl, Option.bind_some]
    unfold g_L_isDone_b813
    rw [if_neg hi, la_hipY hB hL.1 (by omega) hl, Option.bind_some, show jrem (iv two) 5 = iv (two % 5) from jw (d := 5) h2 (by decide), iv_add, show iv (hxS s k + two % 5) - 2 = iv (hxS s k + two % 5 - 2) from iv_sub _ 2]
    exact core (by omega) (by omega)
theorem la_done4 {n : Int} (hn : n < 1000000) (hC : CS s z f) (hL : LW s f) (hW : WF n s) {x : Int} (hx : -1 ≤ x ∧ x ≤ 2) {two : Int} (h2 : 0 ≤ two ∧ two < 100000) : OK1 n (g_L_isDone_b986 (iv two) (iv x) z f) := by
  have hk' := hW.1.1
  unfold g_L_isDone_b986
  rw [show jrem (iv two) 3 = iv (two % 3) from jw (d := 3) h2 (by decide), show iv (two % 3) - 1 = iv (two % 3 - 1) from iv_sub _ 1]
  generalize hy : two % 3 - 1 = y
  have by' : -1 ≤ y ∧ y ≤ 1 := by omega
  have ix : IB x := ib_s (by omega)
  have iy : IB y := ib_s (by omega)
  have ask : ∀ {f1} (_ : CS s z f1), ∃ z' f', g_L_does 9 (iv x) (iv y) 0 0 0 z f1 = some (dvC [-2000000, -1000000] (oShift s x y).1 (oShift s x y).2.1, z', f') ∧ CS (oShift s x y).2.2 z' f' ∧ Fm z f1 z' f' := fun {f1} c1 => by
    obtain ⟨z', f', e, c, F⟩ := cq_shift hn hW.1 c1 ix iy
    refine ⟨z', f', ?_, c, F⟩
    rw [do_9]
    exact dq_w e wl_AS oc_shift
  have no : ¬ wyP x y → OK1 n (g_L_isDone_b1016 (iv x) (iv y) z f) := fun q => by
    unfold g_L_isDone_b1016 g_L_isDone_b1017
    rw [if_pos rfl]
    obtain ⟨z', f', e, c, F⟩ := ask hC
    have o : oShift s x y = (1, 0, s) := by unfold oShift; rw [if_neg q]
    rw [o] at e c
    dsimp only at e c
    refine ⟨s, z', f', ?_, c, fm_ls F hL, hW⟩
    unfold g_L_isDone_b1050 g_L_isDone_b1051
    rw [e, bn3_some, if_pos rfl]
    exact lb1091_1 rfl
  have yes : wyP x y → OK1 n (g_L_isDone_b1012 (iv x) (iv y) z f) := fun hq => by
    unfold g_L_isDone_b1012 g_L_isDone_b1017
    rw [if_neg (show ¬ (1 : Int32) = 0 by decide)]
    obtain ⟨f1, e1, y1, n1, F1⟩ := la_shifts (z := z) hn hW hL hq.1 hq.2.1
    obtain ⟨z', f', e, c, F⟩ := ask (fl_cs F1 hC)
    have wg := wf_shift hn hW x y
    rw [e1, bn3_some]
    by_cases hp : shP s x y
    · have o : oShift s x y = (0, stlS (shS s x y) 8 11, stlS (shS s x y)) := by unfold oShift; rw [if_pos hq, if_pos hp]
      rw [o] at e c wg
      dsimp only at e c wg
      have l1 := y1 hp
      refine ⟨_, z', f', ?_, c, fm_ls F l1.1, wg⟩
      rw [if_pos hp, if_neg (show ¬ (1 : Int32) = 0 by decide)]
      unfold g_L_isDone_b1051
      rw [e, bn3_some, if_neg (show ¬ (1 : Int32) = 0 by decide), if_neg (show ¬ (1 : Int32) = 0 by decide), (F 74 (by decide)).2, l1.2]
      exact lb1091_1 dv_0
    · have o : oShift s x y = (2, 0, s) := by unfold oShift; rw [if_pos hq, if_neg hp]
      rw [o] at e c wg
      dsimp only at e c wg
      refine ⟨_, z', f', ?_, c, fm_ls F (n1 hp).1, wg⟩
      rw [if_neg hp, if_pos rfl]
      unfold g_L_isDone_b1050 g_L_isDone_b1051
      rw [e, bn3_some, if_neg (show ¬ (1 : Int32) = 0 by decide), if_pos rfl]
      exact lb1091_1 rfl
  have e1 : ((2 : Int32) ≤ iv x) ↔ 2 ≤ x := iv_le (a := 2) (by decide) ix
  have e2 : (iv x = (0 : Int32)) ↔ x = 0 := iv_eq (b := 0) ix (by decide)
  have e3 : (iv y = (0 : Int32)) ↔ y = 0 := iv_eq (b := 0) iy (by decide)
  by_cases c1 : 2 ≤ x
  · rw [if_pos (e1.mpr c1)]
    exact no (fun q => by have := q.1; omega)
  rw [if_neg (fun e => c1 (e1.mp e))]
  by_cases c2 : x = 0
  · rw [if_pos (e2.mpr c2)]
    by_cases c3 : y = 0
    · rw [if_pos (e3.mpr c3)]
      exact no (fun q => q.2.2 ⟨c2, c3⟩)
    · rw [if_neg (fun e => c3 (e3.mp e))]
      exact yes ⟨by omega, by', fun q => c3 q.2⟩
  · rw [if_neg (fun e => c2 (e2.mp e))]
    exact yes ⟨by omega, by', fun q => c2 q.1⟩
end
