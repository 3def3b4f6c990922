/-! told: energy, phases, and all -/
section
variable {s : MSt} {z f : Nat → Nat → Int32}
theorem la_told3 {n : Int} (hC : CS s z f) (hL : LW s f) (hW : WF n s) {m : Int} (hm : 0 ≤ m ∧ m ≤ 1001) : OK1 n (g_L_isTold_b754 (iv m) z f) := by
  have hk := hW.1.1
  have h8 := ko_8 hk
  have im := ib_s (a := m) (by omega)
  have ask : ∀ {f1} (_ : CS s z f1), ∃ z' f', g_L_does 3 (iv m) 0 0 0 0 z f1 = some (dvC [-2000000] (oCharge s m).1 (oCharge s m).2.1, z', f') ∧ CS (oCharge s m).2.2 z' f' ∧ Fm z f1 z' f' := fun {f1} c1 => by
    obtain ⟨z', f', e, c, F⟩ := cq_charge hk c1 im
    refine ⟨z', f', ?_, c, F⟩
    rw [do_3]
    exact dq_w e wl_A oc_charge
  have no : ¬ (1 ≤ m ∧ m ≤ 1000) → OK1 n (g_L_isTold_b773 (iv m) z f) := fun q => by
    obtain ⟨z', f', e, c, F⟩ := ask hC
    have o : oCharge s m = (1, 0, s) := by unfold oCharge; rw [if_neg q]
    rw [o] at e c
    refine ⟨s, z', f', ?_, c, fm_ls F hL, hW⟩
    unfold g_L_isTold_b773 g_L_isTold_b774
    rw [if_pos rfl]
    unfold g_L_isTold_b792
    rw [ix15_3, Option.bind_some]
    unfold lt2
    dsimp only
    rw [upf_id (show f 74 3 + 0 = f 74 3 from Int32.add_zero _), lm_g hL.1 3 7, if_pos (show iv (s 8 7) ≤ (1000 : Int32) from (iv_le (b := 1000) (by unfold IB; omega) (by decide)).mpr (by omega))]
    unfold g_L_isTold_b817
    rw [ix15_3, Option.bind_some]
    unfold lt2
    dsimp only
    rw [upf_id (lm_g hL.1 3 7).symm, e, bn3_some, if_pos rfl]
    unfold g_L_isTold_b843
    exact if_pos rfl
  unfold g_L_isTold_b754
  by_cases c1 : m ≤ 0
  · rw [if_pos (show iv m ≤ (0 : Int32) from (iv_le (b := 0) im (by decide)).mpr c1)]
    exact no (by omega)
  rw [if_neg (show ¬ iv m ≤ (0 : Int32) from fun e => c1 ((iv_le (b := 0) im (by decide)).mp e))]
  by_cases c2 : 1001 ≤ m
  · rw [if_pos (show (1001 : Int32) ≤ iv m from (iv_le (a := 1001) (by decide) im).mpr c2)]
    exact no (by omega)
  rw [if_neg (show ¬ (1001 : Int32) ≤ iv m from fun e => c2 ((iv_le (a := 1001) (by decide) im).mp e))]
  have fin : ∀ {w v}, v = min 1000 (s 8 7 + m) → OK1 n (g_L_isTold_b817 (iv m) 1 3 (iv v) z (upf f 74 3 w)) := fun {w v} hv => by
    unfold g_L_isTold_b817
    rw [ix15_3, Option.bind_some]
    unfold lt2
    dsimp only
    rw [upf_2]
    have l1 := lw_u (c := 3) (j := 7) (v := v) hL (by decide) (by decide)
    obtain ⟨z', f', e, c, F⟩ := ask (fl_cs (fl_u (b := 74) (j := 3) (v := iv v) (by decide)) hC)
    have wg := wf_ca hW m
    have o : oCharge s m = (0, v, us s 8 7 v) := by unfold oCharge; rw [if_pos (by omega), hv]
    rw [o] at e c wg
    have l2 := fm_ls F l1
    refine ⟨_, z', f', ?_, c, l2, wg⟩
    rw [e, bn3_some, if_neg (show ¬ (1 : Int32) = 0 by decide), lm_g l2.1 3 7, us_at]
    unfold g_L_isTold_b843
    exact if_pos rfl
  unfold g_L_isTold_b774
  rw [if_neg (show ¬ (1 : Int32) = 0 by decide)]
  unfold g_L_isTold_b792
  rw [ix15_3, Option.bind_some]
  unfold lt2
  dsimp only
  rw [lm_g hL.1 3 7, iv_add, upf_g, if_pos rfl]
  by_cases c3 : s 8 7 + m ≤ 1000
  · rw [if_pos (show iv (s 8 7 + m) ≤ (1000 : Int32) from (iv_le (b := 1000) (by unfold IB; omega) (by decide)).mpr c3)]
    exact fin (by omega)
  · rw [if_neg (show ¬ iv (s 8 7 + m) ≤ (1000 : Int32) from fun e => c3 ((iv_le (b := 1000) (by unfold IB; omega) (by decide)).mp e))]
    exact fin (v := 1000) (by omega)
theorem la_told4 {n : Int} (hC : CS s z f) (hL : LW s f) (hW : WF n s) {a x y u v : Int} (ha : 0 ≤ a ∧ a ≤ 10) (hx : -1 ≤ x ∧ x ≤ 7) (hy : -7 ≤ y ∧ y ≤ 1) (hu : -1 ≤ u ∧ u ≤ 2) (hv : -1 ≤ v ∧ v ≤ 1) : OK1 n (if f 74 7 ≤ iv a then g_L_isTold_b976 (iv a) (iv x) (iv y) (iv u) (iv v) 0 z f else g_L_isTold_b976 (iv a) (iv x) (iv y) (iv u) (iv v) 1 z f) := by
  have hk := hW.1.1
  have h8 := ko_8 hk
  have ask : ∀ {f1} (_ : CS s z f1), ∃ z' f', g_L_does 4 (iv a) (iv x) (iv y) (iv u) (iv v) z f1 = some (dvC [-3000000, -2000000, -1000000] (oPhase s a x y u v).1 (oPhase s a x y u v).2.1, z', f') ∧ CS (oPhase s a x y u v).2.2 z' f' ∧ Fm z f1 z' f' := fun {f1} c1 => by
    obtain ⟨z', f', e, c, F⟩ := cq_phase hk c1 (ib_s (a := a) (by omega)) (ib_s (a := x) (by omega)) (ib_s (a := y) (by omega)) (ib_s (a := u) (by omega)) (ib_s (a := v) (by omega))
    refine ⟨z', f', ?_, c, F⟩
    rw [do_4]
    exact dq_w e wl_IAS oc_phase
  have no : ∀ {i r : Int32}, (i = 0 → ¬ lgP s a) → (i ≠ 0 → lgP s a ∧ (r = 0 → ¬ phPb x y u v) ∧ (r ≠ 0 → phPb x y u v ∧ ¬ s 8 13 < 8)) → OK1 n (g_L_isTold_b1029 (iv a) (iv x) (iv y) (iv u) (iv v) i r z f) := fun {i r} q0 q1 => by
    obtain ⟨z', f', e, c, F⟩ := ask hC
    unfold g_L_isTold_b1029 g_L_isTold_b1030
    rw [if_pos rfl]
    unfold g_L_isTold_b1093 g_L_isTold_b1143
    by_cases hi : i = 0
    · have o : oPhase s a x y u v = (1, 0, s) := by unfold oPhase; rw [if_neg (q0 hi)]
      rw [o] at e c
      refine ⟨s, z', f', ?_, c, fm_ls F hL, hW⟩
      rw [e, bn3_some, if_pos hi]
      exact if_pos rfl
    · obtain ⟨q2, q3, q4⟩ := q1 hi
      by_cases hr : r = 0
      · have o : oPhase s a x y u v = (2, 0, s) := by unfold oPhase; rw [if_pos q2, if_neg (q3 hr)]
        rw [o] at e c
        refine ⟨s, z', f', ?_, c, fm_ls F hL, hW⟩
        rw [e, bn3_some, if_neg hi, if_pos hr]
        exact if_pos rfl
      · have o : oPhase s a x y u v = (3, 0, s) := by unfold oPhase; rw [if_pos q2, if_pos (q4 hr).1, if_neg (q4 hr).2]
        rw [o] at e c
        refine ⟨s, z', f', ?_, c, fm_ls F hL, hW⟩
        rw [e, bn3_some, if_neg hi, if_neg hr, if_pos rfl]
        exact if_pos rfl
  have no0 : ∀ {i : Int32}, (i = 0 → ¬ lgP s a) → (i ≠ 0 → lgP s a) → ¬ phPb x y u v → OK1 n (g_L_isTold_b1002 (iv a) (iv x) (iv y) (iv u) (iv v) i z f) := fun {i} q0 q1 q => by
    have := no (i := i) (r := 0) q0 (fun h => ⟨q1 h, fun _ => q, fun e => absurd rfl e⟩)
    unfold g_L_isTold_b1002 g_L_isTold_b1003
    by_cases hi : i = 0
    · rw [if_pos hi]; exact this
    · rw [if_neg hi, if_pos rfl]; exact this
  have main : ∀ {i : Int32}, (i = 0 → ¬ lgP s a) → (i ≠ 0 → lgP s a) → OK1 n (g_L_isTold_b976 (iv a) (iv x) (iv y) (iv u) (iv v) i z f) := fun {i} q0 q1 => by
    unfold g_L_isTold_b976
    have e1 : ((7 : Int32) ≤ iv x) ↔ 7 ≤ x := iv_le (a := 7) (by decide) (ib_s (by omega))
    have e2 : (iv y ≤ iv (-7)) ↔ y ≤ -7 := iv_le (b := -7) (ib_s (by omega)) (by decide)
    rw [show iv (-7) = (-7 : Int32) from rfl] at e2
    have e3 : ((2 : Int32) ≤ iv u) ↔ 2 ≤ u := iv_le (a := 2) (by decide) (ib_s (by omega))
    have e4 : ((8 : Int32) ≤ iv (s 8 13)) ↔ 8 ≤ s 8 13 := iv_le (a := 8) (by decide) (by unfold IB; omega)
    by_cases c1 : 7 ≤ x
    · rw [if_pos (e1.mpr c1)]
      exact no0 q0 q1 (fun q => by have := q.1; omega)
    rw [if_neg (fun e => c1 (e1.mp e))]
    by_cases c2 : y ≤ -7
    · rw [if_pos (e2.mpr c2)]
      exact no0 q0 q1 (fun q => by have := q.2.1; omega)
    rw [if_neg (fun e => c2 (e2.mp e))]
    by_cases c3 : 2 ≤ u
    · rw [if_pos (e3.mpr c3)]
      exact no0 q0 q1 (fun q => by have := q.2.2.1; omega)
    rw [if_neg (fun e => c3 (e3.mp e))]
    have hp : phPb x y u v := ⟨by omega, by omega, by omega, by omega⟩
    unfold g_L_isTold_b1003
    by_cases hi : i = 0
    · rw [if_pos hi]
      exact no q0 (fun h => absurd hi h)
    rw [if_neg hi, if_neg (show ¬ (1 : Int32) = 0 by decide), lm_g hL.1 12 13]
    by_cases c4 : 8 ≤ s 8 13
    · rw [if_pos (e4.mpr c4)]
      exact no q0 (fun h => ⟨q1 hi, fun e => absurd e (by decide), fun _ => ⟨hp, by omega⟩⟩)
    rw [if_neg (fun e => c4 (e4.mp e))]
    unfold g_L_isTold_b1030
    rw [if_neg (show ¬ (1 : Int32) = 0 by decide), lm_g hL.1 12 13]
    have l1 := lw_pha hL (a := a) (x := x) (y := y) (u := u) (v := v) ⟨by omega, by omega⟩
    obtain ⟨z', f', e, c, F⟩ := ask (fl_cs (fl_tr (fl_u (b := 72) (j := (s 8 13).toNat) (v := iv (a + 8 * (x + 6) + 128 * (y + 6) + 2048 * (u + 1) + 8192 * (v + 1))) (by decide)) (fl_u (b := 74) (j := 12) (v := iv (s 8 13 + 1)) (by decide))) hC)
    have wg := wf_ph hW a x y u v
    have o : oPhase s a x y u v = (0, s 8 13 + 1, paddS s a x y u v) := by unfold oPhase; rw [if_pos (q1 hi), if_pos hp, if_pos (by omega)]
    rw [o] at e c wg
    have l2 := fm_ls F l1
    refine ⟨_, z', f', ?_, c, l2, wg⟩
    rw [show iv (s 8 13) = iv ((s 8 13).toNat : Nat) by rw [Int.toNat_of_nonneg (by omega)], ix_iv (by omega) (by decide), Option.bind_some]
    unfold lt2
    dsimp only
    rw [upf_ne (show (74 : Nat) ≠ 72 by decide), lm_g hL.1 12 13, show (8 : Int32) = iv 8 from rfl, show (6 : Int32) = iv 6 from rfl, show (128 : Int32) = iv 128 from rfl, show (2048 : Int32) = iv 2048 from rfl, show (8192 : Int32) = iv 8192 from rfl, show (1 : Int32) = iv 1 from rfl, iv_add x, iv_mul, iv_add a, iv_add y, iv_mul, iv_add, iv_add u, iv_mul, iv_add, iv_add v, iv_mul, iv_add, iv_add (s 8 13)]
    unfold g_L_isTold_b1093 g_L_isTold_b1143
    rw [e, bn3_some, if_neg hi, if_neg (show ¬ iv 1 = 0 by decide), if_neg (show ¬ iv 1 = 0 by decide), lm_g l2.1 12 13, show paddS s a x y u v 8 13 = s 8 13 + 1 from us_at]
    exact if_pos rfl
  rw [lm_g hL.1 7 0]
  by_cases c : s 8 0 ≤ a
  · rw [if_pos ((iv_le (by unfold IB; omega) (ib_s (by omega))).mpr c)]
    exact main (fun _ q => by have := q.2; omega) (fun e => absurd rfl e)
  · rw [if_neg (fun e => c ((iv_le (by unfold IB; omega) (ib_s (by omega))).mp e))]
    exact main (fun e => absurd e (by decide)) (fun _ => ⟨ha.1, by omega⟩)
theorem jv {a : Int} (h : 0 ≤ a ∧ a < 100000) {c d : Int} (hc : 0 < c ∧ c < 100000) (hd : 0 < d ∧ d < 100000) : jrem (iv a / iv c) (iv d) = iv (a / c % d) := by
  have h1 : 0 ≤ a / c := Int.ediv_nonneg h.1 (by omega)
  have h2 : a / c ≤ a := Int.ediv_le_self _ h.1
  rw [iv_div h.1 (by omega) hc.1 (by omega), iv_rem h1 (by omega) hd.1 (by omega)]
theorem jw {a : Int} (h : 0 ≤ a ∧ a < 100000) {d : Int} (hd : 0 < d ∧ d < 100000) : jrem (iv a) (iv d) = iv (a % d) := iv_rem h.1 (by omega) hd.1 (by omega)
theorem la_told {n : Int} (hC : CS s z f) (hL : LW s f) (hW : WF n s) {one two : Int} (h1 : 0 ≤ one ∧ one < 60000) (h2 : 0 ≤ two ∧ two < 60000) (w : Int32) : OK1 n (g_L_isTold w (iv one) (iv two) z f) := by
  have hk := hW.1.1
  have h8 := ko_8 hk
  have hb := hW.1.2.1
  have o1 : 0 ≤ one ∧ one < 100000 := by omega
  have o2 : 0 ≤ two ∧ two < 100000 := by omega
  have k134 : ∀ {X Y H : Int}, 0 ≤ X ∧ X ≤ 50 → 0 ≤ Y ∧ Y ≤ 50 → 0 ≤ H ∧ H ≤ 10 → OK1 n (g_L_isTold_b134 w (iv one) (iv two) (iv X) (iv Y) (if (0 ≤ X ∧ X < 20) ∧ 0 ≤ Y ∧ Y < 20 then 1 else 0) (if (0 ≤ X ∧ X < 20) ∧ 0 ≤ Y ∧ Y < 20 then iv (20 * Y + X) else 0) (iv H) z f) := fun {X Y H} hX hY hH => by
    unfold g_L_isTold_b134
    by_cases w0 : w = 0
    · rw [if_pos w0]
      have k182 : ∀ {M : Int}, 0 ≤ M ∧ M ≤ 100 → OK1 n (g_L_isTold_b182 (iv one) (iv X) (iv Y) (if (0 ≤ X ∧ X < 20) ∧ 0 ≤ Y ∧ Y < 20 then 1 else 0) (if (0 ≤ X ∧ X < 20) ∧ 0 ≤ Y ∧ Y < 20 then iv (20 * Y + X) else 0) (iv H) (iv M) z f) := fun {M} hM => by
        unfold g_L_isTold_b182
        rw [show (319 : Int32) = iv 319 from rfl, show (957 : Int32) = iv 957 from rfl, show (3 : Int32) = iv 3 from rfl, show (11 : Int32) = iv 11 from rfl, jv o1 (by decide) (by decide), jv o1 (by decide) (by decide)]
        split
        · exact la_told0 hC hL hW hX hY hH hM (by omega)
        · exact la_told0 hC hL hW hX hY hH hM (by omega)
      rw [show (9 : Int32) = iv 9 from rfl, show (13 : Int32) = iv 13 from rfl, show (3 : Int32) = iv 3 from rfl, show (27 : Int32) = iv 27 from rfl, show (14 : Int32) = iv 14 from rfl, jv o2 (by decide) (by decide), jv o2 (by decide) (by decide), jv o2 (by decide) (by decide)]
      split
      · rw [show (100 : Int32) = iv 100 from rfl]
        exact k182 (M := 100) (by decide)
      · split
        · exact k182 (by omega)
        · rw [show (99 : Int32) = iv 99 from rfl]
          exact k182 (M := 99) (by decide)
    rw [if_neg w0]
    by_cases w1 : w = 1
    · rw [if_pos w1]
      exact la_told1 hC hL hW hX hY hH
    rw [if_neg w1]
    by_cases w2 : w = 2
    · rw [if_pos w2]
      have k548 : ∀ {x y : Int}, -5 ≤ x ∧ x ≤ 6 → -6 ≤ y ∧ y ≤ 5 → OK1 n (g_L_isTold_b548 (iv two) (iv x) (iv y) z f) := fun {x y} hx hy => by
        unfold g_L_isTold_b548
        rw [show (9 : Int32) = iv 9 from rfl, show (4 : Int32) = iv 4 from rfl, show (1 : Int32) = iv 1 from rfl, jw o2 (by decide), jw o2 (by decide), iv_add]
        split
        · rw [show (7 : Int32) = iv 7 from rfl]
          exact la_told2 (r := 7) hC hL hW hx hy (by decide)
        · exact la_told2 hC hL hW hx hy (by omega)
      have k519 : ∀ {x : Int}, -5 ≤ x ∧ x ≤ 6 → OK1 n (g_L_isTold_b519 (iv one) (iv two) (iv x) z f) := fun {x} hx => by
        unfold g_L_isTold_b519
        rw [show (13 : Int32) = iv 13 from rfl, show (5 : Int32) = iv 5 from rfl, show (2 : Int32) = iv 2 from rfl, jv o1 (by decide) (by decide), jv o1 (by decide) (by decide), iv_sub]
        split
        · rw [show (-6 : Int32) = iv (-6) from rfl]
          exact k548 (y := -6) hx (by decide)
        · exact k548 hx (by omega)
      rw [show (13 : Int32) = iv 13 from rfl, show (5 : Int32) = iv 5 from rfl, show (2 : Int32) = iv 2 from rfl, jw o1 (by decide), jw o1 (by decide), iv_sub]
      split
      · rw [show (6 : Int32) = iv 6 from rfl]
        exact k519 (x := 6) (by decide)
      · exact k519 (by omega)
    rw [if_neg w2]
    by_cases w3 : w = 3
    · rw [if_pos w3, show (9 : Int32) = iv 9 from rfl, show (2 : Int32) = iv 2 from rfl, show (1001 : Int32) = iv 1001 from rfl, show (90 : Int32) = iv 90 from rfl, show (1 : Int32) = iv 1 from rfl, jv o1 (by decide) (by decide), jw o1 (by decide), jw o1 (by decide), iv_mul, iv_add]
      split
      · exact la_told3 hC hL hW (by omega)
      · exact la_told3 hC hL hW (by omega)
    rw [if_neg w3]
    by_cases w4 : w = 4
    · rw [if_pos w4]
      have k948 : ∀ {a x y u : Int}, 0 ≤ a ∧ a ≤ 10 → -1 ≤ x ∧ x ≤ 7 → -7 ≤ y ∧ y ≤ 1 → -1 ≤ u ∧ u ≤ 2 → OK1 n (g_L_isTold_b948 (iv one) (iv a) (iv x) (iv y) (iv u) z f) := fun {a x y u} ha hx hy hu => by
        unfold g_L_isTold_b948
        rw [show (21 : Int32) = iv 21 from rfl, show (3 : Int32) = iv 3 from rfl, show iv 3 = (3 : Int32) from rfl, show jrem (iv one / iv 21) 3 = iv (one / 21 % 3) from jv (d := 3) o1 (by decide) (by decide), show iv (one / 21 % 3) - 1 = iv (one / 21 % 3 - 1) from iv_sub _ 1]
        exact la_told4 hC hL hW ha hx hy hu (by omega)
      have k920 : ∀ {a x y : Int}, 0 ≤ a ∧ a ≤ 10 → -1 ≤ x ∧ x ≤ 7 → -7 ≤ y ∧ y ≤ 1 → OK1 n (g_L_isTold_b920 (iv one) (iv a) (iv x) (iv y) z f) := fun {a x y} ha hx hy => by
        unfold g_L_isTold_b920
        rw [show jrem (iv one / 7) 3 = iv (one / 7 % 3) from jv (c := 7) (d := 3) o1 (by decide) (by decide), show iv (one / 7 % 3) - 1 = iv (one / 7 % 3 - 1) from iv_sub _ 1]
        split
        · rw [show (2 : Int32) = iv 2 from rfl]
          exact k948 (u := 2) ha hx hy (by decide)
        · exact k948 ha hx hy (by omega)
      have k891 : ∀ {a x : Int}, 0 ≤ a ∧ a ≤ 10 → -1 ≤ x ∧ x ≤ 7 → OK1 n (g_L_isTold_b891 (iv one) (iv two) (iv a) (iv x) z f) := fun {a x} ha hx => by
        unfold g_L_isTold_b891
        rw [show jrem (iv two / 13) 3 = iv (two / 13 % 3) from jv (c := 13) (d := 3) o2 (by decide) (by decide), show iv (two / 13 % 3) - 1 = iv (two / 13 % 3 - 1) from iv_sub _ 1]
        split
        · rw [show (-7 : Int32) = iv (-7) from rfl]
          exact k920 (y := -7) ha hx (by decide)
        · exact k920 ha hx (by omega)
      rw [lm_g hL.1 7 0, show iv (s 8 0) + 1 = iv (s 8 0 + 1) from iv_add _ 1, if_neg (show ¬ iv (s 8 0 + 1) = (0 : Int32) from fun e => by have := (iv_eq (b := 0) (by unfold IB; omega) (by decide)).mp e; omega), jw o1 (by omega), show jrem (iv two) 3 = iv (two % 3) from jw (d := 3) o2 (by decide), show iv (two % 3) - 1 = iv (two % 3 - 1) from iv_sub _ 1]
      have b1 : 0 ≤ one % (s 8 0 + 1) := Int.emod_nonneg _ (by omega)
      have b2 : one % (s 8 0 + 1) < s 8 0 + 1 := Int.emod_lt_of_pos _ (by omega)
      split
      · rw [show (7 : Int32) = iv 7 from rfl]
        exact k891 (x := 7) (by omega) (by decide)
      · exact k891 (by omega) (by omega)
    rw [if_neg w4]
    exact la_told5 hC hL hW
  have k107 : ∀ {X Y : Int}, 0 ≤ X ∧ X ≤ 50 → 0 ≤ Y ∧ Y ≤ 50 → OK1 n (g_L_isTold_b79 w (iv one) (iv two) (iv X) (iv Y) z f) := fun {X Y} hX hY => by
    unfold g_L_isTold_b79
    rw [la_in (ib_s (by omega)) (ib_s (by omega)), Option.bind_some]
    have k : ∀ {I P : Int32}, I = (if (0 ≤ X ∧ X < 20) ∧ 0 ≤ Y ∧ Y < 20 then 1 else 0) → P = (if (0 ≤ X ∧ X < 20) ∧ 0 ≤ Y ∧ Y < 20 then iv (20 * Y + X) else 0) → OK1 n (g_L_isTold_b107 w (iv one) (iv two) (iv X) (iv Y) I P z f) := fun {I P} hI hP => by
      rw [hI, hP]
      unfold g_L_isTold_b107
      rw [show jrem (iv one / 29) 4 = iv (one / 29 % 4) from jv (c := 29) (d := 4) o1 (by decide) (by decide)]
      split
      · rw [show (10 : Int32) = iv 10 from rfl]
        exact k134 (H := 10) hX hY (by decide)
      · exact k134 hX hY (by omega)
    by_cases c : (0 ≤ X ∧ X < 20) ∧ 0 ≤ Y ∧ Y < 20
    · rw [if_pos c, if_neg (show ¬ (1 : Int32) = 0 by decide)]
      exact k (by rw [if_pos c]) (by rw [if_pos c, show (20 : Int32) = iv 20 from rfl, iv_mul, iv_add])
    · rw [if_neg c, if_pos rfl]
      exact k (by rw [if_neg c]) (by rw [if_neg c])
  have k46 : ∀ {X : Int}, 0 ≤ X ∧ X ≤ 50 → OK1 n (g_L_isTold_b46 w (iv one) (iv two) (iv X) z f) := fun {X} hX => by
    unfold g_L_isTold_b46
    rw [lm_g hL.1 2 5, show (9 : Int32) = iv 9 from rfl, jw o2 (by decide), show (4 : Int32) = iv 4 from rfl, iv_sub, iv_add]
    by_cases c : 0 ≤ s 8 5 - 4 + two % 9
    · rw [if_pos (show (0 : Int32) ≤ iv (s 8 5 - 4 + two % 9) from (iv_le (a := 0) (by decide) (ib_s (by omega))).mpr c)]
      exact k107 hX (by omega)
    · rw [if_neg (show ¬ (0 : Int32) ≤ iv (s 8 5 - 4 + two % 9) from fun e => c ((iv_le (a := 0) (by decide) (ib_s (by omega))).mp e))]
      exact k107 (Y := 0) hX (by decide)
  unfold g_L_isTold
  rw [lm_g hL.1 1 4, show (9 : Int32) = iv 9 from rfl, jw o1 (by decide), show (4 : Int32) = iv 4 from rfl, iv_sub, iv_add]
  split
  · rw [show (20 : Int32) = iv 20 from rfl]
    exact k46 (X := 20) (by decide)
  · by_cases c : 0 ≤ s 8 4 - 4 + one % 9
    · rw [if_pos (show (0 : Int32) ≤ iv (s 8 4 - 4 + one % 9) from (iv_le (a := 0) (by decide) (ib_s (by omega))).mpr c)]
      exact k46 (by omega)
    · rw [if_neg (show ¬ (0 : Int32) ≤ iv (s 8 4 - 4 + one % 9) from fun e => c ((iv_le (a := 0) (by decide) (ib_s (by omega))).mp e))]
      exact k46 (X := 0) (by decide)
end
