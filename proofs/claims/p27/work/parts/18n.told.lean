/-! told: the ground and the map -/
section
variable {s : MSt} {z f : Nat → Nat → Int32}
theorem ib_s {a : Int} (h : -100000 ≤ a ∧ a ≤ 100000) : IB a := by unfold IB; omega
theorem la_told0 {n : Int} (hC : CS s z f) (hL : LW s f) (hW : WF n s) {x y h m g : Int} (hx : 0 ≤ x ∧ x ≤ 50) (hy : 0 ≤ y ∧ y ≤ 50) (hh : 0 ≤ h ∧ h ≤ 10) (hm : 0 ≤ m ∧ m ≤ 100) (hg : 0 ≤ g ∧ g ≤ 10) : OK1 n (g_L_isTold_b215 (iv x) (iv y) (if (0 ≤ x ∧ x < 20) ∧ 0 ≤ y ∧ y < 20 then 1 else 0) (if (0 ≤ x ∧ x < 20) ∧ 0 ≤ y ∧ y < 20 then iv (20 * y + x) else 0) (iv h) (iv m) (iv g) z f) := by
  have hk := hW.1.1
  have hB := ko_bd hk
  have ix := ib_s (a := x) (by omega)
  have iy := ib_s (a := y) (by omega)
  have ih := ib_s (a := h) (by omega)
  have im := ib_s (a := m) (by omega)
  have ig := ib_s (a := g) (by omega)
  have ask : ∀ {f1} (_ : CS s z f1), ∃ z' f', g_L_does 0 (iv x) (iv y) (iv h) (iv m) (iv g) z f1 = some (dvC [-2000000, -1000000] (oGround s x y h m g).1 (oGround s x y h m g).2.1, z', f') ∧ CS (oGround s x y h m g).2.2 z' f' ∧ Fm z f1 z' f' := fun {f1} c1 => by
    obtain ⟨z', f', e, c, F⟩ := cq_ground hk c1 ix iy ih im ig
    refine ⟨z', f', ?_, c, F⟩
    rw [do_0]
    exact dq_w e wl_AS oc_ground
  -- not right
  have no : ∀ {P : Nat} (_ : P < 400), ¬ grP x y h m g → OK1 n (g_L_isTold_b247 (iv x) (iv y) (iv (P : Nat)) (iv h) (iv m) (iv g) z f) := fun {P} hP q => by
    obtain ⟨z', f', e, c, F⟩ := ask hC
    have wg := wf_gr hW x y h m g
    have o : oGround s x y h m g = (1, 0, s) := by unfold oGround; rw [if_neg q]
    rw [o] at e c wg
    refine ⟨s, z', f', ?_, c, fm_ls F hL, hW⟩
    unfold g_L_isTold_b247 g_L_isTold_b248
    rw [if_pos rfl]
    unfold g_L_isTold_b278 g_L_isTold_b279
    rw [la_four (by decide) (by omega), Option.bind_some, if_pos rfl]
    unfold g_L_isTold_b358
    rw [e, bn3_some, if_pos rfl]
    unfold g_L_isTold_b395
    exact if_pos rfl
  unfold g_L_isTold_b215
  by_cases c : (0 ≤ x ∧ x < 20) ∧ 0 ≤ y ∧ y < 20
  · rw [if_pos c, if_pos c, if_neg (show ¬ (1 : Int32) = 0 by decide)]
    obtain ⟨h1, h2⟩ | ⟨hp, hpt, h3⟩ := paS_cs x y
    · exact absurd c h2
    have ep : 20 * y + x = paS x y := by unfold paS; rw [if_pos c]
    have hp' := (nB_nat hp).2
    rw [ep, (nB_nat hp).1]
    have e1 : ((10 : Int32) ≤ iv h) ↔ 10 ≤ h := iv_le (a := 10) (by decide) ih
    have e2 : ((100 : Int32) ≤ iv m) ↔ 100 ≤ m := iv_le (a := 100) (by decide) im
    have e3 : ((10 : Int32) ≤ iv g) ↔ 10 ≤ g := iv_le (a := 10) (by decide) ig
    by_cases c1 : 10 ≤ h
    · rw [if_pos (e1.mpr c1)]
      exact no hp' (fun q => by have := q.2.1; omega)
    rw [if_neg (fun e => c1 (e1.mp e))]
    by_cases c2 : 100 ≤ m
    · rw [if_pos (e2.mpr c2)]
      exact no hp' (fun q => by have := q.2.2.1; omega)
    rw [if_neg (fun e => c2 (e2.mp e))]
    by_cases c3 : 10 ≤ g
    · rw [if_pos (e3.mpr c3)]
      exact no hp' (fun q => by have := q.2.2.2; omega)
    rw [if_neg (fun e => c3 (e3.mp e))]
    have hr : grP x y h m g := ⟨by unfold nB at hp; omega, by omega, by omega, by omega⟩
    unfold g_L_isTold_b248
    rw [if_neg (show ¬ (1 : Int32) = 0 by decide), hL.2.1]
    have tk := la_taken (z := z) hB hL.2.2.1 hp
    rw [hpt] at tk
    rw [tk, Option.bind_some]
    by_cases t : tkS (s 7) (paS x y) (-1) = true
    · obtain ⟨z', f', e, c, F⟩ := ask hC
      have o : oGround s x y h m g = (2, 0, s) := by unfold oGround; rw [if_pos hr, if_pos t]
      rw [o] at e c
      rw [if_pos t, if_neg (show ¬ (1 : Int32) = 0 by decide)]
      refine ⟨s, z', f', ?_, c, fm_ls F hL, hW⟩
      unfold g_L_isTold_b278 g_L_isTold_b279
      rw [la_four (by decide) (by omega), Option.bind_some, if_pos rfl]
      unfold g_L_isTold_b358
      rw [e, bn3_some, if_neg (show ¬ (1 : Int32) = 0 by decide), if_pos rfl]
      unfold g_L_isTold_b395
      exact if_pos rfl
    · rw [if_neg t, if_pos rfl]
      unfold g_L_isTold_b279
      rw [la_four (by decide) (by omega), Option.bind_some, if_neg (show ¬ (1 : Int32) = 0 by decide)]
      obtain ⟨f1, w1, r1, k1⟩ := la_sets (f := f) (n := 50) (a := 66) (p := (paS x y).toNat) (v := h) (by decide) (by omega) (by omega)
      rw [w1, Option.bind_some]
      obtain ⟨f2, w2, r2, k2⟩ := la_sets (f := f1) (n := 25) (a := 67) (p := (paS x y).toNat) (v := g) (by decide) (by omega) (by omega)
      rw [w2, Option.bind_some]
      obtain ⟨f3, w3, r3, k3⟩ := la_setb (f := f2) (p := (paS x y).toNat) (v := m) (by omega) (by omega) (fun u9 => g_L_isTold_b358 (iv x) (iv y) (iv h) (iv m) (iv g) 1 1 (iv (h4 f 66 (paS x y).toNat)) z u9)
      refine Eq.mpr (congrArg (OK1 n) w3) ?_
      have l1 := lw_h hL hp' (Or.inl ⟨rfl, rfl⟩) r1 k1
      have l2 := lw_gf l1 (Or.inl ⟨rfl, rfl, r2⟩) k2
      have l3 := lw_gf l2 (Or.inr ⟨rfl, rfl, r3⟩) k3
      have eg : us (us (us s 0 (paS x y).toNat h) 2 (paS x y).toNat g) 1 (paS x y).toNat m = grS s (paS x y) h m g := by
        unfold grS
        exact us_comm (fun q => absurd q.1 (by decide))
      rw [eg] at l3
      obtain ⟨z', f', e, c, F⟩ := ask (fl_cs (fl_tr (fl_tr (fl_b (by decide) k1) (fl_b (by decide) k2)) (fl_b (by decide) k3)) hC)
      have wg := wf_gr hW x y h m g
      have o : oGround s x y h m g = (0, s 0 (paS x y).toNat, grS s (paS x y) h m g) := by unfold oGround; rw [if_pos hr, if_neg t]
      rw [o] at e c wg
      refine ⟨_, z', f', ?_, c, fm_ls F l3, wg⟩
      unfold g_L_isTold_b358
      rw [e, bn3_some, if_neg (show ¬ (1 : Int32) = 0 by decide), if_neg (show ¬ (1 : Int32) = 0 by decide)]
      unfold g_L_isTold_b395
      rw [if_pos (show dvC [-2000000, -1000000] 0 (s 0 (paS x y).toNat) = iv (h4 f 66 (paS x y).toNat) by rw [dv_0, hL.1.1.1 _ hp'])]
  · rw [if_neg c, if_neg c, if_pos rfl]
    refine no (P := 0) (by decide) (fun q => ?_)
    rcases paS_cs x y with ⟨h1, h2⟩ | ⟨-, -, h3⟩
    · exact q.1 h1
    · exact c h3
theorem la_told1 {n : Int} (hC : CS s z f) (hL : LW s f) (hW : WF n s) {x y h : Int} (hx : 0 ≤ x ∧ x ≤ 50) (hy : 0 ≤ y ∧ y ≤ 50) (hh : 0 ≤ h ∧ h ≤ 10) : OK1 n (if (if (0 ≤ x ∧ x < 20) ∧ 0 ≤ y ∧ y < 20 then (1 : Int32) else 0) = 0 then g_L_isTold_b426 (iv x) (iv y) (if (0 ≤ x ∧ x < 20) ∧ 0 ≤ y ∧ y < 20 then iv (20 * y + x) else 0) (iv h) z f else if 10 ≤ iv h then g_L_isTold_b426 (iv x) (iv y) (if (0 ≤ x ∧ x < 20) ∧ 0 ≤ y ∧ y < 20 then iv (20 * y + x) else 0) (iv h) z f else g_L_isTold_b427 (iv x) (iv y) (if (0 ≤ x ∧ x < 20) ∧ 0 ≤ y ∧ y < 20 then iv (20 * y + x) else 0) (iv h) 1 z f) := by
  have hk := hW.1.1
  have ix := ib_s (a := x) (by omega)
  have iy := ib_s (a := y) (by omega)
  have ih := ib_s (a := h) (by omega)
  have e400 : ∀ P : Nat, (400 : Int32) + iv (P : Nat) = iv ((400 + P : Nat) : Int) := fun P => by
    rw [show (400 : Int32) = iv 400 from rfl, iv_add]
    rfl
  have ask : ∀ {f1} (_ : CS s z f1), ∃ z' f', g_L_does 1 (iv x) (iv y) (iv h) 0 0 z f1 = some (dvC [-2000000] (oChart s x y h).1 (oChart s x y h).2.1, z', f') ∧ CS (oChart s x y h).2.2 z' f' ∧ Fm z f1 z' f' := fun {f1} c1 => by
    obtain ⟨z', f', e, c, F⟩ := cq_chart c1 ix iy ih
    refine ⟨z', f', ?_, c, F⟩
    rw [do_1]
    exact dq_w e wl_A oc_chart
  have no : ∀ {P : Nat} (_ : P < 400), ¬ chP x y h → OK1 n (g_L_isTold_b426 (iv x) (iv y) (iv (P : Nat)) (iv h) z f) := fun {P} hP q => by
    obtain ⟨z', f', e, c, F⟩ := ask hC
    have o : oChart s x y h = (1, 0, s) := by unfold oChart; rw [if_neg q]
    rw [o] at e c
    refine ⟨s, z', f', ?_, c, fm_ls F hL, hW⟩
    unfold g_L_isTold_b426 g_L_isTold_b427
    rw [e400, la_four (by decide) (by omega), Option.bind_some, if_pos rfl]
    unfold g_L_isTold_b458
    rw [e, bn3_some, if_pos rfl]
    unfold g_L_isTold_b483
    exact if_pos rfl
  by_cases c : (0 ≤ x ∧ x < 20) ∧ 0 ≤ y ∧ y < 20
  · rw [if_pos c, if_pos c, if_neg (show ¬ (1 : Int32) = 0 by decide)]
    obtain ⟨h1, h2⟩ | ⟨hp, hpt, h3⟩ := paS_cs x y
    · exact absurd c h2
    have ep : 20 * y + x = paS x y := by unfold paS; rw [if_pos c]
    have hp' := (nB_nat hp).2
    rw [ep, (nB_nat hp).1]
    have e1 : ((10 : Int32) ≤ iv h) ↔ 10 ≤ h := iv_le (a := 10) (by decide) ih
    by_cases c1 : 10 ≤ h
    · rw [if_pos (e1.mpr c1)]
      exact no hp' (fun q => by have := q.2; omega)
    rw [if_neg (fun e => c1 (e1.mp e))]
    have hr : chP x y h := ⟨by unfold nB at hp; omega, by omega⟩
    unfold g_L_isTold_b427
    rw [e400, la_four (by decide) (by omega), Option.bind_some, if_neg (show ¬ (1 : Int32) = 0 by decide)]
    obtain ⟨f1, w1, r1, k1⟩ := la_sets (f := f) (n := 50) (a := 66) (p := 400 + (paS x y).toNat) (v := h) (by decide) (by omega) (by omega)
    rw [w1, Option.bind_some]
    have l1 := lw_h hL hp' (Or.inr ⟨rfl, rfl⟩) r1 k1
    obtain ⟨z', f', e, c, F⟩ := ask (fl_cs (fl_b (by decide) k1) hC)
    have wg := wf_ch hW x y h
    have o : oChart s x y h = (0, s 3 (paS x y).toNat, us s 3 (paS x y).toNat h) := by unfold oChart; rw [if_pos hr]
    rw [o] at e c wg
    refine ⟨_, z', f', ?_, c, fm_ls F l1, wg⟩
    unfold g_L_isTold_b458
    rw [e, bn3_some, if_neg (show ¬ (1 : Int32) = 0 by decide)]
    unfold g_L_isTold_b483
    rw [if_pos (show dvC [-2000000] 0 (s 3 (paS x y).toNat) = iv (h4 f 66 (400 + (paS x y).toNat)) by rw [dv_0, hL.1.1.2.1 _ hp'])]
  · rw [if_neg c, if_neg c, if_pos rfl]
    refine no (P := 0) (by decide) (fun q => ?_)
    rcases paS_cs x y with ⟨h1, h2⟩ | ⟨-, -, h3⟩
    · exact q.1 h1
    · exact c h3
end
