/-! so it is: the last questions -/
section
variable {s : MSt} {z f : Nat → Nat → Int32}
theorem nth_r {ns : List String} {v : Int} {x : Option (Int32 ⊕ String)} (e : x = some (rsC ns 0 v)) : nthR x = some (iv v) := by
  subst e
  rfl
theorem nth_w {ns : List String} {v : Int} {z' f' : Nat → Nat → Int32} {x : Option ((Int32 ⊕ String) × (Nat → Nat → Int32) × (Nat → Nat → Int32))} (e : x = some (rsC ns 0 v, z', f')) : nthW x = some (iv v, z', f') := by
  subst e
  rfl
theorem so_1666 {n : Int} (hC : CS s z f) (hL : LW s f) (hW : WF n s) : OK1 n (g_L_isSo_b1666 1 z f) := by
  have hk := hW.1.1
  have h8 := ko_8 hk
  unfold g_L_isSo_b1666
  have o1 : oFall s (s 8 12) 0 = (1, 0) := by unfold oFall; rw [if_neg (by omega)]
  have o2 : oFoot s (s 8 0) 0 = (1, 0) := by unfold oFoot; rw [if_neg (fun q => by have := q.2; omega)]
  have e1 := cq_fall hk hW.2.1.2.2.2 hC (k := s 8 12) (w := 0) (by unfold IB; omega) (by decide)
  have e2 := cq_foot hk hC (a := s 8 0) (w := 0) (by unfold IB; omega) (by decide)
  rw [o1] at e1
  rw [o2] at e2
  dsimp only at e1 e2
  have d1 := dq_r (z := z) (f := f) e1 wl_IA (by decide)
  have d2 := dq_r (z := z) (f := f) e2 wl_IA (by decide)
  rw [if_neg (show ¬ (1 : Int32) = 0 by decide), lm_g hL.1 11 12, do_12]
  rw [show iv 0 = (0 : Int32) from rfl] at d1 d2
  rw [d1, bn3_some, if_pos (show dvC [-3000000, -2000000] 1 0 = -3000000 from rfl), lm_g hL.1 7 0, do_14, d2, bn3_some, if_pos (show dvC [-3000000, -2000000] 1 0 = -3000000 from rfl)]
  exact ⟨s, z, f, rfl, hC, hL, hW⟩
theorem rch_1 {x y : Int} (hxy : (x.natAbs : Int) + y.natAbs = 1) : rchE (s 8 4 + x) (s 8 5 + y) 1 s ↔ mvP s x y := by
  constructor
  · rintro ⟨m, hm, t, ht, h4, h5⟩
    unfold mvM at ht
    by_cases c : m < 6
    · rw [if_pos c] at ht
      by_cases d : stpP s m
      · rw [if_pos d] at ht
        cases ht
        rw [us_na (by decide)] at h4 h5
        omega
      · rw [if_neg d] at ht; cases ht
    · rw [if_neg c] at ht
      by_cases d : mvP s (wayX m) (wayY m)
      · rw [if_pos d] at ht
        cases ht
        rw [mv_4] at h4
        rw [mv_5] at h5
        rw [show x = wayX m by omega, show y = wayY m by omega]
        exact d
      · rw [if_neg d] at ht; cases ht
  · intro h
    have key : ∀ m, 6 ≤ m → m < 10 → wayX m = x → wayY m = y → rchE (s 8 4 + x) (s 8 5 + y) 1 s := fun m h1 h2 ex ey => by
      refine ⟨m, h2, mvS s x y, ?_, mv_4, mv_5⟩
      unfold mvM
      rw [if_neg (by omega), ex, ey, if_pos h]
    rcases (show (x = -1 ∧ y = 0) ∨ (x = 1 ∧ y = 0) ∨ (x = 0 ∧ y = -1) ∨ (x = 0 ∧ y = 1) by omega) with ⟨rfl, rfl⟩ | ⟨rfl, rfl⟩ | ⟨rfl, rfl⟩ | ⟨rfl, rfl⟩
    · exact key 6 (by decide) (by decide) rfl rfl
    · exact key 7 (by decide) (by decide) rfl rfl
    · exact key 8 (by decide) (by decide) rfl rfl
    · exact key 9 (by decide) (by decide) rfl rfl
theorem so_1503 {n : Int} (hC : CS s z f) (hL : LW s f) (hW : WF n s) {x y : Int} (hxy : (x.natAbs : Int) + y.natAbs = 1) (i10 : Int32) : OK1 n (g_L_isSo_b1503 i10 1 (iv x) (iv y) z f) := by
  have hk := hW.1.1
  have h8 := ko_8 hk
  have hbd := hW.1.2.1
  have t0 := so_1666 hC hL hW
  unfold g_L_isSo_b1503
  rw [if_neg (show ¬ (1 : Int32) = 0 by decide)]
  split
  · rw [lm_g hL.1 1 4, lm_g hL.1 2 5, iv_add, iv_add, la_in (ib_s (by omega)) (ib_s (by omega)), Option.bind_some]
    obtain ⟨q1, q2⟩ | ⟨q1, -, q2, q3⟩ := paS_cs (s 8 4 + x) (s 8 5 + y)
    · rw [if_neg q2, if_pos rfl]
      exact t0
    have pne : paS (s 8 4 + x) (s 8 5 + y) ≠ -1 := by unfold nB at q1; omega
    have q23 : (0 ≤ s 8 4 + x ∧ s 8 4 + x < 20) ∧ 0 ≤ s 8 5 + y ∧ s 8 5 + y < 20 := ⟨q2, q3⟩
    rw [if_pos q23, if_neg (show ¬ (1 : Int32) = 0 by decide)]
    obtain ⟨r1, z1, f1, g1, e1, j1⟩ := cq_fewest (wf_pi hW) hC (x := s 8 4 + x) (y := s 8 5 + y) (ib_s (by omega)) (ib_s (by omega))
    rw [show fwC s (s 8 4 + x) (s 8 5 + y) = 0 by unfold fwC; rw [if_neg pne]] at e1
    rw [nth_w e1, bn3_some]
    have C1 := cj_cs j1 hC
    have L1 := fm_ls j1.2.2 hL
    rw [la_canShift hW L1 (x := x) (y := y) (by omega) (by omega), bn3_some, lm_g L1.1 1 4, lm_g L1.1 2 5]
    have pown : paS (s 8 4) (s 8 5) ≠ -1 := by
      unfold paS
      rw [if_pos ⟨hbd.1, hbd.2⟩]
      omega
    obtain ⟨r2, z2, f2, g2, e2, j2⟩ := cq_fewest (wf_pi hW) C1 (x := s 8 4) (y := s 8 5) (ib_s (by omega)) (ib_s (by omega))
    rw [show fwC s (s 8 4) (s 8 5) = 0 by unfold fwC; rw [if_neg pown]] at e2
    rw [nth_w e2, bn3_some]
    have C2 := cj_cs j2 C1
    have L2 := fm_ls j2.2.2 L1
    rw [lm_g L2.1 0 6]
    have G1 := g1 pne
    have G2 := g2 pown
    obtain ⟨r3, z3, f3, g3, e3, j3⟩ := cq_fewestAnew (wf_pi hW) C2 (x := s 8 4 + x) (y := s 8 5 + y) (ib_s (by omega)) (ib_s (by omega))
    have er : r3 = r1 := fwR_uniq (g3 pne) G1
    subst er
    rw [show fwC s (s 8 4 + x) (s 8 5 + y) = 0 by unfold fwC; rw [if_neg pne]] at e3
    have C3 := cj_cs j3 C2
    have L3 := fm_ls j3.2.2 L2
    have t3 := so_1666 C3 L3 hW
    have tl : OK1 n (g_L_isSo_b1659 z3 f3) := by
      unfold g_L_isSo_b1659 g_L_isSo_b1664
      exact t3
    unfold fwR at G1 G2
    unfold g_L_isSo_b1600
    rw [lm_g L2.1 1 4, lm_g L2.1 2 5, iv_add, iv_add, nth_w e3]
    by_cases c : s 8 6 = 0
    · rw [if_pos c] at G1 G2
      rw [if_neg (fun e => (stand_1 hk).mp e c), G2, if_pos (show iv (-1) = (-1 : Int32) from rfl), bn3_some, if_pos rfl, lm_g L3.1 0 6, if_neg (fun e => (stand_1 hk).mp e c), G1, if_pos (show iv (-1) = (-1 : Int32) from rfl)]
      exact tl
    · rw [if_neg c] at G1 G2
      have z2' : r2 = 0 := by
        rcases G2 with ⟨-, h⟩ | ⟨k, -, h2, -, h4⟩
        · exact absurd ⟨rfl, rfl⟩ (h 0 (by decide))
        · rcases Nat.eq_zero_or_pos k with q | q
          · omega
          · exact absurd ⟨rfl, rfl⟩ (h4 0 q)
      have n0 : ¬ rchE (s 8 4 + x) (s 8 5 + y) 0 s := fun q => by
        have h1 := q.1
        have h2 := q.2
        omega
      have r1' : (r3 = 1 ↔ mvP s x y) ∧ -1 ≤ r3 ∧ r3 ≤ 3 := by
        rw [← rch_1 hxy]
        rcases G1 with ⟨h1, h2⟩ | ⟨k, h1, h2, h3, h4⟩
        · exact ⟨⟨fun q => by omega, fun q => absurd q (h2 1 (by decide))⟩, by omega⟩
        · refine ⟨⟨fun q => ?_, fun q => ?_⟩, by omega⟩
          · rw [show k = 1 by omega] at h3; exact h3
          · rcases Nat.lt_trichotomy k 1 with w | w | w
            · rw [show k = 0 by omega] at h3; exact absurd h3 n0
            · omega
            · exact absurd q (h4 1 w)
      rw [if_pos ((stand_1 hk).mpr c), z2', if_pos (show iv 0 = (0 : Int32) from rfl), bn3_some, if_pos rfl, lm_g L3.1 0 6, if_pos ((stand_1 hk).mpr c)]
      have e1 : (iv r3 = (1 : Int32)) ↔ r3 = 1 := iv_eq (b := 1) (ib_s (by omega)) (by decide)
      unfold g_L_isSo_b1647
      by_cases d : mvP s x y
      · have cd : s 8 6 ≠ 0 ∧ mvP s x y := ⟨c, d⟩
        rw [if_pos (e1.mpr (r1'.1.mpr d)), if_pos cd, if_pos rfl]
        exact tl
      · have cd : ¬ (s 8 6 ≠ 0 ∧ mvP s x y) := fun q => d q.2
        rw [if_neg (fun e => d (r1'.1.mp (e1.mp e))), if_neg cd, if_pos rfl]
        exact tl
  · exact t0
theorem so_1454 {n : Int} (hC : CS s z f) (hL : LW s f) (hW : WF n s) {one : Int} (h1 : 0 ≤ one ∧ one < 60000) (i10 : Int32) : OK1 n (g_L_isSo_b1454 (iv one) i10 1 z f) := by
  unfold g_L_isSo_b1454
  rw [show jrem (iv one) 4 = iv (one % 4) from jw (d := 4) (by omega) (by decide)]
  have key := fun (x y : Int) (h : (x.natAbs : Int) + y.natAbs = 1) => so_1503 hC hL hW h i10
  have e : ∀ k : Int, 0 ≤ k ∧ k < 4 → ((iv (one % 4) = iv k) ↔ one % 4 = k) := fun k hk => iv_eq (ib_s (by omega)) (ib_s (by omega))
  have e0 : (iv (one % 4) = (0 : Int32)) ↔ one % 4 = 0 := e 0 (by decide)
  have e1 : (iv (one % 4) = (1 : Int32)) ↔ one % 4 = 1 := e 1 (by decide)
  have e2 : (iv (one % 4) = (2 : Int32)) ↔ one % 4 = 2 := e 2 (by decide)
  have e3 : (iv (one % 4) = (3 : Int32)) ↔ one % 4 = 3 := e 3 (by decide)
  unfold g_L_isSo_b1480
  rw [show (-1 : Int32) = iv (-1) from rfl]
  rcases (show one % 4 = 0 ∨ one % 4 = 1 ∨ one % 4 = 2 ∨ one % 4 = 3 by omega) with q | q | q | q
  · rw [if_pos (e0.mpr q), if_neg (fun e => by have := e2.mp e; omega), if_neg (fun e => by have := e3.mp e; omega)]
    exact key 1 0 (by decide)
  · rw [if_neg (fun e => by have := e0.mp e; omega), if_pos (e1.mpr q), if_neg (fun e => by have := e2.mp e; omega), if_neg (fun e => by have := e3.mp e; omega)]
    exact key (-1) 0 (by decide)
  · rw [if_neg (fun e => by have := e0.mp e; omega), if_neg (fun e => by have := e1.mp e; omega), if_pos (e2.mpr q)]
    exact key 0 1 (by decide)
  · rw [if_neg (fun e => by have := e0.mp e; omega), if_neg (fun e => by have := e1.mp e; omega), if_neg (fun e => by have := e2.mp e; omega), if_pos (e3.mpr q)]
    exact key 0 (-1) (by decide)
theorem so_1348 {n : Int} (hC : CS s z f) (hL : LW s f) (hW : WF n s) {one : Int} (h1 : 0 ≤ one ∧ one < 60000) (i10 : Int32) : OK1 n (g_L_isSo_b1348 (iv one) i10 1 z f) := by
  have hk := hW.1.1
  have h8 := ko_8 hk
  have t0 := so_1454 hC hL hW h1 i10
  unfold g_L_isSo_b1348
  rw [lm_g hL.1 11 12, show iv (s 8 12) - 1 = iv (s 8 12 - 1) from iv_sub _ 1]
  have e1 : (iv (s 8 12 - 1) < (0 : Int32)) ↔ s 8 12 - 1 < 0 := iv_lt (b := 0) (by unfold IB; omega) (by decide)
  have e2 : ((40 : Int32) ≤ iv (s 8 12 - 1)) ↔ 40 ≤ s 8 12 - 1 := iv_le (a := 40) (by decide) (by unfold IB; omega)
  by_cases c1 : s 8 12 - 1 < 0
  · rw [if_pos (e1.mpr c1)]; exact t0
  rw [if_neg (fun e => c1 (e1.mp e))]
  by_cases c2 : 40 ≤ s 8 12 - 1
  · rw [if_pos (e2.mpr c2)]; exact t0
  rw [if_neg (fun e => c2 (e2.mp e)), if_neg (show ¬ (1 : Int32) = 0 by decide)]
  obtain ⟨k, ek⟩ : ∃ k : Nat, s 8 12 - 1 = (k : Int) := ⟨(s 8 12 - 1).toNat, by omega⟩
  have b9 : 0 ≤ s 9 k ∧ s 9 k ≤ 8 := hk 9 k
  have b10 : 0 ≤ s 10 k ∧ s 10 k ≤ 3 := hk 10 k
  have b11 : -1 ≤ s 11 k ∧ s 11 k ≤ 399 := hk 11 k
  have fp := hW.2.1.2.2.2 k (by omega)
  have ask := fun w (hw : 0 ≤ w ∧ w ≤ 3) => cq_fall hk hW.2.1.2.2.2 hC (k := (k : Int)) (w := w) (ibn (by omega)) (ib_s (by omega))
  have o : ∀ w, 0 ≤ w ∧ w ≤ 3 → oFall s k w = (0, faA s k w) := fun w hw => by unfold oFall; rw [if_pos (by omega), if_pos hw, Int.toNat_natCast]
  have a0 := ask 0 (by decide)
  have a1 := ask 1 (by decide)
  have a2 := ask 2 (by decide)
  have a3 := ask 3 (by decide)
  rw [o 0 (by decide)] at a0
  rw [o 1 (by decide)] at a1
  rw [o 2 (by decide)] at a2
  rw [o 3 (by decide)] at a3
  rw [show iv 0 = (0 : Int32) from rfl] at a0
  rw [show iv 1 = (1 : Int32) from rfl] at a1
  rw [show iv 2 = (2 : Int32) from rfl] at a2
  rw [show iv 3 = (3 : Int32) from rfl] at a3
  have eV : falV s k = s 9 k + 9 * (s 10 k + 4 * s 11 k) := rfl
  have bV : 0 ≤ falV s k ∧ falV s k < 100000 := by omega
  have d0 : faA s k 0 = falV s k % 9 := by show s 9 k = _; omega
  have d1 : faA s k 1 = falV s k / 9 % 4 := by show s 10 k = _; omega
  have d2 : faA s k 2 = falV s k / 36 % 20 := by
    show (pt (s 11 k)).1 = _
    unfold pt
    dsimp only
    omega
  have d3 : faA s k 3 = falV s k / 720 := by
    show (pt (s 11 k)).2 = _
    unfold pt
    dsimp only
    omega
  rw [ek, ix_iv (by omega) (by decide), Option.bind_some, hL.2.2.2.2.1 k (by omega) (by omega), nth_r a0, Option.bind_some, d0, if_pos (show iv (falV s k % 9) = jrem (iv (falV s k)) 9 from (jw (d := 9) bV (by decide)).symm), nth_r a1, Option.bind_some, d1, if_pos (show iv (falV s k / 9 % 4) = jrem (iv (falV s k) / 9) 4 from (jv (c := 9) (d := 4) bV (by decide) (by decide)).symm), nth_r a2, Option.bind_some, d2, if_pos (show iv (falV s k / 36 % 20) = jrem (iv (falV s k) / 36) 20 from (jv (c := 36) (d := 20) bV (by decide) (by decide)).symm), nth_r a3, Option.bind_some, d3, if_pos (show iv (falV s k / 720) = iv (falV s k) / 720 from (iv_div (b := 720) bV.1 (by omega) (by decide) (by decide)).symm)]
  unfold g_L_isSo_b1452
  exact t0
theorem so_1191 {n : Int} (hC : CS s z f) (hL : LW s f) (hW : WF n s) {one two : Int} (h1 : 0 ≤ one ∧ one < 60000) (h2 : 0 ≤ two ∧ two < 60000) : ∀ (m fu k : Nat), k + m = 9 → m < fu → OK1 n (g_L_isSo_l1191 fu (iv one) (iv two) 1 (iv k) z f) := by
  have hk := hW.1.1
  have h8 := ko_8 hk
  have hbd := hW.1.2.1
  intro m
  induction m with
  | zero =>
    intro fu k hkm hf
    obtain ⟨fu, rfl⟩ : ∃ x, fu = x + 1 := ⟨fu - 1, by omega⟩
    rw [g_L_isSo_l1191, if_pos (show (9 : Int32) ≤ iv (k : Nat) from (iv_le (a := 9) (by decide) (ibn (by omega))).mpr (by omega))]
    exact so_1348 hC hL hW h1 _
  | succ m ih =>
    intro fu k hkm hf
    obtain ⟨fu, rfl⟩ : ∃ x, fu = x + 1 := ⟨fu - 1, by omega⟩
    have nx := ih fu (k + 1) (by omega) (by omega)
    rw [g_L_isSo_l1191, if_neg (show ¬ (9 : Int32) ≤ iv (k : Nat) from fun e => by have := (iv_le (a := 9) (by decide) (ibn (by omega))).mp e; omega), if_neg (show ¬ (1 : Int32) = 0 by decide), lm_g hL.1 1 4, lm_g hL.1 2 5, iv_add, show (2 : Int32) * iv (k : Nat) = iv (2 * k) from iv_mul 2 _, iv_add, show jrem (iv (one + k)) 9 = iv ((one + k) % 9) from jw (d := 9) (by omega) (by decide), show jrem (iv (two + 2 * k)) 9 = iv ((two + 2 * k) % 9) from jw (d := 9) (by omega) (by decide), show iv (s 8 4) - 4 = iv (s 8 4 - 4) from iv_sub _ 4, show iv (s 8 5) - 4 = iv (s 8 5 - 4) from iv_sub _ 4, iv_add, iv_add]
    have bX : -4 ≤ s 8 4 - 4 + (one + k) % 9 ∧ s 8 4 - 4 + (one + k) % 9 ≤ 30 := by omega
    have bY : -4 ≤ s 8 5 - 4 + (two + 2 * k) % 9 ∧ s 8 5 - 4 + (two + 2 * k) % 9 ≤ 30 := by omega
    generalize s 8 4 - 4 + (one + k) % 9 = X at bX ⊢
    generalize s 8 5 - 4 + (two + 2 * k) % 9 = Y at bY ⊢
    have iX : IB X := ib_s (by omega)
    have iY : IB Y := ib_s (by omega)
    have ok : OK1 n (g_L_isSo_b1335 (fun y0 y1 y2 y3 z f => g_L_isSo_l1191 fu y0 y1 y2 y3 z f) (iv one) (iv two) (iv k) z f) := by
      unfold g_L_isSo_b1335 g_L_isSo_b1340
      rw [iv_1]
      exact nx
    rw [la_in iX iY, Option.bind_some]
    obtain ⟨q1, q2⟩ | ⟨hp, hpt, q3⟩ := paS_cs X Y
    · rw [if_neg q2, if_pos rfl]
      exact ok
    · rw [if_pos q3, if_neg (show ¬ (1 : Int32) = 0 by decide)]
      have hp' := (nB_nat hp).2
      have ep : 20 * iv Y + iv X = iv ((paS X Y).toNat : Nat) := by
        have := la_at hp
        rw [hpt] at this
        exact this
      have o : ∀ w, 0 ≤ w ∧ w ≤ 3 → oPoint s X Y w = (0, ptA s (paS X Y) w) := fun w hw => by
        unfold oPoint
        rw [if_pos ⟨by unfold nB at hp; omega, hw⟩]
      have a0 := cq_point hC iX iY (w := 0) (by decide)
      have a1 := cq_point hC iX iY (w := 1) (by decide)
      have a2 := cq_point hC iX iY (w := 2) (by decide)
      have a3 := cq_point hC iX iY (w := 3) (by decide)
      rw [o 0 (by decide), show iv 0 = (0 : Int32) from rfl] at a0
      rw [o 1 (by decide), show iv 1 = (1 : Int32) from rfl] at a1
      rw [o 2 (by decide), show iv 2 = (2 : Int32) from rfl] at a2
      rw [o 3 (by decide), show iv 3 = (3 : Int32) from rfl] at a3
      have e400 : (400 : Int32) + iv ((paS X Y).toNat : Nat) = iv ((400 + (paS X Y).toNat : Nat) : Int) := by
        rw [show (400 : Int32) = iv 400 from rfl, iv_add]
        rfl
      rw [nth_r a0, Option.bind_some, ep, la_four (by decide) (by omega), Option.bind_some, hL.1.1.1 _ hp', if_pos (show iv (ptA s (paS X Y) 0) = iv (s 0 (paS X Y).toNat) from rfl), nth_r a1, Option.bind_some, la_firm hp', Option.bind_some, hL.1.1.2.2.2 _ hp', if_pos (show iv (ptA s (paS X Y) 1) = iv (s 1 (paS X Y).toNat) from rfl), nth_r a2, Option.bind_some, la_four (by decide) (by omega), Option.bind_some, hL.1.1.2.2.1 _ hp', if_pos (show iv (ptA s (paS X Y) 2) = iv (s 2 (paS X Y).toNat) from rfl), nth_r a3, Option.bind_some, e400, la_four (by decide) (by omega), Option.bind_some, hL.1.1.2.1 _ hp', if_pos (show iv (ptA s (paS X Y) 3) = iv (s 3 (paS X Y).toNat) from rfl)]
      exact ok
end
