/-! the law's loop -/
section
variable {s : MSt} {z f : Nat → Nat → Int32}
theorem and_nn (v : Int32) : ∃ q : Nat, q < 2147483648 ∧ v &&& 2147483647 = iv (q : Nat) := by
  refine ⟨(v &&& 2147483647).toBitVec.toNat, ?_, ?_⟩
  · show (v.toBitVec &&& (2147483647 : Int32).toBitVec).toNat < _
    rw [BitVec.toNat_and, show ((2147483647 : Int32).toBitVec).toNat = 2147483647 by decide +kernel]
    have := Nat.and_le_right (n := v.toBitVec.toNat) (m := 2147483647)
    omega
  · apply Int32.toBitVec_inj.mp
    show _ = BitVec.ofInt 32 (((v &&& 2147483647).toBitVec.toNat : Nat) : Int)
    rw [BitVec.ofInt_natCast, BitVec.ofNat_toNat, BitVec.setWidth_eq]
theorem pr_G {L : Nat} {xs : Nat → Int32} (hL : L < 2147483648) {j : Nat} (hj : j < 1000) {d : Int} (hd : 0 < d ∧ d < 100000) : ∃ r : Int, prG L xs (iv j) (iv d) = some (iv r) ∧ 0 ≤ r ∧ r < d := by
  have hv : ∃ v, prV L xs (iv j) = some v := by
    unfold prV
    by_cases c : Int32.ofNat L ≤ iv (j : Nat)
    · rw [if_pos c]; exact ⟨_, rfl⟩
    · rw [if_neg c]
      have c2 : ¬ (iv (L : Int) ≤ iv (j : Nat)) := c
      have c3 : ¬ ((L : Int) ≤ (j : Int)) := fun e => c2 ((iv_le (by unfold IB; omega) (ibn (by omega))).mpr e)
      have e1 : (iv (j : Nat)).toNatClampNeg = j := by rw [iv_clamp (ibn (by omega))]; omega
      rw [e1, if_neg (fun e => by
        rcases e with e | e
        · have := (iv_lt (b := 0) (ibn (by omega)) (by decide)).mp e; omega
        · omega)]
      exact ⟨_, rfl⟩
  obtain ⟨v, ev⟩ := hv
  obtain ⟨q, hq, eq⟩ := and_nn v
  refine ⟨(q : Int) % d, ?_, Int.emod_nonneg _ (by omega), Int.emod_lt_of_pos _ hd.1⟩
  unfold prG
  rw [ev, Option.bind_some, if_neg (show ¬ iv d = (0 : Int32) from fun e => by have := (iv_eq (b := 0) (by unfold IB; omega) (by decide)).mp e; omega), eq, iv_rem (by omega) (by omega) hd.1 (by omega)]
theorem law_l235 {L : Nat} {xs : Nat → Int32} (hL : L < 2147483648) : ∀ (m fu k : Nat) (s : MSt) (z f : Nat → Nat → Int32), k + m = 60 → m < fu → CS s z f → LW s f → WF (k : Int) s → ∃ z' f', g_L_law_l235 L xs fu 1 (iv k) z f = some (1, z', f') := by
  intro m
  induction m with
  | zero =>
    intro fu k s z f hk hf hC hW hF
    obtain ⟨fu, rfl⟩ : ∃ x, fu = x + 1 := ⟨fu - 1, by omega⟩
    rw [g_L_law_l235, if_pos (show (60 : Int32) ≤ iv (k : Nat) from (iv_le (a := 60) (by decide) (ibn (by omega))).mpr (by omega))]
    exact ⟨z, f, rfl⟩
  | succ m ih =>
    intro fu k s z f hk hf hC hW hF
    obtain ⟨fu, rfl⟩ : ∃ x, fu = x + 1 := ⟨fu - 1, by omega⟩
    have e3 : (3 : Int32) * iv (k : Nat) = iv ((3 * k : Nat) : Int) := iv_mul 3 _
    obtain ⟨one, p1, o1, o2⟩ := pr_G (xs := xs) hL (j := 3 * k + 1) (by omega) (d := 60000) (by decide)
    obtain ⟨two, p2, t1, t2⟩ := pr_G (xs := xs) hL (j := 3 * k + 2) (by omega) (d := 60000) (by decide)
    obtain ⟨w, p0, -, -⟩ := pr_G (xs := xs) hL (j := 3 * k) (by omega) (d := 56) (by decide)
    have step : ∀ {o : Option (Int32 × (Nat → Nat → Int32) × (Nat → Nat → Int32))}, OK1 ((k + 1 : Nat) : Int) o → ∃ z' f', (bn3 o fun x1 z2 u3 => g_L_law_b493 L xs (fun y0 y1 z f => g_L_law_l235 L xs fu y0 y1 z f) x1 (iv k) (iv one) (iv two) z2 u3) = some (1, z', f') := fun {o} h => by
      obtain ⟨s1, z1, f1, e1, c1, l1, w1⟩ := h
      obtain ⟨s2, z2, f2, e2, c2, l2, w2⟩ := la_so c1 l1 w1 ⟨o1, o2⟩ ⟨t1, t2⟩
      rw [e1, bn3_some]
      unfold g_L_law_b493
      rw [if_neg (show ¬ (1 : Int32) = 0 by decide), e2, bn3_some, if_neg (show ¬ (1 : Int32) = 0 by decide)]
      unfold g_L_law_b528
      rw [iv_1]
      exact ih fu (k + 1) s2 z2 f2 (by omega) (by omega) c2 l2 w2
    have told : ∀ w, ∃ z' f', g_L_law_b399 L xs (fun y0 y1 z f => g_L_law_l235 L xs fu y0 y1 z f) (iv k) (iv one) (iv two) w z f = some (1, z', f') := fun w => by
      unfold g_L_law_b399
      exact step (ok1_le (by omega) (la_told hC hW hF ⟨o1, o2⟩ ⟨t1, t2⟩ w))
    have done : ∀ w, ∃ z' f', g_L_law_b484 L xs (fun y0 y1 z f => g_L_law_l235 L xs fu y0 y1 z f) (iv k) (iv one) (iv two) w z f = some (1, z', f') := fun w => by
      unfold g_L_law_b484
      exact step (ok1_le (by omega) (la_done (by omega) hC hW hF ⟨o1, o2⟩ ⟨t1, t2⟩ w))
    have b291 : ∀ v, ∃ z' f', g_L_law_b291 L xs (fun y0 y1 z f => g_L_law_l235 L xs fu y0 y1 z f) (iv k) v z f = some (1, z', f') := fun v => by
      unfold g_L_law_b291
      rw [e3, show iv ((3 * k : Nat) : Int) + 1 = iv ((3 * k + 1 : Nat) : Int) from iv_add _ 1, show iv ((3 * k : Nat) : Int) + 2 = iv ((3 * k + 2 : Nat) : Int) from iv_add _ 2, show (60000 : Int32) = iv 60000 from rfl, p1, Option.bind_some, p2, Option.bind_some]
      repeat' split
      all_goals first | exact told _ | exact done _
    rw [g_L_law_l235, if_neg (show ¬ (60 : Int32) ≤ iv (k : Nat) from fun e => by have := (iv_le (a := 60) (by decide) (ibn (by omega))).mp e; omega), if_neg (show ¬ (1 : Int32) = 0 by decide), e3, show (56 : Int32) = iv 56 from rfl, p0, Option.bind_some]
    repeat' split
    all_goals exact b291 _
theorem law_first {L : Nat} {xs : Nat → Int32} (hL : L < 2147483648) (hC : CS s z f) (hW : LW s f) (hF : WF 0 s) (h0 : s 8 0 = 0) (h6 : s 8 6 = 0) (h13 : s 8 13 = 0) : ∃ z' f', (bn3 (g_L_does 6 0 0 0 0 0 z f) fun x7 z8 u9 => if x7 = ((-1000000)) then bn3 (g_L_does 7 0 0 0 0 0 z8 u9) fun x10 z11 u12 => if x10 = ((-3000000)) then bn3 (g_L_does 9 0 0 0 0 0 z11 u12) fun x13 z14 u15 => if x13 = ((-2000000)) then bn3 (g_L_does 9 1 0 0 0 0 z14 u15) fun x16 z17 u18 => if x16 = ((-1000000)) then bn3 (g_L_does 10 1 0 0 0 0 z17 u18) fun x19 z20 u21 => if x19 = ((-1000000)) then bn3 (g_L_does 11 ((-1)) 0 0 0 0 z20 u21) fun x22 z23 u24 => if x22 = ((-2000000)) then bn3 (g_L_does 13 20 0 0 0 0 z23 u24) fun x25 z26 u27 => if x25 = ((-2000000)) then g_L_law_b230 L xs 1 z26 u27 else g_L_law_b229 L xs z26 u27 else g_L_law_b229 L xs z23 u24 else g_L_law_b229 L xs z20 u21 else g_L_law_b229 L xs z17 u18 else g_L_law_b229 L xs z14 u15 else g_L_law_b229 L xs z11 u12 else g_L_law_b229 L xs z8 u9) = some (1, z', f') := by
  have hk := hF.1.1
  have hu := hF.2.2.1 h6
  have nr : ¬ riP s := fun q => by
    have h := ((hb_ok hk hu).mp q.2.2).2
    refine st_up (fun k hk6 => ?_) h
    show (if k < (s 8 0).toNat then hipS s k else s 7 k) = -1
    rw [h0, if_neg (show ¬ k < (0 : Int).toNat from fun q => by have : (0 : Int).toNat = 0 := rfl; omega)]
    exact hu k hk6
  obtain ⟨z1, f1, e1, c1, F1⟩ := cq_rise (n := 0) (by decide) hF.1 hC
  rw [show oRise s = (1, 0, s) by unfold oRise; rw [if_neg nr]] at e1 c1
  dsimp only at e1 c1
  obtain ⟨z2, f2, e2, c2, F2⟩ := cq_lift (n := 0) (by decide) hF.1 c1 (a := 0) (by decide)
  rw [show oLift s 0 = (1, 0, s) by unfold oLift; rw [if_neg (fun q => by have := q.2; omega)]] at e2 c2
  dsimp only at e2 c2
  obtain ⟨z3, f3, e3, c3, F3⟩ := cq_shift (n := 0) (by decide) hF.1 c2 (x := 0) (y := 0) (by decide) (by decide)
  rw [show oShift s 0 0 = (1, 0, s) by unfold oShift; rw [if_neg (fun q => q.2.2 ⟨rfl, rfl⟩)]] at e3 c3
  dsimp only at e3 c3
  obtain ⟨z4, f4, e4, c4, F4⟩ := cq_shift (n := 0) (by decide) hF.1 c3 (x := 1) (y := 0) (by decide) (by decide)
  rw [show oShift s 1 0 = (2, 0, s) by unfold oShift; rw [if_pos (show wyP 1 0 by decide), if_neg (fun q => q.1 h6)]] at e4 c4
  dsimp only at e4 c4
  obtain ⟨z5, f5, e5, c5, F5⟩ := cq_walk (n := 0) (by decide) hF.1 c4 (a := 1) (by decide)
  rw [show oWalk s 1 = (2, 0, s) by unfold oWalk; rw [if_pos (by decide), if_pos h13]] at e5 c5
  dsimp only at e5 c5
  obtain ⟨z6, f6, m', c', h', e6, j6⟩ := cq_corner hk c5 (a := -1) (by decide)
  rw [if_neg (by decide)] at e6
  have c6 := cj_cs j6 c5
  have e7 := cq_point c6 (x := 20) (y := 0) (w := 0) (by decide) (by decide) (by decide)
  rw [show oPoint s 20 0 0 = (1, 0) by unfold oPoint; rw [if_neg (fun q => q.1 (by decide))]] at e7
  dsimp only at e7
  have l6 : LW s f6 := fm_ls j6.2.2 (fm_ls F5 (fm_ls F4 (fm_ls F3 (fm_ls F2 (fm_ls F1 hW)))))
  have d1 := dq_w e1 wl_S (by decide)
  have d2 := dq_w e2 wl_IS (by decide)
  have d3 := dq_w e3 wl_AS (by decide)
  have d4 := dq_w e4 wl_AS (by decide)
  have d5 := dq_w e5 wl_AS (by decide)
  have d6 := dq_w e6 wl_A (by decide)
  have d7 := dq_r (z := z6) (f := f6) e7 wl_A (by decide)
  rw [show iv 0 = (0 : Int32) from rfl] at d2 d3 d4 d7
  rw [show iv 1 = (1 : Int32) from rfl] at d4 d5
  rw [show iv (-1) = (-1 : Int32) from rfl] at d6
  rw [show iv 20 = (20 : Int32) from rfl] at d7
  rw [do_6, d1, bn3_some, if_pos (show dvC [-1000000] 1 0 = -1000000 from rfl), do_7, d2, bn3_some, if_pos (show dvC [-3000000, -1000000] 1 0 = -3000000 from rfl), do_9, d3, bn3_some, if_pos (show dvC [-2000000, -1000000] 1 0 = -2000000 from rfl), do_9, d4, bn3_some, if_pos (show dvC [-2000000, -1000000] 2 0 = -1000000 from rfl), do_10, d5, bn3_some, if_pos (show dvC [-2000000, -1000000] 2 0 = -1000000 from rfl), do_11, d6, bn3_some, if_pos (show dvC [-2000000] 1 (coA m' c' (-1)) = -2000000 from rfl), do_13, d7, bn3_some, if_pos (show dvC [-2000000] 1 0 = -2000000 from rfl)]
  unfold g_L_law_b230
  exact law_l235 hL 60 61 0 s z6 f6 (by decide) (by decide) c6 l6 hF
end
