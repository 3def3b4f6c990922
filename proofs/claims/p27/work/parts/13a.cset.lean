/-! the class: rows, directions, falls, what comes behind an act -/
theorem arrsC_n : ∀ q ∈ arrsC, ∀ q' ∈ arrsC, q.2.1 = q'.2.1 → q.2.2 = q'.2.2 := by decide +kernel
section
variable {s : MSt} {z f : Nat → Nat → Int32}
theorem cs_past (h : CS s z f) {b a n k : Nat} {v : Int} (hq : (b, a, n) ∈ arrsC) (hk : n ≤ k) : CS (us s a k v) z f := by
  constructor
  · intro q hq' j hj
    rw [h.1 q hq' j hj]
    unfold us
    rw [if_neg]
    rintro ⟨e1, e2⟩
    have := arrsC_n q hq' _ hq e1
    simp only at this
    omega
  · intro q hq'
    rw [h.2 q hq', us_na (fun e => (arrsC_inj _ hq _ hq).2.2 e.symm)]
theorem cs_wr (h : CS s z f) {b a n : Nat} {i v : Int} (hq : (b, a, n) ∈ arrsC) (hn : n < 1000) (hi : 0 ≤ i ∧ i < 2147483648) : CS (us s a i.toNat v) z (wrR f b n (iv i) (iv v)) := by
  by_cases c : i.toNat < n
  · have e : i = (i.toNat : Int) := by omega
    have e2 : wrR f b n (iv i) (iv v) = upf f b i.toNat (iv v) := by
      rw [e, wrR_iv c hn]
      rfl
    rw [e2]
    exact cs_arr h hq
  · have e2 : wrR f b n (iv i) (iv v) = f := by
      unfold wrR
      rw [if_neg (fun e => by have := (iv_lt (b := 0) (by unfold IB; omega) (by decide)).mp e; omega), if_pos (show Int32.ofNat n ≤ iv i from (iv_le (a := n) (by unfold IB; omega) (by unfold IB; omega)).mpr (by omega))]
    rw [e2]
    exact cs_past h hq (by omega)
theorem cs_row (h : CS s z f) {b a n : Nat} {g : Nat → Int} {c : Nat → Int32} (hq : (b, a, n) ∈ arrsC) (hc : ∀ k, k < n → c k = iv (g k)) : CS (ur s a g) z (upa f b c) := by
  constructor
  · intro q hq' j hj
    obtain ⟨e1, e2, -⟩ := arrsC_inj q hq' _ hq
    have e3 := arrsC_n q hq' _ hq
    simp only at e1 e2 e3
    by_cases d : q.1 = b
    · have := e3 (e1 d)
      rw [d, upa_same, e1 d, ur_at]
      exact hc j (by omega)
    · rw [upa_ne d, ur_na (fun e => d (e2 e))]
      exact h.1 q hq' j hj
  · intro q hq'
    rw [h.2 q hq', ur_na (fun e => (arrsC_inj _ hq _ hq).2.2 e.symm)]
theorem fm_wr {b n : Nat} {i v : Int32} (h : b < 66) : Fm z f z (wrR f b n i v) := by
  unfold wrR
  split
  · exact fm_rf
  · split
    · exact fm_rf
    · exact fm_f h
theorem sxN_bd {ft : Nat → Int} (h : ftOk ft) : ∀ n i v, i + n ≤ 6 → v ≤ sxN ft n i v ∧ sxN ft n i v ≤ v + 20 * n
  | 0, i, v, _ => by unfold sxN; omega
  | n + 1, i, v, hi => by
    unfold sxN
    by_cases c : ft i = -1
    · rw [if_pos c]; have := sxN_bd h n (i + 1) v (by omega); omega
    · rw [if_neg c]
      have p := pt_bd ((h i (by omega)).resolve_left c)
      have := sxN_bd h n (i + 1) (v + (pt (ft i)).1) (by omega)
      omega
theorem syN_bd {ft : Nat → Int} (h : ftOk ft) : ∀ n i v, i + n ≤ 6 → v ≤ syN ft n i v ∧ syN ft n i v ≤ v + 20 * n
  | 0, i, v, _ => by unfold syN; omega
  | n + 1, i, v, hi => by
    unfold syN
    by_cases c : ft i = -1
    · rw [if_pos c]; have := syN_bd h n (i + 1) v (by omega); omega
    · rw [if_neg c]
      have p := pt_bd ((h i (by omega)).resolve_left c)
      have := syN_bd h n (i + 1) (v + (pt (ft i)).2) (by omega)
      omega
theorem dir_bd (hB : BD s) : (-100000 ≤ mxS s * cnS (s 7) - sxN (s 7) 6 0 0 * wS s ∧ mxS s * cnS (s 7) - sxN (s 7) 6 0 0 * wS s ≤ 100000) ∧ (-100000 ≤ myS s * cnS (s 7) - syN (s 7) 6 0 0 * wS s ∧ myS s * cnS (s 7) - syN (s 7) 6 0 0 * wS s ≤ 100000) := by
  obtain ⟨b1, b2, b3⟩ := bd_m hB
  have c := cnS_le (ft := s 7)
  have x := sxN_bd hB.2.2.2 6 0 0 (by decide)
  have y := syN_bd hB.2.2.2 6 0 0 (by decide)
  have n1 := bd_mul (a := mxS s) (b := (cnS (s 7) : Int)) (A := 2000) (B := 6) (by omega) (by omega)
  have n2 := bd_mul (a := myS s) (b := (cnS (s 7) : Int)) (A := 2000) (B := 6) (by omega) (by omega)
  have n3 := bd_mul (a := sxN (s 7) 6 0 0) (b := wS s) (A := 120) (B := 30) (by omega) (by omega)
  have n4 := bd_mul (a := syN (s 7) 6 0 0) (b := wS s) (A := 120) (B := 30) (by omega) (by omega)
  omega
theorem shr31 (y : Int32) : y >>> (31 &&& 31) = if y.toInt < 0 then (-1 : Int32) else 0 := by
  have h1 := Int32.le_toInt y
  have h2 := Int32.toInt_lt y
  have e : (y >>> (31 &&& 31)).toInt = if y.toInt < 0 then -1 else 0 := by
    show ((y >>> (31 &&& 31)).toBitVec).toInt = _
    rw [Int32.toBitVec_shiftRight, show ((31 &&& 31 : Int32).toBitVec.smod 32) = 31#32 by decide, BitVec.sshiftRight', BitVec.toInt_sshiftRight, Int.shiftRight_eq_div_pow]
    show y.toInt / (2 ^ 31 : Nat) = _
    split <;> omega
  apply Int32.toInt_inj.mp
  rw [e]
  split <;> rfl
theorem ushr31 (y : Int32) (h : 0 < y.toInt) : jushr (-y) 31 = 1 := by
  have h2 := Int32.toInt_lt y
  unfold jushr
  have e : (-y).toUInt32.toNat = 4294967296 - y.toInt.toNat := by
    have e1 : (-y).toUInt32.toNat = (-y).toBitVec.toNat := rfl
    have e2 : y.toInt = (y.toBitVec.toNat : Int) := by
      have : y.toInt = y.toBitVec.toInt := rfl
      rw [this, BitVec.toInt_eq_toNat_cond]
      split
      · rfl
      · rename_i hc
        exfalso
        have h3 : y.toInt = y.toBitVec.toInt := rfl
        rw [BitVec.toInt_eq_toNat_cond, if_neg hc] at h3
        have := y.toBitVec.isLt
        omega
    rw [e1, Int32.toBitVec_neg, BitVec.toNat_neg]
    have := y.toBitVec.isLt
    omega
  have e3 : ((-y).toUInt32 >>> ((31 : Int32).toUInt32 &&& Int32.toUInt32 31)) = 1 := by
    apply UInt32.toNat_inj.mp
    rw [UInt32.toNat_shiftRight, e, show ((31 : Int32).toUInt32 &&& Int32.toUInt32 31).toNat % 32 = 31 by decide, Nat.shiftRight_eq_div_pow]
    show _ = 1
    omega
  rw [e3]
  rfl
theorem sgn_iv {a : Int} (h : -100000 ≤ a ∧ a ≤ 100000) : g_J6_signum_0f7a4 (iv a) z f = some (iv (sgS a)) := by
  have ha : IB a := by omega
  unfold g_J6_signum_0f7a4 sgS
  rw [shr31, iv_toInt ha]
  by_cases c : 0 < a
  · rw [if_neg (by omega), ushr31 _ (by rw [iv_toInt ha]; exact c), if_pos c]; rfl
  · rw [if_neg c]
    by_cases d : a < 0
    · rw [if_pos d, if_pos d, Int32.neg_one_or]; rfl
    · rw [if_neg d, if_neg d]
      obtain rfl : a = 0 := by omega
      decide
theorem cd_dir (hB : BD s) (hL : LF s z f) {a0 : Nat} (hP : PS a0 s z f) : g_X9_direction a0 z f = some (iv (dirS s)) := by
  obtain ⟨d1, d2⟩ := dir_bd hB
  have key : ∀ (n fu i c : Nat) (x y : Int), i + n = 6 → n < fu → cnN (s 7) n i c = cnS (s 7) → sxN (s 7) n i x = sxN (s 7) 6 0 0 → syN (s 7) n i y = syN (s 7) 6 0 0 → g_X9_direction_l9 fu a0 (iv c) (iv x) (iv y) (iv i) z f = some (iv (dirS s)) := by
    intro n
    induction n with
    | zero =>
      intro fu i c x y hi hf e1 e2 e3
      obtain ⟨fu, rfl⟩ : ∃ x, fu = x + 1 := ⟨fu - 1, by omega⟩
      obtain rfl : i = 6 := by omega
      replace e1 : c = cnS (s 7) := e1
      replace e2 : x = sxN (s 7) 6 0 0 := e2
      replace e3 : y = syN (s 7) 6 0 0 := e3
      rw [g_X9_direction_l9, if_pos y6, cp_mx hL hP, Option.bind_some, cp_w hL, Option.bind_some, iv_mul, iv_mul, iv_sub, e1, e2, sgn_iv d1, Option.bind_some, cp_my hL hP, Option.bind_some, Option.bind_some, iv_mul, iv_mul, iv_sub, e3, sgn_iv d2, Option.bind_some, show (1 : Int32) = iv 1 from rfl, show (3 : Int32) = iv 3 from rfl, iv_add, iv_mul, iv_add, iv_add]
      rfl
    | succ n ih =>
      intro fu i c x y hi hf e1 e2 e3
      obtain ⟨fu, rfl⟩ : ∃ x, fu = x + 1 := ⟨fu - 1, by omega⟩
      rw [g_X9_direction_l9, if_neg (n6 (by omega)), rdR_iv (by omega) (by decide), hP.2.2 i (by omega)]
      unfold cnN at e1
      unfold sxN at e2
      unfold syN at e3
      unfold g_X9_direction_b52 g_X10_xOf g_X10_yOf
      by_cases c1 : s 7 i = -1
      · rw [if_pos c1] at e1 e2 e3
        rw [if_pos ((m1_iv (ftIB hB.2.2.2 (by omega))).mpr c1), iv_1]
        exact ih fu (i + 1) c x y (by omega) (by omega) e1 e2 e3
      · rw [if_neg c1] at e1 e2 e3
        have hn : nB (s 7 i) := (hB.2.2.2 i (by omega)).resolve_left c1
        rw [if_neg (fun e => c1 ((m1_iv (ftIB hB.2.2.2 (by omega))).mp e)), Option.bind_some, Option.bind_some, iv_x hn, iv_y hn, iv_add, iv_add, iv_1, iv_1]
        exact ih fu (i + 1) (c + 1) _ _ (by omega) (by omega) e1 e2 e3
  exact key 6 FU 0 0 0 0 (by decide) (by decide) rfl rfl rfl
theorem cd_fall (h : CS s z f) (hB : BD s) (h12 : 0 ≤ s 8 12 ∧ s 8 12 < 1000000) : ∃ z' f', g_X10_toppleOver z f = some (z', f') ∧ CS (fallS s) z' f' ∧ Fm z f z' f' := by
  unfold g_X10_toppleOver g_X1_keep lt2
  rw [cd_dir hB (cs_lf h) (cs_ps h), Option.bind_some, bn2_some, h.2 (33, 1, 9) (by decide), h.2 (33, 2, 10) (by decide), h.2 (34, 3, 12) (by decide), show (1 : Int32) = iv 1 from rfl, iv_add, show (0 : Int32) = iv 0 from rfl]
  have w1 := cs_wr h (b := 36) (a := 9) (n := 40) (v := dirS s) (by decide) (by decide) (i := s 8 12) (by omega)
  have w2 := cs_wr w1 (b := 38) (a := 10) (n := 40) (v := s 8 9) (by decide) (by decide) (i := s 8 12) (by omega)
  have w3 := cs_wr w2 (b := 40) (a := 11) (n := 40) (v := s 8 10) (by decide) (by decide) (i := s 8 12) (by omega)
  have w4 := cs_sc w3 (c := 34) (k := 3) (j := 12) (v := s 8 12 + 1) (by decide)
  have w5 := cs_row (g := fun _ => -1) (c := fun j => if j < 6 then (-1 : Int32) else (wrR (wrR (wrR f 36 40 (iv (s 8 12)) (iv (dirS s))) 38 40 (iv (s 8 12)) (iv (s 8 9))) 40 40 (iv (s 8 12)) (iv (s 8 10))) 24 j) w4 (b := 24) (a := 7) (n := 6) (by decide) (fun k hk => (if_pos hk).trans rfl)
  have w6 := cs_sc w5 (c := 0) (k := 9) (j := 6) (v := 0) (by decide)
  exact ⟨_, _, rfl, w6, fm_tr (fm_tr (fm_wr (by decide)) (fm_tr (fm_wr (by decide)) (fm_wr (by decide)))) (fm_tr (fm_z (by decide)) (fm_tr (fm_f (by decide)) (fm_z (by decide))))⟩
theorem cd_b54 (h : CS s z f) (hk : KO s) (h12 : s 8 12 < 1000000) : ∃ z' f', g_X10_settled_b54 z f = some (iv (s 8 11), z', f') ∧ CS (if stB s (-1) = true then s else fallS s) z' f' ∧ Fm z f z' f' := by
  obtain ⟨z1, f1, m, c, e, hj, -⟩ := cp_holds (a0 := 22) (Or.inl rfl) (ko_bd hk) (cs_lf h) (cs_ps h) (but := -1) (by decide)
  have h1 := hj_cs hj h
  unfold g_X10_settled_b54 g_X10_settled_b69
  rw [show (-1 : Int32) = iv (-1) from rfl, e, bn3_some]
  by_cases c : stB s (-1) = true
  · rw [if_pos c, if_neg (by decide), if_pos c, h1.2 (33, 3, 11) (by decide)]
    exact ⟨z1, f1, rfl, h1, hj_fm hj⟩
  · rw [if_neg c, if_pos rfl, if_neg c]
    obtain ⟨z2, f2, e2, c2, m2⟩ := cd_fall h1 (ko_bd hk) ⟨(ko_8 hk).2.2.2.2.2.2.2.1.1, h12⟩
    rw [e2, bn2_some, c2.2 (33, 3, 11) (by decide)]
    refine ⟨z2, f2, ?_, c2, fm_tr (hj_fm hj) m2⟩
    have : fallS s 8 11 = s 8 11 := by
      unfold fallS
      rw [us_nk (by decide), ur_na (by decide), us_nk (by decide), us_na (by decide), us_na (by decide), us_na (by decide)]
    rw [this]
theorem fall_11 {s : MSt} : fallS s 8 11 = s 8 11 := by
  unfold fallS
  rw [us_nk (by decide), ur_na (by decide), us_nk (by decide), us_na (by decide), us_na (by decide), us_na (by decide)]
theorem cd_sk1 (h : CS s z f) (hk : KO s) : ∃ z1 f1 z' f', g_X10_breakGround (mk (skS s)) z f = some (z1, f1) ∧ g_X9_raise 22 (mk (skS s)) z1 f1 = some (z', f') ∧ CS (sk1 s) z' f' ∧ Fm z f z' f' := by
  have hne : ∀ k, k < 6 → skS s k = true → s 7 k ≠ -1 := fun k _ hs => by
    unfold skS skB at hs
    rw [Bool.and_eq_true, decide_eq_true_iff] at hs
    exact hs.1
  obtain ⟨z1, f1, e1, c1, m1⟩ := cc_break (σ := skS s) 6 FU 0 s z f (by decide) (by decide) h (ko_gk hk) hne
  obtain ⟨c, e2, g2⟩ := ct_raise (σ := skS s) (a0 := 22) (z := z1) 6 FU 0 f1 (brS (skS s) 6 0 s 7) (by decide) (by decide) (c1.1 (24, 7, 6) (by decide))
  refine ⟨z1, f1, z1, _, e1, e2, ?_, fm_tr m1 (fm_f (by decide))⟩
  unfold sk1
  exact cs_row c1 (b := 24) (a := 7) (n := 6) (by decide) (fun k hk => by rw [g2 k hk]; unfold raS; simp)
theorem cd_set17 : ∀ (n fu i : Nat) (s : MSt) (z f : Nat → Nat → Int32), i + n = 6 → n < fu → CS s z f → KO s → s 8 12 < 1000000 → ∃ z' f', g_X10_settled_l17 fu (mk (skS s)) (iv i) z f = some (iv (skN n s 8 11), z', f') ∧ CS (if stB (skN n s) (-1) = true then skN n s else fallS (skN n s)) z' f' ∧ Fm z f z' f' := by
  intro n
  induction n with
  | zero =>
    intro fu i s z f hi hf h hk h12
    obtain ⟨fu, rfl⟩ : ∃ x, fu = x + 1 := ⟨fu - 1, by omega⟩
    obtain rfl : i = 6 := by omega
    rw [g_X10_settled_l17, if_pos y6, ite_self]
    exact cd_b54 h hk h12
  | succ n ih =>
    intro fu i s z f hi hf h hk h12
    obtain ⟨fu, rfl⟩ : ∃ x, fu = x + 1 := ⟨fu - 1, by omega⟩
    rw [g_X10_settled_l17, if_neg (n6 (by omega))]
    by_cases c : mk (skS s) = 0
    · have e : skN (n + 1) s = s := by unfold skN; rw [if_pos c]
      rw [if_pos c, e]
      exact cd_b54 h hk h12
    · have e : skN (n + 1) s = skN n (sk1 s) := by rw [skN, if_neg c]
      obtain ⟨z1, f1, z2, f2, e1, e2, c2, m2⟩ := cd_sk1 h hk
      have hk2 := ko_sk1 hk
      obtain ⟨z3, f3, e3, c3, m3⟩ := ih fu (i + 1) (sk1 s) z2 f2 (by omega) (by omega) c2 hk2 (by rw [sk1_o (by decide)]; exact h12)
      rw [if_neg c, e1, bn2_some, e2, bn2_some, cp_sink (ko_bd hk2) (cs_lf c2) (cs_ps c2), Option.bind_some, iv_1, e]
      exact ⟨z3, f3, e3, c3, fm_tr m2 m3⟩
/-- what comes behind each act -/
theorem cd_settled (h : CS s z f) (hk : KO s) (h12 : s 8 12 < 1000000) : ∃ z' f', g_X10_settled z f = some (iv (stlS s 8 11), z', f') ∧ CS (stlS s) z' f' ∧ Fm z f z' f' := by
  have h8 := ko_8 hk
  unfold g_X10_settled stlS
  rw [h.2 (0, 9, 6) (by decide)]
  by_cases c : s 8 6 = 0
  · rw [if_pos ((z_iv (by omega)).mpr c), if_pos c]
    unfold g_X10_settled_b69
    rw [h.2 (33, 3, 11) (by decide)]
    exact ⟨z, f, rfl, h, fm_rf⟩
  · rw [if_neg (fun e => c ((z_iv (by omega)).mp e)), if_neg c, cp_sink (ko_bd hk) (cs_lf h) (cs_ps h), Option.bind_some]
    obtain ⟨z1, f1, e1, c1, m1⟩ := cd_set17 6 FU 0 s z f (by decide) (by decide) h hk h12
    refine ⟨z1, f1, ?_, c1, m1⟩
    refine e1.trans ?_
    congr 3
    split
    · rfl
    · exact fall_11.symm
end
