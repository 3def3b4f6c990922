/-! the class's acts, as answers and states -/
def rsC (ns : List String) (c : Nat) (v : Int) : Int32 ⊕ String := if c = 0 then .inl (iv v) else .inr (ns.getD (c - 1) "")
def AI (n : Int) (s : MSt) : Prop := KO s ∧ ((0 ≤ s 8 4 ∧ s 8 4 < 20) ∧ (0 ≤ s 8 5 ∧ s 8 5 < 20)) ∧ s 8 12 + s 8 6 ≤ n
section
variable {s : MSt} {z f : Nat → Nat → Int32}
theorem fall_o {a k : Nat} (h : a ≠ 7 ∧ a ≠ 9 ∧ a ≠ 10 ∧ a ≠ 11 ∧ (a = 8 → k ≠ 6 ∧ k ≠ 12)) : fallS s a k = s a k := by
  unfold fallS
  by_cases e : a = 8
  · subst e
    rw [us_nk (h.2.2.2.2 rfl).1, ur_na (by decide), us_nk (h.2.2.2.2 rfl).2, us_na (by decide), us_na (by decide), us_na (by decide)]
  · rw [us_na e, ur_na h.1, us_na e, us_na h.2.2.2.1, us_na h.2.2.1, us_na h.2.1]
theorem fall_6 : fallS s 8 6 = 0 := us_at
theorem fall_12 : fallS s 8 12 = s 8 12 + 1 := by
  unfold fallS
  rw [us_nk (by decide), ur_na (by decide), us_at]
theorem fall_7 {k : Nat} : fallS s 7 k = -1 := by
  unfold fallS
  rw [us_na (by decide), ur_at]
theorem stl_o {a k : Nat} (h : a ≠ 0 ∧ a ≠ 3 ∧ a ≠ 7 ∧ a ≠ 9 ∧ a ≠ 10 ∧ a ≠ 11 ∧ (a = 8 → k ≠ 6 ∧ k ≠ 8 ∧ k ≠ 9 ∧ k ≠ 10 ∧ k ≠ 11 ∧ k ≠ 12)) : stlS s a k = s a k := by
  have hs : skN 6 s a k = s a k := skN_o ⟨h.1, h.2.1, h.2.2.1, fun e => by have := h.2.2.2.2.2.2 e; omega⟩ 6 s
  unfold stlS
  split
  · rfl
  · split
    · exact hs
    · rw [fall_o ⟨h.2.2.1, h.2.2.2.1, h.2.2.2.2.1, h.2.2.2.2.2.1, fun e => by have := h.2.2.2.2.2.2 e; omega⟩, hs]
theorem ai_12 {n : Int} (h : AI n s) (hn : n < 1000000) : s 8 12 < 1000000 := by
  have h8 := ko_8 h.1
  have := h.2.2
  omega
theorem ai_stl {n : Int} (h : AI n s) (hn : n < 1000000) : AI n (stlS s) := by
  refine ⟨ko_stl h.1 (ai_12 h hn), ?_, ?_⟩
  · rw [stl_o (by decide), stl_o (by decide)]
    exact h.2.1
  · have h8 := ko_8 h.1
    have e6 := skN_o (a := 8) (k := 6) (by decide) 6 s
    have e12 := skN_o (a := 8) (k := 12) (by decide) 6 s
    have := h.2.2
    unfold stlS
    split
    · exact h.2.2
    · split
      · rw [e6, e12]; exact h.2.2
      · rw [fall_6, fall_12, e12]; omega
theorem cd_isLeg (hk : KO s) (hC : CS s z f) {a : Int} (ha : IB a) : g_X10_isLeg (iv a) z f = some (if 0 ≤ a ∧ a < s 8 0 then 1 else 0) := by
  have h8 := ko_8 hk
  unfold g_X10_isLeg
  rw [cz hC 15 3 0]
  have e0 : (iv a < (0 : Int32)) ↔ a < 0 := iv_lt (b := 0) ha (by decide)
  have e1 : (iv (s 8 0) ≤ iv a) ↔ s 8 0 ≤ a := iv_le (by omega) ha
  by_cases c : a < 0
  · rw [if_pos (e0.mpr c), if_neg (by omega)]
  · rw [if_neg (fun e => c (e0.mp e))]
    by_cases d : s 8 0 ≤ a
    · rw [if_pos (e1.mpr d), if_neg (by omega)]
    · rw [if_neg (fun e => d (e1.mp e)), if_pos (by omega)]
abbrev lgP (s : MSt) (a : Int) : Prop := 0 ≤ a ∧ a < s 8 0
theorem lg_nat (hk : KO s) {a : Int} (h : lgP s a) : a = (a.toNat : Int) ∧ a.toNat < 6 := by
  have h8 := ko_8 hk
  have h1 := h.1
  have h2 := h.2
  omega
def oLift (s : MSt) (a : Int) : Nat × Int × MSt := if lgP s a then (if mlP s a.toNat then (0, stlS (lfS s a.toNat) 8 11, stlS (lfS s a.toNat)) else (2, 0, s)) else (1, 0, s)
theorem lf_12 {k : Nat} : lfS s k 8 12 = s 8 12 := by
  unfold lfS
  rw [us_na (by decide), us_nk (by decide), us_nk (by decide)]
theorem lf_o {k a j : Nat} (h : (a = 7 → j ≠ k) ∧ (a = 8 → j ≠ 7 ∧ j ≠ 11)) : lfS s k a j = s a j := by
  unfold lfS
  by_cases e : a = 8
  · subst e
    rw [us_na (by decide), us_nk (h.2 rfl).2, us_nk (h.2 rfl).1]
  · by_cases e7 : a = 7
    · subst e7
      rw [us_nk (h.1 rfl), us_na e, us_na e]
    · rw [us_na e7, us_na e, us_na e]
theorem lf_8 {k j : Nat} (h : j ≠ 7 ∧ j ≠ 11) : lfS s k 8 j = s 8 j := lf_o ⟨fun e => absurd e (by decide), fun _ => h⟩
theorem ai_lf {n : Int} (h : AI n s) {k : Nat} (h7 : 1 ≤ s 8 7) : AI n (lfS s k) := by
  refine ⟨ko_lf h.1 h7, ?_⟩
  rw [lf_8 (by decide), lf_8 (by decide), lf_8 (by decide), lf_8 (by decide)]
  exact h.2
theorem cq_lift {n : Int} (hn : n < 1000000) (hA : AI n s) (hC : CS s z f) {a : Int} (ha : IB a) : ∃ z' f', g_X10_lift (iv a) z f = some (rsC [nIOB, nISE] (oLift s a).1 (oLift s a).2.1, z', f') ∧ CS (oLift s a).2.2 z' f' ∧ Fm z f z' f' := by
  have hk := hA.1
  unfold g_X10_lift oLift
  rw [cd_isLeg hk hC ha, Option.bind_some]
  by_cases c : lgP s a
  · rw [if_pos (show 0 ≤ a ∧ a < s 8 0 from c), if_pos c, if_neg (by decide)]
    obtain ⟨ea, h6⟩ := lg_nat hk c
    obtain ⟨z1, f1, e1, c1, m1⟩ := cd_liftFoot hk hC h6
    rw [ea] at *
    rw [Int.toNat_natCast] at *
    rw [e1, bn3_some]
    by_cases d : mlP s a.toNat
    · rw [if_pos d] at c1
      obtain ⟨z2, f2, e2, c2, m2⟩ := cd_settled c1 (ko_lf hk d.2.1) (by rw [lf_12]; exact ai_12 hA hn)
      rw [if_pos d, if_neg (by decide), if_pos d, e2, bn3_some]
      exact ⟨z2, f2, rfl, c2, fm_tr m1 m2⟩
    · rw [if_neg d] at c1
      rw [if_neg d, if_pos rfl, if_neg d]
      exact ⟨z1, f1, rfl, c1, m1⟩
  · rw [if_neg (show ¬ (0 ≤ a ∧ a < s 8 0) from c), if_neg c, if_pos rfl]
    exact ⟨z, f, rfl, hC, fm_rf⟩
def oPlace (s : MSt) (a x y : Int) : Nat × Int × MSt := if lgP s a then (if paS x y = -1 then (2, 0, s) else if plP s a.toNat (paS x y) then (0, stlS (plS s a.toNat (paS x y)) 8 11, stlS (plS s a.toNat (paS x y))) else (3, 0, s)) else (1, 0, s)
theorem pl_o {k : Nat} {p : Int} {a j : Nat} (h : a ≠ 3 ∧ a ≠ 7 ∧ (a = 8 → j ≠ 7 ∧ j ≠ 8 ∧ j ≠ 9 ∧ j ≠ 10 ∧ j ≠ 11)) : plS s k p a j = s a j := by
  unfold plS
  rw [setS_o ⟨h.1, h.2.1, fun e => by have := h.2.2 e; omega⟩]
  by_cases e : a = 8
  · subst e
    rw [us_nk (h.2.2 rfl).2.2.2.2, us_nk (h.2.2 rfl).1]
  · rw [us_na e, us_na e]
theorem ai_pl {n : Int} (h : AI n s) {k : Nat} {p : Int} (hp : nB p) (h6 : k < 6) (h7 : 1 + faS s k p ≤ s 8 7) : AI n (plS s k p) := by
  refine ⟨ko_pl h.1 hp h7 (faS_bd (ko_bd h.1) h6 hp).1, ?_⟩
  rw [pl_o (by decide), pl_o (by decide), pl_o (by decide), pl_o (by decide)]
  exact h.2
theorem cq_place {n : Int} (hn : n < 1000000) (hA : AI n s) (hC : CS s z f) {a x y : Int} (ha : IB a) (hx : IB x) (hy : IB y) : ∃ z' f', g_X10_place (iv a) (iv x) (iv y) z f = some (rsC [nIOB, nIAE, nISE] (oPlace s a x y).1 (oPlace s a x y).2.1, z', f') ∧ CS (oPlace s a x y).2.2 z' f' ∧ Fm z f z' f' := by
  have hk := hA.1
  unfold g_X10_place oPlace
  rw [cd_isLeg hk hC ha, Option.bind_some]
  by_cases c : lgP s a
  · rw [if_pos (show 0 ≤ a ∧ a < s 8 0 from c), if_pos c, if_neg (by decide), cp_pt hx hy, Option.bind_some]
    obtain ⟨ea, h6⟩ := lg_nat hk c
    by_cases g : paS x y = -1
    · rw [if_pos (show iv (paS x y) = (-1 : Int32) by rw [g]; rfl), if_pos g]
      exact ⟨z, f, rfl, hC, fm_rf⟩
    · have hp := ((paS_cs x y).resolve_left (fun h => g h.1)).1
      obtain ⟨z1, f1, e1, c1, m1⟩ := cd_placeFoot hk hC h6 hp
      rw [← ea] at e1
      rw [if_neg (fun e => g ((m1_iv (by unfold nB at hp; omega)).mp e)), if_neg g, e1, bn3_some]
      by_cases d : plP s a.toNat (paS x y)
      · rw [if_pos d] at c1
        have hA2 := ai_pl hA hp h6 d.2.1
        obtain ⟨z2, f2, e2, c2, m2⟩ := cd_settled c1 hA2.1 (ai_12 hA2 hn)
        rw [if_pos d, if_neg (by decide), if_pos d, e2, bn3_some]
        exact ⟨z2, f2, rfl, c2, fm_tr m1 m2⟩
      · rw [if_neg d] at c1
        rw [if_neg d, if_pos rfl, if_neg d]
        exact ⟨z1, f1, rfl, c1, m1⟩
  · rw [if_neg (show ¬ (0 ≤ a ∧ a < s 8 0) from c), if_neg c, if_pos rfl]
    exact ⟨z, f, rfl, hC, fm_rf⟩
theorem sh_o {x y : Int} {a j : Nat} (h : a = 8 → j ≠ 4 ∧ j ≠ 5 ∧ j ≠ 7 ∧ j ≠ 11) : shS s x y a j = s a j := by
  unfold shS
  by_cases e : a = 8
  · subst e
    rw [us_nk (h rfl).2.2.2, us_nk (h rfl).2.2.1, mv_o (fun _ => ⟨(h rfl).1, (h rfl).2.1⟩)]
  · rw [us_na e, us_na e, mv_o (fun q => absurd q e)]
theorem ai_sh {n : Int} (h : AI n s) {x y : Int} (hp : shP s x y) : AI n (shS s x y) := by
  have q := (paS_cs (s 8 4 + x) (s 8 5 + y)).resolve_left (fun h => hp.2.2.1 h.1)
  have e4 : shS s x y 8 4 = s 8 4 + x := by unfold shS; rw [us_nk (by decide), us_nk (by decide), mv_4]
  have e5 : shS s x y 8 5 = s 8 5 + y := by unfold shS; rw [us_nk (by decide), us_nk (by decide), mv_5]
  refine ⟨ko_sh h.1 (by omega) (by omega) hp.2.1, ?_, ?_⟩
  · rw [e4, e5]; exact q.2.2
  · rw [sh_o (by decide), sh_o (by decide)]; exact h.2.2
abbrev wyP (x y : Int) : Prop := (-1 ≤ x ∧ x ≤ 1) ∧ (-1 ≤ y ∧ y ≤ 1) ∧ ¬ (x = 0 ∧ y = 0)
def oShift (s : MSt) (x y : Int) : Nat × Int × MSt := if wyP x y then (if shP s x y then (0, stlS (shS s x y) 8 11, stlS (shS s x y)) else (2, 0, s)) else (1, 0, s)
theorem cq_b36 {n : Int} (hn : n < 1000000) (hA : AI n s) (hC : CS s z f) {x y : Int} (h : wyP x y) : ∃ z' f', g_X10_shift_b36 (iv x) (iv y) z f = some (rsC [nIAE, nISE] (oShift s x y).1 (oShift s x y).2.1, z', f') ∧ CS (oShift s x y).2.2 z' f' ∧ Fm z f z' f' := by
  obtain ⟨z1, f1, e1, c1, m1⟩ := cd_shiftBody hA.1 hC hA.2.1.1 hA.2.1.2 h.1 h.2.1
  unfold g_X10_shift_b36 oShift
  rw [if_pos h, e1, bn3_some]
  by_cases d : shP s x y
  · rw [if_pos d] at c1
    have hA2 := ai_sh hA d
    obtain ⟨z2, f2, e2, c2, m2⟩ := cd_settled c1 hA2.1 (ai_12 hA2 hn)
    rw [if_pos d, if_neg (by decide), if_pos d, e2, bn3_some]
    exact ⟨z2, f2, rfl, c2, fm_tr m1 m2⟩
  · rw [if_neg d] at c1
    rw [if_neg d, if_pos rfl, if_neg d]
    exact ⟨z1, f1, rfl, c1, m1⟩
theorem cq_shift {n : Int} (hn : n < 1000000) (hA : AI n s) (hC : CS s z f) {x y : Int} (hx : IB x) (hy : IB y) : ∃ z' f', g_X10_shift (iv x) (iv y) z f = some (rsC [nIAE, nISE] (oShift s x y).1 (oShift s x y).2.1, z', f') ∧ CS (oShift s x y).2.2 z' f' ∧ Fm z f z' f' := by
  have bad : ¬ wyP x y → ∃ z' f', g_X10_shift_b26 z f = some (rsC [nIAE, nISE] (oShift s x y).1 (oShift s x y).2.1, z', f') ∧ CS (oShift s x y).2.2 z' f' ∧ Fm z f z' f' := fun h => by
    unfold oShift
    rw [if_neg h]
    exact ⟨z, f, rfl, hC, fm_rf⟩
  unfold g_X10_shift
  rw [show (-1 : Int32) = iv (-1) from rfl, show (1 : Int32) = iv 1 from rfl, iw_in hx (by decide) (by decide), Option.bind_some, iw_in hy (by decide) (by decide)]
  by_cases c1 : -1 ≤ x ∧ x ≤ 1
  · rw [if_pos c1, if_neg (by decide), Option.bind_some]
    by_cases c2 : -1 ≤ y ∧ y ≤ 1
    · rw [if_pos c2, if_neg (by decide)]
      by_cases d1 : x = 0
      · rw [if_pos ((z_iv hx).mpr d1)]
        by_cases d2 : y = 0
        · rw [if_pos ((z_iv hy).mpr d2)]
          exact bad (fun q => q.2.2 ⟨d1, d2⟩)
        · rw [if_neg (fun e => d2 ((z_iv hy).mp e))]
          exact cq_b36 hn hA hC ⟨c1, c2, fun q => d2 q.2⟩
      · rw [if_neg (fun e => d1 ((z_iv hx).mp e))]
        exact cq_b36 hn hA hC ⟨c1, c2, fun q => d1 q.1⟩
    · rw [if_neg c2, if_pos rfl]
      exact bad (fun q => c2 q.2.1)
  · rw [if_neg c1, if_pos rfl]
    exact bad (fun q => c1 q.1)
def oRise (s : MSt) : Nat × Int × MSt := if riP s then (0, cnS (stlS (riS s) 7), stlS (riS s)) else (1, 0, s)
theorem rs_o {a j : Nat} (h : a ≠ 3 ∧ a ≠ 7 ∧ (a = 8 → j ≠ 8 ∧ j ≠ 9 ∧ j ≠ 10 ∧ j ≠ 11)) : ∀ n i (s : MSt), rsN n i s a j = s a j
  | 0, _, _ => rfl
  | n + 1, i, s => by
    unfold rsN
    rw [rs_o h n (i + 1)]
    split
    · rfl
    · exact setS_o h
theorem gu_o {a j : Nat} (h : a = 8 → j ≠ 6 ∧ j ≠ 7 ∧ j ≠ 8 ∧ j ≠ 9 ∧ j ≠ 10 ∧ j ≠ 11) : guS s a j = s a j := by
  unfold guS
  by_cases e : a = 8
  · subst e
    have := h rfl
    rw [us_nk this.2.2.2.2.2, us_nk this.2.2.2.2.1, us_nk this.2.2.2.1, us_nk this.2.2.1, us_nk this.1, us_nk this.2.1]
  · rw [us_na e, us_na e, us_na e, us_na e, us_na e, us_na e]
theorem ai_ri {n : Int} (h : AI n s) (hp : riP s) : AI (n + 1) (riS s) := by
  unfold riS
  refine ⟨ko_rs _ _ (ko_gu h.1 hp.2.1), ?_, ?_⟩
  · rw [rs_o (by decide), rs_o (by decide), gu_o (by decide), gu_o (by decide)]
    exact h.2.1
  · rw [rs_o (by decide), rs_o (by decide), gu_o (by decide)]
    have e6 : guS s 8 6 = 1 := by
      unfold guS
      rw [us_nk (by decide), us_nk (by decide), us_nk (by decide), us_nk (by decide), us_at]
    rw [e6]
    have := h.2.2
    have := hp.1
    omega
theorem cq_rise {n : Int} (hn : n + 1 < 1000000) (hA : AI n s) (hC : CS s z f) : ∃ z' f', g_X10_rise z f = some (rsC [nISE] (oRise s).1 (oRise s).2.1, z', f') ∧ CS (oRise s).2.2 z' f' ∧ Fm z f z' f' := by
  obtain ⟨z1, f1, e1, c1, m1⟩ := cd_getUp hA.1 hC
  unfold g_X10_rise oRise
  rw [e1, bn3_some]
  by_cases d : riP s
  · rw [if_pos d] at c1
    have hA2 := ai_ri hA d
    obtain ⟨z2, f2, e2, c2, m2⟩ := cd_settled c1 hA2.1 (ai_12 hA2 hn)
    rw [if_pos d, if_neg (by decide), if_pos d, e2, bn3_some, cp_down (ko_bd (ai_stl hA2 hn).1) (cs_ps c2), Option.bind_some]
    exact ⟨z2, f2, rfl, c2, fm_tr m1 m2⟩
  · rw [if_neg d] at c1
    rw [if_neg d, if_pos rfl, if_neg d]
    exact ⟨z1, f1, rfl, c1, m1⟩
end
