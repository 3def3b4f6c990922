/-! the model: what is asked -/
section
variable {s : MSt} {z f : Nat → Nat → Int32}
theorem mq_machine (hk : KO s) (h : MS s z f) {a : Int} (ha : IB a) : MR (g_X11_machine (iv a) z f) z f ((oMach s a).1, (oMach s a).2, s) := by
  have h8 := ko_8 hk
  unfold g_X11_machine g_X11_machine_b16
  rw [mo_isIn 0 11 (x := 0) (y := 11) ha (by decide) (by decide) rfl rfl, Option.bind_some]
  have g0 := ms_30 h (v := iv ((0 : Nat) : Int))
  have al : a = 0 ∨ a = 1 ∨ a = 2 ∨ a = 3 ∨ a = 4 ∨ a = 5 ∨ a = 6 ∨ a = 7 ∨ a = 8 ∨ a = 9 ∨ a = 10 ∨ a = 11 ∨ ¬ (0 ≤ a ∧ a ≤ 11) := by omega
  rcases al with rfl | rfl | rfl | rfl | rfl | rfl | rfl | rfl | rfl | rfl | rfl | rfl | hn
  · rw [if_pos (show 0 ≤ (0 : Int) ∧ (0 : Int) ≤ 11 by decide), if_neg (by decide), fl_0, bn3_some, if_pos rfl, if_pos (show iv 0 = (0 : Int32) from rfl), mz g0.1 5 4]
    exact mr_ok h fe_rf rfl
  · rw [if_pos (show 0 ≤ (1 : Int) ∧ (1 : Int) ≤ 11 by decide), if_neg (by decide), fl_0, bn3_some, if_pos rfl, if_neg (show ¬ iv 1 = (0 : Int32) by decide), if_pos (show iv 1 = (1 : Int32) from rfl), mz g0.1 6 5]
    exact mr_ok h fe_rf rfl
  · rw [if_pos (show 0 ≤ (2 : Int) ∧ (2 : Int) ≤ 11 by decide), if_neg (by decide), fl_0, bn3_some, if_pos rfl, if_neg (show ¬ iv 2 = (0 : Int32) by decide), if_neg (show ¬ iv 2 = (1 : Int32) by decide), if_pos (show iv 2 = (2 : Int32) from rfl), mz g0.1 4 6]
    show MR _ z f (0, (if s 8 6 = 0 then 0 else 1), s)
    by_cases c : s 8 6 = 0
    · rw [if_pos ((z_iv (by omega)).mpr c), if_pos c]
      exact mr_ok h fe_rf rfl
    · rw [if_neg (fun e => c ((z_iv (by omega)).mp e)), if_neg c]
      exact mr_ok h fe_rf rfl
  · rw [if_pos (show 0 ≤ (3 : Int) ∧ (3 : Int) ≤ 11 by decide), if_neg (by decide), fl_0, bn3_some, if_pos rfl, if_neg (show ¬ iv 3 = (0 : Int32) by decide), if_neg (show ¬ iv 3 = (1 : Int32) by decide), if_neg (show ¬ iv 3 = (2 : Int32) by decide), if_pos (show iv 3 = (3 : Int32) from rfl), mz g0.1 7 7]
    exact mr_ok h fe_rf rfl
  · rw [if_pos (show 0 ≤ (4 : Int) ∧ (4 : Int) ≤ 11 by decide), if_neg (by decide), fl_0, bn3_some, if_pos rfl, if_neg (show ¬ iv 4 = (0 : Int32) by decide), if_neg (show ¬ iv 4 = (1 : Int32) by decide), if_neg (show ¬ iv 4 = (2 : Int32) by decide), if_neg (show ¬ iv 4 = (3 : Int32) by decide), if_pos (show iv 4 = (4 : Int32) from rfl), mz g0.1 8 1]
    exact mr_ok h fe_rf rfl
  · rw [if_pos (show 0 ≤ (5 : Int) ∧ (5 : Int) ≤ 11 by decide), if_neg (by decide), fl_0, bn3_some, if_pos rfl, if_neg (show ¬ iv 5 = (0 : Int32) by decide), if_neg (show ¬ iv 5 = (1 : Int32) by decide), if_neg (show ¬ iv 5 = (2 : Int32) by decide), if_neg (show ¬ iv 5 = (3 : Int32) by decide), if_neg (show ¬ iv 5 = (4 : Int32) by decide), if_pos (show iv 5 = (5 : Int32) from rfl), g0.2.1, mo_level (ko_bd hk) g0.1 g0.2.2.1, Option.bind_some]
    exact mr_ok h fe_rf rfl
  · rw [if_pos (show 0 ≤ (6 : Int) ∧ (6 : Int) ≤ 11 by decide), if_neg (by decide), fl_0, bn3_some, if_pos rfl, if_neg (show ¬ iv 6 = (0 : Int32) by decide), if_neg (show ¬ iv 6 = (1 : Int32) by decide), if_neg (show ¬ iv 6 = (2 : Int32) by decide), if_neg (show ¬ iv 6 = (3 : Int32) by decide), if_neg (show ¬ iv 6 = (4 : Int32) by decide), if_neg (show ¬ iv 6 = (5 : Int32) by decide), if_pos (show iv 6 = (6 : Int32) from rfl), g0.2.1, mo_press (ko_bd hk) g0.1, Option.bind_some]
    exact mr_ok h fe_rf rfl
  · rw [if_pos (show 0 ≤ (7 : Int) ∧ (7 : Int) ≤ 11 by decide), if_neg (by decide), fl_0, bn3_some, if_pos rfl, if_neg (show ¬ iv 7 = (0 : Int32) by decide), if_neg (show ¬ iv 7 = (1 : Int32) by decide), if_neg (show ¬ iv 7 = (2 : Int32) by decide), if_neg (show ¬ iv 7 = (3 : Int32) by decide), if_neg (show ¬ iv 7 = (4 : Int32) by decide), if_neg (show ¬ iv 7 = (5 : Int32) by decide), if_neg (show ¬ iv 7 = (6 : Int32) by decide), if_pos (show iv 7 = (7 : Int32) from rfl), g0.2.1, mo_count, Option.bind_some]
    exact mr_ok h fe_rf rfl
  · rw [if_pos (show 0 ≤ (8 : Int) ∧ (8 : Int) ≤ 11 by decide), if_neg (by decide), fl_0, bn3_some, if_pos rfl, if_neg (show ¬ iv 8 = (0 : Int32) by decide), if_neg (show ¬ iv 8 = (1 : Int32) by decide), if_neg (show ¬ iv 8 = (2 : Int32) by decide), if_neg (show ¬ iv 8 = (3 : Int32) by decide), if_neg (show ¬ iv 8 = (4 : Int32) by decide), if_neg (show ¬ iv 8 = (5 : Int32) by decide), if_neg (show ¬ iv 8 = (6 : Int32) by decide), if_neg (show ¬ iv 8 = (7 : Int32) by decide), if_pos (show iv 8 = (8 : Int32) from rfl), mz g0.1 18 8]
    exact mr_ok h fe_rf rfl
  · rw [if_pos (show 0 ≤ (9 : Int) ∧ (9 : Int) ≤ 11 by decide), if_neg (by decide), fl_0, bn3_some, if_pos rfl, if_neg (show ¬ iv 9 = (0 : Int32) by decide), if_neg (show ¬ iv 9 = (1 : Int32) by decide), if_neg (show ¬ iv 9 = (2 : Int32) by decide), if_neg (show ¬ iv 9 = (3 : Int32) by decide), if_neg (show ¬ iv 9 = (4 : Int32) by decide), if_neg (show ¬ iv 9 = (5 : Int32) by decide), if_neg (show ¬ iv 9 = (6 : Int32) by decide), if_neg (show ¬ iv 9 = (7 : Int32) by decide), if_neg (show ¬ iv 9 = (8 : Int32) by decide), if_pos (show iv 9 = (9 : Int32) from rfl), mz g0.1 23 12]
    exact mr_ok h fe_rf rfl
  · rw [if_pos (show 0 ≤ (10 : Int) ∧ (10 : Int) ≤ 11 by decide), if_neg (by decide), fl_0, bn3_some, if_pos rfl, if_neg (show ¬ iv 10 = (0 : Int32) by decide), if_neg (show ¬ iv 10 = (1 : Int32) by decide), if_neg (show ¬ iv 10 = (2 : Int32) by decide), if_neg (show ¬ iv 10 = (3 : Int32) by decide), if_neg (show ¬ iv 10 = (4 : Int32) by decide), if_neg (show ¬ iv 10 = (5 : Int32) by decide), if_neg (show ¬ iv 10 = (6 : Int32) by decide), if_neg (show ¬ iv 10 = (7 : Int32) by decide), if_neg (show ¬ iv 10 = (8 : Int32) by decide), if_neg (show ¬ iv 10 = (9 : Int32) by decide), if_pos (show iv 10 = (10 : Int32) from rfl), mz g0.1 11 0]
    exact mr_ok h fe_rf rfl
  · rw [if_pos (show 0 ≤ (11 : Int) ∧ (11 : Int) ≤ 11 by decide), if_neg (by decide), fl_0, bn3_some, if_pos rfl, if_neg (show ¬ iv 11 = (0 : Int32) by decide), if_neg (show ¬ iv 11 = (1 : Int32) by decide), if_neg (show ¬ iv 11 = (2 : Int32) by decide), if_neg (show ¬ iv 11 = (3 : Int32) by decide), if_neg (show ¬ iv 11 = (4 : Int32) by decide), if_neg (show ¬ iv 11 = (5 : Int32) by decide), if_neg (show ¬ iv 11 = (6 : Int32) by decide), if_neg (show ¬ iv 11 = (7 : Int32) by decide), if_neg (show ¬ iv 11 = (8 : Int32) by decide), if_neg (show ¬ iv 11 = (9 : Int32) by decide), if_neg (show ¬ iv 11 = (10 : Int32) by decide), mz g0.1 25 13, mz g0.1 26 14]
    show MR _ z f (0, (if s 8 13 = 0 then -1 else s 8 14), s)
    by_cases c : s 8 13 = 0
    · rw [if_pos ((z_iv (by omega)).mpr c), if_pos c]
      exact mr_ok h fe_rf rfl
    · rw [if_neg (fun e => c ((z_iv (by omega)).mp e)), if_neg c]
      exact mr_ok h fe_rf rfl
  · unfold oMach
    rw [if_neg hn, if_pos rfl, if_neg hn, fl_1, bn3_some, if_neg (by decide)]
    exact mr_bad (by decide) h fe_rf
theorem mq_foot (hk : KO s) (h : MS s z f) {a w : Int} (ha : IB a) (hw : IB w) : MR (g_X11_foot (iv a) (iv w) z f) z f ((oFoot s a w).1, (oFoot s a w).2, s) := by
  unfold g_X11_foot g_X11_foot_b27 oFoot
  rw [mo_isLeg hk h.1 ha, Option.bind_some]
  by_cases c : lgP s a
  · obtain ⟨ea, h6⟩ := lg_nat hk c
    have g0 := ms_30 h (v := iv ((0 : Nat) : Int))
    have dn : g_X11_isDown (iv a) (up2 z 66 30 (iv ((0 : Nat) : Int))) f = some (if s 7 a.toNat ≠ -1 then 1 else 0) := (congrArg (fun q => g_X11_isDown (iv q) (up2 z 66 30 (iv ((0 : Nat) : Int))) f) ea).trans (mo_down g0.2.1 h6)
    have ia : ixA 6 (iv a) = some a.toNat := (congrArg (fun q => ixA 6 (iv q)) ea).trans (ix_iv h6 (by decide))
    rw [if_pos c, if_neg (by decide), if_pos c, mo_isIn 0 2 (x := 0) (y := 2) hw (by decide) (by decide) rfl rfl, Option.bind_some]
    have al : w = 0 ∨ w = 1 ∨ w = 2 ∨ ¬ (0 ≤ w ∧ w ≤ 2) := by omega
    rcases al with rfl | rfl | rfl | hn
    · rw [if_pos (show 0 ≤ (0 : Int) ∧ (0 : Int) ≤ 2 by decide), if_neg (by decide), if_pos (show 0 ≤ (0 : Int) ∧ (0 : Int) ≤ 2 by decide), fl_0, bn3_some, if_pos rfl, if_pos (show iv 0 = (0 : Int32) from rfl), dn, Option.bind_some]
      show MR _ z f (0, (if s 7 a.toNat = -1 then 0 else 1), s)
      by_cases d : s 7 a.toNat = -1
      · rw [if_neg (show ¬ s 7 a.toNat ≠ -1 from fun q => q d), if_pos rfl, if_pos d]
        exact mr_ok h fe_rf rfl
      · rw [if_pos (show s 7 a.toNat ≠ -1 from d), if_neg (by decide), if_neg d]
        exact mr_ok h fe_rf rfl
    · rw [if_pos (show 0 ≤ (1 : Int) ∧ (1 : Int) ≤ 2 by decide), if_neg (by decide), if_pos (show 0 ≤ (1 : Int) ∧ (1 : Int) ≤ 2 by decide), fl_0, bn3_some, if_pos rfl, if_neg (show ¬ iv 1 = (0 : Int32) by decide), dn, Option.bind_some, if_pos (show iv 1 = (1 : Int32) from rfl), ia, Option.bind_some]
      show MR _ z f (0, (if s 7 a.toNat = -1 then -1 else (pt (s 7 a.toNat)).1), s)
      by_cases d : s 7 a.toNat = -1
      · rw [if_neg (show ¬ s 7 a.toNat ≠ -1 from fun q => q d), if_pos rfl, if_pos d]
        exact mr_ok h fe_rf rfl
      · rw [if_pos (show s 7 a.toNat ≠ -1 from d), if_neg (by decide), if_neg d, (h.2.2.1 _ h6 d).1]
        exact mr_ok h fe_rf rfl
    · rw [if_pos (show 0 ≤ (2 : Int) ∧ (2 : Int) ≤ 2 by decide), if_neg (by decide), if_pos (show 0 ≤ (2 : Int) ∧ (2 : Int) ≤ 2 by decide), fl_0, bn3_some, if_pos rfl, if_neg (show ¬ iv 2 = (0 : Int32) by decide), dn, Option.bind_some, if_neg (show ¬ iv 2 = (1 : Int32) by decide), ia, Option.bind_some]
      show MR _ z f (0, (if s 7 a.toNat = -1 then -1 else (pt (s 7 a.toNat)).2), s)
      by_cases d : s 7 a.toNat = -1
      · rw [if_neg (show ¬ s 7 a.toNat ≠ -1 from fun q => q d), if_pos rfl, if_pos d]
        exact mr_ok h fe_rf rfl
      · rw [if_pos (show s 7 a.toNat ≠ -1 from d), if_neg (by decide), if_neg d, (h.2.2.1 _ h6 d).2]
        exact mr_ok h fe_rf rfl
    · rw [if_neg hn, if_pos rfl, if_neg hn, fl_2, bn3_some, if_neg (by decide)]
      exact mr_bad (by decide) h fe_rf
  · rw [if_neg c, if_pos rfl, if_neg c, fl_1, bn3_some, if_neg (by decide)]
    exact mr_bad (by decide) h fe_rf
theorem mq_point (h : MS s z f) {x y w : Int} (hx : IB x) (hy : IB y) (hw : IB w) : MR (g_X11_point (iv x) (iv y) (iv w) z f) z f ((oPoint s x y w).1, (oPoint s x y w).2, s) := by
  unfold g_X11_point g_X11_point_b22 g_X11_point_b23 oPoint
  rw [mo_isPt hx hy, Option.bind_some, mo_isIn 0 3 (x := 0) (y := 3) hw (by decide) (by decide) rfl rfl]
  by_cases c : paS x y = -1
  · rw [if_neg (show ¬ paS x y ≠ -1 from fun q => q c), if_pos rfl, if_neg (fun q : paS x y ≠ -1 ∧ (0 ≤ w ∧ w ≤ 3) => q.1 c), fl_1, bn3_some, if_neg (by decide)]
    exact mr_bad (by decide) h fe_rf
  have hp := ((paS_cs x y).resolve_left (fun h => c h.1)).1
  have hn := (nB_nat hp).2
  rw [if_pos (show paS x y ≠ -1 from c), if_neg (by decide), Option.bind_some]
  have al : w = 0 ∨ w = 1 ∨ w = 2 ∨ w = 3 ∨ ¬ (0 ≤ w ∧ w ≤ 3) := by omega
  rcases al with rfl | rfl | rfl | rfl | q
  · rw [if_pos (show 0 ≤ (0 : Int) ∧ (0 : Int) ≤ 3 by decide), if_neg (by decide), if_pos (show paS x y ≠ -1 ∧ (0 ≤ (0 : Int) ∧ (0 : Int) ≤ 3) from ⟨c, by decide⟩), fl_0, bn3_some, if_pos rfl, mo_at2 hp, Option.bind_some, if_pos (show iv 0 = (0 : Int32) from rfl), ix_iv hn (by decide), Option.bind_some, ma h.1 67 0 400 (by decide) _ hn]
    exact mr_ok h fe_rf rfl
  · rw [if_pos (show 0 ≤ (1 : Int) ∧ (1 : Int) ≤ 3 by decide), if_neg (by decide), if_pos (show paS x y ≠ -1 ∧ (0 ≤ (1 : Int) ∧ (1 : Int) ≤ 3) from ⟨c, by decide⟩), fl_0, bn3_some, if_pos rfl, mo_at2 hp, Option.bind_some, if_neg (show ¬ iv 1 = (0 : Int32) by decide), if_pos (show iv 1 = (1 : Int32) from rfl), ix_iv hn (by decide), Option.bind_some, ma h.1 68 1 400 (by decide) _ hn]
    exact mr_ok h fe_rf rfl
  · rw [if_pos (show 0 ≤ (2 : Int) ∧ (2 : Int) ≤ 3 by decide), if_neg (by decide), if_pos (show paS x y ≠ -1 ∧ (0 ≤ (2 : Int) ∧ (2 : Int) ≤ 3) from ⟨c, by decide⟩), fl_0, bn3_some, if_pos rfl, mo_at2 hp, Option.bind_some, if_neg (show ¬ iv 2 = (0 : Int32) by decide), if_neg (show ¬ iv 2 = (1 : Int32) by decide), if_pos (show iv 2 = (2 : Int32) from rfl), ix_iv hn (by decide), Option.bind_some, ma h.1 69 2 400 (by decide) _ hn]
    exact mr_ok h fe_rf rfl
  · rw [if_pos (show 0 ≤ (3 : Int) ∧ (3 : Int) ≤ 3 by decide), if_neg (by decide), if_pos (show paS x y ≠ -1 ∧ (0 ≤ (3 : Int) ∧ (3 : Int) ≤ 3) from ⟨c, by decide⟩), fl_0, bn3_some, if_pos rfl, mo_at2 hp, Option.bind_some, if_neg (show ¬ iv 3 = (0 : Int32) by decide), if_neg (show ¬ iv 3 = (1 : Int32) by decide), if_neg (show ¬ iv 3 = (2 : Int32) by decide), ix_iv hn (by decide), Option.bind_some, ma h.1 70 3 400 (by decide) _ hn]
    exact mr_ok h fe_rf rfl
  · rw [if_neg q, if_pos rfl, if_neg (fun e : paS x y ≠ -1 ∧ (0 ≤ w ∧ w ≤ 3) => q e.2), fl_1, bn3_some, if_neg (by decide)]
    exact mr_bad (by decide) h fe_rf
theorem mq_fall (hk : KO s) (h : MS s z f) {k w : Int} (hkk : IB k) (hw : IB w) : MR (g_X11_fall (iv k) (iv w) z f) z f ((oFall s k w).1, (oFall s k w).2, s) := by
  have h8 := ko_8 hk
  have b18 : ∀ m : Int, m = min (s 8 12) 40 → MR (g_X11_fall_b18 (iv k) (iv w) (iv m) z f) z f ((oFall s k w).1, (oFall s k w).2, s) := fun m hm => by
    unfold g_X11_fall_b18 g_X11_fall_b49 oFall
    rw [← hm, show (1 : Int32) = iv 1 from rfl, iv_sub, mo_isIn 0 (m - 1) (x := 0) (y := iv (m - 1)) hkk (by decide) (by omega) rfl rfl, Option.bind_some, mo_isIn 0 3 (x := 0) (y := 3) hw (by decide) (by decide) rfl rfl, show iv 1 = (1 : Int32) from rfl]
    by_cases c : 0 ≤ k ∧ k < m
    · rw [if_pos (show 0 ≤ k ∧ k ≤ m - 1 by omega), if_neg (by decide), Option.bind_some, if_pos c]
      by_cases d : 0 ≤ w ∧ w ≤ 3
      · have ix : ixA 160 (4 * iv k + iv w) = some (4 * k.toNat + w.toNat) := by
          rw [show (4 : Int32) = iv 4 from rfl, iv_mul, iv_add, show 4 * k + w = ((4 * k.toNat + w.toNat : Nat) : Int) by omega]
          exact ix_iv (by omega) (by decide)
        have mm := h.2.2.2.2.1 k.toNat (by omega) (by omega)
        rw [if_pos d, if_neg (by decide), if_pos d, fl_0, bn3_some, if_pos rfl, ix, Option.bind_some]
        refine mr_ok h fe_rf ?_
        unfold faA
        have al : w = 0 ∨ w = 1 ∨ w = 2 ∨ w = 3 := by omega
        rcases al with rfl | rfl | rfl | rfl
        · exact mm.1
        · exact mm.2.1
        · exact mm.2.2.1
        · exact mm.2.2.2
      · rw [if_neg d, if_pos rfl, if_neg d, fl_2, bn3_some, if_neg (by decide)]
        exact mr_bad (by decide) h fe_rf
    · rw [if_neg (show ¬ (0 ≤ k ∧ k ≤ m - 1) by omega), if_pos rfl, if_neg c, fl_1, bn3_some, if_neg (by decide)]
      exact mr_bad (by decide) h fe_rf
  unfold g_X11_fall
  rw [mz h.1 23 12]
  have e40 : ((40 : Int32) ≤ iv (s 8 12)) ↔ 40 ≤ s 8 12 := iv_le (a := 40) (by decide) (by omega)
  by_cases c : 40 ≤ s 8 12
  · rw [if_pos (e40.mpr c)]
    exact b18 40 (by omega)
  · rw [if_neg (fun q => c (e40.mp q))]
    exact b18 _ (by omega)
theorem mq_isStable (hk : KO s) (hD : DS s) (h : MS s z f) : ∃ z' f', g_X11_isStable z f = some (if stB s (-1) then 1 else 0, z', f') ∧ MS s z' f' ∧ Fe z f z' f' := by
  have g0 := ms_30 h (v := 0)
  obtain ⟨z1, f1, e, j⟩ := mo_holds (ko_bd hk) hD g0.1 g0.2.2.1
  unfold g_X11_isStable
  rw [lt2_e, g0.2.1, e, bn3_some, rtZw_b]
  exact ⟨z1, f1, rfl, mj_ms j g0, fd_tr fd_z (mj_fc j).1⟩
theorem mq_isStableAnew (hk : KO s) (hD : DS s) (h : MS s z f) : ∃ z' f', g_X11_isStableAnew z f = some (if stB s (-1) then 1 else 0, z', f') ∧ MS s z' f' ∧ Fe z f z' f' := by
  obtain ⟨z1, f1, e, m, j⟩ := mq_isStable hk hD h
  unfold g_X11_isStableAnew
  rw [e, bn3_some, rtZw_b]
  exact ⟨z1, f1, rfl, m, j⟩
theorem fl_dn : flP (s 7) (-1) = mls (dnS s) (fun k => pt (s 7 k)) := fls_mls (fun k hk => by
    unfold dnS
    rw [decide_eq_true_iff]
    exact ⟨fun h => ⟨by omega, h⟩, fun h => h.2⟩) (fun _ _ _ => rfl)
/-- the first return of the corners says how many they are -/
theorem ret_uniq {L : List Pt} {p : Pt} {m m' : Nat} (h1 : 1 ≤ m) (h1' : 1 ≤ m') (r : cs L p m = p) (r' : cs L p m' = p) (a : ∀ i, 0 < i → i < m → cs L p i ≠ p) (a' : ∀ i, 0 < i → i < m' → cs L p i ≠ p) : m = m' := by
  rcases Nat.lt_trichotomy m m' with q | q | q
  · exact absurd r (a' m (by omega) q)
  · exact q
  · exact absurd r' (a m' (by omega) q)
theorem st_uniq {L : List Pt} {p q : Pt} (hp : stP L p) (hq : stP L q) : p = q := by
  apply Classical.byContradiction
  intro hne
  have h1 := hp.2 q hq.1 (fun e => hne e.symm)
  have h2 := hq.2 p hp.1 hne
  omega
theorem mq_corner (hk : KO s) (hD : DS s) (h : MS s z f) {m : Nat} {c : Nat → Int} (hc : corAt (s 7) (-1) m c) {a : Int} (ha : IB a) : MR (g_X11_corner (iv a) z f) z f ((if 0 ≤ a then 0 else 1), coA m c a, s) := by
  have hB := ko_bd hk
  have e0 : (iv a < (0 : Int32)) ↔ a < 0 := iv_lt (b := 0) ha (by decide)
  unfold g_X11_corner g_X11_corner_b10
  by_cases d : a < 0
  · rw [if_pos (e0.mpr d), if_neg (by omega), fl_1, bn3_some, if_neg (by decide)]
    exact mr_bad (by decide) h fe_rf
  rw [if_neg (fun q => d (e0.mp q)), if_pos (by omega), fl_0, bn3_some, if_pos rfl]
  have g0 := ms_30 h (v := iv ((0 : Nat) : Int))
  have hmf := ms_mf hB hD g0.2.2.1 (σ := dnS s) (fun k _ h => by unfold dnS at h; exact of_decide_eq_true h)
  rw [g0.2.1]
  rcases mh_hull (z := up2 z 66 30 (iv ((0 : Nat) : Int))) hmf with ⟨q1, q2⟩ | ⟨o, m', c', ho, hS, p1, p6, pr, pa, pe, pc⟩
  · rw [q2, bn2_some, up2_same, if_pos (show iv ((0 : Nat) : Int) ≤ iv a from (iv_le (by decide) ha).mpr (by omega))]
    rcases hc with ⟨-, rfl, -⟩ | ⟨st, hst, -⟩
    · refine ⟨_, _, _, rfl, ?_, fun _ => ?_, mj_ms (f' := f) ⟨fun a k q => if_neg q, fun b _ => rfl⟩ g0, fd_tr fd_z fd_z⟩
      · unfold up2
        rw [if_neg (by decide), if_pos ⟨rfl, rfl⟩]
      · unfold coA
        rw [if_pos (show ((0 : Nat) : Int) ≤ a by omega)]; rfl
    · rw [← fl_dn] at q1
      have : pt st ∈ flP (s 7) (-1) := List.mem_map.mpr ⟨st, hst, rfl⟩
      rw [q1] at this
      cases this
  · have key : m = m' ∧ ∀ j, j < m → pt (c j) = cs (mls (dnS s) (fun k => pt (s 7 k))) (pt (s 7 o)) j ∧ nB (c j) := by
      rcases hc with ⟨w1, -, -⟩ | ⟨st, hst, hS2, w1, w6, wr, wa, rfl⟩
      · exfalso
        have := hS.1
        rw [← fl_dn] at this
        unfold flP at this
        rw [w1] at this
        cases this
      · rw [fl_dn] at hS2 wr wa
        have es := st_uniq hS2 hS
        rw [es] at wr wa
        refine ⟨ret_uniq w1 p1 wr pr wa pa, fun j _ => ⟨?_, fls_nB hB.2.2.2 _ (cN_mem hst j)⟩⟩
        rw [cN_pt, show (fls (s 7) (-1)).map pt = flP (s 7) (-1) from rfl, fl_dn, es]
    obtain ⟨rfl, kc⟩ := key
    have e1 : (iv (m : Nat) ≤ iv a) ↔ (m : Int) ≤ a := iv_le (by omega) ha
    have mj : MJ (up2 z 66 30 (iv ((0 : Nat) : Int))) f (up2 (up2 z 66 30 (iv ((0 : Nat) : Int))) 66 28 (iv (m : Nat))) (upa f 78 c') := mj_mk
    have m1 := mj_ms mj g0
    have fin : ∀ v : Int32, v = iv (coA m c a) → MR (some (v, up2 (up2 z 66 30 (iv ((0 : Nat) : Int))) 66 28 (iv (m : Nat)), upa f 78 c')) z f (0, coA m c a, s) := fun v hv => by
      refine ⟨_, _, _, rfl, ?_, fun _ => hv, m1, fd_tr fd_z (mj_fc mj).1⟩
      unfold up2
      rw [if_neg (by decide), if_pos ⟨rfl, rfl⟩]
    rw [pe, bn2_some, up2_same]
    by_cases g : (m : Int) ≤ a
    · rw [if_pos (e1.mpr g)]
      refine fin _ ?_
      unfold coA
      rw [if_pos g]; rfl
    · have hlt : a.toNat < m := by omega
      have ia : ixA 7 (iv a) = some a.toNat := by
        have := ix_iv (n := 7) (i := a.toNat) (by omega) (by decide)
        rw [show ((a.toNat : Nat) : Int) = a by omega] at this
        exact this
      obtain ⟨k, ek, hk6, hpk⟩ := pc a.toNat hlt
      obtain ⟨kp, kn⟩ := kc a.toNat hlt
      have hd : s 7 k ≠ -1 := by have := hk6.2; unfold dnS at this; exact of_decide_eq_true this
      obtain ⟨f1, f2⟩ := m1.2.2.1 k hk6.1 hd
      have e7 : s 7 k = c a.toNat := pt_inj (hpk.trans kp.symm)
      rw [if_neg (fun q => g (e1.mp q)), ia, Option.bind_some, upa_same, ek, ix_iv hk6.1 (by decide), Option.bind_some, Option.bind_some, ek, ix_iv hk6.1 (by decide), Option.bind_some, f1, f2, e7, mo_at kn, Option.bind_some]
      refine fin _ ?_
      unfold coA
      rw [if_neg g, ← (nB_nat kn).1]
theorem mo_sw : ∀ (n fu : Nat) (s : MSt) (z f : Nat → Nat → Int32) (b : Bool), cnS (s 7) ≤ n → n < fu → KO s → DS s → LM s z f → FX s f → (b = false → mk (skS s) = 0 → stB s (-1) = true) → ∃ z' f', g_X11_wouldLift_l75 fu (mk (dnS s)) (if b then 1 else 0) (mk (skS s)) z f = some (iv (if b = false ∧ mk (skS s) = 0 then 0 else if stB (swN n s) (-1) = true then 1 else 2), z', f') ∧ MJ z f z' f' := by
  intro n
  have fin : ∀ {s : MSt} {z f : Nat → Nat → Int32} {b : Bool}, KO s → DS s → LM s z f → FX s f → (b = false → stB s (-1) = true) → ∃ z' f', (bn3 (g_X11_holds (mk (dnS s)) z f) fun x1 z2 u3 => if x1 = 0 then some ((2 : Int32), z2, u3) else if (if b then (1 : Int32) else 0) = 0 then some (0, z2, u3) else some (1, z2, u3)) = some (iv (if b = false then 0 else if stB s (-1) = true then 1 else 2), z', f') ∧ MJ z f z' f' := fun {s z f b} hk hD hL hF hb => by
    obtain ⟨z1, f1, e, j⟩ := mo_holds (ko_bd hk) hD hL hF
    rw [e, bn3_some]
    cases b with
    | false =>
      rw [if_pos (hb rfl), if_neg (by decide), if_pos rfl]
      exact ⟨z1, f1, rfl, j⟩
    | true =>
      by_cases d : stB s (-1) = true
      · rw [if_pos d, if_neg (by decide), if_neg (by decide), if_neg (by decide), if_pos d]
        exact ⟨z1, f1, rfl, j⟩
      · rw [if_neg d, if_pos rfl, if_neg (by decide), if_neg d]
        exact ⟨z1, f1, rfl, j⟩
  induction n with
  | zero =>
    intro fu s z f b hn hf hk hD hL hF hb
    obtain ⟨fu, rfl⟩ : ∃ x, fu = x + 1 := ⟨fu - 1, by omega⟩
    have hz := sk_none (s := s) (by omega)
    rw [g_X11_wouldLift_l75, if_pos hz]
    obtain ⟨z1, f1, e, j⟩ := fin (b := b) hk hD hL hF (fun q => hb q hz)
    refine ⟨z1, f1, e.trans ?_, j⟩
    simp only [hz, and_true]
    rfl
  | succ n ih =>
    intro fu s z f b hn hf hk hD hL hF hb
    obtain ⟨fu, rfl⟩ : ∃ x, fu = x + 1 := ⟨fu - 1, by omega⟩
    rw [g_X11_wouldLift_l75]
    by_cases c : mk (skS s) = 0
    · rw [if_pos c]
      obtain ⟨z1, f1, e, j⟩ := fin (b := b) hk hD hL hF (fun q => hb q c)
      refine ⟨z1, f1, e.trans ?_, j⟩
      have : swN (n + 1) s = s := by rw [swN, if_pos c]
      rw [this]
      simp only [c, and_true]
    · have ed : mk (dnS s) &&& (mk (skS s) ^^^ (-1)) = mk (dnS (ur s 7 (raS (s 7) (skS s)))) := by
        rw [mk_sub]
        refine mk_cg fun k hk6 => ?_
        unfold dnS
        rw [ur_at]
        unfold raS
        by_cases q : skS s k = true
        · simp [q]
        · simp [q]
      have hk2 := ko_ra hk (σ := skS s)
      have hF2 : FX (ur s 7 (raS (s 7) (skS s))) f := fun k hk6 hne => by
        rw [ur_at] at hne ⊢
        unfold raS at hne ⊢
        by_cases q : skS s k = true
        · rw [if_pos q] at hne; exact absurd rfl hne
        · rw [if_neg q] at hne ⊢; exact hF k hk6 hne
      have hcn : cnS (ur s 7 (raS (s 7) (skS s)) 7) ≤ n := by rw [ur_at]; have := sk_cn c; omega
      obtain ⟨z1, f1, e, j⟩ := ih fu _ z f true hcn (by omega) hk2 (ds_ra hD ur_at) (lm_ur7 hL) hF2 (fun q => absurd q (by decide))
      rw [if_neg c, ed, mo_sinking (ko_bd hk2) (lm_ur7 hL) hF2, Option.bind_some]
      refine ⟨z1, f1, e.trans ?_, j⟩
      have : swN (n + 1) s = swN n (ur s 7 (raS (s 7) (skS s))) := by rw [swN, if_neg c]
      rw [this, if_neg (show ¬ (true = false ∧ mk (skS (ur s 7 (raS (s 7) (skS s)))) = 0) from fun q => absurd q.1 (by decide)), if_neg (fun q : b = false ∧ mk (skS s) = 0 => c q.2)]
theorem mq_would (hk : KO s) (hD : DS s) (h : MS s z f) {a : Int} (ha : IB a) : MR (g_X11_wouldLift (iv a) z f) z f ((oWould s a).1, (oWould s a).2, s) := by
  have h8 := ko_8 hk
  unfold g_X11_wouldLift g_X11_wouldLift_b14 oWould
  rw [mo_isLeg hk h.1 ha, Option.bind_some]
  by_cases c : lgP s a
  · obtain ⟨ea, h6⟩ := lg_nat hk c
    have g0 := ms_30 h (v := iv ((0 : Nat) : Int))
    have dn : g_X11_isDown (iv a) (up2 z 66 30 (iv ((0 : Nat) : Int))) f = some (if s 7 a.toNat ≠ -1 then 1 else 0) := (congrArg (fun q => g_X11_isDown (iv q) (up2 z 66 30 (iv ((0 : Nat) : Int))) f) ea).trans (mo_down g0.2.1 h6)
    have clr : mk (dnS s) &&& (((1 : Int32) <<< (iv a &&& 31)) ^^^ (-1)) = mk (dnS (us s 7 a.toNat (-1))) := (congrArg (fun q => mk (dnS s) &&& (((1 : Int32) <<< (iv q &&& 31)) ^^^ (-1))) ea).trans (dn_clr h6)
    have e1 : (iv (s 8 7) < (1 : Int32)) ↔ s 8 7 < 1 := iv_lt (b := 1) (by omega) (by decide)
    rw [if_pos c, if_neg (by decide), if_pos c, fl_0, bn3_some, if_pos rfl, mz g0.1 4 6, mz g0.1 7 7]
    unfold woA
    by_cases d1 : s 8 6 = 0
    · rw [if_pos ((z_iv (by omega)).mpr d1), if_neg (fun q : mlP s a.toNat => q.1 d1)]
      exact mr_ok h fe_rf rfl
    rw [if_neg (fun e => d1 ((z_iv (by omega)).mp e))]
    by_cases d2 : s 8 7 < 1
    · rw [if_pos (e1.mpr d2), if_neg (fun q : mlP s a.toNat => by have := q.2.1; omega)]
      exact mr_ok h fe_rf rfl
    rw [if_neg (fun e => d2 (e1.mp e)), dn, Option.bind_some]
    by_cases d3 : s 7 a.toNat = -1
    · rw [if_neg (show ¬ s 7 a.toNat ≠ -1 from fun q => q d3), if_pos rfl, if_neg (fun q : mlP s a.toNat => q.2.2.1 d3)]
      exact mr_ok h fe_rf rfl
    rw [if_pos (show s 7 a.toNat ≠ -1 from d3), if_neg (by decide), g0.2.1, clr]
    obtain ⟨z1, f1, e, j1⟩ := mo_holdsW (ko_bd hk) hD g0.1 g0.2.2.1 h6
    have m1 := mj_ms j1 g0
    have t30 : ∀ {z2 f2}, MJ z1 f1 z2 f2 → z2 66 30 = iv ((0 : Nat) : Int) := fun {z2 f2} j => by
      rw [j.1 66 30 (by decide), j1.1 66 30 (by decide)]
      exact up2_same
    rw [e, bn3_some]
    by_cases g : stB s a.toNat = true
    · have hp : mlP s a.toNat := ⟨d1, by omega, d3, g⟩
      have hk3 : KO (us s 7 a.toNat (-1)) := ko_us hk (a := 7) (show (-1 : Int) ≤ -1 ∧ (-1 : Int) ≤ 399 by decide)
      have hD3 : DS (us s 7 a.toNat (-1)) := fun i j hi hj h1 h2 => by
        by_cases e : i = a.toNat
        · subst e; rw [us_at] at h1; exact absurd rfl h1
        · rw [us_nk e] at h1 h2
          by_cases e2 : j = a.toNat
          · subst e2; rw [us_at] at h2; exact absurd h2 h1
          · rw [us_nk e2] at h2; exact hD i j hi hj h1 h2
      have hF3 : FX (us s 7 a.toNat (-1)) f1 := fun j hj hne => by
        by_cases e : j = a.toNat
        · subst e; rw [us_at] at hne; exact absurd rfl hne
        · rw [us_nk e] at hne ⊢; exact m1.2.2.1 j hj hne
      obtain ⟨z2, f2, e2, j2⟩ := mo_sw 6 FU (us s 7 a.toNat (-1)) z1 f1 false cnS_le (by decide) hk3 hD3 (lm_us7 m1.1) hF3 (fun _ _ => by rw [← stB_wo]; exact g)
      rw [show (if false = true then (1 : Int32) else 0) = 0 from rfl] at e2
      rw [if_pos g, if_neg (by decide), mo_sinking (ko_bd hk3) (lm_us7 m1.1) hF3, Option.bind_some, if_pos hp, e2]
      refine ⟨_, z2, f2, rfl, t30 j2, fun _ => ?_, mj_ms j2 m1, fd_tr fd_z (fd_tr (mj_fc j1).1 (mj_fc j2).1)⟩
      congr 1
      by_cases q : mk (skS (us s 7 a.toNat (-1))) = 0
      · rw [if_pos ⟨rfl, q⟩, if_pos q]
      · rw [if_neg (fun e => q e.2), if_neg q]
    · have hp : ¬ mlP s a.toNat := fun q => g q.2.2.2
      rw [if_neg g, if_pos rfl, if_neg hp]
      exact ⟨_, z1, f1, rfl, t30 mj_rf, fun _ => rfl, m1, fd_tr fd_z (mj_fc j1).1⟩
  · rw [if_neg c, if_pos rfl, if_neg c, fl_1, bn3_some, if_neg (by decide)]
    exact mr_bad (by decide) h fe_rf
end
