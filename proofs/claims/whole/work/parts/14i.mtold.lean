/-! the model: what is told -/
section
variable {s : MSt} {z f : Nat → Nat → Int32}
theorem fe_f {b : Nat} {g : Nat → Int32} (h : 66 ≤ b := by decide) : Fe z f z (upa f b g) := fun a ha => ⟨rfl, upa_ne (by omega)⟩
theorem mq_ground (hk : KO s) (hG : LG s) (h : MS s z f) {x y a m g : Int} (hx : IB x) (hy : IB y) (ha : IB a) (hm : IB m) (hg : IB g) : MR (g_X11_ground (iv x) (iv y) (iv a) (iv m) (iv g) z f) z f (oGround s x y a m g) := by
  have bad : ¬ grP x y a m g → MR (g_X11_ground_b44 (iv x) (iv y) (iv a) (iv m) (iv g) z f) z f (oGround s x y a m g) := fun q => by
    unfold g_X11_ground_b44 g_X11_ground_b45 g_X11_ground_b72 oGround
    rw [if_pos rfl, if_neg q, fl_1, bn3_some, if_neg (by decide)]
    exact mr_bad (by decide) h fe_rf
  unfold g_X11_ground
  rw [mo_isPt hx hy, Option.bind_some, mo_isIn 0 9 (x := 0) (y := 9) ha (by decide) (by decide) rfl rfl, mo_isIn 0 99 (x := 0) (y := 99) hm (by decide) (by decide) rfl rfl, mo_isIn 0 9 (x := 0) (y := 9) hg (by decide) (by decide) rfl rfl]
  by_cases c : paS x y = -1
  · rw [if_neg (show ¬ paS x y ≠ -1 from fun q => q c), if_pos rfl]
    exact bad (fun q => q.1 c)
  have hp := (paS_cs x y).resolve_left (fun h => c h.1)
  rw [if_pos (show paS x y ≠ -1 from c), if_neg (by decide), Option.bind_some]
  by_cases c1 : 0 ≤ a ∧ a ≤ 9
  · rw [if_pos c1, if_neg (by decide), Option.bind_some]
    by_cases c2 : 0 ≤ m ∧ m ≤ 99
    · rw [if_pos c2, if_neg (by decide), Option.bind_some]
      by_cases c3 : 0 ≤ g ∧ g ≤ 9
      · rw [if_pos c3, if_neg (by decide)]
        unfold g_X11_ground_b45
        rw [if_neg (by decide)]
        obtain ⟨r, r1, r2, -, r3⟩ := mo_taken hk hG h.1 h.2.1 h.2.2.1 hp.1 (β := Int32 × (Nat → Nat → Int32) × (Nat → Nat → Int32)) (F := fun x1 => if x1 = ((-1)) then g_X11_ground_b72 (iv x) (iv y) (iv a) (iv m) (iv g) 0 z f else g_X11_ground_b72 (iv x) (iv y) (iv a) (iv m) (iv g) 2 z f)
        rw [hp.2.1] at r3
        rw [r3]
        unfold oGround
        rw [if_pos (show grP x y a m g from ⟨c, c1, c2, c3⟩)]
        by_cases d : r = -1
        · rw [if_pos (show iv r = (-1 : Int32) by rw [d]; rfl), if_neg (by rw [r2.mp d]; decide)]
          unfold g_X11_ground_b72
          rw [fl_0, bn3_some, if_pos rfl, mo_at2 hp.1, Option.bind_some, ix_iv (nB_nat hp.1).2 (by decide), Option.bind_some, Option.bind_some, ix_iv (nB_nat hp.1).2 (by decide), Option.bind_some, lt2_e, mo_at2 hp.1, Option.bind_some, ix_iv (nB_nat hp.1).2 (by decide), Option.bind_some, lt2_e, mo_at2 hp.1, Option.bind_some, ix_iv (nB_nat hp.1).2 (by decide), Option.bind_some, lt2_e, ma h.1 67 0 400 (by decide) _ (nB_nat hp.1).2]
          have g0 := ms_30 h (v := iv ((0 : Nat) : Int))
          have g1 := ms_arr g0 (b := 67) (a := 0) (n := 400) (k := (paS x y).toNat) (v := a) (by decide)
          have g2 := ms_arr g1 (b := 68) (a := 1) (n := 400) (k := (paS x y).toNat) (v := m) (by decide)
          have g3 := ms_arr g2 (b := 69) (a := 2) (n := 400) (k := (paS x y).toNat) (v := g) (by decide)
          exact ⟨_, _, _, rfl, up2_same, fun _ => rfl, g3, fd_tr fd_z (fd_tr fe_f (fd_tr fe_f fe_f))⟩
        · rw [if_neg (fun q => d ((m1_iv (by omega)).mp q)), if_pos (by
            have : ¬ tkS (s 7) (paS x y) (-1) = false := fun q => d (r2.mpr q)
            simpa using this)]
          unfold g_X11_ground_b72
          rw [fl_2, bn3_some, if_neg (by decide)]
          exact mr_bad (by decide) h fe_rf
      · rw [if_neg c3, if_pos rfl]; exact bad (fun q => c3 q.2.2.2)
    · rw [if_neg c2, if_pos rfl]; exact bad (fun q => c2 q.2.2.1)
  · rw [if_neg c1, if_pos rfl]; exact bad (fun q => c1 q.2.1)
theorem mq_chart (h : MS s z f) {x y a : Int} (hx : IB x) (hy : IB y) (ha : IB a) : MR (g_X11_chart (iv x) (iv y) (iv a) z f) z f (oChart s x y a) := by
  have bad : ¬ chP x y a → MR (g_X11_chart_b23 (iv x) (iv y) (iv a) z f) z f (oChart s x y a) := fun q => by
    unfold g_X11_chart_b23 g_X11_chart_b24 oChart
    rw [if_neg q, fl_1, bn3_some, if_neg (by decide)]
    exact mr_bad (by decide) h fe_rf
  unfold g_X11_chart
  rw [mo_isPt hx hy, Option.bind_some, mo_isIn 0 9 (x := 0) (y := 9) ha (by decide) (by decide) rfl rfl]
  by_cases c : paS x y = -1
  · rw [if_neg (show ¬ paS x y ≠ -1 from fun q => q c), if_pos rfl]
    exact bad (fun q => q.1 c)
  have hp := (paS_cs x y).resolve_left (fun h => c h.1)
  rw [if_pos (show paS x y ≠ -1 from c), if_neg (by decide), Option.bind_some]
  by_cases c1 : 0 ≤ a ∧ a ≤ 9
  · unfold oChart g_X11_chart_b24
    rw [if_pos c1, if_neg (by decide), if_pos (show chP x y a from ⟨c, c1⟩), fl_0, bn3_some, if_pos rfl, mo_at2 hp.1, Option.bind_some, ix_iv (nB_nat hp.1).2 (by decide), Option.bind_some, Option.bind_some, ix_iv (nB_nat hp.1).2 (by decide), Option.bind_some, lt2_e, ma h.1 70 3 400 (by decide) _ (nB_nat hp.1).2]
    have g0 := ms_30 h (v := iv ((0 : Nat) : Int))
    have g1 := ms_arr g0 (b := 70) (a := 3) (n := 400) (k := (paS x y).toNat) (v := a) (by decide)
    exact ⟨_, _, _, rfl, up2_same, fun _ => rfl, g1, fd_tr fd_z fe_f⟩
  · rw [if_neg c1, if_pos rfl]; exact bad (fun q => c1 q.2)
theorem mq_leg (hk : KO s) (h : MS s z f) {x y r : Int} (hx : IB x) (hy : IB y) (hr : IB r) : MR (g_X11_leg (iv x) (iv y) (iv r) z f) z f (oLeg s x y r) := by
  have h8 := ko_8 hk
  have bad : ¬ lePb x y r → MR (g_X11_leg_b34 (iv x) (iv y) (iv r) z f) z f (oLeg s x y r) := fun q => by
    unfold g_X11_leg_b34 g_X11_leg_b35 g_X11_leg_b68 oLeg
    rw [if_pos rfl, if_neg q, fl_1, bn3_some, if_neg (by decide)]
    exact mr_bad (by decide) h fe_rf
  unfold g_X11_leg
  rw [mo_isIn (-5) 5 (x := -5) (y := 5) hx (by decide) (by decide) rfl rfl, Option.bind_some, mo_isIn (-5) 5 (x := -5) (y := 5) hy (by decide) (by decide) rfl rfl, mo_isIn 1 6 (x := 1) (y := 6) hr (by decide) (by decide) rfl rfl]
  by_cases c1 : -5 ≤ x ∧ x ≤ 5
  · rw [if_pos c1, if_neg (by decide), Option.bind_some]
    by_cases c2 : -5 ≤ y ∧ y ≤ 5
    · rw [if_pos c2, if_neg (by decide), Option.bind_some]
      by_cases c3 : 1 ≤ r ∧ r ≤ 6
      · rw [if_pos c3, if_neg (by decide)]
        unfold g_X11_leg_b35 g_X11_leg_b63 g_X11_leg_b68 oLeg
        rw [if_neg (by decide), if_pos (show lePb x y r from ⟨c1, c2, c3⟩), mz h.1 11 0, mz h.1 4 6]
        have e6 : (iv (s 8 0) = (6 : Int32)) ↔ s 8 0 = 6 := iv_eq (b := 6) (by omega) (by decide)
        by_cases d : s 8 0 = 6
        · rw [if_pos (e6.mpr d), if_neg (fun q : s 8 6 = 0 ∧ s 8 0 < 6 => by omega), fl_2, bn3_some, if_neg (by decide)]
          exact mr_bad (by decide) h fe_rf
        · rw [if_neg (fun q => d (e6.mp q))]
          by_cases e : s 8 6 = 0
          · have hn : s 8 0 = ((s 8 0).toNat : Nat) := by omega
            rw [if_pos ((z_iv (by omega)).mpr e), if_pos (show s 8 6 = 0 ∧ s 8 0 < 6 by omega), fl_0, bn3_some, if_pos rfl]
            have g0 := ms_30 h (v := iv ((0 : Nat) : Int))
            have g1 := ms_arr g0 (b := 71) (a := 4) (n := 6) (k := (s 8 0).toNat) (v := x) (by decide)
            have g2 := ms_arr g1 (b := 72) (a := 5) (n := 6) (k := (s 8 0).toNat) (v := y) (by decide)
            have g3 := ms_arr g2 (b := 73) (a := 6) (n := 6) (k := (s 8 0).toNat) (v := r) (by decide)
            have g4 := ms_sc g3 (c := 11) (j := 0) (v := s 8 0 + 1) (by decide) (by decide)
            have i6 : ixA 6 (iv (s 8 0)) = some (s 8 0).toNat := by
              have := ix_iv (n := 6) (i := (s 8 0).toNat) (by omega) (by decide)
              rw [← hn] at this; exact this
            rw [mz g0.1 11 0, i6, Option.bind_some, lt2_e, Option.bind_some, lt2_e, Option.bind_some, lt2_e, lt2_e, show (1 : Int32) = iv 1 from rfl, iv_add, up2_same, iv_sub, show s 8 0 + 1 - 1 = s 8 0 by omega]
            refine ⟨_, _, _, rfl, ?_, fun _ => rfl, g4, fd_tr fd_z (fd_tr fe_f (fd_tr fe_f (fd_tr fe_f fd_z)))⟩
            unfold up2
            rw [if_neg (by decide), if_pos ⟨rfl, rfl⟩]
          · rw [if_neg (fun q => e ((z_iv (by omega)).mp q)), if_neg (fun q : s 8 6 = 0 ∧ s 8 0 < 6 => e q.1), fl_2, bn3_some, if_neg (by decide)]
            exact mr_bad (by decide) h fe_rf
      · rw [if_neg c3, if_pos rfl]; exact bad (fun q => c3 q.2.2)
    · rw [if_neg c2, if_pos rfl]; exact bad (fun q => c2 q.2.1)
  · rw [if_neg c1, if_pos rfl]; exact bad (fun q => c1 q.1)
theorem mq_charge (hk : KO s) (h : MS s z f) {a : Int} (ha : IB a) : MR (g_X11_charge (iv a) z f) z f (oCharge s a) := by
  have h8 := ko_8 hk
  unfold g_X11_charge g_X11_charge_b17 oCharge
  rw [mo_isIn 1 1000 (x := 1) (y := 1000) ha (by decide) (by decide) rfl rfl, Option.bind_some]
  by_cases c : 1 ≤ a ∧ a ≤ 1000
  · have g0 := ms_30 h (v := iv ((0 : Nat) : Int))
    rw [if_pos c, if_neg (by decide), if_pos c, fl_0, bn3_some, if_pos rfl, mz g0.1 7 7, iv_add]
    unfold g_X11_charge_b50 lt2
    dsimp only
    have e : (iv (s 8 7 + a) ≤ (1000 : Int32)) ↔ s 8 7 + a ≤ 1000 := iv_le (b := 1000) (by omega) (by decide)
    have fin : ∀ v : Int, v = min 1000 (s 8 7 + a) → MR (some (up2 (up2 z 66 30 (iv ((0 : Nat) : Int))) 66 7 (iv v) 66 7, up2 (up2 z 66 30 (iv ((0 : Nat) : Int))) 66 7 (iv v), f)) z f (0, min 1000 (s 8 7 + a), us s 8 7 (min 1000 (s 8 7 + a))) := fun v hv => by
      subst hv
      have g1 := ms_sc g0 (c := 7) (j := 7) (v := min 1000 (s 8 7 + a)) (by decide) (by decide)
      refine ⟨_, _, _, rfl, ?_, fun _ => up2_same, g1, fd_tr fd_z fd_z⟩
      unfold up2
      rw [if_neg (by decide), if_pos ⟨rfl, rfl⟩]
    by_cases d : s 8 7 + a ≤ 1000
    · rw [if_pos (e.mpr d)]
      exact fin _ (by omega)
    · rw [if_neg (fun q => d (e.mp q))]
      exact fin 1000 (by omega)
  · rw [if_neg c, if_pos rfl, if_neg c, fl_1, bn3_some, if_neg (by decide)]
    exact mr_bad (by decide) h fe_rf
theorem mq_phase (hk : KO s) (h : MS s z f) {a x y u v : Int} (ha : IB a) (hx : IB x) (hy : IB y) (hu : IB u) (hv : IB v) : MR (g_X11_phase (iv a) (iv x) (iv y) (iv u) (iv v) z f) z f (oPhase s a x y u v) := by
  have h8 := ko_8 hk
  have b47 : ∀ {q : Bool}, (q = true ↔ phPb x y u v) → MR (g_X11_phase_b47 (iv a) (iv x) (iv y) (iv u) (iv v) (if q then 1 else 0) z f) z f (oPhase s a x y u v) := fun {q} hq => by
    unfold g_X11_phase_b47 oPhase g_X11_phase_b85
    rw [mo_isLeg hk h.1 ha, Option.bind_some]
    by_cases c : lgP s a
    · rw [if_pos c, if_neg (by decide), if_pos c]
      cases q with
      | false =>
        rw [show (if false = true then (1 : Int32) else 0) = 0 from rfl, if_pos rfl, if_neg (fun e => absurd (hq.mpr e) (by decide)), fl_2, bn3_some, if_neg (by decide)]
        exact mr_bad (by decide) h fe_rf
      | true =>
        rw [show (if true = true then (1 : Int32) else 0) = 1 from rfl, if_neg (by decide), if_pos (hq.mp rfl), mz h.1 25 13]
        have e8 : (iv (s 8 13) = (8 : Int32)) ↔ s 8 13 = 8 := iv_eq (b := 8) (by omega) (by decide)
        by_cases d : s 8 13 = 8
        · rw [if_pos (e8.mpr d), if_neg (by omega), fl_3, bn3_some, if_neg (by decide)]
          exact mr_bad (by decide) h fe_rf
        · have hn : s 8 13 = ((s 8 13).toNat : Nat) := by omega
          have g0 := ms_30 h (v := iv ((0 : Nat) : Int))
          have ix : ∀ j : Nat, j < 5 → ixA 40 (iv (5 * s 8 13 + j)) = some (5 * (s 8 13).toNat + j) := fun j hj => ix_40 hn (by omega) hj
          have i0 := ix 0 (by decide)
          rw [show 5 * s 8 13 + ((0 : Nat) : Int) = 5 * s 8 13 by omega, Nat.add_zero] at i0
          rw [if_neg (fun q => d (e8.mp q)), if_pos (by omega), fl_0, bn3_some, if_pos rfl, mz g0.1 25 13, show (5 : Int32) = iv 5 from rfl, iv_mul, show (1 : Int32) = iv ((1 : Nat) : Int) from rfl, show (2 : Int32) = iv ((2 : Nat) : Int) from rfl, show (3 : Int32) = iv ((3 : Nat) : Int) from rfl, show (4 : Int32) = iv ((4 : Nat) : Int) from rfl, iv_add, iv_add, iv_add, iv_add, i0, Option.bind_some, lt2_e, ix 1 (by decide), Option.bind_some, lt2_e, ix 2 (by decide), Option.bind_some, lt2_e, ix 3 (by decide), Option.bind_some, lt2_e, ix 4 (by decide), Option.bind_some, lt2_e, lt2_e, up2_same, iv_add]
          refine ⟨_, _, _, rfl, ?_, fun _ => rfl, ?_, fd_tr fd_z (fd_tr fe_f (fd_tr fe_f (fd_tr fe_f (fd_tr fe_f (fd_tr fe_f fd_z)))))⟩
          · unfold up2
            rw [if_neg (by decide), if_pos ⟨rfl, rfl⟩]
          · show MS (paddS s a x y u v) _ _
            have p77 : ∀ b, b ≠ 77 → upf (upf (upf (upf (upf f 77 (5 * (s 8 13).toNat) (iv a)) 77 (5 * (s 8 13).toNat + 1) (iv x)) 77 (5 * (s 8 13).toNat + 2) (iv y)) 77 (5 * (s 8 13).toNat + 3) (iv u)) 77 (5 * (s 8 13).toNat + 4) (iv v) b = f b := fun b hb => by
              rw [upf_up, upa_ne hb, upf_up, upa_ne hb, upf_up, upa_ne hb, upf_up, upa_ne hb, upf_up, upa_ne hb]
            have po : ∀ a' j, a' ≠ 12 → a' ≠ 13 → a' ≠ 14 → a' ≠ 15 → a' ≠ 16 → (a' = 8 → j ≠ 13) → paddS s a x y u v a' j = s a' j := fun a' j n1 n2 n3 n4 n5 n6 => by
              unfold paddS
              by_cases e : a' = 8
              · subst e; rw [us_nk (n6 rfl), us_na (by decide), us_na (by decide), us_na (by decide), us_na (by decide), us_na (by decide)]
              · rw [us_na e, us_na n5, us_na n4, us_na n3, us_na n2, us_na n1]
            have p13 : paddS s a x y u v 8 13 = s 8 13 + 1 := us_at
            refine ⟨⟨fun q hq j hj => ?_, fun q hq => ?_⟩, ?_, fun j hj hne => ?_, ?_, fun j j1 j2 => ?_, fun j j1 j2 => ?_⟩
            · obtain ⟨-, a7, a67, a74⟩ := arrsM_inj q hq q hq
              rw [p77 _ (by omega), po _ _ (by omega) (by omega) (by omega) (by omega) (by omega) (by omega)]
              exact h.1.1 q hq j hj
            · have l1 := (lm_sc g0.1 (c := 25) (j := 13) (v := s 8 13 + 1) (by decide)).2 q hq
              exact l1
            · rw [show up2 (up2 z 66 30 (iv ((0 : Nat) : Int))) 66 25 (iv (s 8 13 + ((1 : Nat) : Int))) 66 17 = z 66 17 from by unfold up2; rw [if_neg (by decide), if_neg (by decide)], h.2.1]
              exact mk_cg fun j _ => by unfold dnS; rw [po 7 j (by decide) (by decide) (by decide) (by decide) (by decide) (fun e => absurd e (by decide))]
            · rw [po 7 j (by decide) (by decide) (by decide) (by decide) (by decide) (fun e => absurd e (by decide))] at hne ⊢
              rw [p77 74 (by decide), p77 75 (by decide)]
              exact h.2.2.1 j hj hne
            · rw [po 8 9 (by decide) (by decide) (by decide) (by decide) (by decide) (by decide), po 8 10 (by decide) (by decide) (by decide) (by decide) (by decide) (by decide)]
              have e20 : ∀ c, c ≠ 25 → c ≠ 30 → up2 (up2 z 66 30 (iv ((0 : Nat) : Int))) 66 25 (iv (s 8 13 + ((1 : Nat) : Int))) 66 c = z 66 c := fun c h1 h2 => by
                unfold up2
                rw [if_neg (fun e => h1 e.2), if_neg (fun e => h2 e.2)]
              rw [e20 20 (by decide) (by decide), e20 21 (by decide) (by decide)]
              exact h.2.2.2.1
            · rw [po 8 12 (by decide) (by decide) (by decide) (by decide) (by decide) (by decide)] at j2
              rw [p77 76 (by decide), po 9 j (by decide) (by decide) (by decide) (by decide) (by decide) (fun e => absurd e (by decide)), po 10 j (by decide) (by decide) (by decide) (by decide) (by decide) (fun e => absurd e (by decide)), po 11 j (by decide) (by decide) (by decide) (by decide) (by decide) (fun e => absurd e (by decide))]
              exact h.2.2.2.2.1 j j1 j2
            · rw [p13] at j2
              simp only [upf_up, upa_same]
              unfold paddS
              rw [us_na (show 12 ≠ 8 by decide), us_na (show 13 ≠ 8 by decide), us_na (show 14 ≠ 8 by decide), us_na (show 15 ≠ 8 by decide), us_na (show 16 ≠ 8 by decide)]
              rw [us_na (show 12 ≠ 16 by decide), us_na (show 13 ≠ 16 by decide), us_na (show 14 ≠ 16 by decide), us_na (show 15 ≠ 16 by decide)]
              rw [us_na (show 12 ≠ 15 by decide), us_na (show 13 ≠ 15 by decide), us_na (show 14 ≠ 15 by decide)]
              rw [us_na (show 12 ≠ 14 by decide), us_na (show 13 ≠ 14 by decide)]
              rw [us_na (show 12 ≠ 13 by decide)]
              by_cases e : j = (s 8 13).toNat
              · subst e
                rw [us_at, us_at, us_at, us_at, us_at]
                refine ⟨?_, ?_, ?_, ?_, ?_⟩
                · rw [upd_ne (by omega), upd_ne (by omega), upd_ne (by omega), upd_ne (by omega), upd_at]
                · rw [upd_ne (by omega), upd_ne (by omega), upd_ne (by omega), upd_at]
                · rw [upd_ne (by omega), upd_ne (by omega), upd_at]
                · rw [upd_ne (by omega), upd_at]
                · rw [upd_at]
              · simp only [us_nk e]
                have m := h.2.2.2.2.2 j j1 (by omega)
                refine ⟨?_, ?_, ?_, ?_, ?_⟩
                · rw [upd_ne (by omega), upd_ne (by omega), upd_ne (by omega), upd_ne (by omega), upd_ne (by omega)]; exact m.1
                · rw [upd_ne (by omega), upd_ne (by omega), upd_ne (by omega), upd_ne (by omega), upd_ne (by omega)]; exact m.2.1
                · rw [upd_ne (by omega), upd_ne (by omega), upd_ne (by omega), upd_ne (by omega), upd_ne (by omega)]; exact m.2.2.1
                · rw [upd_ne (by omega), upd_ne (by omega), upd_ne (by omega), upd_ne (by omega), upd_ne (by omega)]; exact m.2.2.2.1
                · rw [upd_ne (by omega), upd_ne (by omega), upd_ne (by omega), upd_ne (by omega), upd_ne (by omega)]; exact m.2.2.2.2
    · rw [if_neg c, if_pos rfl, if_neg c, fl_1, bn3_some, if_neg (by decide)]
      exact mr_bad (by decide) h fe_rf
  have bad : ¬ phPb x y u v → MR (g_X11_phase_b46 (iv a) (iv x) (iv y) (iv u) (iv v) z f) z f (oPhase s a x y u v) := fun q => b47 (q := false) ⟨fun e => absurd e (by decide), fun e => absurd e q⟩
  unfold g_X11_phase
  rw [mo_isIn (-6) 6 (x := -6) (y := 6) hx (by decide) (by decide) rfl rfl, Option.bind_some, mo_isIn (-6) 6 (x := -6) (y := 6) hy (by decide) (by decide) rfl rfl, mo_isIn (-1) 1 (x := -1) (y := 1) hu (by decide) (by decide) rfl rfl, mo_isIn (-1) 1 (x := -1) (y := 1) hv (by decide) (by decide) rfl rfl]
  by_cases c1 : -6 ≤ x ∧ x ≤ 6
  · rw [if_pos c1, if_neg (by decide), Option.bind_some]
    by_cases c2 : -6 ≤ y ∧ y ≤ 6
    · rw [if_pos c2, if_neg (by decide), Option.bind_some]
      by_cases c3 : -1 ≤ u ∧ u ≤ 1
      · rw [if_pos c3, if_neg (by decide), Option.bind_some]
        by_cases c4 : -1 ≤ v ∧ v ≤ 1
        · rw [if_pos c4, if_neg (by decide)]
          exact b47 (q := true) ⟨fun _ => ⟨c1, c2, c3, c4⟩, fun _ => rfl⟩
        · rw [if_neg c4, if_pos rfl]; exact bad (fun q => c4 q.2.2.2)
      · rw [if_neg c3, if_pos rfl]; exact bad (fun q => c3 q.2.2.1)
    · rw [if_neg c2, if_pos rfl]; exact bad (fun q => c2 q.2.1)
  · rw [if_neg c1, if_pos rfl]; exact bad (fun q => c1 q.1)
theorem mq_halt (h : MS s z f) : ∃ z' f', g_X11_halt z f = some (iv (s 8 13), z', f') ∧ MS (haS s) z' f' ∧ Fe z f z' f' := by
  unfold g_X11_halt lt2
  dsimp only
  have g0 := ms_30 h (v := 0)
  rw [mz g0.1 25 13]
  have l1 := lm_sc (lm_sc g0.1 (c := 25) (j := 13) (v := 0) (by decide)) (c := 26) (j := 14) (v := 0) (by decide)
  have nz : ∀ i, i ≠ 26 → i ≠ 25 → up2 (up2 (up2 z 66 30 0) 66 25 0) 66 26 0 66 i = up2 z 66 30 0 66 i := fun i h1 h2 => by
    unfold up2
    rw [if_neg (fun e => h1 e.2), if_neg (fun e => h2 e.2)]
  refine ⟨_, _, rfl, ⟨l1, ?_, fun k hk => ?_, ?_, fun k h1 h2 => ?_, fun k h1 h2 => ?_⟩, fd_tr fd_z (fd_tr fd_z fd_z)⟩
  · rw [nz 17 (by decide) (by decide), g0.2.1]
    exact mk_cg fun k _ => by unfold dnS haS; rw [us_na (by decide), us_na (by decide)]
  · unfold haS
    rw [us_na (by decide), us_na (by decide)]
    exact h.2.2.1 k hk
  · unfold haS
    rw [us_nk (by decide), us_nk (by decide), us_nk (by decide), us_nk (by decide), nz 20 (by decide) (by decide), nz 21 (by decide) (by decide)]
    exact g0.2.2.2.1
  · unfold haS at h2 ⊢
    rw [us_nk (by decide), us_nk (by decide)] at h2
    rw [us_na (by decide), us_na (by decide), us_na (by decide), us_na (by decide), us_na (by decide), us_na (by decide)]
    exact g0.2.2.2.2.1 k h1 h2
  · unfold haS at h2
    rw [us_nk (by decide), us_at] at h2
    omega
end
