/-! the model's acts, as answers and states -/
def MR (r : Option (Int32 × (Nat → Nat → Int32) × (Nat → Nat → Int32))) (z f : Nat → Nat → Int32) (o : Nat × Int × MSt) : Prop := ∃ v z' f', r = some (v, z', f') ∧ z' 66 30 = iv (o.1 : Nat) ∧ (o.1 = 0 → v = iv o.2.1) ∧ MS o.2.2 z' f' ∧ Fe z f z' f'
section
variable {s : MSt} {z f : Nat → Nat → Int32}
theorem fl_0 : g_X11_fails 0 z f = some (0, up2 z 66 30 (iv (0 : Nat)), f) := by
  unfold g_X11_fails lt2
  dsimp only
  rw [if_pos (by decide)]
  rfl
theorem fl_1 : g_X11_fails 1 z f = some (1, up2 z 66 30 (iv (1 : Nat)), f) := by
  unfold g_X11_fails lt2
  dsimp only
  rw [if_neg (by decide)]
  rfl
theorem fl_2 : g_X11_fails 2 z f = some (1, up2 z 66 30 (iv (2 : Nat)), f) := by
  unfold g_X11_fails lt2
  dsimp only
  rw [if_neg (by decide)]
  rfl
theorem fl_3 : g_X11_fails 3 z f = some (1, up2 z 66 30 (iv (3 : Nat)), f) := by
  unfold g_X11_fails lt2
  dsimp only
  rw [if_neg (by decide)]
  rfl
theorem mr_bad {z1 f1 : Nat → Nat → Int32} {c : Nat} (hc : c ≠ 0) (h : MS s z1 f1) (hf : Fe z f z1 f1) {a : Int} {v : Int32} : MR (some (v, up2 z1 66 30 (iv (c : Nat)), f1)) z f (c, a, s) :=
  ⟨_, _, _, rfl, up2_same, fun e => absurd e hc, ms_30 h, fd_tr hf fd_z⟩
theorem mr_ok {z1 f1 : Nat → Nat → Int32} (h : MS s z1 f1) (hf : Fe z f z1 f1) {a : Int} {v : Int32} (hv : v = iv a) : MR (some (v, up2 z1 66 30 (iv ((0 : Nat) : Int)), f1)) z f (0, a, s) :=
  ⟨_, _, _, rfl, up2_same, fun _ => hv, ms_30 h, fd_tr hf fd_z⟩
theorem fe_rf : Fe z f z f := fun _ _ => ⟨rfl, rfl⟩
theorem mo_isLeg (hk : KO s) (h : LM s z f) {a : Int} (ha : IB a) : g_X11_isLeg (iv a) z f = some (if lgP s a then 1 else 0) := by
  have h8 := ko_8 hk
  unfold g_X11_isLeg
  rw [mz h 11 0, show (1 : Int32) = iv 1 from rfl, iv_sub, mo_isIn 0 (s 8 0 - 1) (x := 0) (y := iv (s 8 0 - 1)) ha (by decide) (by omega) rfl rfl, Option.bind_some]
  by_cases c : lgP s a
  · rw [if_pos c, if_pos (by have := c.1; have := c.2; omega)]; rfl
  · rw [if_neg c, if_neg (fun q => c ⟨by omega, by omega⟩)]; rfl
theorem mq_lift {n : Int} (hn : n < 1000000) (hW : WF n s) (h : MS s z f) {a : Int} (ha : IB a) : MR (g_X11_lift (iv a) z f) z f (oLift s a) := by
  have hk := hW.1.1
  unfold g_X11_lift oLift g_X11_lift_b26
  rw [mo_isLeg hk h.1 ha, Option.bind_some]
  by_cases c : lgP s a
  · obtain ⟨ea, h6⟩ := lg_nat hk c
    obtain ⟨z1, f1, e1, m1, c1⟩ := mo_lifts hn hW h h6
    have e1' : g_X11_lifts (iv a) z f = some (if mlP s a.toNat then 1 else 0, z1, f1) := (congrArg (fun q => g_X11_lifts (iv q) z f) ea).trans e1
    rw [if_pos c, if_neg (by decide), if_pos c, e1', bn3_some]
    by_cases d : mlP s a.toNat
    · rw [if_pos d] at m1
      rw [if_pos d, if_neg (by decide), if_pos d, fl_0, bn3_some, if_pos rfl, show up2 z1 66 30 (iv ((0 : Nat) : Int)) 66 22 = z1 66 22 from if_neg (by decide), mz m1.1 22 11]
      exact mr_ok m1 c1.1 rfl
    · rw [if_neg d] at m1
      rw [if_neg d, if_pos rfl, if_neg d, fl_2, bn3_some, if_neg (by decide)]
      exact mr_bad (by decide) m1 c1.1
  · rw [if_neg c, if_pos rfl, if_neg c, fl_1, bn3_some, if_neg (by decide)]
    exact mr_bad (by decide) h fe_rf
theorem mq_place {n : Int} (hn : n < 1000000) (hW : WF n s) (h : MS s z f) {a x y : Int} (ha : IB a) (hx : IB x) (hy : IB y) : MR (g_X11_place (iv a) (iv x) (iv y) z f) z f (oPlace s a x y) := by
  have hk := hW.1.1
  unfold g_X11_place oPlace g_X11_place_b40
  rw [mo_isLeg hk h.1 ha, Option.bind_some]
  by_cases c : lgP s a
  · obtain ⟨ea, h6⟩ := lg_nat hk c
    rw [if_pos c, if_neg (by decide), if_pos c, mo_isPt hx hy, Option.bind_some]
    by_cases g : paS x y = -1
    · rw [if_neg (show ¬ paS x y ≠ -1 from fun q => q g), if_pos rfl, if_pos g, fl_2, bn3_some, if_neg (by decide)]
      exact mr_bad (by decide) h fe_rf
    · have hp := (paS_cs x y).resolve_left (fun h => g h.1)
      obtain ⟨z1, f1, e1, m1, c1⟩ := mo_places hn hW h h6 (by have := c.2; omega) hp.1
      rw [hp.2.1] at e1
      have e1' : g_X11_places (iv a) (iv x) (iv y) z f = some (if plP s a.toNat (paS x y) then 1 else 0, z1, f1) := (congrArg (fun q => g_X11_places (iv q) (iv x) (iv y) z f) ea).trans e1
      rw [if_pos (show paS x y ≠ -1 from g), if_neg (by decide), if_neg g, e1', bn3_some]
      by_cases d : plP s a.toNat (paS x y)
      · rw [if_pos d] at m1
        rw [if_pos d, if_neg (by decide), if_pos d, fl_0, bn3_some, if_pos rfl, show up2 z1 66 30 (iv ((0 : Nat) : Int)) 66 22 = z1 66 22 from if_neg (by decide), mz m1.1 22 11]
        exact mr_ok m1 c1.1 rfl
      · rw [if_neg d] at m1
        rw [if_neg d, if_pos rfl, if_neg d, fl_3, bn3_some, if_neg (by decide)]
        exact mr_bad (by decide) m1 c1.1
  · rw [if_neg c, if_pos rfl, if_neg c, fl_1, bn3_some, if_neg (by decide)]
    exact mr_bad (by decide) h fe_rf
theorem mq_shift {n : Int} (hn : n < 1000000) (hW : WF n s) (h : MS s z f) {x y : Int} (hx : IB x) (hy : IB y) : MR (g_X11_shift (iv x) (iv y) z f) z f (oShift s x y) := by
  have bad : ¬ wyP x y → MR (g_X11_shift_b30 (iv x) (iv y) z f) z f (oShift s x y) := fun q => by
    unfold g_X11_shift_b30 g_X11_shift_b31 g_X11_shift_b55 oShift
    rw [if_pos rfl, if_neg q, fl_1, bn3_some, if_neg (by decide)]
    exact mr_bad (by decide) h fe_rf
  have good : wyP x y → MR (g_X11_shift_b26 (iv x) (iv y) z f) z f (oShift s x y) := fun q => by
    obtain ⟨z1, f1, e1, m1, c1⟩ := mo_shifts hn hW h q.1 q.2.1
    unfold g_X11_shift_b26 g_X11_shift_b31 g_X11_shift_b55 oShift
    rw [if_neg (by decide), if_pos q, e1, bn3_some]
    by_cases d : shP s x y
    · rw [if_pos d] at m1
      rw [if_pos d, if_neg (by decide), if_pos d, fl_0, bn3_some, if_pos rfl, show up2 z1 66 30 (iv ((0 : Nat) : Int)) 66 22 = z1 66 22 from if_neg (by decide), mz m1.1 22 11]
      exact mr_ok m1 c1.1 rfl
    · rw [if_neg d] at m1
      rw [if_neg d, if_pos rfl, if_neg d, fl_2, bn3_some, if_neg (by decide)]
      exact mr_bad (by decide) m1 c1.1
  unfold g_X11_shift
  rw [mo_isIn (-1) 1 (x := -1) (y := 1) hx (by decide) (by decide) rfl rfl, Option.bind_some, mo_isIn (-1) 1 (x := -1) (y := 1) hy (by decide) (by decide) rfl rfl]
  by_cases c1 : -1 ≤ x ∧ x ≤ 1
  · rw [if_pos c1, if_neg (by decide), Option.bind_some]
    by_cases c2 : -1 ≤ y ∧ y ≤ 1
    · rw [if_pos c2, if_neg (by decide)]
      by_cases d1 : x = 0
      · rw [if_pos ((z_iv hx).mpr d1)]
        by_cases d2 : y = 0
        · rw [if_pos ((z_iv hy).mpr d2)]
          exact bad (fun q => q.2.2 ⟨d1, d2⟩)
        · rw [if_neg (fun e => d2 ((z_iv hy).mp e))]
          exact good ⟨c1, c2, fun q => d2 q.2⟩
      · rw [if_neg (fun e => d1 ((z_iv hx).mp e))]
        exact good ⟨c1, c2, fun q => d1 q.1⟩
    · rw [if_neg c2, if_pos rfl]
      exact bad (fun q => c2 q.2.1)
  · rw [if_neg c1, if_pos rfl]
    exact bad (fun q => c1 q.1)
theorem mo_54r {n : Int} (hn : n < 1000000) {s0 : MSt} (hk0 : KO s0) (hh : ∀ k, k < (s0 8 0).toNat → hipS s0 k ≠ -1) : ∀ (m fu i : Nat) (s : MSt) (z f : Nat → Nat → Int32), i + m = (s0 8 0).toNat → m < fu → KO s → W0 s → (∀ k, s 4 k = s0 4 k) → (∀ k, s 5 k = s0 5 k) → (s 8 0 = s0 8 0 ∧ s 8 4 = s0 8 4 ∧ s 8 5 = s0 8 5) → (∀ k, i ≤ k → k < 6 → s 7 k = -1) → WB n (rsN m i s) → MS s z f → ∃ v z' f', g_X11_rise_l54 fu (iv i) z f = some (v, z', f') ∧ v = iv (cnS (stlS (rsN m i s) 7) : Nat) ∧ MS (stlS (rsN m i s)) z' f' ∧ Fc z f z' f' := by
  have h80 := ko_8 hk0
  intro m
  induction m with
  | zero =>
    intro fu i s z f hi hf hk hW h4 h5 h8 hU hB h
    obtain ⟨fu, rfl⟩ : ∃ x, fu = x + 1 := ⟨fu - 1, by omega⟩
    have h8' := ko_8 hk
    obtain ⟨z1, f1, e1, m1, c1⟩ := mo_settles hn hB h
    rw [g_X11_rise_l54, mz h.1 11 0, if_pos ((iv_le (by omega) (by omega)).mpr (by omega)), e1, bn2_some, m1.2.1, mo_count, Option.bind_some]
    exact ⟨_, _, _, rfl, rfl, m1, c1⟩
  | succ m ih =>
    intro fu i s z f hi hf hk hW h4 h5 h8 hU hB h
    obtain ⟨fu, rfl⟩ : ∃ x, fu = x + 1 := ⟨fu - 1, by omega⟩
    have h8' := ko_8 hk
    have hi6 : i < 6 := by omega
    have hip : hipS s i = hipS s0 i := by unfold hipS hxS hyS; rw [h4, h5, h8.2.1, h8.2.2]
    have hne : hipS s i ≠ -1 := by rw [hip]; exact hh i (by omega)
    have hpt := (paS_cs (hxS s i) (hyS s i)).resolve_left (fun q => hne q.1)
    have hp : nB (hipS s i) := hpt.1
    have pt1 : pt (hipS s i) = (hxS s i, hyS s i) := hpt.2.1
    have ex : z 66 5 + f 71 i = iv (pt (hipS s i)).1 := by rw [mz h.1 5 4, ma h.1 71 4 6 (by decide) i hi6, iv_add, pt1]; rfl
    have ey : z 66 6 + f 72 i = iv (pt (hipS s i)).2 := by rw [mz h.1 6 5, ma h.1 72 5 6 (by decide) i hi6, iv_add, pt1]; rfl
    rw [g_X11_rise_l54, mz h.1 11 0, if_neg (fun e => by have := (iv_le (by omega) (by omega)).mp e; omega), ix_iv hi6 (by decide), Option.bind_some, Option.bind_some, ex, ey]
    unfold g_X11_rise_b103
    rw [iv_1]
    obtain ⟨r, r1, r2, -, r3⟩ := mo_taken hk hW.2.1 h.1 h.2.1 h.2.2.1 hp (β := Int32 × (Nat → Nat → Int32) × (Nat → Nat → Int32)) (F := fun x6 => if x6 = ((-1)) then bn2 (g_X11_sets (iv i) (iv (pt (hipS s i)).1) (iv (pt (hipS s i)).2) z f) fun z7 u8 => (fun y0 z f => g_X11_rise_l54 fu y0 z f) (iv ((i + 1 : Nat) : Int)) z7 u8 else (fun y0 z f => g_X11_rise_l54 fu y0 z f) (iv ((i + 1 : Nat) : Int)) z f)
    by_cases c : tkS (s 7) (hipS s i) (-1) = true
    · have er : rsN (m + 1) i s = rsN m (i + 1) s := by rw [rsN, if_pos (Or.inr c)]
      rw [er] at hB ⊢
      obtain ⟨v, z1, f1, e1, e2, m1, c1⟩ := ih fu (i + 1) s z f (by omega) (by omega) hk hW h4 h5 h8 (fun k h1 h2 => hU k (by omega) h2) hB h
      refine ⟨v, z1, f1, ?_, e2, m1, c1⟩
      refine Eq.trans r3 ?_
      rw [if_neg (fun q => by have := r2.mp ((m1_iv (by omega)).mp q); rw [c] at this; cases this)]
      exact e1
    · have ct : tkS (s 7) (hipS s i) (-1) = false := by simpa using c
      have er : rsN (m + 1) i s = rsN m (i + 1) (setS s i (hipS s i)) := by
        rw [rsN, if_neg (by rintro (q | q); exact hne q; exact c q)]
      rw [er] at hB ⊢
      have hui := hU i (Nat.le_refl _) hi6
      obtain ⟨z1, f1, e1, m1, c1⟩ := mo_sets hk hW.2.1 h hi6 hui hp
      have hs := w0_set hW hi6 (by rw [h8.1]; omega) hui ct hp
      have s7 : ∀ k, k ≠ i → setS s i (hipS s i) 7 k = s 7 k := fun k hk => by
        rcases set_cs hui ct hp with e | ⟨w, hw, u, hu, e⟩
        · rw [e, us_nk hk]; exact us_na (by decide)
        · have hu7 : u 7 k = s 7 k := by
            rcases hu with rfl | ⟨q, rfl⟩
            · exact us_na (by decide)
            · exact (us_na (by decide)).trans (us_na (by decide))
          rcases e with e | ⟨q, -, -, e⟩
          · rw [e, tellS_map (by decide), hu7]
          · rw [e, us_nk hk, tellS_map (by decide), hu7]
      have so : ∀ a j, a ≠ 3 → a ≠ 7 → (a = 8 → j ≠ 8 ∧ j ≠ 9 ∧ j ≠ 10 ∧ j ≠ 11) → setS s i (hipS s i) a j = s a j := fun a j a1 a2 a3 => setS_o ⟨a1, a2, a3⟩
      obtain ⟨v, z2, f2, e3, e4, m2, c2⟩ := ih fu (i + 1) _ z1 f1 (by omega) (by omega) (ko_set hk hp) hs.1 (fun k => (so 4 k (by decide) (by decide) (fun e => absurd e (by decide))).trans (h4 k)) (fun k => (so 5 k (by decide) (by decide) (fun e => absurd e (by decide))).trans (h5 k)) ⟨(so 8 0 (by decide) (by decide) (by decide)).trans h8.1, (so 8 4 (by decide) (by decide) (by decide)).trans h8.2.1, (so 8 5 (by decide) (by decide) (by decide)).trans h8.2.2⟩ (fun k h1 h2 => by rw [s7 k (by omega)]; exact hU k (by omega) h2) hB m1
      refine ⟨v, z2, f2, ?_, e4, m2, fc_tr c1 c2⟩
      refine Eq.trans r3 ?_
      rw [if_pos (show iv r = (-1 : Int32) by rw [r2.mpr ct]; rfl), e1, bn2_some]
      exact e3
theorem mq_rise {n : Int} (hn : n + 1 < 1000000) (hW : WF n s) (h : MS s z f) : MR (g_X11_rise z f) z f (oRise s) := by
  have hk := hW.1.1
  have h8 := ko_8 hk
  obtain ⟨z1, f1, e1, m1, c1⟩ := mo_canRise hW h
  unfold g_X11_rise oRise g_X11_rise_b13
  rw [e1, bn3_some]
  by_cases d : riP s
  · rw [if_pos d, if_neg (by decide), if_pos d, fl_0, bn3_some, if_pos rfl]
    unfold lt2
    dsimp only
    have m0 := ms_30 m1 (v := iv ((0 : Nat) : Int))
    rw [mz m0.1 7 7, show (20 : Int32) = iv 20 from rfl, iv_sub]
    have g1 := ms_sc m0 (c := 7) (j := 7) (v := s 8 7 - 20) (by decide) (by decide)
    have g2 := ms_sc g1 (c := 4) (j := 6) (v := 1) (by decide) (by decide)
    have g3 := ms_sc g2 (c := 18) (j := 8) (v := 0) (by decide) (by decide)
    -- what was broken is forgotten
    have g4 : MS (us (us (us (us (us s 8 7 (s 8 7 - 20)) 8 6 1) 8 8 0) 8 9 0) 8 10 (-1)) (up2 (up2 (up2 (up2 (up2 z1 66 30 (iv ((0 : Nat) : Int))) 66 7 (iv (s 8 7 - 20))) 66 4 (iv 1)) 66 18 (iv 0)) 66 19 (iv 0)) f1 := by
      refine ⟨?_, ?_, fun k hk6 => ?_, ?_⟩
      · have l1 := lm_sc g3.1 (c := 19) (j := 9) (v := 0) (by decide)
        refine ⟨fun q hq k hk => ?_, fun q hq => ?_⟩
        · have := (arrsM_inj _ hq _ hq).2.1
          rw [us_na (by omega)]; exact l1.1 q hq k hk
        · have := (scalM_inj _ hq _ hq).2.2.2.2.2.2
          rw [us_nk this]; exact l1.2 q hq
      · rw [show up2 (up2 (up2 (up2 (up2 z1 66 30 (iv ((0 : Nat) : Int))) 66 7 (iv (s 8 7 - 20))) 66 4 (iv 1)) 66 18 (iv 0)) 66 19 (iv 0) 66 17 = up2 (up2 (up2 (up2 z1 66 30 (iv ((0 : Nat) : Int))) 66 7 (iv (s 8 7 - 20))) 66 4 (iv 1)) 66 18 (iv 0) 66 17 from if_neg (by decide), g3.2.1]
        exact mk_cg fun k _ => by unfold dnS; rw [us_na (by decide), us_na (by decide), us_na (by decide), us_na (by decide), us_na (by decide), us_na (by decide), us_na (by decide), us_na (by decide)]
      · rw [us_na (by decide), us_na (by decide)]
        exact g3.2.2.1 k hk6
      · have m := g3.2.2.2
        unfold MX at m ⊢
        refine ⟨fun q => absurd (show us (us (us (us (us s 8 7 (s 8 7 - 20)) 8 6 1) 8 8 0) 8 9 0) 8 10 (-1) 8 9 = 0 by rw [us_nk (by decide), us_at]) q, fun k h1 h2 => ?_, fun k h1 h2 => ?_⟩
        · rw [us_nk (by decide), us_nk (by decide)] at h2
          rw [us_na (by decide), us_na (by decide), us_na (by decide), us_na (by decide), us_na (by decide), us_na (by decide)]; exact m.2.1 k h1 h2
        · rw [us_nk (by decide), us_nk (by decide)] at h2
          rw [us_na (by decide), us_na (by decide), us_na (by decide), us_na (by decide), us_na (by decide), us_na (by decide), us_na (by decide), us_na (by decide), us_na (by decide), us_na (by decide)]; exact m.2.2 k h1 h2
    have g5 : MS (guS s) _ f1 := ms_sc g4 (c := 22) (j := 11) (v := 0) (by decide) (by decide)
    have hU := hW.2.2.1 d.1
    obtain ⟨v, z2, f2, e2, e3, m2, c2⟩ := mo_54r hn hk (fun k hk1 => ((hb_facts hk d.2.2).1 k hk1).1) (s 8 0).toNat FU 0 (guS s) _ f1 (by omega) (by show _ < 2000; omega) (ko_gu hk d.2.1) (w0_gu hW.2.1) (fun _ => gu_o (fun e => absurd e (by decide))) (fun _ => gu_o (fun e => absurd e (by decide))) ⟨gu_o (by decide), gu_o (by decide), gu_o (by decide)⟩ (fun k _ hk6 => (gu_o (fun e => absurd e (by decide))).trans (hU k hk6)) (wb_ri hW d) g5
    refine ⟨v, z2, f2, e2, ?_, fun _ => e3, m2, fd_tr c1.1 (fd_tr fd_z (fd_tr fd_z (fd_tr fd_z (fd_tr fd_z (fd_tr fd_z (fd_tr fd_z c2.1))))))⟩
    rw [c2.2]
    unfold up2
    rw [if_neg (by decide), if_neg (by decide), if_neg (by decide), if_neg (by decide), if_neg (by decide), if_pos ⟨rfl, rfl⟩]
  · rw [if_neg d, if_pos rfl, if_neg d, fl_1, bn3_some, if_neg (by decide)]
    exact mr_bad (by decide) m1 c1.1
theorem mq_load {n : Int} (hn : n < 1000000) (hW : WF n s) (h : MS s z f) {w x y : Int} (hw : IB w) (hx : IB x) (hy : IB y) : MR (g_X11_load (iv w) (iv x) (iv y) z f) z f (oLoad s w x y) := by
  have hk := hW.1.1
  have h8 := ko_8 hk
  have bad : ¬ ldP w x y → MR (g_X11_load_b34 (iv w) (iv x) (iv y) z f) z f (oLoad s w x y) := fun q => by
    unfold g_X11_load_b34 g_X11_load_b35 g_X11_load_b75 g_X11_load_b108 oLoad lt2
    dsimp only
    rw [if_pos rfl, if_pos rfl, if_neg q, fl_1, bn3_some, if_neg (by decide), mz h.1 8 1, mz h.1 9 2, mz h.1 10 3]
    have m0 := ms_30 h (v := iv ((1 : Nat) : Int))
    have g1 := ms_sc m0 (c := 8) (j := 1) (v := s 8 1) (by decide) (by decide)
    rw [us_id] at g1
    have g2 := ms_sc g1 (c := 9) (j := 2) (v := s 8 2) (by decide) (by decide)
    rw [us_id] at g2
    have g3 := ms_sc g2 (c := 10) (j := 3) (v := s 8 3) (by decide) (by decide)
    rw [us_id] at g3
    refine ⟨_, _, _, rfl, ?_, fun e => absurd e (show ¬ (1 : Nat) = 0 by decide), g3, fd_tr fd_z (fd_tr fd_z (fd_tr fd_z fd_z))⟩
    unfold up2
    rw [if_neg (by decide), if_neg (by decide), if_neg (by decide), if_pos ⟨rfl, rfl⟩]
  have good : ldP w x y → MR (g_X11_load_b35 (iv w) (iv x) (iv y) 1 z f) z f (oLoad s w x y) := fun hp => by
    have hA1 := ai_ld hW.1 hp
    have l1 := ms_sc h (c := 8) (j := 1) (v := w) (by decide) (by decide)
    have l2 := ms_sc l1 (c := 9) (j := 2) (v := x) (by decide) (by decide)
    have l3 : MS (ldS s w x y) (up2 (up2 (up2 z 66 8 (iv w)) 66 9 (iv x)) 66 10 (iv y)) f := ms_sc l2 (c := 10) (j := 3) (v := y) (by decide) (by decide)
    have c3 : Fe z f (up2 (up2 (up2 z 66 8 (iv w)) 66 9 (iv x)) 66 10 (iv y)) f := fd_tr fd_z (fd_tr fd_z fd_z)
    have hD : DS (ldS s w x y) := ds_cg (fun _ => ld_o (fun e => absurd e (by decide))) hW.2.1.1
    have fin : ∀ {z1 f1}, MS (ldS s w x y) z1 f1 → Fe z f z1 f1 → ldQ s w x y → MR (g_X11_load_b107 (iv (s 8 1)) (iv (s 8 2)) (iv (s 8 3)) z1 f1) z f (oLoad s w x y) := fun {z1 f1} hm hc hq => by
      unfold g_X11_load_b107 g_X11_load_b108 oLoad
      rw [if_pos hp, if_pos hq, fl_0, bn3_some, if_pos rfl, lt2_e]
      have g1 := ms_sc (ms_30 hm (v := iv ((0 : Nat) : Int))) (c := 22) (j := 11) (v := 0) (by decide) (by decide)
      obtain ⟨z2, f2, e2, m2, c2⟩ := mo_settles hn (wb_ld hW hp hq) g1
      rw [show iv 0 = (0 : Int32) from rfl] at e2
      rw [e2, bn2_some, mz m2.1 22 11]
      refine ⟨_, _, _, rfl, ?_, fun _ => rfl, m2, fd_tr hc (fd_tr fd_z (fd_tr fd_z c2.1))⟩
      rw [c2.2]
      unfold up2
      rw [if_neg (by decide), if_pos ⟨rfl, rfl⟩]
    unfold g_X11_load_b35 g_X11_load_b75 lt2
    dsimp only
    rw [if_neg (by decide), if_neg (by decide), mz l3.1 4 6, ld_o (by decide), mz h.1 8 1, mz h.1 9 2, mz h.1 10 3]
    by_cases d : s 8 6 = 0
    · rw [if_pos ((z_iv (by omega)).mpr d)]
      exact fin l3 c3 (Or.inl d)
    · rw [if_neg (fun e => d ((z_iv (by omega)).mp e))]
      obtain ⟨z4, f4, e4, j4⟩ := mo_holds (ko_bd hA1.1) hD l3.1 l3.2.2.1
      have m4 := mj_ms j4 l3
      have c4 := fd_tr c3 (mj_fc j4).1
      rw [l3.2.1, e4, bn3_some]
      by_cases l : stB (ldS s w x y) (-1) = true
      · rw [if_pos l, if_neg (by decide)]
        exact fin m4 c4 (Or.inr l)
      · have nq : ¬ ldQ s w x y := by rintro (q | q); exact d q; exact l q
        rw [if_neg l, if_pos rfl]
        unfold g_X11_load_b108 oLoad lt2
        dsimp only
        rw [if_pos hp, if_neg nq, fl_2, bn3_some, if_neg (by decide)]
        have m0 := ms_30 m4 (v := iv ((2 : Nat) : Int))
        have g1 := ms_sc m0 (c := 8) (j := 1) (v := s 8 1) (by decide) (by decide)
        have g2 := ms_sc g1 (c := 9) (j := 2) (v := s 8 2) (by decide) (by decide)
        have g3 := ms_sc g2 (c := 10) (j := 3) (v := s 8 3) (by decide) (by decide)
        rw [ld_bk] at g3
        refine ⟨_, _, _, rfl, ?_, fun e => absurd e (show ¬ (2 : Nat) = 0 by decide), g3, fd_tr c4 (fd_tr fd_z (fd_tr fd_z (fd_tr fd_z fd_z)))⟩
        unfold up2
        rw [if_neg (by decide), if_neg (by decide), if_neg (by decide), if_pos ⟨rfl, rfl⟩]
  unfold g_X11_load
  rw [mo_isIn 0 20 (x := 0) (y := 20) hw (by decide) (by decide) rfl rfl, Option.bind_some, mo_isIn (-5) 5 (x := -5) (y := 5) hx (by decide) (by decide) rfl rfl, mo_isIn (-5) 5 (x := -5) (y := 5) hy (by decide) (by decide) rfl rfl]
  by_cases c1 : 0 ≤ w ∧ w ≤ 20
  · rw [if_pos c1, if_neg (by decide), Option.bind_some]
    by_cases c2 : -5 ≤ x ∧ x ≤ 5
    · rw [if_pos c2, if_neg (by decide), Option.bind_some]
      by_cases c3 : -5 ≤ y ∧ y ≤ 5
      · rw [if_pos c3, if_neg (by decide)]
        exact good ⟨c1, c2, c3⟩
      · rw [if_neg c3, if_pos rfl]; exact bad (fun q => c3 q.2.2)
    · rw [if_neg c2, if_pos rfl]; exact bad (fun q => c2 q.2.1)
  · rw [if_neg c1, if_pos rfl]; exact bad (fun q => c1 q.1)
end
