section
variable {s : MSt} {z f : Nat → Nat → Int32}
/-! the model settles -/
theorem lm_cg {t : MSt} (h7 : ∀ a, a < 7 → ∀ k, t a k = s a k) (h8 : ∀ k, t 8 k = s 8 k) (h : LM s z f) : LM t z f :=
  ⟨fun q hq k hk => by rw [h7 _ (arrsM_inj q hq q hq).2.1]; exact h.1 q hq k hk, fun q hq => by rw [h8]; exact h.2 q hq⟩
def fallF (s : MSt) (f : Nat → Nat → Int32) : Nat → Nat → Int32 := upf (upf (upf (upf f 76 (4 * (s 8 12).toNat) (iv (dirS s))) 76 (4 * (s 8 12).toNat + 1) (iv (s 8 9))) 76 (4 * (s 8 12).toNat + 2) (iv (pt (s 8 10)).1)) 76 (4 * (s 8 12).toNat + 3) (iv (pt (s 8 10)).2)
theorem ms_fall (h : MS s z f) (hk : KO s) {g : Nat → Nat → Int32} (hg : (40 ≤ s 8 12 ∧ g = f) ∨ (s 8 12 < 40 ∧ g = fallF s f)) : MS (fallS s) (up2 (up2 (up2 z 66 23 (iv (s 8 12 + 1))) 66 4 (iv 0)) 66 17 (iv 0)) g := by
  have h8 := ko_8 hk
  have ng : ∀ b, b ≠ 76 → g b = f b := fun b hb => by
    rcases hg with ⟨-, rfl⟩ | ⟨-, rfl⟩
    · rfl
    · unfold fallF
      rw [upf_up, upa_ne hb, upf_up, upa_ne hb, upf_up, upa_ne hb, upf_up, upa_ne hb]
  have l1 := lm_sc (lm_sc h.1 (c := 23) (j := 12) (v := s 8 12 + 1) (by decide)) (c := 4) (j := 6) (v := 0) (by decide)
  have nz : ∀ i, i ≠ 17 → i ≠ 4 → i ≠ 23 → up2 (up2 (up2 z 66 23 (iv (s 8 12 + 1))) 66 4 (iv 0)) 66 17 (iv 0) 66 i = z 66 i := fun i h1 h2 h3 => by
    unfold up2
    rw [if_neg (fun e => h1 e.2), if_neg (fun e => h2 e.2), if_neg (fun e => h3 e.2)]
  have r : ∀ a k, a = 9 ∨ a = 10 ∨ a = 11 → fallS s a k = if k = (s 8 12).toNat then (if a = 9 then dirS s else if a = 10 then s 8 9 else s 8 10) else s a k := fun a k ha => by
    unfold fallS
    rcases ha with rfl | rfl | rfl
    · rw [us_na (by decide), ur_na (by decide), us_na (by decide), us_na (by decide), us_na (by decide)]
      by_cases c : k = (s 8 12).toNat
      · rw [if_pos c, c, us_at]; rfl
      · rw [if_neg c, us_nk c]
    · rw [us_na (by decide), ur_na (by decide), us_na (by decide), us_na (by decide)]
      by_cases c : k = (s 8 12).toNat
      · rw [if_pos c, c, us_at]; rfl
      · rw [if_neg c, us_nk c, us_na (by decide)]
    · rw [us_na (by decide), ur_na (by decide), us_na (by decide)]
      by_cases c : k = (s 8 12).toNat
      · rw [if_pos c, c, us_at]; rfl
      · rw [if_neg c, us_nk c, us_na (by decide), us_na (by decide)]
  refine ⟨⟨fun q hq k hk => ?_, fun q hq => ?_⟩, ?_, fun k hk hne => absurd fall_7 hne, ?_, fun k h1 h2 => ?_, fun k h1 h2 => ?_⟩
  · obtain ⟨-, a7, a67, a74⟩ := arrsM_inj q hq q hq
    rw [ng _ (by omega), fall_o ⟨by omega, by omega, by omega, by omega, fun e => by omega⟩]
    exact h.1.1 q hq k hk
  · obtain ⟨-, n17, -⟩ := scalM_inj q hq q hq
    have := l1.2 q hq
    rw [show up2 (up2 (up2 z 66 23 (iv (s 8 12 + 1))) 66 4 (iv 0)) 66 17 (iv 0) 66 q.1 = up2 (up2 z 66 23 (iv (s 8 12 + 1))) 66 4 (iv 0) 66 q.1 from if_neg (fun e => n17 e.2), this]
    congr 1
  · rw [up2_same]
    rw [show (dnS (fallS s)) = fun _ => false from funext fun k => by unfold dnS; rw [fall_7]; rfl]
    exact mk_none.symm
  · rw [fall_o (by decide), fall_o (by decide), nz 20 (by decide) (by decide) (by decide), nz 21 (by decide) (by decide) (by decide)]
    exact h.2.2.2.1
  · rw [fall_12] at h2
    rw [r 9 k (by decide), r 10 k (by decide), r 11 k (by decide)]
    by_cases c : k = (s 8 12).toNat
    · rcases hg with ⟨g1, -⟩ | ⟨g1, rfl⟩
      · omega
      · simp only [if_pos c]
        rw [c]
        unfold fallF
        simp only [upf_up, upa_same]
        refine ⟨?_, ?_, ?_, ?_⟩
        · rw [upd_ne (by omega), upd_ne (by omega), upd_ne (by omega), upd_at]; rfl
        · rw [upd_ne (by omega), upd_ne (by omega), upd_at]; rfl
        · rw [upd_ne (by omega), upd_at]; rfl
        · rw [upd_at]; rfl
    · have m := h.2.2.2.2.1 k h1 (by omega)
      simp only [if_neg c]
      rcases hg with ⟨g1, rfl⟩ | ⟨g1, rfl⟩
      · exact m
      · unfold fallF
        simp only [upf_up, upa_same]
        refine ⟨?_, ?_, ?_, ?_⟩
        · rw [upd_ne (by omega), upd_ne (by omega), upd_ne (by omega), upd_ne (by omega)]; exact m.1
        · rw [upd_ne (by omega), upd_ne (by omega), upd_ne (by omega), upd_ne (by omega)]; exact m.2.1
        · rw [upd_ne (by omega), upd_ne (by omega), upd_ne (by omega), upd_ne (by omega)]; exact m.2.2.1
        · rw [upd_ne (by omega), upd_ne (by omega), upd_ne (by omega), upd_ne (by omega)]; exact m.2.2.2
  · rw [fall_o (by decide)] at h2
    rw [ng 77 (by decide)]
    have m := h.2.2.2.2.2 k h1 h2
    rw [fall_o ⟨by decide, by decide, by decide, by decide, fun e => absurd e (by decide)⟩, fall_o ⟨by decide, by decide, by decide, by decide, fun e => absurd e (by decide)⟩, fall_o ⟨by decide, by decide, by decide, by decide, fun e => absurd e (by decide)⟩, fall_o ⟨by decide, by decide, by decide, by decide, fun e => absurd e (by decide)⟩, fall_o ⟨by decide, by decide, by decide, by decide, fun e => absurd e (by decide)⟩]
    exact m
theorem mo_settles {n : Int} (hn : n < 1000000) (hW : WB n s) (h : MS s z f) : ∃ z' f', g_X11_settles z f = some (z', f') ∧ MS (stlS s) z' f' ∧ Fc z f z' f' := by
  have hk := hW.1.1
  have h8 := ko_8 hk
  have fb := (wf_stl hn hW).2
  unfold g_X11_settles stlS
  rw [mz h.1 4 6]
  by_cases c : s 8 6 = 0
  · rw [if_pos ((z_iv (by omega)).mpr c), if_pos c]
    exact ⟨z, f, rfl, h, fc_rf⟩
  rw [if_neg (fun e => c ((z_iv (by omega)).mp e)), if_neg c]
  obtain ⟨z1, f1, e1, m1, c1⟩ := mo_sinks hk h
  have hk1 := ko_skN 6 hk
  have hD1 := (w0_skN 6 s hW.2.1).1.1
  have h81 := ko_8 hk1
  obtain ⟨z2, f2, e2, j2⟩ := mo_holds (ko_bd hk1) hD1 m1.1 m1.2.2.1
  have m2 := mj_ms j2 m1
  have c2 := fc_tr c1 (mj_fc j2)
  rw [e1, bn2_some, m1.2.1, e2, bn3_some]
  by_cases d : stB (skN 6 s) (-1) = true
  · rw [if_pos d, if_neg (by decide), if_pos d]
    exact ⟨z2, f2, rfl, m2, c2⟩
  · have h9 := (fb c).resolve_left d
    obtain ⟨x20, x21⟩ := m2.2.2.2.1 h9
    have e12 : skN 6 s 8 12 = s 8 12 := skN_o (by decide) 6 s
    have b12 := ai_12 hW.1 hn
    rw [if_neg d, if_pos rfl, if_neg d, mz m2.1 23 12]
    unfold g_X11_settles_b98 lt2
    dsimp only
    rw [mz m2.1 23 12, show (1 : Int32) = iv 1 from rfl, iv_add]
    have e40 : ((40 : Int32) ≤ iv (skN 6 s 8 12)) ↔ 40 ≤ skN 6 s 8 12 := iv_le (a := 40) (by decide) (by omega)
    by_cases g : 40 ≤ skN 6 s 8 12
    · rw [if_pos (e40.mpr g)]
      exact ⟨_, _, rfl, ms_fall m2 hk1 (Or.inl ⟨g, rfl⟩), fc_tr c2 (fc_tr fc_z (fc_tr fc_z fc_z))⟩
    · have ix : ∀ i : Nat, i < 4 → ixA 160 (iv (4 * skN 6 s 8 12 + i)) = some (4 * (skN 6 s 8 12).toNat + i) := fun i hi => by
        have : 4 * skN 6 s 8 12 + (i : Int) = ((4 * (skN 6 s 8 12).toNat + i : Nat) : Int) := by omega
        rw [this]
        exact ix_iv (by omega) (by decide)
      have i0 := ix 0 (by decide)
      have i1 := ix 1 (by decide)
      have i2 := ix 2 (by decide)
      have i3 := ix 3 (by decide)
      rw [if_neg (fun q => g (e40.mp q)), mo_dir (ko_bd hk1) m2, Option.bind_some, show (4 : Int32) = iv 4 from rfl, iv_mul, show (2 : Int32) = iv 2 from rfl, show (3 : Int32) = iv 3 from rfl, iv_add, iv_add, iv_add]
      rw [show 4 * skN 6 s 8 12 = 4 * skN 6 s 8 12 + ((0 : Nat) : Int) by omega] 
      rw [i0, Option.bind_some]
      rw [show 4 * skN 6 s 8 12 + ((0 : Nat) : Int) + 1 = 4 * skN 6 s 8 12 + ((1 : Nat) : Int) by omega, i1, Option.bind_some, show 4 * skN 6 s 8 12 + ((0 : Nat) : Int) + 2 = 4 * skN 6 s 8 12 + ((2 : Nat) : Int) by omega, i2, Option.bind_some, show 4 * skN 6 s 8 12 + ((0 : Nat) : Int) + 3 = 4 * skN 6 s 8 12 + ((3 : Nat) : Int) by omega, i3, Option.bind_some, mz m2.1 19 9, x20, x21]
      exact ⟨_, _, rfl, ms_fall m2 hk1 (Or.inr ⟨by omega, rfl⟩), fc_tr c2 (fc_tr (fc_tr (fc_f (by decide)) (fc_tr (fc_f (by decide)) (fc_tr (fc_f (by decide)) (fc_f (by decide))))) (fc_tr fc_z (fc_tr fc_z fc_z)))⟩
/-! lifting, placing, shifting -/
theorem mo_lifts {n : Int} (hn : n < 1000000) (hW : WF n s) (h : MS s z f) {k : Nat} (hk6 : k < 6) : ∃ z' f', g_X11_lifts (iv k) z f = some (if mlP s k then 1 else 0, z', f') ∧ MS (if mlP s k then stlS (lfS s k) else s) z' f' ∧ Fc z f z' f' := by
  have hk := hW.1.1
  have h8 := ko_8 hk
  unfold g_X11_lifts
  rw [mz h.1 4 6, mz h.1 7 7, mo_down h.2.1 hk6]
  have e1 : (iv (s 8 7) < (1 : Int32)) ↔ s 8 7 < 1 := iv_lt (b := 1) (by omega) (by decide)
  by_cases c : s 8 6 = 0
  · rw [if_pos ((z_iv (by omega)).mpr c), if_neg (fun q : mlP s k => q.1 c), if_neg (fun q : mlP s k => q.1 c)]
    exact ⟨z, f, rfl, h, fc_rf⟩
  rw [if_neg (fun e => c ((z_iv (by omega)).mp e))]
  by_cases d : s 8 7 < 1
  · rw [if_pos (e1.mpr d), if_neg (fun q : mlP s k => by have := q.2.1; omega), if_neg (fun q : mlP s k => by have := q.2.1; omega)]
    exact ⟨z, f, rfl, h, fc_rf⟩
  rw [if_neg (fun e => d (e1.mp e)), Option.bind_some]
  by_cases g : s 7 k = -1
  · rw [if_neg (show ¬ s 7 k ≠ -1 from fun q => q g), if_pos rfl, if_neg (fun q : mlP s k => q.2.2.1 g), if_neg (fun q : mlP s k => q.2.2.1 g)]
    exact ⟨z, f, rfl, h, fc_rf⟩
  obtain ⟨z1, f1, e, j1⟩ := mo_holdsW (ko_bd hk) hW.2.1.1 h.1 h.2.2.1 hk6
  have m1 := mj_ms j1 h
  rw [if_pos g, if_neg (by decide), h.2.1, dn_clr hk6, e, bn3_some]
  by_cases j : stB s k = true
  · have hp : mlP s k := ⟨c, by omega, g, j⟩
    rw [if_pos j, if_neg (by decide), if_pos hp, if_pos hp]
    unfold lt2
    dsimp only
    have q1 : ∀ {a b : Int32}, up2 (up2 z1 66 7 a) 66 22 b 66 17 = mk (dnS s) := fun {a b} => (show _ = z1 66 17 from by unfold up2; rw [if_neg (by decide), if_neg (by decide)]).trans m1.2.1
    rw [mz m1.1 7 7, show (1 : Int32) = iv 1 from rfl, iv_sub, q1, show iv 1 = (1 : Int32) from rfl, dn_clr hk6]
    have g1 := ms_sc m1 (c := 7) (j := 7) (v := s 8 7 - 1) (by decide) (by decide)
    have g2 := ms_sc g1 (c := 22) (j := 11) (v := 0) (by decide) (by decide)
    have e17 : mk (dnS (us s 7 k (-1))) = mk (dnS (lfS s k)) := mk_cg fun j _ => by
      unfold dnS lfS
      by_cases q : j = k
      · subst q; rw [us_at, us_at]
      · rw [us_nk q, us_nk q, us_na (by decide), us_na (by decide)]
    have g3 : MS (lfS s k) (up2 (up2 (up2 z1 66 7 (iv (s 8 7 - 1))) 66 22 0) 66 17 (mk (dnS (us s 7 k (-1))))) f1 := by
      refine ⟨?_, by rw [up2_same]; exact e17, fun j hj hne => ?_, ?_⟩
      · have l1 := lm_us7 g2.1 (k := k) (v := -1)
        refine ⟨l1.1, fun q hq => ?_⟩
        have := (scalM_inj _ hq _ hq).2.1
        rw [show up2 (up2 (up2 z1 66 7 (iv (s 8 7 - 1))) 66 22 0) 66 17 (mk (dnS (us s 7 k (-1)))) 66 q.1 = up2 (up2 z1 66 7 (iv (s 8 7 - 1))) 66 22 0 66 q.1 from if_neg (fun e => this e.2)]
        exact l1.2 q hq
      · unfold lfS at hne ⊢
        by_cases q : j = k
        · subst q; rw [us_at] at hne; exact absurd rfl hne
        · rw [us_nk q] at hne ⊢; exact g2.2.2.1 j hj hne
      · have m := g2.2.2.2
        unfold MX at m ⊢
        rw [show up2 (up2 (up2 z1 66 7 (iv (s 8 7 - 1))) 66 22 0) 66 17 (mk (dnS (us s 7 k (-1)))) 66 20 = up2 (up2 z1 66 7 (iv (s 8 7 - 1))) 66 22 0 66 20 from if_neg (by decide), show up2 (up2 (up2 z1 66 7 (iv (s 8 7 - 1))) 66 22 0) 66 17 (mk (dnS (us s 7 k (-1)))) 66 21 = up2 (up2 z1 66 7 (iv (s 8 7 - 1))) 66 22 0 66 21 from if_neg (by decide)]
        exact m
    obtain ⟨z3, f3, e3, m3, c3⟩ := mo_settles hn (wb_lf hW hp) g3
    rw [e3, bn2_some]
    exact ⟨z3, f3, rfl, m3, fc_tr (mj_fc j1) (fc_tr (fc_tr fc_z (fc_tr fc_z fc_z)) c3)⟩
  · have hp : ¬ mlP s k := fun q => j q.2.2.2
    rw [if_neg j, if_pos rfl, if_neg hp, if_neg hp]
    exact ⟨z1, f1, rfl, m1, mj_fc j1⟩
theorem mo_isIn {a : Int} (b c : Int) {x y : Int32} (ha : IB a) (hb : IB b) (hc : IB c) (hx : x = iv b) (hy : y = iv c) : g_X11_isIn (iv a) x y z f = some (if b ≤ a ∧ a ≤ c then 1 else 0) := by
  subst hx; subst hy
  exact iw_in (z := z) (f := f) ha hb hc
theorem mo_canPlace (hk : KO s) (hG : LG s) (h : MS s z f) {k : Nat} (hk6 : k < 6) {p : Int} (hp : nB p) : g_X11_canPlace (iv k) (iv (pt p).1) (iv (pt p).2) z f = some (if s 7 k = -1 ∧ (s 3 p.toNat - lvS (s 3) (s 7) (-1)).natAbs ≤ 2 ∧ inR s k p = true ∧ tkS (s 7) p (-1) = false then 1 else 0) := by
  have hB := ko_bd hk
  have lb : 0 ≤ lvS (s 3) (s 7) (-1) ∧ lvS (s 3) (s 7) (-1) ≤ 9 := lvN_bd (but := -1) hB.1.2.2.2 hB.2.2.2 6 0 0 (by decide) (by decide) (by decide)
  have mb : 0 ≤ s 3 p.toNat ∧ s 3 p.toNat ≤ 9 := hk 3 _
  unfold g_X11_canPlace
  rw [mo_at hp, Option.bind_some, ix_iv (nB_nat hp).2 (by decide), Option.bind_some, h.2.1, mo_level hB h.1 h.2.2.1, Option.bind_some, mo_down h.2.1 hk6, Option.bind_some, mo_reach hB h.1 hk6 hp, Option.bind_some]
  by_cases c : s 7 k = -1
  · rw [if_neg (show ¬ s 7 k ≠ -1 from fun q => q c), if_pos rfl]
    by_cases d : inR s k p = true
    · obtain ⟨r, r1, r2, -, r3⟩ := mo_taken hk hG h.1 h.2.1 h.2.2.1 hp (β := Int32) (F := fun x6 => if x6 = ((-1)) then (g_X11_isIn ((f 70 p.toNat) - iv (lvS (s 3) (s 7) (-1))) ((-2)) 2 z f).bind fun x7 => if x7 = 0 then some (0) else some (1) else some (0))
      rw [if_pos d, if_neg (by decide)]
      refine Eq.trans r3 ?_
      by_cases g : r = -1
      · rw [if_pos (show iv r = (-1 : Int32) by rw [g]; rfl), ma h.1 70 3 400 (by decide) _ (nB_nat hp).2, iv_sub, mo_isIn (a := s 3 p.toNat - lvS (s 3) (s 7) (-1)) (-2) 2 (x := -2) (y := 2) (by omega) (by decide) (by decide) rfl rfl, Option.bind_some]
        by_cases l : -2 ≤ s 3 p.toNat - lvS (s 3) (s 7) (-1) ∧ s 3 p.toNat - lvS (s 3) (s 7) (-1) ≤ 2
        · rw [if_pos l, if_neg (by decide), if_pos ⟨c, by omega, d, r2.mp g⟩]
        · rw [if_neg l, if_pos rfl, if_neg (fun q => l (by have := q.2.1; omega))]
      · rw [if_neg (fun q => g ((m1_iv (by omega)).mp q)), if_neg (fun q => g (r2.mpr q.2.2.2))]
    · rw [if_neg d, if_pos rfl, if_neg (fun q => d q.2.2.1)]
  · rw [if_pos (show s 7 k ≠ -1 from c), if_neg (by decide), if_neg (fun q => c q.1)]
theorem mo_places {n : Int} (hn : n < 1000000) (hW : WF n s) (h : MS s z f) {k : Nat} (hk6 : k < 6) (hl : (k : Int) < s 8 0) {p : Int} (hp : nB p) : ∃ z' f', g_X11_places (iv k) (iv (pt p).1) (iv (pt p).2) z f = some (if plP s k p then 1 else 0, z', f') ∧ MS (if plP s k p then stlS (plS s k p) else s) z' f' ∧ Fc z f z' f' := by
  have hk := hW.1.1
  have h8 := ko_8 hk
  have hB := ko_bd hk
  have fb := faS_bd hB hk6 hp
  unfold g_X11_places
  rw [mz h.1 4 6, mo_far hB h.1 hk6 hp, Option.bind_some, mz h.1 7 7, show (1 : Int32) = iv 1 from rfl, iv_add]
  have e1 : (iv (s 8 7) < iv (1 + faS s k p)) ↔ s 8 7 < 1 + faS s k p := iv_lt (by omega) (by omega)
  by_cases c : s 8 6 = 0
  · rw [if_pos ((z_iv (by omega)).mpr c), if_neg (fun q : plP s k p => q.1 c), if_neg (fun q : plP s k p => q.1 c)]
    exact ⟨z, f, rfl, h, fc_rf⟩
  rw [if_neg (fun e => c ((z_iv (by omega)).mp e))]
  by_cases d : s 8 7 < 1 + faS s k p
  · rw [if_pos (e1.mpr d), if_neg (fun q : plP s k p => by have := q.2.1; omega), if_neg (fun q : plP s k p => by have := q.2.1; omega)]
    exact ⟨z, f, rfl, h, fc_rf⟩
  rw [if_neg (fun e => d (e1.mp e)), mo_canPlace hk hW.2.1.2.1 h hk6 hp, Option.bind_some]
  by_cases g : s 7 k = -1 ∧ (s 3 p.toNat - lvS (s 3) (s 7) (-1)).natAbs ≤ 2 ∧ inR s k p = true ∧ tkS (s 7) p (-1) = false
  · have hq : plP s k p := ⟨c, by omega, g⟩
    rw [if_pos g, if_neg (by decide), if_pos hq, if_pos hq, Option.bind_some, iv_add, iv_sub]
    unfold lt2
    dsimp only
    have g1 := ms_sc h (c := 7) (j := 7) (v := s 8 7 - (1 + faS s k p)) (by decide) (by decide)
    have g2 := ms_sc g1 (c := 22) (j := 11) (v := 0) (by decide) (by decide)
    have k2 : KO (us (us s 8 7 (s 8 7 - (1 + faS s k p))) 8 11 0) := ko_us (ko_us hk (a := 8) (k := 7) (show (0 : Int) ≤ s 8 7 - (1 + faS s k p) ∧ s 8 7 - (1 + faS s k p) ≤ 1000 by omega)) (a := 8) (k := 11) (by decide)
    have G2 : LG (us (us s 8 7 (s 8 7 - (1 + faS s k p))) 8 11 0) := lg_cg (fun _ => (us_na (by decide)).trans (us_na (by decide))) ((us_nk (by decide)).trans (us_nk (by decide))) hW.2.1.2.1
    obtain ⟨z3, f3, e3, m3, c3⟩ := mo_sets k2 G2 g2 hk6 ((us_na (by decide)).trans ((us_na (by decide)).trans g.1)) hp
    obtain ⟨z4, f4, e4, m4, c4⟩ := mo_settles hn (wb_pl hW hk6 hl hp hq) m3
    rw [show (0 : Int32) = iv 0 from rfl, e3, bn2_some, e4, bn2_some]
    exact ⟨z4, f4, rfl, m4, fc_tr (fc_tr fc_z fc_z) (fc_tr c3 c4)⟩
  · have hq : ¬ plP s k p := fun q => g q.2.2
    rw [if_neg g, if_pos rfl, if_neg hq, if_neg hq]
    exact ⟨z, f, rfl, h, fc_rf⟩
theorem mo_54 (hB : BD s) (hL : LM s z f) (h17 : z 66 17 = mk (dnS s)) (hF : FX s f) {x y : Int32} : ∀ (n fu i : Nat) (b : Bool), i + n = 6 → n < fu → ∃ c : Bool, (c = true ↔ b = true ∧ ∀ k, k < 6 → (i ≤ k ∧ s 7 k ≠ -1) → inR s k (s 7 k) = true) ∧ g_X11_moves_l54 fu x y (if b then 1 else 0) (iv i) z f = if c then g_X11_moves_b123 y 1 (z 66 5) 0 z f else g_X11_moves_b123 y 0 (z 66 5) x z f := by
  intro n
  induction n with
  | zero =>
    intro fu i b hi hf
    obtain ⟨fu, rfl⟩ : ∃ x, fu = x + 1 := ⟨fu - 1, by omega⟩
    obtain rfl : i = 6 := by omega
    refine ⟨b, ⟨fun h => ⟨h, fun k h1 h2 => by omega⟩, fun h => h.1⟩, ?_⟩
    rw [g_X11_moves_l54, if_pos y6]
    cases b
    · rfl
    · rfl
  | succ n ih =>
    intro fu i b hi hf
    obtain ⟨fu, rfl⟩ : ∃ x, fu = x + 1 := ⟨fu - 1, by omega⟩
    have h6 : i < 6 := by omega
    obtain ⟨cT, hT, eT⟩ := ih fu (i + 1) true (by omega) (by omega)
    obtain ⟨cF, hF', eF⟩ := ih fu (i + 1) false (by omega) (by omega)
    rw [if_pos rfl] at eT
    rw [if_neg (by decide)] at eF
    rw [g_X11_moves_l54, if_neg (n6 h6)]
    unfold g_X11_moves_b101 g_X11_moves_b97 g_X11_moves_b102
    rw [iv_1]
    cases b with
    | false =>
      rw [show (if false = true then (1 : Int32) else 0) = 0 from rfl, if_pos rfl]
      exact ⟨cF, hF'.trans ⟨fun h => absurd h.1 (by decide), fun h => absurd h.1 (by decide)⟩, eF⟩
    | true =>
      have up : (s 7 i ≠ -1 → inR s i (s 7 i) = true) → ((true = true ∧ ∀ k, k < 6 → (i + 1 ≤ k ∧ s 7 k ≠ -1) → inR s k (s 7 k) = true) ↔ (true = true ∧ ∀ k, k < 6 → (i ≤ k ∧ s 7 k ≠ -1) → inR s k (s 7 k) = true)) := fun hq => ⟨fun h => ⟨rfl, fun k h1 h2 => by
        rcases Nat.lt_or_eq_of_le h2.1 with q | q
        · exact h.2 k h1 ⟨q, h2.2⟩
        · subst q; exact hq h2.2⟩, fun h => ⟨rfl, fun k h1 h2 => h.2 k h1 ⟨by omega, h2.2⟩⟩⟩
      rw [if_pos rfl, if_neg (by decide), mo_down h17 h6, Option.bind_some]
      by_cases c : s 7 i = -1
      · rw [if_neg (show ¬ s 7 i ≠ -1 from fun q => q c), if_pos rfl]
        exact ⟨cT, hT.trans (up (fun q => absurd c q)), eT⟩
      · have hn : nB (s 7 i) := (hB.2.2.2 i h6).resolve_left c
        obtain ⟨f1, f2⟩ := hF i h6 c
        rw [if_pos (show s 7 i ≠ -1 from c), if_neg (by decide), ix_iv h6 (by decide), Option.bind_some, Option.bind_some, f1, f2, mo_reach hB hL h6 hn, Option.bind_some]
        by_cases d : inR s i (s 7 i) = true
        · rw [if_pos d, if_neg (by decide)]
          exact ⟨cT, hT.trans (up (fun _ => d)), eT⟩
        · rw [if_neg d, if_pos rfl]
          exact ⟨cF, hF'.trans ⟨fun h => absurd h.1 (by decide), fun h => absurd (h.2 i h6 ⟨Nat.le_refl _, c⟩) d⟩, eF⟩
theorem mv_bk {x y : Int} : us (us (mvS s x y) 8 4 (s 8 4)) 8 5 (s 8 5) = s := by
  funext a k
  unfold mvS us
  by_cases c : a = 8
  · subst c
    by_cases c1 : k = 4
    · subst c1; simp
    · by_cases c2 : k = 5
      · subst c2; simp
      · simp [c1, c2]
  · simp [c]
theorem mo_moves (hk : KO s) (hD : DS s) (h4 : 0 ≤ s 8 4 ∧ s 8 4 < 20) (h5 : 0 ≤ s 8 5 ∧ s 8 5 < 20) (h : MS s z f) {x y : Int} (hx : -1 ≤ x ∧ x ≤ 1) (hy : -1 ≤ y ∧ y ≤ 1) : ∃ z' f', g_X11_moves (iv x) (iv y) z f = some (if mvP s x y then 1 else 0, z', f') ∧ MS (if mvP s x y then mvS s x y else s) z' f' ∧ Fc z f z' f' := by
  have g1 := ms_sc h (c := 5) (j := 4) (v := s 8 4 + x) (by decide) (by decide)
  have g2 : MS (mvS s x y) (up2 (up2 z 66 5 (iv (s 8 4 + x))) 66 6 (iv (s 8 5 + y))) f := ms_sc g1 (c := 6) (j := 5) (v := s 8 5 + y) (by decide) (by decide)
  have c2 : Fc z f (up2 (up2 z 66 5 (iv (s 8 4 + x))) 66 6 (iv (s 8 5 + y))) f := fc_tr fc_z fc_z
  have hk' := ko_mv hk (x := x) (y := y) (by omega) (by omega)
  have hD' : DS (mvS s x y) := ds_cg (fun _ => mv_o (fun e => absurd e (by decide))) hD
  have fail : ∀ {z1 f1}, MS (mvS s x y) z1 f1 → Fc z f z1 f1 → ∃ z' f', g_X11_moves_b123 (iv y) 0 (z1 66 5) (iv x) z1 f1 = some (0, z', f') ∧ MS s z' f' ∧ Fc z f z' f' := fun {z1 f1} hm hc => by
    unfold g_X11_moves_b123 g_X11_moves_b141 lt2
    dsimp only
    rw [if_pos rfl, mz hm.1 5 4, mv_4, iv_sub, show s 8 4 + x - x = s 8 4 by omega, show up2 z1 66 5 (iv (s 8 4)) 66 6 = z1 66 6 from if_neg (by decide), mz hm.1 6 5, mv_5, iv_sub, show s 8 5 + y - y = s 8 5 by omega]
    have q1 := ms_sc hm (c := 5) (j := 4) (v := s 8 4) (by decide) (by decide)
    have q2 := ms_sc q1 (c := 6) (j := 5) (v := s 8 5) (by decide) (by decide)
    rw [mv_bk] at q2
    exact ⟨_, _, rfl, q2, fc_tr hc (fc_tr fc_z fc_z)⟩
  have good : ∀ {z1 f1}, MS (mvS s x y) z1 f1 → Fc z f z1 f1 → ∃ z' f', g_X11_moves_b123 (iv y) 1 (z1 66 5) 0 z1 f1 = some (1, z', f') ∧ MS (mvS s x y) z' f' ∧ Fc z f z' f' := fun {z1 f1} hm hc => by
    unfold g_X11_moves_b123 g_X11_moves_b141 lt2
    dsimp only
    rw [if_neg (by decide), Int32.sub_zero, show up2 z1 66 5 (z1 66 5) = z1 from up2_id rfl, Int32.sub_zero, show up2 z1 66 6 (z1 66 6) = z1 from up2_id rfl]
    exact ⟨_, _, rfl, hm, hc⟩
  have bad : ∀ {z1 f1}, MS (mvS s x y) z1 f1 → Fc z f z1 f1 → ∃ z' f', g_X11_moves_b49 (iv x) (iv y) z1 f1 = some (0, z', f') ∧ MS s z' f' ∧ Fc z f z' f' := fun {z1 f1} hm hc => by
    obtain ⟨cF, hF', eF⟩ := mo_54 (ko_bd hk') hm.1 hm.2.1 hm.2.2.1 (x := iv x) (y := iv y) 6 FU 0 false (by decide) (by decide)
    rw [if_neg (by decide), show iv ((0 : Nat) : Int) = (0 : Int32) from rfl] at eF
    have : cF ≠ true := fun e => absurd (hF'.mp e).1 (by decide)
    unfold g_X11_moves_b49 g_X11_moves_b50
    rw [eF, if_neg this]
    exact fail hm hc
  unfold g_X11_moves lt2
  dsimp only
  rw [mz h.1 5 4, iv_add, show up2 z 66 5 (iv (s 8 4 + x)) 66 6 = z 66 6 from if_neg (by decide), mz h.1 6 5, iv_add, mz g2.1 5 4, mv_4, mz g2.1 6 5, mv_5, mo_isPt (by omega) (by omega), Option.bind_some]
  by_cases c : paS (s 8 4 + x) (s 8 5 + y) = -1
  · have hq : ¬ mvP s x y := fun q => q.1 c
    rw [if_neg (show ¬ paS (s 8 4 + x) (s 8 5 + y) ≠ -1 from fun q => q c), if_pos rfl, if_neg hq, if_neg hq]
    exact bad g2 c2
  rw [if_pos (show paS (s 8 4 + x) (s 8 5 + y) ≠ -1 from c), if_neg (by decide)]
  obtain ⟨z3, f3, e3, j3⟩ := mo_holds (ko_bd hk') hD' g2.1 g2.2.2.1
  have m3 := mj_ms j3 g2
  have c3 := fc_tr c2 (mj_fc j3)
  rw [g2.2.1, e3, bn3_some]
  by_cases d : stB (mvS s x y) (-1) = true
  · obtain ⟨cT, hT, eT⟩ := mo_54 (ko_bd hk') m3.1 m3.2.1 m3.2.2.1 (x := iv x) (y := iv y) 6 FU 0 true (by decide) (by decide)
    rw [if_pos rfl, show iv ((0 : Nat) : Int) = (0 : Int32) from rfl] at eT
    unfold g_X11_moves_b50
    rw [if_pos d, if_neg (by decide), eT]
    by_cases g : cT = true
    · have hq : mvP s x y := ⟨c, fun k h1 h2 => (hT.mp g).2 k h1 ⟨Nat.zero_le _, h2⟩, d⟩
      rw [if_pos g, if_pos hq, if_pos hq]
      exact good m3 c3
    · have hq : ¬ mvP s x y := fun q => g (hT.mpr ⟨rfl, fun k h1 h2 => q.2.1 k h1 h2.2⟩)
      rw [if_neg g, if_neg hq, if_neg hq]
      exact fail m3 c3
  · have hq : ¬ mvP s x y := fun q => d q.2.2
    rw [if_neg d, if_pos rfl, if_neg hq, if_neg hq]
    exact bad m3 c3
theorem mo_shifts {n : Int} (hn : n < 1000000) (hW : WF n s) (h : MS s z f) {x y : Int} (hx : -1 ≤ x ∧ x ≤ 1) (hy : -1 ≤ y ∧ y ≤ 1) : ∃ z' f', g_X11_shifts (iv x) (iv y) z f = some (if shP s x y then 1 else 0, z', f') ∧ MS (if shP s x y then stlS (shS s x y) else s) z' f' ∧ Fc z f z' f' := by
  have hk := hW.1.1
  have h8 := ko_8 hk
  have hB := ko_bd hk
  have sb := shC_bd hB
  have wb := (bd_m hB).2.2
  have ec : (iv (wS s) + 9) / 10 = iv (shC s) := by
    unfold shC
    rw [show (9 : Int32) = iv 9 from rfl, show (10 : Int32) = iv 10 from rfl, iv_add, iv_div (by omega) (by omega) (by decide) (by decide)]
  unfold g_X11_shifts
  rw [mw_w (ms_mw h.1), Option.bind_some, ec, mz h.1 4 6, mz h.1 7 7]
  have e2 : (iv (s 8 7) < iv (shC s)) ↔ s 8 7 < shC s := iv_lt (by omega) (by omega)
  by_cases d : s 8 6 = 0
  · rw [if_pos ((z_iv (by omega)).mpr d), if_neg (fun q : shP s x y => q.1 d), if_neg (fun q : shP s x y => q.1 d)]
    exact ⟨_, _, rfl, h, fc_rf⟩
  rw [if_neg (fun e => d ((z_iv (by omega)).mp e))]
  by_cases g : s 8 7 < shC s
  · rw [if_pos (e2.mpr g), if_neg (fun q : shP s x y => by have := q.2.1; omega), if_neg (fun q : shP s x y => by have := q.2.1; omega)]
    exact ⟨_, _, rfl, h, fc_rf⟩
  rw [if_neg (fun e => g (e2.mp e))]
  obtain ⟨z1, f1, e1, m1, c1⟩ := mo_moves hk hW.2.1.1 hW.1.2.1.1 hW.1.2.1.2 h hx hy
  rw [e1, bn3_some]
  by_cases l : mvP s x y
  · have hp : shP s x y := ⟨d, by omega, l⟩
    rw [if_pos l] at m1
    rw [if_pos l, if_neg (by decide), if_pos hp, if_pos hp]
    unfold lt2
    dsimp only
    rw [mz m1.1 7 7, mv_o (by decide), iv_sub]
    have g1 := ms_sc m1 (c := 7) (j := 7) (v := s 8 7 - shC s) (by decide) (by decide)
    have g2 := ms_sc g1 (c := 22) (j := 11) (v := 0) (by decide) (by decide)
    obtain ⟨z2, f2, e3, m2, c2⟩ := mo_settles hn (wb_sh hW hp) g2
    rw [show (0 : Int32) = iv 0 from rfl, e3, bn2_some]
    exact ⟨z2, f2, rfl, m2, fc_tr c1 (fc_tr (fc_tr fc_z fc_z) c2)⟩
  · have hp : ¬ shP s x y := fun q => l q.2.2
    rw [if_neg l] at m1
    rw [if_neg l, if_pos rfl, if_neg hp, if_neg hp]
    exact ⟨z1, f1, rfl, m1, c1⟩
end
