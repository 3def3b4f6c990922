/-! the class: what is told, and what is asked -/
section
variable {s : MSt} {z f : Nat → Nat → Int32}
theorem iw_c {a : Int} (ha : IB a) (b c : Int) (hb : IB b) (hc : IB c) {β : Type} {F : Int32 → Option β} {x y : Int32} (hx : x = iv b) (hy : y = iv c) : (g_X10_isWithin (iv a) x y z f).bind F = if b ≤ a ∧ a ≤ c then F 1 else F 0 := by
  rw [hx, hy]; exact iw_0 ha hb hc
abbrev grP (x y h m g : Int) : Prop := paS x y ≠ -1 ∧ (0 ≤ h ∧ h ≤ 9) ∧ (0 ≤ m ∧ m ≤ 99) ∧ (0 ≤ g ∧ g ≤ 9)
def grS (s : MSt) (p h m g : Int) : MSt := us (us (us s 0 p.toNat h) 1 p.toNat m) 2 p.toNat g
def oGround (s : MSt) (x y h m g : Int) : Nat × Int × MSt := if grP x y h m g then (if tkS (s 7) (paS x y) (-1) = true then (2, 0, s) else (0, s 0 (paS x y).toNat, grS s (paS x y) h m g)) else (1, 0, s)
theorem cq_ground (hk : KO s) (hC : CS s z f) {x y h m g : Int} (hx : IB x) (hy : IB y) (hh : IB h) (hm : IB m) (hg : IB g) : ∃ z' f', g_X10_ground (iv x) (iv y) (iv h) (iv m) (iv g) z f = some (rsC [nIAE, nISE] (oGround s x y h m g).1 (oGround s x y h m g).2.1, z', f') ∧ CS (oGround s x y h m g).2.2 z' f' ∧ Fm z f z' f' := by
  have bad : ¬ grP x y h m g → ∃ z' f', g_X10_ground_b45 z f = some (rsC [nIAE, nISE] (oGround s x y h m g).1 (oGround s x y h m g).2.1, z', f') ∧ CS (oGround s x y h m g).2.2 z' f' ∧ Fm z f z' f' := fun q => by
    unfold oGround
    rw [if_neg q]
    exact ⟨z, f, rfl, hC, fm_rf⟩
  unfold g_X10_ground
  rw [cp_pt hx hy, Option.bind_some]
  by_cases c : paS x y = -1
  · rw [if_pos (show iv (paS x y) = (-1 : Int32) by rw [c]; rfl)]
    exact bad (fun q => q.1 c)
  have hp := ((paS_cs x y).resolve_left (fun h => c h.1)).1
  have ibp : IB (paS x y) := by unfold nB at hp; omega
  rw [if_neg (fun e => c ((m1_iv ibp).mp e)), iw_c hh 0 9 (x := 0) (y := 9) (by decide) (by decide) rfl rfl]
  by_cases c1 : 0 ≤ h ∧ h ≤ 9
  · rw [if_pos c1, if_neg (by decide), iw_c hm 0 99 (x := 0) (y := 99) (by decide) (by decide) rfl rfl]
    by_cases c2 : 0 ≤ m ∧ m ≤ 99
    · rw [if_pos c2, if_neg (by decide), iw_c hg 0 9 (x := 0) (y := 9) (by decide) (by decide) rfl rfl]
      by_cases c3 : 0 ≤ g ∧ g ≤ 9
      · rw [if_pos c3, if_neg (by decide), show (-1 : Int32) = iv (-1) from rfl, cp_tk (ko_bd hk) (cs_ps hC) ibp (by decide), Option.bind_some]
        unfold oGround
        rw [if_pos (show grP x y h m g from ⟨c, c1, c2, c3⟩)]
        by_cases d : tkS (s 7) (paS x y) (-1) = true
        · rw [if_pos d, if_neg (by decide), if_pos d]
          exact ⟨z, f, rfl, hC, fm_rf⟩
        · rw [if_neg d, if_pos rfl, if_neg d, wrP hp, lt2_e, wrP hp, lt2_e, wrP hp, lt2_e, rdP (mp := s 0) (cs_lf hC).1.1 hp]
          have g1 := cs_arr hC (b := 8) (a := 0) (n := 400) (k := (paS x y).toNat) (v := h) (by decide)
          have g2 := cs_arr g1 (b := 10) (a := 1) (n := 400) (k := (paS x y).toNat) (v := m) (by decide)
          have g3 := cs_arr g2 (b := 12) (a := 2) (n := 400) (k := (paS x y).toNat) (v := g) (by decide)
          exact ⟨z, _, rfl, g3, fm_tr (fm_f (by decide)) (fm_tr (fm_f (by decide)) (fm_f (by decide)))⟩
      · rw [if_neg c3, if_pos rfl]; exact bad (fun q => c3 q.2.2.2)
    · rw [if_neg c2, if_pos rfl]; exact bad (fun q => c2 q.2.2.1)
  · rw [if_neg c1, if_pos rfl]; exact bad (fun q => c1 q.2.1)
abbrev chP (x y h : Int) : Prop := paS x y ≠ -1 ∧ (0 ≤ h ∧ h ≤ 9)
def oChart (s : MSt) (x y h : Int) : Nat × Int × MSt := if chP x y h then (0, s 3 (paS x y).toNat, us s 3 (paS x y).toNat h) else (1, 0, s)
theorem cq_chart (hC : CS s z f) {x y h : Int} (hx : IB x) (hy : IB y) (hh : IB h) : ∃ z' f', g_X10_chart (iv x) (iv y) (iv h) z f = some (rsC [nIAE] (oChart s x y h).1 (oChart s x y h).2.1, z', f') ∧ CS (oChart s x y h).2.2 z' f' ∧ Fm z f z' f' := by
  have bad : ¬ chP x y h → ∃ z' f', g_X10_chart_b23 z f = some (rsC [nIAE] (oChart s x y h).1 (oChart s x y h).2.1, z', f') ∧ CS (oChart s x y h).2.2 z' f' ∧ Fm z f z' f' := fun q => by
    unfold oChart
    rw [if_neg q]
    exact ⟨z, f, rfl, hC, fm_rf⟩
  unfold g_X10_chart
  rw [cp_pt hx hy, Option.bind_some]
  by_cases c : paS x y = -1
  · rw [if_pos (show iv (paS x y) = (-1 : Int32) by rw [c]; rfl)]
    exact bad (fun q => q.1 c)
  have hp := ((paS_cs x y).resolve_left (fun h => c h.1)).1
  have ibp : IB (paS x y) := by unfold nB at hp; omega
  rw [if_neg (fun e => c ((m1_iv ibp).mp e)), iw_c hh 0 9 (x := 0) (y := 9) (by decide) (by decide) rfl rfl]
  by_cases c1 : 0 ≤ h ∧ h ≤ 9
  · unfold oChart
    rw [if_pos c1, if_neg (by decide), if_pos (show chP x y h from ⟨c, c1⟩), wrP hp, lt2_e, rdP (mp := s 3) (cs_lf hC).1.2.2.2 hp]
    exact ⟨z, _, rfl, cs_arr hC (n := 400) (by decide), fm_f (by decide)⟩
  · rw [if_neg c1, if_pos rfl]; exact bad (fun q => c1 q.2)
abbrev lePb (x y r : Int) : Prop := (-5 ≤ x ∧ x ≤ 5) ∧ (-5 ≤ y ∧ y ≤ 5) ∧ (1 ≤ r ∧ r ≤ 6)
def leS (s : MSt) (x y r : Int) : MSt := us (us (us (us s 4 (s 8 0).toNat x) 5 (s 8 0).toNat y) 6 (s 8 0).toNat r) 8 0 (s 8 0 + 1)
def oLeg (s : MSt) (x y r : Int) : Nat × Int × MSt := if lePb x y r then (if s 8 6 = 0 ∧ s 8 0 < 6 then (0, s 8 0, leS s x y r) else (2, 0, s)) else (1, 0, s)
theorem cq_leg (hk : KO s) (hC : CS s z f) {x y r : Int} (hx : IB x) (hy : IB y) (hr : IB r) : ∃ z' f', g_X10_leg (iv x) (iv y) (iv r) z f = some (rsC [nIAE, nISE] (oLeg s x y r).1 (oLeg s x y r).2.1, z', f') ∧ CS (oLeg s x y r).2.2 z' f' ∧ Fm z f z' f' := by
  have h8 := ko_8 hk
  have bad : ¬ lePb x y r → ∃ z' f', g_X10_leg_b24 z f = some (rsC [nIAE, nISE] (oLeg s x y r).1 (oLeg s x y r).2.1, z', f') ∧ CS (oLeg s x y r).2.2 z' f' ∧ Fm z f z' f' := fun q => by
    unfold oLeg
    rw [if_neg q]
    exact ⟨z, f, rfl, hC, fm_rf⟩
  unfold g_X10_leg
  rw [ia_0 hx]
  by_cases c1 : -5 ≤ x ∧ x ≤ 5
  · rw [if_pos c1, if_neg (by decide), ia_0 hy]
    by_cases c2 : -5 ≤ y ∧ y ≤ 5
    · rw [if_pos c2, if_neg (by decide), iw_c hr 1 6 (x := 1) (y := 6) (by decide) (by decide) rfl rfl]
      by_cases c3 : 1 ≤ r ∧ r ≤ 6
      · unfold oLeg
        rw [if_pos c3, if_neg (by decide), if_pos (show lePb x y r from ⟨c1, c2, c3⟩), cz hC 0 9 6, cz hC 15 3 0]
        have e6 : (iv (s 8 0) < (6 : Int32)) ↔ s 8 0 < 6 := iv_lt (b := 6) (by omega) (by decide)
        by_cases d : s 8 6 = 0
        · rw [if_pos ((z_iv (by omega)).mpr d)]
          by_cases e : s 8 0 < 6
          · rw [if_pos (e6.mpr e), if_pos (show s 8 6 = 0 ∧ s 8 0 < 6 from ⟨d, e⟩)]
            unfold g_X2_join lt2
            dsimp only
            have g1 := cs_wr hC (b := 17) (a := 4) (n := 6) (v := x) (by decide) (by decide) (i := s 8 0) (by omega)
            have g2 := cs_wr g1 (b := 19) (a := 5) (n := 6) (v := y) (by decide) (by decide) (i := s 8 0) (by omega)
            have g3 := cs_wr g2 (b := 21) (a := 6) (n := 6) (v := r) (by decide) (by decide) (i := s 8 0) (by omega)
            have g4 := cs_sc g3 (c := 15) (k := 3) (j := 0) (v := s 8 0 + 1) (by decide)
            rw [bn3_some, cz hC 15 3 0, show (1 : Int32) = iv 1 from rfl, iv_add]
            exact ⟨_, _, rfl, g4, fm_tr (fm_wr (by decide)) (fm_tr (fm_wr (by decide)) (fm_tr (fm_wr (by decide)) (fm_z (by decide))))⟩
          · rw [if_neg (fun q => e (e6.mp q)), if_neg (fun q : s 8 6 = 0 ∧ s 8 0 < 6 => e q.2)]
            exact ⟨z, f, rfl, hC, fm_rf⟩
        · rw [if_neg (fun e => d ((z_iv (by omega)).mp e)), if_neg (fun q : s 8 6 = 0 ∧ s 8 0 < 6 => d q.1)]
          exact ⟨z, f, rfl, hC, fm_rf⟩
      · rw [if_neg c3, if_pos rfl]; exact bad (fun q => c3 q.2.2)
    · rw [if_neg c2, if_pos rfl]; exact bad (fun q => c2 q.2.1)
  · rw [if_neg c1, if_pos rfl]; exact bad (fun q => c1 q.1)
def oCharge (s : MSt) (a : Int) : Nat × Int × MSt := if 1 ≤ a ∧ a ≤ 1000 then (0, min 1000 (s 8 7 + a), us s 8 7 (min 1000 (s 8 7 + a))) else (1, 0, s)
theorem cq_charge (hk : KO s) (hC : CS s z f) {a : Int} (ha : IB a) : ∃ z' f', g_X10_charge (iv a) z f = some (rsC [nIAE] (oCharge s a).1 (oCharge s a).2.1, z', f') ∧ CS (oCharge s a).2.2 z' f' ∧ Fm z f z' f' := by
  have h8 := ko_8 hk
  unfold g_X10_charge oCharge lt2
  dsimp only
  rw [iw_c ha 1 1000 (x := 1) (y := 1000) (by decide) (by decide) rfl rfl]
  by_cases c : 1 ≤ a ∧ a ≤ 1000
  · rw [if_pos c, if_neg (by decide), if_pos c, up2_same, cz hC 0 10 7, iv_add, show (1000 : Int32) = iv 1000 from rfl, iv_min (by decide) (by omega)]
    exact ⟨_, _, rfl, cs_sc hC (c := 0) (k := 10) (j := 7) (by decide), fm_z (by decide)⟩
  · rw [if_neg c, if_pos rfl, if_neg c]
    exact ⟨z, f, rfl, hC, fm_rf⟩
abbrev phPb (x y u v : Int) : Prop := (-6 ≤ x ∧ x ≤ 6) ∧ (-6 ≤ y ∧ y ≤ 6) ∧ (-1 ≤ u ∧ u ≤ 1) ∧ (-1 ≤ v ∧ v ≤ 1)
def paddS (s : MSt) (a x y u v : Int) : MSt := us (us (us (us (us (us s 12 (s 8 13).toNat a) 13 (s 8 13).toNat x) 14 (s 8 13).toNat y) 15 (s 8 13).toNat u) 16 (s 8 13).toNat v) 8 13 (s 8 13 + 1)
def oPhase (s : MSt) (a x y u v : Int) : Nat × Int × MSt := if lgP s a then (if phPb x y u v then (if s 8 13 < 8 then (0, s 8 13 + 1, paddS s a x y u v) else (3, 0, s)) else (2, 0, s)) else (1, 0, s)
theorem cq_phase (hk : KO s) (hC : CS s z f) {a x y u v : Int} (ha : IB a) (hx : IB x) (hy : IB y) (hu : IB u) (hv : IB v) : ∃ z' f', g_X10_phase (iv a) (iv x) (iv y) (iv u) (iv v) z f = some (rsC [nIOB, nIAE, nISE] (oPhase s a x y u v).1 (oPhase s a x y u v).2.1, z', f') ∧ CS (oPhase s a x y u v).2.2 z' f' ∧ Fm z f z' f' := by
  have h8 := ko_8 hk
  unfold g_X10_phase
  rw [cd_isLeg hk hC ha, Option.bind_some]
  by_cases c : lgP s a
  · have bad : ¬ phPb x y u v → ∃ z' f', g_X10_phase_b60 z f = some (rsC [nIOB, nIAE, nISE] (oPhase s a x y u v).1 (oPhase s a x y u v).2.1, z', f') ∧ CS (oPhase s a x y u v).2.2 z' f' ∧ Fm z f z' f' := fun q => by
      unfold oPhase
      rw [if_pos c, if_neg q]
      exact ⟨z, f, rfl, hC, fm_rf⟩
    rw [if_pos (show 0 ≤ a ∧ a < s 8 0 from c), if_neg (by decide), iw_c hx (-6) 6 (x := (-6)) (y := 6) (by decide) (by decide) rfl rfl]
    by_cases c1 : -6 ≤ x ∧ x ≤ 6
    · rw [if_pos c1, if_neg (by decide), iw_c hy (-6) 6 (x := (-6)) (y := 6) (by decide) (by decide) rfl rfl]
      by_cases c2 : -6 ≤ y ∧ y ≤ 6
      · rw [if_pos c2, if_neg (by decide), iw_c hu (-1) 1 (x := (-1)) (y := 1) (by decide) (by decide) rfl rfl]
        by_cases c3 : -1 ≤ u ∧ u ≤ 1
        · rw [if_pos c3, if_neg (by decide), iw_c hv (-1) 1 (x := (-1)) (y := 1) (by decide) (by decide) rfl rfl]
          by_cases c4 : -1 ≤ v ∧ v ≤ 1
          · unfold oPhase
            rw [if_pos c4, if_neg (by decide), if_pos c, if_pos (show phPb x y u v from ⟨c1, c2, c3, c4⟩), cz hC 41 5 13]
            have e8 : (iv (s 8 13) < (8 : Int32)) ↔ s 8 13 < 8 := iv_lt (b := 8) (by omega) (by decide)
            by_cases d : s 8 13 < 8
            · rw [if_pos (e8.mpr d), if_pos d]
              unfold g_X3_add lt2
              dsimp only
              have g1 := cs_wr hC (b := 43) (a := 12) (n := 8) (v := a) (by decide) (by decide) (i := s 8 13) (by omega)
              have g2 := cs_wr g1 (b := 45) (a := 13) (n := 8) (v := x) (by decide) (by decide) (i := s 8 13) (by omega)
              have g3 := cs_wr g2 (b := 47) (a := 14) (n := 8) (v := y) (by decide) (by decide) (i := s 8 13) (by omega)
              have g4 := cs_wr g3 (b := 49) (a := 15) (n := 8) (v := u) (by decide) (by decide) (i := s 8 13) (by omega)
              have g5 := cs_wr g4 (b := 51) (a := 16) (n := 8) (v := v) (by decide) (by decide) (i := s 8 13) (by omega)
              have g6 := cs_sc g5 (c := 41) (k := 5) (j := 13) (v := s 8 13 + 1) (by decide)
              rw [bn3_some, up2_same, cz hC 41 5 13, show (1 : Int32) = iv 1 from rfl, iv_add]
              exact ⟨_, _, rfl, g6, fm_tr (fm_wr (by decide)) (fm_tr (fm_wr (by decide)) (fm_tr (fm_wr (by decide)) (fm_tr (fm_wr (by decide)) (fm_tr (fm_wr (by decide)) (fm_z (by decide))))))⟩
            · rw [if_neg (fun q => d (e8.mp q)), if_neg d]
              exact ⟨z, f, rfl, hC, fm_rf⟩
          · rw [if_neg c4, if_pos rfl]; exact bad (fun q => c4 q.2.2.2)
        · rw [if_neg c3, if_pos rfl]; exact bad (fun q => c3 q.2.2.1)
      · rw [if_neg c2, if_pos rfl]; exact bad (fun q => c2 q.2.1)
    · rw [if_neg c1, if_pos rfl]; exact bad (fun q => c1 q.1)
  · unfold oPhase
    rw [if_neg (show ¬ (0 ≤ a ∧ a < s 8 0) from c), if_neg c, if_pos rfl]
    exact ⟨z, f, rfl, hC, fm_rf⟩
def haS (s : MSt) : MSt := us (us s 8 13 0) 8 14 0
theorem cq_halt (hC : CS s z f) : ∃ z' f', g_X10_halt z f = some (iv (s 8 13), z', f') ∧ CS (haS s) z' f' ∧ Fm z f z' f' := by
  unfold g_X10_halt g_X3_clear lt2
  dsimp only
  rw [bn2_some, cz hC 41 5 13]
  have g1 := cs_sc hC (c := 41) (k := 5) (j := 13) (v := 0) (by decide)
  have g2 := cs_sc g1 (c := 41) (k := 6) (j := 14) (v := 0) (by decide)
  exact ⟨_, _, rfl, g2, fm_tr (fm_z (by decide)) (fm_z (by decide))⟩
def mchS (s : MSt) (a : Int) : Int :=
  if a = 0 then s 8 4 else if a = 1 then s 8 5 else if a = 2 then (if s 8 6 = 0 then 0 else 1) else if a = 3 then s 8 7 else if a = 4 then s 8 1 else if a = 5 then lvS (s 3) (s 7) (-1) else if a = 6 then psS s else if a = 7 then (cnS (s 7) : Int) else if a = 8 then s 8 8 else if a = 9 then s 8 12 else if a = 10 then s 8 0 else if s 8 13 = 0 then -1 else s 8 14
def oMach (s : MSt) (a : Int) : Nat × Int := if 0 ≤ a ∧ a ≤ 11 then (0, mchS s a) else (1, 0)
theorem cq_machine (hk : KO s) (hC : CS s z f) {a : Int} (ha : IB a) : g_X10_machine (iv a) z f = some (rsC [nIAE] (oMach s a).1 (oMach s a).2) := by
  have h8 := ko_8 hk
  have al : a = 0 ∨ a = 1 ∨ a = 2 ∨ a = 3 ∨ a = 4 ∨ a = 5 ∨ a = 6 ∨ a = 7 ∨ a = 8 ∨ a = 9 ∨ a = 10 ∨ a = 11 ∨ ¬ (0 ≤ a ∧ a ≤ 11) := by omega
  rcases al with rfl | rfl | rfl | rfl | rfl | rfl | rfl | rfl | rfl | rfl | rfl | rfl | h
  · show some (Sum.inl (z 22 4)) = _
    rw [cz hC 22 4 4]
    rfl
  · show some (Sum.inl (z 22 5)) = _
    rw [cz hC 22 5 5]
    rfl
  · show (if z 0 9 = 0 then some (Sum.inl (0 : Int32)) else some (.inl 1)) = _
    rw [cz hC 0 9 6]
    show _ = some (Sum.inl (iv (if s 8 6 = 0 then 0 else 1)))
    by_cases c : s 8 6 = 0
    · rw [if_pos ((z_iv (by omega)).mpr c), if_pos c]; rfl
    · rw [if_neg (fun e => c ((z_iv (by omega)).mp e)), if_neg c]; rfl
  · show some (Sum.inl (z 0 10)) = _
    rw [cz hC 0 10 7]
    rfl
  · show some (Sum.inl (z 15 4)) = _
    rw [cz hC 15 4 1]
    rfl
  · show ((g_X9_level 22 (iv (-1)) z f).bind fun x1 => some (Sum.inl x1)) = _
    rw [cp_level (ko_bd hk) (cs_lf hC) (cs_ps hC) (by decide)]
    rfl
  · show ((g_X9_pressure 22 z f).bind fun x1 => some (Sum.inl x1)) = _
    rw [cp_press (ko_bd hk) (cs_lf hC) (cs_ps hC)]
    rfl
  · show ((g_X9_down 22 z f).bind fun x1 => some (Sum.inl x1)) = _
    rw [cp_down (ko_bd hk) (cs_ps hC)]
    rfl
  · show some (Sum.inl (z 33 0)) = _
    rw [cz hC 33 0 8]
    rfl
  · show some (Sum.inl (z 34 3)) = _
    rw [cz hC 34 3 12]
    rfl
  · show some (Sum.inl (z 15 3)) = _
    rw [cz hC 15 3 0]
    rfl
  · show (if z 41 5 = 0 then some (Sum.inl (-1 : Int32)) else some (.inl (z 41 6))) = _
    rw [cz hC 41 5 13, cz hC 41 6 14]
    show _ = some (Sum.inl (iv (if s 8 13 = 0 then -1 else s 8 14)))
    by_cases c : s 8 13 = 0
    · rw [if_pos ((z_iv (by omega)).mpr c), if_pos c]; rfl
    · rw [if_neg (fun e => c ((z_iv (by omega)).mp e)), if_neg c]
  · have e : ∀ n : Int, IB n → 0 ≤ n ∧ n ≤ 11 → ¬ iv a = iv n := fun n hn h2 q => by
      have := (iv_eq ha hn).mp q
      omega
    unfold g_X10_machine oMach
    rw [if_neg h, if_neg (show ¬ iv a = (0 : Int32) from e 0 (by decide) (by decide)), if_neg (show ¬ iv a = (1 : Int32) from e 1 (by decide) (by decide)), if_neg (show ¬ iv a = (2 : Int32) from e 2 (by decide) (by decide)), if_neg (show ¬ iv a = (3 : Int32) from e 3 (by decide) (by decide)), if_neg (show ¬ iv a = (4 : Int32) from e 4 (by decide) (by decide)), if_neg (show ¬ iv a = (5 : Int32) from e 5 (by decide) (by decide)), if_neg (show ¬ iv a = (6 : Int32) from e 6 (by decide) (by decide)), if_neg (show ¬ iv a = (7 : Int32) from e 7 (by decide) (by decide)), if_neg (show ¬ iv a = (8 : Int32) from e 8 (by decide) (by decide)), if_neg (show ¬ iv a = (9 : Int32) from e 9 (by decide) (by decide)), if_neg (show ¬ iv a = (10 : Int32) from e 10 (by decide) (by decide)), if_neg (show ¬ iv a = (11 : Int32) from e 11 (by decide) (by decide))]
    rfl
def ftA (s : MSt) (k : Nat) (w : Int) : Int := if w = 0 then (if s 7 k = -1 then 0 else 1) else if s 7 k = -1 then -1 else if w = 1 then (pt (s 7 k)).1 else (pt (s 7 k)).2
def oFoot (s : MSt) (a w : Int) : Nat × Int := if lgP s a then (if 0 ≤ w ∧ w ≤ 2 then (0, ftA s a.toNat w) else (2, 0)) else (1, 0)
theorem cq_foot (hk : KO s) (hC : CS s z f) {a w : Int} (ha : IB a) (hw : IB w) : g_X10_foot (iv a) (iv w) z f = some (rsC [nIOB, nIAE] (oFoot s a w).1 (oFoot s a w).2) := by
  unfold g_X10_foot oFoot
  rw [cd_isLeg hk hC ha, Option.bind_some]
  by_cases c : lgP s a
  · obtain ⟨ea, h6⟩ := lg_nat hk c
    rw [if_pos (show 0 ≤ a ∧ a < s 8 0 from c), if_neg (by decide), if_pos c, ea, Int.toNat_natCast, rdR_iv h6 (by decide), ca hC 24 7 6 (by decide) _ h6]
    have em : (iv (s 7 a.toNat) = (-1 : Int32)) ↔ s 7 a.toNat = -1 := m1_iv (ftIB (ko_ft hk) h6)
    have al : w = 0 ∨ w = 1 ∨ w = 2 ∨ ¬ (0 ≤ w ∧ w ≤ 2) := by omega
    rcases al with rfl | rfl | rfl | h
    · rw [if_pos (show iv 0 = (0 : Int32) from rfl), if_pos (by decide : (0 : Int) ≤ 0 ∧ (0 : Int) ≤ 2)]
      show _ = some (Sum.inl (iv (if s 7 a.toNat = -1 then 0 else 1)))
      by_cases d : s 7 a.toNat = -1
      · rw [if_pos (em.mpr d), if_pos d]; rfl
      · rw [if_neg (fun q => d (em.mp q)), if_neg d]; rfl
    · rw [if_neg (show ¬ iv 1 = (0 : Int32) by decide), if_pos (show iv 1 = (1 : Int32) from rfl), if_pos (by decide : (0 : Int) ≤ 1 ∧ (1 : Int) ≤ 2)]
      show _ = some (Sum.inl (iv (if s 7 a.toNat = -1 then -1 else (pt (s 7 a.toNat)).1)))
      by_cases d : s 7 a.toNat = -1
      · rw [if_pos (em.mpr d), if_pos d]; rfl
      · rw [if_neg (fun q => d (em.mp q)), if_neg d]
        unfold g_X10_xOf
        rw [iv_x ((ko_ft hk _ h6).resolve_left d)]; rfl
    · rw [if_neg (show ¬ iv 2 = (0 : Int32) by decide), if_neg (show ¬ iv 2 = (1 : Int32) by decide), if_pos (show iv 2 = (2 : Int32) from rfl), if_pos (by decide : (0 : Int) ≤ 2 ∧ (2 : Int) ≤ 2)]
      show _ = some (Sum.inl (iv (if s 7 a.toNat = -1 then -1 else (pt (s 7 a.toNat)).2)))
      by_cases d : s 7 a.toNat = -1
      · rw [if_pos (em.mpr d), if_pos d]; rfl
      · rw [if_neg (fun q => d (em.mp q)), if_neg d]
        unfold g_X10_yOf
        rw [iv_y ((ko_ft hk _ h6).resolve_left d)]; rfl
    · have e : ∀ n : Int, IB n → 0 ≤ n ∧ n ≤ 2 → ¬ iv w = iv n := fun n hn h2 q => by
        have := (iv_eq hw hn).mp q
        omega
      rw [if_neg h, if_neg (show ¬ iv w = (0 : Int32) from e 0 (by decide) (by decide)), if_neg (show ¬ iv w = (1 : Int32) from e 1 (by decide) (by decide)), if_neg (show ¬ iv w = (2 : Int32) from e 2 (by decide) (by decide))]
      rfl
  · rw [if_neg (show ¬ (0 ≤ a ∧ a < s 8 0) from c), if_neg c, if_pos rfl]
    rfl
def ptA (s : MSt) (p w : Int) : Int := if w = 0 then s 0 p.toNat else if w = 1 then s 1 p.toNat else if w = 2 then s 2 p.toNat else s 3 p.toNat
def oPoint (s : MSt) (x y w : Int) : Nat × Int := if paS x y ≠ -1 ∧ (0 ≤ w ∧ w ≤ 3) then (0, ptA s (paS x y) w) else (1, 0)
theorem cq_point (hC : CS s z f) {x y w : Int} (hx : IB x) (hy : IB y) (hw : IB w) : g_X10_point (iv x) (iv y) (iv w) z f = some (rsC [nIAE] (oPoint s x y w).1 (oPoint s x y w).2) := by
  unfold g_X10_point oPoint
  rw [cp_pt hx hy, Option.bind_some]
  by_cases c : paS x y = -1
  · rw [if_pos (show iv (paS x y) = (-1 : Int32) by rw [c]; rfl), if_neg (fun q : paS x y ≠ -1 ∧ (0 ≤ w ∧ w ≤ 3) => q.1 c)]
    rfl
  have hp := ((paS_cs x y).resolve_left (fun h => c h.1)).1
  have hL := cs_lf hC
  rw [if_neg (fun e => c ((m1_iv (by unfold nB at hp; omega)).mp e)), rdP (mp := s 0) hL.1.1 hp, rdP (mp := s 1) hL.1.2.1 hp, rdP (mp := s 2) hL.1.2.2.1 hp, rdP (mp := s 3) hL.1.2.2.2 hp]
  have al : w = 0 ∨ w = 1 ∨ w = 2 ∨ w = 3 ∨ ¬ (0 ≤ w ∧ w ≤ 3) := by omega
  rcases al with rfl | rfl | rfl | rfl | h
  · rw [if_pos (show paS x y ≠ -1 ∧ (0 ≤ (0 : Int) ∧ (0 : Int) ≤ 3) from ⟨c, by decide⟩)]; rfl
  · rw [if_pos (show paS x y ≠ -1 ∧ (0 ≤ (1 : Int) ∧ (1 : Int) ≤ 3) from ⟨c, by decide⟩)]; rfl
  · rw [if_pos (show paS x y ≠ -1 ∧ (0 ≤ (2 : Int) ∧ (2 : Int) ≤ 3) from ⟨c, by decide⟩)]; rfl
  · rw [if_pos (show paS x y ≠ -1 ∧ (0 ≤ (3 : Int) ∧ (3 : Int) ≤ 3) from ⟨c, by decide⟩)]; rfl
  · have e : ∀ n : Int, IB n → 0 ≤ n ∧ n ≤ 3 → ¬ iv w = iv n := fun n hn h2 q => by
      have := (iv_eq hw hn).mp q
      omega
    rw [if_neg (fun q : paS x y ≠ -1 ∧ (0 ≤ w ∧ w ≤ 3) => h q.2), if_neg (show ¬ iv w = (0 : Int32) from e 0 (by decide) (by decide)), if_neg (show ¬ iv w = (1 : Int32) from e 1 (by decide) (by decide)), if_neg (show ¬ iv w = (2 : Int32) from e 2 (by decide) (by decide)), if_neg (show ¬ iv w = (3 : Int32) from e 3 (by decide) (by decide))]
    rfl
def faA (s : MSt) (k : Nat) (w : Int) : Int := if w = 0 then s 9 k else if w = 1 then s 10 k else if w = 2 then (pt (s 11 k)).1 else (pt (s 11 k)).2
def oFall (s : MSt) (k w : Int) : Nat × Int := if 0 ≤ k ∧ k < min (s 8 12) 40 then (if 0 ≤ w ∧ w ≤ 3 then (0, faA s k.toNat w) else (2, 0)) else (1, 0)
def FP (s : MSt) : Prop := ∀ k : Nat, (k : Int) < s 8 12 → s 11 k ≠ -1
theorem cq_fall (hk : KO s) (hF : FP s) (hC : CS s z f) {k w : Int} (hkk : IB k) (hw : IB w) : g_X10_fall (iv k) (iv w) z f = some (rsC [nIOB, nIAE] (oFall s k w).1 (oFall s k w).2) := by
  have h8 := ko_8 hk
  unfold g_X10_fall oFall g_X1_kept g_X10_fall_b15
  rw [Option.bind_some, cz hC 34 3 12, show (40 : Int32) = iv 40 from rfl, iv_min (by omega) (by decide)]
  have e0 : (iv k < (0 : Int32)) ↔ k < 0 := iv_lt (b := 0) hkk (by decide)
  have e1 : (iv k < iv (min (s 8 12) 40)) ↔ k < min (s 8 12) 40 := iv_lt hkk (by omega)
  by_cases c : k < 0
  · rw [if_pos (e0.mpr c), if_neg (by omega)]; rfl
  rw [if_neg (fun q => c (e0.mp q))]
  by_cases d : k < min (s 8 12) 40
  · have ek : k = (k.toNat : Int) := by omega
    have h40 : k.toNat < 40 := by omega
    rw [if_pos (e1.mpr d), if_pos (show 0 ≤ k ∧ k < min (s 8 12) 40 by omega)]
    have hn : nB (s 11 k.toNat) := by
      have h1 : -1 ≤ s 11 k.toNat ∧ s 11 k.toNat ≤ 399 := hk 11 _
      have h2 := hF k.toNat (by omega)
      unfold nB; omega
    have e9 : rdR 40 (f 36) (iv k) = iv (s 9 k.toNat) := by rw [ek, rdR_iv h40 (by decide), Int.toNat_natCast]; exact ca hC 36 9 40 (by decide) _ h40
    have e10 : rdR 40 (f 38) (iv k) = iv (s 10 k.toNat) := by rw [ek, rdR_iv h40 (by decide), Int.toNat_natCast]; exact ca hC 38 10 40 (by decide) _ h40
    have e11 : rdR 40 (f 40) (iv k) = iv (s 11 k.toNat) := by rw [ek, rdR_iv h40 (by decide), Int.toNat_natCast]; exact ca hC 40 11 40 (by decide) _ h40
    unfold g_X10_xOf g_X10_yOf
    rw [e9, e10, e11, iv_x hn, iv_y hn]
    have al : w = 0 ∨ w = 1 ∨ w = 2 ∨ w = 3 ∨ ¬ (0 ≤ w ∧ w ≤ 3) := by omega
    rcases al with rfl | rfl | rfl | rfl | h
    · rfl
    · rfl
    · rfl
    · rfl
    · have e : ∀ n : Int, IB n → 0 ≤ n ∧ n ≤ 3 → ¬ iv w = iv n := fun n hn h2 q => by
        have := (iv_eq hw hn).mp q
        omega
      rw [if_neg (show ¬ iv w = (0 : Int32) from e 0 (by decide) (by decide)), if_neg (show ¬ iv w = (1 : Int32) from e 1 (by decide) (by decide)), if_neg (show ¬ iv w = (2 : Int32) from e 2 (by decide) (by decide)), if_neg (show ¬ iv w = (3 : Int32) from e 3 (by decide) (by decide)), if_neg h]
      rfl
  · rw [if_neg (fun q => d (e1.mp q)), if_neg (by omega)]; rfl
theorem cq_isStable (hk : KO s) (hC : CS s z f) : ∃ z' f', g_X10_isStable z f = some (if stB s (-1) then 1 else 0, z', f') ∧ CJ z f z' f' := by
  obtain ⟨z1, f1, m, c', e, hj, -⟩ := cp_holds (a0 := 22) (Or.inl rfl) (ko_bd hk) (cs_lf hC) (cs_ps hC) (but := -1) (by decide)
  unfold g_X10_isStable
  rw [show (-1 : Int32) = iv (-1) from rfl, e, bn3_some, rtZw_b]
  exact ⟨z1, f1, rfl, cj_hj hj⟩
theorem cq_isStableAnew (hk : KO s) (hC : CS s z f) : ∃ z' f', g_X10_isStableAnew z f = some (if stB s (-1) then 1 else 0, z', f') ∧ CJ z f z' f' := by
  have hB := ko_bd hk
  unfold g_X10_isStableAnew g_X6_gather lt2
  dsimp only
  rw [cp_mx (cs_lf hC) (cs_ps hC), Option.bind_some, cp_my (cs_lf hC) (cs_ps hC), Option.bind_some, cp_w (cs_lf hC), Option.bind_some]
  obtain ⟨c30, c32, e, hp⟩ := pc_8 (ft := s 7) (w := wS s) (mx := mxS s) (my := myS s) (a1 := 23) (by decide) (by decide) hB.2.2.2 6 FU 0 [] (up2 z 28 2 0) f (by decide) (by decide) (by decide) (fun j hj => (cs_ps hC).2.2 j hj) up2_same (fun j h => absurd h (Nat.not_lt_zero j))
  rw [show iv ((0 : Nat) : Int) = (0 : Int32) from rfl] at e
  have hl : ([] ++ (flN (s 7) (-1) 6 0).map pt : List Pt).length ≤ 6 := by
    rw [List.nil_append, List.length_map]
    exact flN_len 6 0
  have hpb : ∀ a ∈ ([] ++ (flN (s 7) (-1) 6 0).map pt : List Pt), pB a := fun a ha => by
    rw [List.nil_append] at ha
    obtain ⟨q, hq, rfl⟩ := List.mem_map.mp ha
    have := pt_bd (fls_nB hB.2.2.2 q hq)
    unfold pB
    omega
  rw [e, bn2_some, pc_holds (bd_m hB) hpb hl hp up2_same, Option.bind_some]
  refine ⟨_, _, rtZw_b, ?_⟩
  rw [up2_up2]
  exact cj_tr (cj_z (by decide +kernel) (by decide)) (cj_tr (cj_f (by decide +kernel) (by decide)) (cj_f (by decide +kernel) (by decide)))
/-- a corner: the number of the corners, and which they are, say it -/
def coA (m : Nat) (c : Nat → Int) (a : Int) : Int := if (m : Int) ≤ a then -1 else c a.toNat
theorem cq_corner (hk : KO s) (hC : CS s z f) {a : Int} (ha : IB a) : ∃ z' f' m c, corAt (s 7) (-1) m c ∧ g_X10_corner (iv a) z f = some (rsC [nIAE] (if 0 ≤ a then 0 else 1) (coA m c a), z', f') ∧ CJ z f z' f' := by
  obtain ⟨m, c, c5, c3, q1, q2, q3, q4⟩ := cw_wrap (ft := s 7) (but := -1) (by decide) (a1 := 23) (by decide) (ko_ft hk) (z := z) (f := f) (cs_ps hC).2.2
  have hj : HJ z f (up2 z 1 2 (iv (m : Nat))) (upa (upa f 5 c5) 3 c3) := hj_mk
  unfold g_X10_corner
  have e0 : ((0 : Int32) ≤ iv a) ↔ 0 ≤ a := iv_le (a := 0) (by decide) ha
  by_cases h : 0 ≤ a
  · rw [if_pos (e0.mpr h), if_pos h, show (-1 : Int32) = iv (-1) from rfl, q3, bn2_some, up2_same]
    have e1 : (iv (m : Nat) ≤ iv a) ↔ (m : Int) ≤ a := iv_le (by omega) ha
    refine ⟨_, _, m, c, q1, ?_, cj_hj hj⟩
    unfold coA
    by_cases d : (m : Int) ≤ a
    · rw [if_pos (e1.mpr d), if_pos d]; rfl
    · have ea : a = (a.toNat : Int) := by omega
      rw [if_neg (fun q => d (e1.mp q)), if_neg d, upa_same]
      have : rdR 7 c3 (iv a) = iv (c a.toNat) := by
        rw [ea, rdR_iv (by omega) (by decide), Int.toNat_natCast]
        exact q4 _ (by omega)
      rw [this]
      rfl
  · rw [if_neg (fun q => h (e0.mp q)), if_neg h]
    exact ⟨z, f, m, c, q1, rfl, cj_rf⟩
/-! what would be -/
def swN : Nat → MSt → MSt
  | 0, s => s
  | n + 1, s => if mk (skS s) = 0 then s else swN n (ur s 7 (raS (s 7) (skS s)))
def woA (s : MSt) (k : Nat) : Int := if mlP s k then (if mk (skS (us s 7 k (-1))) = 0 then 0 else if stB (swN 6 (us s 7 k (-1))) (-1) = true then 1 else 2) else -1
theorem ko_ra (h : KO s) {σ : Nat → Bool} : KO (ur s 7 (raS (s 7) σ)) := ko_ur7 h fun k => by
  unfold raS
  split
  · decide
  · exact h 7 k
theorem ko_sw : ∀ n {s : MSt}, KO s → KO (swN n s)
  | 0, _, h => h
  | n + 1, s, h => by
    unfold swN
    split
    · exact h
    · exact ko_sw n (ko_ra h)
theorem cd_sw : ∀ (n fu i : Nat) (s : MSt) (z f : Nat → Nat → Int32) (x : Int32), i + n = 6 → n < fu → KO s → LF s z f → PS 25 s z f → ∃ c, g_X9_sinkAway_l9 fu 25 x (mk (skS s)) (iv i) z f = some (if x = 0 then 0 else 1, z, upa f 27 c) ∧ PS 25 (swN n s) z (upa f 27 c) ∧ LF (swN n s) z (upa f 27 c) := by
  intro n
  have idf : ∀ {f : Nat → Nat → Int32}, upa f 27 (f 27) = f := fun {f} => by
    funext b
    unfold upa
    by_cases q : b = 27
    · rw [if_pos q, q]
    · rw [if_neg q]
  have fin : ∀ {z f : Nat → Nat → Int32} {x : Int32}, g_X9_sinkAway_b35 x z f = some (if x = 0 then 0 else 1, z, f) := fun {z f x} => by
    unfold g_X9_sinkAway_b35
    split <;> rfl
  induction n with
  | zero =>
    intro fu i s z f x hi hf hk hL hP
    obtain ⟨fu, rfl⟩ : ∃ x, fu = x + 1 := ⟨fu - 1, by omega⟩
    obtain rfl : i = 6 := by omega
    refine ⟨f 27, ?_⟩
    rw [g_X9_sinkAway_l9, if_pos y6, ite_self, idf, fin]
    exact ⟨rfl, hP, hL⟩
  | succ n ih =>
    intro fu i s z f x hi hf hk hL hP
    obtain ⟨fu, rfl⟩ : ∃ x, fu = x + 1 := ⟨fu - 1, by omega⟩
    rw [g_X9_sinkAway_l9, if_neg (n6 (by omega))]
    unfold swN
    by_cases c : mk (skS s) = 0
    · refine ⟨f 27, ?_⟩
      rw [if_pos c, if_pos c, idf, fin]
      exact ⟨rfl, hP, hL⟩
    · obtain ⟨c1, e1, g1⟩ := ct_raise (σ := skS s) (a0 := 25) (z := z) 6 FU 0 f (s 7) (by decide) (by decide) hP.2.2
      rw [show iv ((0 : Nat) : Int) = (0 : Int32) from rfl] at e1
      have hP2 : PS 25 (ur s 7 (raS (s 7) (skS s))) z (upa f 27 c1) := ⟨hP.1, hP.2.1, fun k hk => by
        rw [upa_same, ur_at, g1 k hk]
        unfold raS
        simp⟩
      have hL2 : LF (ur s 7 (raS (s 7) (skS s))) z (upa f 27 c1) := hL
      have hk2 := ko_ra hk (σ := skS s)
      obtain ⟨c2, e2, p2, l2⟩ := ih fu (i + 1) _ z (upa f 27 c1) x (by omega) (by omega) hk2 hL2 hP2
      rw [upa_upa] at e2 p2 l2
      refine ⟨c2, ?_⟩
      rw [if_neg c, if_neg c]
      unfold g_X9_raise
      rw [e1, bn2_some, cp_sink (ko_bd hk2) hL2 hP2, Option.bind_some, iv_1]
      exact ⟨e2, p2, l2⟩
def oWould (s : MSt) (a : Int) : Nat × Int := if lgP s a then (0, woA s a.toNat) else (1, 0)
theorem cq_would (hk : KO s) (hC : CS s z f) {a : Int} (ha : IB a) : ∃ z' f', g_X10_wouldLift (iv a) z f = some (rsC [nIOB] (oWould s a).1 (oWould s a).2, z', f') ∧ CJ z f z' f' := by
  unfold g_X10_wouldLift oWould
  rw [cd_isLeg hk hC ha, Option.bind_some]
  by_cases c : lgP s a
  · obtain ⟨ea, h6⟩ := lg_nat hk c
    obtain ⟨z1, f1, e1, j1⟩ := cd_mayLift hk hC h6
    have hC1 := cj_cs j1 hC
    have e1' : g_X10_mayLift (iv a) z f = some (if mlP s a.toNat then 1 else 0, z1, f1) := (congrArg (fun q => g_X10_mayLift (iv q) z f) ea).trans e1
    rw [if_pos (show 0 ≤ a ∧ a < s 8 0 from c), if_neg (by decide), if_pos c, e1', bn3_some]
    unfold woA
    by_cases d : mlP s a.toNat
    · obtain ⟨z2, f2, e2, p2, rfl, c', rfl⟩ := cp_copy (a0 := 25) (a1 := 22) (by decide) (cs_ps hC1)
      have j2 : CJ z1 f1 (up2 (up2 z1 25 4 (iv (s 8 4))) 25 5 (iv (s 8 5))) (upa f1 27 c') := cj_copy25
      have ew : wrR (upa f1 27 c') 27 6 (iv a) (-1) = upf (upa f1 27 c') 27 a.toNat (-1) := by
        rw [ea, wrR_iv h6 (by decide), Int.toNat_natCast]
      have hk3 : KO (us s 7 a.toNat (-1)) := ko_us hk (a := 7) (show (-1 : Int) ≤ -1 ∧ (-1 : Int) ≤ 399 by decide)
      have hL3 : LF (us s 7 a.toNat (-1)) (up2 (up2 z1 25 4 (iv (s 8 4))) 25 5 (iv (s 8 5))) (upf (upa f1 27 c') 27 a.toNat (-1)) := lf_us (s := s) (cs_lf (cj_cs (cj_tr j2 (cj_f (by decide +kernel) (by decide))) hC1))
      have hP3 : PS 25 (us s 7 a.toNat (-1)) (up2 (up2 z1 25 4 (iv (s 8 4))) 25 5 (iv (s 8 5))) (upf (upa f1 27 c') 27 a.toNat (-1)) := ⟨p2.1, p2.2.1, fun k hk => by
        rw [upf_up]
        show upa _ 27 _ 27 k = _
        rw [upa_same]
        unfold upd us
        by_cases e : k = a.toNat
        · rw [if_pos e, if_pos ⟨rfl, e⟩]; rfl
        · rw [if_neg e, if_neg (fun q => e q.2)]
          exact p2.2.2 k hk⟩
      obtain ⟨c2, e4, p4, l4⟩ := cd_sw 6 FU 0 _ _ _ (mk (skS (us s 7 a.toNat (-1)))) (by decide) (by decide) hk3 hL3 hP3
      rw [show iv ((0 : Nat) : Int) = (0 : Int32) from rfl] at e4
      have jz : CJ z f (up2 (up2 z1 25 4 (iv (s 8 4))) 25 5 (iv (s 8 5))) (upa (upf (upa f1 27 c') 27 a.toNat (-1)) 27 c2) := cj_tr j1 (cj_tr j2 (cj_tr (cj_f (by decide +kernel) (by decide)) (cj_f (by decide +kernel) (by decide))))
      rw [if_pos d, if_neg (by decide), if_pos d, e2, bn2_some, ew, lt2_e]
      unfold g_X9_sinkAway
      rw [cp_sink (ko_bd hk3) hL3 hP3, Option.bind_some, e4, bn3_some]
      by_cases g : mk (skS (us s 7 a.toNat (-1))) = 0
      · rw [if_pos g, if_pos rfl, if_pos g]
        exact ⟨_, _, rfl, jz⟩
      · have hk4 := ko_sw 6 hk3
        obtain ⟨z5, f5, m, c5, e5, hj, -⟩ := cp_holds (a0 := 25) (Or.inr (Or.inl rfl)) (ko_bd hk4) l4 p4 (but := -1) (by decide)
        rw [show iv (-1) = (-1 : Int32) from rfl] at e5
        rw [if_neg g, if_neg (by decide), if_neg g, e5, bn3_some]
        by_cases l : stB (swN 6 (us s 7 a.toNat (-1))) (-1) = true
        · rw [if_pos l, if_neg (by decide), if_pos l]
          exact ⟨z5, f5, rfl, cj_tr jz (cj_hj hj)⟩
        · rw [if_neg l, if_pos rfl, if_neg l]
          exact ⟨z5, f5, rfl, cj_tr jz (cj_hj hj)⟩
    · rw [if_neg d, if_pos rfl, if_neg d]
      exact ⟨z1, f1, rfl, j1⟩
  · rw [if_neg (show ¬ (0 ≤ a ∧ a < s 8 0) from c), if_neg c, if_pos rfl]
    exact ⟨z, f, rfl, cj_rf⟩
end
