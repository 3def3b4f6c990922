/-! walking -/
section
variable {s : MSt} {z f : Nat → Nat → Int32}
theorem wf_phT {n : Int} (hn : n < 1000000) (h : WF n s) {i : Nat} : WF n (phT s i).2 := by
  unfold phT
  split
  · exact h
  · split
    · rename_i hp
      exact (wf_stl hn (wb_sh h hp)).1
    · exact h
theorem wf_phU {n : Int} (hn : n < 1000000) (h : WF n s) {i k : Nat} (hk : k < 6) (hl : (k : Int) < s 8 0) {q : Int} (hq : q = -1 ∨ nB q) : WF n (phU s k q i).2 := by
  unfold phU
  split
  · exact h
  · rename_i hc
    split
    · rename_i hp
      have h1 := (wf_stl hn (wb_pl h hk hl (hq.resolve_left hc) hp)).1
      split
      · exact wf_phT hn h1
      · exact h1
    · exact h
theorem lf_8s {k j : Nat} (hj : j ≠ 6 ∧ j ≠ 7 ∧ j ≠ 8 ∧ j ≠ 9 ∧ j ≠ 10 ∧ j ≠ 11 ∧ j ≠ 12) : stlS (lfS s k) 8 j = s 8 j := by
  rw [stl_o ⟨by decide, by decide, by decide, by decide, by decide, by decide, fun _ => ⟨hj.1, hj.2.2.1, hj.2.2.2.1, hj.2.2.2.2.1, hj.2.2.2.2.2.1, hj.2.2.2.2.2.2⟩⟩, lf_8 ⟨hj.2.1, hj.2.2.2.2.2.1⟩]
theorem leg_of (hG : LG s) {k : Nat} (hk : k < 6) (h : s 7 k ≠ -1) : (k : Int) < s 8 0 := by
  apply Classical.byContradiction
  intro q
  exact h (hG k hk (by omega))
theorem wf_phS {n : Int} (hn : n < 1000000) (h : WF n s) {i k : Nat} (hk : k < 6) : WF n (phS s i k).2 := by
  unfold phS
  split
  · rename_i hp
    have h1 := (wf_stl hn (wb_lf h hp)).1
    split
    · exact wf_phU hn h1 hk (by rw [lf_8s (by decide)]; exact leg_of h.2.1.2.1 hk hp.2.2.1) ((paS_cs _ _).imp (fun h => h.1) (fun h => h.1))
    · exact h1
  · exact h
theorem pl_8s {k : Nat} {p : Int} {j : Nat} (hj : j ≠ 6 ∧ j ≠ 7 ∧ j ≠ 8 ∧ j ≠ 9 ∧ j ≠ 10 ∧ j ≠ 11 ∧ j ≠ 12) : stlS (plS s k p) 8 j = s 8 j := by
  rw [stl_o ⟨by decide, by decide, by decide, by decide, by decide, by decide, fun _ => ⟨hj.1, hj.2.2.1, hj.2.2.2.1, hj.2.2.2.2.1, hj.2.2.2.2.2.1, hj.2.2.2.2.2.2⟩⟩, pl_o ⟨by decide, by decide, fun _ => ⟨hj.2.1, hj.2.2.1, hj.2.2.2.1, hj.2.2.2.2.1, hj.2.2.2.2.2.1⟩⟩]
theorem sh_8s {x y : Int} {j : Nat} (hj : j = 13 ∨ j = 14) : stlS (shS s x y) 8 j = s 8 j := by
  rw [stl_o ⟨by decide, by decide, by decide, by decide, by decide, by decide, fun _ => by omega⟩, sh_o (fun _ => by omega)]
theorem ph_8 {i k j : Nat} (hj : j = 13 ∨ j = 14) : (phS s i k).2 8 j = s 8 j := by
  have hT : ∀ {s : MSt}, (phT s i).2 8 j = s 8 j := fun {s} => by
    unfold phT
    split
    · rfl
    · split
      · exact sh_8s hj
      · rfl
  have hU : ∀ {s : MSt} {q : Int}, (phU s k q i).2 8 j = s 8 j := fun {s q} => by
    unfold phU
    split
    · rfl
    · split
      · split
        · rw [hT, pl_8s (by omega)]
        · exact pl_8s (by omega)
      · rfl
  unfold phS
  split
  · split
    · rw [hU, lf_8s (by omega)]
    · exact lf_8s (by omega)
  · rfl
theorem wf_go {n : Int} (h : WF n s) (h13 : s 8 14 < s 8 13) : WF n (goS s) := by
  have h8 := ko_8 h.1.1
  have o : ∀ a j, (a = 8 → j ≠ 14) → goS s a j = s a j := fun a j h => by
    unfold goS
    by_cases e : a = 8
    · subst e; rw [us_nk (h rfl)]
    · rw [us_na e]
  obtain ⟨hA, hW, hU, hS, hN⟩ := h
  refine ⟨ai_go hA, w0_cg (fun _ => o _ _ (fun e => absurd e (by decide))) (fun _ => o _ _ (fun e => absurd e (by decide))) (fun j hj => o _ _ (fun _ => by omega)) hW, fun q k hk => ?_, fun q => ?_, ?_⟩
  · rw [o 7 k (fun e => absurd e (by decide))]
    exact hU (by rw [← o 8 6 (by decide)]; exact q) k hk
  · rw [stB_cg (s := s) (funext fun k => o 7 k (fun e => absurd e (by decide))) (fun j h1 h2 => o 8 j (fun _ => by omega))]
    exact hS (by rw [← o 8 6 (by decide)]; exact q)
  · unfold NX
    rw [o 8 13 (by decide)]
    unfold goS
    rw [us_at]
    split
    · exact Or.inr rfl
    · exact Or.inl (by omega)
theorem ix_40 {a : Int} {n i : Nat} (ha : a = (n : Nat)) (hn : n < 8) (hi : i < 5) : ixA 40 (iv (5 * a + i)) = some (5 * n + i) := by
  have : 5 * a + (i : Int) = ((5 * n + i : Nat) : Int) := by omega
  rw [this]
  exact ix_iv (by omega) (by decide)
theorem mo_phT {n : Int} (hn : n < 1000000) (hW : WF n s) (h : MS s z f) {i : Nat} (hi : i < 8) (hi2 : (i : Int) < s 8 13) {a : Int} (ha : a = (i : Nat)) : ∃ z' f', (if f 77 (5 * i + 3) = 0 then (if f 77 (5 * i + 4) = 0 then g_X11_walks_b128 (iv (5 * a)) 0 z f else g_X11_walks_b123 (iv (5 * a)) z f) else g_X11_walks_b123 (iv (5 * a)) z f) = some (if (phT s i).1 = true then 1 else 0, z', f') ∧ MS (phT s i).2 z' f' ∧ Fc z f z' f' := by
  obtain ⟨-, -, -, p3, p4⟩ := h.2.2.2.2.2 i hi hi2
  have b15 : -1 ≤ s 15 i ∧ s 15 i ≤ 1 := hW.1.1 15 i
  have b16 : -1 ≤ s 16 i ∧ s 16 i ≤ 1 := hW.1.1 16 i
  have go : ¬ (s 15 i = 0 ∧ s 16 i = 0) → ∃ z' f', g_X11_walks_b123 (iv (5 * a)) z f = some (if (phT s i).1 = true then 1 else 0, z', f') ∧ MS (phT s i).2 z' f' ∧ Fc z f z' f' := fun hne => by
    obtain ⟨z1, f1, e1, m1, c1⟩ := mo_shifts hn hW h b15 b16
    unfold g_X11_walks_b123 g_X11_walks_b128 phT
    rw [if_neg (by decide), if_neg hne, show (3 : Int32) = iv ((3 : Nat) : Int) from rfl, show (4 : Int32) = iv ((4 : Nat) : Int) from rfl, iv_add, iv_add, ix_40 ha hi (by decide), Option.bind_some, ix_40 ha hi (by decide), Option.bind_some, p3, p4, e1, bn3_some]
    by_cases d : shP s (s 15 i) (s 16 i)
    · rw [if_pos d] at m1
      have b11 := (ko_8 (wf_stl hn (wb_sh hW d)).1.1.1).2.2.2.2.2.2.1
      rw [if_pos d, if_neg (by decide), if_pos d, mz m1.1 22 11]
      by_cases g : stlS (shS s (s 15 i) (s 16 i)) 8 11 = 0
      · rw [if_pos ((z_iv (by omega)).mpr g)]
        exact ⟨z1, f1, by simp [g], m1, c1⟩
      · rw [if_neg (fun e => g ((z_iv (by omega)).mp e))]
        exact ⟨z1, f1, by simp [g], m1, c1⟩
    · rw [if_neg d] at m1
      rw [if_neg d, if_pos rfl, if_neg d]
      exact ⟨z1, f1, rfl, m1, c1⟩
  rw [p3, p4]
  by_cases c : s 15 i = 0
  · rw [if_pos ((z_iv (by omega)).mpr c)]
    by_cases d : s 16 i = 0
    · have e : phT s i = (true, s) := if_pos ⟨c, d⟩
      rw [if_pos ((z_iv (by omega)).mpr d), e]
      unfold g_X11_walks_b128
      rw [if_pos rfl]
      exact ⟨z, f, rfl, h, fc_rf⟩
    · rw [if_neg (fun e => d ((z_iv (by omega)).mp e))]
      exact go (fun q => d q.2)
  · rw [if_neg (fun e => c ((z_iv (by omega)).mp e))]
    exact go (fun q => c q.1)
theorem mo_walks {n : Int} (hn : n < 1000000) (hW : WF n s) (h : MS s z f) (h13 : s 8 14 < s 8 13) : ∃ z' f', g_X11_walks z f = some (if (phS s (s 8 14).toNat (s 12 (s 8 14).toNat).toNat).1 = true then 1 else 0, z', f') ∧ MS (phS s (s 8 14).toNat (s 12 (s 8 14).toNat).toNat).2 z' f' ∧ Fc z f z' f' := by
  have hk := hW.1.1
  have h8 := ko_8 hk
  have ha : s 8 14 = ((s 8 14).toNat : Nat) := by omega
  generalize hi0 : (s 8 14).toNat = i at ha ⊢
  have hi : i < 8 := by omega
  have b12 : 0 ≤ s 12 i ∧ s 12 i ≤ 5 := hk 12 i
  have b13 : -6 ≤ s 13 i ∧ s 13 i ≤ 6 := hk 13 i
  have b14 : -6 ≤ s 14 i ∧ s 14 i ≤ 6 := hk 14 i
  have e12 : s 12 i = ((s 12 i).toNat : Int) := by omega
  generalize hk0 : (s 12 i).toNat = k at e12 ⊢
  have h6 : k < 6 := by omega
  obtain ⟨p0, p1, p2, -, -⟩ := h.2.2.2.2.2 i hi (by omega)
  have ix : ∀ j : Nat, j < 5 → ixA 40 (iv (5 * s 8 14 + j)) = some (5 * i + j) := fun j hj => ix_40 ha hi hj
  have i0 := ix 0 (by decide)
  rw [show 5 * s 8 14 + ((0 : Nat) : Int) = 5 * s 8 14 by omega, Nat.add_zero] at i0
  unfold g_X11_walks phS
  rw [mz h.1 26 14, show (5 : Int32) = iv 5 from rfl, iv_mul, show (1 : Int32) = iv ((1 : Nat) : Int) from rfl, show (2 : Int32) = iv ((2 : Nat) : Int) from rfl, show (3 : Int32) = iv ((3 : Nat) : Int) from rfl, show (4 : Int32) = iv ((4 : Nat) : Int) from rfl, iv_add, iv_add, iv_add, iv_add, i0, Option.bind_some, ix 1 (by decide), ix 2 (by decide), ix 3 (by decide), ix 4 (by decide), p0, e12, mo_down h.2.1 h6, Option.bind_some]
  by_cases c : s 7 k = -1
  · rw [if_neg (show ¬ s 7 k ≠ -1 from fun q => q c), if_pos rfl, if_neg (fun q : mlP s k => q.2.2.1 c)]
    exact ⟨z, f, rfl, h, fc_rf⟩
  have hl := leg_of hW.2.1.2.1 h6 c
  obtain ⟨f1, f2⟩ := h.2.2.1 k h6 c
  obtain ⟨z1, g1, e1, m1, c1⟩ := mo_lifts hn hW h h6
  rw [if_pos (show s 7 k ≠ -1 from c), if_neg (by decide), ix_iv h6 (by decide), Option.bind_some, Option.bind_some, Option.bind_some, Option.bind_some, e1, bn3_some, f1, f2, p1, p2, iv_add, iv_add]
  by_cases d : mlP s k
  · rw [if_pos d] at m1
    have hW1 := (wf_stl hn (wb_lf hW d)).1
    have b11 := (ko_8 hW1.1.1).2.2.2.2.2.2.1
    have hnb : nB (s 7 k) := ((ko_ft hk) _ h6).resolve_left c
    have pb := pt_bd hnb
    rw [if_pos d, if_neg (by decide), if_pos d, mz m1.1 22 11]
    have e0 : ((0 : Int32) < iv (stlS (lfS s k) 8 11)) ↔ 0 < stlS (lfS s k) 8 11 := iv_lt (a := 0) (by decide) (by omega)
    by_cases g : stlS (lfS s k) 8 11 = 0
    · rw [if_neg (fun q => by have := e0.mp q; omega), if_pos g, mo_isPt (by omega) (by omega), Option.bind_some]
      unfold phU
      by_cases l : paS ((pt (s 7 k)).1 + s 13 i) ((pt (s 7 k)).2 + s 14 i) = -1
      · rw [if_neg (show ¬ paS ((pt (s 7 k)).1 + s 13 i) ((pt (s 7 k)).2 + s 14 i) ≠ -1 from fun q => q l), if_pos rfl, if_pos l]
        exact ⟨z1, g1, rfl, m1, c1⟩
      · have hp := (paS_cs ((pt (s 7 k)).1 + s 13 i) ((pt (s 7 k)).2 + s 14 i)).resolve_left (fun h => l h.1)
        obtain ⟨z3, g3, e3, m3, c3⟩ := mo_places hn hW1 m1 h6 (by rw [lf_8s (by decide)]; exact hl) hp.1
        rw [hp.2.1] at e3
        rw [if_pos (show paS ((pt (s 7 k)).1 + s 13 i) ((pt (s 7 k)).2 + s 14 i) ≠ -1 from l), if_neg (by decide), if_neg l, e3, bn3_some]
        by_cases j : plP (stlS (lfS s k)) k (paS ((pt (s 7 k)).1 + s 13 i) ((pt (s 7 k)).2 + s 14 i))
        · rw [if_pos j] at m3
          have hW3 := (wf_stl hn (wb_pl hW1 h6 (by rw [lf_8s (by decide)]; exact hl) hp.1 j)).1
          have b11' := (ko_8 hW3.1.1).2.2.2.2.2.2.1
          rw [if_pos j, if_neg (by decide), if_pos j, mz m3.1 22 11]
          have e0' : (iv (stlS (plS (stlS (lfS s k)) k (paS ((pt (s 7 k)).1 + s 13 i) ((pt (s 7 k)).2 + s 14 i))) 8 11) ≤ (0 : Int32)) ↔ stlS (plS (stlS (lfS s k)) k (paS ((pt (s 7 k)).1 + s 13 i) ((pt (s 7 k)).2 + s 14 i))) 8 11 ≤ 0 := iv_le (b := 0) (by omega) (by decide)
          by_cases r : stlS (plS (stlS (lfS s k)) k (paS ((pt (s 7 k)).1 + s 13 i) ((pt (s 7 k)).2 + s 14 i))) 8 11 = 0
          · rw [if_pos (e0'.mpr (by omega)), if_pos r, Option.bind_some, Option.bind_some]
            obtain ⟨z5, g5, e5, m5, c5⟩ := mo_phT hn hW3 m3 hi (by rw [pl_8s (by decide), lf_8s (by decide)]; omega) ha
            exact ⟨z5, g5, e5, m5, fc_tr c1 (fc_tr c3 c5)⟩
          · rw [if_neg (fun q => by have := e0'.mp q; omega), if_neg r]
            exact ⟨z3, g3, rfl, m3, fc_tr c1 c3⟩
        · rw [if_neg j] at m3
          rw [if_neg j, if_pos rfl, if_neg j]
          exact ⟨z3, g3, rfl, m3, fc_tr c1 c3⟩
    · rw [if_pos (e0.mpr (by omega)), if_neg g]
      exact ⟨z1, g1, rfl, m1, c1⟩
  · rw [if_neg d] at m1
    rw [if_neg d, if_pos rfl, if_neg d]
    exact ⟨z1, g1, rfl, m1, c1⟩
theorem wf_wk {n : Int} (hn : n < 1000000) : ∀ m d {s : MSt}, WF n s → s 8 14 < s 8 13 → WF n (wkN m d s).2
  | 0, _, _, h, _ => h
  | m + 1, d, s, h, h13 => by
    have b12 : 0 ≤ s 12 (s 8 14).toNat ∧ s 12 (s 8 14).toNat ≤ 5 := h.1.1 12 _
    have h1 := wf_phS hn h (i := (s 8 14).toNat) (k := (s 12 (s 8 14).toNat).toNat) (by omega)
    have o13 : (phS s (s 8 14).toNat (s 12 (s 8 14).toNat).toNat).2 8 13 = s 8 13 := ph_8 (Or.inl rfl)
    have o14 : (phS s (s 8 14).toNat (s 12 (s 8 14).toNat).toNat).2 8 14 = s 8 14 := ph_8 (Or.inr rfl)
    unfold wkN
    split
    · have hg := wf_go h1 (by rw [o13, o14]; exact h13)
      refine wf_wk hn m (d + 1) hg ?_
      rcases hg.2.2.2.2 with q | q
      · exact q
      · rw [q]
        have : goS (phS s (s 8 14).toNat (s 12 (s 8 14).toNat).toNat).2 8 13 = s 8 13 := by unfold goS; rw [us_nk (by decide), o13]
        rw [this]
        have := (ko_8 h.1.1).2.2.2.2.2.2.2.2.2
        omega
    · exact h1
theorem mo_walk {n : Int} (hn : n < 1000000) : ∀ (m fu d : Nat) (s : MSt) (z f : Nat → Nat → Int32), m < fu → m + d ≤ 20 → WF n s → s 8 14 < s 8 13 → MS s z f → ∃ z' f', g_X11_walk_l37 fu (iv ((m + d : Nat) : Int)) (iv d) z f = some (iv (wkN m d s).1, z', f') ∧ MS (wkN m d s).2 z' f' ∧ Fc z f z' f' := by
  intro m
  induction m with
  | zero =>
    intro fu d s z f hf hd hW h13 h
    obtain ⟨fu, rfl⟩ : ∃ x, fu = x + 1 := ⟨fu - 1, by omega⟩
    rw [g_X11_walk_l37, if_pos ((iv_le (ibn (by omega)) (ibn (by omega))).mpr (by omega))]
    exact ⟨z, f, rfl, h, fc_rf⟩
  | succ m ih =>
    intro fu d s z f hf hd hW h13 h
    obtain ⟨fu, rfl⟩ : ∃ x, fu = x + 1 := ⟨fu - 1, by omega⟩
    have h8 := ko_8 hW.1.1
    have b12 : 0 ≤ s 12 (s 8 14).toNat ∧ s 12 (s 8 14).toNat ≤ 5 := hW.1.1 12 _
    obtain ⟨z1, f1, e1, m1, c1⟩ := mo_walks hn hW h h13
    have hW1 := wf_phS hn hW (i := (s 8 14).toNat) (k := (s 12 (s 8 14).toNat).toNat) (by omega)
    have o13 : (phS s (s 8 14).toNat (s 12 (s 8 14).toNat).toNat).2 8 13 = s 8 13 := ph_8 (Or.inl rfl)
    have o14 : (phS s (s 8 14).toNat (s 12 (s 8 14).toNat).toNat).2 8 14 = s 8 14 := ph_8 (Or.inr rfl)
    rw [g_X11_walk_l37, if_neg (fun e => by have := (iv_le (ibn (by omega)) (ibn (by omega))).mp e; omega)]
    unfold wkN
    rw [e1, bn3_some]
    by_cases c : (phS s (s 8 14).toNat (s 12 (s 8 14).toNat).toNat).1 = true
    · have hg := wf_go hW1 (by rw [o13, o14]; exact h13)
      have hg13 : goS (phS s (s 8 14).toNat (s 12 (s 8 14).toNat).toNat).2 8 14 < goS (phS s (s 8 14).toNat (s 12 (s 8 14).toNat).toNat).2 8 13 := by
        rcases hg.2.2.2.2 with q | q
        · exact q
        · rw [q]
          have : goS (phS s (s 8 14).toNat (s 12 (s 8 14).toNat).toNat).2 8 13 = s 8 13 := by unfold goS; rw [us_nk (by decide), o13]
          rw [this]
          omega
      have ez : (s 8 14 + 1) % s 8 13 = if (phS s (s 8 14).toNat (s 12 (s 8 14).toNat).toNat).2 8 13 ≤ (phS s (s 8 14).toNat (s 12 (s 8 14).toNat).toNat).2 8 14 + 1 then 0 else (phS s (s 8 14).toNat (s 12 (s 8 14).toNat).toNat).2 8 14 + 1 := by
        rw [o13, o14]
        by_cases q : s 8 13 ≤ s 8 14 + 1
        · rw [if_pos q, show s 8 14 + 1 = s 8 13 by omega, Int.emod_self]
        · rw [if_neg q, Int.emod_eq_of_lt (by omega) (by omega)]
      have g2 := ms_sc m1 (c := 26) (j := 14) (v := (s 8 14 + 1) % s 8 13) (by decide) (by decide)
      rw [ez] at g2
      obtain ⟨z3, f3, e3, m3, c3⟩ := ih fu (d + 1) _ _ f1 (by omega) (by omega) hg hg13 g2
      rw [if_pos c, if_neg (by decide), if_pos c, mz m1.1 25 13, mz m1.1 26 14, o13, o14, if_neg (fun e => by have := (z_iv (by omega)).mp e; omega), lt2_e, iv_1 d, show (1 : Int32) = iv 1 from rfl, iv_add, iv_rem (by omega) (by omega) (by omega) (by omega), ez, show m + 1 + d = m + (d + 1) by omega]
      exact ⟨z3, f3, e3, m3, fc_tr c1 (fc_tr fc_z c3)⟩
    · rw [if_neg c, if_pos rfl, if_neg c]
      exact ⟨z1, f1, rfl, m1, c1⟩
theorem mq_walk {n : Int} (hn : n < 1000000) (hW : WF n s) (h : MS s z f) {a : Int} (ha : IB a) : MR (g_X11_walk (iv a) z f) z f (oWalk s a) := by
  have h8 := ko_8 hW.1.1
  unfold g_X11_walk oWalk g_X11_walk_b27
  rw [mo_isIn 1 20 (x := 1) (y := 20) ha (by decide) (by decide) rfl rfl, Option.bind_some, mz h.1 25 13]
  by_cases c : 1 ≤ a ∧ a ≤ 20
  · rw [if_pos c, if_neg (by decide), if_pos c]
    by_cases d : s 8 13 = 0
    · rw [if_pos ((z_iv (by omega)).mpr d), if_pos d, fl_2, bn3_some, if_neg (by decide)]
      exact mr_bad (by decide) h fe_rf
    · have h13 : s 8 14 < s 8 13 := by
        rcases hW.2.2.2.2 with q | q
        · exact q
        · omega
      obtain ⟨z1, f1, e1, m1, c1⟩ := mo_walk hn a.toNat FU 0 s _ f (by show _ < 2000; omega) (by omega) hW h13 (ms_30 h (v := iv ((0 : Nat) : Int)))
      rw [show ((a.toNat + 0 : Nat) : Int) = a by omega, show iv ((0 : Nat) : Int) = (0 : Int32) from rfl] at e1
      rw [if_neg (fun e => d ((z_iv (by omega)).mp e)), if_neg d, fl_0, bn3_some, if_pos rfl]
      refine ⟨_, z1, f1, e1, ?_, fun _ => rfl, m1, fd_tr fd_z c1.1⟩
      rw [c1.2]
      exact up2_same
  · rw [if_neg c, if_pos rfl, if_neg c, fl_1, bn3_some, if_neg (by decide)]
    exact mr_bad (by decide) h fe_rf
end
