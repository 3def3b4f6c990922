section
variable {s : MSt} {z f : Nat → Nat → Int32}
/-! loading, walking -/
def ldS (s : MSt) (w x y : Int) : MSt := us (us (us s 8 1 w) 8 2 x) 8 3 y
abbrev ldP (w x y : Int) : Prop := (0 ≤ w ∧ w ≤ 20) ∧ (-5 ≤ x ∧ x ≤ 5) ∧ (-5 ≤ y ∧ y ≤ 5)
abbrev ldQ (s : MSt) (w x y : Int) : Prop := s 8 6 = 0 ∨ stB (ldS s w x y) (-1) = true
def oLoad (s : MSt) (w x y : Int) : Nat × Int × MSt := if ldP w x y then (if ldQ s w x y then (0, stlS (us (ldS s w x y) 8 11 0) 8 11, stlS (us (ldS s w x y) 8 11 0)) else (2, 0, s)) else (1, 0, s)
theorem ld_o {w x y : Int} {a j : Nat} (h : a = 8 → j ≠ 1 ∧ j ≠ 2 ∧ j ≠ 3) : ldS s w x y a j = s a j := by
  unfold ldS
  by_cases e : a = 8
  · subst e; rw [us_nk (h rfl).2.2, us_nk (h rfl).2.1, us_nk (h rfl).1]
  · rw [us_na e, us_na e, us_na e]
theorem ld_bk {w x y : Int} : us (us (us (ldS s w x y) 8 1 (s 8 1)) 8 2 (s 8 2)) 8 3 (s 8 3) = s := by
  funext a k
  unfold ldS us
  by_cases c : a = 8
  · subst c
    by_cases c1 : k = 1
    · subst c1; simp
    · by_cases c2 : k = 2
      · subst c2; simp
      · by_cases c3 : k = 3
        · subst c3; simp
        · simp [c1, c2, c3]
  · simp [c]
theorem ai_ld {n : Int} (h : AI n s) {w x y : Int} (hp : ldP w x y) : AI n (ldS s w x y) := by
  refine ⟨?_, ?_⟩
  · unfold ldS
    exact ko_us (ko_us (ko_us h.1 (a := 8) (k := 1) hp.1) (a := 8) (k := 2) hp.2.1) (a := 8) (k := 3) hp.2.2
  · rw [ld_o (by decide), ld_o (by decide), ld_o (by decide), ld_o (by decide)]
    exact h.2
theorem ai_11 {n : Int} (h : AI n s) {v : Int} (hv : 0 ≤ v ∧ v ≤ 3) : AI n (us s 8 11 v) := by
  refine ⟨ko_us h.1 (a := 8) (k := 11) hv, ?_⟩
  rw [us_nk (by decide), us_nk (by decide), us_nk (by decide), us_nk (by decide)]
  exact h.2
theorem ia_in {a : Int} (ha : IB a) : g_X10_isAside (iv a) z f = some (if -5 ≤ a ∧ a ≤ 5 then 1 else 0) := by
  unfold g_X10_isAside
  rw [show (-5 : Int32) = iv (-5) from rfl, show (5 : Int32) = iv 5 from rfl, iw_in ha (by decide) (by decide), Option.bind_some]
  by_cases c : -5 ≤ a ∧ a ≤ 5
  · rw [if_pos c]; rfl
  · rw [if_neg c]; rfl
theorem iw_0 {a b c : Int} (ha : IB a) (hb : IB b) (hc : IB c) {β : Type} {F : Int32 → Option β} : (g_X10_isWithin (iv a) (iv b) (iv c) z f).bind F = if b ≤ a ∧ a ≤ c then F 1 else F 0 := by
  rw [iw_in ha hb hc, Option.bind_some]
  split <;> rfl
theorem ia_0 {a : Int} (ha : IB a) {β : Type} {F : Int32 → Option β} : (g_X10_isAside (iv a) z f).bind F = if -5 ≤ a ∧ a ≤ 5 then F 1 else F 0 := by
  rw [ia_in ha, Option.bind_some]
  split <;> rfl
theorem cq_load {n : Int} (hn : n < 1000000) (hA : AI n s) (hC : CS s z f) {w x y : Int} (hw : IB w) (hx : IB x) (hy : IB y) : ∃ z' f', g_X10_load (iv w) (iv x) (iv y) z f = some (rsC [nIAE, nISE] (oLoad s w x y).1 (oLoad s w x y).2.1, z', f') ∧ CS (oLoad s w x y).2.2 z' f' ∧ Fm z f z' f' := by
  have h8 := ko_8 hA.1
  have bad : ¬ ldP w x y → ∃ z' f', g_X10_load_b24 z f = some (rsC [nIAE, nISE] (oLoad s w x y).1 (oLoad s w x y).2.1, z', f') ∧ CS (oLoad s w x y).2.2 z' f' ∧ Fm z f z' f' := fun h => by
    unfold oLoad
    rw [if_neg h]
    exact ⟨z, f, rfl, hC, fm_rf⟩
  unfold g_X10_load
  rw [show g_X10_isWithin (iv w) 0 20 z f = g_X10_isWithin (iv w) (iv 0) (iv 20) z f from rfl, iw_0 hw (by decide) (by decide)]
  by_cases c1 : 0 ≤ w ∧ w ≤ 20
  · rw [if_pos c1, if_neg (by decide), ia_0 hx]
    by_cases c2 : -5 ≤ x ∧ x ≤ 5
    · rw [if_pos c2, if_neg (by decide), ia_0 hy]
      by_cases c3 : -5 ≤ y ∧ y ≤ 5
      · have hp : ldP w x y := ⟨c1, c2, c3⟩
        rw [if_pos c3, if_neg (by decide)]
        have hA1 := ai_ld hA hp
        have g1 := cs_sc hC (c := 15) (k := 4) (j := 1) (v := w) (by decide)
        have g2 := cs_sc g1 (c := 15) (k := 5) (j := 2) (v := x) (by decide)
        have g3 := cs_sc g2 (c := 15) (k := 6) (j := 3) (v := y) (by decide)
        have m3 : Fm z f (up2 (up2 (up2 z 15 4 (iv w)) 15 5 (iv x)) 15 6 (iv y)) f := fm_tr (fm_z (by decide)) (fm_tr (fm_z (by decide)) (fm_z (by decide)))
        have fin : ∀ {z1 f1}, CS (ldS s w x y) z1 f1 → Fm z f z1 f1 → ldQ s w x y → ∃ z' f', (bn3 (g_X10_takeLoad_b70 z1 f1) fun x4 z5 u6 => if x4 = 0 then some (.inr "java/lang/IllegalStateException", z5, u6) else bn3 (g_X10_settled z5 u6) fun x7 z8 u9 => some (.inl x7, z8, u9)) = some (rsC [nIAE, nISE] (oLoad s w x y).1 (oLoad s w x y).2.1, z', f') ∧ CS (oLoad s w x y).2.2 z' f' ∧ Fm z f z' f' := fun {z1 f1} hc hm hq => by
          have g4 := cs_sc hc (c := 33) (k := 3) (j := 11) (v := 0) (by decide)
          have hA2 := ai_11 hA1 (v := 0) (by decide)
          obtain ⟨z2, f2, e2, c2', m2⟩ := cd_settled g4 hA2.1 (ai_12 hA2 hn)
          unfold oLoad g_X10_takeLoad_b70 g_X0_beginAct lt2
          dsimp only
          rw [if_pos hp, if_pos hq, bn2_some, bn3_some, if_neg (by decide), show (0 : Int32) = iv 0 from rfl, e2, bn3_some]
          exact ⟨z2, f2, rfl, c2', fm_tr hm (fm_tr (fm_z (by decide)) m2)⟩
        unfold g_X10_takeLoad g_X2_carry lt2
        dsimp only
        rw [bn2_some, cz g3 0 9 6, show us (us (us s 8 1 w) 8 2 x) 8 3 y 8 6 = s 8 6 from ld_o (by decide)]
        by_cases d : s 8 6 = 0
        · rw [if_pos ((z_iv (by omega)).mpr d)]
          exact fin g3 m3 (Or.inl d)
        · rw [if_neg (fun e => d ((z_iv (by omega)).mp e))]
          obtain ⟨z4, f4, m, c', e, hj, -⟩ := cp_holds (a0 := 22) (Or.inl rfl) (ko_bd hA1.1) (cs_lf g3) (cs_ps g3) (but := -1) (by decide)
          have hC4 := hj_cs hj g3
          rw [show (-1 : Int32) = iv (-1) from rfl, e, bn3_some]
          by_cases l : stB (ldS s w x y) (-1) = true
          · rw [if_pos l, if_neg (by decide)]
            exact fin hC4 (fm_tr m3 (hj_fm hj)) (Or.inr l)
          · have nq : ¬ ldQ s w x y := by rintro (q | q); exact d q; exact l q
            rw [if_neg l, if_pos rfl]
            unfold oLoad
            rw [if_pos hp, if_neg nq, cz hC 15 4 1, cz hC 15 5 2, cz hC 15 6 3, bn2_some, bn3_some, if_pos rfl]
            have g5 := cs_sc hC4 (c := 15) (k := 4) (j := 1) (v := s 8 1) (by decide)
            have g6 := cs_sc g5 (c := 15) (k := 5) (j := 2) (v := s 8 2) (by decide)
            have g7 := cs_sc g6 (c := 15) (k := 6) (j := 3) (v := s 8 3) (by decide)
            rw [show us (us (us (us (us (us s 8 1 w) 8 2 x) 8 3 y) 8 1 (s 8 1)) 8 2 (s 8 2)) 8 3 (s 8 3) = s from ld_bk] at g7
            exact ⟨_, _, rfl, g7, fm_tr m3 (fm_tr (hj_fm hj) (fm_tr (fm_z (by decide)) (fm_tr (fm_z (by decide)) (fm_z (by decide)))))⟩
      · rw [if_neg c3, if_pos rfl]; exact bad (fun q => c3 q.2.2)
    · rw [if_neg c2, if_pos rfl]; exact bad (fun q => c2 q.2.1)
  · rw [if_neg c1, if_pos rfl]; exact bad (fun q => c1 q.1)
/-- a phase: whether it is done, and the state then -/
def phT (s : MSt) (n : Nat) : Bool × MSt := if s 15 n = 0 ∧ s 16 n = 0 then (true, s) else if shP s (s 15 n) (s 16 n) then (decide (stlS (shS s (s 15 n) (s 16 n)) 8 11 = 0), stlS (shS s (s 15 n) (s 16 n))) else (false, s)
def phU (s : MSt) (k : Nat) (q : Int) (n : Nat) : Bool × MSt := if q = -1 then (false, s) else if plP s k q then (if stlS (plS s k q) 8 11 = 0 then phT (stlS (plS s k q)) n else (false, stlS (plS s k q))) else (false, s)
def phS (s : MSt) (n : Nat) (k : Nat) : Bool × MSt := if mlP s k then (if stlS (lfS s k) 8 11 = 0 then phU (stlS (lfS s k)) k (paS ((pt (s 7 k)).1 + s 13 n) ((pt (s 7 k)).2 + s 14 n)) n else (false, stlS (lfS s k))) else (false, s)
def goS (s : MSt) : MSt := us s 8 14 (if s 8 13 ≤ s 8 14 + 1 then 0 else s 8 14 + 1)
def wkN : Nat → Nat → MSt → Nat × MSt
  | 0, d, s => (d, s)
  | n + 1, d, s => if (phS s (s 8 14).toNat (s 12 (s 8 14).toNat).toNat).1 = true then wkN n (d + 1) (goS (phS s (s 8 14).toNat (s 12 (s 8 14).toNat).toNat).2) else (d, (phS s (s 8 14).toNat (s 12 (s 8 14).toNat).toNat).2)
theorem ai_phT {n : Int} (hn : n < 1000000) (h : AI n s) {i : Nat} : AI n (phT s i).2 := by
  unfold phT
  split
  · exact h
  · split
    · rename_i hp
      exact ai_stl (ai_sh h hp) hn
    · exact h
theorem ai_phU {n : Int} (hn : n < 1000000) (h : AI n s) {i k : Nat} (hk : k < 6) {q : Int} (hq : q = -1 ∨ nB q) : AI n (phU s k q i).2 := by
  unfold phU
  split
  · exact h
  · rename_i hc
    split
    · rename_i hp
      have h1 := ai_stl (ai_pl h (hq.resolve_left hc) hk hp.2.1) hn
      split
      · exact ai_phT hn h1
      · exact h1
    · exact h
theorem ai_phS {n : Int} (hn : n < 1000000) (h : AI n s) {i k : Nat} (hk : k < 6) : AI n (phS s i k).2 := by
  unfold phS
  split
  · rename_i hp
    have h1 := ai_stl (ai_lf h (k := k) hp.2.1) hn
    split
    · exact ai_phU hn h1 hk ((paS_cs _ _).imp (fun h => h.1) (fun h => h.1))
    · exact h1
  · exact h
theorem ai_go {n : Int} (h : AI n s) : AI n (goS s) := by
  have h8 := ko_8 h.1
  unfold goS
  refine ⟨ko_us h.1 (a := 8) (k := 14) (show (0 : Int) ≤ (if s 8 13 ≤ s 8 14 + 1 then 0 else s 8 14 + 1) ∧ (if s 8 13 ≤ s 8 14 + 1 then 0 else s 8 14 + 1) ≤ 7 by split <;> omega), ?_⟩
  rw [us_nk (by decide), us_nk (by decide), us_nk (by decide), us_nk (by decide)]
  exact h.2
theorem cd_phT {n : Int} (hn : n < 1000000) (hA : AI n s) (hC : CS s z f) {i : Nat} (hi : i < 8) : ∃ z' f', (if iv (s 15 i) = 0 then (if iv (s 16 i) = 0 then some (1, z, f) else g_X10_isPhaseDone_b139 (iv (s 15 i)) (iv (s 16 i)) z f) else g_X10_isPhaseDone_b139 (iv (s 15 i)) (iv (s 16 i)) z f) = some (if (phT s i).1 = true then 1 else 0, z', f') ∧ CS (phT s i).2 z' f' ∧ Fm z f z' f' := by
  have b15 : -1 ≤ s 15 i ∧ s 15 i ≤ 1 := hA.1 15 i
  have b16 : -1 ≤ s 16 i ∧ s 16 i ≤ 1 := hA.1 16 i
  have go : ¬ (s 15 i = 0 ∧ s 16 i = 0) → ∃ z' f', g_X10_isPhaseDone_b139 (iv (s 15 i)) (iv (s 16 i)) z f = some (if (phT s i).1 = true then 1 else 0, z', f') ∧ CS (phT s i).2 z' f' ∧ Fm z f z' f' := fun hne => by
    obtain ⟨z1, f1, e1, c1, m1⟩ := cd_shiftBody hA.1 hC hA.2.1.1 hA.2.1.2 b15 b16
    unfold g_X10_isPhaseDone_b139 phT
    rw [if_neg hne, e1, bn3_some]
    by_cases d : shP s (s 15 i) (s 16 i)
    · rw [if_pos d] at c1
      have hA2 := ai_sh hA d
      obtain ⟨z2, f2, e2, c2, m2⟩ := cd_settled c1 hA2.1 (ai_12 hA2 hn)
      have b11 := (ko_8 (ai_stl hA2 hn).1).2.2.2.2.2.2.1
      rw [if_pos d, if_neg (by decide), if_pos d, e2, bn3_some]
      by_cases g : stlS (shS s (s 15 i) (s 16 i)) 8 11 = 0
      · rw [if_pos ((z_iv (by omega)).mpr g)]
        exact ⟨z2, f2, by simp [g], c2, fm_tr m1 m2⟩
      · rw [if_neg (fun e => g ((z_iv (by omega)).mp e))]
        exact ⟨z2, f2, by simp [g], c2, fm_tr m1 m2⟩
    · rw [if_neg d] at c1
      rw [if_neg d, if_pos rfl, if_neg d]
      exact ⟨z1, f1, rfl, c1, m1⟩
  by_cases c : s 15 i = 0
  · rw [if_pos ((z_iv (by omega)).mpr c)]
    by_cases d : s 16 i = 0
    · rw [if_pos ((z_iv (by omega)).mpr d)]
      have e : phT s i = (true, s) := if_pos ⟨c, d⟩
      rw [e]
      exact ⟨z, f, rfl, hC, fm_rf⟩
    · rw [if_neg (fun e => d ((z_iv (by omega)).mp e))]
      exact go (fun q => d q.2)
  · rw [if_neg (fun e => c ((z_iv (by omega)).mp e))]
    exact go (fun q => c q.1)
theorem cd_phase {n : Int} (hn : n < 1000000) (hA : AI n s) (hC : CS s z f) {i : Nat} (hi : i < 8) : ∃ z' f', g_X10_isPhaseDone (iv i) z f = some (if (phS s i (s 12 i).toNat).1 = true then 1 else 0, z', f') ∧ CS (phS s i (s 12 i).toNat).2 z' f' ∧ Fm z f z' f' := by
  have hk := hA.1
  have b12 : 0 ≤ s 12 i ∧ s 12 i ≤ 5 := hk 12 i
  have b13 : -6 ≤ s 13 i ∧ s 13 i ≤ 6 := hk 13 i
  have b14 : -6 ≤ s 14 i ∧ s 14 i ≤ 6 := hk 14 i
  have h6 : (s 12 i).toNat < 6 := by omega
  have e12 : s 12 i = ((s 12 i).toNat : Int) := by omega
  obtain ⟨z1, f1, e1, c1, m1⟩ := cd_liftFoot hk hC h6
  unfold g_X10_isPhaseDone phS
  rw [rdR_iv hi (by decide), ca hC 43 12 8 (by decide) i hi]
  rw [e12]
  rw [Int.toNat_natCast, rdR_iv h6 (by decide), ca hC 24 7 6 (by decide) _ h6, e1, bn3_some]
  by_cases d : mlP s (s 12 i).toNat
  · rw [if_pos d] at c1
    have hA1 := ai_lf hA (k := (s 12 i).toNat) d.2.1
    have hA2 := ai_stl hA1 hn
    obtain ⟨z2, f2, e2, c2, m2⟩ := cd_settled c1 hA1.1 (ai_12 hA1 hn)
    have b11 := (ko_8 hA2.1).2.2.2.2.2.2.1
    rw [if_pos d, if_neg (by decide), if_pos d, e2, bn3_some]
    by_cases g : stlS (lfS s (s 12 i).toNat) 8 11 = 0
    · rw [if_pos ((z_iv (by omega)).mpr g), if_pos g]
      have hnb : nB (s 7 (s 12 i).toNat) := ((ko_ft hk) _ h6).resolve_left d.2.2.1
      have pb := pt_bd hnb
      have o13 : stlS (lfS s (s 12 i).toNat) 13 i = s 13 i := by rw [stl_o ⟨by decide, by decide, by decide, by decide, by decide, by decide, fun e => absurd e (by decide)⟩, lf_o ⟨fun e => absurd e (by decide), fun e => absurd e (by decide)⟩]
      have o14 : stlS (lfS s (s 12 i).toNat) 14 i = s 14 i := by rw [stl_o ⟨by decide, by decide, by decide, by decide, by decide, by decide, fun e => absurd e (by decide)⟩, lf_o ⟨fun e => absurd e (by decide), fun e => absurd e (by decide)⟩]
      unfold g_X10_xOf g_X10_yOf
      rw [Option.bind_some, Option.bind_some, iv_x hnb, iv_y hnb, rdR_iv hi (by decide), rdR_iv hi (by decide), ca c2 45 13 8 (by decide) i hi, ca c2 47 14 8 (by decide) i hi, o13, o14, iv_add, iv_add, cp_pt (by omega) (by omega), Option.bind_some]
      unfold phU
      by_cases l : paS ((pt (s 7 (s 12 i).toNat)).1 + s 13 i) ((pt (s 7 (s 12 i).toNat)).2 + s 14 i) = -1
      · rw [if_pos (by rw [l]; rfl), if_pos l]
        exact ⟨z2, f2, rfl, c2, fm_tr m1 m2⟩
      · have hp := ((paS_cs _ _).resolve_left (fun h => l h.1)).1
        obtain ⟨z3, f3, e3, c3, m3⟩ := cd_placeFoot hA2.1 c2 h6 hp
        rw [if_neg (fun e => l ((m1_iv (by unfold nB at hp; omega)).mp e)), if_neg l, e3, bn3_some]
        by_cases j : plP (stlS (lfS s (s 12 i).toNat)) (s 12 i).toNat (paS ((pt (s 7 (s 12 i).toNat)).1 + s 13 i) ((pt (s 7 (s 12 i).toNat)).2 + s 14 i))
        · rw [if_pos j] at c3
          have hA3 := ai_pl hA2 hp h6 j.2.1
          have hA4 := ai_stl hA3 hn
          obtain ⟨z4, f4, e4, c4, m4⟩ := cd_settled c3 hA3.1 (ai_12 hA3 hn)
          have b11' := (ko_8 hA4.1).2.2.2.2.2.2.1
          rw [if_pos j, if_neg (by decide), if_pos j, e4, bn3_some]
          by_cases r : stlS (plS (stlS (lfS s (s 12 i).toNat)) (s 12 i).toNat (paS ((pt (s 7 (s 12 i).toNat)).1 + s 13 i) ((pt (s 7 (s 12 i).toNat)).2 + s 14 i))) 8 11 = 0
          · rw [if_pos ((z_iv (by omega)).mpr r), if_pos r, rdR_iv hi (by decide), rdR_iv hi (by decide), ca c4 49 15 8 (by decide) i hi, ca c4 51 16 8 (by decide) i hi]
            obtain ⟨z5, f5, e5, c5, m5⟩ := cd_phT hn hA4 c4 hi
            exact ⟨z5, f5, e5, c5, fm_tr m1 (fm_tr m2 (fm_tr m3 (fm_tr m4 m5)))⟩
          · rw [if_neg (fun e => r ((z_iv (by omega)).mp e)), if_neg r]
            exact ⟨z4, f4, rfl, c4, fm_tr m1 (fm_tr m2 (fm_tr m3 m4))⟩
        · rw [if_neg j] at c3
          rw [if_neg j, if_pos rfl, if_neg j]
          exact ⟨z3, f3, rfl, c3, fm_tr m1 (fm_tr m2 m3)⟩
    · rw [if_neg (fun e => g ((z_iv (by omega)).mp e)), if_neg g]
      exact ⟨z2, f2, rfl, c2, fm_tr m1 m2⟩
  · rw [if_neg d] at c1
    rw [if_neg d, if_pos rfl, if_neg d]
    exact ⟨z1, f1, rfl, c1, m1⟩
theorem cd_go {n : Int} (hA : AI n s) (hC : CS s z f) : ∃ z', g_X3_goOn z f = some (z', f) ∧ CS (goS s) z' f ∧ Fm z f z' f := by
  have h8 := ko_8 hA.1
  unfold g_X3_goOn g_X3_goOn_b24 goS lt2
  dsimp only
  rw [cz hC 41 5 13, cz hC 41 6 14, show (1 : Int32) = iv 1 from rfl, iv_add]
  have e : (iv (s 8 13) ≤ iv (s 8 14 + 1)) ↔ s 8 13 ≤ s 8 14 + 1 := iv_le (by omega) (by omega)
  by_cases c : s 8 13 ≤ s 8 14 + 1
  · rw [if_pos (e.mpr c), if_pos c]
    exact ⟨_, rfl, cs_sc hC (c := 41) (k := 6) (j := 14) (v := 0) (by decide), fm_z (by decide)⟩
  · rw [if_neg (fun q => c (e.mp q)), if_neg c]
    exact ⟨_, rfl, cs_sc hC (c := 41) (k := 6) (j := 14) (by decide), fm_z (by decide)⟩
theorem ai_wk {n : Int} (hn : n < 1000000) : ∀ m d {s : MSt}, AI n s → AI n (wkN m d s).2
  | 0, _, _, h => h
  | m + 1, d, s, h => by
    have b12 : 0 ≤ s 12 (s 8 14).toNat ∧ s 12 (s 8 14).toNat ≤ 5 := h.1 12 _
    have h1 := ai_phS hn h (i := (s 8 14).toNat) (k := (s 12 (s 8 14).toNat).toNat) (by omega)
    unfold wkN
    split
    · exact ai_wk hn m (d + 1) (ai_go h1)
    · exact h1
theorem cd_walk {n : Int} (hn : n < 1000000) : ∀ (m fu d : Nat) (s : MSt) (z f : Nat → Nat → Int32), m < fu → m + d ≤ 20 → AI n s → CS s z f → ∃ z' f', g_X10_walk_l42 fu (iv ((m + d : Nat) : Int)) (iv d) z f = some (.inl (iv (wkN m d s).1), z', f') ∧ CS (wkN m d s).2 z' f' ∧ Fm z f z' f' := by
  intro m
  induction m with
  | zero =>
    intro fu d s z f hf hd hA hC
    obtain ⟨fu, rfl⟩ : ∃ x, fu = x + 1 := ⟨fu - 1, by omega⟩
    rw [g_X10_walk_l42, if_pos ((iv_le (ibn (by omega)) (ibn (by omega))).mpr (by omega))]
    exact ⟨z, f, rfl, hC, fm_rf⟩
  | succ m ih =>
    intro fu d s z f hf hd hA hC
    obtain ⟨fu, rfl⟩ : ∃ x, fu = x + 1 := ⟨fu - 1, by omega⟩
    have h8 := ko_8 hA.1
    have b12 : 0 ≤ s 12 (s 8 14).toNat ∧ s 12 (s 8 14).toNat ≤ 5 := hA.1 12 _
    have e14 : s 8 14 = ((s 8 14).toNat : Int) := by omega
    obtain ⟨z1, f1, e1, c1, m1⟩ := cd_phase hn hA hC (i := (s 8 14).toNat) (by omega)
    have hA1 := ai_phS hn hA (i := (s 8 14).toNat) (k := (s 12 (s 8 14).toNat).toNat) (by omega)
    rw [g_X10_walk_l42, if_neg (fun e => by have := (iv_le (ibn (by omega)) (ibn (by omega))).mp e; omega), cz hC 41 6 14]
    unfold wkN
    rw [← e14] at e1
    rw [e1, bn3_some]
    by_cases c : (phS s (s 8 14).toNat (s 12 (s 8 14).toNat).toNat).1 = true
    · obtain ⟨z2, e2, c2, m2⟩ := cd_go hA1 c1
      obtain ⟨z3, f3, e3, c3, m3⟩ := ih fu (d + 1) _ z2 f1 (by omega) (by omega) (ai_go hA1) c2
      rw [if_pos c, if_neg (by decide), if_pos c, e2, bn2_some, iv_1, show m + 1 + d = m + (d + 1) by omega]
      exact ⟨z3, f3, e3, c3, fm_tr m1 (fm_tr m2 m3)⟩
    · rw [if_neg c, if_pos rfl, if_neg c]
      exact ⟨z1, f1, rfl, c1, m1⟩
def oWalk (s : MSt) (a : Int) : Nat × Int × MSt := if 1 ≤ a ∧ a ≤ 20 then (if s 8 13 = 0 then (2, 0, s) else (0, (wkN a.toNat 0 s).1, (wkN a.toNat 0 s).2)) else (1, 0, s)
theorem cq_walk {n : Int} (hn : n < 1000000) (hA : AI n s) (hC : CS s z f) {a : Int} (ha : IB a) : ∃ z' f', g_X10_walk (iv a) z f = some (rsC [nIAE, nISE] (oWalk s a).1 (oWalk s a).2.1, z', f') ∧ CS (oWalk s a).2.2 z' f' ∧ Fm z f z' f' := by
  have h8 := ko_8 hA.1
  unfold g_X10_walk oWalk
  rw [show g_X10_isWithin (iv a) 1 20 z f = g_X10_isWithin (iv a) (iv 1) (iv 20) z f from rfl, iw_0 ha (by decide) (by decide), cz hC 41 5 13]
  by_cases c : 1 ≤ a ∧ a ≤ 20
  · rw [if_pos c, if_neg (by decide), if_pos c]
    by_cases d : s 8 13 = 0
    · rw [if_pos ((z_iv (by omega)).mpr d), if_pos d]
      exact ⟨z, f, rfl, hC, fm_rf⟩
    · obtain ⟨z1, f1, e1, c1, m1⟩ := cd_walk hn a.toNat FU 0 s z f (by show _ < 2000; omega) (by omega) hA hC
      rw [if_neg (fun e => d ((z_iv (by omega)).mp e)), if_neg d]
      rw [show ((a.toNat + 0 : Nat) : Int) = a by omega, show iv ((0 : Nat) : Int) = (0 : Int32) from rfl] at e1
      exact ⟨z1, f1, e1, c1, m1⟩
  · rw [if_neg c, if_pos rfl, if_neg c]
    exact ⟨z, f, rfl, hC, fm_rf⟩
end
