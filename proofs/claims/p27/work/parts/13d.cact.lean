section
variable {s : MSt} {z f : Nat → Nat → Int32}
/-! lifting -/
abbrev mlP (s : MSt) (k : Nat) : Prop := s 8 6 ≠ 0 ∧ 1 ≤ s 8 7 ∧ s 7 k ≠ -1 ∧ stB s k = true
def lfS (s : MSt) (k : Nat) : MSt := us (us (us s 8 7 (s 8 7 - 1)) 8 11 0) 7 k (-1)
theorem cd_mayLift (hk : KO s) (hC : CS s z f) {k : Nat} (hk6 : k < 6) : ∃ z' f', g_X10_mayLift (iv k) z f = some (if mlP s k then 1 else 0, z', f') ∧ CJ z f z' f' := by
  have h8 := ko_8 hk
  unfold g_X10_mayLift
  rw [cz hC 0 9 6, cz hC 0 10 7, rdR_iv hk6 (by decide), ca hC 24 7 6 (by decide) k hk6]
  have e1 : (iv (s 8 7) < (1 : Int32)) ↔ s 8 7 < 1 := iv_lt (b := 1) (by omega) (by decide)
  have e2 : (iv (s 7 k) = (-1 : Int32)) ↔ s 7 k = -1 := m1_iv (ftIB (ko_ft hk) hk6)
  by_cases c : s 8 6 = 0
  · rw [if_pos ((z_iv (by omega)).mpr c), if_neg (fun q : mlP s k => q.1 c)]
    exact ⟨z, f, rfl, cj_rf⟩
  · rw [if_neg (fun e => c ((z_iv (by omega)).mp e))]
    by_cases d : s 8 7 < 1
    · rw [if_pos (e1.mpr d), if_neg (fun q : mlP s k => by have := q.2.1; omega)]
      exact ⟨z, f, rfl, cj_rf⟩
    · rw [if_neg (fun e => d (e1.mp e))]
      by_cases g : s 7 k = -1
      · rw [if_pos (e2.mpr g), if_neg (fun q : mlP s k => q.2.2.1 g)]
        exact ⟨z, f, rfl, cj_rf⟩
      · obtain ⟨z1, f1, m, c', e, hj, -⟩ := cp_holds (a0 := 22) (Or.inl rfl) (ko_bd hk) (cs_lf hC) (cs_ps hC) (but := k) (by omega)
        rw [if_neg (fun e => g (e2.mp e)), e, bn3_some]
        by_cases j : stB s k = true
        · rw [if_pos j, if_neg (by decide), if_pos (⟨c, by omega, g, j⟩ : mlP s k)]
          exact ⟨z1, f1, rfl, cj_hj hj⟩
        · rw [if_neg j, if_pos rfl, if_neg (fun q : mlP s k => j q.2.2.2)]
          exact ⟨z1, f1, rfl, cj_hj hj⟩
theorem ko_lf (h : KO s) {k : Nat} (h7 : 1 ≤ s 8 7) : KO (lfS s k) := by
  have h8 := ko_8 h
  unfold lfS
  exact ko_us (ko_us (ko_us h (a := 8) (k := 7) (show (0 : Int) ≤ s 8 7 - 1 ∧ s 8 7 - 1 ≤ 1000 by omega)) (a := 8) (k := 11) (by decide)) (a := 7) (show (-1 : Int) ≤ -1 ∧ (-1 : Int) ≤ 399 by decide)
theorem cd_liftFoot (hk : KO s) (hC : CS s z f) {k : Nat} (hk6 : k < 6) : ∃ z' f', g_X10_liftFoot (iv k) z f = some (if mlP s k then 1 else 0, z', f') ∧ CS (if mlP s k then lfS s k else s) z' f' ∧ Fm z f z' f' := by
  obtain ⟨z1, f1, e1, j1⟩ := cd_mayLift hk hC hk6
  have hC1 := cj_cs j1 hC
  unfold g_X10_liftFoot
  rw [e1, bn3_some]
  by_cases c : mlP s k
  · rw [if_pos c, if_neg (by decide), if_pos c]
    unfold lt2 g_X0_beginAct lt2
    dsimp only
    rw [bn2_some, cz hC1 0 10 7, wrR_iv hk6 (by decide), show (1 : Int32) = iv 1 from rfl, iv_sub]
    have g1 := cs_sc hC1 (c := 0) (k := 10) (j := 7) (v := s 8 7 - 1) (by decide)
    have g2 := cs_sc g1 (c := 33) (k := 3) (j := 11) (v := 0) (by decide)
    have g3 := cs_arr g2 (b := 24) (a := 7) (n := 6) (k := k) (v := -1) (by decide)
    exact ⟨_, _, rfl, g3, fm_tr j1.2.2 (fm_tr (fm_z (by decide)) (fm_tr (fm_z (by decide)) (fm_f (by decide))))⟩
  · rw [if_neg c, if_pos rfl, if_neg c]
    exact ⟨z1, f1, rfl, hC1, j1.2.2⟩
/-! placing -/
abbrev plP (s : MSt) (k : Nat) (p : Int) : Prop := s 8 6 ≠ 0 ∧ 1 + faS s k p ≤ s 8 7 ∧ s 7 k = -1 ∧ (s 3 p.toNat - lvS (s 3) (s 7) (-1)).natAbs ≤ 2 ∧ inR s k p = true ∧ tkS (s 7) p (-1) = false
def plS (s : MSt) (k : Nat) (p : Int) : MSt := setS (us (us s 8 7 (s 8 7 - (1 + faS s k p))) 8 11 0) k p
theorem lvN_bd {mp ft : Nat → Int} {but : Int} (hm : ftB mp 0 9) (hf : ftOk ft) : ∀ n i v, i + n ≤ 6 → 0 ≤ v → v ≤ 9 → 0 ≤ lvN mp ft but n i v ∧ lvN mp ft but n i v ≤ 9
  | 0, i, v, _, h0, h9 => ⟨h0, h9⟩
  | n + 1, i, v, hi, h0, h9 => by
    unfold lvN
    by_cases c : (i : Int) = but ∨ ft i = -1
    · rw [if_pos c]; exact lvN_bd hm hf n (i + 1) v (by omega) h0 h9
    · rw [if_neg c]
      have hn : nB (ft i) := (hf i (by omega)).resolve_left (fun e => c (Or.inr e))
      have := hm (ft i).toNat (nB_nat hn).2
      exact lvN_bd hm hf n (i + 1) _ (by omega) (by omega) (by omega)
theorem faS_bd (hB : BD s) {k : Nat} (hk : k < 6) {p : Int} (hp : nB p) : 0 ≤ faS s k p ∧ faS s k p ≤ 100 := by
  have pb := pt_bd hp
  have b := hB.2.2.1
  have bl := bd_leg hB hk
  unfold faS hxS hyS
  omega
theorem ko_pl (h : KO s) {k : Nat} {p : Int} (hp : nB p) (h7 : 1 + faS s k p ≤ s 8 7) (h0 : 0 ≤ faS s k p) : KO (plS s k p) := by
  have h8 := ko_8 h
  unfold plS
  exact ko_set (ko_us (ko_us h (a := 8) (k := 7) (show (0 : Int) ≤ s 8 7 - (1 + faS s k p) ∧ s 8 7 - (1 + faS s k p) ≤ 1000 by omega)) (a := 8) (k := 11) (by decide)) hp
theorem cd_placeFoot (hk : KO s) (hC : CS s z f) {k : Nat} (hk6 : k < 6) {p : Int} (hp : nB p) : ∃ z' f', g_X10_placeFoot (iv k) (iv p) z f = some (if plP s k p then 1 else 0, z', f') ∧ CS (if plP s k p then plS s k p else s) z' f' ∧ Fm z f z' f' := by
  have h8 := ko_8 hk
  have hB := ko_bd hk
  have hL := cs_lf hC
  have hP := cs_ps hC
  have fb := faS_bd hB hk6 hp
  have lb : 0 ≤ lvS (s 3) (s 7) (-1) ∧ lvS (s 3) (s 7) (-1) ≤ 9 := lvN_bd (but := -1) hB.1.2.2.2 hB.2.2.2 6 0 0 (by decide) (by decide) (by decide)
  have mb : 0 ≤ s 3 p.toNat ∧ s 3 p.toNat ≤ 9 := hk 3 _
  have ibp : IB p := by unfold nB at hp; omega
  unfold g_X10_placeFoot
  rw [cp_far hB hL hP hk6 hp, Option.bind_some, show (-1 : Int32) = iv (-1) from rfl, cp_level hB hL hP (by decide), Option.bind_some, cz hC 0 9 6, cz hC 0 10 7, show (1 : Int32) = iv 1 from rfl, iv_add, rdR_iv hk6 (by decide), ca hC 24 7 6 (by decide) k hk6, rdP (mp := s 3) hL.1.2.2.2 hp, iv_sub, iv_abs (by omega)]
  have e1 : (iv (s 8 7) < iv (1 + faS s k p)) ↔ s 8 7 < 1 + faS s k p := iv_lt (by omega) (by omega)
  have e2 : (iv (s 7 k) = iv (-1)) ↔ s 7 k = -1 := iv_eq (ftIB (ko_ft hk) hk6) (by decide)
  have e3 : ((2 : Int32) < iv ((s 3 p.toNat - lvS (s 3) (s 7) (-1)).natAbs : Int)) ↔ 2 < ((s 3 p.toNat - lvS (s 3) (s 7) (-1)).natAbs : Int) := iv_lt (a := 2) (by decide) (by omega)
  by_cases c : s 8 6 = 0
  · rw [if_pos ((z_iv (by omega)).mpr c), if_neg (fun q : plP s k p => q.1 c), if_neg (fun q : plP s k p => q.1 c)]
    exact ⟨z, f, rfl, hC, fm_rf⟩
  rw [if_neg (fun e => c ((z_iv (by omega)).mp e))]
  by_cases d : s 8 7 < 1 + faS s k p
  · rw [if_pos (e1.mpr d), if_neg (fun q : plP s k p => by have := q.2.1; omega), if_neg (fun q : plP s k p => by have := q.2.1; omega)]
    exact ⟨z, f, rfl, hC, fm_rf⟩
  rw [if_neg (fun e => d (e1.mp e))]
  by_cases g : s 7 k = -1
  · rw [if_pos (e2.mpr g)]
    by_cases j : 2 < ((s 3 p.toNat - lvS (s 3) (s 7) (-1)).natAbs : Int)
    · rw [if_pos (e3.mpr j), if_neg (fun q : plP s k p => by have := q.2.2.2.1; omega), if_neg (fun q : plP s k p => by have := q.2.2.2.1; omega)]
      exact ⟨z, f, rfl, hC, fm_rf⟩
    rw [if_neg (fun e => j (e3.mp e)), cp_reach hB hL hP hk6 hp, Option.bind_some]
    by_cases l : inR s k p = true
    · rw [if_pos l, if_neg (by decide), cp_tk hB hP ibp (by decide), Option.bind_some]
      by_cases m : tkS (s 7) p (-1) = true
      · rw [if_pos m, if_neg (by decide), if_neg (fun q : plP s k p => by have := q.2.2.2.2.2; rw [m] at this; cases this), if_neg (fun q : plP s k p => by have := q.2.2.2.2.2; rw [m] at this; cases this)]
        exact ⟨z, f, rfl, hC, fm_rf⟩
      · have hp' : plP s k p := ⟨c, by omega, g, by omega, l, by simpa using m⟩
        rw [if_neg m, if_pos rfl, if_pos hp', if_pos hp']
        unfold lt2 g_X0_beginAct lt2
        dsimp only
        rw [bn2_some, iv_sub, show (0 : Int32) = iv 0 from rfl]
        have g1 := cs_sc hC (c := 0) (k := 10) (j := 7) (v := s 8 7 - (1 + faS s k p)) (by decide)
        have g2 := cs_sc g1 (c := 33) (k := 3) (j := 11) (v := 0) (by decide)
        obtain ⟨z1, f1, e1, c1, m1⟩ := cd_set g2 (ko_us (ko_us hk (a := 8) (k := 7) (show (0 : Int) ≤ s 8 7 - (1 + faS s k p) ∧ s 8 7 - (1 + faS s k p) ≤ 1000 by omega)) (a := 8) (k := 11) (by decide)) hk6 hp
        rw [e1, bn2_some]
        exact ⟨z1, f1, rfl, c1, fm_tr (fm_z (by decide)) (fm_tr (fm_z (by decide)) m1)⟩
    · rw [if_neg l, if_pos rfl, if_neg (fun q : plP s k p => l q.2.2.2.2.1), if_neg (fun q : plP s k p => l q.2.2.2.2.1)]
      exact ⟨z, f, rfl, hC, fm_rf⟩
  · rw [if_neg (fun e => g (e2.mp e)), if_neg (fun q : plP s k p => g q.2.2.1), if_neg (fun q : plP s k p => g q.2.2.1)]
    exact ⟨z, f, rfl, hC, fm_rf⟩
/-! shifting -/
def mvS (s : MSt) (x y : Int) : MSt := us (us s 8 4 (s 8 4 + x)) 8 5 (s 8 5 + y)
abbrev mvP (s : MSt) (x y : Int) : Prop := paS (s 8 4 + x) (s 8 5 + y) ≠ -1 ∧ (∀ k, k < 6 → s 7 k ≠ -1 → inR (mvS s x y) k (s 7 k) = true) ∧ stB (mvS s x y) (-1) = true
theorem mv_4 {x y : Int} : mvS s x y 8 4 = s 8 4 + x := by unfold mvS; rw [us_nk (by decide), us_at]
theorem mv_5 {x y : Int} : mvS s x y 8 5 = s 8 5 + y := by unfold mvS; rw [us_at]
theorem mv_o {x y : Int} {a k : Nat} (h : a = 8 → k ≠ 4 ∧ k ≠ 5) : mvS s x y a k = s a k := by
  unfold mvS
  by_cases e : a = 8
  · subst e; rw [us_nk (h rfl).2, us_nk (h rfl).1]
  · rw [us_na e, us_na e]
theorem ko_mv (h : KO s) {x y : Int} (hx : -1 ≤ s 8 4 + x ∧ s 8 4 + x ≤ 20) (hy : -1 ≤ s 8 5 + y ∧ s 8 5 + y ≤ 20) : KO (mvS s x y) := by
  unfold mvS
  exact ko_us (ko_us h (a := 8) (k := 4) hx) (a := 8) (k := 5) hy
abbrev mvQ (s : MSt) (i : Nat) : Prop := (∀ k, k < 6 → (i ≤ k ∧ s 7 k ≠ -1) → inR s k (s 7 k) = true) ∧ stB s (-1) = true
theorem mv_39 {a0 : Nat} (ha : isSt a0) (hB : BD s) (hL : LF s z f) (hP : PS a0 s z f) : ∀ (n fu i : Nat), i + n = 6 → n < fu → ∃ z' f', g_X9_moveBody_l39 fu a0 (iv i) z f = some (if mvQ s i then 1 else 0, z', f') ∧ HJ z f z' f' := by
  intro n
  induction n with
  | zero =>
    intro fu i hi hf
    obtain ⟨fu, rfl⟩ : ∃ x, fu = x + 1 := ⟨fu - 1, by omega⟩
    obtain rfl : i = 6 := by omega
    obtain ⟨z1, f1, m, c', e, hj, -⟩ := cp_holds ha hB hL hP (but := -1) (by decide)
    rw [g_X9_moveBody_l39, if_pos y6, show (-1 : Int32) = iv (-1) from rfl, e, bn3_some, rtZw_b]
    refine ⟨z1, f1, ?_, hj⟩
    have : ((∀ k, k < 6 → (6 ≤ k ∧ s 7 k ≠ -1) → inR s k (s 7 k) = true) ∧ stB s (-1) = true) ↔ stB s (-1) = true := ⟨fun h => h.2, fun h => ⟨fun k h1 h2 => by omega, h⟩⟩
    simp only [mvQ, this]
  | succ n ih =>
    intro fu i hi hf
    obtain ⟨fu, rfl⟩ : ∃ x, fu = x + 1 := ⟨fu - 1, by omega⟩
    have hi6 : i < 6 := by omega
    have e2 : (iv (s 7 i) = (-1 : Int32)) ↔ s 7 i = -1 := m1_iv (ftIB hB.2.2.2 hi6)
    obtain ⟨z1, f1, e, hj⟩ := ih fu (i + 1) (by omega) (by omega)
    rw [g_X9_moveBody_l39, if_neg (n6 hi6), rdR_iv hi6 (by decide), hP.2.2 i hi6]
    unfold g_X9_moveBody_b73
    rw [iv_1]
    by_cases c : s 7 i = -1
    · rw [if_pos (e2.mpr c)]
      refine ⟨z1, f1, e.trans ?_, hj⟩
      have : (∀ k, k < 6 → (i + 1 ≤ k ∧ s 7 k ≠ -1) → inR s k (s 7 k) = true) ↔ (∀ k, k < 6 → (i ≤ k ∧ s 7 k ≠ -1) → inR s k (s 7 k) = true) := ⟨fun h k h1 h2 => h k h1 ⟨by
        rcases Nat.lt_or_eq_of_le h2.1 with q | q
        · exact q
        · subst q; exact absurd c h2.2, h2.2⟩, fun h k h1 h2 => h k h1 ⟨by omega, h2.2⟩⟩
      simp only [mvQ, this]
    · have hn : nB (s 7 i) := (hB.2.2.2 i hi6).resolve_left c
      rw [if_neg (fun e => c (e2.mp e)), cp_reach hB hL hP hi6 hn, Option.bind_some]
      by_cases d : inR s i (s 7 i) = true
      · rw [if_pos d, if_neg (by decide)]
        refine ⟨z1, f1, e.trans ?_, hj⟩
        have : (∀ k, k < 6 → (i + 1 ≤ k ∧ s 7 k ≠ -1) → inR s k (s 7 k) = true) ↔ (∀ k, k < 6 → (i ≤ k ∧ s 7 k ≠ -1) → inR s k (s 7 k) = true) := ⟨fun h k h1 h2 => by
          rcases Nat.lt_or_eq_of_le h2.1 with q | q
          · exact h k h1 ⟨q, h2.2⟩
          · subst q; exact d, fun h k h1 h2 => h k h1 ⟨by omega, h2.2⟩⟩
        simp only [mvQ, this]
      · rw [if_neg d, if_pos rfl, if_neg (fun q : mvQ s i => d (q.1 i hi6 ⟨Nat.le_refl _, c⟩))]
        exact ⟨z, f, rfl, hj_rf⟩
theorem cp_move {a0 : Nat} (ha : isSt a0) (hk : KO s) (hL : LF s z f) (hP : PS a0 s z f) (h4 : 0 ≤ s 8 4 ∧ s 8 4 < 20) (h5 : 0 ≤ s 8 5 ∧ s 8 5 < 20) {x y : Int} (hx : -1 ≤ x ∧ x ≤ 1) (hy : -1 ≤ y ∧ y ≤ 1) : ∃ z' f', g_X9_moveBody a0 (iv x) (iv y) z f = some (if mvP s x y then 1 else 0, z', f') ∧ HJ (up2 (up2 z a0 4 (iv (s 8 4 + x))) a0 5 (iv (s 8 5 + y))) f z' f' ∧ PS a0 (mvS s x y) z' f' := by
  have n : a0 ≠ 15 := by unfold isSt at ha; omega
  have hL' : LF (mvS s x y) (up2 (up2 z a0 4 (iv (s 8 4 + x))) a0 5 (iv (s 8 5 + y))) f := by
    have n2 : ∀ {k : Nat}, up2 (up2 z a0 4 (iv (s 8 4 + x))) a0 5 (iv (s 8 5 + y)) 15 k = z 15 k := fun {k} => by
      unfold up2
      rw [if_neg (fun e => n e.1.symm), if_neg (fun e => n e.1.symm)]
    exact ⟨hL.1, hL.2.1, n2.trans hL.2.2.1, n2.trans hL.2.2.2.1, n2.trans hL.2.2.2.2.1, n2.trans hL.2.2.2.2.2⟩
  have e4 : up2 (up2 z a0 4 (iv (s 8 4 + x))) a0 5 (iv (s 8 5 + y)) a0 4 = iv (s 8 4 + x) := by
    unfold up2
    rw [if_neg (fun e => absurd e.2 (by decide)), if_pos ⟨rfl, rfl⟩]
  have hP' : PS a0 (mvS s x y) (up2 (up2 z a0 4 (iv (s 8 4 + x))) a0 5 (iv (s 8 5 + y))) f := ⟨by rw [mv_4]; exact e4, by rw [mv_5]; exact up2_same, hP.2.2⟩
  have hk' := ko_mv hk (x := x) (y := y) (by omega) (by omega)
  unfold g_X9_moveBody lt2
  dsimp only
  rw [hP.1, iv_add, show up2 z a0 4 (iv (s 8 4 + x)) a0 5 = z a0 5 from if_neg (fun e => absurd e.2 (by decide)), hP.2.1, iv_add, e4, up2_same, cp_pt (by omega) (by omega), Option.bind_some]
  by_cases c : paS (s 8 4 + x) (s 8 5 + y) = -1
  · rw [if_pos (show iv (paS (s 8 4 + x) (s 8 5 + y)) = (-1 : Int32) by rw [c]; rfl), if_neg (fun q : mvP s x y => q.1 c)]
    exact ⟨_, _, rfl, hj_rf, hP'⟩
  · have hn := (paS_cs (s 8 4 + x) (s 8 5 + y)).resolve_left (fun h => c h.1)
    obtain ⟨z1, f1, e1, j1⟩ := mv_39 ha (ko_bd hk') hL' hP' 6 FU 0 (by decide) (by decide)
    rw [show iv ((0 : Nat) : Int) = (0 : Int32) from rfl] at e1
    rw [if_neg (fun e => c ((m1_iv (by have := hn.1; unfold nB at this; omega)).mp e)), e1]
    refine ⟨z1, f1, ?_, j1, hj_ps ha j1 hP'⟩
    have : ((∀ k, k < 6 → (0 ≤ k ∧ mvS s x y 7 k ≠ -1) → inR (mvS s x y) k (mvS s x y 7 k) = true) ∧ stB (mvS s x y) (-1) = true) ↔ mvP s x y := ⟨fun h => ⟨c, fun k h1 h2 => h.1 k h1 ⟨Nat.zero_le _, h2⟩, h.2⟩, fun h => ⟨fun k h1 h2 => h.2.1 k h1 h2.2, h.2.2⟩⟩
    simp only [mvQ, this]
theorem up2_comm {a k a' k' : Nat} {v w : Int32} (h : ¬ (a = a' ∧ k = k')) : up2 (up2 z a k v) a' k' w = up2 (up2 z a' k' w) a k v := by
  funext b j
  unfold up2
  by_cases c : b = a ∧ j = k
  · rw [if_neg (show ¬ (b = a' ∧ j = k') by omega), if_pos c, if_pos c]
  · rw [if_neg c]
    by_cases d : b = a' ∧ j = k'
    · rw [if_neg c]
    · rw [if_neg c]
def shC (s : MSt) : Int := (wS s + 9) / 10
abbrev shP (s : MSt) (x y : Int) : Prop := s 8 6 ≠ 0 ∧ shC s ≤ s 8 7 ∧ mvP s x y
def shS (s : MSt) (x y : Int) : MSt := us (us (mvS s x y) 8 7 (s 8 7 - shC s)) 8 11 0
theorem shC_bd (hB : BD s) : 0 ≤ shC s ∧ shC s ≤ 3 := by
  have := hB.2.2.1
  unfold shC wS
  omega
theorem ko_sh (h : KO s) {x y : Int} (hx : -1 ≤ s 8 4 + x ∧ s 8 4 + x ≤ 20) (hy : -1 ≤ s 8 5 + y ∧ s 8 5 + y ≤ 20) (h7 : shC s ≤ s 8 7) : KO (shS s x y) := by
  have h8 := ko_8 h
  have := shC_bd (ko_bd h)
  unfold shS
  exact ko_us (ko_us (ko_mv h hx hy) (a := 8) (k := 7) (show (0 : Int) ≤ s 8 7 - shC s ∧ s 8 7 - shC s ≤ 1000 by omega)) (a := 8) (k := 11) (by decide)
theorem cd_shiftBody (hk : KO s) (hC : CS s z f) (h4 : 0 ≤ s 8 4 ∧ s 8 4 < 20) (h5 : 0 ≤ s 8 5 ∧ s 8 5 < 20) {x y : Int} (hx : -1 ≤ x ∧ x ≤ 1) (hy : -1 ≤ y ∧ y ≤ 1) : ∃ z' f', g_X10_shiftBody (iv x) (iv y) z f = some (if shP s x y then 1 else 0, z', f') ∧ CS (if shP s x y then shS s x y else s) z' f' ∧ Fm z f z' f' := by
  have h8 := ko_8 hk
  have hB := ko_bd hk
  have sb := shC_bd hB
  have wb := (bd_m hB).2.2
  obtain ⟨z1, f1, e1, p1, rfl, c, rfl⟩ := cp_copy (a0 := 25) (a1 := 22) (by decide) (cs_ps hC)
  have hj : CJ z f (up2 (up2 z 25 4 (iv (s 8 4))) 25 5 (iv (s 8 5))) (upa f 27 c) := cj_copy25
  have hC1 := cj_cs hj hC
  unfold g_X10_shiftBody
  rw [cp_w (cs_lf hC), Option.bind_some, show (10 : Int32) = iv ((10 : Nat) : Int) from rfl]
  have er : g_X10_roundedUp (iv (wS s)) (iv ((10 : Nat) : Int)) z f = some (iv (shC s)) := by
    unfold g_X10_roundedUp shC
    rw [if_pos (by decide), if_neg (by decide), show (1 : Int32) = iv 1 from rfl, iv_add, iv_sub, iv_div (by omega) (by omega) (by decide) (by decide)]
    congr 3
    omega
  rw [er, Option.bind_some, e1, bn2_some, cz hC1 0 9 6, cz hC1 0 10 7]
  have e2 : (iv (s 8 7) < iv (shC s)) ↔ s 8 7 < shC s := iv_lt (by omega) (by omega)
  by_cases d : s 8 6 = 0
  · rw [if_pos ((z_iv (by omega)).mpr d), if_neg (fun q : shP s x y => q.1 d), if_neg (fun q : shP s x y => q.1 d)]
    exact ⟨_, _, rfl, hC1, hj.2.2⟩
  rw [if_neg (fun e => d ((z_iv (by omega)).mp e))]
  by_cases g : s 8 7 < shC s
  · rw [if_pos (e2.mpr g), if_neg (fun q : shP s x y => by have := q.2.1; omega), if_neg (fun q : shP s x y => by have := q.2.1; omega)]
    exact ⟨_, _, rfl, hC1, hj.2.2⟩
  rw [if_neg (fun e => g (e2.mp e))]
  obtain ⟨z2, f2, e3, j2, p2⟩ := cp_move (a0 := 25) (Or.inr (Or.inl rfl)) hk (cs_lf hC1) p1 h4 h5 hx hy
  have hj2 : CJ z f z2 f2 := cj_tr hj (cj_tr (cj_tr (cj_z (by decide +kernel) (by decide)) (cj_z (by decide +kernel) (by decide))) (cj_hj j2))
  have hC2 := cj_cs hj2 hC
  rw [e3, bn3_some]
  by_cases l : mvP s x y
  · have hp' : shP s x y := ⟨d, by omega, l⟩
    rw [if_pos l, if_neg (by decide), if_pos hp', if_pos hp']
    unfold lt2 g_X0_beginAct lt2
    dsimp only
    rw [bn2_some, cz hC2 0 10 7, iv_sub]
    have q3 : PS 25 (mvS s x y) (up2 (up2 z2 0 10 (iv (s 8 7 - shC s))) 33 3 0) f2 := ⟨p2.1, p2.2.1, p2.2.2⟩
    obtain ⟨z3, f3, e4, p4, rfl, c', rfl⟩ := cp_copy (a0 := 22) (a1 := 25) (by decide) q3
    rw [e4, bn2_some]
    have g1 := cs_sc hC2 (c := 22) (k := 4) (j := 4) (v := s 8 4 + x) (by decide)
    have g2 := cs_sc g1 (c := 22) (k := 5) (j := 5) (v := s 8 5 + y) (by decide)
    have g3 := cs_sc g2 (c := 0) (k := 10) (j := 7) (v := s 8 7 - shC s) (by decide)
    have g4 := cs_sc g3 (c := 33) (k := 3) (j := 11) (v := 0) (by decide)
    refine ⟨_, _, rfl, ?_, fm_tr hj2.2.2 (fm_tr (fm_z (by decide)) (fm_tr (fm_z (by decide)) (fm_tr (fm_z (by decide)) (fm_tr (fm_z (by decide)) (fm_f (by decide))))))⟩
    have ez : up2 (up2 (up2 (up2 z2 0 10 (iv (s 8 7 - shC s))) 33 3 0) 22 4 (iv (mvS s x y 8 4))) 22 5 (iv (mvS s x y 8 5)) = up2 (up2 (up2 (up2 z2 22 4 (iv (s 8 4 + x))) 22 5 (iv (s 8 5 + y))) 0 10 (iv (s 8 7 - shC s))) 33 3 (iv 0) := by
      rw [mv_4, mv_5, up2_comm (a := 33) (k := 3) (a' := 22) (k' := 4) (by decide), up2_comm (a := 33) (k := 3) (a' := 22) (k' := 5) (by decide), up2_comm (a := 0) (k := 10) (a' := 22) (k' := 4) (by decide), up2_comm (a := 0) (k := 10) (a' := 22) (k' := 5) (by decide)]
      rfl
    rw [ez]
    refine ⟨fun q hq k hk' => ?_, g4.2⟩
    by_cases eq : q.1 = 24
    · have : q = (24, 7, 6) := by
        have : ∀ q ∈ arrsC, q.1 = 24 → q = (24, 7, 6) := by decide +kernel
        exact this q hq eq
      subst this
      have := p4.2.2 k hk'
      exact this
    · rw [upa_ne eq]
      exact g4.1 q hq k hk'
  · have hp' : ¬ shP s x y := fun q => l q.2.2
    rw [if_neg l, if_pos rfl, if_neg hp', if_neg hp']
    exact ⟨z2, f2, rfl, hC2, hj2.2.2⟩
end
