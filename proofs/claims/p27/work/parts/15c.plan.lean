/-! plans -/
noncomputable def fhS (s : MSt) (k : Nat) : Int := by
  classical
  exact if h : ∃ r, bsP s k r then Classical.choose h else -1
section
variable {s : MSt} {z f : Nat → Nat → Int32}
theorem fh_eq {k : Nat} {r : Int} (h : bsP s k r) : r = fhS s k := by
  have hx : ∃ r, bsP s k r := ⟨r, h⟩
  unfold fhS
  rw [dif_pos hx]
  exact bs_uniq h (Classical.choose_spec hx)
theorem fh_sp (hk : KO s) {k : Nat} (hk6 : k < 6) : bsP s k (fhS s k) := by
  obtain ⟨r, h⟩ := bs_ex hk hk6
  rw [← fh_eq h]; exact h
theorem fh_cs (hk : KO s) {k : Nat} (hk6 : k < 6) : fhS s k = -1 ∨ elS s k (fhS s k) := (fh_sp hk hk6).imp (fun h => h.1) (fun h => h.1)
theorem cp_fh (hk : KO s) {k : Nat} (hk6 : k < 6) {a0 : Nat} (hL : LF s z f) (hP : PS a0 s z f) : g_X9_bestPoint a0 (iv k) z f = some (iv (fhS s k)) := by
  obtain ⟨r, h1, h2⟩ := cp_best hk hk6 hL hP
  rw [h2, fh_eq h1]
noncomputable def oFh (s : MSt) (a : Int) : Nat × Int := if lgP s a then (0, fhS s a.toNat) else (1, 0)
theorem cq_foothold (hk : KO s) (hC : CS s z f) {a : Int} (ha : IB a) : g_X10_foothold (iv a) z f = some (rsC [nIOB] (oFh s a).1 (oFh s a).2) := by
  unfold g_X10_foothold oFh
  rw [cd_isLeg hk hC ha, Option.bind_some]
  by_cases c : lgP s a
  · obtain ⟨ea, h6⟩ := lg_nat hk c
    have e : g_X9_bestPoint 22 (iv a) z f = some (iv (fhS s a.toNat)) := (congrArg (fun q => g_X9_bestPoint 22 (iv q) z f) ea).trans (cp_fh hk h6 (cs_lf hC) (cs_ps hC))
    rw [if_pos (show 0 ≤ a ∧ a < s 8 0 from c), if_neg (by decide), if_pos c, e]
    rfl
  · rw [if_neg (show ¬ (0 ≤ a ∧ a < s 8 0) from c), if_neg c, if_pos rfl]
    rfl
/-- what a plan keeps -/
def PI (s : MSt) : Prop := KO s ∧ DS s ∧ LG s ∧ (0 ≤ s 8 4 ∧ s 8 4 < 20) ∧ 0 ≤ s 8 5 ∧ s 8 5 < 20
/-- body and feet alone differ -/
def SE (s t : MSt) : Prop := (∀ a, a ≠ 7 → a ≠ 8 → t a = s a) ∧ ∀ j, j ≠ 4 → j ≠ 5 → t 8 j = s 8 j
def wayX (m : Nat) : Int := if m = 6 then -1 else if m = 7 then 1 else 0
def wayY (m : Nat) : Int := if m = 8 then -1 else if m = 9 then 1 else 0
abbrev stpP (s : MSt) (m : Nat) : Prop := (m : Int) < s 8 0 ∧ (s 7 m = -1 ∨ stB s m = true) ∧ fhS s m ≠ -1
noncomputable def mvM (s : MSt) (m : Nat) : Option MSt := if m < 6 then (if stpP s m then some (us s 7 m (fhS s m)) else none) else if mvP s (wayX m) (wayY m) then some (mvS s (wayX m) (wayY m)) else none
theorem se_rf : SE s s := ⟨fun _ _ _ => rfl, fun _ _ _ => rfl⟩
theorem se_tr {t u : MSt} (h : SE s t) (h2 : SE t u) : SE s u := ⟨fun a h7 h8 => (h2.1 a h7 h8).trans (h.1 a h7 h8), fun j h4 h5 => (h2.2 j h4 h5).trans (h.2 j h4 h5)⟩
theorem way_bd (m : Nat) : (-1 ≤ wayX m ∧ wayX m ≤ 1) ∧ (-1 ≤ wayY m ∧ wayY m ≤ 1) ∧ ((wayX m).natAbs : Int) + (wayY m).natAbs ≤ 1 := by
  unfold wayX wayY
  by_cases h6 : m = 6
  · subst h6; decide
  by_cases h7 : m = 7
  · subst h7; decide
  by_cases h8 : m = 8
  · subst h8; decide
  by_cases h9 : m = 9
  · subst h9; decide
  · simp [h6, h7, h8, h9]
theorem mvM_sp (h : PI s) {m : Nat} {t : MSt} (he : mvM s m = some t) : PI t ∧ SE s t ∧ ∃ x y : Int, t 8 4 = s 8 4 + x ∧ t 8 5 = s 8 5 + y ∧ (x.natAbs : Int) + y.natAbs ≤ 1 := by
  obtain ⟨hk, hD, hG, h4, h5⟩ := h
  unfold mvM at he
  by_cases c : m < 6
  · rw [if_pos c] at he
    by_cases d : stpP s m
    · rw [if_pos d] at he
      cases he
      have el := (fh_cs hk c).resolve_left d.2.2
      have hb : -1 ≤ fhS s m ∧ fhS s m ≤ 399 := by have := el.1; unfold nB at this; omega
      refine ⟨⟨ko_us hk (a := 7) hb, fun i j hi hj h1 h2 => ?_, fun j hj hl => ?_, ?_, ?_⟩, ⟨fun a h7 _ => ?_, fun j _ _ => us_na (by decide)⟩, 0, 0, ?_, ?_, by decide⟩
      · have tk : ∀ q, q < 6 → q ≠ m → s 7 q ≠ fhS s m := fun q hq hne e => by
          have : tkS (s 7) (fhS s m) m = true := (tkN_iff 6 0).mpr ⟨q, Nat.zero_le _, by omega, by omega, e⟩
          rw [el.2.2.2] at this
          cases this
        by_cases e1 : i = m
        · subst e1
          rw [us_at] at h2
          by_cases e2 : j = i
          · exact e2.symm
          · rw [us_nk e2] at h2; exact absurd h2.symm (tk j hj e2)
        · rw [us_nk e1] at h1 h2
          by_cases e2 : j = m
          · subst e2; rw [us_at] at h2; exact absurd h2 (tk i hi e1)
          · rw [us_nk e2] at h2; exact hD i j hi hj h1 h2
      · rw [us_na (by decide)] at hl
        rw [us_nk (by have := d.1; omega)]
        exact hG j hj hl
      · rw [us_na (by decide)]; exact h4
      · rw [us_na (by decide)]; exact h5
      · funext k; exact us_na h7
      · rw [us_na (by decide)]; omega
      · rw [us_na (by decide)]; omega
    · rw [if_neg d] at he; cases he
  · rw [if_neg c] at he
    by_cases d : mvP s (wayX m) (wayY m)
    · rw [if_pos d] at he
      cases he
      obtain ⟨wx, wy, w1⟩ := way_bd m
      have q := (paS_cs (s 8 4 + wayX m) (s 8 5 + wayY m)).resolve_left (fun h => d.1 h.1)
      refine ⟨⟨ko_mv hk (by omega) (by omega), ds_cg (fun _ => mv_o (fun e => absurd e (by decide))) hD, lg_cg (fun _ => mv_o (fun e => absurd e (by decide))) (mv_o (by decide)) hG, ?_, ?_⟩, ⟨fun a _ h8 => funext fun k => mv_o (fun e => absurd e h8), fun j h4 h5 => mv_o (fun _ => ⟨h4, h5⟩)⟩, wayX m, wayY m, mv_4, mv_5, w1⟩
      · rw [mv_4]; exact q.2.2.1
      · rw [mv_5]; exact q.2.2.2
    · rw [if_neg d] at he; cases he
/-- the goal is reached by just so many moves -/
def rchE (gx gy : Int) : Nat → MSt → Prop
  | 0, s => s 8 4 = gx ∧ s 8 5 = gy
  | n + 1, s => ∃ m, m < 10 ∧ ∃ t, mvM s m = some t ∧ rchE gx gy n t
def dsG (gx gy : Int) (s : MSt) : Int := ((s 8 4 - gx).natAbs : Int) + (s 8 5 - gy).natAbs
theorem rch_ds {gx gy : Int} : ∀ n (s : MSt), PI s → rchE gx gy n s → dsG gx gy s ≤ n
  | 0, s, _, h => by unfold dsG; have h1 := h.1; have h2 := h.2; omega
  | n + 1, s, hp, ⟨m, hm, t, ht, hr⟩ => by
    obtain ⟨p, -, x, y, e4, e5, hxy⟩ := mvM_sp hp ht
    have := rch_ds n t p hr
    unfold dsG at *
    omega
def fwP (gx gy : Int) (s : MSt) (r : Int) : Prop := (r = -1 ∧ ∀ j, j ≤ 3 → ¬ rchE gx gy j s) ∨ ∃ n : Nat, n ≤ 3 ∧ r = n ∧ rchE gx gy n s ∧ ∀ j, j < n → ¬ rchE gx gy j s
theorem fw_uniq {gx gy r r' : Int} (h : fwP gx gy s r) (h' : fwP gx gy s r') : r = r' := by
  rcases h with ⟨h1, h2⟩ | ⟨n, h1, h2, h3, h4⟩
  · rcases h' with ⟨g1, g2⟩ | ⟨n', g1, g2, g3, g4⟩
    · rw [h1, g1]
    · exact absurd g3 (h2 n' g1)
  · rcases h' with ⟨g1, g2⟩ | ⟨n', g1, g2, g3, g4⟩
    · exact absurd h3 (g2 n h1)
    · rcases Nat.lt_trichotomy n n' with q | q | q
      · exact absurd h3 (g4 n q)
      · omega
      · exact absurd g3 (h4 n' q)
/-! the class's planner -/
def PJ (n : Nat) (z f z' f' : Nat → Nat → Int32) : Prop := (∀ a k, ¬ (a = 1 ∧ k = 2) → (a < 57 + 3 * n ∨ 66 ≤ a) → z' a k = z a k) ∧ ∀ b, b ≠ 3 → b ≠ 5 → (b < 57 + 3 * n ∨ 66 ≤ b) → f' b = f b
theorem pj_rf {n : Nat} : PJ n z f z f := ⟨fun _ _ _ _ => rfl, fun _ _ _ _ => rfl⟩
theorem pj_tr {n : Nat} {z1 f1 z' f' : Nat → Nat → Int32} (h : PJ n z f z1 f1) (h2 : PJ n z1 f1 z' f') : PJ n z f z' f' := ⟨fun a k q r => (h2.1 a k q r).trans (h.1 a k q r), fun b q r t => (h2.2 b q r t).trans (h.2 b q r t)⟩
theorem pj_le {n m : Nat} {z' f' : Nat → Nat → Int32} (hm : m ≤ n) (h : PJ n z f z' f') : PJ m z f z' f' := ⟨fun a k q r => h.1 a k q (by omega), fun b q r t => h.2 b q r (by omega)⟩
theorem pj_hj {n : Nat} {z' f' : Nat → Nat → Int32} (h : HJ z f z' f') : PJ n z f z' f' := ⟨fun a k q _ => h.1 a k q, fun b q r _ => h.2 b q r⟩
theorem pj_cj {n : Nat} {z' f' : Nat → Nat → Int32} (h : PJ n z f z' f') : CJ z f z' f' := by
  have n1 : ∀ q ∈ arrsC, q.1 ≠ 3 ∧ q.1 ≠ 5 ∧ q.1 < 54 := by decide +kernel
  have n2 : ∀ q ∈ scalC, ¬ (q.1 = 1 ∧ q.2.1 = 2) ∧ q.1 < 54 := by decide +kernel
  exact ⟨fun q hq => h.2 _ (n1 q hq).1 (n1 q hq).2.1 (by have := (n1 q hq).2.2; omega), fun q hq => h.1 _ _ (n2 q hq).1 (by have := (n2 q hq).2; omega), fun a ha => ⟨funext fun k => h.1 a k (by omega) (by omega), h.2 a (by omega) (by omega) (by omega)⟩⟩
theorem pj_lf {n : Nat} {z' f' : Nat → Nat → Int32} (h : PJ n z f z' f') (hc : LF s z f) : LF s z' f' := by
  obtain ⟨⟨a1, a2, a3, a4⟩, ⟨a5, a6, a7⟩, a8, a9, a10, a11⟩ := hc
  refine ⟨⟨?_, ?_, ?_, ?_⟩, ⟨?_, ?_, ?_⟩, ?_, ?_, ?_, ?_⟩
  all_goals first | (rw [h.2 _ (by decide) (by decide) (by omega)]; assumption) | (rw [h.1 _ _ (by decide) (by omega)]; assumption)
theorem pj_ps {n j : Nat} (hj : j ≤ n) {z' f' : Nat → Nat → Int32} (h : PJ n z f z' f') (hc : PS (54 + 3 * j) s z f) : PS (54 + 3 * j) s z' f' :=
  ⟨(h.1 _ 4 (by omega) (by omega)).trans hc.1, (h.1 _ 5 (by omega) (by omega)).trans hc.2.1, fun k hk => by rw [h.2 _ (by omega) (by omega) (by omega)]; exact hc.2.2 k hk⟩
theorem lf_se {t : MSt} (h : SE s t) (hL : LF s z f) : LF t z f := by
  obtain ⟨⟨a1, a2, a3, a4⟩, ⟨a5, a6, a7⟩, a8, a9, a10, a11⟩ := hL
  unfold LF
  rw [h.1 0 (by decide) (by decide), h.1 1 (by decide) (by decide), h.1 2 (by decide) (by decide), h.1 3 (by decide) (by decide), h.1 4 (by decide) (by decide), h.1 5 (by decide) (by decide), h.1 6 (by decide) (by decide), h.2 0 (by decide) (by decide), h.2 1 (by decide) (by decide), h.2 2 (by decide) (by decide), h.2 3 (by decide) (by decide)]
  exact ⟨⟨a1, a2, a3, a4⟩, ⟨a5, a6, a7⟩, a8, a9, a10, a11⟩
theorem ix_4 {i : Nat} (h : i < 4) : ixA 4 (iv i) = some i := ix_iv h (by decide)
theorem cp_step {a0 : Nat} (ha : isSt a0) (h : PI s) (hL : LF s z f) (hP : PS a0 s z f) {m : Nat} (hm : m < 6) (hl : (m : Int) < s 8 0) : ∃ z' f', g_X9_step a0 (iv m) z f = some (if (mvM s m).isSome then 1 else 0, z', f') ∧ (∀ a k, ¬ (a = 1 ∧ k = 2) → z' a k = z a k) ∧ (∀ b, b ≠ 3 → b ≠ 5 → b ≠ a0 + 1 + 1 → f' b = f b) ∧ ∀ t, mvM s m = some t → PS a0 t z' f' := by
  have hk := h.1
  have hB := ko_bd hk
  have em : mvM s m = if stpP s m then some (us s 7 m (fhS s m)) else none := by unfold mvM; rw [if_pos hm]
  have b22 : ∀ {z1 f1 : Nat → Nat → Int32}, HJ z f z1 f1 → (s 7 m = -1 ∨ stB s m = true) → ∃ z' f', g_X9_step_b22 a0 (iv m) z1 f1 = some (if (mvM s m).isSome then 1 else 0, z', f') ∧ (∀ a k, ¬ (a = 1 ∧ k = 2) → z' a k = z a k) ∧ (∀ b, b ≠ 3 → b ≠ 5 → b ≠ a0 + 1 + 1 → f' b = f b) ∧ ∀ t, mvM s m = some t → PS a0 t z' f' := fun {z1 f1} hj hs => by
    have hL1 := hj_lf hj hL
    have hP1 := hj_ps ha hj hP
    unfold g_X9_step_b22
    rw [cp_fh hk hm hL1 hP1, Option.bind_some]
    by_cases c : fhS s m = -1
    · rw [if_pos (show iv (fhS s m) = (-1 : Int32) by rw [c]; rfl), em, if_neg (fun q : stpP s m => q.2.2 c)]
      exact ⟨z1, f1, rfl, hj.1, fun b h3 h5 _ => hj.2 b h3 h5, fun t ht => by cases ht⟩
    · have el := (fh_cs hk hm).resolve_left c
      rw [if_neg (fun e => c ((m1_iv (by have := el.1; unfold nB at this; omega)).mp e)), em, if_pos (show stpP s m from ⟨hl, hs, c⟩), lt2_e, wrR_iv hm (by decide)]
      refine ⟨z1, _, rfl, hj.1, fun b h3 h5 hb => by rw [upf_up, upa_ne hb]; exact hj.2 b h3 h5, fun t ht => ?_⟩
      cases ht
      refine ⟨hP1.1, hP1.2.1, fun k hk6 => ?_⟩
      rw [upf_up, upa_same]
      by_cases e : k = m
      · subst e; rw [upd_at, us_at]
      · rw [upd_ne e, us_nk e]; exact hP1.2.2 k hk6
  unfold g_X9_step
  rw [rdR_iv hm (by decide), hP.2.2 m hm]
  have e2 : (iv (s 7 m) = (-1 : Int32)) ↔ s 7 m = -1 := m1_iv (ftIB (ko_ft hk) hm)
  by_cases c : s 7 m = -1
  · rw [if_pos (e2.mpr c)]
    exact b22 hj_rf (Or.inl c)
  · obtain ⟨z1, f1, mm, c', e, hj, -⟩ := cp_holds ha hB hL hP (but := m) (by omega)
    rw [if_neg (fun q => c (e2.mp q)), e, bn3_some]
    by_cases d : stB s m = true
    · rw [if_pos d, if_neg (by decide)]
      exact b22 hj (Or.inr d)
    · rw [if_neg d, if_pos rfl, em, if_neg (fun q : stpP s m => by rcases q.2.1 with r | r; exact c r; exact d r)]
      exact ⟨z1, f1, rfl, hj.1, fun b h3 h5 _ => hj.2 b h3 h5, fun t ht => by cases ht⟩
theorem cp_made (h : PI s) (hL : LF s z f) {n : Nat} (hn : n < 3) (hP : PS (54 + 3 * n) s z f) {m : Nat} (hm : m < 10) : ∃ z' f', g_X7_isMade (iv n) (iv m) z f = some (if (mvM s m).isSome then 1 else 0, z', f') ∧ PJ n z f z' f' ∧ ∀ t, mvM s m = some t → PS (54 + 3 * (n + 1)) t z' f' := by
  have hk := h.1
  have ha : isSt (54 + 3 * (n + 1)) := isSt_bh (by omega)
  have h8 := ko_8 hk
  obtain ⟨z1, f1, e1, p1, rfl, c, rfl⟩ := cp_copy (a0 := 54 + 3 * (n + 1)) (a1 := 54 + 3 * n) (by omega) hP
  have j1 : PJ n z f (up2 (up2 z (54 + 3 * (n + 1)) 4 (iv (s 8 4))) (54 + 3 * (n + 1)) 5 (iv (s 8 5))) (upa f (54 + 3 * (n + 1) + 1 + 1) c) := ⟨fun a k _ hak => by
    unfold up2
    rw [if_neg (by omega), if_neg (by omega)], fun b _ _ hb => upa_ne (by omega)⟩
  have hL1 := pj_lf j1 hL
  have e0 : ¬ iv (n : Int) < (0 : Int32) := fun q => by have := (iv_lt (b := 0) (ibn (by omega)) (by decide)).mp q; omega
  have e4 : iv ((n + 1 : Nat) : Int) < (4 : Int32) := (iv_lt (b := 4) (ibn (by omega)) (by decide)).mpr (by omega)
  unfold g_X7_isMade
  rw [if_neg e0, iv_1, if_pos e4, ix_4 (by omega), Option.bind_some, ix_4 (by omega), Option.bind_some, e1, bn2_some, show (6 : Int32) = iv 6 from rfl, iv_sub]
  have shf : 6 ≤ m → ∀ x y : Int, wayX m = x → wayY m = y → ∃ z' f', (bn3 (g_X9_moveBody (54 + 3 * (n + 1)) (iv x) (iv y) (up2 (up2 z (54 + 3 * (n + 1)) 4 (iv (s 8 4))) (54 + 3 * (n + 1)) 5 (iv (s 8 5))) (upa f (54 + 3 * (n + 1) + 1 + 1) c)) fun x5 z6 u7 => rtZw x5 z6 u7) = some (if (mvM s m).isSome then 1 else 0, z', f') ∧ PJ n z f z' f' ∧ ∀ t, mvM s m = some t → PS (54 + 3 * (n + 1)) t z' f' := fun h6 x y hx hy => by
    obtain ⟨wx, wy, -⟩ := way_bd m
    obtain ⟨z2, f2, e2, j2, p2⟩ := cp_move ha hk hL1 p1 h.2.2.2.1 h.2.2.2.2 (x := x) (y := y) (by omega) (by omega)
    have em : mvM s m = if mvP s x y then some (mvS s x y) else none := by unfold mvM; rw [if_neg (by omega), hx, hy]
    have jj : PJ n z f z2 f2 := pj_tr j1 (pj_tr ⟨fun a k _ hak => by
      unfold up2
      rw [if_neg (by omega), if_neg (by omega)], fun _ _ _ _ => rfl⟩ (pj_hj j2))
    rw [e2, bn3_some, em]
    by_cases d : mvP s x y
    · rw [if_pos d, if_pos d]
      exact ⟨z2, f2, rfl, jj, fun t ht => by cases ht; exact p2⟩
    · rw [if_neg d, if_neg d]
      exact ⟨z2, f2, rfl, jj, fun t ht => by cases ht⟩
  have ne : ∀ j : Int, IB j → (m : Int) - 6 ≠ j → ¬ iv ((m : Int) - 6) = iv j := fun j hj hne q => hne ((iv_eq (by omega) hj).mp q)
  by_cases c6 : m = 6
  · subst c6
    rw [if_pos (by decide)]
    have q := shf (by decide) (-1) 0 rfl rfl
    rw [show iv (-1) = (-1 : Int32) from rfl, show iv 0 = (0 : Int32) from rfl] at q
    exact q
  by_cases c7 : m = 7
  · subst c7
    rw [if_neg (by decide), if_pos (by decide)]
    exact shf (by decide) 1 0 rfl rfl
  by_cases c8 : m = 8
  · subst c8
    rw [if_neg (by decide), if_neg (by decide), if_pos (by decide)]
    have q := shf (by decide) 0 (-1) rfl rfl
    rw [show iv (-1) = (-1 : Int32) from rfl, show iv 0 = (0 : Int32) from rfl] at q
    exact q
  by_cases c9 : m = 9
  · subst c9
    rw [if_neg (by decide), if_neg (by decide), if_neg (by decide), if_pos (by decide)]
    exact shf (by decide) 0 1 rfl rfl
  have h6 : m < 6 := by omega
  rw [if_neg (show ¬ iv ((m : Int) - 6) = (0 : Int32) from ne 0 (by decide) (by omega)), if_neg (show ¬ iv ((m : Int) - 6) = (1 : Int32) from ne 1 (by decide) (by omega)), if_neg (show ¬ iv ((m : Int) - 6) = (2 : Int32) from ne 2 (by decide) (by omega)), if_neg (show ¬ iv ((m : Int) - 6) = (3 : Int32) from ne 3 (by decide) (by omega)), hL1.2.2.1]
  have el : (iv (s 8 0) ≤ iv (m : Int)) ↔ s 8 0 ≤ m := iv_le (by omega) (by omega)
  by_cases d : s 8 0 ≤ m
  · have em : mvM s m = none := by unfold mvM; rw [if_pos h6, if_neg (fun q : stpP s m => by have := q.1; omega)]
    rw [if_pos (el.mpr d), em]
    exact ⟨_, _, rfl, j1, fun t ht => by cases ht⟩
  · obtain ⟨z2, f2, e2, q1, q2, q3⟩ := cp_step ha h hL1 p1 h6 (by omega)
    have jj : PJ n z f z2 f2 := pj_tr j1 ⟨fun a k hak _ => q1 a k hak, fun b h3 h5 hb => q2 b h3 h5 (by omega)⟩
    rw [if_neg (fun q => d (el.mp q)), e2, bn3_some]
    by_cases g : (mvM s m).isSome = true
    · rw [if_pos g, if_neg (by decide)]
      exact ⟨z2, f2, rfl, jj, q3⟩
    · rw [if_neg g, if_pos rfl]
      exact ⟨z2, f2, rfl, jj, q3⟩
end
