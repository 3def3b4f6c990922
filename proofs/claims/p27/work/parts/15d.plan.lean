section
variable {s : MSt} {z f : Nat → Nat → Int32}
theorem cp_away {n : Nat} (hn : n < 4) (hP : PS (54 + 3 * n) s z f) {g : Int} (hg : z 52 2 = iv g) (hgn : nB g) (h4 : -1 ≤ s 8 4 ∧ s 8 4 ≤ 20) (h5 : -1 ≤ s 8 5 ∧ s 8 5 ≤ 20) : g_X7_away (iv n) z f = some (iv (dsG (pt g).1 (pt g).2 s)) := by
  have pb := pt_bd hgn
  have e0 : ¬ iv (n : Int) < (0 : Int32) := fun q => by have := (iv_lt (b := 0) (ibn (by omega)) (by decide)).mp q; omega
  have e4 : iv (n : Int) < (4 : Int32) := (iv_lt (b := 4) (ibn (by omega)) (by decide)).mpr (by omega)
  unfold g_X7_away g_X10_xOf g_X10_yOf dsG
  rw [if_neg e0, if_pos e4, ix_4 hn, Option.bind_some, Option.bind_some, Option.bind_some, Option.bind_some, hg, iv_x hgn, iv_y hgn, hP.1, hP.2.1, iv_sub, iv_sub, iv_abs (by omega), iv_abs (by omega), iv_add]
theorem ds_bd {gx gy : Int} (hx : 0 ≤ gx ∧ gx < 20) (hy : 0 ≤ gy ∧ gy < 20) (h4 : -1 ≤ s 8 4 ∧ s 8 4 ≤ 20) (h5 : -1 ≤ s 8 5 ∧ s 8 5 ≤ 20) : 0 ≤ dsG gx gy s ∧ dsG gx gy s ≤ 50 := by
  unfold dsG; omega
theorem rch_0 {gx gy : Int} : rchE gx gy 0 s ↔ dsG gx gy s = 0 := by
  unfold rchE dsG; omega
theorem le10 {i : Nat} (h : i < 1000) : ((10 : Int32) ≤ iv i) ↔ 10 ≤ i := (iv_le (a := 10) (by decide) (ibn (by omega))).trans (by omega)
theorem lt3 {i : Nat} (h : i < 1000) : ((3 : Int32) < iv i) ↔ 3 < i := (iv_lt (a := 3) (by decide) (ibn (by omega))).trans (by omega)
/-- reached within so many moves -/
theorem cr_reach {g : Int} (hgn : nB g) : ∀ (dd n more : Nat) (s : MSt) (z f : Nat → Nat → Int32), n + dd = 4 → n + more ≤ 3 → PI s → LF s z f → PS (54 + 3 * n) s z f → z 52 2 = iv g → ∃ b : Bool, (b = true ↔ ∃ j, j ≤ more ∧ rchE (pt g).1 (pt g).2 j s) ∧ ∃ z' f', g_X10_isReachedBy dd (iv n) (iv more) z f = some (if b then 1 else 0, z', f') ∧ PJ n z f z' f' := by
  have pb := pt_bd hgn
  intro dd
  induction dd with
  | zero => intro n more s z f h1 h2; omega
  | succ dd ih =>
    intro n more s z f hn hm hp hL hP hg
    have db := ds_bd (s := s) (gx := (pt g).1) (gy := (pt g).2) (by omega) (by omega) (by have := hp.2.2.2.1; omega) (by have := hp.2.2.2.2; omega)
    rw [g_X10_isReachedBy]
    unfold g_X10_isReachedBy_o
    rw [cp_away (by omega) hP hg hgn (by have := hp.2.2.2.1; omega) (by have := hp.2.2.2.2; omega), Option.bind_some]
    by_cases c0 : dsG (pt g).1 (pt g).2 s = 0
    · rw [if_pos ((z_iv (by omega)).mpr c0)]
      exact ⟨true, ⟨fun _ => ⟨0, Nat.zero_le _, rch_0.mpr c0⟩, fun _ => rfl⟩, z, f, rfl, pj_rf⟩
    rw [if_neg (fun e => c0 ((z_iv (by omega)).mp e))]
    have em : (iv (more : Int) < iv (dsG (pt g).1 (pt g).2 s)) ↔ (more : Int) < dsG (pt g).1 (pt g).2 s := iv_lt (ibn (by omega)) (by omega)
    by_cases c1 : (more : Int) < dsG (pt g).1 (pt g).2 s
    · rw [if_pos (em.mpr c1)]
      refine ⟨false, ⟨fun h => (by cases h), fun ⟨j, hj, hr⟩ => ?_⟩, z, f, rfl, pj_rf⟩
      have := rch_ds j s hp hr
      omega
    rw [if_neg (fun e => c1 (em.mp e))]
    have e3 : iv (n : Int) < (3 : Int32) := (iv_lt (b := 3) (ibn (by omega)) (by decide)).mpr (by omega)
    rw [if_pos e3]
    obtain ⟨more, rfl⟩ : ∃ x, more = x + 1 := ⟨more - 1, by omega⟩
    have loop : ∀ (k fu i : Nat) (z f : Nat → Nat → Int32), i + k = 10 → k < fu → LF s z f → PS (54 + 3 * n) s z f → z 52 2 = iv g → ∃ b : Bool, (b = true ↔ ∃ m, i ≤ m ∧ m < 10 ∧ ∃ t, mvM s m = some t ∧ ∃ j, j ≤ more ∧ rchE (pt g).1 (pt g).2 j t) ∧ ∃ z' f', g_X10_isReachedBy_l27 (g_X10_isReachedBy dd) fu (iv n) (iv ((more + 1 : Nat) : Int)) (iv i) z f = some (if b then 1 else 0, z', f') ∧ PJ n z f z' f' := by
      intro k
      induction k with
      | zero =>
        intro fu i z f hi hf hL hP hg
        obtain ⟨fu, rfl⟩ : ∃ x, fu = x + 1 := ⟨fu - 1, by omega⟩
        refine ⟨false, ⟨fun h => (by cases h), fun ⟨m, h1, h2, _⟩ => by omega⟩, z, f, ?_, pj_rf⟩
        rw [g_X10_isReachedBy_l27, if_pos ((le10 (i := i) (by omega)).mpr (by omega))]
        rfl
      | succ k ihk =>
        intro fu i z f hi hf hL hP hg
        obtain ⟨fu, rfl⟩ : ∃ x, fu = x + 1 := ⟨fu - 1, by omega⟩
        obtain ⟨z1, f1, e1, j1, p1⟩ := cp_made hp hL (by omega) hP (m := i) (by omega)
        have hL1 := pj_lf j1 hL
        have hP1 := pj_ps (Nat.le_refl n) j1 hP
        have hg1 : z1 52 2 = iv g := (j1.1 52 2 (by omega) (by omega)).trans hg
        rw [g_X10_isReachedBy_l27, if_neg (fun e => by have := (le10 (i := i) (by omega)).mp e; omega), e1, bn3_some]
        unfold g_X10_isReachedBy_b59
        rw [iv_1 i]
        have up : (¬ ∃ t, mvM s i = some t ∧ ∃ j, j ≤ more ∧ rchE (pt g).1 (pt g).2 j t) → ((∃ m, i + 1 ≤ m ∧ m < 10 ∧ ∃ t, mvM s m = some t ∧ ∃ j, j ≤ more ∧ rchE (pt g).1 (pt g).2 j t) ↔ (∃ m, i ≤ m ∧ m < 10 ∧ ∃ t, mvM s m = some t ∧ ∃ j, j ≤ more ∧ rchE (pt g).1 (pt g).2 j t)) := fun hno => ⟨fun ⟨m, h1, h2⟩ => ⟨m, by omega, h2⟩, fun ⟨m, h1, h2, h3⟩ => by
          rcases Nat.lt_or_eq_of_le h1 with q | q
          · exact ⟨m, q, h2, h3⟩
          · subst q; exact absurd h3 hno⟩
        cases em : mvM s i with
        | none =>
          obtain ⟨b, hb, z2, f2, e2, j2⟩ := ihk fu (i + 1) z1 f1 (by omega) (by omega) hL1 hP1 hg1
          rw [em] at up
          rw [show (if (none : Option MSt).isSome = true then (1 : Int32) else 0) = 0 from rfl, if_pos rfl]
          exact ⟨b, hb.trans (up (fun ⟨t, ht, _⟩ => by cases ht)), z2, f2, e2, pj_tr j1 j2⟩
        | some t =>
          obtain ⟨pt1, se1, -⟩ := mvM_sp hp em
          obtain ⟨b, hb, z2, f2, e2, j2⟩ := ih (n + 1) more t z1 f1 (by omega) (by omega) pt1 (lf_se se1 hL1) (p1 t em) hg1
          have j2' : PJ n z1 f1 z2 f2 := pj_le (by omega) j2
          rw [show (if (some t : Option MSt).isSome = true then (1 : Int32) else 0) = 1 from rfl, if_neg (by decide), iv_1 n, show iv ((more + 1 : Nat) : Int) - 1 = iv (more : Int) by rw [show (1 : Int32) = iv 1 from rfl, iv_sub]; congr 1; omega, e2, bn3_some]
          by_cases d : b = true
          · rw [if_pos d, if_neg (by decide)]
            exact ⟨true, ⟨fun _ => ⟨i, Nat.le_refl _, by omega, t, em, hb.mp d⟩, fun _ => rfl⟩, z2, f2, rfl, pj_tr j1 j2'⟩
          · obtain ⟨b3, hb3, z3, f3, e3, j3⟩ := ihk fu (i + 1) z2 f2 (by omega) (by omega) (pj_lf j2' hL1) (pj_ps (Nat.le_refl n) j2' hP1) ((j2'.1 52 2 (by omega) (by omega)).trans hg1)
            rw [em] at up
            rw [if_neg d, if_pos rfl]
            exact ⟨b3, hb3.trans (up (fun ⟨t', ht, hr⟩ => by cases ht; exact d (hb.mpr hr))), z3, f3, e3, pj_tr j1 (pj_tr j2' j3)⟩
    obtain ⟨b, hb, z1, f1, e1, j1⟩ := loop 10 FU 0 z f rfl (by decide) hL hP hg
    refine ⟨b, hb.trans ⟨fun ⟨m, _, hm, t, ht, j, hj, hr⟩ => ⟨j + 1, by omega, m, hm, t, ht, hr⟩, fun ⟨j, hj, hr⟩ => ?_⟩, z1, f1, e1, j1⟩
    cases j with
    | zero => exact absurd (rch_0.mp hr) c0
    | succ j =>
      obtain ⟨m, hm, t, ht, hr2⟩ := hr
      exact ⟨m, Nat.zero_le _, hm, t, ht, j, by omega, hr2⟩
theorem cr_loop {g : Int} (hgn : nB g) (hp : PI s) : ∀ (k fu i : Nat) (z f : Nat → Nat → Int32), i + k = 4 → k < fu → LF s z f → PS 54 s z f → z 52 2 = iv g → (∀ j, j < i → ¬ rchE (pt g).1 (pt g).2 j s) → ∃ r z' f', fwP (pt g).1 (pt g).2 s r ∧ g_X10_fewest_l52 fu (iv i) z f = some (.inl (iv r), z', f') ∧ PJ 0 z f z' f' := by
  intro k
  induction k with
  | zero =>
    intro fu i z f hi hf hL hP hg hn
    obtain ⟨fu, rfl⟩ : ∃ x, fu = x + 1 := ⟨fu - 1, by omega⟩
    refine ⟨-1, z, f, Or.inl ⟨rfl, fun j hj => hn j (by omega)⟩, ?_, pj_rf⟩
    rw [g_X10_fewest_l52, if_pos ((lt3 (i := i) (by omega)).mpr (by omega))]
    rfl
  | succ k ih =>
    intro fu i z f hi hf hL hP hg hn
    obtain ⟨fu, rfl⟩ : ∃ x, fu = x + 1 := ⟨fu - 1, by omega⟩
    obtain ⟨b, hb, z1, f1, e1, j1⟩ := cr_reach hgn 4 0 i s z f rfl (by omega) hp hL hP hg
    rw [show iv ((0 : Nat) : Int) = (0 : Int32) from rfl] at e1
    rw [g_X10_fewest_l52, if_neg (fun e => by have := (lt3 (i := i) (by omega)).mp e; omega), e1, bn3_some]
    by_cases c : b = true
    · obtain ⟨j, hj, hr⟩ := hb.mp c
      have : j = i := by
        rcases Nat.lt_or_eq_of_le hj with q | q
        · exact absurd hr (hn j q)
        · exact q
      subst this
      rw [if_pos c, if_neg (by decide)]
      exact ⟨j, z1, f1, Or.inr ⟨j, by omega, rfl, hr, hn⟩, rfl, j1⟩
    · rw [if_neg c, if_pos rfl, iv_1]
      obtain ⟨r, z2, f2, h1, h2, h3⟩ := ih fu (i + 1) z1 f1 (by omega) (by omega) (pj_lf j1 hL) (pj_ps (j := 0) (Nat.le_refl 0) j1 hP) ((j1.1 52 2 (by omega) (by omega)).trans hg) (fun j hj hr => c (hb.mpr ⟨j, by omega, hr⟩))
      exact ⟨r, z2, f2, h1, h2, pj_tr j1 h3⟩
theorem cp_start (hC : CS s z f) (hp : KO s) {g : Int} : ∃ z' f', g_X7_start 22 (iv g) z f = some (z', f') ∧ CJ z f z' f' ∧ LF s z' f' ∧ PS 54 s z' f' ∧ z' 52 2 = iv g := by
  have j0 : CJ z f (up2 z 52 2 (iv g)) f := cj_z (by decide +kernel) (by decide)
  have hC0 := cj_cs j0 hC
  obtain ⟨z1, f1, e1, p1, rfl, c, rfl⟩ := cp_copy (a0 := 54) (a1 := 22) (by decide) (cs_ps hC0)
  have j1 : CJ (up2 z 52 2 (iv g)) f (up2 (up2 (up2 z 52 2 (iv g)) 54 4 (iv (s 8 4))) 54 5 (iv (s 8 5))) (upa f (54 + 1 + 1) c) := cj_tr (cj_z (by decide +kernel) (by decide)) (cj_tr (cj_z (by decide +kernel) (by decide)) (cj_f (by decide +kernel) (by decide)))
  unfold g_X7_start
  rw [lt2_e, if_neg (by decide), show ixA 4 0 = some 0 from rfl, Option.bind_some]
  refine ⟨_, _, ?_, cj_tr j0 j1, cs_lf (cj_cs (cj_tr j0 j1) hC), p1, ?_⟩
  · show (bn2 (g_X9_copy 54 22 (up2 z 52 2 (iv g)) f) fun z3 u4 => some (z3, u4)) = _
    rw [e1, bn2_some]
  · unfold up2
    rw [if_neg (by decide), if_neg (by decide), if_pos ⟨rfl, rfl⟩]
def fwC (s : MSt) (x y : Int) : Nat := if paS x y = -1 then 1 else 0
/-- what fewest answers: it lies, or the fewest moves -/
def fwR (s : MSt) (x y r : Int) : Prop := if s 8 6 = 0 then r = -1 else fwP x y s r
theorem fwR_uniq {x y r r' : Int} (h : fwR s x y r) (h' : fwR s x y r') : r = r' := by
  unfold fwR at h h'
  by_cases c : s 8 6 = 0
  · rw [if_pos c] at h h'; rw [h, h']
  · rw [if_neg c] at h h'; exact fw_uniq h h'
theorem cq_fewest (hp : PI s) (hC : CS s z f) {x y : Int} (hx : IB x) (hy : IB y) : ∃ r z' f', (paS x y ≠ -1 → fwR s x y r) ∧ g_X10_fewest (iv x) (iv y) z f = some (rsC [nIAE] (fwC s x y) r, z', f') ∧ CJ z f z' f' := by
  have h8 := ko_8 hp.1
  unfold g_X10_fewest fwC fwR
  rw [cp_pt hx hy, Option.bind_some]
  by_cases c : paS x y = -1
  · rw [if_pos (show iv (paS x y) = (-1 : Int32) by rw [c]; rfl), if_pos c]
    exact ⟨0, z, f, fun q => absurd c q, rfl, cj_rf⟩
  have hpt := (paS_cs x y).resolve_left (fun h => c h.1)
  rw [if_neg (fun e => c ((m1_iv (by have := hpt.1; unfold nB at this; omega)).mp e)), if_neg c, cz hC 0 9 6]
  by_cases d : s 8 6 = 0
  · rw [if_pos ((z_iv (by omega)).mpr d)]
    exact ⟨-1, z, f, fun _ => by rw [if_pos d], rfl, cj_rf⟩
  · rw [if_neg (fun e => d ((z_iv (by omega)).mp e))]
    obtain ⟨z1, f1, e1, j1, l1, p1, g1⟩ := cp_start hC hp.1 (g := paS x y)
    have db := ds_bd (s := s) (gx := x) (gy := y) hpt.2.2.1 hpt.2.2.2 (by have := hp.2.2.2.1; omega) (by have := hp.2.2.2.2; omega)
    have ea := cp_away (n := 0) (by decide) p1 g1 hpt.1 (by have := hp.2.2.2.1; omega) (by have := hp.2.2.2.2; omega)
    rw [show iv ((0 : Nat) : Int) = (0 : Int32) from rfl, hpt.2.1] at ea
    rw [e1, bn2_some, ea, Option.bind_some]
    have low : ∀ j : Nat, (j : Int) < dsG x y s → ¬ rchE x y j s := fun j hj hr => by
      have := rch_ds j s hp hr
      omega
    by_cases q : 3 < dsG x y s
    · refine ⟨-1, z1, f1, fun _ => ?_, ?_, j1⟩
      · rw [if_neg d]
        exact Or.inl ⟨rfl, fun j hj => low j (by omega)⟩
      · show g_X10_fewest_l52 (1999 + 1) _ z1 f1 = _
        rw [g_X10_fewest_l52, if_pos (show (3 : Int32) < iv (dsG x y s) from (iv_lt (a := 3) (by decide) (by omega)).mpr q)]
        rfl
    · obtain ⟨r, z2, f2, h1, h2, h3⟩ := cr_loop hpt.1 hp (4 - (dsG x y s).toNat) FU (dsG x y s).toNat z1 f1 (by omega) (by show _ < 2000; omega) l1 p1 g1 (fun j hj => by rw [hpt.2.1]; exact low j (by omega))
      rw [hpt.2.1] at h1
      rw [show (((dsG x y s).toNat : Nat) : Int) = dsG x y s by omega] at h2
      refine ⟨r, z2, f2, fun _ => by rw [if_neg d]; exact h1, h2, cj_tr j1 (pj_cj h3)⟩
/-- the shortest row -/
theorem cr_row {g : Int} (hgn : nB g) : ∀ (dd n : Nat) (s : MSt) (z f : Nat → Nat → Int32), n + dd = 4 → 1 ≤ dd → PI s → LF s z f → PS (54 + 3 * n) s z f → z 52 2 = iv g → ∃ v : Nat, ((v = 4 ∧ ∀ j, n + j ≤ 3 → ¬ rchE (pt g).1 (pt g).2 j s) ∨ ∃ j, n + j ≤ 3 ∧ v = n + j ∧ rchE (pt g).1 (pt g).2 j s ∧ ∀ i, i < j → ¬ rchE (pt g).1 (pt g).2 i s) ∧ ∃ z' f', g_X10_shortestRow dd (iv n) z f = some (iv v, z', f') ∧ PJ n z f z' f' := by
  have pb := pt_bd hgn
  intro dd
  induction dd with
  | zero => intro n s z f h1 h2; omega
  | succ dd ih =>
    intro n s z f hn hd hp hL hP hg
    have db := ds_bd (s := s) (gx := (pt g).1) (gy := (pt g).2) (by omega) (by omega) (by have := hp.2.2.2.1; omega) (by have := hp.2.2.2.2; omega)
    have e3 : (iv (n : Int) < (3 : Int32)) ↔ n < 3 := (iv_lt (b := 3) (ibn (by omega)) (by decide)).trans (by omega)
    -- v is right for the moves below i
    have LP : ∀ i v : Nat, Prop := fun i v => True
    have loop : ∀ (k fu i v : Nat) (z f : Nat → Nat → Int32), n < 3 → i + k = 10 → k < fu → v ≤ 4 → LF s z f → PS (54 + 3 * n) s z f → z 52 2 = iv g → (v = 4 ∨ ∃ j, n + j ≤ 3 ∧ v = n + j ∧ rchE (pt g).1 (pt g).2 j s) → (rchE (pt g).1 (pt g).2 0 s → v ≤ n) → (∀ m, m < i → ∀ t, mvM s m = some t → ∀ j, n + 1 + j ≤ 3 → rchE (pt g).1 (pt g).2 j t → v ≤ n + 1 + j) → ∃ w : Nat, (w = 4 ∨ ∃ j, n + j ≤ 3 ∧ w = n + j ∧ rchE (pt g).1 (pt g).2 j s) ∧ (rchE (pt g).1 (pt g).2 0 s → w ≤ n) ∧ (∀ m, m < 10 → ∀ t, mvM s m = some t → ∀ j, n + 1 + j ≤ 3 → rchE (pt g).1 (pt g).2 j t → w ≤ n + 1 + j) ∧ ∃ z' f', g_X10_shortestRow_l23 (g_X10_shortestRow dd) fu (iv n) (iv v) (iv i) z f = some (iv w, z', f') ∧ PJ n z f z' f' := by
      intro k
      induction k with
      | zero =>
        intro fu i v z f h3 hi hf hv hL hP hg a1 a2 a3
        obtain ⟨fu, rfl⟩ : ∃ x, fu = x + 1 := ⟨fu - 1, by omega⟩
        obtain rfl : i = 10 := by omega
        refine ⟨v, a1, a2, a3, z, f, ?_, pj_rf⟩
        rw [g_X10_shortestRow_l23, if_pos (show (10 : Int32) ≤ iv ((10 : Nat) : Int) by decide)]
      | succ k ihk =>
        intro fu i v z f h3 hi hf hv hL hP hg a1 a2 a3
        obtain ⟨fu, rfl⟩ : ∃ x, fu = x + 1 := ⟨fu - 1, by omega⟩
        obtain ⟨z1, f1, e1, j1, p1⟩ := cp_made hp hL h3 hP (m := i) (by omega)
        have hL1 := pj_lf j1 hL
        have hP1 := pj_ps (Nat.le_refl n) j1 hP
        have hg1 : z1 52 2 = iv g := (j1.1 52 2 (by omega) (by omega)).trans hg
        rw [g_X10_shortestRow_l23, if_neg (fun e => by have := (le10 (i := i) (by omega)).mp e; omega), e1, bn3_some]
        unfold g_X10_shortestRow_b50
        rw [iv_1 i]
        cases em : mvM s i with
        | none =>
          obtain ⟨w, b1, b2, b3, z2, f2, e2, j2⟩ := ihk fu (i + 1) v z1 f1 h3 (by omega) (by omega) hv hL1 hP1 hg1 a1 a2 (fun m hm t ht => by
            by_cases q : m = i
            · subst q; rw [em] at ht; cases ht
            · exact a3 m (by omega) t ht)
          rw [show (if (none : Option MSt).isSome = true then (1 : Int32) else 0) = 0 from rfl, if_pos rfl]
          exact ⟨w, b1, b2, b3, z2, f2, e2, pj_tr j1 j2⟩
        | some t =>
          obtain ⟨pt1, se1, -⟩ := mvM_sp hp em
          obtain ⟨u, hu, z2, f2, e2, j2⟩ := ih (n + 1) t z1 f1 (by omega) (by omega) pt1 (lf_se se1 hL1) (p1 t em) hg1
          have j2' : PJ n z1 f1 z2 f2 := pj_le (by omega) j2
          have hu4 : u ≤ 4 := by
            rcases hu with ⟨h, -⟩ | ⟨j, h1, h2, -⟩ <;> omega
          rw [show (if (some t : Option MSt).isSome = true then (1 : Int32) else 0) = 1 from rfl, if_neg (by decide), iv_1 n, e2, bn3_some, iv_min (ibn (by omega)) (ibn (by omega)), show min (v : Int) (u : Int) = ((min v u : Nat) : Int) by omega]
          obtain ⟨w, b1, b2, b3, z3, f3, e3', j3⟩ := ihk fu (i + 1) (min v u) z2 f2 h3 (by omega) (by omega) (by omega) (pj_lf j2' hL1) (pj_ps (Nat.le_refl n) j2' hP1) ((j2'.1 52 2 (by omega) (by omega)).trans hg1) (by
            by_cases q : v ≤ u
            · rw [Nat.min_eq_left q]; exact a1
            · rw [Nat.min_eq_right (by omega)]
              rcases hu with ⟨h, -⟩ | ⟨j, h1, h2, h3', -⟩
              · exact Or.inl h
              · exact Or.inr ⟨j + 1, by omega, by omega, i, by omega, t, em, h3'⟩) (fun h => by have := a2 h; omega) (fun m hm t' ht j hj hr => by
            by_cases q : m = i
            · subst q
              rw [em] at ht
              cases ht
              rcases hu with ⟨-, h⟩ | ⟨j', h1, h2, -, h4⟩
              · exact absurd hr (h j (by omega))
              · by_cases r : j < j'
                · exact absurd hr (h4 j r)
                · omega
            · have := a3 m (by omega) t' ht j hj hr
              omega)
          exact ⟨w, b1, b2, b3, z3, f3, e3', pj_tr j1 (pj_tr j2' j3)⟩
    have b13 : ∀ v : Nat, v ≤ 4 → (v = 4 ∨ ∃ j, n + j ≤ 3 ∧ v = n + j ∧ rchE (pt g).1 (pt g).2 j s) → (rchE (pt g).1 (pt g).2 0 s → v ≤ n) → ∃ v' : Nat, ((v' = 4 ∧ ∀ j, n + j ≤ 3 → ¬ rchE (pt g).1 (pt g).2 j s) ∨ ∃ j, n + j ≤ 3 ∧ v' = n + j ∧ rchE (pt g).1 (pt g).2 j s ∧ ∀ i, i < j → ¬ rchE (pt g).1 (pt g).2 i s) ∧ ∃ z' f', g_X10_shortestRow_b13 (g_X10_shortestRow dd) (iv n) (iv v) z f = some (iv v', z', f') ∧ PJ n z f z' f' := fun v hv a1 a2 => by
      have fin : ∀ w : Nat, (w = 4 ∨ ∃ j, n + j ≤ 3 ∧ w = n + j ∧ rchE (pt g).1 (pt g).2 j s) → (∀ j, n + j ≤ 3 → rchE (pt g).1 (pt g).2 j s → w ≤ n + j) → ((w = 4 ∧ ∀ j, n + j ≤ 3 → ¬ rchE (pt g).1 (pt g).2 j s) ∨ ∃ j, n + j ≤ 3 ∧ w = n + j ∧ rchE (pt g).1 (pt g).2 j s ∧ ∀ i, i < j → ¬ rchE (pt g).1 (pt g).2 i s) := fun w c1 c2 => by
        rcases c1 with h | ⟨j, h1, h2, h3⟩
        · exact Or.inl ⟨h, fun j hj hr => by have := c2 j hj hr; omega⟩
        · exact Or.inr ⟨j, h1, h2, h3, fun i hi hr => by have := c2 i (by omega) hr; omega⟩
      unfold g_X10_shortestRow_b13
      by_cases h3 : n < 3
      · rw [if_pos (e3.mpr h3)]
        obtain ⟨w, b1, b2, b3, z1, f1, e1, j1⟩ := loop 10 FU 0 v z f h3 rfl (by decide) hv hL hP hg a1 a2 (fun m hm => absurd hm (Nat.not_lt_zero m))
        refine ⟨w, fin w b1 (fun j hj hr => ?_), z1, f1, e1, j1⟩
        cases j with
        | zero => have := b2 hr; omega
        | succ j =>
          obtain ⟨m, hm, t, ht, hr2⟩ := hr
          have := b3 m hm t ht j (by omega) hr2
          omega
      · rw [if_neg (fun q => h3 (e3.mp q))]
        refine ⟨v, fin v a1 (fun j hj hr => ?_), z, f, rfl, pj_rf⟩
        have : j = 0 := by omega
        subst this
        have := a2 hr
        omega
    rw [g_X10_shortestRow]
    unfold g_X10_shortestRow_o
    rw [cp_away (by omega) hP hg hgn (by have := hp.2.2.2.1; omega) (by have := hp.2.2.2.2; omega), Option.bind_some]
    by_cases c0 : dsG (pt g).1 (pt g).2 s = 0
    · rw [if_pos ((z_iv (by omega)).mpr c0)]
      exact b13 n (by omega) (Or.inr ⟨0, by omega, rfl, rch_0.mpr c0⟩) (fun _ => Nat.le_refl _)
    · rw [if_neg (fun e => c0 ((z_iv (by omega)).mp e))]
      exact b13 4 (by omega) (Or.inl rfl) (fun h => absurd (rch_0.mp h) c0)
theorem cq_fewestAnew (hp : PI s) (hC : CS s z f) {x y : Int} (hx : IB x) (hy : IB y) : ∃ r z' f', (paS x y ≠ -1 → fwR s x y r) ∧ g_X10_fewestAnew (iv x) (iv y) z f = some (rsC [nIAE] (fwC s x y) r, z', f') ∧ CJ z f z' f' := by
  have h8 := ko_8 hp.1
  unfold g_X10_fewestAnew fwC fwR
  rw [cp_pt hx hy, Option.bind_some]
  by_cases c : paS x y = -1
  · rw [if_pos (show iv (paS x y) = (-1 : Int32) by rw [c]; rfl), if_pos c]
    exact ⟨0, z, f, fun q => absurd c q, rfl, cj_rf⟩
  have hpt := (paS_cs x y).resolve_left (fun h => c h.1)
  rw [if_neg (fun e => c ((m1_iv (by have := hpt.1; unfold nB at this; omega)).mp e)), if_neg c, cz hC 0 9 6]
  by_cases d : s 8 6 = 0
  · rw [if_pos ((z_iv (by omega)).mpr d)]
    exact ⟨-1, z, f, fun _ => by rw [if_pos d], rfl, cj_rf⟩
  · rw [if_neg (fun e => d ((z_iv (by omega)).mp e))]
    obtain ⟨z1, f1, e1, j1, l1, p1, g1⟩ := cp_start hC hp.1 (g := paS x y)
    obtain ⟨v, hv, z2, f2, e2, j2⟩ := cr_row hpt.1 4 0 s z1 f1 rfl (by decide) hp l1 p1 g1
    rw [show iv ((0 : Nat) : Int) = (0 : Int32) from rfl] at e2
    rw [hpt.2.1] at hv
    have hv4 : v ≤ 4 := by
      rcases hv with ⟨h, -⟩ | ⟨j, h1, h2, -⟩ <;> omega
    have e3 : (iv (v : Int) ≤ (3 : Int32)) ↔ v ≤ 3 := (iv_le (b := 3) (ibn (by omega)) (by decide)).trans (by omega)
    rw [e1, bn2_some, e2, bn3_some]
    by_cases q : v ≤ 3
    · rw [if_pos (e3.mpr q)]
      refine ⟨v, z2, f2, fun _ => ?_, rfl, cj_tr j1 (pj_cj j2)⟩
      rw [if_neg d]
      rcases hv with ⟨h, -⟩ | ⟨j, h1, h2, h3, h4⟩
      · omega
      · exact Or.inr ⟨j, by omega, by omega, h3, h4⟩
    · rw [if_neg (fun e => q (e3.mp e))]
      refine ⟨-1, z2, f2, fun _ => ?_, rfl, cj_tr j1 (pj_cj j2)⟩
      rw [if_neg d]
      rcases hv with ⟨-, h⟩ | ⟨j, h1, h2, -⟩
      · exact Or.inl ⟨rfl, fun j hj => h j (by omega)⟩
      · omega
end
