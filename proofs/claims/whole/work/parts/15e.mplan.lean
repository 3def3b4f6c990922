/-! the model's plans -/
noncomputable def rwN : Nat → Nat → MSt → Option MSt
  | 0, _, s => some s
  | n + 1, row, s => (mvM s (row % 10)).bind (rwN n (row / 10))
section
variable {s : MSt} {z f : Nat → Nat → Int32}
theorem rw_sp : ∀ n row {s t : MSt}, PI s → rwN n row s = some t → PI t ∧ SE s t
  | 0, _, s, t, hp, h => by cases h; exact ⟨hp, se_rf⟩
  | n + 1, row, s, t, hp, h => by
    unfold rwN at h
    cases em : mvM s (row % 10) with
    | none => rw [em] at h; cases h
    | some u =>
      rw [em, Option.bind_some] at h
      obtain ⟨p1, s1, -⟩ := mvM_sp hp em
      obtain ⟨p2, s2⟩ := rw_sp n (row / 10) p1 h
      exact ⟨p2, se_tr s1 s2⟩
theorem rch_rw {gx gy : Int} : ∀ n (s : MSt), rchE gx gy n s ↔ ∃ row, row < 10 ^ n ∧ ∃ t, rwN n row s = some t ∧ t 8 4 = gx ∧ t 8 5 = gy
  | 0, s => ⟨fun h => ⟨0, by decide, s, rfl, h⟩, fun ⟨row, _, t, ht, h⟩ => by cases ht; exact h⟩
  | n + 1, s => by
    constructor
    · rintro ⟨m, hm, u, hu, hr⟩
      obtain ⟨row, h1, t, h2, h3⟩ := (rch_rw n u).mp hr
      refine ⟨m + 10 * row, by rw [Nat.pow_succ]; omega, t, ?_, h3⟩
      unfold rwN
      rw [show (m + 10 * row) % 10 = m by omega, show (m + 10 * row) / 10 = row by omega, hu, Option.bind_some]
      exact h2
    · rintro ⟨row, h1, t, h2, h3⟩
      unfold rwN at h2
      cases em : mvM s (row % 10) with
      | none => rw [em] at h2; cases h2
      | some u =>
        rw [em, Option.bind_some] at h2
        refine ⟨row % 10, by omega, u, em, (rch_rw n u).mpr ⟨row / 10, ?_, t, h2, h3⟩⟩
        rw [Nat.pow_succ] at h1
        omega
theorem mo_tries (h : PI s) (hM : MS s z f) {m : Nat} (hm : m < 10) : ∃ z' f', g_X11_tries (iv m) z f = some (if (mvM s m).isSome then 1 else 0, z', f') ∧ MS ((mvM s m).getD s) z' f' ∧ Fc z f z' f' := by
  obtain ⟨hk, hD, hG, h4, h5⟩ := h
  have h8 := ko_8 hk
  have hB := ko_bd hk
  unfold g_X11_tries
  have e6 : (iv (m : Int) < (6 : Int32)) ↔ m < 6 := (iv_lt (b := 6) (ibn (by omega)) (by decide)).trans (by omega)
  by_cases c : m < 6
  · have em : mvM s m = if stpP s m then some (us s 7 m (fhS s m)) else none := by unfold mvM; rw [if_pos c]
    rw [if_pos (e6.mpr c), mz hM.1 11 0]
    have el : (iv (s 8 0) ≤ iv (m : Int)) ↔ s 8 0 ≤ m := iv_le (by omega) (by omega)
    by_cases d : s 8 0 ≤ m
    · rw [if_pos (el.mpr d), em, if_neg (fun q : stpP s m => by have := q.1; omega)]
      exact ⟨z, f, rfl, hM, fc_rf⟩
    rw [if_neg (fun q => d (el.mp q)), mo_down hM.2.1 c, Option.bind_some]
    have b88 : ∀ {z1 f1 : Nat → Nat → Int32}, MS s z1 f1 → Fc z f z1 f1 → (s 7 m = -1 ∨ stB s m = true) → ∃ z' f', g_X11_tries_b88 (iv m) z1 f1 = some (if (mvM s m).isSome then 1 else 0, z', f') ∧ MS ((mvM s m).getD s) z' f' ∧ Fc z f z' f' := fun {z1 f1} hm1 hc1 hs => by
      unfold g_X11_tries_b88
      rw [mo_fh hk hG hD hm1.2.1 hm1.1 hm1.2.2.1 c, Option.bind_some]
      by_cases g : fhS s m = -1
      · rw [if_pos (show iv (fhS s m) = (-1 : Int32) by rw [g]; rfl), em, if_neg (fun q : stpP s m => q.2.2 g)]
        exact ⟨z1, f1, rfl, hm1, hc1⟩
      · have hel := (fh_cs hk c).resolve_left g
        obtain ⟨z2, f2, e2, m2, c2⟩ := mo_down2 hm1 c hel.1
        rw [if_neg (fun e => g ((m1_iv (by have := hel.1; unfold nB at this; omega)).mp e)), iv_x hel.1, iv_y hel.1, e2, bn2_some, em, if_pos (show stpP s m from ⟨by omega, hs, g⟩)]
        exact ⟨z2, f2, rfl, m2, fc_tr hc1 c2⟩
    by_cases g : s 7 m = -1
    · rw [if_neg (show ¬ s 7 m ≠ -1 from fun q => q g), if_pos rfl]
      exact b88 hM fc_rf (Or.inl g)
    · obtain ⟨z1, f1, e1, j1⟩ := mo_holdsW hB hD hM.1 hM.2.2.1 c
      rw [if_pos (show s 7 m ≠ -1 from g), if_neg (by decide), hM.2.1, dn_clr c, e1, bn3_some]
      by_cases l : stB s m = true
      · rw [if_pos l, if_neg (by decide)]
        exact b88 (mj_ms j1 hM) (mj_fc j1) (Or.inr l)
      · rw [if_neg l, if_pos rfl, em, if_neg (fun q : stpP s m => by rcases q.2.1 with r | r; exact g r; exact l r)]
        exact ⟨z1, f1, rfl, mj_ms j1 hM, mj_fc j1⟩
  · rw [if_neg (fun q => c (e6.mp q)), show (6 : Int32) = iv 6 from rfl, iv_sub]
    have shf : ∀ x y : Int, wayX m = x → wayY m = y → ∃ z' f', g_X11_tries_b49 (iv x) (iv y) z f = some (if (mvM s m).isSome then 1 else 0, z', f') ∧ MS ((mvM s m).getD s) z' f' ∧ Fc z f z' f' := fun x y hx hy => by
      obtain ⟨wx, wy, -⟩ := way_bd m
      obtain ⟨z1, f1, e1, m1, c1⟩ := mo_moves hk hD h4 h5 hM (x := x) (y := y) (by omega) (by omega)
      have em : mvM s m = if mvP s x y then some (mvS s x y) else none := by unfold mvM; rw [if_neg c, hx, hy]
      unfold g_X11_tries_b49
      rw [e1, bn3_some, em]
      by_cases d : mvP s x y
      · rw [if_pos d] at m1
        rw [if_pos d, if_pos d]
        exact ⟨z1, f1, rfl, m1, c1⟩
      · rw [if_neg d] at m1
        rw [if_neg d, if_neg d]
        exact ⟨z1, f1, rfl, m1, c1⟩
    have lit : (iv (-1) = (-1 : Int32)) ∧ (iv 0 = (0 : Int32)) ∧ iv 1 = (1 : Int32) := ⟨rfl, rfl, rfl⟩
    unfold g_X11_tries_b30
    by_cases c6 : m = 6
    · subst c6
      rw [if_pos (by decide), if_neg (by decide), if_neg (by decide)]
      have q := shf (-1) 0 rfl rfl
      rw [lit.1, lit.2.1] at q
      exact q
    by_cases c7 : m = 7
    · subst c7
      rw [if_neg (by decide), if_pos (by decide), if_neg (by decide), if_neg (by decide)]
      have q := shf 1 0 rfl rfl
      rw [lit.2.2, lit.2.1] at q
      exact q
    by_cases c8 : m = 8
    · subst c8
      rw [if_neg (by decide), if_neg (by decide), if_pos (by decide)]
      have q := shf 0 (-1) rfl rfl
      rw [lit.1, lit.2.1] at q
      exact q
    · have c9 : m = 9 := by omega
      subst c9
      rw [if_neg (by decide), if_neg (by decide), if_neg (by decide), if_pos (by decide)]
      have q := shf 0 1 rfl rfl
      rw [lit.2.2, lit.2.1] at q
      exact q
/-- a row of moves -/
theorem mo_169 {u v : Nat → Int32} {k146 : Int32 → Int32 → Int32 → Int32 → Int32 → Int32 → Int32 → Int32 → Int32 → (Nat → Nat → Int32) → (Nat → Nat → Int32) → Option (Int32 × (Nat → Nat → Int32) × (Nat → Nat → Int32))} {i1 i2 i3 i4 i5 i9 i11 : Int32} {n : Nat} (hn : n ≤ 3) : ∀ (k fu j row : Nat) (t : MSt) (z f : Nat → Nat → Int32), j + k = n → k + 1 < fu → row < 1000 → PI t → MS t z f → ∃ w z' f', SE t w ∧ MS w z' f' ∧ Fc z f z' f' ∧ (∀ t', rwN k row t = some t' → w = t') ∧ gq_l169 u v k146 fu i1 i2 i3 i4 i5 i9 (iv n) i11 1 (iv row) (iv j) z f = gq_b205 u v k146 i1 i2 i3 i4 i5 i9 (iv n) i11 (if (rwN k row t).isSome then 1 else 0) z' f' := by
  intro k
  induction k with
  | zero =>
    intro fu j row t z f hj hf hr hp hM
    obtain ⟨fu, rfl⟩ : ∃ x, fu = x + 1 := ⟨fu - 1, by omega⟩
    refine ⟨t, z, f, se_rf, hM, fc_rf, fun t' ht => by cases ht; rfl, ?_⟩
    rw [gq_l169, if_pos ((iv_le (ibn (by omega)) (ibn (by omega))).mpr (by omega))]
    rfl
  | succ k ih =>
    intro fu j row t z f hj hf hr hp hM
    obtain ⟨fu, rfl⟩ : ∃ x, fu = x + 1 := ⟨fu - 1, by omega⟩
    obtain ⟨z1, f1, e1, m1, c1⟩ := mo_tries hp hM (m := row % 10) (by omega)
    have ed : jrem (iv (row : Int)) 10 = iv ((row % 10 : Nat) : Int) := by
      rw [show (10 : Int32) = iv 10 from rfl, iv_rem (by omega) (by omega) (by decide) (by decide)]
      congr 1
    have ev : iv (row : Int) / 10 = iv ((row / 10 : Nat) : Int) := by
      rw [show (10 : Int32) = iv 10 from rfl, iv_div (by omega) (by omega) (by decide) (by decide)]
      congr 1
    rw [gq_l169, if_neg (fun e => by have := (iv_le (ibn (by omega)) (ibn (by omega))).mp e; omega), if_neg (by decide), ed, e1, bn3_some, ev, iv_1 j]
    unfold rwN
    cases em : mvM t (row % 10) with
    | none =>
      rw [em] at m1
      refine ⟨t, z1, f1, se_rf, m1, c1, fun t' ht => (by cases ht), ?_⟩
      rw [show (if (none : Option MSt).isSome = true then (1 : Int32) else 0) = 0 from rfl]
      obtain ⟨fu2, rfl⟩ : ∃ x, fu = x + 1 := ⟨fu - 1, by omega⟩
      rw [gq_l169, if_pos rfl, ite_self]
      rfl
    | some w0 =>
      rw [em] at m1
      obtain ⟨p1, s1, -⟩ := mvM_sp hp em
      obtain ⟨w, z2, f2, q1, q2, q3, q4, q5⟩ := ih fu (j + 1) (row / 10) w0 z1 f1 (by omega) (by omega) (by omega) p1 m1
      rw [show (if (some w0 : Option MSt).isSome = true then (1 : Int32) else 0) = 1 from rfl, Option.bind_some]
      exact ⟨w, z2, f2, se_tr s1 q1, q2, fc_tr c1 q3, q4, q5⟩
/-- body and feet are put back -/
theorem mo_254 {u v : Nat → Int32} {k146 : Int32 → Int32 → Int32 → Int32 → Int32 → Int32 → Int32 → Int32 → Int32 → (Nat → Nat → Int32) → (Nat → Nat → Int32) → Option (Int32 × (Nat → Nat → Int32) × (Nat → Nat → Int32))} {i1 i2 i3 i4 i5 i8 i9 i10 : Int32} {row : Nat} : ∀ (k fu j : Nat) (f : Nat → Nat → Int32), j + k = 6 → k < fu → (∀ q, q < j → f 74 q = u q ∧ f 75 q = v q) → ∃ f', (∀ q, q < 6 → f' 74 q = u q ∧ f' 75 q = v q) ∧ (∀ b, b ≠ 74 → b ≠ 75 → f' b = f b) ∧ gq_l254 u v k146 fu i1 i2 i3 i4 i5 i8 i9 i10 (iv row) (iv j) z f = k146 i1 i2 i3 i4 i5 i8 i9 i10 (iv ((row + 1 : Nat) : Int)) z f' := by
  intro k
  induction k with
  | zero =>
    intro fu j f hj hf hq
    obtain ⟨fu, rfl⟩ : ∃ x, fu = x + 1 := ⟨fu - 1, by omega⟩
    obtain rfl : j = 6 := by omega
    refine ⟨f, hq, fun _ _ _ => rfl, ?_⟩
    rw [gq_l254, if_pos y6, iv_1]
  | succ k ih =>
    intro fu j f hj hf hq
    obtain ⟨fu, rfl⟩ : ∃ x, fu = x + 1 := ⟨fu - 1, by omega⟩
    obtain ⟨f', q1, q2, q3⟩ := ih fu (j + 1) (upf (upf f 74 j (u j)) 75 j (v j)) (by omega) (by omega) (fun q hq1 => by
      have e74 : upf (upf f 74 j (u j)) 75 j (v j) 74 = upd (f 74) j (u j) := by rw [upf_up, upa_ne (by decide), upf_up, upa_same]
      have e75 : upf (upf f 74 j (u j)) 75 j (v j) 75 = upd (f 75) j (v j) := by rw [upf_up, upa_same, upf_up, upa_ne (by decide)]
      rw [e74, e75]
      by_cases c : q = j
      · subst c; rw [upd_at, upd_at]; exact ⟨rfl, rfl⟩
      · rw [upd_ne c, upd_ne c]; exact hq q (by omega))
    refine ⟨f', q1, fun b h1 h2 => ?_, ?_⟩
    · rw [q2 b h1 h2, upf_up, upa_ne h2, upf_up, upa_ne h1]
    · rw [gq_l254, if_neg (n6 (by omega)), ix_iv (by omega) (by decide), Option.bind_some, Option.bind_some, lt2_e, Option.bind_some, Option.bind_some, lt2_e, iv_1 j]
      exact q3
theorem mo_232 {u v : Nat → Int32} (hu : ∀ q, q < 6 → s 7 q ≠ -1 → u q = iv (pt (s 7 q)).1 ∧ v q = iv (pt (s 7 q)).2) {w : MSt} (hse : SE s w) (hM : MS w z f) {k146 : Int32 → Int32 → Int32 → Int32 → Int32 → Int32 → Int32 → Int32 → Int32 → (Nat → Nat → Int32) → (Nat → Nat → Int32) → Option (Int32 × (Nat → Nat → Int32) × (Nat → Nat → Int32))} {i1 i2 i8 i9 i10 : Int32} {row : Nat} : ∃ z' f', MS s z' f' ∧ Fc z f z' f' ∧ gq_b232 u v k146 i1 i2 (iv (s 8 4)) (iv (s 8 5)) (mk (dnS s)) i9 i10 (iv row) i8 z f = k146 i1 i2 (iv (s 8 4)) (iv (s 8 5)) (mk (dnS s)) i8 i9 i10 (iv ((row + 1 : Nat) : Int)) z' f' := by
  unfold gq_b232
  rw [lt2_e, lt2_e, lt2_e]
  obtain ⟨f', q1, q2, q3⟩ := mo_254 (z := up2 (up2 (up2 z 66 5 (iv (s 8 4))) 66 6 (iv (s 8 5))) 66 17 (mk (dnS s))) (k146 := k146) (i1 := i1) (i2 := i2) (i3 := iv (s 8 4)) (i4 := iv (s 8 5)) (i5 := mk (dnS s)) (i8 := i8) (i9 := i9) (i10 := i10) (row := row) (u := u) (v := v) 6 FU 0 f rfl (by decide) (fun q hq => absurd hq (Nat.not_lt_zero q))
  have l1 := lm_sc (lm_sc hM.1 (c := 5) (j := 4) (v := s 8 4) (by decide)) (c := 6) (j := 5) (v := s 8 5) (by decide)
  refine ⟨_, f', ⟨⟨fun q hq k hk => ?_, fun q hq => ?_⟩, up2_same, fun k hk hne => ?_, ?_⟩, ?_, q3⟩
  · obtain ⟨-, a7, a67, a74⟩ := arrsM_inj q hq q hq
    rw [q2 _ (by omega) (by omega), ← hse.1 q.2.1 (by omega) (by omega)]
    exact hM.1.1 q hq k hk
  · obtain ⟨-, n17, -⟩ := scalM_inj q hq q hq
    rw [show up2 (up2 (up2 z 66 5 (iv (s 8 4))) 66 6 (iv (s 8 5))) 66 17 (mk (dnS s)) 66 q.1 = up2 (up2 z 66 5 (iv (s 8 4))) 66 6 (iv (s 8 5)) 66 q.1 from if_neg (fun e => n17 e.2), l1.2 q hq]
    congr 1
    by_cases c5 : q.2 = 5
    · rw [c5, us_at]
    · rw [us_nk c5]
      by_cases c4 : q.2 = 4
      · rw [c4, us_at]
      · rw [us_nk c4]; exact hse.2 _ c4 c5
  · obtain ⟨h1, h2⟩ := q1 k hk
    rw [h1, h2]
    exact hu k hk hne
  · have m := hM.2.2.2
    have z20 : ∀ c, c ≠ 5 → c ≠ 6 → c ≠ 17 → up2 (up2 (up2 z 66 5 (iv (s 8 4))) 66 6 (iv (s 8 5))) 66 17 (mk (dnS s)) 66 c = z 66 c := fun c a1 a2 a3 => by
      unfold up2
      rw [if_neg (fun e => a3 e.2), if_neg (fun e => a2 e.2), if_neg (fun e => a1 e.2)]
    unfold MX at m ⊢
    rw [z20 20 (by decide) (by decide) (by decide), z20 21 (by decide) (by decide) (by decide), q2 76 (by decide) (by decide), q2 77 (by decide) (by decide)]
    rw [hse.2 9 (by decide) (by decide), hse.2 10 (by decide) (by decide), hse.2 12 (by decide) (by decide), hse.2 13 (by decide) (by decide), hse.1 9 (by decide) (by decide), hse.1 10 (by decide) (by decide), hse.1 11 (by decide) (by decide), hse.1 12 (by decide) (by decide), hse.1 13 (by decide) (by decide), hse.1 14 (by decide) (by decide), hse.1 15 (by decide) (by decide), hse.1 16 (by decide) (by decide)] at m
    exact m
  · refine fc_tr (fc_tr fc_z (fc_tr fc_z fc_z)) ⟨fun a ha => ⟨rfl, q2 a (by omega) (by omega)⟩, rfl⟩
/-- whether a row comes to the goal -/
def hitP (s : MSt) (gx gy : Int) (n row : Nat) : Prop := ∃ t, rwN n row s = some t ∧ t 8 4 = gx ∧ t 8 5 = gy
theorem mo_row {u v : Nat → Int32} (hu : ∀ q, q < 6 → s 7 q ≠ -1 → u q = iv (pt (s 7 q)).1 ∧ v q = iv (pt (s 7 q)).2) (hp : PI s) (hM : MS s z f) {gx gy : Int} (hx : IB gx) (hy : IB gy) {k146 : Int32 → Int32 → Int32 → Int32 → Int32 → Int32 → Int32 → Int32 → Int32 → (Nat → Nat → Int32) → (Nat → Nat → Int32) → Option (Int32 × (Nat → Nat → Int32) × (Nat → Nat → Int32))} {i9 : Int32} {n row : Nat} (hn : n ≤ 3) (hr : row < 1000) : ∃ b : Bool, (b = true ↔ hitP s gx gy n row) ∧ ∃ z' f', MS s z' f' ∧ Fc z f z' f' ∧ gq_l169 u v k146 FU (iv gx) (iv gy) (iv (s 8 4)) (iv (s 8 5)) (mk (dnS s)) i9 (iv n) (iv row) 1 (iv row) 0 z f = k146 (iv gx) (iv gy) (iv (s 8 4)) (iv (s 8 5)) (mk (dnS s)) (iv (if b then (n : Int) else -1)) i9 (iv n) (iv ((row + 1 : Nat) : Int)) z' f' := by
  obtain ⟨w, z1, f1, q1, q2, q3, q4, q5⟩ := mo_169 (u := u) (v := v) (k146 := k146) (i1 := iv gx) (i2 := iv gy) (i3 := iv (s 8 4)) (i4 := iv (s 8 5)) (i5 := mk (dnS s)) (i9 := i9) (i11 := iv (row : Int)) hn n FU 0 row s z f (by omega) (by show _ < 2000; omega) hr hp hM
  rw [show iv ((0 : Nat) : Int) = (0 : Int32) from rfl] at q5
  rw [q5]
  unfold gq_b205 gq_b231
  have miss : ¬ hitP s gx gy n row → ∃ b : Bool, (b = true ↔ hitP s gx gy n row) ∧ ∃ z' f', MS s z' f' ∧ Fc z f z' f' ∧ gq_b232 u v k146 (iv gx) (iv gy) (iv (s 8 4)) (iv (s 8 5)) (mk (dnS s)) i9 (iv n) (iv row) (-1) z1 f1 = k146 (iv gx) (iv gy) (iv (s 8 4)) (iv (s 8 5)) (mk (dnS s)) (iv (if b then (n : Int) else -1)) i9 (iv n) (iv ((row + 1 : Nat) : Int)) z' f' := fun hno => by
    obtain ⟨z2, f2, m2, c2, e2⟩ := mo_232 hu q1 q2 (k146 := k146) (i1 := iv gx) (i2 := iv gy) (i8 := -1) (i9 := i9) (i10 := iv n) (row := row)
    exact ⟨false, ⟨fun h => (by cases h), fun h => absurd h hno⟩, z2, f2, m2, fc_tr q3 c2, e2⟩
  cases er : rwN n row s with
  | none =>
    rw [show (if (none : Option MSt).isSome = true then (1 : Int32) else 0) = 0 from rfl, if_pos rfl]
    exact miss (fun ⟨t, ht, _⟩ => by rw [er] at ht; cases ht)
  | some t =>
    have ew := q4 t er
    subst ew
    have hpw := (rw_sp n row hp er).1
    rw [show (if (some w : Option MSt).isSome = true then (1 : Int32) else 0) = 1 from rfl, if_neg (by decide), mz q2.1 5 4, mz q2.1 6 5]
    have e1 : (iv (w 8 4) = iv gx) ↔ w 8 4 = gx := iv_eq (by have := hpw.2.2.2.1; omega) hx
    have e2 : (iv (w 8 5) = iv gy) ↔ w 8 5 = gy := iv_eq (by have := hpw.2.2.2.2; omega) hy
    by_cases d1 : w 8 4 = gx
    · rw [if_pos (e1.mpr d1)]
      by_cases d2 : w 8 5 = gy
      · rw [if_pos (e2.mpr d2)]
        obtain ⟨z2, f2, m2, c2, e3⟩ := mo_232 hu q1 q2 (k146 := k146) (i1 := iv gx) (i2 := iv gy) (i8 := iv n) (i9 := i9) (i10 := iv n) (row := row)
        exact ⟨true, ⟨fun _ => ⟨w, er, d1, d2⟩, fun _ => rfl⟩, z2, f2, m2, fc_tr q3 c2, e3⟩
      · rw [if_neg (fun q => d2 (e2.mp q))]
        exact miss (fun ⟨t, ht, _, h2⟩ => by rw [er] at ht; cases ht; exact d2 h2)
    · rw [if_neg (fun q => d1 (e1.mp q))]
      exact miss (fun ⟨t, ht, h1, _⟩ => by rw [er] at ht; cases ht; exact d1 h1)
theorem mo_146 {u v : Nat → Int32} (hu : ∀ q, q < 6 → s 7 q ≠ -1 → u q = iv (pt (s 7 q)).1 ∧ v q = iv (pt (s 7 q)).2) (hp : PI s) {gx gy : Int} (hx : IB gx) (hy : IB gy) {k124 : Int32 → Int32 → Int32 → Int32 → Int32 → Int32 → Int32 → Int32 → (Nat → Nat → Int32) → (Nat → Nat → Int32) → Option (Int32 × (Nat → Nat → Int32) × (Nat → Nat → Int32))} {rows n : Nat} (hr : rows ≤ 1000) (h1n : 1 ≤ n) (hn : n ≤ 3) : ∀ (k fu row : Nat) (b : Bool) (z f : Nat → Nat → Int32), row + k = rows → k + 1 < fu → MS s z f → ((b = true → ∃ q, q < rows ∧ hitP s gx gy n q) ∧ (b = false → ∀ q, q < row → ¬ hitP s gx gy n q)) → ∃ b' : Bool, (b' = true ↔ ∃ q, q < rows ∧ hitP s gx gy n q) ∧ ∃ z' f', MS s z' f' ∧ Fc z f z' f' ∧ gq_l146 u v k124 fu (iv gx) (iv gy) (iv (s 8 4)) (iv (s 8 5)) (mk (dnS s)) (iv (if b then (n : Int) else -1)) (iv rows) (iv n) (iv row) z f = k124 (iv gx) (iv gy) (iv (s 8 4)) (iv (s 8 5)) (mk (dnS s)) (iv (if b' then (n : Int) else -1)) (iv rows) (iv ((n + 1 : Nat) : Int)) z' f' := by
  intro k
  induction k with
  | zero =>
    intro fu row b z f hk hf hM hb
    obtain ⟨fu, rfl⟩ : ∃ x, fu = x + 1 := ⟨fu - 1, by omega⟩
    refine ⟨b, ⟨hb.1, fun ⟨q, h1, h2⟩ => ?_⟩, z, f, hM, fc_rf, ?_⟩
    · cases b with
      | true => rfl
      | false => exact absurd h2 (hb.2 rfl q (by omega))
    · unfold gq_l146 gq_b297
      rw [if_pos ((iv_le (ibn (by omega)) (ibn (by omega))).mpr (by omega)), iv_1]
  | succ k ih =>
    intro fu row b z f hk hf hM hb
    obtain ⟨fu, rfl⟩ : ∃ x, fu = x + 1 := ⟨fu - 1, by omega⟩
    rw [gq_l146, if_neg (fun e => by have := (iv_le (ibn (by omega)) (ibn (by omega))).mp e; omega)]
    cases b with
    | true =>
      rw [show (if true = true then (n : Int) else -1) = n from rfl, if_neg (fun e => by have := (m1_iv (ibn (by omega))).mp e; omega)]
      refine ⟨true, ⟨fun _ => hb.1 rfl, fun _ => rfl⟩, z, f, hM, fc_rf, ?_⟩
      unfold gq_b297
      rw [iv_1]
      rfl
    | false =>
      rw [show (if false = true then (n : Int) else -1) = -1 from rfl, if_pos (show iv (-1) = (-1 : Int32) from rfl)]
      obtain ⟨c, hc, z1, f1, m1, c1, e1⟩ := mo_row hu hp hM hx hy (k146 := fun y1 y2 y3 y4 y5 y8 y9 y10 y11 z f => gq_l146 u v k124 fu y1 y2 y3 y4 y5 y8 y9 y10 y11 z f) (i9 := iv rows) (n := n) (row := row) hn (by omega)
      obtain ⟨b', h1, z2, f2, m2, c2, e2⟩ := ih fu (row + 1) c z1 f1 (by omega) (by omega) m1 ⟨fun h => ⟨row, by omega, hc.mp h⟩, fun h q hq hh => by
        by_cases e : q = row
        · subst e; rw [hc.mpr hh] at h; cases h
        · exact hb.2 rfl q (by omega) hh⟩
      exact ⟨b', h1, z2, f2, m2, fc_tr c1 c2, e1.trans e2⟩
theorem mo_124 {u v : Nat → Int32} (hu : ∀ q, q < 6 → s 7 q ≠ -1 → u q = iv (pt (s 7 q)).1 ∧ v q = iv (pt (s 7 q)).2) (hp : PI s) {gx gy : Int} (hx : IB gx) (hy : IB gy) : ∀ (k fu n : Nat) (r : Int) (z f : Nat → Nat → Int32), n + k = 4 → 1 ≤ n → k + 1 < fu → MS s z f → (0 ≤ r ∧ r ≤ 3 ∧ fwP gx gy s r ∨ r = -1 ∧ ∀ j, j < n → ¬ rchE gx gy j s) → ∃ r' z' f', fwP gx gy s r' ∧ MS s z' f' ∧ Fc z f z' f' ∧ gq_l124 u v fu (iv gx) (iv gy) (iv (s 8 4)) (iv (s 8 5)) (mk (dnS s)) (iv r) (iv ((10 ^ (n - 1) : Nat) : Int)) (iv n) z f = some (iv r', z', f') := by
  intro k
  induction k with
  | zero =>
    intro fu n r z f hn h1 hf hM hr
    obtain ⟨fu, rfl⟩ : ∃ x, fu = x + 1 := ⟨fu - 1, by omega⟩
    refine ⟨r, z, f, ?_, hM, fc_rf, ?_⟩
    · rcases hr with ⟨-, -, h⟩ | ⟨h, h2⟩
      · exact h
      · exact Or.inl ⟨h, fun j hj => h2 j (by omega)⟩
    · rw [gq_l124, if_pos ((lt3 (i := n) (by omega)).mpr (by omega))]
  | succ k ih =>
    intro fu n r z f hn h1 hf hM hr
    obtain ⟨fu, rfl⟩ : ∃ x, fu = x + 1 := ⟨fu - 1, by omega⟩
    rw [gq_l124, if_neg (fun e => by have := (lt3 (i := n) (by omega)).mp e; omega)]
    rcases hr with ⟨ha, hb, h⟩ | ⟨h, h2⟩
    · rw [if_neg (fun e => by have := (m1_iv (by omega)).mp e; omega)]
      exact ⟨r, z, f, h, hM, fc_rf, rfl⟩
    · subst h
      have e10 : iv ((10 ^ (n - 1) : Nat) : Int) * 10 = iv ((10 ^ n : Nat) : Int) := by
        rw [show (10 : Int32) = iv 10 from rfl, iv_mul]
        congr 1
        obtain ⟨p, rfl⟩ : ∃ p, n = p + 1 := ⟨n - 1, by omega⟩
        rw [Nat.add_sub_cancel, Nat.pow_succ]
        omega
      have hp3 : 10 ^ n ≤ 1000 := by
        have : 10 ^ n ≤ 10 ^ 3 := Nat.pow_le_pow_right (by decide) (by omega)
        omega
      rw [if_pos (show iv (-1) = (-1 : Int32) from rfl), e10]
      obtain ⟨b', q1, z1, f1, m1, c1, e1⟩ := mo_146 hu hp hx hy (k124 := fun y1 y2 y3 y4 y5 y8 y9 y10 z f => gq_l124 u v fu y1 y2 y3 y4 y5 y8 y9 y10 z f) (rows := 10 ^ n) (n := n) hp3 h1 (by omega) (10 ^ n) FU 0 false z f (by omega) (by show _ < 2000; omega) hM ⟨fun e => (by cases e), fun _ q hq => absurd hq (Nat.not_lt_zero q)⟩
      rw [show (if false = true then (n : Int) else -1) = -1 from rfl, show iv ((0 : Nat) : Int) = (0 : Int32) from rfl] at e1
      have hit : b' = true ↔ rchE gx gy n s := q1.trans (rch_rw n s).symm
      obtain ⟨r', z2, f2, g1, m2, c2, e2⟩ := ih fu (n + 1) (if b' then (n : Int) else -1) z1 f1 (by omega) (by omega) (by omega) m1 (by
        cases b' with
        | true => exact Or.inl ⟨by rw [if_pos rfl]; omega, by rw [if_pos rfl]; omega, Or.inr ⟨n, by omega, by rw [if_pos rfl], hit.mp rfl, h2⟩⟩
        | false => exact Or.inr ⟨rfl, fun j hj hh => by
            by_cases e : j = n
            · subst e; have := hit.mpr hh; cases this
            · exact h2 j (by omega) hh⟩)
      rw [Nat.add_sub_cancel] at e2
      exact ⟨r', z2, f2, g1, m2, fc_tr c1 c2, e1.trans e2⟩
theorem mo_63 (hp : PI s) {gx gy : Int} (hx : IB gx) (hy : IB gy) : ∀ (k fu j : Nat) (u v : Nat → Int32) (z f : Nat → Nat → Int32), j + k = 6 → k < fu → MS s z f → (∀ q, q < j → u q = f 74 q ∧ v q = f 75 q) → ∃ r z' f' u' v', fwP gx gy s r ∧ MS s z' f' ∧ Fc z f z' f' ∧ gq_l63 fu (iv gx) (iv gy) (iv (s 8 4)) (iv (s 8 5)) (mk (dnS s)) (iv j) u v z f = some (iv r, z', f', wJ u' v') := by
  intro k
  induction k with
  | zero =>
    intro fu j u v z f hj hf hM hq
    obtain ⟨fu, rfl⟩ : ∃ x, fu = x + 1 := ⟨fu - 1, by omega⟩
    obtain rfl : j = 6 := by omega
    have hu : ∀ q, q < 6 → s 7 q ≠ -1 → u q = iv (pt (s 7 q)).1 ∧ v q = iv (pt (s 7 q)).2 := fun q h6 hne => by
      obtain ⟨a, b⟩ := hq q h6
      rw [a, b]
      exact hM.2.2.1 q h6 hne
    have fin : ∀ r : Int, (0 ≤ r ∧ r ≤ 3 ∧ fwP gx gy s r ∨ r = -1 ∧ ∀ j, j < 1 → ¬ rchE gx gy j s) → ∃ r' z' f' u' v', fwP gx gy s r' ∧ MS s z' f' ∧ Fc z f z' f' ∧ gq_b116 u v (iv gx) (iv gy) (iv (s 8 4)) (iv (s 8 5)) (mk (dnS s)) (iv r) z f = some (iv r', z', f', wJ u' v') := fun r hr => by
      obtain ⟨r', z1, f1, g1, m1, c1, e1⟩ := mo_124 hu hp hx hy 3 FU 1 r z f rfl (by decide) (by decide) hM hr
      rw [show iv ((10 ^ (1 - 1) : Nat) : Int) = (1 : Int32) from rfl] at e1
      refine ⟨r', z1, f1, u, v, g1, m1, c1, ?_⟩
      unfold gq_b116
      rw [e1]
      rfl
    rw [gq_l63, if_pos y6]
    have e1 : (iv (s 8 4) = iv gx) ↔ s 8 4 = gx := iv_eq (by have := hp.2.2.2.1; omega) hx
    have e2 : (iv (s 8 5) = iv gy) ↔ s 8 5 = gy := iv_eq (by have := hp.2.2.2.2; omega) hy
    have no : ¬ (s 8 4 = gx ∧ s 8 5 = gy) → ∃ r' z' f' u' v', fwP gx gy s r' ∧ MS s z' f' ∧ Fc z f z' f' ∧ gq_b116 u v (iv gx) (iv gy) (iv (s 8 4)) (iv (s 8 5)) (mk (dnS s)) (-1) z f = some (iv r', z', f', wJ u' v') := fun hne => fin (-1) (Or.inr ⟨rfl, fun j hj hh => by
      have : j = 0 := by omega
      subst this
      exact hne hh⟩)
    by_cases d1 : s 8 4 = gx
    · rw [if_pos (e1.mpr d1)]
      by_cases d2 : s 8 5 = gy
      · rw [if_pos (e2.mpr d2)]
        exact fin 0 (Or.inl ⟨by decide, by decide, Or.inr ⟨0, by decide, rfl, ⟨d1, d2⟩, fun j hj => absurd hj (Nat.not_lt_zero j)⟩⟩)
      · rw [if_neg (fun q => d2 (e2.mp q))]
        exact no (fun q => d2 q.2)
    · rw [if_neg (fun q => d1 (e1.mp q))]
      exact no (fun q => d1 q.1)
  | succ k ih =>
    intro fu j u v z f hj hf hM hq
    obtain ⟨fu, rfl⟩ : ∃ x, fu = x + 1 := ⟨fu - 1, by omega⟩
    obtain ⟨r, z1, f1, u', v', g1, m1, c1, e1⟩ := ih fu (j + 1) (upd u j (f 74 j)) (upd v j (f 75 j)) z f (by omega) (by omega) hM (fun q hq1 => by
      by_cases c : q = j
      · subst c; rw [upd_at, upd_at]; exact ⟨rfl, rfl⟩
      · rw [upd_ne c, upd_ne c]; exact hq q (by omega))
    refine ⟨r, z1, f1, u', v', g1, m1, c1, ?_⟩
    rw [gq_l63, if_neg (n6 (by omega)), ix_iv (by omega) (by decide), Option.bind_some, Option.bind_some, Option.bind_some, Option.bind_some, iv_1 j]
    exact e1
theorem mq_fewest (hp : PI s) (hM : MS s z f) {x y : Int} (hx : IB x) (hy : IB y) : ∃ v z' f' J, g_X11_fewest (iv x) (iv y) z f = some (v, z', f', J) ∧ (J = [] ∨ ∃ u v, J = wJ u v) ∧ z' 66 30 = iv (fwC s x y : Nat) ∧ (paS x y ≠ -1 → ∃ r, v = iv r ∧ fwR s x y r) ∧ MS s z' f' ∧ Fe z f z' f' := by
  have h8 := ko_8 hp.1
  unfold g_X11_fewest gq_b14 fwC fwR
  rw [mo_isPt hx hy, Option.bind_some]
  by_cases c : paS x y = -1
  · rw [if_neg (show ¬ paS x y ≠ -1 from fun q => q c), if_pos rfl, fl_1, bn3_some, if_neg (by decide), if_pos c]
    exact ⟨_, _, _, _, rfl, Or.inl rfl, up2_same, fun q => absurd c q, ms_30 hM, fd_z⟩
  · have m0 := ms_30 hM (v := iv ((0 : Nat) : Int))
    rw [if_pos (show paS x y ≠ -1 from c), if_neg (by decide), fl_0, bn3_some, if_pos rfl, if_neg c, mz m0.1 4 6]
    by_cases d : s 8 6 = 0
    · rw [if_pos ((z_iv (by omega)).mpr d)]
      exact ⟨_, _, _, _, rfl, Or.inl rfl, up2_same, fun _ => ⟨-1, rfl, by rw [if_pos d]⟩, m0, fd_z⟩
    · rw [if_neg (fun e => d ((z_iv (by omega)).mp e)), mz m0.1 5 4, mz m0.1 6 5, m0.2.1]
      obtain ⟨r, z1, f1, u', v', g1, m1, c1, e1⟩ := mo_63 hp hx hy 6 FU 0 (fun _ => 0) (fun _ => 0) _ f rfl (by decide) m0 (fun q hq => absurd hq (Nat.not_lt_zero q))
      rw [show iv ((0 : Nat) : Int) = (0 : Int32) from rfl] at e1
      refine ⟨_, _, _, _, e1, Or.inr ⟨u', v', rfl⟩, ?_, fun _ => ⟨r, rfl, by rw [if_neg d]; exact g1⟩, m1, fd_tr fd_z c1.1⟩
      rw [c1.2]
      exact up2_same
end
