/-! the level, what sinks, what is broken -/
theorem ix_pt {p : Int} (hp : nB p) : 20 * (pt p).2 + (pt p).1 = (p.toNat : Int) := by
  unfold pt
  unfold nB at hp
  simp only
  omega
theorem mk6_add : ∀ a b c d e g : Bool, (mk6 false b c d e g + ((1 : Int32) <<< (0 &&& 31)) = mk6 true b c d e g) ∧ (mk6 a false c d e g + ((1 : Int32) <<< (1 &&& 31)) = mk6 a true c d e g) ∧ (mk6 a b false d e g + ((1 : Int32) <<< (2 &&& 31)) = mk6 a b true d e g) ∧ (mk6 a b c false e g + ((1 : Int32) <<< (3 &&& 31)) = mk6 a b c true e g) ∧ (mk6 a b c d false g + ((1 : Int32) <<< (4 &&& 31)) = mk6 a b c d true g) ∧ (mk6 a b c d e false + ((1 : Int32) <<< (5 &&& 31)) = mk6 a b c d e true) := by decide +kernel
theorem mk_add {σ : Nat → Bool} : ∀ k : Nat, k < 6 → σ k = false → mk σ + ((1 : Int32) <<< (iv k &&& 31)) = mk (upb σ k true) := by
  obtain ⟨h0, h1, h2, h3, h4, h5⟩ := mk6_add (σ 0) (σ 1) (σ 2) (σ 3) (σ 4) (σ 5)
  refine k6 (fun e => ?_) (fun e => ?_) (fun e => ?_) (fun e => ?_) (fun e => ?_) (fun e => ?_)
  · unfold mk; rw [e]; exact h0
  · unfold mk; rw [e]; exact h1
  · unfold mk; rw [e]; exact h2
  · unfold mk; rw [e]; exact h3
  · unfold mk; rw [e]; exact h4
  · unfold mk; rw [e]; exact h5
theorem mk6_dif : ∀ a b c d e g a' b' c' d' e' g' : Bool, (a' → a) → (b' → b) → (c' → c) → (d' → d) → (e' → e) → (g' → g) → mk6 a b c d e g - mk6 a' b' c' d' e' g' = mk6 (a && !a') (b && !b') (c && !c') (d && !d') (e && !e') (g && !g') := by decide +kernel
theorem mk_dif {σ τ : Nat → Bool} (h : ∀ k, k < 6 → τ k = true → σ k = true) : mk σ - mk τ = mk (fun k => σ k && !τ k) := mk6_dif _ _ _ _ _ _ _ _ _ _ _ _ (h 0 (by decide)) (h 1 (by decide)) (h 2 (by decide)) (h 3 (by decide)) (h 4 (by decide)) (h 5 (by decide))
section
variable {s : MSt} {z f : Nat → Nat → Int32}
theorem la_at {p : Int} (hp : nB p) : 20 * iv (pt p).2 + iv (pt p).1 = iv ((p.toNat : Nat) : Int) := by
  rw [show (20 : Int32) = iv 20 from rfl, iv_mul, iv_add, ix_pt hp]
theorem la_at4 {p : Int} (hp : nB p) : (400 + 20 * iv (pt p).2) + iv (pt p).1 = iv ((400 + p.toNat : Nat) : Int) := by
  rw [show (20 : Int32) = iv 20 from rfl, show (400 : Int32) = iv 400 from rfl, iv_mul, iv_add, iv_add]
  congr 1
  have := ix_pt hp
  omega
theorem la_level (hB : BD s) (hL : LM s f) (hF : FX s f) : g_L_level (mk (dnS s)) z f = some (iv (lvS (s 3) (s 7) (-1))) := by
  have key : ∀ (n fu i : Nat) (v : Int), i + n = 6 → n < fu → 0 ≤ v → v ≤ 9 → g_L_level_l6 fu (mk (dnS s)) (iv v) (iv i) z f = some (iv (lvN (s 3) (s 7) (-1) n i v)) := by
    intro n
    induction n with
    | zero =>
      intro fu i v hi hf _ _
      obtain ⟨fu, rfl⟩ : ∃ x, fu = x + 1 := ⟨fu - 1, by omega⟩
      obtain rfl : i = 6 := by omega
      rw [g_L_level_l6, if_pos y6]
      rfl
    | succ n ih =>
      intro fu i v hi hf h0 h9
      obtain ⟨fu, rfl⟩ : ∃ x, fu = x + 1 := ⟨fu - 1, by omega⟩
      have h6 : i < 6 := by omega
      rw [g_L_level_l6, if_neg (n6 h6)]
      unfold g_L_level_b47 g_L_level_b63 lvN
      rw [iv_1]
      by_cases c : s 7 i = -1
      · rw [if_neg (fun e => (mo_bit h6).mp e c), if_pos (Or.inr c), if_pos (show (0 : Int32) ≤ iv v from (iv_le (a := 0) (by decide) (by omega)).mpr h0)]
        exact ih fu (i + 1) v (by omega) (by omega) h0 h9
      · have hn : nB (s 7 i) := (hB.2.2.2 i h6).resolve_left c
        have hb := hB.1.2.2.2 (s 7 i).toNat (nB_nat hn).2
        obtain ⟨f1, f2⟩ := hF i h6 c
        rw [if_pos ((mo_bit h6).mpr c), if_neg (by rintro (q | q); omega; exact c q), ix_iv h6 (by decide), Option.bind_some, Option.bind_some, f1, f2, la_at4 hn, la_four (by decide) (by have := (nB_nat hn).2; omega), Option.bind_some, hL.1.2.1 _ (nB_nat hn).2]
        have el : (iv (s 3 (s 7 i).toNat) ≤ iv v) ↔ s 3 (s 7 i).toNat ≤ v := iv_le (by omega) (by omega)
        by_cases d : s 3 (s 7 i).toNat ≤ v
        · rw [if_pos (el.mpr d), show max v (s 3 (s 7 i).toNat) = v by omega]
          exact ih fu (i + 1) v (by omega) (by omega) h0 h9
        · rw [if_neg (fun q => d (el.mp q)), show max v (s 3 (s 7 i).toNat) = s 3 (s 7 i).toNat by omega]
          exact ih fu (i + 1) _ (by omega) (by omega) (by omega) (by omega)
  exact key 6 FU 0 0 (by decide) (by decide) (by decide) (by decide)
theorem la_sink (hB : BD s) (hL : LM s f) (hF : FX s f) : g_L_sinking (mk (dnS s)) z f = some (mk (skS s)) := by
  have key : ∀ (n fu i : Nat), i + n = 6 → n < fu → g_L_sinking_l6 fu (mk (dnS s)) (mk (fun k => decide (k < i) && skS s k)) (iv i) z f = some (mk (skS s)) := by
    intro n
    induction n with
    | zero =>
      intro fu i hi hf
      obtain ⟨fu, rfl⟩ : ∃ x, fu = x + 1 := ⟨fu - 1, by omega⟩
      obtain rfl : i = 6 := by omega
      rw [g_L_sinking_l6, if_pos y6]
      exact congrArg some (mk_cg fun k hk => by simp [hk])
    | succ n ih =>
      intro fu i hi hf
      obtain ⟨fu, rfl⟩ : ∃ x, fu = x + 1 := ⟨fu - 1, by omega⟩
      have h6 : i < 6 := by omega
      have step := ih fu (i + 1) (by omega) (by omega)
      have eF : skS s i = false → mk (fun k => decide (k < i) && skS s k) + 0 = mk (fun k => decide (k < i + 1) && skS s k) := fun h => by
        rw [Int32.add_zero]
        refine mk_cg fun k hk => ?_
        by_cases e : k = i
        · subst e; simp [h]
        · have : (k < i) ↔ (k < i + 1) := by omega
          simp [this]
      have eT : skS s i = true → mk (fun k => decide (k < i) && skS s k) + ((1 : Int32) <<< (iv i &&& 31)) = mk (fun k => decide (k < i + 1) && skS s k) := fun h => by
        rw [mk_add i h6 (by simp)]
        refine mk_cg fun k hk => ?_
        unfold upb
        by_cases e : k = i
        · subst e; simp [h]
        · have : (k < i) ↔ (k < i + 1) := by omega
          simp [this, e]
      rw [g_L_sinking_l6, if_neg (n6 h6)]
      unfold g_L_sinking_b58 g_L_sinking_b59
      rw [iv_1]
      by_cases c : s 7 i = -1
      · rw [if_neg (fun e => (mo_bit h6).mp e c), eF (by unfold skS skB; simp [c])]
        exact step
      · have hn : nB (s 7 i) := (hB.2.2.2 i h6).resolve_left c
        have hp := (nB_nat hn).2
        have hb := hB.1.2.1 (s 7 i).toNat hp
        have pb : 0 ≤ psS s ∧ psS s ≤ 30 := prS_bd (bd_m hB).2.2 cnS_le
        obtain ⟨f1, f2⟩ := hF i h6 c
        rw [if_pos ((mo_bit h6).mpr c), ix_iv h6 (by decide), Option.bind_some, Option.bind_some, f1, f2, la_at hn, la_firm hp, Option.bind_some, hL.1.2.2.2 _ hp, la_press hB hL, Option.bind_some]
        have el : (iv (psS s) ≤ iv (s 1 (s 7 i).toNat)) ↔ psS s ≤ s 1 (s 7 i).toNat := iv_le (by unfold IB; omega) (by unfold IB; omega)
        by_cases d : psS s ≤ s 1 (s 7 i).toNat
        · rw [if_pos (el.mpr d), eF (by unfold skS skB; rw [decide_eq_false (show ¬ s 1 (s 7 i).toNat < psS s by omega), Bool.and_false])]
          exact step
        · rw [if_neg (fun e => d (el.mp e)), eT (by unfold skS skB; rw [decide_eq_true (show s 1 (s 7 i).toNat < psS s by omega), Bool.and_true]; exact decide_eq_true c)]
          exact step
  have e : mk (fun k => decide (k < 0) && skS s k) = 0 := by
    rw [show (fun k => decide (k < 0) && skS s k) = fun _ => false from funext fun k => by simp]
    exact mk_none
  have := key 6 FU 0 (by decide) (by decide)
  rw [e] at this
  exact this
/-! the state in the law's rows: how it changes -/
theorem lw_sc {s' : MSt} {f' : Nat → Nat → Int32} (h : LW s f) (ha : ∀ a, a ≠ 8 → s' a = s a) (hf : ∀ a, 66 ≤ a → a ≠ 74 → f' a = f a) (h0 : s' 8 0 = s 8 0) (h12 : s' 8 12 = s 8 12) (h13 : s' 8 13 = s 8 13) (hg : ∀ q ∈ scalL, f' 74 q.1 = iv (s' 8 q.2)) (h8 : f' 74 8 = f 74 8) (h10 : s' 8 9 ≠ 0 → f' 74 10 = iv (s' 8 9 + 4 * s' 8 10)) : LW s' f' := by
  obtain ⟨⟨⟨a1, a2, a3, a4⟩, l, g⟩, m, x, m1, m2, m3⟩ := h
  have e0 := ha 0 (by decide)
  have e1 := ha 1 (by decide)
  have e2 := ha 2 (by decide)
  have e3 := ha 3 (by decide)
  have e7 := ha 7 (by decide)
  refine ⟨⟨⟨fun p hp => ?_, fun p hp => ?_, fun p hp => ?_, fun p hp => ?_⟩, fun k hk hl => ?_, hg⟩, ?_, fun k hk hd => ?_, h10, fun k hk hl => ?_, fun k hk hl => ?_⟩
  · rw [h4_cg (hf 66 (by decide) (by decide)), e0]; exact a1 p hp
  · rw [h4_cg (hf 66 (by decide) (by decide)), e3]; exact a2 p hp
  · rw [h4_cg (hf 67 (by decide) (by decide)), e2]; exact a3 p hp
  · rw [h8_cg (hf 68 (by decide) (by decide)), e1]; exact a4 p hp
  · rw [h0] at hl
    rw [hf 69 (by decide) (by decide), l k hk hl]
    unfold legV
    rw [ha 4 (by decide), ha 5 (by decide), ha 6 (by decide)]
  · rw [h8, m]
    refine mk_cg fun k _ => ?_
    unfold dnS
    rw [e7]
  · rw [e7] at hd ⊢
    rw [hf 70 (by decide) (by decide), hf 71 (by decide) (by decide)]
    exact x k hk hd
  · rw [h12] at hl
    rw [hf 73 (by decide) (by decide), m2 k hk hl]
    unfold falV
    rw [ha 9 (by decide), ha 10 (by decide), ha 11 (by decide)]
  · rw [h13] at hl
    rw [hf 72 (by decide) (by decide), m3 k hk hl]
    unfold phaV
    rw [ha 12 (by decide), ha 13 (by decide), ha 14 (by decide), ha 15 (by decide), ha 16 (by decide)]
theorem scalL_inj : ∀ q ∈ scalL, ∀ q' ∈ scalL, (q.1 = q'.1 → q.2 = q'.2) ∧ (q.2 = q'.2 → q.1 = q'.1) ∧ q.1 ≠ 8 ∧ q.1 ≠ 10 ∧ q.1 ≠ 14 ∧ q.2 ≠ 9 ∧ q.2 ≠ 10 ∧ q.2 ≠ 11 := by decide +kernel
/-- a number of the state -/
theorem lw_u {c j : Nat} {v : Int} (h : LW s f) (hq : (c, j) ∈ scalL) (hj : j ≠ 0 ∧ j ≠ 12 ∧ j ≠ 13) : LW (us s 8 j v) (upf f 74 c (iv v)) := by
  have n := scalL_inj _ hq _ hq
  refine lw_sc h (fun a ha => funext fun k => us_na ha) (fun a _ ha => upf_ne ha) (us_nk (fun e => hj.1 e.symm)) (us_nk (fun e => hj.2.1 e.symm)) (us_nk (fun e => hj.2.2 e.symm)) (fun q hq' => ?_) ?_ ?_
  · obtain ⟨e1, e2, -⟩ := scalL_inj q hq' _ hq
    rw [upf_g]
    by_cases d : q.1 = c
    · rw [if_pos d, show q.2 = j from e1 d, us_at]
    · rw [if_neg d, us_nk (fun e => d (e2 e))]
      exact h.1.2.2 q hq'
  · rw [upf_g, if_neg (fun e => n.2.2.1 e.symm)]
  · rw [us_nk (fun e => n.2.2.2.2.2.1 e.symm), us_nk (fun e => n.2.2.2.2.2.2.1 e.symm), upf_g, if_neg (fun e => n.2.2.2.1 e.symm)]
    exact h.2.2.2.1
/-- what the act has broken, told anew -/
theorem lwz_14 {v : Int32} (h : LW s f) : LW s (upf f 74 14 v) := by
  refine lw_sc h (fun a ha => rfl) (fun a _ ha => upf_ne ha) rfl rfl rfl (fun q hq => ?_) ?_ (fun h9 => ?_)
  · have n := scalL_inj q hq q hq
    rw [upf_g, if_neg n.2.2.2.2.1]
    exact h.1.2.2 q hq
  · rw [upf_g, if_neg (by decide)]
  · rw [upf_g, if_neg (by decide)]
    exact h.2.2.2.1 h9
theorem lx_0 (h : LW s f) : LX (us s 8 11 0) (upf f 74 14 0) := by
  refine ⟨?_, by rw [upf_g, if_pos rfl, us_at]; rfl⟩
  have h1 := lwz_14 (v := 0) h
  refine lw_sc h1 (fun a ha => funext fun k => us_na ha) (fun a _ ha => rfl) (us_nk (by decide)) (us_nk (by decide)) (us_nk (by decide)) (fun q hq => ?_) rfl (fun h9 => ?_)
  · have n := scalL_inj q hq q hq
    rw [us_nk n.2.2.2.2.2.2.2]
    exact h1.1.2.2 q hq
  · rw [us_nk (by decide), us_nk (by decide)]
    rw [us_nk (by decide)] at h9
    exact h1.2.2.2.1 h9
theorem lx_u {c j : Nat} {v : Int} (h : LX s f) (hq : (c, j) ∈ scalL) (hj : j ≠ 0 ∧ j ≠ 12 ∧ j ≠ 13) : LX (us s 8 j v) (upf f 74 c (iv v)) := by
  have n := scalL_inj _ hq _ hq
  refine ⟨lw_u h.1 hq hj, ?_⟩
  rw [upf_g, if_neg (fun e => n.2.2.2.2.1 e.symm), us_nk (fun e => n.2.2.2.2.2.2.2 e.symm)]
  exact h.2
/-- damage is told -/
theorem la_breaks (h : LX s f) (hk : KO s) {what p : Int} : ∃ f', g_L_breaks (iv what) (iv p) z f = some (z, f') ∧ LX (tellS s what p) f' ∧ Fl f f' := by
  have h8 := ko_8 hk
  have g9 := lm_g h.1.1 9 8
  -- the row of numbers behind it
  have row : ∀ (A B : Int32), (s 8 8 = 0 → A = iv (what + 4 * p)) → (s 8 8 ≠ 0 → A = f 74 10) → (s 8 11 = 0 → B = iv what) → (s 8 11 ≠ 0 → B = iv (s 8 11)) → LX (tellS s what p) (upf (upf (upf f 74 10 A) 74 14 B) 74 9 (iv (s 8 8) + 1)) ∧ Fl f (upf (upf (upf f 74 10 A) 74 14 B) 74 9 (iv (s 8 8) + 1)) := by
    intro A B a1 a2 b1 b2
    refine ⟨⟨?_, ?_⟩, fl_tr (fl_u (by decide)) (fl_tr (fl_u (by decide)) (fl_u (by decide)))⟩
    · refine lw_sc h.1 (fun a ha => funext fun k => tellS_map ha) (fun a _ ha => by rw [upf_ne ha, upf_ne ha, upf_ne ha]) (tellS_o (by decide)) (tellS_o (by decide)) (tellS_o (by decide)) (fun q hq => ?_) ?_ (fun h9 => ?_)
      · have n := scalL_inj q hq q hq
        rw [upf_g]
        by_cases e9 : q.1 = 9
        · have e8 : q.2 = 8 := (scalL_inj q hq (9, 8) (by decide)).1 e9
          rw [if_pos e9, e8, tellS_8, wr_iv, show (1 : Int32) = iv 1 from rfl, iv_add]
        · have e8 : q.2 ≠ 8 := fun e => e9 ((scalL_inj q hq (9, 8) (by decide)).2.1 e)
          rw [if_neg e9, upf_g, if_neg n.2.2.2.2.1, upf_g, if_neg n.2.2.2.1, tellS_o ⟨e8, n.2.2.2.2.2.1, n.2.2.2.2.2.2.1, n.2.2.2.2.2.2.2⟩]
          exact h.1.1.2.2 q hq
      · rw [upf_g, if_neg (by decide), upf_g, if_neg (by decide), upf_g, if_neg (by decide)]
      · rw [upf_g, if_neg (by decide), upf_g, if_neg (by decide), upf_g, if_pos rfl]
        rw [tellS_9] at h9 ⊢
        rw [tellS_10]
        by_cases c : s 8 8 = 0
        · rw [if_pos c, if_pos c, a1 c]
        · rw [if_neg c] at h9
          rw [if_neg c, if_neg c, a2 c]
          exact h.1.2.2.2.1 h9
    · rw [upf_g, if_neg (by decide), upf_g, if_pos rfl, tellS_11]
      by_cases c : s 8 11 = 0
      · rw [if_pos c, b1 c]
      · rw [if_neg c, b2 c]
  have x10 : ixA 15 10 = some 10 := ix15_10
  have x14 : ixA 15 14 = some 14 := ix15_14
  have u14 : ∀ {A : Int32}, upf f 74 10 A 74 14 = iv (s 8 11) := fun {A} => by rw [upf_g, if_neg (by decide)]; exact h.2
  have u9 : ∀ {A B : Int32}, upf (upf f 74 10 A) 74 14 B 74 9 = iv (s 8 8) := fun {A B} => by rw [upf_g, if_neg (by decide), upf_g, if_neg (by decide)]; exact g9
  unfold g_L_breaks g_L_breaks_b22 g_L_breaks_b41 lt2
  simp only [x10, x14, Option.bind_some, u14, u9, g9, z_iv (show IB (s 8 8) by unfold IB; omega), z_iv (show IB (s 8 11) by unfold IB; omega)]
  rw [show (4 : Int32) = iv 4 from rfl, iv_mul, iv_add]
  by_cases c : s 8 8 = 0 <;> by_cases d : s 8 11 = 0
  · rw [if_pos c, if_pos d]
    obtain ⟨r1, r2⟩ := row (iv (what + 4 * p)) (iv what) (fun _ => rfl) (fun e => absurd c e) (fun _ => rfl) (fun e => absurd d e)
    exact ⟨_, rfl, r1, r2⟩
  · rw [if_pos c, if_neg d]
    obtain ⟨r1, r2⟩ := row (iv (what + 4 * p)) (iv (s 8 11)) (fun _ => rfl) (fun e => absurd c e) (fun e => absurd e d) (fun _ => rfl)
    exact ⟨_, rfl, r1, r2⟩
  · rw [if_neg c, if_pos d]
    obtain ⟨r1, r2⟩ := row (f 74 10) (iv what) (fun e => absurd e c) (fun _ => rfl) (fun _ => rfl) (fun e => absurd d e)
    exact ⟨_, rfl, r1, r2⟩
  · rw [if_neg c, if_neg d]
    obtain ⟨r1, r2⟩ := row (f 74 10) (iv (s 8 11)) (fun e => absurd e c) (fun _ => rfl) (fun e => absurd e d) (fun _ => rfl)
    exact ⟨_, rfl, r1, r2⟩
end
