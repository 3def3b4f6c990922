section
variable {s : MSt} {z f : Nat → Nat → Int32}
theorem l27_0 {fu : Nat} {z f : Nat → Nat → Int32} : g_L_settles_l27 (fu + 1) 0 z f = g_L_settles_l27 1 0 z f := by
  have e : (0 : Int32) ≤ 0 := by decide
  rw [g_L_settles_l27, g_L_settles_l27, if_pos e, if_pos e]
theorem la_sinks : ∀ (n fu : Nat) (s : MSt) (f : Nat → Nat → Int32), cnS (s 7) ≤ n → n < fu → KO s → LX s f → ∃ f', g_L_settles_l27 fu (mk (skS s)) z f = g_L_settles_l27 1 0 z f' ∧ LX (skN n s) f' ∧ Fl f f' := by
  intro n
  induction n with
  | zero =>
    intro fu s f hc hf hk h
    obtain ⟨fu, rfl⟩ : ∃ x, fu = x + 1 := ⟨fu - 1, by omega⟩
    rw [sk_none (by omega), l27_0]
    exact ⟨f, rfl, h, fl_rf⟩
  | succ n ih =>
    intro fu s f hc hf hk h
    obtain ⟨fu, rfl⟩ : ∃ x, fu = x + 1 := ⟨fu - 1, by omega⟩
    unfold skN
    by_cases c : mk (skS s) = 0
    · rw [if_pos c, c, l27_0]
      exact ⟨f, rfl, h, fl_rf⟩
    · have hσ : ∀ k, k < 6 → skS s k = true → s 7 k ≠ -1 := fun k _ e => sk_ne e
      obtain ⟨f1, e1, x1, l1⟩ := la_l35 (k27 := fun y0 z f => g_L_settles_l27 fu y0 z f) (z := z) hσ 6 FU 0 s f (by decide) (by decide) h hk (fun _ => rfl)
      have h7 : ∀ k, brS (skS s) 6 0 s 7 k = s 7 k := fun k => brS_o ⟨by decide, by decide, fun e => absurd e (by decide)⟩ 6 0 s
      have x2 : LX (sk1 s) (upf f1 74 8 (f1 74 8 - mk (skS s))) := lx_ra x1 (fun k hk e => by rw [h7]; exact hσ k hk e)
      have k2 : KO (sk1 s) := ko_sk1 hk
      have cn : cnS (sk1 s 7) ≤ n := by
        have := sk_cn c
        rw [sk1_7]
        omega
      obtain ⟨f', e2, x3, l3⟩ := ih fu (sk1 s) _ cn (by omega) k2 x2
      rw [if_neg c, g_L_settles_l27, if_neg (fun e => c (mk_le0.mp e))]
      refine ⟨f', ?_, x3, fl_tr l1 (fl_tr (fl_u (by decide)) l3)⟩
      refine Eq.trans e1 ?_
      rw [x2.1.2.1, la_sink (ko_bd k2) x2.1.1 x2.1.2.2.1, Option.bind_some]
      exact e2
/-- the machine falls -/
theorem lx_fall (h : LX s f) (hk : KO s) (h9 : s 8 9 ≠ 0) {j : Nat} (hj : (s 8 12 < 40 ∧ j = (s 8 12).toNat) ∨ (40 ≤ s 8 12 ∧ j = 40)) : LX (fallS s) (upf (upf (upf (upf f 73 j (iv (dirS s + 9 * (s 8 9 + 4 * s 8 10)))) 74 11 (iv (s 8 12 + 1))) 74 0 (iv 0)) 74 8 (iv 0)) := by
  have h8 := ko_8 hk
  obtain ⟨⟨⟨⟨a1, a2, a3, a4⟩, l, g⟩, m, x, m1, m2, m3⟩, h14⟩ := h
  have hf : ∀ {A B C D : Int32} a, a ≠ 73 → a ≠ 74 → upf (upf (upf (upf f 73 j A) 74 11 B) 74 0 C) 74 8 D a = f a := fun {A B C D} a h3 h4 => by rw [upf_ne h4, upf_ne h4, upf_ne h4, upf_ne h3]
  have o : ∀ a, a ≠ 7 → a ≠ 8 → a ≠ 9 → a ≠ 10 → a ≠ 11 → fallS s a = s a := fun a h1 h2 h3 h4 h5 => funext fun k => fall_o ⟨h1, h3, h4, h5, fun e => absurd e h2⟩
  have o8 : ∀ k, k ≠ 6 → k ≠ 12 → fallS s 8 k = s 8 k := fun k h1 h2 => fall_o ⟨by decide, by decide, by decide, by decide, fun _ => ⟨h1, h2⟩⟩
  have r : ∀ a k, a = 9 ∨ a = 10 ∨ a = 11 → fallS s a k = if k = (s 8 12).toNat then (if a = 9 then dirS s else if a = 10 then s 8 9 else s 8 10) else s a k := fun a k ha => by
    unfold fallS
    rcases ha with rfl | rfl | rfl
    · rw [us_na (by decide), ur_na (by decide), us_na (by decide), us_na (by decide), us_na (by decide)]
      by_cases c : k = (s 8 12).toNat
      · rw [if_pos c, c, us_at]; rfl
      · rw [if_neg c, us_nk c]
    · rw [us_na (by decide), ur_na (by decide), us_na (by decide), us_na (by decide)]
      by_cases c : k = (s 8 12).toNat
      · rw [if_pos c, c, us_at]; rfl
      · rw [if_neg c, us_nk c, us_na (by decide)]
    · rw [us_na (by decide), ur_na (by decide), us_na (by decide)]
      by_cases c : k = (s 8 12).toNat
      · rw [if_pos c, c, us_at]; rfl
      · rw [if_neg c, us_nk c, us_na (by decide), us_na (by decide)]
  refine ⟨⟨⟨⟨fun q hq => ?_, fun q hq => ?_, fun q hq => ?_, fun q hq => ?_⟩, fun k hk hl => ?_, fun q hq => ?_⟩, ?_, fun k hk hd => absurd fall_7 hd, fun h9' => ?_, fun k hk hl => ?_, fun k hk hl => ?_⟩, ?_⟩
  · rw [h4_cg (hf 66 (by decide) (by decide)), o 0 (by decide) (by decide) (by decide) (by decide) (by decide)]; exact a1 q hq
  · rw [h4_cg (hf 66 (by decide) (by decide)), o 3 (by decide) (by decide) (by decide) (by decide) (by decide)]; exact a2 q hq
  · rw [h4_cg (hf 67 (by decide) (by decide)), o 2 (by decide) (by decide) (by decide) (by decide) (by decide)]; exact a3 q hq
  · rw [h8_cg (hf 68 (by decide) (by decide)), o 1 (by decide) (by decide) (by decide) (by decide) (by decide)]; exact a4 q hq
  · rw [o8 0 (by decide) (by decide)] at hl
    rw [hf 69 (by decide) (by decide), l k hk hl]
    unfold legV
    rw [o 4 (by decide) (by decide) (by decide) (by decide) (by decide), o 5 (by decide) (by decide) (by decide) (by decide) (by decide), o 6 (by decide) (by decide) (by decide) (by decide) (by decide)]
  · have n := scalL_inj q hq q hq
    rw [upf_g, if_neg n.2.2.1, upf_g]
    by_cases c0 : q.1 = 0
    · rw [if_pos c0, (scalL_inj q hq (0, 6) (by decide)).1 c0, fall_6]
    · rw [if_neg c0, upf_g]
      have n6 : q.2 ≠ 6 := fun e => c0 ((scalL_inj q hq (0, 6) (by decide)).2.1 e)
      by_cases c1 : q.1 = 11
      · rw [if_pos c1, (scalL_inj q hq (11, 12) (by decide)).1 c1, fall_12]
      · have n12 : q.2 ≠ 12 := fun e => c1 ((scalL_inj q hq (11, 12) (by decide)).2.1 e)
        rw [if_neg c1, upf_ne (by decide), o8 _ n6 n12]
        exact g q hq
  · rw [upf_g, if_pos rfl, show (dnS (fallS s)) = fun _ => false from funext fun k => by unfold dnS; rw [fall_7]; rfl]
    exact mk_none.symm
  · rw [upf_g, if_neg (by decide), upf_g, if_neg (by decide), upf_g, if_neg (by decide), upf_ne (by decide), o8 9 (by decide) (by decide), o8 10 (by decide) (by decide)]
    exact m1 h9
  · rw [fall_12] at hl
    rw [upf_ne (by decide), upf_ne (by decide), upf_ne (by decide), upf_g]
    unfold falV
    rw [r 9 k (by decide), r 10 k (by decide), r 11 k (by decide)]
    by_cases c : k = (s 8 12).toNat
    · simp only [if_pos c]
      rw [if_pos (by omega)]
      rfl
    · simp only [if_neg c]
      rw [if_neg (by omega)]
      exact m2 k hk (by omega)
  · rw [o8 13 (by decide) (by decide)] at hl
    rw [hf 72 (by decide) (by decide), m3 k hk hl]
    unfold phaV
    rw [o 12 (by decide) (by decide) (by decide) (by decide) (by decide), o 13 (by decide) (by decide) (by decide) (by decide) (by decide), o 14 (by decide) (by decide) (by decide) (by decide) (by decide), o 15 (by decide) (by decide) (by decide) (by decide) (by decide), o 16 (by decide) (by decide) (by decide) (by decide) (by decide)]
  · rw [upf_g, if_neg (by decide), upf_g, if_neg (by decide), upf_g, if_neg (by decide), upf_ne (by decide), fall_11]
    exact h14
theorem la_fall (h : LX s f) (hk : KO s) (h9 : s 8 9 ≠ 0) : ∃ f', g_L_settles_l243 FU (iv (cnS (s 7) : Nat) * iv (mxS s)) (iv (cnS (s 7) : Nat) * iv (myS s)) 0 z f = some (z, f') ∧ LX (fallS s) f' ∧ Fl f f' := by
  have hB := ko_bd hk
  have h8 := ko_8 hk
  obtain ⟨d1, d2⟩ := dir_bd hB
  have n1 := sgS_bd (mxS s * cnS (s 7) - sxN (s 7) 6 0 0 * wS s)
  have n2 := sgS_bd (myS s * cnS (s 7) - syN (s 7) 6 0 0 * wS s)
  -- the row of numbers behind it
  have fin : ∀ (a : Int), a = dirS s → ∀ {b : Int32}, b = iv a → ∃ f', g_L_settles_b376 b (if 40 ≤ s 8 12 then 40 else iv (s 8 12)) z f = some (z, f') ∧ LX (fallS s) f' ∧ Fl f f' := by
    intro a ha b hb
    have ex : ∃ j, ixA 41 (if 40 ≤ s 8 12 then (40 : Int32) else iv (s 8 12)) = some j ∧ ((s 8 12 < 40 ∧ j = (s 8 12).toNat) ∨ (40 ≤ s 8 12 ∧ j = 40)) := by
      by_cases c : 40 ≤ s 8 12
      · rw [if_pos c]
        exact ⟨40, by decide +kernel, Or.inr ⟨c, rfl⟩⟩
      · rw [if_neg c]
        refine ⟨(s 8 12).toNat, ?_, Or.inl ⟨by omega, rfl⟩⟩
        have e : s 8 12 = ((s 8 12).toNat : Int) := by omega
        rw [e]
        exact ix_iv (by omega) (by decide)
    obtain ⟨j, ej, hj⟩ := ex
    refine ⟨_, ?_, lx_fall h hk h9 hj, fl_tr (fl_tr (fl_u (by decide)) (fl_u (by decide))) (fl_tr (fl_u (by decide)) (fl_u (by decide)))⟩
    unfold g_L_settles_b376 lt2
    rw [ej, Option.bind_some, hb, ha, h.1.2.2.2.1 h9, show (9 : Int32) = iv 9 from rfl, iv_mul, iv_add]
    dsimp only
    rw [upf_ne (show (74 : Nat) ≠ 73 by decide), lm_g h.1.1 11 12, show (1 : Int32) = iv 1 from rfl, iv_add]
    rfl
  have e40 : ((40 : Int32) ≤ iv (s 8 12)) ↔ 40 ≤ s 8 12 := iv_le (a := 40) (by decide) (by unfold IB; omega)
  have e0 : ∀ {a : Int}, IB a → ((iv a ≤ (0 : Int32)) ↔ a ≤ 0) := fun h => iv_le (b := 0) h (by decide)
  have e1 : ∀ {a : Int}, IB a → (((0 : Int32) ≤ iv a) ↔ 0 ≤ a) := fun h => iv_le (a := 0) (by decide) h
  have q351 : ∀ (u v : Int), u + v = dirS s → ∃ f', g_L_settles_b351 (iv u) (iv v) z f = some (z, f') ∧ LX (fallS s) f' ∧ Fl f f' := fun u v huv => by
    obtain ⟨f', q1, q2⟩ := fin (u + v) huv (b := iv u + iv v) (iv_add _ _)
    unfold g_L_settles_b351
    rw [lm_g h.1.1 11 12]
    by_cases c : 40 ≤ s 8 12
    · rw [if_pos c] at q1
      rw [if_pos (e40.mpr c)]
      exact ⟨f', q1, q2⟩
    · rw [if_neg c] at q1
      rw [if_neg (fun e => c (e40.mp e))]
      exact ⟨f', q1, q2⟩
  have q332 : ∀ (u : Int), u + (sgS (myS s * cnS (s 7) - syN (s 7) 6 0 0 * wS s) + 1) = dirS s → ∃ f', g_L_settles_b332 (iv (myS s * cnS (s 7) - syN (s 7) 6 0 0 * wS s)) (iv u) z f = some (z, f') ∧ LX (fallS s) f' ∧ Fl f f' := fun u hu => by
    unfold g_L_settles_b332
    have b : IB (myS s * cnS (s 7) - syN (s 7) 6 0 0 * wS s) := by unfold IB; omega
    generalize myS s * cnS (s 7) - syN (s 7) 6 0 0 * wS s = Y at *
    unfold sgS at hu
    by_cases c : Y ≤ 0
    · rw [if_pos ((e0 b).mpr c)]
      by_cases d : 0 ≤ Y
      · rw [if_pos ((e1 b).mpr d)]
        exact q351 u 1 (by rw [if_neg (by omega), if_neg (by omega)] at hu; exact hu)
      · rw [if_neg (fun e => d ((e1 b).mp e))]
        exact q351 u 0 (by rw [if_neg (by omega), if_pos (by omega)] at hu; omega)
    · rw [if_neg (fun e => c ((e0 b).mp e))]
      exact q351 u 2 (by rw [if_pos (by omega)] at hu; omega)
  have key : ∀ (n fu i : Nat) (x y : Int), i + n = 6 → n < fu → sxN (s 7) n i x = sxN (s 7) 6 0 0 → syN (s 7) n i y = syN (s 7) 6 0 0 → ∃ f', g_L_settles_l243 fu (iv (mxS s * cnS (s 7) - x * wS s)) (iv (myS s * cnS (s 7) - y * wS s)) (iv i) z f = some (z, f') ∧ LX (fallS s) f' ∧ Fl f f' := by
    intro n
    induction n with
    | zero =>
      intro fu i x y hi hf e2 e3
      obtain ⟨fu, rfl⟩ : ∃ x, fu = x + 1 := ⟨fu - 1, by omega⟩
      obtain rfl : i = 6 := by omega
      replace e2 : x = sxN (s 7) 6 0 0 := e2
      replace e3 : y = syN (s 7) 6 0 0 := e3
      rw [g_L_settles_l243, if_pos y6, e2, e3]
      have b : IB (mxS s * cnS (s 7) - sxN (s 7) 6 0 0 * wS s) := by unfold IB; omega
      have hd : dirS s = 3 * (sgS (mxS s * cnS (s 7) - sxN (s 7) 6 0 0 * wS s) + 1) + sgS (myS s * cnS (s 7) - syN (s 7) 6 0 0 * wS s) + 1 := rfl
      generalize mxS s * cnS (s 7) - sxN (s 7) 6 0 0 * wS s = X at *
      have q := fun u (hu : u = 3 * (sgS X + 1)) => q332 u (by rw [hd, hu]; omega)
      unfold sgS at q
      by_cases c : X ≤ 0
      · rw [if_pos ((e0 b).mpr c)]
        by_cases d : 0 ≤ X
        · rw [if_pos ((e1 b).mpr d)]
          exact q 3 (by rw [if_neg (by omega), if_neg (by omega)]; rfl)
        · rw [if_neg (fun e => d ((e1 b).mp e))]
          exact q 0 (by rw [if_neg (by omega), if_pos (by omega)]; rfl)
      · rw [if_neg (fun e => c ((e0 b).mp e))]
        exact q 6 (by rw [if_pos (by omega)]; rfl)
    | succ n ih =>
      intro fu i x y hi hf e2 e3
      obtain ⟨fu, rfl⟩ : ∃ x, fu = x + 1 := ⟨fu - 1, by omega⟩
      have h6 : i < 6 := by omega
      rw [g_L_settles_l243, if_neg (n6 h6), h.1.2.1, mk_get i h6, ix_iv h6 (by decide), Option.bind_some, Option.bind_some, lm_g h.1.1 4 1, show (10 : Int32) = iv 10 from rfl, iv_add, show 10 + s 8 1 = wS s from rfl, iv_1]
      unfold sxN at e2
      unfold syN at e3
      by_cases c1 : s 7 i = -1
      · rw [if_pos c1] at e2 e3
        rw [if_neg (by unfold dnS; simp [c1]), Int32.zero_mul, Int32.zero_mul, Int32.zero_mul, Int32.sub_zero, Int32.sub_zero]
        exact ih fu (i + 1) x y (by omega) (by omega) e2 e3
      · rw [if_neg c1] at e2 e3
        obtain ⟨f1, f2⟩ := h.1.2.2.1 i h6 c1
        rw [if_pos (by unfold dnS; exact decide_eq_true c1), Int32.one_mul, f1, f2, iv_mul, iv_mul, iv_sub, iv_sub]
        have r := ih fu (i + 1) _ _ (by omega) (by omega) e2 e3
        have q1 : mxS s * cnS (s 7) - x * wS s - wS s * (pt (s 7 i)).1 = mxS s * cnS (s 7) - (x + (pt (s 7 i)).1) * wS s := by grind
        have q2 : myS s * cnS (s 7) - y * wS s - wS s * (pt (s 7 i)).2 = myS s * cnS (s 7) - (y + (pt (s 7 i)).2) * wS s := by grind
        rw [q1, q2]
        exact r
  have := key 6 FU 0 0 0 (by decide) (by decide) rfl rfl
  rw [iv_mul, iv_mul]
  have q1 : (cnS (s 7) : Int) * mxS s = mxS s * cnS (s 7) - 0 * wS s := by grind
  have q2 : (cnS (s 7) : Int) * myS s = myS s * cnS (s 7) - 0 * wS s := by grind
  rw [q1, q2]
  exact this
/-- what comes behind an act -/
theorem la_settles {n : Int} (hn : n < 1000000) (hW : WB n s) (h : LX s f) : ∃ f', g_L_settles z f = some (z, f') ∧ LX (stlS s) f' ∧ Fl f f' := by
  have hk := hW.1.1
  have h8 := ko_8 hk
  have fb := (wf_stl hn hW).2
  have e1 : (iv (s 8 6) = (1 : Int32)) ↔ s 8 6 = 1 := iv_eq (b := 1) (by unfold IB; omega) (by decide)
  unfold g_L_settles g_L_settles_b25 stlS
  rw [lm_g h.1.1 0 6]
  by_cases c : s 8 6 = 0
  · rw [if_neg (fun e => by have := e1.mp e; omega), if_pos c, show FU = 1999 + 1 from rfl, l27_0, g_L_settles_l27, if_pos (show (0 : Int32) ≤ 0 by decide), lm_g h.1.1 0 6, if_neg (fun e => by have := e1.mp e; omega)]
    exact ⟨f, rfl, h, fl_rf⟩
  · rw [if_pos (e1.mpr (by omega)), if_neg c, h.1.2.1, la_sink (ko_bd hk) h.1.1 h.1.2.2.1, Option.bind_some]
    obtain ⟨f1, q1, x1, l1⟩ := la_sinks (z := z) 6 FU s f cnS_le (by decide) hk h
    have hk1 := ko_skN 6 hk
    have hB1 := ko_bd hk1
    have e6 : skN 6 s 8 6 = s 8 6 := skN_o (by decide) 6 s
    rw [q1, g_L_settles_l27, if_pos (show (0 : Int32) ≤ 0 by decide), lm_g x1.1.1 0 6, e6, if_pos (e1.mpr (by omega)), x1.1.2.1, la_holds hB1 x1.1.1 x1.1.2.2.1, Option.bind_some]
    by_cases d : stB (skN 6 s) (-1) = true
    · rw [if_pos d, if_neg (by decide), if_pos d]
      exact ⟨f1, rfl, x1, l1⟩
    · rw [if_neg d, if_pos rfl, if_neg d, la_many, Option.bind_some]
      obtain ⟨f', q2, x2, l2⟩ := la_fall (z := z) x1 hk1 ((fb c).resolve_left d)
      rw [lm_g x1.1.1 4 1, lm_g x1.1.1 1 4, lm_g x1.1.1 2 5, lm_g x1.1.1 5 2, lm_g x1.1.1 6 3, show (10 : Int32) = iv 10 from rfl]
      refine ⟨f', ?_, x2, fl_tr l1 l2⟩
      rw [← q2]
      simp only [iv_add, iv_mul]
      rfl
end
