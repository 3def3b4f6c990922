/-! told: legs, phases, energy -/
section
variable {s : MSt} {z f : Nat → Nat → Int32}
theorem le_o (s : MSt) (x y r : Int) {b j : Nat} (h : (b ≠ 4 ∧ b ≠ 5 ∧ b ≠ 6 ∨ j ≠ (s 8 0).toNat) ∧ (b = 8 → j ≠ 0)) : leS s x y r b j = s b j := by
  have e1 : ¬ (b = 8 ∧ j = 0) := fun q => h.2 q.1 q.2
  have e2 : ∀ a, a = 4 ∨ a = 5 ∨ a = 6 → ¬ (b = a ∧ j = (s 8 0).toNat) := fun a ha q => by
    rcases h.1 with ⟨h4, h5, h6⟩ | hj
    · rcases ha with e | e | e <;> subst e
      · exact h4 q.1
      · exact h5 q.1
      · exact h6 q.1
    · exact hj q.2
  unfold leS us
  rw [if_neg e1, if_neg (e2 6 (by decide)), if_neg (e2 5 (by decide)), if_neg (e2 4 (by decide))]
theorem lw_leg (h : LW s f) {x y r : Int} (h0 : 0 ≤ s 8 0 ∧ s 8 0 < 6) : LW (leS s x y r) (upf (upf f 69 (s 8 0).toNat (iv (x + 5 + 11 * (y + 5) + 121 * r))) 74 7 (iv (s 8 0 + 1))) := by
  obtain ⟨⟨⟨a1, a2, a3, a4⟩, l, g⟩, m, x', m1, m2, m3⟩ := h
  have o : ∀ b, b ≠ 4 → b ≠ 5 → b ≠ 6 → b ≠ 8 → leS s x y r b = s b := fun b h1 h2 h3 h4 => funext fun j => le_o s x y r ⟨Or.inl ⟨h1, h2, h3⟩, fun e => absurd e h4⟩
  have o8 : ∀ j, j ≠ 0 → leS s x y r 8 j = s 8 j := fun j hj => le_o s x y r ⟨Or.inl ⟨by decide, by decide, by decide⟩, fun _ => hj⟩
  have e0 : leS s x y r 8 0 = s 8 0 + 1 := us_at
  have hf : ∀ {A B : Int32} c, c ≠ 69 → c ≠ 74 → upf (upf f 69 (s 8 0).toNat A) 74 7 B c = f c := fun {A B} c h1 h2 => by rw [upf_ne h2, upf_ne h1]
  have h74 : ∀ {A B : Int32} k, upf (upf f 69 (s 8 0).toNat A) 74 7 B 74 k = if k = 7 then B else f 74 k := fun {A B} k => by rw [upf_g, upf_ne (show (74 : Nat) ≠ 69 by decide)]
  refine ⟨⟨⟨fun q hq => ?_, fun q hq => ?_, fun q hq => ?_, fun q hq => ?_⟩, fun k hk hl => ?_, fun q hq => ?_⟩, ?_, fun k hk hd => ?_, fun h9 => ?_, fun k hk hl => ?_, fun k hk hl => ?_⟩
  · rw [h4_cg (hf 66 (by decide) (by decide)), o 0 (by decide) (by decide) (by decide) (by decide)]; exact a1 q hq
  · rw [h4_cg (hf 66 (by decide) (by decide)), o 3 (by decide) (by decide) (by decide) (by decide)]; exact a2 q hq
  · rw [h4_cg (hf 67 (by decide) (by decide)), o 2 (by decide) (by decide) (by decide) (by decide)]; exact a3 q hq
  · rw [h8_cg (hf 68 (by decide) (by decide)), o 1 (by decide) (by decide) (by decide) (by decide)]; exact a4 q hq
  · rw [e0] at hl
    rw [upf_ne (show (69 : Nat) ≠ 74 by decide), upf_g]
    unfold legV
    by_cases c : k = (s 8 0).toNat
    · rw [if_pos c, c]
      simp [leS, us]
    · rw [if_neg c, le_o s x y r ⟨Or.inr c, fun e => absurd e (by decide)⟩, le_o s x y r ⟨Or.inr c, fun e => absurd e (by decide)⟩, le_o s x y r ⟨Or.inr c, fun e => absurd e (by decide)⟩]
      exact l k hk (by omega)
  · rw [h74]
    by_cases c : q.1 = 7
    · have := (scalL_inj q hq (7, 0) (by decide)).1 c
      rw [if_pos c, this, e0]
    · rw [if_neg c, g q hq, o8 _ (fun e => c ((scalL_inj q hq (7, 0) (by decide)).2.1 e))]
  · rw [h74, if_neg (by decide), m]
    refine mk_cg fun k _ => ?_
    unfold dnS
    rw [o 7 (by decide) (by decide) (by decide) (by decide)]
  · rw [o 7 (by decide) (by decide) (by decide) (by decide)] at hd ⊢
    rw [hf 70 (by decide) (by decide), hf 71 (by decide) (by decide)]
    exact x' k hk hd
  · rw [o8 9 (by decide)] at h9 ⊢
    rw [h74, if_neg (by decide), o8 10 (by decide)]
    exact m1 h9
  · rw [o8 12 (by decide)] at hl
    rw [hf 73 (by decide) (by decide), m2 k hk hl]
    unfold falV
    rw [o 9 (by decide) (by decide) (by decide) (by decide), o 10 (by decide) (by decide) (by decide) (by decide), o 11 (by decide) (by decide) (by decide) (by decide)]
  · rw [o8 13 (by decide)] at hl
    rw [hf 72 (by decide) (by decide), m3 k hk hl]
    unfold phaV
    rw [o 12 (by decide) (by decide) (by decide) (by decide), o 13 (by decide) (by decide) (by decide) (by decide), o 14 (by decide) (by decide) (by decide) (by decide), o 15 (by decide) (by decide) (by decide) (by decide), o 16 (by decide) (by decide) (by decide) (by decide)]
theorem padd_o (s : MSt) (a x y u v : Int) {b j : Nat} (h : (b < 12 ∨ j ≠ (s 8 13).toNat) ∧ (b = 8 → j ≠ 13)) : paddS s a x y u v b j = s b j := by
  have e1 : ¬ (b = 8 ∧ j = 13) := fun q => h.2 q.1 q.2
  have e2 : ∀ c, 12 ≤ c → ¬ (b = c ∧ j = (s 8 13).toNat) := fun c hc q => by
    rcases h.1 with h4 | hj
    · have := q.1; omega
    · exact hj q.2
  unfold paddS us
  rw [if_neg e1, if_neg (e2 16 (by decide)), if_neg (e2 15 (by decide)), if_neg (e2 14 (by decide)), if_neg (e2 13 (by decide)), if_neg (e2 12 (by decide))]
theorem lw_pha (h : LW s f) {a x y u v : Int} (h0 : 0 ≤ s 8 13 ∧ s 8 13 < 8) : LW (paddS s a x y u v) (upf (upf f 72 (s 8 13).toNat (iv (a + 8 * (x + 6) + 128 * (y + 6) + 2048 * (u + 1) + 8192 * (v + 1)))) 74 12 (iv (s 8 13 + 1))) := by
  obtain ⟨⟨⟨a1, a2, a3, a4⟩, l, g⟩, m, x', m1, m2, m3⟩ := h
  have o : ∀ b, b < 12 → b ≠ 8 → paddS s a x y u v b = s b := fun b h1 h4 => funext fun j => padd_o s a x y u v ⟨Or.inl h1, fun e => absurd e h4⟩
  have o8 : ∀ j, j ≠ 13 → paddS s a x y u v 8 j = s 8 j := fun j hj => padd_o s a x y u v ⟨Or.inl (by decide), fun _ => hj⟩
  have e0 : paddS s a x y u v 8 13 = s 8 13 + 1 := us_at
  have hf : ∀ {A B : Int32} c, c ≠ 72 → c ≠ 74 → upf (upf f 72 (s 8 13).toNat A) 74 12 B c = f c := fun {A B} c h1 h2 => by rw [upf_ne h2, upf_ne h1]
  have h74 : ∀ {A B : Int32} k, upf (upf f 72 (s 8 13).toNat A) 74 12 B 74 k = if k = 12 then B else f 74 k := fun {A B} k => by rw [upf_g, upf_ne (show (74 : Nat) ≠ 72 by decide)]
  refine ⟨⟨⟨fun q hq => ?_, fun q hq => ?_, fun q hq => ?_, fun q hq => ?_⟩, fun k hk hl => ?_, fun q hq => ?_⟩, ?_, fun k hk hd => ?_, fun h9 => ?_, fun k hk hl => ?_, fun k hk hl => ?_⟩
  · rw [h4_cg (hf 66 (by decide) (by decide)), o 0 (by decide) (by decide)]; exact a1 q hq
  · rw [h4_cg (hf 66 (by decide) (by decide)), o 3 (by decide) (by decide)]; exact a2 q hq
  · rw [h4_cg (hf 67 (by decide) (by decide)), o 2 (by decide) (by decide)]; exact a3 q hq
  · rw [h8_cg (hf 68 (by decide) (by decide)), o 1 (by decide) (by decide)]; exact a4 q hq
  · rw [o8 0 (by decide)] at hl
    rw [hf 69 (by decide) (by decide), l k hk hl]
    unfold legV
    rw [o 4 (by decide) (by decide), o 5 (by decide) (by decide), o 6 (by decide) (by decide)]
  · rw [h74]
    by_cases c : q.1 = 12
    · have := (scalL_inj q hq (12, 13) (by decide)).1 c
      rw [if_pos c, this, e0]
    · rw [if_neg c, g q hq, o8 _ (fun e => c ((scalL_inj q hq (12, 13) (by decide)).2.1 e))]
  · rw [h74, if_neg (by decide), m]
    refine mk_cg fun k _ => ?_
    unfold dnS
    rw [o 7 (by decide) (by decide)]
  · rw [o 7 (by decide) (by decide)] at hd ⊢
    rw [hf 70 (by decide) (by decide), hf 71 (by decide) (by decide)]
    exact x' k hk hd
  · rw [o8 9 (by decide)] at h9 ⊢
    rw [h74, if_neg (by decide), o8 10 (by decide)]
    exact m1 h9
  · rw [o8 12 (by decide)] at hl
    rw [hf 73 (by decide) (by decide), m2 k hk hl]
    unfold falV
    rw [o 9 (by decide) (by decide), o 10 (by decide) (by decide), o 11 (by decide) (by decide)]
  · rw [e0] at hl
    rw [upf_ne (show (72 : Nat) ≠ 74 by decide), upf_g]
    unfold phaV
    by_cases c : k = (s 8 13).toNat
    · rw [if_pos c, c]
      simp [paddS, us]
    · have p := fun b => padd_o s a x y u v (b := b + 12) ⟨Or.inr c, fun e => by omega⟩
      rw [if_neg c, p 0, p 1, p 2, p 3, p 4]
      exact m3 k hk (by omega)
theorem lw_hlt (h : LW s f) {v : Int} (hv : v ≤ s 8 13) : LW (us s 8 13 v) (upf f 74 12 (iv v)) := by
  obtain ⟨⟨⟨a1, a2, a3, a4⟩, l, g⟩, m, x', m1, m2, m3⟩ := h
  have o : ∀ b, b ≠ 8 → us s 8 13 v b = s b := fun b h4 => funext fun j => us_na h4
  have o8 : ∀ j, j ≠ 13 → us s 8 13 v 8 j = s 8 j := fun j hj => us_nk hj
  have hf : ∀ c, c ≠ 74 → upf f 74 12 (iv v) c = f c := fun c h2 => upf_ne h2
  refine ⟨⟨⟨fun q hq => ?_, fun q hq => ?_, fun q hq => ?_, fun q hq => ?_⟩, fun k hk hl => ?_, fun q hq => ?_⟩, ?_, fun k hk hd => ?_, fun h9 => ?_, fun k hk hl => ?_, fun k hk hl => ?_⟩
  · rw [h4_cg (hf 66 (by decide)), o 0 (by decide)]; exact a1 q hq
  · rw [h4_cg (hf 66 (by decide)), o 3 (by decide)]; exact a2 q hq
  · rw [h4_cg (hf 67 (by decide)), o 2 (by decide)]; exact a3 q hq
  · rw [h8_cg (hf 68 (by decide)), o 1 (by decide)]; exact a4 q hq
  · rw [o8 0 (by decide)] at hl
    rw [hf 69 (by decide), l k hk hl]
    unfold legV
    rw [o 4 (by decide), o 5 (by decide), o 6 (by decide)]
  · rw [upf_g]
    by_cases c : q.1 = 12
    · have := (scalL_inj q hq (12, 13) (by decide)).1 c
      rw [if_pos c, this, us_at]
    · rw [if_neg c, g q hq, o8 _ (fun e => c ((scalL_inj q hq (12, 13) (by decide)).2.1 e))]
  · rw [upf_g, if_neg (by decide), m]
    refine mk_cg fun k _ => ?_
    unfold dnS
    rw [o 7 (by decide)]
  · rw [o 7 (by decide)] at hd ⊢
    rw [hf 70 (by decide), hf 71 (by decide)]
    exact x' k hk hd
  · rw [o8 9 (by decide)] at h9 ⊢
    rw [upf_g, if_neg (by decide), o8 10 (by decide)]
    exact m1 h9
  · rw [o8 12 (by decide)] at hl
    rw [hf 73 (by decide), m2 k hk hl]
    unfold falV
    rw [o 9 (by decide), o 10 (by decide), o 11 (by decide)]
  · rw [us_at] at hl
    rw [hf 72 (by decide), m3 k hk (by omega)]
    unfold phaV
    rw [o 12 (by decide), o 13 (by decide), o 14 (by decide), o 15 (by decide), o 16 (by decide)]
theorem la_told5 {n : Int} (hC : CS s z f) (hL : LW s f) (hW : WF n s) : OK1 n (lt2 (upf f 74 12 0) fun u3 => lt2 (upf u3 74 13 0) fun u5 => bn3 (g_X10_halt z u5) fun x6 z7 u8 => if x6 = (f 74 12) then some (1, z7, u8) else some (0, z7, u8)) := by
  have h8 := ko_8 hW.1.1
  have l1 := lw_hlt (v := 0) hL (by omega)
  have l2 := lw_u (c := 13) (j := 14) (v := 0) l1 (by decide) (by decide)
  obtain ⟨z', f', e, c, F⟩ := cq_halt (fl_cs (fl_tr (fl_u (b := 74) (j := 12) (v := 0) (by decide)) (fl_u (b := 74) (j := 13) (v := 0) (by decide))) hC)
  refine ⟨_, z', f', ?_, c, fm_ls F l2, wf_ha hW⟩
  unfold lt2
  dsimp only
  rw [e, bn3_some, lm_g hL.1 12 13, if_pos rfl]
theorem la_told2 {n : Int} (hC : CS s z f) (hL : LW s f) (hW : WF n s) {x y r : Int} (hx : -5 ≤ x ∧ x ≤ 6) (hy : -6 ≤ y ∧ y ≤ 5) (hr : 1 ≤ r ∧ r ≤ 7) : OK1 n (g_L_isTold_b571 (iv x) (iv y) (iv r) z f) := by
  have hk := hW.1.1
  have h8 := ko_8 hk
  have ix := ib_s (a := x) (by omega)
  have iy := ib_s (a := y) (by omega)
  have ir := ib_s (a := r) (by omega)
  have ask : ∀ {f1} (_ : CS s z f1), ∃ z' f', g_L_does 2 (iv x) (iv y) (iv r) 0 0 z f1 = some (dvC [-2000000, -1000000] (oLeg s x y r).1 (oLeg s x y r).2.1, z', f') ∧ CS (oLeg s x y r).2.2 z' f' ∧ Fm z f1 z' f' := fun {f1} c1 => by
    obtain ⟨z', f', e, c, F⟩ := cq_leg hk c1 ix iy ir
    refine ⟨z', f', ?_, c, F⟩
    rw [do_2]
    exact dq_w e wl_AS oc_leg
  have no : ∀ {i : Int32}, (i = 0 → ¬ lePb x y r) → (i ≠ 0 → lePb x y r ∧ ¬ (s 8 6 = 0 ∧ s 8 0 < 6)) → OK1 n (g_L_isTold_b627 (iv x) (iv y) (iv r) i z f) := fun {i} q0 q1 => by
    obtain ⟨z', f', e, c, F⟩ := ask hC
    unfold g_L_isTold_b627 g_L_isTold_b628
    rw [if_pos rfl]
    unfold g_L_isTold_b670 g_L_isTold_b710
    by_cases hi : i = 0
    · have o : oLeg s x y r = (1, 0, s) := by unfold oLeg; rw [if_neg (q0 hi)]
      rw [o] at e c
      refine ⟨s, z', f', ?_, c, fm_ls F hL, hW⟩
      rw [e, bn3_some, if_pos hi]
      exact if_pos rfl
    · have o : oLeg s x y r = (2, 0, s) := by unfold oLeg; rw [if_pos (q1 hi).1, if_neg (q1 hi).2]
      rw [o] at e c
      refine ⟨s, z', f', ?_, c, fm_ls F hL, hW⟩
      rw [e, bn3_some, if_neg hi, if_pos rfl]
      exact if_pos rfl
  have no0 : ¬ lePb x y r → OK1 n (g_L_isTold_b598 (iv x) (iv y) (iv r) z f) := fun q => by
    unfold g_L_isTold_b598 g_L_isTold_b599
    rw [if_pos rfl]
    exact no (fun _ => q) (fun h => absurd rfl h)
  unfold g_L_isTold_b571
  have e1 : ((6 : Int32) ≤ iv x) ↔ 6 ≤ x := iv_le (a := 6) (by decide) ix
  have e2 : (iv y ≤ iv (-6)) ↔ y ≤ -6 := iv_le (b := -6) iy (by decide)
  rw [show iv (-6) = (-6 : Int32) from rfl] at e2
  have e3 : ((7 : Int32) ≤ iv r) ↔ 7 ≤ r := iv_le (a := 7) (by decide) ir
  have e4 : ((6 : Int32) ≤ iv (s 8 0)) ↔ 6 ≤ s 8 0 := iv_le (a := 6) (by decide) (by unfold IB; omega)
  have e5 : (iv (s 8 6) = (0 : Int32)) ↔ s 8 6 = 0 := iv_eq (b := 0) (by unfold IB; omega) (by decide)
  by_cases c1 : 6 ≤ x
  · rw [if_pos (e1.mpr c1)]
    exact no0 (fun q => by have := q.1; omega)
  rw [if_neg (fun e => c1 (e1.mp e))]
  by_cases c2 : y ≤ -6
  · rw [if_pos (e2.mpr c2)]
    exact no0 (fun q => by have := q.2.1; omega)
  rw [if_neg (fun e => c2 (e2.mp e))]
  by_cases c3 : 7 ≤ r
  · rw [if_pos (e3.mpr c3)]
    exact no0 (fun q => by have := q.2.2; omega)
  rw [if_neg (fun e => c3 (e3.mp e))]
  have hl : lePb x y r := ⟨by omega, by omega, by omega⟩
  unfold g_L_isTold_b599
  rw [if_neg (show ¬ (1 : Int32) = 0 by decide), lm_g hL.1 7 0, lm_g hL.1 0 6]
  by_cases c4 : 6 ≤ s 8 0
  · rw [if_pos (e4.mpr c4)]
    exact no (fun e => absurd e (by decide)) (fun _ => ⟨hl, fun q => by omega⟩)
  rw [if_neg (fun e => c4 (e4.mp e))]
  by_cases c5 : s 8 6 = 0
  · rw [if_pos (e5.mpr c5)]
    unfold g_L_isTold_b628
    rw [if_neg (show ¬ (1 : Int32) = 0 by decide), lm_g hL.1 7 0]
    have l1 := lw_leg hL (x := x) (y := y) (r := r) ⟨h8.1.1.1, by omega⟩
    obtain ⟨z', f', e, c, F⟩ := ask (fl_cs (fl_tr (fl_u (b := 69) (j := (s 8 0).toNat) (v := iv (x + 5 + 11 * (y + 5) + 121 * r)) (by decide)) (fl_u (b := 74) (j := 7) (v := iv (s 8 0 + 1)) (by decide))) hC)
    have wg := wf_leg hW x y r
    have o : oLeg s x y r = (0, s 8 0, leS s x y r) := by unfold oLeg; rw [if_pos hl, if_pos ⟨c5, by omega⟩]
    rw [o] at e c wg
    have l2 := fm_ls F l1
    refine ⟨_, z', f', ?_, c, l2, wg⟩
    rw [show iv (s 8 0) = iv ((s 8 0).toNat : Nat) by rw [Int.toNat_of_nonneg h8.1.1.1], ix_iv (by omega) (by decide), Option.bind_some]
    unfold lt2
    dsimp only
    rw [upf_ne (show (74 : Nat) ≠ 69 by decide), lm_g hL.1 7 0, show (5 : Int32) = iv 5 from rfl, show (11 : Int32) = iv 11 from rfl, show (121 : Int32) = iv 121 from rfl, show (1 : Int32) = iv 1 from rfl, iv_add, iv_add, iv_mul, iv_add, iv_mul, iv_add, iv_add]
    unfold g_L_isTold_b670 g_L_isTold_b710
    rw [e, bn3_some, if_neg (show ¬ iv 1 = 0 by decide), if_neg (show ¬ iv 1 = 0 by decide), lm_g l2.1 7 0, show leS s x y r 8 0 = s 8 0 + 1 from us_at, show (1 : Int32) = iv 1 from rfl, iv_sub, show s 8 0 + 1 - 1 = s 8 0 by omega]
    exact if_pos rfl
  · rw [if_neg (fun e => c5 (e5.mp e))]
    exact no (fun e => absurd e (by decide)) (fun _ => ⟨hl, fun q => c5 q.1⟩)
end
