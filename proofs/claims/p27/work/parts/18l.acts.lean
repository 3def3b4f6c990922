/-! lifting, placing, shifting: the law -/
section
variable {s : MSt} {z f : Nat → Nat → Int32}
theorem lm_7 {k : Nat} {q : Int} (h : LM s f) : LM (us s 7 k q) f := by
  obtain ⟨⟨a1, a2, a3, a4⟩, l, g⟩ := h
  have n : ∀ b, b ≠ 7 → us s 7 k q b = s b := fun b hb => funext fun j => us_na hb
  refine ⟨⟨?_, ?_, ?_, ?_⟩, fun j hj hl => ?_, fun q hq => ?_⟩
  · rw [n 0 (by decide)]; exact a1
  · rw [n 3 (by decide)]; exact a2
  · rw [n 2 (by decide)]; exact a3
  · rw [n 1 (by decide)]; exact a4
  · rw [n 8 (by decide)] at hl
    rw [l j hj hl]
    unfold legV
    rw [n 4 (by decide), n 5 (by decide), n 6 (by decide)]
  · rw [n 8 (by decide)]; exact g q hq
theorem fx_up {k : Nat} (h : FX s f) : FX (us s 7 k (-1)) f := fun j hj hd => by
  by_cases e : j = k
  · subst e; rw [us_at] at hd; exact absurd rfl hd
  · rw [us_nk e] at hd ⊢; exact h j hj hd
theorem bd_up {k : Nat} (hB : BD s) : BD (us s 7 k (-1)) := ⟨hB.1, hB.2.1, hB.2.2.1, fun j hj => by
  by_cases e : j = k
  · subst e; rw [us_at]; exact Or.inl rfl
  · rw [us_nk e]; exact hB.2.2.2 j hj⟩
theorem lx_up (h : LX s f) {k : Nat} {M : Int32} (hM : M = mk (dnS (us s 7 k (-1)))) : LX (us s 7 k (-1)) (upf f 74 8 M) := by
  have n : ∀ b, b ≠ 7 → us s 7 k (-1) b = s b := fun b hb => funext fun j => us_na hb
  obtain ⟨⟨⟨⟨a1, a2, a3, a4⟩, l, g⟩, m, x, m1, m2, m3⟩, h14⟩ := h
  have hf : ∀ a, a ≠ 74 → upf f 74 8 M a = f a := fun a ha => upf_ne ha
  refine ⟨⟨⟨⟨fun q hq => ?_, fun q hq => ?_, fun q hq => ?_, fun q hq => ?_⟩, fun k hk hl => ?_, fun q hq => ?_⟩, ?_, fun j hj hd => ?_, fun h9 => ?_, fun k hk hl => ?_, fun k hk hl => ?_⟩, ?_⟩
  · rw [h4_cg (hf 66 (by decide)), n 0 (by decide)]; exact a1 q hq
  · rw [h4_cg (hf 66 (by decide)), n 3 (by decide)]; exact a2 q hq
  · rw [h4_cg (hf 67 (by decide)), n 2 (by decide)]; exact a3 q hq
  · rw [h8_cg (hf 68 (by decide)), n 1 (by decide)]; exact a4 q hq
  · rw [n 8 (by decide)] at hl
    rw [hf 69 (by decide), l k hk hl]
    unfold legV
    rw [n 4 (by decide), n 5 (by decide), n 6 (by decide)]
  · have := scalL_inj q hq q hq
    rw [upf_g, if_neg this.2.2.1, n 8 (by decide)]; exact g q hq
  · rw [upf_g, if_pos rfl, hM]
  · have := fx_up x j hj hd
    rw [hf 70 (by decide), hf 71 (by decide)]
    exact this
  · rw [n 8 (by decide)] at h9 ⊢
    rw [upf_g, if_neg (by decide)]; exact m1 h9
  · rw [n 8 (by decide)] at hl
    rw [hf 73 (by decide), m2 k hk hl]
    unfold falV
    rw [n 9 (by decide), n 10 (by decide), n 11 (by decide)]
  · rw [n 8 (by decide)] at hl
    rw [hf 72 (by decide), m3 k hk hl]
    unfold phaV
    rw [n 12 (by decide), n 13 (by decide), n 14 (by decide), n 15 (by decide), n 16 (by decide)]
  · rw [upf_g, if_neg (by decide), n 8 (by decide)]; exact h14
theorem clr_eq {k : Nat} (hk : k < 6) : mk (dnS (us s 7 k (-1))) = mk (dnS s) ↔ s 7 k = -1 := by
  constructor
  · intro h
    have h1 := mk_get (σ := dnS (us s 7 k (-1))) k hk
    rw [h] at h1
    have h2 := (mo_bit0 (s := s) hk).mp (by
      rw [h1]
      unfold dnS
      rw [us_at]
      rfl)
    exact h2
  · intro h
    refine mk_cg fun j _ => ?_
    unfold dnS
    by_cases e : j = k
    · subst e; rw [us_at, h]
    · rw [us_nk e]
theorem stand_1 (hk : KO s) : (iv (s 8 6) = (1 : Int32)) ↔ s 8 6 ≠ 0 := by
  have h8 := ko_8 hk
  have e := iv_eq (a := s 8 6) (b := 1) (by unfold IB; omega) (by decide)
  refine Iff.trans e ?_
  omega
theorem la_lifts {n : Int} (hn : n < 1000000) (hW : WF n s) (h : LW s f) {k : Nat} (hk6 : k < 6) : ∃ f', g_L_lifts (iv k) z f = some (if mlP s k then 1 else 0, z, f') ∧ (mlP s k → LX (stlS (lfS s k)) f') ∧ (¬ mlP s k → LW s f' ∧ f' 74 14 = 0) ∧ Fl f f' := by
  have hk := hW.1.1
  have h8 := ko_8 hk
  have hB := ko_bd hk
  have no : ∀ {M : Int32}, ¬ mlP s k → ∃ f', g_L_lifts_b56 M 0 z f = some (if mlP s k then 1 else 0, z, f') ∧ (mlP s k → LX (stlS (lfS s k)) f') ∧ (¬ mlP s k → LW s f' ∧ f' 74 14 = 0) ∧ Fl f f' := fun {M} hp => by
    refine ⟨upf f 74 14 0, ?_, fun q => absurd q hp, fun _ => ⟨lwz_14 h, by rw [upf_g, if_pos rfl]⟩, fl_u (by decide)⟩
    unfold g_L_lifts_b56 lt2
    dsimp only
    rw [if_pos rfl, if_neg hp]
    rfl
  unfold g_L_lifts g_L_lifts_b55
  rw [lm_g h.1 0 6, lm_g h.1 3 7, h.2.1, dn_clr hk6]
  have e3 : (iv (s 8 7) ≤ (0 : Int32)) ↔ s 8 7 ≤ 0 := iv_le (b := 0) (by unfold IB; omega) (by decide)
  by_cases c : s 8 6 = 0
  · rw [if_neg (fun e => (stand_1 hk).mp e c)]
    exact no (fun q => q.1 c)
  rw [if_pos ((stand_1 hk).mpr c)]
  by_cases g : s 7 k = -1
  · rw [if_pos ((clr_eq hk6).mpr g)]
    exact no (fun q => q.2.2.1 g)
  rw [if_neg (fun e => g ((clr_eq hk6).mp e))]
  by_cases d : s 8 7 ≤ 0
  · rw [if_pos (e3.mpr d)]
    exact no (fun q => by have := q.2.1; omega)
  rw [if_neg (fun e => d (e3.mp e)), la_holds (bd_up hB) (lm_7 h.1) (fx_up h.2.2.1), Option.bind_some, ← stB_wo]
  by_cases j : stB s k = true
  · have hp : mlP s k := ⟨c, by omega, g, j⟩
    rw [if_pos j, if_neg (show ¬ (1:Int32) = 0 by decide), if_pos hp]
    have x1 := lx_0 h
    have x2 := lx_u (c := 3) (j := 7) (v := s 8 7 - 1) x1 (by decide) (by decide)
    rw [show us (us s 8 11 0) 8 7 (s 8 7 - 1) = us (us s 8 7 (s 8 7 - 1)) 8 11 0 from us_comm (by decide)] at x2
    have x3 : LX (lfS s k) (upf (upf (upf f 74 14 0) 74 3 (iv (s 8 7 - 1))) 74 8 (mk (dnS (us s 7 k (-1))))) := lx_up x2 (mk_cg fun j _ => by
      unfold dnS us
      rfl)
    obtain ⟨f', e, x4, l4⟩ := la_settles (z := z) hn (wb_lf hW hp) x3
    refine ⟨f', ?_, fun _ => x4, fun q => absurd hp q, fl_tr (fl_tr (fl_u (by decide)) (fl_tr (fl_u (by decide)) (fl_u (by decide)))) l4⟩
    unfold g_L_lifts_b56 lt2
    dsimp only
    rw [if_neg (show ¬ (1:Int32) = 0 by decide), show upf f 74 14 0 74 3 = iv (s 8 7) by rw [upf_g, if_neg (by decide)]; exact lm_g h.1 3 7, show iv (s 8 7) - 1 = iv (s 8 7 - 1) from iv_sub _ 1, e, bn2_some]
    rfl
  · rw [if_neg j, if_pos rfl]
    exact no (fun q => j q.2.2.2)
theorem la_places {n : Int} (hn : n < 1000000) (hW : WF n s) (h : LW s f) {k : Nat} (hk6 : k < 6) (hl : (k : Int) < s 8 0) {p : Int} (hp : nB p) : ∃ f', g_L_places (iv k) (iv (pt p).1) (iv (pt p).2) z f = some (if plP s k p then 1 else 0, z, f') ∧ (plP s k p → LX (stlS (plS s k p)) f') ∧ (¬ plP s k p → LW s f' ∧ f' 74 14 = 0) ∧ Fl f f' := by
  have hk := hW.1.1
  have h8 := ko_8 hk
  have hB := ko_bd hk
  have hp' := (nB_nat hp).2
  have b3 : 0 ≤ s 3 p.toNat ∧ s 3 p.toNat ≤ 9 := hk 3 p.toNat
  have bl := lv_bd hB (but := -1)
  have bf := faS_bd hB hk6 hp
  have no : ∀ {C : Int32}, ¬ plP s k p → ∃ f', g_L_places_b130 (iv k) (iv (pt p).1) (iv (pt p).2) C 0 z f = some (if plP s k p then 1 else 0, z, f') ∧ (plP s k p → LX (stlS (plS s k p)) f') ∧ (¬ plP s k p → LW s f' ∧ f' 74 14 = 0) ∧ Fl f f' := fun {C} hq => by
    refine ⟨upf f 74 14 0, ?_, fun q => absurd q hq, fun _ => ⟨lwz_14 h, by rw [upf_g, if_pos rfl]⟩, fl_u (by decide)⟩
    unfold g_L_places_b130 lt2
    dsimp only
    rw [if_pos rfl, if_neg hq]
    rfl
  unfold g_L_places g_L_places_b129
  rw [la_at4 hp, la_four (by decide) (by omega), Option.bind_some, h.1.1.2.1 _ hp', h.2.1, la_level hB h.1 h.2.2.1, Option.bind_some, la_farP hB h.1 hk6 hl hp, Option.bind_some, lm_g h.1 0 6, lm_g h.1 3 7, show (1 : Int32) + iv (faS s k p) = iv (1 + faS s k p) by rw [show (1 : Int32) = iv 1 from rfl, iv_add], iv_sub]
  have e3 : (iv (s 8 7) < iv (1 + faS s k p)) ↔ s 8 7 < 1 + faS s k p := iv_lt (by unfold IB; omega) (by unfold IB; omega)
  have e4 : ((3 : Int32) ≤ iv (s 3 p.toNat - lvS (s 3) (s 7) (-1))) ↔ 3 ≤ s 3 p.toNat - lvS (s 3) (s 7) (-1) := iv_le (a := 3) (by decide) (by unfold IB; omega)
  have e5 : (iv (s 3 p.toNat - lvS (s 3) (s 7) (-1)) ≤ iv (-3)) ↔ s 3 p.toNat - lvS (s 3) (s 7) (-1) ≤ -3 := iv_le (by unfold IB; omega) (by decide)
  rw [show iv (-3) = (-3 : Int32) from rfl] at e5
  by_cases c : s 8 6 = 0
  · rw [if_neg (fun e => (stand_1 hk).mp e c)]
    exact no (fun q => q.1 c)
  rw [if_pos ((stand_1 hk).mpr c)]
  by_cases g : s 7 k = -1
  · rw [if_pos ((mo_bit0 hk6).mpr g)]
    by_cases d : s 8 7 < 1 + faS s k p
    · rw [if_pos (e3.mpr d)]
      exact no (fun q => by have := q.2.1; omega)
    rw [if_neg (fun e => d (e3.mp e)), la_nearP hB h.1 hk6 hl hp, Option.bind_some]
    by_cases j : inR s k p = true
    · rw [if_pos j, if_neg (show ¬ (1:Int32) = 0 by decide), la_taken hB h.2.2.1 hp, Option.bind_some]
      by_cases t : tkS (s 7) p (-1) = true
      · rw [if_pos t, if_neg (show ¬ (1:Int32) = 0 by decide)]
        exact no (fun q => by have := q.2.2.2.2.2; rw [t] at this; cases this)
      · rw [if_neg t, if_pos rfl]
        by_cases a : 3 ≤ s 3 p.toNat - lvS (s 3) (s 7) (-1)
        · rw [if_pos (e4.mpr a)]
          exact no (fun q => by have := q.2.2.2.1; omega)
        rw [if_neg (fun e => a (e4.mp e))]
        by_cases b : s 3 p.toNat - lvS (s 3) (s 7) (-1) ≤ -3
        · rw [if_pos (e5.mpr b)]
          exact no (fun q => by have := q.2.2.2.1; omega)
        rw [if_neg (fun e => b (e5.mp e))]
        have hq : plP s k p := ⟨c, by omega, g, by omega, j, Bool.eq_false_iff.mpr t⟩
        have x1 := lx_0 h
        have x2 := lx_u (c := 3) (j := 7) (v := s 8 7 - (1 + faS s k p)) x1 (by decide) (by decide)
        rw [show us (us s 8 11 0) 8 7 (s 8 7 - (1 + faS s k p)) = us (us s 8 7 (s 8 7 - (1 + faS s k p))) 8 11 0 from us_comm (by decide)] at x2
        have k2 : KO (us (us s 8 7 (s 8 7 - (1 + faS s k p))) 8 11 0) := ko_us (ko_us hk (show 0 ≤ s 8 7 - (1 + faS s k p) ∧ s 8 7 - (1 + faS s k p) ≤ 1000 by omega)) (by decide)
        obtain ⟨f1, e1, x3, l3⟩ := la_comes (z := z) x2 k2 hk6 (by rw [us_nk (by decide), us_nk (by decide)]; exact hl) (by rw [us_na (by decide), us_na (by decide)]; exact g) hp
        obtain ⟨f', e, x4, l4⟩ := la_settles (z := z) (s := plS s k p) hn (wb_pl hW hk6 hl hp hq) x3
        refine ⟨f', ?_, fun _ => x4, fun q => absurd hq q, fl_tr (fl_tr (fl_u (by decide)) (fl_tr (fl_u (by decide)) l3)) l4⟩
        unfold g_L_places_b130 lt2
        dsimp only
        rw [if_neg (show ¬ (1:Int32) = 0 by decide), show upf f 74 14 0 74 3 = iv (s 8 7) by rw [upf_g, if_neg (by decide)]; exact lm_g h.1 3 7, iv_sub, e1, bn2_some, e, bn2_some, if_pos hq]
        rfl
    · rw [if_neg j, if_pos rfl]
      exact no (fun q => j q.2.2.2.2.1)
  · rw [if_neg (fun e => g ((mo_bit0 hk6).mp e))]
    exact no (fun q => g q.2.2.1)
theorem upf_2 {b j : Nat} {v w : Int32} : upf (upf f b j v) b j w = upf f b j w := by
  funext a k
  by_cases e : a = b
  · subst e
    rw [upf_g, upf_g, upf_g]
    by_cases c : k = j
    · rw [if_pos c, if_pos c]
    · rw [if_neg c, if_neg c, if_neg c]
  · rw [upf_ne e, upf_ne e, upf_ne e]
theorem upf_c {b j k : Nat} {v w : Int32} (h : j ≠ k) : upf (upf f b j v) b k w = upf (upf f b k w) b j v := by
  funext a i
  by_cases e : a = b
  · subst e
    rw [upf_g, upf_g, upf_g, upf_g]
    by_cases c : i = k
    · rw [if_pos c, if_neg (fun q => h (q.symm.trans c)), if_pos c]
    · rw [if_neg c, if_neg c]
  · rw [upf_ne e, upf_ne e, upf_ne e, upf_ne e]
theorem upf_id {b j : Nat} {v : Int32} (h : v = f b j) : upf f b j v = f := by
  funext a i
  by_cases e : a = b
  · subst e
    rw [upf_g]
    by_cases c : i = j
    · rw [if_pos c, c, h]
    · rw [if_neg c]
  · rw [upf_ne e]
theorem lw_mv (h : LW s f) {x y : Int} : LW (mvS s x y) (upf (upf f 74 1 (iv (s 8 4 + x))) 74 2 (iv (s 8 5 + y))) := lw_u (lw_u h (by decide) (by decide)) (by decide) (by decide)
theorem la_canShift {n : Int} (hW : WF n s) (h : LW s f) {x y : Int} (hx : -1 ≤ x ∧ x ≤ 1) (hy : -1 ≤ y ∧ y ≤ 1) : g_L_canShift (iv x) (iv y) z f = some (if s 8 6 ≠ 0 ∧ mvP s x y then 1 else 0, z, f) := by
  have hk := hW.1.1
  have h8 := ko_8 hk
  have hbd := hW.1.2.1
  have hmv := lw_mv h (x := x) (y := y)
  have kmv : KO (mvS s x y) := ko_mv hk (by omega) (by omega)
  have hBm := ko_bd kmv
  have hG := hW.2.1.2.1
  have o8 : ∀ j, j ≠ 4 → j ≠ 5 → mvS s x y 8 j = s 8 j := fun j h1 h2 => mv_o (fun _ => ⟨h1, h2⟩)
  have o7 : mvS s x y 7 = s 7 := funext fun j => mv_o (fun e => absurd e (by decide))
  have back : upf (upf (upf (upf f 74 1 (iv (s 8 4 + x))) 74 2 (iv (s 8 5 + y))) 74 1 (iv (s 8 4 + x - x))) 74 2 (iv (s 8 5 + y - y)) = f := by
    rw [upf_c (j := 2) (k := 1) (by decide), upf_2, upf_2, show s 8 4 + x - x = s 8 4 by omega, show s 8 5 + y - y = s 8 5 by omega, upf_id (lm_g h.1 1 4).symm, upf_id (lm_g h.1 2 5).symm]
  -- the legs
  have legs : ∀ (n fu k : Nat) (b : Bool), k + n = (s 8 0).toNat → n < fu → ∃ c : Bool, g_L_canShift_l58 fu (iv x) (iv y) (if b then 1 else 0) (iv k) z (upf (upf f 74 1 (iv (s 8 4 + x))) 74 2 (iv (s 8 5 + y))) = some (if c then 1 else 0, z, f) ∧ (c = true ↔ b = true ∧ ∀ j, k ≤ j → j < 6 → s 7 j ≠ -1 → inR (mvS s x y) j (s 7 j) = true) := by
    intro n
    induction n with
    | zero =>
      intro fu k b hkn hf
      obtain ⟨fu, rfl⟩ : ∃ x, fu = x + 1 := ⟨fu - 1, by omega⟩
      refine ⟨b, ?_, fun q => ⟨q, fun j h1 h2 h3 => absurd (hG j h2 (by omega)) h3⟩, fun q => q.1⟩
      rw [g_L_canShift_l58, lm_g hmv.1 7 0, o8 0 (by decide) (by decide), if_pos ((iv_le (by unfold IB; omega) (ibn (by omega))).mpr (by omega))]
      unfold lt2
      dsimp only
      rw [lm_g hmv.1 1 4, mv_4, show upf (upf (upf f 74 1 (iv (s 8 4 + x))) 74 2 (iv (s 8 5 + y))) 74 1 (iv (s 8 4 + x) - iv x) 74 2 = iv (s 8 5 + y) by rw [upf_g, if_neg (by decide), upf_g, if_pos rfl], iv_sub, iv_sub, back, rtZw_b]
    | succ n ih =>
      intro fu k b hkn hf
      obtain ⟨fu, rfl⟩ : ∃ x, fu = x + 1 := ⟨fu - 1, by omega⟩
      have k6 : k < 6 := by omega
      rw [g_L_canShift_l58, lm_g hmv.1 7 0, o8 0 (by decide) (by decide), if_neg (fun e => by have := (iv_le (by unfold IB; omega) (ibn (by omega))).mp e; omega)]
      unfold g_L_canShift_b106 g_L_canShift_b102 g_L_canShift_b107
      rw [iv_1]
      obtain ⟨cT, sT, iT⟩ := ih fu (k + 1) true (by omega) (by omega)
      obtain ⟨cF, sF, iF⟩ := ih fu (k + 1) false (by omega) (by omega)
      have al : (∀ j, k ≤ j → j < 6 → s 7 j ≠ -1 → inR (mvS s x y) j (s 7 j) = true) ↔ (s 7 k ≠ -1 → inR (mvS s x y) k (s 7 k) = true) ∧ ∀ j, k + 1 ≤ j → j < 6 → s 7 j ≠ -1 → inR (mvS s x y) j (s 7 j) = true := by
        constructor
        · intro h
          exact ⟨h k (Nat.le_refl _) k6, fun j h1 => h j (by omega)⟩
        · rintro ⟨h0, h1⟩ j hj
          rcases Nat.lt_or_eq_of_le hj with q | q
          · exact h1 j q
          · subst q; exact fun _ => h0
      have nF : ¬ cF = true := fun q => by cases (iF.mp q).1
      cases b with
      | false =>
        rw [if_pos (show (if false = true then (1 : Int32) else 0) = 0 from rfl)]
        exact ⟨cF, sF, fun q => absurd q nF, fun q => by cases q.1⟩
      | true =>
        rw [if_neg (show ¬ (if true = true then (1 : Int32) else 0) = 0 by decide), hmv.2.1, show mk (dnS (mvS s x y)) = mk (dnS s) from mk_cg fun j _ => by unfold dnS; rw [o7]]
        by_cases c : s 7 k = -1
        · rw [if_pos ((mo_bit0 k6).mpr c)]
          refine ⟨cT, sT, iT.trans ?_⟩
          rw [al]
          exact ⟨fun q => ⟨rfl, fun w => absurd c w, q.2⟩, fun q => ⟨rfl, q.2.2⟩⟩
        · have hn : nB (s 7 k) := ((ko_bd hk).2.2.2 k k6).resolve_left c
          obtain ⟨f1, f2⟩ := hmv.2.2.1 k k6 (by rw [o7]; exact c)
          rw [o7] at f1 f2
          rw [if_neg (fun e => c ((mo_bit0 k6).mp e)), ix_iv k6 (by decide), Option.bind_some, Option.bind_some, f1, f2, la_nearP hBm hmv.1 k6 (by rw [o8 0 (by decide) (by decide)]; omega) hn, Option.bind_some]
          by_cases d : inR (mvS s x y) k (s 7 k) = true
          · rw [if_pos d, if_neg (show ¬ (1:Int32) = 0 by decide)]
            refine ⟨cT, sT, iT.trans ?_⟩
            rw [al]
            exact ⟨fun q => ⟨rfl, fun _ => d, q.2⟩, fun q => ⟨rfl, q.2.2⟩⟩
          · rw [if_neg d, if_pos rfl]
            exact ⟨cF, sF, fun q => absurd q nF, fun q => absurd ((al.mp q.2).1 c) d⟩
  have fin : ∀ (b : Bool), (b = true ↔ s 8 6 ≠ 0 ∧ paS (s 8 4 + x) (s 8 5 + y) ≠ -1 ∧ stB (mvS s x y) (-1) = true) → g_L_canShift_b53 (iv x) (iv y) (if b then 1 else 0) z (upf (upf f 74 1 (iv (s 8 4 + x))) 74 2 (iv (s 8 5 + y))) = some (if s 8 6 ≠ 0 ∧ mvP s x y then 1 else 0, z, f) := fun b hb => by
    unfold g_L_canShift_b53
    obtain ⟨c, e, i⟩ := legs (s 8 0).toNat FU 0 b (by omega) (by show _ < 2000; omega)
    refine Eq.trans e ?_
    have e : c = true ↔ s 8 6 ≠ 0 ∧ mvP s x y := by
      rw [i, hb]
      exact ⟨fun q => ⟨q.1.1, q.1.2.1, fun j hj => q.2 j (Nat.zero_le _) hj, q.1.2.2⟩, fun q => ⟨⟨q.1, q.2.1, q.2.2.2⟩, fun j _ hj => q.2.2.1 j hj⟩⟩
    by_cases q : s 8 6 ≠ 0 ∧ mvP s x y
    · rw [if_pos q, if_pos (e.mpr q)]
    · rw [if_neg q, if_neg (fun w => q (e.mp w))]
  have finF := fun hb => fin false (Iff.intro (fun e => by cases e) hb)
  unfold g_L_canShift g_L_canShift_b52 lt2
  dsimp only
  rw [lm_g h.1 1 4, iv_add, show upf f 74 1 (iv (s 8 4 + x)) 74 2 = iv (s 8 5) by rw [upf_g, if_neg (by decide)]; exact lm_g h.1 2 5, iv_add, lm_g hmv.1 0 6, o8 6 (by decide) (by decide)]
  by_cases c : s 8 6 = 0
  · rw [if_neg (fun e => (stand_1 hk).mp e c)]
    exact finF (fun q => absurd c q.1)
  rw [if_pos ((stand_1 hk).mpr c), lm_g hmv.1 1 4, mv_4, lm_g hmv.1 2 5, mv_5, la_in (by unfold IB; omega) (by unfold IB; omega), Option.bind_some]
  have ep : ((0 ≤ s 8 4 + x ∧ s 8 4 + x < 20) ∧ 0 ≤ s 8 5 + y ∧ s 8 5 + y < 20) ↔ paS (s 8 4 + x) (s 8 5 + y) ≠ -1 := by
    rcases paS_cs (s 8 4 + x) (s 8 5 + y) with ⟨h1, h2⟩ | ⟨h1, -, h3⟩
    · exact ⟨fun q => absurd q h2, fun q => absurd h1 q⟩
    · refine ⟨fun _ => ?_, fun _ => h3⟩
      unfold nB at h1
      omega
  by_cases d : (0 ≤ s 8 4 + x ∧ s 8 4 + x < 20) ∧ 0 ≤ s 8 5 + y ∧ s 8 5 + y < 20
  · rw [if_pos d, if_neg (show ¬ (1:Int32) = 0 by decide), hmv.2.1, la_holds hBm hmv.1 hmv.2.2.1, Option.bind_some]
    by_cases g : stB (mvS s x y) (-1) = true
    · rw [if_pos g, if_neg (show ¬ (1:Int32) = 0 by decide)]
      exact fin true ⟨fun _ => ⟨c, ep.mp d, g⟩, fun _ => rfl⟩
    · rw [if_neg g, if_pos rfl]
      exact finF (fun q => absurd q.2.2 g)
  · rw [if_neg d, if_pos rfl]
    exact finF (fun q => absurd (ep.mpr q.2.1) d)
theorem la_shifts {n : Int} (hn : n < 1000000) (hW : WF n s) (h : LW s f) {x y : Int} (hx : -1 ≤ x ∧ x ≤ 1) (hy : -1 ≤ y ∧ y ≤ 1) : ∃ f', g_L_shifts (iv x) (iv y) z f = some (if shP s x y then 1 else 0, z, f') ∧ (shP s x y → LX (stlS (shS s x y)) f') ∧ (¬ shP s x y → LW s f' ∧ f' 74 14 = 0) ∧ Fl f f' := by
  have hk := hW.1.1
  have h8 := ko_8 hk
  have hB := ko_bd hk
  have bc := shC_bd hB
  have ec : (1 : Int32) + (iv (s 8 1) + 9) / 10 = iv (shC s) := by
    unfold shC wS
    rw [show (9 : Int32) = iv 9 from rfl, show (10 : Int32) = iv 10 from rfl, show (1 : Int32) = iv 1 from rfl, iv_add, iv_div (by omega) (by omega) (by omega) (by omega), iv_add]
    congr 1
    omega
  have no : ¬ shP s x y → ∃ f', g_L_shifts_b44 (iv x) (iv y) (iv (shC s)) 0 z f = some (if shP s x y then 1 else 0, z, f') ∧ (shP s x y → LX (stlS (shS s x y)) f') ∧ (¬ shP s x y → LW s f' ∧ f' 74 14 = 0) ∧ Fl f f' := fun hq => by
    refine ⟨upf f 74 14 0, ?_, fun q => absurd q hq, fun _ => ⟨lwz_14 h, by rw [upf_g, if_pos rfl]⟩, fl_u (by decide)⟩
    unfold g_L_shifts_b44 lt2
    dsimp only
    rw [if_pos rfl, if_neg hq]
    rfl
  unfold g_L_shifts g_L_shifts_b43
  rw [lm_g h.1 4 1, ec, la_canShift hW h hx hy, bn3_some, lm_g h.1 3 7]
  have e3 : (iv (s 8 7) < iv (shC s)) ↔ s 8 7 < shC s := iv_lt (by unfold IB; omega) (by unfold IB; omega)
  by_cases c : s 8 6 ≠ 0 ∧ mvP s x y
  · rw [if_pos c, if_neg (show ¬ (1:Int32) = 0 by decide)]
    by_cases d : s 8 7 < shC s
    · rw [if_pos (e3.mpr d)]
      exact no (fun q => by have := q.2.1; omega)
    rw [if_neg (fun e => d (e3.mp e))]
    have hq : shP s x y := ⟨c.1, by omega, c.2⟩
    have x1 := lx_0 h
    have x2 := lx_u (c := 3) (j := 7) (v := s 8 7 - shC s) x1 (by decide) (by decide)
    have x3 := lx_u (c := 1) (j := 4) (v := s 8 4 + x) x2 (by decide) (by decide)
    have x4 := lx_u (c := 2) (j := 5) (v := s 8 5 + y) x3 (by decide) (by decide)
    have es : us (us (us (us s 8 11 0) 8 7 (s 8 7 - shC s)) 8 4 (s 8 4 + x)) 8 5 (s 8 5 + y) = shS s x y := by
      unfold shS mvS
      rw [us_comm (a := 8) (k := 11) (by decide), us_comm (a := 8) (k := 11) (by decide), us_comm (a := 8) (k := 11) (by decide), us_comm (a := 8) (k := 7) (by decide), us_comm (a := 8) (k := 7) (by decide)]
    rw [es] at x4
    obtain ⟨f', e, x5, l5⟩ := la_settles (z := z) hn (wb_sh hW hq) x4
    refine ⟨f', ?_, fun _ => x5, fun q => absurd hq q, fl_tr (fl_tr (fl_tr (fl_u (by decide)) (fl_u (by decide))) (fl_tr (fl_u (by decide)) (fl_u (by decide)))) l5⟩
    unfold g_L_shifts_b44 lt2
    dsimp only
    rw [if_neg (show ¬ (1:Int32) = 0 by decide)]
    rw [show upf f 74 14 0 74 3 = iv (s 8 7) by rw [upf_g, if_neg (by decide)]; exact lm_g h.1 3 7, iv_sub, show upf (upf f 74 14 0) 74 3 (iv (s 8 7 - shC s)) 74 1 = iv (s 8 4) by rw [upf_g, if_neg (by decide), upf_g, if_neg (by decide)]; exact lm_g h.1 1 4, iv_add, show upf (upf (upf f 74 14 0) 74 3 (iv (s 8 7 - shC s))) 74 1 (iv (s 8 4 + x)) 74 2 = iv (s 8 5) by rw [upf_g, if_neg (by decide), upf_g, if_neg (by decide), upf_g, if_neg (by decide)]; exact lm_g h.1 2 5, iv_add, e, bn2_some, if_pos hq]
    rfl
  · rw [if_neg c, if_pos rfl]
    exact no (fun q => c ⟨q.1, q.2.2⟩)
end
