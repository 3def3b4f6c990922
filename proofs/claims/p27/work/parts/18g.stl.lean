/-! behind an act: the law -/
section
variable {s : MSt} {z f : Nat → Nat → Int32}
/-- a height, told or mapped -/
theorem lw_h {f' : Nat → Nat → Int32} (h : LW s f) {a p P : Nat} {v : Int} (hp : p < 400) (ha : (a = 0 ∧ P = p) ∨ (a = 3 ∧ P = 400 + p)) (h4' : ∀ q, h4 f' 66 q = if q = P then v else h4 f 66 q) (hb : ∀ b, b ≠ 66 → f' b = f b) : LW (us s a p v) f' := by
  obtain ⟨⟨⟨a1, a2, a3, a4⟩, l, g⟩, m, x, m1, m2, m3⟩ := h
  have n : ∀ b, b ≠ 0 → b ≠ 3 → us s a p v b = s b := fun b h0 h3 => funext fun k => us_na (by rcases ha with ⟨rfl, -⟩ | ⟨rfl, -⟩ <;> assumption)
  refine ⟨⟨⟨fun q hq => ?_, fun q hq => ?_, fun q hq => ?_, fun q hq => ?_⟩, fun k hk hl => ?_, fun q hq => ?_⟩, ?_, fun k hk hd => ?_, fun h9 => ?_, fun k hk hl => ?_, fun k hk hl => ?_⟩
  · rw [h4']
    rcases ha with ⟨rfl, rfl⟩ | ⟨rfl, rfl⟩
    · by_cases c : q = P
      · rw [if_pos c, c, us_at]
      · rw [if_neg c, us_nk c]; exact a1 q hq
    · rw [if_neg (by omega), us_na (by decide)]; exact a1 q hq
  · rw [h4']
    rcases ha with ⟨rfl, rfl⟩ | ⟨rfl, rfl⟩
    · rw [if_neg (by omega), us_na (by decide)]; exact a2 q hq
    · by_cases c : q = p
      · rw [if_pos (by omega), c, us_at]
      · rw [if_neg (by omega), us_nk c]; exact a2 q hq
  · rw [h4_cg (hb 67 (by decide)), n 2 (by decide) (by decide)]; exact a3 q hq
  · rw [h8_cg (hb 68 (by decide)), n 1 (by decide) (by decide)]; exact a4 q hq
  · rw [n 8 (by decide) (by decide)] at hl
    rw [hb 69 (by decide), l k hk hl]
    unfold legV
    rw [n 4 (by decide) (by decide), n 5 (by decide) (by decide), n 6 (by decide) (by decide)]
  · rw [hb 74 (by decide), n 8 (by decide) (by decide)]; exact g q hq
  · rw [hb 74 (by decide), m]
    refine mk_cg fun k _ => ?_
    unfold dnS
    rw [n 7 (by decide) (by decide)]
  · rw [n 7 (by decide) (by decide)] at hd ⊢
    rw [hb 70 (by decide), hb 71 (by decide)]
    exact x k hk hd
  · rw [n 8 (by decide) (by decide)] at h9 ⊢
    rw [hb 74 (by decide)]
    exact m1 h9
  · rw [n 8 (by decide) (by decide)] at hl
    rw [hb 73 (by decide), m2 k hk hl]
    unfold falV
    rw [n 9 (by decide) (by decide), n 10 (by decide) (by decide), n 11 (by decide) (by decide)]
  · rw [n 8 (by decide) (by decide)] at hl
    rw [hb 72 (by decide), m3 k hk hl]
    unfold phaV
    rw [n 12 (by decide) (by decide), n 13 (by decide) (by decide), n 14 (by decide) (by decide), n 15 (by decide) (by decide), n 16 (by decide) (by decide)]
theorem lx_h {f' : Nat → Nat → Int32} (h : LX s f) {a p P : Nat} {v : Int} (hp : p < 400) (ha : (a = 0 ∧ P = p) ∨ (a = 3 ∧ P = 400 + p)) (h4' : ∀ q, h4 f' 66 q = if q = P then v else h4 f 66 q) (hb : ∀ b, b ≠ 66 → f' b = f b) : LX (us s a p v) f' := by
  refine ⟨lw_h h.1 hp ha h4' hb, ?_⟩
  rw [hb 74 (by decide), us_na (by rcases ha with ⟨rfl, -⟩ | ⟨rfl, -⟩ <;> decide)]
  exact h.2
theorem fl_66 {f' : Nat → Nat → Int32} (hb : ∀ b, b ≠ 66 → f' b = f b) : Fl f f' := fun a ha => hb a (by omega)
/-- the height and the mapped one become the same -/
theorem la_learn (h : LX s f) (hk : KO s) {p : Int} (hp : nB p) : ∃ f', g_L_sets 50 66 (iv ((400 + p.toNat : Nat) : Int)) (iv (s 0 p.toNat)) f = some f' ∧ LX (learnS s p) f' ∧ Fl f f' := by
  have b0 : 0 ≤ s 0 p.toNat ∧ s 0 p.toNat ≤ 9 := hk 0 p.toNat
  have hp' := (nB_nat hp).2
  obtain ⟨f', e, h1, h2⟩ := la_sets (f := f) (n := 50) (a := 66) (p := 400 + p.toNat) (by decide) (by omega) (v := s 0 p.toNat) (by omega)
  exact ⟨f', e, lx_h h hp' (Or.inr ⟨rfl, rfl⟩) h1 h2, fl_66 h2⟩
/-- the ground gives way under a foot -/
theorem la_sag (h : LX s f) (hk : KO s) {p : Int} (hp : nB p) : ∃ f1 f2, g_L_sets 50 66 (iv (p.toNat : Nat)) (iv (max 0 (s 0 p.toNat - 1))) f = some f1 ∧ g_L_sets 50 66 (400 + iv (p.toNat : Nat)) (iv (max 0 (s 0 p.toNat - 1))) f1 = some f2 ∧ LX (sagS s p) f2 ∧ Fl f f2 := by
  have b0 : 0 ≤ s 0 p.toNat ∧ s 0 p.toNat ≤ 9 := hk 0 p.toNat
  have hp' := (nB_nat hp).2
  obtain ⟨f1, e1, h1, h2⟩ := la_sets (f := f) (n := 50) (a := 66) (p := p.toNat) (by decide) (by omega) (v := max 0 (s 0 p.toNat - 1)) (by omega)
  have x1 := lx_h h hp' (Or.inl ⟨rfl, rfl⟩) h1 h2
  obtain ⟨f2, e2, h3, h4⟩ := la_sets (f := f1) (n := 50) (a := 66) (p := 400 + p.toNat) (by decide) (by omega) (v := max 0 (s 0 p.toNat - 1)) (by omega)
  have x2 := lx_h x1 hp' (Or.inr ⟨rfl, rfl⟩) h3 h4
  refine ⟨f1, f2, e1, ?_, ?_, fl_tr (fl_66 h2) (fl_66 h4)⟩
  · rw [show (400 : Int32) = iv 400 from rfl, iv_add]
    exact e2
  · unfold sagS learnS
    rw [us_at]
    exact x2
theorem mk6_le0 : ∀ a b c d e g : Bool, mk6 a b c d e g ≤ 0 ↔ mk6 a b c d e g = 0 := by decide +kernel
theorem mk_le0 {σ : Nat → Bool} : mk σ ≤ 0 ↔ mk σ = 0 := mk6_le0 _ _ _ _ _ _
/-- the feet of a set are up -/
theorem lx_ra (h : LX s f) {σ : Nat → Bool} (hσ : ∀ k, k < 6 → σ k = true → s 7 k ≠ -1) : LX (ur s 7 (raS (s 7) σ)) (upf f 74 8 (f 74 8 - mk σ)) := by
  have n : ∀ b, b ≠ 7 → ur s 7 (raS (s 7) σ) b = s b := fun b hb => ur_na hb
  obtain ⟨⟨⟨⟨a1, a2, a3, a4⟩, l, g⟩, m, x, m1, m2, m3⟩, h14⟩ := h
  have hf : ∀ a, a ≠ 74 → upf f 74 8 (f 74 8 - mk σ) a = f a := fun a ha => upf_ne ha
  refine ⟨⟨⟨⟨fun q hq => ?_, fun q hq => ?_, fun q hq => ?_, fun q hq => ?_⟩, fun k hk hl => ?_, fun q hq => ?_⟩, ?_, fun k hk hd => ?_, fun h9 => ?_, fun k hk hl => ?_, fun k hk hl => ?_⟩, ?_⟩
  · rw [h4_cg (hf 66 (by decide)), n 0 (by decide)]; exact a1 q hq
  · rw [h4_cg (hf 66 (by decide)), n 3 (by decide)]; exact a2 q hq
  · rw [h4_cg (hf 67 (by decide)), n 2 (by decide)]; exact a3 q hq
  · rw [h8_cg (hf 68 (by decide)), n 1 (by decide)]; exact a4 q hq
  · rw [n 8 (by decide)] at hl
    rw [hf 69 (by decide), l k hk hl]
    unfold legV
    rw [n 4 (by decide), n 5 (by decide), n 6 (by decide)]
  · have := scalL_inj q hq q hq
    rw [upf_g, if_neg this.2.2.1, n 8 (by decide)]; exact g q hq
  · rw [upf_g, if_pos rfl, m, mk_dif (fun k hk e => by unfold dnS; exact decide_eq_true (hσ k hk e))]
    refine mk_cg fun k hk => ?_
    unfold dnS
    rw [ur_at]
    unfold raS
    cases σ k <;> simp
  · rw [ur_at] at hd ⊢
    rw [hf 70 (by decide), hf 71 (by decide)]
    unfold raS at hd ⊢
    by_cases c : σ k = true
    · rw [if_pos c] at hd; exact absurd rfl hd
    · rw [if_neg c] at hd ⊢; exact x k hk hd
  · rw [n 8 (by decide)] at h9 ⊢
    rw [upf_g, if_neg (by decide)]; exact m1 h9
  · rw [n 8 (by decide)] at hl
    rw [hf 73 (by decide), m2 k hk hl]
    unfold falV
    rw [n 9 (by decide), n 10 (by decide), n 11 (by decide)]
  · rw [n 8 (by decide)] at hl
    rw [hf 72 (by decide), m3 k hk hl]
    unfold phaV
    rw [n 12 (by decide), n 13 (by decide), n 14 (by decide), n 15 (by decide), n 16 (by decide)]
  · rw [upf_g, if_neg (by decide), n 8 (by decide)]; exact h14
/-- the feet that sink, one by one -/
theorem la_l35 {k27 : Int32 → (Nat → Nat → Int32) → (Nat → Nat → Int32) → Option ((Nat → Nat → Int32) × (Nat → Nat → Int32))} {σ : Nat → Bool} (hσ : ∀ k, k < 6 → σ k = true → s 7 k ≠ -1) : ∀ (n fu i : Nat) (t : MSt) (f : Nat → Nat → Int32), i + n = 6 → n < fu → LX t f → KO t → (∀ k, t 7 k = s 7 k) → ∃ f', g_L_settles_l35 k27 fu (mk σ) (iv i) z f = (g_L_sinking (upf f' 74 8 (f' 74 8 - mk σ) 74 8) z (upf f' 74 8 (f' 74 8 - mk σ))).bind (fun x => k27 x z (upf f' 74 8 (f' 74 8 - mk σ))) ∧ LX (brS σ n i t) f' ∧ Fl f f' := by
  intro n
  induction n with
  | zero =>
    intro fu i t f hi hf h hk h7
    obtain ⟨fu, rfl⟩ : ∃ x, fu = x + 1 := ⟨fu - 1, by omega⟩
    obtain rfl : i = 6 := by omega
    rw [g_L_settles_l35, if_pos y6]
    exact ⟨f, rfl, h, fl_rf⟩
  | succ n ih =>
    intro fu i t f hi hf h hk h7
    obtain ⟨fu, rfl⟩ : ∃ x, fu = x + 1 := ⟨fu - 1, by omega⟩
    have h6 : i < 6 := by omega
    rw [g_L_settles_l35, if_neg (n6 h6), mk_get i h6]
    unfold g_L_settles_b88 g_L_settles_b118 brS
    rw [iv_1]
    by_cases c : σ i = true
    · have hd : t 7 i ≠ -1 := by rw [h7]; exact hσ i h6 c
      have hB := ko_bd hk
      have hn : nB (t 7 i) := (hB.2.2.2 i h6).resolve_left hd
      have b0 : 0 ≤ t 0 (t 7 i).toNat ∧ t 0 (t 7 i).toNat ≤ 9 := hk 0 _
      have bp : -1 ≤ t 7 i ∧ t 7 i ≤ 399 := hk 7 i
      obtain ⟨f1, f2⟩ := h.1.2.2.1 i h6 hd
      obtain ⟨u1, u2, e1, e2, x2, l2⟩ := la_sag h hk hn
      have k2 : KO (sagS t (t 7 i)) := ko_sag hk
      obtain ⟨u3, e3, x3, l3⟩ := la_breaks (z := z) x2 k2 (what := 2) (p := t 7 i)
      have e2' : (iv (t 7 i) : Int32) = iv ((t 7 i).toNat : Nat) := by rw [← (nB_nat hn).1]
      rw [e2'] at e3
      obtain ⟨f', g1, g2, g3⟩ := ih fu (i + 1) _ u3 (by omega) (by omega) x3 (ko_tell k2 (by decide) bp) (fun k => by rw [tellS_map (by decide), sagS_f (by decide) (by decide)]; exact h7 k)
      rw [if_pos c, if_pos c, if_pos rfl, ix_iv h6 (by decide), Option.bind_some, Option.bind_some, f1, f2, la_at hn, la_four (by decide) (by have := (nB_nat hn).2; omega), Option.bind_some, h.1.1.1.1 _ (nB_nat hn).2]
      refine ⟨f', ?_, g2, fl_tr l2 (fl_tr l3 g3)⟩
      have key : ∀ {v : Int}, v = max 0 (t 0 (t 7 i).toNat - 1) → ((g_L_sets 50 66 (iv ((t 7 i).toNat : Nat)) (iv v) f).bind fun u1 => (g_L_sets 50 66 (400 + iv ((t 7 i).toNat : Nat)) (iv v) u1).bind fun u2 => bn2 (g_L_breaks 2 (iv ((t 7 i).toNat : Nat)) z u2) fun z3 u4 => g_L_settles_l35 k27 fu (mk σ) (iv ((i + 1 : Nat) : Int)) z3 u4) = g_L_settles_l35 k27 fu (mk σ) (iv ((i + 1 : Nat) : Int)) z u3 := fun {v} hv => by
        rw [hv, e1, Option.bind_some, e2, Option.bind_some, show (2 : Int32) = iv 2 from rfl, e3, bn2_some]
      have ez := z_iv (show IB (t 0 (t 7 i).toNat) by unfold IB; omega)
      by_cases d : t 0 (t 7 i).toNat = 0
      · rw [if_pos (ez.mpr d)]
        exact (key (v := 0) (by omega)).trans g1
      · rw [if_neg (fun e => d (ez.mp e)), Option.bind_some, show (1 : Int32) = iv 1 from rfl, iv_sub]
        exact (key (v := t 0 (t 7 i).toNat - 1) (by omega)).trans g1
    · obtain ⟨f', g1, g2, g3⟩ := ih fu (i + 1) t f (by omega) (by omega) h hk h7
      rw [if_neg c, if_neg c, if_neg (by decide)]
      exact ⟨f', g1, g2, g3⟩
end
