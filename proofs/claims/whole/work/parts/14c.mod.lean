section
variable {s : MSt} {z f : Nat → Nat → Int32}
theorem learn_tell {w p q : Int} : learnS (tellS s w p) q = tellS (learnS s q) w p := by
  funext a k
  have l8 : ∀ {s : MSt} {j : Nat}, learnS s q 8 j = s 8 j := us_na (by decide)
  by_cases e : a = 8
  · subst e
    rw [l8]
    by_cases e8 : k = 8
    · subst e8; rw [tellS_8, tellS_8, l8]
    · by_cases e9 : k = 9
      · subst e9; rw [tellS_9, tellS_9, l8, l8]
      · by_cases e10 : k = 10
        · subst e10; rw [tellS_10, tellS_10, l8, l8]
        · by_cases e11 : k = 11
          · subst e11; rw [tellS_11, tellS_11, l8]
          · rw [tellS_o ⟨e8, e9, e10, e11⟩, tellS_o ⟨e8, e9, e10, e11⟩, l8]
  · rw [tellS_map e]
    by_cases e3 : a = 3
    · subst e3
      unfold learnS
      by_cases ek : k = q.toNat
      · subst ek; rw [us_at, us_at, tellS_map (by decide)]
      · rw [us_nk ek, us_nk ek, tellS_map (by decide)]
    · unfold learnS
      rw [us_na e3, us_na e3, tellS_map e]
theorem slN_cg {s' : MSt} (h : ∀ k, s' 0 k = s 0 k) {p : Int} : ∀ n i l r, slN s' p n i l r = slN s p n i l r
  | 0, _, _, _ => rfl
  | n + 1, i, l, r => by
    unfold slN
    rw [h, slN_cg h n, slN_cg h n]
theorem slS_cg {s' : MSt} (h : ∀ k, s' 0 k = s 0 k) (h2 : ∀ k, s' 2 k = s 2 k) {p : Int} : slS s' p = slS s p := by
  unfold slS
  rw [h, h2, slN_cg h]
theorem ix_p {p : Int} (hp : nB p) : ixA 400 (iv p) = some p.toNat := by
  have := ix_iv (n := 400) (nB_nat hp).2 (by decide)
  rw [← (nB_nat hp).1] at this
  exact this
theorem tk_but {ft : Nat → Int} {p : Int} {k : Nat} (h : ft k ≠ p) : tkS ft p k = tkS ft p (-1) := by
  rw [Bool.eq_iff_iff, tkN_iff, tkN_iff]
  constructor
  · rintro ⟨j, a, b, c, d⟩
    exact ⟨j, a, b, by omega, d⟩
  · rintro ⟨j, a, b, c, d⟩
    refine ⟨j, a, b, fun e => ?_, d⟩
    have : j = k := by omega
    subst this
    exact h d
theorem mo_sets (hk : KO s) (hG : LG s) (h : MS s z f) {k : Nat} (hk6 : k < 6) (hup : s 7 k = -1) {p : Int} (hp : nB p) : ∃ z' f', g_X11_sets (iv k) (iv (pt p).1) (iv (pt p).2) z f = some (z', f') ∧ MS (setS s k p) z' f' ∧ Fc z f z' f' := by
  have pb : -1 ≤ p ∧ p ≤ 399 := by unfold nB at hp; omega
  have b0 : 0 ≤ s 0 p.toNat ∧ s 0 p.toNat ≤ 9 := hk 0 p.toNat
  have b3 : 0 ≤ s 3 p.toNat ∧ s 3 p.toNat ≤ 9 := hk 3 p.toNat
  have hB := ko_bd hk
  have k1 : KO (learnS s p) := ko_learn hk
  have hsl : slS (learnS s p) p = slS s p := slS_cg (fun k => us_na (by decide)) (fun k => us_na (by decide))
  have m1 : MS (learnS s p) z (upf f 70 p.toNat (iv (s 0 p.toNat))) := ms_arr h (b := 70) (a := 3) (n := 400) (by decide)
  have c1 : Fc z f z (upf f 70 p.toNat (iv (s 0 p.toNat))) := fc_f (by decide)
  unfold g_X11_sets lt2 g_X11_sets_b64
  dsimp only
  rw [mo_at hp, Option.bind_some, ix_iv (nB_nat hp).2 (by decide), Option.bind_some, Option.bind_some, ix_iv (nB_nat hp).2 (by decide), Option.bind_some, mo_slips hB h.1 hp, Option.bind_some, Option.bind_some, Option.bind_some, ix_iv (nB_nat hp).2 (by decide), Option.bind_some, Option.bind_some, ma h.1 67 0 400 (by decide) _ (nB_nat hp).2, ma h.1 70 3 400 (by decide) _ (nB_nat hp).2, iv_sub]
  have e1 : ((2 : Int32) ≤ iv (s 0 p.toNat - s 3 p.toNat)) ↔ 2 ≤ s 0 p.toNat - s 3 p.toNat := iv_le (a := 2) (by decide) (by omega)
  have e2 : (iv (-2) < iv (s 0 p.toNat - s 3 p.toNat)) ↔ -2 < s 0 p.toNat - s 3 p.toNat := iv_lt (by decide) (by omega)
  rw [show iv (-2) = (-2 : Int32) from rfl] at e2
  have stum : 2 ≤ (s 0 p.toNat - s 3 p.toNat).natAbs → ∃ z' f', (bn2 (g_X11_breaks 1 (iv (pt p).1) (iv (pt p).2) z (upf f 70 p.toNat (iv (s 0 p.toNat)))) fun z1 u2 => some (z1, u2)) = some (z', f') ∧ MS (setS s k p) z' f' ∧ Fc z f z' f' := fun hs => by
    obtain ⟨z', e, m, c⟩ := mo_breaks m1 k1 (w := 1) (p := p)
    have es : setS s k p = tellS (learnS s p) 1 p := if_pos hs
    rw [es, show (1 : Int32) = iv 1 from rfl, e, bn2_some]
    exact ⟨z', _, rfl, m, fc_tr c1 c⟩
  by_cases c : 2 ≤ s 0 p.toNat - s 3 p.toNat
  · rw [if_pos (e1.mpr c)]
    exact stum (by omega)
  rw [if_neg (fun q => c (e1.mp q))]
  by_cases d : -2 < s 0 p.toNat - s 3 p.toNat
  · rw [if_pos (e2.mpr d)]
    unfold setS
    rw [if_neg (show ¬ 2 ≤ (s 0 p.toNat - s 3 p.toNat).natAbs by omega), hsl]
    rcases slS_cs (s := s) (p := p) with g | g
    · rw [if_pos (show iv (slS s p) = (-1 : Int32) by rw [g]; rfl), if_pos g]
      obtain ⟨z2, f2, e, m, c2⟩ := mo_down2 m1 hk6 hp
      rw [e, bn2_some]
      exact ⟨z2, f2, rfl, m, fc_tr c1 c2⟩
    · have g1 : slS s p ≠ -1 := by unfold nB at g; omega
      have ibq : IB (slS s p) := by unfold nB at g; omega
      obtain ⟨z2, e, m2, c2⟩ := mo_breaks m1 k1 (w := 3) (p := p)
      have k2 : KO (tellS (learnS s p) 3 p) := ko_tell k1 (by decide) pb
      have m3 := ms_arr m2 (b := 70) (a := 3) (n := 400) (k := (slS s p).toNat) (v := tellS (learnS s p) 3 p 0 (slS s p).toNat) (by decide)
      rw [show us (tellS (learnS s p) 3 p) 3 (slS s p).toNat (tellS (learnS s p) 3 p 0 (slS s p).toNat) = tellS (learnS (learnS s p) (slS s p)) 3 p from learn_tell] at m3
      have k3 : KO (tellS (learnS (learnS s p) (slS s p)) 3 p) := ko_tell (ko_learn k1) (by decide) pb
      have o7 : ∀ j, tellS (learnS (learnS s p) (slS s p)) 3 p 7 j = s 7 j := fun j => by
        rw [tellS_map (by decide)]
        exact (us_na (by decide)).trans (us_na (by decide))
      have hG3 : LG (tellS (learnS (learnS s p) (slS s p)) 3 p) := fun j hj hl => by
        rw [o7]
        refine hG j hj ?_
        rw [tellS_o (by decide)] at hl
        exact hl
      rw [if_neg (fun q => g1 ((m1_iv ibq).mp q)), if_neg g1, show (3 : Int32) = iv 3 from rfl, e, bn2_some, ix_p g, Option.bind_some, Option.bind_some, ma m2.1 67 0 400 (by decide) _ (nB_nat g).2, iv_x g, iv_y g, mo_reach (ko_bd k3) m3.1 hk6 g, Option.bind_some]
      have C : Fc z f z2 (upf (upf f 70 p.toNat (iv (s 0 p.toNat))) 70 (slS s p).toNat (iv (tellS (learnS s p) 3 p 0 (slS s p).toNat))) := fc_tr c1 (fc_tr c2 (fc_f (by decide)))
      by_cases g2 : inR (tellS (learnS (learnS s p) (slS s p)) 3 p) k (slS s p) = true
      · obtain ⟨r, r1, r2, -, r3⟩ := mo_taken k3 hG3 m3.1 m3.2.1 m3.2.2.1 g (F := fun x19 => if x19 = ((-1)) then bn2 (g_X11_comesDown (iv k) (iv (pt (slS s p)).1) (iv (pt (slS s p)).2) z2 (upf (upf f 70 p.toNat (iv (s 0 p.toNat))) 70 (slS s p).toNat (iv (tellS (learnS s p) 3 p 0 (slS s p).toNat)))) fun z20 u21 => some (z20, u21) else some (z2, (upf (upf f 70 p.toNat (iv (s 0 p.toNat))) 70 (slS s p).toNat (iv (tellS (learnS s p) 3 p 0 (slS s p).toNat)))))
        have tb : tkS (tellS (learnS (learnS s p) (slS s p)) 3 p 7) (slS s p) k = tkS (tellS (learnS (learnS s p) (slS s p)) 3 p 7) (slS s p) (-1) := tk_but (by rw [o7, hup]; exact fun e => g1 e.symm)
        rw [if_pos g2, if_neg (by decide), r3]
        by_cases g3 : r = -1
        · have t0 := r2.mp g3
          obtain ⟨z5, f5, e5, m5, c5⟩ := mo_down2 m3 hk6 g
          rw [if_pos (show iv r = (-1 : Int32) by rw [g3]; rfl), if_pos ⟨g2, by rw [tb]; exact t0⟩, e5, bn2_some]
          exact ⟨z5, f5, rfl, m5, fc_tr C c5⟩
        · rw [if_neg (fun q => g3 ((m1_iv (by omega)).mp q)), if_neg (fun q => g3 (r2.mpr (by rw [← tb]; exact q.2)))]
          exact ⟨z2, _, rfl, m3, C⟩
      · rw [if_neg g2, if_pos rfl, if_neg (fun q => g2 q.1)]
        exact ⟨z2, _, rfl, m3, C⟩
  · rw [if_neg (fun q => d (e2.mp q))]
    exact stum (by omega)
/-! sinking -/
theorem mo_sinking (hB : BD s) (hL : LM s z f) (hF : FX s f) : g_X11_sinking (mk (dnS s)) z f = some (mk (skS s)) := by
  have pb := prS_bd (bd_m hB).2.2 (cnS_le (ft := s 7))
  have key : ∀ (n fu i : Nat), i + n = 6 → n < fu → g_X11_sinking_l4 fu (mk (dnS s)) (mk (fun k => decide (k < i) && skS s k)) (iv i) z f = some (mk (skS s)) := by
    intro n
    induction n with
    | zero =>
      intro fu i hi hf
      obtain ⟨fu, rfl⟩ : ∃ x, fu = x + 1 := ⟨fu - 1, by omega⟩
      obtain rfl : i = 6 := by omega
      rw [g_X11_sinking_l4, if_pos y6]
      exact congrArg some (mk_cg fun k hk => by simp [hk])
    | succ n ih =>
      intro fu i hi hf
      obtain ⟨fu, rfl⟩ : ∃ x, fu = x + 1 := ⟨fu - 1, by omega⟩
      have h6 : i < 6 := by omega
      have step := ih fu (i + 1) (by omega) (by omega)
      have eF : skS s i = false → mk (fun k => decide (k < i) && skS s k) ||| 0 = mk (fun k => decide (k < i + 1) && skS s k) := fun h => by
        rw [Int32.or_zero]
        refine mk_cg fun k hk => ?_
        by_cases e : k = i
        · subst e; simp [h]
        · have : (k < i) ↔ (k < i + 1) := by omega
          simp [this]
      have eT : skS s i = true → mk (fun k => decide (k < i) && skS s k) ||| ((1 : Int32) <<< (iv i &&& 31)) = mk (fun k => decide (k < i + 1) && skS s k) := fun h => by
        rw [mk_upb h6]
        refine mk_cg fun k hk => ?_
        unfold upb
        by_cases e : k = i
        · subst e; simp [h]
        · have : (k < i) ↔ (k < i + 1) := by omega
          simp [this, e]
      rw [g_X11_sinking_l4, if_neg (n6 h6)]
      unfold g_X11_sinking_b51 g_X11_sinking_b52 g_X11_sinking_b67
      rw [iv_1]
      by_cases c : s 7 i = -1
      · rw [if_neg (fun e => (mo_bit h6).mp e c), if_pos rfl, eF (by unfold skS skB; simp [c])]
        exact step
      · have hn : nB (s 7 i) := (hB.2.2.2 i h6).resolve_left c
        have hb := hB.1.2.1 (s 7 i).toNat (nB_nat hn).2
        obtain ⟨f1, f2⟩ := hF i h6 c
        rw [if_pos ((mo_bit h6).mpr c), ix_iv h6 (by decide), Option.bind_some, Option.bind_some, f1, f2, mo_at hn, Option.bind_some, ix_iv (nB_nat hn).2 (by decide), Option.bind_some, mo_press hB hL, Option.bind_some, ma hL 68 1 400 (by decide) _ (nB_nat hn).2]
        have e1 : (iv (psS s) ≤ iv (s 1 (s 7 i).toNat)) ↔ psS s ≤ s 1 (s 7 i).toNat := iv_le (by unfold psS; omega) (by omega)
        by_cases d : psS s ≤ s 1 (s 7 i).toNat
        · rw [if_pos (e1.mpr d), if_pos rfl, eF (by unfold skS skB; simp [d])]
          exact step
        · rw [if_neg (fun q => d (e1.mp q)), if_neg (by decide), eT (by unfold skS skB; simp [c]; omega)]
          exact step
  have e : mk (fun k => decide (k < 0) && skS s k) = 0 := by
    rw [show (fun k => decide (k < 0) && skS s k) = fun _ => false from funext fun k => by simp]
    exact mk_none
  have k0 := key 6 FU 0 (by decide) (by decide)
  rw [e, show iv ((0 : Nat) : Int) = (0 : Int32) from rfl] at k0
  exact k0
theorem cn_mono {g ft : Nat → Int} (h : ∀ k, g k ≠ -1 → ft k ≠ -1) : ∀ n i c d, c ≤ d → cnN g n i c ≤ cnN ft n i d ∧ (c < d → cnN g n i c < cnN ft n i d)
  | 0, _, _, _, h => ⟨h, fun q => q⟩
  | n + 1, i, c, d, hcd => by
    unfold cnN
    by_cases e : g i = -1
    · by_cases e2 : ft i = -1
      · rw [if_pos e, if_pos e2]; exact cn_mono h n (i + 1) c d hcd
      · rw [if_pos e, if_neg e2]
        have := cn_mono h n (i + 1) c (d + 1) (by omega)
        exact ⟨this.1, fun _ => this.2 (by omega)⟩
    · rw [if_neg e, if_neg (h i e)]
      have := cn_mono h n (i + 1) (c + 1) (d + 1) (by omega)
      exact ⟨this.1, fun q => this.2 (by omega)⟩
theorem cn_less {g ft : Nat → Int} (h : ∀ k, g k ≠ -1 → ft k ≠ -1) : ∀ n i c d, c ≤ d → (∃ k, i ≤ k ∧ k < i + n ∧ g k = -1 ∧ ft k ≠ -1) → cnN g n i c < cnN ft n i d
  | 0, i, _, _, _, ⟨k, h1, h2, _⟩ => by omega
  | n + 1, i, c, d, hcd, ⟨k, h1, h2, h3, h4⟩ => by
    unfold cnN
    by_cases e : g i = -1
    · by_cases e2 : ft i = -1
      · rw [if_pos e, if_pos e2]
        refine cn_less h n (i + 1) c d hcd ⟨k, ?_, by omega, h3, h4⟩
        rcases Nat.lt_or_eq_of_le h1 with q | q
        · exact q
        · subst q; exact absurd e2 h4
      · rw [if_pos e, if_neg e2]
        exact (cn_mono h n (i + 1) c (d + 1) (by omega)).2 (by omega)
    · rw [if_neg e, if_neg (h i e)]
      refine cn_less h n (i + 1) (c + 1) (d + 1) (by omega) ⟨k, ?_, by omega, h3, h4⟩
      rcases Nat.lt_or_eq_of_le h1 with q | q
      · exact q
      · subst q; exact absurd h3 e
theorem sk_ne {k : Nat} (h : skS s k = true) : s 7 k ≠ -1 := by
  unfold skS skB at h
  rw [Bool.and_eq_true, decide_eq_true_iff] at h
  exact h.1
theorem sk_cn (h : mk (skS s) ≠ 0) : cnS (raS (s 7) (skS s)) < cnS (s 7) := by
  have : ∃ k, k < 6 ∧ skS s k = true := by
    apply Classical.byContradiction
    intro q
    refine h (mk_zero.mpr fun k hk => ?_)
    rw [← Bool.not_eq_true]
    exact fun e => q ⟨k, hk, e⟩
  obtain ⟨k, hk, hs⟩ := this
  refine cn_less (fun j hj => ?_) 6 0 0 0 (Nat.le_refl _) ⟨k, Nat.zero_le _, by omega, ?_, sk_ne hs⟩
  · unfold raS at hj
    by_cases c : skS s j = true
    · exact sk_ne c
    · rw [if_neg c] at hj; exact hj
  · unfold raS; rw [if_pos hs]
theorem sk_none (h : cnS (s 7) = 0) : mk (skS s) = 0 := by
  refine mk_zero.mpr fun k hk => ?_
  rw [← Bool.not_eq_true]
  intro e
  have := cn_less (g := fun _ => -1) (ft := s 7) (fun j q => absurd rfl q) 6 0 0 0 (Nat.le_refl _) ⟨k, Nat.zero_le _, by omega, rfl, sk_ne e⟩
  have h' : cnN (s 7) 6 0 0 = 0 := h
  omega
theorem mo_l15 (k9 : Int32 → (Nat → Nat → Int32) → (Nat → Nat → Int32) → Option ((Nat → Nat → Int32) × (Nat → Nat → Int32))) {σ : Nat → Bool} : ∀ (n fu i : Nat) (s : MSt) (z f : Nat → Nat → Int32), i + n = 6 → n < fu → KO s → MS s z f → (∀ k, k < 6 → σ k = true → s 7 k ≠ -1) → ∃ z' f', g_X11_sinks_l15 k9 fu (mk σ) (iv i) z f = k9 (mk (skS (ur (brS σ n i s) 7 (raS (brS σ n i s 7) σ)))) z' f' ∧ MS (ur (brS σ n i s) 7 (raS (brS σ n i s 7) σ)) z' f' ∧ Fc z f z' f' := by
  intro n
  induction n with
  | zero =>
    intro fu i s z f hi hf hk h hσ
    obtain ⟨fu, rfl⟩ : ∃ x, fu = x + 1 := ⟨fu - 1, by omega⟩
    obtain rfl : i = 6 := by omega
    have ed : mk (dnS s) &&& (mk σ ^^^ (-1)) = mk (dnS (ur s 7 (raS (s 7) σ))) := by
      rw [mk_sub]
      refine mk_cg fun k hk6 => ?_
      unfold dnS
      rw [ur_at]
      unfold raS
      by_cases c : σ k = true
      · simp [c]
      · simp [c]
    have hk2 : KO (ur s 7 (raS (s 7) σ)) := ko_ra hk
    have m : MS (ur s 7 (raS (s 7) σ)) (up2 z 66 17 (mk (dnS (ur s 7 (raS (s 7) σ))))) f := by
      refine ⟨⟨(lm_ur7 h.1).1, fun q hq => ?_⟩, up2_same, fun k hk6 hne => ?_, ?_⟩
      · have := (scalM_inj _ hq _ hq).2.1
        rw [show up2 z 66 17 (mk (dnS (ur s 7 (raS (s 7) σ)))) 66 q.1 = z 66 q.1 from if_neg (fun e => this e.2)]
        exact (lm_ur7 h.1).2 q hq
      · rw [ur_at] at hne ⊢
        unfold raS at hne ⊢
        by_cases c : σ k = true
        · rw [if_pos c] at hne; exact absurd rfl hne
        · rw [if_neg c] at hne ⊢; exact h.2.2.1 k hk6 hne
      · have m := h.2.2.2
        unfold MX at m ⊢
        rw [show up2 z 66 17 (mk (dnS (ur s 7 (raS (s 7) σ)))) 66 20 = z 66 20 from if_neg (by decide), show up2 z 66 17 (mk (dnS (ur s 7 (raS (s 7) σ)))) 66 21 = z 66 21 from if_neg (by decide)]
        exact m
    refine ⟨_, f, ?_, m, fc_z⟩
    rw [g_X11_sinks_l15, if_pos y6, h.2.1, ed, lt2_e, up2_same, mo_sinking (ko_bd hk2) m.1 m.2.2.1, Option.bind_some]
    rfl
  | succ n ih =>
    intro fu i s z f hi hf hk h hσ
    obtain ⟨fu, rfl⟩ : ∃ x, fu = x + 1 := ⟨fu - 1, by omega⟩
    have h6 : i < 6 := by omega
    rw [g_X11_sinks_l15, if_neg (n6 h6), mk_get i h6]
    unfold g_X11_sinks_b72 g_X11_sinks_b102
    rw [iv_1]
    by_cases c : σ i = true
    · have hne := hσ i h6 c
      have hp : nB (s 7 i) := ((ko_ft hk) i h6).resolve_left hne
      have b0 : 0 ≤ s 0 (s 7 i).toNat ∧ s 0 (s 7 i).toNat ≤ 9 := hk 0 _
      obtain ⟨f1, f2⟩ := h.2.2.1 i h6 hne
      have e0 : (iv (s 0 (s 7 i).toNat) ≤ (0 : Int32)) ↔ s 0 (s 7 i).toNat ≤ 0 := iv_le (b := 0) (by omega) (by decide)
      have m1 := ms_arr h (b := 67) (a := 0) (n := 400) (k := (s 7 i).toNat) (v := max 0 (s 0 (s 7 i).toNat - 1)) (by decide)
      have m2 := ms_arr m1 (b := 70) (a := 3) (n := 400) (k := (s 7 i).toNat) (v := max 0 (s 0 (s 7 i).toNat - 1)) (by decide)
      have es : us (us s 0 (s 7 i).toNat (max 0 (s 0 (s 7 i).toNat - 1))) 3 (s 7 i).toNat (max 0 (s 0 (s 7 i).toNat - 1)) = sagS s (s 7 i) := by
        unfold sagS learnS
        rw [us_at]
      rw [es] at m2
      have k2 : KO (sagS s (s 7 i)) := ko_sag hk
      obtain ⟨z3, e3, m3, c3⟩ := mo_breaks m2 k2 (w := 2) (p := s 7 i)
      have k3 : KO (tellS (sagS s (s 7 i)) 2 (s 7 i)) := ko_tell k2 (by decide) (hk 7 i)
      obtain ⟨z4, f4, e4, m4, c4⟩ := ih fu (i + 1) _ z3 _ (by omega) (by omega) k3 m3 (fun k hk6 hs => by rw [tellS_map (by decide), sagS_f (by decide) (by decide)]; exact hσ k hk6 hs)
      refine ⟨z4, f4, ?_, ?_, fc_tr (fc_tr (fc_f (by decide)) (fc_f (by decide))) (fc_tr c3 c4)⟩
      · have tail : ∀ v : Int, v = max 0 (s 0 (s 7 i).toNat - 1) → ((ixA 400 (iv ((s 7 i).toNat : Nat))).bind fun j1 => lt2 (upf f 67 j1 (iv v)) fun u2 => (ixA 400 (iv ((s 7 i).toNat : Nat))).bind fun j3 => (ixA 400 (iv ((s 7 i).toNat : Nat))).bind fun j4 => lt2 (upf u2 70 j4 (u2 67 j3)) fun u5 => (ixA 6 (iv i)).bind fun j6 => (ixA 6 (iv i)).bind fun j7 => bn2 (g_X11_breaks 2 (u5 74 j6) (u5 75 j7) z u5) fun z8 u9 => g_X11_sinks_l15 k9 fu (mk σ) (iv ((i + 1 : Nat) : Int)) z8 u9) = k9 (mk (skS (ur (brS σ n (i + 1) (tellS (sagS s (s 7 i)) 2 (s 7 i))) 7 (raS (brS σ n (i + 1) (tellS (sagS s (s 7 i)) 2 (s 7 i)) 7) σ)))) z4 f4 := by
          intro v hv
          subst hv
          rw [ix_iv (nB_nat hp).2 (by decide), Option.bind_some, lt2_e, Option.bind_some, Option.bind_some, lt2_e, ix_iv h6 (by decide), Option.bind_some, Option.bind_some]
          have eu : upf f 67 (s 7 i).toNat (iv (max 0 (s 0 (s 7 i).toNat - 1))) 67 (s 7 i).toNat = iv (max 0 (s 0 (s 7 i).toNat - 1)) := by rw [upf_up, upa_same, upd_at]
          rw [eu]
          have e74 : upf (upf f 67 (s 7 i).toNat (iv (max 0 (s 0 (s 7 i).toNat - 1)))) 70 (s 7 i).toNat (iv (max 0 (s 0 (s 7 i).toNat - 1))) 74 = f 74 := by rw [upf_up, upa_ne (by decide), upf_up, upa_ne (by decide)]
          have e75 : upf (upf f 67 (s 7 i).toNat (iv (max 0 (s 0 (s 7 i).toNat - 1)))) 70 (s 7 i).toNat (iv (max 0 (s 0 (s 7 i).toNat - 1))) 75 = f 75 := by rw [upf_up, upa_ne (by decide), upf_up, upa_ne (by decide)]
          rw [e74, e75, f1, f2, show (2 : Int32) = iv 2 from rfl, e3, bn2_some]
          exact e4
        rw [if_pos (show (if σ i = true then (1 : Int32) else 0) = 1 by rw [if_pos c]), ix_iv h6 (by decide), Option.bind_some, Option.bind_some, f1, f2, mo_at hp, Option.bind_some, ix_iv (nB_nat hp).2 (by decide), Option.bind_some, ma h.1 67 0 400 (by decide) _ (nB_nat hp).2]
        rw [show brS σ (n + 1) i s = brS σ n (i + 1) (tellS (sagS s (s 7 i)) 2 (s 7 i)) by rw [brS, if_pos c]]
        rw [ix_iv (nB_nat hp).2 (by decide), ix_iv h6 (by decide)] at tail
        by_cases d : s 0 (s 7 i).toNat ≤ 0
        · rw [if_pos (e0.mpr d)]
          exact tail 0 (by omega)
        · rw [if_neg (fun q => d (e0.mp q)), Option.bind_some, ma h.1 67 0 400 (by decide) _ (nB_nat hp).2, show (1 : Int32) = iv 1 from rfl, iv_sub]
          exact tail _ (by omega)
      · rw [show brS σ (n + 1) i s = brS σ n (i + 1) (tellS (sagS s (s 7 i)) 2 (s 7 i)) by rw [brS, if_pos c]]
        exact m4
    · obtain ⟨z4, f4, e4, m4, c4⟩ := ih fu (i + 1) s z f (by omega) (by omega) hk h hσ
      have eb : brS σ (n + 1) i s = brS σ n (i + 1) s := by rw [brS, if_neg c]
      refine ⟨z4, f4, ?_, by rw [eb]; exact m4, c4⟩
      rw [if_neg (show ¬ (if σ i = true then (1 : Int32) else 0) = 1 by rw [if_neg c]; decide), eb]
      exact e4
theorem mo_l9 : ∀ (n fu : Nat) (s : MSt) (z f : Nat → Nat → Int32), cnS (s 7) ≤ n → n < fu → KO s → MS s z f → ∃ z' f', g_X11_sinks_l9 fu (mk (skS s)) z f = some (z', f') ∧ MS (skN n s) z' f' ∧ Fc z f z' f' := by
  intro n
  induction n with
  | zero =>
    intro fu s z f hn hf hk h
    obtain ⟨fu, rfl⟩ : ∃ x, fu = x + 1 := ⟨fu - 1, by omega⟩
    rw [g_X11_sinks_l9, if_pos (sk_none (by omega))]
    exact ⟨z, f, rfl, h, fc_rf⟩
  | succ n ih =>
    intro fu s z f hn hf hk h
    obtain ⟨fu, rfl⟩ : ∃ x, fu = x + 1 := ⟨fu - 1, by omega⟩
    rw [g_X11_sinks_l9]
    unfold skN
    by_cases c : mk (skS s) = 0
    · rw [if_pos c, if_pos c]
      exact ⟨z, f, rfl, h, fc_rf⟩
    · obtain ⟨z1, f1, e1, m1, c1⟩ := mo_l15 (fun y0 z f => g_X11_sinks_l9 fu y0 z f) (σ := skS s) 6 FU 0 s z f (by decide) (by decide) hk h (fun k _ hs => sk_ne hs)
      rw [show iv ((0 : Nat) : Int) = (0 : Int32) from rfl] at e1
      have hcn : cnS (sk1 s 7) ≤ n := by rw [sk1_7]; have := sk_cn c; omega
      obtain ⟨z2, f2, e2, m2, c2⟩ := ih fu (sk1 s) z1 f1 hcn (by omega) (ko_sk1 hk) m1
      rw [if_neg c, if_neg c, e1]
      exact ⟨z2, f2, e2, m2, fc_tr c1 c2⟩
theorem mo_sinks (hk : KO s) (h : MS s z f) : ∃ z' f', g_X11_sinks z f = some (z', f') ∧ MS (skN 6 s) z' f' ∧ Fc z f z' f' := by
  unfold g_X11_sinks
  rw [h.2.1, mo_sinking (ko_bd hk) h.1 h.2.2.1, Option.bind_some]
  exact mo_l9 6 FU s z f cnS_le (by decide) hk h
/-! falling -/
theorem mo_sign {a : Int} (h : IB a) : g_X11_sign (iv a) z f = some (iv (sgS a)) := by
  unfold g_X11_sign sgS
  have e0 : (iv a ≤ (0 : Int32)) ↔ a ≤ 0 := iv_le (b := 0) h (by decide)
  have e1 : ((0 : Int32) ≤ iv a) ↔ 0 ≤ a := iv_le (a := 0) (by decide) h
  by_cases c : a ≤ 0
  · rw [if_pos (e0.mpr c), if_neg (show ¬ 0 < a by omega)]
    by_cases d : 0 ≤ a
    · rw [if_pos (e1.mpr d), if_neg (show ¬ a < 0 by omega)]; rfl
    · rw [if_neg (fun q => d (e1.mp q)), if_pos (show a < 0 by omega)]; rfl
  · rw [if_neg (fun q => c (e0.mp q)), if_pos (show 0 < a by omega)]; rfl
theorem mo_dir (hB : BD s) (h : MS s z f) : g_X11_direction z f = some (iv (dirS s)) := by
  obtain ⟨d1, d2⟩ := dir_bd hB
  have hw := ms_mw h.1
  have key : ∀ (n fu i : Nat) (x y : Int), i + n = 6 → n < fu → sxN (s 7) n i x = sxN (s 7) 6 0 0 → syN (s 7) n i y = syN (s 7) 6 0 0 → g_X11_direction_l15 fu (iv (cnS (s 7) : Nat)) (iv x) (iv y) (iv i) z f = some (iv (dirS s)) := by
    intro n
    induction n with
    | zero =>
      intro fu i x y hi hf e2 e3
      obtain ⟨fu, rfl⟩ : ∃ x, fu = x + 1 := ⟨fu - 1, by omega⟩
      obtain rfl : i = 6 := by omega
      replace e2 : x = sxN (s 7) 6 0 0 := e2
      replace e3 : y = syN (s 7) 6 0 0 := e3
      rw [g_X11_direction_l15, if_pos y6, mw_x hw, Option.bind_some, mw_w hw, Option.bind_some, iv_mul, iv_mul, iv_sub, e2, mo_sign (by omega), Option.bind_some, mw_y hw, Option.bind_some, Option.bind_some, iv_mul, iv_mul, iv_sub, e3, mo_sign (by omega), Option.bind_some, show (1 : Int32) = iv 1 from rfl, show (3 : Int32) = iv 3 from rfl, iv_add, iv_mul, iv_add, iv_add]
      rfl
    | succ n ih =>
      intro fu i x y hi hf e2 e3
      obtain ⟨fu, rfl⟩ : ∃ x, fu = x + 1 := ⟨fu - 1, by omega⟩
      have h6 : i < 6 := by omega
      rw [g_X11_direction_l15, if_neg (n6 h6), mo_down h.2.1 h6, Option.bind_some]
      unfold sxN at e2
      unfold syN at e3
      unfold g_X11_direction_b43 g_X11_direction_b66
      rw [mo_down h.2.1 h6, Option.bind_some]
      by_cases c1 : s 7 i = -1
      · rw [if_pos c1] at e2 e3
        have nn : ¬ s 7 i ≠ -1 := fun q => q c1
        rw [if_neg nn, if_pos rfl, if_pos rfl, iv_1, show (0 : Int32) = iv 0 from rfl, iv_add, iv_add, Int.add_zero, Int.add_zero]
        exact ih fu (i + 1) x y (by omega) (by omega) e2 e3
      · rw [if_neg c1] at e2 e3
        obtain ⟨f1, f2⟩ := h.2.2.1 i h6 c1
        rw [if_pos c1, if_neg (by decide), ix_iv h6 (by decide), Option.bind_some, Option.bind_some, if_neg (by decide), Option.bind_some, f1, f2, iv_add, iv_add, iv_1]
        exact ih fu (i + 1) _ _ (by omega) (by omega) e2 e3
  unfold g_X11_direction
  rw [h.2.1, mo_count, Option.bind_some]
  exact key 6 FU 0 0 0 (by decide) (by decide) rfl rfl
end
