/-! getting up -/
section
variable {s : MSt} {z f : Nat → Nat → Int32}
theorem hb_spec : ∀ n i l h ft, i + n ≤ 6 → hbN s n i l h ft = true → (∀ k, i ≤ k → k < i + n → hipS s k ≠ -1 ∧ ∀ j, j < 6 → (if i ≤ j ∧ j < k then hipS s j else ft j) ≠ hipS s k) ∧ stB (ur s 7 (fun k => if i ≤ k ∧ k < i + n then hipS s k else ft k)) (-1) = true
  | 0, i, l, h, ft, _, hb => by
    unfold hbN at hb
    rw [Bool.and_eq_true] at hb
    refine ⟨fun k h1 h2 => by omega, ?_⟩
    have : (fun k => if i ≤ k ∧ k < i + 0 then hipS s k else ft k) = ft := funext fun k => if_neg (by omega)
    rw [this]
    exact hb.2
  | n + 1, i, l, h, ft, hi, hb => by
    unfold hbN at hb
    by_cases c : hipS s i = -1 ∨ tkS ft (hipS s i) (-1) = true
    · rw [if_pos c] at hb; cases hb
    · rw [if_neg c] at hb
      obtain ⟨h1, h2⟩ := hb_spec n (i + 1) _ _ _ (by omega) hb
      have ct : tkS ft (hipS s i) (-1) = false := by
        rw [← Bool.not_eq_true]; exact fun e => c (Or.inr e)
      constructor
      · intro k hk1 hk2
        by_cases e : k = i
        · subst e
          refine ⟨fun e => c (Or.inl e), fun j hj => ?_⟩
          rw [if_neg (by omega)]
          exact tk_no ct j hj
        · obtain ⟨a, b⟩ := h1 k (by omega) (by omega)
          refine ⟨a, fun j hj => ?_⟩
          have := b j hj
          unfold upI at this
          by_cases c1 : i + 1 ≤ j ∧ j < k
          · rw [if_pos c1] at this; rw [if_pos (by omega)]; exact this
          · rw [if_neg c1] at this
            by_cases c2 : j = i
            · rw [if_pos c2] at this; rw [if_pos (by omega), c2]; exact this
            · rw [if_neg c2] at this; rw [if_neg (by omega)]; exact this
      · have : (fun k => if i ≤ k ∧ k < i + (n + 1) then hipS s k else ft k) = (fun k => if i + 1 ≤ k ∧ k < i + 1 + n then hipS s k else upI ft i (hipS s i) k) := funext fun k => by
          unfold upI
          by_cases c1 : i + 1 ≤ k ∧ k < i + 1 + n
          · rw [if_pos c1, if_pos (by omega)]
          · rw [if_neg c1]
            by_cases c2 : k = i
            · rw [if_pos c2, if_pos (by omega), c2]
            · rw [if_neg c2, if_neg (by omega)]
        rw [this]
        exact h2
theorem rs_inv (hk : KO s) (hh : ∀ k, k < (s 8 0).toNat → hipS s k ≠ -1 ∧ ∀ j, j < k → hipS s j ≠ hipS s k) : ∀ n i (t : MSt), i + n = (s 8 0).toNat → W0 t → (∀ k, t 4 k = s 4 k) → (∀ k, t 5 k = s 5 k) → (t 8 0 = s 8 0 ∧ t 8 4 = s 8 4 ∧ t 8 5 = s 8 5) → (∀ k, i ≤ k → k < 6 → t 7 k = -1) → (t 8 9 ≠ 0 ∨ ∀ k, k < i → t 7 k = hipS s k) → W0 (rsN n i t) ∧ (rsN n i t 8 9 ≠ 0 ∨ ∀ k, k < 6 → rsN n i t 7 k = if k < (s 8 0).toNat then hipS s k else -1)
  | 0, i, t, hi, hW, _, _, _, hU, hF => by
    refine ⟨hW, hF.imp (fun h => h) (fun h k hk6 => ?_)⟩
    show t 7 k = _
    by_cases c : k < (s 8 0).toNat
    · rw [if_pos c]; exact h k (by omega)
    · rw [if_neg c]; exact hU k (by omega) hk6
  | n + 1, i, t, hi, hW, h4, h5, h8, hU, hF => by
    have h80 := ko_8 hk
    have hip : hipS t i = hipS s i := by unfold hipS hxS hyS; rw [h4, h5, h8.2.1, h8.2.2]
    have hi6 : i < 6 := by omega
    obtain ⟨p1, p2⟩ := hh i (by omega)
    have hp := (hipS_cs (s := s) i).resolve_left p1
    unfold rsN
    rw [hip]
    by_cases c : hipS s i = -1 ∨ tkS (t 7) (hipS s i) (-1) = true
    · rw [if_pos c]
      have ct := c.resolve_left p1
      obtain ⟨j, -, hj6, -, hj⟩ := (tkN_iff 6 0).mp ct
      have h9 : t 8 9 ≠ 0 := by
        rcases hF with h | h
        · exact h
        · exfalso
          by_cases q : j < i
          · exact p2 j q ((h j q).symm.trans hj)
          · have := hU j (by omega) (by omega)
            rw [this] at hj
            exact p1 hj.symm
      exact rs_inv hk hh n (i + 1) t (by omega) hW h4 h5 h8 (fun k h1 h2 => hU k (by omega) h2) (Or.inl h9)
    · rw [if_neg c]
      have ct : tkS (t 7) (hipS s i) (-1) = false := by
        rw [← Bool.not_eq_true]; exact fun e => c (Or.inr e)
      have hs := w0_set hW hi6 (by rw [h8.1]; omega) (hU i (Nat.le_refl _) hi6) ct hp
      have so : ∀ a j, a ≠ 3 → a ≠ 7 → (a = 8 → j ≠ 8 ∧ j ≠ 9 ∧ j ≠ 10 ∧ j ≠ 11) → setS t i (hipS s i) a j = t a j := fun a j a1 a2 a3 => setS_o ⟨a1, a2, a3⟩
      have s7 : ∀ k, k ≠ i → setS t i (hipS s i) 7 k = t 7 k := fun k hk => by
        rcases set_cs (hU i (Nat.le_refl _) hi6) ct hp with e | ⟨w, hw, u, hu, e⟩
        · rw [e, us_nk hk]; exact us_na (by decide)
        · have hu7 : u 7 k = t 7 k := by
            rcases hu with rfl | ⟨q, rfl⟩
            · exact us_na (by decide)
            · exact (us_na (by decide)).trans (us_na (by decide))
          rcases e with e | ⟨q, -, -, e⟩
          · rw [e, tellS_map (by decide), hu7]
          · rw [e, us_nk hk, tellS_map (by decide), hu7]
      refine rs_inv hk hh n (i + 1) _ (by omega) hs.1 (fun k => (so 4 k (by decide) (by decide) (fun e => absurd e (by decide))).trans (h4 k)) (fun k => (so 5 k (by decide) (by decide) (fun e => absurd e (by decide))).trans (h5 k)) ⟨(so 8 0 (by decide) (by decide) (by decide)).trans h8.1, (so 8 4 (by decide) (by decide) (by decide)).trans h8.2.1, (so 8 5 (by decide) (by decide) (by decide)).trans h8.2.2⟩ (fun k h1 h2 => by rw [s7 k (by omega)]; exact hU k (by omega) h2) ?_
      rcases hs.2 with e | e
      · rcases hF with h | h
        · left
          rw [e, us_na (by decide)]
          exact (show learnS t (hipS s i) 8 9 = t 8 9 from us_na (by decide)) ▸ h
        · right
          intro k hk
          by_cases q : k = i
          · subst q; rw [e, us_at]
          · rw [s7 k q]; exact h k (by omega)
      · exact Or.inl e
theorem hb_facts (hk : KO s) (h : hbS s = true) : (∀ k, k < (s 8 0).toNat → hipS s k ≠ -1 ∧ ∀ j, j < k → hipS s j ≠ hipS s k) ∧ stB (ur s 7 (fun k => if k < (s 8 0).toNat then hipS s k else s 7 k)) (-1) = true := by
  have h8 := ko_8 hk
  obtain ⟨h1, h2⟩ := hb_spec _ _ _ _ _ (by omega) h
  refine ⟨fun k hk1 => ⟨(h1 k (Nat.zero_le _) (by omega)).1, fun j hj => ?_⟩, ?_⟩
  · have := (h1 k (Nat.zero_le _) (by omega)).2 j (by omega)
    rw [if_pos ⟨Nat.zero_le _, hj⟩] at this
    exact this
  · have : (fun k => if 0 ≤ k ∧ k < 0 + (s 8 0).toNat then hipS s k else s 7 k) = (fun k => if k < (s 8 0).toNat then hipS s k else s 7 k) := funext fun k => by
      by_cases c : k < (s 8 0).toNat
      · rw [if_pos c, if_pos (by omega)]
      · rw [if_neg c, if_neg (by omega)]
    rw [this] at h2
    exact h2
theorem w0_gu (h : W0 s) : W0 (guS s) := by
  have e8 : guS s 8 8 = 0 := by unfold guS; rw [us_nk (by decide), us_nk (by decide), us_nk (by decide), us_at]
  have e9 : guS s 8 9 = 0 := by unfold guS; rw [us_nk (by decide), us_nk (by decide), us_at]
  exact ⟨ds_cg (fun _ => gu_o (fun e => absurd e (by decide))) h.1, lg_cg (fun _ => gu_o (fun e => absurd e (by decide))) (gu_o (by decide)) h.2.1, ⟨fun q => absurd e8 q, fun q => absurd e9 q⟩, fp_cg (fun _ => gu_o (fun e => absurd e (by decide))) (gu_o (by decide)) h.2.2.2⟩
theorem wb_ri {n : Int} (h : WF n s) (hp : riP s) : WB (n + 1) (riS s) := by
  obtain ⟨hA, hW, hU, hS, hN⟩ := h
  have hk := hA.1
  have h8 := ko_8 hk
  obtain ⟨hh, hst⟩ := hb_facts hk hp.2.2
  have g7 : ∀ k, guS s 7 k = s 7 k := fun k => gu_o (fun e => absurd e (by decide))
  have e6 : guS s 8 6 = 1 := by
    unfold guS
    rw [us_nk (by decide), us_nk (by decide), us_nk (by decide), us_nk (by decide), us_at]
  have inv := rs_inv hk hh (s 8 0).toNat 0 (guS s) (by omega) (w0_gu hW) (fun _ => gu_o (fun e => absurd e (by decide))) (fun _ => gu_o (fun e => absurd e (by decide))) ⟨gu_o (by decide), gu_o (by decide), gu_o (by decide)⟩ (fun k _ hk6 => by rw [g7]; exact hU hp.1 k hk6) (Or.inr (fun k hk => absurd hk (Nat.not_lt_zero k)))
  have r6 : riS s 8 6 = 1 := (rs_o (by decide) _ _ _).trans e6
  refine ⟨ai_ri hA hp, inv.1, fun q => by rw [r6] at q; exact absurd q (by decide), fun _ => ?_, ?_⟩
  · rcases inv.2 with e | e
    · exact Or.inr e
    · left
      refine stB_mono (s := ur s 7 (fun k => if k < (s 8 0).toNat then hipS s k else s 7 k)) (fun k hk6 hne => ?_) (fun j h1 h2 => ?_) hst
      · rw [ur_at] at hne ⊢
        have : riS s 7 k = if k < (s 8 0).toNat then hipS s k else -1 := e k hk6
        rw [this]
        by_cases c : k < (s 8 0).toNat
        · rw [if_pos c, if_pos c]
        · rw [if_neg c] at hne
          exact absurd (hU hp.1 k hk6) hne
      · rw [ur_na (by decide)]
        exact (rs_o ⟨by decide, by decide, fun _ => by omega⟩ _ _ _).trans (gu_o (fun _ => by omega))
  · have o13 : riS s 8 13 = s 8 13 := (rs_o (by decide) _ _ _).trans (gu_o (by decide))
    have o14 : riS s 8 14 = s 8 14 := (rs_o (by decide) _ _ _).trans (gu_o (by decide))
    unfold NX
    rw [o13, o14]; exact hN
/-- the model's look at the hips -/
theorem mo_109 {k37 : Int32 → Int32 → Int32 → Int32 → (Nat → Nat → Int32) → (Nat → Nat → Int32) → Option (Int32 × (Nat → Nat → Int32) × (Nat → Nat → Int32))} {X Y : Nat → Int} {i : Nat} (hi6 : i < 6) (hX : ∀ k, k ≤ i → -10 ≤ X k ∧ X k ≤ 30) (hY : ∀ k, k ≤ i → -10 ≤ Y k ∧ Y k ≤ 30) (h74 : ∀ k, k ≤ i → f 74 k = iv (X k)) (h75 : ∀ k, k ≤ i → f 75 k = iv (Y k)) {i2 i3 : Int32} : ∀ (n fu j : Nat) (b : Bool), j + n = i → n < fu → ∃ c : Bool, (c = true ↔ b = true ∧ ∀ j', j ≤ j' → j' < i → ¬ (X j' = X i ∧ Y j' = Y i)) ∧ g_X11_canRise_l109 k37 fu (if b then 1 else 0) i2 i3 (iv i) (iv j) z f = g_X11_canRise_b166 k37 (if c then 1 else 0) i2 i3 (iv i) z f := by
  intro n
  induction n with
  | zero =>
    intro fu j b hj hf
    obtain ⟨fu, rfl⟩ : ∃ x, fu = x + 1 := ⟨fu - 1, by omega⟩
    refine ⟨b, ⟨fun h => ⟨h, fun j' h1 h2 => by omega⟩, fun h => h.1⟩, ?_⟩
    rw [g_X11_canRise_l109, if_pos ((iv_le (ibn (by omega)) (ibn (by omega))).mpr (by omega))]
  | succ n ih =>
    intro fu j b hj hf
    obtain ⟨fu, rfl⟩ : ∃ x, fu = x + 1 := ⟨fu - 1, by omega⟩
    rw [g_X11_canRise_l109, if_neg (fun e => by have := (iv_le (ibn (by omega)) (ibn (by omega))).mp e; omega)]
    cases b with
    | false =>
      rw [show (if false = true then (1 : Int32) else 0) = 0 from rfl, if_pos rfl]
      exact ⟨false, ⟨fun h => absurd h (by decide), fun h => absurd h.1 (by decide)⟩, rfl⟩
    | true =>
      obtain ⟨cT, hT, eT⟩ := ih fu (j + 1) true (by omega) (by omega)
      obtain ⟨cF, hF, eF⟩ := ih fu (j + 1) false (by omega) (by omega)
      rw [show (if true = true then (1 : Int32) else 0) = 1 from rfl] at eT ⊢
      rw [show (if false = true then (1 : Int32) else 0) = 0 from rfl] at eF
      have bj := hX j (by omega)
      have bi := hX i (Nat.le_refl _)
      have cj := hY j (by omega)
      have ci := hY i (Nat.le_refl _)
      unfold g_X11_canRise_b159 g_X11_canRise_b154 g_X11_canRise_b159
      rw [if_neg (by decide), ix_iv (show j < 6 by omega) (by decide), Option.bind_some, ix_iv hi6 (by decide), Option.bind_some, h74 j (by omega), h74 i (Nat.le_refl _), Option.bind_some, Option.bind_some, h75 j (by omega), h75 i (Nat.le_refl _), iv_1]
      have e1 : (iv (X j) = iv (X i)) ↔ X j = X i := iv_eq (by omega) (by omega)
      have e2 : (iv (Y j) = iv (Y i)) ↔ Y j = Y i := iv_eq (by omega) (by omega)
      have up : ¬ (X j = X i ∧ Y j = Y i) → ((true = true ∧ ∀ j', j + 1 ≤ j' → j' < i → ¬ (X j' = X i ∧ Y j' = Y i)) ↔ (true = true ∧ ∀ j', j ≤ j' → j' < i → ¬ (X j' = X i ∧ Y j' = Y i))) := fun hq => ⟨fun h => ⟨rfl, fun j' h1 h2 => by
        rcases Nat.lt_or_eq_of_le h1 with q | q
        · exact h.2 j' q h2
        · subst q; exact hq⟩, fun h => ⟨rfl, fun j' h1 h2 => h.2 j' (by omega) h2⟩⟩
      by_cases d1 : X j = X i
      · rw [if_pos (e1.mpr d1)]
        by_cases d2 : Y j = Y i
        · rw [if_pos (e2.mpr d2)]
          exact ⟨cF, hF.trans ⟨fun h => absurd h.1 (by decide), fun h => absurd ⟨d1, d2⟩ (h.2 j (Nat.le_refl _) (by omega))⟩, eF⟩
        · rw [if_neg (fun q => d2 (e2.mp q))]
          exact ⟨cT, hT.trans (up (fun q => d2 q.2)), eT⟩
      · rw [if_neg (fun q => d1 (e1.mp q))]
        exact ⟨cT, hT.trans (up (fun q => d1 q.1)), eT⟩
theorem ms_up {b : Nat} (hb : b = 74 ∨ b = 75) (hU : ∀ k, k < 6 → s 7 k = -1) (h : MS s z f) {g : Nat → Int32} : MS s z (upa f b g) := by
  refine ⟨⟨fun q hq k hk => ?_, h.1.2⟩, h.2.1, fun k hk hne => absurd (hU k hk) hne, ?_⟩
  · have := (arrsM_inj q hq q hq).2.2.2
    rw [upa_ne (by omega)]; exact h.1.1 q hq k hk
  · have m := h.2.2.2
    unfold MX at m ⊢
    rw [upa_ne (show 76 ≠ b by omega), upa_ne (show 77 ≠ b by omega)]
    exact m
theorem mo_hips (hk : KO s) (hU : ∀ k, k < 6 → s 7 k = -1) : ∀ (n fu i : Nat) (l h : Int) (ft : Nat → Int) (z f : Nat → Nat → Int32), i + n = (s 8 0).toNat → n < fu → (0 ≤ l ∧ l ≤ 9) → (0 ≤ h ∧ h ≤ 9) → MS s z f → (∀ k, k < 6 → ft k = if k < i then hipS s k else -1) → (∀ k, k < i → hipS s k ≠ -1) → (∀ j k, j < k → k < i → hipS s j ≠ hipS s k) → (∀ k, k < i → f 74 k = iv (hxS s k) ∧ f 75 k = iv (hyS s k)) → ∃ z' f', g_X11_canRise_l37 fu 1 (iv l) (iv h) (iv i) z f = some (if hbN s n i l h ft then 1 else 0, z', f') ∧ MS s z' f' ∧ Fc z f z' f' := by
  have h8 := ko_8 hk
  have hB := ko_bd hk
  have bx : ∀ k, k < 6 → -10 ≤ hxS s k ∧ hxS s k ≤ 30 := fun k hk6 => by
    have := bd_leg hB hk6
    unfold hxS; omega
  have by_ : ∀ k, k < 6 → -10 ≤ hyS s k ∧ hyS s k ≤ 30 := fun k hk6 => by
    have := bd_leg hB hk6
    unfold hyS; omega
  have ptH : ∀ k, hipS s k ≠ -1 → nB (hipS s k) ∧ pt (hipS s k) = (hxS s k, hyS s k) := fun k hne => by
    have := (paS_cs (hxS s k) (hyS s k)).resolve_left (fun q => hne q.1)
    exact ⟨this.1, this.2.1⟩
  intro n
  induction n with
  | zero =>
    intro fu i l h ft z f hi hf hl hh hM hft hp hd h74
    obtain ⟨fu, rfl⟩ : ∃ x, fu = x + 1 := ⟨fu - 1, by omega⟩
    rw [g_X11_canRise_l37, mz hM.1 11 0, if_pos ((iv_le (by omega) (by omega)).mpr (by omega))]
    unfold g_X11_canRise_b230 hbN
    rw [if_neg (by decide), iv_sub, mz hM.1 11 0]
    have e2 : ((2 : Int32) < iv (h - l)) ↔ 2 < h - l := iv_lt (a := 2) (by decide) (by omega)
    by_cases c : 2 < h - l
    · rw [if_pos (e2.mpr c), decide_eq_false (by omega)]
      exact ⟨z, f, rfl, hM, fc_rf⟩
    · rw [if_neg (fun e => c (e2.mp e)), decide_eq_true (by omega), Bool.true_and]
      have emk : ((1 : Int32) <<< (iv (s 8 0) &&& 31)) - 1 = mk (dnS (ur s 7 ft)) := by
        have := mk_full (s 8 0).toNat (by omega)
        rw [show (((s 8 0).toNat : Nat) : Int) = s 8 0 by omega] at this
        rw [this]
        refine mk_cg fun k hk6 => ?_
        unfold dnS
        rw [ur_at, hft k hk6]
        by_cases q : k < i
        · rw [if_pos q, decide_eq_true (by omega), decide_eq_true (hp k q)]
        · rw [if_neg q, decide_eq_false (by omega)]; rfl
      have bdT : BD (ur s 7 ft) := ⟨hB.1, hB.2.1, hB.2.2.1, fun k hk6 => by
        rw [ur_at, hft k hk6]
        by_cases q : k < i
        · rw [if_pos q]; exact Or.inr (ptH k (hp k q)).1
        · rw [if_neg q]; exact Or.inl rfl⟩
      have dsT : DS (ur s 7 ft) := fun j k hj hk6 h1 h2 => by
        rw [ur_at, hft j hj] at h1
        rw [ur_at, hft j hj, hft k hk6] at h2
        by_cases q : j < i
        · rw [if_pos q] at h1 h2
          by_cases r : k < i
          · rw [if_pos r] at h2
            rcases Nat.lt_trichotomy j k with t | t | t
            · exact absurd h2 (hd j k t r)
            · exact t
            · exact absurd h2.symm (hd k j t q)
          · rw [if_neg r] at h2; exact absurd h2 h1
        · rw [if_neg q] at h1; exact absurd rfl h1
      have fxT : FX (ur s 7 ft) f := fun k hk6 hne => by
        rw [ur_at, hft k hk6] at hne ⊢
        by_cases q : k < i
        · rw [if_pos q, (ptH k (hp k q)).2]; exact h74 k q
        · rw [if_neg q] at hne; exact absurd rfl hne
      obtain ⟨z1, f1, e, j⟩ := mo_holds bdT dsT (lm_ur7 hM.1) fxT
      rw [emk, e, bn3_some]
      by_cases d : stB (ur s 7 ft) (-1) = true
      · rw [if_pos d, if_neg (by decide)]
        exact ⟨z1, f1, rfl, mj_ms j hM, mj_fc j⟩
      · rw [if_neg d, if_pos rfl]
        exact ⟨z1, f1, rfl, mj_ms j hM, mj_fc j⟩
  | succ n ih =>
    intro fu i l h ft z f hi hf hl hh hM hft hp hd h74
    obtain ⟨fu, rfl⟩ : ∃ x, fu = x + 1 := ⟨fu - 1, by omega⟩
    have hi6 : i < 6 := by omega
    have b1 := bx i hi6
    have b2 := by_ i hi6
    have hM2 : MS s z (upf (upf f 74 i (iv (hxS s i))) 75 i (iv (hyS s i))) := by
      rw [upf_up, upf_up]
      exact ms_up (Or.inr rfl) hU (ms_up (Or.inl rfl) hU hM)
    have c2 : Fc z f z (upf (upf f 74 i (iv (hxS s i))) 75 i (iv (hyS s i))) := fc_tr (fc_f (by decide)) (fc_f (by decide))
    have e74 : ∀ k, k ≤ i → upf (upf f 74 i (iv (hxS s i))) 75 i (iv (hyS s i)) 74 k = iv (hxS s k) := fun k hk1 => by
      rw [upf_up, upa_ne (by decide), upf_up, upa_same]
      by_cases q : k = i
      · rw [q, upd_at]
      · rw [upd_ne q]; exact (h74 k (by omega)).1
    have e75 : ∀ k, k ≤ i → upf (upf f 74 i (iv (hxS s i))) 75 i (iv (hyS s i)) 75 k = iv (hyS s k) := fun k hk1 => by
      rw [upf_up, upa_same, upf_up, upa_ne (by decide)]
      by_cases q : k = i
      · rw [q, upd_at]
      · rw [upd_ne q]; exact (h74 k (by omega)).2
    have x71 : (iv (s 8 4) + iv (s 4 i) : Int32) = iv (hxS s i) := iv_add _ _
    have x72 : (iv (s 8 5) + iv (s 5 i) : Int32) = iv (hyS s i) := iv_add _ _
    have u72 : upf f 74 i (iv (hxS s i)) 72 i = iv (s 5 i) := by
      rw [upf_up, upa_ne (by decide)]; exact ma hM.1 72 5 6 (by decide) i hi6
    rw [g_X11_canRise_l37, mz hM.1 11 0, if_neg (fun e => by have := (iv_le (by omega) (by omega)).mp e; omega), if_neg (by decide)]
    simp only [ix_iv hi6 (show 6 < 1000 by decide), Option.bind_some, lt2_e, mz hM.1 5 4, mz hM.1 6 5, ma hM.1 71 4 6 (by decide) i hi6, x71, u72, x72]
    rw [e74 i (Nat.le_refl _), e75 i (Nat.le_refl _), mo_isPt (by omega) (by omega), Option.bind_some]
    obtain ⟨c, hc, e⟩ := mo_109 (z := z) (k37 := fun y0 y1 y2 y3 z f => g_X11_canRise_l37 fu y0 y1 y2 y3 z f) hi6 (fun k hk1 => bx k (by omega)) (fun k hk1 => by_ k (by omega)) e74 e75 (i2 := iv l) (i3 := iv h) i FU 0 (decide (hipS s i ≠ -1)) (by omega) (by show _ < 2000; omega)
    have ed : (if decide (hipS s i ≠ -1) = true then (1 : Int32) else 0) = if paS (hxS s i) (hyS s i) ≠ -1 then 1 else 0 := by
      unfold hipS
      by_cases q : paS (hxS s i) (hyS s i) = -1
      · simp [q]
      · simp [q]
    rw [ed, show iv ((0 : Nat) : Int) = (0 : Int32) from rfl] at e
    rw [e]
    have stop : ∀ {y1 y2 y3 : Int32}, g_X11_canRise_l37 fu 0 y1 y2 y3 z (upf (upf f 74 i (iv (hxS s i))) 75 i (iv (hyS s i))) = some (0, z, upf (upf f 74 i (iv (hxS s i))) 75 i (iv (hyS s i))) := fun {y1 y2 y3} => by
      obtain ⟨fu, rfl⟩ : ∃ x, fu = x + 1 := ⟨fu - 1, by omega⟩
      rw [g_X11_canRise_l37, if_pos rfl, ite_self]
      unfold g_X11_canRise_b230
      rw [if_pos rfl]
    unfold g_X11_canRise_b166 g_X11_canRise_b196 g_X11_canRise_b210 g_X11_canRise_b223
    unfold hbN
    by_cases d : c = true
    · obtain ⟨d1, d2⟩ := hc.mp d
      have hne : hipS s i ≠ -1 := of_decide_eq_true d1
      obtain ⟨hn, hpt⟩ := ptH i hne
      have hap : ∀ j, j < i → hipS s j ≠ hipS s i := fun j hj q => d2 j (Nat.zero_le _) hj (by
        have a := (ptH j (hp j hj)).2
        rw [q, hpt] at a
        exact ⟨(congrArg Prod.fst a).symm, (congrArg Prod.snd a).symm⟩)
      have hnt : ¬ (hipS s i = -1 ∨ tkS ft (hipS s i) (-1) = true) := by
        rintro (q | q)
        · exact hne q
        · obtain ⟨j, -, hj6, -, hj⟩ := (tkN_iff 6 0).mp q
          rw [hft j (by omega)] at hj
          by_cases r : j < i
          · rw [if_pos r] at hj; exact hap j r hj
          · rw [if_neg r] at hj; exact hne hj.symm
      have mb : 0 ≤ s 3 (hipS s i).toNat ∧ s 3 (hipS s i).toNat ≤ 9 := hk 3 _
      have ea : g_X11_at (iv (hxS s i)) (iv (hyS s i)) z (upf (upf f 74 i (iv (hxS s i))) 75 i (iv (hyS s i))) = some (iv ((hipS s i).toNat : Nat)) := mo_at2 hn
      rw [if_pos d, if_neg (by decide), if_neg hnt, ix_iv hi6 (by decide), Option.bind_some, Option.bind_some, e74 i (Nat.le_refl _), e75 i (Nat.le_refl _), ea, Option.bind_some, ix_iv (nB_nat hn).2 (by decide), Option.bind_some, ma hM2.1 70 3 400 (by decide) _ (nB_nat hn).2, iv_1]
      have nx := ih fu (i + 1) (min l (s 3 (hipS s i).toNat)) (max h (s 3 (hipS s i).toNat)) (upI ft i (hipS s i)) z _ (by omega) (by omega) (by omega) (by omega) hM2 (fun k hk6 => by
        unfold upI
        by_cases q : k = i
        · rw [if_pos q, if_pos (by omega), q]
        · rw [if_neg q, hft k hk6]
          by_cases r : k < i
          · rw [if_pos r, if_pos (by omega)]
          · rw [if_neg r, if_neg (by omega)]) (fun k hk1 => by
        by_cases q : k = i
        · rw [q]; exact hne
        · exact hp k (by omega)) (fun j k hj hk1 => by
        by_cases q : k = i
        · rw [q]; exact hap j (by omega)
        · exact hd j k hj (by omega)) (fun k hk1 => ⟨e74 k (by omega), e75 k (by omega)⟩)
      have el : (iv l ≤ iv (s 3 (hipS s i).toNat)) ↔ l ≤ s 3 (hipS s i).toNat := iv_le (by omega) (by omega)
      have eh : (iv (s 3 (hipS s i).toNat) ≤ iv h) ↔ s 3 (hipS s i).toNat ≤ h := iv_le (by omega) (by omega)
      have res : ∀ {L H : Int32}, L = iv (min l (s 3 (hipS s i).toNat)) → H = iv (max h (s 3 (hipS s i).toNat)) → ∃ z' f', g_X11_canRise_l37 fu 1 L H (iv ((i + 1 : Nat) : Int)) z (upf (upf f 74 i (iv (hxS s i))) 75 i (iv (hyS s i))) = some (if hbN s n (i + 1) (min l (s 3 (hipS s i).toNat)) (max h (s 3 (hipS s i).toNat)) (upI ft i (hipS s i)) = true then 1 else 0, z', f') ∧ MS s z' f' ∧ Fc z f z' f' := fun {L H} h1 h2 => by
        subst h1; subst h2
        obtain ⟨z', f', a1, a2, a3⟩ := nx
        exact ⟨z', f', a1, a2, fc_tr c2 a3⟩
      by_cases q1 : l ≤ s 3 (hipS s i).toNat
      · rw [if_pos (el.mpr q1)]
        by_cases q2 : s 3 (hipS s i).toNat ≤ h
        · rw [if_pos (eh.mpr q2)]
          exact res (by congr 1; omega) (by congr 1; omega)
        · rw [if_neg (fun q => q2 (eh.mp q))]
          exact res (by congr 1; omega) (by congr 1; omega)
      · rw [if_neg (fun q => q1 (el.mp q))]
        by_cases q2 : s 3 (hipS s i).toNat ≤ h
        · rw [if_pos (eh.mpr q2)]
          exact res (by congr 1; omega) (by congr 1; omega)
        · rw [if_neg (fun q => q2 (eh.mp q))]
          exact res (by congr 1; omega) (by congr 1; omega)
    · have hnt : hipS s i = -1 ∨ tkS ft (hipS s i) (-1) = true := by
        apply Classical.byContradiction
        intro q
        refine d (hc.mpr ⟨decide_eq_true (fun e => q (Or.inl e)), fun j _ hj r => q (Or.inr ?_)⟩)
        refine (tkN_iff 6 0).mpr ⟨j, Nat.zero_le _, by omega, by omega, ?_⟩
        rw [hft j (by omega), if_pos hj]
        unfold hipS
        rw [r.1, r.2]
      have d0 : c = false := by simpa using d
      subst d0
      rw [if_pos hnt, show (if false = true then (1 : Int32) else 0) = 0 from rfl, if_pos rfl]
      have fin : ∀ {y1 y2 y3 : Int32}, ∃ z' f', g_X11_canRise_l37 fu 0 y1 y2 y3 z (upf (upf f 74 i (iv (hxS s i))) 75 i (iv (hyS s i))) = some (0, z', f') ∧ MS s z' f' ∧ Fc z f z' f' := fun {y1 y2 y3} => ⟨_, _, stop, hM2, c2⟩
      split <;> split <;> exact fin
theorem mo_canRise {n : Int} (hW : WF n s) (h : MS s z f) : ∃ z' f', g_X11_canRise z f = some (if riP s then 1 else 0, z', f') ∧ MS s z' f' ∧ Fc z f z' f' := by
  have hk := hW.1.1
  have h8 := ko_8 hk
  have no : ¬ riP s → ∃ z' f', g_X11_canRise_b27 z f = some (if riP s then 1 else 0, z', f') ∧ MS s z' f' ∧ Fc z f z' f' := fun hp => by
    unfold g_X11_canRise_b27 g_X11_canRise_b28
    have e : g_X11_canRise_l37 FU 0 9 0 0 z f = some (0, z, f) := by
      show g_X11_canRise_l37 (1999 + 1) 0 9 0 0 z f = _
      rw [g_X11_canRise_l37, if_pos rfl, ite_self]
      unfold g_X11_canRise_b230
      rw [if_pos rfl]
    rw [e, if_neg hp]
    exact ⟨z, f, rfl, h, fc_rf⟩
  unfold g_X11_canRise
  rw [mz h.1 4 6, mz h.1 7 7, mz h.1 11 0]
  have e20 : (iv (s 8 7) < (20 : Int32)) ↔ s 8 7 < 20 := iv_lt (b := 20) (by omega) (by decide)
  have e0 : (iv (s 8 0) ≤ (0 : Int32)) ↔ s 8 0 ≤ 0 := iv_le (b := 0) (by omega) (by decide)
  by_cases c : s 8 6 = 0
  · rw [if_pos ((z_iv (by omega)).mpr c)]
    by_cases d : s 8 7 < 20
    · rw [if_pos (e20.mpr d)]
      exact no (fun q => by have := q.2.1; omega)
    · rw [if_neg (fun e => d (e20.mp e))]
      have hU := hW.2.2.1 c
      by_cases g : s 8 0 ≤ 0
      · rw [if_pos (e0.mpr g)]
        refine no (fun q => ?_)
        have hs := (hb_facts hk q.2.2).2
        have : stB (ur s 7 (fun k => if k < (s 8 0).toNat then hipS s k else s 7 k)) (-1) = false := by
          unfold stB
          rw [← Bool.not_eq_true, inB_iff]
          have : flP (ur s 7 (fun k => if k < (s 8 0).toNat then hipS s k else s 7 k) 7) (-1) = [] := by
            refine List.eq_nil_iff_forall_not_mem.mpr fun a ha => ?_
            obtain ⟨b, hb, -⟩ := List.mem_map.mp ha
            obtain ⟨k, h1, h2, h3, h4, h5⟩ := (flN_mem 6 0).mp hb
            rw [ur_at, if_neg (by omega)] at h4
            exact h4 (hU k (by omega))
          rw [this]
          exact inP_nil
        rw [this] at hs
        cases hs
      · rw [if_neg (fun e => g (e0.mp e))]
        obtain ⟨z1, f1, e1, m1, c1⟩ := mo_hips hk hU (s 8 0).toNat FU 0 9 0 (s 7) z f (by omega) (by show _ < 2000; omega) (by decide) (by decide) h (fun k hk6 => by rw [if_neg (Nat.not_lt_zero k)]; exact hU k hk6) (fun k hk => absurd hk (Nat.not_lt_zero k)) (fun j k _ hk => absurd hk (Nat.not_lt_zero k)) (fun k hk => absurd hk (Nat.not_lt_zero k))
        unfold g_X11_canRise_b28
        rw [show iv 9 = (9 : Int32) from rfl, show iv 0 = (0 : Int32) from rfl, show iv ((0 : Nat) : Int) = (0 : Int32) from rfl] at e1
        have er : riP s ↔ hbN s (s 8 0).toNat 0 9 0 (s 7) = true := ⟨fun q => q.2.2, fun q => ⟨c, by omega, q⟩⟩
        refine ⟨z1, f1, e1.trans ?_, m1, c1⟩
        simp only [er]
  · rw [if_neg (fun e => c ((z_iv (by omega)).mp e))]
    exact no (fun q => c q.1)
end
