/-! done: whether the hips bear -/
section
variable {s : MSt} {z f : Nat → Nat → Int32}
def aH (s : MSt) (k : Nat) : Int := s 3 (hipS s k).toNat
theorem hb_lv : ∀ (n i : Nat) (l h : Int) (ft : Nat → Int), hbN s n i l h ft = true → h - l ≤ 2 ∧ ∀ k, i ≤ k → k < i + n → aH s k - l ≤ 2 ∧ h - aH s k ≤ 2 ∧ ∀ j, i ≤ j → j < i + n → aH s j - aH s k ≤ 2
  | 0, i, l, h, ft, hb => by
    unfold hbN at hb
    rw [Bool.and_eq_true] at hb
    exact ⟨of_decide_eq_true hb.1, fun k h1 h2 => by omega⟩
  | n + 1, i, l, h, ft, hb => by
    unfold hbN at hb
    by_cases c : hipS s i = -1 ∨ tkS ft (hipS s i) (-1) = true
    · rw [if_pos c] at hb; cases hb
    · rw [if_neg c] at hb
      obtain ⟨h0, h1⟩ := hb_lv n (i + 1) _ _ _ hb
      have ea : s 3 (hipS s i).toNat = aH s i := rfl
      rw [ea] at h0 h1
      refine ⟨by omega, fun k hk1 hk2 => ?_⟩
      by_cases e : k = i
      · subst e
        refine ⟨by omega, by omega, fun j hj1 hj2 => ?_⟩
        by_cases e : j = k
        · subst e; omega
        · have := (h1 j (by omega) (by omega)).1
          omega
      · obtain ⟨q1, q2, q3⟩ := h1 k (by omega) (by omega)
        refine ⟨by omega, by omega, fun j hj1 hj2 => ?_⟩
        by_cases e : j = i
        · subst e; omega
        · exact q3 j (by omega) (by omega)
theorem hb_of : ∀ (n i : Nat) (l h : Int) (ft : Nat → Int), i + n ≤ 6 → (∀ k, i ≤ k → k < i + n → hipS s k ≠ -1 ∧ ∀ j, j < 6 → (if i ≤ j ∧ j < k then hipS s j else ft j) ≠ hipS s k) → stB (ur s 7 (fun k => if i ≤ k ∧ k < i + n then hipS s k else ft k)) (-1) = true → h - l ≤ 2 → (∀ k, i ≤ k → k < i + n → aH s k - l ≤ 2 ∧ h - aH s k ≤ 2 ∧ ∀ j, i ≤ j → j < i + n → aH s j - aH s k ≤ 2) → hbN s n i l h ft = true
  | 0, i, l, h, ft, _, _, hs, hl, _ => by
    unfold hbN
    rw [Bool.and_eq_true]
    refine ⟨decide_eq_true hl, ?_⟩
    rw [show (fun k => if i ≤ k ∧ k < i + 0 then hipS s k else ft k) = ft from funext fun k => if_neg (by omega)] at hs
    exact hs
  | n + 1, i, l, h, ft, hi, hh, hs, hl, ha => by
    unfold hbN
    have p := hh i (Nat.le_refl _) (by omega)
    have c : ¬ (hipS s i = -1 ∨ tkS ft (hipS s i) (-1) = true) := by
      rintro (q | q)
      · exact p.1 q
      · obtain ⟨j, -, hj, -, e⟩ := (tkN_iff 6 0).mp q
        have := p.2 j (by omega)
        rw [if_neg (by omega)] at this
        exact this e
    rw [if_neg c]
    have ea : s 3 (hipS s i).toNat = aH s i := rfl
    rw [ea]
    have a0 := ha i (Nat.le_refl _) (by omega)
    refine hb_of n (i + 1) _ _ _ (by omega) (fun k h1 h2 => ?_) ?_ (by omega) (fun k h1 h2 => ?_)
    · obtain ⟨q1, q2⟩ := hh k (by omega) (by omega)
      refine ⟨q1, fun j hj => ?_⟩
      have := q2 j hj
      unfold upI
      by_cases c1 : i + 1 ≤ j ∧ j < k
      · rw [if_pos c1]; rw [if_pos (by omega)] at this; exact this
      · rw [if_neg c1]
        by_cases c2 : j = i
        · rw [if_pos c2]; rw [if_pos (by omega), c2] at this; exact this
        · rw [if_neg c2]; rw [if_neg (by omega)] at this; exact this
    · rw [show (fun k => if i + 1 ≤ k ∧ k < i + 1 + n then hipS s k else upI ft i (hipS s i) k) = (fun k => if i ≤ k ∧ k < i + (n + 1) then hipS s k else ft k) from funext fun k => by
        unfold upI
        by_cases c1 : i + 1 ≤ k ∧ k < i + 1 + n
        · rw [if_pos c1, if_pos (by omega)]
        · rw [if_neg c1]
          by_cases c2 : k = i
          · rw [if_pos c2, if_pos (by omega), c2]
          · rw [if_neg c2, if_neg (by omega)]]
      exact hs
    · obtain ⟨q1, q2, q3⟩ := ha k (by omega) (by omega)
      have r1 := q3 i (Nat.le_refl _) (by omega)
      have r2 := a0.2.2 k (by omega) (by omega)
      exact ⟨by omega, by omega, fun j hj1 hj2 => q3 j (by omega) (by omega)⟩
def okH (s : MSt) (n : Nat) : Prop := ∀ k, k < n → hipS s k ≠ -1 ∧ ∀ j, j < k → hipS s j ≠ hipS s k ∧ -2 ≤ aH s k - aH s j ∧ aH s k - aH s j ≤ 2
def tgS (s : MSt) : MSt := ur s 7 (fun k => if k < (s 8 0).toNat then hipS s k else s 7 k)
theorem hb_ok (hk : KO s) (hu : ∀ k, k < 6 → s 7 k = -1) : hbS s = true ↔ okH s (s 8 0).toNat ∧ stB (tgS s) (-1) = true := by
  have h8 := ko_8 hk
  have b3 : ∀ k, 0 ≤ aH s k ∧ aH s k ≤ 9 := fun k => hk 3 _
  have et : ur s 7 (fun k => if 0 ≤ k ∧ k < 0 + (s 8 0).toNat then hipS s k else s 7 k) = tgS s := by
    unfold tgS
    congr 1
    funext k
    by_cases c : k < (s 8 0).toNat
    · rw [if_pos c, if_pos (by omega)]
    · rw [if_neg c, if_neg (by omega)]
  unfold hbS
  constructor
  · intro h
    obtain ⟨h1, h2⟩ := hb_spec _ _ _ _ _ (by omega) h
    obtain ⟨-, h3⟩ := hb_lv _ _ _ _ _ h
    rw [et] at h2
    refine ⟨fun k hk => ?_, h2⟩
    obtain ⟨q1, q2⟩ := h1 k (by omega) (by omega)
    refine ⟨q1, fun j hj => ⟨?_, ?_, ?_⟩⟩
    · have := q2 j (by omega)
      rw [if_pos (by omega)] at this
      exact this
    · have := (h3 k (by omega) (by omega)).2.2 j (by omega) (by omega)
      omega
    · have := (h3 j (by omega) (by omega)).2.2 k (by omega) (by omega)
      omega
  · rintro ⟨h1, h2⟩
    rw [← et] at h2
    refine hb_of _ _ _ _ _ (by omega) (fun k _ hk' => ?_) h2 (by decide) (fun k _ hk' => ?_)
    · obtain ⟨q1, q2⟩ := h1 k (by omega)
      refine ⟨q1, fun j hj => ?_⟩
      by_cases c : 0 ≤ j ∧ j < k
      · rw [if_pos c]; exact (q2 j c.2).1
      · rw [if_neg c, hu j hj]; exact fun e => q1 e.symm
    · have := b3 k
      refine ⟨by omega, by omega, fun j _ hj => ?_⟩
      rcases Nat.lt_trichotomy j k with c | c | c
      · have := (h1 k (by omega)).2 j c; omega
      · subst c; omega
      · have := (h1 j (by omega)).2 k c; omega
theorem lm_cg {f' : Nat → Nat → Int32} (h : LM s f) (hf : ∀ b, b ≠ 70 → b ≠ 71 → f' b = f b) : LM s f' := by
  obtain ⟨⟨a1, a2, a3, a4⟩, l, g⟩ := h
  refine ⟨⟨fun q hq => ?_, fun q hq => ?_, fun q hq => ?_, fun q hq => ?_⟩, fun k hk hl => ?_, fun q hq => ?_⟩
  · rw [h4_cg (hf 66 (by decide) (by decide))]; exact a1 q hq
  · rw [h4_cg (hf 66 (by decide) (by decide))]; exact a2 q hq
  · rw [h4_cg (hf 67 (by decide) (by decide))]; exact a3 q hq
  · rw [h8_cg (hf 68 (by decide) (by decide))]; exact a4 q hq
  · rw [hf 69 (by decide) (by decide)]; exact l k hk hl
  · rw [hf 74 (by decide) (by decide)]; exact g q hq
theorem lm_ur {g : Nat → Int} (h : LM s f) : LM (ur s 7 g) f := by
  obtain ⟨⟨a1, a2, a3, a4⟩, l, q⟩ := h
  have n : ∀ b, b ≠ 7 → ur s 7 g b = s b := fun b hb => ur_na hb
  refine ⟨⟨?_, ?_, ?_, ?_⟩, fun j hj hl => ?_, fun c hc => ?_⟩
  · rw [n 0 (by decide)]; exact a1
  · rw [n 3 (by decide)]; exact a2
  · rw [n 2 (by decide)]; exact a3
  · rw [n 1 (by decide)]; exact a4
  · rw [n 8 (by decide)] at hl
    rw [l j hj hl]
    unfold legV
    rw [n 4 (by decide), n 5 (by decide), n 6 (by decide)]
  · rw [n 8 (by decide)]; exact q c hc
theorem hip_pt {k : Nat} (h : hipS s k ≠ -1) : nB (hipS s k) ∧ (pt (hipS s k)).1 = hxS s k ∧ (pt (hipS s k)).2 = hyS s k := by
  rcases paS_cs (hxS s k) (hyS s k) with ⟨q, -⟩ | ⟨hp, hpt, -⟩
  · exact absurd q h
  · exact ⟨hp, congrArg Prod.fst hpt, congrArg Prod.snd hpt⟩
theorem la_355 {k294 : Int32 → Int32 → (Nat → Nat → Int32) → (Nat → Nat → Int32) → Option (Int32 × (Nat → Nat → Int32) × (Nat → Nat → Int32))} (hk : KO s) (hL : LM s f) {k : Nat} (hk6 : k < 6) : ∀ (m fu j : Nat) (b : Bool), j + m = k → m < fu → (b = true → ∀ i, i ≤ k → hipS s i ≠ -1 ∧ f 70 i = iv (hxS s i) ∧ f 71 i = iv (hyS s i)) → ∃ c : Bool, g_L_isDone_l355 k294 fu (if b then 1 else 0) (iv k) (iv j) z f = k294 (if c then 1 else 0) (iv ((k + 1 : Nat) : Int)) z f ∧ (c = true ↔ b = true ∧ ∀ i, j ≤ i → i < k → hipS s i ≠ hipS s k ∧ -2 ≤ aH s k - aH s i ∧ aH s k - aH s i ≤ 2) := by
  intro m
  have out : ∀ {fu j : Nat}, g_L_isDone_l355 k294 (fu + 1) (if false then 1 else 0) (iv k) (iv j) z f = k294 (if false then 1 else 0) (iv ((k + 1 : Nat) : Int)) z f := fun {fu j} => by
    rw [g_L_isDone_l355]
    unfold g_L_isDone_b466
    rw [iv_1]
    split
    · rfl
    · rw [if_pos (show (if false = true then (1 : Int32) else 0) = 0 from rfl)]
  induction m with
  | zero =>
    intro fu j b hj hf hb
    obtain ⟨fu, rfl⟩ : ∃ x, fu = x + 1 := ⟨fu - 1, by omega⟩
    refine ⟨b, ?_, fun q => ⟨q, fun i h1 h2 => by omega⟩, fun q => q.1⟩
    rw [g_L_isDone_l355, if_pos ((iv_le (ibn (by omega)) (ibn (by omega))).mpr (by omega))]
    unfold g_L_isDone_b466
    rw [iv_1]
  | succ m ih =>
    intro fu j b hj hf hb
    obtain ⟨fu, rfl⟩ : ∃ x, fu = x + 1 := ⟨fu - 1, by omega⟩
    cases b with
    | false => exact ⟨false, out, ⟨fun q => absurd q (by decide), fun q => absurd q.1 (by decide)⟩⟩
    | true =>
      obtain ⟨cF, eF, iF⟩ := ih fu (j + 1) false (by omega) (by omega) (fun q => by cases q)
      obtain ⟨cT, eT, iT⟩ := ih fu (j + 1) true (by omega) (by omega) hb
      have nF : ¬ cF = true := fun q => by cases (iF.mp q).1
      have hb' := hb rfl
      obtain ⟨pk, xk, yk⟩ := hb' k (Nat.le_refl _)
      obtain ⟨pj, xj, yj⟩ := hb' j (by omega)
      obtain ⟨nk, k1, k2⟩ := hip_pt pk
      obtain ⟨nj, j1, j2⟩ := hip_pt pj
      rw [← k1] at xk
      rw [← k2] at yk
      rw [← j1] at xj
      rw [← j2] at yj
      have bk : 0 ≤ aH s k ∧ aH s k ≤ 9 := hk 3 _
      have bj : 0 ≤ aH s j ∧ aH s j ≤ 9 := hk 3 _
      have al : (∀ i, j ≤ i → i < k → hipS s i ≠ hipS s k ∧ -2 ≤ aH s k - aH s i ∧ aH s k - aH s i ≤ 2) ↔ (hipS s j ≠ hipS s k ∧ -2 ≤ aH s k - aH s j ∧ aH s k - aH s j ≤ 2) ∧ ∀ i, j + 1 ≤ i → i < k → hipS s i ≠ hipS s k ∧ -2 ≤ aH s k - aH s i ∧ aH s k - aH s i ≤ 2 := by
        constructor
        · intro h
          exact ⟨h j (Nat.le_refl _) (by omega), fun i h1 => h i (by omega)⟩
        · rintro ⟨h0, h1⟩ i hi
          rcases Nat.lt_or_eq_of_le hi with q | q
          · exact h1 i q
          · subst q; exact fun _ => h0
      have bad : ¬ (hipS s j ≠ hipS s k ∧ -2 ≤ aH s k - aH s j ∧ aH s k - aH s j ≤ 2) → ∃ c : Bool, g_L_isDone_b457 k294 (fun y0 y1 y2 z f => g_L_isDone_l355 k294 fu y0 y1 y2 z f) (iv k) (iv j) z f = k294 (if c then 1 else 0) (iv ((k + 1 : Nat) : Int)) z f ∧ (c = true ↔ True ∧ ∀ i, j ≤ i → i < k → hipS s i ≠ hipS s k ∧ -2 ≤ aH s k - aH s i ∧ aH s k - aH s i ≤ 2) := fun q => by
        refine ⟨cF, ?_, fun w => absurd w nF, fun w => absurd (al.mp w.2).1 q⟩
        unfold g_L_isDone_b457 g_L_isDone_b458
        rw [iv_1]
        exact eF
      have good : hipS s j ≠ hipS s k ∧ -2 ≤ aH s k - aH s j ∧ aH s k - aH s j ≤ 2 → ∃ c : Bool, g_L_isDone_b453 k294 (fun y0 y1 y2 z f => g_L_isDone_l355 k294 fu y0 y1 y2 z f) (iv k) (iv j) z f = k294 (if c then 1 else 0) (iv ((k + 1 : Nat) : Int)) z f ∧ (c = true ↔ True ∧ ∀ i, j ≤ i → i < k → hipS s i ≠ hipS s k ∧ -2 ≤ aH s k - aH s i ∧ aH s k - aH s i ≤ 2) := fun q => by
        refine ⟨cT, ?_, iT.trans ?_⟩
        · unfold g_L_isDone_b453 g_L_isDone_b458
          rw [iv_1]
          exact eT
        · rw [al]
          exact ⟨fun w => ⟨trivial, q, w.2⟩, fun w => ⟨rfl, w.2.2⟩⟩
      rw [g_L_isDone_l355, if_neg (fun e => by have := (iv_le (ibn (by omega)) (ibn (by omega))).mp e; omega), if_neg (show ¬ (if true = true then (1 : Int32) else 0) = 0 by decide), ix_iv hk6 (by decide), ix_iv (show j < 6 by omega) (by decide)]
      simp only [Option.bind_some]
      rw [xk, yk, xj, yj, la_at4 nk, la_at4 nj, la_four (by decide) (by have := (nB_nat nk).2; omega), Option.bind_some, la_four (by decide) (by have := (nB_nat nj).2; omega), Option.bind_some, hL.1.2.1 _ (nB_nat nk).2, hL.1.2.1 _ (nB_nat nj).2, iv_sub, show s 3 (hipS s k).toNat - s 3 (hipS s j).toNat = aH s k - aH s j from rfl]
      have e1 : ((3 : Int32) ≤ iv (aH s k - aH s j)) ↔ 3 ≤ aH s k - aH s j := iv_le (a := 3) (by decide) (ib_s (by omega))
      have e2 : (iv (aH s k - aH s j) ≤ iv (-3)) ↔ aH s k - aH s j ≤ -3 := iv_le (b := -3) (ib_s (by omega)) (by decide)
      rw [show iv (-3) = (-3 : Int32) from rfl] at e2
      by_cases c1 : 3 ≤ aH s k - aH s j
      · rw [if_pos (e1.mpr c1)]
        exact bad (fun q => by omega)
      rw [if_neg (fun e => c1 (e1.mp e))]
      by_cases c2 : aH s k - aH s j ≤ -3
      · rw [if_pos (e2.mpr c2)]
        exact bad (fun q => by omega)
      rw [if_neg (fun e => c2 (e2.mp e))]
      have hkb := pt_bd nk
      have hjb := pt_bd nj
      have e3 : (iv (pt (hipS s j)).1 = iv (pt (hipS s k)).1) ↔ (pt (hipS s j)).1 = (pt (hipS s k)).1 := iv_eq (ib_s (by omega)) (ib_s (by omega))
      have e4 : (iv (pt (hipS s j)).2 = iv (pt (hipS s k)).2) ↔ (pt (hipS s j)).2 = (pt (hipS s k)).2 := iv_eq (ib_s (by omega)) (ib_s (by omega))
      by_cases c3 : (pt (hipS s j)).1 = (pt (hipS s k)).1
      · rw [if_pos (e3.mpr c3)]
        by_cases c4 : (pt (hipS s j)).2 = (pt (hipS s k)).2
        · rw [if_pos (e4.mpr c4)]
          exact bad (fun q => q.1 (pt_inj (Prod.ext c3 c4)))
        · rw [if_neg (fun e => c4 (e4.mp e))]
          exact good ⟨fun e => c4 (by rw [e]), by omega, by omega⟩
      · rw [if_neg (fun e => c3 (e3.mp e))]
        exact good ⟨fun e => c3 (by rw [e]), by omega, by omega⟩
end
