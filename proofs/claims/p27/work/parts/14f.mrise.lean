/-! getting up -/
section
variable {s : MSt} {z f : Nat → Nat → Int32}
theorem hb_spec : ∀ n i l h ft, i + n ≤ 6 → hbN s n i l h ft = true → (∀ k, i ≤ k → k < i + n → hipS s k ≠ -1 ∧ ∀ j, j < 6 → (if i ≤ j ∧ j < k then hipS s j else ft j) ≠ hipS s k) ∧ stB (ur s 7 (fun k => if i ≤ k ∧ k < i + n then hipS s k else ft k)) (-1) = true
  | 0, i, l, h, ft, _, hb => by
    unfold hbN at hb
    rw [Bool.and_eq_true] at hb
    refine ⟨fun k h1 h2 => by omega, ?_⟩
    have : (fun k => if i ≤ k ∧ k < i + 0 then hipS s k else ft k) = ft := funext fun k => if_neg (by omega)
    rw [this]
    exact hb.2
  | n + 1, i, l, h, ft, hi, hb => by
    unfold hbN at hb
    by_cases c : hipS s i = -1 ∨ tkS ft (hipS s i) (-1) = true
    · rw [if_pos c] at hb; cases hb
    · rw [if_neg c] at hb
      obtain ⟨h1, h2⟩ := hb_spec n (i + 1) _ _ _ (by omega) hb
      have ct : tkS ft (hipS s i) (-1) = false := by
        rw [← Bool.not_eq_true]; exact fun e => c (Or.inr e)
      constructor
      · intro k hk1 hk2
        by_cases e : k = i
        · subst e
          refine ⟨fun e => c (Or.inl e), fun j hj => ?_⟩
          rw [if_neg (by omega)]
          exact tk_no ct j hj
        · obtain ⟨a, b⟩ := h1 k (by omega) (by omega)
          refine ⟨a, fun j hj => ?_⟩
          have := b j hj
          unfold upI at this
          by_cases c1 : i + 1 ≤ j ∧ j < k
          · rw [if_pos c1] at this; rw [if_pos (by omega)]; exact this
          · rw [if_neg c1] at this
            by_cases c2 : j = i
            · rw [if_pos c2] at this; rw [if_pos (by omega), c2]; exact this
            · rw [if_neg c2] at this; rw [if_neg (by omega)]; exact this
      · have : (fun k => if i ≤ k ∧ k < i + (n + 1) then hipS s k else ft k) = (fun k => if i + 1 ≤ k ∧ k < i + 1 + n then hipS s k else upI ft i (hipS s i) k) := funext fun k => by
          unfold upI
          by_cases c1 : i + 1 ≤ k ∧ k < i + 1 + n
          · rw [if_pos c1, if_pos (by omega)]
          · rw [if_neg c1]
            by_cases c2 : k = i
            · rw [if_pos c2, if_pos (by omega), c2]
            · rw [if_neg c2, if_neg (by omega)]
        rw [this]
        exact h2
theorem rs_inv (hk : KO s) (hh : ∀ k, k < (s 8 0).toNat → hipS s k ≠ -1 ∧ ∀ j, j < k → hipS s j ≠ hipS s k) : ∀ n i (t : MSt), i + n = (s 8 0).toNat → W0 t → (∀ k, t 4 k = s 4 k) → (∀ k, t 5 k = s 5 k) → (t 8 0 = s 8 0 ∧ t 8 4 = s 8 4 ∧ t 8 5 = s 8 5) → (∀ k, i ≤ k → k < 6 → t 7 k = -1) → (t 8 9 ≠ 0 ∨ ∀ k, k < i → t 7 k = hipS s k) → W0 (rsN n i t) ∧ (rsN n i t 8 9 ≠ 0 ∨ ∀ k, k < 6 → rsN n i t 7 k = if k < (s 8 0).toNat then hipS s k else -1)
  | 0, i, t, hi, hW, _, _, _, hU, hF => by
    refine ⟨hW, hF.imp (fun h => h) (fun h k hk6 => ?_)⟩
    show t 7 k = _
    by_cases c : k < (s 8 0).toNat
    · rw [if_pos c]; exact h k (by omega)
    · rw [if_neg c]; exact hU k (by omega) hk6
  | n + 1, i, t, hi, hW, h4, h5, h8, hU, hF => by
    have h80 := ko_8 hk
    have hip : hipS t i = hipS s i := by unfold hipS hxS hyS; rw [h4, h5, h8.2.1, h8.2.2]
    have hi6 : i < 6 := by omega
    obtain ⟨p1, p2⟩ := hh i (by omega)
    have hp := (hipS_cs (s := s) i).resolve_left p1
    unfold rsN
    rw [hip]
    by_cases c : hipS s i = -1 ∨ tkS (t 7) (hipS s i) (-1) = true
    · rw [if_pos c]
      have ct := c.resolve_left p1
      obtain ⟨j, -, hj6, -, hj⟩ := (tkN_iff 6 0).mp ct
      have h9 : t 8 9 ≠ 0 := by
        rcases hF with h | h
        · exact h
        · exfalso
          by_cases q : j < i
          · exact p2 j q ((h j q).symm.trans hj)
          · have := hU j (by omega) (by omega)
            rw [this] at hj
            exact p1 hj.symm
      exact rs_inv hk hh n (i + 1) t (by omega) hW h4 h5 h8 (fun k h1 h2 => hU k (by omega) h2) (Or.inl h9)
    · rw [if_neg c]
      have ct : tkS (t 7) (hipS s i) (-1) = false := by
        rw [← Bool.not_eq_true]; exact fun e => c (Or.inr e)
      have hs := w0_set hW hi6 (by rw [h8.1]; omega) (hU i (Nat.le_refl _) hi6) ct hp
      have so : ∀ a j, a ≠ 3 → a ≠ 7 → (a = 8 → j ≠ 8 ∧ j ≠ 9 ∧ j ≠ 10 ∧ j ≠ 11) → setS t i (hipS s i) a j = t a j := fun a j a1 a2 a3 => setS_o ⟨a1, a2, a3⟩
      have s7 : ∀ k, k ≠ i → setS t i (hipS s i) 7 k = t 7 k := fun k hk => by
        rcases set_cs (hU i (Nat.le_refl _) hi6) ct hp with e | ⟨w, hw, u, hu, e⟩
        · rw [e, us_nk hk]; exact us_na (by decide)
        · have hu7 : u 7 k = t 7 k := by
            rcases hu with rfl | ⟨q, rfl⟩
            · exact us_na (by decide)
            · exact (us_na (by decide)).trans (us_na (by decide))
          rcases e with e | ⟨q, -, -, e⟩
          · rw [e, tellS_map (by decide), hu7]
          · rw [e, us_nk hk, tellS_map (by decide), hu7]
      refine rs_inv hk hh n (i + 1) _ (by omega) hs.1 (fun k => (so 4 k (by decide) (by decide) (fun e => absurd e (by decide))).trans (h4 k)) (fun k => (so 5 k (by decide) (by decide) (fun e => absurd e (by decide))).trans (h5 k)) ⟨(so 8 0 (by decide) (by decide) (by decide)).trans h8.1, (so 8 4 (by decide) (by decide) (by decide)).trans h8.2.1, (so 8 5 (by decide) (by decide) (by decide)).trans h8.2.2⟩ (fun k h1 h2 => by rw [s7 k (by omega)]; exact hU k (by omega) h2) ?_
      rcases hs.2 with e | e
      · rcases hF with h | h
        · left
          rw [e, us_na (by decide)]
          exact (show learnS t (hipS s i) 8 9 = t 8 9 from us_na (by decide)) ▸ h
        · right
          intro k hk
          by_cases q : k = i
          · subst q; rw [e, us_at]
          · rw [s7 k q]; exact h k (by omega)
      · exact Or.inl e
theorem hb_facts (hk : KO s) (h : hbS s = true) : (∀ k, k < (s 8 0).toNat → hipS s k ≠ -1 ∧ ∀ j, j < k → hipS s j ≠ hipS s k) ∧ stB (ur s 7 (fun k => if k < (s 8 0).toNat then hipS s k else s 7 k)) (-1) = true := by
  have h8 := ko_8 hk
  obtain ⟨h1, h2⟩ := hb_spec _ _ _ _ _ (by omega) h
  refine ⟨fun k hk1 => ⟨(h1 k (Nat.zero_le _) (by omega)).1, fun j hj => ?_⟩, ?_⟩
  · have := (h1 k (Nat.zero_le _) (by omega)).2 j (by omega)
    rw [if_pos ⟨Nat.zero_le _, hj⟩] at this
    exact this
  · have : (fun k => if 0 ≤ k ∧ k < 0 + (s 8 0).toNat then hipS s k else s 7 k) = (fun k => if k < (s 8 0).toNat then hipS s k else s 7 k) := funext fun k => by
      by_cases c : k < (s 8 0).toNat
      · rw [if_pos c, if_pos (by omega)]
      · rw [if_neg c, if_neg (by omega)]
    rw [this] at h2
    exact h2
theorem w0_gu (h : W0 s) : W0 (guS s) := by
  have e8 : guS s 8 8 = 0 := by unfold guS; rw [us_nk (by decide), us_nk (by decide), us_nk (by decide), us_at]
  have e9 : guS s 8 9 = 0 := by unfold guS; rw [us_nk (by decide), us_nk (by decide), us_at]
  exact ⟨ds_cg (fun _ => gu_o (fun e => absurd e (by decide))) h.1, lg_cg (fun _ => gu_o (fun e => absurd e (by decide))) (gu_o (by decide)) h.2.1, ⟨fun q => absurd e8 q, fun q => absurd e9 q⟩, fp_cg (fun _ => gu_o (fun e => absurd e (by decide))) (gu_o (by decide)) h.2.2.2⟩
theorem wb_ri {n : Int} (h : WF n s) (hp : riP s) : WB (n + 1) (riS s) := by
  obtain ⟨hA, hW, hU, hS, hN⟩ := h
  have hk := hA.1
  have h8 := ko_8 hk
  obtain ⟨hh, hst⟩ := hb_facts hk hp.2.2
  have g7 : ∀ k, guS s 7 k = s 7 k := fun k => gu_o (fun e => absurd e (by decide))
  have e6 : guS s 8 6 = 1 := by
    unfold guS
    rw [us_nk (by decide), us_nk (by decide), us_nk (by decide), us_nk (by decide), us_at]
  have inv := rs_inv hk hh (s 8 0).toNat 0 (guS s) (by omega) (w0_gu hW) (fun _ => gu_o (fun e => absurd e (by decide))) (fun _ => gu_o (fun e => absurd e (by decide))) ⟨gu_o (by decide), gu_o (by decide), gu_o (by decide)⟩ (fun k _ hk6 => by rw [g7]; exact hU hp.1 k hk6) (Or.inr (fun k hk => absurd hk (Nat.not_lt_zero k)))
  have r6 : riS s 8 6 = 1 := (rs_o (by decide) _ _ _).trans e6
  refine ⟨ai_ri hA hp, inv.1, fun q => by rw [r6] at q; exact absurd q (by decide), fun _ => ?_, ?_⟩
  · rcases inv.2 with e | e
    · exact Or.inr e
    · left
      refine stB_mono (s := ur s 7 (fun k => if k < (s 8 0).toNat then hipS s k else s 7 k)) (fun k hk6 hne => ?_) (fun j h1 h2 => ?_) hst
      · rw [ur_at] at hne ⊢
        have : riS s 7 k = if k < (s 8 0).toNat then hipS s k else -1 := e k hk6
        rw [this]
        by_cases c : k < (s 8 0).toNat
        · rw [if_pos c, if_pos c]
        · rw [if_neg c] at hne
          exact absurd (hU hp.1 k hk6) hne
      · rw [ur_na (by decide)]
        exact (rs_o ⟨by decide, by decide, fun _ => by omega⟩ _ _ _).trans (gu_o (fun _ => by omega))
  · have o13 : riS s 8 13 = s 8 13 := (rs_o (by decide) _ _ _).trans (gu_o (by decide))
    have o14 : riS s 8 14 = s 8 14 := (rs_o (by decide) _ _ _).trans (gu_o (by decide))
    unfold NX
    rw [o13, o14]; exact hN
end
