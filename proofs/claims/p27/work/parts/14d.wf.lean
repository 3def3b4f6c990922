/-! what holds between calls, and before the machine settles -/
def DM (s : MSt) : Prop := (s 8 8 ≠ 0 → s 8 9 ≠ 0) ∧ (s 8 9 ≠ 0 → s 8 10 ≠ -1)
def W0 (s : MSt) : Prop := DS s ∧ LG s ∧ DM s ∧ FP s
def NX (s : MSt) : Prop := s 8 14 < s 8 13 ∨ s 8 14 = 0
def WB (n : Int) (s : MSt) : Prop := AI n s ∧ W0 s ∧ (s 8 6 = 0 → ∀ k, k < 6 → s 7 k = -1) ∧ (s 8 6 ≠ 0 → stB s (-1) = true ∨ s 8 9 ≠ 0) ∧ NX s
def WF (n : Int) (s : MSt) : Prop := AI n s ∧ W0 s ∧ (s 8 6 = 0 → ∀ k, k < 6 → s 7 k = -1) ∧ (s 8 6 ≠ 0 → stB s (-1) = true) ∧ NX s
section
variable {s s' : MSt}
theorem ds_cg (h : ∀ k, s' 7 k = s 7 k) (hD : DS s) : DS s' := fun j k hj hk h1 h2 => hD j k hj hk (by rw [← h]; exact h1) (by rw [← h, ← h]; exact h2)
theorem lg_cg (h : ∀ k, s' 7 k = s 7 k) (h0 : s' 8 0 = s 8 0) (hG : LG s) : LG s' := fun k hk hl => by rw [h]; exact hG k hk (by rw [← h0]; exact hl)
theorem fp_cg (h : ∀ k, s' 11 k = s 11 k) (h0 : s' 8 12 = s 8 12) (hF : FP s) : FP s' := fun k hk => by rw [h]; exact hF k (by rw [← h0]; exact hk)
theorem dm_cg (h8 : s' 8 8 = s 8 8) (h9 : s' 8 9 = s 8 9) (h10 : s' 8 10 = s 8 10) (h : DM s) : DM s' := by
  unfold DM
  rw [h8, h9, h10]
  exact h
theorem w0_cg (h7 : ∀ k, s' 7 k = s 7 k) (h11 : ∀ k, s' 11 k = s 11 k) (h8 : ∀ j, j = 0 ∨ j = 8 ∨ j = 9 ∨ j = 10 ∨ j = 12 → s' 8 j = s 8 j) (h : W0 s) : W0 s' :=
  ⟨ds_cg h7 h.1, lg_cg h7 (h8 0 (by omega)) h.2.1, dm_cg (h8 8 (by omega)) (h8 9 (by omega)) (h8 10 (by omega)) h.2.2.1, fp_cg h11 (h8 12 (by omega)) h.2.2.2⟩
theorem stB_cg (h7 : s' 7 = s 7) (h8 : ∀ j, 1 ≤ j → j ≤ 5 → s' 8 j = s 8 j) {but : Int} : stB s' but = stB s but := by
  unfold stB mxS myS wS
  rw [h7, h8 1 (by decide) (by decide), h8 2 (by decide) (by decide), h8 3 (by decide) (by decide), h8 4 (by decide) (by decide), h8 5 (by decide) (by decide)]
theorem stB_mono (h7 : ∀ k, k < 6 → s 7 k ≠ -1 → s' 7 k = s 7 k) (h8 : ∀ j, 1 ≤ j → j ≤ 5 → s' 8 j = s 8 j) (h : stB s (-1) = true) : stB s' (-1) = true := by
  unfold stB mxS myS wS at *
  rw [h8 1 (by decide) (by decide), h8 2 (by decide) (by decide), h8 3 (by decide) (by decide), h8 4 (by decide) (by decide), h8 5 (by decide) (by decide)]
  rw [inB_iff] at *
  refine inP_mono (fun a ha => ?_) h
  obtain ⟨q, hq, rfl⟩ := List.mem_map.mp ha
  obtain ⟨k, h1, h2, h3, h4, h5⟩ := (flN_mem 6 0).mp hq
  refine List.mem_map.mpr ⟨q, (flN_mem 6 0).mpr ⟨k, h1, h2, h3, ?_, ?_⟩, rfl⟩
  · rw [h7 k (by omega) h4]; exact h4
  · rw [h7 k (by omega) h4]; exact h5
theorem dm_tell (h : DM s) {w p : Int} (hw : w ≠ 0) (hp : p ≠ -1) : DM (tellS s w p) ∧ tellS s w p 8 9 ≠ 0 := by
  have h9 : tellS s w p 8 9 ≠ 0 := by
    rw [tellS_9]
    by_cases c : s 8 8 = 0
    · rw [if_pos c]; exact hw
    · rw [if_neg c]; exact h.1 c
  refine ⟨⟨fun _ => h9, fun _ => ?_⟩, h9⟩
  rw [tellS_10]
  by_cases c : s 8 8 = 0
  · rw [if_pos c]; exact hp
  · rw [if_neg c]; exact h.2 (h.1 c)
theorem dm_learn (h : DM s) {p : Int} : DM (learnS s p) := dm_cg (us_na (by decide)) (us_na (by decide)) (us_na (by decide)) h
theorem dm_sag (h : DM s) {p : Int} : DM (sagS s p) := dm_cg (sagS_f (by decide) (by decide)) (sagS_f (by decide) (by decide)) (sagS_f (by decide) (by decide)) h
theorem dm_br {σ : Nat → Bool} : ∀ n i (s : MSt), DM s → i + n ≤ 6 → (∀ k, k < 6 → σ k = true → s 7 k ≠ -1) → DM (brS σ n i s) ∧ (((∃ k, i ≤ k ∧ k < i + n ∧ σ k = true) ∨ s 8 9 ≠ 0) → brS σ n i s 8 9 ≠ 0)
  | 0, i, s, h, _, _ => ⟨h, fun q => by
    rcases q with ⟨k, h1, h2, -⟩ | q
    · omega
    · exact q⟩
  | n + 1, i, s, h, hi, hσ => by
    unfold brS
    by_cases c : σ i = true
    · rw [if_pos c]
      have ht := dm_tell (dm_sag h (p := s 7 i)) (w := 2) (p := s 7 i) (by decide) (hσ i (by omega) c)
      have := dm_br n (i + 1) _ ht.1 (by omega) (fun k hk hs => by rw [tellS_map (by decide), sagS_f (by decide) (by decide)]; exact hσ k hk hs)
      exact ⟨this.1, fun _ => this.2 (Or.inr ht.2)⟩
    · rw [if_neg c]
      have := dm_br n (i + 1) s h (by omega) hσ
      refine ⟨this.1, fun q => this.2 ?_⟩
      rcases q with ⟨k, h1, h2, h3⟩ | q
      · refine Or.inl ⟨k, ?_, by omega, h3⟩
        rcases Nat.lt_or_eq_of_le h1 with e | e
        · exact e
        · subst e; exact absurd h3 c
      · exact Or.inr q
theorem ds_ra (h : DS s) {σ : Nat → Bool} (e7 : s' 7 = raS (s 7) σ) : DS s' := fun j k hj hk h1 h2 => by
  rw [e7] at h1 h2
  unfold raS at h1 h2
  by_cases c : σ j = true
  · rw [if_pos c] at h1; exact absurd rfl h1
  · rw [if_neg c] at h1 h2
    by_cases d : σ k = true
    · rw [if_pos d] at h2; exact absurd h2 h1
    · rw [if_neg d] at h2; exact h j k hj hk h1 h2
theorem w0_sk1 (h : W0 s) : W0 (sk1 s) ∧ (mk (skS s) ≠ 0 → sk1 s 8 9 ≠ 0) ∧ (s 8 9 ≠ 0 → sk1 s 8 9 ≠ 0) := by
  have hb := dm_br (σ := skS s) 6 0 s h.2.2.1 (by decide) (fun k _ hs => sk_ne hs)
  have o8 : ∀ j, sk1 s 8 j = brS (skS s) 6 0 s 8 j := fun j => by unfold sk1; rw [ur_na (by decide)]
  refine ⟨⟨ds_ra h.1 sk1_7, fun k hk hl => ?_, dm_cg (o8 8) (o8 9) (o8 10) hb.1, fp_cg (fun k => sk1_o ⟨by decide, by decide, by decide, fun e => absurd e (by decide)⟩) (sk1_o (by decide)) h.2.2.2⟩, fun hm => ?_, fun h9 => ?_⟩
  · rw [sk1_o (by decide)] at hl
    rw [sk1_7]
    unfold raS
    split
    · rfl
    · exact h.2.1 k hk hl
  · rw [o8]
    refine hb.2 (Or.inl ?_)
    apply Classical.byContradiction
    intro q
    refine hm (mk_zero.mpr fun k hk => ?_)
    rw [← Bool.not_eq_true]
    exact fun e => q ⟨k, Nat.zero_le _, by omega, e⟩
  · rw [o8]; exact hb.2 (Or.inr h9)
theorem w0_skN : ∀ n (s : MSt), W0 s → W0 (skN n s) ∧ (stB s (-1) = true ∨ s 8 9 ≠ 0 → stB (skN n s) (-1) = true ∨ skN n s 8 9 ≠ 0)
  | 0, s, h => ⟨h, fun q => q⟩
  | n + 1, s, h => by
    unfold skN
    by_cases c : mk (skS s) = 0
    · rw [if_pos c]; exact ⟨h, fun q => q⟩
    · rw [if_neg c]
      have h1 := w0_sk1 h
      have := w0_skN n (sk1 s) h1.1
      exact ⟨this.1, fun _ => this.2 (Or.inr (h1.2.1 c))⟩
theorem w0_fall (h : W0 s) (hk : KO s) (h9 : s 8 9 ≠ 0) : W0 (fallS s) := by
  have h8 := ko_8 hk
  refine ⟨fun j k hj hk h1 h2 => absurd fall_7 h1, fun k hk hl => fall_7, dm_cg (fall_o (by decide)) (fall_o (by decide)) (fall_o (by decide)) h.2.2.1, fun k hk1 => ?_⟩
  rw [fall_12] at hk1
  have e : fallS s 11 k = if k = (s 8 12).toNat then s 8 10 else s 11 k := by
    unfold fallS
    rw [us_na (by decide), ur_na (by decide), us_na (by decide)]
    by_cases c : k = (s 8 12).toNat
    · rw [if_pos c, c, us_at]
    · rw [if_neg c, us_nk c, us_na (by decide), us_na (by decide)]
  rw [e]
  by_cases c : k = (s 8 12).toNat
  · rw [if_pos c]; exact h.2.2.1.2 h9
  · rw [if_neg c]; exact h.2.2.2 k (by omega)
theorem wf_stl {n : Int} (hn : n < 1000000) (h : WB n s) : WF n (stlS s) ∧ (s 8 6 ≠ 0 → stB (skN 6 s) (-1) = true ∨ skN 6 s 8 9 ≠ 0) := by
  obtain ⟨hA, hW, hU, hS, hN⟩ := h
  have hs := w0_skN 6 s hW
  have e6 : skN 6 s 8 6 = s 8 6 := skN_o (by decide) 6 s
  have fb : s 8 6 ≠ 0 → stB (skN 6 s) (-1) = true ∨ skN 6 s 8 9 ≠ 0 := fun q => hs.2 (hS q)
  have nx : ∀ {t : MSt}, t 8 13 = s 8 13 → t 8 14 = s 8 14 → NX t := fun h1 h2 => by unfold NX; rw [h1, h2]; exact hN
  refine ⟨⟨ai_stl hA hn, ?_⟩, fb⟩
  have hN2 : NX (stlS s) := nx (stl_o (by decide)) (stl_o (by decide))
  unfold stlS at hN2 ⊢
  by_cases c : s 8 6 = 0
  · rw [if_pos c] at hN2 ⊢
    exact ⟨hW, hU, fun q => absurd c q, hN2⟩
  · rw [if_neg c] at hN2 ⊢
    by_cases d : stB (skN 6 s) (-1) = true
    · rw [if_pos d] at hN2 ⊢
      exact ⟨hs.1, fun q => absurd (e6 ▸ q) c, fun _ => d, hN2⟩
    · rw [if_neg d] at hN2 ⊢
      exact ⟨w0_fall hs.1 (ko_skN 6 hA.1) ((fb c).resolve_left d), fun _ k _ => fall_7, fun q => absurd fall_6 q, hN2⟩
/-- setting a foot -/
theorem ds_put {k : Nat} {q : Int} (h : DS s) (hq : ∀ j, j < 6 → s 7 j ≠ q) (e7 : ∀ j, s' 7 j = us s 7 k q 7 j) : DS s' := fun i j hi hj h1 h2 => by
  rw [e7] at h1
  rw [e7, e7] at h2
  by_cases c : i = k
  · subst c
    rw [us_at] at h1 h2
    by_cases d : j = i
    · exact d.symm
    · rw [us_nk d] at h2; exact absurd h2.symm (hq j hj)
  · rw [us_nk c] at h1 h2
    by_cases d : j = k
    · subst d; rw [us_at] at h2; exact absurd h2 (hq i hi)
    · rw [us_nk d] at h2; exact h i j hi hj h1 h2
theorem tk_no {ft : Nat → Int} {p : Int} (h : tkS ft p (-1) = false) : ∀ j, j < 6 → ft j ≠ p := fun j hj e => by
  have : tkS ft p (-1) = true := (tkN_iff 6 0).mpr ⟨j, Nat.zero_le _, by omega, by omega, e⟩
  rw [h] at this
  cases this
theorem set_cs {k : Nat} {p : Int} (hup : s 7 k = -1) (ht : tkS (s 7) p (-1) = false) (hp : nB p) : (setS s k p = us (learnS s p) 7 k p) ∨ (∃ w : Int, w ≠ 0 ∧ ∃ t : MSt, (t = learnS s p ∨ ∃ q, t = learnS (learnS s p) q) ∧ (setS s k p = tellS t w p ∨ ∃ q, nB q ∧ (∀ j, j < 6 → s 7 j ≠ q) ∧ setS s k p = us (tellS t w p) 7 k q)) := by
  unfold setS
  by_cases c : 2 ≤ (s 0 p.toNat - s 3 p.toNat).natAbs
  · rw [if_pos c]
    exact Or.inr ⟨1, by decide, _, Or.inl rfl, Or.inl rfl⟩
  rw [if_neg c]
  by_cases d : slS (learnS s p) p = -1
  · rw [if_pos d]; exact Or.inl rfl
  rw [if_neg d]
  right
  refine ⟨3, by decide, learnS (learnS s p) (slS (learnS s p) p), Or.inr ⟨slS (learnS s p) p, rfl⟩, ?_⟩
  split
  · rename_i hh
    right
    have o7 : ∀ j, tellS (learnS (learnS s p) (slS (learnS s p) p)) 3 p 7 j = s 7 j := fun j => by
      rw [tellS_map (by decide)]
      exact (us_na (by decide)).trans (us_na (by decide))
    refine ⟨_, (slS_cs (s := learnS s p) (p := p)).resolve_left d, fun j hj e => ?_, rfl⟩
    have hne : s 7 k ≠ slS (learnS s p) p := by rw [hup]; exact fun e => d e.symm
    have h2 := hh.2
    rw [tk_but (by rw [o7]; exact hne)] at h2
    exact tk_no h2 j hj (by rw [o7]; exact e)
  · exact Or.inl rfl
theorem w0_set {k : Nat} {p : Int} (h : W0 s) (hk6 : k < 6) (hl : (k : Int) < s 8 0) (hup : s 7 k = -1) (ht : tkS (s 7) p (-1) = false) (hp : nB p) : W0 (setS s k p) ∧ ((setS s k p = us (learnS s p) 7 k p) ∨ setS s k p 8 9 ≠ 0) := by
  have hp1 : p ≠ -1 := by unfold nB at hp; omega
  have put : ∀ {t : MSt} {q : Int}, W0 t → (∀ j, t 7 j = s 7 j) → t 8 0 = s 8 0 → (∀ j, j < 6 → s 7 j ≠ q) → W0 (us t 7 k q) := fun {t q} ht h7 h0 hq => by
    refine ⟨ds_put (s := t) ht.1 (fun j hj => by rw [h7]; exact hq j hj) (fun j => rfl), fun j hj hl2 => ?_, dm_cg (us_na (by decide)) (us_na (by decide)) (us_na (by decide)) ht.2.2.1, fp_cg (fun _ => us_na (by decide)) (us_na (by decide)) ht.2.2.2⟩
    rw [us_na (by decide), h0] at hl2
    rw [us_nk (by omega)]
    exact ht.2.1 j hj (by rw [h0]; exact hl2)
  have lrn : ∀ {t : MSt} {q : Int}, W0 t → W0 (learnS t q) := fun h => w0_cg (fun _ => us_na (by decide)) (fun _ => us_na (by decide)) (fun _ _ => us_na (by decide)) h
  rcases set_cs hup ht hp with e | ⟨w, hw, t, htt, e⟩
  · rw [e]
    exact ⟨put (lrn h) (fun _ => us_na (by decide)) (us_na (by decide)) (tk_no ht), Or.inl rfl⟩
  · have ht0 : W0 t ∧ (∀ j, t 7 j = s 7 j) ∧ t 8 0 = s 8 0 := by
      rcases htt with rfl | ⟨q, rfl⟩
      · exact ⟨lrn h, fun _ => us_na (by decide), us_na (by decide)⟩
      · exact ⟨lrn (lrn h), fun _ => (us_na (by decide)).trans (us_na (by decide)), (us_na (by decide)).trans (us_na (by decide))⟩
    have hd := dm_tell ht0.1.2.2.1 hw hp1
    have ht1 : W0 (tellS t w p) := ⟨ds_cg (fun _ => tellS_map (by decide)) ht0.1.1, lg_cg (fun _ => tellS_map (by decide)) (tellS_o (by decide)) ht0.1.2.1, hd.1, fp_cg (fun _ => tellS_map (by decide)) (tellS_o (by decide)) ht0.1.2.2.2⟩
    rcases e with e | ⟨q, hq, hq2, e⟩
    · rw [e]; exact ⟨ht1, Or.inr hd.2⟩
    · rw [e]
      exact ⟨put ht1 (fun j => (tellS_map (by decide)).trans (ht0.2.1 j)) ((tellS_o (by decide)).trans ht0.2.2) hq2, Or.inr (by rw [us_na (by decide)]; exact hd.2)⟩
/-- before it settles: lifted, placed, shifted, loaded -/
theorem wb_lf {n : Int} (h : WF n s) {k : Nat} (hp : mlP s k) : WB n (lfS s k) := by
  obtain ⟨hA, hW, hU, hS, hN⟩ := h
  have e8 : ∀ j, j ≠ 7 → j ≠ 11 → lfS s k 8 j = s 8 j := fun j h1 h2 => lf_8 ⟨h1, h2⟩
  have e7 : ∀ j, lfS s k 7 j = us s 7 k (-1) 7 j := fun j => by
    unfold lfS
    by_cases c : j = k
    · subst c; rw [us_at, us_at]
    · rw [us_nk c, us_nk c, us_na (by decide), us_na (by decide)]
  refine ⟨ai_lf hA hp.2.1, ⟨fun i j hi hj h1 h2 => ?_, fun j hj hl => ?_, dm_cg (e8 8 (by decide) (by decide)) (e8 9 (by decide) (by decide)) (e8 10 (by decide) (by decide)) hW.2.2.1, fp_cg (fun _ => lf_o ⟨fun e => absurd e (by decide), fun e => absurd e (by decide)⟩) (e8 12 (by decide) (by decide)) hW.2.2.2⟩, fun q => absurd (e8 6 (by decide) (by decide) ▸ q) hp.1, fun _ => Or.inl ?_, ?_⟩
  · rw [e7] at h1
    rw [e7, e7] at h2
    by_cases c : i = k
    · subst c; rw [us_at] at h1; exact absurd rfl h1
    · rw [us_nk c] at h1 h2
      by_cases d : j = k
      · subst d; rw [us_at] at h2; exact absurd h2 h1
      · rw [us_nk d] at h2; exact hW.1 i j hi hj h1 h2
  · rw [e8 0 (by decide) (by decide)] at hl
    rw [e7]
    by_cases c : j = k
    · subst c; exact us_at
    · rw [us_nk c]; exact hW.2.1 j hj hl
  · rw [stB_cg (s := us s 7 k (-1)) (funext e7) (fun j h1 h2 => by rw [e8 j (by omega) (by omega), us_na (by decide)]), ← stB_wo]
    exact hp.2.2.2
  · unfold NX
    rw [e8 14 (by decide) (by decide), e8 13 (by decide) (by decide)]; exact hN
theorem wb_pl {n : Int} (h : WF n s) {k : Nat} (hk6 : k < 6) (hl : (k : Int) < s 8 0) {p : Int} (hp : nB p) (hq : plP s k p) : WB n (plS s k p) := by
  obtain ⟨hA, hW, hU, hS, hN⟩ := h
  have o : ∀ a j, (a = 8 → j ≠ 7 ∧ j ≠ 11) → us (us s 8 7 (s 8 7 - (1 + faS s k p))) 8 11 0 a j = s a j := fun a j h => by
    by_cases e : a = 8
    · subst e; rw [us_nk (h rfl).2, us_nk (h rfl).1]
    · rw [us_na e, us_na e]
  have hW1 : W0 (us (us s 8 7 (s 8 7 - (1 + faS s k p))) 8 11 0) := w0_cg (fun _ => o _ _ (fun e => absurd e (by decide))) (fun _ => o _ _ (fun e => absurd e (by decide))) (fun j hj => o _ _ (fun _ => by omega)) hW
  have hs := w0_set hW1 (k := k) (p := p) hk6 (by rw [o 8 0 (by decide)]; exact hl) ((o 7 k (fun e => absurd e (by decide))).trans hq.2.2.1) (by rw [show us (us s 8 7 (s 8 7 - (1 + faS s k p))) 8 11 0 7 = s 7 from funext fun j => o 7 j (fun e => absurd e (by decide))]; exact hq.2.2.2.2.2) hp
  refine ⟨ai_pl hA hp hk6 hq.2.1, hs.1, fun q => absurd ((pl_o (by decide)).symm.trans q) hq.1, fun _ => ?_, ?_⟩
  · rcases hs.2 with e | e
    · left
      have e2 : plS s k p = us (learnS (us (us s 8 7 (s 8 7 - (1 + faS s k p))) 8 11 0) p) 7 k p := e
      refine stB_mono (fun j hj hne => ?_) (fun j h1 h2 => pl_o ⟨by decide, by decide, fun _ => by omega⟩) (hS hq.1)
      rw [e2, us_nk (fun c => hne (by rw [c]; exact hq.2.2.1))]
      exact (us_na (by decide)).trans (o 7 j (fun e => absurd e (by decide)))
    · exact Or.inr e
  · unfold NX
    rw [pl_o (by decide), pl_o (by decide)]; exact hN
theorem wb_sh {n : Int} (h : WF n s) {x y : Int} (hq : shP s x y) : WB n (shS s x y) := by
  obtain ⟨hA, hW, hU, hS, hN⟩ := h
  refine ⟨ai_sh hA hq, w0_cg (fun _ => sh_o (fun e => absurd e (by decide))) (fun _ => sh_o (fun e => absurd e (by decide))) (fun j hj => sh_o (fun _ => by omega)) hW, fun q => absurd ((sh_o (by decide)).symm.trans q) hq.1, fun _ => Or.inl ?_, ?_⟩
  · rw [stB_cg (s := mvS s x y) (funext fun j => by unfold shS; rw [us_na (by decide), us_na (by decide)]) (fun j h1 h2 => by unfold shS; rw [us_nk (by omega), us_nk (by omega)])]
    exact hq.2.2.2.2
  · unfold NX
    rw [sh_o (by decide), sh_o (by decide)]; exact hN
theorem wb_ld {n : Int} (h : WF n s) {w x y : Int} (hp : ldP w x y) (hq : ldQ s w x y) : WB n (us (ldS s w x y) 8 11 0) := by
  obtain ⟨hA, hW, hU, hS, hN⟩ := h
  have o : ∀ a j, (a = 8 → j ≠ 1 ∧ j ≠ 2 ∧ j ≠ 3 ∧ j ≠ 11) → us (ldS s w x y) 8 11 0 a j = s a j := fun a j h => by
    by_cases e : a = 8
    · subst e; rw [us_nk (h rfl).2.2.2, ld_o (fun _ => ⟨(h rfl).1, (h rfl).2.1, (h rfl).2.2.1⟩)]
    · rw [us_na e, ld_o (fun q => absurd q e)]
  refine ⟨ai_11 (ai_ld hA hp) (by decide), w0_cg (fun _ => o _ _ (fun e => absurd e (by decide))) (fun _ => o _ _ (fun e => absurd e (by decide))) (fun j hj => o _ _ (fun _ => by omega)) hW, fun q k hk => ?_, fun q => Or.inl ?_, ?_⟩
  · rw [o 8 6 (by decide)] at q
    rw [o 7 k (fun e => absurd e (by decide))]; exact hU q k hk
  · rw [o 8 6 (by decide)] at q
    rw [stB_cg (s := ldS s w x y) (funext fun j => us_na (by decide)) (fun j h1 h2 => us_nk (by omega))]
    exact hq.resolve_left q
  · unfold NX
    rw [o 8 14 (by decide), o 8 13 (by decide)]; exact hN
theorem wf_wb {n : Int} (h : WF n s) : WB n s := ⟨h.1, h.2.1, h.2.2.1, fun q => Or.inl (h.2.2.2.1 q), h.2.2.2.2⟩
end
