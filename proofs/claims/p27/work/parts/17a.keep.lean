/-! every call keeps what holds between calls -/
section
variable {s s' : MSt}
theorem wf_le {n m : Int} (h : WF n s) (hm : n ≤ m) : WF m s := ⟨⟨h.1.1, h.1.2.1, by have := h.1.2.2; omega⟩, h.2⟩
theorem wf_cg {n : Int} (h : WF n s) (hk : KO s') (h7 : ∀ k, s' 7 k = s 7 k) (h11 : ∀ k, s' 11 k = s 11 k) (h8 : ∀ j, j ≠ 7 → j ≠ 13 → j ≠ 14 → s' 8 j = s 8 j) (hN : NX s') : WF n s' := by
  obtain ⟨hA, hW, hU, hS, -⟩ := h
  refine ⟨⟨hk, ?_, ?_⟩, w0_cg h7 h11 (fun j hj => h8 j (by omega) (by omega) (by omega)) hW, ?_, ?_, hN⟩
  · rw [h8 4 (by decide) (by decide) (by decide), h8 5 (by decide) (by decide) (by decide)]; exact hA.2.1
  · rw [h8 12 (by decide) (by decide) (by decide), h8 6 (by decide) (by decide) (by decide)]; exact hA.2.2
  · rw [h8 6 (by decide) (by decide) (by decide)]
    exact fun q k hk => (h7 k).trans (hU q k hk)
  · rw [h8 6 (by decide) (by decide) (by decide)]
    exact fun q => (stB_cg (funext h7) (fun j h1 h2 => h8 j (by omega) (by omega) (by omega))).trans (hS q)
theorem wf_gr {n : Int} (h : WF n s) (x y a m g : Int) : WF n (oGround s x y a m g).2.2 := by
  unfold oGround
  split
  · rename_i hp
    split
    · exact h
    · refine wf_cg h (ko_us (ko_us (ko_us h.1.1 hp.2.1) hp.2.2.1) hp.2.2.2) (fun k => ?_) (fun k => ?_) (fun j _ _ _ => ?_) ?_
      · show grS s (paS x y) a m g 7 k = _
        unfold grS
        rw [us_na (by decide), us_na (by decide), us_na (by decide)]
      · show grS s (paS x y) a m g 11 k = _
        unfold grS
        rw [us_na (by decide), us_na (by decide), us_na (by decide)]
      · show grS s (paS x y) a m g 8 j = _
        unfold grS
        rw [us_na (by decide), us_na (by decide), us_na (by decide)]
      · exact h.2.2.2.2
  · exact h
theorem wf_ch {n : Int} (h : WF n s) (x y a : Int) : WF n (oChart s x y a).2.2 := by
  unfold oChart
  split
  · rename_i hp
    have o : ∀ b j, b ≠ 3 → us s 3 (paS x y).toNat a b j = s b j := fun b j q => us_na q
    exact wf_cg (s' := us s 3 (paS x y).toNat a) h (ko_us h.1.1 hp.2) (fun k => o 7 k (by decide)) (fun k => o 11 k (by decide)) (fun j _ _ _ => o 8 j (by decide)) h.2.2.2.2
  · exact h
theorem wf_ca {n : Int} (h : WF n s) (a : Int) : WF n (oCharge s a).2.2 := by
  have h8 := ko_8 h.1.1
  have h7 : 0 ≤ s 8 7 ∧ s 8 7 ≤ 1000 := h.1.1 8 7
  unfold oCharge
  split
  · rename_i hp
    have o : ∀ b j, b ≠ 8 → us s 8 7 (min 1000 (s 8 7 + a)) b j = s b j := fun b j q => us_na q
    exact wf_cg (s' := us s 8 7 (min 1000 (s 8 7 + a))) h (ko_us h.1.1 (show 0 ≤ min 1000 (s 8 7 + a) ∧ min 1000 (s 8 7 + a) ≤ 1000 by omega)) (fun k => o 7 k (by decide)) (fun k => o 11 k (by decide)) (fun j hj _ _ => us_nk hj) h.2.2.2.2
  · exact h
theorem wf_ha {n : Int} (h : WF n s) : WF n (haS s) := by
  unfold haS
  exact wf_cg h (ko_us (ko_us h.1.1 (a := 8) (k := 13) (by decide)) (a := 8) (k := 14) (by decide)) (fun k => by rw [us_na (by decide), us_na (by decide)]) (fun k => by rw [us_na (by decide), us_na (by decide)]) (fun j _ h13 h14 => by rw [us_nk h14, us_nk h13]) (Or.inr us_at)
theorem wf_ph {n : Int} (h : WF n s) (a x y u v : Int) : WF n (oPhase s a x y u v).2.2 := by
  have h13 : 0 ≤ s 8 13 ∧ s 8 13 ≤ 8 := h.1.1 8 13
  have h0 : 0 ≤ s 8 0 ∧ s 8 0 ≤ 6 := h.1.1 8 0
  unfold oPhase
  split
  · rename_i hl
    split
    · rename_i hp
      split
      · rename_i hn
        have o : ∀ b j, b ≠ 12 → b ≠ 13 → b ≠ 14 → b ≠ 15 → b ≠ 16 → (b = 8 → j ≠ 13) → paddS s a x y u v b j = s b j := fun b j q1 q2 q3 q4 q5 q6 => by
          unfold paddS
          by_cases e : b = 8
          · subst e
            rw [us_nk (q6 rfl), us_na q5, us_na q4, us_na q3, us_na q2, us_na q1]
          · rw [us_na e, us_na q5, us_na q4, us_na q3, us_na q2, us_na q1]
        refine wf_cg (s' := paddS s a x y u v) h ?_ (fun k => o 7 k (by decide) (by decide) (by decide) (by decide) (by decide) (fun q => by omega)) (fun k => o 11 k (by decide) (by decide) (by decide) (by decide) (by decide) (fun q => by omega)) (fun j _ hj _ => o 8 j (by decide) (by decide) (by decide) (by decide) (by decide) (fun _ => hj)) ?_
        · unfold paddS
          refine ko_us (ko_us (ko_us (ko_us (ko_us (ko_us h.1.1 ?_) ?_) ?_) ?_) ?_) ?_
          · show 0 ≤ a ∧ a ≤ 5
            omega
          · exact hp.1
          · exact hp.2.1
          · exact hp.2.2.1
          · exact hp.2.2.2
          · show 0 ≤ s 8 13 + 1 ∧ s 8 13 + 1 ≤ 8
            omega
        · have e14 : paddS s a x y u v 8 14 = s 8 14 := o 8 14 (by decide) (by decide) (by decide) (by decide) (by decide) (fun _ => by decide)
          have e13 : paddS s a x y u v 8 13 = s 8 13 + 1 := us_at
          have := h.2.2.2.2
          unfold NX at this ⊢
          rw [e13, e14]
          omega
      · exact h
    · exact h
  · exact h
theorem wf_leg {n : Int} (h : WF n s) (x y r : Int) : WF n (oLeg s x y r).2.2 := by
  have h0 : 0 ≤ s 8 0 ∧ s 8 0 ≤ 6 := h.1.1 8 0
  unfold oLeg
  split
  · rename_i hp
    split
    · rename_i hq
      obtain ⟨hA, hW, hU, hS, hN⟩ := h
      have o : ∀ b j, b ≠ 4 → b ≠ 5 → b ≠ 6 → (b = 8 → j ≠ 0) → leS s x y r b j = s b j := fun b j q1 q2 q3 q6 => by
        unfold leS
        by_cases e : b = 8
        · subst e
          rw [us_nk (q6 rfl), us_na q3, us_na q2, us_na q1]
        · rw [us_na e, us_na q3, us_na q2, us_na q1]
      have o8 : ∀ j, j ≠ 0 → leS s x y r 8 j = s 8 j := fun j hj => o 8 j (by decide) (by decide) (by decide) (fun _ => hj)
      have o7 : ∀ j, leS s x y r 7 j = s 7 j := fun j => o 7 j (by decide) (by decide) (by decide) (fun q => by omega)
      have e0 : leS s x y r 8 0 = s 8 0 + 1 := us_at
      refine ⟨⟨?_, ?_, ?_⟩, ⟨ds_cg o7 hW.1, fun k hk hl => ?_, dm_cg (o8 8 (by decide)) (o8 9 (by decide)) (o8 10 (by decide)) hW.2.2.1, fp_cg (fun k => o 11 k (by decide) (by decide) (by decide) (fun q => by omega)) (o8 12 (by decide)) hW.2.2.2⟩, fun q k hk => ?_, fun q => ?_, ?_⟩
      · show KO (leS s x y r)
        unfold leS
        refine ko_us (ko_us (ko_us (ko_us hA.1 ?_) ?_) ?_) ?_
        · exact hp.1
        · exact hp.2.1
        · show 0 ≤ r ∧ r ≤ 6
          omega
        · show 0 ≤ s 8 0 + 1 ∧ s 8 0 + 1 ≤ 6
          omega
      · show (0 ≤ leS s x y r 8 4 ∧ leS s x y r 8 4 < 20) ∧ (0 ≤ leS s x y r 8 5 ∧ leS s x y r 8 5 < 20)
        rw [o8 4 (by decide), o8 5 (by decide)]; exact hA.2.1
      · show leS s x y r 8 12 + leS s x y r 8 6 ≤ n
        rw [o8 12 (by decide), o8 6 (by decide)]; exact hA.2.2
      · rw [show (0, s 8 0, leS s x y r).2.2 = leS s x y r from rfl, e0] at hl
        exact (o7 k).trans (hW.2.1 k hk (by omega))
      · exact (o7 k).trans (hU hq.1 k hk)
      · exact absurd ((o8 6 (by decide)).trans hq.1) q
      · show NX (leS s x y r)
        unfold NX
        rw [o8 13 (by decide), o8 14 (by decide)]; exact hN
    · exact h
  · exact h
theorem wf_lift {n : Int} (hn : n < 1000000) (h : WF n s) (a : Int) : WF n (oLift s a).2.2 := by
  unfold oLift
  split
  · split
    · rename_i hp
      exact (wf_stl hn (wb_lf h hp)).1
    · exact h
  · exact h
theorem wf_place {n : Int} (hn : n < 1000000) (h : WF n s) (a x y : Int) : WF n (oPlace s a x y).2.2 := by
  have h0 : 0 ≤ s 8 0 ∧ s 8 0 ≤ 6 := h.1.1 8 0
  unfold oPlace
  split
  · rename_i hl
    split
    · exact h
    · rename_i g
      split
      · rename_i hp
        exact (wf_stl hn (wb_pl h (by omega) (by omega) ((paS_cs x y).resolve_left (fun h => g h.1)).1 hp)).1
      · exact h
  · exact h
theorem wf_shift {n : Int} (hn : n < 1000000) (h : WF n s) (x y : Int) : WF n (oShift s x y).2.2 := by
  unfold oShift
  split
  · split
    · rename_i hp
      exact (wf_stl hn (wb_sh h hp)).1
    · exact h
  · exact h
theorem wf_load {n : Int} (hn : n < 1000000) (h : WF n s) (w x y : Int) : WF n (oLoad s w x y).2.2 := by
  unfold oLoad
  split
  · rename_i hp
    split
    · rename_i hq
      exact (wf_stl hn (wb_ld h hp hq)).1
    · exact h
  · exact h
theorem wf_rise {n : Int} (hn : n + 1 < 1000000) (h : WF n s) : WF (n + 1) (oRise s).2.2 := by
  unfold oRise
  split
  · rename_i hp
    exact (wf_stl hn (wb_ri h hp)).1
  · exact wf_le h (by omega)
theorem wf_walk {n : Int} (hn : n < 1000000) (h : WF n s) (a : Int) : WF n (oWalk s a).2.2 := by
  have h13 : 0 ≤ s 8 13 ∧ s 8 13 ≤ 8 := h.1.1 8 13
  unfold oWalk
  split
  · split
    · exact h
    · rename_i hq
      exact wf_wk hn _ _ h (by have := h.2.2.2.2; unfold NX at this; omega)
  · exact h
theorem wf_pi {n : Int} (h : WF n s) : PI s := ⟨h.1.1, h.2.1.1, h.2.1.2.1, h.1.2.1.1, h.1.2.1.2.1, h.1.2.1.2.2⟩
end
