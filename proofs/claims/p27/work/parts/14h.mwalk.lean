/-! walking -/
section
variable {s : MSt} {z f : Nat → Nat → Int32}
theorem wf_phT {n : Int} (hn : n < 1000000) (h : WF n s) {i : Nat} : WF n (phT s i).2 := by
  unfold phT
  split
  · exact h
  · split
    · rename_i hp
      exact (wf_stl hn (wb_sh h hp)).1
    · exact h
theorem wf_phU {n : Int} (hn : n < 1000000) (h : WF n s) {i k : Nat} (hk : k < 6) (hl : (k : Int) < s 8 0) {q : Int} (hq : q = -1 ∨ nB q) : WF n (phU s k q i).2 := by
  unfold phU
  split
  · exact h
  · rename_i hc
    split
    · rename_i hp
      have h1 := (wf_stl hn (wb_pl h hk hl (hq.resolve_left hc) hp)).1
      split
      · exact wf_phT hn h1
      · exact h1
    · exact h
theorem lf_8s {k j : Nat} (hj : j ≠ 6 ∧ j ≠ 7 ∧ j ≠ 8 ∧ j ≠ 9 ∧ j ≠ 10 ∧ j ≠ 11 ∧ j ≠ 12) : stlS (lfS s k) 8 j = s 8 j := by
  rw [stl_o ⟨by decide, by decide, by decide, by decide, by decide, by decide, fun _ => ⟨hj.1, hj.2.2.1, hj.2.2.2.1, hj.2.2.2.2.1, hj.2.2.2.2.2.1, hj.2.2.2.2.2.2⟩⟩, lf_8 ⟨hj.2.1, hj.2.2.2.2.2.1⟩]
theorem leg_of (hG : LG s) {k : Nat} (hk : k < 6) (h : s 7 k ≠ -1) : (k : Int) < s 8 0 := by
  apply Classical.byContradiction
  intro q
  exact h (hG k hk (by omega))
theorem wf_phS {n : Int} (hn : n < 1000000) (h : WF n s) {i k : Nat} (hk : k < 6) : WF n (phS s i k).2 := by
  unfold phS
  split
  · rename_i hp
    have h1 := (wf_stl hn (wb_lf h hp)).1
    split
    · exact wf_phU hn h1 hk (by rw [lf_8s (by decide)]; exact leg_of h.2.1.2.1 hk hp.2.2.1) ((paS_cs _ _).imp (fun h => h.1) (fun h => h.1))
    · exact h1
  · exact h
theorem pl_8s {k : Nat} {p : Int} {j : Nat} (hj : j ≠ 6 ∧ j ≠ 7 ∧ j ≠ 8 ∧ j ≠ 9 ∧ j ≠ 10 ∧ j ≠ 11 ∧ j ≠ 12) : stlS (plS s k p) 8 j = s 8 j := by
  rw [stl_o ⟨by decide, by decide, by decide, by decide, by decide, by decide, fun _ => ⟨hj.1, hj.2.2.1, hj.2.2.2.1, hj.2.2.2.2.1, hj.2.2.2.2.2.1, hj.2.2.2.2.2.2⟩⟩, pl_o ⟨by decide, by decide, fun _ => ⟨hj.2.1, hj.2.2.1, hj.2.2.2.1, hj.2.2.2.2.1, hj.2.2.2.2.2.1⟩⟩]
theorem sh_8s {x y : Int} {j : Nat} (hj : j = 13 ∨ j = 14) : stlS (shS s x y) 8 j = s 8 j := by
  rw [stl_o ⟨by decide, by decide, by decide, by decide, by decide, by decide, fun _ => by omega⟩, sh_o (fun _ => by omega)]
theorem ph_8 {i k j : Nat} (hj : j = 13 ∨ j = 14) : (phS s i k).2 8 j = s 8 j := by
  have hT : ∀ {s : MSt}, (phT s i).2 8 j = s 8 j := fun {s} => by
    unfold phT
    split
    · rfl
    · split
      · exact sh_8s hj
      · rfl
  have hU : ∀ {s : MSt} {q : Int}, (phU s k q i).2 8 j = s 8 j := fun {s q} => by
    unfold phU
    split
    · rfl
    · split
      · split
        · rw [hT, pl_8s (by omega)]
        · exact pl_8s (by omega)
      · rfl
  unfold phS
  split
  · split
    · rw [hU, lf_8s (by omega)]
    · exact lf_8s (by omega)
  · rfl
theorem wf_go {n : Int} (h : WF n s) (h13 : s 8 14 < s 8 13) : WF n (goS s) := by
  have h8 := ko_8 h.1.1
  have o : ∀ a j, (a = 8 → j ≠ 14) → goS s a j = s a j := fun a j h => by
    unfold goS
    by_cases e : a = 8
    · subst e; rw [us_nk (h rfl)]
    · rw [us_na e]
  obtain ⟨hA, hW, hU, hS, hN⟩ := h
  refine ⟨ai_go hA, w0_cg (fun _ => o _ _ (fun e => absurd e (by decide))) (fun _ => o _ _ (fun e => absurd e (by decide))) (fun j hj => o _ _ (fun _ => by omega)) hW, fun q k hk => ?_, fun q => ?_, ?_⟩
  · rw [o 7 k (fun e => absurd e (by decide))]
    exact hU (by rw [← o 8 6 (by decide)]; exact q) k hk
  · rw [stB_cg (s := s) (funext fun k => o 7 k (fun e => absurd e (by decide))) (fun j h1 h2 => o 8 j (fun _ => by omega))]
    exact hS (by rw [← o 8 6 (by decide)]; exact q)
  · unfold NX
    rw [o 8 13 (by decide)]
    unfold goS
    rw [us_at]
    split
    · exact Or.inr rfl
    · exact Or.inl (by omega)
theorem ix_40 {a : Int} {n i : Nat} (ha : a = (n : Nat)) (hn : n < 8) (hi : i < 5) : ixA 40 (iv (5 * a + i)) = some (5 * n + i) := by
  have : 5 * a + (i : Int) = ((5 * n + i : Nat) : Int) := by omega
  rw [this]
  exact ix_iv (by omega) (by decide)
theorem wf_wk {n : Int} (hn : n < 1000000) : ∀ m d {s : MSt}, WF n s → s 8 14 < s 8 13 → WF n (wkN m d s).2
  | 0, _, _, h, _ => h
  | m + 1, d, s, h, h13 => by
    have b12 : 0 ≤ s 12 (s 8 14).toNat ∧ s 12 (s 8 14).toNat ≤ 5 := h.1.1 12 _
    have h1 := wf_phS hn h (i := (s 8 14).toNat) (k := (s 12 (s 8 14).toNat).toNat) (by omega)
    have o13 : (phS s (s 8 14).toNat (s 12 (s 8 14).toNat).toNat).2 8 13 = s 8 13 := ph_8 (Or.inl rfl)
    have o14 : (phS s (s 8 14).toNat (s 12 (s 8 14).toNat).toNat).2 8 14 = s 8 14 := ph_8 (Or.inr rfl)
    unfold wkN
    split
    · have hg := wf_go h1 (by rw [o13, o14]; exact h13)
      refine wf_wk hn m (d + 1) hg ?_
      rcases hg.2.2.2.2 with q | q
      · exact q
      · rw [q]
        have : goS (phS s (s 8 14).toNat (s 12 (s 8 14).toNat).toNat).2 8 13 = s 8 13 := by unfold goS; rw [us_nk (by decide), o13]
        rw [this]
        have := (ko_8 h.1.1).2.2.2.2.2.2.2.2.2
        omega
    · exact h1
end
