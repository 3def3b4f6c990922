section
variable {s : MSt} {z f : Nat → Nat → Int32}
theorem learn_tell {w p q : Int} : learnS (tellS s w p) q = tellS (learnS s q) w p := by
  funext a k
  have l8 : ∀ {s : MSt} {j : Nat}, learnS s q 8 j = s 8 j := us_na (by decide)
  by_cases e : a = 8
  · subst e
    rw [l8]
    by_cases e8 : k = 8
    · subst e8; rw [tellS_8, tellS_8, l8]
    · by_cases e9 : k = 9
      · subst e9; rw [tellS_9, tellS_9, l8, l8]
      · by_cases e10 : k = 10
        · subst e10; rw [tellS_10, tellS_10, l8, l8]
        · by_cases e11 : k = 11
          · subst e11; rw [tellS_11, tellS_11, l8]
          · rw [tellS_o ⟨e8, e9, e10, e11⟩, tellS_o ⟨e8, e9, e10, e11⟩, l8]
  · rw [tellS_map e]
    by_cases e3 : a = 3
    · subst e3
      unfold learnS
      by_cases ek : k = q.toNat
      · subst ek; rw [us_at, us_at, tellS_map (by decide)]
      · rw [us_nk ek, us_nk ek, tellS_map (by decide)]
    · unfold learnS
      rw [us_na e3, us_na e3, tellS_map e]
theorem slN_cg {s' : MSt} (h : ∀ k, s' 0 k = s 0 k) {p : Int} : ∀ n i l r, slN s' p n i l r = slN s p n i l r
  | 0, _, _, _ => rfl
  | n + 1, i, l, r => by
    unfold slN
    rw [h, slN_cg h n, slN_cg h n]
theorem slS_cg {s' : MSt} (h : ∀ k, s' 0 k = s 0 k) (h2 : ∀ k, s' 2 k = s 2 k) {p : Int} : slS s' p = slS s p := by
  unfold slS
  rw [h, h2, slN_cg h]
theorem ix_p {p : Int} (hp : nB p) : ixA 400 (iv p) = some p.toNat := by
  have := ix_iv (n := 400) (nB_nat hp).2 (by decide)
  rw [← (nB_nat hp).1] at this
  exact this
theorem tk_but {ft : Nat → Int} {p : Int} {k : Nat} (h : ft k ≠ p) : tkS ft p k = tkS ft p (-1) := by
  rw [Bool.eq_iff_iff, tkN_iff, tkN_iff]
  constructor
  · rintro ⟨j, a, b, c, d⟩
    exact ⟨j, a, b, by omega, d⟩
  · rintro ⟨j, a, b, c, d⟩
    refine ⟨j, a, b, fun e => ?_, d⟩
    have : j = k := by omega
    subst this
    exact h d
theorem cn_mono {g ft : Nat → Int} (h : ∀ k, g k ≠ -1 → ft k ≠ -1) : ∀ n i c d, c ≤ d → cnN g n i c ≤ cnN ft n i d ∧ (c < d → cnN g n i c < cnN ft n i d)
  | 0, _, _, _, h => ⟨h, fun q => q⟩
  | n + 1, i, c, d, hcd => by
    unfold cnN
    by_cases e : g i = -1
    · by_cases e2 : ft i = -1
      · rw [if_pos e, if_pos e2]; exact cn_mono h n (i + 1) c d hcd
      · rw [if_pos e, if_neg e2]
        have := cn_mono h n (i + 1) c (d + 1) (by omega)
        exact ⟨this.1, fun _ => this.2 (by omega)⟩
    · rw [if_neg e, if_neg (h i e)]
      have := cn_mono h n (i + 1) (c + 1) (d + 1) (by omega)
      exact ⟨this.1, fun q => this.2 (by omega)⟩
theorem cn_less {g ft : Nat → Int} (h : ∀ k, g k ≠ -1 → ft k ≠ -1) : ∀ n i c d, c ≤ d → (∃ k, i ≤ k ∧ k < i + n ∧ g k = -1 ∧ ft k ≠ -1) → cnN g n i c < cnN ft n i d
  | 0, i, _, _, _, ⟨k, h1, h2, _⟩ => by omega
  | n + 1, i, c, d, hcd, ⟨k, h1, h2, h3, h4⟩ => by
    unfold cnN
    by_cases e : g i = -1
    · by_cases e2 : ft i = -1
      · rw [if_pos e, if_pos e2]
        refine cn_less h n (i + 1) c d hcd ⟨k, ?_, by omega, h3, h4⟩
        rcases Nat.lt_or_eq_of_le h1 with q | q
        · exact q
        · subst q; exact absurd e2 h4
      · rw [if_pos e, if_neg e2]
        exact (cn_mono h n (i + 1) c (d + 1) (by omega)).2 (by omega)
    · rw [if_neg e, if_neg (h i e)]
      refine cn_less h n (i + 1) (c + 1) (d + 1) (by omega) ⟨k, ?_, by omega, h3, h4⟩
      rcases Nat.lt_or_eq_of_le h1 with q | q
      · exact q
      · subst q; exact absurd h3 e
theorem sk_ne {k : Nat} (h : skS s k = true) : s 7 k ≠ -1 := by
  unfold skS skB at h
  rw [Bool.and_eq_true, decide_eq_true_iff] at h
  exact h.1
theorem sk_cn (h : mk (skS s) ≠ 0) : cnS (raS (s 7) (skS s)) < cnS (s 7) := by
  have : ∃ k, k < 6 ∧ skS s k = true := by
    apply Classical.byContradiction
    intro q
    refine h (mk_zero.mpr fun k hk => ?_)
    rw [← Bool.not_eq_true]
    exact fun e => q ⟨k, hk, e⟩
  obtain ⟨k, hk, hs⟩ := this
  refine cn_less (fun j hj => ?_) 6 0 0 0 (Nat.le_refl _) ⟨k, Nat.zero_le _, by omega, ?_, sk_ne hs⟩
  · unfold raS at hj
    by_cases c : skS s j = true
    · exact sk_ne c
    · rw [if_neg c] at hj; exact hj
  · unfold raS; rw [if_pos hs]
theorem sk_none (h : cnS (s 7) = 0) : mk (skS s) = 0 := by
  refine mk_zero.mpr fun k hk => ?_
  rw [← Bool.not_eq_true]
  intro e
  have := cn_less (g := fun _ => -1) (ft := s 7) (fun j q => absurd rfl q) 6 0 0 0 (Nat.le_refl _) ⟨k, Nat.zero_le _, by omega, rfl, sk_ne e⟩
  have h' : cnN (s 7) 6 0 0 = 0 := h
  omega
end
