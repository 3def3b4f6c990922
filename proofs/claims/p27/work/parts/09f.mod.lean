/-- the class's feet and the model's -/
theorem fls_mls {ft : Nat → Int} {but : Int} {σ : Nat → Bool} {fp : Nat → Pt} (h : ∀ k, k < 6 → (σ k = true ↔ (k : Int) ≠ but ∧ ft k ≠ -1)) (hp : ∀ k, k < 6 → σ k = true → pt (ft k) = fp k) : flP ft but = mls σ fp := by
  have : ∀ n i, i + n ≤ 6 → (flN ft but n i).map pt = mlN σ fp n i := by
    intro n
    induction n with
    | zero => intro i _; rfl
    | succ n ih =>
      intro i hi
      unfold flN mlN
      by_cases c : σ i = true
      · have := (h i (by omega)).mp c
        rw [if_pos c, if_neg (by rintro (q | q); exact this.1 q; exact this.2 q), List.map_cons, ih (i + 1) (by omega), hp i (by omega) c]
      · have : (i : Int) = but ∨ ft i = -1 := by
          apply Classical.byContradiction
          intro q
          exact c ((h i (by omega)).mpr ⟨fun e => q (Or.inl e), fun e => q (Or.inr e)⟩)
        rw [if_neg c, if_pos this, ih (i + 1) (by omega)]
  exact this 6 0 (by decide)

