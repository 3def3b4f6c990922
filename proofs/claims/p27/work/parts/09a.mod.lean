/-! the model's hull -/
def mlN (σ : Nat → Bool) (fp : Nat → Pt) : Nat → Nat → List Pt
  | 0, _ => []
  | n + 1, i => if σ i then fp i :: mlN σ fp n (i + 1) else mlN σ fp n (i + 1)
abbrev mls (σ : Nat → Bool) (fp : Nat → Pt) : List Pt := mlN σ fp 6 0
theorem mlN_mem {σ : Nat → Bool} {fp : Nat → Pt} {a : Pt} : ∀ n i, a ∈ mlN σ fp n i ↔ ∃ k, i ≤ k ∧ k < i + n ∧ σ k = true ∧ fp k = a
  | 0, i => by
    constructor
    · intro h; cases h
    · rintro ⟨k, h1, h2, -⟩; omega
  | n + 1, i => by
    unfold mlN
    have ih := mlN_mem (σ := σ) (fp := fp) (a := a) n (i + 1)
    by_cases h : σ i = true
    · rw [if_pos h, List.mem_cons, ih]
      constructor
      · rintro (rfl | ⟨k, h1, h2, h3⟩)
        · exact ⟨i, Nat.le_refl _, by omega, h, rfl⟩
        · exact ⟨k, by omega, by omega, h3⟩
      · rintro ⟨k, h1, h2, h3, h4⟩
        rcases Nat.lt_or_eq_of_le h1 with h6 | h6
        · exact Or.inr ⟨k, h6, by omega, h3, h4⟩
        · subst h6; exact Or.inl h4.symm
    · rw [if_neg h, ih]
      constructor
      · rintro ⟨k, h1, h2, h3⟩; exact ⟨k, by omega, by omega, h3⟩
      · rintro ⟨k, h1, h2, h3, h4⟩
        rcases Nat.lt_or_eq_of_le h1 with h6 | h6
        · exact ⟨k, h6, by omega, h3, h4⟩
        · subst h6; exact absurd h3 h
def pB (p : Pt) : Prop := (0 ≤ p.1 ∧ p.1 < 20) ∧ 0 ≤ p.2 ∧ p.2 < 20
theorem ix_iv {n i : Nat} (h : i < n) (hn : n < 1000) : ixA n (iv i) = some i := by
  unfold ixA
  have h0 : ¬ iv i < (0 : Int32) := fun e => by
    have := (iv_lt (b := 0) (ibn (by omega)) (by decide)).mp e
    omega
  rw [iv_clamp (ibn (by omega))]
  rw [Int.toNat_natCast, if_neg (fun q => q.elim h0 (fun q => by omega))]
theorem tn_bd {a b c : Pt} (ha : pB a) (hb : pB b) (hc : pB c) : -1000 ≤ tn a b c ∧ tn a b c ≤ 1000 := by
  unfold pB at *
  have m1 := bd_mul (a := b.1 - a.1) (b := c.2 - a.2) (A := 19) (B := 19) (by omega) (by omega)
  have m2 := bd_mul (a := b.2 - a.2) (b := c.1 - a.1) (A := 19) (B := 19) (by omega) (by omega)
  unfold tn
  omega
theorem sq_bd {a b : Pt} (ha : pB a) (hb : pB b) : 0 ≤ sqd a b ∧ sqd a b ≤ 1000 := by
  unfold pB at *
  have m1 := bd_mul (a := b.1 - a.1) (b := b.1 - a.1) (A := 19) (B := 19) (by omega) (by omega)
  have m2 := bd_mul (a := b.2 - a.2) (b := b.2 - a.2) (A := 19) (B := 19) (by omega) (by omega)
  have := hg_sq0 (b.1 - a.1)
  have := hg_sq0 (b.2 - a.2)
  unfold sqd
  omega
