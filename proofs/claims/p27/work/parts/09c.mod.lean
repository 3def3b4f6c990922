theorem mls_mem {σ : Nat → Bool} {fp : Nat → Pt} {k : Nat} (h : k < 6 ∧ σ k = true) : fp k ∈ mls σ fp := (mlN_mem 6 0).mpr ⟨k, Nat.zero_le _, by omega, h.2, rfl⟩
