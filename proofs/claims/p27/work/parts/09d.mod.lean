theorem fi_bd {p : Pt} (h : pB p) : 0 ≤ fiP p ∧ fiP p < 400 := by unfold pB at h; unfold fiP; omega
theorem iv_p (i : Nat) : iv ((i + 1 : Nat) : Int) + (-1) = iv (i : Nat) := by
  show iv _ + iv (-1) = _
  rw [iv_add]
  congr 1
  omega
theorem mls_nil {σ : Nat → Bool} {fp : Nat → Pt} (h : ∀ k, k < 6 → σ k = false) : mls σ fp = [] := by
  apply List.eq_nil_iff_forall_not_mem.mpr
  intro a ha
  obtain ⟨k, -, h2, h3, -⟩ := (mlN_mem 6 0).mp ha
  rw [h k (by omega)] at h3
  cases h3
theorem mlN_len {σ : Nat → Bool} {fp : Nat → Pt} : ∀ n i, (mlN σ fp n i).length ≤ n
  | 0, _ => Nat.le_refl _
  | n + 1, i => by
    unfold mlN
    have := mlN_len (σ := σ) (fp := fp) n (i + 1)
    by_cases h : σ i = true
    · rw [if_pos h, List.length_cons]; omega
    · rw [if_neg h]; omega
theorem fi_inj {p q : Pt} (hp : pB p) (hq : pB q) (h : fiP p = fiP q) : p = q := by
  unfold pB at *
  unfold fiP at h
  exact Prod.ext (by omega) (by omega)
