section
variable {s : MSt} {z f : Nat → Nat → Int32}
theorem lv_wo {k : Nat} : lvS (s 3) (us s 7 k (-1) 7) (-1) = lvS (s 3) (s 7) k := by
  have : ∀ n i v, lvN (s 3) (us s 7 k (-1) 7) (-1) n i v = lvN (s 3) (s 7) k n i v := by
    intro n
    induction n with
    | zero => intro i v; rfl
    | succ n ih =>
      intro i v
      unfold lvN
      rw [ih]
      by_cases e : i = k
      · subst e
        rw [if_pos (Or.inr us_at), if_pos (Or.inl rfl)]
      · rw [us_nk e]
        have e1 : ¬ (i : Int) = k := by omega
        have e2 : ¬ (i : Int) = -1 := by omega
        simp only [e1, e2, false_or]
  exact this 6 0 0
/-- the best of the points below n -/
def mbP (s : MSt) (k : Nat) (n : Nat) (r l : Int) : Prop := (r = -1 ∧ ∀ q, elS s k q → ¬ q < n) ∨ (elS s k r ∧ r < n ∧ l = coS s k r ∧ ∀ q, elS s k q → q < n → coS s k r < coS s k q ∨ (coS s k r = coS s k q ∧ r ≤ q))
theorem tk_who (hD : DS s) {k : Nat} (hk6 : k < 6) {p r : Int} (hp : nB p) (r1 : -1 ≤ r ∧ r < 6) (r2 : r = -1 ↔ tkS (s 7) p (-1) = false) (r3 : r ≠ -1 → s 7 r.toNat = p) : (r = -1 ∨ r = k) ↔ tkS (s 7) p k = false := by
  rw [← Bool.not_eq_true, tkN_iff]
  constructor
  · rintro (h | h) ⟨j, -, hj, hne, hjp⟩
    · exact tk_no (r2.mp h) j (by omega) hjp
    · have h3 := r3 (by omega)
      have : r.toNat = k := by omega
      rw [this] at h3
      exact hne (by have := hD j k (by omega) hk6 (by rw [hjp]; unfold nB at hp; omega) (hjp.trans h3.symm); omega)
  · intro h
    apply Classical.byContradiction
    intro q
    have q1 : r ≠ -1 := fun e => q (Or.inl e)
    exact h ⟨r.toNat, Nat.zero_le _, by omega, fun e => q (Or.inr (by omega)), r3 q1⟩
/-- a foothold there is -/
theorem bs_ex (hk : KO s) {k : Nat} (hk6 : k < 6) : ∃ r, bsP s k r := by
  obtain ⟨r, h, -⟩ := cp_best (s := s) (z := fun a k => if a = 15 then iv (s 8 (k - 3)) else iv (s 8 k)) (f := fun a k => if a = 8 then iv (s 0 k) else if a = 10 then iv (s 1 k) else if a = 12 then iv (s 2 k) else if a = 14 then iv (s 3 k) else if a = 17 then iv (s 4 k) else if a = 19 then iv (s 5 k) else if a = 21 then iv (s 6 k) else iv (s 7 k)) hk hk6 (a0 := 22) ⟨⟨fun _ _ => rfl, fun _ _ => rfl, fun _ _ => rfl, fun _ _ => rfl⟩, ⟨fun _ _ => rfl, fun _ _ => rfl, fun _ _ => rfl⟩, rfl, rfl, rfl, rfl⟩ ⟨rfl, rfl, fun _ _ => rfl⟩
  exact ⟨r, h⟩
end
