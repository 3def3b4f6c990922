/-! margins in order -/
section
theorem cm_v {o : Ordering} : (0 ≤ Op.cmpValue (some o) .g) ↔ o ≠ .lt := cv_g
theorem nv_t {E T : Nat} : (nv E T).toInt32 = iv ((E * 8388608 + T : Nat) : Int) := nv_iv
theorem fc_0n {E T : Nat} (h1 : 1 ≤ E) (h2 : E ≤ 254) (ht : T < 8388608) : ¬ (0 ≤ Op.cmpValue (FP.fcmp 0 (nv E T)) .g) := by
  show ¬ (0 ≤ Op.cmpValue (FP.Core.cmp FP.Core.b32 0 (nv E T).toNat) .g)
  unfold FP.Core.cmp
  rw [nv_n h2 ht, dec_nv h1 h2 ht, dec_0]
  unfold FP.Core.order FP.Core.inUnits FP.Core.signed
  dsimp only
  rw [if_neg (by decide), if_neg (by decide), cm_v, Nat.zero_mul]
  intro h
  apply h
  rw [Int.compare_eq_lt]
  have := Nat.mul_pos (show 0 < 8388608 + T by omega) (Nat.pow_pos (n := ((E : Int) - 150 - min (-149) ((E : Int) - 150)).toNat) (show 0 < 2 by decide))
  omega
theorem fc_n0 {E T : Nat} (h1 : 1 ≤ E) (h2 : E ≤ 254) (ht : T < 8388608) : 0 ≤ Op.cmpValue (FP.fcmp (nv E T) 0) .g := by
  show 0 ≤ Op.cmpValue (FP.Core.cmp FP.Core.b32 (nv E T).toNat 0) .g
  unfold FP.Core.cmp
  rw [nv_n h2 ht, dec_nv h1 h2 ht, dec_0]
  unfold FP.Core.order FP.Core.inUnits FP.Core.signed
  dsimp only
  rw [if_neg (by decide), if_neg (by decide), cm_v, Nat.zero_mul]
  intro h
  rw [Int.compare_eq_lt] at h
  omega
theorem fc_00 : 0 ≤ Op.cmpValue (FP.fcmp 0 0) .g := by decide +kernel
/-- which of two margins is less -/
theorem fc_bits {x y : UInt32} (hx : okF x) (hy : okF y) : (0 ≤ Op.cmpValue (FP.fcmp x y) .g) ↔ y.toInt32 ≤ x.toInt32 := by
  have z0 : (0 : UInt32).toInt32 = iv 0 := by decide +kernel
  rcases hx with rfl | ⟨E, T, h1, h2, h3, rfl⟩
  · rcases hy with rfl | ⟨E', T', h1', h2', h3', rfl⟩
    · exact ⟨fun _ => Int32.le_refl _, fun _ => fc_00⟩
    · rw [z0, nv_t, iv_le (by unfold IB; omega) (by decide)]
      exact ⟨fun h => absurd h (fc_0n h1' (by omega) h3'), fun h => by omega⟩
  · rcases hy with rfl | ⟨E', T', h1', h2', h3', rfl⟩
    · rw [z0, nv_t, iv_le (by decide) (by unfold IB; omega)]
      exact ⟨fun _ => by omega, fun _ => fc_n0 h1 (by omega) h3⟩
    · rw [nv_t, nv_t, iv_le (by unfold IB; omega) (by unfold IB; omega), fc_nv h1 (by omega) h3 h1' (by omega) h3', cm_v, Ne, Int.compare_eq_lt]
      rcases Nat.lt_trichotomy E E' with c | c | c
      · have p := p2_two (a := E' - E) (by omega)
        have q := Nat.mul_le_mul_left (8388608 + T') p
        rw [show E - E' = 0 by omega]
        omega
      · subst c
        rw [Nat.sub_self]
        omega
      · have p := p2_two (a := E - E') (by omega)
        have q := Nat.mul_le_mul_left (8388608 + T) p
        rw [show E' - E = 0 by omega]
        omega
end
