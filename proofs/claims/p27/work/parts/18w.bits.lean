/-! longs as the law rounds them -/
section
variable {z f : Nat → Nat → Int32}
theorem nn_n {a : Int64} {n : Nat} (h : a.toInt = (n : Int)) : a.toBitVec.toNat = n := by
  have h1 : a.toBitVec.toInt = (n : Int) := h
  rw [BitVec.toInt_eq_toNat_cond] at h1
  have := a.toBitVec.isLt
  split at h1 <;> omega
theorem n_nn {a : Int64} {n : Nat} (h : a.toBitVec.toNat = n) (hn : n < 2 ^ 63) : a.toInt = (n : Int) := by
  show a.toBitVec.toInt = _
  rw [BitVec.toInt_eq_toNat_cond, h, if_pos (by omega)]
theorem sh_r {a : Int64} {n s : Nat} (ha : a.toInt = (n : Int)) (hs : s < 64) : (a >>> (Int32.toInt64 (iv (s : Nat)) &&& 63)).toInt = ((n / 2 ^ s : Nat) : Int) := by
  show (a.toBitVec.sshiftRight ((Int32.toInt64 (iv (s : Nat)) &&& 63).toBitVec.smod 64).toNat).toInt = _
  rw [lb_sc s hs, BitVec.toInt_sshiftRight, show a.toBitVec.toInt = (n : Int) from ha, Int.shiftRight_eq_div_pow]
  norm_cast
theorem sh_l {a : Int64} {n s : Nat} (ha : a.toInt = (n : Int)) (hs : s < 64) (hb : n * 2 ^ s < 2 ^ 63) : (a <<< (Int32.toInt64 (iv (s : Nat)) &&& 63)).toInt = ((n * 2 ^ s : Nat) : Int) := by
  refine n_nn ?_ hb
  show (a.toBitVec <<< ((Int32.toInt64 (iv (s : Nat)) &&& 63).toBitVec.smod 64).toNat).toNat = _
  rw [lb_sc s hs, BitVec.toNat_shiftLeft, nn_n ha, Nat.shiftLeft_eq, Nat.mod_eq_of_lt (by omega)]
theorem ad_l {a b : Int64} {x y : Int} (ha : a.toInt = x) (hb : b.toInt = y) (h : -4000000000000000000 ≤ x + y ∧ x + y ≤ 4000000000000000000) : (a + b).toInt = x + y := by
  rw [Int64.toInt_add, ha, hb, Int.bmod_eq_of_le (by omega) (by omega)]
theorem sb_l {a b : Int64} {x y : Int} (ha : a.toInt = x) (hb : b.toInt = y) (h : -4000000000000000000 ≤ x - y ∧ x - y ≤ 4000000000000000000) : (a - b).toInt = x - y := by
  rw [Int64.toInt_sub, ha, hb, Int.bmod_eq_of_le (by omega) (by omega)]
theorem cm_gt {a b : Int64} : 0 < lg_cmp a b ↔ b.toInt < a.toInt := by
  rw [lg_cmp_gt, Int64.lt_iff_toInt_lt]
end
