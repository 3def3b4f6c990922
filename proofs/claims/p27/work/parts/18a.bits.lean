/-! fields of longs: bits -/
def lb (x : Int64) (n : Nat) : Bool := x.toBitVec.getLsbD n
theorem lb_and (x y : Int64) (n : Nat) : lb (x &&& y) n = (lb x n && lb y n) := BitVec.getLsbD_and
theorem lb_or (x y : Int64) (n : Nat) : lb (x ||| y) n = (lb x n || lb y n) := BitVec.getLsbD_or
theorem lb_xor (x y : Int64) (n : Nat) : lb (x ^^^ y) n = (lb x n ^^ lb y n) := BitVec.getLsbD_xor
theorem lb_ge {x : Int64} {n : Nat} (h : 64 ≤ n) : lb x n = false := BitVec.getLsbD_of_ge _ _ h
theorem lb_sc : ∀ n, n < 64 → ((Int32.toInt64 (iv (n : Nat)) &&& 63).toBitVec.smod 64).toNat = n := by decide +kernel
theorem lb_su : ∀ n, n < 64 → ((Int32.toInt64 (iv (n : Nat))).toUInt64.toBitVec &&& (Int64.toUInt64 63).toBitVec) % 64#64 = BitVec.ofNat 64 n := by decide +kernel
theorem lb_shl (x : Int64) {c : Nat} (hc : c < 64) (n : Nat) : lb (x <<< (Int32.toInt64 (iv (c : Nat)) &&& 63)) n = (decide (n < 64) && !decide (n < c) && lb x (n - c)) := by
  show (x.toBitVec <<< ((Int32.toInt64 (iv (c : Nat)) &&& 63).toBitVec.smod 64)).getLsbD n = _
  rw [BitVec.shiftLeft_eq', lb_sc c hc, BitVec.getLsbD_shiftLeft]
  rfl
theorem lb_shr (x : Int64) {c : Nat} (hc : c < 64) (n : Nat) : lb (jlushr x (iv (c : Nat))) n = lb x (c + n) := by
  show (x.toBitVec >>> (((Int32.toInt64 (iv (c : Nat))).toUInt64.toBitVec &&& (Int64.toUInt64 63).toBitVec) % 64#64)).getLsbD n = _
  rw [lb_su c hc, BitVec.ushiftRight_eq', BitVec.toNat_ofNat, Nat.mod_eq_of_lt (by omega), BitVec.getLsbD_ushiftRight]
  rfl
theorem lb_m1 : ∀ n, n < 64 → lb (-1) n = true := by decide +kernel
theorem lb_15s : ∀ n, n < 64 → lb 15 n = decide (n < 4) := by decide +kernel
theorem lb_15 (n : Nat) : lb 15 n = decide (n < 4) := by
  by_cases h : n < 64
  · exact lb_15s n h
  · rw [lb_ge (by omega), decide_eq_false (by omega)]
theorem lb_255s : ∀ n, n < 64 → lb 255 n = decide (n < 8) := by decide +kernel
theorem lb_255 (n : Nat) : lb 255 n = decide (n < 8) := by
  by_cases h : n < 64
  · exact lb_255s n h
  · rw [lb_ge (by omega), decide_eq_false (by omega)]
theorem lb_sm : ∀ v, v < 256 → (Int32.toInt64 (iv (v : Nat))).toBitVec = BitVec.ofNat 64 v := by decide +kernel
theorem lb_nat {v : Nat} (hv : v < 256) (n : Nat) : lb (Int32.toInt64 (iv (v : Nat))) n = (decide (n < 64) && v.testBit n) := by
  unfold lb
  rw [lb_sm v hv, BitVec.getLsbD_ofNat]
/-- the field i of w bits -/
def nbl (x : Int64) (w i : Nat) : Nat := x.toBitVec.toNat / 2 ^ (w * i) % 2 ^ w
theorem nbl_tb (x : Int64) (w i k : Nat) : (nbl x w i).testBit k = (decide (k < w) && lb x (w * i + k)) := by
  unfold nbl lb
  rw [Nat.testBit_mod_two_pow, Nat.testBit_div_two_pow, Nat.add_comm]
  rfl
theorem nbl_lt (x : Int64) (w i : Nat) : nbl x w i < 2 ^ w := Nat.mod_lt _ (Nat.two_pow_pos w)
theorem iv_tb {v n : Nat} (hn : n < 32) : (iv (v : Nat)).toBitVec.getLsbD n = v.testBit n := by
  show (BitVec.ofInt 32 (v : Int)).getLsbD n = _
  rw [BitVec.ofInt_natCast, BitVec.getLsbD_ofNat, decide_eq_true hn, Bool.true_and]
/-- a field read: the mask is 2 ^ w - 1 -/
theorem nbl_rd {x M : Int64} {w i : Nat} (hw : w ≤ 8) (hM : ∀ n, lb M n = decide (n < w)) (hi : w * i < 64) : Int64.toInt32 (jlushr x (iv ((w * i : Nat) : Int)) &&& M) = iv (nbl x w i : Nat) := by
  apply Int32.toBitVec_inj.mp
  apply BitVec.eq_of_getLsbD_eq
  intro n hn
  rw [iv_tb hn, nbl_tb]
  show (BitVec.signExtend 32 (jlushr x (iv ((w * i : Nat) : Int)) &&& M).toBitVec).getLsbD n = _
  rw [BitVec.getLsbD_signExtend, decide_eq_true hn, Bool.true_and, if_pos (by omega)]
  show lb (jlushr x (iv ((w * i : Nat) : Int)) &&& M) n = _
  rw [lb_and, lb_shr x hi, hM, Bool.and_comm]
/-- a field written -/
theorem nbl_wr {x M : Int64} {w i j v : Nat} (hw : w ≤ 8) (hM : ∀ n, lb M n = decide (n < w)) (hi : w * i + w ≤ 64) (hj : w * j + w ≤ 64) (hv : v < 2 ^ w) :
    nbl ((x &&& ((M <<< (Int32.toInt64 (iv ((w * i : Nat) : Int)) &&& 63)) ^^^ (-1))) ||| ((Int32.toInt64 (iv (v : Nat))) <<< (Int32.toInt64 (iv ((w * i : Nat) : Int)) &&& 63))) w j = if j = i then v else nbl x w j := by
  have hv8 : v < 256 := Nat.lt_of_lt_of_le hv (Nat.pow_le_pow_right (by decide) hw)
  apply Nat.eq_of_testBit_eq
  intro k
  rw [nbl_tb]
  by_cases hk : k < w
  · have hw0 : 0 < w := by omega
    have hi64 : w * i < 64 := by omega
    have hn : w * j + k < 64 := by omega
    rw [decide_eq_true hk, Bool.true_and, lb_or, lb_and, lb_xor, lb_shl _ hi64, lb_shl _ hi64, lb_m1 _ hn, hM, lb_nat hv8, decide_eq_true hn, Bool.true_and]
    by_cases e : j = i
    · subst e
      rw [if_pos rfl, decide_eq_false (show ¬ w * j + k < w * j by omega), show w * j + k - w * j = k by omega, decide_eq_true hk, decide_eq_true (show k < 64 by omega)]
      simp
    · rw [if_neg e, nbl_tb, decide_eq_true hk, Bool.true_and]
      rcases Nat.lt_or_gt_of_ne e with q | q
      · have : w * j + w ≤ w * i := by have := Nat.mul_le_mul_left w (Nat.succ_le_of_lt q); rw [Nat.mul_succ] at this; exact this
        rw [decide_eq_true (show w * j + k < w * i by omega)]
        simp
      · have h2 : w * i + w ≤ w * j := by have := Nat.mul_le_mul_left w (Nat.succ_le_of_lt q); rw [Nat.mul_succ] at this; exact this
        rw [decide_eq_false (show ¬ w * j + k < w * i by omega), decide_eq_false (show ¬ w * j + k - w * i < w by omega)]
        have : v.testBit (w * j + k - w * i) = false := Nat.testBit_lt_two_pow (Nat.lt_of_lt_of_le hv (Nat.pow_le_pow_right (by decide) (by omega)))
        rw [this]
        simp
  · rw [decide_eq_false hk, Bool.false_and]
    by_cases e : j = i
    · rw [if_pos e]
      exact (Nat.testBit_lt_two_pow (Nat.lt_of_lt_of_le hv (Nat.pow_le_pow_right (by decide) (by omega)))).symm
    · rw [if_neg e, nbl_tb, decide_eq_false hk, Bool.false_and]
