/-! floats: normal ones, by exponent and fraction -/
def nv (E T : Nat) : UInt32 := UInt32.ofNat (E * 8388608 + T)
theorem nv_n {E T : Nat} (h : E ≤ 254) (ht : T < 8388608) : (nv E T).toNat = E * 8388608 + T := by
  unfold nv
  rw [UInt32.toNat_ofNat', Nat.mod_eq_of_lt (by omega)]
theorem nv_nn {E T : Nat} (h : E ≤ 254) (ht : T < 8388608) : nv E T &&& 0x7fffffff ≤ 0x7f800000 := by
  rw [UInt32.le_iff_toNat_le, UInt32.toNat_and, nv_n h ht, show (0x7fffffff : UInt32).toNat = 2 ^ 31 - 1 from rfl, Nat.and_two_pow_sub_one_eq_mod, show (0x7f800000 : UInt32).toNat = 2139095040 from rfl]
  have : (E * 8388608 + T) % 2 ^ 31 ≤ E * 8388608 + T := Nat.mod_le _ _
  omega
theorem jnn_nv {E T : Nat} (h : E ≤ 254) (ht : T < 8388608) : jnn (nv E T) = some (nv E T) := if_pos (nv_nn h ht)
theorem dec_nv {E T : Nat} (h1 : 1 ≤ E) (h2 : E ≤ 254) (ht : T < 8388608) : FP.Core.decode FP.Core.b32 (E * 8388608 + T) = .fin false (8388608 + T) ((E : Int) - 150) := by
  have e1 : FP.Core.fieldE FP.Core.b32 (E * 8388608 + T) = E := by
    show (E * 8388608 + T) / 8388608 % 256 = E
    omega
  have e2 : FP.Core.fieldT FP.Core.b32 (E * 8388608 + T) = T := by
    show (E * 8388608 + T) % 8388608 = T
    omega
  have e3 : FP.Core.fieldS FP.Core.b32 (E * 8388608 + T) = false := by
    show ((E * 8388608 + T) / 8388608 / 256 % 2 == 1) = false
    rw [show (E * 8388608 + T) / 8388608 / 256 % 2 = 0 by omega]
    rfl
  unfold FP.Core.decode
  rw [e1, e2, e3, if_neg (show ¬ E = FP.Core.b32.exps - 1 from (show ¬ E = 255 by omega)), if_neg (by omega)]
  show FP.Core.Datum.fin false (8388608 + T) (-149 + ((E : Int) - 1)) = _
  congr 1
  omega
theorem enc_fin {c : Nat} {q : Int} (h1 : 8388608 ≤ c) : FP.Core.encode FP.Core.b32 (.fin false c q) = ((q + 149).toNat + 1) * 8388608 + (c - 8388608) := by
  unfold FP.Core.encode
  dsimp only
  rw [if_neg (show ¬ c < FP.Core.b32.tails from (show ¬ c < 8388608 by omega))]
  show (0 * 256 + ((q - -149).toNat + 1)) * 8388608 + (c - 8388608) = _
  rw [show q - -149 = q + 149 by omega]
  omega
theorem enc_nv {E T : Nat} (h1 : 1 ≤ E) : UInt32.ofNat (FP.Core.encode FP.Core.b32 (.fin false (8388608 + T) ((E : Int) - 150))) = nv E T := by
  rw [enc_fin (by omega)]
  unfold nv
  refine congrArg UInt32.ofNat ?_
  rw [show (((E : Int) - 150 + 149).toNat + 1) = E by omega, show 8388608 + T - 8388608 = T by omega]
theorem nr_mul {n d : Nat} (hd : 0 < d) : FP.Core.nearest (n * d) d = n := by
  unfold FP.Core.nearest
  rw [Nat.mul_mod_left, if_pos (by omega), Nat.mul_div_cancel _ hd]
/-- rounding what is exact -/
theorem rr_ex {num den c : Nat} {e q : Int} (h0 : num ≠ 0) (hd : 0 < den) (hq : FP.Core.quantum FP.Core.b32 num den e = q) (hv : num * 2 ^ (e - q).toNat = c * (den * 2 ^ (q - e).toNat)) (hc : c < 16777216) (hm : q ≤ 104) : FP.Core.roundRatio FP.Core.b32 false num den e = .fin false c q := by
  unfold FP.Core.roundRatio
  rw [if_neg h0, hq]
  unfold FP.Core.roundAt FP.Core.unitsNum FP.Core.unitsDen
  rw [hv, nr_mul (Nat.mul_pos hd (Nat.pow_pos (by decide)))]
  unfold FP.Core.settle FP.Core.bound
  rw [if_pos (show c < 2 ^ FP.Core.b32.p from hc), if_pos (show q ≤ FP.Core.b32.qmax from hm)]
theorem lead_1 {n L : Nat} (h0 : n ≠ 0) (hl : n.log2 = L) : FP.Core.leading n 1 = (L : Int) := by
  unfold FP.Core.leading
  have h1 : Nat.log2 1 = 0 := by decide
  have h2 := Nat.log2_self_le h0
  dsimp only
  rw [hl, h1]
  rw [hl] at h2
  rw [if_pos]
  · omega
  · rw [show ((L : Int) - ((0 : Nat) : Int)).toNat = L by omega, show (-((L : Int) - ((0 : Nat) : Int))).toNat = 0 by omega]
    omega
theorem log2_of {n L : Nat} (h1 : 2 ^ L ≤ n) (h2 : n < 2 ^ (L + 1)) : n.log2 = L := by
  have h0 : n ≠ 0 := by
    have := Nat.pow_pos (n := L) (show 0 < 2 by decide)
    omega
  have a := (Nat.le_log2 h0).mpr h1
  have b := (Nat.log2_lt h0).mpr h2
  omega
/-- halves and doubles -/
theorem fl_half {E T : Nat} (h1 : 2 ≤ E) (h2 : E ≤ 254) (ht : T < 8388608) : FP.fdiv (nv E T) FP.fconst2 = nv (E - 1) T := by
  show UInt32.ofNat (FP.Core.div FP.Core.b32 (nv E T).toNat FP.fconst2.toNat) = _
  unfold FP.Core.div
  rw [nv_n h2 ht, dec_nv (by omega) h2 ht, show FP.fconst2.toNat = 128 * 8388608 + 0 from rfl, dec_nv (by decide) (by decide) (by decide)]
  have hl : FP.Core.leading (8388608 + T) (8388608 + 0) = 0 := by
    unfold FP.Core.leading
    rw [log2_of (n := 8388608 + T) (L := 23) (by omega) (by omega), log2_of (n := 8388608 + 0) (L := 23) (by omega) (by omega)]
    dsimp only
    rw [if_pos]
    · rfl
    · show (8388608 + 0) * 2 ^ 0 ≤ (8388608 + T) * 2 ^ 0
      omega
  have hr : FP.Core.roundRatio FP.Core.b32 false (8388608 + T) (8388608 + 0) (((E : Int) - 150) - (((128 : Nat) : Int) - 150)) = .fin false (8388608 + T) (((E - 1 : Nat) : Int) - 150) := by
    refine rr_ex (by omega) (by decide) ?_ ?_ (by omega) (by omega)
    · unfold FP.Core.quantum
      rw [hl]
      show max (-149 : Int) (0 + _ - ((24 : Int) - 1)) = _
      omega
    · rw [show ((E : Int) - 150 - (((128 : Nat) : Int) - 150) - (((E - 1 : Nat) : Int) - 150)).toNat = 23 by omega, show ((((E - 1 : Nat) : Int) - 150) - ((E : Int) - 150 - (((128 : Nat) : Int) - 150))).toNat = 0 by omega]
  unfold FP.Core.quotient
  dsimp only
  rw [if_neg (by decide), show (false != false) = false from rfl, hr, enc_nv (by omega)]
theorem fl_dbl {E T : Nat} (h1 : 1 ≤ E) (h2 : E ≤ 253) (ht : T < 8388608) : FP.fmul (nv E T) FP.fconst2 = nv (E + 1) T := by
  show UInt32.ofNat (FP.Core.mul FP.Core.b32 (nv E T).toNat FP.fconst2.toNat) = _
  unfold FP.Core.mul
  rw [nv_n (by omega) ht, dec_nv h1 (by omega) ht, show FP.fconst2.toNat = 128 * 8388608 + 0 from rfl, dec_nv (by decide) (by decide) (by decide)]
  have hr : FP.Core.roundRatio FP.Core.b32 false ((8388608 + T) * (8388608 + 0)) 1 (((E : Int) - 150) + (((128 : Nat) : Int) - 150)) = .fin false (8388608 + T) (((E + 1 : Nat) : Int) - 150) := by
    refine rr_ex (by omega) (by decide) ?_ ?_ (by omega) (by omega)
    · unfold FP.Core.quantum
      rw [lead_1 (L := 46) (by omega) (log2_of (by omega) (by omega))]
      show max (-149 : Int) (((46 : Nat) : Int) + _ - ((24 : Int) - 1)) = _
      omega
    · rw [show (((E : Int) - 150 + (((128 : Nat) : Int) - 150)) - (((E + 1 : Nat) : Int) - 150)).toNat = 0 by omega, show ((((E + 1 : Nat) : Int) - 150) - ((E : Int) - 150 + (((128 : Nat) : Int) - 150))).toNat = 23 by omega]
      omega
  unfold FP.Core.exactProduct FP.Core.round
  dsimp only
  rw [show (false != false) = false from rfl, hr, enc_nv (by omega)]

