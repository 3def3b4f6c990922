/-! floats: the fraction, and the order -/
theorem dec_0 : FP.Core.decode FP.Core.b32 0 = .fin false 0 (-149) := by decide +kernel
theorem rr_0 {d : Nat} {e : Int} : FP.Core.roundRatio FP.Core.b32 false 0 d e = .fin false 0 (-149) := by
  unfold FP.Core.roundRatio
  rw [if_pos rfl]
  rfl
theorem enc_0 : UInt32.ofNat (FP.Core.encode FP.Core.b32 (.fin false 0 (-149))) = 0 := by decide +kernel
theorem n_c0 : FP.fconst0 = (0 : UInt32) := rfl
theorem n_c1 : FP.fconst1.toNat = 127 * 8388608 + 0 := rfl
theorem n_c2 : FP.fconst2.toNat = 128 * 8388608 + 0 := rfl
theorem n_c23 : (1258291200 : UInt32).toNat = 150 * 8388608 + 0 := rfl
theorem jnn_0 : jnn 0 = some 0 := by decide +kernel
theorem fl_sub {T : Nat} (ht : T < 8388608) : FP.fsub (nv 127 T) FP.fconst1 = UInt32.ofNat (FP.Core.encode FP.Core.b32 (FP.Core.roundRatio FP.Core.b32 false T 1 (-23))) := by
  show UInt32.ofNat (FP.Core.sub FP.Core.b32 (nv 127 T).toNat FP.fconst1.toNat) = _
  unfold FP.Core.sub
  rw [nv_n (by decide) ht, dec_nv (by decide) (by decide) ht, n_c1, dec_nv (by decide) (by decide) (by decide)]
  unfold FP.Core.negate FP.Core.exactSum FP.Core.round
  dsimp only
  have hs : FP.Core.sumUnits false (8388608 + T) (((127 : Nat) : Int) - 150) (!false) (8388608 + 0) (((127 : Nat) : Int) - 150) (min (((127 : Nat) : Int) - 150) (((127 : Nat) : Int) - 150)) = (T : Int) := by
    unfold FP.Core.sumUnits FP.Core.signed FP.Core.inUnits
    rw [Int.min_self, Int.sub_self, show (0 : Int).toNat = 0 from rfl, if_neg (by decide), if_pos (by decide)]
    omega
  have hg : FP.Core.sumSign false (!false) (T : Int) = false := by
    unfold FP.Core.sumSign
    split
    · rfl
    · exact decide_eq_false (by omega)
  rw [hs, hg, Int.natAbs_natCast, Int.min_self, show (((127 : Nat) : Int) - 150) = -23 by decide]
theorem fl_t {T : Nat} (ht : T < 8388608) : ∃ x y : UInt32, FP.fsub (nv 127 T) FP.fconst1 = x ∧ jnn x = some x ∧ FP.fmul x 1258291200 = y ∧ jnn y = some y ∧ FP.f2i y = Int32.ofInt T := by
  rw [fl_sub ht]
  by_cases h0 : T = 0
  · subst h0
    rw [rr_0, enc_0]
    exact ⟨0, 0, rfl, jnn_0, by decide +kernel, jnn_0, by decide +kernel⟩
  · have hL : T.log2 ≤ 22 := by
      have := (Nat.log2_lt h0 (k := 23)).mpr ht
      omega
    obtain ⟨L, hl⟩ : ∃ L, L = T.log2 := ⟨_, rfl⟩
    have h2 := Nat.log2_self_le h0
    have h3 : T < 2 ^ (T.log2 + 1) := (Nat.log2_lt h0).mp (Nat.lt_succ_self _)
    rw [← hl] at hL h2 h3
    have e24 : 2 ^ L * 2 ^ (23 - L) = 8388608 := by
      rw [← Nat.pow_add, show L + (23 - L) = 23 by omega]
    have c1 : 8388608 ≤ T * 2 ^ (23 - L) := by
      rw [← e24]
      exact Nat.mul_le_mul_right _ h2
    have c2 : T * 2 ^ (23 - L) < 16777216 := by
      have := Nat.mul_lt_mul_of_pos_right h3 (Nat.pow_pos (n := 23 - L) (show 0 < 2 by decide))
      rw [← Nat.pow_add, show L + 1 + (23 - L) = 24 by omega] at this
      exact this
    have e1 : FP.Core.roundRatio FP.Core.b32 false T 1 (-23) = .fin false (T * 2 ^ (23 - L)) ((L : Int) - 46) := by
      refine rr_ex h0 (by decide) ?_ ?_ c2 (by omega)
      · unfold FP.Core.quantum
        rw [lead_1 h0 hl.symm]
        show max (-149 : Int) ((L : Int) + -23 - ((24 : Int) - 1)) = _
        omega
      · rw [show (-23 - ((L : Int) - 46)).toNat = 23 - L by omega, show ((L : Int) - 46 - -23).toNat = 0 by omega]
        omega
    obtain ⟨F, hF⟩ : ∃ F, T * 2 ^ (23 - L) = 8388608 + F := ⟨_, (Nat.add_sub_of_le c1).symm⟩
    rw [hF] at e1 c2
    rw [e1, show ((L : Int) - 46) = (((L + 104 : Nat) : Int) - 150) by omega, enc_nv (by omega)]
    refine ⟨_, nv (L + 127) F, rfl, jnn_nv (by omega) (by omega), ?_, jnn_nv (by omega) (by omega), ?_⟩
    · show UInt32.ofNat (FP.Core.mul FP.Core.b32 (nv (L + 104) F).toNat (1258291200 : UInt32).toNat) = _
      unfold FP.Core.mul
      rw [nv_n (by omega) (by omega), dec_nv (by omega) (by omega) (by omega), n_c23, dec_nv (by decide) (by decide) (by decide)]
      have hr : FP.Core.roundRatio FP.Core.b32 false ((8388608 + F) * (8388608 + 0)) 1 ((((L + 104 : Nat) : Int) - 150) + (((150 : Nat) : Int) - 150)) = .fin false (8388608 + F) (((L + 127 : Nat) : Int) - 150) := by
        refine rr_ex (by omega) (by decide) ?_ ?_ (by omega) (by omega)
        · unfold FP.Core.quantum
          rw [lead_1 (L := 46) (by omega) (log2_of (by omega) (by omega))]
          show max (-149 : Int) (((46 : Nat) : Int) + _ - ((24 : Int) - 1)) = _
          omega
        · rw [show ((((L + 104 : Nat) : Int) - 150 + (((150 : Nat) : Int) - 150)) - (((L + 127 : Nat) : Int) - 150)).toNat = 0 by omega, show ((((L + 127 : Nat) : Int) - 150) - (((L + 104 : Nat) : Int) - 150 + (((150 : Nat) : Int) - 150))).toNat = 23 by omega]
          omega
      unfold FP.Core.exactProduct FP.Core.round
      dsimp only
      rw [show (false != false) = false from rfl, hr, enc_nv (by omega)]
    · show FP.Core.toI (FP.Core.decode FP.Core.b32 (nv (L + 127) F).toNat) = _
      rw [nv_n (by omega) (by omega), dec_nv (by omega) (by omega) (by omega), ← hF]
      unfold FP.Core.toI FP.Core.toInt FP.Core.truncate FP.Core.signed
      dsimp only
      rw [show (((L + 127 : Nat) : Int) - 150).toNat = 0 by omega, show (-(((L + 127 : Nat) : Int) - 150)).toNat = 23 - L by omega, if_neg (by decide), Nat.pow_zero, Nat.mul_one, Nat.mul_div_cancel _ (Nat.pow_pos (by decide))]
      congr 1
      rw [show (2 : Int) ^ 31 = 2147483648 from rfl]
      omega
/-- the order of two normal ones -/
theorem fc_nv {E T E' T' : Nat} (h1 : 1 ≤ E) (h2 : E ≤ 254) (ht : T < 8388608) (h1' : 1 ≤ E') (h2' : E' ≤ 254) (ht' : T' < 8388608) : FP.fcmp (nv E T) (nv E' T') = some (compare ((((8388608 + T) * 2 ^ (E - E') : Nat)) : Int) (((8388608 + T') * 2 ^ (E' - E) : Nat) : Int)) := by
  show FP.Core.cmp FP.Core.b32 (nv E T).toNat (nv E' T').toNat = _
  unfold FP.Core.cmp
  rw [nv_n h2 ht, nv_n h2' ht', dec_nv h1 h2 ht, dec_nv h1' h2' ht']
  unfold FP.Core.order FP.Core.inUnits FP.Core.signed
  dsimp only
  rw [if_neg (by decide), if_neg (by decide), show ((E : Int) - 150 - min ((E : Int) - 150) ((E' : Int) - 150)).toNat = E - E' by omega, show ((E' : Int) - 150 - min ((E : Int) - 150) ((E' : Int) - 150)).toNat = E' - E by omega]
theorem c1_nv : FP.fconst1 = nv 127 0 := by decide +kernel
theorem c2_nv : FP.fconst2 = nv 128 0 := by decide +kernel
theorem cv_g {o : Ordering} : (0 ≤ Op.cmpValue (some o) .g) ↔ o ≠ .lt := by cases o <;> decide
theorem cv_l {o : Ordering} : (Op.cmpValue (some o) .l < 0) ↔ o = .lt := by cases o <;> decide
theorem cv_p {o : Ordering} : (0 < Op.cmpValue (some o) .g) ↔ o = .gt := by cases o <;> decide
theorem p2_two {a : Nat} (h : 1 ≤ a) : 2 ≤ 2 ^ a := by
  have := Nat.pow_le_pow_right (show 0 < 2 by decide) h
  omega
theorem fl_ge1 {E T : Nat} (h1 : 1 ≤ E) (h2 : E ≤ 254) (ht : T < 8388608) : (0 ≤ Op.cmpValue (FP.fcmp (nv E T) FP.fconst1) .g) ↔ 127 ≤ E := by
  rw [c1_nv, fc_nv h1 h2 ht (by decide) (by decide) (by decide), cv_g, Ne, Int.compare_eq_lt]
  by_cases h : 127 ≤ E
  · have : (127 : Nat) - E = 0 := by omega
    rw [this]
    have := Nat.pow_pos (n := E - 127) (show 0 < 2 by decide)
    have := Nat.le_mul_of_pos_right (8388608 + T) this
    omega
  · have e := p2_two (a := 127 - E) (by omega)
    rw [show E - 127 = 0 by omega]
    omega
theorem fl_lt2 {E T : Nat} (h1 : 1 ≤ E) (h2 : E ≤ 254) (ht : T < 8388608) : (Op.cmpValue (FP.fcmp (nv E T) FP.fconst2) .l < 0) ↔ E < 128 := by
  rw [c2_nv, fc_nv h1 h2 ht (by decide) (by decide) (by decide), cv_l, Int.compare_eq_lt]
  by_cases h : 128 ≤ E
  · have : (128 : Nat) - E = 0 := by omega
    rw [this]
    have := Nat.pow_pos (n := E - 128) (show 0 < 2 by decide)
    have := Nat.le_mul_of_pos_right (8388608 + T) this
    omega
  · have e := p2_two (a := 128 - E) (by omega)
    rw [show E - 128 = 0 by omega]
    omega
theorem fl_pos {E T : Nat} (h1 : 1 ≤ E) (h2 : E ≤ 254) (ht : T < 8388608) : 0 < Op.cmpValue (FP.fcmp (nv E T) FP.fconst0) .g := by
  show 0 < Op.cmpValue (FP.Core.cmp FP.Core.b32 (nv E T).toNat 0) .g
  unfold FP.Core.cmp
  rw [nv_n h2 ht, dec_nv h1 h2 ht, dec_0]
  unfold FP.Core.order FP.Core.inUnits FP.Core.signed
  dsimp only
  rw [cv_p, if_neg (by decide), if_neg (by decide), Int.compare_eq_gt, Nat.zero_mul]
  have := Nat.pow_pos (n := ((E : Int) - 150 - min ((E : Int) - 150) (-149)).toNat) (show 0 < 2 by decide)
  have := Nat.le_mul_of_pos_right (8388608 + T) this
  omega

