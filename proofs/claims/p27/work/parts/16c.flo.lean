/-! floats: the class's way to the bits; quotients of whole numbers -/
theorem or_bits {E T : Nat} (h : E ≤ 254) (ht : T < 8388608) : (iv (E : Int) <<< (23 &&& 31)) ||| Int32.ofInt (T : Int) = (nv E T).toInt32 := by
  apply Int32.toBitVec_inj.mp
  apply BitVec.eq_of_toNat_eq
  rw [Int32.toBitVec_or, BitVec.toNat_or]
  have e1 : (iv (E : Int) <<< (23 &&& 31)).toBitVec.toNat = E * 8388608 := by
    rw [Int32.toBitVec_shiftLeft, show ((23 &&& 31 : Int32).toBitVec.smod 32) = 23#32 by decide +kernel]
    show ((iv (E : Int)).toBitVec <<< 23).toNat = _
    rw [BitVec.toNat_shiftLeft, show (iv (E : Int)).toBitVec.toNat = E from ?_, Nat.shiftLeft_eq, Nat.mod_eq_of_lt (by omega)]
    show (BitVec.ofInt 32 (E : Int)).toNat = E
    rw [BitVec.toNat_ofInt]
    omega
  have e2 : (Int32.ofInt (T : Int)).toBitVec.toNat = T := by
    show (BitVec.ofInt 32 (T : Int)).toNat = T
    rw [BitVec.toNat_ofInt]
    omega
  have e3 : (nv E T).toInt32.toBitVec.toNat = E * 8388608 + T := nv_n h ht
  rw [e1, e2, e3, show E * 8388608 = E <<< 23 from (Nat.shiftLeft_eq E 23).symm, Nat.shiftLeft_add_eq_or_of_lt (show T < 2 ^ 23 from ht)]
section
variable {z f : Nat → Nat → Int32} {T : Nat}
theorem bo_67 {k : Nat} (hk : k ≤ 254) (ht : T < 8388608) : g_X10_bitsOf_b67 (iv (k : Int)) (nv 127 T) z f = some (nv k T).toInt32 := by
  obtain ⟨x, y, e1, e2, e3, e4, e5⟩ := fl_t ht
  unfold g_X10_bitsOf_b67
  rw [e1, e2, Option.bind_some, e3, e4, Option.bind_some, e5, or_bits hk ht]
theorem bo_42 {k : Nat} (hk : k ≤ 254) (ht : T < 8388608) : ∀ (n fu E i : Nat), E + n = 127 → 1 ≤ E → n < fu → i + n ≤ 126 → g_X10_bitsOf_l42 fu (iv ((k + n : Nat) : Int)) (nv E T) (iv (i : Int)) z f = some (nv k T).toInt32 := by
  intro n
  induction n with
  | zero =>
    intro fu E i h1 h2 h3 h4
    obtain ⟨fu, rfl⟩ : ∃ u, fu = u + 1 := ⟨fu - 1, by omega⟩
    have hE : E = 127 := h1
    rw [g_X10_bitsOf_l42, hE, Nat.add_zero, bo_67 hk ht]
    split
    · rfl
    · rw [if_pos ((fl_ge1 (by decide) (by decide) ht).mpr (by decide))]
  | succ n ih =>
    intro fu E i h1 h2 h3 h4
    obtain ⟨fu, rfl⟩ : ∃ u, fu = u + 1 := ⟨fu - 1, by omega⟩
    rw [g_X10_bitsOf_l42, if_neg (fun q => (by have := (iv_le (a := 126) (b := (i : Int)) (by decide) (by omega)).mp q; omega)), if_neg (fun q => (by have := (fl_ge1 h2 (by omega) ht).mp q; omega)), fl_dbl h2 (by omega) ht, jnn_nv (by omega) ht, Option.bind_some]
    rw [show (-1 : Int32) = iv (-1) from rfl, show (1 : Int32) = iv 1 from rfl, iv_add, iv_add, show ((k + (n + 1) : Nat) : Int) + -1 = ((k + n : Nat) : Int) by omega, show (i : Int) + 1 = ((i + 1 : Nat) : Int) by omega]
    exact ih fu (E + 1) (i + 1) (by omega) (by omega) (by omega) (by omega)
theorem bo_15 {k : Nat} (hk : k ≤ 254) (ht : T < 8388608) : ∀ (n fu i : Nat), n < fu → i + n ≤ 126 → n ≤ k → g_X10_bitsOf_l15 fu (iv ((k - n : Nat) : Int)) (nv (127 + n) T) (iv (i : Int)) z f = some (nv k T).toInt32 := by
  intro n
  induction n with
  | zero =>
    intro fu i h3 h4 h5
    obtain ⟨fu, rfl⟩ : ∃ u, fu = u + 1 := ⟨fu - 1, by omega⟩
    have e : g_X10_bitsOf_b40 (iv ((k - 0 : Nat) : Int)) (nv (127 + 0) T) z f = some (nv k T).toInt32 := bo_42 hk ht 0 FU 127 0 rfl (by decide) (by decide) (by decide)
    rw [g_X10_bitsOf_l15, e]
    split
    · rfl
    · rw [if_pos ((fl_lt2 (by decide) (by decide) ht).mpr (by decide))]
  | succ n ih =>
    intro fu i h3 h4 h5
    obtain ⟨fu, rfl⟩ : ∃ u, fu = u + 1 := ⟨fu - 1, by omega⟩
    rw [g_X10_bitsOf_l15, if_neg (fun q => (by have := (iv_le (a := 126) (b := (i : Int)) (by decide) (by omega)).mp q; omega)), if_neg (fun q => (by have := (fl_lt2 (by omega) (by omega) ht).mp q; omega)), fl_half (by omega) (by omega) ht, show 127 + (n + 1) - 1 = 127 + n by omega, jnn_nv (by omega) ht, Option.bind_some]
    rw [show (1 : Int32) = iv 1 from rfl, iv_add, iv_add, show ((k - (n + 1) : Nat) : Int) + 1 = ((k - n : Nat) : Int) by omega, show (i : Int) + 1 = ((i + 1 : Nat) : Int) by omega]
    exact ih fu (i + 1) (by omega) (by omega) (by omega)
theorem bo_nv {E : Nat} (h1 : 1 ≤ E) (h2 : E ≤ 253) (ht : T < 8388608) : g_X10_bitsOf (nv E T) z f = some (nv E T).toInt32 := by
  unfold g_X10_bitsOf
  rw [if_pos (fl_pos h1 (by omega) ht)]
  by_cases h : 127 ≤ E
  · have := bo_15 (z := z) (f := f) (k := E) (by omega) ht (E - 127) FU 0 (show E - 127 < 2000 by omega) (by omega) (by omega)
    rw [show 127 + (E - 127) = E by omega, show ((E - (E - 127) : Nat) : Int) = 127 by omega] at this
    exact this
  · have hs : FU = 1999 + 1 := rfl
    rw [hs, g_X10_bitsOf_l15, if_neg (by decide), if_pos ((fl_lt2 h1 (by omega) ht).mpr (by omega))]
    have := bo_42 (z := z) (f := f) (k := E) (by omega) ht (127 - E) FU E 0 (by omega) h1 (show 127 - E < 2000 by omega) (by omega)
    rw [show ((E + (127 - E) : Nat) : Int) = 127 by omega] at this
    exact this
end
theorem rr_rg {num den N D : Nat} {e q : Int} (h0 : num ≠ 0) (hd : 0 < D) (hq : FP.Core.quantum FP.Core.b32 num den e = q) (hN : num * 2 ^ (e - q).toNat = N) (hD : den * 2 ^ (q - e).toNat = D) (l1 : 8388608 * D ≤ N) (l2 : N < 16777216 * D) (hm : q ≤ 103) : ∃ (c : Nat) (q' : Int), FP.Core.roundRatio FP.Core.b32 false num den e = .fin false c q' ∧ 8388608 ≤ c ∧ c < 16777216 ∧ q ≤ q' ∧ q' ≤ q + 1 := by
  have a1 : 8388608 ≤ N / D := (Nat.le_div_iff_mul_le hd).mpr l1
  have a2 : N / D < 16777216 := (Nat.div_lt_iff_lt_mul hd).mpr l2
  have a3 : 8388608 ≤ FP.Core.nearest N D ∧ FP.Core.nearest N D ≤ 16777216 := by
    unfold FP.Core.nearest
    split
    · omega
    · split <;> omega
  unfold FP.Core.roundRatio
  rw [if_neg h0, hq]
  unfold FP.Core.roundAt FP.Core.unitsNum FP.Core.unitsDen
  rw [hN, hD]
  unfold FP.Core.settle FP.Core.bound
  by_cases h : FP.Core.nearest N D < 16777216
  · rw [if_pos (show FP.Core.nearest N D < 2 ^ FP.Core.b32.p from h), if_pos (show q ≤ FP.Core.b32.qmax from (show q ≤ 104 by omega))]
    exact ⟨_, _, rfl, a3.1, h, by omega, by omega⟩
  · rw [if_neg (show ¬ FP.Core.nearest N D < 2 ^ FP.Core.b32.p from h), if_pos (show q + 1 ≤ FP.Core.b32.qmax from (show q + 1 ≤ 104 by omega))]
    exact ⟨8388608, _, rfl, by decide, by decide, by omega, by omega⟩
theorem l2f_0 : FP.l2f 0 = 0 := by decide +kernel
theorem l2f_rg {a : Int64} {n : Nat} (ha : a.toInt = (n : Int)) (h0 : n ≠ 0) (h1 : n < 2 ^ 60) : ∃ E T, 127 ≤ E ∧ E ≤ 188 ∧ T < 8388608 ∧ FP.l2f a = nv E T := by
  have hL : n.log2 ≤ 59 := by
    have := (Nat.log2_lt h0 (k := 60)).mpr h1
    omega
  obtain ⟨L, hl⟩ : ∃ L, L = n.log2 := ⟨_, rfl⟩
  have h2 := Nat.log2_self_le h0
  have h3 : n < 2 ^ (n.log2 + 1) := (Nat.log2_lt h0).mp (Nat.lt_succ_self _)
  rw [← hl] at hL h2 h3
  have hq : FP.Core.quantum FP.Core.b32 n 1 0 = (L : Int) - 23 := by
    unfold FP.Core.quantum
    rw [lead_1 h0 hl.symm]
    show max (-149 : Int) ((L : Int) + 0 - ((24 : Int) - 1)) = _
    omega
  have key : ∃ (c : Nat) (q' : Int), FP.Core.roundRatio FP.Core.b32 false n 1 0 = .fin false c q' ∧ 8388608 ≤ c ∧ c < 16777216 ∧ (L : Int) - 23 ≤ q' ∧ q' ≤ (L : Int) - 23 + 1 := by
    by_cases d : L ≤ 23
    · refine rr_rg (N := n * 2 ^ (23 - L)) (D := 1) h0 (by decide) hq ?_ ?_ ?_ ?_ (by omega)
      · rw [show (0 - ((L : Int) - 23)).toNat = 23 - L by omega]
      · rw [show (((L : Int) - 23) - 0).toNat = 0 by omega]
      · have := Nat.mul_le_mul_right (2 ^ (23 - L)) h2
        rw [← Nat.pow_add, show L + (23 - L) = 23 by omega] at this
        omega
      · have := Nat.mul_lt_mul_of_pos_right h3 (Nat.pow_pos (n := 23 - L) (show 0 < 2 by decide))
        rw [← Nat.pow_add, show L + 1 + (23 - L) = 24 by omega] at this
        omega
    · refine rr_rg (N := n) (D := 2 ^ (L - 23)) h0 (Nat.pow_pos (by decide)) hq ?_ ?_ ?_ ?_ (by omega)
      · rw [show (0 - ((L : Int) - 23)).toNat = 0 by omega]
        omega
      · rw [show (((L : Int) - 23) - 0).toNat = L - 23 by omega, Nat.one_mul]
      · rw [show L = 23 + (L - 23) by omega, Nat.pow_add] at h2
        exact h2
      · rw [show L + 1 = 24 + (L - 23) by omega, Nat.pow_add] at h3
        exact h3
  obtain ⟨c, q', e1, c1, c2, c3, c4⟩ := key
  refine ⟨(q' + 150).toNat, c - 8388608, by omega, by omega, by omega, ?_⟩
  show UInt32.ofNat (FP.Core.encode FP.Core.b32 (FP.Core.round FP.Core.b32 (FP.Core.ofInt a.toInt))) = _
  rw [ha]
  unfold FP.Core.ofInt FP.Core.round
  dsimp only
  rw [show decide ((n : Int) < 0) = false from decide_eq_false (by omega), Int.natAbs_natCast, e1, enc_fin c1]
  unfold nv
  rw [show (q' + 149).toNat + 1 = (q' + 150).toNat by omega]
theorem fd_nv {E T E' T' : Nat} (h1 : 127 ≤ E) (h2 : E ≤ 188) (ht : T < 8388608) (h1' : 127 ≤ E') (h2' : E' ≤ 188) (ht' : T' < 8388608) : ∃ E'' T'', 60 ≤ E'' ∧ E'' ≤ 200 ∧ T'' < 8388608 ∧ FP.fdiv (nv E T) (nv E' T') = nv E'' T'' := by
  obtain ⟨e, he⟩ : ∃ e : Int, e = ((E : Int) - 150) - ((E' : Int) - 150) := ⟨_, rfl⟩
  have key : ∃ (c : Nat) (q' : Int), FP.Core.roundRatio FP.Core.b32 false (8388608 + T) (8388608 + T') e = .fin false c q' ∧ 8388608 ≤ c ∧ c < 16777216 ∧ e - 24 ≤ q' ∧ q' ≤ e - 22 := by
    by_cases d : 8388608 + T' ≤ 8388608 + T
    · have hl : FP.Core.leading (8388608 + T) (8388608 + T') = 0 := by
        unfold FP.Core.leading
        rw [log2_of (n := 8388608 + T) (L := 23) (by omega) (by omega), log2_of (n := 8388608 + T') (L := 23) (by omega) (by omega)]
        dsimp only
        rw [if_pos]
        · rfl
        · show (8388608 + T') * 2 ^ 0 ≤ (8388608 + T) * 2 ^ 0
          omega
      obtain ⟨c, q', e1, e2, e3, e4, e5⟩ := rr_rg (num := 8388608 + T) (den := 8388608 + T') (N := (8388608 + T) * 8388608) (D := 8388608 + T') (e := e) (q := e - 23) (by omega) (by omega) (by
        unfold FP.Core.quantum
        rw [hl]
        show max (-149 : Int) (0 + e - ((24 : Int) - 1)) = _
        omega) (by rw [show (e - (e - 23)).toNat = 23 by omega]) (by rw [show (e - 23 - e).toNat = 0 by omega]; omega) (by omega) (by omega) (by omega)
      exact ⟨c, q', e1, e2, e3, by omega, by omega⟩
    · have hl : FP.Core.leading (8388608 + T) (8388608 + T') = -1 := by
        unfold FP.Core.leading
        rw [log2_of (n := 8388608 + T) (L := 23) (by omega) (by omega), log2_of (n := 8388608 + T') (L := 23) (by omega) (by omega)]
        dsimp only
        rw [if_neg]
        · rfl
        · show ¬ (8388608 + T') * 2 ^ 0 ≤ (8388608 + T) * 2 ^ 0
          omega
      obtain ⟨c, q', e1, e2, e3, e4, e5⟩ := rr_rg (num := 8388608 + T) (den := 8388608 + T') (N := (8388608 + T) * 16777216) (D := 8388608 + T') (e := e) (q := e - 24) (by omega) (by omega) (by
        unfold FP.Core.quantum
        rw [hl]
        show max (-149 : Int) (-1 + e - ((24 : Int) - 1)) = _
        omega) (by rw [show (e - (e - 24)).toNat = 24 by omega]) (by rw [show (e - 24 - e).toNat = 0 by omega]; omega) (by omega) (by omega) (by omega)
      exact ⟨c, q', e1, e2, e3, by omega, by omega⟩
  obtain ⟨c, q', e1, c1, c2, c3, c4⟩ := key
  refine ⟨(q' + 150).toNat, c - 8388608, by omega, by omega, by omega, ?_⟩
  show UInt32.ofNat (FP.Core.div FP.Core.b32 (nv E T).toNat (nv E' T').toNat) = _
  unfold FP.Core.div
  rw [nv_n (by omega) ht, nv_n (by omega) ht', dec_nv (by omega) (by omega) ht, dec_nv (by omega) (by omega) ht']
  unfold FP.Core.quotient
  dsimp only
  rw [if_neg (by omega), show (false != false) = false from rfl, ← he, e1, enc_fin c1]
  unfold nv
  rw [show (q' + 149).toNat + 1 = (q' + 150).toNat by omega]
theorem fd_0 {E T : Nat} (h1 : 127 ≤ E) (h2 : E ≤ 188) (ht : T < 8388608) : FP.fdiv 0 (nv E T) = 0 := by
  show UInt32.ofNat (FP.Core.div FP.Core.b32 0 (nv E T).toNat) = _
  unfold FP.Core.div
  rw [nv_n (by omega) ht, dec_0, dec_nv (by omega) (by omega) ht]
  unfold FP.Core.quotient
  dsimp only
  rw [if_neg (by omega), show (false != false) = false from rfl, rr_0, enc_0]
/-- what a margin can be -/
def okF (x : UInt32) : Prop := x = 0 ∨ ∃ E T, 1 ≤ E ∧ E ≤ 253 ∧ T < 8388608 ∧ x = nv E T
theorem ok_0 : okF FP.fconst0 := Or.inl rfl
theorem fd_ok {a b : Int64} {n m : Nat} (ha : a.toInt = (n : Int)) (hb : b.toInt = (m : Int)) (hn : n < 2 ^ 60) (hm : m < 2 ^ 60) (h0 : m ≠ 0) : okF (FP.fdiv (FP.l2f a) (FP.l2f b)) := by
  obtain ⟨E', T', q1, q2, q3, q4⟩ := l2f_rg hb h0 hm
  rw [q4]
  by_cases d : n = 0
  · subst d
    have : a = 0 := Int64.toInt_inj.mp ha
    rw [this, l2f_0, fd_0 q1 q2 q3]
    exact Or.inl rfl
  · obtain ⟨E, T, r1, r2, r3, r4⟩ := l2f_rg ha d hn
    rw [r4]
    obtain ⟨E'', T'', s1, s2, s3, s4⟩ := fd_nv r1 r2 r3 q1 q2 q3
    exact Or.inr ⟨E'', T'', by omega, by omega, s3, s4⟩
theorem ok_jnn {x : UInt32} (h : okF x) : jnn x = some x := by
  rcases h with rfl | ⟨E, T, h1, h2, h3, rfl⟩
  · exact jnn_0
  · exact jnn_nv (by omega) h3
theorem ok_bits {x : UInt32} {z f : Nat → Nat → Int32} (h : okF x) : g_X10_bitsOf x z f = some x.toInt32 := by
  rcases h with rfl | ⟨E, T, h1, h2, h3, rfl⟩
  · unfold g_X10_bitsOf
    rw [if_neg (by decide +kernel)]
    rfl
  · exact bo_nv h1 h2 h3

