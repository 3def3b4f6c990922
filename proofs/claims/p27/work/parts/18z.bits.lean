/-! the bits of a quotient -/
section
variable {z f : Nat → Nat → Int32}
theorem nv_iv {n : Nat} : (UInt32.ofNat n).toInt32 = iv (n : Nat) := by
  apply Int32.toBitVec_inj.mp
  show BitVec.ofNat 32 n = BitVec.ofInt 32 (n : Int)
  rw [BitVec.ofInt_natCast]
theorem sh_23 : ∀ E : Nat, E < 256 → iv (E : Nat) <<< ((23 : Int32) &&& 31) = iv ((E * 8388608 : Nat) : Int) := by decide +kernel
theorem ti_32 {a : Int64} {k : Int} (ha : a.toInt = k) (hk : IB k) : Int64.toInt32 a = iv k := by
  apply Int32.toInt_inj.mp
  unfold IB at hk
  rw [Int64.toInt_toInt32, ha, iv_toInt hk, Int.bmod_eq_of_le (by omega) (by omega)]
theorem bi_178 {q : Int} (hq : -140 ≤ q ∧ q ≤ 100) {l : Int64} {c : Nat} (hl : l.toInt = (c : Int)) (h1 : 8388608 ≤ c) (h2 : c < 16777216) : g_L_bits_b178 (iv q) l z f = some (nv (q + 150).toNat (c - 8388608)).toInt32 := by
  unfold g_L_bits_b178
  have c8 : (8388608 : Int64).toInt = 8388608 := by decide +kernel
  rw [show iv q + 150 = iv (((q + 150).toNat : Nat) : Int) by rw [show (150 : Int32) = iv 150 from rfl, iv_add]; congr 1; omega, sh_23 _ (by omega), ti_32 (k := ((c - 8388608 : Nat) : Int)) (by rw [sb_l hl c8 (by omega)]; omega) (by unfold IB; omega), iv_add]
  unfold nv
  rw [nv_iv]
  congr 2
theorem bi_139 {q : Int} (hq : -140 ≤ q ∧ q ≤ 99) {l d : Int64} {m δ : Nat} (hl : l.toInt = (m : Int)) (hd : d.toInt = (δ : Int)) (hδ : δ ≤ 1) {N D : Nat} (e : FP.Core.nearest N D = m + δ) (h1 : 8388608 ≤ (rndP N D q).1) (hm : m + δ ≤ 16777216) : g_L_bits_b139 (iv q) l d z f = some (nv ((rndP N D q).2 + 150).toNat ((rndP N D q).1 - 8388608)).toInt32 := by
  have ha : (l + d).toInt = ((m + δ : Nat) : Int) := by rw [ad_l hl hd (by omega)]; norm_cast
  have c24 : (16777216 : Int64).toInt = 16777216 := by decide +kernel
  unfold g_L_bits_b139 g_L_bits_b158
  unfold rndP at h1 ⊢
  rw [e] at h1 ⊢
  by_cases c : m + δ < 16777216
  · have ne : ¬ lg_cmp (l + d) 16777216 = 0 := fun e => by
      have := eq_l.mp e
      rw [ha, c24] at this
      omega
    rw [if_pos c] at h1 ⊢
    rw [if_neg ne, if_neg ne, show iv q + 0 = iv q from Int32.add_zero _]
    exact bi_178 (by omega) ha h1 c
  · have ye : lg_cmp (l + d) 16777216 = 0 := eq_l.mpr (by rw [ha, c24]; omega)
    rw [if_neg c]
    rw [if_pos ye, if_pos ye, show iv q + 1 = iv (q + 1) from iv_add _ 1]
    exact bi_178 (c := 8388608) (by omega) (by decide +kernel) (by decide) (by decide)
theorem bi_84 {q : Int} (hq : -140 ≤ q ∧ q ≤ 99) {u b : Int64} {c D s : Nat} (hu : u.toInt = (c : Int)) (hb : b.toInt = (D : Int)) (hD : 8388608 ≤ D) (hD2 : D < 16777216) (hc : c < 16777216) (hs : s ≤ 24) {N : Nat} (eN : c * 2 ^ s = N) (h1 : 8388608 ≤ (rndP N D q).1) (hm : FP.Core.nearest N D ≤ 16777216) : g_L_bits_b84 b (iv q) u (iv (s : Nat)) z f = some (nv ((rndP N D q).2 + 150).toNat ((rndP N D q).1 - 8388608)).toInt32 := by
  have hp : 2 ^ s ≤ 2 ^ 24 := Nat.pow_le_pow_right (by decide) hs
  have hN : N < 16777216 * 16777217 := by
    rw [← eN]
    exact Nat.lt_of_le_of_lt (Nat.mul_le_mul (Nat.le_of_lt hc) hp) (by decide)
  have hw := sh_l (s := s) hu (by omega) (by rw [eN]; omega)
  rw [eN] at hw
  have c0 : (0 : Int64).toInt = ((0 : Nat) : Int) := by decide +kernel
  have c1 : (1 : Int64).toInt = ((1 : Nat) : Int) := by decide +kernel
  have c2 : (2 : Int64).toInt = ((2 : Nat) : Int) := by decide +kernel
  have nz : ¬ b = 0 := fun e => by
    rw [e] at hb
    rw [c0] at hb
    omega
  have hq1 := dv_l hw hb (by omega)
  have hr1 := jr_l hw hb (by omega)
  have hml : N % D < D := Nat.mod_lt _ (by omega)
  have hdl : N / D ≤ N := Nat.div_le_self _ _
  have hr2 := mu_l hr1 c2 (by omega)
  have g3 : (0 < lg_cmp (jlrem (u <<< (Int32.toInt64 (iv (s : Nat)) &&& 63)) b * 2) b) ↔ D < 2 * (N % D) := by rw [cm_gt, hr2, hb]; omega
  have g4 : (lg_cmp (jlrem (u <<< (Int32.toInt64 (iv (s : Nat)) &&& 63)) b * 2) b = 0) ↔ 2 * (N % D) = D := by rw [eq_l, hr2, hb]; omega
  have g5 : (lg_cmp (jlrem ((u <<< (Int32.toInt64 (iv (s : Nat)) &&& 63)) / b) 2) 1 = 0) ↔ N / D % 2 = 1 := by
    rw [eq_l, jr_l hq1 c2 (by omega), c1]
    generalize N / D = t
    omega
  unfold g_L_bits_b84 g_L_bits_b134 g_L_bits_b138
  rw [if_neg nz, if_neg nz]
  by_cases a : D < 2 * (N % D)
  · rw [if_pos (g3.mpr a)]
    have en : FP.Core.nearest N D = N / D + 1 := by unfold FP.Core.nearest; rw [if_neg (by omega), if_pos a]
    exact bi_139 hq hq1 c1 (by decide) en h1 (by omega)
  rw [if_neg (fun e => a (g3.mp e))]
  by_cases c : 2 * (N % D) = D
  · rw [if_pos (g4.mpr c)]
    have en : FP.Core.nearest N D = N / D + N / D % 2 := by unfold FP.Core.nearest; rw [if_neg (by omega), if_neg a]
    by_cases d : N / D % 2 = 1
    · rw [if_pos (g5.mpr d)]
      rw [d] at en
      exact bi_139 hq hq1 c1 (by decide) en h1 (by omega)
    · rw [if_neg (fun e => d (g5.mp e))]
      have en' : FP.Core.nearest N D = N / D + 0 := by rw [en]; generalize N / D = t at *; omega
      exact bi_139 hq hq1 c0 (by decide) en' h1 (by omega)
  · rw [if_neg (fun e => c (g4.mp e))]
    have en : FP.Core.nearest N D = N / D + 0 := by unfold FP.Core.nearest; rw [if_pos (by omega)]; rfl
    exact bi_139 hq hq1 c0 (by decide) en h1 (by omega)
theorem e_32 : iv ((32 : Nat) : Int) = (32 : Int32) := by decide +kernel
theorem sh_32 {a : Int64} {n m : Nat} (ha : a.toInt = (n : Int)) (hm : n / 4294967296 = m) : (a >>> (Int32.toInt64 32 &&& 63)).toInt = (m : Int) := by
  have h := sh_r (s := 32) ha (by decide)
  rw [e_32, show (2 : Nat) ^ 32 = 4294967296 by decide +kernel, hm] at h
  exact h
theorem q_32 {C t : Nat} (h : C < 16777216) : (C + t * 4294967296) / 4294967296 = t ∧ (C + t * 4294967296) % 4294967296 = C := by omega
theorem cm_ge {a b : Int64} {m n : Nat} (ha : a.toInt = (m : Int)) (hb : b.toInt = (n : Int)) : 0 ≤ lg_cmp a b ↔ n ≤ m := by
  rw [lg_cmp_ge, Int64.le_iff_toInt_le, ha, hb]
  omega
theorem c_sub {C : Nat} (h1 : 8388608 ≤ C) (h2 : C < 16777216) : C - 8388608 < 8388608 ∧ C = 8388608 + (C - 8388608) := by omega
theorem la_bits {a b : Int64} {n d : Nat} (ha : a.toInt = (n : Int)) (hb : b.toInt = (d : Int)) (hn : n < 2 ^ 40) (hd : d < 2 ^ 40) (h0 : d ≠ 0) : g_L_bits a b z f = some (FP.fdiv (FP.l2f a) (FP.l2f b)).toInt32 := by
  have c0 : (0 : Int64).toInt = 0 := by decide +kernel
  have bd : ∀ {n : Nat}, n ≠ 0 → n < 2 ^ 40 → 8388608 ≤ FP.Core.nearest (nrN n) (nrD n) → (8388608 ≤ (nrS n).1 ∧ (nrS n).1 < 16777216) ∧ -23 ≤ (nrS n).2 ∧ (nrS n).2 ≤ 17 := fun {n} h0 h1 h2 => by
    have hL : n.log2 ≤ 39 := by
      have := (Nat.log2_lt h0 (k := 40)).mpr h1
      omega
    obtain ⟨q1, q2, q3, q4⟩ := rnd_bd (q := (n.log2 : Int) - 23) h2
    unfold nrS
    exact ⟨⟨q1, q2⟩, by omega, by omega⟩
  obtain ⟨fb, nb1, nb2⟩ := l2f_eq hb h0 (by omega)
  obtain ⟨⟨d1, d2⟩, d3, d4⟩ := bd h0 hd nb1
  unfold g_L_bits
  by_cases c : n = 0
  · subst c
    have ea : a = 0 := Int64.toInt_inj.mp (by rw [ha, c0]; rfl)
    rw [if_pos (eq_l.mpr (by rw [ha, c0]; rfl)), ea, l2f_0, fb, fd_0 (by omega) (by omega) (by omega)]
    rfl
  · rw [if_neg (fun e => by have := eq_l.mp e; rw [ha, c0] at this; omega)]
    obtain ⟨fa, na1, na2⟩ := l2f_eq ha c (by omega)
    obtain ⟨⟨e1, e2⟩, e3, e4⟩ := bd c hn na1
    obtain ⟨x, x1, x2⟩ := ne_nr (z := z) (f := f) ha c hn
    obtain ⟨y, y1, y2⟩ := ne_nr (z := z) (f := f) hb h0 hd
    rw [x1, Option.bind_some, y1, Option.bind_some]
    generalize (nrS n).1 = C at *
    generalize (nrS n).2 = P at *
    generalize (nrS d).1 = C' at *
    generalize (nrS d).2 = P' at *
    have w1 : 127 ≤ (P + 150).toNat ∧ (P + 150).toNat ≤ 188 := by clear x2 y2 fa fb c0 ha hb na1 na2 nb1 nb2; omega
    have w2 : 127 ≤ (P' + 150).toNat ∧ (P' + 150).toNat ≤ 188 := by clear x2 y2 fa fb c0 ha hb na1 na2 nb1 nb2; omega
    have w3 : C - 8388608 < 8388608 ∧ C = 8388608 + (C - 8388608) := c_sub e1 e2
    have w4 : C' - 8388608 < 8388608 ∧ C' = 8388608 + (C' - 8388608) := c_sub d1 d2
    have w5 : P - P' = ((P + 150).toNat : Int) - ((P' + 150).toNat : Int) := by clear x2 y2 fa fb c0 ha hb na1 na2 nb1 nb2; omega
    have w6 : ((P + 64).toNat : Int) - ((P' + 64).toNat : Int) - 23 = P - P' - 23 := by clear x2 y2 fa fb c0 ha hb na1 na2 nb1 nb2; omega
    have w7 : ((P + 64).toNat : Int) - ((P' + 64).toNat : Int) - 24 = P - P' - 24 := by clear x2 y2 fa fb c0 ha hb na1 na2 nb1 nb2; omega
    have w8 : -140 ≤ P - P' - 23 ∧ P - P' - 23 ≤ 99 := by clear x2 y2 fa fb c0 ha hb na1 na2 nb1 nb2; omega
    have w9 : -140 ≤ P - P' - 24 ∧ P - P' - 24 ≤ 99 := by clear x2 y2 fa fb c0 ha hb na1 na2 nb1 nb2; omega
    clear na1 na2 nb1 nb2
    obtain ⟨D, hD⟩ : ∃ D : Nat, D = 4294967296 := ⟨_, rfl⟩
    have c32 : (4294967296 : Int64).toInt = (D : Int) := by rw [hD]; decide +kernel
    obtain ⟨XN, hX⟩ : ∃ XN : Nat, XN = C + (P + 64).toNat * 4294967296 := ⟨_, rfl⟩
    obtain ⟨YN, hY⟩ : ∃ YN : Nat, YN = C' + (P' + 64).toNat * 4294967296 := ⟨_, rfl⟩
    have X : x.toInt = (XN : Int) := by rw [x2]; omega
    have Y : y.toInt = (YN : Int) := by rw [y2]; omega
    have jx := jr_l X c32 (by omega)
    have jy := jr_l Y c32 (by omega)
    rw [show XN % D = C by rw [hD, hX]; exact (q_32 e2).2] at jx
    rw [show YN % D = C' by rw [hD, hY]; exact (q_32 d2).2] at jy
    have sx := sh_32 (m := (P + 64).toNat) X (by rw [hX]; exact (q_32 e2).1)
    have sy := sh_32 (m := (P' + 64).toNat) Y (by rw [hY]; exact (q_32 d2).1)
    rw [ti_32 sx (by unfold IB; omega), ti_32 sy (by unfold IB; omega), iv_sub]
    have hcm : (0 ≤ lg_cmp (jlrem x 4294967296) (jlrem y 4294967296)) ↔ C' ≤ C := cm_ge jx jy
    have FQ := fd_eq w1.1 w1.2 w3.1 w2.1 w2.2 w4.1 w3.2 w4.2 w5
    obtain ⟨fd, FQ2, r5⟩ := FQ
    obtain ⟨r1, r2, r3, r4⟩ := FQ2
    rw [fa, fb, fd]
    unfold g_L_bits_b64
    unfold dvS at r1 r2 r3 r4 ⊢
    by_cases k : C' ≤ C
    · rw [if_pos k] at r1 r2 r3 r4 r5 ⊢
      rw [if_pos (hcm.mpr k), if_pos (hcm.mpr k), show iv (((P + 64).toNat : Int) - ((P' + 64).toNat : Int)) - 23 = iv (P - P' - 23) by rw [show (23 : Int32) = iv 23 from rfl, iv_sub, w6]]
      exact bi_84 (s := 23) w8 jx jy d1 d2 e2 (by decide) rfl r1 r5
    · rw [if_neg k] at r1 r2 r3 r4 r5 ⊢
      rw [if_neg (fun e => k (hcm.mp e)), if_neg (fun e => k (hcm.mp e)), show iv (((P + 64).toNat : Int) - ((P' + 64).toNat : Int)) - 24 = iv (P - P' - 24) by rw [show (24 : Int32) = iv 24 from rfl, iv_sub, w7]]
      exact bi_84 (s := 24) w9 jx jy d1 d2 e2 (by decide) rfl r1 r5
end
