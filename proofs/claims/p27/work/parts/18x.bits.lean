/-! the law's rounding of a long -/
section
variable {z f : Nat → Nat → Int32}
theorem mu_l {a b : Int64} {x y : Int} (ha : a.toInt = x) (hb : b.toInt = y) (h : -4000000000000000000 ≤ x * y ∧ x * y ≤ 4000000000000000000) : (a * b).toInt = x * y := by
  rw [Int64.toInt_mul, ha, hb, Int.bmod_eq_of_le (by omega) (by omega)]
theorem dv_l {a b : Int64} {n d : Nat} (ha : a.toInt = (n : Int)) (hb : b.toInt = (d : Int)) (hn : n < 4000000000000000000) : (a / b).toInt = ((n / d : Nat) : Int) := by
  have h2 : n / d ≤ n := Nat.div_le_self n d
  rw [Int64.toInt_div, ha, hb, show (n : Int).tdiv (d : Int) = ((n / d : Nat) : Int) from rfl]
  generalize n / d = t at h2 ⊢
  exact Int.bmod_eq_of_le (by omega) (by omega)
theorem jr_l {a b : Int64} {n d : Nat} (ha : a.toInt = (n : Int)) (hb : b.toInt = (d : Int)) (hn : n < 4000000000000000000) : (jlrem a b).toInt = ((n % d : Nat) : Int) := by
  have h1 : n / d * d ≤ n := Nat.div_mul_le_self n d
  have h2 := Nat.div_add_mod n d
  rw [Nat.mul_comm] at h2
  have e := mu_l (dv_l ha hb hn) hb (by
    have : ((n / d : Nat) : Int) * (d : Int) = ((n / d * d : Nat) : Int) := by norm_cast
    rw [this]; omega)
  have e2 : ((n / d : Nat) : Int) * (d : Int) = ((n / d * d : Nat) : Int) := by norm_cast
  rw [e2] at e
  unfold jlrem
  rw [sb_l ha e (by omega)]
  omega
theorem eq_l {a b : Int64} : lg_cmp a b = 0 ↔ a.toInt = b.toInt := by
  rw [lg_cmp_eq]
  exact ⟨fun h => by rw [h], fun h => Int64.toInt_inj.mp h⟩
def rndP (N D : Nat) (q : Int) : Nat × Int := if FP.Core.nearest N D < 16777216 then (FP.Core.nearest N D, q) else (8388608, q + 1)
theorem rr_rnd {num den N D : Nat} {e q : Int} (h0 : num ≠ 0) (hd : 0 < D) (hq : FP.Core.quantum FP.Core.b32 num den e = q) (hN : num * 2 ^ (e - q).toNat = N) (hD : den * 2 ^ (q - e).toNat = D) (l1 : 8388608 * D ≤ N) (l2 : N < 16777216 * D) (hm : q ≤ 103) : FP.Core.roundRatio FP.Core.b32 false num den e = .fin false (rndP N D q).1 (rndP N D q).2 ∧ 8388608 ≤ FP.Core.nearest N D ∧ FP.Core.nearest N D ≤ 16777216 := by
  have a1 : 8388608 ≤ N / D := (Nat.le_div_iff_mul_le hd).mpr l1
  have a2 : N / D < 16777216 := (Nat.div_lt_iff_lt_mul hd).mpr l2
  have a3 : 8388608 ≤ FP.Core.nearest N D ∧ FP.Core.nearest N D ≤ 16777216 := by
    unfold FP.Core.nearest
    split
    · omega
    · split <;> omega
  refine ⟨?_, a3⟩
  unfold FP.Core.roundRatio
  rw [if_neg h0, hq]
  unfold FP.Core.roundAt FP.Core.unitsNum FP.Core.unitsDen
  rw [hN, hD]
  unfold FP.Core.settle FP.Core.bound rndP
  by_cases h : FP.Core.nearest N D < 16777216
  · rw [if_pos (show FP.Core.nearest N D < 2 ^ FP.Core.b32.p from h), if_pos (show q ≤ FP.Core.b32.qmax from (show q ≤ 104 by omega)), if_pos h]
  · rw [if_neg (show ¬ FP.Core.nearest N D < 2 ^ FP.Core.b32.p from h), if_pos (show q + 1 ≤ FP.Core.b32.qmax from (show q + 1 ≤ 104 by omega)), if_neg h]
    rfl
theorem rnd_bd {N D : Nat} {q : Int} (h : 8388608 ≤ FP.Core.nearest N D) : 8388608 ≤ (rndP N D q).1 ∧ (rndP N D q).1 < 16777216 ∧ q ≤ (rndP N D q).2 ∧ (rndP N D q).2 ≤ q + 1 := by
  unfold rndP
  split
  · exact ⟨h, by assumption, by omega, by omega⟩
  · refine ⟨Nat.le_refl _, ?_, ?_, ?_⟩
    · show 8388608 < 16777216
      decide
    · show q ≤ q + 1
      omega
    · show q + 1 ≤ q + 1
      omega
def nrN (n : Nat) : Nat := if n.log2 ≤ 23 then n * 2 ^ (23 - n.log2) else n
def nrD (n : Nat) : Nat := if n.log2 ≤ 23 then 1 else 2 ^ (n.log2 - 23)
def nrS (n : Nat) : Nat × Int := rndP (nrN n) (nrD n) ((n.log2 : Int) - 23)
theorem nr_bd {n : Nat} (h0 : n ≠ 0) : 8388608 * nrD n ≤ nrN n ∧ nrN n < 16777216 * nrD n ∧ 0 < nrD n := by
  have h2 := Nat.log2_self_le h0
  have h3 : n < 2 ^ (n.log2 + 1) := (Nat.log2_lt h0).mp (Nat.lt_succ_self _)
  unfold nrN nrD
  generalize n.log2 = L at *
  by_cases d : L ≤ 23
  · rw [if_pos d, if_pos d]
    have a := Nat.mul_le_mul_right (2 ^ (23 - L)) h2
    rw [← Nat.pow_add, show L + (23 - L) = 23 by omega] at a
    have b := Nat.mul_lt_mul_of_pos_right h3 (Nat.pow_pos (n := 23 - L) (show 0 < 2 by decide))
    rw [← Nat.pow_add, show L + 1 + (23 - L) = 24 by omega] at b
    omega
  · rw [if_neg d, if_neg d]
    rw [show L = 23 + (L - 23) by omega, Nat.pow_add] at h2
    rw [show L + 1 = 24 + (L - 23) by omega, Nat.pow_add] at h3
    exact ⟨h2, h3, Nat.pow_pos (by decide)⟩
theorem l2f_eq {a : Int64} {n : Nat} (ha : a.toInt = (n : Int)) (h0 : n ≠ 0) (h1 : n < 2 ^ 60) : FP.l2f a = nv ((nrS n).2 + 150).toNat ((nrS n).1 - 8388608) ∧ 8388608 ≤ FP.Core.nearest (nrN n) (nrD n) ∧ FP.Core.nearest (nrN n) (nrD n) ≤ 16777216 := by
  have hL : n.log2 ≤ 59 := by
    have := (Nat.log2_lt h0 (k := 60)).mpr h1
    omega
  obtain ⟨b1, b2, b3⟩ := nr_bd h0
  have hq : FP.Core.quantum FP.Core.b32 n 1 0 = (n.log2 : Int) - 23 := by
    unfold FP.Core.quantum
    rw [lead_1 h0 rfl]
    show max (-149 : Int) ((n.log2 : Int) + 0 - ((24 : Int) - 1)) = _
    omega
  have key := rr_rnd (num := n) (den := 1) (N := nrN n) (D := nrD n) (e := 0) h0 b3 hq (by
    unfold nrN
    by_cases d : n.log2 ≤ 23
    · rw [if_pos d, show (0 - ((n.log2 : Int) - 23)).toNat = 23 - n.log2 by omega]
    · rw [if_neg d, show (0 - ((n.log2 : Int) - 23)).toNat = 0 by omega]
      omega) (by
    unfold nrD
    by_cases d : n.log2 ≤ 23
    · rw [if_pos d, show (((n.log2 : Int) - 23) - 0).toNat = 0 by omega]
    · rw [if_neg d, show (((n.log2 : Int) - 23) - 0).toNat = n.log2 - 23 by omega, Nat.one_mul]) b1 b2 (by omega)
  obtain ⟨e1, a1, a2⟩ := key
  refine ⟨?_, a1, a2⟩
  obtain ⟨c1, c2, c3, c4⟩ := rnd_bd (q := (n.log2 : Int) - 23) a1
  show UInt32.ofNat (FP.Core.encode FP.Core.b32 (FP.Core.round FP.Core.b32 (FP.Core.ofInt a.toInt))) = _
  rw [ha]
  unfold FP.Core.ofInt FP.Core.round
  dsimp only
  rw [show decide ((n : Int) < 0) = false from decide_eq_false (by omega), Int.natAbs_natCast, e1, enc_fin c1]
  unfold nv nrS
  rw [show ((rndP (nrN n) (nrD n) ((n.log2 : Int) - 23)).2 + 149).toNat + 1 = ((rndP (nrN n) (nrD n) ((n.log2 : Int) - 23)).2 + 150).toNat by omega]
theorem ne_108 {q : Int} (hq : -60 ≤ q ∧ q ≤ 60) {l d : Int64} {m δ : Nat} (hl : l.toInt = (m : Int)) (hd : d.toInt = (δ : Int)) (hδ : δ ≤ 1) (hm : m + δ ≤ 16777216) : ∃ x, g_L_nearest_b108 (iv q) l d z f = some x ∧ x.toInt = (if m + δ < 16777216 then ((m + δ : Nat) : Int) + (q + 64) * 4294967296 else 8388608 + (q + 1 + 64) * 4294967296) := by
  have ha : (l + d).toInt = ((m + δ : Nat) : Int) := by rw [ad_l hl hd (by omega)]; norm_cast
  have h145 : ∀ {p : Int} {y : Int64} {k : Nat}, -60 ≤ p ∧ p ≤ 61 → y.toInt = (k : Int) → k ≤ 16777216 → ∃ x, g_L_nearest_b145 (iv p) y z f = some x ∧ x.toInt = (k : Int) + (p + 64) * 4294967296 := fun {p y k} hp hy hk => by
    unfold g_L_nearest_b145
    refine ⟨_, rfl, ?_⟩
    rw [show iv p + 64 = iv (p + 64) from iv_add _ 64]
    have e0 : (Int32.toInt64 (iv (p + 64))).toInt = (((p + 64).toNat : Nat) : Int) := by
      rw [l64_i (ib_s (by omega))]; omega
    have e1 := sh_l (s := 32) e0 (by decide) (by omega)
    rw [show ((32 : Nat) : Int) = 32 from rfl, show iv 32 = (32 : Int32) from rfl] at e1
    rw [ad_l hy e1 (by omega)]
    omega
  have c24 : (16777216 : Int64).toInt = 16777216 := by decide +kernel
  unfold g_L_nearest_b108 g_L_nearest_b126
  by_cases c : m + δ < 16777216
  · have ne : ¬ lg_cmp (l + d) 16777216 = 0 := fun e => by
      have := eq_l.mp e
      rw [ha, c24] at this
      omega
    rw [if_neg ne, if_neg ne, if_pos c, show iv q + 0 = iv q from Int32.add_zero _]
    exact h145 (by omega) ha (by omega)
  · have ye : lg_cmp (l + d) 16777216 = 0 := eq_l.mpr (by rw [ha, c24]; omega)
    rw [if_pos ye, if_pos ye, if_neg c, show iv q + 1 = iv (q + 1) from iv_add _ 1]
    exact h145 (k := 8388608) (by omega) (by decide +kernel) (by decide)
theorem ne_72 {q : Int} (hq : -60 ≤ q ∧ q ≤ 60) {l r h : Int64} {m k H N D : Nat} (hl : l.toInt = (m : Int)) (hr : r.toInt = (k : Int)) (hh : h.toInt = (H : Int)) (em : N / D = m) (ek : (2 * (N % D) < D ↔ k < H) ∧ (D < 2 * (N % D) ↔ H < k)) (hm : FP.Core.nearest N D ≤ 16777216) (hb : m < 1000000000) : ∃ x, g_L_nearest_b72 (iv q) l r h z f = some x ∧ x.toInt = ((rndP N D q).1 : Int) + ((rndP N D q).2 + 64) * 4294967296 := by
  have fin : ∀ {δ : Nat} {d : Int64}, d.toInt = (δ : Int) → δ ≤ 1 → FP.Core.nearest N D = m + δ → ∃ x, g_L_nearest_b108 (iv q) l d z f = some x ∧ x.toInt = ((rndP N D q).1 : Int) + ((rndP N D q).2 + 64) * 4294967296 := fun {δ d} hd hδ e => by
    obtain ⟨x, e1, e2⟩ := ne_108 (z := z) (f := f) hq hl hd hδ (by omega)
    refine ⟨x, e1, ?_⟩
    rw [e2]
    unfold rndP
    rw [e]
    by_cases c : m + δ < 16777216
    · rw [if_pos c, if_pos c]
    · rw [if_neg c, if_neg c]
      show (8388608 : Int) + (q + 1 + 64) * 4294967296 = ((8388608 : Nat) : Int) + (q + 1 + 64) * 4294967296
      omega
  have c1 : (1 : Int64).toInt = ((1 : Nat) : Int) := by decide +kernel
  have c0 : (0 : Int64).toInt = ((0 : Nat) : Int) := by decide +kernel
  have c2 : (2 : Int64).toInt = ((2 : Nat) : Int) := by decide +kernel
  have g3 : (0 < lg_cmp r h) ↔ H < k := by rw [cm_gt, hr, hh]; omega
  have g4 : (lg_cmp r h = 0) ↔ k = H := by rw [eq_l, hr, hh]; omega
  have g5 : (lg_cmp (jlrem l 2) 1 = 0) ↔ m % 2 = 1 := by rw [eq_l, jr_l hl c2 (by omega), c1]; omega
  unfold g_L_nearest_b72 g_L_nearest_b103 g_L_nearest_b107
  by_cases a : H < k
  · rw [if_pos (g3.mpr a)]
    exact fin c1 (by decide) (by unfold FP.Core.nearest; rw [if_neg (fun e => by have := ek.1.mp e; omega), if_pos (ek.2.mpr a), em])
  rw [if_neg (fun e => a (g3.mp e))]
  have na : ¬ D < 2 * (N % D) := fun e => a (ek.2.mp e)
  by_cases b : k = H
  · rw [if_pos (g4.mpr b)]
    have nb : ¬ 2 * (N % D) < D := fun e => by have := ek.1.mp e; omega
    have en : FP.Core.nearest N D = m + m % 2 := by unfold FP.Core.nearest; rw [if_neg nb, if_neg na, em]
    by_cases c : m % 2 = 1
    · rw [if_pos (g5.mpr c)]
      exact fin c1 (by decide) (by omega)
    · rw [if_neg (fun e => c (g5.mp e))]
      exact fin c0 (by decide) (by omega)
  · rw [if_neg (fun e => b (g4.mp e))]
    exact fin c0 (by decide) (by unfold FP.Core.nearest; rw [if_pos (ek.1.mpr (by omega)), em]; rfl)
end
