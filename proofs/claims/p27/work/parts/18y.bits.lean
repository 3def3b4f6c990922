/-! the law's division of longs, as floats -/
section
variable {z f : Nat → Nat → Int32}
theorem ne_22 {a : Int64} {n : Nat} (ha : a.toInt = (n : Int)) (h0 : n ≠ 0) (h1 : n < 2 ^ 40) : ∃ x, g_L_nearest_b22 a (iv ((n.log2 + 1 : Nat) : Int)) z f = some x ∧ x.toInt = ((nrS n).1 : Int) + ((nrS n).2 + 64) * 4294967296 := by
  have hL : n.log2 ≤ 39 := by
    have := (Nat.log2_lt h0 (k := 40)).mpr h1
    omega
  have c0 : (0 : Int64).toInt = ((0 : Nat) : Int) := by decide +kernel
  have c1 : (1 : Int64).toInt = ((1 : Nat) : Int) := by decide +kernel
  obtain ⟨b1, b2, b3⟩ := nr_bd h0
  obtain ⟨-, -, hm⟩ := l2f_eq ha h0 (by omega)
  have bq : nrN n / nrD n < 16777216 := (Nat.div_lt_iff_lt_mul b3).mpr b2
  unfold g_L_nearest_b22
  rw [show iv ((n.log2 + 1 : Nat) : Int) - 24 = iv ((n.log2 : Int) - 23) by rw [show (24 : Int32) = iv 24 from rfl, iv_sub]; congr 1; omega]
  have e0 : ((0 : Int32) < iv ((n.log2 : Int) - 23)) ↔ 0 < (n.log2 : Int) - 23 := iv_lt (a := 0) (by decide) (ib_s (by omega))
  unfold nrS
  by_cases d : n.log2 ≤ 23
  · rw [if_neg (fun e => by have := e0.mp e; omega)]
    unfold g_L_nearest_b41
    rw [if_neg (fun e => by have := e0.mp e; omega)]
    unfold g_L_nearest_b57
    rw [if_neg (fun e => by have := e0.mp e; omega), show - iv ((n.log2 : Int) - 23) = iv ((23 - n.log2 : Nat) : Int) by rw [iv_neg]; congr 1; omega]
    have eN : nrN n = n * 2 ^ (23 - n.log2) := by unfold nrN; rw [if_pos d]
    have eD : nrD n = 1 := by unfold nrD; rw [if_pos d]
    rw [eD] at b2
    have hs := sh_l (s := 23 - n.log2) ha (by omega) (by rw [← eN]; omega)
    rw [← eN] at hs
    refine ne_72 (by omega) hs c0 c1 ?_ ?_ hm (by omega)
    · rw [eD, Nat.div_one]
    · rw [eD, Nat.mod_one]
      exact ⟨⟨fun _ => by decide, fun _ => by decide⟩, ⟨fun e => by omega, fun e => by omega⟩⟩
  · rw [if_pos (e0.mpr (by omega))]
    unfold g_L_nearest_b41
    rw [if_pos (e0.mpr (by omega))]
    unfold g_L_nearest_b57
    rw [if_pos (e0.mpr (by omega)), show iv ((n.log2 : Int) - 23) = iv ((n.log2 - 23 : Nat) : Int) by congr 1; omega]
    have eN : nrN n = n := by unfold nrN; rw [if_neg d]
    have eD : nrD n = 2 ^ (n.log2 - 23) := by unfold nrD; rw [if_neg d]
    have hs := sh_r (s := n.log2 - 23) ha (by omega)
    rw [← eD] at hs
    rw [eN] at bq b1 b2
    have hdm : n / nrD n * nrD n + n % nrD n = n := by rw [Nat.mul_comm]; exact Nat.div_add_mod n _
    have hs2 := sh_l (s := n.log2 - 23) hs (by omega) (by rw [← eD]; omega)
    rw [← eD] at hs2
    have hr : (a - (a >>> (Int32.toInt64 (iv ((n.log2 - 23 : Nat) : Int)) &&& 63)) <<< (Int32.toInt64 (iv ((n.log2 - 23 : Nat) : Int)) &&& 63)).toInt = ((n % nrD n : Nat) : Int) := by
      rw [sb_l ha hs2 (by omega)]
      omega
    rw [show iv ((n.log2 - 23 : Nat) : Int) - 1 = iv ((n.log2 - 24 : Nat) : Int) by rw [show (1 : Int32) = iv 1 from rfl, iv_sub]; congr 1; omega]
    have p1 : 2 ^ (n.log2 - 24) < 2 ^ 20 := Nat.pow_lt_pow_right (by decide) (by omega)
    have hh := sh_l (s := n.log2 - 24) c1 (by omega) (by omega)
    rw [Nat.one_mul] at hh
    have eH : nrD n = 2 * 2 ^ (n.log2 - 24) := by rw [eD, show n.log2 - 23 = n.log2 - 24 + 1 by omega, Nat.pow_succ, Nat.mul_comm]
    have eq : ((n.log2 : Int) - 23) = ((n.log2 - 23 : Nat) : Int) := by omega
    rw [eq]
    refine ne_72 (by omega) hs hr hh ?_ ?_ hm (by omega)
    · rw [eN]
    · rw [eN]
      constructor
      · omega
      · omega
theorem ne_l2 {a : Int64} {n : Nat} (ha : a.toInt = (n : Int)) (h0 : n ≠ 0) (h1 : n < 2 ^ 40) : ∀ (m fu k : Nat), k + m = n.log2 + 1 → m < fu → g_L_nearest_l2 fu a (iv (k : Nat)) z f = g_L_nearest_b22 a (iv ((n.log2 + 1 : Nat) : Int)) z f := by
  have hL : n.log2 ≤ 39 := by
    have := (Nat.log2_lt h0 (k := 40)).mpr h1
    omega
  have c0 : (0 : Int64).toInt = 0 := by decide +kernel
  have h2 := Nat.log2_self_le h0
  have h3 : n < 2 ^ (n.log2 + 1) := (Nat.log2_lt h0).mp (Nat.lt_succ_self _)
  have cmp : ∀ k : Nat, k < 64 → (lg_cmp (a >>> (Int32.toInt64 (iv (k : Nat)) &&& 63)) 0 ≤ 0 ↔ n < 2 ^ k) := fun k hk => by
    rw [lg_cmp_le, Int64.le_iff_toInt_le, sh_r ha hk, c0]
    have hp := Nat.pow_pos (n := k) (show 0 < 2 by decide)
    rw [show (((n / 2 ^ k : Nat) : Int) ≤ 0 ↔ n / 2 ^ k = 0) from by generalize n / 2 ^ k = t; omega, Nat.div_eq_zero_iff]
    omega
  intro m
  induction m with
  | zero =>
    intro fu k hk hf
    obtain ⟨fu, rfl⟩ : ∃ x, fu = x + 1 := ⟨fu - 1, by omega⟩
    have ek : k = n.log2 + 1 := by omega
    subst ek
    rw [g_L_nearest_l2, if_neg (show ¬ (63 : Int32) ≤ iv ((n.log2 + 1 : Nat) : Int) from fun e => by have := (iv_le (a := 63) (by decide) (ibn (by omega))).mp e; omega), if_pos ((cmp _ (by omega)).mpr h3)]
  | succ m ih =>
    intro fu k hk hf
    obtain ⟨fu, rfl⟩ : ∃ x, fu = x + 1 := ⟨fu - 1, by omega⟩
    have h4 : 2 ^ k ≤ 2 ^ n.log2 := Nat.pow_le_pow_right (by decide) (by omega)
    rw [g_L_nearest_l2, if_neg (show ¬ (63 : Int32) ≤ iv (k : Nat) from fun e => by have := (iv_le (a := 63) (by decide) (ibn (by omega))).mp e; omega), if_neg (fun e => by have := (cmp k (by omega)).mp e; omega), iv_1]
    exact ih fu (k + 1) (by omega) (by omega)
theorem ne_nr {a : Int64} {n : Nat} (ha : a.toInt = (n : Int)) (h0 : n ≠ 0) (h1 : n < 2 ^ 40) : ∃ x, g_L_nearest a z f = some x ∧ x.toInt = ((nrS n).1 : Int) + ((nrS n).2 + 64) * 4294967296 := by
  have hL : n.log2 ≤ 39 := by
    have := (Nat.log2_lt h0 (k := 40)).mpr h1
    omega
  obtain ⟨x, e1, e2⟩ := ne_22 (z := z) (f := f) ha h0 h1
  refine ⟨x, ?_, e2⟩
  unfold g_L_nearest
  exact (ne_l2 ha h0 h1 (n.log2 + 1) FU 0 (by omega) (by show _ < 2000; omega)).trans e1
def dvS (c c' : Nat) (e : Int) : Nat × Int := if c' ≤ c then rndP (c * 8388608) c' (e - 23) else rndP (c * 16777216) c' (e - 24)
theorem fd_eq {E T E' T' : Nat} (h1 : 127 ≤ E) (h2 : E ≤ 188) (ht : T < 8388608) (h1' : 127 ≤ E') (h2' : E' ≤ 188) (ht' : T' < 8388608) {c c' : Nat} {e : Int} (hc : c = 8388608 + T) (hc' : c' = 8388608 + T') (he : e = (E : Int) - E') : FP.fdiv (nv E T) (nv E' T') = nv ((dvS c c' e).2 + 150).toNat ((dvS c c' e).1 - 8388608) ∧ (8388608 ≤ (dvS c c' e).1 ∧ (dvS c c' e).1 < 16777216 ∧ e - 24 ≤ (dvS c c' e).2 ∧ (dvS c c' e).2 ≤ e - 22) ∧ FP.Core.nearest (if c' ≤ c then c * 8388608 else c * 16777216) c' ≤ 16777216 := by
  have he' : e = ((E : Int) - 150) - ((E' : Int) - 150) := by omega
  have key : FP.Core.roundRatio FP.Core.b32 false (8388608 + T) (8388608 + T') e = .fin false (dvS c c' e).1 (dvS c c' e).2 ∧ (8388608 ≤ (dvS c c' e).1 ∧ (dvS c c' e).1 < 16777216 ∧ e - 24 ≤ (dvS c c' e).2 ∧ (dvS c c' e).2 ≤ e - 22) ∧ FP.Core.nearest (if c' ≤ c then c * 8388608 else c * 16777216) c' ≤ 16777216 := by
    unfold dvS
    subst hc hc'
    by_cases d : 8388608 + T' ≤ 8388608 + T
    · have hl : FP.Core.leading (8388608 + T) (8388608 + T') = 0 := by
        unfold FP.Core.leading
        rw [log2_of (n := 8388608 + T) (L := 23) (by omega) (by omega), log2_of (n := 8388608 + T') (L := 23) (by omega) (by omega)]
        dsimp only
        rw [if_pos]
        · rfl
        · show (8388608 + T') * 2 ^ 0 ≤ (8388608 + T) * 2 ^ 0
          omega
      rw [if_pos d, if_pos d]
      obtain ⟨e1, a1, a2⟩ := rr_rnd (num := 8388608 + T) (den := 8388608 + T') (N := (8388608 + T) * 8388608) (D := 8388608 + T') (e := e) (q := e - 23) (by omega) (by omega) (by
        unfold FP.Core.quantum
        rw [hl]
        show max (-149 : Int) (0 + e - ((24 : Int) - 1)) = _
        omega) (by rw [show (e - (e - 23)).toNat = 23 by omega]) (by rw [show (e - 23 - e).toNat = 0 by omega]; omega) (by omega) (by omega) (by omega)
      have := rnd_bd (q := e - 23) a1
      exact ⟨e1, ⟨this.1, this.2.1, by omega, by omega⟩, a2⟩
    · have hl : FP.Core.leading (8388608 + T) (8388608 + T') = -1 := by
        unfold FP.Core.leading
        rw [log2_of (n := 8388608 + T) (L := 23) (by omega) (by omega), log2_of (n := 8388608 + T') (L := 23) (by omega) (by omega)]
        dsimp only
        rw [if_neg]
        · rfl
        · show ¬ (8388608 + T') * 2 ^ 0 ≤ (8388608 + T) * 2 ^ 0
          omega
      rw [if_neg d, if_neg d]
      obtain ⟨e1, a1, a2⟩ := rr_rnd (num := 8388608 + T) (den := 8388608 + T') (N := (8388608 + T) * 16777216) (D := 8388608 + T') (e := e) (q := e - 24) (by omega) (by omega) (by
        unfold FP.Core.quantum
        rw [hl]
        show max (-149 : Int) (-1 + e - ((24 : Int) - 1)) = _
        omega) (by rw [show (e - (e - 24)).toNat = 24 by omega]) (by rw [show (e - 24 - e).toNat = 0 by omega]; omega) (by omega) (by omega) (by omega)
      have := rnd_bd (q := e - 24) a1
      exact ⟨e1, ⟨this.1, this.2.1, by omega, by omega⟩, a2⟩
  obtain ⟨e1, ⟨b1, b2, b3, b4⟩, a2⟩ := key
  refine ⟨?_, ⟨b1, b2, b3, b4⟩, a2⟩
  show UInt32.ofNat (FP.Core.div FP.Core.b32 (nv E T).toNat (nv E' T').toNat) = _
  unfold FP.Core.div
  rw [nv_n (by omega) ht, nv_n (by omega) ht', dec_nv (by omega) (by omega) ht, dec_nv (by omega) (by omega) ht']
  unfold FP.Core.quotient
  dsimp only
  rw [if_neg (by omega), show (false != false) = false from rfl, ← he', e1, enc_fin b1]
  unfold nv
  rw [show ((dvS c c' e).2 + 149).toNat + 1 = ((dvS c c' e).2 + 150).toNat by omega]
end
