/-! the moment, and what holds it -/
def tm (w mx my : Int) (a b : Pt) : Int := (w * a.1 - mx) * (w * b.2 - my) - (w * a.2 - my) * (w * b.1 - mx)
def dt (w mx my : Int) (a b : Pt) : Int := (w * a.1 - mx) * (w * b.1 - mx) + (w * a.2 - my) * (w * b.2 - my)
abbrev onL (w mx my : Int) (a b : Pt) : Prop := tm w mx my a b = 0 ∧ dt w mx my a b ≤ 0
abbrev tri (w mx my : Int) (a b c : Pt) : Prop := tm w mx my a b + tm w mx my b c + tm w mx my c a ≠ 0 ∧ ((0 ≤ tm w mx my a b ∧ 0 ≤ tm w mx my b c ∧ 0 ≤ tm w mx my c a) ∨ (tm w mx my a b ≤ 0 ∧ tm w mx my b c ≤ 0 ∧ tm w mx my c a ≤ 0))
abbrev inP (w mx my : Int) (L : List Pt) : Prop := (∃ a ∈ L, ∃ b ∈ L, onL w mx my a b) ∨ ∃ a ∈ L, ∃ b ∈ L, ∃ c ∈ L, tri w mx my a b c
def eg (w mx my : Int) (a b : Pt) : Int := (b.1 - a.1) * (my - w * a.2) - (b.2 - a.2) * (mx - w * a.1)
theorem eg_tm {w mx my : Int} {a b : Pt} : w * eg w mx my a b = tm w mx my a b := by unfold eg tm; grind
theorem eg_nn {w mx my : Int} {a b : Pt} (hw : 0 < w) : 0 ≤ eg w mx my a b ↔ 0 ≤ tm w mx my a b := by
  rw [← eg_tm]
  exact ⟨fun h => Int.mul_nonneg (Int.le_of_lt hw) h, fun h => hg_pos hw h⟩
theorem inP_mono {w mx my : Int} {L L' : List Pt} (h : ∀ a ∈ L, a ∈ L') (hi : inP w mx my L) : inP w mx my L' := by
  rcases hi with ⟨a, ha, b, hb, h1⟩ | ⟨a, ha, b, hb, c, hc, h1⟩
  · exact Or.inl ⟨a, h a ha, b, h b hb, h1⟩
  · exact Or.inr ⟨a, h a ha, b, h b hb, c, h c hc, h1⟩
theorem hg_neg {a b : Int} (h : a < 0) (h2 : a * b ≤ 0) : 0 ≤ b := by
  refine hg_pos (a := -a) (by omega) ?_
  rw [Int.neg_mul]
  omega
/-- what is linear and not negative at the feet, is so at the moment -/
theorem inP_lin {w mx my : Int} {L : List Pt} (hi : inP w mx my L) {α β γ : Int} (hg : ∀ q ∈ L, 0 ≤ α * (w * q.1) + β * (w * q.2) + γ) : 0 ≤ α * mx + β * my + γ := by
  rcases hi with ⟨a, ha, b, hb, h1, h2⟩ | ⟨a, ha, b, hb, c, hc, h0, h1⟩
  · have ga := hg a ha
    have gb := hg b hb
    by_cases hz : w * b.1 - mx = 0 ∧ w * b.2 - my = 0
    · have e1 : w * b.1 = mx := by omega
      have e2 : w * b.2 = my := by omega
      rw [e1, e2] at gb
      exact gb
    · have hp := hg_sqs hz
      unfold tm at h1
      unfold dt at h2
      have e : (((w * b.1 - mx) * (w * b.1 - mx) + (w * b.2 - my) * (w * b.2 - my)) - ((w * a.1 - mx) * (w * b.1 - mx) + (w * a.2 - my) * (w * b.2 - my))) * (α * mx + β * my + γ) = ((w * b.1 - mx) * (w * b.1 - mx) + (w * b.2 - my) * (w * b.2 - my)) * (α * (w * a.1) + β * (w * a.2) + γ) - ((w * a.1 - mx) * (w * b.1 - mx) + (w * a.2 - my) * (w * b.2 - my)) * (α * (w * b.1) + β * (w * b.2) + γ) - ((w * a.1 - mx) * (w * b.2 - my) - (w * a.2 - my) * (w * b.1 - mx)) * (α * (w * b.2 - my) - β * (w * b.1 - mx)) := by grind
      rw [h1, Int.zero_mul, Int.sub_zero] at e
      have k1 := Int.mul_nonneg (Int.le_of_lt hp) ga
      have k2 := Int.mul_nonneg_of_nonpos_of_nonpos (a := (w * a.1 - mx) * (w * b.1 - mx) + (w * a.2 - my) * (w * b.2 - my)) (b := - (α * (w * b.1) + β * (w * b.2) + γ)) h2 (by omega)
      rw [Int.mul_neg] at k2
      exact hg_pos (a := (((w * b.1 - mx) * (w * b.1 - mx) + (w * b.2 - my) * (w * b.2 - my)) - ((w * a.1 - mx) * (w * b.1 - mx) + (w * a.2 - my) * (w * b.2 - my)))) (by omega) (by omega)
  · have ga := hg a ha
    have gb := hg b hb
    have gc := hg c hc
    have e : (tm w mx my a b + tm w mx my b c + tm w mx my c a) * (α * mx + β * my + γ) = tm w mx my b c * (α * (w * a.1) + β * (w * a.2) + γ) + tm w mx my c a * (α * (w * b.1) + β * (w * b.2) + γ) + tm w mx my a b * (α * (w * c.1) + β * (w * c.2) + γ) := by unfold tm; grind
    rcases h1 with ⟨p1, p2, p3⟩ | ⟨p1, p2, p3⟩
    · have k1 := Int.mul_nonneg p2 ga
      have k2 := Int.mul_nonneg p3 gb
      have k3 := Int.mul_nonneg p1 gc
      exact hg_pos (a := tm w mx my a b + tm w mx my b c + tm w mx my c a) (by omega) (by omega)
    · have k1 := Int.mul_nonpos_of_nonpos_of_nonneg p2 ga
      have k2 := Int.mul_nonpos_of_nonpos_of_nonneg p3 gb
      have k3 := Int.mul_nonpos_of_nonpos_of_nonneg p1 gc
      exact hg_neg (a := tm w mx my a b + tm w mx my b c + tm w mx my c a) (by omega) (by omega)
theorem inP_eg {w mx my : Int} {L : List Pt} (hi : inP w mx my L) {a b : Pt} (hw : 0 < w) (h : ∀ q ∈ L, 0 ≤ tn a b q) : 0 ≤ eg w mx my a b := by
  have := inP_lin hi (α := -(b.2 - a.2)) (β := b.1 - a.1) (γ := w * ((b.2 - a.2) * a.1 - (b.1 - a.1) * a.2)) (fun q hq => by
    have e : -(b.2 - a.2) * (w * q.1) + (b.1 - a.1) * (w * q.2) + w * ((b.2 - a.2) * a.1 - (b.1 - a.1) * a.2) = w * tn a b q := by unfold tn; grind
    rw [e]
    exact Int.mul_nonneg (Int.le_of_lt hw) (h q hq))
  have e : -(b.2 - a.2) * mx + (b.1 - a.1) * my + w * ((b.2 - a.2) * a.1 - (b.1 - a.1) * a.2) = eg w mx my a b := by unfold eg; grind
  omega
theorem tm_sum {w mx my : Int} {a b c : Pt} : tm w mx my a b + tm w mx my b c + tm w mx my c a = w * w * tn a b c := by unfold tm tn; grind
theorem tm_sw {w mx my : Int} {a b : Pt} : tm w mx my b a = - tm w mx my a b := by unfold tm; grind
theorem tm_self {w mx my : Int} {a : Pt} : tm w mx my a a = 0 := by unfold tm; grind
/-- the fan is strict -/
theorem fan_pos {L : List Pt} {p a b : Pt} (hp : stP L p) (ha : exP L a) (hb : b ∈ L) (hd : ∀ q ∈ L, dm a b q) (hap : a ≠ p) (hbp : b ≠ p) (hba : b ≠ a) : 0 < tn p a b := by
  have hm := hd p hp.1
  have e : tn p a b = tn a b p := by unfold tn; grind
  rw [e]
  rcases Int.lt_or_eq_of_le hm.1 with h | h
  · exact h
  · exfalso
    obtain ⟨haL, d, hdd⟩ := ha
    obtain ⟨x1, x2, x3⟩ := sc_bt (hdd b hb hba) (hdd p hp.1 (fun e => hap e.symm)) hm h.symm
    have f1 := hp.2 a haL hap
    have f2 := hp.2 b hb hbp
    have i : sqd a b * (fiP p - fiP a) = ((b.1 - a.1) * (p.1 - a.1) + (b.2 - a.2) * (p.2 - a.2)) * (fiP b - fiP a) + tn a b p * (20 * (b.1 - a.1) - (b.2 - a.2)) := by unfold sqd fiP tn; grind
    rw [← h, Int.zero_mul, Int.add_zero] at i
    have s1 : sqd a b * (fiP p - fiP a) < 0 := Int.mul_neg_of_pos_of_neg x3 (by omega)
    have s2 : fiP b - fiP a < 0 := by
      apply Int.not_le.mp
      intro h5
      have := Int.mul_nonneg (Int.le_of_lt x1) h5
      omega
    have s3 := Int.mul_le_mul_of_nonpos_right x2 (Int.le_of_lt s2)
    have s4 : sqd a b * (fiP p - fiP a) < sqd a b * (fiP b - fiP a) := Int.mul_lt_mul_of_pos_left (by omega) x3
    omega
theorem ivt (g : Nat → Int) : ∀ n, 0 ≤ g 1 → g (n + 2) ≤ 0 → ∃ i, 1 ≤ i ∧ i ≤ n + 1 ∧ 0 ≤ g i ∧ g (i + 1) ≤ 0
  | 0, h1, h2 => ⟨1, Nat.le_refl _, Nat.le_refl _, h1, h2⟩
  | n + 1, h1, h2 => by
    by_cases h : g (n + 2) ≤ 0
    · obtain ⟨i, a, b, c⟩ := ivt g n h1 h
      exact ⟨i, a, by omega, c⟩
    · exact ⟨n + 2, by omega, by omega, by omega, h2⟩
theorem one_all {L : List Pt} {p : Pt} (h : exP L p) (h1 : sc L p = p) : ∀ q ∈ L, q = p := (sc_sp h).2.1 h1
theorem inP_one {w mx my : Int} {L : List Pt} {p : Pt} (h : exP L p) (h1 : sc L p = p) : inP w mx my L ↔ w * p.1 = mx ∧ w * p.2 = my := by
  have ha := one_all h h1
  constructor
  · intro hi
    have a1 := inP_lin hi (α := 1) (β := 0) (γ := -(w * p.1)) (fun q hq => by rw [ha q hq]; omega)
    have a2 := inP_lin hi (α := -1) (β := 0) (γ := w * p.1) (fun q hq => by rw [ha q hq]; omega)
    have a3 := inP_lin hi (α := 0) (β := 1) (γ := -(w * p.2)) (fun q hq => by rw [ha q hq]; omega)
    have a4 := inP_lin hi (α := 0) (β := -1) (γ := w * p.2) (fun q hq => by rw [ha q hq]; omega)
    omega
  · rintro ⟨e1, e2⟩
    refine Or.inl ⟨p, h.1, p, h.1, tm_self, ?_⟩
    unfold dt
    rw [e1, e2]
    simp
