/-! the class's hull -/
def pt (n : Int) : Pt := (n % 20, n / 20)
def nB (n : Int) : Prop := 0 ≤ n ∧ n < 400
theorem pt_fi (n : Int) : fiP (pt n) = n := by unfold fiP pt; simp only; omega
theorem pt_inj {a b : Int} (h : pt a = pt b) : a = b := by rw [← pt_fi a, ← pt_fi b, h]
theorem pt_bd {n : Int} (h : nB n) : 0 ≤ (pt n).1 ∧ (pt n).1 < 20 ∧ 0 ≤ (pt n).2 ∧ (pt n).2 < 20 := by
  unfold nB at h
  unfold pt
  simp only
  omega
theorem iv_x {n : Int} (h : nB n) : jrem (iv n) 20 = iv (pt n).1 := iv_rem (b := 20) h.1 (by have := h.2; omega) (by decide) (by decide)
theorem iv_y {n : Int} (h : nB n) : iv n / 20 = iv (pt n).2 := iv_div (b := 20) h.1 (by have := h.2; omega) (by decide) (by decide)
theorem bd_mul {a b A B : Int} (ha : -A ≤ a ∧ a ≤ A) (hb : -B ≤ b ∧ b ≤ B) : -(A * B) ≤ a * b ∧ a * b ≤ A * B := by
  have hA : 0 ≤ A := by omega
  have hB : 0 ≤ B := by omega
  have h1 : (a * b).natAbs = a.natAbs * b.natAbs := Int.natAbs_mul a b
  have h2 : a.natAbs * b.natAbs ≤ A.natAbs * B.natAbs := Nat.mul_le_mul (by omega) (by omega)
  have h3 : ((A.natAbs * B.natAbs : Nat) : Int) = A * B := by
    rw [Int.natCast_mul, Int.natAbs_of_nonneg hA, Int.natAbs_of_nonneg hB]
  omega
theorem fo_fur {a b c : Int} (ha : nB a) (hb : nB b) (hc : nB c) {z f : Nat → Nat → Int32} : g_X4_isFurtherOut (iv a) (iv b) (iv c) z f = some (if fur (pt a) (pt b) (pt c) then 1 else 0) := by
  have pa := pt_bd ha
  have pb := pt_bd hb
  have pc := pt_bd hc
  have m1 := bd_mul (a := (pt b).1 - (pt a).1) (b := (pt c).2 - (pt a).2) (A := 19) (B := 19) (by omega) (by omega)
  have m2 := bd_mul (a := (pt b).2 - (pt a).2) (b := (pt c).1 - (pt a).1) (A := 19) (B := 19) (by omega) (by omega)
  have m3 := bd_mul (a := (pt c).1 - (pt a).1) (b := (pt c).1 - (pt a).1) (A := 19) (B := 19) (by omega) (by omega)
  have m4 := bd_mul (a := (pt c).2 - (pt a).2) (b := (pt c).2 - (pt a).2) (A := 19) (B := 19) (by omega) (by omega)
  have m5 := bd_mul (a := (pt b).1 - (pt a).1) (b := (pt b).1 - (pt a).1) (A := 19) (B := 19) (by omega) (by omega)
  have m6 := bd_mul (a := (pt b).2 - (pt a).2) (b := (pt b).2 - (pt a).2) (A := 19) (B := 19) (by omega) (by omega)
  unfold g_X4_isFurtherOut
  simp only [iv_x ha, iv_x hb, iv_x hc, iv_y ha, iv_y hb, iv_y hc, iv_sub, iv_mul, iv_add]
  have e0 : (0 : Int32) = iv 0 := rfl
  rw [e0]
  have t1 : IB (((pt b).1 - (pt a).1) * ((pt c).2 - (pt a).2) - ((pt b).2 - (pt a).2) * ((pt c).1 - (pt a).1)) := by unfold IB; omega
  have t2 : IB (((pt c).1 - (pt a).1) * ((pt c).1 - (pt a).1) + ((pt c).2 - (pt a).2) * ((pt c).2 - (pt a).2)) := by unfold IB; omega
  have t3 : IB (((pt b).1 - (pt a).1) * ((pt b).1 - (pt a).1) + ((pt b).2 - (pt a).2) * ((pt b).2 - (pt a).2)) := by unfold IB; omega
  simp only [iv_lt t1 (show IB 0 by decide), iv_eq t1 (show IB 0 by decide), iv_le t2 t3]
  by_cases hf : fur (pt a) (pt b) (pt c)
  · rw [if_pos hf]
    unfold fur tn sqd at hf
    by_cases h1 : ((pt b).1 - (pt a).1) * ((pt c).2 - (pt a).2) - ((pt b).2 - (pt a).2) * ((pt c).1 - (pt a).1) < 0
    · rw [if_pos h1]
    · rw [if_neg h1, if_pos (by omega), if_neg (by omega)]
  · rw [if_neg hf]
    unfold fur tn sqd at hf
    rw [if_neg (by omega)]
    by_cases h2 : ((pt b).1 - (pt a).1) * ((pt c).2 - (pt a).2) - ((pt b).2 - (pt a).2) * ((pt c).1 - (pt a).1) = 0
    · rw [if_pos h2, if_pos (by omega)]
    · rw [if_neg h2]
