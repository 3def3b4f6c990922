/-! the pieces -/
/-- points seen from the moment -/
def pcOk (w mx my : Int) (L : List Pt) (f : Nat → Nat → Int32) : Prop := ∀ j (h : j < L.length), f 30 j = iv (w * L[j].1 - mx) ∧ f 32 j = iv (w * L[j].2 - my)
theorem pc_bd {w mx my : Int} (hB : mxB w mx my) {a : Pt} (ha : pB a) : (-2570 ≤ w * a.1 - mx ∧ w * a.1 - mx ≤ 2570) ∧ -2570 ≤ w * a.2 - my ∧ w * a.2 - my ≤ 2570 := by
  obtain ⟨hx, hy, hw⟩ := hB
  unfold pB at ha
  have n1 := bd_mul (a := w) (b := a.2) (A := 30) (B := 19) (by omega) (by omega)
  have n2 := bd_mul (a := w) (b := a.1) (A := 30) (B := 19) (by omega) (by omega)
  have := Int.mul_nonneg (Int.le_of_lt hw.1) ha.1.1
  have := Int.mul_nonneg (Int.le_of_lt hw.1) ha.2.1
  omega
theorem tm_bd {w mx my : Int} (hB : mxB w mx my) {a b : Pt} (ha : pB a) (hb : pB b) : -20000000 ≤ tm w mx my a b ∧ tm w mx my a b ≤ 20000000 := by
  have pa := pc_bd hB ha
  have pb := pc_bd hB hb
  have m1 := bd_mul (a := w * a.1 - mx) (b := w * b.2 - my) (A := 2570) (B := 2570) (by omega) (by omega)
  have m2 := bd_mul (a := w * a.2 - my) (b := w * b.1 - mx) (A := 2570) (B := 2570) (by omega) (by omega)
  unfold tm
  omega
theorem dt_bd {w mx my : Int} (hB : mxB w mx my) {a b : Pt} (ha : pB a) (hb : pB b) : -20000000 ≤ dt w mx my a b ∧ dt w mx my a b ≤ 20000000 := by
  have pa := pc_bd hB ha
  have pb := pc_bd hB hb
  have m1 := bd_mul (a := w * a.1 - mx) (b := w * b.1 - mx) (A := 2570) (B := 2570) (by omega) (by omega)
  have m2 := bd_mul (a := w * a.2 - my) (b := w * b.2 - my) (A := 2570) (B := 2570) (by omega) (by omega)
  unfold dt
  omega
theorem pc_turn {w mx my : Int} {L : List Pt} {z f : Nat → Nat → Int32} (hl : L.length ≤ 6) (h : pcOk w mx my L f) {i j : Nat} (hi : i < L.length) (hj : j < L.length) : g_X6_turn (iv i) (iv j) z f = some (iv (tm w mx my L[i] L[j])) := by
  unfold g_X6_turn
  rw [rdR_iv (by omega) (by decide), rdR_iv (by omega) (by decide), rdR_iv (by omega) (by decide), rdR_iv (by omega) (by decide), (h i hi).1, (h i hi).2, (h j hj).1, (h j hj).2, iv_mul, iv_mul, iv_sub]
  rfl
theorem pc_line {w mx my : Int} (hB : mxB w mx my) {L : List Pt} (hp : ∀ a ∈ L, pB a) {z f : Nat → Nat → Int32} (hl : L.length ≤ 6) (h : pcOk w mx my L f) {i j : Nat} (hi : i < L.length) (hj : j < L.length) : g_X6_isOnLine (iv i) (iv j) z f = some (if onL w mx my L[i] L[j] then 1 else 0) := by
  have b1 := tm_bd hB (hp _ (List.getElem_mem hi)) (hp _ (List.getElem_mem hj))
  have b2 := dt_bd hB (hp _ (List.getElem_mem hi)) (hp _ (List.getElem_mem hj))
  have e : (iv (w * L[i].1 - mx) * iv (w * L[j].1 - mx)) + (iv (w * L[i].2 - my) * iv (w * L[j].2 - my)) = iv (dt w mx my L[i] L[j]) := by
    rw [iv_mul, iv_mul, iv_add]
    rfl
  unfold g_X6_isOnLine
  rw [pc_turn hl h hi hj, Option.bind_some, rdR_iv (by omega) (by decide), rdR_iv (by omega) (by decide), rdR_iv (by omega) (by decide), rdR_iv (by omega) (by decide), (h i hi).1, (h i hi).2, (h j hj).1, (h j hj).2, e]
  have k1 : iv (tm w mx my L[i] L[j]) = (0 : Int32) ↔ tm w mx my L[i] L[j] = 0 := iv_eq (b := 0) (by unfold IB; omega) (by decide)
  have k2 : (0 : Int32) < iv (dt w mx my L[i] L[j]) ↔ 0 < dt w mx my L[i] L[j] := iv_lt (a := 0) (by decide) (by unfold IB; omega)
  by_cases c1 : tm w mx my L[i] L[j] = 0
  · rw [if_pos (k1.mpr c1)]
    by_cases c2 : 0 < dt w mx my L[i] L[j]
    · rw [if_pos (k2.mpr c2), if_neg (fun q => by have := q.2; omega)]
    · rw [if_neg (fun q => c2 (k2.mp q)), if_pos ⟨c1, by omega⟩]
  · rw [if_neg (fun q => c1 (k1.mp q)), if_neg (fun q => c1 q.1)]
theorem tri_g {x y t : Int} (b1 : -20000000 ≤ x ∧ x ≤ 20000000) (b2 : -20000000 ≤ y ∧ y ≤ 20000000) (b3 : -20000000 ≤ t ∧ t ≤ 20000000) {z f : Nat → Nat → Int32} : (if iv (x + y + t) = 0 then some (0 : Int32) else if iv x < 0 then g_X6_isInTriangle_b52 (iv x) (iv y) (iv t) z f else if iv y < 0 then g_X6_isInTriangle_b52 (iv x) (iv y) (iv t) z f else if 0 ≤ iv t then some 1 else g_X6_isInTriangle_b52 (iv x) (iv y) (iv t) z f) = some (if x + y + t ≠ 0 ∧ ((0 ≤ x ∧ 0 ≤ y ∧ 0 ≤ t) ∨ (x ≤ 0 ∧ y ≤ 0 ∧ t ≤ 0)) then 1 else 0) := by
  have ix : IB x := by unfold IB; omega
  have iy : IB y := by unfold IB; omega
  have it : IB t := by unfold IB; omega
  have i0 : IB 0 := by decide
  have k0 : iv (x + y + t) = (0 : Int32) ↔ x + y + t = 0 := iv_eq (b := 0) (by unfold IB; omega) i0
  have kx : iv x < (0 : Int32) ↔ x < 0 := iv_lt (b := 0) ix i0
  have ky : iv y < (0 : Int32) ↔ y < 0 := iv_lt (b := 0) iy i0
  have kt : (0 : Int32) ≤ iv t ↔ 0 ≤ t := iv_le (a := 0) i0 it
  have kx' : (0 : Int32) < iv x ↔ 0 < x := iv_lt (a := 0) i0 ix
  have ky' : (0 : Int32) < iv y ↔ 0 < y := iv_lt (a := 0) i0 iy
  have kt' : (0 : Int32) < iv t ↔ 0 < t := iv_lt (a := 0) i0 it
  have e52 : g_X6_isInTriangle_b52 (iv x) (iv y) (iv t) z f = some (if x ≤ 0 ∧ y ≤ 0 ∧ t ≤ 0 then 1 else 0) := by
    unfold g_X6_isInTriangle_b52
    simp only [kx', ky', kt']
    by_cases q : x ≤ 0 ∧ y ≤ 0 ∧ t ≤ 0
    · rw [if_pos q, if_neg (by omega), if_neg (by omega), if_neg (by omega)]
    · rw [if_neg q]
      split
      · rfl
      · split
        · rfl
        · split
          · rfl
          · omega
  simp only [k0, kx, ky, kt, e52]
  by_cases c0 : x + y + t = 0
  · rw [if_pos c0, if_neg (fun q => q.1 c0)]
  · rw [if_neg c0]
    by_cases c1 : 0 ≤ x ∧ 0 ≤ y ∧ 0 ≤ t
    · rw [if_neg (by omega), if_neg (by omega), if_pos c1.2.2, if_pos ⟨c0, Or.inl c1⟩]
    · have e2 : (if x ≤ 0 ∧ y ≤ 0 ∧ t ≤ 0 then (1 : Int32) else 0) = if x + y + t ≠ 0 ∧ ((0 ≤ x ∧ 0 ≤ y ∧ 0 ≤ t) ∨ (x ≤ 0 ∧ y ≤ 0 ∧ t ≤ 0)) then 1 else 0 := by
        by_cases q : x ≤ 0 ∧ y ≤ 0 ∧ t ≤ 0
        · rw [if_pos q, if_pos ⟨c0, Or.inr q⟩]
        · rw [if_neg q, if_neg (by rintro ⟨-, r | r⟩; exact c1 r; exact q r)]
      rw [← e2]
      split
      · rfl
      · split
        · rfl
        · split
          · omega
          · rfl
theorem pc_tri {w mx my : Int} (hB : mxB w mx my) {L : List Pt} (hp : ∀ a ∈ L, pB a) {z f : Nat → Nat → Int32} (hl : L.length ≤ 6) (h : pcOk w mx my L f) {i j k : Nat} (hi : i < L.length) (hj : j < L.length) (hk : k < L.length) : g_X6_isInTriangle (iv i) (iv j) (iv k) z f = some (if tri w mx my L[i] L[j] L[k] then 1 else 0) := by
  have b1 := tm_bd hB (hp _ (List.getElem_mem hi)) (hp _ (List.getElem_mem hj))
  have b2 := tm_bd hB (hp _ (List.getElem_mem hj)) (hp _ (List.getElem_mem hk))
  have b3 := tm_bd hB (hp _ (List.getElem_mem hk)) (hp _ (List.getElem_mem hi))
  unfold g_X6_isInTriangle
  rw [pc_turn hl h hi hj, Option.bind_some, pc_turn hl h hj hk, Option.bind_some, pc_turn hl h hk hi, Option.bind_some, iv_add, iv_add]
  exact tri_g b1 b2 b3
