/-! the law's balance: a foot, a line between two, a triangle of three -/
def tq (x y t d1 d2 d3 : Int) : Bool := (decide (0 ≤ x ∧ 0 ≤ y ∧ 0 ≤ t) || decide (x ≤ 0 ∧ y ≤ 0 ∧ t ≤ 0)) && (!decide (x = 0 ∧ y = 0 ∧ t = 0) || decide (d1 ≤ 0 ∨ d2 ≤ 0 ∨ d3 ≤ 0))
section
variable {k44 : Int32 → Int32 → Int32 → Int32 → Int32 → (Nat → Nat → Int32) → (Nat → Nat → Int32) → Option Int32} {k55 : Int32 → Int32 → Int32 → Int32 → Int32 → Int32 → (Nat → Nat → Int32) → (Nat → Nat → Int32) → Option Int32} {k66 : Int32 → Int32 → Int32 → Int32 → Int32 → Int32 → Int32 → (Nat → Nat → Int32) → (Nat → Nat → Int32) → Option Int32} {i3 i4 i5 i6 i7 i8 i9 : Int32} {z f : Nat → Nat → Int32}
theorem b01 {b : Bool} : ((if b then (1 : Int32) else 0) = 0) ↔ b = false := by cases b <;> decide
theorem hh_310 {S F B : Bool} : g_L_holds_b310 k44 k55 k66 i3 i4 i5 i6 i7 i8 i9 (if S then 1 else 0) (if F then 1 else 0) (if B then 1 else 0) z f = if (S && (!F || B)) = true then some 1 else k66 i3 i4 i5 i6 i7 i8 (i9 + 1) z f := by
  unfold g_L_holds_b310 g_L_holds_b329
  simp only [b01]
  cases S <;> cases F <;> cases B <;> rfl
theorem hh_261 {S F : Bool} {a1 a2 b1 b2 c1 c2 : Int} (h1 : IB (a1 * b1 + a2 * b2)) (h2 : IB (b1 * c1 + b2 * c2)) (h3 : IB (a1 * c1 + a2 * c2)) : g_L_holds_b261 k44 k55 k66 i3 i4 i5 i6 i7 i8 i9 (iv a1) (iv a2) (iv b1) (iv b2) (iv c1) (iv c2) (if S then 1 else 0) (if F then 1 else 0) z f = if (S && (!F || decide (a1 * b1 + a2 * b2 ≤ 0 ∨ b1 * c1 + b2 * c2 ≤ 0 ∨ a1 * c1 + a2 * c2 ≤ 0))) = true then some 1 else k66 i3 i4 i5 i6 i7 i8 (i9 + 1) z f := by
  have T := hh_310 (k44 := k44) (k55 := k55) (k66 := k66) (i3 := i3) (i4 := i4) (i5 := i5) (i6 := i6) (i7 := i7) (i8 := i8) (i9 := i9) (z := z) (f := f) (S := S) (F := F) (B := true)
  have N := hh_310 (k44 := k44) (k55 := k55) (k66 := k66) (i3 := i3) (i4 := i4) (i5 := i5) (i6 := i6) (i7 := i7) (i8 := i8) (i9 := i9) (z := z) (f := f) (S := S) (F := F) (B := false)
  unfold g_L_holds_b261 g_L_holds_b305
  simp only [iv_mul, iv_add]
  have e1 : ∀ {a : Int}, IB a → (iv a ≤ (0 : Int32) ↔ a ≤ 0) := fun h => iv_le (b := 0) h (by decide)
  have e2 : ∀ {a : Int}, IB a → ((0 : Int32) < iv a ↔ 0 < a) := fun h => iv_lt (a := 0) (by decide) h
  simp only [e1 h1, e1 h2, e2 h3]
  by_cases c1' : a1 * b1 + a2 * b2 ≤ 0
  · rw [if_pos c1', decide_eq_true (Or.inl c1')]; exact T
  rw [if_neg c1']
  by_cases c2' : b1 * c1 + b2 * c2 ≤ 0
  · rw [if_pos c2', decide_eq_true (Or.inr (Or.inl c2'))]; exact T
  rw [if_neg c2']
  by_cases c3 : 0 < a1 * c1 + a2 * c2
  · rw [if_pos c3, decide_eq_false (by omega)]; exact N
  · rw [if_neg c3, decide_eq_true (by omega)]; exact T
theorem hh_239 {S : Bool} {a1 a2 b1 b2 c1 c2 x y t : Int} (h1 : IB (a1 * b1 + a2 * b2)) (h2 : IB (b1 * c1 + b2 * c2)) (h3 : IB (a1 * c1 + a2 * c2)) (hx : IB x) (hy : IB y) (ht : IB t) : g_L_holds_b239 k44 k55 k66 i3 i4 i5 i6 i7 i8 i9 (iv a1) (iv a2) (iv b1) (iv b2) (iv c1) (iv c2) (iv x) (iv y) (iv t) (if S then 1 else 0) z f = if (S && (!decide (x = 0 ∧ y = 0 ∧ t = 0) || decide (a1 * b1 + a2 * b2 ≤ 0 ∨ b1 * c1 + b2 * c2 ≤ 0 ∨ a1 * c1 + a2 * c2 ≤ 0))) = true then some 1 else k66 i3 i4 i5 i6 i7 i8 (i9 + 1) z f := by
  have T := hh_261 (k44 := k44) (k55 := k55) (k66 := k66) (i3 := i3) (i4 := i4) (i5 := i5) (i6 := i6) (i7 := i7) (i8 := i8) (i9 := i9) (z := z) (f := f) (S := S) (F := true) h1 h2 h3
  have N := hh_261 (k44 := k44) (k55 := k55) (k66 := k66) (i3 := i3) (i4 := i4) (i5 := i5) (i6 := i6) (i7 := i7) (i8 := i8) (i9 := i9) (z := z) (f := f) (S := S) (F := false) h1 h2 h3
  unfold g_L_holds_b239 g_L_holds_b260
  simp only [z_iv hx, z_iv hy, z_iv ht]
  by_cases c1' : x = 0
  · rw [if_pos c1']
    by_cases c2' : y = 0
    · rw [if_pos c2']
      by_cases c3 : t = 0
      · rw [if_pos c3, decide_eq_true (⟨c1', c2', c3⟩ : x = 0 ∧ y = 0 ∧ t = 0)]; exact T
      · rw [if_neg c3, decide_eq_false (fun q : x = 0 ∧ y = 0 ∧ t = 0 => c3 q.2.2)]; exact N
    · rw [if_neg c2', decide_eq_false (fun q : x = 0 ∧ y = 0 ∧ t = 0 => c2' q.2.1)]; exact N
  · rw [if_neg c1', decide_eq_false (fun q : x = 0 ∧ y = 0 ∧ t = 0 => c1' q.1)]; exact N
theorem hh_body {a1 a2 b1 b2 c1 c2 x y t : Int} (h1 : IB (a1 * b1 + a2 * b2)) (h2 : IB (b1 * c1 + b2 * c2)) (h3 : IB (a1 * c1 + a2 * c2)) (hx : IB x) (hy : IB y) (ht : IB t) :
    (if iv x < 0 then g_L_holds_b219 k44 k55 k66 i3 i4 i5 i6 i7 i8 i9 (iv a1) (iv a2) (iv b1) (iv b2) (iv c1) (iv c2) (iv x) (iv y) (iv t) z f else if iv y < 0 then g_L_holds_b219 k44 k55 k66 i3 i4 i5 i6 i7 i8 i9 (iv a1) (iv a2) (iv b1) (iv b2) (iv c1) (iv c2) (iv x) (iv y) (iv t) z f else if 0 ≤ iv t then g_L_holds_b234 k44 k55 k66 i3 i4 i5 i6 i7 i8 i9 (iv a1) (iv a2) (iv b1) (iv b2) (iv c1) (iv c2) (iv x) (iv y) (iv t) z f else g_L_holds_b219 k44 k55 k66 i3 i4 i5 i6 i7 i8 i9 (iv a1) (iv a2) (iv b1) (iv b2) (iv c1) (iv c2) (iv x) (iv y) (iv t) z f) = if tq x y t (a1 * b1 + a2 * b2) (b1 * c1 + b2 * c2) (a1 * c1 + a2 * c2) = true then some 1 else k66 i3 i4 i5 i6 i7 i8 (i9 + 1) z f := by
  have T := hh_239 (k44 := k44) (k55 := k55) (k66 := k66) (i3 := i3) (i4 := i4) (i5 := i5) (i6 := i6) (i7 := i7) (i8 := i8) (i9 := i9) (z := z) (f := f) (S := true) h1 h2 h3 hx hy ht
  have N := hh_239 (k44 := k44) (k55 := k55) (k66 := k66) (i3 := i3) (i4 := i4) (i5 := i5) (i6 := i6) (i7 := i7) (i8 := i8) (i9 := i9) (z := z) (f := f) (S := false) h1 h2 h3 hx hy ht
  have e1 : ∀ {a : Int}, IB a → (iv a < (0 : Int32) ↔ a < 0) := fun h => iv_lt (b := 0) h (by decide)
  have e2 : ∀ {a : Int}, IB a → ((0 : Int32) < iv a ↔ 0 < a) := fun h => iv_lt (a := 0) (by decide) h
  have e3 : ∀ {a : Int}, IB a → ((0 : Int32) ≤ iv a ↔ 0 ≤ a) := fun h => iv_le (a := 0) (by decide) h
  have q219 : ¬ (0 ≤ x ∧ 0 ≤ y ∧ 0 ≤ t) → g_L_holds_b219 k44 k55 k66 i3 i4 i5 i6 i7 i8 i9 (iv a1) (iv a2) (iv b1) (iv b2) (iv c1) (iv c2) (iv x) (iv y) (iv t) z f = if tq x y t (a1 * b1 + a2 * b2) (b1 * c1 + b2 * c2) (a1 * c1 + a2 * c2) = true then some 1 else k66 i3 i4 i5 i6 i7 i8 (i9 + 1) z f := fun hn => by
    unfold g_L_holds_b219 g_L_holds_b238 g_L_holds_b234 tq
    simp only [e2 hx, e2 hy, e2 ht]
    rw [decide_eq_false hn, Bool.false_or]
    by_cases c1' : 0 < x
    · rw [if_pos c1', decide_eq_false (show ¬ (x ≤ 0 ∧ y ≤ 0 ∧ t ≤ 0) by omega)]; exact N
    rw [if_neg c1']
    by_cases c2' : 0 < y
    · rw [if_pos c2', decide_eq_false (show ¬ (x ≤ 0 ∧ y ≤ 0 ∧ t ≤ 0) by omega)]; exact N
    rw [if_neg c2']
    by_cases c3 : 0 < t
    · rw [if_pos c3, decide_eq_false (show ¬ (x ≤ 0 ∧ y ≤ 0 ∧ t ≤ 0) by omega)]; exact N
    · rw [if_neg c3, decide_eq_true (show x ≤ 0 ∧ y ≤ 0 ∧ t ≤ 0 by omega)]; exact T
  simp only [e1 hx, e1 hy, e3 ht]
  by_cases c1' : x < 0
  · rw [if_pos c1']; exact q219 (by omega)
  rw [if_neg c1']
  by_cases c2' : y < 0
  · rw [if_pos c2']; exact q219 (by omega)
  rw [if_neg c2']
  by_cases c3 : 0 ≤ t
  · rw [if_pos c3]
    unfold g_L_holds_b234 tq
    rw [decide_eq_true (show 0 ≤ x ∧ 0 ≤ y ∧ 0 ≤ t by omega), Bool.true_or]
    exact T
  · rw [if_neg c3]; exact q219 (by omega)
end
/-- a piece that the moment is in -/
def tqP (w mx my : Int) (a b c : Pt) : Bool := tq (tm w mx my a b) (tm w mx my b c) (tm w mx my c a) (dt w mx my a b) (dt w mx my b c) (dt w mx my a c)
theorem tq_in {w mx my : Int} {a b c : Pt} {L : List Pt} (ha : a ∈ L) (hb : b ∈ L) (hc : c ∈ L) (h : tqP w mx my a b c = true) : inP w mx my L := by
  unfold tqP tq at h
  rw [Bool.and_eq_true, Bool.or_eq_true, Bool.or_eq_true, decide_eq_true_iff, decide_eq_true_iff, Bool.not_eq_true', decide_eq_false_iff_not, decide_eq_true_iff] at h
  obtain ⟨h1, h2⟩ := h
  by_cases z0 : tm w mx my a b = 0 ∧ tm w mx my b c = 0 ∧ tm w mx my c a = 0
  · rcases h2 with h2 | h2 | h2 | h2
    · exact absurd z0 h2
    · exact Or.inl ⟨a, ha, b, hb, z0.1, h2⟩
    · exact Or.inl ⟨b, hb, c, hc, z0.2.1, h2⟩
    · exact Or.inl ⟨a, ha, c, hc, by rw [tm_sw, z0.2.2]; rfl, h2⟩
  · exact Or.inr ⟨a, ha, b, hb, c, hc, by omega, h1⟩
theorem tq_line {w mx my : Int} {a b : Pt} (h : onL w mx my a b) : tqP w mx my a b b = true := by
  have e1 := tm_self (w := w) (mx := mx) (my := my) (a := b)
  have e2 := tm_sw (w := w) (mx := mx) (my := my) (a := a) (b := b)
  have h1 := h.1
  have h2 := h.2
  unfold tqP tq
  rw [decide_eq_true (show 0 ≤ tm w mx my a b ∧ 0 ≤ tm w mx my b b ∧ 0 ≤ tm w mx my b a by omega), decide_eq_true (show dt w mx my a b ≤ 0 ∨ dt w mx my b b ≤ 0 ∨ dt w mx my a b ≤ 0 from Or.inl h2)]
  simp
theorem tq_tri {w mx my : Int} {a b c : Pt} (h : tri w mx my a b c) : tqP w mx my a b c = true := by
  have h1 := h.1
  have h2 := h.2
  unfold tqP tq
  rw [decide_eq_false (show ¬ (tm w mx my a b = 0 ∧ tm w mx my b c = 0 ∧ tm w mx my c a = 0) by omega)]
  rw [Bool.and_eq_true, Bool.or_eq_true, decide_eq_true_iff, decide_eq_true_iff]
  exact ⟨h2, by simp⟩
section
variable {s : MSt} {z f : Nat → Nat → Int32}
def sdP (s : MSt) (i j k : Nat) : Prop := s 7 i ≠ -1 ∧ s 7 j ≠ -1 ∧ s 7 k ≠ -1 ∧ tqP (wS s) (mxS s) (myS s) (pt (s 7 i)) (pt (s 7 j)) (pt (s 7 k)) = true
theorem sd_iff : (∃ i j k, i ≤ j ∧ j ≤ k ∧ k < 6 ∧ sdP s i j k) ↔ stB s (-1) = true := by
  unfold stB
  rw [inB_iff]
  have mem : ∀ {k : Nat}, k < 6 → s 7 k ≠ -1 → pt (s 7 k) ∈ flP (s 7) (-1) := fun {k} hk h => List.mem_map.mpr ⟨s 7 k, (flN_mem 6 0).mpr ⟨k, Nat.zero_le _, by omega, by omega, h, rfl⟩, rfl⟩
  have ex : ∀ {a : Pt}, a ∈ flP (s 7) (-1) → ∃ k, k < 6 ∧ s 7 k ≠ -1 ∧ pt (s 7 k) = a := fun {a} ha => by
    obtain ⟨q, hq, rfl⟩ := List.mem_map.mp ha
    obtain ⟨k, -, h2, -, h4, h5⟩ := (flN_mem 6 0).mp hq
    exact ⟨k, by omega, h4, by rw [h5]⟩
  constructor
  · rintro ⟨i, j, k, h1, h2, h3, q1, q2, q3, q4⟩
    exact tq_in (mem (by omega) q1) (mem (by omega) q2) (mem h3 q3) q4
  · rintro (⟨a, ha, b, hb, h⟩ | ⟨a, ha, b, hb, c, hc, h⟩)
    · obtain ⟨i, hi, q1, rfl⟩ := ex ha
      obtain ⟨j, hj, q2, rfl⟩ := ex hb
      rcases Nat.le_total i j with q | q
      · exact ⟨i, j, j, q, Nat.le_refl _, hj, q1, q2, q2, tq_line h⟩
      · exact ⟨j, i, i, q, Nat.le_refl _, hi, q2, q1, q1, tq_line (onL_sw h)⟩
    · obtain ⟨i, hi, q1, rfl⟩ := ex ha
      obtain ⟨j, hj, q2, rfl⟩ := ex hb
      obtain ⟨k, hk, q3, rfl⟩ := ex hc
      have h' := tri_swp h
      rcases Nat.le_total i j with a1 | a1 <;> rcases Nat.le_total j k with a2 | a2 <;> rcases Nat.le_total i k with a3 | a3
      · exact ⟨i, j, k, a1, a2, hk, q1, q2, q3, tq_tri h⟩
      · exact ⟨i, j, k, a1, a2, hk, q1, q2, q3, tq_tri h⟩
      · exact ⟨i, k, j, a3, a2, hj, q1, q3, q2, tq_tri (tri_rot h')⟩
      · exact ⟨k, i, j, a3, a1, hj, q3, q1, q2, tq_tri (tri_rot (tri_rot h))⟩
      · exact ⟨j, i, k, a1, a3, hk, q2, q1, q3, tq_tri h'⟩
      · exact ⟨j, k, i, a2, a3, hi, q2, q3, q1, tq_tri (tri_rot h)⟩
      · exact ⟨k, j, i, a2, a1, hi, q3, q2, q1, tq_tri (tri_rot (tri_rot h'))⟩
      · exact ⟨k, j, i, a2, a1, hi, q3, q2, q1, tq_tri (tri_rot (tri_rot h'))⟩
end
