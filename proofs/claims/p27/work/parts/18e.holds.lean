theorem and3 (a b c : Int32) : ((a &&& b) &&& c) &&& 1 = ((a &&& 1) &&& (b &&& 1)) &&& (c &&& 1) := by
  apply Int32.toBitVec_inj.mp
  show ((a.toBitVec &&& b.toBitVec) &&& c.toBitVec) &&& (1 : Int32).toBitVec = ((a.toBitVec &&& (1 : Int32).toBitVec) &&& (b.toBitVec &&& (1 : Int32).toBitVec)) &&& (c.toBitVec &&& (1 : Int32).toBitVec)
  apply BitVec.eq_of_getLsbD_eq
  intro i hi
  simp only [BitVec.getLsbD_and]
  cases a.toBitVec.getLsbD i <;> cases b.toBitVec.getLsbD i <;> cases c.toBitVec.getLsbD i <;> cases (1 : Int32).toBitVec.getLsbD i <;> rfl
theorem and2 (a b : Int32) : (a &&& b) &&& 1 = (a &&& 1) &&& (b &&& 1) := by
  apply Int32.toBitVec_inj.mp
  show (a.toBitVec &&& b.toBitVec) &&& (1 : Int32).toBitVec = (a.toBitVec &&& (1 : Int32).toBitVec) &&& (b.toBitVec &&& (1 : Int32).toBitVec)
  apply BitVec.eq_of_getLsbD_eq
  intro i hi
  simp only [BitVec.getLsbD_and]
  cases a.toBitVec.getLsbD i <;> cases b.toBitVec.getLsbD i <;> cases (1 : Int32).toBitVec.getLsbD i <;> rfl
section
variable {s : MSt} {z f : Nat → Nat → Int32}
theorem bit3 {i j k : Nat} (hi : i < 6) (hj : j < 6) (hk : k < 6) : ((((mk (dnS s) >>> (iv i &&& 31)) &&& (mk (dnS s) >>> (iv j &&& 31))) &&& (mk (dnS s) >>> (iv k &&& 31))) &&& 1 = (1 : Int32)) ↔ s 7 i ≠ -1 ∧ s 7 j ≠ -1 ∧ s 7 k ≠ -1 := by
  rw [and3, mk_get i hi, mk_get j hj, mk_get k hk]
  unfold dnS
  by_cases c1 : s 7 i = -1 <;> by_cases c2 : s 7 j = -1 <;> by_cases c3 : s 7 k = -1 <;> simp [c1, c2, c3] <;> decide
theorem bit2 {i j : Nat} (hi : i < 6) (hj : j < 6) : (((mk (dnS s) >>> (iv i &&& 31)) &&& (mk (dnS s) >>> (iv j &&& 31))) &&& 1 = (1 : Int32)) ↔ s 7 i ≠ -1 ∧ s 7 j ≠ -1 := by
  rw [and2, mk_get i hi, mk_get j hj]
  unfold dnS
  by_cases c1 : s 7 i = -1 <;> by_cases c2 : s 7 j = -1 <;> simp [c1, c2] <;> decide
theorem pcb {w mx my : Int} (hB : mxB w mx my) {a b : Pt} (ha : pB a) (hb : pB b) : IB (tm w mx my a b) ∧ IB (dt w mx my a b) := by
  have h1 := tm_bd hB ha hb
  have h2 := dt_bd hB ha hb
  exact ⟨by unfold IB; omega, by unfold IB; omega⟩
theorem la_66 {k44 : Int32 → Int32 → Int32 → Int32 → Int32 → (Nat → Nat → Int32) → (Nat → Nat → Int32) → Option Int32} {k55 : Int32 → Int32 → Int32 → Int32 → Int32 → Int32 → (Nat → Nat → Int32) → (Nat → Nat → Int32) → Option Int32} (hB : BD s) (hF : FX s f) {i j : Nat} (hi : i < 6) (hj : j < 6) : ∀ (n fu k : Nat), k + n = 6 → n < fu → ((∃ k', k ≤ k' ∧ k' < 6 ∧ sdP s i j k') → g_L_holds_l66 k44 k55 fu (mk (dnS s)) (iv (wS s)) (iv (mxS s)) (iv (myS s)) (iv i) (iv j) (iv k) z f = some 1) ∧ ((¬ ∃ k', k ≤ k' ∧ k' < 6 ∧ sdP s i j k') → g_L_holds_l66 k44 k55 fu (mk (dnS s)) (iv (wS s)) (iv (mxS s)) (iv (myS s)) (iv i) (iv j) (iv k) z f = k55 (mk (dnS s)) (iv (wS s)) (iv (mxS s)) (iv (myS s)) (iv i) (iv ((j + 1 : Nat) : Int)) z f) := by
  intro n
  induction n with
  | zero =>
    intro fu k hk hf
    obtain ⟨fu, rfl⟩ : ∃ x, fu = x + 1 := ⟨fu - 1, by omega⟩
    obtain rfl : k = 6 := by omega
    rw [g_L_holds_l66, if_pos y6, iv_1]
    exact ⟨fun ⟨k', h1, h2, _⟩ => by omega, fun _ => rfl⟩
  | succ n ih =>
    intro fu k hk hf
    obtain ⟨fu, rfl⟩ : ∃ x, fu = x + 1 := ⟨fu - 1, by omega⟩
    have k6 : k < 6 := by omega
    obtain ⟨g1, g2⟩ := ih fu (k + 1) (by omega) (by omega)
    have sp : (∃ k', k ≤ k' ∧ k' < 6 ∧ sdP s i j k') ↔ sdP s i j k ∨ ∃ k', k + 1 ≤ k' ∧ k' < 6 ∧ sdP s i j k' := by
      constructor
      · rintro ⟨k', h1, h2, h3⟩
        rcases Nat.lt_or_eq_of_le h1 with q | q
        · exact Or.inr ⟨k', q, h2, h3⟩
        · subst q; exact Or.inl h3
      · rintro (h | ⟨k', h1, h2, h3⟩)
        · exact ⟨k, Nat.le_refl _, k6, h⟩
        · exact ⟨k', by omega, h2, h3⟩
    rw [sp, g_L_holds_l66, if_neg (n6 k6)]
    by_cases c : s 7 i ≠ -1 ∧ s 7 j ≠ -1 ∧ s 7 k ≠ -1
    · rw [if_pos ((bit3 hi hj k6).mpr c)]
      obtain ⟨x1, y1⟩ := hF i hi c.1
      obtain ⟨x2, y2⟩ := hF j hj c.2.1
      obtain ⟨x3, y3⟩ := hF k k6 c.2.2
      have mB : mxB (wS s) (mxS s) (myS s) := bd_m hB
      have pb : ∀ {q : Nat}, q < 6 → s 7 q ≠ -1 → pB (pt (s 7 q)) := fun {q} hq h => by
        have := pt_bd ((hB.2.2.2 q hq).resolve_left h)
        unfold pB
        omega
      obtain ⟨t1, d1⟩ := pcb mB (pb hi c.1) (pb hj c.2.1)
      obtain ⟨t2, d2⟩ := pcb mB (pb hj c.2.1) (pb k6 c.2.2)
      obtain ⟨t3, -⟩ := pcb mB (pb k6 c.2.2) (pb hi c.1)
      obtain ⟨-, d3⟩ := pcb mB (pb hi c.1) (pb k6 c.2.2)
      simp only [ix_iv hi (show 6 < 1000 by decide), ix_iv hj (show 6 < 1000 by decide), ix_iv k6 (show 6 < 1000 by decide), Option.bind_some, x1, y1, x2, y2, x3, y3, iv_mul, iv_sub]
      have ea : ∀ {a b : Pt}, (mxS s - wS s * a.1) * (myS s - wS s * b.2) - (myS s - wS s * a.2) * (mxS s - wS s * b.1) = tm (wS s) (mxS s) (myS s) a b := fun {a b} => by unfold tm; grind
      have ed : ∀ {a b : Pt}, (mxS s - wS s * a.1) * (mxS s - wS s * b.1) + (myS s - wS s * a.2) * (myS s - wS s * b.2) = dt (wS s) (mxS s) (myS s) a b := fun {a b} => by unfold dt; grind
      simp only [ea]
      rw [hh_body (by rw [ed]; exact d1) (by rw [ed]; exact d2) (by rw [ed]; exact d3) t1 t2 t3, ed, ed, ed, iv_1]
      have hq : sdP s i j k ↔ tq (tm (wS s) (mxS s) (myS s) (pt (s 7 i)) (pt (s 7 j))) (tm (wS s) (mxS s) (myS s) (pt (s 7 j)) (pt (s 7 k))) (tm (wS s) (mxS s) (myS s) (pt (s 7 k)) (pt (s 7 i))) (dt (wS s) (mxS s) (myS s) (pt (s 7 i)) (pt (s 7 j))) (dt (wS s) (mxS s) (myS s) (pt (s 7 j)) (pt (s 7 k))) (dt (wS s) (mxS s) (myS s) (pt (s 7 i)) (pt (s 7 k))) = true := ⟨fun q => q.2.2.2, fun e => ⟨c.1, c.2.1, c.2.2, e⟩⟩
      by_cases q : sdP s i j k
      · rw [if_pos (hq.mp q)]
        exact ⟨fun _ => rfl, fun h => absurd (Or.inl q) h⟩
      · rw [if_neg (fun e => q (hq.mpr e))]
        exact ⟨fun h => g1 (h.resolve_left q), fun h => g2 (fun e => h (Or.inr e))⟩
    · rw [if_neg (fun e => c ((bit3 hi hj k6).mp e))]
      unfold g_L_holds_b329
      rw [iv_1]
      have q : ¬ sdP s i j k := fun q => c ⟨q.1, q.2.1, q.2.2.1⟩
      exact ⟨fun h => g1 (h.resolve_left q), fun h => g2 (fun e => h (Or.inr e))⟩
theorem la_55 {k44 : Int32 → Int32 → Int32 → Int32 → Int32 → (Nat → Nat → Int32) → (Nat → Nat → Int32) → Option Int32} (hB : BD s) (hF : FX s f) {i : Nat} (hi : i < 6) : ∀ (n fu j : Nat), j + n = 6 → n < fu → ((∃ j' k', j ≤ j' ∧ j' ≤ k' ∧ k' < 6 ∧ sdP s i j' k') → g_L_holds_l55 k44 fu (mk (dnS s)) (iv (wS s)) (iv (mxS s)) (iv (myS s)) (iv i) (iv j) z f = some 1) ∧ ((¬ ∃ j' k', j ≤ j' ∧ j' ≤ k' ∧ k' < 6 ∧ sdP s i j' k') → g_L_holds_l55 k44 fu (mk (dnS s)) (iv (wS s)) (iv (mxS s)) (iv (myS s)) (iv i) (iv j) z f = k44 (mk (dnS s)) (iv (wS s)) (iv (mxS s)) (iv (myS s)) (iv ((i + 1 : Nat) : Int)) z f) := by
  intro n
  induction n with
  | zero =>
    intro fu j hj hf
    obtain ⟨fu, rfl⟩ : ∃ x, fu = x + 1 := ⟨fu - 1, by omega⟩
    obtain rfl : j = 6 := by omega
    rw [g_L_holds_l55, if_pos y6, iv_1]
    exact ⟨fun ⟨j', k', h1, h2, h3, _⟩ => by omega, fun _ => rfl⟩
  | succ n ih =>
    intro fu j hj hf
    obtain ⟨fu, rfl⟩ : ∃ x, fu = x + 1 := ⟨fu - 1, by omega⟩
    have j6 : j < 6 := by omega
    obtain ⟨g1, g2⟩ := ih fu (j + 1) (by omega) (by omega)
    have sp : (∃ j' k', j ≤ j' ∧ j' ≤ k' ∧ k' < 6 ∧ sdP s i j' k') ↔ (∃ k', j ≤ k' ∧ k' < 6 ∧ sdP s i j k') ∨ ∃ j' k', j + 1 ≤ j' ∧ j' ≤ k' ∧ k' < 6 ∧ sdP s i j' k' := by
      constructor
      · rintro ⟨j', k', h1, h2, h3, h4⟩
        rcases Nat.lt_or_eq_of_le h1 with q | q
        · exact Or.inr ⟨j', k', q, h2, h3, h4⟩
        · subst q; exact Or.inl ⟨k', h2, h3, h4⟩
      · rintro (⟨k', h2, h3, h4⟩ | ⟨j', k', h1, h2, h3, h4⟩)
        · exact ⟨j, k', Nat.le_refl _, h2, h3, h4⟩
        · exact ⟨j', k', by omega, h2, h3, h4⟩
    rw [sp, g_L_holds_l55, if_neg (n6 j6)]
    obtain ⟨q1, q2⟩ := la_66 (k44 := k44) (k55 := fun y0 y1 y2 y3 y4 y5 z f => g_L_holds_l55 k44 fu y0 y1 y2 y3 y4 y5 z f) (z := z) hB hF hi j6 (6 - j) FU j (by omega) (by show _ < 2000; omega)
    by_cases q : ∃ k', j ≤ k' ∧ k' < 6 ∧ sdP s i j k'
    · rw [q1 q]
      exact ⟨fun _ => rfl, fun h => absurd (Or.inl q) h⟩
    · rw [q2 q]
      exact ⟨fun h => g1 (h.resolve_left q), fun h => g2 (fun e => h (Or.inr e))⟩
theorem la_44 (hB : BD s) (hF : FX s f) : ∀ (n fu i : Nat), i + n = 6 → n < fu → ((∃ i' j' k', i ≤ i' ∧ i' ≤ j' ∧ j' ≤ k' ∧ k' < 6 ∧ sdP s i' j' k') → g_L_holds_l44 fu (mk (dnS s)) (iv (wS s)) (iv (mxS s)) (iv (myS s)) (iv i) z f = some 1) ∧ ((¬ ∃ i' j' k', i ≤ i' ∧ i' ≤ j' ∧ j' ≤ k' ∧ k' < 6 ∧ sdP s i' j' k') → g_L_holds_l44 fu (mk (dnS s)) (iv (wS s)) (iv (mxS s)) (iv (myS s)) (iv i) z f = some 0) := by
  intro n
  induction n with
  | zero =>
    intro fu i hi hf
    obtain ⟨fu, rfl⟩ : ∃ x, fu = x + 1 := ⟨fu - 1, by omega⟩
    obtain rfl : i = 6 := by omega
    rw [g_L_holds_l44, if_pos y6]
    exact ⟨fun ⟨i', j', k', h1, h2, h3, h4, _⟩ => by omega, fun _ => rfl⟩
  | succ n ih =>
    intro fu i hi hf
    obtain ⟨fu, rfl⟩ : ∃ x, fu = x + 1 := ⟨fu - 1, by omega⟩
    have i6 : i < 6 := by omega
    obtain ⟨g1, g2⟩ := ih fu (i + 1) (by omega) (by omega)
    have sp : (∃ i' j' k', i ≤ i' ∧ i' ≤ j' ∧ j' ≤ k' ∧ k' < 6 ∧ sdP s i' j' k') ↔ (∃ j' k', i ≤ j' ∧ j' ≤ k' ∧ k' < 6 ∧ sdP s i j' k') ∨ ∃ i' j' k', i + 1 ≤ i' ∧ i' ≤ j' ∧ j' ≤ k' ∧ k' < 6 ∧ sdP s i' j' k' := by
      constructor
      · rintro ⟨i', j', k', h1, h2, h3, h4, h5⟩
        rcases Nat.lt_or_eq_of_le h1 with q | q
        · exact Or.inr ⟨i', j', k', q, h2, h3, h4, h5⟩
        · subst q; exact Or.inl ⟨j', k', h2, h3, h4, h5⟩
      · rintro (⟨j', k', h2, h3, h4, h5⟩ | ⟨i', j', k', h1, h2, h3, h4, h5⟩)
        · exact ⟨i, j', k', Nat.le_refl _, h2, h3, h4, h5⟩
        · exact ⟨i', j', k', by omega, h2, h3, h4, h5⟩
    rw [sp, g_L_holds_l44, if_neg (n6 i6)]
    obtain ⟨q1, q2⟩ := la_55 (k44 := fun y0 y1 y2 y3 y4 z f => g_L_holds_l44 fu y0 y1 y2 y3 y4 z f) (z := z) hB hF i6 (6 - i) FU i (by omega) (by show _ < 2000; omega)
    by_cases q : ∃ j' k', i ≤ j' ∧ j' ≤ k' ∧ k' < 6 ∧ sdP s i j' k'
    · rw [q1 q]
      exact ⟨fun _ => rfl, fun h => absurd (Or.inl q) h⟩
    · rw [q2 q]
      exact ⟨fun h => g1 (h.resolve_left q), fun h => g2 (fun e => h (Or.inr e))⟩
/-- the law's balance is the state's -/
theorem la_holds (hB : BD s) (hL : LM s f) (hF : FX s f) : g_L_holds (mk (dnS s)) z f = some (if stB s (-1) then 1 else 0) := by
  unfold g_L_holds
  rw [lm_g hL 4 1, lm_g hL 1 4, lm_g hL 2 5, lm_g hL 5 2, lm_g hL 6 3, show (10 : Int32) = iv 10 from rfl]
  simp only [iv_add, iv_mul]
  obtain ⟨g1, g2⟩ := la_44 (z := z) hB hF 6 FU 0 (by decide) (by decide)
  have e : (∃ i' j' k', 0 ≤ i' ∧ i' ≤ j' ∧ j' ≤ k' ∧ k' < 6 ∧ sdP s i' j' k') ↔ stB s (-1) = true := by
    rw [← sd_iff]
    constructor
    · rintro ⟨i, j, k, -, h⟩; exact ⟨i, j, k, h⟩
    · rintro ⟨i, j, k, h⟩; exact ⟨i, j, k, Nat.zero_le _, h⟩
  by_cases q : stB s (-1) = true
  · rw [if_pos q]
    exact g1 (e.mpr q)
  · rw [if_neg q]
    exact g2 (fun h => q (e.mp h))
end
