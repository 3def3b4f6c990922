/-! edges of the feet -/
section
variable {s : MSt} {z f : Nat → Nat → Int32}
def btw (a b c : Pt) : Int := (c.1 - a.1) * (c.1 - b.1) + (c.2 - a.2) * (c.2 - b.2)
abbrev edK (a b c : Pt) : Prop := 0 < tn a b c ∨ (tn a b c = 0 ∧ btw a b c ≤ 0)
def edP (s : MSt) (i j : Nat) : Prop := i ≠ j ∧ (s 7 i ≠ -1 ∧ s 7 j ≠ -1) ∧ ∀ k, k < 6 → s 7 k ≠ -1 → edK (pt (s 7 i)) (pt (s 7 j)) (pt (s 7 k))
theorem pt_b {p : Int} (h : nB p) : (0 ≤ (pt p).1 ∧ (pt p).1 < 20) ∧ 0 ≤ (pt p).2 ∧ (pt p).2 < 20 := by
  have := pt_bd h
  omega
theorem mul_b {a b : Int} (ha : -20 ≤ a ∧ a ≤ 20) (hb : -20 ≤ b ∧ b ≤ 20) : -400 ≤ a * b ∧ a * b ≤ 400 := by
  have := bd_mul (a := a) (b := b) (A := 20) (B := 20) ha hb
  omega
theorem tn_b {a b c : Int} (ha : nB a) (hb : nB b) (hc : nB c) : (-800 ≤ tn (pt a) (pt b) (pt c) ∧ tn (pt a) (pt b) (pt c) ≤ 800) ∧ -800 ≤ btw (pt a) (pt b) (pt c) ∧ btw (pt a) (pt b) (pt c) ≤ 800 := by
  have h1 := pt_b ha
  have h2 := pt_b hb
  have h3 := pt_b hc
  unfold tn btw
  have m1 := mul_b (a := (pt b).1 - (pt a).1) (b := (pt c).2 - (pt a).2) (by omega) (by omega)
  have m2 := mul_b (a := (pt b).2 - (pt a).2) (b := (pt c).1 - (pt a).1) (by omega) (by omega)
  have m3 := mul_b (a := (pt c).1 - (pt a).1) (b := (pt c).1 - (pt b).1) (by omega) (by omega)
  have m4 := mul_b (a := (pt c).2 - (pt a).2) (b := (pt c).2 - (pt b).2) (by omega) (by omega)
  omega
theorem la_30 (hB : BD s) (hF : FX s f) {i j : Nat} (hi : i < 6) (hj : j < 6) (di : s 7 i ≠ -1) (dj : s 7 j ≠ -1) : ∀ (m fu k : Nat) (b : Bool), k + m = 6 → m < fu → ∃ c : Bool, g_L_isEdge_l30 fu (mk (dnS s)) (iv i) (iv j) (if b then 1 else 0) (iv k) z f = some (if c then 1 else 0) ∧ (c = true ↔ b = true ∧ ∀ q, k ≤ q → q < 6 → s 7 q ≠ -1 → edK (pt (s 7 i)) (pt (s 7 j)) (pt (s 7 q))) := by
  have ni := (hB.2.2.2 i hi).resolve_left di
  have nj := (hB.2.2.2 j hj).resolve_left dj
  obtain ⟨xi, yi⟩ := hF i hi di
  obtain ⟨xj, yj⟩ := hF j hj dj
  intro m
  induction m with
  | zero =>
    intro fu k b hk hf
    obtain ⟨fu, rfl⟩ : ∃ x, fu = x + 1 := ⟨fu - 1, by omega⟩
    refine ⟨b, ?_, fun q => ⟨q, fun t h1 h2 => by omega⟩, fun q => q.1⟩
    rw [g_L_isEdge_l30, if_pos (show (6 : Int32) ≤ iv (k : Nat) from (iv_le (a := 6) (by decide) (ibn (by omega))).mpr (by omega)), rtZ_b]
  | succ m ih =>
    intro fu k b hk hf
    obtain ⟨fu, rfl⟩ : ∃ x, fu = x + 1 := ⟨fu - 1, by omega⟩
    have k6 : k < 6 := by omega
    cases b with
    | false =>
      refine ⟨false, ?_, ⟨fun q => absurd q (by decide), fun q => absurd q.1 (by decide)⟩⟩
      rw [g_L_isEdge_l30, if_neg (show ¬ (6 : Int32) ≤ iv (k : Nat) from fun e => by have := (iv_le (a := 6) (by decide) (ibn (by omega))).mp e; omega), if_pos (show (if false = true then (1 : Int32) else 0) = 0 from rfl), rtZ_b]
    | true =>
      obtain ⟨cF, eF, iF⟩ := ih fu (k + 1) false (by omega) (by omega)
      obtain ⟨cT, eT, iT⟩ := ih fu (k + 1) true (by omega) (by omega)
      have nF : ¬ cF = true := fun q => absurd (iF.mp q).1 (by decide)
      have al : (∀ q, k ≤ q → q < 6 → s 7 q ≠ -1 → edK (pt (s 7 i)) (pt (s 7 j)) (pt (s 7 q))) ↔ (s 7 k ≠ -1 → edK (pt (s 7 i)) (pt (s 7 j)) (pt (s 7 k))) ∧ ∀ q, k + 1 ≤ q → q < 6 → s 7 q ≠ -1 → edK (pt (s 7 i)) (pt (s 7 j)) (pt (s 7 q)) := by
        constructor
        · intro h
          exact ⟨h k (Nat.le_refl _) k6, fun q h1 => h q (by omega)⟩
        · rintro ⟨h0, h1⟩ q hq
          rcases Nat.lt_or_eq_of_le hq with w | w
          · exact h1 q w
          · subst w; exact fun _ => h0
      have good : (s 7 k ≠ -1 → edK (pt (s 7 i)) (pt (s 7 j)) (pt (s 7 k))) → ∃ c : Bool, g_L_isEdge_b142 (fun y0 y1 y2 y3 y4 z f => g_L_isEdge_l30 fu y0 y1 y2 y3 y4 z f) (mk (dnS s)) (iv i) (iv j) (iv k) z f = some (if c then 1 else 0) ∧ (c = true ↔ True ∧ ∀ q, k ≤ q → q < 6 → s 7 q ≠ -1 → edK (pt (s 7 i)) (pt (s 7 j)) (pt (s 7 q))) := fun h => by
        refine ⟨cT, ?_, iT.trans ?_⟩
        · unfold g_L_isEdge_b142 g_L_isEdge_b147
          rw [iv_1]
          exact eT
        · rw [al]
          exact ⟨fun w => ⟨trivial, h, w.2⟩, fun w => ⟨rfl, w.2.2⟩⟩
      have bad : ¬ (s 7 k ≠ -1 → edK (pt (s 7 i)) (pt (s 7 j)) (pt (s 7 k))) → ∃ c : Bool, g_L_isEdge_b146 (fun y0 y1 y2 y3 y4 z f => g_L_isEdge_l30 fu y0 y1 y2 y3 y4 z f) (mk (dnS s)) (iv i) (iv j) (iv k) z f = some (if c then 1 else 0) ∧ (c = true ↔ True ∧ ∀ q, k ≤ q → q < 6 → s 7 q ≠ -1 → edK (pt (s 7 i)) (pt (s 7 j)) (pt (s 7 q))) := fun h => by
        refine ⟨cF, ?_, fun w => absurd w nF, fun w => absurd (al.mp w.2).1 h⟩
        unfold g_L_isEdge_b146 g_L_isEdge_b147
        rw [iv_1]
        exact eF
      rw [g_L_isEdge_l30, if_neg (show ¬ (6 : Int32) ≤ iv (k : Nat) from fun e => by have := (iv_le (a := 6) (by decide) (ibn (by omega))).mp e; omega), if_neg (show ¬ (if true = true then (1 : Int32) else 0) = 0 by decide), ix_iv hi (by decide), ix_iv hj (by decide), ix_iv k6 (by decide)]
      simp only [Option.bind_some]
      by_cases d : s 7 k = -1
      · rw [if_pos ((mo_bit0 k6).mpr d)]
        exact good (fun q => absurd d q)
      · rw [if_neg (fun e => d ((mo_bit0 k6).mp e))]
        have nk := (hB.2.2.2 k k6).resolve_left d
        obtain ⟨xk, yk⟩ := hF k k6 d
        obtain ⟨⟨t1, t2⟩, t3, t4⟩ := tn_b ni nj nk
        have e1 : ((f 70 j - f 70 i) * (f 71 k - f 71 i)) - ((f 71 j - f 71 i) * (f 70 k - f 70 i)) = iv (tn (pt (s 7 i)) (pt (s 7 j)) (pt (s 7 k))) := by
          rw [xi, yi, xj, yj, xk, yk, iv_sub, iv_sub, iv_sub, iv_sub, iv_mul, iv_mul, iv_sub]
          rfl
        have e2 : ((f 70 k - f 70 i) * (f 70 k - f 70 j)) + ((f 71 k - f 71 i) * (f 71 k - f 71 j)) = iv (btw (pt (s 7 i)) (pt (s 7 j)) (pt (s 7 k))) := by
          rw [xi, yi, xj, yj, xk, yk, iv_sub, iv_sub, iv_sub, iv_sub, iv_mul, iv_mul, iv_add]
          rfl
        rw [e1, e2]
        have g1 : ((0 : Int32) < iv (tn (pt (s 7 i)) (pt (s 7 j)) (pt (s 7 k)))) ↔ 0 < tn (pt (s 7 i)) (pt (s 7 j)) (pt (s 7 k)) := iv_lt (a := 0) (by decide) (ib_s (by omega))
        have g2 : (iv (tn (pt (s 7 i)) (pt (s 7 j)) (pt (s 7 k))) = (0 : Int32)) ↔ tn (pt (s 7 i)) (pt (s 7 j)) (pt (s 7 k)) = 0 := iv_eq (b := 0) (ib_s (by omega)) (by decide)
        have g3 : ((0 : Int32) < iv (btw (pt (s 7 i)) (pt (s 7 j)) (pt (s 7 k)))) ↔ 0 < btw (pt (s 7 i)) (pt (s 7 j)) (pt (s 7 k)) := iv_lt (a := 0) (by decide) (ib_s (by omega))
        by_cases c1 : 0 < tn (pt (s 7 i)) (pt (s 7 j)) (pt (s 7 k))
        · rw [if_pos (g1.mpr c1)]
          exact good (fun _ => Or.inl c1)
        rw [if_neg (fun e => c1 (g1.mp e))]
        by_cases c2 : tn (pt (s 7 i)) (pt (s 7 j)) (pt (s 7 k)) = 0
        · rw [if_pos (g2.mpr c2)]
          by_cases c3 : 0 < btw (pt (s 7 i)) (pt (s 7 j)) (pt (s 7 k))
          · rw [if_pos (g3.mpr c3)]
            exact bad (fun q => by rcases q d with w | w <;> omega)
          · rw [if_neg (fun e => c3 (g3.mp e))]
            exact good (fun _ => Or.inr ⟨c2, by omega⟩)
        · rw [if_neg (fun e => c2 (g2.mp e))]
          exact bad (fun q => by rcases q d with w | w <;> omega)
theorem la_edge (hB : BD s) (hF : FX s f) {i j : Nat} (hi : i < 6) (hj : j < 6) : ∃ c : Bool, g_L_isEdge (mk (dnS s)) (iv i) (iv j) z f = some (if c then 1 else 0) ∧ (c = true ↔ edP s i j) := by
  have no : ¬ edP s i j → ∃ c : Bool, g_L_isEdge_b24 (mk (dnS s)) (iv i) (iv j) z f = some (if c then 1 else 0) ∧ (c = true ↔ edP s i j) := fun q => by
    refine ⟨false, ?_, ⟨fun w => absurd w (by decide), fun w => absurd w q⟩⟩
    unfold g_L_isEdge_b24 g_L_isEdge_b25
    rw [show FU = 1999 + 1 from rfl, g_L_isEdge_l30, if_neg (show ¬ (6 : Int32) ≤ 0 by decide), if_pos rfl]
    rfl
  unfold g_L_isEdge
  by_cases c : i = j
  · rw [if_pos (by rw [c])]
    exact no (fun q => q.1 c)
  rw [if_neg (fun e => c ((iv_eqn (by omega) (by omega)).mp e))]
  by_cases d : s 7 i ≠ -1 ∧ s 7 j ≠ -1
  · rw [if_pos ((bit2 hi hj).mpr d)]
    unfold g_L_isEdge_b25
    obtain ⟨b, e, ib⟩ := la_30 (z := z) hB hF hi hj d.1 d.2 6 FU 0 true (by decide) (by decide)
    refine ⟨b, e, ib.trans ?_⟩
    unfold edP
    exact ⟨fun w => ⟨c, d, fun k hk hd => w.2 k (Nat.zero_le _) hk hd⟩, fun w => ⟨rfl, fun k _ hk hd => w.2.2 k hk hd⟩⟩
  · rw [if_neg (fun e => d ((bit2 hi hj).mp e))]
    exact no (fun q => d q.2.1)
end
