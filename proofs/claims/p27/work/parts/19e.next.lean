/-! from a corner to the next -/
section
variable {s : MSt} {z f : Nat → Nat → Int32}
theorem la_eb (hB : BD s) (hL : LM s f) (hF : FX s f) {a k : Nat} (ha : a < 6) (da : s 7 a ≠ -1) (hk : k < 6) (dk : s 7 k ≠ -1) (hq : 0 < sqd (pt (s 7 a)) (pt (s 7 k))) : g_L_bits ((((Int32.toInt64 ((f 70 k) - (f 70 a))) * (Int32.toInt64 ((((10 + (f 74 4)) * (f 74 2)) + ((f 74 4) * (f 74 6))) - ((10 + (f 74 4)) * (f 71 a))))) - ((Int32.toInt64 ((f 71 k) - (f 71 a))) * (Int32.toInt64 ((((10 + (f 74 4)) * (f 74 1)) + ((f 74 4) * (f 74 5))) - ((10 + (f 74 4)) * (f 70 a)))))) * (((Int32.toInt64 ((f 70 k) - (f 70 a))) * (Int32.toInt64 ((((10 + (f 74 4)) * (f 74 2)) + ((f 74 4) * (f 74 6))) - ((10 + (f 74 4)) * (f 71 a))))) - ((Int32.toInt64 ((f 71 k) - (f 71 a))) * (Int32.toInt64 ((((10 + (f 74 4)) * (f 74 1)) + ((f 74 4) * (f 74 5))) - ((10 + (f 74 4)) * (f 70 a))))))) (((Int32.toInt64 ((((f 70 k) - (f 70 a)) * ((f 70 k) - (f 70 a))) + (((f 71 k) - (f 71 a)) * ((f 71 k) - (f 71 a))))) * (Int32.toInt64 (10 + (f 74 4)))) * (Int32.toInt64 (10 + (f 74 4)))) z f = some (fE (wS s) (eg (wS s) (mxS s) (myS s) (pt (s 7 a)) (pt (s 7 k))) (sqd (pt (s 7 a)) (pt (s 7 k)))).toInt32 := by
  have na := (hB.2.2.2 a ha).resolve_left da
  have nk := (hB.2.2.2 k hk).resolve_left dk
  obtain ⟨xa, ya⟩ := hF a ha da
  obtain ⟨xk, yk⟩ := hF k hk dk
  have bm := bd_m hB
  have pa := pt_b na
  have pk := pt_b nk
  have be := eg_bd na nk bm.1 bm.2.1 bm.2.2
  have n1 := bd_mul (a := wS s) (b := (pt (s 7 a)).1) (A := 30) (B := 20) (by omega) (by omega)
  have n2 := bd_mul (a := wS s) (b := (pt (s 7 a)).2) (A := 30) (B := 20) (by omega) (by omega)
  have q1 := mul_b (a := (pt (s 7 k)).1 - (pt (s 7 a)).1) (b := (pt (s 7 k)).1 - (pt (s 7 a)).1) (by omega) (by omega)
  have q2 := mul_b (a := (pt (s 7 k)).2 - (pt (s 7 a)).2) (b := (pt (s 7 k)).2 - (pt (s 7 a)).2) (by omega) (by omega)
  have bq : sqd (pt (s 7 a)) (pt (s 7 k)) ≤ 800 := by unfold sqd; omega
  have eW : (10 : Int32) + f 74 4 = iv (wS s) := by rw [lm_g hL 4 1, show (10 : Int32) = iv 10 from rfl, iv_add]; rfl
  have eY : ((10 + f 74 4) * f 74 2 + f 74 4 * f 74 6) - (10 + f 74 4) * f 71 a = iv (myS s - wS s * (pt (s 7 a)).2) := by
    rw [eW, lm_g hL 2 5, lm_g hL 4 1, lm_g hL 6 3, ya, iv_mul, iv_mul, iv_add, iv_mul, iv_sub]
    rfl
  have eX : ((10 + f 74 4) * f 74 1 + f 74 4 * f 74 5) - (10 + f 74 4) * f 70 a = iv (mxS s - wS s * (pt (s 7 a)).1) := by
    rw [eW, lm_g hL 1 4, lm_g hL 4 1, lm_g hL 5 2, xa, iv_mul, iv_mul, iv_add, iv_mul, iv_sub]
    rfl
  have eQ : (f 70 k - f 70 a) * (f 70 k - f 70 a) + (f 71 k - f 71 a) * (f 71 k - f 71 a) = iv (sqd (pt (s 7 a)) (pt (s 7 k))) := by
    rw [xa, xk, ya, yk, iv_sub, iv_sub, iv_mul, iv_mul, iv_add]
    rfl
  have m1 := bd_mul (a := (pt (s 7 k)).1 - (pt (s 7 a)).1) (b := myS s - wS s * (pt (s 7 a)).2) (A := 20) (B := 3000) (by omega) (by omega)
  have m2 := bd_mul (a := (pt (s 7 k)).2 - (pt (s 7 a)).2) (b := mxS s - wS s * (pt (s 7 a)).1) (A := 20) (B := 3000) (by omega) (by omega)
  have eM : (Int32.toInt64 (f 70 k - f 70 a)) * (Int32.toInt64 (((10 + f 74 4) * f 74 2 + f 74 4 * f 74 6) - (10 + f 74 4) * f 71 a)) - (Int32.toInt64 (f 71 k - f 71 a)) * (Int32.toInt64 (((10 + f 74 4) * f 74 1 + f 74 4 * f 74 5) - (10 + f 74 4) * f 70 a)) = (iv (eg (wS s) (mxS s) (myS s) (pt (s 7 a)) (pt (s 7 k)))).toInt64 := by
    rw [eY, eX, xk, xa, yk, ya, iv_sub, iv_sub]
    apply Int64.toInt_inj.mp
    have l1 := mu_l (l64_i (a := (pt (s 7 k)).1 - (pt (s 7 a)).1) (ib_s (by omega))) (l64_i (a := myS s - wS s * (pt (s 7 a)).2) (ib_s (by omega))) (by omega)
    have l2 := mu_l (l64_i (a := (pt (s 7 k)).2 - (pt (s 7 a)).2) (ib_s (by omega))) (l64_i (a := mxS s - wS s * (pt (s 7 a)).1) (ib_s (by omega))) (by omega)
    rw [l64_i (a := eg (wS s) (mxS s) (myS s) (pt (s 7 a)) (pt (s 7 k))) (by unfold IB; omega)]
    exact sb_l l1 l2 (by omega)
  rw [eM, eQ, eW]
  unfold fE
  obtain ⟨e, p, b⟩ := fE_d (w := wS s) (q := sqd (pt (s 7 a)) (pt (s 7 k))) bm.2.2 ⟨hq, by omega⟩
  have mm := bd_mul (a := eg (wS s) (mxS s) (myS s) (pt (s 7 a)) (pt (s 7 k))) (b := eg (wS s) (mxS s) (myS s) (pt (s 7 a)) (pt (s 7 k))) (A := 200000) (B := 200000) be be
  have s1 := hg_sq0 (eg (wS s) (mxS s) (myS s) (pt (s 7 a)) (pt (s 7 k)))
  have e1 : ((iv (eg (wS s) (mxS s) (myS s) (pt (s 7 a)) (pt (s 7 k)))).toInt64 * (iv (eg (wS s) (mxS s) (myS s) (pt (s 7 a)) (pt (s 7 k)))).toInt64).toInt = eg (wS s) (mxS s) (myS s) (pt (s 7 a)) (pt (s 7 k)) * eg (wS s) (mxS s) (myS s) (pt (s 7 a)) (pt (s 7 k)) := l64_m (l64_i (by unfold IB; omega)) (l64_i (by unfold IB; omega)) (by omega)
  generalize eg (wS s) (mxS s) (myS s) (pt (s 7 a)) (pt (s 7 k)) * eg (wS s) (mxS s) (myS s) (pt (s 7 a)) (pt (s 7 k)) = N at e1 s1 mm
  generalize sqd (pt (s 7 a)) (pt (s 7 k)) * wS s * wS s = D at e p b
  exact la_bits (n := N.toNat) (d := D.toNat) (by rw [e1]; omega) (by rw [e]; omega) (by omega) (by omega) (by omega)
def nxOK (s : MSt) (a k : Nat) (nx : Int) : Prop := (nx = -1 ∧ ∀ j, j < k → ¬ edP s a j) ∨ ∃ t : Nat, nx = t ∧ t < k ∧ edP s a t
theorem l867_6 {k806 : Int32 → Int32 → Int32 → Int32 → Int32 → Int32 → Int32 → Int32 → Int32 → Int32 → (Nat → Nat → Int32) → (Nat → Nat → Int32) → Option (Int32 × (Nat → Nat → Int32) × (Nat → Nat → Int32))} {fu : Nat} {i9 i10 i11 i12 i13 i14 i15 i16 i17 i18 i19 : Int32} : g_L_isSo_l867 k806 (fu + 1) i9 i10 i11 i12 i13 i14 i15 i16 i17 i18 i19 6 z f = g_L_isSo_l867 k806 1 i9 i10 i11 i12 i13 i14 i15 i16 i17 i18 i19 6 z f := by
  rw [g_L_isSo_l867, g_L_isSo_l867, if_pos (show (6 : Int32) ≤ 6 by decide), if_pos (show (6 : Int32) ≤ 6 by decide)]
theorem so_l867 (hB : BD s) (hF : FX s f) {a : Nat} (ha : a < 6) {k806 : Int32 → Int32 → Int32 → Int32 → Int32 → Int32 → Int32 → Int32 → Int32 → Int32 → (Nat → Nat → Int32) → (Nat → Nat → Int32) → Option (Int32 × (Nat → Nat → Int32) × (Nat → Nat → Int32))} {i9 i10 i12 i13 i15 i16 i17 i18 : Int32} : ∀ (m fu k : Nat) (nx : Int), k + m = 6 → m < fu → nxOK s a k nx → ∃ nx', nxOK s a 6 nx' ∧ g_L_isSo_l867 k806 fu i9 i10 (mk (dnS s)) i12 i13 (iv a) i15 i16 i17 i18 (iv nx) (iv k) z f = g_L_isSo_l867 k806 1 i9 i10 (mk (dnS s)) i12 i13 (iv a) i15 i16 i17 i18 (iv nx') 6 z f := by
  intro m
  induction m with
  | zero =>
    intro fu k nx hk hf h
    obtain ⟨fu, rfl⟩ : ∃ x, fu = x + 1 := ⟨fu - 1, by omega⟩
    have : k = 6 := by omega
    subst this
    exact ⟨nx, h, l867_6⟩
  | succ m ih =>
    intro fu k nx hk hf h
    obtain ⟨fu, rfl⟩ : ∃ x, fu = x + 1 := ⟨fu - 1, by omega⟩
    have k6 : k < 6 := by omega
    obtain ⟨b, e, ib⟩ := la_edge (z := z) hB hF ha k6
    rw [g_L_isSo_l867, if_neg (show ¬ (6 : Int32) ≤ iv (k : Nat) from fun e => by have := (iv_le (a := 6) (by decide) (ibn (by omega))).mp e; omega), e, Option.bind_some]
    unfold g_L_isSo_b897
    rw [iv_1]
    cases b with
    | false =>
      rw [if_pos (show (if false = true then (1 : Int32) else 0) = 0 from rfl)]
      refine ih fu (k + 1) nx (by omega) (by omega) ?_
      rcases h with ⟨h1, h2⟩ | ⟨t, h1, h2, h3⟩
      · refine Or.inl ⟨h1, fun j hj => ?_⟩
        rcases Nat.lt_or_eq_of_le (Nat.le_of_lt_succ hj) with q | q
        · exact h2 j q
        · subst q; exact fun w => absurd (ib.mpr w) (by decide)
      · exact Or.inr ⟨t, h1, by omega, h3⟩
    | true =>
      rw [if_neg (show ¬ (if true = true then (1 : Int32) else 0) = 0 by decide)]
      exact ih fu (k + 1) (k : Int) (by omega) (by omega) (Or.inr ⟨k, rfl, by omega, ib.mp rfl⟩)
theorem l867_n {k806 : Int32 → Int32 → Int32 → Int32 → Int32 → Int32 → Int32 → Int32 → Int32 → Int32 → (Nat → Nat → Int32) → (Nat → Nat → Int32) → Option (Int32 × (Nat → Nat → Int32) × (Nat → Nat → Int32))} {i9 i10 i11 i12 i13 i14 i15 i16 i17 i18 : Int32} : g_L_isSo_l867 k806 1 i9 i10 i11 i12 i13 i14 i15 i16 i17 i18 (iv (-1)) 6 z f = k806 i9 i10 i11 i12 i13 (iv (-1)) i15 i16 i17 i18 z f := by
  rw [g_L_isSo_l867, if_pos (show (6 : Int32) ≤ 6 by decide), if_pos (show iv (-1) < (0 : Int32) by decide)]
  rfl
theorem l867_s (hB : BD s) (hL : LM s f) (hF : FX s f) {a k : Nat} (ha : a < 6) (hk : k < 6) (hed : edP s a k) (hne : 0 < sqd (pt (s 7 a)) (pt (s 7 k))) {k806 : Int32 → Int32 → Int32 → Int32 → Int32 → Int32 → Int32 → Int32 → Int32 → Int32 → (Nat → Nat → Int32) → (Nat → Nat → Int32) → Option (Int32 × (Nat → Nat → Int32) × (Nat → Nat → Int32))} {i9 i10 i12 i13 i15 : Int32} {i : Nat} (hi : i < 100) {y : UInt32} (hy : okF y) {w : Bool} : ∃ w' : Bool, (w' = true ↔ w = true ∨ ¬ edP s k a) ∧ g_L_isSo_l867 k806 1 i9 i10 (mk (dnS s)) i12 i13 (iv a) i15 (iv ((i + 1 : Nat) : Int)) y.toInt32 (if w then 1 else 0) (iv k) 6 z f = k806 i9 i10 (mk (dnS s)) i12 i13 (iv k) i15 (iv ((i + 1 : Nat) : Int)) (mgS (fE (wS s) (eg (wS s) (mxS s) (myS s) (pt (s 7 a)) (pt (s 7 k))) (sqd (pt (s 7 a)) (pt (s 7 k)))) i y).toInt32 (if w' then 1 else 0) z f := by
  have da := hed.2.1.1
  have dk := hed.2.1.2
  have na := (hB.2.2.2 a ha).resolve_left da
  have nk := (hB.2.2.2 k hk).resolve_left dk
  have bm := bd_m hB
  have pa := pt_b na
  have pk := pt_b nk
  have q1 := mul_b (a := (pt (s 7 k)).1 - (pt (s 7 a)).1) (b := (pt (s 7 k)).1 - (pt (s 7 a)).1) (by omega) (by omega)
  have q2 := mul_b (a := (pt (s 7 k)).2 - (pt (s 7 a)).2) (b := (pt (s 7 k)).2 - (pt (s 7 a)).2) (by omega) (by omega)
  have bq : sqd (pt (s 7 a)) (pt (s 7 k)) ≤ 800 := by unfold sqd; omega
  have okx := fE_ok (eg_bd na nk bm.1 bm.2.1 bm.2.2) bm.2.2 (q := sqd (pt (s 7 a)) (pt (s 7 k))) ⟨hne, by omega⟩
  obtain ⟨b, eb, ib⟩ := la_edge (z := z) hB hF hk ha
  have fin : ∀ {Y : Int32}, ∃ w' : Bool, (w' = true ↔ w = true ∨ ¬ edP s k a) ∧ g_L_isSo_b1101 k806 i9 i10 (mk (dnS s)) i12 i13 (iv a) i15 (iv ((i + 1 : Nat) : Int)) (if w then 1 else 0) (iv k) Y z f = k806 i9 i10 (mk (dnS s)) i12 i13 (iv k) i15 (iv ((i + 1 : Nat) : Int)) Y (if w' then 1 else 0) z f := fun {Y} => by
    unfold g_L_isSo_b1101 g_L_isSo_b1124 g_L_isSo_b1129 g_L_isSo_b1131
    cases w with
    | true =>
      rw [if_neg (show ¬ (if true = true then (1 : Int32) else 0) = 0 by decide)]
      exact ⟨true, ⟨fun _ => Or.inl rfl, fun _ => rfl⟩, rfl⟩
    | false =>
      rw [if_pos (show (if false = true then (1 : Int32) else 0) = 0 from rfl), eb, Option.bind_some]
      cases b with
      | true =>
        rw [if_neg (show ¬ (if true = true then (1 : Int32) else 0) = 0 by decide)]
        exact ⟨false, ⟨fun q => absurd q (by decide), fun q => by rcases q with q | q; exact absurd q (by decide); exact absurd (ib.mp rfl) q⟩, rfl⟩
      | false =>
        rw [if_pos (show (if false = true then (1 : Int32) else 0) = 0 from rfl)]
        exact ⟨true, ⟨fun _ => Or.inr (fun q => absurd (ib.mpr q) (by decide)), fun _ => rfl⟩, rfl⟩
  rw [g_L_isSo_l867, if_pos (show (6 : Int32) ≤ 6 by decide), if_neg (show ¬ iv (k : Nat) < (0 : Int32) from fun e => by have := (iv_lt (b := 0) (ibn (by omega)) (by decide)).mp e; omega), ix_iv ha (by decide), ix_iv hk (by decide)]
  simp only [Option.bind_some]
  rw [la_eb hB hL hF ha da hk dk hne, Option.bind_some]
  have e1 : (iv ((i + 1 : Nat) : Int) = (1 : Int32)) ↔ i = 0 := by
    refine (iv_eq (b := 1) (ibn (by omega)) (by decide)).trans ?_
    omega
  unfold g_L_isSo_b1094 mgS
  by_cases c : i = 0
  · rw [if_pos (e1.mpr c), if_pos c]
    exact fin
  · rw [if_neg (fun e => c (e1.mp e)), if_neg c]
    by_cases d : 0 ≤ Op.cmpValue (FP.fcmp (fE (wS s) (eg (wS s) (mxS s) (myS s) (pt (s 7 a)) (pt (s 7 k))) (sqd (pt (s 7 a)) (pt (s 7 k)))) y) .g
    · rw [if_pos ((fc_bits okx hy).mp d), if_pos d]
      exact fin
    · rw [if_neg (fun e => d ((fc_bits okx hy).mpr e)), if_neg d]
      exact fin
end
