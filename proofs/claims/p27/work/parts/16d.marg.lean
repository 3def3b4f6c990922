/-! the margin, from the corners -/
def fE (w a q : Int) : UInt32 := FP.fdiv (FP.l2f ((iv a).toInt64 * (iv a).toInt64)) (FP.l2f (((iv q).toInt64 * (iv w).toInt64) * (iv w).toInt64))
def mgS (x : UInt32) (i : Nat) (y : UInt32) : UInt32 := if i = 0 then x else if 0 ≤ Op.cmpValue (FP.fcmp x y) .g then y else x
def mgN (F : Nat → UInt32) : Nat → Nat → UInt32 → UInt32
  | 0, _, y => y
  | n + 1, i, y => mgN F n (i + 1) (mgS (F i) i y)
theorem mgS_ok {x y : UInt32} {i : Nat} (h : okF x) (h2 : okF y) : okF (mgS x i y) := by
  unfold mgS
  split
  · exact h
  · split
    · exact h2
    · exact h
theorem mg_ok {F : Nat → UInt32} {m : Nat} (h : ∀ i, i < m → okF (F i)) : ∀ (n i : Nat) (y : UInt32), i + n = m → okF y → okF (mgN F n i y)
  | 0, _, _, _, hy => hy
  | n + 1, i, y, e, hy => mg_ok h n (i + 1) _ (by omega) (mgS_ok (h i (by omega)) hy)
theorem mg_cg {F G : Nat → UInt32} {m : Nat} (h : ∀ i, i < m → F i = G i) : ∀ (n i : Nat) (y : UInt32), i + n = m → mgN F n i y = mgN G n i y
  | 0, _, _, _ => rfl
  | n + 1, i, y, e => by
    show mgN F n (i + 1) (mgS (F i) i y) = mgN G n (i + 1) (mgS (G i) i y)
    rw [h i (by omega), mg_cg h n (i + 1) _ (by omega)]
theorem l64_i {a : Int} (h : IB a) : (iv a).toInt64.toInt = a := by rw [Int32.toInt_toInt64, iv_toInt h]
theorem l64_m {a b : Int64} {x y : Int} (ha : a.toInt = x) (hb : b.toInt = y) (h : -1000000000000000 ≤ x * y ∧ x * y ≤ 1000000000000000) : (a * b).toInt = x * y := by
  rw [Int64.toInt_mul, ha, hb]
  apply Int.bmod_eq_of_le <;> omega
theorem fE_d {w q : Int} (hw : 0 < w ∧ w ≤ 30) (hq : 0 < q ∧ q ≤ 1000) : (((iv q).toInt64 * (iv w).toInt64) * (iv w).toInt64).toInt = q * w * w ∧ 0 < q * w * w ∧ q * w * w ≤ 900000 := by
  have p1 : 0 < q * w := Int.mul_pos hq.1 hw.1
  have m1 := bd_mul (a := q) (b := w) (A := 1000) (B := 30) (by omega) (by omega)
  have m2 := bd_mul (a := q * w) (b := w) (A := 30000) (B := 30) (by omega) (by omega)
  exact ⟨l64_m (l64_m (l64_i (by unfold IB; omega)) (l64_i (by unfold IB; omega)) (by omega)) (l64_i (by unfold IB; omega)) (by omega), Int.mul_pos p1 hw.1, by omega⟩
theorem fE_ok {w a q : Int} (ha : -200000 ≤ a ∧ a ≤ 200000) (hw : 0 < w ∧ w ≤ 30) (hq : 0 < q ∧ q ≤ 1000) : okF (fE w a q) := by
  obtain ⟨e, p, b⟩ := fE_d hw hq
  have m1 := bd_mul (a := a) (b := a) (A := 200000) (B := 200000) ha ha
  have s1 := hg_sq0 a
  have e1 : ((iv a).toInt64 * (iv a).toInt64).toInt = a * a := l64_m (l64_i (by unfold IB; omega)) (l64_i (by unfold IB; omega)) (by omega)
  refine fd_ok (n := (a * a).toNat) (m := (q * w * w).toNat) ?_ ?_ ?_ ?_ ?_
  · rw [e1]; omega
  · rw [e]; omega
  · omega
  · omega
  · omega
theorem fE_p {w q : Int} (hw : 0 < w ∧ w ≤ 30) (hq : 0 < q ∧ q ≤ 1000) : 0 < lg_cmp (((iv q).toInt64 * (iv w).toInt64) * (iv w).toInt64) 0 := by
  obtain ⟨e, p, b⟩ := fE_d hw hq
  rw [lg_cmp_gt, Int64.lt_iff_toInt_lt, e]
  exact p
theorem sq_pt {a b : Int} (ha : nB a) (hb : nB b) {z f : Nat → Nat → Int32} : g_X4_squareOfEdge (iv a) (iv b) z f = some (iv (sqd (pt a) (pt b))) := by
  unfold g_X4_squareOfEdge
  simp only [iv_x ha, iv_x hb, iv_y ha, iv_y hb, iv_sub, iv_mul, iv_add]
  rfl
def mgF (w mx my : Int) (P : Nat → Pt) (j : Nat) : UInt32 := fE w (eg w mx my (P j) (P (j + 1))) (sqd (P j) (P (j + 1)))
/-- corners that are apart -/
def aPt (m : Nat) (P : Nat → Pt) : Prop := (∀ j, j ≤ m → pB (P j)) ∧ ∀ j, j < m → 0 < sqd (P j) (P (j + 1))
theorem mgF_ok {w mx my : Int} (hB : mxB w mx my) {m : Nat} {P : Nat → Pt} (h : aPt m P) {j : Nat} (hj : j < m) : okF (mgF w mx my P j) :=
  fE_ok (eg_bdP (h.1 j (by omega)) (h.1 (j + 1) (by omega)) hB) hB.2.2 ⟨h.2 j hj, (sq_bd (h.1 j (by omega)) (h.1 (j + 1) (by omega))).2⟩
theorem cm_6 {w mx my : Int} (hB : mxB w mx my) {m : Nat} {c : Nat → Int} (hm : m ≤ 6) (hc : ∀ j, j ≤ m → nB (c j)) (ha : aPt m fun j => pt (c j)) {z f : Nat → Nat → Int32} (hz : z 1 2 = iv (m : Nat)) (hf : ∀ j, j ≤ m → f 3 j = iv (c j)) : ∀ (n fu i : Nat) (y : UInt32), i + n = m → n < fu → g_X4_leastSquare_l6 fu (iv mx) (iv my) (iv w) y (iv (i : Nat)) z f = some (mgN (mgF w mx my fun j => pt (c j)) n i y) := by
  intro n
  induction n with
  | zero =>
    intro fu i y e hf'
    obtain ⟨fu, rfl⟩ : ∃ u, fu = u + 1 := ⟨fu - 1, by omega⟩
    rw [g_X4_leastSquare_l6, hz, if_pos ((iv_le (ibn (by omega)) (ibn (by omega))).mpr (by omega))]
    rfl
  | succ n ih =>
    intro fu i y e hf'
    obtain ⟨fu, rfl⟩ : ∃ u, fu = u + 1 := ⟨fu - 1, by omega⟩
    have q := sq_bd (ha.1 i (by omega)) (ha.1 (i + 1) (by omega))
    have p := ha.2 i (by omega)
    have ok := mgF_ok hB ha (show i < m by omega)
    rw [g_X4_leastSquare_l6, hz, if_neg (fun e => by have := (iv_le (ibn (by omega)) (ibn (by omega))).mp e; omega), iv_1, rdR_iv (show i < 7 by omega) (by decide), rdR_iv (show i + 1 < 7 by omega) (by decide), hf i (by omega), hf (i + 1) (by omega), eb_eg (hc i (by omega)) (hc (i + 1) (by omega)), Option.bind_some, sq_pt (hc i (by omega)) (hc (i + 1) (by omega)), Option.bind_some, if_pos (fE_p hB.2.2 ⟨p, q.2⟩)]
    show ((jnn (mgF w mx my (fun j => pt (c j)) i)).bind fun x3 => _) = _
    rw [ok_jnn ok, Option.bind_some]
    have nx : ∀ y', g_X4_leastSquare_l6 fu (iv mx) (iv my) (iv w) y' (iv ((i + 1 : Nat) : Int)) z f = some (mgN (mgF w mx my fun j => pt (c j)) n (i + 1) y') := fun y' => ih fu (i + 1) y' (by omega) (by omega)
    unfold g_X4_leastSquare_b89 g_X4_leastSquare_b104 g_X4_leastSquare_b108
    rw [iv_1]; dsimp only; rw [nx, nx]
    show _ = some (mgN _ n (i + 1) (mgS _ i y))
    unfold mgS
    by_cases d : i = 0
    · rw [if_pos (show iv (i : Int) = 0 by rw [d]; rfl), if_pos d]
    · rw [if_neg (show ¬ iv (i : Int) = 0 from fun e => by have := (iv_eq (b := 0) (ibn (by omega)) (by decide)).mp e; omega), if_neg d]
      split <;> rfl
