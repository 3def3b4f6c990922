/-! the model's hull after it says whether it holds -/
theorem mh_holdsK {σ : Nat → Bool} {fp : Nat → Pt} {w mx my : Int} {z f : Nat → Nat → Int32} (h : mfOk σ fp f) (hw : mwOk w mx my z) (hB : mxB w mx my) : ∃ v c, g_X11_holds (mk σ) z f = some (if inB w mx my (mls σ fp) then 1 else 0, up2 z 66 28 v, upa f 78 c) ∧ ((mls σ fp = [] ∧ v = iv (0 : Nat)) ∨ ∃ o m, (o < 6 ∧ σ o = true) ∧ stP (mls σ fp) (fp o) ∧ 1 ≤ m ∧ m ≤ 6 ∧ cs (mls σ fp) (fp o) m = fp o ∧ (∀ i, 0 < i → i < m → cs (mls σ fp) (fp o) i ≠ fp o) ∧ v = iv (m : Nat) ∧ corK σ fp (fp o) m c) := by
  have hw0 := hB.2.2
  unfold g_X11_holds
  rcases mh_hull (z := z) h with ⟨h0, e⟩ | ⟨o, m, c, ho, hS, h1, h6, hr, hm, e, hc⟩
  · rw [e, bn2_some, if_pos (show up2 z 66 28 (iv (0 : Nat)) 66 28 = 0 from up2_same)]
    have e1 : inB w mx my (mls σ fp) = false := by
      rw [← Bool.not_eq_true, inB_iff, h0]
      exact inP_nil
    have e2 : upa f 78 (f 78) = f := by
      funext b
      unfold upa
      by_cases q : b = 78
      · rw [if_pos q, q]
      · rw [if_neg q]
    refine ⟨iv (0 : Nat), f 78, ?_, Or.inl ⟨h0, rfl⟩⟩
    rw [e1, e2]
    rfl
  · have hx := st_ex hS
    have hok : mfOk σ fp (upa f 78 c) := mfOk_up h (upa_ne (by decide)) (upa_ne (by decide))
    have hw2 : mwOk w mx my (up2 z 66 28 (iv (m : Nat))) := mwOk_up hw
    have hz : up2 z 66 28 (iv (m : Nat)) 66 28 = iv (m : Nat) := up2_same
    have hc2 : corK σ fp (fp o) m (upa f 78 c 78) := by rw [upa_same]; exact hc
    refine ⟨iv (m : Nat), c, ?_, Or.inr ⟨o, m, ho, hS, h1, h6, hr, hm, rfl, hc⟩⟩
    rw [e, bn2_some, hz, if_neg (fun e => by have : (m : Int) = 0 := (iv_eq (b := 0) (ibn (by omega)) (by decide)).mp e; omega), show ixA 7 0 = some 0 from rfl, Option.bind_some, mw_x hw2, Option.bind_some, mw_w hw2, Option.bind_some, mw_y hw2]
    obtain ⟨a, ea, ha, fa⟩ := hc2 0 (by omega)
    have fa2 : fp a = fp o := fa
    have hao : a = o := h.2 a o ha.1 ho.1 ha.2 ho.2 fa2
    subst hao
    obtain ⟨-, a1, a2⟩ := hok.1 a ha.1 ha.2
    rw [ea]
    simp only [ix_iv ha.1 (show 6 < 1000 by decide), Option.bind_some]
    rw [a1, a2]
    simp only [iv_mul, iv_sub]
    have pa := mls_pB h _ hx.1
    unfold pB at pa
    have n1 := bd_mul (a := w) (b := (fp a).2) (A := 30) (B := 19) (by omega) (by omega)
    have n2 := bd_mul (a := w) (b := (fp a).1) (A := 30) (B := 19) (by omega) (by omega)
    have hx1 := hB.1
    have hy1 := hB.2.1
    by_cases c1 : m = 1
    · subst c1
      rw [if_pos (show iv (1 : Nat) = (1 : Int32) from rfl)]
      have key := inP_one (w := w) (mx := mx) (my := my) hx hr
      have k1 : iv (mx - w * (fp a).1) = (0 : Int32) ↔ mx - w * (fp a).1 = 0 := iv_eq (b := 0) (by unfold IB; omega) (by decide)
      have k2 : iv (my - w * (fp a).2) = (0 : Int32) ↔ my - w * (fp a).2 = 0 := iv_eq (b := 0) (by unfold IB; omega) (by decide)
      by_cases d1 : mx - w * (fp a).1 = 0
      · rw [if_pos (k1.mpr d1)]
        by_cases d2 : my - w * (fp a).2 = 0
        · rw [if_pos (k2.mpr d2), if_pos (inB_iff.mpr (key.mpr (by omega)))]
        · rw [if_neg (fun e => d2 (k2.mp e)), if_neg (fun e => d2 (by have := key.mp (inB_iff.mp e); omega))]
      · rw [if_neg (fun e => d1 (k1.mp e)), if_neg (fun e => d1 (by have := key.mp (inB_iff.mp e); omega))]
    · rw [if_neg (show ¬ iv (m : Nat) = (1 : Int32) from fun e => by have : (m : Int) = 1 := (iv_eq (b := 1) (ibn (by omega)) (by decide)).mp e; omega)]
      obtain ⟨b', g1, g2⟩ := mh_85 hok hw2 hB hx (by omega) h6 hr hz hc2 ha rfl m FU 0 true (by omega) (by show m < 2000; omega)
      refine Eq.trans g2 ?_
      have key : (b' = true ∧ (m = 2 → 0 ≤ alg w mx my (fp a) (sc (mls σ fp) (fp a)) ∧ alg w mx my (fp a) (sc (mls σ fp) (fp a)) ≤ sqd (fp a) (sc (mls σ fp) (fp a)) * w)) ↔ inB w mx my (mls σ fp) = true := by
        rw [g1, inB_iff]
        by_cases c2 : m = 2
        · subst c2
          have n1 : sc (mls σ fp) (fp a) ≠ fp a := hm 1 (by omega) (by omega)
          rw [two_iff hw0.1 hx hr n1]
          have r2 : cs (mls σ fp) (fp a) (1 + 1) = fp a := hr
          constructor
          · rintro ⟨⟨-, q⟩, q2⟩
            have q1 := q 1 (by omega) (by omega)
            rw [r2] at q1
            exact ⟨⟨q 0 (by omega) (by omega), q1⟩, q2 rfl⟩
          · rintro ⟨⟨q0, q1⟩, q2⟩
            refine ⟨⟨rfl, fun j _ hj => ?_⟩, fun _ => q2⟩
            match j, hj with
            | 0, _ => exact q0
            | 1, _ => rw [r2]; exact q1
        · rw [three_iff hw0.1 hS (by omega) hr hm]
          constructor
          · rintro ⟨⟨-, q⟩, -⟩ i hi
            exact q i (Nat.zero_le _) hi
          · intro q
            exact ⟨⟨rfl, fun j _ hj => q j hj⟩, fun e => absurd e c2⟩
      by_cases kk : inB w mx my (mls σ fp) = true
      · rw [if_pos (key.mpr kk), if_pos kk]
      · rw [if_neg (fun e => kk (key.mp e)), if_neg kk]
/-! the margin, from the corners -/
def fE (w a q : Int) : UInt32 := FP.fdiv (FP.l2f ((iv a).toInt64 * (iv a).toInt64)) (FP.l2f (((iv q).toInt64 * (iv w).toInt64) * (iv w).toInt64))
def mgS (x : UInt32) (i : Nat) (y : UInt32) : UInt32 := if i = 0 then x else if 0 ≤ Op.cmpValue (FP.fcmp x y) .g then y else x
def mgN (F : Nat → UInt32) : Nat → Nat → UInt32 → UInt32
  | 0, _, y => y
  | n + 1, i, y => mgN F n (i + 1) (mgS (F i) i y)
theorem mgS_ok {x y : UInt32} {i : Nat} (h : okF x) (h2 : okF y) : okF (mgS x i y) := by
  unfold mgS
  split
  · exact h
  · split
    · exact h2
    · exact h
theorem mg_ok {F : Nat → UInt32} {m : Nat} (h : ∀ i, i < m → okF (F i)) : ∀ (n i : Nat) (y : UInt32), i + n = m → okF y → okF (mgN F n i y)
  | 0, _, _, _, hy => hy
  | n + 1, i, y, e, hy => mg_ok h n (i + 1) _ (by omega) (mgS_ok (h i (by omega)) hy)
theorem mg_cg {F G : Nat → UInt32} {m : Nat} (h : ∀ i, i < m → F i = G i) : ∀ (n i : Nat) (y : UInt32), i + n = m → mgN F n i y = mgN G n i y
  | 0, _, _, _ => rfl
  | n + 1, i, y, e => by
    show mgN F n (i + 1) (mgS (F i) i y) = mgN G n (i + 1) (mgS (G i) i y)
    rw [h i (by omega), mg_cg h n (i + 1) _ (by omega)]
theorem l64_i {a : Int} (h : IB a) : (iv a).toInt64.toInt = a := by rw [Int32.toInt_toInt64, iv_toInt h]
theorem l64_m {a b : Int64} {x y : Int} (ha : a.toInt = x) (hb : b.toInt = y) (h : -1000000000000000 ≤ x * y ∧ x * y ≤ 1000000000000000) : (a * b).toInt = x * y := by
  rw [Int64.toInt_mul, ha, hb]
  apply Int.bmod_eq_of_le <;> omega
theorem fE_d {w q : Int} (hw : 0 < w ∧ w ≤ 30) (hq : 0 < q ∧ q ≤ 1000) : (((iv q).toInt64 * (iv w).toInt64) * (iv w).toInt64).toInt = q * w * w ∧ 0 < q * w * w ∧ q * w * w ≤ 900000 := by
  have p1 : 0 < q * w := Int.mul_pos hq.1 hw.1
  have m1 := bd_mul (a := q) (b := w) (A := 1000) (B := 30) (by omega) (by omega)
  have m2 := bd_mul (a := q * w) (b := w) (A := 30000) (B := 30) (by omega) (by omega)
  exact ⟨l64_m (l64_m (l64_i (by unfold IB; omega)) (l64_i (by unfold IB; omega)) (by omega)) (l64_i (by unfold IB; omega)) (by omega), Int.mul_pos p1 hw.1, by omega⟩
theorem fE_ok {w a q : Int} (ha : -200000 ≤ a ∧ a ≤ 200000) (hw : 0 < w ∧ w ≤ 30) (hq : 0 < q ∧ q ≤ 1000) : okF (fE w a q) := by
  obtain ⟨e, p, b⟩ := fE_d hw hq
  have m1 := bd_mul (a := a) (b := a) (A := 200000) (B := 200000) ha ha
  have s1 := hg_sq0 a
  have e1 : ((iv a).toInt64 * (iv a).toInt64).toInt = a * a := l64_m (l64_i (by unfold IB; omega)) (l64_i (by unfold IB; omega)) (by omega)
  refine fd_ok (n := (a * a).toNat) (m := (q * w * w).toNat) ?_ ?_ ?_ ?_ ?_
  · rw [e1]; omega
  · rw [e]; omega
  · omega
  · omega
  · omega
theorem fE_p {w q : Int} (hw : 0 < w ∧ w ≤ 30) (hq : 0 < q ∧ q ≤ 1000) : 0 < lg_cmp (((iv q).toInt64 * (iv w).toInt64) * (iv w).toInt64) 0 := by
  obtain ⟨e, p, b⟩ := fE_d hw hq
  rw [lg_cmp_gt, Int64.lt_iff_toInt_lt, e]
  exact p
theorem sq_pt {a b : Int} (ha : nB a) (hb : nB b) {z f : Nat → Nat → Int32} : g_X4_squareOfEdge (iv a) (iv b) z f = some (iv (sqd (pt a) (pt b))) := by
  unfold g_X4_squareOfEdge
  simp only [iv_x ha, iv_x hb, iv_y ha, iv_y hb, iv_sub, iv_mul, iv_add]
  rfl
def mgF (w mx my : Int) (P : Nat → Pt) (j : Nat) : UInt32 := fE w (eg w mx my (P j) (P (j + 1))) (sqd (P j) (P (j + 1)))
/-- corners that are apart -/
def aPt (m : Nat) (P : Nat → Pt) : Prop := (∀ j, j ≤ m → pB (P j)) ∧ ∀ j, j < m → 0 < sqd (P j) (P (j + 1))
theorem mgF_ok {w mx my : Int} (hB : mxB w mx my) {m : Nat} {P : Nat → Pt} (h : aPt m P) {j : Nat} (hj : j < m) : okF (mgF w mx my P j) :=
  fE_ok (eg_bdP (h.1 j (by omega)) (h.1 (j + 1) (by omega)) hB) hB.2.2 ⟨h.2 j hj, (sq_bd (h.1 j (by omega)) (h.1 (j + 1) (by omega))).2⟩
theorem cm_6 {w mx my : Int} (hB : mxB w mx my) {m : Nat} {c : Nat → Int} (hm : m ≤ 6) (hc : ∀ j, j ≤ m → nB (c j)) (ha : aPt m fun j => pt (c j)) {z f : Nat → Nat → Int32} (hz : z 1 2 = iv (m : Nat)) (hf : ∀ j, j ≤ m → f 3 j = iv (c j)) : ∀ (n fu i : Nat) (y : UInt32), i + n = m → n < fu → g_X4_leastSquare_l6 fu (iv mx) (iv my) (iv w) y (iv (i : Nat)) z f = some (mgN (mgF w mx my fun j => pt (c j)) n i y) := by
  intro n
  induction n with
  | zero =>
    intro fu i y e hf'
    obtain ⟨fu, rfl⟩ : ∃ u, fu = u + 1 := ⟨fu - 1, by omega⟩
    rw [g_X4_leastSquare_l6, hz, if_pos ((iv_le (ibn (by omega)) (ibn (by omega))).mpr (by omega))]
    rfl
  | succ n ih =>
    intro fu i y e hf'
    obtain ⟨fu, rfl⟩ : ∃ u, fu = u + 1 := ⟨fu - 1, by omega⟩
    have q := sq_bd (ha.1 i (by omega)) (ha.1 (i + 1) (by omega))
    have p := ha.2 i (by omega)
    have ok := mgF_ok hB ha (show i < m by omega)
    rw [g_X4_leastSquare_l6, hz, if_neg (fun e => by have := (iv_le (ibn (by omega)) (ibn (by omega))).mp e; omega), iv_1, rdR_iv (show i < 7 by omega) (by decide), rdR_iv (show i + 1 < 7 by omega) (by decide), hf i (by omega), hf (i + 1) (by omega), eb_eg (hc i (by omega)) (hc (i + 1) (by omega)), Option.bind_some, sq_pt (hc i (by omega)) (hc (i + 1) (by omega)), Option.bind_some, if_pos (fE_p hB.2.2 ⟨p, q.2⟩)]
    show ((jnn (mgF w mx my (fun j => pt (c j)) i)).bind fun x3 => _) = _
    rw [ok_jnn ok, Option.bind_some]
    have nx : ∀ y', g_X4_leastSquare_l6 fu (iv mx) (iv my) (iv w) y' (iv ((i + 1 : Nat) : Int)) z f = some (mgN (mgF w mx my fun j => pt (c j)) n (i + 1) y') := fun y' => ih fu (i + 1) y' (by omega) (by omega)
    unfold g_X4_leastSquare_b89 g_X4_leastSquare_b104 g_X4_leastSquare_b108
    rw [iv_1]; dsimp only; rw [nx, nx]
    show _ = some (mgN _ n (i + 1) (mgS _ i y))
    unfold mgS
    by_cases d : i = 0
    · rw [if_pos (show iv (i : Int) = 0 by rw [d]; rfl), if_pos d]
    · rw [if_neg (show ¬ iv (i : Int) = 0 from fun e => by have := (iv_eq (b := 0) (ibn (by omega)) (by decide)).mp e; omega), if_neg d]
      split <;> rfl
theorem mm_26 {σ : Nat → Bool} {fp : Nat → Pt} {w mx my : Int} {z f : Nat → Nat → Int32} (h : mfOk σ fp f) (hw : mwOk w mx my z) (hB : mxB w mx my) {p : Pt} {m : Nat} (h3 : 3 ≤ m) (h6 : m ≤ 6) (hr : cs (mls σ fp) p m = p) (hz : z 66 28 = iv m) (hc : corK σ fp p m (f 78)) (ha : aPt m (cs (mls σ fp) p)) : ∀ (n fu i : Nat) (y : UInt32), i + n = m → n < fu → okF y → g_X11_margin_l26 fu y (iv (i : Nat)) z f = some ((mgN (mgF w mx my (cs (mls σ fp) p)) n i y).toInt32, z, f) := by
  intro n
  induction n with
  | zero =>
    intro fu i y e hf' hy
    obtain ⟨fu, rfl⟩ : ∃ u, fu = u + 1 := ⟨fu - 1, by omega⟩
    rw [g_X11_margin_l26, hz, if_pos ((iv_le (ibn (by omega)) (ibn (by omega))).mpr (by omega))]
    unfold g_X11_margin_b121
    rw [ok_fib hy, Option.bind_some]
    rfl
  | succ n ih =>
    intro fu i y e hf' hy
    obtain ⟨fu, rfl⟩ : ∃ u, fu = u + 1 := ⟨fu - 1, by omega⟩
    have ok := mgF_ok hB ha (show i < m by omega)
    have hk : i < m := by omega
    obtain ⟨a, ea, ha', fa⟩ := hc i hk
    obtain ⟨b, eb, hb, fb⟩ := hc ((i + 1) % m) (Nat.mod_lt _ (by omega))
    have fb2 : fp b = cs (mls σ fp) p (i + 1) := by
      rw [fb]
      by_cases e : i + 1 = m
      · rw [e, Nat.mod_self, hr]; rfl
      · rw [Nat.mod_eq_of_lt (by omega)]
    have hm0 : ¬ iv (m : Nat) = (0 : Int32) := fun e => by have : (m : Int) = 0 := (iv_eq (b := 0) (ibn (by omega)) (by decide)).mp e; omega
    have hrm : jrem (iv ((i + 1 : Nat) : Int)) (iv (m : Nat)) = iv (((i + 1) % m : Nat) : Int) := by
      rw [iv_rem (by omega) (by omega) (by omega) (by omega)]
      rfl
    have hm2 : ¬ iv (m : Nat) ≤ (2 : Int32) := fun e => by have : (m : Int) ≤ 2 := (iv_le (b := 2) (ibn (by omega)) (by decide)).mp e; omega
    rw [g_X11_margin_l26, hz, if_neg (fun e => by have := (iv_le (ibn (by omega)) (ibn (by omega))).mp e; omega), if_neg hm2, mh_makes h hw (by omega) h6 hr hz hc hk, Option.bind_some, ix_iv (show i < 7 by omega) (by decide), Option.bind_some, if_neg hm0, iv_1, hrm, ix_iv (show (i + 1) % m < 7 from Nat.lt_of_lt_of_le (Nat.mod_lt _ (by omega)) (by omega)) (by decide), Option.bind_some, ea, eb, mt_sq h ha' hb, Option.bind_some, mw_w hw, Option.bind_some, Option.bind_some, fa, fb2]
    show ((jnn (mgF w mx my (cs (mls σ fp) p) i)).bind fun x7 => _) = _
    rw [ok_jnn ok, Option.bind_some]
    have nx : ∀ y', okF y' → g_X11_margin_l26 fu y' (iv ((i + 1 : Nat) : Int)) z f = some ((mgN (mgF w mx my (cs (mls σ fp) p)) n (i + 1) y').toInt32, z, f) := fun y' hy' => ih fu (i + 1) y' (by omega) (by omega) hy'
    unfold g_X11_margin_b108 g_X11_margin_b114
    rw [iv_1]; dsimp only; rw [nx _ ok, nx _ hy]
    show _ = some ((mgN _ n (i + 1) (mgS _ i y)).toInt32, z, f)
    unfold mgS
    by_cases d : i = 0
    · rw [if_pos (show iv (i : Int) = 0 by rw [d]; rfl), if_pos d]
    · rw [if_neg (show ¬ iv (i : Int) = 0 from fun e => by have := (iv_eq (b := 0) (ibn (by omega)) (by decide)).mp e; omega), if_neg d]
      split <;> rfl
