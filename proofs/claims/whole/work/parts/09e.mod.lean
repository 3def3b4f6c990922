/-- the model's weight and moment -/
def mwOk (w mx my : Int) (z : Nat → Nat → Int32) : Prop := ∃ ld bx by_ lx ly : Int, z 66 8 = iv ld ∧ z 66 5 = iv bx ∧ z 66 6 = iv by_ ∧ z 66 9 = iv lx ∧ z 66 10 = iv ly ∧ w = 10 + ld ∧ mx = w * bx + ld * lx ∧ my = w * by_ + ld * ly
def mxB (w mx my : Int) : Prop := (-2000 ≤ mx ∧ mx ≤ 2000) ∧ (-2000 ≤ my ∧ my ≤ 2000) ∧ 0 < w ∧ w ≤ 30
theorem mw_w {w mx my : Int} {z f : Nat → Nat → Int32} (h : mwOk w mx my z) : g_X11_weight z f = some (iv w) := by
  obtain ⟨ld, bx, by_, lx, ly, e1, e2, e3, e4, e5, rfl, rfl, rfl⟩ := h
  unfold g_X11_weight
  rw [e1, show (10 : Int32) = iv 10 from rfl, iv_add]
theorem mw_x {w mx my : Int} {z f : Nat → Nat → Int32} (h : mwOk w mx my z) : g_X11_momentX z f = some (iv mx) := by
  unfold g_X11_momentX
  rw [mw_w h, Option.bind_some]
  obtain ⟨ld, bx, by_, lx, ly, e1, e2, e3, e4, e5, rfl, rfl, rfl⟩ := h
  rw [e1, e2, e4, iv_mul, iv_mul, iv_add]
theorem mw_y {w mx my : Int} {z f : Nat → Nat → Int32} (h : mwOk w mx my z) : g_X11_momentY z f = some (iv my) := by
  unfold g_X11_momentY
  rw [mw_w h, Option.bind_some]
  obtain ⟨ld, bx, by_, lx, ly, e1, e2, e3, e4, e5, rfl, rfl, rfl⟩ := h
  rw [e1, e3, e5, iv_mul, iv_mul, iv_add]
theorem mwOk_up {w mx my : Int} {z : Nat → Nat → Int32} (h : mwOk w mx my z) {v : Int32} : mwOk w mx my (up2 z 66 28 v) := h
theorem mh_makes {σ : Nat → Bool} {fp : Nat → Pt} {w mx my : Int} {z f : Nat → Nat → Int32} (h : mfOk σ fp f) (hw : mwOk w mx my z) {p : Pt} {m : Nat} (h1 : 1 ≤ m) (h6 : m ≤ 6) (hr : cs (mls σ fp) p m = p) (hz : z 66 28 = iv m) (hc : corK σ fp p m (f 78)) {k : Nat} (hk : k < m) : g_X11_makes (iv k) z f = some (iv (eg w mx my (cs (mls σ fp) p k) (cs (mls σ fp) p (k + 1)))) := by
  obtain ⟨a, ea, ha, fa⟩ := hc k hk
  obtain ⟨b, eb, hb, fb⟩ := hc ((k + 1) % m) (Nat.mod_lt _ (by omega))
  have fb2 : fp b = cs (mls σ fp) p (k + 1) := by
    rw [fb]
    by_cases e : k + 1 = m
    · rw [e, Nat.mod_self, hr]; rfl
    · rw [Nat.mod_eq_of_lt (by omega)]
  have hm0 : ¬ iv (m : Nat) = (0 : Int32) := fun e => by have : (m : Int) = 0 := (iv_eq (b := 0) (ibn (by omega)) (by decide)).mp e; omega
  have hrm : jrem (iv (k : Nat) + 1) (iv (m : Nat)) = iv (((k + 1) % m : Nat) : Int) := by
    rw [iv_1, iv_rem (by omega) (by omega) (by omega) (by omega)]
    rfl
  unfold g_X11_makes
  rw [ix_iv (show k < 7 by omega) (by decide), Option.bind_some, hz, if_neg hm0, hrm, ix_iv (show (k + 1) % m < 7 from Nat.lt_of_lt_of_le (Nat.mod_lt _ (by omega)) (by omega)) (by decide), Option.bind_some, mw_x hw, Option.bind_some, mw_w hw, Option.bind_some, mw_y hw, ea, eb]
  simp only [ix_iv ha.1 (show 6 < 1000 by decide), ix_iv hb.1 (show 6 < 1000 by decide), Option.bind_some]
  obtain ⟨-, a1, a2⟩ := h.1 a ha.1 ha.2
  obtain ⟨-, b1, b2⟩ := h.1 b hb.1 hb.2
  rw [a1, a2, b1, b2, fa, fb2]
  simp only [iv_sub, iv_mul]
  rfl
theorem eg_bdP {a b : Pt} (ha : pB a) (hb : pB b) {mx my w : Int} (hm : mxB w mx my) : -200000 ≤ eg w mx my a b ∧ eg w mx my a b ≤ 200000 := by
  obtain ⟨hx, hy, hw⟩ := hm
  unfold pB at ha hb
  have n1 := bd_mul (a := w) (b := a.2) (A := 30) (B := 19) (by omega) (by omega)
  have n2 := bd_mul (a := w) (b := a.1) (A := 30) (B := 19) (by omega) (by omega)
  have m1 := bd_mul (a := b.1 - a.1) (b := my - w * a.2) (A := 19) (B := 2570) (by omega) (by omega)
  have m2 := bd_mul (a := b.2 - a.2) (b := mx - w * a.1) (A := 19) (B := 2570) (by omega) (by omega)
  unfold eg
  omega
theorem al_bdP {a b : Pt} (ha : pB a) (hb : pB b) {mx my w : Int} (hm : mxB w mx my) : -200000 ≤ alg w mx my a b ∧ alg w mx my a b ≤ 200000 := by
  obtain ⟨hx, hy, hw⟩ := hm
  unfold pB at ha hb
  have n1 := bd_mul (a := w) (b := a.2) (A := 30) (B := 19) (by omega) (by omega)
  have n2 := bd_mul (a := w) (b := a.1) (A := 30) (B := 19) (by omega) (by omega)
  have m1 := bd_mul (a := b.1 - a.1) (b := mx - w * a.1) (A := 19) (B := 2570) (by omega) (by omega)
  have m2 := bd_mul (a := b.2 - a.2) (b := my - w * a.2) (A := 19) (B := 2570) (by omega) (by omega)
  unfold alg
  omega
theorem mls_pB {σ : Nat → Bool} {fp : Nat → Pt} {f : Nat → Nat → Int32} (h : mfOk σ fp f) : ∀ a ∈ mls σ fp, pB a := fun a ha => by
  obtain ⟨k, -, h2, h3, rfl⟩ := (mlN_mem 6 0).mp ha
  exact (h.1 k (by omega) h3).1
/-- the loop over the edges -/
theorem mh_85 {σ : Nat → Bool} {fp : Nat → Pt} {w mx my : Int} {z f : Nat → Nat → Int32} (h : mfOk σ fp f) (hw : mwOk w mx my z) (hB : mxB w mx my) {p : Pt} (hp : exP (mls σ fp) p) {m : Nat} (h2 : 2 ≤ m) (h6 : m ≤ 6) (hr : cs (mls σ fp) p m = p) (hz : z 66 28 = iv m) (hc : corK σ fp p m (f 78)) {a : Nat} (ha : a < 6 ∧ σ a = true) (hfa : fp a = p) : ∀ (k fu i : Nat) (b : Bool), i + k = m → k < fu → ∃ b' : Bool, (b' = true ↔ b = true ∧ ∀ j, i ≤ j → j < m → 0 ≤ eg w mx my (cs (mls σ fp) p j) (cs (mls σ fp) p (j + 1))) ∧ g_X11_holds_l85 fu (iv a) (iv (mx - w * p.1)) (iv (my - w * p.2)) (if b then 1 else 0) (iv i) z f = some (if b' = true ∧ (m = 2 → 0 ≤ alg w mx my p (sc (mls σ fp) p) ∧ alg w mx my p (sc (mls σ fp) p) ≤ sqd p (sc (mls σ fp) p) * w) then 1 else 0, z, f) := by
  intro k
  induction k with
  | zero =>
    intro fu i b hi hf
    obtain ⟨fu, rfl⟩ : ∃ x, fu = x + 1 := ⟨fu - 1, by omega⟩
    refine ⟨b, ⟨fun e => ⟨e, fun j h1 h2 => by omega⟩, fun e => e.1⟩, ?_⟩
    rw [g_X11_holds_l85, hz, if_pos ((iv_le (ibn (by omega)) (ibn (by omega))).mpr (by omega))]
    by_cases c : m = 2
    · subst c
      obtain ⟨q, eq, hq, fq⟩ := hc 1 (by decide)
      have fq2 : fp q = sc (mls σ fp) p := fq
      have eal : ((iv (fp q).1 - iv (fp a).1) * iv (mx - w * p.1)) + ((iv (fp q).2 - iv (fp a).2) * iv (my - w * p.2)) = iv (alg w mx my p (sc (mls σ fp) p)) := by
        rw [fq2, hfa]
        simp only [iv_sub, iv_mul, iv_add]
        rfl
      have ab := al_bdP (mls_pB h p hp.1) (mls_pB h _ (sc_sp hp).1) hB
      have sb := sq_bd (mls_pB h p hp.1) (mls_pB h _ (sc_sp hp).1)
      have wb := hB.2.2
      have swb := bd_mul (a := sqd p (sc (mls σ fp) p)) (b := w) (A := 1000) (B := 30) (by omega) (by omega)
      obtain ⟨-, a1, a2⟩ := h.1 a ha.1 ha.2
      obtain ⟨-, q1, q2⟩ := h.1 q hq.1 hq.2
      rw [if_pos (show iv (2 : Nat) ≤ (2 : Int32) by decide), show ixA 7 1 = some 1 from rfl, Option.bind_some, eq]
      simp only [ix_iv ha.1 (show 6 < 1000 by decide), ix_iv hq.1 (show 6 < 1000 by decide), Option.bind_some]
      rw [a1, a2, q1, q2, eal]
      cases b with
      | false => rw [if_pos (show (if false = true then (1 : Int32) else 0) = 0 from rfl), if_neg (fun e => by cases e.1)]
      | true =>
        rw [if_neg (show ¬ (if true = true then (1 : Int32) else 0) = 0 by decide)]
        by_cases c1 : alg w mx my p (sc (mls σ fp) p) < 0
        · rw [if_pos (show iv _ < (0 : Int32) from (iv_lt (b := 0) (by unfold IB; omega) (by decide)).mpr c1), if_neg (fun e => by have := e.2 (by trivial); omega)]
        · rw [if_neg (show ¬ iv _ < (0 : Int32) from fun e => c1 ((iv_lt (b := 0) (by unfold IB; omega) (by decide)).mp e)), mt_sq h ha hq, Option.bind_some, mw_w hw, Option.bind_some, iv_mul, fq2, hfa]
          by_cases c2 : sqd p (sc (mls σ fp) p) * w < alg w mx my p (sc (mls σ fp) p)
          · rw [if_pos ((iv_lt (by unfold IB; omega) (by unfold IB; omega)).mpr c2), if_neg (fun e => by have := e.2 (by trivial); omega)]
          · rw [if_neg (fun e => c2 ((iv_lt (by unfold IB; omega) (by unfold IB; omega)).mp e)), if_pos ⟨rfl, fun _ => by omega⟩]
    · rw [if_neg (show ¬ iv (m : Nat) ≤ (2 : Int32) from fun e => by have : (m : Int) ≤ 2 := (iv_le (b := 2) (ibn (by omega)) (by decide)).mp e; omega)]
      cases b with
      | false => rw [if_neg (show ¬ ((false : Bool) = true ∧ _) from fun e => by cases e.1)]; rfl
      | true => rw [if_pos (show (true : Bool) = true ∧ (m = 2 → _) from ⟨rfl, fun e => absurd e c⟩)]; rfl
  | succ k ih =>
    intro fu i b hi hf
    obtain ⟨fu, rfl⟩ : ∃ x, fu = x + 1 := ⟨fu - 1, by omega⟩
    rw [g_X11_holds_l85, hz, if_neg (fun e => by have := (iv_le (ibn (by omega)) (ibn (by omega))).mp e; omega)]
    have al : ∀ {P : Nat → Prop}, (∀ j, i ≤ j → j < m → P j) ↔ P i ∧ ∀ j, i + 1 ≤ j → j < m → P j := by
      intro P
      constructor
      · intro h
        exact ⟨h i (Nat.le_refl _) (by omega), fun j h1 h2 => h j (by omega) (by omega)⟩
      · rintro ⟨h0, h⟩ j h1 h2
        rcases Nat.lt_or_eq_of_le h1 with h3 | h3
        · exact h j h3 (by omega)
        · subst h3; exact h0
    cases b with
    | false =>
      obtain ⟨b', g1, g2⟩ := ih fu (i + 1) false (by omega) (by omega)
      refine ⟨b', ⟨fun e => absurd (g1.mp e).1 (by decide), fun e => absurd e.1 (by decide)⟩, ?_⟩
      rw [if_pos (show (if false = true then (1 : Int32) else 0) = 0 from rfl)]
      unfold g_X11_holds_b112 g_X11_holds_b113
      rw [iv_1]
      exact g2
    | true =>
      have eb := eg_bdP (mls_pB h _ (cs_ex hp i).1) (mls_pB h _ (cs_ex hp (i + 1)).1) hB
      rw [if_neg (by decide), mh_makes h hw (by omega) h6 hr hz hc (by omega), Option.bind_some]
      by_cases c : eg w mx my (cs (mls σ fp) p i) (cs (mls σ fp) p (i + 1)) < 0
      · obtain ⟨b', g1, g2⟩ := ih fu (i + 1) false (by omega) (by omega)
        refine ⟨b', ⟨fun e => absurd (g1.mp e).1 (by decide), fun e => absurd (al.mp e.2).1 (by omega)⟩, ?_⟩
        rw [if_pos (show iv _ < (0 : Int32) from (iv_lt (b := 0) (by unfold IB; omega) (by decide)).mpr c)]
        unfold g_X11_holds_b112 g_X11_holds_b113
        rw [iv_1]
        exact g2
      · obtain ⟨b', g1, g2⟩ := ih fu (i + 1) true (by omega) (by omega)
        refine ⟨b', g1.trans ⟨fun e => ⟨rfl, al.mpr ⟨by omega, e.2⟩⟩, fun e => ⟨rfl, (al.mp e.2).2⟩⟩, ?_⟩
        rw [if_neg (show ¬ iv _ < (0 : Int32) from fun e => c ((iv_lt (b := 0) (by unfold IB; omega) (by decide)).mp e))]
        unfold g_X11_holds_b113
        rw [iv_1]
        exact g2
