theorem ch_19 {mx my w : Int} (hx : -2000 ≤ mx ∧ mx ≤ 2000) (hy : -2000 ≤ my ∧ my ≤ 2000) (hw : 0 < w ∧ w ≤ 30) {m : Nat} (hm : m ≤ 6) {c : Nat → Int} (hc : ∀ j, j ≤ m → nB (c j)) {z f : Nat → Nat → Int32} (hz : z 1 2 = iv m) (hf : ∀ j, j ≤ m → f 3 j = iv (c j)) : ∀ (k fu i : Nat) (lx mxx ly mxy : Int), i + k = m → k < fu → IB lx → IB mxx → IB ly → IB mxy → ∃ b, g_X4_holds_l19 fu (iv mx) (iv my) (iv w) (iv lx) (iv mxx) (iv ly) (iv mxy) (iv i) z f = some (if b then 1 else 0) ∧ (b = true ↔ hPr w mx my c k i lx mxx ly mxy) := by
  intro k
  have ibx : IB mx := by unfold IB; omega
  have iby : IB my := by unfold IB; omega
  induction k with
  | zero =>
    intro fu i lx mxx ly mxy hi hf2 b1 b2 b3 b4
    obtain ⟨fu, rfl⟩ : ∃ x, fu = x + 1 := ⟨fu - 1, by omega⟩
    refine ⟨decide ((lx ≤ mx ∧ mx ≤ mxx) ∧ ly ≤ my ∧ my ≤ mxy), ?_, by unfold hPr; exact decide_eq_true_iff⟩
    rw [g_X4_holds_l19, hz, if_pos ((iv_le (ibn (by omega)) (ibn (by omega))).mpr (by omega)), iw_in ibx b1 b2, Option.bind_some]
    by_cases h1 : lx ≤ mx ∧ mx ≤ mxx
    · rw [if_pos h1, if_neg (by decide), iw_in iby b3 b4, Option.bind_some]
      by_cases h2 : ly ≤ my ∧ my ≤ mxy
      · rw [if_pos h2, if_neg (by decide), decide_eq_true ⟨h1, h2⟩]
        rfl
      · rw [if_neg h2, if_pos rfl, decide_eq_false (fun e => h2 e.2)]
        rfl
    · rw [if_neg h1, if_pos rfl, decide_eq_false (fun e => h1 e.1)]
      rfl
  | succ k ih =>
    intro fu i lx mxx ly mxy hi hf2 b1 b2 b3 b4
    obtain ⟨fu, rfl⟩ : ∃ x, fu = x + 1 := ⟨fu - 1, by omega⟩
    have h1 := hc i (by omega)
    have h2 := hc (i + 1) (by omega)
    have bd := eg_bd h1 h2 hx hy hw
    rw [g_X4_holds_l19, hz, if_neg (fun e => by have := (iv_le (ibn (by omega)) (ibn (by omega))).mp e; omega), rdR_iv (by omega) (by decide), iv_1, rdR_iv (by omega) (by decide), hf i (by omega), hf (i + 1) (by omega), eb_eg h1 h2, Option.bind_some]
    have ibe : IB (eg w mx my (pt (c i)) (pt (c (i + 1)))) := by unfold IB; omega
    by_cases he : 0 ≤ eg w mx my (pt (c i)) (pt (c (i + 1)))
    · rw [if_pos (show (0 : Int32) ≤ iv _ from (iv_le (a := 0) (by decide) ibe).mpr he)]
      have pa := pt_bd h1
      have n1 := bd_mul (a := w) (b := (pt (c i)).1) (A := 30) (B := 19) (by omega) (by omega)
      have n2 := bd_mul (a := w) (b := (pt (c i)).2) (A := 30) (B := 19) (by omega) (by omega)
      have i1 : IB (w * (pt (c i)).1) := by unfold IB; omega
      have i2 : IB (w * (pt (c i)).2) := by unfold IB; omega
      rw [iv_x h1, iv_y h1, iv_mul, iv_mul, iv_min b1 i1, iv_max b2 i1, iv_min b3 i2, iv_max b4 i2]
      unfold IB at *
      obtain ⟨b, g1, g2⟩ := ih fu (i + 1) (min lx (w * (pt (c i)).1)) (max mxx (w * (pt (c i)).1)) (min ly (w * (pt (c i)).2)) (max mxy (w * (pt (c i)).2)) (by omega) (by omega) (by omega) (by omega) (by omega) (by omega)
      refine ⟨b, g1, g2.trans ?_⟩
      rw [hPr]
      exact ⟨fun h => ⟨he, h⟩, fun h => h.2⟩
    · rw [if_neg (show ¬ (0 : Int32) ≤ iv _ from fun e => he ((iv_le (a := 0) (by decide) ibe).mp e))]
      refine ⟨false, rfl, ?_⟩
      rw [hPr]
      constructor
      · intro h; cases h
      · intro h; exact absurd h.1 he
/-- what the class's wrap leaves: the corners -/
def corAt (ft : Nat → Int) (but : Int) (m : Nat) (c : Nat → Int) : Prop := (fls ft but = [] ∧ m = 0 ∧ c 0 = 400) ∨ ∃ st, st ∈ fls ft but ∧ stP (flP ft but) (pt st) ∧ 1 ≤ m ∧ m ≤ 6 ∧ cs (flP ft but) (pt st) m = pt st ∧ (∀ i, 0 < i → i < m → cs (flP ft but) (pt st) i ≠ pt st) ∧ c = cN (fls ft but) st
theorem cw_wrap {ft : Nat → Int} {but : Int} (hbut : -1 ≤ but ∧ but < 6) {a1 : Nat} (ha : a1 + 1 ≠ 5) (hft : ftOk ft) {z f : Nat → Nat → Int32} (hF : ∀ j, j < 6 → f (a1 + 1) j = iv (ft j)) : ∃ m c c5 c3, corAt ft but m c ∧ m ≤ 6 ∧ g_X4_wrap a1 (iv but) z f = some (up2 z 1 2 (iv (m : Nat)), upa (upa f 5 c5) 3 c3) ∧ ∀ j, j ≤ m → c3 j = iv (c j) := by
  by_cases h0 : fls ft but = []
  · obtain ⟨c5, c3, e, e2⟩ := cw_wrap0 hbut ha hft hF h0
    exact ⟨0, fun _ => 400, c5, c3, Or.inl ⟨h0, rfl, rfl⟩, by decide, e, fun j hj => by rw [show j = 0 by omega]; exact e2⟩
  · obtain ⟨st, m, q1, q2, q3, q4, q5, q6, c5, c3, e, e2⟩ := cw_wrap1 hbut ha hft hF h0
    exact ⟨m, _, c5, c3, Or.inr ⟨st, q1, q2, q3, q4, q5, q6, rfl⟩, q4, e, e2⟩
def inB (w mx my : Int) (L : List Pt) : Bool := decide (inP w mx my L)
theorem inB_iff {w mx my : Int} {L : List Pt} : inB w mx my L = true ↔ inP w mx my L := by unfold inB; exact decide_eq_true_iff
theorem inP_nil {w mx my : Int} : ¬ inP w mx my [] := by
  rintro (⟨a, h, -⟩ | ⟨a, h, -⟩) <;> cases h
theorem ch_holds {ft : Nat → Int} {but : Int} (hft : ftOk ft) {m : Nat} {c : Nat → Int} (hcor : corAt ft but m c) {mx my w : Int} (hx : -2000 ≤ mx ∧ mx ≤ 2000) (hy : -2000 ≤ my ∧ my ≤ 2000) (hw : 0 < w ∧ w ≤ 30) {z f : Nat → Nat → Int32} (hz : z 1 2 = iv m) (hf : ∀ j, j ≤ m → f 3 j = iv (c j)) : g_X4_holds (iv mx) (iv my) (iv w) z f = some (if inB w mx my (flP ft but) then 1 else 0) := by
  rcases hcor with ⟨h0, rfl, hc0⟩ | ⟨st, hst, hS, h1, h6, hr, hm, rfl⟩
  · have : inB w mx my (flP ft but) = false := by
      rw [← Bool.not_eq_true, inB_iff, flP, h0]
      exact inP_nil
    rw [this]
    show g_X4_holds_l19 2000 (iv mx) (iv my) (iv w) _ _ _ _ _ z f = some 0
    rw [g_X4_holds_l19, hz, if_pos (by decide), show (2147483647 : Int32) = iv 2147483647 from rfl, show (-2147483648 : Int32) = iv (-2147483648) from rfl, iw_in (by unfold IB; omega) (by decide) (by decide), if_neg (by omega)]
    rfl
  · have hB := fls_nB (but := but) hft
    have hc : ∀ j, j ≤ m → nB (cN (fls ft but) st j) := fun j _ => hB _ (cN_mem hst j)
    obtain ⟨b, e, hb⟩ := ch_19 hx hy hw h6 hc hz hf m FU 0 2147483647 (-2147483648) 2147483647 (-2147483648) (by omega) (by show m < 2000; omega) (by decide) (by decide) (by decide) (by decide)
    have key : b = inB w mx my (flP ft but) := by
      rw [Bool.eq_iff_iff, hb, inB_iff, cls_iff hw.1 hS h1 hr hm, hPr_iff]
      have ec : ∀ j, pt (cN (fls ft but) st j) = cs (flP ft but) (pt st) j := cN_pt _ _
      simp only [ec, Nat.zero_add, Nat.zero_le, true_and, true_implies]
      have exx : ∀ {P : Pt → Prop}, (∃ c ∈ corL (flP ft but) (pt st) m, P c) ↔ ∃ j, j < m ∧ P (cs (flP ft but) (pt st) j) := by
        intro P
        constructor
        · rintro ⟨c, hc, hp⟩
          obtain ⟨j, hj, rfl⟩ := List.mem_map.mp hc
          exact ⟨j, List.mem_range.mp hj, hp⟩
        · rintro ⟨j, hj, hp⟩
          exact ⟨_, cor_mem hj, hp⟩
      unfold boxP
      rw [exx, exx, exx, exx]
      have n1 : ¬ (2147483647 : Int) ≤ mx := by omega
      have n2 : ¬ mx ≤ (-2147483648 : Int) := by omega
      have n3 : ¬ (2147483647 : Int) ≤ my := by omega
      have n4 : ¬ my ≤ (-2147483648 : Int) := by omega
      simp only [n1, n2, n3, n4, false_or]
    rw [← key]
    exact e
