/-! the law's small methods -/
section
variable {s : MSt} {z f : Nat → Nat → Int32}
theorem leg_bd (hB : BD s) {k : Nat} (hk : k < 6) : 0 ≤ legV s k ∧ legV s k < 1000 ∧ legV s k % 11 = s 4 k + 5 ∧ legV s k / 11 % 11 = s 5 k + 5 ∧ legV s k / 121 = s 6 k := by
  have b := bd_leg hB hk
  unfold legV
  omega
theorem la_hipX (hB : BD s) (hL : LM s f) {k : Nat} (hk : k < 6) (hl : (k : Int) < s 8 0) : g_L_hipX (iv k) z f = some (iv (hxS s k)) := by
  have b := leg_bd hB hk
  unfold g_L_hipX hxS
  rw [ix_iv hk (by decide), Option.bind_some, hL.2.1 k hk hl, lm_g hL 1 4, show (11 : Int32) = iv 11 from rfl, iv_rem (by omega) (by omega) (by omega) (by omega), b.2.2.1, show (5 : Int32) = iv 5 from rfl, iv_add, iv_sub]
  congr 2
  omega
theorem la_hipY (hB : BD s) (hL : LM s f) {k : Nat} (hk : k < 6) (hl : (k : Int) < s 8 0) : g_L_hipY (iv k) z f = some (iv (hyS s k)) := by
  have b := leg_bd hB hk
  unfold g_L_hipY hyS
  rw [ix_iv hk (by decide), Option.bind_some, hL.2.1 k hk hl, lm_g hL 2 5, show (11 : Int32) = iv 11 from rfl, iv_div (by omega) (by omega) (by omega) (by omega), iv_rem (by omega) (by omega) (by omega) (by omega), b.2.2.2.1, show (5 : Int32) = iv 5 from rfl, iv_add, iv_sub]
  congr 2
  omega
theorem la_in {x y : Int} (hx : IB x) (hy : IB y) : g_L_isIn (iv x) (iv y) z f = some (if (0 ≤ x ∧ x < 20) ∧ 0 ≤ y ∧ y < 20 then 1 else 0) := by
  have e0 : ∀ {a : Int}, IB a → (iv a < (0 : Int32) ↔ a < 0) := fun h => iv_lt (b := 0) h (by decide)
  have e1 : ∀ {a : Int}, IB a → ((20 : Int32) ≤ iv a ↔ 20 ≤ a) := fun h => iv_le (a := 20) (by decide) h
  unfold g_L_isIn
  simp only [e0 hx, e0 hy, e1 hx, e1 hy]
  by_cases c1 : x < 0
  · rw [if_pos c1, if_neg (by omega)]
  rw [if_neg c1]
  by_cases c2 : y < 0
  · rw [if_pos c2, if_neg (by omega)]
  rw [if_neg c2]
  by_cases c3 : 20 ≤ x
  · rw [if_pos c3, if_neg (by omega)]
  rw [if_neg c3]
  by_cases c4 : 20 ≤ y
  · rw [if_pos c4, if_neg (by omega)]
  · rw [if_neg c4, if_pos (by omega)]
def inXY (s : MSt) (k : Nat) (x y : Int) : Bool := decide ((x - hxS s k) * (x - hxS s k) + (y - hyS s k) * (y - hyS s k) ≤ s 6 k * s 6 k)
theorem inXY_p {k : Nat} {p : Int} : inXY s k (pt p).1 (pt p).2 = inR s k p := rfl
theorem hip_bd (hB : BD s) {k : Nat} (hk : k < 6) : (-6 ≤ hxS s k ∧ hxS s k ≤ 25) ∧ -6 ≤ hyS s k ∧ hyS s k ≤ 25 := by
  have b := hB.2.2.1
  have bl := bd_leg hB hk
  unfold hxS hyS
  omega
theorem la_near (hB : BD s) (hL : LM s f) {k : Nat} (hk : k < 6) (hl : (k : Int) < s 8 0) {x y : Int} (hx : -100 ≤ x ∧ x ≤ 100) (hy : -100 ≤ y ∧ y ≤ 100) : g_L_isNear (iv k) (iv x) (iv y) z f = some (if inXY s k x y then 1 else 0) := by
  have b := leg_bd hB hk
  have bl := bd_leg hB hk
  have hb := hip_bd hB hk
  unfold g_L_isNear inXY
  rw [la_hipX hB hL hk hl, Option.bind_some, la_hipY hB hL hk hl, Option.bind_some, ix_iv hk (by decide), Option.bind_some, Option.bind_some, hL.2.1 k hk hl, show (121 : Int32) = iv 121 from rfl, iv_div (by omega) (by omega) (by omega) (by omega), b.2.2.2.2]
  simp only [iv_sub, iv_mul, iv_add]
  have n1 := sqb (a := x - hxS s k) (A := 200) (by omega)
  have n2 := sqb (a := y - hyS s k) (A := 200) (by omega)
  have n3 := sqb (a := s 6 k) (A := 6) (by omega)
  simp only [iv_lt (show IB (s 6 k * s 6 k) by unfold IB; omega) (show IB ((x - hxS s k) * (x - hxS s k) + (y - hyS s k) * (y - hyS s k)) by unfold IB; omega)]
  by_cases c : s 6 k * s 6 k < (x - hxS s k) * (x - hxS s k) + (y - hyS s k) * (y - hyS s k)
  · rw [if_pos c, decide_eq_false (by omega)]; rfl
  · rw [if_neg c, decide_eq_true (by omega)]; rfl
theorem la_nearP (hB : BD s) (hL : LM s f) {k : Nat} (hk : k < 6) (hl : (k : Int) < s 8 0) {p : Int} (hp : nB p) : g_L_isNear (iv k) (iv (pt p).1) (iv (pt p).2) z f = some (if inR s k p then 1 else 0) := by
  have pb := pt_bd hp
  exact la_near hB hL hk hl (by omega) (by omega)
def faXY (s : MSt) (k : Nat) (x y : Int) : Int := ((x - hxS s k).natAbs : Int) + ((y - hyS s k).natAbs : Int)
theorem la_far (hB : BD s) (hL : LM s f) {k : Nat} (hk : k < 6) (hl : (k : Int) < s 8 0) {x y : Int} (hx : -100 ≤ x ∧ x ≤ 100) (hy : -100 ≤ y ∧ y ≤ 100) : g_L_far (iv k) (iv x) (iv y) z f = some (iv (faXY s k x y)) := by
  have hb := hip_bd hB hk
  unfold g_L_far g_L_far_b34 faXY
  rw [la_hipX hB hL hk hl, Option.bind_some, la_hipY hB hL hk hl, Option.bind_some]
  simp only [iv_sub]
  have e0 : ∀ {a : Int}, IB a → ((0 : Int32) ≤ iv a ↔ 0 ≤ a) := fun h => iv_le (a := 0) (by decide) h
  simp only [e0 (show IB (x - hxS s k) by unfold IB; omega), e0 (show IB (y - hyS s k) by unfold IB; omega)]
  by_cases c1 : 0 ≤ x - hxS s k
  · rw [if_pos c1]
    by_cases c2 : 0 ≤ y - hyS s k
    · rw [if_pos c2, iv_add]; congr 2; omega
    · rw [if_neg c2, iv_neg, iv_add]; congr 2; omega
  · rw [if_neg c1]
    by_cases c2 : 0 ≤ y - hyS s k
    · rw [if_pos c2, iv_neg, iv_add]; congr 2; omega
    · rw [if_neg c2, iv_neg, iv_neg, iv_add]; congr 2; omega
theorem la_farP (hB : BD s) (hL : LM s f) {k : Nat} (hk : k < 6) (hl : (k : Int) < s 8 0) {p : Int} (hp : nB p) : g_L_far (iv k) (iv (pt p).1) (iv (pt p).2) z f = some (iv (faS s k p)) := by
  have pb := pt_bd hp
  exact la_far hB hL hk hl (by omega) (by omega)
theorem mo_bit0 {i : Nat} (hi : i < 6) : ((mk (dnS s) >>> (iv i &&& 31)) &&& 1 = (0 : Int32)) ↔ s 7 i = -1 := by
  rw [mk_get i hi]
  unfold dnS
  by_cases c : s 7 i = -1
  · simp [c]
  · simp [c]
theorem la_taken (hB : BD s) (hF : FX s f) {p : Int} (hp : nB p) : g_L_isTaken (mk (dnS s)) (iv (pt p).1) (iv (pt p).2) z f = some (if tkS (s 7) p (-1) then 1 else 0) := by
  have pb := pt_bd hp
  have key : ∀ (n fu i : Nat) (b : Bool), i + n = 6 → n < fu → g_L_isTaken_l6 fu (mk (dnS s)) (iv (pt p).1) (iv (pt p).2) (if b then 1 else 0) (iv i) z f = some (if b || tkN (s 7) p (-1) n i then 1 else 0) := by
    intro n
    induction n with
    | zero =>
      intro fu i b hi hf
      obtain ⟨fu, rfl⟩ : ∃ x, fu = x + 1 := ⟨fu - 1, by omega⟩
      obtain rfl : i = 6 := by omega
      rw [g_L_isTaken_l6, if_pos y6, rtZ_b]
      unfold tkN
      rw [Bool.or_false]
    | succ n ih =>
      intro fu i b hi hf
      obtain ⟨fu, rfl⟩ : ∃ x, fu = x + 1 := ⟨fu - 1, by omega⟩
      have h6 : i < 6 := by omega
      have sT := ih fu (i + 1) true (by omega) (by omega)
      have sF := ih fu (i + 1) false (by omega) (by omega)
      rw [g_L_isTaken_l6, if_neg (n6 h6)]
      unfold g_L_isTaken_b45 g_L_isTaken_b49 g_L_isTaken_b50 tkN
      rw [iv_1]
      cases b with
      | true =>
        rw [if_neg (show ¬ (if true = true then (1 : Int32) else 0) = 0 by decide)]
        refine Eq.trans sT ?_
        simp
      | false =>
        rw [if_pos (show (if false = true then (1 : Int32) else 0) = 0 from rfl)]
        by_cases c : s 7 i = -1
        · rw [if_neg (fun e => (mo_bit h6).mp e c)]
          refine Eq.trans sF ?_
          have : ¬ s 7 i = p := by rw [c]; unfold nB at hp; omega
          simp [this]
        · obtain ⟨f1, f2⟩ := hF i h6 c
          have hn : nB (s 7 i) := (hB.2.2.2 i h6).resolve_left c
          have pi := pt_bd hn
          have e1 : (iv (pt (s 7 i)).1 = iv (pt p).1) ↔ (pt (s 7 i)).1 = (pt p).1 := iv_eq (by unfold IB; omega) (by unfold IB; omega)
          have e2 : (iv (pt (s 7 i)).2 = iv (pt p).2) ↔ (pt (s 7 i)).2 = (pt p).2 := iv_eq (by unfold IB; omega) (by unfold IB; omega)
          rw [if_pos ((mo_bit h6).mpr c), ix_iv h6 (by decide), Option.bind_some, Option.bind_some, f1, f2]
          have hm : (i : Int) ≠ -1 := by omega
          by_cases d1 : (pt (s 7 i)).1 = (pt p).1
          · rw [if_pos (e1.mpr d1)]
            by_cases d2 : (pt (s 7 i)).2 = (pt p).2
            · rw [if_pos (e2.mpr d2)]
              have e : s 7 i = p := pt_inj (Prod.ext d1 d2)
              refine Eq.trans sT ?_
              simp [e, hm]
            · rw [if_neg (fun q => d2 (e2.mp q))]
              have e : ¬ s 7 i = p := fun e => d2 (by rw [e])
              refine Eq.trans sF ?_
              simp [e]
          · rw [if_neg (fun q => d1 (e1.mp q))]
            have e : ¬ s 7 i = p := fun e => d1 (by rw [e])
            refine Eq.trans sF ?_
            simp [e]
  have := key 6 FU 0 false (by decide) (by decide)
  rw [Bool.false_or] at this
  exact this
theorem la_many : g_L_many (mk (dnS s)) z f = some (iv (cnS (s 7) : Nat)) := by
  have key : ∀ (n fu i c : Nat), i + n = 6 → n < fu → g_L_many_l4 fu (mk (dnS s)) (iv c) (iv i) z f = some (iv (cnN (s 7) n i c : Nat)) := by
    intro n
    induction n with
    | zero =>
      intro fu i c hi hf
      obtain ⟨fu, rfl⟩ : ∃ x, fu = x + 1 := ⟨fu - 1, by omega⟩
      obtain rfl : i = 6 := by omega
      rw [g_L_many_l4, if_pos y6]
      rfl
    | succ n ih =>
      intro fu i c hi hf
      obtain ⟨fu, rfl⟩ : ∃ x, fu = x + 1 := ⟨fu - 1, by omega⟩
      rw [g_L_many_l4, if_neg (n6 (by omega)), mk_get i (by omega), iv_1]
      unfold cnN dnS
      by_cases c1 : s 7 i = -1
      · have e : (if decide (s 7 i ≠ -1) = true then (1 : Int32) else 0) = 0 := by simp [c1]
        rw [e, if_pos c1, Int32.add_zero]
        exact ih fu (i + 1) c (by omega) (by omega)
      · have e : (if decide (s 7 i ≠ -1) = true then (1 : Int32) else 0) = 1 := by simp [c1]
        rw [e, if_neg c1, iv_1]
        exact ih fu (i + 1) (c + 1) (by omega) (by omega)
  exact key 6 FU 0 0 (by decide) (by decide)
theorem la_press (hB : BD s) (hL : LM s f) : g_L_pressure (mk (dnS s)) z f = some (iv (psS s)) := by
  have wb := (bd_m hB).2.2
  have cb := cnS_le (ft := s 7)
  unfold g_L_pressure psS prS
  rw [la_many, Option.bind_some, lm_g hL 4 1]
  by_cases c : cnS (s 7) = 0
  · rw [if_pos c, c]; rfl
  · have e : ¬ iv (cnS (s 7) : Nat) = (0 : Int32) := fun e => by have := (z_iv (ibn (by omega))).mp e; omega
    rw [if_neg e, if_neg e, if_neg e, if_neg c, show (10 : Int32) = iv 10 from rfl, show (0 : Int32) = iv 0 from rfl, show (1 : Int32) = iv 1 from rfl, iv_add, show 10 + s 8 1 = wS s from rfl, iv_rem (by omega) (by omega) (by omega) (by omega), iv_div (by omega) (by omega) (by omega) (by omega)]
    generalize (cnS (s 7) : Nat) = n at *
    generalize wS s = w at *
    have hm : 0 ≤ w % (n : Int) ∧ w % (n : Int) < n := ⟨Int.emod_nonneg _ (by omega), Int.emod_lt_of_pos _ (by omega)⟩
    have hd := Int.emod_add_mul_ediv w n
    have el : (iv (w % (n : Int)) ≤ iv 0) ↔ w % (n : Int) ≤ 0 := iv_le (by unfold IB; omega) (by decide)
    by_cases d : w % (n : Int) ≤ 0
    · rw [if_pos (el.mpr d), iv_add]
      congr 2
      rw [Int.add_zero]
      symm
      apply (Int.ediv_eq_iff_of_pos (by omega)).mpr
      constructor <;> grind
    · rw [if_neg (fun e => d (el.mp e)), iv_add]
      congr 2
      symm
      apply (Int.ediv_eq_iff_of_pos (by omega)).mpr
      constructor <;> grind
end
