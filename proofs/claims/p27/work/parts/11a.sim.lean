/-! the class's small loops over the legs -/
theorem n6 {i : Nat} (h : i < 6) : ¬ (6 : Int32) ≤ iv i := fun e => by
  have : (6 : Int) ≤ i := (iv_le (a := 6) (by decide) (ibn (by omega))).mp e
  omega
theorem y6 : (6 : Int32) ≤ iv ((6 : Nat) : Int) := by decide
theorem ftIB {ft : Nat → Int} (h : ftOk ft) {k : Nat} (hk : k < 6) : IB (ft k) := by
  have := h k hk
  unfold nB at this
  omega
theorem m1_iv {a : Int} (h : IB a) : iv a = (-1 : Int32) ↔ a = -1 := by
  show iv a = iv (-1) ↔ _
  exact iv_eq h (by decide)
/-- whether a foot is there, of the legs from one on -/
def tkN (ft : Nat → Int) (p but : Int) : Nat → Nat → Bool
  | 0, _ => false
  | n + 1, i => (decide ((i : Int) ≠ but) && decide (ft i = p)) || tkN ft p but n (i + 1)
abbrev tkS (ft : Nat → Int) (p but : Int) : Bool := tkN ft p but 6 0
theorem tkN_iff {ft : Nat → Int} {p but : Int} : ∀ n i, tkN ft p but n i = true ↔ ∃ k, i ≤ k ∧ k < i + n ∧ (k : Int) ≠ but ∧ ft k = p
  | 0, i => by
    constructor
    · intro h; cases h
    · rintro ⟨k, h1, h2, -⟩; omega
  | n + 1, i => by
    unfold tkN
    rw [Bool.or_eq_true, Bool.and_eq_true, decide_eq_true_iff, decide_eq_true_iff, tkN_iff n (i + 1)]
    constructor
    · rintro (⟨h1, h2⟩ | ⟨k, h1, h2, h3⟩)
      · exact ⟨i, Nat.le_refl _, by omega, h1, h2⟩
      · exact ⟨k, by omega, by omega, h3⟩
    · rintro ⟨k, h1, h2, h3, h4⟩
      rcases Nat.lt_or_eq_of_le h1 with q | q
      · exact Or.inr ⟨k, q, by omega, h3, h4⟩
      · subst q; exact Or.inl ⟨h3, h4⟩
theorem ct_taken {ft : Nat → Int} (hft : ftOk ft) {p but : Int} (hp : IB p) (hb : IB but) {a0 : Nat} {z f : Nat → Nat → Int32} (hF : ∀ k, k < 6 → f (a0 + 1 + 1) k = iv (ft k)) : ∀ (n fu i : Nat), i + n = 6 → n < fu → g_X9_isTaken_l2 fu a0 (iv p) (iv but) (iv i) z f = some (if tkN ft p but n i then 1 else 0) := by
  intro n
  induction n with
  | zero =>
    intro fu i hi hf
    obtain ⟨fu, rfl⟩ : ∃ x, fu = x + 1 := ⟨fu - 1, by omega⟩
    obtain rfl : i = 6 := by omega
    rw [g_X9_isTaken_l2, if_pos y6]
    rfl
  | succ n ih =>
    intro fu i hi hf
    obtain ⟨fu, rfl⟩ : ∃ x, fu = x + 1 := ⟨fu - 1, by omega⟩
    have step := ih fu (i + 1) (by omega) (by omega)
    rw [g_X9_isTaken_l2, if_neg (n6 (by omega)), rdR_iv (by omega) (by decide), hF i (by omega)]
    unfold g_X9_isTaken_b27 tkN
    rw [iv_1]
    by_cases c1 : (i : Int) = but
    · rw [if_pos (by rw [c1])]
      refine step.trans ?_
      simp [c1]
    · rw [if_neg (fun e => c1 ((iv_eq (ibn (by omega)) hb).mp e))]
      by_cases c2 : ft i = p
      · rw [if_pos (by rw [c2])]
        simp [c1, c2]
      · rw [if_neg (fun e => c2 ((iv_eq (ftIB hft (by omega)) hp).mp e))]
        refine step.trans ?_
        simp [c2]
/-- how many feet are down -/
def cnN (ft : Nat → Int) : Nat → Nat → Nat → Nat
  | 0, _, c => c
  | n + 1, i, c => cnN ft n (i + 1) (if ft i = -1 then c else c + 1)
abbrev cnS (ft : Nat → Int) : Nat := cnN ft 6 0 0
theorem cnN_le {ft : Nat → Int} : ∀ n i c, c ≤ cnN ft n i c ∧ cnN ft n i c ≤ c + n
  | 0, i, c => ⟨Nat.le_refl _, Nat.le_refl _⟩
  | n + 1, i, c => by
    unfold cnN
    by_cases h : ft i = -1
    · rw [if_pos h]; have := cnN_le (ft := ft) n (i + 1) c; omega
    · rw [if_neg h]; have := cnN_le (ft := ft) n (i + 1) (c + 1); omega
theorem ct_down {ft : Nat → Int} (hft : ftOk ft) {a0 : Nat} {z f : Nat → Nat → Int32} (hF : ∀ k, k < 6 → f (a0 + 1 + 1) k = iv (ft k)) : ∀ (n fu i c : Nat), i + n = 6 → n < fu → g_X9_down_l4 fu a0 (iv c) (iv i) z f = some (iv (cnN ft n i c : Nat)) := by
  intro n
  induction n with
  | zero =>
    intro fu i c hi hf
    obtain ⟨fu, rfl⟩ : ∃ x, fu = x + 1 := ⟨fu - 1, by omega⟩
    obtain rfl : i = 6 := by omega
    rw [g_X9_down_l4, if_pos y6]
    rfl
  | succ n ih =>
    intro fu i c hi hf
    obtain ⟨fu, rfl⟩ : ∃ x, fu = x + 1 := ⟨fu - 1, by omega⟩
    rw [g_X9_down_l4, if_neg (n6 (by omega)), rdR_iv (by omega) (by decide), hF i (by omega)]
    unfold g_X9_down_b25 cnN
    rw [iv_1]
    by_cases c1 : ft i = -1
    · rw [if_pos ((m1_iv (ftIB hft (by omega))).mpr c1), if_pos c1]
      exact ih fu (i + 1) c (by omega) (by omega)
    · rw [if_neg (fun e => c1 ((m1_iv (ftIB hft (by omega))).mp e)), if_neg c1, iv_1]
      exact ih fu (i + 1) (c + 1) (by omega) (by omega)
/-- the level -/
def lvN (mp : Nat → Int) (ft : Nat → Int) (but : Int) : Nat → Nat → Int → Int
  | 0, _, v => v
  | n + 1, i, v => lvN mp ft but n (i + 1) (if (i : Int) = but ∨ ft i = -1 then v else max v (mp (ft i).toNat))
abbrev lvS (mp : Nat → Int) (ft : Nat → Int) (but : Int) : Int := lvN mp ft but 6 0 0
def ftB (mp : Nat → Int) (a b : Int) : Prop := ∀ p, p < 400 → a ≤ mp p ∧ mp p ≤ b
theorem rdP {g : Nat → Int32} {mp : Nat → Int} (h : ∀ p, p < 400 → g p = iv (mp p)) {a : Int} (ha : nB a) : rdR 400 g (iv a) = iv (mp a.toNat) := by
  unfold nB at ha
  have e : a = (a.toNat : Int) := by omega
  rw [e, rdR_iv (by omega) (by decide), h _ (by omega)]
  congr 1
theorem ct_level {ft mp : Nat → Int} (hft : ftOk ft) (hm : ftB mp 0 9) {but : Int} (hb : IB but) {a0 : Nat} {z f : Nat → Nat → Int32} (hF : ∀ k, k < 6 → f (a0 + 1 + 1) k = iv (ft k)) (hM : ∀ p, p < 400 → f 14 p = iv (mp p)) : ∀ (n fu i : Nat) (v : Int), i + n = 6 → n < fu → 0 ≤ v → v ≤ 9 → g_X9_level_l4 fu a0 (iv but) (iv v) (iv i) z f = some (iv (lvN mp ft but n i v)) := by
  intro n
  induction n with
  | zero =>
    intro fu i v hi hf _ _
    obtain ⟨fu, rfl⟩ : ∃ x, fu = x + 1 := ⟨fu - 1, by omega⟩
    obtain rfl : i = 6 := by omega
    rw [g_X9_level_l4, if_pos y6]
    rfl
  | succ n ih =>
    intro fu i v hi hf h0 h9
    obtain ⟨fu, rfl⟩ : ∃ x, fu = x + 1 := ⟨fu - 1, by omega⟩
    have step := ih fu (i + 1) v (by omega) (by omega) h0 h9
    rw [g_X9_level_l4, if_neg (n6 (by omega)), rdR_iv (by omega) (by decide), hF i (by omega)]
    unfold g_X9_level_b48 lvN
    rw [iv_1]
    by_cases c1 : (i : Int) = but
    · rw [if_pos (by rw [c1]), if_pos (Or.inl c1)]
      exact step
    · rw [if_neg (fun e => c1 ((iv_eq (ibn (by omega)) hb).mp e))]
      by_cases c2 : ft i = -1
      · rw [if_pos ((m1_iv (ftIB hft (by omega))).mpr c2), if_pos (Or.inr c2)]
        exact step
      · have hn : nB (ft i) := (hft i (by omega)).resolve_left c2
        have hb := hm (ft i).toNat (by unfold nB at hn; omega)
        rw [if_neg (fun e => c2 ((m1_iv (ftIB hft (by omega))).mp e)), if_neg (by rintro (q | q) <;> contradiction), rdP hM hn, iv_max (by unfold IB; omega) (by unfold IB; omega)]
        exact ih fu (i + 1) _ (by omega) (by omega) (by omega) (by omega)
