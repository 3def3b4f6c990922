/-! whole numbers for ints -/
def iv (a : Int) : Int32 := Int32.ofInt a
theorem iv_add (a b : Int) : iv a + iv b = iv (a + b) := (Int32.ofInt_add a b).symm
theorem iv_sub (a b : Int) : iv a - iv b = iv (a - b) := (Int32.ofInt_sub a b).symm
theorem iv_mul (a b : Int) : iv a * iv b = iv (a * b) := (Int32.ofInt_mul a b).symm
theorem iv_neg (a : Int) : - iv a = iv (-a) := (Int32.ofInt_neg a).symm
abbrev IB (a : Int) : Prop := -2147483648 ≤ a ∧ a < 2147483648
theorem iv_toInt {a : Int} (h : IB a) : (iv a).toInt = a := Int32.toInt_ofInt_of_le h.1 h.2
theorem iv_of (x : Int32) : iv x.toInt = x := Int32.ofInt_toInt x
theorem iv_eq {a b : Int} (ha : IB a) (hb : IB b) : iv a = iv b ↔ a = b :=
  ⟨fun h => by rw [← iv_toInt ha, h, iv_toInt hb], fun h => by rw [h]⟩
theorem iv_lt {a b : Int} (ha : IB a) (hb : IB b) : iv a < iv b ↔ a < b := by
  rw [Int32.lt_iff_toInt_lt, iv_toInt ha, iv_toInt hb]
theorem iv_le {a b : Int} (ha : IB a) (hb : IB b) : iv a ≤ iv b ↔ a ≤ b := by
  rw [Int32.le_iff_toInt_le, iv_toInt ha, iv_toInt hb]
theorem iv_nat (n : Nat) : Int32.ofNat n = iv n := rfl
theorem iv_lit (n : Nat) [OfNat Int32 n] : Int32.ofNat n = iv n := rfl
theorem iv_clamp {a : Int} (h : IB a) : (iv a).toNatClampNeg = a.toNat := by
  rw [← Int32.toNat_toInt, iv_toInt h]
theorem iv_div {a b : Int} (ha : 0 ≤ a) (ha' : a < 2147483648) (hb : 0 < b) (hb' : b < 2147483648) : iv a / iv b = iv (a / b) := by
  apply Int32.toInt_inj.mp
  have hB : IB b := ⟨by omega, hb'⟩
  have hA : IB a := ⟨by omega, ha'⟩
  have h1 : 0 ≤ a / b := Int.ediv_nonneg ha (Int.le_of_lt hb)
  have h2 : a / b ≤ a := Int.ediv_le_self b ha
  rw [Int32.toInt_div_of_ne_right _ _ (fun e => by have : b = -1 := (iv_eq hB (b := -1) (by decide)).mp e; omega), iv_toInt hA, iv_toInt hB, iv_toInt ⟨by omega, by omega⟩, Int.tdiv_eq_ediv_of_nonneg ha]
theorem iv_rem {a b : Int} (ha : 0 ≤ a) (ha' : a < 2147483648) (hb : 0 < b) (hb' : b < 2147483648) : jrem (iv a) (iv b) = iv (a % b) := by
  unfold jrem
  rw [iv_div ha ha' hb hb', iv_mul, iv_sub]
  congr 1
  have := Int.emod_add_mul_ediv a b
  have e : a / b * b = b * (a / b) := Int.mul_comm _ _
  omega
theorem iv_max {a b : Int} (ha : IB a) (hb : IB b) : jmax (iv a) (iv b) = iv (max a b) := by
  unfold jmax
  by_cases h : a < b
  · rw [if_pos ((iv_lt ha hb).mpr h), Int.max_eq_right (Int.le_of_lt h)]
  · rw [if_neg (fun e => h ((iv_lt ha hb).mp e)), Int.max_eq_left (by omega)]
theorem iv_min {a b : Int} (ha : IB a) (hb : IB b) : jmin (iv a) (iv b) = iv (min a b) := by
  unfold jmin
  by_cases h : b < a
  · rw [if_pos ((iv_lt hb ha).mpr h), Int.min_eq_right (Int.le_of_lt h)]
  · rw [if_neg (fun e => h ((iv_lt hb ha).mp e)), Int.min_eq_left (by omega)]
theorem iv_abs {a : Int} (ha : IB a) : jabs (iv a) = iv (a.natAbs : Int) := by
  unfold jabs
  by_cases h : 0 ≤ a
  · rw [if_pos (show (0 : Int32) ≤ iv a from (iv_le (a := 0) (by decide) ha).mpr h)]
    congr 1
    omega
  · rw [if_neg (show ¬ (0 : Int32) ≤ iv a from fun e => h ((iv_le (a := 0) (by decide) ha).mp e))]
    show iv 0 - iv a = _
    rw [iv_sub]
    congr 1
    omega
/-! sets of legs -/
def mk6 (a b c d e g : Bool) : Int32 := (if a then 1 else 0) + (if b then 2 else 0) + (if c then 4 else 0) + (if d then 8 else 0) + (if e then 16 else 0) + (if g then 32 else 0)
def mk (σ : Nat → Bool) : Int32 := mk6 (σ 0) (σ 1) (σ 2) (σ 3) (σ 4) (σ 5)
theorem k6 {P : Nat → Prop} (h0 : P 0) (h1 : P 1) (h2 : P 2) (h3 : P 3) (h4 : P 4) (h5 : P 5) : ∀ k, k < 6 → P k := fun k hk => by
  match k, hk with
  | 0, _ => exact h0
  | 1, _ => exact h1
  | 2, _ => exact h2
  | 3, _ => exact h3
  | 4, _ => exact h4
  | 5, _ => exact h5
def upb (σ : Nat → Bool) (k : Nat) (v : Bool) : Nat → Bool := fun j => if j = k then v else σ j
theorem mk_cg {σ τ : Nat → Bool} (h : ∀ k, k < 6 → σ k = τ k) : mk σ = mk τ := by
  unfold mk
  rw [h 0 (by decide), h 1 (by decide), h 2 (by decide), h 3 (by decide), h 4 (by decide), h 5 (by decide)]
theorem mk6_get : ∀ a b c d e g : Bool, (mk6 a b c d e g >>> (0 &&& 31) &&& 1 = if a then 1 else 0) ∧ (mk6 a b c d e g >>> (1 &&& 31) &&& 1 = if b then 1 else 0) ∧ (mk6 a b c d e g >>> (2 &&& 31) &&& 1 = if c then 1 else 0) ∧ (mk6 a b c d e g >>> (3 &&& 31) &&& 1 = if d then 1 else 0) ∧ (mk6 a b c d e g >>> (4 &&& 31) &&& 1 = if e then 1 else 0) ∧ (mk6 a b c d e g >>> (5 &&& 31) &&& 1 = if g then 1 else 0) := by decide +kernel
theorem mk_get {σ : Nat → Bool} : ∀ k : Nat, k < 6 → (mk σ >>> (iv k &&& 31)) &&& 1 = if σ k then 1 else 0 := by
  obtain ⟨h0, h1, h2, h3, h4, h5⟩ := mk6_get (σ 0) (σ 1) (σ 2) (σ 3) (σ 4) (σ 5)
  exact k6 h0 h1 h2 h3 h4 h5
theorem mk6_or : ∀ a b c d e g : Bool, (mk6 a b c d e g ||| ((1 : Int32) <<< (0 &&& 31)) = mk6 true b c d e g) ∧ (mk6 a b c d e g ||| ((1 : Int32) <<< (1 &&& 31)) = mk6 a true c d e g) ∧ (mk6 a b c d e g ||| ((1 : Int32) <<< (2 &&& 31)) = mk6 a b true d e g) ∧ (mk6 a b c d e g ||| ((1 : Int32) <<< (3 &&& 31)) = mk6 a b c true e g) ∧ (mk6 a b c d e g ||| ((1 : Int32) <<< (4 &&& 31)) = mk6 a b c d true g) ∧ (mk6 a b c d e g ||| ((1 : Int32) <<< (5 &&& 31)) = mk6 a b c d e true) := by decide +kernel
theorem mk_or {σ : Nat → Bool} : ∀ k : Nat, k < 6 → mk σ ||| ((1 : Int32) <<< (iv k &&& 31)) = mk (upb σ k true) := by
  obtain ⟨h0, h1, h2, h3, h4, h5⟩ := mk6_or (σ 0) (σ 1) (σ 2) (σ 3) (σ 4) (σ 5)
  exact k6 h0 h1 h2 h3 h4 h5
theorem mk6_clr : ∀ a b c d e g : Bool, (mk6 a b c d e g &&& (((1 : Int32) <<< (0 &&& 31)) ^^^ (-1)) = mk6 false b c d e g) ∧ (mk6 a b c d e g &&& (((1 : Int32) <<< (1 &&& 31)) ^^^ (-1)) = mk6 a false c d e g) ∧ (mk6 a b c d e g &&& (((1 : Int32) <<< (2 &&& 31)) ^^^ (-1)) = mk6 a b false d e g) ∧ (mk6 a b c d e g &&& (((1 : Int32) <<< (3 &&& 31)) ^^^ (-1)) = mk6 a b c false e g) ∧ (mk6 a b c d e g &&& (((1 : Int32) <<< (4 &&& 31)) ^^^ (-1)) = mk6 a b c d false g) ∧ (mk6 a b c d e g &&& (((1 : Int32) <<< (5 &&& 31)) ^^^ (-1)) = mk6 a b c d e false) := by decide +kernel
theorem mk_clr {σ : Nat → Bool} : ∀ k : Nat, k < 6 → mk σ &&& (((1 : Int32) <<< (iv k &&& 31)) ^^^ (-1)) = mk (upb σ k false) := by
  obtain ⟨h0, h1, h2, h3, h4, h5⟩ := mk6_clr (σ 0) (σ 1) (σ 2) (σ 3) (σ 4) (σ 5)
  exact k6 h0 h1 h2 h3 h4 h5
theorem mk6_sub : ∀ a b c d e g a' b' c' d' e' g' : Bool, mk6 a b c d e g &&& (mk6 a' b' c' d' e' g' ^^^ (-1)) = mk6 (a && !a') (b && !b') (c && !c') (d && !d') (e && !e') (g && !g') := by decide +kernel
theorem mk_sub {σ τ : Nat → Bool} : mk σ &&& (mk τ ^^^ (-1)) = mk (fun k => σ k && !τ k) := mk6_sub _ _ _ _ _ _ _ _ _ _ _ _
theorem mk6_zero : ∀ a b c d e g : Bool, mk6 a b c d e g = 0 ↔ a = false ∧ b = false ∧ c = false ∧ d = false ∧ e = false ∧ g = false := by decide +kernel
theorem mk_zero {σ : Nat → Bool} : mk σ = 0 ↔ ∀ k, k < 6 → σ k = false := by
  refine (mk6_zero _ _ _ _ _ _).trans ⟨fun h => k6 h.1 h.2.1 h.2.2.1 h.2.2.2.1 h.2.2.2.2.1 h.2.2.2.2.2, fun h => ⟨h 0 (by decide), h 1 (by decide), h 2 (by decide), h 3 (by decide), h 4 (by decide), h 5 (by decide)⟩⟩
theorem mk_full : ∀ n : Nat, n < 7 → ((1 : Int32) <<< (iv n &&& 31)) - 1 = mk (fun k => decide (k < n)) := fun n hn => by
  match n, hn with
  | 0, _ => decide +kernel
  | 1, _ => decide +kernel
  | 2, _ => decide +kernel
  | 3, _ => decide +kernel
  | 4, _ => decide +kernel
  | 5, _ => decide +kernel
  | 6, _ => decide +kernel
theorem mk_none : mk (fun _ => false) = 0 := by decide +kernel
