/-- the pressure -/
def prS (w : Int) (n : Nat) : Int := if n = 0 then 0 else (w + n - 1) / n
theorem prS_bd {w : Int} {n : Nat} (h : 0 < w ∧ w ≤ 30) (hn : n ≤ 6) : 0 ≤ prS w n ∧ prS w n ≤ 30 := by
  unfold prS
  by_cases c : n = 0
  · rw [if_pos c]; omega
  · rw [if_neg c]
    have : 0 ≤ (w + n - 1) / n := Int.ediv_nonneg (by omega) (by omega)
    refine ⟨this, ?_⟩
    have : (w + n - 1) / (n : Int) ≤ 30 := Int.ediv_le_of_le_mul (by omega) (by
      have : (1 : Int) ≤ n := by omega
      have : 30 * (n : Int) ≥ 30 + 30 * ((n : Int) - 1) := by omega
      omega)
    omega
theorem ru_pr {w : Int} {n : Nat} (h : 0 < w ∧ w ≤ 30) (hn : n ≤ 6) {z f : Nat → Nat → Int32} : g_X10_roundedUp (iv w) (iv n) z f = some (iv (prS w n)) := by
  unfold g_X10_roundedUp prS
  by_cases c : n = 0
  · subst c
    rw [if_neg (by decide), if_pos rfl]
    rfl
  · have : ¬ iv (n : Nat) = (0 : Int32) := fun e => by have := (z_iv (ibn (by omega))).mp e; omega
    rw [if_pos (show (0 : Int32) < iv n from (iv_lt (a := 0) (by decide) (ibn (by omega))).mpr (by omega)), if_neg this, if_neg c, show (1 : Int32) = iv 1 from rfl, iv_add, iv_sub, iv_div (by omega) (by omega) (by omega) (by omega)]
/-- which feet sink -/
def skB (fm ft : Nat → Int) (P : Int) (k : Nat) : Bool := decide (ft k ≠ -1) && decide (fm (ft k).toNat < P)
theorem mk_upb {σ : Nat → Bool} {i : Nat} (hi : i < 6) : mk (fun k => decide (k < i) && σ k) ||| ((1 : Int32) <<< (iv i &&& 31)) = mk (upb (fun k => decide (k < i) && σ k) i true) := mk_or i hi
theorem ct_sink {ft fm : Nat → Int} (hft : ftOk ft) (hm : ftB fm 0 99) {P : Int} (hP : 0 ≤ P ∧ P ≤ 30) {a0 : Nat} {z f : Nat → Nat → Int32} (hF : ∀ k, k < 6 → f (a0 + 1 + 1) k = iv (ft k)) (hM : ∀ p, p < 400 → f 10 p = iv (fm p)) : ∀ (n fu i : Nat), i + n = 6 → n < fu → g_X9_sinking_l9 fu a0 (iv P) (mk (fun k => decide (k < i) && skB fm ft P k)) (iv i) z f = some (mk (skB fm ft P)) := by
  intro n
  induction n with
  | zero =>
    intro fu i hi hf
    obtain ⟨fu, rfl⟩ : ∃ x, fu = x + 1 := ⟨fu - 1, by omega⟩
    obtain rfl : i = 6 := by omega
    rw [g_X9_sinking_l9, if_pos y6]
    exact congrArg some (mk_cg fun k hk => by simp [hk])
  | succ n ih =>
    intro fu i hi hf
    obtain ⟨fu, rfl⟩ : ∃ x, fu = x + 1 := ⟨fu - 1, by omega⟩
    have step := ih fu (i + 1) (by omega) (by omega)
    have eF : skB fm ft P i = false → mk (fun k => decide (k < i) && skB fm ft P k) = mk (fun k => decide (k < i + 1) && skB fm ft P k) := fun h => mk_cg fun k hk => by
      by_cases e : k = i
      · subst e; simp [h]
      · have : (k < i) ↔ (k < i + 1) := by omega
        simp [this]
    have eT : skB fm ft P i = true → mk (fun k => decide (k < i) && skB fm ft P k) ||| ((1 : Int32) <<< (iv i &&& 31)) = mk (fun k => decide (k < i + 1) && skB fm ft P k) := fun h => by
      rw [mk_upb (by omega)]
      refine mk_cg fun k hk => ?_
      unfold upb
      by_cases e : k = i
      · subst e; simp [h]
      · have : (k < i) ↔ (k < i + 1) := by omega
        simp [this, e]
    rw [g_X9_sinking_l9, if_neg (n6 (by omega)), rdR_iv (by omega) (by decide), hF i (by omega)]
    unfold g_X9_sinking_b53
    rw [iv_1]
    by_cases c2 : ft i = -1
    · rw [if_pos ((m1_iv (ftIB hft (by omega))).mpr c2), eF (by unfold skB; simp [c2])]
      exact step
    · have hn : nB (ft i) := (hft i (by omega)).resolve_left c2
      have hb := hm (ft i).toNat (by unfold nB at hn; omega)
      rw [if_neg (fun e => c2 ((m1_iv (ftIB hft (by omega))).mp e)), rdP hM hn]
      by_cases c3 : P ≤ fm (ft i).toNat
      · rw [if_pos ((iv_le (by unfold IB; omega) (by unfold IB; omega)).mpr c3), eF (by unfold skB; simp [c3])]
        exact step
      · rw [if_neg (fun e => c3 ((iv_le (by unfold IB; omega) (by unfold IB; omega)).mp e)), eT (by unfold skB; simp [c2]; omega)]
        exact step
/-- feet raised -/
def raS (ft : Nat → Int) (σ : Nat → Bool) : Nat → Int := fun k => if σ k then -1 else ft k
theorem ct_raise {σ : Nat → Bool} {a0 : Nat} {z : Nat → Nat → Int32} : ∀ (n fu i : Nat) (f : Nat → Nat → Int32) (ft : Nat → Int), i + n = 6 → n < fu → (∀ k, k < 6 → f (a0 + 1 + 1) k = iv (ft k)) → ∃ c, g_X9_raise_l2 fu a0 (mk σ) (iv i) z f = some (z, upa f (a0 + 1 + 1) c) ∧ ∀ k, k < 6 → c k = iv (if i ≤ k ∧ σ k = true then -1 else ft k) := by
  intro n
  induction n with
  | zero =>
    intro fu i f ft hi hf hF
    obtain ⟨fu, rfl⟩ : ∃ x, fu = x + 1 := ⟨fu - 1, by omega⟩
    obtain rfl : i = 6 := by omega
    have e : upa f (a0 + 1 + 1) (f (a0 + 1 + 1)) = f := by
      funext b
      unfold upa
      by_cases q : b = a0 + 1 + 1
      · rw [if_pos q, q]
      · rw [if_neg q]
    refine ⟨f (a0 + 1 + 1), ?_, fun k hk => by rw [hF k hk, if_neg (by omega)]⟩
    rw [g_X9_raise_l2, if_pos y6, e]
  | succ n ih =>
    intro fu i f ft hi hf hF
    obtain ⟨fu, rfl⟩ : ∃ x, fu = x + 1 := ⟨fu - 1, by omega⟩
    rw [g_X9_raise_l2, if_neg (n6 (by omega)), mk_get i (by omega)]
    unfold g_X9_raise_b25 lt2
    rw [iv_1]
    by_cases c : σ i = true
    · rw [if_pos c, if_neg (by decide), wrR_iv (by omega) (by decide), upf_up]
      obtain ⟨c1, g1, g2⟩ := ih fu (i + 1) (upa f (a0 + 1 + 1) (upd (f (a0 + 1 + 1)) i (-1))) (fun k => if k = i then -1 else ft k) (by omega) (by omega) (fun k hk => by
        rw [upa_same]
        unfold upd
        by_cases e : k = i
        · rw [if_pos e, if_pos e]; rfl
        · rw [if_neg e, if_neg e]; exact hF k hk)
      rw [upa_upa] at g1
      refine ⟨c1, g1, fun k hk => ?_⟩
      rw [g2 k hk]
      congr 1
      by_cases e : k = i
      · subst e; simp [c]
      · have : (i + 1 ≤ k) ↔ (i ≤ k) := by omega
        simp [e, this]
    · rw [if_neg c, if_pos rfl]
      obtain ⟨c1, g1, g2⟩ := ih fu (i + 1) f ft (by omega) (by omega) hF
      refine ⟨c1, g1, fun k hk => ?_⟩
      rw [g2 k hk]
      congr 1
      by_cases e : k = i
      · subst e; simp [c]
      · have : (i + 1 ≤ k) ↔ (i ≤ k) := by omega
        simp [this]
