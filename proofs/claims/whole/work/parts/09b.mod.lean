theorem ob_ne {b : Nat} (h : b < 6) : ¬ iv (ob (some b)) = (-1 : Int32) := fun e => by
  have : (b : Int) = -1 := (iv_eq (b := -1) (ibn (by omega)) (by decide)).mp e
  omega
theorem iv_eqn {a b : Nat} (ha : a < 1000) (hb : b < 1000) : iv (a : Int) = iv (b : Int) ↔ a = b := by
  rw [iv_eq (ibn (by omega)) (ibn (by omega))]
  omega
theorem mh_129 {k86 : Int32 → Int32 → Int32 → (Nat → Nat → Int32) → (Nat → Nat → Int32) → Option ((Nat → Nat → Int32) × (Nat → Nat → Int32))} {σ : Nat → Bool} {fp : Nat → Pt} {z f : Nat → Nat → Int32} (h : mfOk σ fp f) {i2 : Int32} {a : Nat} (ha : a < 6 ∧ σ a = true) : ∀ (k fu i : Nat) (b : Option Nat), i + k = 6 → k < fu → obOk σ b → b ≠ some a → ∃ b', obOk σ b' ∧ b' ≠ some a ∧ bp fp a b' = nxt (fp a) (mlN σ fp k i) (bp fp a b) ∧ g_X11_hull_l129 k86 fu (mk σ) i2 (iv a) (iv (ob b)) (iv i) z f = k86 (mk σ) i2 (iv (ob b')) z f := by
  intro k
  induction k with
  | zero =>
    intro fu i b hi hf hb hba
    obtain ⟨fu, rfl⟩ : ∃ x, fu = x + 1 := ⟨fu - 1, by omega⟩
    refine ⟨b, hb, hba, rfl, ?_⟩
    rw [g_X11_hull_l129, if_pos (show (6 : Int32) ≤ iv i from (iv_le (a := 6) (by decide) (ibn (by omega))).mpr (by omega))]
  | succ k ih =>
    intro fu i b hi hf hb hba
    obtain ⟨fu, rfl⟩ : ∃ x, fu = x + 1 := ⟨fu - 1, by omega⟩
    have keep := ih fu (i + 1) b (by omega) (by omega) hb hba
    rw [g_X11_hull_l129, if_neg (show ¬ (6 : Int32) ≤ iv i from fun e => by have : (6 : Int) ≤ i := (iv_le (a := 6) (by decide) (ibn (by omega))).mp e; omega), mk_get i (by omega)]
    unfold mlN
    by_cases hs : σ i = true
    · rw [if_pos hs, if_pos hs, if_pos rfl]
      have take := ih fu (i + 1) (some i) (by omega) (by omega) (fun k e => by cases e; exact ⟨by omega, hs⟩)
      unfold nxt
      by_cases hia : i = a
      · subst hia
        rw [if_pos rfl, if_neg fur_np]
        unfold g_X11_hull_b156 g_X11_hull_b157
        rw [if_pos rfl]
        unfold g_X11_hull_b182 g_X11_hull_b183
        rw [if_pos rfl]
        unfold g_X11_hull_b227 g_X11_hull_b228
        rw [if_pos rfl]
        unfold g_X11_hull_b242
        rw [iv_1]
        exact keep
      · have hne : fp i ≠ fp a := fun e => hia (h.2 i a (by omega) ha.1 hs ha.2 e)
        have take := take (fun e => hia (by cases e; rfl))
        rw [if_neg (fun e => hia ((iv_eqn (by omega) (by omega)).mp e))]
        unfold g_X11_hull_b157
        rw [if_neg (show ¬ (1 : Int32) = 0 by decide)]
        cases b with
        | none =>
          rw [if_pos (show iv (ob none) = (-1 : Int32) from rfl), if_pos (show fur (fp a) (bp fp a none) (fp i) from fur_pp.mpr hne)]
          unfold g_X11_hull_b182 g_X11_hull_b183
          rw [if_neg (show ¬ (1 : Int32) = 0 by decide), if_pos (show iv (ob none) = (-1 : Int32) from rfl)]
          unfold g_X11_hull_b223 g_X11_hull_b228
          rw [if_neg (show ¬ (1 : Int32) = 0 by decide)]
          unfold g_X11_hull_b242
          rw [iv_1]
          exact take
        | some j =>
          have hj := hb j rfl
          have tb := tn_bd (h.1 a ha.1 ha.2).1 (h.1 j hj.1 hj.2).1 (h.1 i (by omega) hs).1
          have it : IB (tn (fp a) (fp j) (fp i)) := by unfold IB; omega
          have s1 := sq_bd (h.1 a ha.1 ha.2).1 (h.1 i (by omega) hs).1
          have s2 := sq_bd (h.1 a ha.1 ha.2).1 (h.1 j hj.1 hj.2).1
          have e0 := mt_tn (z := z) h ha hj ⟨(by omega : i < 6), hs⟩
          have e1 := mt_sq (z := z) h ha ⟨(by omega : i < 6), hs⟩
          have e2 : g_X11_square (iv a) (iv (ob (some j))) z f = _ := mt_sq (z := z) h ha hj
          rw [if_neg (ob_ne hj.1)]
          show ∃ b', obOk σ b' ∧ b' ≠ some a ∧ bp fp a b' = nxt (fp a) (mlN σ fp k (i + 1)) (if fur (fp a) (fp j) (fp i) then fp i else fp j) ∧ ((g_X11_turn (iv a) (iv (j : Int)) (iv i) z f).bind _) = _
          rw [e0, Option.bind_some]
          unfold g_X11_hull_b183
          rw [if_neg (show ¬ (1 : Int32) = 0 by decide), if_neg (ob_ne hj.1)]
          by_cases c1 : tn (fp a) (fp j) (fp i) < 0
          · rw [if_pos (show iv _ < (0 : Int32) from (iv_lt (b := 0) it (by decide)).mpr c1), if_pos (Or.inl c1)]
            unfold g_X11_hull_b223 g_X11_hull_b228
            rw [if_neg (show ¬ (1 : Int32) = 0 by decide)]
            unfold g_X11_hull_b242
            rw [iv_1]
            exact take
          · rw [if_neg (show ¬ iv _ < (0 : Int32) from fun e => c1 ((iv_lt (b := 0) it (by decide)).mp e))]
            by_cases c2 : tn (fp a) (fp j) (fp i) = 0
            · rw [if_pos (show iv _ = (0 : Int32) by rw [c2]; rfl), e1, Option.bind_some, e2, Option.bind_some]
              by_cases c3 : sqd (fp a) (fp i) ≤ sqd (fp a) (fp j)
              · rw [if_pos ((iv_le (by unfold IB; omega) (by unfold IB; omega)).mpr c3), if_neg (by unfold fur; omega)]
                unfold g_X11_hull_b227 g_X11_hull_b228
                rw [if_pos rfl]
                unfold g_X11_hull_b242
                rw [iv_1]
                exact keep
              · rw [if_neg (fun e => c3 ((iv_le (by unfold IB; omega) (by unfold IB; omega)).mp e)), if_pos (Or.inr ⟨c2, by omega⟩)]
                unfold g_X11_hull_b223 g_X11_hull_b228
                rw [if_neg (show ¬ (1 : Int32) = 0 by decide)]
                unfold g_X11_hull_b242
                rw [iv_1]
                exact take
            · rw [if_neg (show ¬ iv _ = (0 : Int32) from fun e => c2 ((iv_eq (b := 0) it (by decide)).mp e)), if_neg (by unfold fur; omega)]
              unfold g_X11_hull_b227 g_X11_hull_b228
              rw [if_pos rfl]
              unfold g_X11_hull_b242
              rw [iv_1]
              exact keep
    · rw [if_neg hs, if_neg hs, if_neg (by decide)]
      unfold g_X11_hull_b156 g_X11_hull_b157
      rw [if_pos rfl]
      unfold g_X11_hull_b182 g_X11_hull_b183
      rw [if_pos rfl]
      unfold g_X11_hull_b227 g_X11_hull_b228
      rw [if_pos rfl]
      unfold g_X11_hull_b242
      rw [iv_1]
      exact keep
