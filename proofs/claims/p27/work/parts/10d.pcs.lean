theorem pc_8 {ft : Nat → Int} {w mx my : Int} {a1 : Nat} (h30 : a1 + 1 ≠ 30) (h32 : a1 + 1 ≠ 32) (hft : ftOk ft) : ∀ (k fu i : Nat) (acc : List Pt) (z f : Nat → Nat → Int32), i + k = 6 → k < fu → acc.length ≤ i → (∀ j, j < 6 → f (a1 + 1) j = iv (ft j)) → z 28 2 = iv acc.length → pcOk w mx my acc f → ∃ c30 c32, g_X6_gather_l8 fu a1 (iv mx) (iv my) (iv w) (iv i) z f = some (up2 z 28 2 (iv (acc ++ (flN ft (-1) k i).map pt).length), upa (upa f 30 c30) 32 c32) ∧ pcOk w mx my (acc ++ (flN ft (-1) k i).map pt) (upa (upa f 30 c30) 32 c32) := by
  intro k
  induction k with
  | zero =>
    intro fu i acc z f hi hf hl hF hz hp
    obtain ⟨fu, rfl⟩ : ∃ x, fu = x + 1 := ⟨fu - 1, by omega⟩
    have e0 : acc ++ (flN ft (-1) 0 i).map pt = acc := List.append_nil acc
    have e2 : upa (upa f 30 (f 30)) 32 (f 32) = f := by
      funext b
      unfold upa
      by_cases q : b = 32
      · rw [if_pos q, q]
      · rw [if_neg q]
        by_cases q : b = 30
        · rw [if_pos q, q]
        · rw [if_neg q]
    refine ⟨f 30, f 32, ?_, by rw [e0, e2]; exact hp⟩
    rw [g_X6_gather_l8, if_pos (show (6 : Int32) ≤ iv i from (iv_le (a := 6) (by decide) (ibn (by omega))).mpr (by omega)), e0, e2, up2_id hz]
  | succ k ih =>
    intro fu i acc z f hi hf hl hF hz hp
    obtain ⟨fu, rfl⟩ : ∃ x, fu = x + 1 := ⟨fu - 1, by omega⟩
    have hfi : IB (ft i) := by have := hft i (by omega); unfold nB at this; unfold IB; omega
    rw [g_X6_gather_l8, if_neg (show ¬ (6 : Int32) ≤ iv i from fun e => by have : (6 : Int) ≤ i := (iv_le (a := 6) (by decide) (ibn (by omega))).mp e; omega), rdR_iv (by omega) (by decide), hF i (by omega)]
    unfold g_X6_gather_b81
    by_cases c2 : ft i = -1
    · have e1 : flN ft (-1) (k + 1) i = flN ft (-1) k (i + 1) := by rw [flN, if_pos (Or.inr c2)]
      rw [if_pos (by rw [c2]; rfl), e1, iv_1]
      exact ih fu (i + 1) acc z f (by omega) (by omega) (by omega) hF hz hp
    · have hn : nB (ft i) := (hft i (by omega)).resolve_left c2
      have e1 : flN ft (-1) (k + 1) i = ft i :: flN ft (-1) k (i + 1) := by rw [flN, if_neg (by rintro (q | q) <;> omega)]
      have e2 : acc ++ (flN ft (-1) (k + 1) i).map pt = (acc ++ [pt (ft i)]) ++ (flN ft (-1) k (i + 1)).map pt := by rw [e1, List.append_assoc]; rfl
      rw [if_neg (show ¬ iv (ft i) = (-1 : Int32) from fun e => c2 ((iv_eq hfi (b := -1) (by decide)).mp e))]
      unfold lt2 g_X10_xOf g_X10_yOf
      simp only [Option.bind_some]
      rw [iv_x hn, iv_y hn, hz, wrR_iv (by omega) (by decide), wrR_iv (by omega) (by decide), iv_mul, iv_sub, iv_mul, iv_sub, iv_1, iv_1, upf_up, upf_up, upa_ne (by decide), e2]
      have el : ((acc.length + 1 : Nat) : Int) = ((acc ++ [pt (ft i)]).length : Nat) := by rw [List.length_append]; rfl
      rw [el]
      obtain ⟨c30, c32, g1, g2⟩ := ih fu (i + 1) (acc ++ [pt (ft i)]) (up2 z 28 2 (iv (acc ++ [pt (ft i)]).length)) (upa (upa f 30 (upd (f 30) acc.length (iv (w * (pt (ft i)).1 - mx)))) 32 (upd (f 32) acc.length (iv (w * (pt (ft i)).2 - my)))) (by omega) (by omega) (by rw [List.length_append, List.length_singleton]; omega) (fun j hj => by rw [upa_ne h32, upa_ne h30]; exact hF j hj) up2_same (fun j hj => by
        rw [upa_same, upa_ne (by decide), upa_same]
        rw [List.length_append, List.length_singleton] at hj
        by_cases ej : j = acc.length
        · subst ej
          rw [upd_at, upd_at]
          simp
        · rw [upd_ne ej, upd_ne ej, List.getElem_append_left (by omega)]
          exact hp j (by omega))
      have e9 : upa (upa (upa (upa f 30 (upd (f 30) acc.length (iv (w * (pt (ft i)).1 - mx)))) 32 (upd (f 32) acc.length (iv (w * (pt (ft i)).2 - my)))) 30 c30) 32 c32 = upa (upa f 30 c30) 32 c32 := by
        rw [upa_comm (b := 32) (b' := 30) (by decide), upa_upa, upa_upa]
      rw [up2_up2, e9] at g1
      rw [e9] at g2
      exact ⟨c30, c32, g1, g2⟩
