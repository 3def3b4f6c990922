/-- the feet of a stance, from a leg on, without one leg -/
def flN (ft : Nat → Int) (but : Int) : Nat → Nat → List Int
  | 0, _ => []
  | n + 1, i => if (i : Int) = but ∨ ft i = -1 then flN ft but n (i + 1) else ft i :: flN ft but n (i + 1)
abbrev fls (ft : Nat → Int) (but : Int) : List Int := flN ft but 6 0
theorem flN_len {ft : Nat → Int} {but : Int} : ∀ n i, (flN ft but n i).length ≤ n
  | 0, _ => Nat.le_refl _
  | n + 1, i => by
    unfold flN
    have := flN_len (ft := ft) (but := but) n (i + 1)
    by_cases h : (i : Int) = but ∨ ft i = -1
    · rw [if_pos h]; omega
    · rw [if_neg h, List.length_cons]; omega
theorem flN_mem {ft : Nat → Int} {but : Int} {a : Int} : ∀ n i, a ∈ flN ft but n i ↔ ∃ k, i ≤ k ∧ k < i + n ∧ (k : Int) ≠ but ∧ ft k ≠ -1 ∧ ft k = a
  | 0, i => by
    constructor
    · intro h; cases h
    · rintro ⟨k, h1, h2, -⟩; omega
  | n + 1, i => by
    unfold flN
    have ih := flN_mem (ft := ft) (but := but) (a := a) n (i + 1)
    by_cases h : (i : Int) = but ∨ ft i = -1
    · rw [if_pos h, ih]
      constructor
      · rintro ⟨k, h1, h2, h3⟩; exact ⟨k, by omega, by omega, h3⟩
      · rintro ⟨k, h1, h2, h3, h4, h5⟩
        refine ⟨k, ?_, by omega, h3, h4, h5⟩
        rcases Nat.lt_or_eq_of_le h1 with h6 | h6
        · exact h6
        · subst h6; exact absurd h (by rintro (q | q) <;> contradiction)
    · rw [if_neg h, List.mem_cons, ih]
      constructor
      · rintro (rfl | ⟨k, h1, h2, h3⟩)
        · exact ⟨i, Nat.le_refl _, by omega, fun q => h (Or.inl q), fun q => h (Or.inr q), rfl⟩
        · exact ⟨k, by omega, by omega, h3⟩
      · rintro ⟨k, h1, h2, h3, h4, h5⟩
        rcases Nat.lt_or_eq_of_le h1 with h6 | h6
        · exact Or.inr ⟨k, h6, by omega, h3, h4, h5⟩
        · subst h6; exact Or.inl h5.symm
def ftOk (ft : Nat → Int) : Prop := ∀ k, k < 6 → ft k = -1 ∨ nB (ft k)
theorem iv_m1 : (-1 : Int32) = iv (-1) := rfl
theorem mnB {l : List Int} (h : ∀ a ∈ l, nB a) : ∀ (b : Int), 0 ≤ b → b ≤ 400 → 0 ≤ l.foldl min b ∧ l.foldl min b ≤ 400 ∧ (∀ a ∈ l, l.foldl min b ≤ a) ∧ l.foldl min b ≤ b ∧ (l.foldl min b = b ∨ l.foldl min b ∈ l) := by
  induction l with
  | nil => intro b h0 h1; exact ⟨h0, h1, (fun a ha => absurd ha List.not_mem_nil), Int.le_refl _, Or.inl rfl⟩
  | cons q l ih =>
    intro b h0 h1
    have hq := h q List.mem_cons_self
    unfold nB at hq
    obtain ⟨a1, a2, a3, a4, a5⟩ := ih (fun a ha => h a (List.mem_cons_of_mem _ ha)) (min b q) (by omega) (by omega)
    refine ⟨a1, a2, fun a ha => ?_, by show l.foldl min (min b q) ≤ b; omega, ?_⟩
    · show l.foldl min (min b q) ≤ a
      rcases List.mem_cons.mp ha with rfl | ha
      · omega
      · exact a3 a ha
    · show l.foldl min (min b q) = b ∨ l.foldl min (min b q) ∈ q :: l
      rcases a5 with e | e
      · rw [e]
        by_cases h5 : b ≤ q
        · exact Or.inl (Int.min_eq_left h5)
        · rw [Int.min_eq_right (by omega)]; exact Or.inr List.mem_cons_self
      · exact Or.inr (List.mem_cons_of_mem _ e)
theorem cw_10 {ft : Nat → Int} {but : Int} (hbut : -1 ≤ but ∧ but < 6) {a1 : Nat} (ha : a1 + 1 ≠ 5) (hft : ftOk ft) : ∀ (k fu i : Nat) (acc : List Int) (z f : Nat → Nat → Int32), i + k = 6 → k < fu → acc.length ≤ i → (∀ a ∈ acc, nB a) → (∀ j, j < 6 → f (a1 + 1) j = iv (ft j)) → (∀ j (h : j < acc.length), f 5 j = iv acc[j]) →
    ∃ c5, g_X4_wrap_l10 fu a1 (iv but) (iv acc.length) (iv (acc.foldl min 400)) (iv i) z f = g_X4_wrap_l74 FU (iv (acc ++ flN ft but k i).length) (iv ((acc ++ flN ft but k i).foldl min 400)) (iv ((acc ++ flN ft but k i).foldl min 400)) (up2 z 1 2 0) (upa f 5 c5) ∧ ∀ j (h : j < (acc ++ flN ft but k i).length), c5 j = iv (acc ++ flN ft but k i)[j] := by
  intro k
  induction k with
  | zero =>
    intro fu i acc z f hi hf hl hB hF h5
    obtain ⟨fu, rfl⟩ : ∃ x, fu = x + 1 := ⟨fu - 1, by omega⟩
    have e0 : acc ++ flN ft but 0 i = acc := List.append_nil acc
    refine ⟨f 5, ?_, fun j h => ?_⟩
    · rw [g_X4_wrap_l10, if_pos (show (6 : Int32) ≤ iv i from (iv_le (a := 6) (by decide) (ibn (by omega))).mpr (by omega)), e0]
      have : upa f 5 (f 5) = f := by
        funext b
        unfold upa
        by_cases h : b = 5
        · rw [if_pos h, h]
        · rw [if_neg h]
      rw [this]
      rfl
    · simp only [e0] at h ⊢
      exact h5 j h
  | succ k ih =>
    intro fu i acc z f hi hf hl hB hF h5
    obtain ⟨fu, rfl⟩ : ∃ x, fu = x + 1 := ⟨fu - 1, by omega⟩
    have hbB : IB but := by unfold IB; omega
    have hfi : IB (ft i) := by have := hft i (by omega); unfold nB at this; unfold IB; omega
    have step := ih fu (i + 1) acc z f (by omega) (by omega) (by omega) hB hF h5
    rw [g_X4_wrap_l10, if_neg (fun e => by have : (6 : Int) ≤ i := (iv_le (a := 6) (by decide) (ibn (by omega))).mp e; omega)]
    unfold g_X4_wrap_b59
    by_cases c1 : (i : Int) = but
    · have e1 : flN ft but (k + 1) i = flN ft but k (i + 1) := by rw [flN, if_pos (Or.inl c1)]
      rw [if_pos (by rw [c1]), e1, iv_1]
      exact step
    · rw [if_neg (fun e => c1 ((iv_eq (ibn (by omega)) hbB).mp e)), rdR_iv (by omega) (by decide), hF i (by omega)]
      by_cases c2 : ft i = -1
      · have e1 : flN ft but (k + 1) i = flN ft but k (i + 1) := by rw [flN, if_pos (Or.inr c2)]
        rw [if_pos (by rw [c2]; rfl), e1, iv_1]
        exact step
      · have hn : nB (ft i) := (hft i (by omega)).resolve_left c2
        have e1 : flN ft but (k + 1) i = ft i :: flN ft but k (i + 1) := by rw [flN, if_neg (by rintro (q | q) <;> contradiction)]
        rw [if_neg (show ¬ iv (ft i) = (-1 : Int32) from fun e => c2 ((iv_eq hfi (b := -1) (by decide)).mp e))]
        unfold lt2
        have hm := mnB hB 400 (by decide) (by decide)
        rw [wrR_iv (by omega) (by decide), upf_up, iv_min (by unfold IB; omega) hfi, iv_1, iv_1]
        have e2 : acc ++ flN ft but (k + 1) i = (acc ++ [ft i]) ++ flN ft but k (i + 1) := by rw [e1, List.append_assoc]; rfl
        have e3 : min (acc.foldl min 400) (ft i) = (acc ++ [ft i]).foldl min 400 := by rw [List.foldl_append]; rfl
        have e4 : ((acc.length + 1 : Nat) : Int) = ((acc ++ [ft i]).length : Nat) := by rw [List.length_append]; rfl
        rw [e2, e3, e4]
        obtain ⟨c5, g1, g2⟩ := ih fu (i + 1) (acc ++ [ft i]) z (upa f 5 (upd (f 5) acc.length (iv (ft i)))) (by omega) (by omega) (by rw [List.length_append, List.length_singleton]; omega) (fun a ha => by
            rcases List.mem_append.mp ha with h | h
            · exact hB a h
            · rw [List.mem_singleton.mp h]; exact hn) (fun j hj => by rw [upa_ne ha]; exact hF j hj) (fun j h => by
            rw [upa_same]
            rw [List.length_append, List.length_singleton] at h
            by_cases ej : j = acc.length
            · subst ej
              rw [upd_at]
              simp
            · rw [upd_ne ej, h5 j (by omega), List.getElem_append_left (by omega)])
        rw [upa_upa] at g1
        exact ⟨c5, g1, g2⟩
