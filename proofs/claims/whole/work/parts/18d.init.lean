theorem l126 {z : Nat → Nat → Int32} {r : LWd} : ∀ (m i fu : Nat) (f : Nat → Nat → Int32), i + m = 400 → m < fu → ∃ f', m_X11_init_l126 fu 66 (iv (i : Nat)) (wA z f r) = some (wA z f' r) ∧ (∀ k, i ≤ k → k < 400 → f' 68 k = 99 ∧ f' 69 k = 9) ∧ (∀ k, k < i → f' 68 k = f 68 k ∧ f' 69 k = f 69 k) ∧ ∀ b, b ≠ 68 → b ≠ 69 → f' b = f b := by
  intro m
  induction m with
  | zero =>
    intro i fu f hi hf
    obtain ⟨fu, rfl⟩ : ∃ u, fu = u + 1 := ⟨fu - 1, by omega⟩
    refine ⟨f, ?_, fun k h1 h2 => by omega, fun _ _ => ⟨rfl, rfl⟩, fun _ _ _ => rfl⟩
    rw [m_X11_init_l126, if_pos (show (400 : Int32) ≤ iv (i : Nat) from (iv_le (a := 400) (by decide) (ibn (by omega))).mpr (by omega))]
  | succ m ih =>
    intro i fu f hi hf
    obtain ⟨fu, rfl⟩ : ∃ u, fu = u + 1 := ⟨fu - 1, by omega⟩
    obtain ⟨f', e, h1, h2, h3⟩ := ih (i + 1) fu (upf (upf f 68 i 99) 69 i 9) (by omega) (by omega)
    refine ⟨f', ?_, fun k k1 k2 => ?_, fun k k1 => ?_, fun b b1 b2 => ?_⟩
    · rw [m_X11_init_l126, if_neg (show ¬ (400 : Int32) ≤ iv (i : Nat) from fun q => by have := (iv_le (a := 400) (by decide) (ibn (by omega))).mp q; omega), fR_66_1, Option.bind_some, sI_68, ix_iv (show i < 400 by omega) (by decide), Option.map_some, Option.bind_some, fR_66_2, Option.bind_some, sI_69, ix_iv (show i < 400 by omega) (by decide), Option.map_some, Option.bind_some, iv_1]
      exact e
    · by_cases c : k = i
      · subst c
        obtain ⟨a, b⟩ := h2 k (by omega)
        rw [a, b]
        unfold upf
        rw [upa_ne (by decide), upa_same, upa_same, upd_at, upd_at]
        exact ⟨rfl, rfl⟩
      · exact h1 k (by omega) k2
    · obtain ⟨a, b⟩ := h2 k (by omega)
      rw [a, b]
      unfold upf
      rw [upa_ne (by decide), upa_same, upa_same, upd_ne (by omega), upd_ne (by omega), upa_ne (by decide)]
      exact ⟨rfl, rfl⟩
    · rw [h3 b b1 b2]
      unfold upf
      rw [upa_ne b2, upa_ne b1]
def s0 : MSt := fun a k => match a with
  | 1 => 99
  | 2 => 9
  | 7 => -1
  | 8 => match k with
    | 4 => 10
    | 5 => 10
    | 7 => 1000
    | 10 => -1
    | _ => 0
  | 11 => -1
  | _ => 0
theorem ko_0 : KO s0 := fun a k => by
  match a with
  | 0 => exact (by decide : (0 : Int) ≤ 0 ∧ (0 : Int) ≤ 9)
  | 1 => exact (by decide : (0 : Int) ≤ 99 ∧ (99 : Int) ≤ 99)
  | 2 => exact (by decide : (0 : Int) ≤ 9 ∧ (9 : Int) ≤ 9)
  | 3 => exact (by decide : (0 : Int) ≤ 0 ∧ (0 : Int) ≤ 9)
  | 4 => exact (by decide : (-5 : Int) ≤ 0 ∧ (0 : Int) ≤ 5)
  | 5 => exact (by decide : (-5 : Int) ≤ 0 ∧ (0 : Int) ≤ 5)
  | 6 => exact (by decide : (0 : Int) ≤ 0 ∧ (0 : Int) ≤ 6)
  | 7 => exact (by decide : (-1 : Int) ≤ -1 ∧ (-1 : Int) ≤ 399)
  | 8 =>
    match k with
    | 0 => decide
    | 1 => decide
    | 2 => decide
    | 3 => decide
    | 4 => decide
    | 5 => decide
    | 6 => decide
    | 7 => decide
    | 8 => decide
    | 9 => decide
    | 10 => decide
    | 11 => decide
    | 12 => decide
    | 13 => decide
    | 14 => decide
    | k + 15 => exact (by decide : (0 : Int) ≤ 0 ∧ (0 : Int) ≤ 0)
  | 9 => exact (by decide : (0 : Int) ≤ 0 ∧ (0 : Int) ≤ 8)
  | 10 => exact (by decide : (0 : Int) ≤ 0 ∧ (0 : Int) ≤ 3)
  | 11 => exact (by decide : (-1 : Int) ≤ -1 ∧ (-1 : Int) ≤ 399)
  | 12 => exact (by decide : (0 : Int) ≤ 0 ∧ (0 : Int) ≤ 5)
  | 13 => exact (by decide : (-6 : Int) ≤ 0 ∧ (0 : Int) ≤ 6)
  | 14 => exact (by decide : (-6 : Int) ≤ 0 ∧ (0 : Int) ≤ 6)
  | 15 => exact (by decide : (-1 : Int) ≤ 0 ∧ (0 : Int) ≤ 1)
  | 16 => exact (by decide : (-1 : Int) ≤ 0 ∧ (0 : Int) ≤ 1)
  | a + 17 => exact (by decide : (0 : Int) ≤ 0 ∧ (0 : Int) ≤ 0)
theorem wf_0 : WF 0 s0 := by
  refine ⟨⟨ko_0, by decide, by decide⟩, ⟨fun j k _ _ h => absurd rfl h, fun k _ _ => rfl, ⟨fun h => absurd rfl h, fun h => absurd rfl h⟩, fun k h => ?_⟩, fun _ k _ => rfl, fun h => absurd rfl h, Or.inr rfl⟩
  have : (k : Int) < 0 := h
  omega
theorem cq_arr : ∀ q ∈ arrsC, ∀ k, k < q.2.2 → fQ q.1 k = iv (s0 q.2.1 k) := by decide +kernel
theorem cq_sc : ∀ q ∈ scalC, zQ q.1 q.2.1 = iv (s0 8 q.2.2) := by decide +kernel
theorem mq_arr : ∀ q ∈ arrsM, ∀ k, k < q.2.2 → q.1 ≠ 68 → q.1 ≠ 69 → fQ q.1 k = iv (s0 q.2.1 k) := by decide +kernel
theorem mq_sc : ∀ q ∈ scalM, zQ 66 q.1 = iv (s0 8 q.2) := by decide +kernel
theorem mq_dn : zQ 66 17 = mk (dnS s0) := by decide +kernel
/-- the two objects, new: what holds between calls -/
theorem in_0 : ∃ f, (m_X10_init 0 [o10]).bind (fun w => m_X11_init 66 (w ++ [o11])) = some (wA zQ f []) ∧ IN 0 zQ f := by
  obtain ⟨f', e, h1, -, h3⟩ := l126 (z := zQ) (r := []) 400 0 FU fQ (by decide) (by decide)
  refine ⟨f', ?_, s0, wf_0, ⟨fun q hq k hk => ?_, cq_sc⟩, ⟨⟨fun q hq k hk => ?_, mq_sc⟩, mq_dn, fun k _ h => absurd rfl h, fun h => absurd rfl h, fun k _ h => ?_, fun k _ h => ?_⟩⟩
  · have h := mI_eq
    unfold mI mX at h
    rw [← n_X10_init_eq] at h
    have b : ∀ w, m_X11_init 66 (w ++ [o11]) = (n_X11_init 66 (w ++ [o11])).bind fun w => m_X11_init_l126 FU 66 0 w := fun w => n_X11_init_eq
    rw [show (fun w => m_X11_init 66 (w ++ [o11])) = fun w => (n_X11_init 66 (w ++ [o11])).bind fun w => m_X11_init_l126 FU 66 0 w from funext b, ← Option.bind_assoc, h, Option.bind_some]
    exact e
  · have ne : ∀ q ∈ arrsC, q.1 ≠ 68 ∧ q.1 ≠ 69 := by decide
    rw [h3 q.1 (ne q hq).1 (ne q hq).2]
    exact cq_arr q hq k hk
  · by_cases c : q.1 = 68
    · have e1 : ∀ q ∈ arrsM, q.1 = 68 → q.2 = (1, 400) := by decide
      have e2 := e1 q hq c
      rw [e2] at hk
      rw [c, e2, (h1 k (Nat.zero_le _) hk).1]
      rfl
    · by_cases d : q.1 = 69
      · have e1 : ∀ q ∈ arrsM, q.1 = 69 → q.2 = (2, 400) := by decide
        have e2 := e1 q hq d
        rw [e2] at hk
        rw [d, e2, (h1 k (Nat.zero_le _) hk).2]
        rfl
      · rw [h3 q.1 c d]
        exact mq_arr q hq k hk c d
  · have : (k : Int) < 0 := h
    omega
  · have : (k : Int) < 0 := h
    omega
