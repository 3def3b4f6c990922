/-! the law, from its start -/
def s0 : MSt := fun a k => match a with
  | 1 => 99
  | 2 => 9
  | 7 => -1
  | 8 => match k with
    | 4 => 10
    | 5 => 10
    | 7 => 1000
    | 10 => -1
    | _ => 0
  | 11 => -1
  | _ => 0
theorem ko_0 : KO s0 := fun a k => by
  match a with
  | 0 => exact (by decide : (0 : Int) ≤ 0 ∧ (0 : Int) ≤ 9)
  | 1 => exact (by decide : (0 : Int) ≤ 99 ∧ (99 : Int) ≤ 99)
  | 2 => exact (by decide : (0 : Int) ≤ 9 ∧ (9 : Int) ≤ 9)
  | 3 => exact (by decide : (0 : Int) ≤ 0 ∧ (0 : Int) ≤ 9)
  | 4 => exact (by decide : (-5 : Int) ≤ 0 ∧ (0 : Int) ≤ 5)
  | 5 => exact (by decide : (-5 : Int) ≤ 0 ∧ (0 : Int) ≤ 5)
  | 6 => exact (by decide : (0 : Int) ≤ 0 ∧ (0 : Int) ≤ 6)
  | 7 => exact (by decide : (-1 : Int) ≤ -1 ∧ (-1 : Int) ≤ 399)
  | 8 =>
    match k with
    | 0 => decide
    | 1 => decide
    | 2 => decide
    | 3 => decide
    | 4 => decide
    | 5 => decide
    | 6 => decide
    | 7 => decide
    | 8 => decide
    | 9 => decide
    | 10 => decide
    | 11 => decide
    | 12 => decide
    | 13 => decide
    | 14 => decide
    | k + 15 => exact (by decide : (0 : Int) ≤ 0 ∧ (0 : Int) ≤ 0)
  | 9 => exact (by decide : (0 : Int) ≤ 0 ∧ (0 : Int) ≤ 8)
  | 10 => exact (by decide : (0 : Int) ≤ 0 ∧ (0 : Int) ≤ 3)
  | 11 => exact (by decide : (-1 : Int) ≤ -1 ∧ (-1 : Int) ≤ 399)
  | 12 => exact (by decide : (0 : Int) ≤ 0 ∧ (0 : Int) ≤ 5)
  | 13 => exact (by decide : (-6 : Int) ≤ 0 ∧ (0 : Int) ≤ 6)
  | 14 => exact (by decide : (-6 : Int) ≤ 0 ∧ (0 : Int) ≤ 6)
  | 15 => exact (by decide : (-1 : Int) ≤ 0 ∧ (0 : Int) ≤ 1)
  | 16 => exact (by decide : (-1 : Int) ≤ 0 ∧ (0 : Int) ≤ 1)
  | a + 17 => exact (by decide : (0 : Int) ≤ 0 ∧ (0 : Int) ≤ 0)
theorem wf_0 : WF 0 s0 := by
  refine ⟨⟨ko_0, by decide, by decide⟩, ⟨fun j k _ _ h => absurd rfl h, fun k _ _ => rfl, ⟨fun h => absurd rfl h, fun h => absurd rfl h⟩, fun k h => ?_⟩, fun _ k _ => rfl, fun h => absurd rfl h, Or.inr rfl⟩
  have : (k : Int) < 0 := h
  omega
theorem cq_arr : ∀ q ∈ arrsC, ∀ k, k < q.2.2 → fQ q.1 k = iv (s0 q.2.1 k) := by decide +kernel
theorem cq_sc : ∀ q ∈ scalC, zQ q.1 q.2.1 = iv (s0 8 q.2.2) := by decide +kernel
section
variable {z f : Nat → Nat → Int32}
theorem l63_50 {L : Nat} {xs : Nat → Int32} {fu : Nat} : g_L_law_l63 L xs (fu + 1) (iv ((50 : Nat) : Int)) z f = g_L_law_l63 L xs 1 (iv ((50 : Nat) : Int)) z f := by
  rw [g_L_law_l63, g_L_law_l63, if_pos (show (50 : Int32) ≤ iv ((50 : Nat) : Int) by decide), if_pos (show (50 : Int32) ≤ iv ((50 : Nat) : Int) by decide)]
theorem fill_63 {L : Nat} {xs : Nat → Int32} : ∀ (m fu k : Nat) (f : Nat → Nat → Int32), k + m = 50 → m < fu → (∀ j, j < k → lg f 68 j = 7161677110969590627) → (∀ j, 2 * j < k → lg f 67 j = -7378697629483820647) → ∃ f', g_L_law_l63 L xs fu (iv (k : Nat)) z f = g_L_law_l63 L xs 1 (iv ((50 : Nat) : Int)) z f' ∧ (∀ j, j < 50 → lg f' 68 j = 7161677110969590627) ∧ (∀ j, j < 25 → lg f' 67 j = -7378697629483820647) ∧ ∀ b, b ≠ 67 → b ≠ 68 → f' b = f b := by
  intro m
  induction m with
  | zero =>
    intro fu k f hk hf h1 h2
    obtain ⟨fu, rfl⟩ : ∃ x, fu = x + 1 := ⟨fu - 1, by omega⟩
    have : k = 50 := by omega
    subst this
    exact ⟨f, l63_50, h1, fun j hj => h2 j (by omega), fun _ _ _ => rfl⟩
  | succ m ih =>
    intro fu k f hk hf h1 h2
    obtain ⟨fu, rfl⟩ : ∃ x, fu = x + 1 := ⟨fu - 1, by omega⟩
    rw [g_L_law_l63, if_neg (show ¬ (50 : Int32) ≤ iv (k : Nat) from fun e => by have := (iv_le (a := 50) (by decide) (ibn (by omega))).mp e; omega), ix_iv (by omega) (by decide), Option.bind_some, lt2_e, show iv (k : Nat) / 2 = iv ((k / 2 : Nat) : Int) from iv_d (d := 2) (by omega) (by decide) (by decide), ix_iv (by omega) (by decide), Option.bind_some, lt2_e, iv_1]
    obtain ⟨f', e, a1, a2, a3⟩ := ih fu (k + 1) (ulg (ulg f 68 k 7161677110969590627) 67 (k / 2) (-7378697629483820647)) (by omega) (by omega) (fun j hj => by
      rw [lg_u, if_neg (fun q => absurd q.1 (by decide)), lg_u]
      by_cases c : j = k
      · rw [if_pos ⟨rfl, c⟩]
      · rw [if_neg (fun q => c q.2)]
        exact h1 j (by omega)) (fun j hj => by
      rw [lg_u]
      by_cases c : j = k / 2
      · rw [if_pos ⟨rfl, c⟩]
      · rw [if_neg (fun q => c q.2), lg_u, if_neg (fun q => absurd q.1 (by decide))]
        exact h2 j (by omega))
    exact ⟨f', e, a1, a2, fun b h7 h8 => by rw [a3 b h7 h8, ulg_ne h7, ulg_ne h8]⟩
theorem nb_0 : ∀ i, i < 16 → nbl 0 4 i = 0 := by decide +kernel
theorem nb_9 : ∀ i, i < 16 → nbl (-7378697629483820647) 4 i = 9 := by decide +kernel
theorem nb_99 : ∀ i, i < 8 → nbl 7161677110969590627 8 i = 99 := by decide +kernel
def gQ (k : Nat) : Int32 := if k = 3 then 1000 else if k = 2 then 10 else if k = 1 then 10 else 0
theorem gQ_ok : ∀ q ∈ scalL, gQ q.1 = iv (s0 8 q.2) := by decide +kernel
theorem gQ_8 : gQ 8 = mk (dnS s0) := by decide +kernel
theorem law_in {f' : Nat → Nat → Int32} (a1 : ∀ j, j < 50 → lg f' 68 j = 7161677110969590627) (a2 : ∀ j, j < 25 → lg f' 67 j = -7378697629483820647) (a3 : ∀ b, b ≠ 67 → b ≠ 68 → f' b = fQ b) : CS s0 zQ (upf (upf (upf f' 74 1 10) 74 2 10) 74 3 1000) ∧ LW s0 (upf (upf (upf f' 74 1 10) 74 2 10) 74 3 1000) := by
  have lo : ∀ b, b ≠ 74 → upf (upf (upf f' 74 1 10) 74 2 10) 74 3 1000 b = f' b := fun b h => by rw [upf_ne h, upf_ne h, upf_ne h]
  have hi : ∀ k, upf (upf (upf f' 74 1 10) 74 2 10) 74 3 1000 74 k = gQ k := fun k => by
    rw [upf_g, upf_g, upf_g, a3 74 (by decide) (by decide), fQ_hi (by decide)]
    rfl
  generalize upf (upf (upf f' 74 1 10) 74 2 10) 74 3 1000 = F at *
  have g66 : ∀ j, lg F 66 j = 0 := fun j => by
    rw [lgf_cg ((lo 66 (by decide)).trans (a3 66 (by decide) (by decide))), lg_hi (by decide)]
  have z66 : ∀ p, h4 F 66 p = 0 := fun p => by
    unfold h4
    rw [g66, nb_0 _ (Nat.mod_lt _ (by decide))]
    rfl
  refine ⟨⟨fun q hq k hk => ?_, cq_sc⟩, ⟨⟨fun p _ => z66 p, fun p _ => z66 (400 + p), fun p hp => ?_, fun p hp => ?_⟩, fun k _ h => ?_, fun q hq => ?_⟩, ?_, fun k _ h => absurd rfl h, fun h => absurd rfl h, fun k _ h => ?_, fun k _ h => ?_⟩
  · have ne : ∀ q ∈ arrsC, q.1 ≠ 67 ∧ q.1 ≠ 68 ∧ q.1 ≠ 74 := by decide +kernel
    obtain ⟨n1, n2, n3⟩ := ne q hq
    rw [lo _ n3, a3 _ n1 n2]
    exact cq_arr q hq k hk
  · unfold h4
    rw [lgf_cg (lo 67 (by decide)), a2 _ (by omega), nb_9 _ (Nat.mod_lt _ (by decide))]
    rfl
  · unfold h8
    rw [lgf_cg (lo 68 (by decide)), a1 _ (by omega), nb_99 _ (Nat.mod_lt _ (by decide))]
    rfl
  · have : (k : Int) < 0 := h
    omega
  · rw [hi]; exact gQ_ok q hq
  · rw [hi]; exact gQ_8
  · have : (k : Int) < 0 := h
    omega
  · have : (k : Int) < 0 := h
    omega
/-- the law says true, whatever the script -/
theorem law_run {L : Nat} {xs : Nat → Int32} (hL : L < 2147483648) : ∃ ws', m_L_law L xs [] = some (1, ws') := by
  rw [law_start, show (0 : Int32) = iv ((0 : Nat) : Int) from rfl, e_L_law_l63]
  obtain ⟨f', e, a1, a2, a3⟩ := fill_63 (L := L) (xs := xs) (z := zQ) 50 61 0 fQ (by decide) (by decide) (fun j h => absurd h (Nat.not_lt_zero _)) (fun j h => absurd h (Nat.not_lt_zero _))
  obtain ⟨c, l⟩ := law_in a1 a2 a3
  obtain ⟨z', f'', r⟩ := law_first (L := L) (xs := xs) hL c l wf_0 rfl rfl rfl
  rw [e, g_L_law_l63, if_pos (show (50 : Int32) ≤ iv ((50 : Nat) : Int) by decide), lt2_e, lt2_e, lt2_e, r]
  exact ⟨_, rfl⟩
end
