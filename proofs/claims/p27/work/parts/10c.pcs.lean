theorem onL_sw {w mx my : Int} {a b : Pt} (h : onL w mx my a b) : onL w mx my b a := by
  refine ⟨by rw [tm_sw, h.1]; rfl, ?_⟩
  have e : dt w mx my b a = dt w mx my a b := by unfold dt; grind
  rw [e]
  exact h.2
theorem onL_zero {w mx my : Int} {a : Pt} : onL w mx my a a ↔ w * a.1 - mx = 0 ∧ w * a.2 - my = 0 := by
  constructor
  · rintro ⟨-, h⟩
    unfold dt at h
    apply Classical.byContradiction
    intro q
    have := hg_sqs q
    omega
  · rintro ⟨h1, h2⟩
    refine ⟨tm_self, ?_⟩
    unfold dt
    rw [h1, h2]
    decide
theorem tri_rot {w mx my : Int} {a b c : Pt} (h : tri w mx my a b c) : tri w mx my b c a := by
  have := h.1
  have := h.2
  unfold tri
  omega
theorem tri_swp {w mx my : Int} {a b c : Pt} (h : tri w mx my a b c) : tri w mx my b a c := by
  have h1 := h.1
  have h2 := h.2
  have e1 := tm_sw (w := w) (mx := mx) (my := my) (a := a) (b := b)
  have e2 := tm_sw (w := w) (mx := mx) (my := my) (a := b) (b := c)
  have e3 := tm_sw (w := w) (mx := mx) (my := my) (a := c) (b := a)
  unfold tri
  omega
theorem tri_ne {w mx my : Int} {a c : Pt} : ¬ tri w mx my a a c := fun h => by
  have h1 := h.1
  have e1 := tm_self (w := w) (mx := mx) (my := my) (a := a)
  have e3 := tm_sw (w := w) (mx := mx) (my := my) (a := c) (b := a)
  omega
section
variable {w mx my : Int} {L : List Pt} {z f : Nat → Nat → Int32}
def PQ (w mx my : Int) (L : List Pt) (a : Nat) : Prop := PL w mx my L a a ∨ ∃ b', a + 1 ≤ b' ∧ (PL w mx my L a b' ∨ ∃ c', b' + 1 ≤ c' ∧ PT w mx my L a b' c')
theorem PQ_in : (∃ a, PQ w mx my L a) ↔ inP w mx my L := by
  constructor
  · rintro ⟨a, ⟨h1, h2, h3⟩ | ⟨b, -, ⟨h1, h2, h3⟩ | ⟨c, -, h1, h2, h3, h4⟩⟩⟩
    · exact Or.inl ⟨_, List.getElem_mem h1, _, List.getElem_mem h2, h3⟩
    · exact Or.inl ⟨_, List.getElem_mem h1, _, List.getElem_mem h2, h3⟩
    · exact Or.inr ⟨_, List.getElem_mem h1, _, List.getElem_mem h2, _, List.getElem_mem h3, h4⟩
  · have ord : ∀ a b c, a < b → b < c → PT w mx my L a b c → ∃ a, PQ w mx my L a := fun a b c h1 h2 h3 => ⟨a, Or.inr ⟨b, h1, Or.inr ⟨c, h2, h3⟩⟩⟩
    have rot : ∀ a b c, PT w mx my L a b c → PT w mx my L b c a := fun a b c ⟨h1, h2, h3, h4⟩ => ⟨h2, h3, h1, tri_rot h4⟩
    have swp : ∀ a b c, PT w mx my L a b c → PT w mx my L b a c := fun a b c ⟨h1, h2, h3, h4⟩ => ⟨h2, h1, h3, tri_swp h4⟩
    have ne : ∀ a c, ¬ PT w mx my L a a c := fun a c ⟨h1, h2, h3, h4⟩ => tri_ne h4
    rintro (⟨a, ha, b, hb, h⟩ | ⟨a, ha, b, hb, c, hc, h⟩)
    · obtain ⟨i, hi, rfl⟩ := List.getElem_of_mem ha
      obtain ⟨j, hj, rfl⟩ := List.getElem_of_mem hb
      rcases Nat.lt_trichotomy i j with q | q | q
      · exact ⟨i, Or.inr ⟨j, q, Or.inl ⟨hi, hj, h⟩⟩⟩
      · subst q; exact ⟨i, Or.inl ⟨hi, hj, h⟩⟩
      · exact ⟨j, Or.inr ⟨i, q, Or.inl ⟨hj, hi, onL_sw h⟩⟩⟩
    · obtain ⟨i, hi, rfl⟩ := List.getElem_of_mem ha
      obtain ⟨j, hj, rfl⟩ := List.getElem_of_mem hb
      obtain ⟨k, hk, rfl⟩ := List.getElem_of_mem hc
      have t : PT w mx my L i j k := ⟨hi, hj, hk, h⟩
      have n1 : i ≠ j := fun e => by subst e; exact ne _ _ t
      have n2 : j ≠ k := fun e => by subst e; exact ne _ _ (rot _ _ _ t)
      have n3 : k ≠ i := fun e => by subst e; exact ne _ _ (rot _ _ _ (rot _ _ _ t))
      have t2 := rot _ _ _ t
      have t3 := rot _ _ _ t2
      rcases Nat.lt_or_gt_of_ne n1 with q1 | q1 <;> rcases Nat.lt_or_gt_of_ne n2 with q2 | q2 <;> rcases Nat.lt_or_gt_of_ne n3 with q3 | q3
      · omega
      · exact ord i j k q1 q2 t
      · exact ord k i j q3 q1 t3
      · exact ord i k j q3 q2 (swp _ _ _ t3)
      · exact ord j k i q2 q3 t2
      · exact ord j i k q1 q3 (swp _ _ _ t)
      · exact ord k j i q2 q1 (swp _ _ _ t2)
      · omega
theorem pc_2 (hB : mxB w mx my) (hp : ∀ a ∈ L, pB a) (hl : L.length ≤ 6) (h : pcOk w mx my L f) (hz : z 28 2 = iv L.length) : ∀ (n fu a : Nat), a + n = L.length → n < fu → ((∃ a', a ≤ a' ∧ PQ w mx my L a') → g_X6_holdMoment_l2 fu (iv a) z f = some 1) ∧ ((¬ ∃ a', a ≤ a' ∧ PQ w mx my L a') → g_X6_holdMoment_l2 fu (iv a) z f = some 0) := by
  intro n
  induction n with
  | zero =>
    intro fu a ha hf
    obtain ⟨fu, rfl⟩ : ∃ x, fu = x + 1 := ⟨fu - 1, by omega⟩
    refine ⟨fun ⟨a', h1, h2⟩ => ?_, fun _ => ?_⟩
    · rcases h2 with ⟨q, _, _⟩ | ⟨b', _, ⟨q, _, _⟩ | ⟨c', _, q, _, _⟩⟩ <;> omega
    rw [g_X6_holdMoment_l2, hz, if_pos ((iv_le (ibn (by omega)) (ibn (by omega))).mpr (by omega))]
  | succ n ih =>
    intro fu a ha hf
    obtain ⟨fu, rfl⟩ : ∃ x, fu = x + 1 := ⟨fu - 1, by omega⟩
    obtain ⟨i1, i2⟩ := ih fu (a + 1) (by omega) (by omega)
    have hal : a < L.length := by omega
    have pb := pc_bd hB (hp _ (List.getElem_mem hal))
    obtain ⟨f1, f2⟩ := h a hal
    have k1 : iv (w * L[a].1 - mx) = (0 : Int32) ↔ w * L[a].1 - mx = 0 := iv_eq (b := 0) (by unfold IB; omega) (by decide)
    have k2 : iv (w * L[a].2 - my) = (0 : Int32) ↔ w * L[a].2 - my = 0 := iv_eq (b := 0) (by unfold IB; omega) (by decide)
    obtain ⟨j1, j2⟩ := pc_38 (k2 := fun y0 z f => g_X6_holdMoment_l2 fu y0 z f) hB hp hl h hz hal (L.length - (a + 1)) FU (a + 1) (by omega) (by show _ < 2000; omega)
    have rest : (¬ PL w mx my L a a) → ((∃ a', a ≤ a' ∧ PQ w mx my L a') → g_X6_holdMoment_b34 (fun y0 z f => g_X6_holdMoment_l2 fu y0 z f) (iv a) z f = some 1) ∧ ((¬ ∃ a', a ≤ a' ∧ PQ w mx my L a') → g_X6_holdMoment_b34 (fun y0 z f => g_X6_holdMoment_l2 fu y0 z f) (iv a) z f = some 0) := by
      intro hz0
      unfold g_X6_holdMoment_b34
      rw [iv_1]
      by_cases hc : ∃ b', a + 1 ≤ b' ∧ (PL w mx my L a b' ∨ ∃ c', b' + 1 ≤ c' ∧ PT w mx my L a b' c')
      · exact ⟨fun _ => j1 hc, fun e => absurd ⟨a, Nat.le_refl _, Or.inr hc⟩ e⟩
      · rw [j2 hc]
        refine ⟨fun ⟨a', h1, h2⟩ => i1 ⟨a', ?_, h2⟩, fun e => i2 (fun ⟨a', h1, h2⟩ => e ⟨a', by omega, h2⟩)⟩
        rcases Nat.lt_or_eq_of_le h1 with q | q
        · exact q
        · subst q; exact absurd h2 (fun r => r.elim hz0 hc)
    rw [g_X6_holdMoment_l2, hz, if_neg (fun e => by have := (iv_le (ibn (by omega)) (ibn (by omega))).mp e; omega), rdR_iv (by omega) (by decide), rdR_iv (by omega) (by decide), f1, f2]
    by_cases c1 : w * L[a].1 - mx = 0
    · rw [if_pos (k1.mpr c1)]
      by_cases c2 : w * L[a].2 - my = 0
      · rw [if_pos (k2.mpr c2)]
        exact ⟨fun _ => rfl, fun e => absurd ⟨a, Nat.le_refl _, Or.inl ⟨hal, hal, onL_zero.mpr ⟨c1, c2⟩⟩⟩ e⟩
      · rw [if_neg (fun q => c2 (k2.mp q))]
        exact rest (fun ⟨_, _, q⟩ => c2 (onL_zero.mp q).2)
    · rw [if_neg (fun q => c1 (k1.mp q))]
      exact rest (fun ⟨_, _, q⟩ => c1 (onL_zero.mp q).1)
theorem pc_holds (hB : mxB w mx my) (hp : ∀ a ∈ L, pB a) (hl : L.length ≤ 6) (h : pcOk w mx my L f) (hz : z 28 2 = iv L.length) : g_X6_holdMoment z f = some (if inB w mx my L then 1 else 0) := by
  obtain ⟨h1, h2⟩ := pc_2 hB hp hl h hz L.length FU 0 (by omega) (by show _ < 2000; omega)
  have e : (∃ a', 0 ≤ a' ∧ PQ w mx my L a') ↔ inP w mx my L := by
    rw [← PQ_in]
    exact ⟨fun ⟨a, _, q⟩ => ⟨a, q⟩, fun ⟨a, q⟩ => ⟨a, Nat.zero_le _, q⟩⟩
  by_cases c : inB w mx my L = true
  · rw [if_pos c]
    exact h1 (e.mpr (inB_iff.mp c))
  · rw [if_neg c]
    exact h2 (fun q => c (inB_iff.mpr (e.mp q)))
end
