section
variable {w mx my : Int} {L : List Pt} {z f : Nat → Nat → Int32}
def PT (w mx my : Int) (L : List Pt) (a b c : Nat) : Prop := ∃ (ha : a < L.length) (hb : b < L.length) (hc : c < L.length), tri w mx my L[a] L[b] L[c]
def PL (w mx my : Int) (L : List Pt) (a b : Nat) : Prop := ∃ (ha : a < L.length) (hb : b < L.length), onL w mx my L[a] L[b]
theorem pc_61 {k2 : Int32 → (Nat → Nat → Int32) → (Nat → Nat → Int32) → Option Int32} {k38 : Int32 → Int32 → (Nat → Nat → Int32) → (Nat → Nat → Int32) → Option Int32} (hB : mxB w mx my) (hp : ∀ a ∈ L, pB a) (hl : L.length ≤ 6) (h : pcOk w mx my L f) (hz : z 28 2 = iv L.length) {a b : Nat} (ha : a < L.length) (hb : b < L.length) : ∀ (n fu c : Nat), c + n = L.length → n < fu → ((∃ c', c ≤ c' ∧ PT w mx my L a b c') → g_X6_holdMoment_l61 k2 k38 fu (iv a) (iv b) (iv c) z f = some 1) ∧ ((¬ ∃ c', c ≤ c' ∧ PT w mx my L a b c') → g_X6_holdMoment_l61 k2 k38 fu (iv a) (iv b) (iv c) z f = k38 (iv a) (iv ((b + 1 : Nat) : Int)) z f) := by
  intro n
  induction n with
  | zero =>
    intro fu c hc hf
    obtain ⟨fu, rfl⟩ : ∃ x, fu = x + 1 := ⟨fu - 1, by omega⟩
    refine ⟨fun ⟨c', h1, _, _, h2, _⟩ => by omega, fun _ => ?_⟩
    rw [g_X6_holdMoment_l61, hz, if_pos ((iv_le (ibn (by omega)) (ibn (by omega))).mpr (by omega)), iv_1]
  | succ n ih =>
    intro fu c hc hf
    obtain ⟨fu, rfl⟩ : ∃ x, fu = x + 1 := ⟨fu - 1, by omega⟩
    obtain ⟨i1, i2⟩ := ih fu (c + 1) (by omega) (by omega)
    rw [g_X6_holdMoment_l61, hz, if_neg (fun e => by have := (iv_le (ibn (by omega)) (ibn (by omega))).mp e; omega), pc_tri hB hp hl h ha hb (show c < L.length by omega), Option.bind_some]
    by_cases ht : tri w mx my L[a] L[b] (L[c]'(by omega))
    · rw [if_pos ht, if_neg (by decide)]
      exact ⟨fun _ => rfl, fun e => absurd ⟨c, Nat.le_refl _, ha, hb, by omega, ht⟩ e⟩
    · rw [if_neg ht, if_pos rfl, iv_1]
      have hno : ¬ PT w mx my L a b c := fun ⟨_, _, _, q⟩ => ht q
      refine ⟨fun ⟨c', h1, h2⟩ => i1 ⟨c', ?_, h2⟩, fun e => i2 (fun ⟨c', h1, h2⟩ => e ⟨c', by omega, h2⟩)⟩
      rcases Nat.lt_or_eq_of_le h1 with q | q
      · exact q
      · subst q; exact absurd h2 hno
theorem pc_38 {k2 : Int32 → (Nat → Nat → Int32) → (Nat → Nat → Int32) → Option Int32} (hB : mxB w mx my) (hp : ∀ a ∈ L, pB a) (hl : L.length ≤ 6) (h : pcOk w mx my L f) (hz : z 28 2 = iv L.length) {a : Nat} (ha : a < L.length) : ∀ (n fu b : Nat), b + n = L.length → n < fu → ((∃ b', b ≤ b' ∧ (PL w mx my L a b' ∨ ∃ c', b' + 1 ≤ c' ∧ PT w mx my L a b' c')) → g_X6_holdMoment_l38 k2 fu (iv a) (iv b) z f = some 1) ∧ ((¬ ∃ b', b ≤ b' ∧ (PL w mx my L a b' ∨ ∃ c', b' + 1 ≤ c' ∧ PT w mx my L a b' c')) → g_X6_holdMoment_l38 k2 fu (iv a) (iv b) z f = k2 (iv ((a + 1 : Nat) : Int)) z f) := by
  intro n
  induction n with
  | zero =>
    intro fu b hb hf
    obtain ⟨fu, rfl⟩ : ∃ x, fu = x + 1 := ⟨fu - 1, by omega⟩
    refine ⟨fun ⟨b', h1, h2⟩ => ?_, fun _ => ?_⟩
    · rcases h2 with ⟨_, q, _⟩ | ⟨c', _, _, q, _⟩ <;> omega
    rw [g_X6_holdMoment_l38, hz, if_pos ((iv_le (ibn (by omega)) (ibn (by omega))).mpr (by omega)), iv_1]
  | succ n ih =>
    intro fu b hb hf
    obtain ⟨fu, rfl⟩ : ∃ x, fu = x + 1 := ⟨fu - 1, by omega⟩
    obtain ⟨i1, i2⟩ := ih fu (b + 1) (by omega) (by omega)
    have hbl : b < L.length := by omega
    rw [g_X6_holdMoment_l38, hz, if_neg (fun e => by have := (iv_le (ibn (by omega)) (ibn (by omega))).mp e; omega), pc_line hB hp hl h ha hbl, Option.bind_some]
    by_cases ht : onL w mx my L[a] L[b]
    · rw [if_pos ht, if_neg (by decide)]
      exact ⟨fun _ => rfl, fun e => absurd ⟨b, Nat.le_refl _, Or.inl ⟨ha, hbl, ht⟩⟩ e⟩
    · rw [if_neg ht, if_pos rfl, iv_1]
      obtain ⟨j1, j2⟩ := pc_61 (k2 := k2) (k38 := fun y0 y1 z f => g_X6_holdMoment_l38 k2 fu y0 y1 z f) hB hp hl h hz ha hbl (L.length - (b + 1)) FU (b + 1) (by omega) (by show _ < 2000; omega)
      have hno : ¬ PL w mx my L a b := fun ⟨_, _, q⟩ => ht q
      by_cases hc : ∃ c', b + 1 ≤ c' ∧ PT w mx my L a b c'
      · exact ⟨fun _ => j1 hc, fun e => absurd ⟨b, Nat.le_refl _, Or.inr hc⟩ e⟩
      · rw [j2 hc]
        refine ⟨fun ⟨b', h1, h2⟩ => i1 ⟨b', ?_, h2⟩, fun e => i2 (fun ⟨b', h1, h2⟩ => e ⟨b', by omega, h2⟩)⟩
        rcases Nat.lt_or_eq_of_le h1 with q | q
        · exact q
        · subst q; exact absurd h2 (fun r => r.elim hno hc)
end
