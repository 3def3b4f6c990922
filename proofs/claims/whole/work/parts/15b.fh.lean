section
variable {s : MSt} {z f : Nat → Nat → Int32}
theorem lv_wo {k : Nat} : lvS (s 3) (us s 7 k (-1) 7) (-1) = lvS (s 3) (s 7) k := by
  have : ∀ n i v, lvN (s 3) (us s 7 k (-1) 7) (-1) n i v = lvN (s 3) (s 7) k n i v := by
    intro n
    induction n with
    | zero => intro i v; rfl
    | succ n ih =>
      intro i v
      unfold lvN
      rw [ih]
      by_cases e : i = k
      · subst e
        rw [if_pos (Or.inr us_at), if_pos (Or.inl rfl)]
      · rw [us_nk e]
        have e1 : ¬ (i : Int) = k := by omega
        have e2 : ¬ (i : Int) = -1 := by omega
        simp only [e1, e2, false_or]
  exact this 6 0 0
/-- the best of the points below n -/
def mbP (s : MSt) (k : Nat) (n : Nat) (r l : Int) : Prop := (r = -1 ∧ ∀ q, elS s k q → ¬ q < n) ∨ (elS s k r ∧ r < n ∧ l = coS s k r ∧ ∀ q, elS s k q → q < n → coS s k r < coS s k q ∨ (coS s k r = coS s k q ∧ r ≤ q))
theorem tk_who (hD : DS s) {k : Nat} (hk6 : k < 6) {p r : Int} (hp : nB p) (r1 : -1 ≤ r ∧ r < 6) (r2 : r = -1 ↔ tkS (s 7) p (-1) = false) (r3 : r ≠ -1 → s 7 r.toNat = p) : (r = -1 ∨ r = k) ↔ tkS (s 7) p k = false := by
  rw [← Bool.not_eq_true, tkN_iff]
  constructor
  · rintro (h | h) ⟨j, -, hj, hne, hjp⟩
    · exact tk_no (r2.mp h) j (by omega) hjp
    · have h3 := r3 (by omega)
      have : r.toNat = k := by omega
      rw [this] at h3
      exact hne (by have := hD j k (by omega) hk6 (by rw [hjp]; unfold nB at hp; omega) (hjp.trans h3.symm); omega)
  · intro h
    apply Classical.byContradiction
    intro q
    have q1 : r ≠ -1 := fun e => q (Or.inl e)
    exact h ⟨r.toNat, Nat.zero_le _, by omega, fun e => q (Or.inr (by omega)), r3 q1⟩
theorem mb_step (hk : KO s) (hG : LG s) (hD : DS s) (h17 : z 66 17 = mk (dnS s)) (hL : LM s z f) (hF : FX s f) {k : Nat} (hk6 : k < 6) : ∀ (n fu p : Nat) (r l : Int), p + n = 400 → n < fu → (0 ≤ l ∧ l ≤ 1000) → (-1 ≤ r ∧ r < 400) → mbP s k p r l → ∃ r', bsP s k r' ∧ g_X11_footholdOf_l26 fu (iv k) (iv (lvS (s 3) (s 7) k)) (iv r) (iv l) (iv p) z f = some (iv r') := by
  have hB := ko_bd hk
  have lb := lv_bd hB (but := (k : Int))
  intro n
  induction n with
  | zero =>
    intro fu p r l hp hf hl hr hi
    obtain ⟨fu, rfl⟩ : ∃ x, fu = x + 1 := ⟨fu - 1, by omega⟩
    obtain rfl : p = 400 := by omega
    refine ⟨r, ?_, ?_⟩
    · rcases hi with ⟨a, b⟩ | ⟨a, b, c, d⟩
      · exact Or.inl ⟨a, fun q hq => b q hq (by have := hq.1; unfold nB at this; omega)⟩
      · exact Or.inr ⟨a, fun q hq => d q hq (by have := hq.1; unfold nB at this; omega)⟩
    · rw [g_X11_footholdOf_l26, if_pos (show (400 : Int32) ≤ iv ((400 : Nat) : Int) by decide)]
  | succ n ih =>
    intro fu p r l hp hf hl hr hi
    obtain ⟨fu, rfl⟩ : ∃ x, fu = x + 1 := ⟨fu - 1, by omega⟩
    have hp4 : p < 400 := by omega
    have hn : nB (p : Int) := by unfold nB; omega
    have etn : (p : Int).toNat = p := Int.toNat_natCast p
    have mb : 0 ≤ s 3 p ∧ s 3 p ≤ 9 := hk 3 _
    have fb := faS_bd hB hk6 hn
    have hco : coS s k p = 10 * ((s 3 p - lvS (s 3) (s 7) k).natAbs : Int) + faS s k p := by unfold coS; rw [etn]
    rw [g_X11_footholdOf_l26, if_neg (fun e => by have := (iv_le (a := 400) (by decide) (ibn (by omega))).mp e; omega), ix_iv hp4 (by decide), Option.bind_some, ma hL 70 3 400 (by decide) _ hp4, iv_x hn, iv_y hn]
    -- the tail, for the difference without its sign
    have tail : ∀ v : Int, v = ((s 3 p - lvS (s 3) (s 7) k).natAbs : Int) → ∃ r', bsP s k r' ∧ g_X11_footholdOf_b80 (fun y0 y1 y2 y3 y4 z f => g_X11_footholdOf_l26 fu y0 y1 y2 y3 y4 z f) (iv k) (iv (lvS (s 3) (s 7) k)) (iv r) (iv l) (iv p) (iv (pt (p : Int)).1) (iv (pt (p : Int)).2) (iv v) z f = some (iv r') := by
      intro v hv
      obtain ⟨w, w1, w2, w3⟩ := mo_foot hk hG hL h17 hF hn
      have wt : w = -1 ↔ tkS (s 7) p (-1) = false := by
        rw [← Bool.not_eq_true, tkN_iff]
        constructor
        · rintro h ⟨j, -, hj6, -, q⟩
          rcases w3 with w3 | w3
          · exact w3.2 j (by omega) q
          · exact w3.1 h
        · intro h
          rcases w3 with w3 | w3
          · exact w3.1
          · exact absurd ⟨w.toNat, Nat.zero_le _, by omega, by omega, w3.2⟩ h
      have who := tk_who hD hk6 hn w2 wt (fun h => (w3.resolve_left (fun q => h q.1)).2)
      have ec : iv 10 * iv v + iv (faS s k p) = iv (coS s k p) := by rw [iv_mul, iv_add, hco, hv]
      unfold g_X11_footholdOf_b80
      rw [w1, Option.bind_some, mo_reach hB hL hk6 hn, Option.bind_some]
      -- not eligible
      have no : ¬ elS s k p → ∃ r', bsP s k r' ∧ g_X11_footholdOf_b126 (fun y0 y1 y2 y3 y4 z f => g_X11_footholdOf_l26 fu y0 y1 y2 y3 y4 z f) (iv k) (iv (lvS (s 3) (s 7) k)) (iv r) (iv l) (iv p) (iv (pt (p : Int)).1) (iv (pt (p : Int)).2) (iv v) z f = some (iv r') := fun hne => by
        unfold g_X11_footholdOf_b126 g_X11_footholdOf_b127 g_X11_footholdOf_b168 g_X11_footholdOf_b169 g_X11_footholdOf_b183 g_X11_footholdOf_b197
        rw [mo_far hB hL hk6 hn, Option.bind_some, if_pos rfl, if_pos rfl, if_pos rfl, iv_1]
        refine ih fu (p + 1) r l (by omega) (by omega) hl hr ?_
        rcases hi with ⟨a, b⟩ | ⟨a, b, c, d⟩
        · refine Or.inl ⟨a, fun q hq hlt => ?_⟩
          by_cases e : q = p
          · subst e; exact hne hq
          · exact b q hq (by omega)
        · refine Or.inr ⟨a, by omega, c, fun q hq hlt => ?_⟩
          by_cases e : q = p
          · subst e; exact absurd hq hne
          · exact d q hq (by omega)
      have yes : elS s k p → ∃ r', bsP s k r' ∧ g_X11_footholdOf_b122 (fun y0 y1 y2 y3 y4 z f => g_X11_footholdOf_l26 fu y0 y1 y2 y3 y4 z f) (iv k) (iv (lvS (s 3) (s 7) k)) (iv r) (iv l) (iv p) (iv (pt (p : Int)).1) (iv (pt (p : Int)).2) (iv v) z f = some (iv r') := fun he => by
        have better : (r = -1 ∨ coS s k p < l) → ∃ r', bsP s k r' ∧ g_X11_footholdOf_b164 (fun y0 y1 y2 y3 y4 z f => g_X11_footholdOf_l26 fu y0 y1 y2 y3 y4 z f) (iv k) (iv (lvS (s 3) (s 7) k)) (iv r) (iv l) (iv p) (iv (coS s k p)) z f = some (iv r') := fun hq => by
          unfold g_X11_footholdOf_b164 g_X11_footholdOf_b169 g_X11_footholdOf_b183 g_X11_footholdOf_b197
          rw [if_neg (by decide), if_neg (by decide), iv_1]
          refine ih fu (p + 1) p (coS s k p) (by omega) (by omega) (by omega) (by omega) (Or.inr ⟨he, by omega, rfl, fun q hq2 hlt => ?_⟩)
          by_cases e : q = p
          · subst e; exact Or.inr ⟨rfl, Int.le_refl _⟩
          · rcases hi with ⟨a, b⟩ | ⟨a, b, c, d⟩
            · exact absurd (show q < p by omega) (b q hq2)
            · have hh := d q hq2 (by omega)
              have hr1 : r ≠ -1 := by have := a.1; unfold nB at this; omega
              have := hq.resolve_left hr1
              left; omega
        have worse : r ≠ -1 → l ≤ coS s k p → ∃ r', bsP s k r' ∧ g_X11_footholdOf_b168 (fun y0 y1 y2 y3 y4 z f => g_X11_footholdOf_l26 fu y0 y1 y2 y3 y4 z f) (iv k) (iv (lvS (s 3) (s 7) k)) (iv r) (iv l) (iv p) (iv (coS s k p)) z f = some (iv r') := fun hr1 hq => by
          unfold g_X11_footholdOf_b168 g_X11_footholdOf_b169 g_X11_footholdOf_b183 g_X11_footholdOf_b197
          rw [if_pos rfl, if_pos rfl, iv_1]
          refine ih fu (p + 1) r l (by omega) (by omega) hl hr ?_
          rcases hi with ⟨a, b⟩ | ⟨a, b, c, d⟩
          · exact absurd a hr1
          · refine Or.inr ⟨a, by omega, c, fun q hq2 hlt => ?_⟩
            by_cases e : q = p
            · subst e; omega
            · exact d q hq2 (by omega)
        unfold g_X11_footholdOf_b122 g_X11_footholdOf_b127
        rw [mo_far hB hL hk6 hn, Option.bind_some, if_neg (by decide), show (10 : Int32) = iv 10 from rfl, ec]
        by_cases e1 : r = -1
        · rw [if_pos (show iv r = (-1 : Int32) by rw [e1]; rfl)]
          exact better (Or.inl e1)
        · rw [if_neg (fun q => e1 ((m1_iv (by omega)).mp q))]
          have e2 : (iv l ≤ iv (coS s k p)) ↔ l ≤ coS s k p := iv_le (by omega) (by omega)
          by_cases e3 : l ≤ coS s k p
          · rw [if_pos (e2.mpr e3)]
            exact worse e1 e3
          · rw [if_neg (fun q => e3 (e2.mp q))]
            exact better (Or.inr (by omega))
      have i2 : ((2 : Int32) < iv v) ↔ 2 < v := iv_lt (a := 2) (by decide) (by omega)
      by_cases d1 : 2 < v
      · rw [if_pos (i2.mpr d1)]
        exact no (fun q => by have := q.2.1; rw [etn] at this; omega)
      rw [if_neg (fun q => d1 (i2.mp q))]
      by_cases d2 : inR s k p = true
      · rw [if_pos d2, if_neg (by decide)]
        by_cases d3 : w = -1
        · rw [if_pos (show iv w = (-1 : Int32) by rw [d3]; rfl)]
          exact yes ⟨hn, by rw [etn]; omega, d2, who.mp (Or.inl d3)⟩
        · rw [if_neg (fun q => d3 ((m1_iv (by omega)).mp q))]
          have e5 : (iv w = iv (k : Int)) ↔ w = k := iv_eq (by omega) (by omega)
          by_cases d4 : w = k
          · rw [if_pos (e5.mpr d4)]
            exact yes ⟨hn, by rw [etn]; omega, d2, who.mp (Or.inr d4)⟩
          · rw [if_neg (fun q => d4 (e5.mp q))]
            exact no (fun q => by rcases who.mpr q.2.2.2 with r | r; exact d3 r; exact d4 r)
      · rw [if_neg d2, if_pos rfl]
        exact no (fun q => d2 q.2.2.1)
    have el : (iv (s 3 p) ≤ iv (lvS (s 3) (s 7) k)) ↔ s 3 p ≤ lvS (s 3) (s 7) k := iv_le (by omega) (by omega)
    by_cases d : s 3 p ≤ lvS (s 3) (s 7) k
    · rw [if_pos (el.mpr d), Option.bind_some, ma hL 70 3 400 (by decide) _ hp4, iv_sub]
      exact tail _ (by omega)
    · rw [if_neg (fun q => d (el.mp q)), Option.bind_some, ma hL 70 3 400 (by decide) _ hp4, iv_sub]
      exact tail _ (by omega)
theorem mo_best (hk : KO s) (hG : LG s) (hD : DS s) (h17 : z 66 17 = mk (dnS s)) (hL : LM s z f) (hF : FX s f) {k : Nat} (hk6 : k < 6) : ∃ r, bsP s k r ∧ g_X11_footholdOf (iv k) z f = some (iv r) := by
  have hB := ko_bd hk
  have hk3 : KO (us s 7 k (-1)) := ko_us hk (a := 7) (show (-1 : Int) ≤ -1 ∧ (-1 : Int) ≤ 399 by decide)
  have hF3 : FX (us s 7 k (-1)) f := fun j hj hne => by
    by_cases e : j = k
    · subst e; rw [us_at] at hne; exact absurd rfl hne
    · rw [us_nk e] at hne ⊢; exact hF j hj hne
  unfold g_X11_footholdOf
  rw [h17, dn_clr hk6, mo_level (ko_bd hk3) (lm_us7 hL) hF3, Option.bind_some, show lvS (us s 7 k (-1) 3) (us s 7 k (-1) 7) (-1) = lvS (s 3) (s 7) k from lv_wo]
  obtain ⟨r, h1, h2⟩ := mb_step hk hG hD h17 hL hF hk6 400 FU 0 (-1) 0 (by decide) (by decide) (by decide) (by decide) (Or.inl ⟨rfl, fun q hq hlt => by have := hq.1; unfold nB at this; omega⟩)
  rw [show iv (-1) = (-1 : Int32) from rfl, show iv 0 = (0 : Int32) from rfl, show iv ((0 : Nat) : Int) = (0 : Int32) from rfl] at h2
  exact ⟨r, h1, h2⟩
/-- a foothold there is -/
theorem bs_ex (hk : KO s) {k : Nat} (hk6 : k < 6) : ∃ r, bsP s k r := by
  obtain ⟨r, h, -⟩ := cp_best (s := s) (z := fun a k => if a = 15 then iv (s 8 (k - 3)) else iv (s 8 k)) (f := fun a k => if a = 8 then iv (s 0 k) else if a = 10 then iv (s 1 k) else if a = 12 then iv (s 2 k) else if a = 14 then iv (s 3 k) else if a = 17 then iv (s 4 k) else if a = 19 then iv (s 5 k) else if a = 21 then iv (s 6 k) else iv (s 7 k)) hk hk6 (a0 := 22) ⟨⟨fun _ _ => rfl, fun _ _ => rfl, fun _ _ => rfl, fun _ _ => rfl⟩, ⟨fun _ _ => rfl, fun _ _ => rfl, fun _ _ => rfl⟩, rfl, rfl, rfl, rfl⟩ ⟨rfl, rfl, fun _ _ => rfl⟩
  exact ⟨r, h⟩
end
