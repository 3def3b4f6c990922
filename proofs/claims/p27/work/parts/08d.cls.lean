theorem fls_nB {ft : Nat → Int} {but : Int} (h : ftOk ft) : ∀ a ∈ fls ft but, nB a := fun a ha => by
  obtain ⟨k, -, h2, -, h4, h5⟩ := (flN_mem 6 0).mp ha
  rw [← h5]
  exact (h k (by omega)).resolve_left h4
abbrev flP (ft : Nat → Int) (but : Int) : List Pt := (fls ft but).map pt
theorem cw_wrap0 {ft : Nat → Int} {but : Int} (hbut : -1 ≤ but ∧ but < 6) {a1 : Nat} (ha : a1 + 1 ≠ 5) (hft : ftOk ft) {z f : Nat → Nat → Int32} (hF : ∀ j, j < 6 → f (a1 + 1) j = iv (ft j)) (h0 : fls ft but = []) : ∃ c5 c3, g_X4_wrap a1 (iv but) z f = some (up2 z 1 2 (iv (0 : Nat)), upa (upa f 5 c5) 3 c3) ∧ c3 0 = iv 400 := by
  obtain ⟨c5, e, -⟩ := cw_10 hbut ha hft 6 FU 0 [] z f rfl (by decide) (Nat.le_refl _) (fun a h => absurd h List.not_mem_nil) hF (fun j h => absurd h (by simp))
  have e2 : [] ++ flN ft but 6 0 = [] := h0
  rw [e2] at e
  refine ⟨c5, upd (upa f 5 c5 3) 0 (iv 400), ?_, upd_at⟩
  refine Eq.trans e ?_
  show g_X4_wrap_l74 2000 (iv (0 : Nat)) (iv 400) (iv 400) (up2 z 1 2 0) (upa f 5 c5) = _
  rw [g_X4_wrap_l74, up2_same, if_pos (show iv (0 : Nat) ≤ (0 : Int32) by decide)]
  unfold g_X4_wrap_b175 lt2
  rw [up2_same, show (0 : Int32) = iv (0 : Nat) from rfl, wrR_iv (by decide) (by decide), upf_up]
theorem cw_wrap1 {ft : Nat → Int} {but : Int} (hbut : -1 ≤ but ∧ but < 6) {a1 : Nat} (ha : a1 + 1 ≠ 5) (hft : ftOk ft) {z f : Nat → Nat → Int32} (hF : ∀ j, j < 6 → f (a1 + 1) j = iv (ft j)) (h0 : fls ft but ≠ []) : ∃ st m, st ∈ fls ft but ∧ stP (flP ft but) (pt st) ∧ 1 ≤ m ∧ m ≤ 6 ∧ cs (flP ft but) (pt st) m = pt st ∧ (∀ i, 0 < i → i < m → cs (flP ft but) (pt st) i ≠ pt st) ∧ ∃ c5 c3, g_X4_wrap a1 (iv but) z f = some (up2 z 1 2 (iv m), upa (upa f 5 c5) 3 c3) ∧ ∀ j, j ≤ m → c3 j = iv (cN (fls ft but) st j) := by
  obtain ⟨c5, e, h5⟩ := cw_10 hbut ha hft 6 FU 0 [] z f rfl (by decide) (Nat.le_refl _) (fun a h => absurd h List.not_mem_nil) hF (fun j h => absurd h (by simp))
  have e2 : [] ++ flN ft but 6 0 = fls ft but := rfl
  simp only [e2] at e h5
  have hB := fls_nB (but := but) hft
  obtain ⟨m1, m2, m3, m4, m5⟩ := mnB hB 400 (by decide) (by decide)
  have hlen : (fls ft but).length ≤ 6 := flN_len 6 0
  have hst : (fls ft but).foldl min 400 ∈ fls ft but := by
    rcases m5 with h | h
    · exfalso
      obtain ⟨a, l, hl⟩ := List.exists_cons_of_ne_nil h0
      have ha : a ∈ fls ft but := by rw [hl]; exact List.mem_cons_self
      have := m3 a ha
      have := (hB a ha).2
      omega
    · exact h
  have hS : stP (flP ft but) (pt ((fls ft but).foldl min 400)) := by
    refine ⟨List.mem_map.mpr ⟨_, hst, rfl⟩, fun q hq hne => ?_⟩
    obtain ⟨a, ha, rfl⟩ := List.mem_map.mp hq
    rw [pt_fi, pt_fi]
    have := m3 a ha
    have : a ≠ (fls ft but).foldl min 400 := fun e => hne (by rw [e])
    omega
  obtain ⟨m, r1, r2, r3, r4⟩ := cs_ret (st_ex hS)
  rw [List.length_map] at r2
  have hr : cN (fls ft but) ((fls ft but).foldl min 400) m = (fls ft but).foldl min 400 := pt_inj ((cN_pt _ _ m).trans r3)
  have hm : ∀ i, 0 < i → i < m → cN (fls ft but) ((fls ft but).foldl min 400) i ≠ (fls ft but).foldl min 400 := fun i h1 h2 e => r4 i h1 h2 (by rw [← cN_pt, e])
  obtain ⟨c3, g1, g2⟩ := cw_74 hB hlen hst r1 r2 hr hm m FU 0 (up2 z 1 2 0) (upa f 5 c5) (by omega) (by show m < 2000; omega) up2_same (fun j h => by rw [upa_same]; exact h5 j h) (fun j h => by omega)
  rw [up2_up2] at g1
  exact ⟨_, m, hst, hS, r1, by omega, r3, r4, c5, c3, e.trans g1, g2⟩
/-- .. whether a place is in the hull -/
theorem eb_eg {a b : Int} (ha : nB a) (hb : nB b) {mx my w : Int} {z f : Nat → Nat → Int32} : g_X4_edgeByWay (iv a) (iv b) (iv mx) (iv my) (iv w) z f = some (iv (eg w mx my (pt a) (pt b))) := by
  unfold g_X4_edgeByWay
  simp only [iv_x ha, iv_x hb, iv_y ha, iv_y hb, iv_sub, iv_mul]
  rfl
theorem eg_bd {a b : Int} (ha : nB a) (hb : nB b) {mx my w : Int} (hx : -2000 ≤ mx ∧ mx ≤ 2000) (hy : -2000 ≤ my ∧ my ≤ 2000) (hw : 0 < w ∧ w ≤ 30) : -200000 ≤ eg w mx my (pt a) (pt b) ∧ eg w mx my (pt a) (pt b) ≤ 200000 := by
  have pa := pt_bd ha
  have pb := pt_bd hb
  have n1 := bd_mul (a := w) (b := (pt a).2) (A := 30) (B := 19) (by omega) (by omega)
  have n2 := bd_mul (a := w) (b := (pt a).1) (A := 30) (B := 19) (by omega) (by omega)
  have m1 := bd_mul (a := (pt b).1 - (pt a).1) (b := my - w * (pt a).2) (A := 19) (B := 2570) (by omega) (by omega)
  have m2 := bd_mul (a := (pt b).2 - (pt a).2) (b := mx - w * (pt a).1) (A := 19) (B := 2570) (by omega) (by omega)
  unfold eg
  omega
theorem iw_in {a b c : Int} (ha : IB a) (hb : IB b) (hc : IB c) {z f : Nat → Nat → Int32} : g_X10_isWithin (iv a) (iv b) (iv c) z f = some (if b ≤ a ∧ a ≤ c then 1 else 0) := by
  unfold g_X10_isWithin
  by_cases h1 : a < b
  · rw [if_pos ((iv_lt ha hb).mpr h1), if_neg (by omega)]
  · rw [if_neg (fun e => h1 ((iv_lt ha hb).mp e))]
    by_cases h2 : c < a
    · rw [if_pos ((iv_lt hc ha).mpr h2), if_neg (by omega)]
    · rw [if_neg (fun e => h2 ((iv_lt hc ha).mp e)), if_pos (by omega)]
def hPr (w mx my : Int) (c : Nat → Int) : Nat → Nat → Int → Int → Int → Int → Prop
  | 0, _, lx, hx, ly, hy => (lx ≤ mx ∧ mx ≤ hx) ∧ ly ≤ my ∧ my ≤ hy
  | k + 1, i, lx, hx, ly, hy => 0 ≤ eg w mx my (pt (c i)) (pt (c (i + 1))) ∧ hPr w mx my c k (i + 1) (min lx (w * (pt (c i)).1)) (max hx (w * (pt (c i)).1)) (min ly (w * (pt (c i)).2)) (max hy (w * (pt (c i)).2))
theorem hPr_iff {w mx my : Int} {c : Nat → Int} : ∀ (k i : Nat) (lx hx ly hy : Int), hPr w mx my c k i lx hx ly hy ↔ (∀ j, i ≤ j → j < i + k → 0 ≤ eg w mx my (pt (c j)) (pt (c (j + 1)))) ∧ ((lx ≤ mx ∨ ∃ j, i ≤ j ∧ j < i + k ∧ w * (pt (c j)).1 ≤ mx) ∧ (mx ≤ hx ∨ ∃ j, i ≤ j ∧ j < i + k ∧ mx ≤ w * (pt (c j)).1)) ∧ (ly ≤ my ∨ ∃ j, i ≤ j ∧ j < i + k ∧ w * (pt (c j)).2 ≤ my) ∧ (my ≤ hy ∨ ∃ j, i ≤ j ∧ j < i + k ∧ my ≤ w * (pt (c j)).2)
  | 0, i, lx, hx, ly, hy => by
    have no : ∀ {P : Nat → Prop}, ¬ ∃ j, i ≤ j ∧ j < i + 0 ∧ P j := fun ⟨j, h1, h2, _⟩ => by omega
    unfold hPr
    constructor
    · rintro ⟨⟨a, b⟩, c, d⟩
      exact ⟨fun j h1 h2 => by omega, ⟨Or.inl a, Or.inl b⟩, Or.inl c, Or.inl d⟩
    · rintro ⟨-, ⟨a, b⟩, c, d⟩
      exact ⟨⟨a.resolve_right no, b.resolve_right no⟩, c.resolve_right no, d.resolve_right no⟩
  | k + 1, i, lx, hx, ly, hy => by
    unfold hPr
    rw [hPr_iff k (i + 1)]
    have ex : ∀ {P : Nat → Prop}, (∃ j, i ≤ j ∧ j < i + (k + 1) ∧ P j) ↔ P i ∨ ∃ j, i + 1 ≤ j ∧ j < i + 1 + k ∧ P j := by
      intro P
      constructor
      · rintro ⟨j, h1, h2, h3⟩
        rcases Nat.lt_or_eq_of_le h1 with h | h
        · exact Or.inr ⟨j, h, by omega, h3⟩
        · subst h; exact Or.inl h3
      · rintro (h | ⟨j, h1, h2, h3⟩)
        · exact ⟨i, Nat.le_refl _, by omega, h⟩
        · exact ⟨j, by omega, by omega, h3⟩
    have al : ∀ {P : Nat → Prop}, (∀ j, i ≤ j → j < i + (k + 1) → P j) ↔ P i ∧ ∀ j, i + 1 ≤ j → j < i + 1 + k → P j := by
      intro P
      constructor
      · intro h
        exact ⟨h i (Nat.le_refl _) (by omega), fun j h1 h2 => h j (by omega) (by omega)⟩
      · rintro ⟨h0, h⟩ j h1 h2
        rcases Nat.lt_or_eq_of_le h1 with h3 | h3
        · exact h j h3 (by omega)
        · subst h3; exact h0
    rw [al, ex, ex, ex, ex]
    have q1 : ∀ (a b : Int), min lx a ≤ b ↔ lx ≤ b ∨ a ≤ b := fun a b => by omega
    have q2 : ∀ (a b : Int), b ≤ max hx a ↔ b ≤ hx ∨ b ≤ a := fun a b => by omega
    have q3 : ∀ (a b : Int), min ly a ≤ b ↔ ly ≤ b ∨ a ≤ b := fun a b => by omega
    have q4 : ∀ (a b : Int), b ≤ max hy a ↔ b ≤ hy ∨ b ≤ a := fun a b => by omega
    rw [q1, q2, q3, q4, or_assoc, or_assoc, or_assoc, or_assoc]
    simp only [and_assoc]
