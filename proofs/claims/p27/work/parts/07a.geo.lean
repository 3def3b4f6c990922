/-! whole numbers in the plane: the hull -/
abbrev Pt : Type := Int × Int
def tn (a b c : Pt) : Int := (b.1 - a.1) * (c.2 - a.2) - (b.2 - a.2) * (c.1 - a.1)
def sqd (a b : Pt) : Int := (b.1 - a.1) * (b.1 - a.1) + (b.2 - a.2) * (b.2 - a.2)
abbrev fur (p n q : Pt) : Prop := tn p n q < 0 ∨ (tn p n q = 0 ∧ sqd p n < sqd p q)
def hH (dx dy x y : Int) : Prop := 0 < dx * y - dy * x ∨ (dx * y - dy * x = 0 ∧ dx * x + dy * y < 0)
def HH (d p q : Pt) : Prop := hH d.1 d.2 (q.1 - p.1) (q.2 - p.2)
def dm (p n q : Pt) : Prop := 0 ≤ tn p n q ∧ (tn p n q = 0 → sqd p q ≤ sqd p n)
theorem hg_pos {a b : Int} (h : 0 < a) (h2 : 0 ≤ a * b) : 0 ≤ b := Int.le_of_mul_le_mul_left (by simpa using h2) h
theorem hg_pos1 {a b : Int} (h : 0 < a) (h2 : 0 < a * b) : 0 < b := Int.lt_of_mul_lt_mul_left (by simpa using h2) (Int.le_of_lt h)
theorem hg_zero {a b : Int} (h : 0 < a) (h2 : a * b = 0) : b = 0 := by
  rcases Int.mul_eq_zero.mp h2 with h | h
  · omega
  · exact h
theorem hg_sq0 (a : Int) : 0 ≤ a * a := by
  rcases Int.le_total 0 a with h | h
  · exact Int.mul_nonneg h h
  · exact Int.mul_nonneg_of_nonpos_of_nonpos h h
theorem hg_sq1 {a : Int} (h : a ≠ 0) : 0 < a * a := by
  have := hg_sq0 a
  have h2 : a * a ≠ 0 := fun e => (Int.mul_eq_zero.mp e).elim h h
  omega
theorem hg_sqs {a b : Int} (h : ¬ (a = 0 ∧ b = 0)) : 0 < a * a + b * b := by
  have h1 := hg_sq0 a
  have h2 := hg_sq0 b
  by_cases ha : a = 0
  · have := hg_sq1 (a := b) (fun e => h ⟨ha, e⟩)
    omega
  · have := hg_sq1 ha
    omega
theorem hg_ne {dx dy x y : Int} (h : hH dx dy x y) : 0 < x * x + y * y := by
  refine hg_sqs fun e => ?_
  obtain ⟨rfl, rfl⟩ := e
  rcases h with h | h
  · simp at h
  · simp at h
theorem hg_nn {dx dy x y : Int} (h : hH dx dy x y) : 0 ≤ dx * y - dy * x := by
  rcases h with h | h <;> omega
theorem hg_dir {dx dy ux uy wx wy : Int} (hu : hH dx dy ux uy) (hw : hH dx dy wx wy) (h0 : ux * wy - uy * wx = 0) : 0 < ux * wx + uy * wy := by
  have pu := hg_ne hu
  have pw := hg_ne hw
  have nw := hg_nn hw
  have i1 : (ux * ux + uy * uy) * (dx * wy - dy * wx) = (dx * ux + dy * uy) * (ux * wy - uy * wx) + (dx * uy - dy * ux) * (ux * wx + uy * wy) := by grind
  rw [h0, Int.mul_zero, Int.zero_add] at i1
  rcases hu with hu | ⟨hu, hd⟩
  · have a := Int.mul_nonneg (Int.le_of_lt pu) nw
    have b : 0 ≤ ux * wx + uy * wy := hg_pos hu (by omega)
    have c : ux * wx + uy * wy ≠ 0 := fun e => by
      have i2 : (ux * ux + uy * uy) * (wx * wx + wy * wy) = (ux * wx + uy * wy) * (ux * wx + uy * wy) + (ux * wy - uy * wx) * (ux * wy - uy * wx) := by grind
      rw [e, h0] at i2
      have := hg_zero pu (by simpa using i2)
      omega
    omega
  · rw [hu, Int.zero_mul] at i1
    have e := hg_zero pu i1
    rcases hw with hw | ⟨-, hw⟩
    · omega
    · have i3 : (dx * dx + dy * dy) * (ux * wx + uy * wy) = (dx * ux + dy * uy) * (dx * wx + dy * wy) + (dx * uy - dy * ux) * (dx * wy - dy * wx) := by grind
      rw [hu, Int.zero_mul, Int.add_zero] at i3
      have a := Int.mul_pos_of_neg_of_neg hd hw
      have pd : 0 < dx * dx + dy * dy := hg_sqs fun e => by
        obtain ⟨rfl, rfl⟩ := e
        simp at hd
      exact hg_pos1 pd (by omega)
theorem hg_tr0 {dx dy ux uy vx vy wx wy : Int} (hu : hH dx dy ux uy) (hv : hH dx dy vx vy) (hw : hH dx dy wx wy) (h1 : 0 ≤ ux * vy - uy * vx) (h2 : 0 ≤ vx * wy - vy * wx) : 0 ≤ ux * wy - uy * wx := by
  have nu := hg_nn hu
  have nw := hg_nn hw
  rcases hv with hv | ⟨hv, hd⟩
  · have i : (dx * vy - dy * vx) * (ux * wy - uy * wx) = (dx * uy - dy * ux) * (vx * wy - vy * wx) + (dx * wy - dy * wx) * (ux * vy - uy * vx) := by grind
    have a := Int.mul_nonneg nu h2
    have b := Int.mul_nonneg nw h1
    exact hg_pos hv (by omega)
  · have pd : 0 < dx * dx + dy * dy := hg_sqs fun e => by
      obtain ⟨rfl, rfl⟩ := e
      simp at hd
    have i : (dx * vx + dy * vy) * (dx * wy - dy * wx) = (dx * vy - dy * vx) * (dx * wx + dy * wy) + (dx * dx + dy * dy) * (vx * wy - vy * wx) := by grind
    rw [hv, Int.zero_mul, Int.zero_add] at i
    have a := Int.mul_nonneg (Int.le_of_lt pd) h2
    have e : dx * wy - dy * wx = 0 := by
      rcases Int.lt_or_eq_of_le nw with h | h
      · have := Int.mul_neg_of_neg_of_pos hd h
        omega
      · exact h.symm
    rcases hw with hw | ⟨-, hw⟩
    · omega
    · have i2 : (dx * dx + dy * dy) * (ux * wy - uy * wx) = (dx * ux + dy * uy) * (dx * wy - dy * wx) - (dx * uy - dy * ux) * (dx * wx + dy * wy) := by grind
      rw [e, Int.mul_zero] at i2
      have b := Int.mul_nonpos_of_nonneg_of_nonpos nu (Int.le_of_lt hw)
      exact hg_pos pd (by omega)
theorem hg_tr1 {dx dy ux uy vx vy wx wy : Int} (hu : hH dx dy ux uy) (hw : hH dx dy wx wy) (h1 : 0 ≤ ux * vy - uy * vx) (h2 : 0 ≤ vx * wy - vy * wx) (h0 : ux * wy - uy * wx = 0) : ux * vy - uy * vx = 0 ∧ vx * wy - vy * wx = 0 := by
  have pu := hg_ne hu
  have hp := hg_dir hu hw h0
  have i : (ux * ux + uy * uy) * (vx * wy - vy * wx) = (vx * ux + vy * uy) * (ux * wy - uy * wx) - (ux * wx + uy * wy) * (ux * vy - uy * vx) := by grind
  rw [h0, Int.mul_zero] at i
  have a := Int.mul_nonneg (Int.le_of_lt pu) h2
  have b := Int.mul_nonneg (Int.le_of_lt hp) h1
  exact ⟨hg_zero hp (by omega), hg_zero pu (by omega)⟩
theorem dm_tr {d p u v w : Pt} (hu : HH d p u) (hv : HH d p v) (hw : HH d p w) (h1 : dm p u v) (h2 : dm p v w) : dm p u w := by
  refine ⟨hg_tr0 hu hv hw h1.1 h2.1, fun h0 => ?_⟩
  obtain ⟨e1, e2⟩ := hg_tr1 hu hw h1.1 h2.1 h0
  exact Int.le_trans (h2.2 e2) (h1.2 e1)
theorem dm_rf {p u : Pt} : dm p u u := ⟨by unfold tn; rw [Int.mul_comm, Int.sub_self]; exact Int.le_refl _, fun _ => Int.le_refl _⟩
theorem tn_sw {p u v : Pt} : tn p v u = - tn p u v := by unfold tn; grind
theorem dm_fur {p n q : Pt} (h : fur p n q) : dm p q n := by
  unfold dm
  rw [tn_sw]
  rcases h with h | h
  · exact ⟨by omega, fun e => by omega⟩
  · exact ⟨by omega, fun e => by omega⟩
theorem dm_nf {p n q : Pt} (h : ¬ fur p n q) : dm p n q := by
  unfold fur at h
  unfold dm
  omega
theorem fur_pp {p q : Pt} : fur p p q ↔ q ≠ p := by
  have e : tn p p q = 0 := by unfold tn; grind
  have e2 : sqd p p = 0 := by unfold sqd; grind
  unfold fur
  rw [e, e2]
  constructor
  · rintro (h | ⟨-, h⟩) rfl
    · omega
    · unfold sqd at h; simp at h
  · intro h
    right
    refine ⟨rfl, ?_⟩
    unfold sqd
    exact hg_sqs fun q0 => h (Prod.ext (by omega) (by omega))
theorem fur_np {p n : Pt} : ¬ fur p n p := by
  have e : tn p n p = 0 := by unfold tn; grind
  have e2 : sqd p p = 0 := by unfold sqd; grind
  unfold fur
  rw [e, e2]
  have : 0 ≤ sqd p n := by
    unfold sqd
    have := hg_sq0 (n.1 - p.1)
    have := hg_sq0 (n.2 - p.2)
    omega
  omega
/-- the next corner: the outermost of a list -/
def nxt (p : Pt) : List Pt → Pt → Pt
  | [], n => n
  | q :: l, n => nxt p l (if fur p n q then q else n)
theorem nxt_sp {d p : Pt} : ∀ (l : List Pt) (n : Pt), (∀ q ∈ l, q ≠ p → HH d p q) → (n ≠ p → HH d p n) → (nxt p l n = n ∨ nxt p l n ∈ l) ∧ (nxt p l n = p → n = p ∧ ∀ q ∈ l, q = p) ∧ (n ≠ p → dm p (nxt p l n) n) ∧ (∀ q ∈ l, q ≠ p → dm p (nxt p l n) q)
  | [], n, _, _ => ⟨Or.inl rfl, fun h => ⟨h, fun q hq => by cases hq⟩, fun _ => dm_rf, fun q hq => by cases hq⟩
  | q :: l, n, hl, hn => by
    unfold nxt
    have hq : q ≠ p → HH d p q := hl q List.mem_cons_self
    have hl' : ∀ q ∈ l, q ≠ p → HH d p q := fun q h => hl q (List.mem_cons_of_mem _ h)
    by_cases hf : fur p n q
    · rw [if_pos hf]
      obtain ⟨h1, h2, h3, h4⟩ := nxt_sp (d := d) (p := p) l q hl' hq
      have hqp : q ≠ p := by
        rintro rfl
        exact fur_np hf
      have hr : nxt p l q ≠ p := fun e => hqp (h2 e).1
      have hrH : HH d p (nxt p l q) := by
        rcases h1 with h | h
        · rw [h]; exact hq hqp
        · exact hl' _ h hr
      refine ⟨h1.elim (fun h => Or.inr (by rw [h]; exact List.mem_cons_self)) fun h => Or.inr (List.mem_cons_of_mem _ h), fun e => absurd e hr, fun hnp => ?_, fun q' hq' hne => ?_⟩
      · exact dm_tr hrH (hq hqp) (hn hnp) (h3 hqp) (dm_fur hf)
      · rcases List.mem_cons.mp hq' with rfl | h
        · exact h3 hne
        · exact h4 q' h hne
    · rw [if_neg hf]
      obtain ⟨h1, h2, h3, h4⟩ := nxt_sp (d := d) (p := p) l n hl' hn
      refine ⟨h1.elim Or.inl fun h => Or.inr (List.mem_cons_of_mem _ h), fun e => ?_, h3, fun q' hq' hne => ?_⟩
      · obtain ⟨e1, e2⟩ := h2 e
        refine ⟨e1, fun q' hq' => ?_⟩
        rcases List.mem_cons.mp hq' with rfl | h
        · subst e1
          by_cases hx : q' = n
          · exact hx
          · exact absurd (fur_pp.mpr hx) hf
        · exact e2 q' h
      · rcases List.mem_cons.mp hq' with rfl | h
        · by_cases hnp : n = p
          · subst hnp
            exact absurd (fur_pp.mpr hne) hf
          · have hr : nxt p l n ≠ p := fun e => hnp (h2 e).1
            have hrH : HH d p (nxt p l n) := by
              rcases h1 with h | h
              · rw [h]; exact hn hnp
              · exact hl' _ h hr
            exact dm_tr hrH (hn hnp) (hq hne) (h3 hnp) (dm_nf hf)
        · exact h4 q' h hne
