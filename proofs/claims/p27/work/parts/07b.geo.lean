theorem hg_len : ∀ {l1 l2 : List Pt}, l1.Nodup → (∀ a ∈ l1, a ∈ l2) → l1.length ≤ l2.length
  | [], _, _, _ => Nat.zero_le _
  | a :: l, l2, hn, hs => by
    obtain ⟨h1, h2⟩ := List.nodup_cons.mp hn
    have ha : a ∈ l2 := hs a List.mem_cons_self
    have := hg_len (l1 := l) (l2 := l2.erase a) h2 fun b hb => (List.mem_erase_of_ne (fun e => h1 (by rw [← e]; exact hb))).mpr (hs b (List.mem_cons_of_mem _ hb))
    rw [List.length_erase_of_mem ha] at this
    have := List.length_pos_of_mem ha
    simp only [List.length_cons]
    omega
def exP (L : List Pt) (p : Pt) : Prop := p ∈ L ∧ ∃ d, ∀ q ∈ L, q ≠ p → HH d p q
def sc (L : List Pt) (p : Pt) : Pt := nxt p L p
theorem dm_pp {p n : Pt} : dm p n p := by
  have e : tn p n p = 0 := by unfold tn; grind
  have e2 : sqd p p = 0 := by unfold sqd; grind
  unfold dm
  rw [e, e2]
  refine ⟨Int.le_refl _, fun _ => ?_⟩
  unfold sqd
  have := hg_sq0 (n.1 - p.1)
  have := hg_sq0 (n.2 - p.2)
  omega
theorem sc_sp {L : List Pt} {p : Pt} (h : exP L p) : sc L p ∈ L ∧ (sc L p = p → ∀ q ∈ L, q = p) ∧ ∀ q ∈ L, dm p (sc L p) q := by
  obtain ⟨hp, d, hd⟩ := h
  obtain ⟨h1, h2, -, h4⟩ := nxt_sp (d := d) (p := p) L p hd (fun h => absurd rfl h)
  refine ⟨h1.elim (fun e => by unfold sc; rw [e]; exact hp) id, fun e => (h2 e).2, fun q hq => ?_⟩
  by_cases hx : q = p
  · subst hx; exact dm_pp
  · exact h4 q hq hx
theorem hg_le {u s : Int} (hs : 0 < u) (h : s * s ≤ u * u) : s ≤ u := by
  rcases Int.lt_or_le u s with h1 | h1
  · have := Int.mul_lt_mul h1 (Int.le_of_lt h1) hs (by omega)
    omega
  · exact h1
/-- behind the outermost, nothing on along the way -/
theorem sc_bt {d p n q : Pt} (hn : HH d p n) (hq : HH d p q) (h : dm p n q) (h0 : tn p n q = 0) : 0 < (n.1 - p.1) * (q.1 - p.1) + (n.2 - p.2) * (q.2 - p.2) ∧ (n.1 - p.1) * (q.1 - p.1) + (n.2 - p.2) * (q.2 - p.2) ≤ sqd p n ∧ 0 < sqd p n := by
  have h1 := hg_dir hn hq h0
  have h2 : 0 < sqd p n := hg_ne hn
  have h3 := h.2 h0
  refine ⟨h1, hg_le h2 ?_, h2⟩
  have i : ((n.1 - p.1) * (q.1 - p.1) + (n.2 - p.2) * (q.2 - p.2)) * ((n.1 - p.1) * (q.1 - p.1) + (n.2 - p.2) * (q.2 - p.2)) = sqd p n * sqd p q - tn p n q * tn p n q := by unfold sqd tn; grind
  rw [h0] at i
  have := Int.mul_le_mul_of_nonneg_left h3 (Int.le_of_lt h2)
  omega
theorem sc_ex {L : List Pt} {p : Pt} (h : exP L p) : exP L (sc L p) := by
  obtain ⟨h1, h2, h3⟩ := sc_sp h
  by_cases hp : sc L p = p
  · rw [hp]; exact h
  obtain ⟨hpL, d, hd⟩ := h
  refine ⟨h1, ((sc L p).1 - p.1, (sc L p).2 - p.2), fun q hq hne => ?_⟩
  have hm := h3 q hq
  have e : ((sc L p).1 - p.1) * (q.2 - (sc L p).2) - ((sc L p).2 - p.2) * (q.1 - (sc L p).1) = tn p (sc L p) q := by unfold tn; grind
  rcases Int.lt_or_eq_of_le hm.1 with h0 | h0
  · left
    show 0 < ((sc L p).1 - p.1) * (q.2 - (sc L p).2) - ((sc L p).2 - p.2) * (q.1 - (sc L p).1)
    rw [e]; exact h0
  · right
    show ((sc L p).1 - p.1) * (q.2 - (sc L p).2) - ((sc L p).2 - p.2) * (q.1 - (sc L p).1) = 0 ∧ ((sc L p).1 - p.1) * (q.1 - (sc L p).1) + ((sc L p).2 - p.2) * (q.2 - (sc L p).2) < 0
    refine ⟨by rw [e]; exact h0.symm, ?_⟩
    have i : ((sc L p).1 - p.1) * (q.1 - (sc L p).1) + ((sc L p).2 - p.2) * (q.2 - (sc L p).2) = (((sc L p).1 - p.1) * (q.1 - p.1) + ((sc L p).2 - p.2) * (q.2 - p.2)) - sqd p (sc L p) := by unfold sqd; grind
    rw [i]
    by_cases hqp : q = p
    · have h2 : 0 < sqd p (sc L p) := hg_ne (hd _ h1 hp)
      have e3 : ((sc L p).1 - p.1) * (q.1 - p.1) + ((sc L p).2 - p.2) * (q.2 - p.2) = 0 := by rw [hqp]; simp
      omega
    · obtain ⟨a, b, c⟩ := sc_bt (hd _ h1 hp) (hd q hq hqp) hm h0.symm
      have hne2 : ((sc L p).1 - p.1) * (q.1 - p.1) + ((sc L p).2 - p.2) * (q.2 - p.2) ≠ sqd p (sc L p) := fun e4 => by
        have z : sqd q (sc L p) = sqd p q - 2 * (((sc L p).1 - p.1) * (q.1 - p.1) + ((sc L p).2 - p.2) * (q.2 - p.2)) + sqd p (sc L p) := by unfold sqd; grind
        have h9 := hm.2 h0.symm
        have h10 : 0 < sqd q (sc L p) := hg_sqs fun w => hne (Prod.ext (by omega) (by omega))
        omega
      omega
theorem sc_inj {L : List Pt} {p p' : Pt} (h : exP L p) (h' : exP L p') (hp : sc L p ≠ p) (hp' : sc L p' ≠ p') (he : sc L p = sc L p') : p = p' := by
  obtain ⟨a1, -, a3⟩ := sc_sp h
  obtain ⟨b1, -, b3⟩ := sc_sp h'
  obtain ⟨hL, d, hd⟩ := h
  obtain ⟨hL', d', hd'⟩ := h'
  apply Decidable.byContradiction
  intro hne
  have m1 := a3 p' hL'
  have m2 := b3 p hL
  rw [← he] at m2
  have e : tn p' (sc L p) p = - tn p (sc L p) p' := by unfold tn; grind
  have z1 : tn p (sc L p) p' = 0 := by
    have := m1.1
    have := m2.1
    omega
  have z2 : tn p' (sc L p) p = 0 := by omega
  obtain ⟨x1, x2, x3⟩ := sc_bt (hd _ a1 hp) (hd _ hL' (fun e => hne e.symm)) m1 z1
  rw [he] at m2 z2
  obtain ⟨y1, y2, y3⟩ := sc_bt (hd' _ b1 hp') (hd' _ hL hne) m2 z2
  rw [← he] at y1 y2 y3
  have q1 := m1.2 z1
  have i1 : ((sc L p).1 - p'.1) * (p.1 - p'.1) + ((sc L p).2 - p'.2) * (p.2 - p'.2) = sqd p p' - (((sc L p).1 - p.1) * (p'.1 - p.1) + ((sc L p).2 - p.2) * (p'.2 - p.2)) := by unfold sqd; grind
  have i2 : (((sc L p).1 - p.1) * (p'.1 - p.1) + ((sc L p).2 - p.2) * (p'.2 - p.2)) * (((sc L p).1 - p.1) * (p'.1 - p.1) + ((sc L p).2 - p.2) * (p'.2 - p.2)) = sqd p (sc L p) * sqd p p' - tn p (sc L p) p' * tn p (sc L p) p' := by unfold sqd tn; grind
  rw [z1] at i2
  -- u·w < |w|², |w|² ≤ |u|², (u·w)² = |u|²|w|²
  have pw : 0 < sqd p p' := hg_sqs fun w => hne (Prod.ext (by omega) (by omega))
  have g1 := Int.mul_le_mul_of_nonneg_right q1 (Int.le_of_lt pw)
  have g2 : (((sc L p).1 - p.1) * (p'.1 - p.1) + ((sc L p).2 - p.2) * (p'.2 - p.2)) * (((sc L p).1 - p.1) * (p'.1 - p.1) + ((sc L p).2 - p.2) * (p'.2 - p.2)) < sqd p p' * sqd p p' := Int.mul_lt_mul (by omega) (by omega) x1 (by omega)
  omega
def cs (L : List Pt) (p : Pt) : Nat → Pt
  | 0 => p
  | i + 1 => sc L (cs L p i)
theorem cs_ex {L : List Pt} {p : Pt} (h : exP L p) : ∀ i, exP L (cs L p i)
  | 0 => h
  | i + 1 => sc_ex (cs_ex h i)
def fiP (p : Pt) : Int := 20 * p.2 + p.1
def stP (L : List Pt) (p : Pt) : Prop := p ∈ L ∧ ∀ q ∈ L, q ≠ p → fiP p < fiP q
theorem st_ex {L : List Pt} {p : Pt} (h : stP L p) : exP L p := by
  refine ⟨h.1, (20, -1), fun q hq hne => Or.inl ?_⟩
  have := h.2 q hq hne
  unfold fiP at this
  show 0 < 20 * (q.2 - p.2) - -1 * (q.1 - p.1)
  omega
theorem cs_ret {L : List Pt} {p : Pt} (h : exP L p) : ∃ m, 1 ≤ m ∧ m ≤ L.length ∧ cs L p m = p ∧ ∀ i, 0 < i → i < m → cs L p i ≠ p := by
  have main : ∃ m, 1 ≤ m ∧ m ≤ L.length ∧ cs L p m = p := by
    by_cases h1 : sc L p = p
    · exact ⟨1, Nat.le_refl _, List.length_pos_of_mem h.1, h1⟩
    · apply Classical.byContradiction
      intro hno
      have hall : ∀ i, 1 ≤ i → i ≤ L.length → cs L p i ≠ p := fun i a b c => hno ⟨i, a, b, c⟩
      have hs : ∀ i, sc L (cs L p i) ≠ cs L p i := fun i e => by
        have a := (sc_sp (cs_ex h i)).2.1 e
        have b := a p h.1
        have c := a (sc L p) (sc_sp h).1
        exact h1 (c.trans b.symm)
      have hd : ∀ i j, i < j → j ≤ L.length → cs L p i ≠ cs L p j := by
        intro i
        induction i with
        | zero => intro j hj hl e; exact hall j hj hl e.symm
        | succ i ih =>
          intro j hj hl e
          obtain ⟨j, rfl⟩ : ∃ x, j = x + 1 := ⟨j - 1, by omega⟩
          exact ih j (by omega) (by omega) (sc_inj (cs_ex h i) (cs_ex h j) (hs i) (hs j) e)
      have hnd : ((List.range (L.length + 1)).map (cs L p)).Nodup := by
        rw [List.nodup_iff_pairwise_ne, List.pairwise_map]
        refine List.Pairwise.imp_of_mem (R := fun a b => a < b) ?_ List.pairwise_lt_range
        intro a b ha hb hab
        exact hd a b hab (by have := List.mem_range.mp hb; omega)
      have := hg_len hnd (fun a ha => by
        obtain ⟨i, -, rfl⟩ := List.mem_map.mp ha
        exact (cs_ex h i).1)
      simp at this
      omega
  -- the first of them
  have hfirst : ∀ n m, m ≤ n → 1 ≤ m → m ≤ L.length → cs L p m = p → ∃ m, 1 ≤ m ∧ m ≤ L.length ∧ cs L p m = p ∧ ∀ i, 0 < i → i < m → cs L p i ≠ p := by
    intro n
    induction n with
    | zero => intro m h1 h2; omega
    | succ n ih =>
      intro m h1 h2 h3 h4
      by_cases hx : ∃ i, 0 < i ∧ i < m ∧ cs L p i = p
      · obtain ⟨i, a, b, c⟩ := hx
        exact ih i (by omega) a (by omega) c
      · exact ⟨m, h2, h3, h4, fun i a b c => hx ⟨i, a, b, c⟩⟩
  obtain ⟨m, a, b, c⟩ := main
  exact hfirst m m (Nat.le_refl _) a b c
/-- .. its corners are apart -/
theorem cs_apart {L : List Pt} {p : Pt} (h : exP L p) {m : Nat} (hm : ∀ i, 0 < i → i < m → cs L p i ≠ p) (h1 : sc L p ≠ p) : ∀ i j, i < j → j < m → cs L p i ≠ cs L p j := by
  have hs : ∀ i, sc L (cs L p i) ≠ cs L p i := fun i e => by
    have a := (sc_sp (cs_ex h i)).2.1 e
    have b := a p h.1
    have c := a (sc L p) (sc_sp h).1
    exact h1 (c.trans b.symm)
  intro i
  induction i with
  | zero => intro j hj hl e; exact hm j hj hl e.symm
  | succ i ih =>
    intro j hj hl e
    obtain ⟨j, rfl⟩ : ∃ x, j = x + 1 := ⟨j - 1, by omega⟩
    exact ih j (by omega) (by omega) (sc_inj (cs_ex h i) (cs_ex h j) (hs i) (hs j) e)
