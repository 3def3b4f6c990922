def corL (L : List Pt) (p : Pt) (m : Nat) : List Pt := (List.range m).map (cs L p)
theorem cor_mem {L : List Pt} {p : Pt} {m i : Nat} (h : i < m) : cs L p i ∈ corL L p m := List.mem_map.mpr ⟨i, List.mem_range.mpr h, rfl⟩
theorem cor_sub {L : List Pt} {p : Pt} {m : Nat} (h : exP L p) : ∀ a ∈ corL L p m, a ∈ L := fun a ha => by
  obtain ⟨i, -, rfl⟩ := List.mem_map.mp ha
  exact (cs_ex h i).1
theorem eg_of {w mx my : Int} {L : List Pt} {p : Pt} (hw : 0 < w) (h : exP L p) (hi : inP w mx my L) (i : Nat) : 0 ≤ eg w mx my (cs L p i) (cs L p (i + 1)) :=
  inP_eg hi hw fun q hq => ((sc_sp (cs_ex h i)).2.2 q hq).1
theorem sc_nes {L : List Pt} {p : Pt} (h : exP L p) (h1 : sc L p ≠ p) (i : Nat) : sc L (cs L p i) ≠ cs L p i := fun e => by
  have a := (sc_sp (cs_ex h i)).2.1 e
  exact h1 ((a (sc L p) (sc_sp h).1).trans (a p h.1).symm)
theorem three {w mx my : Int} {L : List Pt} {p : Pt} {m : Nat} (hw : 0 < w) (hp : stP L p) (h3 : 3 ≤ m) (hr : cs L p m = p) (hm : ∀ i, 0 < i → i < m → cs L p i ≠ p) (he : ∀ i, i < m → 0 ≤ eg w mx my (cs L p i) (cs L p (i + 1))) : inP w mx my (corL L p m) := by
  have hx := st_ex hp
  obtain ⟨n, rfl⟩ : ∃ n, m = n + 3 := ⟨m - 3, by omega⟩
  have h1 : sc L p ≠ p := hm 1 (by omega) (by omega)
  have ht : ∀ i, i < n + 3 → 0 ≤ tm w mx my (cs L p i) (cs L p (i + 1)) := fun i hi => (eg_nn hw).mp (he i hi)
  have g2 : tm w mx my p (cs L p (n + 2)) ≤ 0 := by
    have := ht (n + 2) (by omega)
    rw [hr, tm_sw] at this
    omega
  obtain ⟨i, i1, i2, i3, i4⟩ := ivt (fun i => tm w mx my p (cs L p i)) n (ht 0 (by omega)) g2
  have f := fan_pos hp (cs_ex hx i) (cs_ex hx (i + 1)).1 (sc_sp (cs_ex hx i)).2.2 (hm i (by omega) (by omega)) (hm (i + 1) (by omega) (by omega)) (sc_nes hx h1 i)
  have hs := tm_sum (w := w) (mx := mx) (my := my) (a := p) (b := cs L p i) (c := cs L p (i + 1))
  have hpos : 0 < w * w * tn p (cs L p i) (cs L p (i + 1)) := Int.mul_pos (Int.mul_pos hw hw) f
  refine Or.inr ⟨_, cor_mem (i := 0) (by omega), _, cor_mem (i := i) (by omega), _, cor_mem (i := i + 1) (by omega), by show tm w mx my p (cs L p i) + tm w mx my (cs L p i) (cs L p (i + 1)) + tm w mx my (cs L p (i + 1)) p ≠ 0; omega, Or.inl ⟨i3, ht i (by omega), ?_⟩⟩
  show 0 ≤ tm w mx my (cs L p (i + 1)) p
  rw [tm_sw]
  have : tm w mx my p (cs L p (i + 1)) ≤ 0 := i4
  omega
theorem seg {L : List Pt} {p : Pt} (hp : exP L p) (h2 : sc L (sc L p) = p) (h1 : sc L p ≠ p) {q : Pt} (hq : q ∈ L) : tn p (sc L p) q = 0 ∧ 0 ≤ ((sc L p).1 - p.1) * (q.1 - p.1) + ((sc L p).2 - p.2) * (q.2 - p.2) ∧ ((sc L p).1 - p.1) * (q.1 - p.1) + ((sc L p).2 - p.2) * (q.2 - p.2) ≤ sqd p (sc L p) ∧ 0 < sqd p (sc L p) := by
  have a := (sc_sp hp).2.2 q hq
  have b := (sc_sp (sc_ex hp)).2.2 q hq
  rw [h2] at b
  have e : tn (sc L p) p q = - tn p (sc L p) q := by unfold tn; grind
  have z : tn p (sc L p) q = 0 := by
    have := a.1
    have := b.1
    omega
  have hL := (sc_sp hp).1
  obtain ⟨-, d, hd⟩ := hp
  have pp : 0 < sqd p (sc L p) := hg_ne (hd _ hL h1)
  refine ⟨z, ?_⟩
  by_cases hqp : q = p
  · rw [hqp]
    simp only [Int.sub_self, Int.mul_zero, Int.add_zero]
    omega
  · obtain ⟨x1, x2, x3⟩ := sc_bt (hd _ hL h1) (hd q hq hqp) a z
    omega
theorem two {w mx my : Int} {p c : Pt} (h1 : 0 ≤ tm w mx my p c) (h2 : 0 ≤ tm w mx my c p) (hd : dt w mx my p c ≤ 0) : inP w mx my [p, c] := by
  rw [tm_sw] at h2
  exact Or.inl ⟨p, List.mem_cons_self, c, List.mem_cons_of_mem _ List.mem_cons_self, by unfold onL; omega⟩
/-- along the way from one corner to the other -/
def alg (w mx my : Int) (a b : Pt) : Int := (b.1 - a.1) * (mx - w * a.1) + (b.2 - a.2) * (my - w * a.2)
theorem two_al {w mx my : Int} {p c : Pt} (hw : 0 < w) (hs : 0 < sqd p c) (h1 : 0 ≤ tm w mx my p c) (h2 : 0 ≤ tm w mx my c p) (h3 : 0 ≤ alg w mx my p c) (h4 : alg w mx my p c ≤ sqd p c * w) : inP w mx my [p, c] := by
  refine two h1 h2 ?_
  rw [tm_sw] at h2
  have z : tm w mx my p c = 0 := by omega
  have ez : eg w mx my p c = 0 := hg_zero hw (by rw [eg_tm]; exact z)
  have i : sqd p c * dt w mx my p c = alg w mx my p c * (alg w mx my p c - sqd p c * w) + eg w mx my p c * eg w mx my p c := by unfold sqd dt alg eg; grind
  rw [ez, Int.mul_zero, Int.add_zero] at i
  have k := Int.mul_nonneg h3 (b := sqd p c * w - alg w mx my p c) (by omega)
  have k2 : alg w mx my p c * (alg w mx my p c - sqd p c * w) = - (alg w mx my p c * (sqd p c * w - alg w mx my p c)) := by grind
  have : 0 ≤ - dt w mx my p c := hg_pos hs (by rw [Int.mul_neg]; omega)
  omega
theorem al_of {w mx my : Int} {L : List Pt} {p : Pt} (hw : 0 < w) (hp : exP L p) (h2 : sc L (sc L p) = p) (h1 : sc L p ≠ p) (hi : inP w mx my L) : 0 ≤ alg w mx my p (sc L p) ∧ alg w mx my p (sc L p) ≤ sqd p (sc L p) * w := by
  constructor
  · have := inP_lin hi (α := (sc L p).1 - p.1) (β := (sc L p).2 - p.2) (γ := - (w * (((sc L p).1 - p.1) * p.1 + ((sc L p).2 - p.2) * p.2))) (fun q hq => by
      have e : ((sc L p).1 - p.1) * (w * q.1) + ((sc L p).2 - p.2) * (w * q.2) + -(w * (((sc L p).1 - p.1) * p.1 + ((sc L p).2 - p.2) * p.2)) = w * (((sc L p).1 - p.1) * (q.1 - p.1) + ((sc L p).2 - p.2) * (q.2 - p.2)) := by grind
      rw [e]
      exact Int.mul_nonneg (Int.le_of_lt hw) (seg hp h2 h1 hq).2.1)
    have e : alg w mx my p (sc L p) = ((sc L p).1 - p.1) * mx + ((sc L p).2 - p.2) * my + -(w * (((sc L p).1 - p.1) * p.1 + ((sc L p).2 - p.2) * p.2)) := by unfold alg; grind
    omega
  · have := inP_lin hi (α := -((sc L p).1 - p.1)) (β := -((sc L p).2 - p.2)) (γ := w * (((sc L p).1 - p.1) * p.1 + ((sc L p).2 - p.2) * p.2) + sqd p (sc L p) * w) (fun q hq => by
      have e : -((sc L p).1 - p.1) * (w * q.1) + -((sc L p).2 - p.2) * (w * q.2) + (w * (((sc L p).1 - p.1) * p.1 + ((sc L p).2 - p.2) * p.2) + sqd p (sc L p) * w) = w * (sqd p (sc L p) - (((sc L p).1 - p.1) * (q.1 - p.1) + ((sc L p).2 - p.2) * (q.2 - p.2))) := by grind
      rw [e]
      exact Int.mul_nonneg (Int.le_of_lt hw) (by have := (seg hp h2 h1 hq).2.2; omega))
    have e : sqd p (sc L p) * w - alg w mx my p (sc L p) = -((sc L p).1 - p.1) * mx + -((sc L p).2 - p.2) * my + (w * (((sc L p).1 - p.1) * p.1 + ((sc L p).2 - p.2) * p.2) + sqd p (sc L p) * w) := by unfold alg; grind
    omega
theorem two_iff {w mx my : Int} {L : List Pt} {p : Pt} (hw : 0 < w) (hp : exP L p) (h2 : sc L (sc L p) = p) (h1 : sc L p ≠ p) : inP w mx my L ↔ (0 ≤ eg w mx my p (sc L p) ∧ 0 ≤ eg w mx my (sc L p) p) ∧ 0 ≤ alg w mx my p (sc L p) ∧ alg w mx my p (sc L p) ≤ sqd p (sc L p) * w := by
  constructor
  · intro hi
    have e1 := eg_of hw hp hi 0
    have e2 := eg_of hw hp hi 1
    have e3 : cs L p 2 = p := h2
    rw [e3] at e2
    exact ⟨⟨e1, e2⟩, al_of hw hp h2 h1 hi⟩
  · rintro ⟨⟨a, b⟩, c, d⟩
    refine inP_mono (L := [p, sc L p]) (fun x hx => ?_) (two_al hw (seg hp h2 h1 hp.1).2.2.2 ((eg_nn hw).mp a) ((eg_nn hw).mp b) c d)
    rcases List.mem_cons.mp hx with rfl | hx
    · exact hp.1
    · rcases List.mem_cons.mp hx with rfl | hx
      · exact (sc_sp hp).1
      · cases hx
theorem three_iff {w mx my : Int} {L : List Pt} {p : Pt} {m : Nat} (hw : 0 < w) (hp : stP L p) (h3 : 3 ≤ m) (hr : cs L p m = p) (hm : ∀ i, 0 < i → i < m → cs L p i ≠ p) : inP w mx my L ↔ ∀ i, i < m → 0 ≤ eg w mx my (cs L p i) (cs L p (i + 1)) :=
  ⟨fun hi i _ => eg_of hw (st_ex hp) hi i, fun he => inP_mono (cor_sub (st_ex hp)) (three hw hp h3 hr hm he)⟩
/-- a box round the corners -/
def boxP (w mx my : Int) (C : List Pt) : Prop := ((∃ c ∈ C, w * c.1 ≤ mx) ∧ ∃ c ∈ C, mx ≤ w * c.1) ∧ (∃ c ∈ C, w * c.2 ≤ my) ∧ ∃ c ∈ C, my ≤ w * c.2
theorem inP_box {w mx my : Int} {C : List Pt} (hi : inP w mx my C) : boxP w mx my C := by
  refine ⟨⟨?_, ?_⟩, ?_, ?_⟩
  · apply Classical.byContradiction
    intro h
    have := inP_lin hi (α := 1) (β := 0) (γ := - mx - 1) (fun q hq => by
      have : ¬ w * q.1 ≤ mx := fun e => h ⟨q, hq, e⟩
      omega)
    omega
  · apply Classical.byContradiction
    intro h
    have := inP_lin hi (α := -1) (β := 0) (γ := mx - 1) (fun q hq => by
      have : ¬ mx ≤ w * q.1 := fun e => h ⟨q, hq, e⟩
      omega)
    omega
  · apply Classical.byContradiction
    intro h
    have := inP_lin hi (α := 0) (β := 1) (γ := - my - 1) (fun q hq => by
      have : ¬ w * q.2 ≤ my := fun e => h ⟨q, hq, e⟩
      omega)
    omega
  · apply Classical.byContradiction
    intro h
    have := inP_lin hi (α := 0) (β := -1) (γ := my - 1) (fun q hq => by
      have : ¬ my ≤ w * q.2 := fun e => h ⟨q, hq, e⟩
      omega)
    omega
theorem prod_np {a b : Int} (h : (a ≤ 0 ∧ 0 ≤ b) ∨ (0 ≤ a ∧ b ≤ 0)) : a * b ≤ 0 := by
  rcases h with ⟨h1, h2⟩ | ⟨h1, h2⟩
  · exact Int.mul_nonpos_of_nonpos_of_nonneg h1 h2
  · exact Int.mul_nonpos_of_nonneg_of_nonpos h1 h2
theorem mem2 {a b : Pt} {P : Pt → Prop} (h : ∃ x ∈ [a, b], P x) : P a ∨ P b := by
  obtain ⟨x, hx, hp⟩ := h
  rcases List.mem_cons.mp hx with rfl | hx
  · exact Or.inl hp
  · rcases List.mem_cons.mp hx with rfl | hx
    · exact Or.inr hp
    · cases hx
theorem cls_iff {w mx my : Int} {L : List Pt} {p : Pt} {m : Nat} (hw : 0 < w) (hp : stP L p) (h1 : 1 ≤ m) (hr : cs L p m = p) (hm : ∀ i, 0 < i → i < m → cs L p i ≠ p) : inP w mx my L ↔ (∀ i, i < m → 0 ≤ eg w mx my (cs L p i) (cs L p (i + 1))) ∧ boxP w mx my (corL L p m) := by
  have hx := st_ex hp
  have hc : (∀ i, i < m → 0 ≤ eg w mx my (cs L p i) (cs L p (i + 1))) → inP w mx my L ∨ boxP w mx my (corL L p m) → inP w mx my (corL L p m) := by
    intro he hor
    rcases Nat.lt_or_ge 2 m with h3 | h3
    · exact three hw hp h3 hr hm he
    · rcases Nat.lt_or_ge 1 m with h2 | h2
      · obtain rfl : m = 2 := by omega
        have n1 : sc L p ≠ p := hm 1 (by omega) (by omega)
        have t1 := (eg_nn hw).mp (he 0 (by omega))
        have t2 := (eg_nn hw).mp (he 1 (by omega))
        rw [hr] at t2
        have k : corL L p 2 = [p, sc L p] := rfl
        rw [k] at hor ⊢
        rcases hor with hi | ⟨⟨b1, b2⟩, b3, b4⟩
        · obtain ⟨c, d⟩ := al_of hw hx hr n1 hi
          exact two_al hw (seg hx hr n1 hx.1).2.2.2 t1 t2 c d
        · refine two t1 t2 ?_
          have c1 := mem2 b1
          have c2 := mem2 b2
          have c3 := mem2 b3
          have c4 := mem2 b4
          have d1 := prod_np (a := w * p.1 - mx) (b := w * (sc L p).1 - mx) (by omega)
          have d2 := prod_np (a := w * p.2 - my) (b := w * (sc L p).2 - my) (by omega)
          unfold dt
          omega
      · obtain rfl : m = 1 := by omega
        have k : corL L p 1 = [p] := rfl
        rw [k] at hor ⊢
        have hor2 : w * p.1 = mx ∧ w * p.2 = my := by
          rcases hor with hi | ⟨⟨⟨c1, e1, b1⟩, c2, e2, b2⟩, ⟨c3, e3, b3⟩, c4, e4, b4⟩
          · exact (inP_one hx hr).mp hi
          · rw [List.mem_singleton.mp e1] at b1
            rw [List.mem_singleton.mp e2] at b2
            rw [List.mem_singleton.mp e3] at b3
            rw [List.mem_singleton.mp e4] at b4
            omega
        refine Or.inl ⟨p, List.mem_cons_self, p, List.mem_cons_self, tm_self, ?_⟩
        unfold dt
        rw [hor2.1, hor2.2]
        simp
  constructor
  · intro hi
    have he := fun i (_ : i < m) => eg_of hw hx hi i
    exact ⟨he, inP_box (hc he (Or.inl hi))⟩
  · rintro ⟨he, hb⟩
    exact inP_mono (cor_sub hx) (hc he (Or.inr hb))
