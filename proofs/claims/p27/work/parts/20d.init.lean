def is0 (x : Option LCl) : Bool := match x with
  | some (Sum.inl (_, 0, _)) => true
  | _ => false
theorem wQ_is : mI = some wQ := by
  have h := mI_some
  unfold wQ
  cases e : mI with
  | none => rw [e] at h; cases h
  | some w => rfl
theorem wQ_len : wQ.length = 66 := by
  have h := congrArg List.length wQ_stp
  rw [List.length_map, List.length_map] at h
  exact h
theorem wQ_ro : RO 53 wQ := by
  have h := wQ_is
  unfold mI at h
  unfold mX at h
  rw [← n_X10_init_eq] at h
  obtain ⟨p, q2⟩ := ro_10 h
  obtain ⟨f, e, -⟩ := id q2
  have hp : p < 66 := by
    have := (List.getElem?_eq_some_iff.mp e).1
    rw [wQ_len] at this
    exact this
  have : p = 53 := wQ_53 p hp (by rw [List.getElem?_map, e]; rfl)
  subst this
  exact q2
theorem wQ_eq : wQ = (wA zQ fQ []).take 66 := by
  apply List.ext_getElem?
  intro i
  have h : (wQ.map stp)[i]? = (((wA zQ fQ []).take 66).map stp)[i]? := congrArg (fun l => l[i]?) wQ_stp
  rw [List.getElem?_map, List.getElem?_map] at h
  cases e1 : wQ[i]? with
  | none =>
    rw [e1] at h
    cases e2 : ((wA zQ fQ []).take 66)[i]? with
    | none => rfl
    | some d => rw [e2] at h; cases h
  | some c =>
    rw [e1] at h
    cases e2 : ((wA zQ fQ []).take 66)[i]? with
    | none => rw [e2] at h; cases h
    | some d =>
      rw [e2] at h
      have hs : stp c = stp d := Option.some.inj h
      refine congrArg some ?_
      match d, e2, hs with
      | .inr q, e2, hs =>
        match c, hs with
        | .inr q', hs => exact congrArg Sum.inr (Sum.inr.inj hs)
        | .inl (t, n, .inl g), hs => cases hs
        | .inl (t, n, .inr (.inl g)), hs => cases hs
        | .inl (t, n, .inr (.inr (.inl g))), hs => cases hs
        | .inl (t, n, .inr (.inr (.inr (.inl g)))), hs => cases hs
        | .inl (t, n, .inr (.inr (.inr (.inr g)))), hs => cases hs
      | .inl (t, n, y), e2, hs =>
        rcases wA_at i t n y e2 with ⟨rfl, rfl, rfl, rfl⟩ | ⟨rfl, rfl⟩
        · obtain ⟨f, e3, hf⟩ := wQ_ro
          rw [e1] at e3
          cases e3
          have hm : (List.range 4).map f = (List.range 4).map jbh := by
            have := congrArg (fun x => match x with | Sum.inl (_, _, l) => l | _ => []) hs
            exact this
          have : f = jbh := funext fun j => by
            by_cases hj : j < 4
            · have : ((List.range 4).map f)[j]? = ((List.range 4).map jbh)[j]? := congrArg (fun l => l[j]?) hm
              rw [List.getElem?_map, List.getElem?_map, List.getElem?_range hj] at this
              exact Option.some.inj this
            · rw [hf j (by omega)]
              exact (if_neg hj).symm
          rw [this]
        · match c, e1, hs with
          | .inr q', e1, hs => cases hs
          | .inl (t, m, .inl g), e1, hs =>
            have e4 : fQ i = g := by
              unfold fQ
              rw [e1]
            cases hs
            rw [e4]
          | .inl (t, m, .inr (.inl g)), e1, hs => cases hs
          | .inl (t, m, .inr (.inr (.inl g))), e1, hs => cases hs
          | .inl (t, m, .inr (.inr (.inr (.inl g)))), e1, hs => cases hs
          | .inl (t, m, .inr (.inr (.inr (.inr g)))), e1, hs =>
            exfalso
            injection hs with hs
            injection hs with h1 h2
            injection h2 with h2 h3
            have e6 : m = 0 := by
              have := congrArg List.length h3
              rw [List.length_map, List.length_range] at this
              exact this
            have e7 : n ≠ 0 := by
              have hb : ∀ i, i < 66 → is0 ((wA zQ fQ []).take 66)[i]? = false := by decide +kernel
              intro q
              subst q
              have := hb i (by have := (List.getElem?_eq_some_iff.mp e1).1; rw [wQ_len] at this; exact this)
              rw [e2] at this
              cases this
            exact e7 (h2.symm.trans e6)
theorem mI_eq : mI = some ((wA zQ fQ []).take 66) := by rw [← wQ_eq]; exact wQ_is
