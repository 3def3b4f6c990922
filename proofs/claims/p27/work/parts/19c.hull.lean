/-! edges of the feet are the hull's -/
section
theorem ed_sc {L : List Pt} {p n : Pt} (h : exP L p) (hn : n ∈ L) (hne : n ≠ p) : (∀ q ∈ L, edK p n q) ↔ n = sc L p := by
  obtain ⟨s1, s2, s3⟩ := sc_sp h
  have sne : sc L p ≠ p := fun e => hne (s2 e n hn)
  constructor
  · intro hq
    -- the two are on one line
    have a := hq _ s1
    have b := s3 n hn
    have tt : tn p (sc L p) n = - tn p n (sc L p) := by unfold tn; grind
    have z : tn p n (sc L p) = 0 ∧ btw p n (sc L p) ≤ 0 := by
      rcases a with a | a
      · have := b.1; omega
      · exact a
    have b2 := b.2 (by omega)
    have e : sqd n (sc L p) = 2 * btw p n (sc L p) + sqd p n - sqd p (sc L p) := by unfold sqd btw; grind
    have e0 : sqd n (sc L p) ≤ 0 := by omega
    apply Classical.byContradiction
    intro hx
    have : 0 < sqd n (sc L p) := hg_sqs fun w => hx (Prod.ext (by omega) (by omega))
    omega
  · intro e
    subst e
    intro q hq
    have b := s3 q hq
    by_cases t : tn p (sc L p) q = 0
    · refine Or.inr ⟨t, ?_⟩
      by_cases qp : q = p
      · subst qp
        unfold btw
        simp
      · obtain ⟨-, d, hd⟩ := h
        obtain ⟨u1, u2, u3⟩ := sc_bt (hd _ s1 sne) (hd q hq qp) b t
        have i : ((sc L p).1 - p.1) * (q.1 - p.1) + ((sc L p).2 - p.2) * (q.2 - p.2) = sqd p q - btw p (sc L p) q := by unfold sqd btw; grind
        have i2 : (((sc L p).1 - p.1) * (q.1 - p.1) + ((sc L p).2 - p.2) * (q.2 - p.2)) * (((sc L p).1 - p.1) * (q.1 - p.1) + ((sc L p).2 - p.2) * (q.2 - p.2)) = sqd p (sc L p) * sqd p q - tn p (sc L p) q * tn p (sc L p) q := by unfold sqd tn; grind
        rw [t] at i2
        generalize hw : ((sc L p).1 - p.1) * (q.1 - p.1) + ((sc L p).2 - p.2) * (q.2 - p.2) = w at *
        -- w*w = S*Q, w ≤ S, so Q ≤ w
        have m := Int.mul_le_mul_of_nonneg_left u2 (Int.le_of_lt u1)
        have m2 : sqd p (sc L p) * sqd p q ≤ sqd p (sc L p) * w := by
          have : w * sqd p (sc L p) = sqd p (sc L p) * w := Int.mul_comm _ _
          omega
        have := Int.le_of_mul_le_mul_left m2 u3
        omega
    · have := b.1
      exact Or.inl (by omega)
end
