/-! the model: what is asked -/
section
variable {s : MSt} {z f : Nat → Nat → Int32}
theorem fl_dn : flP (s 7) (-1) = mls (dnS s) (fun k => pt (s 7 k)) := fls_mls (fun k hk => by
    unfold dnS
    rw [decide_eq_true_iff]
    exact ⟨fun h => ⟨by omega, h⟩, fun h => h.2⟩) (fun _ _ _ => rfl)
/-- the first return of the corners says how many they are -/
theorem ret_uniq {L : List Pt} {p : Pt} {m m' : Nat} (h1 : 1 ≤ m) (h1' : 1 ≤ m') (r : cs L p m = p) (r' : cs L p m' = p) (a : ∀ i, 0 < i → i < m → cs L p i ≠ p) (a' : ∀ i, 0 < i → i < m' → cs L p i ≠ p) : m = m' := by
  rcases Nat.lt_trichotomy m m' with q | q | q
  · exact absurd r (a' m (by omega) q)
  · exact q
  · exact absurd r' (a m' (by omega) q)
theorem st_uniq {L : List Pt} {p q : Pt} (hp : stP L p) (hq : stP L q) : p = q := by
  apply Classical.byContradiction
  intro hne
  have h1 := hp.2 q hq.1 (fun e => hne e.symm)
  have h2 := hq.2 p hp.1 hne
  omega
end
