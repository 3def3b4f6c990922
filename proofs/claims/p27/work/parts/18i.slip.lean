/-! where a foot slips to -/
section
variable {s : MSt} {z f : Nat → Nat → Int32}
def nbP (p q : Int) : Prop := nB q ∧ ((pt q).1 - (pt p).1) * ((pt q).1 - (pt p).1) + ((pt q).2 - (pt p).2) * ((pt q).2 - (pt p).2) = 1
theorem one_sq {a b : Int} (ha : -20 ≤ a ∧ a ≤ 20) (hb : -20 ≤ b ∧ b ≤ 20) : a * a + b * b = 1 ↔ (a = 0 ∧ (b = 1 ∨ b = -1)) ∨ (b = 0 ∧ (a = 1 ∨ a = -1)) := by
  constructor
  · intro h
    have h1 := hg_sq0 a
    have h2 := hg_sq0 b
    have ka : a * a = 0 ∨ a * a = 1 := by omega
    rcases ka with k | k
    · have : a = 0 := by
        rcases Int.mul_eq_zero.mp k with e | e <;> exact e
      subst this
      have hb1 : b * b = 1 := by omega
      left
      refine ⟨rfl, ?_⟩
      have : (b - 1) * (b + 1) = 0 := by grind
      rcases Int.mul_eq_zero.mp this with e | e <;> omega
    · have hb0 : b * b = 0 := by omega
      have : b = 0 := by
        rcases Int.mul_eq_zero.mp hb0 with e | e <;> exact e
      right
      refine ⟨this, ?_⟩
      have : (a - 1) * (a + 1) = 0 := by grind
      rcases Int.mul_eq_zero.mp this with e | e <;> omega
  · rintro (⟨rfl, rfl | rfl⟩ | ⟨rfl, rfl | rfl⟩) <;> rfl
theorem pa_pt {q : Int} (hq : nB q) : paS (pt q).1 (pt q).2 = q := by
  have b := pt_bd hq
  unfold paS
  rw [if_pos (by omega), ix_pt hq]
  unfold nB at hq
  omega
theorem nb_iff {p q : Int} (hp : nB p) (hq : nB q) : nbP p q ↔ ∃ j, j < 4 ∧ nbS p j = q := by
  have bp := pt_bd hp
  have bq := pt_bd hq
  unfold nbP
  rw [one_sq (by omega) (by omega)]
  constructor
  · rintro ⟨-, ⟨h1, h2 | h2⟩ | ⟨h1, h2 | h2⟩⟩
    · refine ⟨3, by decide, ?_⟩
      rw [← pa_pt hq]
      show paS (pt p).1 ((pt p).2 + 1) = _
      congr 1 <;> omega
    · refine ⟨0, by decide, ?_⟩
      rw [← pa_pt hq]
      show paS (pt p).1 ((pt p).2 - 1) = _
      congr 1 <;> omega
    · refine ⟨2, by decide, ?_⟩
      rw [← pa_pt hq]
      show paS ((pt p).1 + 1) (pt p).2 = _
      congr 1 <;> omega
    · refine ⟨1, by decide, ?_⟩
      rw [← pa_pt hq]
      show paS ((pt p).1 - 1) (pt p).2 = _
      congr 1 <;> omega
  · have gen : ∀ x y, paS x y = q → (pt q).1 = x ∧ (pt q).2 = y := fun x y e => by
      rcases paS_cs x y with ⟨h1, -⟩ | ⟨-, h2, -⟩
      · rw [h1] at e; unfold nB at hq; omega
      · rw [e] at h2; rw [h2]; exact ⟨rfl, rfl⟩
    rintro ⟨j, hj, e⟩
    refine ⟨hq, ?_⟩
    match j, hj, e with
    | 0, _, e => have := gen _ _ e; omega
    | 1, _, e => have := gen _ _ e; omega
    | 2, _, e => have := gen _ _ e; omega
    | 3, _, e => have := gen _ _ e; omega
theorem nb_or {p : Int} (hp : nB p) {i j : Nat} (hij : i < j) (hj : j < 4) (h1 : nbS p i ≠ -1) (h2 : nbS p j ≠ -1) : nbS p i < nbS p j := by
  have bp := pt_bd hp
  have val : ∀ x y, paS x y ≠ -1 → paS x y = 20 * y + x := fun x y h => by
    unfold paS at h ⊢
    split at h
    · rw [if_pos (by assumption)]
    · exact absurd rfl h
  have v : ∀ k, k < 4 → nbS p k ≠ -1 → (k = 0 → nbS p k = 20 * (pt p).2 + (pt p).1 - 20) ∧ (k = 1 → nbS p k = 20 * (pt p).2 + (pt p).1 - 1) ∧ (k = 2 → nbS p k = 20 * (pt p).2 + (pt p).1 + 1) ∧ (k = 3 → nbS p k = 20 * (pt p).2 + (pt p).1 + 20) := fun k hk h => by
    match k, hk, h with
    | 0, _, h => have := val _ _ h; refine ⟨fun _ => ?_, by omega, by omega, by omega⟩; show paS _ _ = _; omega
    | 1, _, h => have := val _ _ h; refine ⟨by omega, fun _ => ?_, by omega, by omega⟩; show paS _ _ = _; omega
    | 2, _, h => have := val _ _ h; refine ⟨by omega, by omega, fun _ => ?_, by omega⟩; show paS _ _ = _; omega
    | 3, _, h => have := val _ _ h; refine ⟨by omega, by omega, by omega, fun _ => ?_⟩; show paS _ _ = _; omega
  have vi := v i (by omega) h1
  have vj := v j hj h2
  omega
/-- the one that it slips to, among the points below n -/
def slP (s : MSt) (p : Int) (n : Int) (r : Int) : Prop := (r = -1 ∧ ∀ q, nbP p q → q < n → s 0 p.toNat - s 2 p.toNat ≤ s 0 q.toNat) ∨ (nbP p r ∧ r < n ∧ s 0 r.toNat < s 0 p.toNat - s 2 p.toNat ∧ ∀ q, nbP p q → q < n → s 0 r.toNat < s 0 q.toNat ∨ (s 0 r.toNat = s 0 q.toNat ∧ r ≤ q))
theorem sl_uniq {p n r r' : Int} (h : slP s p n r) (h' : slP s p n r') : r = r' := by
  rcases h with ⟨h1, h2⟩ | ⟨h1, h2, h3, h4⟩ <;> rcases h' with ⟨g1, g2⟩ | ⟨g1, g2, g3, g4⟩
  · omega
  · have := h2 r' g1 g2; omega
  · have := g2 r h1 h2; omega
  · have a := h4 r' g1 g2
    have b := g4 r h1 h2
    omega
theorem sl_S {p : Int} (hp : nB p) : slP s p 400 (slS s p) := by
  have key : ∀ n i l r, i + n = 4 → ((r = -1 ∧ l = s 0 p.toNat - s 2 p.toNat ∧ ∀ j, j < i → nbS p j ≠ -1 → l ≤ s 0 (nbS p j).toNat) ∨ (∃ j, j < i ∧ r = nbS p j ∧ r ≠ -1 ∧ l = s 0 r.toNat ∧ l < s 0 p.toNat - s 2 p.toNat ∧ ∀ j', j' < i → nbS p j' ≠ -1 → s 0 r.toNat < s 0 (nbS p j').toNat ∨ (s 0 r.toNat = s 0 (nbS p j').toNat ∧ r ≤ nbS p j'))) → ((slN s p n i l r = -1 ∧ ∀ j, j < 4 → nbS p j ≠ -1 → s 0 p.toNat - s 2 p.toNat ≤ s 0 (nbS p j).toNat) ∨ (∃ j, j < 4 ∧ slN s p n i l r = nbS p j ∧ slN s p n i l r ≠ -1 ∧ s 0 (slN s p n i l r).toNat < s 0 p.toNat - s 2 p.toNat ∧ ∀ j', j' < 4 → nbS p j' ≠ -1 → s 0 (slN s p n i l r).toNat < s 0 (nbS p j').toNat ∨ (s 0 (slN s p n i l r).toNat = s 0 (nbS p j').toNat ∧ slN s p n i l r ≤ nbS p j'))) := by
    intro n
    induction n with
    | zero =>
      intro i l r hi h
      obtain rfl : i = 4 := by omega
      rcases h with ⟨h1, h2, h3⟩ | ⟨j, h1, h2, h3, h4, h5, h6⟩
      · exact Or.inl ⟨h1, fun j hj hn => by have := h3 j hj hn; omega⟩
      · exact Or.inr ⟨j, h1, h2, h3, by show s 0 r.toNat < _; omega, h6⟩
    | succ n ih =>
      intro i l r hi h
      unfold slN
      by_cases c : nbS p i = -1 ∨ l ≤ s 0 (nbS p i).toNat
      · rw [if_pos c]
        refine ih (i + 1) l r (by omega) ?_
        rcases h with ⟨h1, h2, h3⟩ | ⟨j, h1, h2, h3, h4, h5, h6⟩
        · refine Or.inl ⟨h1, h2, fun j hj hn => ?_⟩
          by_cases e : j = i
          · subst e; exact c.resolve_left hn
          · exact h3 j (by omega) hn
        · refine Or.inr ⟨j, by omega, h2, h3, h4, h5, fun j' hj' hn => ?_⟩
          by_cases e : j' = i
          · subst e
            have c' := c.resolve_left hn
            have := nb_or hp h1 (by omega) (h2 ▸ h3) hn
            omega
          · exact h6 j' (by omega) hn
      · rw [if_neg c]
        have c1 : nbS p i ≠ -1 := fun e => c (Or.inl e)
        have c2 : s 0 (nbS p i).toNat < l := by
          apply Classical.byContradiction
          intro q
          exact c (Or.inr (by omega))
        refine ih (i + 1) _ _ (by omega) (Or.inr ⟨i, by omega, rfl, c1, rfl, ?_, fun j' hj' hn => ?_⟩)
        · rcases h with ⟨h1, h2, h3⟩ | ⟨j, h1, h2, h3, h4, h5, h6⟩ <;> omega
        · by_cases e : j' = i
          · subst e; exact Or.inr ⟨rfl, by omega⟩
          · rcases h with ⟨h1, h2, h3⟩ | ⟨j, h1, h2, h3, h4, h5, h6⟩
            · have := h3 j' (by omega) hn; omega
            · have := h6 j' (by omega) hn; omega
  have h := key 4 0 (s 0 p.toNat - s 2 p.toNat) (-1) rfl (Or.inl ⟨rfl, rfl, fun j hj => absurd hj (Nat.not_lt_zero j)⟩)
  have nbj : ∀ j, j < 4 → nbS p j ≠ -1 → nB (nbS p j) := fun j hj hn => by
    match j, hj, hn with
    | 0, _, hn => exact ((paS_cs _ _).resolve_left (fun e => hn e.1)).1
    | 1, _, hn => exact ((paS_cs _ _).resolve_left (fun e => hn e.1)).1
    | 2, _, hn => exact ((paS_cs _ _).resolve_left (fun e => hn e.1)).1
    | 3, _, hn => exact ((paS_cs _ _).resolve_left (fun e => hn e.1)).1
  have all : ∀ {P : Int → Prop}, (∀ j, j < 4 → nbS p j ≠ -1 → P (nbS p j)) → ∀ q, nbP p q → P q := fun {P} h q hq => by
    obtain ⟨j, hj, e⟩ := (nb_iff hp hq.1).mp hq
    have hn : nbS p j ≠ -1 := by rw [e]; have := hq.1; unfold nB at this; omega
    have := h j hj hn
    rw [e] at this
    exact this
  unfold slS
  rcases h with ⟨h1, h2⟩ | ⟨j, h1, h2, h3, h4, h5⟩
  · exact Or.inl ⟨h1, fun q hq _ => all (P := fun q => s 0 p.toNat - s 2 p.toNat ≤ s 0 q.toNat) h2 q hq⟩
  · refine Or.inr ⟨?_, ?_, h4, fun q hq _ => all (P := fun q => s 0 (slN s p 4 0 (s 0 p.toNat - s 2 p.toNat) (-1)).toNat < s 0 q.toNat ∨ (s 0 (slN s p 4 0 (s 0 p.toNat - s 2 p.toNat) (-1)).toNat = s 0 q.toNat ∧ slN s p 4 0 (s 0 p.toNat - s 2 p.toNat) (-1) ≤ q)) h5 q hq⟩
    · have := nbj j h1 (h2 ▸ h3)
      rw [h2]
      exact (nb_iff hp this).mpr ⟨j, h1, rfl⟩
    · have := nbj j h1 (h2 ▸ h3)
      rw [h2]
      unfold nB at this
      omega
end
