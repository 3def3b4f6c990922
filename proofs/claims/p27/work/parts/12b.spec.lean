/-! whole rows of the state; each cell's range -/
def ur (s : MSt) (a : Nat) (g : Nat → Int) : MSt := fun a' k' => if a' = a then g k' else s a' k'
theorem ur_at {s : MSt} {a : Nat} {g : Nat → Int} : ur s a g a = g := funext fun _ => if_pos rfl
theorem ur_na {s : MSt} {a a' : Nat} {g : Nat → Int} (h : a' ≠ a) : ur s a g a' = s a' := funext fun _ => if_neg h
def lo8 : Nat → Int
  | 2 => -5 | 3 => -5 | 4 => -1 | 5 => -1 | 8 => -2147483648 | 10 => -1 | _ => 0
def hi8 : Nat → Int
  | 0 => 6 | 1 => 20 | 2 => 5 | 3 => 5 | 4 => 20 | 5 => 20 | 6 => 1 | 7 => 1000 | 8 => 2147483647 | 9 => 3 | 10 => 399 | 11 => 3 | 12 => 1000000 | 13 => 8 | 14 => 7 | _ => 0
def lo (a k : Nat) : Int := match a with
  | 4 => -5 | 5 => -5 | 7 => -1 | 8 => lo8 k | 11 => -1 | 13 => -6 | 14 => -6 | 15 => -1 | 16 => -1 | _ => 0
def hi (a k : Nat) : Int := match a with
  | 0 => 9 | 1 => 99 | 2 => 9 | 3 => 9 | 4 => 5 | 5 => 5 | 6 => 6 | 7 => 399 | 8 => hi8 k | 9 => 8 | 10 => 3 | 11 => 399 | 12 => 5 | 13 => 6 | 14 => 6 | 15 => 1 | 16 => 1 | _ => 0
/-- each cell keeps its range -/
def KO (s : MSt) : Prop := ∀ a k, lo a k ≤ s a k ∧ s a k ≤ hi a k
section
variable {s : MSt}
theorem ko_us (h : KO s) {a k : Nat} {v : Int} (hv : lo a k ≤ v ∧ v ≤ hi a k) : KO (us s a k v) := fun a' k' => by
  unfold us
  by_cases c : a' = a ∧ k' = k
  · rw [if_pos c, c.1, c.2]; exact hv
  · rw [if_neg c]; exact h a' k'
theorem ko_ur (h : KO s) {a : Nat} {g : Nat → Int} (hv : ∀ k, lo a k ≤ g k ∧ g k ≤ hi a k) : KO (ur s a g) := fun a' k' => by
  unfold ur
  by_cases c : a' = a
  · rw [if_pos c, c]; exact hv k'
  · rw [if_neg c]; exact h a' k'
theorem ko_8 (h : KO s) : ((0 ≤ s 8 0 ∧ s 8 0 ≤ 6) ∧ (0 ≤ s 8 1 ∧ s 8 1 ≤ 20) ∧ (-5 ≤ s 8 2 ∧ s 8 2 ≤ 5) ∧ (-5 ≤ s 8 3 ∧ s 8 3 ≤ 5) ∧ (-1 ≤ s 8 4 ∧ s 8 4 ≤ 20) ∧ (-1 ≤ s 8 5 ∧ s 8 5 ≤ 20)) ∧ (0 ≤ s 8 6 ∧ s 8 6 ≤ 1) ∧ (0 ≤ s 8 7 ∧ s 8 7 ≤ 1000) ∧ (-2147483648 ≤ s 8 8 ∧ s 8 8 ≤ 2147483647) ∧ (0 ≤ s 8 9 ∧ s 8 9 ≤ 3) ∧ (-1 ≤ s 8 10 ∧ s 8 10 ≤ 399) ∧ (0 ≤ s 8 11 ∧ s 8 11 ≤ 3) ∧ (0 ≤ s 8 12 ∧ s 8 12 ≤ 1000000) ∧ (0 ≤ s 8 13 ∧ s 8 13 ≤ 8) ∧ (0 ≤ s 8 14 ∧ s 8 14 ≤ 7) :=
  ⟨⟨h 8 0, h 8 1, h 8 2, h 8 3, h 8 4, h 8 5⟩, h 8 6, h 8 7, h 8 8, h 8 9, h 8 10, h 8 11, h 8 12, h 8 13, h 8 14⟩
theorem ko_ft (h : KO s) : ftOk (s 7) := fun k _ => by
  have : -1 ≤ s 7 k ∧ s 7 k ≤ 399 := h 7 k
  unfold nB; omega
theorem ko_bd (h : KO s) : BD s := ⟨⟨fun p _ => h 0 p, fun p _ => h 1 p, fun p _ => h 2 p, fun p _ => h 3 p⟩, fun k _ => ⟨h 4 k, h 5 k, h 6 k⟩, (ko_8 h).1, ko_ft h⟩
theorem ko_gk (h : KO s) : gOk s := by
  have h8 := ko_8 h
  exact ⟨fun p _ => h 0 p, fun p _ => h 3 p, by unfold IB; omega, h8.2.2.2.2.2.2.1, ko_ft h⟩
theorem wr_r (x : Int) : -2147483648 ≤ wr x ∧ wr x ≤ 2147483647 := by have := wr_IB x; unfold IB at this; omega
theorem ko_tell (h : KO s) {what p : Int} (hw : 0 ≤ what ∧ what ≤ 3) (hp : -1 ≤ p ∧ p ≤ 399) : KO (tellS s what p) := by
  unfold tellS
  have h1 : KO (if s 8 8 = 0 then us (us s 8 9 what) 8 10 p else s) := by
    by_cases c : s 8 8 = 0
    · rw [if_pos c]; exact ko_us (ko_us h hw) hp
    · rw [if_neg c]; exact h
  refine ko_us ?_ (wr_r _)
  by_cases c : (if s 8 8 = 0 then us (us s 8 9 what) 8 10 p else s) 8 11 = 0
  · rw [if_pos c]; exact ko_us h1 hw
  · rw [if_neg c]; exact h1
theorem ko_learn (h : KO s) {p : Int} : KO (learnS s p) := ko_us h (h 0 p.toNat)
theorem ko_sag (h : KO s) {p : Int} : KO (sagS s p) := by
  have := h 0 p.toNat
  have e : 0 ≤ s 0 p.toNat ∧ s 0 p.toNat ≤ 9 := this
  exact ko_learn (ko_us h (show 0 ≤ max 0 (s 0 p.toNat - 1) ∧ max 0 (s 0 p.toNat - 1) ≤ 9 by omega))
theorem ko_br {σ : Nat → Bool} : ∀ n i {s : MSt}, KO s → KO (brS σ n i s)
  | 0, _, _, h => h
  | n + 1, i, s, h => by
    unfold brS
    by_cases c : σ i = true
    · rw [if_pos c]; exact ko_br n (i + 1) (ko_tell (ko_sag h) (by decide) (h 7 i))
    · rw [if_neg c]; exact ko_br n (i + 1) h
theorem brS_o {σ : Nat → Bool} {a k : Nat} (h : a ≠ 0 ∧ a ≠ 3 ∧ (a = 8 → k ≠ 8 ∧ k ≠ 9 ∧ k ≠ 10 ∧ k ≠ 11)) : ∀ n i (s : MSt), brS σ n i s a k = s a k
  | 0, _, _ => rfl
  | n + 1, i, s => by
    unfold brS
    rw [brS_o h n (i + 1)]
    by_cases c : σ i = true
    · rw [if_pos c]
      by_cases e : a = 8
      · subst e; rw [tellS_o (h.2.2 rfl), sagS_f h.1 h.2.1]
      · rw [tellS_map e, sagS_f h.1 h.2.1]
    · rw [if_neg c]
/-! the spec of what comes behind an act -/
def sk1 (s : MSt) : MSt := let s1 := brS (skS s) 6 0 s; ur s1 7 (raS (s1 7) (skS s))
def skN : Nat → MSt → MSt
  | 0, s => s
  | n + 1, s => if mk (skS s) = 0 then s else skN n (sk1 s)
def sxN (ft : Nat → Int) : Nat → Nat → Int → Int
  | 0, _, v => v
  | n + 1, i, v => sxN ft n (i + 1) (if ft i = -1 then v else v + (pt (ft i)).1)
def syN (ft : Nat → Int) : Nat → Nat → Int → Int
  | 0, _, v => v
  | n + 1, i, v => syN ft n (i + 1) (if ft i = -1 then v else v + (pt (ft i)).2)
def sgS (x : Int) : Int := if 0 < x then 1 else if x < 0 then -1 else 0
def dirS (s : MSt) : Int := 3 * (sgS (mxS s * cnS (s 7) - sxN (s 7) 6 0 0 * wS s) + 1) + sgS (myS s * cnS (s 7) - syN (s 7) 6 0 0 * wS s) + 1
def fallS (s : MSt) : MSt := us (ur (us (us (us (us s 9 (s 8 12).toNat (dirS s)) 10 (s 8 12).toNat (s 8 9)) 11 (s 8 12).toNat (s 8 10)) 8 12 (s 8 12 + 1)) 7 (fun _ => -1)) 8 6 0
def stlS (s : MSt) : MSt := if s 8 6 = 0 then s else if stB (skN 6 s) (-1) = true then skN 6 s else fallS (skN 6 s)
theorem sk1_o {a k : Nat} (h : a ≠ 0 ∧ a ≠ 3 ∧ a ≠ 7 ∧ (a = 8 → k ≠ 8 ∧ k ≠ 9 ∧ k ≠ 10 ∧ k ≠ 11)) : sk1 s a k = s a k := by
  unfold sk1
  rw [ur_na h.2.2.1]
  exact brS_o ⟨h.1, h.2.1, h.2.2.2⟩ 6 0 s
theorem sk1_7 : sk1 s 7 = raS (s 7) (skS s) := by
  unfold sk1
  rw [ur_at]
  congr 1
  funext k
  exact brS_o ⟨by decide, by decide, fun e => absurd e (by decide)⟩ 6 0 s
theorem ko_sk1 (h : KO s) : KO (sk1 s) := by
  unfold sk1
  refine ko_ur (ko_br 6 0 h) fun k => ?_
  unfold raS
  split
  · exact (by decide : (-1 : Int) ≤ -1 ∧ (-1 : Int) ≤ 399)
  · exact ko_br 6 0 h 7 k
theorem ko_skN : ∀ n {s : MSt}, KO s → KO (skN n s)
  | 0, _, h => h
  | n + 1, s, h => by
    unfold skN
    by_cases c : mk (skS s) = 0
    · rw [if_pos c]; exact h
    · rw [if_neg c]; exact ko_skN n (ko_sk1 h)
theorem skN_o {a k : Nat} (h : a ≠ 0 ∧ a ≠ 3 ∧ a ≠ 7 ∧ (a = 8 → k ≠ 8 ∧ k ≠ 9 ∧ k ≠ 10 ∧ k ≠ 11)) : ∀ n (s : MSt), skN n s a k = s a k
  | 0, _ => rfl
  | n + 1, s => by
    unfold skN
    by_cases c : mk (skS s) = 0
    · rw [if_pos c]
    · rw [if_neg c, skN_o h n, sk1_o h]
theorem sgS_bd (x : Int) : -1 ≤ sgS x ∧ sgS x ≤ 1 := by unfold sgS; split <;> (try split) <;> omega
theorem dirS_bd : 0 ≤ dirS s ∧ dirS s ≤ 8 := by
  unfold dirS
  have h1 := sgS_bd (mxS s * cnS (s 7) - sxN (s 7) 6 0 0 * wS s)
  have h2 := sgS_bd (myS s * cnS (s 7) - syN (s 7) 6 0 0 * wS s)
  omega
theorem ko_fall (h : KO s) (h12 : s 8 12 < 1000000) : KO (fallS s) := by
  have h8 := ko_8 h
  unfold fallS
  exact ko_us (ko_ur (ko_us (ko_us (ko_us (ko_us h (a := 9) dirS_bd) (a := 10) (h 8 9)) (a := 11) (h 8 10)) (a := 8) (k := 12) (show (0 : Int) ≤ s 8 12 + 1 ∧ s 8 12 + 1 ≤ 1000000 by omega)) (a := 7) (g := fun _ => -1) (fun k => (by decide : (-1 : Int) ≤ -1 ∧ (-1 : Int) ≤ 399))) (a := 8) (k := 6) (v := 0) (by decide)
theorem ko_stl (h : KO s) (h12 : s 8 12 < 1000000) : KO (stlS s) := by
  unfold stlS
  split
  · exact h
  · split
    · exact ko_skN 6 h
    · exact ko_fall (ko_skN 6 h) (by rw [skN_o (by decide)]; exact h12)
end
