def dnS (s : MSt) (k : Nat) : Bool := decide (s 7 k ≠ -1)
/-- feet are apart -/
def DS (s : MSt) : Prop := ∀ j k, j < 6 → k < 6 → s 7 j ≠ -1 → s 7 j = s 7 k → j = k
/-- no feet beyond the legs -/
def LG (s : MSt) : Prop := ∀ k : Nat, k < 6 → s 8 0 ≤ k → s 7 k = -1
/-- the class's cells stay -/
def Fe (z f z' f' : Nat → Nat → Int32) : Prop := ∀ a, a < 66 → z' a = z a ∧ f' a = f a
theorem fd_tr {z f z1 f1 z2 f2 : Nat → Nat → Int32} (h : Fe z f z1 f1) (h2 : Fe z1 f1 z2 f2) : Fe z f z2 f2 := fun a ha => ⟨(h2 a ha).1.trans (h a ha).1, (h2 a ha).2.trans (h a ha).2⟩
section
variable {s : MSt} {z f z' f' : Nat → Nat → Int32}
theorem fd_cs (h : Fe z f z' f') (hc : CS s z f) : CS s z' f' := by
  have n1 : ∀ q ∈ arrsC, q.1 < 66 := by decide +kernel
  have n2 : ∀ q ∈ scalC, q.1 < 66 := by decide +kernel
  exact ⟨fun q hq k hk => by rw [(h q.1 (n1 q hq)).2]; exact hc.1 q hq k hk, fun q hq => by rw [(h q.1 (n2 q hq)).1]; exact hc.2 q hq⟩
theorem dn_clr {k : Nat} (hk : k < 6) : mk (dnS s) &&& (((1 : Int32) <<< (iv k &&& 31)) ^^^ (-1)) = mk (dnS (us s 7 k (-1))) := by
  rw [mk_clr k hk]
  refine mk_cg fun j hj => ?_
  unfold upb dnS us
  by_cases e : j = k
  · subst e; simp
  · simp [e]
theorem dn_or {k : Nat} (hk : k < 6) {p : Int} (hp : p ≠ -1) : mk (dnS s) ||| ((1 : Int32) <<< (iv k &&& 31)) = mk (dnS (us s 7 k p)) := by
  rw [mk_or k hk]
  refine mk_cg fun j hj => ?_
  unfold upb dnS us
  by_cases e : j = k
  · subst e; simp [hp]
  · simp [e]
theorem stB_wo {k : Nat} : stB s k = stB (us s 7 k (-1)) (-1) := by
  have : flP (s 7) k = flP (us s 7 k (-1) 7) (-1) := by
    have : ∀ n i, flN (s 7) k n i = flN (us s 7 k (-1) 7) (-1) n i := by
      intro n
      induction n with
      | zero => intro i; rfl
      | succ n ih =>
        intro i
        unfold flN
        rw [ih (i + 1)]
        by_cases e : i = k
        · subst e
          rw [if_pos (Or.inl rfl), if_pos (Or.inr us_at)]
        · rw [us_nk e]
          have e1 : ¬ (i : Int) = k := by omega
          have e2 : ¬ (i : Int) = -1 := by omega
          simp only [e1, e2, false_or]
    unfold flP fls
    rw [this]
  unfold stB
  rw [this]
  rfl
/-! counting, and where feet are -/
theorem mo_bit {i : Nat} (hi : i < 6) : ((mk (dnS s) >>> (iv i &&& 31)) &&& 1 = (1 : Int32)) ↔ s 7 i ≠ -1 := by
  rw [mk_get i hi]
  unfold dnS
  by_cases c : s 7 i = -1
  · simp [c]
  · simp [c]
end
