section
variable {s : MSt} {z f : Nat → Nat → Int32}
theorem mv_bk {x y : Int} : us (us (mvS s x y) 8 4 (s 8 4)) 8 5 (s 8 5) = s := by
  funext a k
  unfold mvS us
  by_cases c : a = 8
  · subst c
    by_cases c1 : k = 4
    · subst c1; simp
    · by_cases c2 : k = 5
      · subst c2; simp
      · simp [c1, c2]
  · simp [c]
end
