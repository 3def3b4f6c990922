section
variable {s : MSt} {z f : Nat → Nat → Int32}
theorem us_comm {a k a' k' : Nat} {v w : Int} (h : ¬ (a = a' ∧ k = k')) : us (us s a k v) a' k' w = us (us s a' k' w) a k v := by
  funext b j
  unfold us
  by_cases c : b = a ∧ j = k
  · rw [if_neg (show ¬ (b = a' ∧ j = k') by omega), if_pos c, if_pos c]
  · rw [if_neg c]
    by_cases d : b = a' ∧ j = k'
    · rw [if_pos d, if_neg c]
    · rw [if_neg d, if_neg c]
theorem us_id {a k : Nat} : us s a k (s a k) = s := by
  funext b j
  unfold us
  by_cases c : b = a ∧ j = k
  · rw [if_pos c, c.1, c.2]
  · rw [if_neg c]
end
