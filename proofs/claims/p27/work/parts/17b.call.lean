theorem iv_ex (x : Int32) : ∃ a, IB a ∧ x = iv a := ⟨x.toInt, ⟨Int32.le_toInt x, Int32.toInt_lt x⟩, (iv_of x).symm⟩
section
variable {n : Int} {z f : Nat → Nat → Int32}
theorem oc_ground {s : MSt} {a1 a2 a3 a4 a5 : Int} : (oGround s a1 a2 a3 a4 a5).1 ≤ 2 := by
  unfold oGround
  repeat' split
  all_goals (dsimp only; decide)
theorem oc_chart {s : MSt} {a1 a2 a3 : Int} : (oChart s a1 a2 a3).1 ≤ 1 := by
  unfold oChart
  repeat' split
  all_goals (dsimp only; decide)
theorem oc_leg {s : MSt} {a1 a2 a3 : Int} : (oLeg s a1 a2 a3).1 ≤ 2 := by
  unfold oLeg
  repeat' split
  all_goals (dsimp only; decide)
theorem oc_charge {s : MSt} {a1 : Int} : (oCharge s a1).1 ≤ 1 := by
  unfold oCharge
  repeat' split
  all_goals (dsimp only; decide)
theorem oc_phase {s : MSt} {a1 a2 a3 a4 a5 : Int} : (oPhase s a1 a2 a3 a4 a5).1 ≤ 3 := by
  unfold oPhase
  repeat' split
  all_goals (dsimp only; decide)
theorem oc_load {s : MSt} {a1 a2 a3 : Int} : (oLoad s a1 a2 a3).1 ≤ 2 := by
  unfold oLoad
  repeat' split
  all_goals (dsimp only; decide)
theorem oc_rise {s : MSt} : (oRise s).1 ≤ 1 := by
  unfold oRise
  repeat' split
  all_goals (dsimp only; decide)
theorem oc_lift {s : MSt} {a1 : Int} : (oLift s a1).1 ≤ 2 := by
  unfold oLift
  repeat' split
  all_goals (dsimp only; decide)
theorem oc_place {s : MSt} {a1 a2 a3 : Int} : (oPlace s a1 a2 a3).1 ≤ 3 := by
  unfold oPlace
  repeat' split
  all_goals (dsimp only; decide)
theorem oc_shift {s : MSt} {a1 a2 : Int} : (oShift s a1 a2).1 ≤ 2 := by
  unfold oShift
  repeat' split
  all_goals (dsimp only; decide)
theorem oc_walk {s : MSt} {a1 : Int} : (oWalk s a1).1 ≤ 2 := by
  unfold oWalk
  repeat' split
  all_goals (dsimp only; decide)
theorem oc_machine {s : MSt} {a1 : Int} : (oMach s a1).1 ≤ 1 := by
  unfold oMach
  repeat' split
  all_goals (dsimp only; decide)
theorem oc_foot {s : MSt} {a1 a2 : Int} : (oFoot s a1 a2).1 ≤ 2 := by
  unfold oFoot
  repeat' split
  all_goals (dsimp only; decide)
theorem oc_point {s : MSt} {a1 a2 a3 : Int} : (oPoint s a1 a2 a3).1 ≤ 1 := by
  unfold oPoint
  repeat' split
  all_goals (dsimp only; decide)
theorem oc_fall {s : MSt} {a1 a2 : Int} : (oFall s a1 a2).1 ≤ 2 := by
  unfold oFall
  repeat' split
  all_goals (dsimp only; decide)
theorem oc_foothold {s : MSt} {a1 : Int} : (oFh s a1).1 ≤ 1 := by
  unfold oFh
  repeat' split
  all_goals (dsimp only; decide)
theorem oc_would {s : MSt} {a1 : Int} : (oWould s a1).1 ≤ 1 := by
  unfold oWould
  split <;> (dsimp only; decide)
end
