/-! each call: the class and the model answer alike, and what holds is kept -/
def IN (n : Int) (z f : Nat → Nat → Int32) : Prop := ∃ s, WF n s ∧ CS s z f ∧ MS s z f
theorem iv_ex (x : Int32) : ∃ a, IB a ∧ x = iv a := ⟨x.toInt, ⟨Int32.le_toInt x, Int32.toInt_lt x⟩, (iv_of x).symm⟩
/-- class and model answer alike -/
def CO (n : Int) (ns : List String) (r : Option ((Int32 ⊕ String) × (Nat → Nat → Int32) × (Nat → Nat → Int32))) (g : (Nat → Nat → Int32) → (Nat → Nat → Int32) → Option (Int32 × (Nat → Nat → Int32) × (Nat → Nat → Int32))) : Prop := ∃ (c : Nat) (v : Int) (z1 f1 : Nat → Nat → Int32) (v' : Int32) (z2 f2 : Nat → Nat → Int32), c ≤ ns.length ∧ r = some (rsC ns c v, z1, f1) ∧ g z1 f1 = some (v', z2, f2) ∧ z2 66 30 = iv (c : Nat) ∧ (c = 0 → v' = iv v) ∧ IN (n + 1) z2 f2
def CR (n : Int) (ns : List String) (z f : Nat → Nat → Int32) (r : Option (Int32 ⊕ String)) (g : (Nat → Nat → Int32) → (Nat → Nat → Int32) → Option (Int32 × (Nat → Nat → Int32) × (Nat → Nat → Int32))) : Prop := ∃ (c : Nat) (v : Int) (v' : Int32) (z2 f2 : Nat → Nat → Int32), c ≤ ns.length ∧ r = some (rsC ns c v) ∧ g z f = some (v', z2, f2) ∧ z2 66 30 = iv (c : Nat) ∧ (c = 0 → v' = iv v) ∧ IN (n + 1) z2 f2
def CN (n : Int) (r : Option (Int32 × (Nat → Nat → Int32) × (Nat → Nat → Int32))) (g : (Nat → Nat → Int32) → (Nat → Nat → Int32) → Option (Int32 × (Nat → Nat → Int32) × (Nat → Nat → Int32))) : Prop := ∃ (v : Int32) (z1 f1 z2 f2 : Nat → Nat → Int32), r = some (v, z1, f1) ∧ g z1 f1 = some (v, z2, f2) ∧ IN (n + 1) z2 f2
section
variable {n : Int} {z f : Nat → Nat → Int32}
theorem oc_ground {s : MSt} {a1 a2 a3 a4 a5 : Int} : (oGround s a1 a2 a3 a4 a5).1 ≤ 2 := by
  unfold oGround
  repeat' split
  all_goals (dsimp only; decide)
theorem co_ground (hn : n + 1 < 1000000) (h : IN n z f) (x1 x2 x3 x4 x5 : Int32) : CO n [nIAE, nISE] (g_X10_ground x1 x2 x3 x4 x5 z f) (g_X11_ground x1 x2 x3 x4 x5) := by
  obtain ⟨s, hW, hC, hM⟩ := h
  obtain ⟨a1, h1, rfl⟩ := iv_ex x1
  obtain ⟨a2, h2, rfl⟩ := iv_ex x2
  obtain ⟨a3, h3, rfl⟩ := iv_ex x3
  obtain ⟨a4, h4, rfl⟩ := iv_ex x4
  obtain ⟨a5, h5, rfl⟩ := iv_ex x5
  obtain ⟨z1, f1, e1, c1, m1⟩ := cq_ground hW.1.1 hC h1 h2 h3 h4 h5
  have hM1 := fm_ms m1 hM
  obtain ⟨v, z2, f2, e2, t2, u2, w2, d2⟩ := mq_ground hW.1.1 hW.2.1.2.1 hM1 h1 h2 h3 h4 h5
  exact ⟨_, _, z1, f1, v, z2, f2, oc_ground, e1, e2, t2, u2, _, wf_le (wf_gr hW _ _ _ _ _) (by omega), fd_cs d2 c1, w2⟩
theorem oc_chart {s : MSt} {a1 a2 a3 : Int} : (oChart s a1 a2 a3).1 ≤ 1 := by
  unfold oChart
  repeat' split
  all_goals (dsimp only; decide)
theorem co_chart (hn : n + 1 < 1000000) (h : IN n z f) (x1 x2 x3 : Int32) : CO n [nIAE] (g_X10_chart x1 x2 x3 z f) (g_X11_chart x1 x2 x3) := by
  obtain ⟨s, hW, hC, hM⟩ := h
  obtain ⟨a1, h1, rfl⟩ := iv_ex x1
  obtain ⟨a2, h2, rfl⟩ := iv_ex x2
  obtain ⟨a3, h3, rfl⟩ := iv_ex x3
  obtain ⟨z1, f1, e1, c1, m1⟩ := cq_chart hC h1 h2 h3
  have hM1 := fm_ms m1 hM
  obtain ⟨v, z2, f2, e2, t2, u2, w2, d2⟩ := mq_chart hM1 h1 h2 h3
  exact ⟨_, _, z1, f1, v, z2, f2, oc_chart, e1, e2, t2, u2, _, wf_le (wf_ch hW _ _ _) (by omega), fd_cs d2 c1, w2⟩
theorem oc_leg {s : MSt} {a1 a2 a3 : Int} : (oLeg s a1 a2 a3).1 ≤ 2 := by
  unfold oLeg
  repeat' split
  all_goals (dsimp only; decide)
theorem co_leg (hn : n + 1 < 1000000) (h : IN n z f) (x1 x2 x3 : Int32) : CO n [nIAE, nISE] (g_X10_leg x1 x2 x3 z f) (g_X11_leg x1 x2 x3) := by
  obtain ⟨s, hW, hC, hM⟩ := h
  obtain ⟨a1, h1, rfl⟩ := iv_ex x1
  obtain ⟨a2, h2, rfl⟩ := iv_ex x2
  obtain ⟨a3, h3, rfl⟩ := iv_ex x3
  obtain ⟨z1, f1, e1, c1, m1⟩ := cq_leg hW.1.1 hC h1 h2 h3
  have hM1 := fm_ms m1 hM
  obtain ⟨v, z2, f2, e2, t2, u2, w2, d2⟩ := mq_leg hW.1.1 hM1 h1 h2 h3
  exact ⟨_, _, z1, f1, v, z2, f2, oc_leg, e1, e2, t2, u2, _, wf_le (wf_leg hW _ _ _) (by omega), fd_cs d2 c1, w2⟩
theorem oc_charge {s : MSt} {a1 : Int} : (oCharge s a1).1 ≤ 1 := by
  unfold oCharge
  repeat' split
  all_goals (dsimp only; decide)
theorem co_charge (hn : n + 1 < 1000000) (h : IN n z f) (x1 : Int32) : CO n [nIAE] (g_X10_charge x1 z f) (g_X11_charge x1) := by
  obtain ⟨s, hW, hC, hM⟩ := h
  obtain ⟨a1, h1, rfl⟩ := iv_ex x1
  obtain ⟨z1, f1, e1, c1, m1⟩ := cq_charge hW.1.1 hC h1
  have hM1 := fm_ms m1 hM
  obtain ⟨v, z2, f2, e2, t2, u2, w2, d2⟩ := mq_charge hW.1.1 hM1 h1
  exact ⟨_, _, z1, f1, v, z2, f2, oc_charge, e1, e2, t2, u2, _, wf_le (wf_ca hW _) (by omega), fd_cs d2 c1, w2⟩
theorem oc_phase {s : MSt} {a1 a2 a3 a4 a5 : Int} : (oPhase s a1 a2 a3 a4 a5).1 ≤ 3 := by
  unfold oPhase
  repeat' split
  all_goals (dsimp only; decide)
theorem co_phase (hn : n + 1 < 1000000) (h : IN n z f) (x1 x2 x3 x4 x5 : Int32) : CO n [nIOB, nIAE, nISE] (g_X10_phase x1 x2 x3 x4 x5 z f) (g_X11_phase x1 x2 x3 x4 x5) := by
  obtain ⟨s, hW, hC, hM⟩ := h
  obtain ⟨a1, h1, rfl⟩ := iv_ex x1
  obtain ⟨a2, h2, rfl⟩ := iv_ex x2
  obtain ⟨a3, h3, rfl⟩ := iv_ex x3
  obtain ⟨a4, h4, rfl⟩ := iv_ex x4
  obtain ⟨a5, h5, rfl⟩ := iv_ex x5
  obtain ⟨z1, f1, e1, c1, m1⟩ := cq_phase hW.1.1 hC h1 h2 h3 h4 h5
  have hM1 := fm_ms m1 hM
  obtain ⟨v, z2, f2, e2, t2, u2, w2, d2⟩ := mq_phase hW.1.1 hM1 h1 h2 h3 h4 h5
  exact ⟨_, _, z1, f1, v, z2, f2, oc_phase, e1, e2, t2, u2, _, wf_le (wf_ph hW _ _ _ _ _) (by omega), fd_cs d2 c1, w2⟩
theorem oc_load {s : MSt} {a1 a2 a3 : Int} : (oLoad s a1 a2 a3).1 ≤ 2 := by
  unfold oLoad
  repeat' split
  all_goals (dsimp only; decide)
theorem co_load (hn : n + 1 < 1000000) (h : IN n z f) (x1 x2 x3 : Int32) : CO n [nIAE, nISE] (g_X10_load x1 x2 x3 z f) (g_X11_load x1 x2 x3) := by
  obtain ⟨s, hW, hC, hM⟩ := h
  obtain ⟨a1, h1, rfl⟩ := iv_ex x1
  obtain ⟨a2, h2, rfl⟩ := iv_ex x2
  obtain ⟨a3, h3, rfl⟩ := iv_ex x3
  obtain ⟨z1, f1, e1, c1, m1⟩ := cq_load (by omega) hW.1 hC h1 h2 h3
  have hM1 := fm_ms m1 hM
  obtain ⟨v, z2, f2, e2, t2, u2, w2, d2⟩ := mq_load (by omega) hW hM1 h1 h2 h3
  exact ⟨_, _, z1, f1, v, z2, f2, oc_load, e1, e2, t2, u2, _, wf_le (wf_load (by omega) hW _ _ _) (by omega), fd_cs d2 c1, w2⟩
theorem oc_rise {s : MSt} : (oRise s).1 ≤ 1 := by
  unfold oRise
  repeat' split
  all_goals (dsimp only; decide)
theorem co_rise (hn : n + 1 < 1000000) (h : IN n z f) : CO n [nISE] (g_X10_rise  z f) (g_X11_rise ) := by
  obtain ⟨s, hW, hC, hM⟩ := h
  obtain ⟨z1, f1, e1, c1, m1⟩ := cq_rise hn hW.1 hC 
  have hM1 := fm_ms m1 hM
  obtain ⟨v, z2, f2, e2, t2, u2, w2, d2⟩ := mq_rise hn hW hM1 
  exact ⟨_, _, z1, f1, v, z2, f2, oc_rise, e1, e2, t2, u2, _, wf_rise hn hW, fd_cs d2 c1, w2⟩
theorem oc_lift {s : MSt} {a1 : Int} : (oLift s a1).1 ≤ 2 := by
  unfold oLift
  repeat' split
  all_goals (dsimp only; decide)
theorem co_lift (hn : n + 1 < 1000000) (h : IN n z f) (x1 : Int32) : CO n [nIOB, nISE] (g_X10_lift x1 z f) (g_X11_lift x1) := by
  obtain ⟨s, hW, hC, hM⟩ := h
  obtain ⟨a1, h1, rfl⟩ := iv_ex x1
  obtain ⟨z1, f1, e1, c1, m1⟩ := cq_lift (by omega) hW.1 hC h1
  have hM1 := fm_ms m1 hM
  obtain ⟨v, z2, f2, e2, t2, u2, w2, d2⟩ := mq_lift (by omega) hW hM1 h1
  exact ⟨_, _, z1, f1, v, z2, f2, oc_lift, e1, e2, t2, u2, _, wf_le (wf_lift (by omega) hW _) (by omega), fd_cs d2 c1, w2⟩
theorem oc_place {s : MSt} {a1 a2 a3 : Int} : (oPlace s a1 a2 a3).1 ≤ 3 := by
  unfold oPlace
  repeat' split
  all_goals (dsimp only; decide)
theorem co_place (hn : n + 1 < 1000000) (h : IN n z f) (x1 x2 x3 : Int32) : CO n [nIOB, nIAE, nISE] (g_X10_place x1 x2 x3 z f) (g_X11_place x1 x2 x3) := by
  obtain ⟨s, hW, hC, hM⟩ := h
  obtain ⟨a1, h1, rfl⟩ := iv_ex x1
  obtain ⟨a2, h2, rfl⟩ := iv_ex x2
  obtain ⟨a3, h3, rfl⟩ := iv_ex x3
  obtain ⟨z1, f1, e1, c1, m1⟩ := cq_place (by omega) hW.1 hC h1 h2 h3
  have hM1 := fm_ms m1 hM
  obtain ⟨v, z2, f2, e2, t2, u2, w2, d2⟩ := mq_place (by omega) hW hM1 h1 h2 h3
  exact ⟨_, _, z1, f1, v, z2, f2, oc_place, e1, e2, t2, u2, _, wf_le (wf_place (by omega) hW _ _ _) (by omega), fd_cs d2 c1, w2⟩
theorem oc_shift {s : MSt} {a1 a2 : Int} : (oShift s a1 a2).1 ≤ 2 := by
  unfold oShift
  repeat' split
  all_goals (dsimp only; decide)
theorem co_shift (hn : n + 1 < 1000000) (h : IN n z f) (x1 x2 : Int32) : CO n [nIAE, nISE] (g_X10_shift x1 x2 z f) (g_X11_shift x1 x2) := by
  obtain ⟨s, hW, hC, hM⟩ := h
  obtain ⟨a1, h1, rfl⟩ := iv_ex x1
  obtain ⟨a2, h2, rfl⟩ := iv_ex x2
  obtain ⟨z1, f1, e1, c1, m1⟩ := cq_shift (by omega) hW.1 hC h1 h2
  have hM1 := fm_ms m1 hM
  obtain ⟨v, z2, f2, e2, t2, u2, w2, d2⟩ := mq_shift (by omega) hW hM1 h1 h2
  exact ⟨_, _, z1, f1, v, z2, f2, oc_shift, e1, e2, t2, u2, _, wf_le (wf_shift (by omega) hW _ _) (by omega), fd_cs d2 c1, w2⟩
theorem oc_walk {s : MSt} {a1 : Int} : (oWalk s a1).1 ≤ 2 := by
  unfold oWalk
  repeat' split
  all_goals (dsimp only; decide)
theorem co_walk (hn : n + 1 < 1000000) (h : IN n z f) (x1 : Int32) : CO n [nIAE, nISE] (g_X10_walk x1 z f) (g_X11_walk x1) := by
  obtain ⟨s, hW, hC, hM⟩ := h
  obtain ⟨a1, h1, rfl⟩ := iv_ex x1
  obtain ⟨z1, f1, e1, c1, m1⟩ := cq_walk (by omega) hW.1 hC h1
  have hM1 := fm_ms m1 hM
  obtain ⟨v, z2, f2, e2, t2, u2, w2, d2⟩ := mq_walk (by omega) hW hM1 h1
  exact ⟨_, _, z1, f1, v, z2, f2, oc_walk, e1, e2, t2, u2, _, wf_le (wf_walk (by omega) hW _) (by omega), fd_cs d2 c1, w2⟩
theorem oc_machine {s : MSt} {a1 : Int} : (oMach s a1).1 ≤ 1 := by
  unfold oMach
  repeat' split
  all_goals (dsimp only; decide)
theorem co_machine (h : IN n z f) (x1 : Int32) : CR n [nIAE] z f (g_X10_machine x1 z f) (g_X11_machine x1) := by
  obtain ⟨s, hW, hC, hM⟩ := h
  obtain ⟨a1, h1, rfl⟩ := iv_ex x1
  obtain ⟨v, z2, f2, e2, t2, u2, w2, d2⟩ := mq_machine hW.1.1 hM h1
  exact ⟨_, _, v, z2, f2, oc_machine, cq_machine hW.1.1 hC h1, e2, t2, u2, _, wf_le hW (by omega), fd_cs d2 hC, w2⟩
theorem oc_foot {s : MSt} {a1 a2 : Int} : (oFoot s a1 a2).1 ≤ 2 := by
  unfold oFoot
  repeat' split
  all_goals (dsimp only; decide)
theorem co_foot (h : IN n z f) (x1 x2 : Int32) : CR n [nIOB, nIAE] z f (g_X10_foot x1 x2 z f) (g_X11_foot x1 x2) := by
  obtain ⟨s, hW, hC, hM⟩ := h
  obtain ⟨a1, h1, rfl⟩ := iv_ex x1
  obtain ⟨a2, h2, rfl⟩ := iv_ex x2
  obtain ⟨v, z2, f2, e2, t2, u2, w2, d2⟩ := mq_foot hW.1.1 hM h1 h2
  exact ⟨_, _, v, z2, f2, oc_foot, cq_foot hW.1.1 hC h1 h2, e2, t2, u2, _, wf_le hW (by omega), fd_cs d2 hC, w2⟩
theorem oc_point {s : MSt} {a1 a2 a3 : Int} : (oPoint s a1 a2 a3).1 ≤ 1 := by
  unfold oPoint
  repeat' split
  all_goals (dsimp only; decide)
theorem co_point (h : IN n z f) (x1 x2 x3 : Int32) : CR n [nIAE] z f (g_X10_point x1 x2 x3 z f) (g_X11_point x1 x2 x3) := by
  obtain ⟨s, hW, hC, hM⟩ := h
  obtain ⟨a1, h1, rfl⟩ := iv_ex x1
  obtain ⟨a2, h2, rfl⟩ := iv_ex x2
  obtain ⟨a3, h3, rfl⟩ := iv_ex x3
  obtain ⟨v, z2, f2, e2, t2, u2, w2, d2⟩ := mq_point hM h1 h2 h3
  exact ⟨_, _, v, z2, f2, oc_point, cq_point hC h1 h2 h3, e2, t2, u2, _, wf_le hW (by omega), fd_cs d2 hC, w2⟩
theorem oc_fall {s : MSt} {a1 a2 : Int} : (oFall s a1 a2).1 ≤ 2 := by
  unfold oFall
  repeat' split
  all_goals (dsimp only; decide)
theorem co_fall (h : IN n z f) (x1 x2 : Int32) : CR n [nIOB, nIAE] z f (g_X10_fall x1 x2 z f) (g_X11_fall x1 x2) := by
  obtain ⟨s, hW, hC, hM⟩ := h
  obtain ⟨a1, h1, rfl⟩ := iv_ex x1
  obtain ⟨a2, h2, rfl⟩ := iv_ex x2
  obtain ⟨v, z2, f2, e2, t2, u2, w2, d2⟩ := mq_fall hW.1.1 hM h1 h2
  exact ⟨_, _, v, z2, f2, oc_fall, cq_fall hW.1.1 hW.2.1.2.2.2 hC h1 h2, e2, t2, u2, _, wf_le hW (by omega), fd_cs d2 hC, w2⟩
theorem oc_foothold {s : MSt} {a1 : Int} : (oFh s a1).1 ≤ 1 := by
  unfold oFh
  repeat' split
  all_goals (dsimp only; decide)
theorem co_foothold (h : IN n z f) (x1 : Int32) : CR n [nIOB] z f (g_X10_foothold x1 z f) (g_X11_foothold x1) := by
  obtain ⟨s, hW, hC, hM⟩ := h
  obtain ⟨a1, h1, rfl⟩ := iv_ex x1
  obtain ⟨v, z2, f2, e2, t2, u2, w2, d2⟩ := mq_foothold hW.1.1 hW.2.1.2.1 hW.2.1.1 hM h1
  exact ⟨_, _, v, z2, f2, oc_foothold, cq_foothold hW.1.1 hC h1, e2, t2, u2, _, wf_le hW (by omega), fd_cs d2 hC, w2⟩
theorem co_corner (h : IN n z f) (x1 : Int32) : CO n [nIAE] (g_X10_corner x1 z f) (g_X11_corner x1) := by
  obtain ⟨s, hW, hC, hM⟩ := h
  obtain ⟨a1, h1, rfl⟩ := iv_ex x1
  obtain ⟨z1, f1, m, c, q, e1, j1⟩ := cq_corner hW.1.1 hC h1
  have hM1 := fm_ms j1.2.2 hM
  obtain ⟨v, z2, f2, e2, t2, u2, w2, d2⟩ := mq_corner hW.1.1 hW.2.1.1 hM1 q h1
  exact ⟨_, _, z1, f1, v, z2, f2, (by split <;> decide), e1, e2, t2, u2, s, wf_le hW (by omega), fd_cs d2 (cj_cs j1 hC), w2⟩
theorem oc_would {s : MSt} {a1 : Int} : (oWould s a1).1 ≤ 1 := by
  unfold oWould
  split <;> (dsimp only; decide)
theorem co_wouldLift (h : IN n z f) (x1 : Int32) : CO n [nIOB] (g_X10_wouldLift x1 z f) (g_X11_wouldLift x1) := by
  obtain ⟨s, hW, hC, hM⟩ := h
  obtain ⟨a1, h1, rfl⟩ := iv_ex x1
  obtain ⟨z1, f1, e1, j1⟩ := cq_would hW.1.1 hC h1
  have hM1 := fm_ms j1.2.2 hM
  obtain ⟨v, z2, f2, e2, t2, u2, w2, d2⟩ := mq_would hW.1.1 hW.2.1.1 hM1 h1
  exact ⟨_, _, z1, f1, v, z2, f2, oc_would, e1, e2, t2, u2, s, wf_le hW (by omega), fd_cs d2 (cj_cs j1 hC), w2⟩
theorem co_halt (h : IN n z f) : CN n (g_X10_halt z f) g_X11_halt := by
  obtain ⟨s, hW, hC, hM⟩ := h
  obtain ⟨z1, f1, e1, c1, m1⟩ := cq_halt hC
  obtain ⟨z2, f2, e2, w2, d2⟩ := mq_halt (fm_ms m1 hM)
  exact ⟨_, z1, f1, z2, f2, e1, e2, haS s, wf_le (wf_ha hW) (by omega), fd_cs d2 c1, w2⟩
theorem co_isStable (h : IN n z f) : CN n (g_X10_isStable z f) g_X11_isStable := by
  obtain ⟨s, hW, hC, hM⟩ := h
  obtain ⟨z1, f1, e1, j1⟩ := cq_isStable hW.1.1 hC
  obtain ⟨z2, f2, e2, w2, d2⟩ := mq_isStable hW.1.1 hW.2.1.1 (fm_ms j1.2.2 hM)
  exact ⟨_, z1, f1, z2, f2, e1, e2, s, wf_le hW (by omega), fd_cs d2 (cj_cs j1 hC), w2⟩
theorem co_isStableAnew (h : IN n z f) : CN n (g_X10_isStableAnew z f) g_X11_isStableAnew := by
  obtain ⟨s, hW, hC, hM⟩ := h
  obtain ⟨z1, f1, e1, j1⟩ := cq_isStableAnew hW.1.1 hC
  obtain ⟨z2, f2, e2, w2, d2⟩ := mq_isStableAnew hW.1.1 hW.2.1.1 (fm_ms j1.2.2 hM)
  exact ⟨_, z1, f1, z2, f2, e1, e2, s, wf_le hW (by omega), fd_cs d2 (cj_cs j1 hC), w2⟩
theorem co_margin (h : IN n z f) : CN n (g_X10_margin z f) g_X11_margin := by
  obtain ⟨s, hW, hC, hM⟩ := h
  obtain ⟨z1, f1, m, c, q, e1, j1⟩ := cq_margin hW.1.1 hC
  obtain ⟨z2, f2, e2, -, w2, d2⟩ := mq_margin hW.1.1 hW.2.1.1 (fm_ms j1.2.2 hM) q
  exact ⟨_, z1, f1, z2, f2, e1, e2, s, wf_le hW (by omega), fd_cs d2 (cj_cs j1 hC), w2⟩
/-- .. the fewest, with what the model throws away -/
def CJK (n : Int) (ns : List String) (r : Option ((Int32 ⊕ String) × (Nat → Nat → Int32) × (Nat → Nat → Int32))) (g : (Nat → Nat → Int32) → (Nat → Nat → Int32) → Option (Int32 × (Nat → Nat → Int32) × (Nat → Nat → Int32) × LWd)) : Prop := ∃ (c : Nat) (v : Int) (z1 f1 : Nat → Nat → Int32) (v' : Int32) (z2 f2 : Nat → Nat → Int32) (J : LWd), c ≤ ns.length ∧ r = some (rsC ns c v, z1, f1) ∧ g z1 f1 = some (v', z2, f2, J) ∧ (J = [] ∨ ∃ u v, J = wJ u v) ∧ z2 66 30 = iv (c : Nat) ∧ (c = 0 → v' = iv v) ∧ IN (n + 1) z2 f2
theorem co_few (h : IN n z f) {a b : Int} (ha : IB a) (hb : IB b) {r : Option ((Int32 ⊕ String) × (Nat → Nat → Int32) × (Nat → Nat → Int32))} (hr : ∀ s, WF n s → CS s z f → ∃ q z' f', (paS a b ≠ -1 → fwR s a b q) ∧ r = some (rsC [nIAE] (fwC s a b) q, z', f') ∧ CJ z f z' f') : CJK n [nIAE] r (g_X11_fewest (iv a) (iv b)) := by
  obtain ⟨s, hW, hC, hM⟩ := h
  obtain ⟨q, z1, f1, p1, e1, j1⟩ := hr s hW hC
  obtain ⟨v, z2, f2, J, e2, g2, t2, u2, w2, d2⟩ := mq_fewest (wf_pi hW) (fm_ms j1.2.2 hM) ha hb
  refine ⟨_, _, z1, f1, v, z2, f2, J, ?_, e1, e2, g2, t2, fun hc => ?_, s, wf_le hW (by omega), fd_cs d2 (cj_cs j1 hC), w2⟩
  · unfold fwC
    split <;> decide
  · have hp : paS a b ≠ -1 := fun q => by
      unfold fwC at hc
      rw [if_pos q] at hc
      exact absurd hc (by decide)
    obtain ⟨r', e, hr'⟩ := u2 hp
    rw [e, fwR_uniq (p1 hp) hr']
theorem co_fewest (h : IN n z f) (x1 x2 : Int32) : CJK n [nIAE] (g_X10_fewest x1 x2 z f) (g_X11_fewest x1 x2) := by
  obtain ⟨a1, h1, rfl⟩ := iv_ex x1
  obtain ⟨a2, h2, rfl⟩ := iv_ex x2
  exact co_few h h1 h2 fun s hW hC => cq_fewest (wf_pi hW) hC h1 h2
theorem co_fewestAnew (h : IN n z f) (x1 x2 : Int32) : CJK n [nIAE] (g_X10_fewestAnew x1 x2 z f) (g_X11_fewest x1 x2) := by
  obtain ⟨a1, h1, rfl⟩ := iv_ex x1
  obtain ⟨a2, h2, rfl⟩ := iv_ex x2
  exact co_few h h1 h2 fun s hW hC => cq_fewestAnew (wf_pi hW) hC h1 h2
end
