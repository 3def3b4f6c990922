/-! the methods over the two functions: written by wip/whole/gmake.py -/
def g_X11_makes (i1 : Int32) (z f : Nat → Nat → Int32) : Option Int32 :=
  (ixA 7 i1).bind fun j1 =>
  if z 66 28 = 0 then none else
  (ixA 7 (jrem (i1 + 1) (z 66 28))).bind fun j2 =>
  (g_X11_momentX  z f).bind fun x3 =>
  (g_X11_weight  z f).bind fun x4 =>
  (ixA 6 (f 78 j1)).bind fun j5 =>
  (g_X11_momentY  z f).bind fun x6 =>
  (g_X11_weight  z f).bind fun x7 =>
  (ixA 6 (f 78 j1)).bind fun j8 =>
  (ixA 6 (f 78 j2)).bind fun j9 =>
  (ixA 6 (f 78 j1)).bind fun j10 =>
  (ixA 6 (f 78 j2)).bind fun j11 =>
  (ixA 6 (f 78 j1)).bind fun j12 =>
  some ((((f 74 j9) - (f 74 j10)) * (x6 - (x7 * (f 75 j8)))) - (((f 75 j11) - (f 75 j12)) * (x3 - (x4 * (f 74 j5)))))
set_option maxRecDepth 100000 in
set_option maxHeartbeats 4000000 in
theorem e_X11_makes {r : LWd} {z f : Nat → Nat → Int32} {i1 : Int32} : m_X11_makes 66 i1 (wA z f r) = (g_X11_makes i1 z f).map (fun x => (x, wA z f r)) := by
  unfold m_X11_makes g_X11_makes
  refine opS rcv_66 ?_
  refine opS fR_66_29 ?_
  refine opM aI_78 (fun j1 hj1 => ?_)
  refine opS fR_66_29 ?_
  refine opS fI_66_28 ?_
  refine iteN (fun _ => ?_)
  refine opM aI_78 (fun j2 hj2 => ?_)
  refine caP (e_X11_momentX) (fun x3 => ?_)
  refine caP (e_X11_weight) (fun x4 => ?_)
  refine opS fR_66_15 ?_
  refine opM aI_74 (fun j5 hj5 => ?_)
  refine caP (e_X11_momentY) (fun x6 => ?_)
  refine caP (e_X11_weight) (fun x7 => ?_)
  refine opS fR_66_16 ?_
  refine opM aI_75 (fun j8 hj8 => ?_)
  refine opS fR_66_15 ?_
  refine opM aI_74 (fun j9 hj9 => ?_)
  refine opS fR_66_15 ?_
  refine opM aI_74 (fun j10 hj10 => ?_)
  refine opS fR_66_16 ?_
  refine opM aI_75 (fun j11 hj11 => ?_)
  refine opS fR_66_16 ?_
  refine opM aI_75 (fun j12 hj12 => ?_)
  rfl
def g_X11_holds_b113 (k85 : Int32 → Int32 → Int32 → Int32 → Int32 → (Nat → Nat → Int32) → (Nat → Nat → Int32) → Option (Int32 × (Nat → Nat → Int32) × (Nat → Nat → Int32))) (i2 : Int32) (i3 : Int32) (i4 : Int32) (i6 : Int32) (s0 : Int32) (z f : Nat → Nat → Int32) : Option (Int32 × (Nat → Nat → Int32) × (Nat → Nat → Int32)) :=
  k85 i2 i3 i4 s0 (i6 + 1) z f
set_option maxRecDepth 100000 in
set_option maxHeartbeats 4000000 in
theorem e_X11_holds_b113 {r : LWd} {k85 : Nat → Int32 → Int32 → Int32 → Int32 → Int32 → LWd → Option (Int32 × LWd)} {kg85 : Int32 → Int32 → Int32 → Int32 → Int32 → (Nat → Nat → Int32) → (Nat → Nat → Int32) → Option (Int32 × (Nat → Nat → Int32) × (Nat → Nat → Int32))} (hk85 : ∀ (i2 : Int32) (i3 : Int32) (i4 : Int32) (i5 : Int32) (i6 : Int32) (z f : Nat → Nat → Int32), k85 66 i2 i3 i4 i5 i6 (wA z f r) = (kg85 i2 i3 i4 i5 i6 z f).map (fun q => (q.1, wA q.2.1 q.2.2 r))) (i2 : Int32) (i3 : Int32) (i4 : Int32) (i6 : Int32) (s0 : Int32) (z f : Nat → Nat → Int32) : m_X11_holds_b113 k85 66 i2 i3 i4 i6 s0 (wA z f r) = (g_X11_holds_b113 kg85 i2 i3 i4 i6 s0 z f).map (fun q => (q.1, wA q.2.1 q.2.2 r)) := by
  unfold m_X11_holds_b113 g_X11_holds_b113
  exact hk85 _ _ _ _ _  _ _
def g_X11_holds_b112 (k85 : Int32 → Int32 → Int32 → Int32 → Int32 → (Nat → Nat → Int32) → (Nat → Nat → Int32) → Option (Int32 × (Nat → Nat → Int32) × (Nat → Nat → Int32))) (i2 : Int32) (i3 : Int32) (i4 : Int32) (i6 : Int32) (z f : Nat → Nat → Int32) : Option (Int32 × (Nat → Nat → Int32) × (Nat → Nat → Int32)) :=
  g_X11_holds_b113 k85 i2 i3 i4 i6 0 z f
set_option maxRecDepth 100000 in
set_option maxHeartbeats 4000000 in
theorem e_X11_holds_b112 {r : LWd} {k85 : Nat → Int32 → Int32 → Int32 → Int32 → Int32 → LWd → Option (Int32 × LWd)} {kg85 : Int32 → Int32 → Int32 → Int32 → Int32 → (Nat → Nat → Int32) → (Nat → Nat → Int32) → Option (Int32 × (Nat → Nat → Int32) × (Nat → Nat → Int32))} (hk85 : ∀ (i2 : Int32) (i3 : Int32) (i4 : Int32) (i5 : Int32) (i6 : Int32) (z f : Nat → Nat → Int32), k85 66 i2 i3 i4 i5 i6 (wA z f r) = (kg85 i2 i3 i4 i5 i6 z f).map (fun q => (q.1, wA q.2.1 q.2.2 r))) (i2 : Int32) (i3 : Int32) (i4 : Int32) (i6 : Int32) (z f : Nat → Nat → Int32) : m_X11_holds_b112 k85 66 i2 i3 i4 i6 (wA z f r) = (g_X11_holds_b112 kg85 i2 i3 i4 i6 z f).map (fun q => (q.1, wA q.2.1 q.2.2 r)) := by
  unfold m_X11_holds_b112 g_X11_holds_b112
  exact e_X11_holds_b113 (hk85 := hk85) _ _ _ _ _  _ _
def g_X11_holds_l85 : Nat → Int32 → Int32 → Int32 → Int32 → Int32 → (Nat → Nat → Int32) → (Nat → Nat → Int32) → Option (Int32 × (Nat → Nat → Int32) × (Nat → Nat → Int32))
  | 0, _, _, _, _, _, _, _ => none
  | fu + 1, i2, i3, i4, i5, i6, z, f =>
    if (z 66 28) ≤ i6 then
      if (z 66 28) ≤ 2 then
        (ixA 7 1).bind fun j1 =>
        (ixA 6 (f 78 j1)).bind fun j2 =>
        (ixA 6 i2).bind fun j3 =>
        (ixA 6 (f 78 j1)).bind fun j4 =>
        (ixA 6 i2).bind fun j5 =>
        if i5 = 0 then
          some (0, z, f)
        else
          if ((((f 74 j2) - (f 74 j3)) * i3) + (((f 75 j4) - (f 75 j5)) * i4)) < 0 then
            some (0, z, f)
          else
            (g_X11_square i2 (f 78 j1) z f).bind fun x6 =>
            (g_X11_weight  z f).bind fun x7 =>
            if (x6 * x7) < ((((f 74 j2) - (f 74 j3)) * i3) + (((f 75 j4) - (f 75 j5)) * i4)) then
              some (0, z, f)
            else
              some (1, z, f)
      else
        rtZw i5 z f
    else
      if i5 = 0 then
        g_X11_holds_b112 (fun y0 y1 y2 y3 y4 z f => g_X11_holds_l85 fu y0 y1 y2 y3 y4 z f) i2 i3 i4 i6 z f
      else
        (g_X11_makes i6 z f).bind fun x8 =>
        if x8 < 0 then
          g_X11_holds_b112 (fun y0 y1 y2 y3 y4 z f => g_X11_holds_l85 fu y0 y1 y2 y3 y4 z f) i2 i3 i4 i6 z f
        else
          g_X11_holds_b113 (fun y0 y1 y2 y3 y4 z f => g_X11_holds_l85 fu y0 y1 y2 y3 y4 z f) i2 i3 i4 i6 1 z f
set_option maxRecDepth 100000 in
set_option maxHeartbeats 4000000 in
theorem e_X11_holds_l85 {r : LWd} : ∀ (fu : Nat) (i2 : Int32) (i3 : Int32) (i4 : Int32) (i5 : Int32) (i6 : Int32) (z f : Nat → Nat → Int32), m_X11_holds_l85 fu 66 i2 i3 i4 i5 i6 (wA z f r) = (g_X11_holds_l85 fu i2 i3 i4 i5 i6 z f).map (fun q => (q.1, wA q.2.1 q.2.2 r)) := by
  intro fu
  induction fu with
  | zero => intro i2 i3 i4 i5 i6  z f; rfl
  | succ fu ih =>
    intro i2 i3 i4 i5 i6  z f
    rw [m_X11_holds_l85, g_X11_holds_l85]
    refine opS fI_66_28 ?_
    refine iteE (fun _ => ?_) (fun _ => ?_)
    · refine opS fI_66_28 ?_
      refine iteE (fun _ => ?_) (fun _ => ?_)
      · refine opS fR_66_29 ?_
        refine opM aI_78 (fun j1 hj1 => ?_)
        refine opS fR_66_15 ?_
        refine opM aI_74 (fun j2 hj2 => ?_)
        refine opS fR_66_15 ?_
        refine opM aI_74 (fun j3 hj3 => ?_)
        refine opS fR_66_16 ?_
        refine opM aI_75 (fun j4 hj4 => ?_)
        refine opS fR_66_16 ?_
        refine opM aI_75 (fun j5 hj5 => ?_)
        refine iteE (fun _ => ?_) (fun _ => ?_)
        · rfl
        · refine iteE (fun _ => ?_) (fun _ => ?_)
          · rfl
          · refine caP (e_X11_square) (fun x6 => ?_)
            refine caP (e_X11_weight) (fun x7 => ?_)
            refine iteE (fun _ => ?_) (fun _ => ?_)
            · rfl
            · rfl
      · exact reZw
    · refine iteE (fun _ => ?_) (fun _ => ?_)
      · exact e_X11_holds_b112 (hk85 := ih) _ _ _ _  _ _
      · refine caP (e_X11_makes) (fun x8 => ?_)
        refine iteE (fun _ => ?_) (fun _ => ?_)
        · exact e_X11_holds_b112 (hk85 := ih) _ _ _ _  _ _
        · exact e_X11_holds_b113 (hk85 := ih) _ _ _ _ _  _ _
def g_X11_holds (i1 : Int32) (z f : Nat → Nat → Int32) : Option (Int32 × (Nat → Nat → Int32) × (Nat → Nat → Int32)) :=
  bn2 (g_X11_hull i1 z f) fun z1 u2 =>
  if (z1 66 28) = 0 then
    some (0, z1, u2)
  else
    (ixA 7 0).bind fun j3 =>
    (g_X11_momentX  z1 u2).bind fun x4 =>
    (g_X11_weight  z1 u2).bind fun x5 =>
    (ixA 6 (u2 78 j3)).bind fun j6 =>
    (g_X11_momentY  z1 u2).bind fun x7 =>
    (g_X11_weight  z1 u2).bind fun x8 =>
    (ixA 6 (u2 78 j3)).bind fun j9 =>
    if (z1 66 28) = 1 then
      if (x4 - (x5 * (u2 74 j6))) = 0 then
        if (x7 - (x8 * (u2 75 j9))) = 0 then
          some (1, z1, u2)
        else
          some (0, z1, u2)
      else
        some (0, z1, u2)
    else
      g_X11_holds_l85 FU (u2 78 j3) (x4 - (x5 * (u2 74 j6))) (x7 - (x8 * (u2 75 j9))) 1 0 z1 u2
set_option maxRecDepth 100000 in
set_option maxHeartbeats 4000000 in
theorem e_X11_holds {r : LWd} {z f : Nat → Nat → Int32} {i1 : Int32} : m_X11_holds 66 i1 (wA z f r) = (g_X11_holds i1 z f).map (fun q => (q.1, wA q.2.1 q.2.2 r)) := by
  unfold m_X11_holds g_X11_holds
  refine opS rcv_66 ?_
  refine caU (e_X11_hull) (fun _ _ => rfl) (fun z1 u2 => ?_)
  refine opS fI_66_28 ?_
  refine iteE (fun _ => ?_) (fun _ => ?_)
  · rfl
  · refine opS fR_66_29 ?_
    refine opM aI_78 (fun j3 hj3 => ?_)
    refine caP (e_X11_momentX) (fun x4 => ?_)
    refine caP (e_X11_weight) (fun x5 => ?_)
    refine opS fR_66_15 ?_
    refine opM aI_74 (fun j6 hj6 => ?_)
    refine caP (e_X11_momentY) (fun x7 => ?_)
    refine caP (e_X11_weight) (fun x8 => ?_)
    refine opS fR_66_16 ?_
    refine opM aI_75 (fun j9 hj9 => ?_)
    refine opS fI_66_28 ?_
    refine iteE (fun _ => ?_) (fun _ => ?_)
    · refine iteE (fun _ => ?_) (fun _ => ?_)
      · refine iteE (fun _ => ?_) (fun _ => ?_)
        · rfl
        · rfl
      · rfl
    · exact e_X11_holds_l85 FU _ _ _ _ _  _ _
def g_X11_level_b57 (k4 : Int32 → Int32 → Int32 → (Nat → Nat → Int32) → (Nat → Nat → Int32) → Option Int32) (i1 : Int32) (i3 : Int32) (s0 : Int32) (z f : Nat → Nat → Int32) : Option Int32 :=
  k4 i1 s0 (i3 + 1) z f
set_option maxRecDepth 100000 in
set_option maxHeartbeats 4000000 in
theorem e_X11_level_b57 {r : LWd} {z f : Nat → Nat → Int32} {k4 : Nat → Int32 → Int32 → Int32 → LWd → Option (Int32 × LWd)} {kg4 : Int32 → Int32 → Int32 → (Nat → Nat → Int32) → (Nat → Nat → Int32) → Option Int32} (hk4 : ∀ (i1 : Int32) (i2 : Int32) (i3 : Int32), k4 66 i1 i2 i3 (wA z f r) = (kg4 i1 i2 i3 z f).map (fun x => (x, wA z f r))) (i1 : Int32) (i3 : Int32) (s0 : Int32) : m_X11_level_b57 k4 66 i1 i3 s0 (wA z f r) = (g_X11_level_b57 kg4 i1 i3 s0 z f).map (fun x => (x, wA z f r)) := by
  unfold m_X11_level_b57 g_X11_level_b57
  exact hk4 _ _ _ 
def g_X11_level_b43 (k4 : Int32 → Int32 → Int32 → (Nat → Nat → Int32) → (Nat → Nat → Int32) → Option Int32) (i1 : Int32) (i2 : Int32) (i3 : Int32) (s0 : Int32) (z f : Nat → Nat → Int32) : Option Int32 :=
  if s0 ≤ i2 then
    g_X11_level_b57 k4 i1 i3 i2 z f
  else
    g_X11_level_b57 k4 i1 i3 s0 z f
set_option maxRecDepth 100000 in
set_option maxHeartbeats 4000000 in
theorem e_X11_level_b43 {r : LWd} {z f : Nat → Nat → Int32} {k4 : Nat → Int32 → Int32 → Int32 → LWd → Option (Int32 × LWd)} {kg4 : Int32 → Int32 → Int32 → (Nat → Nat → Int32) → (Nat → Nat → Int32) → Option Int32} (hk4 : ∀ (i1 : Int32) (i2 : Int32) (i3 : Int32), k4 66 i1 i2 i3 (wA z f r) = (kg4 i1 i2 i3 z f).map (fun x => (x, wA z f r))) (i1 : Int32) (i2 : Int32) (i3 : Int32) (s0 : Int32) : m_X11_level_b43 k4 66 i1 i2 i3 s0 (wA z f r) = (g_X11_level_b43 kg4 i1 i2 i3 s0 z f).map (fun x => (x, wA z f r)) := by
  unfold m_X11_level_b43 g_X11_level_b43
  refine iteE (fun _ => ?_) (fun _ => ?_)
  · exact e_X11_level_b57 (hk4 := hk4) _ _ _ 
  · exact e_X11_level_b57 (hk4 := hk4) _ _ _ 
def g_X11_level_l4 : Nat → Int32 → Int32 → Int32 → (Nat → Nat → Int32) → (Nat → Nat → Int32) → Option Int32
  | 0, _, _, _, _, _ => none
  | fu + 1, i1, i2, i3, z, f =>
    if 6 ≤ i3 then
      some (i2)
    else
      if ((i1 >>> (i3 &&& 31)) &&& 1) = 1 then
        (ixA 6 i3).bind fun j1 =>
        (ixA 6 i3).bind fun j2 =>
        (g_X11_at (f 74 j1) (f 75 j2) z f).bind fun x3 =>
        (ixA 400 x3).bind fun j4 =>
        g_X11_level_b43 (fun y0 y1 y2 z f => g_X11_level_l4 fu y0 y1 y2 z f) i1 i2 i3 (f 70 j4) z f
      else
        g_X11_level_b43 (fun y0 y1 y2 z f => g_X11_level_l4 fu y0 y1 y2 z f) i1 i2 i3 0 z f
set_option maxRecDepth 100000 in
set_option maxHeartbeats 4000000 in
theorem e_X11_level_l4 {r : LWd} {z f : Nat → Nat → Int32} : ∀ (fu : Nat) (i1 : Int32) (i2 : Int32) (i3 : Int32), m_X11_level_l4 fu 66 i1 i2 i3 (wA z f r) = (g_X11_level_l4 fu i1 i2 i3 z f).map (fun x => (x, wA z f r)) := by
  intro fu
  induction fu with
  | zero => intro i1 i2 i3 ; rfl
  | succ fu ih =>
    intro i1 i2 i3 
    rw [m_X11_level_l4, g_X11_level_l4]
    refine iteE (fun _ => ?_) (fun _ => ?_)
    · rfl
    · refine iteE (fun _ => ?_) (fun _ => ?_)
      · refine opS fR_66_3 ?_
        refine opS fR_66_15 ?_
        refine opM aI_74 (fun j1 hj1 => ?_)
        refine opS fR_66_16 ?_
        refine opM aI_75 (fun j2 hj2 => ?_)
        refine caP (e_X11_at) (fun x3 => ?_)
        refine opM aI_70 (fun j4 hj4 => ?_)
        exact e_X11_level_b43 (hk4 := ih) _ _ _ _ 
      · exact e_X11_level_b43 (hk4 := ih) _ _ _ _ 
def g_X11_level (i1 : Int32) (z f : Nat → Nat → Int32) : Option Int32 :=
  g_X11_level_l4 FU i1 0 0 z f
set_option maxRecDepth 100000 in
set_option maxHeartbeats 4000000 in
theorem e_X11_level {r : LWd} {z f : Nat → Nat → Int32} {i1 : Int32} : m_X11_level 66 i1 (wA z f r) = (g_X11_level i1 z f).map (fun x => (x, wA z f r)) := by
  unfold m_X11_level g_X11_level
  refine opS rcv_66 ?_
  exact e_X11_level_l4 FU _ _ _ 
def g_X11_pressure (i1 : Int32) (z f : Nat → Nat → Int32) : Option Int32 :=
  (g_X11_count i1 z f).bind fun x1 =>
  if x1 = 0 then
    some (0)
  else
    (g_X11_weight  z f).bind fun x2 =>
    if x1 = 0 then none else
    some (((x2 + x1) - 1) / x1)
set_option maxRecDepth 100000 in
set_option maxHeartbeats 4000000 in
theorem e_X11_pressure {r : LWd} {z f : Nat → Nat → Int32} {i1 : Int32} : m_X11_pressure 66 i1 (wA z f r) = (g_X11_pressure i1 z f).map (fun x => (x, wA z f r)) := by
  unfold m_X11_pressure g_X11_pressure
  refine opS rcv_66 ?_
  refine caP (e_X11_count) (fun x1 => ?_)
  refine iteE (fun _ => ?_) (fun _ => ?_)
  · rfl
  · refine caP (e_X11_weight) (fun x2 => ?_)
    refine iteN (fun _ => ?_)
    rfl
def g_X11_isInReach (i1 : Int32) (i2 : Int32) (i3 : Int32) (z f : Nat → Nat → Int32) : Option Int32 :=
  (ixA 6 i1).bind fun j1 =>
  (ixA 6 i1).bind fun j2 =>
  (ixA 6 i1).bind fun j3 =>
  (ixA 6 i1).bind fun j4 =>
  if ((f 73 j3) * (f 73 j4)) < ((((i2 - (z 66 5)) - (f 71 j1)) * ((i2 - (z 66 5)) - (f 71 j1))) + (((i3 - (z 66 6)) - (f 72 j2)) * ((i3 - (z 66 6)) - (f 72 j2)))) then
    some (0)
  else
    some (1)
set_option maxRecDepth 100000 in
set_option maxHeartbeats 4000000 in
theorem e_X11_isInReach {r : LWd} {z f : Nat → Nat → Int32} {i1 : Int32} {i2 : Int32} {i3 : Int32} : m_X11_isInReach 66 i1 i2 i3 (wA z f r) = (g_X11_isInReach i1 i2 i3 z f).map (fun x => (x, wA z f r)) := by
  unfold m_X11_isInReach g_X11_isInReach
  refine opS rcv_66 ?_
  refine opS fI_66_5 ?_
  refine opS fR_66_12 ?_
  refine opM aI_71 (fun j1 hj1 => ?_)
  refine opS fI_66_6 ?_
  refine opS fR_66_13 ?_
  refine opM aI_72 (fun j2 hj2 => ?_)
  refine opS fR_66_14 ?_
  refine opM aI_73 (fun j3 hj3 => ?_)
  refine opS fR_66_14 ?_
  refine opM aI_73 (fun j4 hj4 => ?_)
  refine iteE (fun _ => ?_) (fun _ => ?_)
  · rfl
  · rfl
def g_X11_far_b43 (i5 : Int32) (s0 : Int32) (z f : Nat → Nat → Int32) : Option Int32 :=
  if 0 ≤ i5 then
    some (s0 + i5)
  else
    some (s0 + (-i5))
set_option maxRecDepth 100000 in
set_option maxHeartbeats 4000000 in
theorem e_X11_far_b43 {r : LWd} {z f : Nat → Nat → Int32} (i5 : Int32) (s0 : Int32) : m_X11_far_b43 i5 s0 (wA z f r) = (g_X11_far_b43 i5 s0 z f).map (fun x => (x, wA z f r)) := by
  unfold m_X11_far_b43 g_X11_far_b43
  refine iteE (fun _ => ?_) (fun _ => ?_)
  · rfl
  · rfl
def g_X11_far (i1 : Int32) (i2 : Int32) (i3 : Int32) (z f : Nat → Nat → Int32) : Option Int32 :=
  (ixA 6 i1).bind fun j1 =>
  (ixA 6 i1).bind fun j2 =>
  if 0 ≤ ((i2 - (z 66 5)) - (f 71 j1)) then
    g_X11_far_b43 ((i3 - (z 66 6)) - (f 72 j2)) ((i2 - (z 66 5)) - (f 71 j1)) z f
  else
    g_X11_far_b43 ((i3 - (z 66 6)) - (f 72 j2)) (-((i2 - (z 66 5)) - (f 71 j1))) z f
set_option maxRecDepth 100000 in
set_option maxHeartbeats 4000000 in
theorem e_X11_far {r : LWd} {z f : Nat → Nat → Int32} {i1 : Int32} {i2 : Int32} {i3 : Int32} : m_X11_far 66 i1 i2 i3 (wA z f r) = (g_X11_far i1 i2 i3 z f).map (fun x => (x, wA z f r)) := by
  unfold m_X11_far g_X11_far
  refine opS rcv_66 ?_
  refine opS fI_66_5 ?_
  refine opS fR_66_12 ?_
  refine opM aI_71 (fun j1 hj1 => ?_)
  refine opS fI_66_6 ?_
  refine opS fR_66_13 ?_
  refine opM aI_72 (fun j2 hj2 => ?_)
  refine iteE (fun _ => ?_) (fun _ => ?_)
  · exact e_X11_far_b43 _ _ 
  · exact e_X11_far_b43 _ _ 
def g_X11_breaks_b48 (s1 : Int32) (z f : Nat → Nat → Int32) : Option ((Nat → Nat → Int32) × (Nat → Nat → Int32)) :=
  lt2 (up2 z 66 22 s1) fun z1 =>
  some (z1, f)
set_option maxRecDepth 100000 in
set_option maxHeartbeats 4000000 in
theorem e_X11_breaks_b48 {r : LWd} (s1 : Int32) (z f : Nat → Nat → Int32) : m_X11_breaks_b48 66 s1 (wA z f r) = (g_X11_breaks_b48 s1 z f).map (fun q => wA q.1 q.2 r) := by
  unfold m_X11_breaks_b48 g_X11_breaks_b48
  refine opS pV_66_22 ?_
  refine ltE ?_
  rfl
def g_X11_breaks_b22 (i1 : Int32) (z f : Nat → Nat → Int32) : Option ((Nat → Nat → Int32) × (Nat → Nat → Int32)) :=
  lt2 (up2 z 66 18 ((z 66 18) + 1)) fun z1 =>
  if (z1 66 22) = 0 then
    g_X11_breaks_b48 i1 z1 f
  else
    g_X11_breaks_b48 (z1 66 22) z1 f
set_option maxRecDepth 100000 in
set_option maxHeartbeats 4000000 in
theorem e_X11_breaks_b22 {r : LWd} (i1 : Int32) (z f : Nat → Nat → Int32) : m_X11_breaks_b22 66 i1 (wA z f r) = (g_X11_breaks_b22 i1 z f).map (fun q => wA q.1 q.2 r) := by
  unfold m_X11_breaks_b22 g_X11_breaks_b22
  refine opS fI_66_18 ?_
  refine opS pV_66_18 ?_
  refine ltE ?_
  refine opS fI_66_22 ?_
  refine iteE (fun _ => ?_) (fun _ => ?_)
  · exact e_X11_breaks_b48 _  _ _
  · refine opS fI_66_22 ?_
    exact e_X11_breaks_b48 _  _ _
def g_X11_breaks (i1 : Int32) (i2 : Int32) (i3 : Int32) (z f : Nat → Nat → Int32) : Option ((Nat → Nat → Int32) × (Nat → Nat → Int32)) :=
  if (z 66 18) = 0 then
    lt2 (up2 z 66 19 i1) fun z1 =>
    lt2 (up2 z1 66 20 i2) fun z2 =>
    lt2 (up2 z2 66 21 i3) fun z3 =>
    g_X11_breaks_b22 i1 z3 f
  else
    g_X11_breaks_b22 i1 z f
set_option maxRecDepth 100000 in
set_option maxHeartbeats 4000000 in
theorem e_X11_breaks {r : LWd} {z f : Nat → Nat → Int32} {i1 : Int32} {i2 : Int32} {i3 : Int32} : m_X11_breaks 66 i1 i2 i3 (wA z f r) = (g_X11_breaks i1 i2 i3 z f).map (fun q => wA q.1 q.2 r) := by
  unfold m_X11_breaks g_X11_breaks
  refine opS rcv_66 ?_
  refine opS fI_66_18 ?_
  refine iteE (fun _ => ?_) (fun _ => ?_)
  · refine opS pV_66_19 ?_
    refine ltE ?_
    refine opS pV_66_20 ?_
    refine ltE ?_
    refine opS pV_66_21 ?_
    refine ltE ?_
    exact e_X11_breaks_b22 _  _ _
  · exact e_X11_breaks_b22 _  _ _
def g_X11_slips_b171 (k5 : Int32 → Int32 → Int32 → Int32 → (Nat → Nat → Int32) → (Nat → Nat → Int32) → Option Int32) (i1 : Int32) (i2 : Int32) (i4 : Int32) (s0 : Int32) (z f : Nat → Nat → Int32) : Option Int32 :=
  k5 i1 i2 s0 (i4 + 1) z f
set_option maxRecDepth 100000 in
set_option maxHeartbeats 4000000 in
theorem e_X11_slips_b171 {r : LWd} {z f : Nat → Nat → Int32} {k5 : Nat → Int32 → Int32 → Int32 → Int32 → LWd → Option (Int32 × LWd)} {kg5 : Int32 → Int32 → Int32 → Int32 → (Nat → Nat → Int32) → (Nat → Nat → Int32) → Option Int32} (hk5 : ∀ (i1 : Int32) (i2 : Int32) (i3 : Int32) (i4 : Int32), k5 66 i1 i2 i3 i4 (wA z f r) = (kg5 i1 i2 i3 i4 z f).map (fun x => (x, wA z f r))) (i1 : Int32) (i2 : Int32) (i4 : Int32) (s0 : Int32) : m_X11_slips_b171 k5 66 i1 i2 i4 s0 (wA z f r) = (g_X11_slips_b171 kg5 i1 i2 i4 s0 z f).map (fun x => (x, wA z f r)) := by
  unfold m_X11_slips_b171 g_X11_slips_b171
  exact hk5 _ _ _ _ 
def g_X11_slips_b153 (k5 : Int32 → Int32 → Int32 → Int32 → (Nat → Nat → Int32) → (Nat → Nat → Int32) → Option Int32) (i1 : Int32) (i2 : Int32) (i3 : Int32) (i4 : Int32) (i5 : Int32) (i6 : Int32) (s0 : Int32) (z f : Nat → Nat → Int32) : Option Int32 :=
  if s0 = 0 then
    g_X11_slips_b171 k5 i1 i2 i4 i3 z f
  else
    (g_X11_at i5 i6 z f).bind fun x1 =>
    g_X11_slips_b171 k5 i1 i2 i4 x1 z f
set_option maxRecDepth 100000 in
set_option maxHeartbeats 4000000 in
theorem e_X11_slips_b153 {r : LWd} {z f : Nat → Nat → Int32} {k5 : Nat → Int32 → Int32 → Int32 → Int32 → LWd → Option (Int32 × LWd)} {kg5 : Int32 → Int32 → Int32 → Int32 → (Nat → Nat → Int32) → (Nat → Nat → Int32) → Option Int32} (hk5 : ∀ (i1 : Int32) (i2 : Int32) (i3 : Int32) (i4 : Int32), k5 66 i1 i2 i3 i4 (wA z f r) = (kg5 i1 i2 i3 i4 z f).map (fun x => (x, wA z f r))) (i1 : Int32) (i2 : Int32) (i3 : Int32) (i4 : Int32) (i5 : Int32) (i6 : Int32) (s0 : Int32) : m_X11_slips_b153 k5 66 i1 i2 i3 i4 i5 i6 s0 (wA z f r) = (g_X11_slips_b153 kg5 i1 i2 i3 i4 i5 i6 s0 z f).map (fun x => (x, wA z f r)) := by
  unfold m_X11_slips_b153 g_X11_slips_b153
  refine iteE (fun _ => ?_) (fun _ => ?_)
  · exact e_X11_slips_b171 (hk5 := hk5) _ _ _ _ 
  · refine caP (e_X11_at) (fun x1 => ?_)
    exact e_X11_slips_b171 (hk5 := hk5) _ _ _ _ 
def g_X11_slips_b152 (k5 : Int32 → Int32 → Int32 → Int32 → (Nat → Nat → Int32) → (Nat → Nat → Int32) → Option Int32) (i1 : Int32) (i2 : Int32) (i3 : Int32) (i4 : Int32) (i5 : Int32) (i6 : Int32) (z f : Nat → Nat → Int32) : Option Int32 :=
  g_X11_slips_b153 k5 i1 i2 i3 i4 i5 i6 0 z f
set_option maxRecDepth 100000 in
set_option maxHeartbeats 4000000 in
theorem e_X11_slips_b152 {r : LWd} {z f : Nat → Nat → Int32} {k5 : Nat → Int32 → Int32 → Int32 → Int32 → LWd → Option (Int32 × LWd)} {kg5 : Int32 → Int32 → Int32 → Int32 → (Nat → Nat → Int32) → (Nat → Nat → Int32) → Option Int32} (hk5 : ∀ (i1 : Int32) (i2 : Int32) (i3 : Int32) (i4 : Int32), k5 66 i1 i2 i3 i4 (wA z f r) = (kg5 i1 i2 i3 i4 z f).map (fun x => (x, wA z f r))) (i1 : Int32) (i2 : Int32) (i3 : Int32) (i4 : Int32) (i5 : Int32) (i6 : Int32) : m_X11_slips_b152 k5 66 i1 i2 i3 i4 i5 i6 (wA z f r) = (g_X11_slips_b152 kg5 i1 i2 i3 i4 i5 i6 z f).map (fun x => (x, wA z f r)) := by
  unfold m_X11_slips_b152 g_X11_slips_b152
  exact e_X11_slips_b153 (hk5 := hk5) _ _ _ _ _ _ _ 
def g_X11_slips_b148 (k5 : Int32 → Int32 → Int32 → Int32 → (Nat → Nat → Int32) → (Nat → Nat → Int32) → Option Int32) (i1 : Int32) (i2 : Int32) (i3 : Int32) (i4 : Int32) (i5 : Int32) (i6 : Int32) (z f : Nat → Nat → Int32) : Option Int32 :=
  g_X11_slips_b153 k5 i1 i2 i3 i4 i5 i6 1 z f
set_option maxRecDepth 100000 in
set_option maxHeartbeats 4000000 in
theorem e_X11_slips_b148 {r : LWd} {z f : Nat → Nat → Int32} {k5 : Nat → Int32 → Int32 → Int32 → Int32 → LWd → Option (Int32 × LWd)} {kg5 : Int32 → Int32 → Int32 → Int32 → (Nat → Nat → Int32) → (Nat → Nat → Int32) → Option Int32} (hk5 : ∀ (i1 : Int32) (i2 : Int32) (i3 : Int32) (i4 : Int32), k5 66 i1 i2 i3 i4 (wA z f r) = (kg5 i1 i2 i3 i4 z f).map (fun x => (x, wA z f r))) (i1 : Int32) (i2 : Int32) (i3 : Int32) (i4 : Int32) (i5 : Int32) (i6 : Int32) : m_X11_slips_b148 k5 66 i1 i2 i3 i4 i5 i6 (wA z f r) = (g_X11_slips_b148 kg5 i1 i2 i3 i4 i5 i6 z f).map (fun x => (x, wA z f r)) := by
  unfold m_X11_slips_b148 g_X11_slips_b148
  exact e_X11_slips_b153 (hk5 := hk5) _ _ _ _ _ _ _ 
def g_X11_slips_b115 (k5 : Int32 → Int32 → Int32 → Int32 → (Nat → Nat → Int32) → (Nat → Nat → Int32) → Option Int32) (i1 : Int32) (i2 : Int32) (i3 : Int32) (i4 : Int32) (i5 : Int32) (i6 : Int32) (s0 : Int32) (z f : Nat → Nat → Int32) : Option Int32 :=
  if s0 = 0 then
    g_X11_slips_b152 k5 i1 i2 i3 i4 i5 i6 z f
  else
    if i3 = ((-1)) then
      g_X11_slips_b148 k5 i1 i2 i3 i4 i5 i6 z f
    else
      (g_X11_at i5 i6 z f).bind fun x1 =>
      (ixA 400 x1).bind fun j2 =>
      (ixA 400 i3).bind fun j3 =>
      if (f 67 j3) ≤ (f 67 j2) then
        g_X11_slips_b152 k5 i1 i2 i3 i4 i5 i6 z f
      else
        g_X11_slips_b148 k5 i1 i2 i3 i4 i5 i6 z f
set_option maxRecDepth 100000 in
set_option maxHeartbeats 4000000 in
theorem e_X11_slips_b115 {r : LWd} {z f : Nat → Nat → Int32} {k5 : Nat → Int32 → Int32 → Int32 → Int32 → LWd → Option (Int32 × LWd)} {kg5 : Int32 → Int32 → Int32 → Int32 → (Nat → Nat → Int32) → (Nat → Nat → Int32) → Option Int32} (hk5 : ∀ (i1 : Int32) (i2 : Int32) (i3 : Int32) (i4 : Int32), k5 66 i1 i2 i3 i4 (wA z f r) = (kg5 i1 i2 i3 i4 z f).map (fun x => (x, wA z f r))) (i1 : Int32) (i2 : Int32) (i3 : Int32) (i4 : Int32) (i5 : Int32) (i6 : Int32) (s0 : Int32) : m_X11_slips_b115 k5 66 i1 i2 i3 i4 i5 i6 s0 (wA z f r) = (g_X11_slips_b115 kg5 i1 i2 i3 i4 i5 i6 s0 z f).map (fun x => (x, wA z f r)) := by
  unfold m_X11_slips_b115 g_X11_slips_b115
  refine iteE (fun _ => ?_) (fun _ => ?_)
  · exact e_X11_slips_b152 (hk5 := hk5) _ _ _ _ _ _ 
  · refine iteE (fun _ => ?_) (fun _ => ?_)
    · exact e_X11_slips_b148 (hk5 := hk5) _ _ _ _ _ _ 
    · refine opS fR_66_0 ?_
      refine caP (e_X11_at) (fun x1 => ?_)
      refine opM aI_67 (fun j2 hj2 => ?_)
      refine opS fR_66_0 ?_
      refine opM aI_67 (fun j3 hj3 => ?_)
      refine iteE (fun _ => ?_) (fun _ => ?_)
      · exact e_X11_slips_b152 (hk5 := hk5) _ _ _ _ _ _ 
      · exact e_X11_slips_b148 (hk5 := hk5) _ _ _ _ _ _ 
def g_X11_slips_b114 (k5 : Int32 → Int32 → Int32 → Int32 → (Nat → Nat → Int32) → (Nat → Nat → Int32) → Option Int32) (i1 : Int32) (i2 : Int32) (i3 : Int32) (i4 : Int32) (i5 : Int32) (i6 : Int32) (z f : Nat → Nat → Int32) : Option Int32 :=
  g_X11_slips_b115 k5 i1 i2 i3 i4 i5 i6 0 z f
set_option maxRecDepth 100000 in
set_option maxHeartbeats 4000000 in
theorem e_X11_slips_b114 {r : LWd} {z f : Nat → Nat → Int32} {k5 : Nat → Int32 → Int32 → Int32 → Int32 → LWd → Option (Int32 × LWd)} {kg5 : Int32 → Int32 → Int32 → Int32 → (Nat → Nat → Int32) → (Nat → Nat → Int32) → Option Int32} (hk5 : ∀ (i1 : Int32) (i2 : Int32) (i3 : Int32) (i4 : Int32), k5 66 i1 i2 i3 i4 (wA z f r) = (kg5 i1 i2 i3 i4 z f).map (fun x => (x, wA z f r))) (i1 : Int32) (i2 : Int32) (i3 : Int32) (i4 : Int32) (i5 : Int32) (i6 : Int32) : m_X11_slips_b114 k5 66 i1 i2 i3 i4 i5 i6 (wA z f r) = (g_X11_slips_b114 kg5 i1 i2 i3 i4 i5 i6 z f).map (fun x => (x, wA z f r)) := by
  unfold m_X11_slips_b114 g_X11_slips_b114
  exact e_X11_slips_b115 (hk5 := hk5) _ _ _ _ _ _ _ 
def g_X11_slips_b62 (k5 : Int32 → Int32 → Int32 → Int32 → (Nat → Nat → Int32) → (Nat → Nat → Int32) → Option Int32) (i1 : Int32) (i2 : Int32) (i3 : Int32) (i4 : Int32) (i5 : Int32) (s0 : Int32) (z f : Nat → Nat → Int32) : Option Int32 :=
  (g_X11_isPoint i5 s0 z f).bind fun x1 =>
  if x1 = 0 then
    g_X11_slips_b114 k5 i1 i2 i3 i4 i5 s0 z f
  else
    (g_X11_at i1 i2 z f).bind fun x2 =>
    (ixA 400 x2).bind fun j3 =>
    (g_X11_at i5 s0 z f).bind fun x4 =>
    (ixA 400 x4).bind fun j5 =>
    (g_X11_at i1 i2 z f).bind fun x6 =>
    (ixA 400 x6).bind fun j7 =>
    if ((f 67 j3) - (f 67 j5)) ≤ (f 69 j7) then
      g_X11_slips_b114 k5 i1 i2 i3 i4 i5 s0 z f
    else
      g_X11_slips_b115 k5 i1 i2 i3 i4 i5 s0 1 z f
set_option maxRecDepth 100000 in
set_option maxHeartbeats 4000000 in
theorem e_X11_slips_b62 {r : LWd} {z f : Nat → Nat → Int32} {k5 : Nat → Int32 → Int32 → Int32 → Int32 → LWd → Option (Int32 × LWd)} {kg5 : Int32 → Int32 → Int32 → Int32 → (Nat → Nat → Int32) → (Nat → Nat → Int32) → Option Int32} (hk5 : ∀ (i1 : Int32) (i2 : Int32) (i3 : Int32) (i4 : Int32), k5 66 i1 i2 i3 i4 (wA z f r) = (kg5 i1 i2 i3 i4 z f).map (fun x => (x, wA z f r))) (i1 : Int32) (i2 : Int32) (i3 : Int32) (i4 : Int32) (i5 : Int32) (s0 : Int32) : m_X11_slips_b62 k5 66 i1 i2 i3 i4 i5 s0 (wA z f r) = (g_X11_slips_b62 kg5 i1 i2 i3 i4 i5 s0 z f).map (fun x => (x, wA z f r)) := by
  unfold m_X11_slips_b62 g_X11_slips_b62
  refine caP (e_X11_isPoint) (fun x1 => ?_)
  refine iteE (fun _ => ?_) (fun _ => ?_)
  · exact e_X11_slips_b114 (hk5 := hk5) _ _ _ _ _ _ 
  · refine opS fR_66_0 ?_
    refine caP (e_X11_at) (fun x2 => ?_)
    refine opM aI_67 (fun j3 hj3 => ?_)
    refine opS fR_66_0 ?_
    refine caP (e_X11_at) (fun x4 => ?_)
    refine opM aI_67 (fun j5 hj5 => ?_)
    refine opS fR_66_2 ?_
    refine caP (e_X11_at) (fun x6 => ?_)
    refine opM aI_69 (fun j7 hj7 => ?_)
    refine iteE (fun _ => ?_) (fun _ => ?_)
    · exact e_X11_slips_b114 (hk5 := hk5) _ _ _ _ _ _ 
    · exact e_X11_slips_b115 (hk5 := hk5) _ _ _ _ _ _ _ 
def g_X11_slips_b36 (k5 : Int32 → Int32 → Int32 → Int32 → (Nat → Nat → Int32) → (Nat → Nat → Int32) → Option Int32) (i1 : Int32) (i2 : Int32) (i3 : Int32) (i4 : Int32) (s0 : Int32) (z f : Nat → Nat → Int32) : Option Int32 :=
  if i4 = 0 then
    g_X11_slips_b62 k5 i1 i2 i3 i4 s0 (i2 - 1) z f
  else
    if i4 = 3 then
      g_X11_slips_b62 k5 i1 i2 i3 i4 s0 (i2 + 1) z f
    else
      g_X11_slips_b62 k5 i1 i2 i3 i4 s0 i2 z f
set_option maxRecDepth 100000 in
set_option maxHeartbeats 4000000 in
theorem e_X11_slips_b36 {r : LWd} {z f : Nat → Nat → Int32} {k5 : Nat → Int32 → Int32 → Int32 → Int32 → LWd → Option (Int32 × LWd)} {kg5 : Int32 → Int32 → Int32 → Int32 → (Nat → Nat → Int32) → (Nat → Nat → Int32) → Option Int32} (hk5 : ∀ (i1 : Int32) (i2 : Int32) (i3 : Int32) (i4 : Int32), k5 66 i1 i2 i3 i4 (wA z f r) = (kg5 i1 i2 i3 i4 z f).map (fun x => (x, wA z f r))) (i1 : Int32) (i2 : Int32) (i3 : Int32) (i4 : Int32) (s0 : Int32) : m_X11_slips_b36 k5 66 i1 i2 i3 i4 s0 (wA z f r) = (g_X11_slips_b36 kg5 i1 i2 i3 i4 s0 z f).map (fun x => (x, wA z f r)) := by
  unfold m_X11_slips_b36 g_X11_slips_b36
  refine iteE (fun _ => ?_) (fun _ => ?_)
  · exact e_X11_slips_b62 (hk5 := hk5) _ _ _ _ _ _ 
  · refine iteE (fun _ => ?_) (fun _ => ?_)
    · exact e_X11_slips_b62 (hk5 := hk5) _ _ _ _ _ _ 
    · exact e_X11_slips_b62 (hk5 := hk5) _ _ _ _ _ _ 
def g_X11_slips_l5 : Nat → Int32 → Int32 → Int32 → Int32 → (Nat → Nat → Int32) → (Nat → Nat → Int32) → Option Int32
  | 0, _, _, _, _, _, _ => none
  | fu + 1, i1, i2, i3, i4, z, f =>
    if 4 ≤ i4 then
      some (i3)
    else
      if i4 = 1 then
        g_X11_slips_b36 (fun y0 y1 y2 y3 z f => g_X11_slips_l5 fu y0 y1 y2 y3 z f) i1 i2 i3 i4 (i1 - 1) z f
      else
        if i4 = 2 then
          g_X11_slips_b36 (fun y0 y1 y2 y3 z f => g_X11_slips_l5 fu y0 y1 y2 y3 z f) i1 i2 i3 i4 (i1 + 1) z f
        else
          g_X11_slips_b36 (fun y0 y1 y2 y3 z f => g_X11_slips_l5 fu y0 y1 y2 y3 z f) i1 i2 i3 i4 i1 z f
set_option maxRecDepth 100000 in
set_option maxHeartbeats 4000000 in
theorem e_X11_slips_l5 {r : LWd} {z f : Nat → Nat → Int32} : ∀ (fu : Nat) (i1 : Int32) (i2 : Int32) (i3 : Int32) (i4 : Int32), m_X11_slips_l5 fu 66 i1 i2 i3 i4 (wA z f r) = (g_X11_slips_l5 fu i1 i2 i3 i4 z f).map (fun x => (x, wA z f r)) := by
  intro fu
  induction fu with
  | zero => intro i1 i2 i3 i4 ; rfl
  | succ fu ih =>
    intro i1 i2 i3 i4 
    rw [m_X11_slips_l5, g_X11_slips_l5]
    refine iteE (fun _ => ?_) (fun _ => ?_)
    · rfl
    · refine iteE (fun _ => ?_) (fun _ => ?_)
      · exact e_X11_slips_b36 (hk5 := ih) _ _ _ _ _ 
      · refine iteE (fun _ => ?_) (fun _ => ?_)
        · exact e_X11_slips_b36 (hk5 := ih) _ _ _ _ _ 
        · exact e_X11_slips_b36 (hk5 := ih) _ _ _ _ _ 
def g_X11_slips (i1 : Int32) (i2 : Int32) (z f : Nat → Nat → Int32) : Option Int32 :=
  g_X11_slips_l5 FU i1 i2 ((-1)) 0 z f
set_option maxRecDepth 100000 in
set_option maxHeartbeats 4000000 in
theorem e_X11_slips {r : LWd} {z f : Nat → Nat → Int32} {i1 : Int32} {i2 : Int32} : m_X11_slips 66 i1 i2 (wA z f r) = (g_X11_slips i1 i2 z f).map (fun x => (x, wA z f r)) := by
  unfold m_X11_slips g_X11_slips
  refine opS rcv_66 ?_
  exact e_X11_slips_l5 FU _ _ _ _ 
def g_X11_comesDown (i1 : Int32) (i2 : Int32) (i3 : Int32) (z f : Nat → Nat → Int32) : Option ((Nat → Nat → Int32) × (Nat → Nat → Int32)) :=
  (ixA 6 i1).bind fun j1 =>
  lt2 (upf f 74 j1 i2) fun u2 =>
  (ixA 6 i1).bind fun j3 =>
  lt2 (upf u2 75 j3 i3) fun u4 =>
  lt2 (up2 z 66 17 ((z 66 17) ||| (1 <<< (i1 &&& 31)))) fun z5 =>
  some (z5, u4)
set_option maxRecDepth 100000 in
set_option maxHeartbeats 4000000 in
theorem e_X11_comesDown {r : LWd} {z f : Nat → Nat → Int32} {i1 : Int32} {i2 : Int32} {i3 : Int32} : m_X11_comesDown 66 i1 i2 i3 (wA z f r) = (g_X11_comesDown i1 i2 i3 z f).map (fun q => wA q.1 q.2 r) := by
  unfold m_X11_comesDown g_X11_comesDown
  refine opS rcv_66 ?_
  refine opS fR_66_15 ?_
  refine opM sI_74 (fun j1 hj1 => ?_)
  refine ltE ?_
  refine opS fR_66_16 ?_
  refine opM sI_75 (fun j3 hj3 => ?_)
  refine ltE ?_
  refine opS fI_66_17 ?_
  refine opS pV_66_17 ?_
  refine ltE ?_
  rfl
def g_X11_sets_b64 (i2 : Int32) (i3 : Int32) (z f : Nat → Nat → Int32) : Option ((Nat → Nat → Int32) × (Nat → Nat → Int32)) :=
  bn2 (g_X11_breaks 1 i2 i3 z f) fun z1 u2 =>
  some (z1, u2)
set_option maxRecDepth 100000 in
set_option maxHeartbeats 4000000 in
theorem e_X11_sets_b64 {r : LWd} (i2 : Int32) (i3 : Int32) (z f : Nat → Nat → Int32) : m_X11_sets_b64 66 i2 i3 (wA z f r) = (g_X11_sets_b64 i2 i3 z f).map (fun q => wA q.1 q.2 r) := by
  unfold m_X11_sets_b64 g_X11_sets_b64
  refine caU (e_X11_breaks) (fun _ _ => rfl) (fun z1 u2 => ?_)
  rfl
def g_X11_sets (i1 : Int32) (i2 : Int32) (i3 : Int32) (z f : Nat → Nat → Int32) : Option ((Nat → Nat → Int32) × (Nat → Nat → Int32)) :=
  (g_X11_at i2 i3 z f).bind fun x1 =>
  (ixA 400 x1).bind fun j2 =>
  (g_X11_at i2 i3 z f).bind fun x3 =>
  (ixA 400 x3).bind fun j4 =>
  (g_X11_slips i2 i3 z f).bind fun x5 =>
  (g_X11_at i2 i3 z f).bind fun x6 =>
  (g_X11_at i2 i3 z f).bind fun x7 =>
  (ixA 400 x7).bind fun j8 =>
  (ixA 400 x6).bind fun j9 =>
  lt2 (upf f 70 j9 (f 67 j8)) fun u10 =>
  if 2 ≤ ((f 67 j2) - (f 70 j4)) then
    g_X11_sets_b64 i2 i3 z u10
  else
    if ((-2)) < ((f 67 j2) - (f 70 j4)) then
      if x5 = ((-1)) then
        bn2 (g_X11_comesDown i1 i2 i3 z u10) fun z11 u12 =>
        some (z11, u12)
      else
        bn2 (g_X11_breaks 3 i2 i3 z u10) fun z13 u14 =>
        (ixA 400 x5).bind fun j15 =>
        (ixA 400 x5).bind fun j16 =>
        lt2 (upf u14 70 j16 (u14 67 j15)) fun u17 =>
        (g_X11_isInReach i1 (jrem x5 20) (x5 / 20) z13 u17).bind fun x18 =>
        if x18 = 0 then
          some (z13, u17)
        else
          (g_X11_footAt (jrem x5 20) (x5 / 20) z13 u17).bind fun x19 =>
          if x19 = ((-1)) then
            bn2 (g_X11_comesDown i1 (jrem x5 20) (x5 / 20) z13 u17) fun z20 u21 =>
            some (z20, u21)
          else
            some (z13, u17)
    else
      g_X11_sets_b64 i2 i3 z u10
set_option maxRecDepth 100000 in
set_option maxHeartbeats 4000000 in
theorem e_X11_sets {r : LWd} {z f : Nat → Nat → Int32} {i1 : Int32} {i2 : Int32} {i3 : Int32} : m_X11_sets 66 i1 i2 i3 (wA z f r) = (g_X11_sets i1 i2 i3 z f).map (fun q => wA q.1 q.2 r) := by
  unfold m_X11_sets g_X11_sets
  refine opS rcv_66 ?_
  refine opS fR_66_0 ?_
  refine caP (e_X11_at) (fun x1 => ?_)
  refine opM aI_67 (fun j2 hj2 => ?_)
  refine opS fR_66_3 ?_
  refine caP (e_X11_at) (fun x3 => ?_)
  refine opM aI_70 (fun j4 hj4 => ?_)
  refine caP (e_X11_slips) (fun x5 => ?_)
  refine opS fR_66_3 ?_
  refine caP (e_X11_at) (fun x6 => ?_)
  refine opS fR_66_0 ?_
  refine caP (e_X11_at) (fun x7 => ?_)
  refine opM aI_67 (fun j8 hj8 => ?_)
  refine opM sI_70 (fun j9 hj9 => ?_)
  refine ltE ?_
  refine iteE (fun _ => ?_) (fun _ => ?_)
  · exact e_X11_sets_b64 _ _  _ _
  · refine iteE (fun _ => ?_) (fun _ => ?_)
    · refine iteE (fun _ => ?_) (fun _ => ?_)
      · refine caU (e_X11_comesDown) (fun _ _ => rfl) (fun z11 u12 => ?_)
        rfl
      · refine caU (e_X11_breaks) (fun _ _ => rfl) (fun z13 u14 => ?_)
        refine opS fR_66_3 ?_
        refine opS fR_66_0 ?_
        refine opM aI_67 (fun j15 hj15 => ?_)
        refine opM sI_70 (fun j16 hj16 => ?_)
        refine ltE ?_
        refine caP (e_X11_isInReach) (fun x18 => ?_)
        refine iteE (fun _ => ?_) (fun _ => ?_)
        · rfl
        · refine caP (e_X11_footAt) (fun x19 => ?_)
          refine iteE (fun _ => ?_) (fun _ => ?_)
          · refine caU (e_X11_comesDown) (fun _ _ => rfl) (fun z20 u21 => ?_)
            rfl
          · rfl
    · exact e_X11_sets_b64 _ _  _ _
def g_X11_sinking_b67 (k4 : Int32 → Int32 → Int32 → (Nat → Nat → Int32) → (Nat → Nat → Int32) → Option Int32) (i1 : Int32) (i3 : Int32) (s0 : Int32) (s1 : Int32) (z f : Nat → Nat → Int32) : Option Int32 :=
  k4 i1 (s0 ||| s1) (i3 + 1) z f
set_option maxRecDepth 100000 in
set_option maxHeartbeats 4000000 in
theorem e_X11_sinking_b67 {r : LWd} {z f : Nat → Nat → Int32} {k4 : Nat → Int32 → Int32 → Int32 → LWd → Option (Int32 × LWd)} {kg4 : Int32 → Int32 → Int32 → (Nat → Nat → Int32) → (Nat → Nat → Int32) → Option Int32} (hk4 : ∀ (i1 : Int32) (i2 : Int32) (i3 : Int32), k4 66 i1 i2 i3 (wA z f r) = (kg4 i1 i2 i3 z f).map (fun x => (x, wA z f r))) (i1 : Int32) (i3 : Int32) (s0 : Int32) (s1 : Int32) : m_X11_sinking_b67 k4 66 i1 i3 s0 s1 (wA z f r) = (g_X11_sinking_b67 kg4 i1 i3 s0 s1 z f).map (fun x => (x, wA z f r)) := by
  unfold m_X11_sinking_b67 g_X11_sinking_b67
  exact hk4 _ _ _ 
def g_X11_sinking_b52 (k4 : Int32 → Int32 → Int32 → (Nat → Nat → Int32) → (Nat → Nat → Int32) → Option Int32) (i1 : Int32) (i2 : Int32) (i3 : Int32) (s0 : Int32) (z f : Nat → Nat → Int32) : Option Int32 :=
  if s0 = 0 then
    g_X11_sinking_b67 k4 i1 i3 i2 0 z f
  else
    g_X11_sinking_b67 k4 i1 i3 i2 (1 <<< (i3 &&& 31)) z f
set_option maxRecDepth 100000 in
set_option maxHeartbeats 4000000 in
theorem e_X11_sinking_b52 {r : LWd} {z f : Nat → Nat → Int32} {k4 : Nat → Int32 → Int32 → Int32 → LWd → Option (Int32 × LWd)} {kg4 : Int32 → Int32 → Int32 → (Nat → Nat → Int32) → (Nat → Nat → Int32) → Option Int32} (hk4 : ∀ (i1 : Int32) (i2 : Int32) (i3 : Int32), k4 66 i1 i2 i3 (wA z f r) = (kg4 i1 i2 i3 z f).map (fun x => (x, wA z f r))) (i1 : Int32) (i2 : Int32) (i3 : Int32) (s0 : Int32) : m_X11_sinking_b52 k4 66 i1 i2 i3 s0 (wA z f r) = (g_X11_sinking_b52 kg4 i1 i2 i3 s0 z f).map (fun x => (x, wA z f r)) := by
  unfold m_X11_sinking_b52 g_X11_sinking_b52
  refine iteE (fun _ => ?_) (fun _ => ?_)
  · exact e_X11_sinking_b67 (hk4 := hk4) _ _ _ _ 
  · exact e_X11_sinking_b67 (hk4 := hk4) _ _ _ _ 
def g_X11_sinking_b51 (k4 : Int32 → Int32 → Int32 → (Nat → Nat → Int32) → (Nat → Nat → Int32) → Option Int32) (i1 : Int32) (i2 : Int32) (i3 : Int32) (z f : Nat → Nat → Int32) : Option Int32 :=
  g_X11_sinking_b52 k4 i1 i2 i3 0 z f
set_option maxRecDepth 100000 in
set_option maxHeartbeats 4000000 in
theorem e_X11_sinking_b51 {r : LWd} {z f : Nat → Nat → Int32} {k4 : Nat → Int32 → Int32 → Int32 → LWd → Option (Int32 × LWd)} {kg4 : Int32 → Int32 → Int32 → (Nat → Nat → Int32) → (Nat → Nat → Int32) → Option Int32} (hk4 : ∀ (i1 : Int32) (i2 : Int32) (i3 : Int32), k4 66 i1 i2 i3 (wA z f r) = (kg4 i1 i2 i3 z f).map (fun x => (x, wA z f r))) (i1 : Int32) (i2 : Int32) (i3 : Int32) : m_X11_sinking_b51 k4 66 i1 i2 i3 (wA z f r) = (g_X11_sinking_b51 kg4 i1 i2 i3 z f).map (fun x => (x, wA z f r)) := by
  unfold m_X11_sinking_b51 g_X11_sinking_b51
  exact e_X11_sinking_b52 (hk4 := hk4) _ _ _ _ 
def g_X11_sinking_l4 : Nat → Int32 → Int32 → Int32 → (Nat → Nat → Int32) → (Nat → Nat → Int32) → Option Int32
  | 0, _, _, _, _, _ => none
  | fu + 1, i1, i2, i3, z, f =>
    if 6 ≤ i3 then
      some (i2)
    else
      if ((i1 >>> (i3 &&& 31)) &&& 1) = 1 then
        (ixA 6 i3).bind fun j1 =>
        (ixA 6 i3).bind fun j2 =>
        (g_X11_at (f 74 j1) (f 75 j2) z f).bind fun x3 =>
        (ixA 400 x3).bind fun j4 =>
        (g_X11_pressure i1 z f).bind fun x5 =>
        if x5 ≤ (f 68 j4) then
          g_X11_sinking_b51 (fun y0 y1 y2 z f => g_X11_sinking_l4 fu y0 y1 y2 z f) i1 i2 i3 z f
        else
          g_X11_sinking_b52 (fun y0 y1 y2 z f => g_X11_sinking_l4 fu y0 y1 y2 z f) i1 i2 i3 1 z f
      else
        g_X11_sinking_b51 (fun y0 y1 y2 z f => g_X11_sinking_l4 fu y0 y1 y2 z f) i1 i2 i3 z f
set_option maxRecDepth 100000 in
set_option maxHeartbeats 4000000 in
theorem e_X11_sinking_l4 {r : LWd} {z f : Nat → Nat → Int32} : ∀ (fu : Nat) (i1 : Int32) (i2 : Int32) (i3 : Int32), m_X11_sinking_l4 fu 66 i1 i2 i3 (wA z f r) = (g_X11_sinking_l4 fu i1 i2 i3 z f).map (fun x => (x, wA z f r)) := by
  intro fu
  induction fu with
  | zero => intro i1 i2 i3 ; rfl
  | succ fu ih =>
    intro i1 i2 i3 
    rw [m_X11_sinking_l4, g_X11_sinking_l4]
    refine iteE (fun _ => ?_) (fun _ => ?_)
    · rfl
    · refine iteE (fun _ => ?_) (fun _ => ?_)
      · refine opS fR_66_1 ?_
        refine opS fR_66_15 ?_
        refine opM aI_74 (fun j1 hj1 => ?_)
        refine opS fR_66_16 ?_
        refine opM aI_75 (fun j2 hj2 => ?_)
        refine caP (e_X11_at) (fun x3 => ?_)
        refine opM aI_68 (fun j4 hj4 => ?_)
        refine caP (e_X11_pressure) (fun x5 => ?_)
        refine iteE (fun _ => ?_) (fun _ => ?_)
        · exact e_X11_sinking_b51 (hk4 := ih) _ _ _ 
        · exact e_X11_sinking_b52 (hk4 := ih) _ _ _ _ 
      · exact e_X11_sinking_b51 (hk4 := ih) _ _ _ 
def g_X11_sinking (i1 : Int32) (z f : Nat → Nat → Int32) : Option Int32 :=
  g_X11_sinking_l4 FU i1 0 0 z f
set_option maxRecDepth 100000 in
set_option maxHeartbeats 4000000 in
theorem e_X11_sinking {r : LWd} {z f : Nat → Nat → Int32} {i1 : Int32} : m_X11_sinking 66 i1 (wA z f r) = (g_X11_sinking i1 z f).map (fun x => (x, wA z f r)) := by
  unfold m_X11_sinking g_X11_sinking
  refine opS rcv_66 ?_
  exact e_X11_sinking_l4 FU _ _ _ 
def g_X11_sinks_b102 (k9 : Int32 → (Nat → Nat → Int32) → (Nat → Nat → Int32) → Option ((Nat → Nat → Int32) × (Nat → Nat → Int32))) (k15 : Int32 → Int32 → (Nat → Nat → Int32) → (Nat → Nat → Int32) → Option ((Nat → Nat → Int32) × (Nat → Nat → Int32))) (i1 : Int32) (i2 : Int32) (z f : Nat → Nat → Int32) : Option ((Nat → Nat → Int32) × (Nat → Nat → Int32)) :=
  k15 i1 (i2 + 1) z f
set_option maxRecDepth 100000 in
set_option maxHeartbeats 4000000 in
theorem e_X11_sinks_b102 {r : LWd} {k9 : Nat → Int32 → LWd → Option LWd} {kg9 : Int32 → (Nat → Nat → Int32) → (Nat → Nat → Int32) → Option ((Nat → Nat → Int32) × (Nat → Nat → Int32))} (hk9 : ∀ (i1 : Int32) (z f : Nat → Nat → Int32), k9 66 i1 (wA z f r) = (kg9 i1 z f).map (fun q => wA q.1 q.2 r)) {k15 : Nat → Int32 → Int32 → LWd → Option LWd} {kg15 : Int32 → Int32 → (Nat → Nat → Int32) → (Nat → Nat → Int32) → Option ((Nat → Nat → Int32) × (Nat → Nat → Int32))} (hk15 : ∀ (i1 : Int32) (i2 : Int32) (z f : Nat → Nat → Int32), k15 66 i1 i2 (wA z f r) = (kg15 i1 i2 z f).map (fun q => wA q.1 q.2 r)) (i1 : Int32) (i2 : Int32) (z f : Nat → Nat → Int32) : m_X11_sinks_b102 k9 k15 66 i1 i2 (wA z f r) = (g_X11_sinks_b102 kg9 kg15 i1 i2 z f).map (fun q => wA q.1 q.2 r) := by
  unfold m_X11_sinks_b102 g_X11_sinks_b102
  exact hk15 _ _  _ _
def g_X11_sinks_b72 (k9 : Int32 → (Nat → Nat → Int32) → (Nat → Nat → Int32) → Option ((Nat → Nat → Int32) × (Nat → Nat → Int32))) (k15 : Int32 → Int32 → (Nat → Nat → Int32) → (Nat → Nat → Int32) → Option ((Nat → Nat → Int32) × (Nat → Nat → Int32))) (i1 : Int32) (i2 : Int32) (i3 : Int32) (s1 : Int32) (s2 : Int32) (z f : Nat → Nat → Int32) : Option ((Nat → Nat → Int32) × (Nat → Nat → Int32)) :=
  (ixA 400 s1).bind fun j1 =>
  lt2 (upf f 67 j1 s2) fun u2 =>
  (ixA 400 i3).bind fun j3 =>
  (ixA 400 i3).bind fun j4 =>
  lt2 (upf u2 70 j4 (u2 67 j3)) fun u5 =>
  (ixA 6 i2).bind fun j6 =>
  (ixA 6 i2).bind fun j7 =>
  bn2 (g_X11_breaks 2 (u5 74 j6) (u5 75 j7) z u5) fun z8 u9 =>
  g_X11_sinks_b102 k9 k15 i1 i2 z8 u9
set_option maxRecDepth 100000 in
set_option maxHeartbeats 4000000 in
theorem e_X11_sinks_b72 {r : LWd} {k9 : Nat → Int32 → LWd → Option LWd} {kg9 : Int32 → (Nat → Nat → Int32) → (Nat → Nat → Int32) → Option ((Nat → Nat → Int32) × (Nat → Nat → Int32))} (hk9 : ∀ (i1 : Int32) (z f : Nat → Nat → Int32), k9 66 i1 (wA z f r) = (kg9 i1 z f).map (fun q => wA q.1 q.2 r)) {k15 : Nat → Int32 → Int32 → LWd → Option LWd} {kg15 : Int32 → Int32 → (Nat → Nat → Int32) → (Nat → Nat → Int32) → Option ((Nat → Nat → Int32) × (Nat → Nat → Int32))} (hk15 : ∀ (i1 : Int32) (i2 : Int32) (z f : Nat → Nat → Int32), k15 66 i1 i2 (wA z f r) = (kg15 i1 i2 z f).map (fun q => wA q.1 q.2 r)) (i1 : Int32) (i2 : Int32) (i3 : Int32) (s1 : Int32) (s2 : Int32) (z f : Nat → Nat → Int32) : m_X11_sinks_b72 k9 k15 66 i1 i2 i3 67 s1 s2 (wA z f r) = (g_X11_sinks_b72 kg9 kg15 i1 i2 i3 s1 s2 z f).map (fun q => wA q.1 q.2 r) := by
  unfold m_X11_sinks_b72 g_X11_sinks_b72
  refine opM sI_67 (fun j1 hj1 => ?_)
  refine ltE ?_
  refine opS fR_66_3 ?_
  refine opS fR_66_0 ?_
  refine opM aI_67 (fun j3 hj3 => ?_)
  refine opM sI_70 (fun j4 hj4 => ?_)
  refine ltE ?_
  refine opS fR_66_15 ?_
  refine opM aI_74 (fun j6 hj6 => ?_)
  refine opS fR_66_16 ?_
  refine opM aI_75 (fun j7 hj7 => ?_)
  refine caU (e_X11_breaks) (fun _ _ => rfl) (fun z8 u9 => ?_)
  exact e_X11_sinks_b102 (hk9 := hk9) (hk15 := hk15) _ _  _ _
def g_X11_sinks_l15 (k9 : Int32 → (Nat → Nat → Int32) → (Nat → Nat → Int32) → Option ((Nat → Nat → Int32) × (Nat → Nat → Int32))) : Nat → Int32 → Int32 → (Nat → Nat → Int32) → (Nat → Nat → Int32) → Option ((Nat → Nat → Int32) × (Nat → Nat → Int32))
  | 0, _, _, _, _ => none
  | fu + 1, i1, i2, z, f =>
    if 6 ≤ i2 then
      lt2 (up2 z 66 17 ((z 66 17) &&& (i1 ^^^ ((-1))))) fun z1 =>
      (g_X11_sinking (z1 66 17) z1 f).bind fun x2 =>
      k9 x2 z1 f
    else
      if ((i1 >>> (i2 &&& 31)) &&& 1) = 1 then
        (ixA 6 i2).bind fun j3 =>
        (ixA 6 i2).bind fun j4 =>
        (g_X11_at (f 74 j3) (f 75 j4) z f).bind fun x5 =>
        (ixA 400 x5).bind fun j6 =>
        if (f 67 j6) ≤ 0 then
          g_X11_sinks_b72 k9 (fun y0 y1 z f => g_X11_sinks_l15 k9 fu y0 y1 z f) i1 i2 x5 x5 0 z f
        else
          (ixA 400 x5).bind fun j7 =>
          g_X11_sinks_b72 k9 (fun y0 y1 z f => g_X11_sinks_l15 k9 fu y0 y1 z f) i1 i2 x5 x5 ((f 67 j7) - 1) z f
      else
        g_X11_sinks_b102 k9 (fun y0 y1 z f => g_X11_sinks_l15 k9 fu y0 y1 z f) i1 i2 z f
set_option maxRecDepth 100000 in
set_option maxHeartbeats 4000000 in
theorem e_X11_sinks_l15 {r : LWd} {k9 : Nat → Int32 → LWd → Option LWd} {kg9 : Int32 → (Nat → Nat → Int32) → (Nat → Nat → Int32) → Option ((Nat → Nat → Int32) × (Nat → Nat → Int32))} (hk9 : ∀ (i1 : Int32) (z f : Nat → Nat → Int32), k9 66 i1 (wA z f r) = (kg9 i1 z f).map (fun q => wA q.1 q.2 r)) : ∀ (fu : Nat) (i1 : Int32) (i2 : Int32) (z f : Nat → Nat → Int32), m_X11_sinks_l15 k9 fu 66 i1 i2 (wA z f r) = (g_X11_sinks_l15 kg9 fu i1 i2 z f).map (fun q => wA q.1 q.2 r) := by
  intro fu
  induction fu with
  | zero => intro i1 i2  z f; rfl
  | succ fu ih =>
    intro i1 i2  z f
    rw [m_X11_sinks_l15, g_X11_sinks_l15]
    refine iteE (fun _ => ?_) (fun _ => ?_)
    · refine opS fI_66_17 ?_
      refine opS pV_66_17 ?_
      refine ltE ?_
      refine opS fI_66_17 ?_
      refine caP (e_X11_sinking) (fun x2 => ?_)
      exact hk9 _  _ _
    · refine iteE (fun _ => ?_) (fun _ => ?_)
      · refine opS fR_66_15 ?_
        refine opM aI_74 (fun j3 hj3 => ?_)
        refine opS fR_66_16 ?_
        refine opM aI_75 (fun j4 hj4 => ?_)
        refine caP (e_X11_at) (fun x5 => ?_)
        refine opS fR_66_0 ?_
        refine opS fR_66_0 ?_
        refine opM aI_67 (fun j6 hj6 => ?_)
        refine iteE (fun _ => ?_) (fun _ => ?_)
        · exact e_X11_sinks_b72 (hk9 := hk9) (hk15 := ih) _ _ _ _ _  _ _
        · refine opS fR_66_0 ?_
          refine opM aI_67 (fun j7 hj7 => ?_)
          exact e_X11_sinks_b72 (hk9 := hk9) (hk15 := ih) _ _ _ _ _  _ _
      · exact e_X11_sinks_b102 (hk9 := hk9) (hk15 := ih) _ _  _ _
def g_X11_sinks_l9 : Nat → Int32 → (Nat → Nat → Int32) → (Nat → Nat → Int32) → Option ((Nat → Nat → Int32) × (Nat → Nat → Int32))
  | 0, _, _, _ => none
  | fu + 1, i1, z, f =>
    if i1 = 0 then
      some (z, f)
    else
      g_X11_sinks_l15 (fun y0 z f => g_X11_sinks_l9 fu y0 z f) FU i1 0 z f
set_option maxRecDepth 100000 in
set_option maxHeartbeats 4000000 in
theorem e_X11_sinks_l9 {r : LWd} : ∀ (fu : Nat) (i1 : Int32) (z f : Nat → Nat → Int32), m_X11_sinks_l9 fu 66 i1 (wA z f r) = (g_X11_sinks_l9 fu i1 z f).map (fun q => wA q.1 q.2 r) := by
  intro fu
  induction fu with
  | zero => intro i1  z f; rfl
  | succ fu ih =>
    intro i1  z f
    rw [m_X11_sinks_l9, g_X11_sinks_l9]
    refine iteE (fun _ => ?_) (fun _ => ?_)
    · rfl
    · exact e_X11_sinks_l15 (hk9 := ih) FU _ _  _ _
def g_X11_sinks (z f : Nat → Nat → Int32) : Option ((Nat → Nat → Int32) × (Nat → Nat → Int32)) :=
  (g_X11_sinking (z 66 17) z f).bind fun x1 =>
  g_X11_sinks_l9 FU x1 z f
set_option maxRecDepth 100000 in
set_option maxHeartbeats 4000000 in
theorem e_X11_sinks {r : LWd} {z f : Nat → Nat → Int32} : m_X11_sinks 66 (wA z f r) = (g_X11_sinks  z f).map (fun q => wA q.1 q.2 r) := by
  unfold m_X11_sinks g_X11_sinks
  refine opS rcv_66 ?_
  refine opS fI_66_17 ?_
  refine caP (e_X11_sinking) (fun x1 => ?_)
  exact e_X11_sinks_l9 FU _  _ _
def g_X11_sign (i0 : Int32) (z f : Nat → Nat → Int32) : Option Int32 :=
  if i0 ≤ 0 then
    if 0 ≤ i0 then
      some (0)
    else
      some ((-1))
  else
    some (1)
set_option maxRecDepth 100000 in
set_option maxHeartbeats 4000000 in
theorem e_X11_sign {r : LWd} {z f : Nat → Nat → Int32} {i0 : Int32} : m_X11_sign i0 (wA z f r) = (g_X11_sign i0 z f).map (fun x => (x, wA z f r)) := by
  unfold m_X11_sign g_X11_sign
  refine iteE (fun _ => ?_) (fun _ => ?_)
  · refine iteE (fun _ => ?_) (fun _ => ?_)
    · rfl
    · rfl
  · rfl
def g_X11_direction_b66 (k15 : Int32 → Int32 → Int32 → Int32 → (Nat → Nat → Int32) → (Nat → Nat → Int32) → Option Int32) (i1 : Int32) (i2 : Int32) (i4 : Int32) (s0 : Int32) (s1 : Int32) (z f : Nat → Nat → Int32) : Option Int32 :=
  k15 i1 i2 (s0 + s1) (i4 + 1) z f
set_option maxRecDepth 100000 in
set_option maxHeartbeats 4000000 in
theorem e_X11_direction_b66 {r : LWd} {z f : Nat → Nat → Int32} {k15 : Nat → Int32 → Int32 → Int32 → Int32 → LWd → Option (Int32 × LWd)} {kg15 : Int32 → Int32 → Int32 → Int32 → (Nat → Nat → Int32) → (Nat → Nat → Int32) → Option Int32} (hk15 : ∀ (i1 : Int32) (i2 : Int32) (i3 : Int32) (i4 : Int32), k15 66 i1 i2 i3 i4 (wA z f r) = (kg15 i1 i2 i3 i4 z f).map (fun x => (x, wA z f r))) (i1 : Int32) (i2 : Int32) (i4 : Int32) (s0 : Int32) (s1 : Int32) : m_X11_direction_b66 k15 66 i1 i2 i4 s0 s1 (wA z f r) = (g_X11_direction_b66 kg15 i1 i2 i4 s0 s1 z f).map (fun x => (x, wA z f r)) := by
  unfold m_X11_direction_b66 g_X11_direction_b66
  exact hk15 _ _ _ _ 
def g_X11_direction_b43 (k15 : Int32 → Int32 → Int32 → Int32 → (Nat → Nat → Int32) → (Nat → Nat → Int32) → Option Int32) (i1 : Int32) (i3 : Int32) (i4 : Int32) (s0 : Int32) (s1 : Int32) (z f : Nat → Nat → Int32) : Option Int32 :=
  (g_X11_isDown i4 z f).bind fun x1 =>
  if x1 = 0 then
    g_X11_direction_b66 k15 i1 (s0 + s1) i4 i3 0 z f
  else
    (ixA 6 i4).bind fun j2 =>
    g_X11_direction_b66 k15 i1 (s0 + s1) i4 i3 (f 75 j2) z f
set_option maxRecDepth 100000 in
set_option maxHeartbeats 4000000 in
theorem e_X11_direction_b43 {r : LWd} {z f : Nat → Nat → Int32} {k15 : Nat → Int32 → Int32 → Int32 → Int32 → LWd → Option (Int32 × LWd)} {kg15 : Int32 → Int32 → Int32 → Int32 → (Nat → Nat → Int32) → (Nat → Nat → Int32) → Option Int32} (hk15 : ∀ (i1 : Int32) (i2 : Int32) (i3 : Int32) (i4 : Int32), k15 66 i1 i2 i3 i4 (wA z f r) = (kg15 i1 i2 i3 i4 z f).map (fun x => (x, wA z f r))) (i1 : Int32) (i3 : Int32) (i4 : Int32) (s0 : Int32) (s1 : Int32) : m_X11_direction_b43 k15 66 i1 i3 i4 s0 s1 (wA z f r) = (g_X11_direction_b43 kg15 i1 i3 i4 s0 s1 z f).map (fun x => (x, wA z f r)) := by
  unfold m_X11_direction_b43 g_X11_direction_b43
  refine caP (e_X11_isDown) (fun x1 => ?_)
  refine iteE (fun _ => ?_) (fun _ => ?_)
  · exact e_X11_direction_b66 (hk15 := hk15) _ _ _ _ _ 
  · refine opS fR_66_16 ?_
    refine opM aI_75 (fun j2 hj2 => ?_)
    exact e_X11_direction_b66 (hk15 := hk15) _ _ _ _ _ 
def g_X11_direction_l15 : Nat → Int32 → Int32 → Int32 → Int32 → (Nat → Nat → Int32) → (Nat → Nat → Int32) → Option Int32
  | 0, _, _, _, _, _, _ => none
  | fu + 1, i1, i2, i3, i4, z, f =>
    if 6 ≤ i4 then
      (g_X11_momentX  z f).bind fun x1 =>
      (g_X11_weight  z f).bind fun x2 =>
      (g_X11_sign ((x1 * i1) - (i2 * x2)) z f).bind fun x3 =>
      (g_X11_momentY  z f).bind fun x4 =>
      (g_X11_weight  z f).bind fun x5 =>
      (g_X11_sign ((x4 * i1) - (i3 * x5)) z f).bind fun x6 =>
      some (((3 * (x3 + 1)) + x6) + 1)
    else
      (g_X11_isDown i4 z f).bind fun x7 =>
      if x7 = 0 then
        g_X11_direction_b43 (fun y0 y1 y2 y3 z f => g_X11_direction_l15 fu y0 y1 y2 y3 z f) i1 i3 i4 i2 0 z f
      else
        (ixA 6 i4).bind fun j8 =>
        g_X11_direction_b43 (fun y0 y1 y2 y3 z f => g_X11_direction_l15 fu y0 y1 y2 y3 z f) i1 i3 i4 i2 (f 74 j8) z f
set_option maxRecDepth 100000 in
set_option maxHeartbeats 4000000 in
theorem e_X11_direction_l15 {r : LWd} {z f : Nat → Nat → Int32} : ∀ (fu : Nat) (i1 : Int32) (i2 : Int32) (i3 : Int32) (i4 : Int32), m_X11_direction_l15 fu 66 i1 i2 i3 i4 (wA z f r) = (g_X11_direction_l15 fu i1 i2 i3 i4 z f).map (fun x => (x, wA z f r)) := by
  intro fu
  induction fu with
  | zero => intro i1 i2 i3 i4 ; rfl
  | succ fu ih =>
    intro i1 i2 i3 i4 
    rw [m_X11_direction_l15, g_X11_direction_l15]
    refine iteE (fun _ => ?_) (fun _ => ?_)
    · refine caP (e_X11_momentX) (fun x1 => ?_)
      refine caP (e_X11_weight) (fun x2 => ?_)
      refine caP (e_X11_sign) (fun x3 => ?_)
      refine caP (e_X11_momentY) (fun x4 => ?_)
      refine caP (e_X11_weight) (fun x5 => ?_)
      refine caP (e_X11_sign) (fun x6 => ?_)
      rfl
    · refine caP (e_X11_isDown) (fun x7 => ?_)
      refine iteE (fun _ => ?_) (fun _ => ?_)
      · exact e_X11_direction_b43 (hk15 := ih) _ _ _ _ _ 
      · refine opS fR_66_15 ?_
        refine opM aI_74 (fun j8 hj8 => ?_)
        exact e_X11_direction_b43 (hk15 := ih) _ _ _ _ _ 
def g_X11_direction (z f : Nat → Nat → Int32) : Option Int32 :=
  (g_X11_count (z 66 17) z f).bind fun x1 =>
  g_X11_direction_l15 FU x1 0 0 0 z f
set_option maxRecDepth 100000 in
set_option maxHeartbeats 4000000 in
theorem e_X11_direction {r : LWd} {z f : Nat → Nat → Int32} : m_X11_direction 66 (wA z f r) = (g_X11_direction  z f).map (fun x => (x, wA z f r)) := by
  unfold m_X11_direction g_X11_direction
  refine opS rcv_66 ?_
  refine opS fI_66_17 ?_
  refine caP (e_X11_count) (fun x1 => ?_)
  exact e_X11_direction_l15 FU _ _ _ _ 
def g_X11_settles_b98 (z f : Nat → Nat → Int32) : Option ((Nat → Nat → Int32) × (Nat → Nat → Int32)) :=
  lt2 (up2 z 66 23 ((z 66 23) + 1)) fun z1 =>
  lt2 (up2 z1 66 4 0) fun z2 =>
  lt2 (up2 z2 66 17 0) fun z3 =>
  some (z3, f)
set_option maxRecDepth 100000 in
set_option maxHeartbeats 4000000 in
theorem e_X11_settles_b98 {r : LWd} (z f : Nat → Nat → Int32) : m_X11_settles_b98 66 (wA z f r) = (g_X11_settles_b98  z f).map (fun q => wA q.1 q.2 r) := by
  unfold m_X11_settles_b98 g_X11_settles_b98
  refine opS fI_66_23 ?_
  refine opS pV_66_23 ?_
  refine ltE ?_
  refine opS (pZ_66_4 (by decide)) ?_
  refine ltE ?_
  refine opS pV_66_17 ?_
  refine ltE ?_
  rfl
def g_X11_settles (z f : Nat → Nat → Int32) : Option ((Nat → Nat → Int32) × (Nat → Nat → Int32)) :=
  if (z 66 4) = 0 then
    some (z, f)
  else
    bn2 (g_X11_sinks  z f) fun z1 u2 =>
    bn3 (g_X11_holds (z1 66 17) z1 u2) fun x3 z4 u5 =>
    if x3 = 0 then
      if 40 ≤ (z4 66 23) then
        g_X11_settles_b98  z4 u5
      else
        (g_X11_direction  z4 u5).bind fun x6 =>
        (ixA 160 (4 * (z4 66 23))).bind fun j7 =>
        lt2 (upf u5 76 j7 x6) fun u8 =>
        (ixA 160 ((4 * (z4 66 23)) + 1)).bind fun j9 =>
        lt2 (upf u8 76 j9 (z4 66 19)) fun u10 =>
        (ixA 160 ((4 * (z4 66 23)) + 2)).bind fun j11 =>
        lt2 (upf u10 76 j11 (z4 66 20)) fun u12 =>
        (ixA 160 ((4 * (z4 66 23)) + 3)).bind fun j13 =>
        lt2 (upf u12 76 j13 (z4 66 21)) fun u14 =>
        g_X11_settles_b98  z4 u14
    else
      some (z4, u5)
set_option maxRecDepth 100000 in
set_option maxHeartbeats 4000000 in
theorem e_X11_settles {r : LWd} {z f : Nat → Nat → Int32} : m_X11_settles 66 (wA z f r) = (g_X11_settles  z f).map (fun q => wA q.1 q.2 r) := by
  unfold m_X11_settles g_X11_settles
  refine opS rcv_66 ?_
  refine opS fI_66_4 ?_
  refine iteE (fun _ => ?_) (fun _ => ?_)
  · rfl
  · refine caU (e_X11_sinks) (fun _ _ => rfl) (fun z1 u2 => ?_)
    refine opS fI_66_17 ?_
    refine caW (e_X11_holds) (fun _ _ => rfl) (fun x3 z4 u5 => ?_)
    refine iteE (fun _ => ?_) (fun _ => ?_)
    · refine opS fI_66_23 ?_
      refine iteE (fun _ => ?_) (fun _ => ?_)
      · exact e_X11_settles_b98   _ _
      · refine opS fR_66_24 ?_
        refine opS fI_66_23 ?_
        refine caP (e_X11_direction) (fun x6 => ?_)
        refine opM sI_76 (fun j7 hj7 => ?_)
        refine ltE ?_
        refine opS fR_66_24 ?_
        refine opS fI_66_23 ?_
        refine opS fI_66_19 ?_
        refine opM sI_76 (fun j9 hj9 => ?_)
        refine ltE ?_
        refine opS fR_66_24 ?_
        refine opS fI_66_23 ?_
        refine opS fI_66_20 ?_
        refine opM sI_76 (fun j11 hj11 => ?_)
        refine ltE ?_
        refine opS fR_66_24 ?_
        refine opS fI_66_23 ?_
        refine opS fI_66_21 ?_
        refine opM sI_76 (fun j13 hj13 => ?_)
        refine ltE ?_
        exact e_X11_settles_b98   _ _
    · rfl
def g_X11_lifts (i1 : Int32) (z f : Nat → Nat → Int32) : Option (Int32 × (Nat → Nat → Int32) × (Nat → Nat → Int32)) :=
  if (z 66 4) = 0 then
    some (0, z, f)
  else
    if (z 66 7) < 1 then
      some (0, z, f)
    else
      (g_X11_isDown i1 z f).bind fun x1 =>
      if x1 = 0 then
        some (0, z, f)
      else
        bn3 (g_X11_holds ((z 66 17) &&& ((1 <<< (i1 &&& 31)) ^^^ ((-1)))) z f) fun x2 z3 u4 =>
        if x2 = 0 then
          some (0, z3, u4)
        else
          lt2 (up2 z3 66 7 ((z3 66 7) - 1)) fun z5 =>
          lt2 (up2 z5 66 22 0) fun z6 =>
          lt2 (up2 z6 66 17 ((z6 66 17) &&& ((1 <<< (i1 &&& 31)) ^^^ ((-1))))) fun z7 =>
          bn2 (g_X11_settles  z7 u4) fun z8 u9 =>
          some (1, z8, u9)
set_option maxRecDepth 100000 in
set_option maxHeartbeats 4000000 in
theorem e_X11_lifts {r : LWd} {z f : Nat → Nat → Int32} {i1 : Int32} : m_X11_lifts 66 i1 (wA z f r) = (g_X11_lifts i1 z f).map (fun q => (q.1, wA q.2.1 q.2.2 r)) := by
  unfold m_X11_lifts g_X11_lifts
  refine opS rcv_66 ?_
  refine opS fI_66_4 ?_
  refine iteE (fun _ => ?_) (fun _ => ?_)
  · rfl
  · refine opS fI_66_7 ?_
    refine iteE (fun _ => ?_) (fun _ => ?_)
    · rfl
    · refine caP (e_X11_isDown) (fun x1 => ?_)
      refine iteE (fun _ => ?_) (fun _ => ?_)
      · rfl
      · refine opS fI_66_17 ?_
        refine caW (e_X11_holds) (fun _ _ => rfl) (fun x2 z3 u4 => ?_)
        refine iteE (fun _ => ?_) (fun _ => ?_)
        · rfl
        · refine opS fI_66_7 ?_
          refine opS pV_66_7 ?_
          refine ltE ?_
          refine opS pV_66_22 ?_
          refine ltE ?_
          refine opS fI_66_17 ?_
          refine opS pV_66_17 ?_
          refine ltE ?_
          refine caU (e_X11_settles) (fun _ _ => rfl) (fun z8 u9 => ?_)
          rfl
def g_X11_canPlace (i1 : Int32) (i2 : Int32) (i3 : Int32) (z f : Nat → Nat → Int32) : Option Int32 :=
  (g_X11_at i2 i3 z f).bind fun x1 =>
  (ixA 400 x1).bind fun j2 =>
  (g_X11_level (z 66 17) z f).bind fun x3 =>
  (g_X11_isDown i1 z f).bind fun x4 =>
  if x4 = 0 then
    (g_X11_isInReach i1 i2 i3 z f).bind fun x5 =>
    if x5 = 0 then
      some (0)
    else
      (g_X11_footAt i2 i3 z f).bind fun x6 =>
      if x6 = ((-1)) then
        (g_X11_isIn ((f 70 j2) - x3) ((-2)) 2 z f).bind fun x7 =>
        if x7 = 0 then
          some (0)
        else
          some (1)
      else
        some (0)
  else
    some (0)
set_option maxRecDepth 100000 in
set_option maxHeartbeats 4000000 in
theorem e_X11_canPlace {r : LWd} {z f : Nat → Nat → Int32} {i1 : Int32} {i2 : Int32} {i3 : Int32} : m_X11_canPlace 66 i1 i2 i3 (wA z f r) = (g_X11_canPlace i1 i2 i3 z f).map (fun x => (x, wA z f r)) := by
  unfold m_X11_canPlace g_X11_canPlace
  refine opS rcv_66 ?_
  refine opS fR_66_3 ?_
  refine caP (e_X11_at) (fun x1 => ?_)
  refine opM aI_70 (fun j2 hj2 => ?_)
  refine opS fI_66_17 ?_
  refine caP (e_X11_level) (fun x3 => ?_)
  refine caP (e_X11_isDown) (fun x4 => ?_)
  refine iteE (fun _ => ?_) (fun _ => ?_)
  · refine caP (e_X11_isInReach) (fun x5 => ?_)
    refine iteE (fun _ => ?_) (fun _ => ?_)
    · rfl
    · refine caP (e_X11_footAt) (fun x6 => ?_)
      refine iteE (fun _ => ?_) (fun _ => ?_)
      · refine caP (e_X11_isIn) (fun x7 => ?_)
        refine iteE (fun _ => ?_) (fun _ => ?_)
        · rfl
        · rfl
      · rfl
  · rfl
def g_X11_places (i1 : Int32) (i2 : Int32) (i3 : Int32) (z f : Nat → Nat → Int32) : Option (Int32 × (Nat → Nat → Int32) × (Nat → Nat → Int32)) :=
  if (z 66 4) = 0 then
    some (0, z, f)
  else
    (g_X11_far i1 i2 i3 z f).bind fun x1 =>
    if (z 66 7) < (1 + x1) then
      some (0, z, f)
    else
      (g_X11_canPlace i1 i2 i3 z f).bind fun x2 =>
      if x2 = 0 then
        some (0, z, f)
      else
        (g_X11_far i1 i2 i3 z f).bind fun x3 =>
        lt2 (up2 z 66 7 ((z 66 7) - (1 + x3))) fun z4 =>
        lt2 (up2 z4 66 22 0) fun z5 =>
        bn2 (g_X11_sets i1 i2 i3 z5 f) fun z6 u7 =>
        bn2 (g_X11_settles  z6 u7) fun z8 u9 =>
        some (1, z8, u9)
set_option maxRecDepth 100000 in
set_option maxHeartbeats 4000000 in
theorem e_X11_places {r : LWd} {z f : Nat → Nat → Int32} {i1 : Int32} {i2 : Int32} {i3 : Int32} : m_X11_places 66 i1 i2 i3 (wA z f r) = (g_X11_places i1 i2 i3 z f).map (fun q => (q.1, wA q.2.1 q.2.2 r)) := by
  unfold m_X11_places g_X11_places
  refine opS rcv_66 ?_
  refine opS fI_66_4 ?_
  refine iteE (fun _ => ?_) (fun _ => ?_)
  · rfl
  · refine opS fI_66_7 ?_
    refine caP (e_X11_far) (fun x1 => ?_)
    refine iteE (fun _ => ?_) (fun _ => ?_)
    · rfl
    · refine caP (e_X11_canPlace) (fun x2 => ?_)
      refine iteE (fun _ => ?_) (fun _ => ?_)
      · rfl
      · refine opS fI_66_7 ?_
        refine caP (e_X11_far) (fun x3 => ?_)
        refine opS pV_66_7 ?_
        refine ltE ?_
        refine opS pV_66_22 ?_
        refine ltE ?_
        refine caU (e_X11_sets) (fun _ _ => rfl) (fun z6 u7 => ?_)
        refine caU (e_X11_settles) (fun _ _ => rfl) (fun z8 u9 => ?_)
        rfl
def g_X11_moves_b141 (i3 : Int32) (s1 : Int32) (s2 : Int32) (z f : Nat → Nat → Int32) : Option (Int32 × (Nat → Nat → Int32) × (Nat → Nat → Int32)) :=
  lt2 (up2 z 66 6 (s1 - s2)) fun z1 =>
  rtZw i3 z1 f
set_option maxRecDepth 100000 in
set_option maxHeartbeats 4000000 in
theorem e_X11_moves_b141 {r : LWd} (i3 : Int32) (s1 : Int32) (s2 : Int32) (z f : Nat → Nat → Int32) : m_X11_moves_b141 i3 66 s1 s2 (wA z f r) = (g_X11_moves_b141 i3 s1 s2 z f).map (fun q => (q.1, wA q.2.1 q.2.2 r)) := by
  unfold m_X11_moves_b141 g_X11_moves_b141
  refine opS pV_66_6 ?_
  refine ltE ?_
  exact reZw
def g_X11_moves_b123 (i2 : Int32) (i3 : Int32) (s1 : Int32) (s2 : Int32) (z f : Nat → Nat → Int32) : Option (Int32 × (Nat → Nat → Int32) × (Nat → Nat → Int32)) :=
  lt2 (up2 z 66 5 (s1 - s2)) fun z1 =>
  if i3 = 0 then
    g_X11_moves_b141 i3 (z1 66 6) i2 z1 f
  else
    g_X11_moves_b141 i3 (z1 66 6) 0 z1 f
set_option maxRecDepth 100000 in
set_option maxHeartbeats 4000000 in
theorem e_X11_moves_b123 {r : LWd} (i2 : Int32) (i3 : Int32) (s1 : Int32) (s2 : Int32) (z f : Nat → Nat → Int32) : m_X11_moves_b123 66 i2 i3 66 s1 s2 (wA z f r) = (g_X11_moves_b123 i2 i3 s1 s2 z f).map (fun q => (q.1, wA q.2.1 q.2.2 r)) := by
  unfold m_X11_moves_b123 g_X11_moves_b123
  refine opS pV_66_5 ?_
  refine ltE ?_
  refine opS fI_66_6 ?_
  refine iteE (fun _ => ?_) (fun _ => ?_)
  · exact e_X11_moves_b141 _ _ _  _ _
  · exact e_X11_moves_b141 _ _ _  _ _
def g_X11_moves_b102 (k54 : Int32 → Int32 → Int32 → Int32 → (Nat → Nat → Int32) → (Nat → Nat → Int32) → Option (Int32 × (Nat → Nat → Int32) × (Nat → Nat → Int32))) (i1 : Int32) (i2 : Int32) (i4 : Int32) (s0 : Int32) (z f : Nat → Nat → Int32) : Option (Int32 × (Nat → Nat → Int32) × (Nat → Nat → Int32)) :=
  k54 i1 i2 s0 (i4 + 1) z f
set_option maxRecDepth 100000 in
set_option maxHeartbeats 4000000 in
theorem e_X11_moves_b102 {r : LWd} {k54 : Nat → Int32 → Int32 → Int32 → Int32 → LWd → Option (Int32 × LWd)} {kg54 : Int32 → Int32 → Int32 → Int32 → (Nat → Nat → Int32) → (Nat → Nat → Int32) → Option (Int32 × (Nat → Nat → Int32) × (Nat → Nat → Int32))} (hk54 : ∀ (i1 : Int32) (i2 : Int32) (i3 : Int32) (i4 : Int32) (z f : Nat → Nat → Int32), k54 66 i1 i2 i3 i4 (wA z f r) = (kg54 i1 i2 i3 i4 z f).map (fun q => (q.1, wA q.2.1 q.2.2 r))) (i1 : Int32) (i2 : Int32) (i4 : Int32) (s0 : Int32) (z f : Nat → Nat → Int32) : m_X11_moves_b102 k54 66 i1 i2 i4 s0 (wA z f r) = (g_X11_moves_b102 kg54 i1 i2 i4 s0 z f).map (fun q => (q.1, wA q.2.1 q.2.2 r)) := by
  unfold m_X11_moves_b102 g_X11_moves_b102
  exact hk54 _ _ _ _  _ _
def g_X11_moves_b101 (k54 : Int32 → Int32 → Int32 → Int32 → (Nat → Nat → Int32) → (Nat → Nat → Int32) → Option (Int32 × (Nat → Nat → Int32) × (Nat → Nat → Int32))) (i1 : Int32) (i2 : Int32) (i4 : Int32) (z f : Nat → Nat → Int32) : Option (Int32 × (Nat → Nat → Int32) × (Nat → Nat → Int32)) :=
  g_X11_moves_b102 k54 i1 i2 i4 0 z f
set_option maxRecDepth 100000 in
set_option maxHeartbeats 4000000 in
theorem e_X11_moves_b101 {r : LWd} {k54 : Nat → Int32 → Int32 → Int32 → Int32 → LWd → Option (Int32 × LWd)} {kg54 : Int32 → Int32 → Int32 → Int32 → (Nat → Nat → Int32) → (Nat → Nat → Int32) → Option (Int32 × (Nat → Nat → Int32) × (Nat → Nat → Int32))} (hk54 : ∀ (i1 : Int32) (i2 : Int32) (i3 : Int32) (i4 : Int32) (z f : Nat → Nat → Int32), k54 66 i1 i2 i3 i4 (wA z f r) = (kg54 i1 i2 i3 i4 z f).map (fun q => (q.1, wA q.2.1 q.2.2 r))) (i1 : Int32) (i2 : Int32) (i4 : Int32) (z f : Nat → Nat → Int32) : m_X11_moves_b101 k54 66 i1 i2 i4 (wA z f r) = (g_X11_moves_b101 kg54 i1 i2 i4 z f).map (fun q => (q.1, wA q.2.1 q.2.2 r)) := by
  unfold m_X11_moves_b101 g_X11_moves_b101
  exact e_X11_moves_b102 (hk54 := hk54) _ _ _ _  _ _
def g_X11_moves_b97 (k54 : Int32 → Int32 → Int32 → Int32 → (Nat → Nat → Int32) → (Nat → Nat → Int32) → Option (Int32 × (Nat → Nat → Int32) × (Nat → Nat → Int32))) (i1 : Int32) (i2 : Int32) (i4 : Int32) (z f : Nat → Nat → Int32) : Option (Int32 × (Nat → Nat → Int32) × (Nat → Nat → Int32)) :=
  g_X11_moves_b102 k54 i1 i2 i4 1 z f
set_option maxRecDepth 100000 in
set_option maxHeartbeats 4000000 in
theorem e_X11_moves_b97 {r : LWd} {k54 : Nat → Int32 → Int32 → Int32 → Int32 → LWd → Option (Int32 × LWd)} {kg54 : Int32 → Int32 → Int32 → Int32 → (Nat → Nat → Int32) → (Nat → Nat → Int32) → Option (Int32 × (Nat → Nat → Int32) × (Nat → Nat → Int32))} (hk54 : ∀ (i1 : Int32) (i2 : Int32) (i3 : Int32) (i4 : Int32) (z f : Nat → Nat → Int32), k54 66 i1 i2 i3 i4 (wA z f r) = (kg54 i1 i2 i3 i4 z f).map (fun q => (q.1, wA q.2.1 q.2.2 r))) (i1 : Int32) (i2 : Int32) (i4 : Int32) (z f : Nat → Nat → Int32) : m_X11_moves_b97 k54 66 i1 i2 i4 (wA z f r) = (g_X11_moves_b97 kg54 i1 i2 i4 z f).map (fun q => (q.1, wA q.2.1 q.2.2 r)) := by
  unfold m_X11_moves_b97 g_X11_moves_b97
  exact e_X11_moves_b102 (hk54 := hk54) _ _ _ _  _ _
def g_X11_moves_l54 : Nat → Int32 → Int32 → Int32 → Int32 → (Nat → Nat → Int32) → (Nat → Nat → Int32) → Option (Int32 × (Nat → Nat → Int32) × (Nat → Nat → Int32))
  | 0, _, _, _, _, _, _ => none
  | fu + 1, i1, i2, i3, i4, z, f =>
    if 6 ≤ i4 then
      if i3 = 0 then
        g_X11_moves_b123 i2 i3 (z 66 5) i1 z f
      else
        g_X11_moves_b123 i2 i3 (z 66 5) 0 z f
    else
      if i3 = 0 then
        g_X11_moves_b101 (fun y0 y1 y2 y3 z f => g_X11_moves_l54 fu y0 y1 y2 y3 z f) i1 i2 i4 z f
      else
        (g_X11_isDown i4 z f).bind fun x1 =>
        if x1 = 0 then
          g_X11_moves_b97 (fun y0 y1 y2 y3 z f => g_X11_moves_l54 fu y0 y1 y2 y3 z f) i1 i2 i4 z f
        else
          (ixA 6 i4).bind fun j2 =>
          (ixA 6 i4).bind fun j3 =>
          (g_X11_isInReach i4 (f 74 j2) (f 75 j3) z f).bind fun x4 =>
          if x4 = 0 then
            g_X11_moves_b101 (fun y0 y1 y2 y3 z f => g_X11_moves_l54 fu y0 y1 y2 y3 z f) i1 i2 i4 z f
          else
            g_X11_moves_b97 (fun y0 y1 y2 y3 z f => g_X11_moves_l54 fu y0 y1 y2 y3 z f) i1 i2 i4 z f
set_option maxRecDepth 100000 in
set_option maxHeartbeats 4000000 in
theorem e_X11_moves_l54 {r : LWd} : ∀ (fu : Nat) (i1 : Int32) (i2 : Int32) (i3 : Int32) (i4 : Int32) (z f : Nat → Nat → Int32), m_X11_moves_l54 fu 66 i1 i2 i3 i4 (wA z f r) = (g_X11_moves_l54 fu i1 i2 i3 i4 z f).map (fun q => (q.1, wA q.2.1 q.2.2 r)) := by
  intro fu
  induction fu with
  | zero => intro i1 i2 i3 i4  z f; rfl
  | succ fu ih =>
    intro i1 i2 i3 i4  z f
    rw [m_X11_moves_l54, g_X11_moves_l54]
    refine iteE (fun _ => ?_) (fun _ => ?_)
    · refine opS fI_66_5 ?_
      refine iteE (fun _ => ?_) (fun _ => ?_)
      · exact e_X11_moves_b123 _ _ _ _  _ _
      · exact e_X11_moves_b123 _ _ _ _  _ _
    · refine iteE (fun _ => ?_) (fun _ => ?_)
      · exact e_X11_moves_b101 (hk54 := ih) _ _ _  _ _
      · refine caP (e_X11_isDown) (fun x1 => ?_)
        refine iteE (fun _ => ?_) (fun _ => ?_)
        · exact e_X11_moves_b97 (hk54 := ih) _ _ _  _ _
        · refine opS fR_66_15 ?_
          refine opM aI_74 (fun j2 hj2 => ?_)
          refine opS fR_66_16 ?_
          refine opM aI_75 (fun j3 hj3 => ?_)
          refine caP (e_X11_isInReach) (fun x4 => ?_)
          refine iteE (fun _ => ?_) (fun _ => ?_)
          · exact e_X11_moves_b101 (hk54 := ih) _ _ _  _ _
          · exact e_X11_moves_b97 (hk54 := ih) _ _ _  _ _
def g_X11_moves_b50 (i1 : Int32) (i2 : Int32) (s0 : Int32) (z f : Nat → Nat → Int32) : Option (Int32 × (Nat → Nat → Int32) × (Nat → Nat → Int32)) :=
  g_X11_moves_l54 FU i1 i2 s0 0 z f
set_option maxRecDepth 100000 in
set_option maxHeartbeats 4000000 in
theorem e_X11_moves_b50 {r : LWd} (i1 : Int32) (i2 : Int32) (s0 : Int32) (z f : Nat → Nat → Int32) : m_X11_moves_b50 66 i1 i2 s0 (wA z f r) = (g_X11_moves_b50 i1 i2 s0 z f).map (fun q => (q.1, wA q.2.1 q.2.2 r)) := by
  unfold m_X11_moves_b50 g_X11_moves_b50
  exact e_X11_moves_l54 FU _ _ _ _  _ _
def g_X11_moves_b49 (i1 : Int32) (i2 : Int32) (z f : Nat → Nat → Int32) : Option (Int32 × (Nat → Nat → Int32) × (Nat → Nat → Int32)) :=
  g_X11_moves_b50 i1 i2 0 z f
set_option maxRecDepth 100000 in
set_option maxHeartbeats 4000000 in
theorem e_X11_moves_b49 {r : LWd} (i1 : Int32) (i2 : Int32) (z f : Nat → Nat → Int32) : m_X11_moves_b49 66 i1 i2 (wA z f r) = (g_X11_moves_b49 i1 i2 z f).map (fun q => (q.1, wA q.2.1 q.2.2 r)) := by
  unfold m_X11_moves_b49 g_X11_moves_b49
  exact e_X11_moves_b50 _ _ _  _ _
def g_X11_moves (i1 : Int32) (i2 : Int32) (z f : Nat → Nat → Int32) : Option (Int32 × (Nat → Nat → Int32) × (Nat → Nat → Int32)) :=
  lt2 (up2 z 66 5 ((z 66 5) + i1)) fun z1 =>
  lt2 (up2 z1 66 6 ((z1 66 6) + i2)) fun z2 =>
  (g_X11_isPoint (z2 66 5) (z2 66 6) z2 f).bind fun x3 =>
  if x3 = 0 then
    g_X11_moves_b49 i1 i2 z2 f
  else
    bn3 (g_X11_holds (z2 66 17) z2 f) fun x4 z5 u6 =>
    if x4 = 0 then
      g_X11_moves_b49 i1 i2 z5 u6
    else
      g_X11_moves_b50 i1 i2 1 z5 u6
set_option maxRecDepth 100000 in
set_option maxHeartbeats 4000000 in
theorem e_X11_moves {r : LWd} {z f : Nat → Nat → Int32} {i1 : Int32} {i2 : Int32} : m_X11_moves 66 i1 i2 (wA z f r) = (g_X11_moves i1 i2 z f).map (fun q => (q.1, wA q.2.1 q.2.2 r)) := by
  unfold m_X11_moves g_X11_moves
  refine opS rcv_66 ?_
  refine opS fI_66_5 ?_
  refine opS pV_66_5 ?_
  refine ltE ?_
  refine opS fI_66_6 ?_
  refine opS pV_66_6 ?_
  refine ltE ?_
  refine opS fI_66_5 ?_
  refine opS fI_66_6 ?_
  refine caP (e_X11_isPoint) (fun x3 => ?_)
  refine iteE (fun _ => ?_) (fun _ => ?_)
  · exact e_X11_moves_b49 _ _  _ _
  · refine opS fI_66_17 ?_
    refine caW (e_X11_holds) (fun _ _ => rfl) (fun x4 z5 u6 => ?_)
    refine iteE (fun _ => ?_) (fun _ => ?_)
    · exact e_X11_moves_b49 _ _  _ _
    · exact e_X11_moves_b50 _ _ _  _ _
def g_X11_shifts (i1 : Int32) (i2 : Int32) (z f : Nat → Nat → Int32) : Option (Int32 × (Nat → Nat → Int32) × (Nat → Nat → Int32)) :=
  (g_X11_weight  z f).bind fun x1 =>
  if (z 66 4) = 0 then
    some (0, z, f)
  else
    if (z 66 7) < ((x1 + 9) / 10) then
      some (0, z, f)
    else
      bn3 (g_X11_moves i1 i2 z f) fun x2 z3 u4 =>
      if x2 = 0 then
        some (0, z3, u4)
      else
        lt2 (up2 z3 66 7 ((z3 66 7) - ((x1 + 9) / 10))) fun z5 =>
        lt2 (up2 z5 66 22 0) fun z6 =>
        bn2 (g_X11_settles  z6 u4) fun z7 u8 =>
        some (1, z7, u8)
set_option maxRecDepth 100000 in
set_option maxHeartbeats 4000000 in
theorem e_X11_shifts {r : LWd} {z f : Nat → Nat → Int32} {i1 : Int32} {i2 : Int32} : m_X11_shifts 66 i1 i2 (wA z f r) = (g_X11_shifts i1 i2 z f).map (fun q => (q.1, wA q.2.1 q.2.2 r)) := by
  unfold m_X11_shifts g_X11_shifts
  refine opS rcv_66 ?_
  refine caP (e_X11_weight) (fun x1 => ?_)
  refine opS fI_66_4 ?_
  refine iteE (fun _ => ?_) (fun _ => ?_)
  · rfl
  · refine opS fI_66_7 ?_
    refine iteE (fun _ => ?_) (fun _ => ?_)
    · rfl
    · refine caW (e_X11_moves) (fun _ _ => rfl) (fun x2 z3 u4 => ?_)
      refine iteE (fun _ => ?_) (fun _ => ?_)
      · rfl
      · refine opS fI_66_7 ?_
        refine opS pV_66_7 ?_
        refine ltE ?_
        refine opS pV_66_22 ?_
        refine ltE ?_
        refine caU (e_X11_settles) (fun _ _ => rfl) (fun z7 u8 => ?_)
        rfl
def g_X11_load_b108 (i5 : Int32) (i6 : Int32) (i7 : Int32) (s1 : Int32) (z f : Nat → Nat → Int32) : Option (Int32 × (Nat → Nat → Int32) × (Nat → Nat → Int32)) :=
  bn3 (g_X11_fails s1 z f) fun x1 z2 u3 =>
  if x1 = 0 then
    lt2 (up2 z2 66 22 0) fun z4 =>
    bn2 (g_X11_settles  z4 u3) fun z5 u6 =>
    some (z5 66 22, z5, u6)
  else
    lt2 (up2 z2 66 8 i5) fun z7 =>
    lt2 (up2 z7 66 9 i6) fun z8 =>
    lt2 (up2 z8 66 10 i7) fun z9 =>
    some (0, z9, u3)
set_option maxRecDepth 100000 in
set_option maxHeartbeats 4000000 in
theorem e_X11_load_b108 {r : LWd} (i5 : Int32) (i6 : Int32) (i7 : Int32) (s1 : Int32) (z f : Nat → Nat → Int32) : m_X11_load_b108 66 i5 i6 i7 66 s1 (wA z f r) = (g_X11_load_b108 i5 i6 i7 s1 z f).map (fun q => (q.1, wA q.2.1 q.2.2 r)) := by
  unfold m_X11_load_b108 g_X11_load_b108
  refine caW (e_X11_fails) (fun _ _ => rfl) (fun x1 z2 u3 => ?_)
  refine iteE (fun _ => ?_) (fun _ => ?_)
  · refine opS pV_66_22 ?_
    refine ltE ?_
    refine caU (e_X11_settles) (fun _ _ => rfl) (fun z5 u6 => ?_)
    refine opS fI_66_22 ?_
    rfl
  · refine opS pV_66_8 ?_
    refine ltE ?_
    refine opS pV_66_9 ?_
    refine ltE ?_
    refine opS pV_66_10 ?_
    refine ltE ?_
    rfl
def g_X11_load_b107 (i5 : Int32) (i6 : Int32) (i7 : Int32) (z f : Nat → Nat → Int32) : Option (Int32 × (Nat → Nat → Int32) × (Nat → Nat → Int32)) :=
  g_X11_load_b108 i5 i6 i7 0 z f
set_option maxRecDepth 100000 in
set_option maxHeartbeats 4000000 in
theorem e_X11_load_b107 {r : LWd} (i5 : Int32) (i6 : Int32) (i7 : Int32) (z f : Nat → Nat → Int32) : m_X11_load_b107 66 i5 i6 i7 66 (wA z f r) = (g_X11_load_b107 i5 i6 i7 z f).map (fun q => (q.1, wA q.2.1 q.2.2 r)) := by
  unfold m_X11_load_b107 g_X11_load_b107
  exact e_X11_load_b108 _ _ _ _  _ _
def g_X11_load_b75 (i4 : Int32) (i5 : Int32) (i6 : Int32) (i7 : Int32) (z f : Nat → Nat → Int32) : Option (Int32 × (Nat → Nat → Int32) × (Nat → Nat → Int32)) :=
  if i4 = 0 then
    g_X11_load_b108 i5 i6 i7 1 z f
  else
    if (z 66 4) = 0 then
      g_X11_load_b107 i5 i6 i7 z f
    else
      bn3 (g_X11_holds (z 66 17) z f) fun x1 z2 u3 =>
      if x1 = 0 then
        g_X11_load_b108 i5 i6 i7 2 z2 u3
      else
        g_X11_load_b107 i5 i6 i7 z2 u3
set_option maxRecDepth 100000 in
set_option maxHeartbeats 4000000 in
theorem e_X11_load_b75 {r : LWd} (i4 : Int32) (i5 : Int32) (i6 : Int32) (i7 : Int32) (z f : Nat → Nat → Int32) : m_X11_load_b75 66 i4 i5 i6 i7 (wA z f r) = (g_X11_load_b75 i4 i5 i6 i7 z f).map (fun q => (q.1, wA q.2.1 q.2.2 r)) := by
  unfold m_X11_load_b75 g_X11_load_b75
  refine iteE (fun _ => ?_) (fun _ => ?_)
  · exact e_X11_load_b108 _ _ _ _  _ _
  · refine opS fI_66_4 ?_
    refine iteE (fun _ => ?_) (fun _ => ?_)
    · exact e_X11_load_b107 _ _ _  _ _
    · refine opS fI_66_17 ?_
      refine caW (e_X11_holds) (fun _ _ => rfl) (fun x1 z2 u3 => ?_)
      refine iteE (fun _ => ?_) (fun _ => ?_)
      · exact e_X11_load_b108 _ _ _ _  _ _
      · exact e_X11_load_b107 _ _ _  _ _
def g_X11_load_b35 (i1 : Int32) (i2 : Int32) (i3 : Int32) (s0 : Int32) (z f : Nat → Nat → Int32) : Option (Int32 × (Nat → Nat → Int32) × (Nat → Nat → Int32)) :=
  if s0 = 0 then
    g_X11_load_b75 s0 (z 66 8) (z 66 9) (z 66 10) z f
  else
    lt2 (up2 z 66 8 i1) fun z1 =>
    lt2 (up2 z1 66 9 i2) fun z2 =>
    lt2 (up2 z2 66 10 i3) fun z3 =>
    g_X11_load_b75 s0 (z 66 8) (z 66 9) (z 66 10) z3 f
set_option maxRecDepth 100000 in
set_option maxHeartbeats 4000000 in
theorem e_X11_load_b35 {r : LWd} (i1 : Int32) (i2 : Int32) (i3 : Int32) (s0 : Int32) (z f : Nat → Nat → Int32) : m_X11_load_b35 66 i1 i2 i3 s0 (wA z f r) = (g_X11_load_b35 i1 i2 i3 s0 z f).map (fun q => (q.1, wA q.2.1 q.2.2 r)) := by
  unfold m_X11_load_b35 g_X11_load_b35
  refine opS fI_66_8 ?_
  refine opS fI_66_9 ?_
  refine opS fI_66_10 ?_
  refine iteE (fun _ => ?_) (fun _ => ?_)
  · exact e_X11_load_b75 _ _ _ _  _ _
  · refine opS pV_66_8 ?_
    refine ltE ?_
    refine opS pV_66_9 ?_
    refine ltE ?_
    refine opS pV_66_10 ?_
    refine ltE ?_
    exact e_X11_load_b75 _ _ _ _  _ _
def g_X11_load_b34 (i1 : Int32) (i2 : Int32) (i3 : Int32) (z f : Nat → Nat → Int32) : Option (Int32 × (Nat → Nat → Int32) × (Nat → Nat → Int32)) :=
  g_X11_load_b35 i1 i2 i3 0 z f
set_option maxRecDepth 100000 in
set_option maxHeartbeats 4000000 in
theorem e_X11_load_b34 {r : LWd} (i1 : Int32) (i2 : Int32) (i3 : Int32) (z f : Nat → Nat → Int32) : m_X11_load_b34 66 i1 i2 i3 (wA z f r) = (g_X11_load_b34 i1 i2 i3 z f).map (fun q => (q.1, wA q.2.1 q.2.2 r)) := by
  unfold m_X11_load_b34 g_X11_load_b34
  exact e_X11_load_b35 _ _ _ _  _ _
def g_X11_load (i1 : Int32) (i2 : Int32) (i3 : Int32) (z f : Nat → Nat → Int32) : Option (Int32 × (Nat → Nat → Int32) × (Nat → Nat → Int32)) :=
  (g_X11_isIn i1 0 20 z f).bind fun x1 =>
  if x1 = 0 then
    g_X11_load_b34 i1 i2 i3 z f
  else
    (g_X11_isIn i2 ((-5)) 5 z f).bind fun x2 =>
    if x2 = 0 then
      g_X11_load_b34 i1 i2 i3 z f
    else
      (g_X11_isIn i3 ((-5)) 5 z f).bind fun x3 =>
      if x3 = 0 then
        g_X11_load_b34 i1 i2 i3 z f
      else
        g_X11_load_b35 i1 i2 i3 1 z f
set_option maxRecDepth 100000 in
set_option maxHeartbeats 4000000 in
theorem e_X11_load {r : LWd} {z f : Nat → Nat → Int32} {i1 : Int32} {i2 : Int32} {i3 : Int32} : m_X11_load 66 i1 i2 i3 (wA z f r) = (g_X11_load i1 i2 i3 z f).map (fun q => (q.1, wA q.2.1 q.2.2 r)) := by
  unfold m_X11_load g_X11_load
  refine opS rcv_66 ?_
  refine caP (e_X11_isIn) (fun x1 => ?_)
  refine iteE (fun _ => ?_) (fun _ => ?_)
  · exact e_X11_load_b34 _ _ _  _ _
  · refine caP (e_X11_isIn) (fun x2 => ?_)
    refine iteE (fun _ => ?_) (fun _ => ?_)
    · exact e_X11_load_b34 _ _ _  _ _
    · refine caP (e_X11_isIn) (fun x3 => ?_)
      refine iteE (fun _ => ?_) (fun _ => ?_)
      · exact e_X11_load_b34 _ _ _  _ _
      · exact e_X11_load_b35 _ _ _ _  _ _
def g_X11_canRise_b230 (i1 : Int32) (i2 : Int32) (i3 : Int32) (z f : Nat → Nat → Int32) : Option (Int32 × (Nat → Nat → Int32) × (Nat → Nat → Int32)) :=
  if i1 = 0 then
    some (0, z, f)
  else
    if 2 < (i3 - i2) then
      some (0, z, f)
    else
      bn3 (g_X11_holds ((1 <<< ((z 66 11) &&& 31)) - 1) z f) fun x1 z2 u3 =>
      if x1 = 0 then
        some (0, z2, u3)
      else
        some (1, z2, u3)
set_option maxRecDepth 100000 in
set_option maxHeartbeats 4000000 in
theorem e_X11_canRise_b230 {r : LWd} (i1 : Int32) (i2 : Int32) (i3 : Int32) (z f : Nat → Nat → Int32) : m_X11_canRise_b230 66 i1 i2 i3 (wA z f r) = (g_X11_canRise_b230 i1 i2 i3 z f).map (fun q => (q.1, wA q.2.1 q.2.2 r)) := by
  unfold m_X11_canRise_b230 g_X11_canRise_b230
  refine iteE (fun _ => ?_) (fun _ => ?_)
  · rfl
  · refine iteE (fun _ => ?_) (fun _ => ?_)
    · rfl
    · refine opS fI_66_11 ?_
      refine caW (e_X11_holds) (fun _ _ => rfl) (fun x1 z2 u3 => ?_)
      refine iteE (fun _ => ?_) (fun _ => ?_)
      · rfl
      · rfl
def g_X11_canRise_b223 (k37 : Int32 → Int32 → Int32 → Int32 → (Nat → Nat → Int32) → (Nat → Nat → Int32) → Option (Int32 × (Nat → Nat → Int32) × (Nat → Nat → Int32))) (i1 : Int32) (i2 : Int32) (i4 : Int32) (s0 : Int32) (z f : Nat → Nat → Int32) : Option (Int32 × (Nat → Nat → Int32) × (Nat → Nat → Int32)) :=
  k37 i1 i2 s0 (i4 + 1) z f
set_option maxRecDepth 100000 in
set_option maxHeartbeats 4000000 in
theorem e_X11_canRise_b223 {r : LWd} {k37 : Nat → Int32 → Int32 → Int32 → Int32 → LWd → Option (Int32 × LWd)} {kg37 : Int32 → Int32 → Int32 → Int32 → (Nat → Nat → Int32) → (Nat → Nat → Int32) → Option (Int32 × (Nat → Nat → Int32) × (Nat → Nat → Int32))} (hk37 : ∀ (i1 : Int32) (i2 : Int32) (i3 : Int32) (i4 : Int32) (z f : Nat → Nat → Int32), k37 66 i1 i2 i3 i4 (wA z f r) = (kg37 i1 i2 i3 i4 z f).map (fun q => (q.1, wA q.2.1 q.2.2 r))) (i1 : Int32) (i2 : Int32) (i4 : Int32) (s0 : Int32) (z f : Nat → Nat → Int32) : m_X11_canRise_b223 k37 66 i1 i2 i4 s0 (wA z f r) = (g_X11_canRise_b223 kg37 i1 i2 i4 s0 z f).map (fun q => (q.1, wA q.2.1 q.2.2 r)) := by
  unfold m_X11_canRise_b223 g_X11_canRise_b223
  exact hk37 _ _ _ _  _ _
def g_X11_canRise_b210 (k37 : Int32 → Int32 → Int32 → Int32 → (Nat → Nat → Int32) → (Nat → Nat → Int32) → Option (Int32 × (Nat → Nat → Int32) × (Nat → Nat → Int32))) (i1 : Int32) (i3 : Int32) (i4 : Int32) (i5 : Int32) (s0 : Int32) (z f : Nat → Nat → Int32) : Option (Int32 × (Nat → Nat → Int32) × (Nat → Nat → Int32)) :=
  if i5 ≤ i3 then
    g_X11_canRise_b223 k37 i1 s0 i4 i3 z f
  else
    g_X11_canRise_b223 k37 i1 s0 i4 i5 z f
set_option maxRecDepth 100000 in
set_option maxHeartbeats 4000000 in
theorem e_X11_canRise_b210 {r : LWd} {k37 : Nat → Int32 → Int32 → Int32 → Int32 → LWd → Option (Int32 × LWd)} {kg37 : Int32 → Int32 → Int32 → Int32 → (Nat → Nat → Int32) → (Nat → Nat → Int32) → Option (Int32 × (Nat → Nat → Int32) × (Nat → Nat → Int32))} (hk37 : ∀ (i1 : Int32) (i2 : Int32) (i3 : Int32) (i4 : Int32) (z f : Nat → Nat → Int32), k37 66 i1 i2 i3 i4 (wA z f r) = (kg37 i1 i2 i3 i4 z f).map (fun q => (q.1, wA q.2.1 q.2.2 r))) (i1 : Int32) (i3 : Int32) (i4 : Int32) (i5 : Int32) (s0 : Int32) (z f : Nat → Nat → Int32) : m_X11_canRise_b210 k37 66 i1 i3 i4 i5 s0 (wA z f r) = (g_X11_canRise_b210 kg37 i1 i3 i4 i5 s0 z f).map (fun q => (q.1, wA q.2.1 q.2.2 r)) := by
  unfold m_X11_canRise_b210 g_X11_canRise_b210
  refine iteE (fun _ => ?_) (fun _ => ?_)
  · exact e_X11_canRise_b223 (hk37 := hk37) _ _ _ _  _ _
  · exact e_X11_canRise_b223 (hk37 := hk37) _ _ _ _  _ _
def g_X11_canRise_b196 (k37 : Int32 → Int32 → Int32 → Int32 → (Nat → Nat → Int32) → (Nat → Nat → Int32) → Option (Int32 × (Nat → Nat → Int32) × (Nat → Nat → Int32))) (i1 : Int32) (i2 : Int32) (i3 : Int32) (i4 : Int32) (s0 : Int32) (z f : Nat → Nat → Int32) : Option (Int32 × (Nat → Nat → Int32) × (Nat → Nat → Int32)) :=
  if i2 ≤ s0 then
    g_X11_canRise_b210 k37 i1 i3 i4 s0 i2 z f
  else
    g_X11_canRise_b210 k37 i1 i3 i4 s0 s0 z f
set_option maxRecDepth 100000 in
set_option maxHeartbeats 4000000 in
theorem e_X11_canRise_b196 {r : LWd} {k37 : Nat → Int32 → Int32 → Int32 → Int32 → LWd → Option (Int32 × LWd)} {kg37 : Int32 → Int32 → Int32 → Int32 → (Nat → Nat → Int32) → (Nat → Nat → Int32) → Option (Int32 × (Nat → Nat → Int32) × (Nat → Nat → Int32))} (hk37 : ∀ (i1 : Int32) (i2 : Int32) (i3 : Int32) (i4 : Int32) (z f : Nat → Nat → Int32), k37 66 i1 i2 i3 i4 (wA z f r) = (kg37 i1 i2 i3 i4 z f).map (fun q => (q.1, wA q.2.1 q.2.2 r))) (i1 : Int32) (i2 : Int32) (i3 : Int32) (i4 : Int32) (s0 : Int32) (z f : Nat → Nat → Int32) : m_X11_canRise_b196 k37 66 i1 i2 i3 i4 s0 (wA z f r) = (g_X11_canRise_b196 kg37 i1 i2 i3 i4 s0 z f).map (fun q => (q.1, wA q.2.1 q.2.2 r)) := by
  unfold m_X11_canRise_b196 g_X11_canRise_b196
  refine iteE (fun _ => ?_) (fun _ => ?_)
  · exact e_X11_canRise_b210 (hk37 := hk37) _ _ _ _ _  _ _
  · exact e_X11_canRise_b210 (hk37 := hk37) _ _ _ _ _  _ _
def g_X11_canRise_b166 (k37 : Int32 → Int32 → Int32 → Int32 → (Nat → Nat → Int32) → (Nat → Nat → Int32) → Option (Int32 × (Nat → Nat → Int32) × (Nat → Nat → Int32))) (i1 : Int32) (i2 : Int32) (i3 : Int32) (i4 : Int32) (z f : Nat → Nat → Int32) : Option (Int32 × (Nat → Nat → Int32) × (Nat → Nat → Int32)) :=
  if i1 = 0 then
    g_X11_canRise_b196 k37 i1 i2 i3 i4 0 z f
  else
    (ixA 6 i4).bind fun j1 =>
    (ixA 6 i4).bind fun j2 =>
    (g_X11_at (f 74 j1) (f 75 j2) z f).bind fun x3 =>
    (ixA 400 x3).bind fun j4 =>
    g_X11_canRise_b196 k37 i1 i2 i3 i4 (f 70 j4) z f
set_option maxRecDepth 100000 in
set_option maxHeartbeats 4000000 in
theorem e_X11_canRise_b166 {r : LWd} {k37 : Nat → Int32 → Int32 → Int32 → Int32 → LWd → Option (Int32 × LWd)} {kg37 : Int32 → Int32 → Int32 → Int32 → (Nat → Nat → Int32) → (Nat → Nat → Int32) → Option (Int32 × (Nat → Nat → Int32) × (Nat → Nat → Int32))} (hk37 : ∀ (i1 : Int32) (i2 : Int32) (i3 : Int32) (i4 : Int32) (z f : Nat → Nat → Int32), k37 66 i1 i2 i3 i4 (wA z f r) = (kg37 i1 i2 i3 i4 z f).map (fun q => (q.1, wA q.2.1 q.2.2 r))) (i1 : Int32) (i2 : Int32) (i3 : Int32) (i4 : Int32) (z f : Nat → Nat → Int32) : m_X11_canRise_b166 k37 66 i1 i2 i3 i4 (wA z f r) = (g_X11_canRise_b166 kg37 i1 i2 i3 i4 z f).map (fun q => (q.1, wA q.2.1 q.2.2 r)) := by
  unfold m_X11_canRise_b166 g_X11_canRise_b166
  refine iteE (fun _ => ?_) (fun _ => ?_)
  · exact e_X11_canRise_b196 (hk37 := hk37) _ _ _ _ _  _ _
  · refine opS fR_66_3 ?_
    refine opS fR_66_15 ?_
    refine opM aI_74 (fun j1 hj1 => ?_)
    refine opS fR_66_16 ?_
    refine opM aI_75 (fun j2 hj2 => ?_)
    refine caP (e_X11_at) (fun x3 => ?_)
    refine opM aI_70 (fun j4 hj4 => ?_)
    exact e_X11_canRise_b196 (hk37 := hk37) _ _ _ _ _  _ _
def g_X11_canRise_b159 (k37 : Int32 → Int32 → Int32 → Int32 → (Nat → Nat → Int32) → (Nat → Nat → Int32) → Option (Int32 × (Nat → Nat → Int32) × (Nat → Nat → Int32))) (k109 : Int32 → Int32 → Int32 → Int32 → Int32 → (Nat → Nat → Int32) → (Nat → Nat → Int32) → Option (Int32 × (Nat → Nat → Int32) × (Nat → Nat → Int32))) (i2 : Int32) (i3 : Int32) (i4 : Int32) (i5 : Int32) (s0 : Int32) (z f : Nat → Nat → Int32) : Option (Int32 × (Nat → Nat → Int32) × (Nat → Nat → Int32)) :=
  k109 s0 i2 i3 i4 (i5 + 1) z f
set_option maxRecDepth 100000 in
set_option maxHeartbeats 4000000 in
theorem e_X11_canRise_b159 {r : LWd} {k37 : Nat → Int32 → Int32 → Int32 → Int32 → LWd → Option (Int32 × LWd)} {kg37 : Int32 → Int32 → Int32 → Int32 → (Nat → Nat → Int32) → (Nat → Nat → Int32) → Option (Int32 × (Nat → Nat → Int32) × (Nat → Nat → Int32))} (hk37 : ∀ (i1 : Int32) (i2 : Int32) (i3 : Int32) (i4 : Int32) (z f : Nat → Nat → Int32), k37 66 i1 i2 i3 i4 (wA z f r) = (kg37 i1 i2 i3 i4 z f).map (fun q => (q.1, wA q.2.1 q.2.2 r))) {k109 : Nat → Int32 → Int32 → Int32 → Int32 → Int32 → LWd → Option (Int32 × LWd)} {kg109 : Int32 → Int32 → Int32 → Int32 → Int32 → (Nat → Nat → Int32) → (Nat → Nat → Int32) → Option (Int32 × (Nat → Nat → Int32) × (Nat → Nat → Int32))} (hk109 : ∀ (i1 : Int32) (i2 : Int32) (i3 : Int32) (i4 : Int32) (i5 : Int32) (z f : Nat → Nat → Int32), k109 66 i1 i2 i3 i4 i5 (wA z f r) = (kg109 i1 i2 i3 i4 i5 z f).map (fun q => (q.1, wA q.2.1 q.2.2 r))) (i2 : Int32) (i3 : Int32) (i4 : Int32) (i5 : Int32) (s0 : Int32) (z f : Nat → Nat → Int32) : m_X11_canRise_b159 k37 k109 66 i2 i3 i4 i5 s0 (wA z f r) = (g_X11_canRise_b159 kg37 kg109 i2 i3 i4 i5 s0 z f).map (fun q => (q.1, wA q.2.1 q.2.2 r)) := by
  unfold m_X11_canRise_b159 g_X11_canRise_b159
  exact hk109 _ _ _ _ _  _ _
def g_X11_canRise_b154 (k37 : Int32 → Int32 → Int32 → Int32 → (Nat → Nat → Int32) → (Nat → Nat → Int32) → Option (Int32 × (Nat → Nat → Int32) × (Nat → Nat → Int32))) (k109 : Int32 → Int32 → Int32 → Int32 → Int32 → (Nat → Nat → Int32) → (Nat → Nat → Int32) → Option (Int32 × (Nat → Nat → Int32) × (Nat → Nat → Int32))) (i2 : Int32) (i3 : Int32) (i4 : Int32) (i5 : Int32) (z f : Nat → Nat → Int32) : Option (Int32 × (Nat → Nat → Int32) × (Nat → Nat → Int32)) :=
  g_X11_canRise_b159 k37 k109 i2 i3 i4 i5 1 z f
set_option maxRecDepth 100000 in
set_option maxHeartbeats 4000000 in
theorem e_X11_canRise_b154 {r : LWd} {k37 : Nat → Int32 → Int32 → Int32 → Int32 → LWd → Option (Int32 × LWd)} {kg37 : Int32 → Int32 → Int32 → Int32 → (Nat → Nat → Int32) → (Nat → Nat → Int32) → Option (Int32 × (Nat → Nat → Int32) × (Nat → Nat → Int32))} (hk37 : ∀ (i1 : Int32) (i2 : Int32) (i3 : Int32) (i4 : Int32) (z f : Nat → Nat → Int32), k37 66 i1 i2 i3 i4 (wA z f r) = (kg37 i1 i2 i3 i4 z f).map (fun q => (q.1, wA q.2.1 q.2.2 r))) {k109 : Nat → Int32 → Int32 → Int32 → Int32 → Int32 → LWd → Option (Int32 × LWd)} {kg109 : Int32 → Int32 → Int32 → Int32 → Int32 → (Nat → Nat → Int32) → (Nat → Nat → Int32) → Option (Int32 × (Nat → Nat → Int32) × (Nat → Nat → Int32))} (hk109 : ∀ (i1 : Int32) (i2 : Int32) (i3 : Int32) (i4 : Int32) (i5 : Int32) (z f : Nat → Nat → Int32), k109 66 i1 i2 i3 i4 i5 (wA z f r) = (kg109 i1 i2 i3 i4 i5 z f).map (fun q => (q.1, wA q.2.1 q.2.2 r))) (i2 : Int32) (i3 : Int32) (i4 : Int32) (i5 : Int32) (z f : Nat → Nat → Int32) : m_X11_canRise_b154 k37 k109 66 i2 i3 i4 i5 (wA z f r) = (g_X11_canRise_b154 kg37 kg109 i2 i3 i4 i5 z f).map (fun q => (q.1, wA q.2.1 q.2.2 r)) := by
  unfold m_X11_canRise_b154 g_X11_canRise_b154
  exact e_X11_canRise_b159 (hk37 := hk37) (hk109 := hk109) _ _ _ _ _  _ _
def g_X11_canRise_l109 (k37 : Int32 → Int32 → Int32 → Int32 → (Nat → Nat → Int32) → (Nat → Nat → Int32) → Option (Int32 × (Nat → Nat → Int32) × (Nat → Nat → Int32))) : Nat → Int32 → Int32 → Int32 → Int32 → Int32 → (Nat → Nat → Int32) → (Nat → Nat → Int32) → Option (Int32 × (Nat → Nat → Int32) × (Nat → Nat → Int32))
  | 0, _, _, _, _, _, _, _ => none
  | fu + 1, i1, i2, i3, i4, i5, z, f =>
    if i4 ≤ i5 then
      g_X11_canRise_b166 k37 i1 i2 i3 i4 z f
    else
      if i1 = 0 then
        g_X11_canRise_b166 k37 i1 i2 i3 i4 z f
      else
        (ixA 6 i5).bind fun j1 =>
        (ixA 6 i4).bind fun j2 =>
        if (f 74 j1) = (f 74 j2) then
          (ixA 6 i5).bind fun j3 =>
          (ixA 6 i4).bind fun j4 =>
          if (f 75 j3) = (f 75 j4) then
            g_X11_canRise_b159 k37 (fun y0 y1 y2 y3 y4 z f => g_X11_canRise_l109 k37 fu y0 y1 y2 y3 y4 z f) i2 i3 i4 i5 0 z f
          else
            g_X11_canRise_b154 k37 (fun y0 y1 y2 y3 y4 z f => g_X11_canRise_l109 k37 fu y0 y1 y2 y3 y4 z f) i2 i3 i4 i5 z f
        else
          g_X11_canRise_b154 k37 (fun y0 y1 y2 y3 y4 z f => g_X11_canRise_l109 k37 fu y0 y1 y2 y3 y4 z f) i2 i3 i4 i5 z f
set_option maxRecDepth 100000 in
set_option maxHeartbeats 4000000 in
theorem e_X11_canRise_l109 {r : LWd} {k37 : Nat → Int32 → Int32 → Int32 → Int32 → LWd → Option (Int32 × LWd)} {kg37 : Int32 → Int32 → Int32 → Int32 → (Nat → Nat → Int32) → (Nat → Nat → Int32) → Option (Int32 × (Nat → Nat → Int32) × (Nat → Nat → Int32))} (hk37 : ∀ (i1 : Int32) (i2 : Int32) (i3 : Int32) (i4 : Int32) (z f : Nat → Nat → Int32), k37 66 i1 i2 i3 i4 (wA z f r) = (kg37 i1 i2 i3 i4 z f).map (fun q => (q.1, wA q.2.1 q.2.2 r))) : ∀ (fu : Nat) (i1 : Int32) (i2 : Int32) (i3 : Int32) (i4 : Int32) (i5 : Int32) (z f : Nat → Nat → Int32), m_X11_canRise_l109 k37 fu 66 i1 i2 i3 i4 i5 (wA z f r) = (g_X11_canRise_l109 kg37 fu i1 i2 i3 i4 i5 z f).map (fun q => (q.1, wA q.2.1 q.2.2 r)) := by
  intro fu
  induction fu with
  | zero => intro i1 i2 i3 i4 i5  z f; rfl
  | succ fu ih =>
    intro i1 i2 i3 i4 i5  z f
    rw [m_X11_canRise_l109, g_X11_canRise_l109]
    refine iteE (fun _ => ?_) (fun _ => ?_)
    · exact e_X11_canRise_b166 (hk37 := hk37) _ _ _ _  _ _
    · refine iteE (fun _ => ?_) (fun _ => ?_)
      · exact e_X11_canRise_b166 (hk37 := hk37) _ _ _ _  _ _
      · refine opS fR_66_15 ?_
        refine opM aI_74 (fun j1 hj1 => ?_)
        refine opS fR_66_15 ?_
        refine opM aI_74 (fun j2 hj2 => ?_)
        refine iteE (fun _ => ?_) (fun _ => ?_)
        · refine opS fR_66_16 ?_
          refine opM aI_75 (fun j3 hj3 => ?_)
          refine opS fR_66_16 ?_
          refine opM aI_75 (fun j4 hj4 => ?_)
          refine iteE (fun _ => ?_) (fun _ => ?_)
          · exact e_X11_canRise_b159 (hk37 := hk37) (hk109 := ih) _ _ _ _ _  _ _
          · exact e_X11_canRise_b154 (hk37 := hk37) (hk109 := ih) _ _ _ _  _ _
        · exact e_X11_canRise_b154 (hk37 := hk37) (hk109 := ih) _ _ _ _  _ _
def g_X11_canRise_l37 : Nat → Int32 → Int32 → Int32 → Int32 → (Nat → Nat → Int32) → (Nat → Nat → Int32) → Option (Int32 × (Nat → Nat → Int32) × (Nat → Nat → Int32))
  | 0, _, _, _, _, _, _ => none
  | fu + 1, i1, i2, i3, i4, z, f =>
    if (z 66 11) ≤ i4 then
      g_X11_canRise_b230 i1 i2 i3 z f
    else
      if i1 = 0 then
        g_X11_canRise_b230 i1 i2 i3 z f
      else
        (ixA 6 i4).bind fun j1 =>
        (ixA 6 i4).bind fun j2 =>
        lt2 (upf f 74 j2 ((z 66 5) + (f 71 j1))) fun u3 =>
        (ixA 6 i4).bind fun j4 =>
        (ixA 6 i4).bind fun j5 =>
        lt2 (upf u3 75 j5 ((z 66 6) + (u3 72 j4))) fun u6 =>
        (ixA 6 i4).bind fun j7 =>
        (ixA 6 i4).bind fun j8 =>
        (g_X11_isPoint (u6 74 j7) (u6 75 j8) z u6).bind fun x9 =>
        g_X11_canRise_l109 (fun y0 y1 y2 y3 z f => g_X11_canRise_l37 fu y0 y1 y2 y3 z f) FU x9 i2 i3 i4 0 z u6
set_option maxRecDepth 100000 in
set_option maxHeartbeats 4000000 in
theorem e_X11_canRise_l37 {r : LWd} : ∀ (fu : Nat) (i1 : Int32) (i2 : Int32) (i3 : Int32) (i4 : Int32) (z f : Nat → Nat → Int32), m_X11_canRise_l37 fu 66 i1 i2 i3 i4 (wA z f r) = (g_X11_canRise_l37 fu i1 i2 i3 i4 z f).map (fun q => (q.1, wA q.2.1 q.2.2 r)) := by
  intro fu
  induction fu with
  | zero => intro i1 i2 i3 i4  z f; rfl
  | succ fu ih =>
    intro i1 i2 i3 i4  z f
    rw [m_X11_canRise_l37, g_X11_canRise_l37]
    refine opS fI_66_11 ?_
    refine iteE (fun _ => ?_) (fun _ => ?_)
    · exact e_X11_canRise_b230 _ _ _  _ _
    · refine iteE (fun _ => ?_) (fun _ => ?_)
      · exact e_X11_canRise_b230 _ _ _  _ _
      · refine opS fR_66_15 ?_
        refine opS fI_66_5 ?_
        refine opS fR_66_12 ?_
        refine opM aI_71 (fun j1 hj1 => ?_)
        refine opM sI_74 (fun j2 hj2 => ?_)
        refine ltE ?_
        refine opS fR_66_16 ?_
        refine opS fI_66_6 ?_
        refine opS fR_66_13 ?_
        refine opM aI_72 (fun j4 hj4 => ?_)
        refine opM sI_75 (fun j5 hj5 => ?_)
        refine ltE ?_
        refine opS fR_66_15 ?_
        refine opM aI_74 (fun j7 hj7 => ?_)
        refine opS fR_66_16 ?_
        refine opM aI_75 (fun j8 hj8 => ?_)
        refine caP (e_X11_isPoint) (fun x9 => ?_)
        exact e_X11_canRise_l109 (hk37 := ih) FU _ _ _ _ _  _ _
def g_X11_canRise_b28 (s0 : Int32) (z f : Nat → Nat → Int32) : Option (Int32 × (Nat → Nat → Int32) × (Nat → Nat → Int32)) :=
  g_X11_canRise_l37 FU s0 9 0 0 z f
set_option maxRecDepth 100000 in
set_option maxHeartbeats 4000000 in
theorem e_X11_canRise_b28 {r : LWd} (s0 : Int32) (z f : Nat → Nat → Int32) : m_X11_canRise_b28 66 s0 (wA z f r) = (g_X11_canRise_b28 s0 z f).map (fun q => (q.1, wA q.2.1 q.2.2 r)) := by
  unfold m_X11_canRise_b28 g_X11_canRise_b28
  exact e_X11_canRise_l37 FU _ _ _ _  _ _
def g_X11_canRise_b27 (z f : Nat → Nat → Int32) : Option (Int32 × (Nat → Nat → Int32) × (Nat → Nat → Int32)) :=
  g_X11_canRise_b28 0 z f
set_option maxRecDepth 100000 in
set_option maxHeartbeats 4000000 in
theorem e_X11_canRise_b27 {r : LWd} (z f : Nat → Nat → Int32) : m_X11_canRise_b27 66 (wA z f r) = (g_X11_canRise_b27  z f).map (fun q => (q.1, wA q.2.1 q.2.2 r)) := by
  unfold m_X11_canRise_b27 g_X11_canRise_b27
  exact e_X11_canRise_b28 _  _ _
def g_X11_canRise (z f : Nat → Nat → Int32) : Option (Int32 × (Nat → Nat → Int32) × (Nat → Nat → Int32)) :=
  if (z 66 4) = 0 then
    if (z 66 7) < 20 then
      g_X11_canRise_b27  z f
    else
      if (z 66 11) ≤ 0 then
        g_X11_canRise_b27  z f
      else
        g_X11_canRise_b28 1 z f
  else
    g_X11_canRise_b27  z f
set_option maxRecDepth 100000 in
set_option maxHeartbeats 4000000 in
theorem e_X11_canRise {r : LWd} {z f : Nat → Nat → Int32} : m_X11_canRise 66 (wA z f r) = (g_X11_canRise  z f).map (fun q => (q.1, wA q.2.1 q.2.2 r)) := by
  unfold m_X11_canRise g_X11_canRise
  refine opS rcv_66 ?_
  refine opS fI_66_4 ?_
  refine iteE (fun _ => ?_) (fun _ => ?_)
  · refine opS fI_66_7 ?_
    refine iteE (fun _ => ?_) (fun _ => ?_)
    · exact e_X11_canRise_b27   _ _
    · refine opS fI_66_11 ?_
      refine iteE (fun _ => ?_) (fun _ => ?_)
      · exact e_X11_canRise_b27   _ _
      · exact e_X11_canRise_b28 _  _ _
  · exact e_X11_canRise_b27   _ _
def g_X11_rise_b103 (k54 : Int32 → (Nat → Nat → Int32) → (Nat → Nat → Int32) → Option (Int32 × (Nat → Nat → Int32) × (Nat → Nat → Int32))) (i1 : Int32) (z f : Nat → Nat → Int32) : Option (Int32 × (Nat → Nat → Int32) × (Nat → Nat → Int32)) :=
  k54 (i1 + 1) z f
set_option maxRecDepth 100000 in
set_option maxHeartbeats 4000000 in
theorem e_X11_rise_b103 {r : LWd} {k54 : Nat → Int32 → LWd → Option (Int32 × LWd)} {kg54 : Int32 → (Nat → Nat → Int32) → (Nat → Nat → Int32) → Option (Int32 × (Nat → Nat → Int32) × (Nat → Nat → Int32))} (hk54 : ∀ (i1 : Int32) (z f : Nat → Nat → Int32), k54 66 i1 (wA z f r) = (kg54 i1 z f).map (fun q => (q.1, wA q.2.1 q.2.2 r))) (i1 : Int32) (z f : Nat → Nat → Int32) : m_X11_rise_b103 k54 66 i1 (wA z f r) = (g_X11_rise_b103 kg54 i1 z f).map (fun q => (q.1, wA q.2.1 q.2.2 r)) := by
  unfold m_X11_rise_b103 g_X11_rise_b103
  exact hk54 _  _ _
def g_X11_rise_l54 : Nat → Int32 → (Nat → Nat → Int32) → (Nat → Nat → Int32) → Option (Int32 × (Nat → Nat → Int32) × (Nat → Nat → Int32))
  | 0, _, _, _ => none
  | fu + 1, i1, z, f =>
    if (z 66 11) ≤ i1 then
      bn2 (g_X11_settles  z f) fun z1 u2 =>
      (g_X11_count (z1 66 17) z1 u2).bind fun x3 =>
      some (x3, z1, u2)
    else
      (ixA 6 i1).bind fun j4 =>
      (ixA 6 i1).bind fun j5 =>
      (g_X11_footAt ((z 66 5) + (f 71 j4)) ((z 66 6) + (f 72 j5)) z f).bind fun x6 =>
      if x6 = ((-1)) then
        bn2 (g_X11_sets i1 ((z 66 5) + (f 71 j4)) ((z 66 6) + (f 72 j5)) z f) fun z7 u8 =>
        g_X11_rise_b103 (fun y0 z f => g_X11_rise_l54 fu y0 z f) i1 z7 u8
      else
        g_X11_rise_b103 (fun y0 z f => g_X11_rise_l54 fu y0 z f) i1 z f
set_option maxRecDepth 100000 in
set_option maxHeartbeats 4000000 in
theorem e_X11_rise_l54 {r : LWd} : ∀ (fu : Nat) (i1 : Int32) (z f : Nat → Nat → Int32), m_X11_rise_l54 fu 66 i1 (wA z f r) = (g_X11_rise_l54 fu i1 z f).map (fun q => (q.1, wA q.2.1 q.2.2 r)) := by
  intro fu
  induction fu with
  | zero => intro i1  z f; rfl
  | succ fu ih =>
    intro i1  z f
    rw [m_X11_rise_l54, g_X11_rise_l54]
    refine opS fI_66_11 ?_
    refine iteE (fun _ => ?_) (fun _ => ?_)
    · refine caU (e_X11_settles) (fun _ _ => rfl) (fun z1 u2 => ?_)
      refine opS fI_66_17 ?_
      refine caP (e_X11_count) (fun x3 => ?_)
      rfl
    · refine opS fI_66_5 ?_
      refine opS fR_66_12 ?_
      refine opM aI_71 (fun j4 hj4 => ?_)
      refine opS fI_66_6 ?_
      refine opS fR_66_13 ?_
      refine opM aI_72 (fun j5 hj5 => ?_)
      refine caP (e_X11_footAt) (fun x6 => ?_)
      refine iteE (fun _ => ?_) (fun _ => ?_)
      · refine caU (e_X11_sets) (fun _ _ => rfl) (fun z7 u8 => ?_)
        exact e_X11_rise_b103 (hk54 := ih) _  _ _
      · exact e_X11_rise_b103 (hk54 := ih) _  _ _
def g_X11_rise_b13 (s1 : Int32) (z f : Nat → Nat → Int32) : Option (Int32 × (Nat → Nat → Int32) × (Nat → Nat → Int32)) :=
  bn3 (g_X11_fails s1 z f) fun x1 z2 u3 =>
  if x1 = 0 then
    lt2 (up2 z2 66 7 ((z2 66 7) - 20)) fun z4 =>
    lt2 (up2 z4 66 4 1) fun z5 =>
    lt2 (up2 z5 66 18 0) fun z6 =>
    lt2 (up2 z6 66 19 0) fun z7 =>
    lt2 (up2 z7 66 22 0) fun z8 =>
    g_X11_rise_l54 FU 0 z8 u3
  else
    some (0, z2, u3)
set_option maxRecDepth 100000 in
set_option maxHeartbeats 4000000 in
theorem e_X11_rise_b13 {r : LWd} (s1 : Int32) (z f : Nat → Nat → Int32) : m_X11_rise_b13 66 66 s1 (wA z f r) = (g_X11_rise_b13 s1 z f).map (fun q => (q.1, wA q.2.1 q.2.2 r)) := by
  unfold m_X11_rise_b13 g_X11_rise_b13
  refine caW (e_X11_fails) (fun _ _ => rfl) (fun x1 z2 u3 => ?_)
  refine iteE (fun _ => ?_) (fun _ => ?_)
  · refine opS fI_66_7 ?_
    refine opS pV_66_7 ?_
    refine ltE ?_
    refine opS (pZ_66_4 (by decide)) ?_
    refine ltE ?_
    refine opS pV_66_18 ?_
    refine ltE ?_
    refine opS pV_66_19 ?_
    refine ltE ?_
    refine opS pV_66_22 ?_
    refine ltE ?_
    exact e_X11_rise_l54 FU _  _ _
  · rfl
def g_X11_rise (z f : Nat → Nat → Int32) : Option (Int32 × (Nat → Nat → Int32) × (Nat → Nat → Int32)) :=
  bn3 (g_X11_canRise  z f) fun x1 z2 u3 =>
  if x1 = 0 then
    g_X11_rise_b13 1 z2 u3
  else
    g_X11_rise_b13 0 z2 u3
set_option maxRecDepth 100000 in
set_option maxHeartbeats 4000000 in
theorem e_X11_rise {r : LWd} {z f : Nat → Nat → Int32} : m_X11_rise 66 (wA z f r) = (g_X11_rise  z f).map (fun q => (q.1, wA q.2.1 q.2.2 r)) := by
  unfold m_X11_rise g_X11_rise
  refine opS rcv_66 ?_
  refine caW (e_X11_canRise) (fun _ _ => rfl) (fun x1 z2 u3 => ?_)
  refine iteE (fun _ => ?_) (fun _ => ?_)
  · exact e_X11_rise_b13 _  _ _
  · exact e_X11_rise_b13 _  _ _
def g_X11_lift_b26 (s1 : Int32) (z f : Nat → Nat → Int32) : Option (Int32 × (Nat → Nat → Int32) × (Nat → Nat → Int32)) :=
  bn3 (g_X11_fails s1 z f) fun x1 z2 u3 =>
  if x1 = 0 then
    some (z2 66 22, z2, u3)
  else
    some (0, z2, u3)
set_option maxRecDepth 100000 in
set_option maxHeartbeats 4000000 in
theorem e_X11_lift_b26 {r : LWd} (s1 : Int32) (z f : Nat → Nat → Int32) : m_X11_lift_b26 66 66 s1 (wA z f r) = (g_X11_lift_b26 s1 z f).map (fun q => (q.1, wA q.2.1 q.2.2 r)) := by
  unfold m_X11_lift_b26 g_X11_lift_b26
  refine caW (e_X11_fails) (fun _ _ => rfl) (fun x1 z2 u3 => ?_)
  refine iteE (fun _ => ?_) (fun _ => ?_)
  · refine opS fI_66_22 ?_
    rfl
  · rfl
def g_X11_lift (i1 : Int32) (z f : Nat → Nat → Int32) : Option (Int32 × (Nat → Nat → Int32) × (Nat → Nat → Int32)) :=
  (g_X11_isLeg i1 z f).bind fun x1 =>
  if x1 = 0 then
    g_X11_lift_b26 1 z f
  else
    bn3 (g_X11_lifts i1 z f) fun x2 z3 u4 =>
    if x2 = 0 then
      g_X11_lift_b26 2 z3 u4
    else
      g_X11_lift_b26 0 z3 u4
set_option maxRecDepth 100000 in
set_option maxHeartbeats 4000000 in
theorem e_X11_lift {r : LWd} {z f : Nat → Nat → Int32} {i1 : Int32} : m_X11_lift 66 i1 (wA z f r) = (g_X11_lift i1 z f).map (fun q => (q.1, wA q.2.1 q.2.2 r)) := by
  unfold m_X11_lift g_X11_lift
  refine opS rcv_66 ?_
  refine caP (e_X11_isLeg) (fun x1 => ?_)
  refine iteE (fun _ => ?_) (fun _ => ?_)
  · exact e_X11_lift_b26 _  _ _
  · refine caW (e_X11_lifts) (fun _ _ => rfl) (fun x2 z3 u4 => ?_)
    refine iteE (fun _ => ?_) (fun _ => ?_)
    · exact e_X11_lift_b26 _  _ _
    · exact e_X11_lift_b26 _  _ _
def g_X11_place_b40 (s1 : Int32) (z f : Nat → Nat → Int32) : Option (Int32 × (Nat → Nat → Int32) × (Nat → Nat → Int32)) :=
  bn3 (g_X11_fails s1 z f) fun x1 z2 u3 =>
  if x1 = 0 then
    some (z2 66 22, z2, u3)
  else
    some (0, z2, u3)
set_option maxRecDepth 100000 in
set_option maxHeartbeats 4000000 in
theorem e_X11_place_b40 {r : LWd} (s1 : Int32) (z f : Nat → Nat → Int32) : m_X11_place_b40 66 66 s1 (wA z f r) = (g_X11_place_b40 s1 z f).map (fun q => (q.1, wA q.2.1 q.2.2 r)) := by
  unfold m_X11_place_b40 g_X11_place_b40
  refine caW (e_X11_fails) (fun _ _ => rfl) (fun x1 z2 u3 => ?_)
  refine iteE (fun _ => ?_) (fun _ => ?_)
  · refine opS fI_66_22 ?_
    rfl
  · rfl
def g_X11_place (i1 : Int32) (i2 : Int32) (i3 : Int32) (z f : Nat → Nat → Int32) : Option (Int32 × (Nat → Nat → Int32) × (Nat → Nat → Int32)) :=
  (g_X11_isLeg i1 z f).bind fun x1 =>
  if x1 = 0 then
    g_X11_place_b40 1 z f
  else
    (g_X11_isPoint i2 i3 z f).bind fun x2 =>
    if x2 = 0 then
      g_X11_place_b40 2 z f
    else
      bn3 (g_X11_places i1 i2 i3 z f) fun x3 z4 u5 =>
      if x3 = 0 then
        g_X11_place_b40 3 z4 u5
      else
        g_X11_place_b40 0 z4 u5
set_option maxRecDepth 100000 in
set_option maxHeartbeats 4000000 in
theorem e_X11_place {r : LWd} {z f : Nat → Nat → Int32} {i1 : Int32} {i2 : Int32} {i3 : Int32} : m_X11_place 66 i1 i2 i3 (wA z f r) = (g_X11_place i1 i2 i3 z f).map (fun q => (q.1, wA q.2.1 q.2.2 r)) := by
  unfold m_X11_place g_X11_place
  refine opS rcv_66 ?_
  refine caP (e_X11_isLeg) (fun x1 => ?_)
  refine iteE (fun _ => ?_) (fun _ => ?_)
  · exact e_X11_place_b40 _  _ _
  · refine caP (e_X11_isPoint) (fun x2 => ?_)
    refine iteE (fun _ => ?_) (fun _ => ?_)
    · exact e_X11_place_b40 _  _ _
    · refine caW (e_X11_places) (fun _ _ => rfl) (fun x3 z4 u5 => ?_)
      refine iteE (fun _ => ?_) (fun _ => ?_)
      · exact e_X11_place_b40 _  _ _
      · exact e_X11_place_b40 _  _ _
def g_X11_shift_b55 (s1 : Int32) (z f : Nat → Nat → Int32) : Option (Int32 × (Nat → Nat → Int32) × (Nat → Nat → Int32)) :=
  bn3 (g_X11_fails s1 z f) fun x1 z2 u3 =>
  if x1 = 0 then
    some (z2 66 22, z2, u3)
  else
    some (0, z2, u3)
set_option maxRecDepth 100000 in
set_option maxHeartbeats 4000000 in
theorem e_X11_shift_b55 {r : LWd} (s1 : Int32) (z f : Nat → Nat → Int32) : m_X11_shift_b55 66 66 s1 (wA z f r) = (g_X11_shift_b55 s1 z f).map (fun q => (q.1, wA q.2.1 q.2.2 r)) := by
  unfold m_X11_shift_b55 g_X11_shift_b55
  refine caW (e_X11_fails) (fun _ _ => rfl) (fun x1 z2 u3 => ?_)
  refine iteE (fun _ => ?_) (fun _ => ?_)
  · refine opS fI_66_22 ?_
    rfl
  · rfl
def g_X11_shift_b31 (i1 : Int32) (i2 : Int32) (s0 : Int32) (z f : Nat → Nat → Int32) : Option (Int32 × (Nat → Nat → Int32) × (Nat → Nat → Int32)) :=
  if s0 = 0 then
    g_X11_shift_b55 1 z f
  else
    bn3 (g_X11_shifts i1 i2 z f) fun x1 z2 u3 =>
    if x1 = 0 then
      g_X11_shift_b55 2 z2 u3
    else
      g_X11_shift_b55 0 z2 u3
set_option maxRecDepth 100000 in
set_option maxHeartbeats 4000000 in
theorem e_X11_shift_b31 {r : LWd} (i1 : Int32) (i2 : Int32) (s0 : Int32) (z f : Nat → Nat → Int32) : m_X11_shift_b31 66 i1 i2 s0 (wA z f r) = (g_X11_shift_b31 i1 i2 s0 z f).map (fun q => (q.1, wA q.2.1 q.2.2 r)) := by
  unfold m_X11_shift_b31 g_X11_shift_b31
  refine iteE (fun _ => ?_) (fun _ => ?_)
  · exact e_X11_shift_b55 _  _ _
  · refine caW (e_X11_shifts) (fun _ _ => rfl) (fun x1 z2 u3 => ?_)
    refine iteE (fun _ => ?_) (fun _ => ?_)
    · exact e_X11_shift_b55 _  _ _
    · exact e_X11_shift_b55 _  _ _
def g_X11_shift_b30 (i1 : Int32) (i2 : Int32) (z f : Nat → Nat → Int32) : Option (Int32 × (Nat → Nat → Int32) × (Nat → Nat → Int32)) :=
  g_X11_shift_b31 i1 i2 0 z f
set_option maxRecDepth 100000 in
set_option maxHeartbeats 4000000 in
theorem e_X11_shift_b30 {r : LWd} (i1 : Int32) (i2 : Int32) (z f : Nat → Nat → Int32) : m_X11_shift_b30 66 i1 i2 (wA z f r) = (g_X11_shift_b30 i1 i2 z f).map (fun q => (q.1, wA q.2.1 q.2.2 r)) := by
  unfold m_X11_shift_b30 g_X11_shift_b30
  exact e_X11_shift_b31 _ _ _  _ _
def g_X11_shift_b26 (i1 : Int32) (i2 : Int32) (z f : Nat → Nat → Int32) : Option (Int32 × (Nat → Nat → Int32) × (Nat → Nat → Int32)) :=
  g_X11_shift_b31 i1 i2 1 z f
set_option maxRecDepth 100000 in
set_option maxHeartbeats 4000000 in
theorem e_X11_shift_b26 {r : LWd} (i1 : Int32) (i2 : Int32) (z f : Nat → Nat → Int32) : m_X11_shift_b26 66 i1 i2 (wA z f r) = (g_X11_shift_b26 i1 i2 z f).map (fun q => (q.1, wA q.2.1 q.2.2 r)) := by
  unfold m_X11_shift_b26 g_X11_shift_b26
  exact e_X11_shift_b31 _ _ _  _ _
def g_X11_shift (i1 : Int32) (i2 : Int32) (z f : Nat → Nat → Int32) : Option (Int32 × (Nat → Nat → Int32) × (Nat → Nat → Int32)) :=
  (g_X11_isIn i1 ((-1)) 1 z f).bind fun x1 =>
  if x1 = 0 then
    g_X11_shift_b30 i1 i2 z f
  else
    (g_X11_isIn i2 ((-1)) 1 z f).bind fun x2 =>
    if x2 = 0 then
      g_X11_shift_b30 i1 i2 z f
    else
      if i1 = 0 then
        if i2 = 0 then
          g_X11_shift_b30 i1 i2 z f
        else
          g_X11_shift_b26 i1 i2 z f
      else
        g_X11_shift_b26 i1 i2 z f
set_option maxRecDepth 100000 in
set_option maxHeartbeats 4000000 in
theorem e_X11_shift {r : LWd} {z f : Nat → Nat → Int32} {i1 : Int32} {i2 : Int32} : m_X11_shift 66 i1 i2 (wA z f r) = (g_X11_shift i1 i2 z f).map (fun q => (q.1, wA q.2.1 q.2.2 r)) := by
  unfold m_X11_shift g_X11_shift
  refine opS rcv_66 ?_
  refine caP (e_X11_isIn) (fun x1 => ?_)
  refine iteE (fun _ => ?_) (fun _ => ?_)
  · exact e_X11_shift_b30 _ _  _ _
  · refine caP (e_X11_isIn) (fun x2 => ?_)
    refine iteE (fun _ => ?_) (fun _ => ?_)
    · exact e_X11_shift_b30 _ _  _ _
    · refine iteE (fun _ => ?_) (fun _ => ?_)
      · refine iteE (fun _ => ?_) (fun _ => ?_)
        · exact e_X11_shift_b30 _ _  _ _
        · exact e_X11_shift_b26 _ _  _ _
      · exact e_X11_shift_b26 _ _  _ _
def g_X11_walks_b128 (i1 : Int32) (s0 : Int32) (z f : Nat → Nat → Int32) : Option (Int32 × (Nat → Nat → Int32) × (Nat → Nat → Int32)) :=
  if s0 = 0 then
    some (1, z, f)
  else
    (ixA 40 (i1 + 3)).bind fun j1 =>
    (ixA 40 (i1 + 4)).bind fun j2 =>
    bn3 (g_X11_shifts (f 77 j1) (f 77 j2) z f) fun x3 z4 u5 =>
    if x3 = 0 then
      some (0, z4, u5)
    else
      if (z4 66 22) = 0 then
        some (1, z4, u5)
      else
        some (0, z4, u5)
set_option maxRecDepth 100000 in
set_option maxHeartbeats 4000000 in
theorem e_X11_walks_b128 {r : LWd} (i1 : Int32) (s0 : Int32) (z f : Nat → Nat → Int32) : m_X11_walks_b128 66 i1 s0 (wA z f r) = (g_X11_walks_b128 i1 s0 z f).map (fun q => (q.1, wA q.2.1 q.2.2 r)) := by
  unfold m_X11_walks_b128 g_X11_walks_b128
  refine iteE (fun _ => ?_) (fun _ => ?_)
  · rfl
  · refine opS fR_66_27 ?_
    refine opM aI_77 (fun j1 hj1 => ?_)
    refine opS fR_66_27 ?_
    refine opM aI_77 (fun j2 hj2 => ?_)
    refine caW (e_X11_shifts) (fun _ _ => rfl) (fun x3 z4 u5 => ?_)
    refine iteE (fun _ => ?_) (fun _ => ?_)
    · rfl
    · refine opS fI_66_22 ?_
      refine iteE (fun _ => ?_) (fun _ => ?_)
      · rfl
      · rfl
def g_X11_walks_b123 (i1 : Int32) (z f : Nat → Nat → Int32) : Option (Int32 × (Nat → Nat → Int32) × (Nat → Nat → Int32)) :=
  g_X11_walks_b128 i1 1 z f
set_option maxRecDepth 100000 in
set_option maxHeartbeats 4000000 in
theorem e_X11_walks_b123 {r : LWd} (i1 : Int32) (z f : Nat → Nat → Int32) : m_X11_walks_b123 66 i1 (wA z f r) = (g_X11_walks_b123 i1 z f).map (fun q => (q.1, wA q.2.1 q.2.2 r)) := by
  unfold m_X11_walks_b123 g_X11_walks_b123
  exact e_X11_walks_b128 _ _  _ _
def g_X11_walks (z f : Nat → Nat → Int32) : Option (Int32 × (Nat → Nat → Int32) × (Nat → Nat → Int32)) :=
  (ixA 40 (5 * (z 66 26))).bind fun j1 =>
  (g_X11_isDown (f 77 j1) z f).bind fun x2 =>
  if x2 = 0 then
    some (0, z, f)
  else
    (ixA 6 (f 77 j1)).bind fun j3 =>
    (ixA 40 ((5 * (z 66 26)) + 1)).bind fun j4 =>
    (ixA 6 (f 77 j1)).bind fun j5 =>
    (ixA 40 ((5 * (z 66 26)) + 2)).bind fun j6 =>
    bn3 (g_X11_lifts (f 77 j1) z f) fun x7 z8 u9 =>
    if x7 = 0 then
      some (0, z8, u9)
    else
      if 0 < (z8 66 22) then
        some (0, z8, u9)
      else
        (g_X11_isPoint ((f 74 j3) + (f 77 j4)) ((f 75 j5) + (f 77 j6)) z8 u9).bind fun x10 =>
        if x10 = 0 then
          some (0, z8, u9)
        else
          bn3 (g_X11_places (f 77 j1) ((f 74 j3) + (f 77 j4)) ((f 75 j5) + (f 77 j6)) z8 u9) fun x11 z12 u13 =>
          if x11 = 0 then
            some (0, z12, u13)
          else
            if (z12 66 22) ≤ 0 then
              (ixA 40 ((5 * (z 66 26)) + 3)).bind fun j14 =>
              if (u13 77 j14) = 0 then
                (ixA 40 ((5 * (z 66 26)) + 4)).bind fun j15 =>
                if (u13 77 j15) = 0 then
                  g_X11_walks_b128 (5 * (z 66 26)) 0 z12 u13
                else
                  g_X11_walks_b123 (5 * (z 66 26)) z12 u13
              else
                g_X11_walks_b123 (5 * (z 66 26)) z12 u13
            else
              some (0, z12, u13)
set_option maxRecDepth 100000 in
set_option maxHeartbeats 4000000 in
theorem e_X11_walks {r : LWd} {z f : Nat → Nat → Int32} : m_X11_walks 66 (wA z f r) = (g_X11_walks  z f).map (fun q => (q.1, wA q.2.1 q.2.2 r)) := by
  unfold m_X11_walks g_X11_walks
  refine opS rcv_66 ?_
  refine opS fI_66_26 ?_
  refine opS fR_66_27 ?_
  refine opM aI_77 (fun j1 hj1 => ?_)
  refine caP (e_X11_isDown) (fun x2 => ?_)
  refine iteE (fun _ => ?_) (fun _ => ?_)
  · rfl
  · refine opS fR_66_15 ?_
    refine opM aI_74 (fun j3 hj3 => ?_)
    refine opS fR_66_27 ?_
    refine opM aI_77 (fun j4 hj4 => ?_)
    refine opS fR_66_16 ?_
    refine opM aI_75 (fun j5 hj5 => ?_)
    refine opS fR_66_27 ?_
    refine opM aI_77 (fun j6 hj6 => ?_)
    refine caW (e_X11_lifts) (fun _ _ => rfl) (fun x7 z8 u9 => ?_)
    refine iteE (fun _ => ?_) (fun _ => ?_)
    · rfl
    · refine opS fI_66_22 ?_
      refine iteE (fun _ => ?_) (fun _ => ?_)
      · rfl
      · refine caP (e_X11_isPoint) (fun x10 => ?_)
        refine iteE (fun _ => ?_) (fun _ => ?_)
        · rfl
        · refine caW (e_X11_places) (fun _ _ => rfl) (fun x11 z12 u13 => ?_)
          refine iteE (fun _ => ?_) (fun _ => ?_)
          · rfl
          · refine opS fI_66_22 ?_
            refine iteE (fun _ => ?_) (fun _ => ?_)
            · refine opS fR_66_27 ?_
              refine opM aI_77 (fun j14 hj14 => ?_)
              refine iteE (fun _ => ?_) (fun _ => ?_)
              · refine opS fR_66_27 ?_
                refine opM aI_77 (fun j15 hj15 => ?_)
                refine iteE (fun _ => ?_) (fun _ => ?_)
                · exact e_X11_walks_b128 _ _  _ _
                · exact e_X11_walks_b123 _  _ _
              · exact e_X11_walks_b123 _  _ _
            · rfl
def g_X11_walk_l37 : Nat → Int32 → Int32 → (Nat → Nat → Int32) → (Nat → Nat → Int32) → Option (Int32 × (Nat → Nat → Int32) × (Nat → Nat → Int32))
  | 0, _, _, _, _ => none
  | fu + 1, i1, i2, z, f =>
    if i1 ≤ i2 then
      some (i2, z, f)
    else
      bn3 (g_X11_walks  z f) fun x1 z2 u3 =>
      if x1 = 0 then
        some (i2, z2, u3)
      else
        if z2 66 25 = 0 then none else
        lt2 (up2 z2 66 26 (jrem ((z2 66 26) + 1) (z2 66 25))) fun z4 =>
        g_X11_walk_l37 fu i1 (i2 + 1) z4 u3
set_option maxRecDepth 100000 in
set_option maxHeartbeats 4000000 in
theorem e_X11_walk_l37 {r : LWd} : ∀ (fu : Nat) (i1 : Int32) (i2 : Int32) (z f : Nat → Nat → Int32), m_X11_walk_l37 fu 66 i1 i2 (wA z f r) = (g_X11_walk_l37 fu i1 i2 z f).map (fun q => (q.1, wA q.2.1 q.2.2 r)) := by
  intro fu
  induction fu with
  | zero => intro i1 i2  z f; rfl
  | succ fu ih =>
    intro i1 i2  z f
    rw [m_X11_walk_l37, g_X11_walk_l37]
    refine iteE (fun _ => ?_) (fun _ => ?_)
    · rfl
    · refine caW (e_X11_walks) (fun _ _ => rfl) (fun x1 z2 u3 => ?_)
      refine iteE (fun _ => ?_) (fun _ => ?_)
      · rfl
      · refine opS fI_66_26 ?_
        refine opS fI_66_25 ?_
        refine iteN (fun _ => ?_)
        refine opS pV_66_26 ?_
        refine ltE ?_
        exact ih _ _  _ _
def g_X11_walk_b27 (i1 : Int32) (s1 : Int32) (z f : Nat → Nat → Int32) : Option (Int32 × (Nat → Nat → Int32) × (Nat → Nat → Int32)) :=
  bn3 (g_X11_fails s1 z f) fun x1 z2 u3 =>
  if x1 = 0 then
    g_X11_walk_l37 FU i1 0 z2 u3
  else
    some (0, z2, u3)
set_option maxRecDepth 100000 in
set_option maxHeartbeats 4000000 in
theorem e_X11_walk_b27 {r : LWd} (i1 : Int32) (s1 : Int32) (z f : Nat → Nat → Int32) : m_X11_walk_b27 66 i1 66 s1 (wA z f r) = (g_X11_walk_b27 i1 s1 z f).map (fun q => (q.1, wA q.2.1 q.2.2 r)) := by
  unfold m_X11_walk_b27 g_X11_walk_b27
  refine caW (e_X11_fails) (fun _ _ => rfl) (fun x1 z2 u3 => ?_)
  refine iteE (fun _ => ?_) (fun _ => ?_)
  · exact e_X11_walk_l37 FU _ _  _ _
  · rfl
def g_X11_walk (i1 : Int32) (z f : Nat → Nat → Int32) : Option (Int32 × (Nat → Nat → Int32) × (Nat → Nat → Int32)) :=
  (g_X11_isIn i1 1 20 z f).bind fun x1 =>
  if x1 = 0 then
    g_X11_walk_b27 i1 1 z f
  else
    if (z 66 25) = 0 then
      g_X11_walk_b27 i1 2 z f
    else
      g_X11_walk_b27 i1 0 z f
set_option maxRecDepth 100000 in
set_option maxHeartbeats 4000000 in
theorem e_X11_walk {r : LWd} {z f : Nat → Nat → Int32} {i1 : Int32} : m_X11_walk 66 i1 (wA z f r) = (g_X11_walk i1 z f).map (fun q => (q.1, wA q.2.1 q.2.2 r)) := by
  unfold m_X11_walk g_X11_walk
  refine opS rcv_66 ?_
  refine caP (e_X11_isIn) (fun x1 => ?_)
  refine iteE (fun _ => ?_) (fun _ => ?_)
  · exact e_X11_walk_b27 _ _  _ _
  · refine opS fI_66_25 ?_
    refine iteE (fun _ => ?_) (fun _ => ?_)
    · exact e_X11_walk_b27 _ _  _ _
    · exact e_X11_walk_b27 _ _  _ _
def g_X11_machine_b16 (i1 : Int32) (s1 : Int32) (z f : Nat → Nat → Int32) : Option (Int32 × (Nat → Nat → Int32) × (Nat → Nat → Int32)) :=
  bn3 (g_X11_fails s1 z f) fun x1 z2 u3 =>
  if x1 = 0 then
    if i1 = 0 then
      some (z2 66 5, z2, u3)
    else
      if i1 = 1 then
        some (z2 66 6, z2, u3)
      else
        if i1 = 2 then
          if (z2 66 4) = 0 then
            some (0, z2, u3)
          else
            some (1, z2, u3)
        else
          if i1 = 3 then
            some (z2 66 7, z2, u3)
          else
            if i1 = 4 then
              some (z2 66 8, z2, u3)
            else
              if i1 = 5 then
                (g_X11_level (z2 66 17) z2 u3).bind fun x4 =>
                some (x4, z2, u3)
              else
                if i1 = 6 then
                  (g_X11_pressure (z2 66 17) z2 u3).bind fun x5 =>
                  some (x5, z2, u3)
                else
                  if i1 = 7 then
                    (g_X11_count (z2 66 17) z2 u3).bind fun x6 =>
                    some (x6, z2, u3)
                  else
                    if i1 = 8 then
                      some (z2 66 18, z2, u3)
                    else
                      if i1 = 9 then
                        some (z2 66 23, z2, u3)
                      else
                        if i1 = 10 then
                          some (z2 66 11, z2, u3)
                        else
                          if (z2 66 25) = 0 then
                            some ((-1), z2, u3)
                          else
                            some (z2 66 26, z2, u3)
  else
    some (0, z2, u3)
set_option maxRecDepth 100000 in
set_option maxHeartbeats 4000000 in
theorem e_X11_machine_b16 {r : LWd} (i1 : Int32) (s1 : Int32) (z f : Nat → Nat → Int32) : m_X11_machine_b16 66 i1 66 s1 (wA z f r) = (g_X11_machine_b16 i1 s1 z f).map (fun q => (q.1, wA q.2.1 q.2.2 r)) := by
  unfold m_X11_machine_b16 g_X11_machine_b16
  refine caW (e_X11_fails) (fun _ _ => rfl) (fun x1 z2 u3 => ?_)
  refine iteE (fun _ => ?_) (fun _ => ?_)
  · refine iteE (fun _ => ?_) (fun _ => ?_)
    · refine opS fI_66_5 ?_
      rfl
    · refine iteE (fun _ => ?_) (fun _ => ?_)
      · refine opS fI_66_6 ?_
        rfl
      · refine iteE (fun _ => ?_) (fun _ => ?_)
        · refine opS fI_66_4 ?_
          refine iteE (fun _ => ?_) (fun _ => ?_)
          · rfl
          · rfl
        · refine iteE (fun _ => ?_) (fun _ => ?_)
          · refine opS fI_66_7 ?_
            rfl
          · refine iteE (fun _ => ?_) (fun _ => ?_)
            · refine opS fI_66_8 ?_
              rfl
            · refine iteE (fun _ => ?_) (fun _ => ?_)
              · refine opS fI_66_17 ?_
                refine caP (e_X11_level) (fun x4 => ?_)
                rfl
              · refine iteE (fun _ => ?_) (fun _ => ?_)
                · refine opS fI_66_17 ?_
                  refine caP (e_X11_pressure) (fun x5 => ?_)
                  rfl
                · refine iteE (fun _ => ?_) (fun _ => ?_)
                  · refine opS fI_66_17 ?_
                    refine caP (e_X11_count) (fun x6 => ?_)
                    rfl
                  · refine iteE (fun _ => ?_) (fun _ => ?_)
                    · refine opS fI_66_18 ?_
                      rfl
                    · refine iteE (fun _ => ?_) (fun _ => ?_)
                      · refine opS fI_66_23 ?_
                        rfl
                      · refine iteE (fun _ => ?_) (fun _ => ?_)
                        · refine opS fI_66_11 ?_
                          rfl
                        · refine opS fI_66_25 ?_
                          refine iteE (fun _ => ?_) (fun _ => ?_)
                          · rfl
                          · refine opS fI_66_26 ?_
                            rfl
  · rfl
def g_X11_machine (i1 : Int32) (z f : Nat → Nat → Int32) : Option (Int32 × (Nat → Nat → Int32) × (Nat → Nat → Int32)) :=
  (g_X11_isIn i1 0 11 z f).bind fun x1 =>
  if x1 = 0 then
    g_X11_machine_b16 i1 1 z f
  else
    g_X11_machine_b16 i1 0 z f
set_option maxRecDepth 100000 in
set_option maxHeartbeats 4000000 in
theorem e_X11_machine {r : LWd} {z f : Nat → Nat → Int32} {i1 : Int32} : m_X11_machine 66 i1 (wA z f r) = (g_X11_machine i1 z f).map (fun q => (q.1, wA q.2.1 q.2.2 r)) := by
  unfold m_X11_machine g_X11_machine
  refine opS rcv_66 ?_
  refine caP (e_X11_isIn) (fun x1 => ?_)
  refine iteE (fun _ => ?_) (fun _ => ?_)
  · exact e_X11_machine_b16 _ _  _ _
  · exact e_X11_machine_b16 _ _  _ _
def g_X11_foot_b27 (i1 : Int32) (i2 : Int32) (s1 : Int32) (z f : Nat → Nat → Int32) : Option (Int32 × (Nat → Nat → Int32) × (Nat → Nat → Int32)) :=
  bn3 (g_X11_fails s1 z f) fun x1 z2 u3 =>
  if x1 = 0 then
    if i2 = 0 then
      (g_X11_isDown i1 z2 u3).bind fun x7 =>
      if x7 = 0 then
        some (0, z2, u3)
      else
        some (1, z2, u3)
    else
      (g_X11_isDown i1 z2 u3).bind fun x4 =>
      if x4 = 0 then
        some ((-1), z2, u3)
      else
        if i2 = 1 then
          (ixA 6 i1).bind fun j6 =>
          some (u3 74 j6, z2, u3)
        else
          (ixA 6 i1).bind fun j5 =>
          some (u3 75 j5, z2, u3)
  else
    some (0, z2, u3)
set_option maxRecDepth 100000 in
set_option maxHeartbeats 4000000 in
theorem e_X11_foot_b27 {r : LWd} (i1 : Int32) (i2 : Int32) (s1 : Int32) (z f : Nat → Nat → Int32) : m_X11_foot_b27 66 i1 i2 66 s1 (wA z f r) = (g_X11_foot_b27 i1 i2 s1 z f).map (fun q => (q.1, wA q.2.1 q.2.2 r)) := by
  unfold m_X11_foot_b27 g_X11_foot_b27
  refine caW (e_X11_fails) (fun _ _ => rfl) (fun x1 z2 u3 => ?_)
  refine iteE (fun _ => ?_) (fun _ => ?_)
  · refine iteE (fun _ => ?_) (fun _ => ?_)
    · refine caP (e_X11_isDown) (fun x7 => ?_)
      refine iteE (fun _ => ?_) (fun _ => ?_)
      · rfl
      · rfl
    · refine caP (e_X11_isDown) (fun x4 => ?_)
      refine iteE (fun _ => ?_) (fun _ => ?_)
      · rfl
      · refine iteE (fun _ => ?_) (fun _ => ?_)
        · refine opS fR_66_15 ?_
          refine opM aI_74 (fun j6 hj6 => ?_)
          rfl
        · refine opS fR_66_16 ?_
          refine opM aI_75 (fun j5 hj5 => ?_)
          rfl
  · rfl
def g_X11_foot (i1 : Int32) (i2 : Int32) (z f : Nat → Nat → Int32) : Option (Int32 × (Nat → Nat → Int32) × (Nat → Nat → Int32)) :=
  (g_X11_isLeg i1 z f).bind fun x1 =>
  if x1 = 0 then
    g_X11_foot_b27 i1 i2 1 z f
  else
    (g_X11_isIn i2 0 2 z f).bind fun x2 =>
    if x2 = 0 then
      g_X11_foot_b27 i1 i2 2 z f
    else
      g_X11_foot_b27 i1 i2 0 z f
set_option maxRecDepth 100000 in
set_option maxHeartbeats 4000000 in
theorem e_X11_foot {r : LWd} {z f : Nat → Nat → Int32} {i1 : Int32} {i2 : Int32} : m_X11_foot 66 i1 i2 (wA z f r) = (g_X11_foot i1 i2 z f).map (fun q => (q.1, wA q.2.1 q.2.2 r)) := by
  unfold m_X11_foot g_X11_foot
  refine opS rcv_66 ?_
  refine caP (e_X11_isLeg) (fun x1 => ?_)
  refine iteE (fun _ => ?_) (fun _ => ?_)
  · exact e_X11_foot_b27 _ _ _  _ _
  · refine caP (e_X11_isIn) (fun x2 => ?_)
    refine iteE (fun _ => ?_) (fun _ => ?_)
    · exact e_X11_foot_b27 _ _ _  _ _
    · exact e_X11_foot_b27 _ _ _  _ _
