/-! the methods over the two functions: written by wip/whole/gmake.py -/
def g_X11_point_b23 (i1 : Int32) (i2 : Int32) (i3 : Int32) (s1 : Int32) (z f : Nat → Nat → Int32) : Option (Int32 × (Nat → Nat → Int32) × (Nat → Nat → Int32)) :=
  bn3 (g_X11_fails s1 z f) fun x1 z2 u3 =>
  if x1 = 0 then
    (g_X11_at i1 i2 z2 u3).bind fun x4 =>
    if i3 = 0 then
      (ixA 400 x4).bind fun j8 =>
      some (u3 67 j8, z2, u3)
    else
      if i3 = 1 then
        (ixA 400 x4).bind fun j7 =>
        some (u3 68 j7, z2, u3)
      else
        if i3 = 2 then
          (ixA 400 x4).bind fun j6 =>
          some (u3 69 j6, z2, u3)
        else
          (ixA 400 x4).bind fun j5 =>
          some (u3 70 j5, z2, u3)
  else
    some (0, z2, u3)
set_option maxRecDepth 100000 in
set_option maxHeartbeats 4000000 in
theorem e_X11_point_b23 {r : LWd} (i1 : Int32) (i2 : Int32) (i3 : Int32) (s1 : Int32) (z f : Nat → Nat → Int32) : m_X11_point_b23 66 i1 i2 i3 66 s1 (wA z f r) = (g_X11_point_b23 i1 i2 i3 s1 z f).map (fun q => (q.1, wA q.2.1 q.2.2 r)) := by
  unfold m_X11_point_b23 g_X11_point_b23
  refine caW (e_X11_fails) (fun _ _ => rfl) (fun x1 z2 u3 => ?_)
  refine iteE (fun _ => ?_) (fun _ => ?_)
  · refine caP (e_X11_at) (fun x4 => ?_)
    refine iteE (fun _ => ?_) (fun _ => ?_)
    · refine opS fR_66_0 ?_
      refine opM aI_67 (fun j8 hj8 => ?_)
      rfl
    · refine iteE (fun _ => ?_) (fun _ => ?_)
      · refine opS fR_66_1 ?_
        refine opM aI_68 (fun j7 hj7 => ?_)
        rfl
      · refine iteE (fun _ => ?_) (fun _ => ?_)
        · refine opS fR_66_2 ?_
          refine opM aI_69 (fun j6 hj6 => ?_)
          rfl
        · refine opS fR_66_3 ?_
          refine opM aI_70 (fun j5 hj5 => ?_)
          rfl
  · rfl
def g_X11_point_b22 (i1 : Int32) (i2 : Int32) (i3 : Int32) (z f : Nat → Nat → Int32) : Option (Int32 × (Nat → Nat → Int32) × (Nat → Nat → Int32)) :=
  g_X11_point_b23 i1 i2 i3 1 z f
set_option maxRecDepth 100000 in
set_option maxHeartbeats 4000000 in
theorem e_X11_point_b22 {r : LWd} (i1 : Int32) (i2 : Int32) (i3 : Int32) (z f : Nat → Nat → Int32) : m_X11_point_b22 66 i1 i2 i3 66 (wA z f r) = (g_X11_point_b22 i1 i2 i3 z f).map (fun q => (q.1, wA q.2.1 q.2.2 r)) := by
  unfold m_X11_point_b22 g_X11_point_b22
  exact e_X11_point_b23 _ _ _ _  _ _
def g_X11_point (i1 : Int32) (i2 : Int32) (i3 : Int32) (z f : Nat → Nat → Int32) : Option (Int32 × (Nat → Nat → Int32) × (Nat → Nat → Int32)) :=
  (g_X11_isPoint i1 i2 z f).bind fun x1 =>
  if x1 = 0 then
    g_X11_point_b22 i1 i2 i3 z f
  else
    (g_X11_isIn i3 0 3 z f).bind fun x2 =>
    if x2 = 0 then
      g_X11_point_b22 i1 i2 i3 z f
    else
      g_X11_point_b23 i1 i2 i3 0 z f
set_option maxRecDepth 100000 in
set_option maxHeartbeats 4000000 in
theorem e_X11_point {r : LWd} {z f : Nat → Nat → Int32} {i1 : Int32} {i2 : Int32} {i3 : Int32} : m_X11_point 66 i1 i2 i3 (wA z f r) = (g_X11_point i1 i2 i3 z f).map (fun q => (q.1, wA q.2.1 q.2.2 r)) := by
  unfold m_X11_point g_X11_point
  refine opS rcv_66 ?_
  refine caP (e_X11_isPoint) (fun x1 => ?_)
  refine iteE (fun _ => ?_) (fun _ => ?_)
  · exact e_X11_point_b22 _ _ _  _ _
  · refine caP (e_X11_isIn) (fun x2 => ?_)
    refine iteE (fun _ => ?_) (fun _ => ?_)
    · exact e_X11_point_b22 _ _ _  _ _
    · exact e_X11_point_b23 _ _ _ _  _ _
def g_X11_isStable (z f : Nat → Nat → Int32) : Option (Int32 × (Nat → Nat → Int32) × (Nat → Nat → Int32)) :=
  lt2 (up2 z 66 30 0) fun z1 =>
  bn3 (g_X11_holds (z1 66 17) z1 f) fun x2 z3 u4 =>
  rtZw x2 z3 u4
set_option maxRecDepth 100000 in
set_option maxHeartbeats 4000000 in
theorem e_X11_isStable {r : LWd} {z f : Nat → Nat → Int32} : m_X11_isStable 66 (wA z f r) = (g_X11_isStable  z f).map (fun q => (q.1, wA q.2.1 q.2.2 r)) := by
  unfold m_X11_isStable g_X11_isStable
  refine opS rcv_66 ?_
  refine opS pV_66_30 ?_
  refine ltE ?_
  refine opS fI_66_17 ?_
  refine caW (e_X11_holds) (fun _ _ => rfl) (fun x2 z3 u4 => ?_)
  exact reZw
def g_X11_isStableAnew (z f : Nat → Nat → Int32) : Option (Int32 × (Nat → Nat → Int32) × (Nat → Nat → Int32)) :=
  bn3 (g_X11_isStable  z f) fun x1 z2 u3 =>
  rtZw x1 z2 u3
set_option maxRecDepth 100000 in
set_option maxHeartbeats 4000000 in
theorem e_X11_isStableAnew {r : LWd} {z f : Nat → Nat → Int32} : m_X11_isStableAnew 66 (wA z f r) = (g_X11_isStableAnew  z f).map (fun q => (q.1, wA q.2.1 q.2.2 r)) := by
  unfold m_X11_isStableAnew g_X11_isStableAnew
  refine opS rcv_66 ?_
  refine caW (e_X11_isStable) (fun _ _ => rfl) (fun x1 z2 u3 => ?_)
  exact reZw
def g_X11_margin_b121 (f1 : UInt32) (z f : Nat → Nat → Int32) : Option (Int32 × (Nat → Nat → Int32) × (Nat → Nat → Int32)) :=
  (jfib f1).bind fun x1 =>
  some (x1, z, f)
set_option maxRecDepth 100000 in
set_option maxHeartbeats 4000000 in
theorem e_X11_margin_b121 {r : LWd} (f1 : UInt32) (z f : Nat → Nat → Int32) : m_X11_margin_b121 f1 (wA z f r) = (g_X11_margin_b121 f1 z f).map (fun q => (q.1, wA q.2.1 q.2.2 r)) := by
  unfold m_X11_margin_b121 g_X11_margin_b121
  refine opB rfl (fun x1 => ?_)
  rfl
def g_X11_margin_b114 (k26 : UInt32 → Int32 → (Nat → Nat → Int32) → (Nat → Nat → Int32) → Option (Int32 × (Nat → Nat → Int32) × (Nat → Nat → Int32))) (i2 : Int32) (s0 : UInt32) (z f : Nat → Nat → Int32) : Option (Int32 × (Nat → Nat → Int32) × (Nat → Nat → Int32)) :=
  k26 s0 (i2 + 1) z f
set_option maxRecDepth 100000 in
set_option maxHeartbeats 4000000 in
theorem e_X11_margin_b114 {r : LWd} {k26 : Nat → UInt32 → Int32 → LWd → Option (Int32 × LWd)} {kg26 : UInt32 → Int32 → (Nat → Nat → Int32) → (Nat → Nat → Int32) → Option (Int32 × (Nat → Nat → Int32) × (Nat → Nat → Int32))} (hk26 : ∀ (f1 : UInt32) (i2 : Int32) (z f : Nat → Nat → Int32), k26 66 f1 i2 (wA z f r) = (kg26 f1 i2 z f).map (fun q => (q.1, wA q.2.1 q.2.2 r))) (i2 : Int32) (s0 : UInt32) (z f : Nat → Nat → Int32) : m_X11_margin_b114 k26 66 i2 s0 (wA z f r) = (g_X11_margin_b114 kg26 i2 s0 z f).map (fun q => (q.1, wA q.2.1 q.2.2 r)) := by
  unfold m_X11_margin_b114 g_X11_margin_b114
  exact hk26 _ _  _ _
def g_X11_margin_b108 (k26 : UInt32 → Int32 → (Nat → Nat → Int32) → (Nat → Nat → Int32) → Option (Int32 × (Nat → Nat → Int32) × (Nat → Nat → Int32))) (i2 : Int32) (f7 : UInt32) (z f : Nat → Nat → Int32) : Option (Int32 × (Nat → Nat → Int32) × (Nat → Nat → Int32)) :=
  g_X11_margin_b114 k26 i2 f7 z f
set_option maxRecDepth 100000 in
set_option maxHeartbeats 4000000 in
theorem e_X11_margin_b108 {r : LWd} {k26 : Nat → UInt32 → Int32 → LWd → Option (Int32 × LWd)} {kg26 : UInt32 → Int32 → (Nat → Nat → Int32) → (Nat → Nat → Int32) → Option (Int32 × (Nat → Nat → Int32) × (Nat → Nat → Int32))} (hk26 : ∀ (f1 : UInt32) (i2 : Int32) (z f : Nat → Nat → Int32), k26 66 f1 i2 (wA z f r) = (kg26 f1 i2 z f).map (fun q => (q.1, wA q.2.1 q.2.2 r))) (i2 : Int32) (f7 : UInt32) (z f : Nat → Nat → Int32) : m_X11_margin_b108 k26 66 i2 f7 (wA z f r) = (g_X11_margin_b108 kg26 i2 f7 z f).map (fun q => (q.1, wA q.2.1 q.2.2 r)) := by
  unfold m_X11_margin_b108 g_X11_margin_b108
  exact e_X11_margin_b114 (hk26 := hk26) _ _  _ _
def g_X11_margin_l26 : Nat → UInt32 → Int32 → (Nat → Nat → Int32) → (Nat → Nat → Int32) → Option (Int32 × (Nat → Nat → Int32) × (Nat → Nat → Int32))
  | 0, _, _, _, _ => none
  | fu + 1, f1, i2, z, f =>
    if (z 66 28) ≤ i2 then
      g_X11_margin_b121 f1 z f
    else
      if (z 66 28) ≤ 2 then
        g_X11_margin_b121 f1 z f
      else
        (g_X11_makes i2 z f).bind fun x1 =>
        (ixA 7 i2).bind fun j2 =>
        if z 66 28 = 0 then none else
        (ixA 7 (jrem (i2 + 1) (z 66 28))).bind fun j3 =>
        (g_X11_square (f 78 j2) (f 78 j3) z f).bind fun x4 =>
        (g_X11_weight  z f).bind fun x5 =>
        (g_X11_weight  z f).bind fun x6 =>
        (jnn (FP.fdiv (FP.l2f (x1.toInt64 * x1.toInt64)) (FP.l2f ((x4.toInt64 * x5.toInt64) * x6.toInt64)))).bind fun x7 =>
        if i2 = 0 then
          g_X11_margin_b108 (fun y0 y1 z f => g_X11_margin_l26 fu y0 y1 z f) i2 x7 z f
        else
          if 0 ≤ (Op.cmpValue (FP.fcmp x7 f1) .g) then
            g_X11_margin_b114 (fun y0 y1 z f => g_X11_margin_l26 fu y0 y1 z f) i2 f1 z f
          else
            g_X11_margin_b108 (fun y0 y1 z f => g_X11_margin_l26 fu y0 y1 z f) i2 x7 z f
set_option maxRecDepth 100000 in
set_option maxHeartbeats 4000000 in
theorem e_X11_margin_l26 {r : LWd} : ∀ (fu : Nat) (f1 : UInt32) (i2 : Int32) (z f : Nat → Nat → Int32), m_X11_margin_l26 fu 66 f1 i2 (wA z f r) = (g_X11_margin_l26 fu f1 i2 z f).map (fun q => (q.1, wA q.2.1 q.2.2 r)) := by
  intro fu
  induction fu with
  | zero => intro f1 i2  z f; rfl
  | succ fu ih =>
    intro f1 i2  z f
    rw [m_X11_margin_l26, g_X11_margin_l26]
    refine opS fI_66_28 ?_
    refine iteE (fun _ => ?_) (fun _ => ?_)
    · exact e_X11_margin_b121 _  _ _
    · refine opS fI_66_28 ?_
      refine iteE (fun _ => ?_) (fun _ => ?_)
      · exact e_X11_margin_b121 _  _ _
      · refine caP (e_X11_makes) (fun x1 => ?_)
        refine opS fR_66_29 ?_
        refine opM aI_78 (fun j2 hj2 => ?_)
        refine opS fR_66_29 ?_
        refine opS fI_66_28 ?_
        refine iteN (fun _ => ?_)
        refine opM aI_78 (fun j3 hj3 => ?_)
        refine caP (e_X11_square) (fun x4 => ?_)
        refine caP (e_X11_weight) (fun x5 => ?_)
        refine caP (e_X11_weight) (fun x6 => ?_)
        refine opB rfl (fun x7 => ?_)
        refine iteE (fun _ => ?_) (fun _ => ?_)
        · exact e_X11_margin_b108 (hk26 := ih) _ _  _ _
        · refine iteE (fun _ => ?_) (fun _ => ?_)
          · exact e_X11_margin_b114 (hk26 := ih) _ _  _ _
          · exact e_X11_margin_b108 (hk26 := ih) _ _  _ _
def g_X11_margin (z f : Nat → Nat → Int32) : Option (Int32 × (Nat → Nat → Int32) × (Nat → Nat → Int32)) :=
  lt2 (up2 z 66 30 0) fun z1 =>
  bn3 (g_X11_holds (z1 66 17) z1 f) fun x2 z3 u4 =>
  if x2 = 0 then
    (jfib 3212836864).bind fun x5 =>
    some (x5, z3, u4)
  else
    g_X11_margin_l26 FU FP.fconst0 0 z3 u4
set_option maxRecDepth 100000 in
set_option maxHeartbeats 4000000 in
theorem e_X11_margin {r : LWd} {z f : Nat → Nat → Int32} : m_X11_margin 66 (wA z f r) = (g_X11_margin  z f).map (fun q => (q.1, wA q.2.1 q.2.2 r)) := by
  unfold m_X11_margin g_X11_margin
  refine opS rcv_66 ?_
  refine opS pV_66_30 ?_
  refine ltE ?_
  refine opS fI_66_17 ?_
  refine caW (e_X11_holds) (fun _ _ => rfl) (fun x2 z3 u4 => ?_)
  refine iteE (fun _ => ?_) (fun _ => ?_)
  · refine opB rfl (fun x5 => ?_)
    rfl
  · exact e_X11_margin_l26 FU _ _  _ _
def g_X11_corner_b10 (i1 : Int32) (s1 : Int32) (z f : Nat → Nat → Int32) : Option (Int32 × (Nat → Nat → Int32) × (Nat → Nat → Int32)) :=
  bn3 (g_X11_fails s1 z f) fun x1 z2 u3 =>
  if x1 = 0 then
    bn2 (g_X11_hull (z2 66 17) z2 u3) fun z4 u5 =>
    if (z4 66 28) ≤ i1 then
      some ((-1), z4, u5)
    else
      (ixA 7 i1).bind fun j6 =>
      (ixA 6 (u5 78 j6)).bind fun j7 =>
      (ixA 7 i1).bind fun j8 =>
      (ixA 6 (u5 78 j8)).bind fun j9 =>
      (g_X11_at (u5 74 j7) (u5 75 j9) z4 u5).bind fun x10 =>
      some (x10, z4, u5)
  else
    some (0, z2, u3)
set_option maxRecDepth 100000 in
set_option maxHeartbeats 4000000 in
theorem e_X11_corner_b10 {r : LWd} (i1 : Int32) (s1 : Int32) (z f : Nat → Nat → Int32) : m_X11_corner_b10 66 i1 66 s1 (wA z f r) = (g_X11_corner_b10 i1 s1 z f).map (fun q => (q.1, wA q.2.1 q.2.2 r)) := by
  unfold m_X11_corner_b10 g_X11_corner_b10
  refine caW (e_X11_fails) (fun _ _ => rfl) (fun x1 z2 u3 => ?_)
  refine iteE (fun _ => ?_) (fun _ => ?_)
  · refine opS fI_66_17 ?_
    refine caU (e_X11_hull) (fun _ _ => rfl) (fun z4 u5 => ?_)
    refine opS fI_66_28 ?_
    refine iteE (fun _ => ?_) (fun _ => ?_)
    · rfl
    · refine opS fR_66_15 ?_
      refine opS fR_66_29 ?_
      refine opM aI_78 (fun j6 hj6 => ?_)
      refine opM aI_74 (fun j7 hj7 => ?_)
      refine opS fR_66_16 ?_
      refine opS fR_66_29 ?_
      refine opM aI_78 (fun j8 hj8 => ?_)
      refine opM aI_75 (fun j9 hj9 => ?_)
      refine caP (e_X11_at) (fun x10 => ?_)
      rfl
  · rfl
def g_X11_corner (i1 : Int32) (z f : Nat → Nat → Int32) : Option (Int32 × (Nat → Nat → Int32) × (Nat → Nat → Int32)) :=
  if i1 < 0 then
    g_X11_corner_b10 i1 1 z f
  else
    g_X11_corner_b10 i1 0 z f
set_option maxRecDepth 100000 in
set_option maxHeartbeats 4000000 in
theorem e_X11_corner {r : LWd} {z f : Nat → Nat → Int32} {i1 : Int32} : m_X11_corner 66 i1 (wA z f r) = (g_X11_corner i1 z f).map (fun q => (q.1, wA q.2.1 q.2.2 r)) := by
  unfold m_X11_corner g_X11_corner
  refine opS rcv_66 ?_
  refine iteE (fun _ => ?_) (fun _ => ?_)
  · exact e_X11_corner_b10 _ _  _ _
  · exact e_X11_corner_b10 _ _  _ _
def g_X11_footholdOf_b197 (k26 : Int32 → Int32 → Int32 → Int32 → Int32 → (Nat → Nat → Int32) → (Nat → Nat → Int32) → Option Int32) (i1 : Int32) (i3 : Int32) (i4 : Int32) (i6 : Int32) (s0 : Int32) (z f : Nat → Nat → Int32) : Option Int32 :=
  k26 i1 i3 i4 s0 (i6 + 1) z f
set_option maxRecDepth 100000 in
set_option maxHeartbeats 4000000 in
theorem e_X11_footholdOf_b197 {r : LWd} {z f : Nat → Nat → Int32} {k26 : Nat → Int32 → Int32 → Int32 → Int32 → Int32 → LWd → Option (Int32 × LWd)} {kg26 : Int32 → Int32 → Int32 → Int32 → Int32 → (Nat → Nat → Int32) → (Nat → Nat → Int32) → Option Int32} (hk26 : ∀ (i1 : Int32) (i3 : Int32) (i4 : Int32) (i5 : Int32) (i6 : Int32), k26 66 i1 i3 i4 i5 i6 (wA z f r) = (kg26 i1 i3 i4 i5 i6 z f).map (fun x => (x, wA z f r))) (i1 : Int32) (i3 : Int32) (i4 : Int32) (i6 : Int32) (s0 : Int32) : m_X11_footholdOf_b197 k26 66 i1 i3 i4 i6 s0 (wA z f r) = (g_X11_footholdOf_b197 kg26 i1 i3 i4 i6 s0 z f).map (fun x => (x, wA z f r)) := by
  unfold m_X11_footholdOf_b197 g_X11_footholdOf_b197
  exact hk26 _ _ _ _ _ 
def g_X11_footholdOf_b183 (k26 : Int32 → Int32 → Int32 → Int32 → Int32 → (Nat → Nat → Int32) → (Nat → Nat → Int32) → Option Int32) (i1 : Int32) (i3 : Int32) (i5 : Int32) (i6 : Int32) (i12 : Int32) (i13 : Int32) (s0 : Int32) (z f : Nat → Nat → Int32) : Option Int32 :=
  if i13 = 0 then
    g_X11_footholdOf_b197 k26 i1 i3 s0 i6 i5 z f
  else
    g_X11_footholdOf_b197 k26 i1 i3 s0 i6 i12 z f
set_option maxRecDepth 100000 in
set_option maxHeartbeats 4000000 in
theorem e_X11_footholdOf_b183 {r : LWd} {z f : Nat → Nat → Int32} {k26 : Nat → Int32 → Int32 → Int32 → Int32 → Int32 → LWd → Option (Int32 × LWd)} {kg26 : Int32 → Int32 → Int32 → Int32 → Int32 → (Nat → Nat → Int32) → (Nat → Nat → Int32) → Option Int32} (hk26 : ∀ (i1 : Int32) (i3 : Int32) (i4 : Int32) (i5 : Int32) (i6 : Int32), k26 66 i1 i3 i4 i5 i6 (wA z f r) = (kg26 i1 i3 i4 i5 i6 z f).map (fun x => (x, wA z f r))) (i1 : Int32) (i3 : Int32) (i5 : Int32) (i6 : Int32) (i12 : Int32) (i13 : Int32) (s0 : Int32) : m_X11_footholdOf_b183 k26 66 i1 i3 i5 i6 i12 i13 s0 (wA z f r) = (g_X11_footholdOf_b183 kg26 i1 i3 i5 i6 i12 i13 s0 z f).map (fun x => (x, wA z f r)) := by
  unfold m_X11_footholdOf_b183 g_X11_footholdOf_b183
  refine iteE (fun _ => ?_) (fun _ => ?_)
  · exact e_X11_footholdOf_b197 (hk26 := hk26) _ _ _ _ _ 
  · exact e_X11_footholdOf_b197 (hk26 := hk26) _ _ _ _ _ 
def g_X11_footholdOf_b169 (k26 : Int32 → Int32 → Int32 → Int32 → Int32 → (Nat → Nat → Int32) → (Nat → Nat → Int32) → Option Int32) (i1 : Int32) (i3 : Int32) (i4 : Int32) (i5 : Int32) (i6 : Int32) (i12 : Int32) (s0 : Int32) (z f : Nat → Nat → Int32) : Option Int32 :=
  if s0 = 0 then
    g_X11_footholdOf_b183 k26 i1 i3 i5 i6 i12 s0 i4 z f
  else
    g_X11_footholdOf_b183 k26 i1 i3 i5 i6 i12 s0 i6 z f
set_option maxRecDepth 100000 in
set_option maxHeartbeats 4000000 in
theorem e_X11_footholdOf_b169 {r : LWd} {z f : Nat → Nat → Int32} {k26 : Nat → Int32 → Int32 → Int32 → Int32 → Int32 → LWd → Option (Int32 × LWd)} {kg26 : Int32 → Int32 → Int32 → Int32 → Int32 → (Nat → Nat → Int32) → (Nat → Nat → Int32) → Option Int32} (hk26 : ∀ (i1 : Int32) (i3 : Int32) (i4 : Int32) (i5 : Int32) (i6 : Int32), k26 66 i1 i3 i4 i5 i6 (wA z f r) = (kg26 i1 i3 i4 i5 i6 z f).map (fun x => (x, wA z f r))) (i1 : Int32) (i3 : Int32) (i4 : Int32) (i5 : Int32) (i6 : Int32) (i12 : Int32) (s0 : Int32) : m_X11_footholdOf_b169 k26 66 i1 i3 i4 i5 i6 i12 s0 (wA z f r) = (g_X11_footholdOf_b169 kg26 i1 i3 i4 i5 i6 i12 s0 z f).map (fun x => (x, wA z f r)) := by
  unfold m_X11_footholdOf_b169 g_X11_footholdOf_b169
  refine iteE (fun _ => ?_) (fun _ => ?_)
  · exact e_X11_footholdOf_b183 (hk26 := hk26) _ _ _ _ _ _ _ 
  · exact e_X11_footholdOf_b183 (hk26 := hk26) _ _ _ _ _ _ _ 
def g_X11_footholdOf_b168 (k26 : Int32 → Int32 → Int32 → Int32 → Int32 → (Nat → Nat → Int32) → (Nat → Nat → Int32) → Option Int32) (i1 : Int32) (i3 : Int32) (i4 : Int32) (i5 : Int32) (i6 : Int32) (i12 : Int32) (z f : Nat → Nat → Int32) : Option Int32 :=
  g_X11_footholdOf_b169 k26 i1 i3 i4 i5 i6 i12 0 z f
set_option maxRecDepth 100000 in
set_option maxHeartbeats 4000000 in
theorem e_X11_footholdOf_b168 {r : LWd} {z f : Nat → Nat → Int32} {k26 : Nat → Int32 → Int32 → Int32 → Int32 → Int32 → LWd → Option (Int32 × LWd)} {kg26 : Int32 → Int32 → Int32 → Int32 → Int32 → (Nat → Nat → Int32) → (Nat → Nat → Int32) → Option Int32} (hk26 : ∀ (i1 : Int32) (i3 : Int32) (i4 : Int32) (i5 : Int32) (i6 : Int32), k26 66 i1 i3 i4 i5 i6 (wA z f r) = (kg26 i1 i3 i4 i5 i6 z f).map (fun x => (x, wA z f r))) (i1 : Int32) (i3 : Int32) (i4 : Int32) (i5 : Int32) (i6 : Int32) (i12 : Int32) : m_X11_footholdOf_b168 k26 66 i1 i3 i4 i5 i6 i12 (wA z f r) = (g_X11_footholdOf_b168 kg26 i1 i3 i4 i5 i6 i12 z f).map (fun x => (x, wA z f r)) := by
  unfold m_X11_footholdOf_b168 g_X11_footholdOf_b168
  exact e_X11_footholdOf_b169 (hk26 := hk26) _ _ _ _ _ _ _ 
def g_X11_footholdOf_b164 (k26 : Int32 → Int32 → Int32 → Int32 → Int32 → (Nat → Nat → Int32) → (Nat → Nat → Int32) → Option Int32) (i1 : Int32) (i3 : Int32) (i4 : Int32) (i5 : Int32) (i6 : Int32) (i12 : Int32) (z f : Nat → Nat → Int32) : Option Int32 :=
  g_X11_footholdOf_b169 k26 i1 i3 i4 i5 i6 i12 1 z f
set_option maxRecDepth 100000 in
set_option maxHeartbeats 4000000 in
theorem e_X11_footholdOf_b164 {r : LWd} {z f : Nat → Nat → Int32} {k26 : Nat → Int32 → Int32 → Int32 → Int32 → Int32 → LWd → Option (Int32 × LWd)} {kg26 : Int32 → Int32 → Int32 → Int32 → Int32 → (Nat → Nat → Int32) → (Nat → Nat → Int32) → Option Int32} (hk26 : ∀ (i1 : Int32) (i3 : Int32) (i4 : Int32) (i5 : Int32) (i6 : Int32), k26 66 i1 i3 i4 i5 i6 (wA z f r) = (kg26 i1 i3 i4 i5 i6 z f).map (fun x => (x, wA z f r))) (i1 : Int32) (i3 : Int32) (i4 : Int32) (i5 : Int32) (i6 : Int32) (i12 : Int32) : m_X11_footholdOf_b164 k26 66 i1 i3 i4 i5 i6 i12 (wA z f r) = (g_X11_footholdOf_b164 kg26 i1 i3 i4 i5 i6 i12 z f).map (fun x => (x, wA z f r)) := by
  unfold m_X11_footholdOf_b164 g_X11_footholdOf_b164
  exact e_X11_footholdOf_b169 (hk26 := hk26) _ _ _ _ _ _ _ 
def g_X11_footholdOf_b127 (k26 : Int32 → Int32 → Int32 → Int32 → Int32 → (Nat → Nat → Int32) → (Nat → Nat → Int32) → Option Int32) (i1 : Int32) (i3 : Int32) (i4 : Int32) (i5 : Int32) (i6 : Int32) (i7 : Int32) (i8 : Int32) (i9 : Int32) (s0 : Int32) (z f : Nat → Nat → Int32) : Option Int32 :=
  (g_X11_far i1 i7 i8 z f).bind fun x1 =>
  if s0 = 0 then
    g_X11_footholdOf_b168 k26 i1 i3 i4 i5 i6 ((10 * i9) + x1) z f
  else
    if i4 = ((-1)) then
      g_X11_footholdOf_b164 k26 i1 i3 i4 i5 i6 ((10 * i9) + x1) z f
    else
      if i5 ≤ ((10 * i9) + x1) then
        g_X11_footholdOf_b168 k26 i1 i3 i4 i5 i6 ((10 * i9) + x1) z f
      else
        g_X11_footholdOf_b164 k26 i1 i3 i4 i5 i6 ((10 * i9) + x1) z f
set_option maxRecDepth 100000 in
set_option maxHeartbeats 4000000 in
theorem e_X11_footholdOf_b127 {r : LWd} {z f : Nat → Nat → Int32} {k26 : Nat → Int32 → Int32 → Int32 → Int32 → Int32 → LWd → Option (Int32 × LWd)} {kg26 : Int32 → Int32 → Int32 → Int32 → Int32 → (Nat → Nat → Int32) → (Nat → Nat → Int32) → Option Int32} (hk26 : ∀ (i1 : Int32) (i3 : Int32) (i4 : Int32) (i5 : Int32) (i6 : Int32), k26 66 i1 i3 i4 i5 i6 (wA z f r) = (kg26 i1 i3 i4 i5 i6 z f).map (fun x => (x, wA z f r))) (i1 : Int32) (i3 : Int32) (i4 : Int32) (i5 : Int32) (i6 : Int32) (i7 : Int32) (i8 : Int32) (i9 : Int32) (s0 : Int32) : m_X11_footholdOf_b127 k26 66 i1 i3 i4 i5 i6 i7 i8 i9 s0 (wA z f r) = (g_X11_footholdOf_b127 kg26 i1 i3 i4 i5 i6 i7 i8 i9 s0 z f).map (fun x => (x, wA z f r)) := by
  unfold m_X11_footholdOf_b127 g_X11_footholdOf_b127
  refine caP (e_X11_far) (fun x1 => ?_)
  refine iteE (fun _ => ?_) (fun _ => ?_)
  · exact e_X11_footholdOf_b168 (hk26 := hk26) _ _ _ _ _ _ 
  · refine iteE (fun _ => ?_) (fun _ => ?_)
    · exact e_X11_footholdOf_b164 (hk26 := hk26) _ _ _ _ _ _ 
    · refine iteE (fun _ => ?_) (fun _ => ?_)
      · exact e_X11_footholdOf_b168 (hk26 := hk26) _ _ _ _ _ _ 
      · exact e_X11_footholdOf_b164 (hk26 := hk26) _ _ _ _ _ _ 
def g_X11_footholdOf_b126 (k26 : Int32 → Int32 → Int32 → Int32 → Int32 → (Nat → Nat → Int32) → (Nat → Nat → Int32) → Option Int32) (i1 : Int32) (i3 : Int32) (i4 : Int32) (i5 : Int32) (i6 : Int32) (i7 : Int32) (i8 : Int32) (i9 : Int32) (z f : Nat → Nat → Int32) : Option Int32 :=
  g_X11_footholdOf_b127 k26 i1 i3 i4 i5 i6 i7 i8 i9 0 z f
set_option maxRecDepth 100000 in
set_option maxHeartbeats 4000000 in
theorem e_X11_footholdOf_b126 {r : LWd} {z f : Nat → Nat → Int32} {k26 : Nat → Int32 → Int32 → Int32 → Int32 → Int32 → LWd → Option (Int32 × LWd)} {kg26 : Int32 → Int32 → Int32 → Int32 → Int32 → (Nat → Nat → Int32) → (Nat → Nat → Int32) → Option Int32} (hk26 : ∀ (i1 : Int32) (i3 : Int32) (i4 : Int32) (i5 : Int32) (i6 : Int32), k26 66 i1 i3 i4 i5 i6 (wA z f r) = (kg26 i1 i3 i4 i5 i6 z f).map (fun x => (x, wA z f r))) (i1 : Int32) (i3 : Int32) (i4 : Int32) (i5 : Int32) (i6 : Int32) (i7 : Int32) (i8 : Int32) (i9 : Int32) : m_X11_footholdOf_b126 k26 66 i1 i3 i4 i5 i6 i7 i8 i9 (wA z f r) = (g_X11_footholdOf_b126 kg26 i1 i3 i4 i5 i6 i7 i8 i9 z f).map (fun x => (x, wA z f r)) := by
  unfold m_X11_footholdOf_b126 g_X11_footholdOf_b126
  exact e_X11_footholdOf_b127 (hk26 := hk26) _ _ _ _ _ _ _ _ _ 
def g_X11_footholdOf_b122 (k26 : Int32 → Int32 → Int32 → Int32 → Int32 → (Nat → Nat → Int32) → (Nat → Nat → Int32) → Option Int32) (i1 : Int32) (i3 : Int32) (i4 : Int32) (i5 : Int32) (i6 : Int32) (i7 : Int32) (i8 : Int32) (i9 : Int32) (z f : Nat → Nat → Int32) : Option Int32 :=
  g_X11_footholdOf_b127 k26 i1 i3 i4 i5 i6 i7 i8 i9 1 z f
set_option maxRecDepth 100000 in
set_option maxHeartbeats 4000000 in
theorem e_X11_footholdOf_b122 {r : LWd} {z f : Nat → Nat → Int32} {k26 : Nat → Int32 → Int32 → Int32 → Int32 → Int32 → LWd → Option (Int32 × LWd)} {kg26 : Int32 → Int32 → Int32 → Int32 → Int32 → (Nat → Nat → Int32) → (Nat → Nat → Int32) → Option Int32} (hk26 : ∀ (i1 : Int32) (i3 : Int32) (i4 : Int32) (i5 : Int32) (i6 : Int32), k26 66 i1 i3 i4 i5 i6 (wA z f r) = (kg26 i1 i3 i4 i5 i6 z f).map (fun x => (x, wA z f r))) (i1 : Int32) (i3 : Int32) (i4 : Int32) (i5 : Int32) (i6 : Int32) (i7 : Int32) (i8 : Int32) (i9 : Int32) : m_X11_footholdOf_b122 k26 66 i1 i3 i4 i5 i6 i7 i8 i9 (wA z f r) = (g_X11_footholdOf_b122 kg26 i1 i3 i4 i5 i6 i7 i8 i9 z f).map (fun x => (x, wA z f r)) := by
  unfold m_X11_footholdOf_b122 g_X11_footholdOf_b122
  exact e_X11_footholdOf_b127 (hk26 := hk26) _ _ _ _ _ _ _ _ _ 
def g_X11_footholdOf_b80 (k26 : Int32 → Int32 → Int32 → Int32 → Int32 → (Nat → Nat → Int32) → (Nat → Nat → Int32) → Option Int32) (i1 : Int32) (i3 : Int32) (i4 : Int32) (i5 : Int32) (i6 : Int32) (i7 : Int32) (i8 : Int32) (s0 : Int32) (z f : Nat → Nat → Int32) : Option Int32 :=
  (g_X11_footAt i7 i8 z f).bind fun x1 =>
  if 2 < s0 then
    g_X11_footholdOf_b126 k26 i1 i3 i4 i5 i6 i7 i8 s0 z f
  else
    (g_X11_isInReach i1 i7 i8 z f).bind fun x2 =>
    if x2 = 0 then
      g_X11_footholdOf_b126 k26 i1 i3 i4 i5 i6 i7 i8 s0 z f
    else
      if x1 = ((-1)) then
        g_X11_footholdOf_b122 k26 i1 i3 i4 i5 i6 i7 i8 s0 z f
      else
        if x1 = i1 then
          g_X11_footholdOf_b122 k26 i1 i3 i4 i5 i6 i7 i8 s0 z f
        else
          g_X11_footholdOf_b126 k26 i1 i3 i4 i5 i6 i7 i8 s0 z f
set_option maxRecDepth 100000 in
set_option maxHeartbeats 4000000 in
theorem e_X11_footholdOf_b80 {r : LWd} {z f : Nat → Nat → Int32} {k26 : Nat → Int32 → Int32 → Int32 → Int32 → Int32 → LWd → Option (Int32 × LWd)} {kg26 : Int32 → Int32 → Int32 → Int32 → Int32 → (Nat → Nat → Int32) → (Nat → Nat → Int32) → Option Int32} (hk26 : ∀ (i1 : Int32) (i3 : Int32) (i4 : Int32) (i5 : Int32) (i6 : Int32), k26 66 i1 i3 i4 i5 i6 (wA z f r) = (kg26 i1 i3 i4 i5 i6 z f).map (fun x => (x, wA z f r))) (i1 : Int32) (i3 : Int32) (i4 : Int32) (i5 : Int32) (i6 : Int32) (i7 : Int32) (i8 : Int32) (s0 : Int32) : m_X11_footholdOf_b80 k26 66 i1 i3 i4 i5 i6 i7 i8 s0 (wA z f r) = (g_X11_footholdOf_b80 kg26 i1 i3 i4 i5 i6 i7 i8 s0 z f).map (fun x => (x, wA z f r)) := by
  unfold m_X11_footholdOf_b80 g_X11_footholdOf_b80
  refine caP (e_X11_footAt) (fun x1 => ?_)
  refine iteE (fun _ => ?_) (fun _ => ?_)
  · exact e_X11_footholdOf_b126 (hk26 := hk26) _ _ _ _ _ _ _ _ 
  · refine caP (e_X11_isInReach) (fun x2 => ?_)
    refine iteE (fun _ => ?_) (fun _ => ?_)
    · exact e_X11_footholdOf_b126 (hk26 := hk26) _ _ _ _ _ _ _ _ 
    · refine iteE (fun _ => ?_) (fun _ => ?_)
      · exact e_X11_footholdOf_b122 (hk26 := hk26) _ _ _ _ _ _ _ _ 
      · refine iteE (fun _ => ?_) (fun _ => ?_)
        · exact e_X11_footholdOf_b122 (hk26 := hk26) _ _ _ _ _ _ _ _ 
        · exact e_X11_footholdOf_b126 (hk26 := hk26) _ _ _ _ _ _ _ _ 
def g_X11_footholdOf_l26 : Nat → Int32 → Int32 → Int32 → Int32 → Int32 → (Nat → Nat → Int32) → (Nat → Nat → Int32) → Option Int32
  | 0, _, _, _, _, _, _, _ => none
  | fu + 1, i1, i3, i4, i5, i6, z, f =>
    if 400 ≤ i6 then
      some (i4)
    else
      (ixA 400 i6).bind fun j1 =>
      if (f 70 j1) ≤ i3 then
        (ixA 400 i6).bind fun j2 =>
        g_X11_footholdOf_b80 (fun y0 y1 y2 y3 y4 z f => g_X11_footholdOf_l26 fu y0 y1 y2 y3 y4 z f) i1 i3 i4 i5 i6 (jrem i6 20) (i6 / 20) (i3 - (f 70 j2)) z f
      else
        (ixA 400 i6).bind fun j3 =>
        g_X11_footholdOf_b80 (fun y0 y1 y2 y3 y4 z f => g_X11_footholdOf_l26 fu y0 y1 y2 y3 y4 z f) i1 i3 i4 i5 i6 (jrem i6 20) (i6 / 20) ((f 70 j3) - i3) z f
set_option maxRecDepth 100000 in
set_option maxHeartbeats 4000000 in
theorem e_X11_footholdOf_l26 {r : LWd} {z f : Nat → Nat → Int32} : ∀ (fu : Nat) (i1 : Int32) (i3 : Int32) (i4 : Int32) (i5 : Int32) (i6 : Int32), m_X11_footholdOf_l26 fu 66 i1 i3 i4 i5 i6 (wA z f r) = (g_X11_footholdOf_l26 fu i1 i3 i4 i5 i6 z f).map (fun x => (x, wA z f r)) := by
  intro fu
  induction fu with
  | zero => intro i1 i3 i4 i5 i6 ; rfl
  | succ fu ih =>
    intro i1 i3 i4 i5 i6 
    rw [m_X11_footholdOf_l26, g_X11_footholdOf_l26]
    refine iteE (fun _ => ?_) (fun _ => ?_)
    · rfl
    · refine opS fR_66_3 ?_
      refine opM aI_70 (fun j1 hj1 => ?_)
      refine iteE (fun _ => ?_) (fun _ => ?_)
      · refine opS fR_66_3 ?_
        refine opM aI_70 (fun j2 hj2 => ?_)
        exact e_X11_footholdOf_b80 (hk26 := ih) _ _ _ _ _ _ _ _ 
      · refine opS fR_66_3 ?_
        refine opM aI_70 (fun j3 hj3 => ?_)
        exact e_X11_footholdOf_b80 (hk26 := ih) _ _ _ _ _ _ _ _ 
def g_X11_footholdOf (i1 : Int32) (z f : Nat → Nat → Int32) : Option Int32 :=
  (g_X11_level ((z 66 17) &&& ((1 <<< (i1 &&& 31)) ^^^ ((-1)))) z f).bind fun x1 =>
  g_X11_footholdOf_l26 FU i1 x1 ((-1)) 0 0 z f
set_option maxRecDepth 100000 in
set_option maxHeartbeats 4000000 in
theorem e_X11_footholdOf {r : LWd} {z f : Nat → Nat → Int32} {i1 : Int32} : m_X11_footholdOf 66 i1 (wA z f r) = (g_X11_footholdOf i1 z f).map (fun x => (x, wA z f r)) := by
  unfold m_X11_footholdOf g_X11_footholdOf
  refine opS rcv_66 ?_
  refine opS fI_66_17 ?_
  refine caP (e_X11_level) (fun x1 => ?_)
  exact e_X11_footholdOf_l26 FU _ _ _ _ _ 
def g_X11_foothold_b14 (i1 : Int32) (s1 : Int32) (z f : Nat → Nat → Int32) : Option (Int32 × (Nat → Nat → Int32) × (Nat → Nat → Int32)) :=
  bn3 (g_X11_fails s1 z f) fun x1 z2 u3 =>
  if x1 = 0 then
    (g_X11_footholdOf i1 z2 u3).bind fun x4 =>
    some (x4, z2, u3)
  else
    some (0, z2, u3)
set_option maxRecDepth 100000 in
set_option maxHeartbeats 4000000 in
theorem e_X11_foothold_b14 {r : LWd} (i1 : Int32) (s1 : Int32) (z f : Nat → Nat → Int32) : m_X11_foothold_b14 66 i1 66 s1 (wA z f r) = (g_X11_foothold_b14 i1 s1 z f).map (fun q => (q.1, wA q.2.1 q.2.2 r)) := by
  unfold m_X11_foothold_b14 g_X11_foothold_b14
  refine caW (e_X11_fails) (fun _ _ => rfl) (fun x1 z2 u3 => ?_)
  refine iteE (fun _ => ?_) (fun _ => ?_)
  · refine caP (e_X11_footholdOf) (fun x4 => ?_)
    rfl
  · rfl
def g_X11_foothold (i1 : Int32) (z f : Nat → Nat → Int32) : Option (Int32 × (Nat → Nat → Int32) × (Nat → Nat → Int32)) :=
  (g_X11_isLeg i1 z f).bind fun x1 =>
  if x1 = 0 then
    g_X11_foothold_b14 i1 1 z f
  else
    g_X11_foothold_b14 i1 0 z f
set_option maxRecDepth 100000 in
set_option maxHeartbeats 4000000 in
theorem e_X11_foothold {r : LWd} {z f : Nat → Nat → Int32} {i1 : Int32} : m_X11_foothold 66 i1 (wA z f r) = (g_X11_foothold i1 z f).map (fun q => (q.1, wA q.2.1 q.2.2 r)) := by
  unfold m_X11_foothold g_X11_foothold
  refine opS rcv_66 ?_
  refine caP (e_X11_isLeg) (fun x1 => ?_)
  refine iteE (fun _ => ?_) (fun _ => ?_)
  · exact e_X11_foothold_b14 _ _  _ _
  · exact e_X11_foothold_b14 _ _  _ _
def g_X11_wouldLift_l75 : Nat → Int32 → Int32 → Int32 → (Nat → Nat → Int32) → (Nat → Nat → Int32) → Option (Int32 × (Nat → Nat → Int32) × (Nat → Nat → Int32))
  | 0, _, _, _, _, _ => none
  | fu + 1, i2, i3, i4, z, f =>
    if i4 = 0 then
      bn3 (g_X11_holds i2 z f) fun x1 z2 u3 =>
      if x1 = 0 then
        some (2, z2, u3)
      else
        if i3 = 0 then
          some (0, z2, u3)
        else
          some (1, z2, u3)
    else
      (g_X11_sinking (i2 &&& (i4 ^^^ ((-1)))) z f).bind fun x4 =>
      g_X11_wouldLift_l75 fu (i2 &&& (i4 ^^^ ((-1)))) 1 x4 z f
set_option maxRecDepth 100000 in
set_option maxHeartbeats 4000000 in
theorem e_X11_wouldLift_l75 {r : LWd} : ∀ (fu : Nat) (i2 : Int32) (i3 : Int32) (i4 : Int32) (z f : Nat → Nat → Int32), m_X11_wouldLift_l75 fu 66 i2 i3 i4 (wA z f r) = (g_X11_wouldLift_l75 fu i2 i3 i4 z f).map (fun q => (q.1, wA q.2.1 q.2.2 r)) := by
  intro fu
  induction fu with
  | zero => intro i2 i3 i4  z f; rfl
  | succ fu ih =>
    intro i2 i3 i4  z f
    rw [m_X11_wouldLift_l75, g_X11_wouldLift_l75]
    refine iteE (fun _ => ?_) (fun _ => ?_)
    · refine caW (e_X11_holds) (fun _ _ => rfl) (fun x1 z2 u3 => ?_)
      refine iteE (fun _ => ?_) (fun _ => ?_)
      · rfl
      · refine iteE (fun _ => ?_) (fun _ => ?_)
        · rfl
        · rfl
    · refine caP (e_X11_sinking) (fun x4 => ?_)
      exact ih _ _ _  _ _
def g_X11_wouldLift_b14 (i1 : Int32) (s1 : Int32) (z f : Nat → Nat → Int32) : Option (Int32 × (Nat → Nat → Int32) × (Nat → Nat → Int32)) :=
  bn3 (g_X11_fails s1 z f) fun x1 z2 u3 =>
  if x1 = 0 then
    if (z2 66 4) = 0 then
      some ((-1), z2, u3)
    else
      if (z2 66 7) < 1 then
        some ((-1), z2, u3)
      else
        (g_X11_isDown i1 z2 u3).bind fun x4 =>
        if x4 = 0 then
          some ((-1), z2, u3)
        else
          bn3 (g_X11_holds ((z2 66 17) &&& ((1 <<< (i1 &&& 31)) ^^^ ((-1)))) z2 u3) fun x5 z6 u7 =>
          if x5 = 0 then
            some ((-1), z6, u7)
          else
            (g_X11_sinking ((z2 66 17) &&& ((1 <<< (i1 &&& 31)) ^^^ ((-1)))) z6 u7).bind fun x8 =>
            g_X11_wouldLift_l75 FU ((z2 66 17) &&& ((1 <<< (i1 &&& 31)) ^^^ ((-1)))) 0 x8 z6 u7
  else
    some (0, z2, u3)
set_option maxRecDepth 100000 in
set_option maxHeartbeats 4000000 in
theorem e_X11_wouldLift_b14 {r : LWd} (i1 : Int32) (s1 : Int32) (z f : Nat → Nat → Int32) : m_X11_wouldLift_b14 66 i1 66 s1 (wA z f r) = (g_X11_wouldLift_b14 i1 s1 z f).map (fun q => (q.1, wA q.2.1 q.2.2 r)) := by
  unfold m_X11_wouldLift_b14 g_X11_wouldLift_b14
  refine caW (e_X11_fails) (fun _ _ => rfl) (fun x1 z2 u3 => ?_)
  refine iteE (fun _ => ?_) (fun _ => ?_)
  · refine opS fI_66_17 ?_
    refine opS fI_66_4 ?_
    refine iteE (fun _ => ?_) (fun _ => ?_)
    · rfl
    · refine opS fI_66_7 ?_
      refine iteE (fun _ => ?_) (fun _ => ?_)
      · rfl
      · refine caP (e_X11_isDown) (fun x4 => ?_)
        refine iteE (fun _ => ?_) (fun _ => ?_)
        · rfl
        · refine caW (e_X11_holds) (fun _ _ => rfl) (fun x5 z6 u7 => ?_)
          refine iteE (fun _ => ?_) (fun _ => ?_)
          · rfl
          · refine caP (e_X11_sinking) (fun x8 => ?_)
            exact e_X11_wouldLift_l75 FU _ _ _  _ _
  · rfl
def g_X11_wouldLift (i1 : Int32) (z f : Nat → Nat → Int32) : Option (Int32 × (Nat → Nat → Int32) × (Nat → Nat → Int32)) :=
  (g_X11_isLeg i1 z f).bind fun x1 =>
  if x1 = 0 then
    g_X11_wouldLift_b14 i1 1 z f
  else
    g_X11_wouldLift_b14 i1 0 z f
set_option maxRecDepth 100000 in
set_option maxHeartbeats 4000000 in
theorem e_X11_wouldLift {r : LWd} {z f : Nat → Nat → Int32} {i1 : Int32} : m_X11_wouldLift 66 i1 (wA z f r) = (g_X11_wouldLift i1 z f).map (fun q => (q.1, wA q.2.1 q.2.2 r)) := by
  unfold m_X11_wouldLift g_X11_wouldLift
  refine opS rcv_66 ?_
  refine caP (e_X11_isLeg) (fun x1 => ?_)
  refine iteE (fun _ => ?_) (fun _ => ?_)
  · exact e_X11_wouldLift_b14 _ _  _ _
  · exact e_X11_wouldLift_b14 _ _  _ _
def g_X11_tries_b88 (i1 : Int32) (z f : Nat → Nat → Int32) : Option (Int32 × (Nat → Nat → Int32) × (Nat → Nat → Int32)) :=
  (g_X11_footholdOf i1 z f).bind fun x1 =>
  if x1 = ((-1)) then
    some (0, z, f)
  else
    bn2 (g_X11_comesDown i1 (jrem x1 20) (x1 / 20) z f) fun z2 u3 =>
    some (1, z2, u3)
set_option maxRecDepth 100000 in
set_option maxHeartbeats 4000000 in
theorem e_X11_tries_b88 {r : LWd} (i1 : Int32) (z f : Nat → Nat → Int32) : m_X11_tries_b88 66 i1 (wA z f r) = (g_X11_tries_b88 i1 z f).map (fun q => (q.1, wA q.2.1 q.2.2 r)) := by
  unfold m_X11_tries_b88 g_X11_tries_b88
  refine caP (e_X11_footholdOf) (fun x1 => ?_)
  refine iteE (fun _ => ?_) (fun _ => ?_)
  · rfl
  · refine caU (e_X11_comesDown) (fun _ _ => rfl) (fun z2 u3 => ?_)
    rfl
def g_X11_tries_b49 (s1 : Int32) (s2 : Int32) (z f : Nat → Nat → Int32) : Option (Int32 × (Nat → Nat → Int32) × (Nat → Nat → Int32)) :=
  bn3 (g_X11_moves s1 s2 z f) fun x1 z2 u3 =>
  rtZw x1 z2 u3
set_option maxRecDepth 100000 in
set_option maxHeartbeats 4000000 in
theorem e_X11_tries_b49 {r : LWd} (s1 : Int32) (s2 : Int32) (z f : Nat → Nat → Int32) : m_X11_tries_b49 66 s1 s2 (wA z f r) = (g_X11_tries_b49 s1 s2 z f).map (fun q => (q.1, wA q.2.1 q.2.2 r)) := by
  unfold m_X11_tries_b49 g_X11_tries_b49
  refine caW (e_X11_moves) (fun _ _ => rfl) (fun x1 z2 u3 => ?_)
  exact reZw
def g_X11_tries_b30 (i2 : Int32) (s1 : Int32) (z f : Nat → Nat → Int32) : Option (Int32 × (Nat → Nat → Int32) × (Nat → Nat → Int32)) :=
  if i2 = 2 then
    g_X11_tries_b49 s1 ((-1)) z f
  else
    if i2 = 3 then
      g_X11_tries_b49 s1 1 z f
    else
      g_X11_tries_b49 s1 0 z f
set_option maxRecDepth 100000 in
set_option maxHeartbeats 4000000 in
theorem e_X11_tries_b30 {r : LWd} (i2 : Int32) (s1 : Int32) (z f : Nat → Nat → Int32) : m_X11_tries_b30 i2 66 s1 (wA z f r) = (g_X11_tries_b30 i2 s1 z f).map (fun q => (q.1, wA q.2.1 q.2.2 r)) := by
  unfold m_X11_tries_b30 g_X11_tries_b30
  refine iteE (fun _ => ?_) (fun _ => ?_)
  · exact e_X11_tries_b49 _ _  _ _
  · refine iteE (fun _ => ?_) (fun _ => ?_)
    · exact e_X11_tries_b49 _ _  _ _
    · exact e_X11_tries_b49 _ _  _ _
def g_X11_tries (i1 : Int32) (z f : Nat → Nat → Int32) : Option (Int32 × (Nat → Nat → Int32) × (Nat → Nat → Int32)) :=
  if i1 < 6 then
    if (z 66 11) ≤ i1 then
      some (0, z, f)
    else
      (g_X11_isDown i1 z f).bind fun x1 =>
      if x1 = 0 then
        g_X11_tries_b88 i1 z f
      else
        bn3 (g_X11_holds ((z 66 17) &&& ((1 <<< (i1 &&& 31)) ^^^ ((-1)))) z f) fun x2 z3 u4 =>
        if x2 = 0 then
          some (0, z3, u4)
        else
          g_X11_tries_b88 i1 z3 u4
  else
    if (i1 - 6) = 0 then
      g_X11_tries_b30 (i1 - 6) ((-1)) z f
    else
      if (i1 - 6) = 1 then
        g_X11_tries_b30 (i1 - 6) 1 z f
      else
        g_X11_tries_b30 (i1 - 6) 0 z f
set_option maxRecDepth 100000 in
set_option maxHeartbeats 4000000 in
theorem e_X11_tries {r : LWd} {z f : Nat → Nat → Int32} {i1 : Int32} : m_X11_tries 66 i1 (wA z f r) = (g_X11_tries i1 z f).map (fun q => (q.1, wA q.2.1 q.2.2 r)) := by
  unfold m_X11_tries g_X11_tries
  refine opS rcv_66 ?_
  refine iteE (fun _ => ?_) (fun _ => ?_)
  · refine opS fI_66_11 ?_
    refine iteE (fun _ => ?_) (fun _ => ?_)
    · rfl
    · refine caP (e_X11_isDown) (fun x1 => ?_)
      refine iteE (fun _ => ?_) (fun _ => ?_)
      · exact e_X11_tries_b88 _  _ _
      · refine opS fI_66_17 ?_
        refine caW (e_X11_holds) (fun _ _ => rfl) (fun x2 z3 u4 => ?_)
        refine iteE (fun _ => ?_) (fun _ => ?_)
        · rfl
        · exact e_X11_tries_b88 _  _ _
  · refine iteE (fun _ => ?_) (fun _ => ?_)
    · exact e_X11_tries_b30 _ _  _ _
    · refine iteE (fun _ => ?_) (fun _ => ?_)
      · exact e_X11_tries_b30 _ _  _ _
      · exact e_X11_tries_b30 _ _  _ _
def g_X11_fall_b49 (i1 : Int32) (i2 : Int32) (s1 : Int32) (z f : Nat → Nat → Int32) : Option (Int32 × (Nat → Nat → Int32) × (Nat → Nat → Int32)) :=
  bn3 (g_X11_fails s1 z f) fun x1 z2 u3 =>
  if x1 = 0 then
    (ixA 160 ((4 * i1) + i2)).bind fun j4 =>
    some (u3 76 j4, z2, u3)
  else
    some (0, z2, u3)
set_option maxRecDepth 100000 in
set_option maxHeartbeats 4000000 in
theorem e_X11_fall_b49 {r : LWd} (i1 : Int32) (i2 : Int32) (s1 : Int32) (z f : Nat → Nat → Int32) : m_X11_fall_b49 66 i1 i2 66 s1 (wA z f r) = (g_X11_fall_b49 i1 i2 s1 z f).map (fun q => (q.1, wA q.2.1 q.2.2 r)) := by
  unfold m_X11_fall_b49 g_X11_fall_b49
  refine caW (e_X11_fails) (fun _ _ => rfl) (fun x1 z2 u3 => ?_)
  refine iteE (fun _ => ?_) (fun _ => ?_)
  · refine opS fR_66_24 ?_
    refine opM aI_76 (fun j4 hj4 => ?_)
    rfl
  · rfl
def g_X11_fall_b18 (i1 : Int32) (i2 : Int32) (s0 : Int32) (z f : Nat → Nat → Int32) : Option (Int32 × (Nat → Nat → Int32) × (Nat → Nat → Int32)) :=
  (g_X11_isIn i1 0 (s0 - 1) z f).bind fun x1 =>
  if x1 = 0 then
    g_X11_fall_b49 i1 i2 1 z f
  else
    (g_X11_isIn i2 0 3 z f).bind fun x2 =>
    if x2 = 0 then
      g_X11_fall_b49 i1 i2 2 z f
    else
      g_X11_fall_b49 i1 i2 0 z f
set_option maxRecDepth 100000 in
set_option maxHeartbeats 4000000 in
theorem e_X11_fall_b18 {r : LWd} (i1 : Int32) (i2 : Int32) (s0 : Int32) (z f : Nat → Nat → Int32) : m_X11_fall_b18 66 i1 i2 s0 (wA z f r) = (g_X11_fall_b18 i1 i2 s0 z f).map (fun q => (q.1, wA q.2.1 q.2.2 r)) := by
  unfold m_X11_fall_b18 g_X11_fall_b18
  refine caP (e_X11_isIn) (fun x1 => ?_)
  refine iteE (fun _ => ?_) (fun _ => ?_)
  · exact e_X11_fall_b49 _ _ _  _ _
  · refine caP (e_X11_isIn) (fun x2 => ?_)
    refine iteE (fun _ => ?_) (fun _ => ?_)
    · exact e_X11_fall_b49 _ _ _  _ _
    · exact e_X11_fall_b49 _ _ _  _ _
def g_X11_fall (i1 : Int32) (i2 : Int32) (z f : Nat → Nat → Int32) : Option (Int32 × (Nat → Nat → Int32) × (Nat → Nat → Int32)) :=
  if 40 ≤ (z 66 23) then
    g_X11_fall_b18 i1 i2 40 z f
  else
    g_X11_fall_b18 i1 i2 (z 66 23) z f
set_option maxRecDepth 100000 in
set_option maxHeartbeats 4000000 in
theorem e_X11_fall {r : LWd} {z f : Nat → Nat → Int32} {i1 : Int32} {i2 : Int32} : m_X11_fall 66 i1 i2 (wA z f r) = (g_X11_fall i1 i2 z f).map (fun q => (q.1, wA q.2.1 q.2.2 r)) := by
  unfold m_X11_fall g_X11_fall
  refine opS rcv_66 ?_
  refine opS fI_66_23 ?_
  refine iteE (fun _ => ?_) (fun _ => ?_)
  · exact e_X11_fall_b18 _ _ _  _ _
  · refine opS fI_66_23 ?_
    exact e_X11_fall_b18 _ _ _  _ _
