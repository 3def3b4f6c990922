/-! the methods over the two functions: written by wip/whole/gmake.py -/
def g_X10_point (i1 : Int32) (i2 : Int32) (i3 : Int32) (z f : Nat → Nat → Int32) : Option (Int32 ⊕ String) :=
  (g_X10_pointAt i1 i2 z f).bind fun x1 =>
  if x1 = ((-1)) then
    some (.inr "java/lang/IllegalArgumentException")
  else
    if i3 = 0 then
      some (.inl (rdR 400 (f 8) x1))
    else
      if i3 = 1 then
        some (.inl (rdR 400 (f 10) x1))
      else
        if i3 = 2 then
          some (.inl (rdR 400 (f 12) x1))
        else
          if i3 = 3 then
            some (.inl (rdR 400 (f 14) x1))
          else
            some (.inr "java/lang/IllegalArgumentException")
set_option maxRecDepth 100000 in
set_option maxHeartbeats 4000000 in
theorem e_X10_point {r : LWd} {z f : Nat → Nat → Int32} {i1 : Int32} {i2 : Int32} {i3 : Int32} : m_X10_point 0 i1 i2 i3 (wA z f r) = (g_X10_point i1 i2 i3 z f).map (fun x => (x, wA z f r)) := by
  unfold m_X10_point g_X10_point
  refine opS rcv_0 ?_
  refine caP (e_X10_pointAt) (fun x1 => ?_)
  refine iteE (fun _ => ?_) (fun _ => ?_)
  · rfl
  · refine iteE (fun _ => ?_) (fun _ => ?_)
    · refine opS fR_0_0 ?_
      refine opS fR_6_0 ?_
      refine caR (e_X8_at rw_7) rfl ?_
      rfl
    · refine iteE (fun _ => ?_) (fun _ => ?_)
      · refine opS fR_0_0 ?_
        refine opS fR_6_1 ?_
        refine caR (e_X8_at rw_9) rfl ?_
        rfl
      · refine iteE (fun _ => ?_) (fun _ => ?_)
        · refine opS fR_0_0 ?_
          refine opS fR_6_2 ?_
          refine caR (e_X8_at rw_11) rfl ?_
          rfl
        · refine iteE (fun _ => ?_) (fun _ => ?_)
          · refine opS fR_0_0 ?_
            refine opS fR_6_3 ?_
            refine caR (e_X8_at rw_13) rfl ?_
            rfl
          · rfl
def g_X10_isStable (z f : Nat → Nat → Int32) : Option (Int32 × (Nat → Nat → Int32) × (Nat → Nat → Int32)) :=
  bn3 (g_X9_holdsWithout 22 ((-1)) z f) fun x1 z2 u3 =>
  rtZw x1 z2 u3
set_option maxRecDepth 100000 in
set_option maxHeartbeats 4000000 in
theorem e_X10_isStable {r : LWd} {z f : Nat → Nat → Int32} : m_X10_isStable 0 (wA z f r) = (g_X10_isStable  z f).map (fun q => (q.1, wA q.2.1 q.2.2 r)) := by
  unfold m_X10_isStable g_X10_isStable
  refine opS rcv_0 ?_
  refine opS fR_0_2 ?_
  refine caW (e_X9_holdsWithout (Or.inl rfl)) (fun _ _ => rfl) (fun x1 z2 u3 => ?_)
  exact reZw
def g_X6_gather_b81 (k8 : Nat → Int32 → Int32 → Int32 → Int32 → (Nat → Nat → Int32) → (Nat → Nat → Int32) → Option ((Nat → Nat → Int32) × (Nat → Nat → Int32))) (a1 : Nat) (i2 : Int32) (i3 : Int32) (i4 : Int32) (i5 : Int32) (z f : Nat → Nat → Int32) : Option ((Nat → Nat → Int32) × (Nat → Nat → Int32)) :=
  k8 a1 i2 i3 i4 (i5 + 1) z f
set_option maxRecDepth 100000 in
set_option maxHeartbeats 4000000 in
theorem e_X6_gather_b81 {r : LWd} {k8 : Nat → Nat → Int32 → Int32 → Int32 → Int32 → LWd → Option LWd} {kg8 : Nat → Int32 → Int32 → Int32 → Int32 → (Nat → Nat → Int32) → (Nat → Nat → Int32) → Option ((Nat → Nat → Int32) × (Nat → Nat → Int32))} (hk8 : ∀ (a1 : Nat) (i2 : Int32) (i3 : Int32) (i4 : Int32) (i5 : Int32) (ha1 : isRw a1) (z f : Nat → Nat → Int32), k8 28 a1 i2 i3 i4 i5 (wA z f r) = (kg8 a1 i2 i3 i4 i5 z f).map (fun q => wA q.1 q.2 r)) (a1 : Nat) (i2 : Int32) (i3 : Int32) (i4 : Int32) (i5 : Int32) (ha1 : isRw a1) (z f : Nat → Nat → Int32) : m_X6_gather_b81 k8 28 a1 i2 i3 i4 i5 (wA z f r) = (g_X6_gather_b81 kg8 a1 i2 i3 i4 i5 z f).map (fun q => wA q.1 q.2 r) := by
  unfold m_X6_gather_b81 g_X6_gather_b81
  exact hk8 _ _ _ _ _ ha1 _ _
def g_X6_gather_l8 : Nat → Nat → Int32 → Int32 → Int32 → Int32 → (Nat → Nat → Int32) → (Nat → Nat → Int32) → Option ((Nat → Nat → Int32) × (Nat → Nat → Int32))
  | 0, _, _, _, _, _, _, _ => none
  | fu + 1, a1, i2, i3, i4, i5, z, f =>
    if 6 ≤ i5 then
      some (z, f)
    else
      if (rdR 6 (f (a1 + 1)) i5) = ((-1)) then
        g_X6_gather_b81 (fun y0 y1 y2 y3 y4 z f => g_X6_gather_l8 fu y0 y1 y2 y3 y4 z f) a1 i2 i3 i4 i5 z f
      else
        (g_X10_xOf (rdR 6 (f (a1 + 1)) i5) z f).bind fun x1 =>
        lt2 (wrR f 30 6 (z 28 2) ((i4 * x1) - i2)) fun u2 =>
        (g_X10_yOf (rdR 6 (f (a1 + 1)) i5) z u2).bind fun x3 =>
        lt2 (wrR u2 32 6 (z 28 2) ((i4 * x3) - i3)) fun u4 =>
        lt2 (up2 z 28 2 ((z 28 2) + 1)) fun z5 =>
        g_X6_gather_b81 (fun y0 y1 y2 y3 y4 z f => g_X6_gather_l8 fu y0 y1 y2 y3 y4 z f) a1 i2 i3 i4 i5 z5 u4
set_option maxRecDepth 100000 in
set_option maxHeartbeats 4000000 in
theorem e_X6_gather_l8 {r : LWd} : ∀ (fu : Nat) (a1 : Nat) (i2 : Int32) (i3 : Int32) (i4 : Int32) (i5 : Int32) (ha1 : isRw a1) (z f : Nat → Nat → Int32), m_X6_gather_l8 fu 28 a1 i2 i3 i4 i5 (wA z f r) = (g_X6_gather_l8 fu a1 i2 i3 i4 i5 z f).map (fun q => wA q.1 q.2 r) := by
  intro fu
  induction fu with
  | zero => intro a1 i2 i3 i4 i5 ha1 z f; rfl
  | succ fu ih =>
    intro a1 i2 i3 i4 i5 ha1 z f
    rw [m_X6_gather_l8, g_X6_gather_l8]
    refine iteE (fun _ => ?_) (fun _ => ?_)
    · rfl
    · refine caR (e_X8_at (rw_of ha1)) rfl ?_
      refine iteE (fun _ => ?_) (fun _ => ?_)
      · exact e_X6_gather_b81 (hk8 := ih) _ _ _ _ _ ha1 _ _
      · refine opS fR_28_0 ?_
        refine opS fI_28_2 ?_
        refine caP (e_X10_xOf) (fun x1 => ?_)
        refine caV (e_X8_put rw_29) rfl ?_
        refine ltE ?_
        refine opS fR_28_1 ?_
        refine opS fI_28_2 ?_
        refine caP (e_X10_yOf) (fun x3 => ?_)
        refine caV (e_X8_put rw_31) rfl ?_
        refine ltE ?_
        refine opS fI_28_2 ?_
        refine opS pV_28_2 ?_
        refine ltE ?_
        exact e_X6_gather_b81 (hk8 := ih) _ _ _ _ _ ha1 _ _
def g_X6_gather (a1 : Nat) (i2 : Int32) (i3 : Int32) (i4 : Int32) (z f : Nat → Nat → Int32) : Option ((Nat → Nat → Int32) × (Nat → Nat → Int32)) :=
  lt2 (up2 z 28 2 0) fun z1 =>
  g_X6_gather_l8 FU a1 i2 i3 i4 0 z1 f
set_option maxRecDepth 100000 in
set_option maxHeartbeats 4000000 in
theorem e_X6_gather {r : LWd} {z f : Nat → Nat → Int32} {a1 : Nat} {i2 : Int32} {i3 : Int32} {i4 : Int32} (ha1 : isRw a1) : m_X6_gather 28 a1 i2 i3 i4 (wA z f r) = (g_X6_gather a1 i2 i3 i4 z f).map (fun q => wA q.1 q.2 r) := by
  unfold m_X6_gather g_X6_gather
  refine opS rcv_28 ?_
  refine opS pV_28_2 ?_
  refine ltE ?_
  exact e_X6_gather_l8 FU _ _ _ _ _ ha1 _ _
def g_X6_turn (i1 : Int32) (i2 : Int32) (z f : Nat → Nat → Int32) : Option Int32 :=
  some (((rdR 6 (f 30) i1) * (rdR 6 (f 32) i2)) - ((rdR 6 (f 32) i1) * (rdR 6 (f 30) i2)))
set_option maxRecDepth 100000 in
set_option maxHeartbeats 4000000 in
theorem e_X6_turn {r : LWd} {z f : Nat → Nat → Int32} {i1 : Int32} {i2 : Int32} : m_X6_turn 28 i1 i2 (wA z f r) = (g_X6_turn i1 i2 z f).map (fun x => (x, wA z f r)) := by
  unfold m_X6_turn g_X6_turn
  refine opS rcv_28 ?_
  refine opS fR_28_0 ?_
  refine caR (e_X8_at rw_29) rfl ?_
  refine opS fR_28_1 ?_
  refine caR (e_X8_at rw_31) rfl ?_
  refine opS fR_28_1 ?_
  refine caR (e_X8_at rw_31) rfl ?_
  refine opS fR_28_0 ?_
  refine caR (e_X8_at rw_29) rfl ?_
  rfl
def g_X6_isOnLine (i1 : Int32) (i2 : Int32) (z f : Nat → Nat → Int32) : Option Int32 :=
  (g_X6_turn i1 i2 z f).bind fun x1 =>
  if x1 = 0 then
    if 0 < (((rdR 6 (f 30) i1) * (rdR 6 (f 30) i2)) + ((rdR 6 (f 32) i1) * (rdR 6 (f 32) i2))) then
      some (0)
    else
      some (1)
  else
    some (0)
set_option maxRecDepth 100000 in
set_option maxHeartbeats 4000000 in
theorem e_X6_isOnLine {r : LWd} {z f : Nat → Nat → Int32} {i1 : Int32} {i2 : Int32} : m_X6_isOnLine 28 i1 i2 (wA z f r) = (g_X6_isOnLine i1 i2 z f).map (fun x => (x, wA z f r)) := by
  unfold m_X6_isOnLine g_X6_isOnLine
  refine opS rcv_28 ?_
  refine caP (e_X6_turn) (fun x1 => ?_)
  refine iteE (fun _ => ?_) (fun _ => ?_)
  · refine opS fR_28_0 ?_
    refine caR (e_X8_at rw_29) rfl ?_
    refine opS fR_28_0 ?_
    refine caR (e_X8_at rw_29) rfl ?_
    refine opS fR_28_1 ?_
    refine caR (e_X8_at rw_31) rfl ?_
    refine opS fR_28_1 ?_
    refine caR (e_X8_at rw_31) rfl ?_
    refine iteE (fun _ => ?_) (fun _ => ?_)
    · rfl
    · rfl
  · rfl
def g_X6_isInTriangle_b52 (i4 : Int32) (i5 : Int32) (i6 : Int32) (z f : Nat → Nat → Int32) : Option Int32 :=
  if 0 < i4 then
    some (0)
  else
    if 0 < i5 then
      some (0)
    else
      if 0 < i6 then
        some (0)
      else
        some (1)
set_option maxRecDepth 100000 in
set_option maxHeartbeats 4000000 in
theorem e_X6_isInTriangle_b52 {r : LWd} {z f : Nat → Nat → Int32} (i4 : Int32) (i5 : Int32) (i6 : Int32) : m_X6_isInTriangle_b52 i4 i5 i6 (wA z f r) = (g_X6_isInTriangle_b52 i4 i5 i6 z f).map (fun x => (x, wA z f r)) := by
  unfold m_X6_isInTriangle_b52 g_X6_isInTriangle_b52
  refine iteE (fun _ => ?_) (fun _ => ?_)
  · rfl
  · refine iteE (fun _ => ?_) (fun _ => ?_)
    · rfl
    · refine iteE (fun _ => ?_) (fun _ => ?_)
      · rfl
      · rfl
def g_X6_isInTriangle (i1 : Int32) (i2 : Int32) (i3 : Int32) (z f : Nat → Nat → Int32) : Option Int32 :=
  (g_X6_turn i1 i2 z f).bind fun x1 =>
  (g_X6_turn i2 i3 z f).bind fun x2 =>
  (g_X6_turn i3 i1 z f).bind fun x3 =>
  if ((x1 + x2) + x3) = 0 then
    some (0)
  else
    if x1 < 0 then
      g_X6_isInTriangle_b52 x1 x2 x3 z f
    else
      if x2 < 0 then
        g_X6_isInTriangle_b52 x1 x2 x3 z f
      else
        if 0 ≤ x3 then
          some (1)
        else
          g_X6_isInTriangle_b52 x1 x2 x3 z f
set_option maxRecDepth 100000 in
set_option maxHeartbeats 4000000 in
theorem e_X6_isInTriangle {r : LWd} {z f : Nat → Nat → Int32} {i1 : Int32} {i2 : Int32} {i3 : Int32} : m_X6_isInTriangle 28 i1 i2 i3 (wA z f r) = (g_X6_isInTriangle i1 i2 i3 z f).map (fun x => (x, wA z f r)) := by
  unfold m_X6_isInTriangle g_X6_isInTriangle
  refine opS rcv_28 ?_
  refine caP (e_X6_turn) (fun x1 => ?_)
  refine caP (e_X6_turn) (fun x2 => ?_)
  refine caP (e_X6_turn) (fun x3 => ?_)
  refine iteE (fun _ => ?_) (fun _ => ?_)
  · rfl
  · refine iteE (fun _ => ?_) (fun _ => ?_)
    · exact e_X6_isInTriangle_b52 _ _ _ 
    · refine iteE (fun _ => ?_) (fun _ => ?_)
      · exact e_X6_isInTriangle_b52 _ _ _ 
      · refine iteE (fun _ => ?_) (fun _ => ?_)
        · rfl
        · exact e_X6_isInTriangle_b52 _ _ _ 
def g_X6_holdMoment_l61 (k2 : Int32 → (Nat → Nat → Int32) → (Nat → Nat → Int32) → Option Int32) (k38 : Int32 → Int32 → (Nat → Nat → Int32) → (Nat → Nat → Int32) → Option Int32) : Nat → Int32 → Int32 → Int32 → (Nat → Nat → Int32) → (Nat → Nat → Int32) → Option Int32
  | 0, _, _, _, _, _ => none
  | fu + 1, i1, i2, i3, z, f =>
    if (z 28 2) ≤ i3 then
      k38 i1 (i2 + 1) z f
    else
      (g_X6_isInTriangle i1 i2 i3 z f).bind fun x1 =>
      if x1 = 0 then
        g_X6_holdMoment_l61 k2 k38 fu i1 i2 (i3 + 1) z f
      else
        some (1)
set_option maxRecDepth 100000 in
set_option maxHeartbeats 4000000 in
theorem e_X6_holdMoment_l61 {r : LWd} {z f : Nat → Nat → Int32} {k2 : Nat → Int32 → LWd → Option (Int32 × LWd)} {kg2 : Int32 → (Nat → Nat → Int32) → (Nat → Nat → Int32) → Option Int32} (hk2 : ∀ (i1 : Int32), k2 28 i1 (wA z f r) = (kg2 i1 z f).map (fun x => (x, wA z f r))) {k38 : Nat → Int32 → Int32 → LWd → Option (Int32 × LWd)} {kg38 : Int32 → Int32 → (Nat → Nat → Int32) → (Nat → Nat → Int32) → Option Int32} (hk38 : ∀ (i1 : Int32) (i2 : Int32), k38 28 i1 i2 (wA z f r) = (kg38 i1 i2 z f).map (fun x => (x, wA z f r))) : ∀ (fu : Nat) (i1 : Int32) (i2 : Int32) (i3 : Int32), m_X6_holdMoment_l61 k2 k38 fu 28 i1 i2 i3 (wA z f r) = (g_X6_holdMoment_l61 kg2 kg38 fu i1 i2 i3 z f).map (fun x => (x, wA z f r)) := by
  intro fu
  induction fu with
  | zero => intro i1 i2 i3 ; rfl
  | succ fu ih =>
    intro i1 i2 i3 
    rw [m_X6_holdMoment_l61, g_X6_holdMoment_l61]
    refine opS fI_28_2 ?_
    refine iteE (fun _ => ?_) (fun _ => ?_)
    · exact hk38 _ _ 
    · refine caP (e_X6_isInTriangle) (fun x1 => ?_)
      refine iteE (fun _ => ?_) (fun _ => ?_)
      · exact ih _ _ _ 
      · rfl
def g_X6_holdMoment_l38 (k2 : Int32 → (Nat → Nat → Int32) → (Nat → Nat → Int32) → Option Int32) : Nat → Int32 → Int32 → (Nat → Nat → Int32) → (Nat → Nat → Int32) → Option Int32
  | 0, _, _, _, _ => none
  | fu + 1, i1, i2, z, f =>
    if (z 28 2) ≤ i2 then
      k2 (i1 + 1) z f
    else
      (g_X6_isOnLine i1 i2 z f).bind fun x1 =>
      if x1 = 0 then
        g_X6_holdMoment_l61 k2 (fun y0 y1 z f => g_X6_holdMoment_l38 k2 fu y0 y1 z f) FU i1 i2 (i2 + 1) z f
      else
        some (1)
set_option maxRecDepth 100000 in
set_option maxHeartbeats 4000000 in
theorem e_X6_holdMoment_l38 {r : LWd} {z f : Nat → Nat → Int32} {k2 : Nat → Int32 → LWd → Option (Int32 × LWd)} {kg2 : Int32 → (Nat → Nat → Int32) → (Nat → Nat → Int32) → Option Int32} (hk2 : ∀ (i1 : Int32), k2 28 i1 (wA z f r) = (kg2 i1 z f).map (fun x => (x, wA z f r))) : ∀ (fu : Nat) (i1 : Int32) (i2 : Int32), m_X6_holdMoment_l38 k2 fu 28 i1 i2 (wA z f r) = (g_X6_holdMoment_l38 kg2 fu i1 i2 z f).map (fun x => (x, wA z f r)) := by
  intro fu
  induction fu with
  | zero => intro i1 i2 ; rfl
  | succ fu ih =>
    intro i1 i2 
    rw [m_X6_holdMoment_l38, g_X6_holdMoment_l38]
    refine opS fI_28_2 ?_
    refine iteE (fun _ => ?_) (fun _ => ?_)
    · exact hk2 _ 
    · refine caP (e_X6_isOnLine) (fun x1 => ?_)
      refine iteE (fun _ => ?_) (fun _ => ?_)
      · exact e_X6_holdMoment_l61 (hk2 := hk2) (hk38 := ih) FU _ _ _ 
      · rfl
def g_X6_holdMoment_b34 (k2 : Int32 → (Nat → Nat → Int32) → (Nat → Nat → Int32) → Option Int32) (i1 : Int32) (z f : Nat → Nat → Int32) : Option Int32 :=
  g_X6_holdMoment_l38 k2 FU i1 (i1 + 1) z f
set_option maxRecDepth 100000 in
set_option maxHeartbeats 4000000 in
theorem e_X6_holdMoment_b34 {r : LWd} {z f : Nat → Nat → Int32} {k2 : Nat → Int32 → LWd → Option (Int32 × LWd)} {kg2 : Int32 → (Nat → Nat → Int32) → (Nat → Nat → Int32) → Option Int32} (hk2 : ∀ (i1 : Int32), k2 28 i1 (wA z f r) = (kg2 i1 z f).map (fun x => (x, wA z f r))) (i1 : Int32) : m_X6_holdMoment_b34 k2 28 i1 (wA z f r) = (g_X6_holdMoment_b34 kg2 i1 z f).map (fun x => (x, wA z f r)) := by
  unfold m_X6_holdMoment_b34 g_X6_holdMoment_b34
  exact e_X6_holdMoment_l38 (hk2 := hk2) FU _ _ 
def g_X6_holdMoment_l2 : Nat → Int32 → (Nat → Nat → Int32) → (Nat → Nat → Int32) → Option Int32
  | 0, _, _, _ => none
  | fu + 1, i1, z, f =>
    if (z 28 2) ≤ i1 then
      some (0)
    else
      if (rdR 6 (f 30) i1) = 0 then
        if (rdR 6 (f 32) i1) = 0 then
          some (1)
        else
          g_X6_holdMoment_b34 (fun y0 z f => g_X6_holdMoment_l2 fu y0 z f) i1 z f
      else
        g_X6_holdMoment_b34 (fun y0 z f => g_X6_holdMoment_l2 fu y0 z f) i1 z f
set_option maxRecDepth 100000 in
set_option maxHeartbeats 4000000 in
theorem e_X6_holdMoment_l2 {r : LWd} {z f : Nat → Nat → Int32} : ∀ (fu : Nat) (i1 : Int32), m_X6_holdMoment_l2 fu 28 i1 (wA z f r) = (g_X6_holdMoment_l2 fu i1 z f).map (fun x => (x, wA z f r)) := by
  intro fu
  induction fu with
  | zero => intro i1 ; rfl
  | succ fu ih =>
    intro i1 
    rw [m_X6_holdMoment_l2, g_X6_holdMoment_l2]
    refine opS fI_28_2 ?_
    refine iteE (fun _ => ?_) (fun _ => ?_)
    · rfl
    · refine opS fR_28_0 ?_
      refine caR (e_X8_at rw_29) rfl ?_
      refine iteE (fun _ => ?_) (fun _ => ?_)
      · refine opS fR_28_1 ?_
        refine caR (e_X8_at rw_31) rfl ?_
        refine iteE (fun _ => ?_) (fun _ => ?_)
        · rfl
        · exact e_X6_holdMoment_b34 (hk2 := ih) _ 
      · exact e_X6_holdMoment_b34 (hk2 := ih) _ 
def g_X6_holdMoment (z f : Nat → Nat → Int32) : Option Int32 :=
  g_X6_holdMoment_l2 FU 0 z f
set_option maxRecDepth 100000 in
set_option maxHeartbeats 4000000 in
theorem e_X6_holdMoment {r : LWd} {z f : Nat → Nat → Int32} : m_X6_holdMoment 28 (wA z f r) = (g_X6_holdMoment  z f).map (fun x => (x, wA z f r)) := by
  unfold m_X6_holdMoment g_X6_holdMoment
  refine opS rcv_28 ?_
  exact e_X6_holdMoment_l2 FU _ 
def g_X10_isStableAnew (z f : Nat → Nat → Int32) : Option (Int32 × (Nat → Nat → Int32) × (Nat → Nat → Int32)) :=
  (g_X9_momentX 22 z f).bind fun x1 =>
  (g_X9_momentY 22 z f).bind fun x2 =>
  (g_X2_weight  z f).bind fun x3 =>
  bn2 (g_X6_gather 23 x1 x2 x3 z f) fun z4 u5 =>
  (g_X6_holdMoment  z4 u5).bind fun x6 =>
  rtZw x6 z4 u5
set_option maxRecDepth 100000 in
set_option maxHeartbeats 4000000 in
theorem e_X10_isStableAnew {r : LWd} {z f : Nat → Nat → Int32} : m_X10_isStableAnew 0 (wA z f r) = (g_X10_isStableAnew  z f).map (fun q => (q.1, wA q.2.1 q.2.2 r)) := by
  unfold m_X10_isStableAnew g_X10_isStableAnew
  refine opS rcv_0 ?_
  refine opS fR_0_4 ?_
  refine opS fR_0_2 ?_
  refine opS (fRs_3 (Or.inl rfl)) ?_
  refine opS fR_0_2 ?_
  refine caP (e_X9_momentX (Or.inl rfl)) (fun x1 => ?_)
  refine opS fR_0_2 ?_
  refine caP (e_X9_momentY (Or.inl rfl)) (fun x2 => ?_)
  refine opS fR_0_1 ?_
  refine caP (e_X2_weight) (fun x3 => ?_)
  refine caU (e_X6_gather (Or.inl rfl)) (fun _ _ => rfl) (fun z4 u5 => ?_)
  refine opS fR_0_4 ?_
  refine caP (e_X6_holdMoment) (fun x6 => ?_)
  exact reZw
def g_X4_squareOfEdge (i0 : Int32) (i1 : Int32) (z f : Nat → Nat → Int32) : Option Int32 :=
  some ((((jrem i1 20) - (jrem i0 20)) * ((jrem i1 20) - (jrem i0 20))) + (((i1 / 20) - (i0 / 20)) * ((i1 / 20) - (i0 / 20))))
set_option maxRecDepth 100000 in
set_option maxHeartbeats 4000000 in
theorem e_X4_squareOfEdge {r : LWd} {z f : Nat → Nat → Int32} {i0 : Int32} {i1 : Int32} : m_X4_squareOfEdge i0 i1 (wA z f r) = (g_X4_squareOfEdge i0 i1 z f).map (fun x => (x, wA z f r)) := by
  unfold m_X4_squareOfEdge g_X4_squareOfEdge
  rfl
def g_X4_leastSquare_b108 (k6 : Int32 → Int32 → Int32 → UInt32 → Int32 → (Nat → Nat → Int32) → (Nat → Nat → Int32) → Option UInt32) (i1 : Int32) (i2 : Int32) (i3 : Int32) (f4 : UInt32) (i5 : Int32) (z f : Nat → Nat → Int32) : Option UInt32 :=
  k6 i1 i2 i3 f4 (i5 + 1) z f
set_option maxRecDepth 100000 in
set_option maxHeartbeats 4000000 in
theorem e_X4_leastSquare_b108 {r : LWd} {z f : Nat → Nat → Int32} {k6 : Nat → Int32 → Int32 → Int32 → UInt32 → Int32 → LWd → Option (UInt32 × LWd)} {kg6 : Int32 → Int32 → Int32 → UInt32 → Int32 → (Nat → Nat → Int32) → (Nat → Nat → Int32) → Option UInt32} (hk6 : ∀ (i1 : Int32) (i2 : Int32) (i3 : Int32) (f4 : UInt32) (i5 : Int32), k6 1 i1 i2 i3 f4 i5 (wA z f r) = (kg6 i1 i2 i3 f4 i5 z f).map (fun x => (x, wA z f r))) (i1 : Int32) (i2 : Int32) (i3 : Int32) (f4 : UInt32) (i5 : Int32) : m_X4_leastSquare_b108 k6 1 i1 i2 i3 f4 i5 (wA z f r) = (g_X4_leastSquare_b108 kg6 i1 i2 i3 f4 i5 z f).map (fun x => (x, wA z f r)) := by
  unfold m_X4_leastSquare_b108 g_X4_leastSquare_b108
  exact hk6 _ _ _ _ _ 
def g_X4_leastSquare_b104 (k6 : Int32 → Int32 → Int32 → UInt32 → Int32 → (Nat → Nat → Int32) → (Nat → Nat → Int32) → Option UInt32) (i1 : Int32) (i2 : Int32) (i3 : Int32) (i5 : Int32) (f12 : UInt32) (z f : Nat → Nat → Int32) : Option UInt32 :=
  g_X4_leastSquare_b108 k6 i1 i2 i3 f12 i5 z f
set_option maxRecDepth 100000 in
set_option maxHeartbeats 4000000 in
theorem e_X4_leastSquare_b104 {r : LWd} {z f : Nat → Nat → Int32} {k6 : Nat → Int32 → Int32 → Int32 → UInt32 → Int32 → LWd → Option (UInt32 × LWd)} {kg6 : Int32 → Int32 → Int32 → UInt32 → Int32 → (Nat → Nat → Int32) → (Nat → Nat → Int32) → Option UInt32} (hk6 : ∀ (i1 : Int32) (i2 : Int32) (i3 : Int32) (f4 : UInt32) (i5 : Int32), k6 1 i1 i2 i3 f4 i5 (wA z f r) = (kg6 i1 i2 i3 f4 i5 z f).map (fun x => (x, wA z f r))) (i1 : Int32) (i2 : Int32) (i3 : Int32) (i5 : Int32) (f12 : UInt32) : m_X4_leastSquare_b104 k6 1 i1 i2 i3 i5 f12 (wA z f r) = (g_X4_leastSquare_b104 kg6 i1 i2 i3 i5 f12 z f).map (fun x => (x, wA z f r)) := by
  unfold m_X4_leastSquare_b104 g_X4_leastSquare_b104
  exact e_X4_leastSquare_b108 (hk6 := hk6) _ _ _ _ _ 
def g_X4_leastSquare_b89 (k6 : Int32 → Int32 → Int32 → UInt32 → Int32 → (Nat → Nat → Int32) → (Nat → Nat → Int32) → Option UInt32) (i1 : Int32) (i2 : Int32) (i3 : Int32) (f4 : UInt32) (i5 : Int32) (s0 : UInt32) (z f : Nat → Nat → Int32) : Option UInt32 :=
  if i5 = 0 then
    g_X4_leastSquare_b104 k6 i1 i2 i3 i5 s0 z f
  else
    if 0 ≤ (Op.cmpValue (FP.fcmp s0 f4) .g) then
      g_X4_leastSquare_b108 k6 i1 i2 i3 f4 i5 z f
    else
      g_X4_leastSquare_b104 k6 i1 i2 i3 i5 s0 z f
set_option maxRecDepth 100000 in
set_option maxHeartbeats 4000000 in
theorem e_X4_leastSquare_b89 {r : LWd} {z f : Nat → Nat → Int32} {k6 : Nat → Int32 → Int32 → Int32 → UInt32 → Int32 → LWd → Option (UInt32 × LWd)} {kg6 : Int32 → Int32 → Int32 → UInt32 → Int32 → (Nat → Nat → Int32) → (Nat → Nat → Int32) → Option UInt32} (hk6 : ∀ (i1 : Int32) (i2 : Int32) (i3 : Int32) (f4 : UInt32) (i5 : Int32), k6 1 i1 i2 i3 f4 i5 (wA z f r) = (kg6 i1 i2 i3 f4 i5 z f).map (fun x => (x, wA z f r))) (i1 : Int32) (i2 : Int32) (i3 : Int32) (f4 : UInt32) (i5 : Int32) (s0 : UInt32) : m_X4_leastSquare_b89 k6 1 i1 i2 i3 f4 i5 s0 (wA z f r) = (g_X4_leastSquare_b89 kg6 i1 i2 i3 f4 i5 s0 z f).map (fun x => (x, wA z f r)) := by
  unfold m_X4_leastSquare_b89 g_X4_leastSquare_b89
  refine iteE (fun _ => ?_) (fun _ => ?_)
  · exact e_X4_leastSquare_b104 (hk6 := hk6) _ _ _ _ _ 
  · refine iteE (fun _ => ?_) (fun _ => ?_)
    · exact e_X4_leastSquare_b108 (hk6 := hk6) _ _ _ _ _ 
    · exact e_X4_leastSquare_b104 (hk6 := hk6) _ _ _ _ _ 
def g_X4_leastSquare_l6 : Nat → Int32 → Int32 → Int32 → UInt32 → Int32 → (Nat → Nat → Int32) → (Nat → Nat → Int32) → Option UInt32
  | 0, _, _, _, _, _, _, _ => none
  | fu + 1, i1, i2, i3, f4, i5, z, f =>
    if (z 1 2) ≤ i5 then
      some (f4)
    else
      (g_X4_edgeByWay (rdR 7 (f 3) i5) (rdR 7 (f 3) (i5 + 1)) i1 i2 i3 z f).bind fun x1 =>
      (g_X4_squareOfEdge (rdR 7 (f 3) i5) (rdR 7 (f 3) (i5 + 1)) z f).bind fun x2 =>
      if 0 < (lg_cmp ((x2.toInt64 * i3.toInt64) * i3.toInt64) 0) then
        (jnn (FP.fdiv (FP.l2f (x1.toInt64 * x1.toInt64)) (FP.l2f ((x2.toInt64 * i3.toInt64) * i3.toInt64)))).bind fun x3 =>
        g_X4_leastSquare_b89 (fun y0 y1 y2 y3 y4 z f => g_X4_leastSquare_l6 fu y0 y1 y2 y3 y4 z f) i1 i2 i3 f4 i5 x3 z f
      else
        g_X4_leastSquare_b89 (fun y0 y1 y2 y3 y4 z f => g_X4_leastSquare_l6 fu y0 y1 y2 y3 y4 z f) i1 i2 i3 f4 i5 FP.fconst0 z f
set_option maxRecDepth 100000 in
set_option maxHeartbeats 4000000 in
theorem e_X4_leastSquare_l6 {r : LWd} {z f : Nat → Nat → Int32} : ∀ (fu : Nat) (i1 : Int32) (i2 : Int32) (i3 : Int32) (f4 : UInt32) (i5 : Int32), m_X4_leastSquare_l6 fu 1 i1 i2 i3 f4 i5 (wA z f r) = (g_X4_leastSquare_l6 fu i1 i2 i3 f4 i5 z f).map (fun x => (x, wA z f r)) := by
  intro fu
  induction fu with
  | zero => intro i1 i2 i3 f4 i5 ; rfl
  | succ fu ih =>
    intro i1 i2 i3 f4 i5 
    rw [m_X4_leastSquare_l6, g_X4_leastSquare_l6]
    refine opS fI_1_2 ?_
    refine iteE (fun _ => ?_) (fun _ => ?_)
    · rfl
    · refine opS fR_1_0 ?_
      refine caR (e_X8_at rw_2) rfl ?_
      refine opS fR_1_0 ?_
      refine caR (e_X8_at rw_2) rfl ?_
      refine caP (e_X4_edgeByWay) (fun x1 => ?_)
      refine caP (e_X4_squareOfEdge) (fun x2 => ?_)
      refine iteE (fun _ => ?_) (fun _ => ?_)
      · refine opB rfl (fun x3 => ?_)
        exact e_X4_leastSquare_b89 (hk6 := ih) _ _ _ _ _ _ 
      · exact e_X4_leastSquare_b89 (hk6 := ih) _ _ _ _ _ _ 
def g_X4_leastSquare (i1 : Int32) (i2 : Int32) (i3 : Int32) (z f : Nat → Nat → Int32) : Option UInt32 :=
  g_X4_leastSquare_l6 FU i1 i2 i3 FP.fconst0 0 z f
set_option maxRecDepth 100000 in
set_option maxHeartbeats 4000000 in
theorem e_X4_leastSquare {r : LWd} {z f : Nat → Nat → Int32} {i1 : Int32} {i2 : Int32} {i3 : Int32} : m_X4_leastSquare 1 i1 i2 i3 (wA z f r) = (g_X4_leastSquare i1 i2 i3 z f).map (fun x => (x, wA z f r)) := by
  unfold m_X4_leastSquare g_X4_leastSquare
  refine opS rcv_1 ?_
  exact e_X4_leastSquare_l6 FU _ _ _ _ _ 
def g_X10_bitsOf_b67 (i1 : Int32) (f2 : UInt32) (z f : Nat → Nat → Int32) : Option Int32 :=
  (jnn (FP.fsub f2 FP.fconst1)).bind fun x1 =>
  (jnn (FP.fmul x1 1258291200)).bind fun x2 =>
  some ((i1 <<< (23 &&& 31)) ||| (FP.f2i x2))
set_option maxRecDepth 100000 in
set_option maxHeartbeats 4000000 in
theorem e_X10_bitsOf_b67 {r : LWd} {z f : Nat → Nat → Int32} (i1 : Int32) (f2 : UInt32) : m_X10_bitsOf_b67 i1 f2 (wA z f r) = (g_X10_bitsOf_b67 i1 f2 z f).map (fun x => (x, wA z f r)) := by
  unfold m_X10_bitsOf_b67 g_X10_bitsOf_b67
  refine opB rfl (fun x1 => ?_)
  refine opB rfl (fun x2 => ?_)
  rfl
def g_X10_bitsOf_l42 : Nat → Int32 → UInt32 → Int32 → (Nat → Nat → Int32) → (Nat → Nat → Int32) → Option Int32
  | 0, _, _, _, _, _ => none
  | fu + 1, i1, f2, i3, z, f =>
    if 126 ≤ i3 then
      g_X10_bitsOf_b67 i1 f2 z f
    else
      if 0 ≤ (Op.cmpValue (FP.fcmp f2 FP.fconst1) .g) then
        g_X10_bitsOf_b67 i1 f2 z f
      else
        (jnn (FP.fmul f2 FP.fconst2)).bind fun x1 =>
        g_X10_bitsOf_l42 fu (i1 + (-1)) x1 (i3 + 1) z f
set_option maxRecDepth 100000 in
set_option maxHeartbeats 4000000 in
theorem e_X10_bitsOf_l42 {r : LWd} {z f : Nat → Nat → Int32} : ∀ (fu : Nat) (i1 : Int32) (f2 : UInt32) (i3 : Int32), m_X10_bitsOf_l42 fu i1 f2 i3 (wA z f r) = (g_X10_bitsOf_l42 fu i1 f2 i3 z f).map (fun x => (x, wA z f r)) := by
  intro fu
  induction fu with
  | zero => intro i1 f2 i3 ; rfl
  | succ fu ih =>
    intro i1 f2 i3 
    rw [m_X10_bitsOf_l42, g_X10_bitsOf_l42]
    refine iteE (fun _ => ?_) (fun _ => ?_)
    · exact e_X10_bitsOf_b67 _ _ 
    · refine iteE (fun _ => ?_) (fun _ => ?_)
      · exact e_X10_bitsOf_b67 _ _ 
      · refine opB rfl (fun x1 => ?_)
        exact ih _ _ _ 
def g_X10_bitsOf_b40 (i1 : Int32) (f2 : UInt32) (z f : Nat → Nat → Int32) : Option Int32 :=
  g_X10_bitsOf_l42 FU i1 f2 0 z f
set_option maxRecDepth 100000 in
set_option maxHeartbeats 4000000 in
theorem e_X10_bitsOf_b40 {r : LWd} {z f : Nat → Nat → Int32} (i1 : Int32) (f2 : UInt32) : m_X10_bitsOf_b40 i1 f2 (wA z f r) = (g_X10_bitsOf_b40 i1 f2 z f).map (fun x => (x, wA z f r)) := by
  unfold m_X10_bitsOf_b40 g_X10_bitsOf_b40
  exact e_X10_bitsOf_l42 FU _ _ _ 
def g_X10_bitsOf_l15 : Nat → Int32 → UInt32 → Int32 → (Nat → Nat → Int32) → (Nat → Nat → Int32) → Option Int32
  | 0, _, _, _, _, _ => none
  | fu + 1, i1, f2, i3, z, f =>
    if 126 ≤ i3 then
      g_X10_bitsOf_b40 i1 f2 z f
    else
      if (Op.cmpValue (FP.fcmp f2 FP.fconst2) .l) < 0 then
        g_X10_bitsOf_b40 i1 f2 z f
      else
        (jnn (FP.fdiv f2 FP.fconst2)).bind fun x1 =>
        g_X10_bitsOf_l15 fu (i1 + 1) x1 (i3 + 1) z f
set_option maxRecDepth 100000 in
set_option maxHeartbeats 4000000 in
theorem e_X10_bitsOf_l15 {r : LWd} {z f : Nat → Nat → Int32} : ∀ (fu : Nat) (i1 : Int32) (f2 : UInt32) (i3 : Int32), m_X10_bitsOf_l15 fu i1 f2 i3 (wA z f r) = (g_X10_bitsOf_l15 fu i1 f2 i3 z f).map (fun x => (x, wA z f r)) := by
  intro fu
  induction fu with
  | zero => intro i1 f2 i3 ; rfl
  | succ fu ih =>
    intro i1 f2 i3 
    rw [m_X10_bitsOf_l15, g_X10_bitsOf_l15]
    refine iteE (fun _ => ?_) (fun _ => ?_)
    · exact e_X10_bitsOf_b40 _ _ 
    · refine iteE (fun _ => ?_) (fun _ => ?_)
      · exact e_X10_bitsOf_b40 _ _ 
      · refine opB rfl (fun x1 => ?_)
        exact ih _ _ _ 
def g_X10_bitsOf (f0 : UInt32) (z f : Nat → Nat → Int32) : Option Int32 :=
  if 0 < (Op.cmpValue (FP.fcmp f0 FP.fconst0) .g) then
    g_X10_bitsOf_l15 FU 127 f0 0 z f
  else
    some (0)
set_option maxRecDepth 100000 in
set_option maxHeartbeats 4000000 in
theorem e_X10_bitsOf {r : LWd} {z f : Nat → Nat → Int32} {f0 : UInt32} : m_X10_bitsOf f0 (wA z f r) = (g_X10_bitsOf f0 z f).map (fun x => (x, wA z f r)) := by
  unfold m_X10_bitsOf g_X10_bitsOf
  refine iteE (fun _ => ?_) (fun _ => ?_)
  · exact e_X10_bitsOf_l15 FU _ _ _ 
  · rfl
def g_X10_margin (z f : Nat → Nat → Int32) : Option (Int32 × (Nat → Nat → Int32) × (Nat → Nat → Int32)) :=
  bn3 (g_X9_holdsWithout 22 ((-1)) z f) fun x1 z2 u3 =>
  if x1 = 0 then
    some ((-1082130432), z2, u3)
  else
    if 3 ≤ (z2 1 2) then
      (g_X9_momentX 22 z2 u3).bind fun x4 =>
      (g_X9_momentY 22 z2 u3).bind fun x5 =>
      (g_X2_weight  z2 u3).bind fun x6 =>
      (g_X4_leastSquare x4 x5 x6 z2 u3).bind fun x7 =>
      (g_X10_bitsOf x7 z2 u3).bind fun x8 =>
      some (x8, z2, u3)
    else
      some (0, z2, u3)
set_option maxRecDepth 100000 in
set_option maxHeartbeats 4000000 in
theorem e_X10_margin {r : LWd} {z f : Nat → Nat → Int32} : m_X10_margin 0 (wA z f r) = (g_X10_margin  z f).map (fun q => (q.1, wA q.2.1 q.2.2 r)) := by
  unfold m_X10_margin g_X10_margin
  refine opS rcv_0 ?_
  refine opS fR_0_2 ?_
  refine caW (e_X9_holdsWithout (Or.inl rfl)) (fun _ _ => rfl) (fun x1 z2 u3 => ?_)
  refine iteE (fun _ => ?_) (fun _ => ?_)
  · rfl
  · refine opS fR_0_2 ?_
    refine opS (fRs_2 (Or.inl rfl)) ?_
    refine opS fI_1_2 ?_
    refine iteE (fun _ => ?_) (fun _ => ?_)
    · refine opS fR_0_2 ?_
      refine caP (e_X9_momentX (Or.inl rfl)) (fun x4 => ?_)
      refine opS fR_0_2 ?_
      refine caP (e_X9_momentY (Or.inl rfl)) (fun x5 => ?_)
      refine opS fR_0_1 ?_
      refine caP (e_X2_weight) (fun x6 => ?_)
      refine caP (e_X4_leastSquare) (fun x7 => ?_)
      refine caP (e_X10_bitsOf) (fun x8 => ?_)
      rfl
    · rfl
def g_X10_corner (i1 : Int32) (z f : Nat → Nat → Int32) : Option ((Int32 ⊕ String) × (Nat → Nat → Int32) × (Nat → Nat → Int32)) :=
  if 0 ≤ i1 then
    bn2 (g_X4_wrap 23 ((-1)) z f) fun z1 u2 =>
    if (z1 1 2) ≤ i1 then
      some (.inl ((-1)), z1, u2)
    else
      some (.inl (rdR 7 (u2 3) i1), z1, u2)
  else
    some (.inr "java/lang/IllegalArgumentException", z, f)
set_option maxRecDepth 100000 in
set_option maxHeartbeats 4000000 in
theorem e_X10_corner {r : LWd} {z f : Nat → Nat → Int32} {i1 : Int32} : m_X10_corner 0 i1 (wA z f r) = (g_X10_corner i1 z f).map (fun q => (q.1, wA q.2.1 q.2.2 r)) := by
  unfold m_X10_corner g_X10_corner
  refine opS rcv_0 ?_
  refine iteE (fun _ => ?_) (fun _ => ?_)
  · refine opS fR_0_2 ?_
    refine opS (fRs_2 (Or.inl rfl)) ?_
    refine opS fR_0_2 ?_
    refine opS (fRs_3 (Or.inl rfl)) ?_
    refine caU (e_X4_wrap (Or.inl rfl)) (fun _ _ => rfl) (fun z1 u2 => ?_)
    refine opS fR_0_2 ?_
    refine opS (fRs_2 (Or.inl rfl)) ?_
    refine opS fI_1_2 ?_
    refine iteE (fun _ => ?_) (fun _ => ?_)
    · rfl
    · refine opS fR_0_2 ?_
      refine opS (fRs_2 (Or.inl rfl)) ?_
      refine opS fR_1_0 ?_
      refine caR (e_X8_at rw_2) rfl ?_
      rfl
  · rfl
def g_X9_bestPoint_b191 (k42 : Nat → Int32 → Int32 → Int32 → Int32 → Int32 → Int32 → Int32 → Int32 → (Nat → Nat → Int32) → (Nat → Nat → Int32) → Option Int32) (k61 : Nat → Int32 → Int32 → Int32 → Int32 → Int32 → Int32 → Int32 → Int32 → Int32 → (Nat → Nat → Int32) → (Nat → Nat → Int32) → Option Int32) (k81 : Nat → Int32 → Int32 → Int32 → Int32 → Int32 → Int32 → Int32 → Int32 → Int32 → Int32 → Int32 → (Nat → Nat → Int32) → (Nat → Nat → Int32) → Option Int32) (a0 : Nat) (i1 : Int32) (i2 : Int32) (i3 : Int32) (i4 : Int32) (i5 : Int32) (i6 : Int32) (i7 : Int32) (i8 : Int32) (i9 : Int32) (i10 : Int32) (i11 : Int32) (z f : Nat → Nat → Int32) : Option Int32 :=
  k81 a0 i1 i2 i3 i4 i5 i6 i7 i8 i9 i10 (i11 + 2) z f
set_option maxRecDepth 100000 in
set_option maxHeartbeats 4000000 in
theorem e_X9_bestPoint_b191 {r : LWd} {z f : Nat → Nat → Int32} {k42 : Nat → Int32 → Int32 → Int32 → Int32 → Int32 → Int32 → Int32 → Int32 → LWd → Option (Int32 × LWd)} {kg42 : Nat → Int32 → Int32 → Int32 → Int32 → Int32 → Int32 → Int32 → Int32 → (Nat → Nat → Int32) → (Nat → Nat → Int32) → Option Int32} (hk42 : ∀ (a0 : Nat) (i1 : Int32) (i2 : Int32) (i3 : Int32) (i4 : Int32) (i5 : Int32) (i6 : Int32) (i7 : Int32) (i8 : Int32) (ha0 : isSt a0), k42 a0 i1 i2 i3 i4 i5 i6 i7 i8 (wA z f r) = (kg42 a0 i1 i2 i3 i4 i5 i6 i7 i8 z f).map (fun x => (x, wA z f r))) {k61 : Nat → Int32 → Int32 → Int32 → Int32 → Int32 → Int32 → Int32 → Int32 → Int32 → LWd → Option (Int32 × LWd)} {kg61 : Nat → Int32 → Int32 → Int32 → Int32 → Int32 → Int32 → Int32 → Int32 → Int32 → (Nat → Nat → Int32) → (Nat → Nat → Int32) → Option Int32} (hk61 : ∀ (a0 : Nat) (i1 : Int32) (i2 : Int32) (i3 : Int32) (i4 : Int32) (i5 : Int32) (i6 : Int32) (i7 : Int32) (i8 : Int32) (i9 : Int32) (ha0 : isSt a0), k61 a0 i1 i2 i3 i4 i5 i6 i7 i8 i9 (wA z f r) = (kg61 a0 i1 i2 i3 i4 i5 i6 i7 i8 i9 z f).map (fun x => (x, wA z f r))) {k81 : Nat → Int32 → Int32 → Int32 → Int32 → Int32 → Int32 → Int32 → Int32 → Int32 → Int32 → Int32 → LWd → Option (Int32 × LWd)} {kg81 : Nat → Int32 → Int32 → Int32 → Int32 → Int32 → Int32 → Int32 → Int32 → Int32 → Int32 → Int32 → (Nat → Nat → Int32) → (Nat → Nat → Int32) → Option Int32} (hk81 : ∀ (a0 : Nat) (i1 : Int32) (i2 : Int32) (i3 : Int32) (i4 : Int32) (i5 : Int32) (i6 : Int32) (i7 : Int32) (i8 : Int32) (i9 : Int32) (i10 : Int32) (i11 : Int32) (ha0 : isSt a0), k81 a0 i1 i2 i3 i4 i5 i6 i7 i8 i9 i10 i11 (wA z f r) = (kg81 a0 i1 i2 i3 i4 i5 i6 i7 i8 i9 i10 i11 z f).map (fun x => (x, wA z f r))) (a0 : Nat) (i1 : Int32) (i2 : Int32) (i3 : Int32) (i4 : Int32) (i5 : Int32) (i6 : Int32) (i7 : Int32) (i8 : Int32) (i9 : Int32) (i10 : Int32) (i11 : Int32) (ha0 : isSt a0) : m_X9_bestPoint_b191 k42 k61 k81 a0 i1 i2 i3 i4 i5 i6 i7 i8 i9 i10 i11 (wA z f r) = (g_X9_bestPoint_b191 kg42 kg61 kg81 a0 i1 i2 i3 i4 i5 i6 i7 i8 i9 i10 i11 z f).map (fun x => (x, wA z f r)) := by
  unfold m_X9_bestPoint_b191 g_X9_bestPoint_b191
  exact hk81 _ _ _ _ _ _ _ _ _ _ _ _ ha0
def g_X9_bestPoint_l81 (k42 : Nat → Int32 → Int32 → Int32 → Int32 → Int32 → Int32 → Int32 → Int32 → (Nat → Nat → Int32) → (Nat → Nat → Int32) → Option Int32) (k61 : Nat → Int32 → Int32 → Int32 → Int32 → Int32 → Int32 → Int32 → Int32 → Int32 → (Nat → Nat → Int32) → (Nat → Nat → Int32) → Option Int32) : Nat → Nat → Int32 → Int32 → Int32 → Int32 → Int32 → Int32 → Int32 → Int32 → Int32 → Int32 → Int32 → (Nat → Nat → Int32) → (Nat → Nat → Int32) → Option Int32
  | 0, _, _, _, _, _, _, _, _, _, _, _, _, _, _ => none
  | fu + 1, a0, i1, i2, i3, i4, i5, i6, i7, i8, i9, i10, i11, z, f =>
    if 1 < i11 then
      k61 a0 i1 i2 i3 i4 i5 i6 i7 i8 (i9 + 1) z f
    else
      (g_X10_pointAt (i3 + (i11 * i10)) (i4 + i9) z f).bind fun x1 =>
      if x1 = ((-1)) then
        g_X9_bestPoint_b191 k42 k61 (fun y0 y1 y2 y3 y4 y5 y6 y7 y8 y9 y10 y11 z f => g_X9_bestPoint_l81 k42 k61 fu y0 y1 y2 y3 y4 y5 y6 y7 y8 y9 y10 y11 z f) a0 i1 i2 i3 i4 i5 i6 i7 i8 i9 i10 i11 z f
      else
        if (i5 * i5) < ((i10 * i10) + (i9 * i9)) then
          g_X9_bestPoint_b191 k42 k61 (fun y0 y1 y2 y3 y4 y5 y6 y7 y8 y9 y10 y11 z f => g_X9_bestPoint_l81 k42 k61 fu y0 y1 y2 y3 y4 y5 y6 y7 y8 y9 y10 y11 z f) a0 i1 i2 i3 i4 i5 i6 i7 i8 i9 i10 i11 z f
        else
          if 2 < (jabs ((rdR 400 (f 14) x1) - i2)) then
            g_X9_bestPoint_b191 k42 k61 (fun y0 y1 y2 y3 y4 y5 y6 y7 y8 y9 y10 y11 z f => g_X9_bestPoint_l81 k42 k61 fu y0 y1 y2 y3 y4 y5 y6 y7 y8 y9 y10 y11 z f) a0 i1 i2 i3 i4 i5 i6 i7 i8 i9 i10 i11 z f
          else
            if i7 ≤ ((10 * (jabs ((rdR 400 (f 14) x1) - i2))) + i8) then
              g_X9_bestPoint_b191 k42 k61 (fun y0 y1 y2 y3 y4 y5 y6 y7 y8 y9 y10 y11 z f => g_X9_bestPoint_l81 k42 k61 fu y0 y1 y2 y3 y4 y5 y6 y7 y8 y9 y10 y11 z f) a0 i1 i2 i3 i4 i5 i6 i7 i8 i9 i10 i11 z f
            else
              (g_X9_isTaken a0 x1 i1 z f).bind fun x2 =>
              if x2 = 0 then
                g_X9_bestPoint_b191 k42 k61 (fun y0 y1 y2 y3 y4 y5 y6 y7 y8 y9 y10 y11 z f => g_X9_bestPoint_l81 k42 k61 fu y0 y1 y2 y3 y4 y5 y6 y7 y8 y9 y10 y11 z f) a0 i1 i2 i3 i4 i5 x1 ((10 * (jabs ((rdR 400 (f 14) x1) - i2))) + i8) i8 i9 i10 i11 z f
              else
                g_X9_bestPoint_b191 k42 k61 (fun y0 y1 y2 y3 y4 y5 y6 y7 y8 y9 y10 y11 z f => g_X9_bestPoint_l81 k42 k61 fu y0 y1 y2 y3 y4 y5 y6 y7 y8 y9 y10 y11 z f) a0 i1 i2 i3 i4 i5 i6 i7 i8 i9 i10 i11 z f
set_option maxRecDepth 100000 in
set_option maxHeartbeats 4000000 in
theorem e_X9_bestPoint_l81 {r : LWd} {z f : Nat → Nat → Int32} {k42 : Nat → Int32 → Int32 → Int32 → Int32 → Int32 → Int32 → Int32 → Int32 → LWd → Option (Int32 × LWd)} {kg42 : Nat → Int32 → Int32 → Int32 → Int32 → Int32 → Int32 → Int32 → Int32 → (Nat → Nat → Int32) → (Nat → Nat → Int32) → Option Int32} (hk42 : ∀ (a0 : Nat) (i1 : Int32) (i2 : Int32) (i3 : Int32) (i4 : Int32) (i5 : Int32) (i6 : Int32) (i7 : Int32) (i8 : Int32) (ha0 : isSt a0), k42 a0 i1 i2 i3 i4 i5 i6 i7 i8 (wA z f r) = (kg42 a0 i1 i2 i3 i4 i5 i6 i7 i8 z f).map (fun x => (x, wA z f r))) {k61 : Nat → Int32 → Int32 → Int32 → Int32 → Int32 → Int32 → Int32 → Int32 → Int32 → LWd → Option (Int32 × LWd)} {kg61 : Nat → Int32 → Int32 → Int32 → Int32 → Int32 → Int32 → Int32 → Int32 → Int32 → (Nat → Nat → Int32) → (Nat → Nat → Int32) → Option Int32} (hk61 : ∀ (a0 : Nat) (i1 : Int32) (i2 : Int32) (i3 : Int32) (i4 : Int32) (i5 : Int32) (i6 : Int32) (i7 : Int32) (i8 : Int32) (i9 : Int32) (ha0 : isSt a0), k61 a0 i1 i2 i3 i4 i5 i6 i7 i8 i9 (wA z f r) = (kg61 a0 i1 i2 i3 i4 i5 i6 i7 i8 i9 z f).map (fun x => (x, wA z f r))) : ∀ (fu : Nat) (a0 : Nat) (i1 : Int32) (i2 : Int32) (i3 : Int32) (i4 : Int32) (i5 : Int32) (i6 : Int32) (i7 : Int32) (i8 : Int32) (i9 : Int32) (i10 : Int32) (i11 : Int32) (ha0 : isSt a0), m_X9_bestPoint_l81 k42 k61 fu a0 i1 i2 i3 i4 i5 i6 i7 i8 i9 i10 i11 (wA z f r) = (g_X9_bestPoint_l81 kg42 kg61 fu a0 i1 i2 i3 i4 i5 i6 i7 i8 i9 i10 i11 z f).map (fun x => (x, wA z f r)) := by
  intro fu
  induction fu with
  | zero => intro a0 i1 i2 i3 i4 i5 i6 i7 i8 i9 i10 i11 ha0; rfl
  | succ fu ih =>
    intro a0 i1 i2 i3 i4 i5 i6 i7 i8 i9 i10 i11 ha0
    rw [m_X9_bestPoint_l81, g_X9_bestPoint_l81]
    refine iteE (fun _ => ?_) (fun _ => ?_)
    · exact hk61 _ _ _ _ _ _ _ _ _ _ ha0
    · refine caP (e_X10_pointAt) (fun x1 => ?_)
      refine opS (fRs_0 ha0) ?_
      refine opS fR_6_3 ?_
      refine caR (e_X8_at rw_13) rfl ?_
      refine iteE (fun _ => ?_) (fun _ => ?_)
      · exact e_X9_bestPoint_b191 (hk42 := hk42) (hk61 := hk61) (hk81 := ih) _ _ _ _ _ _ _ _ _ _ _ _ ha0
      · refine iteE (fun _ => ?_) (fun _ => ?_)
        · exact e_X9_bestPoint_b191 (hk42 := hk42) (hk61 := hk61) (hk81 := ih) _ _ _ _ _ _ _ _ _ _ _ _ ha0
        · refine iteE (fun _ => ?_) (fun _ => ?_)
          · exact e_X9_bestPoint_b191 (hk42 := hk42) (hk61 := hk61) (hk81 := ih) _ _ _ _ _ _ _ _ _ _ _ _ ha0
          · refine iteE (fun _ => ?_) (fun _ => ?_)
            · exact e_X9_bestPoint_b191 (hk42 := hk42) (hk61 := hk61) (hk81 := ih) _ _ _ _ _ _ _ _ _ _ _ _ ha0
            · refine caP (e_X9_isTaken ha0) (fun x2 => ?_)
              refine iteE (fun _ => ?_) (fun _ => ?_)
              · exact e_X9_bestPoint_b191 (hk42 := hk42) (hk61 := hk61) (hk81 := ih) _ _ _ _ _ _ _ _ _ _ _ _ ha0
              · exact e_X9_bestPoint_b191 (hk42 := hk42) (hk61 := hk61) (hk81 := ih) _ _ _ _ _ _ _ _ _ _ _ _ ha0
def g_X9_bestPoint_l61 (k42 : Nat → Int32 → Int32 → Int32 → Int32 → Int32 → Int32 → Int32 → Int32 → (Nat → Nat → Int32) → (Nat → Nat → Int32) → Option Int32) : Nat → Nat → Int32 → Int32 → Int32 → Int32 → Int32 → Int32 → Int32 → Int32 → Int32 → (Nat → Nat → Int32) → (Nat → Nat → Int32) → Option Int32
  | 0, _, _, _, _, _, _, _, _, _, _, _, _ => none
  | fu + 1, a0, i1, i2, i3, i4, i5, i6, i7, i8, i9, z, f =>
    if i8 < i9 then
      k42 a0 i1 i2 i3 i4 i5 i6 i7 (i8 + 1) z f
    else
      g_X9_bestPoint_l81 k42 (fun y0 y1 y2 y3 y4 y5 y6 y7 y8 y9 z f => g_X9_bestPoint_l61 k42 fu y0 y1 y2 y3 y4 y5 y6 y7 y8 y9 z f) FU a0 i1 i2 i3 i4 i5 i6 i7 i8 i9 (i8 - (jabs i9)) ((-1)) z f
set_option maxRecDepth 100000 in
set_option maxHeartbeats 4000000 in
theorem e_X9_bestPoint_l61 {r : LWd} {z f : Nat → Nat → Int32} {k42 : Nat → Int32 → Int32 → Int32 → Int32 → Int32 → Int32 → Int32 → Int32 → LWd → Option (Int32 × LWd)} {kg42 : Nat → Int32 → Int32 → Int32 → Int32 → Int32 → Int32 → Int32 → Int32 → (Nat → Nat → Int32) → (Nat → Nat → Int32) → Option Int32} (hk42 : ∀ (a0 : Nat) (i1 : Int32) (i2 : Int32) (i3 : Int32) (i4 : Int32) (i5 : Int32) (i6 : Int32) (i7 : Int32) (i8 : Int32) (ha0 : isSt a0), k42 a0 i1 i2 i3 i4 i5 i6 i7 i8 (wA z f r) = (kg42 a0 i1 i2 i3 i4 i5 i6 i7 i8 z f).map (fun x => (x, wA z f r))) : ∀ (fu : Nat) (a0 : Nat) (i1 : Int32) (i2 : Int32) (i3 : Int32) (i4 : Int32) (i5 : Int32) (i6 : Int32) (i7 : Int32) (i8 : Int32) (i9 : Int32) (ha0 : isSt a0), m_X9_bestPoint_l61 k42 fu a0 i1 i2 i3 i4 i5 i6 i7 i8 i9 (wA z f r) = (g_X9_bestPoint_l61 kg42 fu a0 i1 i2 i3 i4 i5 i6 i7 i8 i9 z f).map (fun x => (x, wA z f r)) := by
  intro fu
  induction fu with
  | zero => intro a0 i1 i2 i3 i4 i5 i6 i7 i8 i9 ha0; rfl
  | succ fu ih =>
    intro a0 i1 i2 i3 i4 i5 i6 i7 i8 i9 ha0
    rw [m_X9_bestPoint_l61, g_X9_bestPoint_l61]
    refine iteE (fun _ => ?_) (fun _ => ?_)
    · exact hk42 _ _ _ _ _ _ _ _ _ ha0
    · exact e_X9_bestPoint_l81 (hk42 := hk42) (hk61 := ih) FU _ _ _ _ _ _ _ _ _ _ _ _ ha0
def g_X9_bestPoint_l42 : Nat → Nat → Int32 → Int32 → Int32 → Int32 → Int32 → Int32 → Int32 → Int32 → (Nat → Nat → Int32) → (Nat → Nat → Int32) → Option Int32
  | 0, _, _, _, _, _, _, _, _, _, _, _ => none
  | fu + 1, a0, i1, i2, i3, i4, i5, i6, i7, i8, z, f =>
    if 8 < i8 then
      some (i6)
    else
      if i7 ≤ i8 then
        some (i6)
      else
        g_X9_bestPoint_l61 (fun y0 y1 y2 y3 y4 y5 y6 y7 y8 z f => g_X9_bestPoint_l42 fu y0 y1 y2 y3 y4 y5 y6 y7 y8 z f) FU a0 i1 i2 i3 i4 i5 i6 i7 i8 (-i8) z f
set_option maxRecDepth 100000 in
set_option maxHeartbeats 4000000 in
theorem e_X9_bestPoint_l42 {r : LWd} {z f : Nat → Nat → Int32} : ∀ (fu : Nat) (a0 : Nat) (i1 : Int32) (i2 : Int32) (i3 : Int32) (i4 : Int32) (i5 : Int32) (i6 : Int32) (i7 : Int32) (i8 : Int32) (ha0 : isSt a0), m_X9_bestPoint_l42 fu a0 i1 i2 i3 i4 i5 i6 i7 i8 (wA z f r) = (g_X9_bestPoint_l42 fu a0 i1 i2 i3 i4 i5 i6 i7 i8 z f).map (fun x => (x, wA z f r)) := by
  intro fu
  induction fu with
  | zero => intro a0 i1 i2 i3 i4 i5 i6 i7 i8 ha0; rfl
  | succ fu ih =>
    intro a0 i1 i2 i3 i4 i5 i6 i7 i8 ha0
    rw [m_X9_bestPoint_l42, g_X9_bestPoint_l42]
    refine iteE (fun _ => ?_) (fun _ => ?_)
    · rfl
    · refine iteE (fun _ => ?_) (fun _ => ?_)
      · rfl
      · exact e_X9_bestPoint_l61 (hk42 := ih) FU _ _ _ _ _ _ _ _ _ _ ha0
def g_X9_bestPoint (a0 : Nat) (i1 : Int32) (z f : Nat → Nat → Int32) : Option Int32 :=
  (g_X9_level a0 i1 z f).bind fun x1 =>
  (g_X9_hipX a0 i1 z f).bind fun x2 =>
  (g_X9_hipY a0 i1 z f).bind fun x3 =>
  g_X9_bestPoint_l42 FU a0 i1 x1 x2 x3 (rdR 6 (f 21) i1) ((-1)) 2147483647 0 z f
set_option maxRecDepth 100000 in
set_option maxHeartbeats 4000000 in
theorem e_X9_bestPoint {r : LWd} {z f : Nat → Nat → Int32} {a0 : Nat} {i1 : Int32} (ha0 : isSt a0) : m_X9_bestPoint a0 i1 (wA z f r) = (g_X9_bestPoint a0 i1 z f).map (fun x => (x, wA z f r)) := by
  unfold m_X9_bestPoint g_X9_bestPoint
  refine opS (rcvs ha0) ?_
  refine caP (e_X9_level ha0) (fun x1 => ?_)
  refine caP (e_X9_hipX ha0) (fun x2 => ?_)
  refine caP (e_X9_hipY ha0) (fun x3 => ?_)
  refine opS (fRs_1 ha0) ?_
  refine opS fR_15_2 ?_
  refine caR (e_X8_at rw_20) rfl ?_
  exact e_X9_bestPoint_l42 FU _ _ _ _ _ _ _ _ _ ha0
def g_X10_foothold (i1 : Int32) (z f : Nat → Nat → Int32) : Option (Int32 ⊕ String) :=
  (g_X10_isLeg i1 z f).bind fun x1 =>
  if x1 = 0 then
    some (.inr "java/lang/IndexOutOfBoundsException")
  else
    (g_X9_bestPoint 22 i1 z f).bind fun x2 =>
    some (.inl x2)
set_option maxRecDepth 100000 in
set_option maxHeartbeats 4000000 in
theorem e_X10_foothold {r : LWd} {z f : Nat → Nat → Int32} {i1 : Int32} : m_X10_foothold 0 i1 (wA z f r) = (g_X10_foothold i1 z f).map (fun x => (x, wA z f r)) := by
  unfold m_X10_foothold g_X10_foothold
  refine opS rcv_0 ?_
  refine caP (e_X10_isLeg) (fun x1 => ?_)
  refine iteE (fun _ => ?_) (fun _ => ?_)
  · rfl
  · refine opS fR_0_2 ?_
    refine caP (e_X9_bestPoint (Or.inl rfl)) (fun x2 => ?_)
    rfl
def g_X9_sinkAway_b35 (i1 : Int32) (z f : Nat → Nat → Int32) : Option (Int32 × (Nat → Nat → Int32) × (Nat → Nat → Int32)) :=
  if i1 = 0 then
    some (0, z, f)
  else
    some (1, z, f)
set_option maxRecDepth 100000 in
set_option maxHeartbeats 4000000 in
theorem e_X9_sinkAway_b35 {r : LWd} (i1 : Int32) (z f : Nat → Nat → Int32) : m_X9_sinkAway_b35 i1 (wA z f r) = (g_X9_sinkAway_b35 i1 z f).map (fun q => (q.1, wA q.2.1 q.2.2 r)) := by
  unfold m_X9_sinkAway_b35 g_X9_sinkAway_b35
  refine iteE (fun _ => ?_) (fun _ => ?_)
  · rfl
  · rfl
def g_X9_sinkAway_l9 : Nat → Nat → Int32 → Int32 → Int32 → (Nat → Nat → Int32) → (Nat → Nat → Int32) → Option (Int32 × (Nat → Nat → Int32) × (Nat → Nat → Int32))
  | 0, _, _, _, _, _, _ => none
  | fu + 1, a0, i1, i2, i3, z, f =>
    if i2 = 0 then
      g_X9_sinkAway_b35 i1 z f
    else
      if 6 ≤ i3 then
        g_X9_sinkAway_b35 i1 z f
      else
        bn2 (g_X9_raise a0 i2 z f) fun z1 u2 =>
        (g_X9_sinking a0 z1 u2).bind fun x3 =>
        g_X9_sinkAway_l9 fu a0 i1 x3 (i3 + 1) z1 u2
set_option maxRecDepth 100000 in
set_option maxHeartbeats 4000000 in
theorem e_X9_sinkAway_l9 {r : LWd} : ∀ (fu : Nat) (a0 : Nat) (i1 : Int32) (i2 : Int32) (i3 : Int32) (ha0 : isSt a0) (z f : Nat → Nat → Int32), m_X9_sinkAway_l9 fu a0 i1 i2 i3 (wA z f r) = (g_X9_sinkAway_l9 fu a0 i1 i2 i3 z f).map (fun q => (q.1, wA q.2.1 q.2.2 r)) := by
  intro fu
  induction fu with
  | zero => intro a0 i1 i2 i3 ha0 z f; rfl
  | succ fu ih =>
    intro a0 i1 i2 i3 ha0 z f
    rw [m_X9_sinkAway_l9, g_X9_sinkAway_l9]
    refine iteE (fun _ => ?_) (fun _ => ?_)
    · exact e_X9_sinkAway_b35 _  _ _
    · refine iteE (fun _ => ?_) (fun _ => ?_)
      · exact e_X9_sinkAway_b35 _  _ _
      · refine caU (e_X9_raise ha0) (fun _ _ => rfl) (fun z1 u2 => ?_)
        refine caP (e_X9_sinking ha0) (fun x3 => ?_)
        exact ih _ _ _ _ ha0 _ _
def g_X9_sinkAway (a0 : Nat) (z f : Nat → Nat → Int32) : Option (Int32 × (Nat → Nat → Int32) × (Nat → Nat → Int32)) :=
  (g_X9_sinking a0 z f).bind fun x1 =>
  g_X9_sinkAway_l9 FU a0 x1 x1 0 z f
set_option maxRecDepth 100000 in
set_option maxHeartbeats 4000000 in
theorem e_X9_sinkAway {r : LWd} {z f : Nat → Nat → Int32} {a0 : Nat} (ha0 : isSt a0) : m_X9_sinkAway a0 (wA z f r) = (g_X9_sinkAway a0 z f).map (fun q => (q.1, wA q.2.1 q.2.2 r)) := by
  unfold m_X9_sinkAway g_X9_sinkAway
  refine opS (rcvs ha0) ?_
  refine caP (e_X9_sinking ha0) (fun x1 => ?_)
  exact e_X9_sinkAway_l9 FU _ _ _ _ ha0 _ _
def g_X10_wouldLift (i1 : Int32) (z f : Nat → Nat → Int32) : Option ((Int32 ⊕ String) × (Nat → Nat → Int32) × (Nat → Nat → Int32)) :=
  (g_X10_isLeg i1 z f).bind fun x1 =>
  if x1 = 0 then
    some (.inr "java/lang/IndexOutOfBoundsException", z, f)
  else
    bn3 (g_X10_mayLift i1 z f) fun x2 z3 u4 =>
    if x2 = 0 then
      some (.inl ((-1)), z3, u4)
    else
      bn2 (g_X9_copy 25 22 z3 u4) fun z5 u6 =>
      lt2 (wrR u6 27 6 i1 ((-1))) fun u7 =>
      bn3 (g_X9_sinkAway 25 z5 u7) fun x8 z9 u10 =>
      if x8 = 0 then
        some (.inl 0, z9, u10)
      else
        bn3 (g_X9_holdsWithout 25 ((-1)) z9 u10) fun x11 z12 u13 =>
        if x11 = 0 then
          some (.inl 2, z12, u13)
        else
          some (.inl 1, z12, u13)
set_option maxRecDepth 100000 in
set_option maxHeartbeats 4000000 in
theorem e_X10_wouldLift {r : LWd} {z f : Nat → Nat → Int32} {i1 : Int32} : m_X10_wouldLift 0 i1 (wA z f r) = (g_X10_wouldLift i1 z f).map (fun q => (q.1, wA q.2.1 q.2.2 r)) := by
  unfold m_X10_wouldLift g_X10_wouldLift
  refine opS rcv_0 ?_
  refine caP (e_X10_isLeg) (fun x1 => ?_)
  refine iteE (fun _ => ?_) (fun _ => ?_)
  · rfl
  · refine caW (e_X10_mayLift) (fun _ _ => rfl) (fun x2 z3 u4 => ?_)
    refine iteE (fun _ => ?_) (fun _ => ?_)
    · rfl
    · refine opS fR_0_3 ?_
      refine opS fR_0_2 ?_
      refine caU (e_X9_copy (Or.inr (Or.inl rfl)) (Or.inl rfl)) (fun _ _ => rfl) (fun z5 u6 => ?_)
      refine opS fR_0_3 ?_
      refine opS (fRs_3 (Or.inr (Or.inl rfl))) ?_
      refine caV (e_X8_put rw_26) rfl ?_
      refine ltE ?_
      refine opS fR_0_3 ?_
      refine caW (e_X9_sinkAway (Or.inr (Or.inl rfl))) (fun _ _ => rfl) (fun x8 z9 u10 => ?_)
      refine iteE (fun _ => ?_) (fun _ => ?_)
      · rfl
      · refine opS fR_0_3 ?_
        refine caW (e_X9_holdsWithout (Or.inr (Or.inl rfl))) (fun _ _ => rfl) (fun x11 z12 u13 => ?_)
        refine iteE (fun _ => ?_) (fun _ => ?_)
        · rfl
        · rfl
def g_X7_start (a1 : Nat) (i2 : Int32) (z f : Nat → Nat → Int32) : Option ((Nat → Nat → Int32) × (Nat → Nat → Int32)) :=
  lt2 (up2 z 52 2 i2) fun z1 =>
  if 4 ≤ 0 then
    some (z1, f)
  else
    (ixA 4 0).bind fun j2 =>
    bn2 (g_X9_copy (54 + 3 * j2) a1 z1 f) fun z3 u4 =>
    some (z3, u4)
set_option maxRecDepth 100000 in
set_option maxHeartbeats 4000000 in
theorem e_X7_start {r : LWd} {z f : Nat → Nat → Int32} {a1 : Nat} {i2 : Int32} (ha1 : isSt a1) : m_X7_start 52 a1 i2 (wA z f r) = (g_X7_start a1 i2 z f).map (fun q => wA q.1 q.2 r) := by
  unfold m_X7_start g_X7_start
  refine opS rcv_52 ?_
  refine opS pV_52_2 ?_
  refine ltE ?_
  refine opS fR_52_1 ?_
  refine opS aL_53 ?_
  refine iteE (c := (4 : Int32) ≤ 0) (A' := some (up2 z 52 2 i2, f)) (fun _ => ?_) (fun _ => ?_)
  · rfl
  · refine opS fR_52_1 ?_
    refine opM aR_53 (fun j2 hj2 => ?_)
    refine caU (e_X9_copy (isSt_bh hj2) ha1) (fun _ _ => rfl) (fun z3 u4 => ?_)
    rfl
def g_X7_away (i1 : Int32) (z f : Nat → Nat → Int32) : Option Int32 :=
  if i1 < 0 then
    some (400)
  else
    if i1 < 4 then
      (ixA 4 i1).bind fun j1 =>
      (g_X10_xOf (z 52 2) z f).bind fun x2 =>
      (ixA 4 i1).bind fun j3 =>
      (g_X10_yOf (z 52 2) z f).bind fun x4 =>
      some ((jabs ((z (54 + 3 * j1) 4) - x2)) + (jabs ((z (54 + 3 * j3) 5) - x4)))
    else
      some (400)
set_option maxRecDepth 100000 in
set_option maxHeartbeats 4000000 in
theorem e_X7_away {r : LWd} {z f : Nat → Nat → Int32} {i1 : Int32} : m_X7_away 52 i1 (wA z f r) = (g_X7_away i1 z f).map (fun x => (x, wA z f r)) := by
  unfold m_X7_away g_X7_away
  refine opS rcv_52 ?_
  refine iteE (fun _ => ?_) (fun _ => ?_)
  · rfl
  · refine opS fR_52_1 ?_
    refine opS aL_53 ?_
    refine iteE (fun _ => ?_) (fun _ => ?_)
    · refine opS fR_52_1 ?_
      refine opM aR_53 (fun j1 hj1 => ?_)
      refine opS (fIs_4 (isSt_bh hj1)) ?_
      refine opS fI_52_2 ?_
      refine caP (e_X10_xOf) (fun x2 => ?_)
      refine opS fR_52_1 ?_
      refine opM aR_53 (fun j3 hj3 => ?_)
      refine opS (fIs_5 (isSt_bh hj3)) ?_
      refine opS fI_52_2 ?_
      refine caP (e_X10_yOf) (fun x4 => ?_)
      rfl
    · rfl
def g_X9_step_b22 (a0 : Nat) (i1 : Int32) (z f : Nat → Nat → Int32) : Option (Int32 × (Nat → Nat → Int32) × (Nat → Nat → Int32)) :=
  (g_X9_bestPoint a0 i1 z f).bind fun x1 =>
  if x1 = ((-1)) then
    some (0, z, f)
  else
    lt2 (wrR f (a0 + 1 + 1) 6 i1 x1) fun u2 =>
    some (1, z, u2)
set_option maxRecDepth 100000 in
set_option maxHeartbeats 4000000 in
theorem e_X9_step_b22 {r : LWd} (a0 : Nat) (i1 : Int32) (ha0 : isSt a0) (z f : Nat → Nat → Int32) : m_X9_step_b22 a0 i1 (wA z f r) = (g_X9_step_b22 a0 i1 z f).map (fun q => (q.1, wA q.2.1 q.2.2 r)) := by
  unfold m_X9_step_b22 g_X9_step_b22
  refine caP (e_X9_bestPoint ha0) (fun x1 => ?_)
  refine iteE (fun _ => ?_) (fun _ => ?_)
  · rfl
  · refine opS (fRs_3 ha0) ?_
    refine caV (e_X8_put (rw_of (isRw_of ha0))) rfl ?_
    refine ltE ?_
    rfl
def g_X9_step (a0 : Nat) (i1 : Int32) (z f : Nat → Nat → Int32) : Option (Int32 × (Nat → Nat → Int32) × (Nat → Nat → Int32)) :=
  if (rdR 6 (f (a0 + 1 + 1)) i1) = ((-1)) then
    g_X9_step_b22 a0 i1 z f
  else
    bn3 (g_X9_holdsWithout a0 i1 z f) fun x1 z2 u3 =>
    if x1 = 0 then
      some (0, z2, u3)
    else
      g_X9_step_b22 a0 i1 z2 u3
set_option maxRecDepth 100000 in
set_option maxHeartbeats 4000000 in
theorem e_X9_step {r : LWd} {z f : Nat → Nat → Int32} {a0 : Nat} {i1 : Int32} (ha0 : isSt a0) : m_X9_step a0 i1 (wA z f r) = (g_X9_step a0 i1 z f).map (fun q => (q.1, wA q.2.1 q.2.2 r)) := by
  unfold m_X9_step g_X9_step
  refine opS (rcvs ha0) ?_
  refine opS (fRs_3 ha0) ?_
  refine caR (e_X8_at (rw_of (isRw_of ha0))) rfl ?_
  refine iteE (fun _ => ?_) (fun _ => ?_)
  · exact e_X9_step_b22 _ _ ha0 _ _
  · refine caW (e_X9_holdsWithout ha0) (fun _ _ => rfl) (fun x1 z2 u3 => ?_)
    refine iteE (fun _ => ?_) (fun _ => ?_)
    · rfl
    · exact e_X9_step_b22 _ _ ha0 _ _
def g_X7_isMade (i1 : Int32) (i2 : Int32) (z f : Nat → Nat → Int32) : Option (Int32 × (Nat → Nat → Int32) × (Nat → Nat → Int32)) :=
  if i1 < 0 then
    some (0, z, f)
  else
    if (i1 + 1) < 4 then
      (ixA 4 (i1 + 1)).bind fun j1 =>
      (ixA 4 i1).bind fun j2 =>
      bn2 (g_X9_copy (54 + 3 * j1) (54 + 3 * j2) z f) fun z3 u4 =>
      if (i2 - 6) = 0 then
        bn3 (g_X9_moveBody (54 + 3 * j1) ((-1)) 0 z3 u4) fun x5 z6 u7 =>
        rtZw x5 z6 u7
      else
        if (i2 - 6) = 1 then
          bn3 (g_X9_moveBody (54 + 3 * j1) 1 0 z3 u4) fun x8 z9 u10 =>
          rtZw x8 z9 u10
        else
          if (i2 - 6) = 2 then
            bn3 (g_X9_moveBody (54 + 3 * j1) 0 ((-1)) z3 u4) fun x11 z12 u13 =>
            rtZw x11 z12 u13
          else
            if (i2 - 6) = 3 then
              bn3 (g_X9_moveBody (54 + 3 * j1) 0 1 z3 u4) fun x14 z15 u16 =>
              rtZw x14 z15 u16
            else
              if (z3 15 3) ≤ i2 then
                some (0, z3, u4)
              else
                bn3 (g_X9_step (54 + 3 * j1) i2 z3 u4) fun x17 z18 u19 =>
                if x17 = 0 then
                  some (0, z18, u19)
                else
                  some (1, z18, u19)
    else
      some (0, z, f)
set_option maxRecDepth 100000 in
set_option maxHeartbeats 4000000 in
theorem e_X7_isMade {r : LWd} {z f : Nat → Nat → Int32} {i1 : Int32} {i2 : Int32} : m_X7_isMade 52 i1 i2 (wA z f r) = (g_X7_isMade i1 i2 z f).map (fun q => (q.1, wA q.2.1 q.2.2 r)) := by
  unfold m_X7_isMade g_X7_isMade
  refine opS rcv_52 ?_
  refine iteE (fun _ => ?_) (fun _ => ?_)
  · rfl
  · refine opS fR_52_1 ?_
    refine opS aL_53 ?_
    refine iteE (fun _ => ?_) (fun _ => ?_)
    · refine opS fR_52_1 ?_
      refine opM aR_53 (fun j1 hj1 => ?_)
      refine opS fR_52_1 ?_
      refine opM aR_53 (fun j2 hj2 => ?_)
      refine caU (e_X9_copy (isSt_bh hj1) (isSt_bh hj2)) (fun _ _ => rfl) (fun z3 u4 => ?_)
      refine iteE (fun _ => ?_) (fun _ => ?_)
      · refine caW (e_X9_moveBody (isSt_bh hj1)) (fun _ _ => rfl) (fun x5 z6 u7 => ?_)
        exact reZw
      · refine iteE (fun _ => ?_) (fun _ => ?_)
        · refine caW (e_X9_moveBody (isSt_bh hj1)) (fun _ _ => rfl) (fun x8 z9 u10 => ?_)
          exact reZw
        · refine iteE (fun _ => ?_) (fun _ => ?_)
          · refine caW (e_X9_moveBody (isSt_bh hj1)) (fun _ _ => rfl) (fun x11 z12 u13 => ?_)
            exact reZw
          · refine iteE (fun _ => ?_) (fun _ => ?_)
            · refine caW (e_X9_moveBody (isSt_bh hj1)) (fun _ _ => rfl) (fun x14 z15 u16 => ?_)
              exact reZw
            · refine opS fR_52_0 ?_
              refine opS fI_15_3 ?_
              refine iteE (fun _ => ?_) (fun _ => ?_)
              · rfl
              · refine caW (e_X9_step (isSt_bh hj1)) (fun _ _ => rfl) (fun x17 z18 u19 => ?_)
                refine iteE (fun _ => ?_) (fun _ => ?_)
                · rfl
                · rfl
    · rfl
def g_X10_isReachedBy_b59 (gself : Int32 → Int32 → (Nat → Nat → Int32) → (Nat → Nat → Int32) → Option (Int32 × (Nat → Nat → Int32) × (Nat → Nat → Int32))) (k27 : Int32 → Int32 → Int32 → (Nat → Nat → Int32) → (Nat → Nat → Int32) → Option (Int32 × (Nat → Nat → Int32) × (Nat → Nat → Int32))) (i1 : Int32) (i2 : Int32) (i4 : Int32) (z f : Nat → Nat → Int32) : Option (Int32 × (Nat → Nat → Int32) × (Nat → Nat → Int32)) :=
  k27 i1 i2 (i4 + 1) z f
set_option maxRecDepth 100000 in
set_option maxHeartbeats 4000000 in
theorem e_X10_isReachedBy_b59 {r : LWd} {self : Nat → Int32 → Int32 → LWd → Option (Int32 × LWd)} {gself : Int32 → Int32 → (Nat → Nat → Int32) → (Nat → Nat → Int32) → Option (Int32 × (Nat → Nat → Int32) × (Nat → Nat → Int32))} (hself : ∀ (i1 : Int32) (i2 : Int32) (z f : Nat → Nat → Int32), self 52 i1 i2 (wA z f r) = (gself i1 i2 z f).map (fun q => (q.1, wA q.2.1 q.2.2 r))) {k27 : Nat → Int32 → Int32 → Int32 → LWd → Option (Int32 × LWd)} {kg27 : Int32 → Int32 → Int32 → (Nat → Nat → Int32) → (Nat → Nat → Int32) → Option (Int32 × (Nat → Nat → Int32) × (Nat → Nat → Int32))} (hk27 : ∀ (i1 : Int32) (i2 : Int32) (i4 : Int32) (z f : Nat → Nat → Int32), k27 52 i1 i2 i4 (wA z f r) = (kg27 i1 i2 i4 z f).map (fun q => (q.1, wA q.2.1 q.2.2 r))) (i1 : Int32) (i2 : Int32) (i4 : Int32) (z f : Nat → Nat → Int32) : m_X10_isReachedBy_b59 self k27 52 i1 i2 i4 (wA z f r) = (g_X10_isReachedBy_b59 gself kg27 i1 i2 i4 z f).map (fun q => (q.1, wA q.2.1 q.2.2 r)) := by
  unfold m_X10_isReachedBy_b59 g_X10_isReachedBy_b59
  exact hk27 _ _ _  _ _
def g_X10_isReachedBy_l27 (gself : Int32 → Int32 → (Nat → Nat → Int32) → (Nat → Nat → Int32) → Option (Int32 × (Nat → Nat → Int32) × (Nat → Nat → Int32))) : Nat → Int32 → Int32 → Int32 → (Nat → Nat → Int32) → (Nat → Nat → Int32) → Option (Int32 × (Nat → Nat → Int32) × (Nat → Nat → Int32))
  | 0, _, _, _, _, _ => none
  | fu + 1, i1, i2, i4, z, f =>
    if 10 ≤ i4 then
      some (0, z, f)
    else
      bn3 (g_X7_isMade i1 i4 z f) fun x1 z2 u3 =>
      if x1 = 0 then
        g_X10_isReachedBy_b59 gself (fun y0 y1 y2 z f => g_X10_isReachedBy_l27 gself fu y0 y1 y2 z f) i1 i2 i4 z2 u3
      else
        bn3 (gself (i1 + 1) (i2 - 1) z2 u3) fun x4 z5 u6 =>
        if x4 = 0 then
          g_X10_isReachedBy_b59 gself (fun y0 y1 y2 z f => g_X10_isReachedBy_l27 gself fu y0 y1 y2 z f) i1 i2 i4 z5 u6
        else
          some (1, z5, u6)
set_option maxRecDepth 100000 in
set_option maxHeartbeats 4000000 in
theorem e_X10_isReachedBy_l27 {r : LWd} {self : Nat → Int32 → Int32 → LWd → Option (Int32 × LWd)} {gself : Int32 → Int32 → (Nat → Nat → Int32) → (Nat → Nat → Int32) → Option (Int32 × (Nat → Nat → Int32) × (Nat → Nat → Int32))} (hself : ∀ (i1 : Int32) (i2 : Int32) (z f : Nat → Nat → Int32), self 52 i1 i2 (wA z f r) = (gself i1 i2 z f).map (fun q => (q.1, wA q.2.1 q.2.2 r))) : ∀ (fu : Nat) (i1 : Int32) (i2 : Int32) (i4 : Int32) (z f : Nat → Nat → Int32), m_X10_isReachedBy_l27 self fu 52 i1 i2 i4 (wA z f r) = (g_X10_isReachedBy_l27 gself fu i1 i2 i4 z f).map (fun q => (q.1, wA q.2.1 q.2.2 r)) := by
  intro fu
  induction fu with
  | zero => intro i1 i2 i4  z f; rfl
  | succ fu ih =>
    intro i1 i2 i4  z f
    rw [m_X10_isReachedBy_l27, g_X10_isReachedBy_l27]
    refine iteE (fun _ => ?_) (fun _ => ?_)
    · rfl
    · refine caW (e_X7_isMade) (fun _ _ => rfl) (fun x1 z2 u3 => ?_)
      refine iteE (fun _ => ?_) (fun _ => ?_)
      · exact e_X10_isReachedBy_b59 (hk27 := ih) (hself := hself) _ _ _  _ _
      · refine caW (hself _ _ _ _) (fun _ _ => rfl) (fun x4 z5 u6 => ?_)
        refine iteE (fun _ => ?_) (fun _ => ?_)
        · exact e_X10_isReachedBy_b59 (hk27 := ih) (hself := hself) _ _ _  _ _
        · rfl
def g_X10_isReachedBy_o (gself : Int32 → Int32 → (Nat → Nat → Int32) → (Nat → Nat → Int32) → Option (Int32 × (Nat → Nat → Int32) × (Nat → Nat → Int32))) (i1 : Int32) (i2 : Int32) (z f : Nat → Nat → Int32) : Option (Int32 × (Nat → Nat → Int32) × (Nat → Nat → Int32)) :=
  (g_X7_away i1 z f).bind fun x1 =>
  if x1 = 0 then
    some (1, z, f)
  else
    if i2 < x1 then
      some (0, z, f)
    else
      if i1 < 3 then
        g_X10_isReachedBy_l27 gself FU i1 i2 0 z f
      else
        some (0, z, f)
def g_X10_isReachedBy : Nat → Int32 → Int32 → (Nat → Nat → Int32) → (Nat → Nat → Int32) → Option (Int32 × (Nat → Nat → Int32) × (Nat → Nat → Int32))
  | 0, _, _, _, _ => none
  | dd + 1, i1, i2, z, f => g_X10_isReachedBy_o (g_X10_isReachedBy dd) i1 i2 z f
set_option maxRecDepth 100000 in
set_option maxHeartbeats 4000000 in
theorem e_X10_isReachedBy {r : LWd} : ∀ (dd : Nat) (i1 : Int32) (i2 : Int32) (z f : Nat → Nat → Int32), m_X10_isReachedBy dd 52 i1 i2 (wA z f r) = (g_X10_isReachedBy dd i1 i2 z f).map (fun q => (q.1, wA q.2.1 q.2.2 r)) := by
  intro dd
  induction dd with
  | zero => intro i1 i2 z f; rfl
  | succ dd ih =>
    intro i1 i2 z f
    have hself := ih
    rw [m_X10_isReachedBy, g_X10_isReachedBy]
    generalize m_X10_isReachedBy dd = self at hself ⊢
    generalize g_X10_isReachedBy dd = gself at hself ⊢
    unfold m_X10_isReachedBy_o g_X10_isReachedBy_o
    refine caP (e_X7_away) (fun x1 => ?_)
    refine iteE (fun _ => ?_) (fun _ => ?_)
    · rfl
    · refine iteE (fun _ => ?_) (fun _ => ?_)
      · rfl
      · refine iteE (fun _ => ?_) (fun _ => ?_)
        · exact e_X10_isReachedBy_l27 (hself := hself) FU _ _ _  _ _
        · rfl
def g_X10_fewest_l52 : Nat → Int32 → (Nat → Nat → Int32) → (Nat → Nat → Int32) → Option ((Int32 ⊕ String) × (Nat → Nat → Int32) × (Nat → Nat → Int32))
  | 0, _, _, _ => none
  | fu + 1, i4, z, f =>
    if 3 < i4 then
      some (.inl ((-1)), z, f)
    else
      bn3 (g_X10_isReachedBy 4 0 i4 z f) fun x1 z2 u3 =>
      if x1 = 0 then
        g_X10_fewest_l52 fu (i4 + 1) z2 u3
      else
        some (.inl i4, z2, u3)
set_option maxRecDepth 100000 in
set_option maxHeartbeats 4000000 in
theorem e_X10_fewest_l52 {r : LWd} : ∀ (fu : Nat) (i4 : Int32) (z f : Nat → Nat → Int32), m_X10_fewest_l52 fu 0 i4 (wA z f r) = (g_X10_fewest_l52 fu i4 z f).map (fun q => (q.1, wA q.2.1 q.2.2 r)) := by
  intro fu
  induction fu with
  | zero => intro i4  z f; rfl
  | succ fu ih =>
    intro i4  z f
    rw [m_X10_fewest_l52, g_X10_fewest_l52]
    refine iteE (fun _ => ?_) (fun _ => ?_)
    · rfl
    · refine opS fR_0_8 ?_
      refine caW (e_X10_isReachedBy 4 _ _ _ _) (fun _ _ => rfl) (fun x1 z2 u3 => ?_)
      refine iteE (fun _ => ?_) (fun _ => ?_)
      · exact ih _  _ _
      · rfl
def g_X10_fewest (i1 : Int32) (i2 : Int32) (z f : Nat → Nat → Int32) : Option ((Int32 ⊕ String) × (Nat → Nat → Int32) × (Nat → Nat → Int32)) :=
  (g_X10_pointAt i1 i2 z f).bind fun x1 =>
  if x1 = ((-1)) then
    some (.inr "java/lang/IllegalArgumentException", z, f)
  else
    if (z 0 9) = 0 then
      some (.inl ((-1)), z, f)
    else
      bn2 (g_X7_start 22 x1 z f) fun z2 u3 =>
      (g_X7_away 0 z2 u3).bind fun x4 =>
      g_X10_fewest_l52 FU x4 z2 u3
set_option maxRecDepth 100000 in
set_option maxHeartbeats 4000000 in
theorem e_X10_fewest {r : LWd} {z f : Nat → Nat → Int32} {i1 : Int32} {i2 : Int32} : m_X10_fewest 0 i1 i2 (wA z f r) = (g_X10_fewest i1 i2 z f).map (fun q => (q.1, wA q.2.1 q.2.2 r)) := by
  unfold m_X10_fewest g_X10_fewest
  refine opS rcv_0 ?_
  refine caP (e_X10_pointAt) (fun x1 => ?_)
  refine iteE (fun _ => ?_) (fun _ => ?_)
  · rfl
  · refine opS fI_0_9 ?_
    refine iteE (fun _ => ?_) (fun _ => ?_)
    · rfl
    · refine opS fR_0_8 ?_
      refine opS fR_0_2 ?_
      refine caU (e_X7_start (Or.inl rfl)) (fun _ _ => rfl) (fun z2 u3 => ?_)
      refine opS fR_0_8 ?_
      refine caP (e_X7_away) (fun x4 => ?_)
      exact e_X10_fewest_l52 FU _  _ _
def g_X10_shortestRow_b50 (gself : Int32 → (Nat → Nat → Int32) → (Nat → Nat → Int32) → Option (Int32 × (Nat → Nat → Int32) × (Nat → Nat → Int32))) (k23 : Int32 → Int32 → Int32 → (Nat → Nat → Int32) → (Nat → Nat → Int32) → Option (Int32 × (Nat → Nat → Int32) × (Nat → Nat → Int32))) (i1 : Int32) (i2 : Int32) (i3 : Int32) (z f : Nat → Nat → Int32) : Option (Int32 × (Nat → Nat → Int32) × (Nat → Nat → Int32)) :=
  k23 i1 i2 (i3 + 1) z f
set_option maxRecDepth 100000 in
set_option maxHeartbeats 4000000 in
theorem e_X10_shortestRow_b50 {r : LWd} {self : Nat → Int32 → LWd → Option (Int32 × LWd)} {gself : Int32 → (Nat → Nat → Int32) → (Nat → Nat → Int32) → Option (Int32 × (Nat → Nat → Int32) × (Nat → Nat → Int32))} (hself : ∀ (i1 : Int32) (z f : Nat → Nat → Int32), self 52 i1 (wA z f r) = (gself i1 z f).map (fun q => (q.1, wA q.2.1 q.2.2 r))) {k23 : Nat → Int32 → Int32 → Int32 → LWd → Option (Int32 × LWd)} {kg23 : Int32 → Int32 → Int32 → (Nat → Nat → Int32) → (Nat → Nat → Int32) → Option (Int32 × (Nat → Nat → Int32) × (Nat → Nat → Int32))} (hk23 : ∀ (i1 : Int32) (i2 : Int32) (i3 : Int32) (z f : Nat → Nat → Int32), k23 52 i1 i2 i3 (wA z f r) = (kg23 i1 i2 i3 z f).map (fun q => (q.1, wA q.2.1 q.2.2 r))) (i1 : Int32) (i2 : Int32) (i3 : Int32) (z f : Nat → Nat → Int32) : m_X10_shortestRow_b50 self k23 52 i1 i2 i3 (wA z f r) = (g_X10_shortestRow_b50 gself kg23 i1 i2 i3 z f).map (fun q => (q.1, wA q.2.1 q.2.2 r)) := by
  unfold m_X10_shortestRow_b50 g_X10_shortestRow_b50
  exact hk23 _ _ _  _ _
def g_X10_shortestRow_l23 (gself : Int32 → (Nat → Nat → Int32) → (Nat → Nat → Int32) → Option (Int32 × (Nat → Nat → Int32) × (Nat → Nat → Int32))) : Nat → Int32 → Int32 → Int32 → (Nat → Nat → Int32) → (Nat → Nat → Int32) → Option (Int32 × (Nat → Nat → Int32) × (Nat → Nat → Int32))
  | 0, _, _, _, _, _ => none
  | fu + 1, i1, i2, i3, z, f =>
    if 10 ≤ i3 then
      some (i2, z, f)
    else
      bn3 (g_X7_isMade i1 i3 z f) fun x1 z2 u3 =>
      if x1 = 0 then
        g_X10_shortestRow_b50 gself (fun y0 y1 y2 z f => g_X10_shortestRow_l23 gself fu y0 y1 y2 z f) i1 i2 i3 z2 u3
      else
        bn3 (gself (i1 + 1) z2 u3) fun x4 z5 u6 =>
        g_X10_shortestRow_b50 gself (fun y0 y1 y2 z f => g_X10_shortestRow_l23 gself fu y0 y1 y2 z f) i1 (jmin i2 x4) i3 z5 u6
set_option maxRecDepth 100000 in
set_option maxHeartbeats 4000000 in
theorem e_X10_shortestRow_l23 {r : LWd} {self : Nat → Int32 → LWd → Option (Int32 × LWd)} {gself : Int32 → (Nat → Nat → Int32) → (Nat → Nat → Int32) → Option (Int32 × (Nat → Nat → Int32) × (Nat → Nat → Int32))} (hself : ∀ (i1 : Int32) (z f : Nat → Nat → Int32), self 52 i1 (wA z f r) = (gself i1 z f).map (fun q => (q.1, wA q.2.1 q.2.2 r))) : ∀ (fu : Nat) (i1 : Int32) (i2 : Int32) (i3 : Int32) (z f : Nat → Nat → Int32), m_X10_shortestRow_l23 self fu 52 i1 i2 i3 (wA z f r) = (g_X10_shortestRow_l23 gself fu i1 i2 i3 z f).map (fun q => (q.1, wA q.2.1 q.2.2 r)) := by
  intro fu
  induction fu with
  | zero => intro i1 i2 i3  z f; rfl
  | succ fu ih =>
    intro i1 i2 i3  z f
    rw [m_X10_shortestRow_l23, g_X10_shortestRow_l23]
    refine iteE (fun _ => ?_) (fun _ => ?_)
    · rfl
    · refine caW (e_X7_isMade) (fun _ _ => rfl) (fun x1 z2 u3 => ?_)
      refine iteE (fun _ => ?_) (fun _ => ?_)
      · exact e_X10_shortestRow_b50 (hk23 := ih) (hself := hself) _ _ _  _ _
      · refine caW (hself _ _ _) (fun _ _ => rfl) (fun x4 z5 u6 => ?_)
        exact e_X10_shortestRow_b50 (hk23 := ih) (hself := hself) _ _ _  _ _
def g_X10_shortestRow_b13 (gself : Int32 → (Nat → Nat → Int32) → (Nat → Nat → Int32) → Option (Int32 × (Nat → Nat → Int32) × (Nat → Nat → Int32))) (i1 : Int32) (s0 : Int32) (z f : Nat → Nat → Int32) : Option (Int32 × (Nat → Nat → Int32) × (Nat → Nat → Int32)) :=
  if i1 < 3 then
    g_X10_shortestRow_l23 gself FU i1 s0 0 z f
  else
    some (s0, z, f)
set_option maxRecDepth 100000 in
set_option maxHeartbeats 4000000 in
theorem e_X10_shortestRow_b13 {r : LWd} {self : Nat → Int32 → LWd → Option (Int32 × LWd)} {gself : Int32 → (Nat → Nat → Int32) → (Nat → Nat → Int32) → Option (Int32 × (Nat → Nat → Int32) × (Nat → Nat → Int32))} (hself : ∀ (i1 : Int32) (z f : Nat → Nat → Int32), self 52 i1 (wA z f r) = (gself i1 z f).map (fun q => (q.1, wA q.2.1 q.2.2 r))) (i1 : Int32) (s0 : Int32) (z f : Nat → Nat → Int32) : m_X10_shortestRow_b13 self 52 i1 s0 (wA z f r) = (g_X10_shortestRow_b13 gself i1 s0 z f).map (fun q => (q.1, wA q.2.1 q.2.2 r)) := by
  unfold m_X10_shortestRow_b13 g_X10_shortestRow_b13
  refine iteE (fun _ => ?_) (fun _ => ?_)
  · exact e_X10_shortestRow_l23 (hself := hself) FU _ _ _  _ _
  · rfl
def g_X10_shortestRow_o (gself : Int32 → (Nat → Nat → Int32) → (Nat → Nat → Int32) → Option (Int32 × (Nat → Nat → Int32) × (Nat → Nat → Int32))) (i1 : Int32) (z f : Nat → Nat → Int32) : Option (Int32 × (Nat → Nat → Int32) × (Nat → Nat → Int32)) :=
  (g_X7_away i1 z f).bind fun x1 =>
  if x1 = 0 then
    g_X10_shortestRow_b13 gself i1 i1 z f
  else
    g_X10_shortestRow_b13 gself i1 4 z f
def g_X10_shortestRow : Nat → Int32 → (Nat → Nat → Int32) → (Nat → Nat → Int32) → Option (Int32 × (Nat → Nat → Int32) × (Nat → Nat → Int32))
  | 0, _, _, _ => none
  | dd + 1, i1, z, f => g_X10_shortestRow_o (g_X10_shortestRow dd) i1 z f
set_option maxRecDepth 100000 in
set_option maxHeartbeats 4000000 in
theorem e_X10_shortestRow {r : LWd} : ∀ (dd : Nat) (i1 : Int32) (z f : Nat → Nat → Int32), m_X10_shortestRow dd 52 i1 (wA z f r) = (g_X10_shortestRow dd i1 z f).map (fun q => (q.1, wA q.2.1 q.2.2 r)) := by
  intro dd
  induction dd with
  | zero => intro i1 z f; rfl
  | succ dd ih =>
    intro i1 z f
    have hself := ih
    rw [m_X10_shortestRow, g_X10_shortestRow]
    generalize m_X10_shortestRow dd = self at hself ⊢
    generalize g_X10_shortestRow dd = gself at hself ⊢
    unfold m_X10_shortestRow_o g_X10_shortestRow_o
    refine caP (e_X7_away) (fun x1 => ?_)
    refine iteE (fun _ => ?_) (fun _ => ?_)
    · exact e_X10_shortestRow_b13 (hself := hself) _ _  _ _
    · exact e_X10_shortestRow_b13 (hself := hself) _ _  _ _
def g_X10_fewestAnew (i1 : Int32) (i2 : Int32) (z f : Nat → Nat → Int32) : Option ((Int32 ⊕ String) × (Nat → Nat → Int32) × (Nat → Nat → Int32)) :=
  (g_X10_pointAt i1 i2 z f).bind fun x1 =>
  if x1 = ((-1)) then
    some (.inr "java/lang/IllegalArgumentException", z, f)
  else
    if (z 0 9) = 0 then
      some (.inl ((-1)), z, f)
    else
      bn2 (g_X7_start 22 x1 z f) fun z2 u3 =>
      bn3 (g_X10_shortestRow 4 0 z2 u3) fun x4 z5 u6 =>
      if x4 ≤ 3 then
        some (.inl x4, z5, u6)
      else
        some (.inl ((-1)), z5, u6)
set_option maxRecDepth 100000 in
set_option maxHeartbeats 4000000 in
theorem e_X10_fewestAnew {r : LWd} {z f : Nat → Nat → Int32} {i1 : Int32} {i2 : Int32} : m_X10_fewestAnew 0 i1 i2 (wA z f r) = (g_X10_fewestAnew i1 i2 z f).map (fun q => (q.1, wA q.2.1 q.2.2 r)) := by
  unfold m_X10_fewestAnew g_X10_fewestAnew
  refine opS rcv_0 ?_
  refine caP (e_X10_pointAt) (fun x1 => ?_)
  refine iteE (fun _ => ?_) (fun _ => ?_)
  · rfl
  · refine opS fI_0_9 ?_
    refine iteE (fun _ => ?_) (fun _ => ?_)
    · rfl
    · refine opS fR_0_8 ?_
      refine opS fR_0_2 ?_
      refine caU (e_X7_start (Or.inl rfl)) (fun _ _ => rfl) (fun z2 u3 => ?_)
      refine opS fR_0_8 ?_
      refine caW (e_X10_shortestRow 4 _ _ _) (fun _ _ => rfl) (fun x4 z5 u6 => ?_)
      refine iteE (fun _ => ?_) (fun _ => ?_)
      · rfl
      · rfl
def g_X1_kept (z f : Nat → Nat → Int32) : Option Int32 :=
  some (jmin (z 34 3) 40)
set_option maxRecDepth 100000 in
set_option maxHeartbeats 4000000 in
theorem e_X1_kept {r : LWd} {z f : Nat → Nat → Int32} : m_X1_kept 34 (wA z f r) = (g_X1_kept  z f).map (fun x => (x, wA z f r)) := by
  unfold m_X1_kept g_X1_kept
  refine opS rcv_34 ?_
  refine opS fI_34_3 ?_
  rfl
def g_X10_fall_b15 (z f : Nat → Nat → Int32) : Option (Int32 ⊕ String) :=
  some (.inr "java/lang/IndexOutOfBoundsException")
set_option maxRecDepth 100000 in
set_option maxHeartbeats 4000000 in
theorem e_X10_fall_b15 {r : LWd} {z f : Nat → Nat → Int32} : m_X10_fall_b15  (wA z f r) = (g_X10_fall_b15  z f).map (fun x => (x, wA z f r)) := by
  unfold m_X10_fall_b15 g_X10_fall_b15
  rfl
def g_X10_fall (i1 : Int32) (i2 : Int32) (z f : Nat → Nat → Int32) : Option (Int32 ⊕ String) :=
  if i1 < 0 then
    g_X10_fall_b15  z f
  else
    (g_X1_kept  z f).bind fun x1 =>
    if i1 < x1 then
      if i2 = 0 then
        some (.inl (rdR 40 (f 36) i1))
      else
        if i2 = 1 then
          some (.inl (rdR 40 (f 38) i1))
        else
          if i2 = 2 then
            (g_X10_xOf (rdR 40 (f 40) i1) z f).bind fun x2 =>
            some (.inl x2)
          else
            if i2 = 3 then
              (g_X10_yOf (rdR 40 (f 40) i1) z f).bind fun x3 =>
              some (.inl x3)
            else
              some (.inr "java/lang/IllegalArgumentException")
    else
      g_X10_fall_b15  z f
set_option maxRecDepth 100000 in
set_option maxHeartbeats 4000000 in
theorem e_X10_fall {r : LWd} {z f : Nat → Nat → Int32} {i1 : Int32} {i2 : Int32} : m_X10_fall 0 i1 i2 (wA z f r) = (g_X10_fall i1 i2 z f).map (fun x => (x, wA z f r)) := by
  unfold m_X10_fall g_X10_fall
  refine opS rcv_0 ?_
  refine iteE (fun _ => ?_) (fun _ => ?_)
  · exact e_X10_fall_b15  
  · refine opS fR_0_6 ?_
    refine caP (e_X1_kept) (fun x1 => ?_)
    refine iteE (fun _ => ?_) (fun _ => ?_)
    · refine iteE (fun _ => ?_) (fun _ => ?_)
      · refine opS fR_0_6 ?_
        refine opS fR_34_0 ?_
        refine caR (e_X8_at rw_35) rfl ?_
        rfl
      · refine iteE (fun _ => ?_) (fun _ => ?_)
        · refine opS fR_0_6 ?_
          refine opS fR_34_1 ?_
          refine caR (e_X8_at rw_37) rfl ?_
          rfl
        · refine iteE (fun _ => ?_) (fun _ => ?_)
          · refine opS fR_0_6 ?_
            refine opS fR_34_2 ?_
            refine caR (e_X8_at rw_39) rfl ?_
            refine caP (e_X10_xOf) (fun x2 => ?_)
            rfl
          · refine iteE (fun _ => ?_) (fun _ => ?_)
            · refine opS fR_0_6 ?_
              refine opS fR_34_2 ?_
              refine caR (e_X8_at rw_39) rfl ?_
              refine caP (e_X10_yOf) (fun x3 => ?_)
              rfl
            · rfl
    · exact e_X10_fall_b15  
def g_X11_thrown (z f : Nat → Nat → Int32) : Option Int32 :=
  some (z 66 30)
set_option maxRecDepth 100000 in
set_option maxHeartbeats 4000000 in
theorem e_X11_thrown {r : LWd} {z f : Nat → Nat → Int32} : m_X11_thrown 66 (wA z f r) = (g_X11_thrown  z f).map (fun x => (x, wA z f r)) := by
  unfold m_X11_thrown g_X11_thrown
  refine opS rcv_66 ?_
  refine opS fI_66_30 ?_
  rfl
def g_X11_fails (i1 : Int32) (z f : Nat → Nat → Int32) : Option (Int32 × (Nat → Nat → Int32) × (Nat → Nat → Int32)) :=
  lt2 (up2 z 66 30 i1) fun z1 =>
  if i1 ≤ 0 then
    some (0, z1, f)
  else
    some (1, z1, f)
set_option maxRecDepth 100000 in
set_option maxHeartbeats 4000000 in
theorem e_X11_fails {r : LWd} {z f : Nat → Nat → Int32} {i1 : Int32} : m_X11_fails 66 i1 (wA z f r) = (g_X11_fails i1 z f).map (fun q => (q.1, wA q.2.1 q.2.2 r)) := by
  unfold m_X11_fails g_X11_fails
  refine opS rcv_66 ?_
  refine opS pV_66_30 ?_
  refine ltE ?_
  refine iteE (fun _ => ?_) (fun _ => ?_)
  · rfl
  · rfl
def g_X11_isIn (i0 : Int32) (i1 : Int32) (i2 : Int32) (z f : Nat → Nat → Int32) : Option Int32 :=
  if i0 < i1 then
    some (0)
  else
    if i2 < i0 then
      some (0)
    else
      some (1)
set_option maxRecDepth 100000 in
set_option maxHeartbeats 4000000 in
theorem e_X11_isIn {r : LWd} {z f : Nat → Nat → Int32} {i0 : Int32} {i1 : Int32} {i2 : Int32} : m_X11_isIn i0 i1 i2 (wA z f r) = (g_X11_isIn i0 i1 i2 z f).map (fun x => (x, wA z f r)) := by
  unfold m_X11_isIn g_X11_isIn
  refine iteE (fun _ => ?_) (fun _ => ?_)
  · rfl
  · refine iteE (fun _ => ?_) (fun _ => ?_)
    · rfl
    · rfl
def g_X11_isPoint (i0 : Int32) (i1 : Int32) (z f : Nat → Nat → Int32) : Option Int32 :=
  (g_X11_isIn i0 0 19 z f).bind fun x1 =>
  if x1 = 0 then
    some (0)
  else
    (g_X11_isIn i1 0 19 z f).bind fun x2 =>
    if x2 = 0 then
      some (0)
    else
      some (1)
set_option maxRecDepth 100000 in
set_option maxHeartbeats 4000000 in
theorem e_X11_isPoint {r : LWd} {z f : Nat → Nat → Int32} {i0 : Int32} {i1 : Int32} : m_X11_isPoint i0 i1 (wA z f r) = (g_X11_isPoint i0 i1 z f).map (fun x => (x, wA z f r)) := by
  unfold m_X11_isPoint g_X11_isPoint
  refine caP (e_X11_isIn) (fun x1 => ?_)
  refine iteE (fun _ => ?_) (fun _ => ?_)
  · rfl
  · refine caP (e_X11_isIn) (fun x2 => ?_)
    refine iteE (fun _ => ?_) (fun _ => ?_)
    · rfl
    · rfl
def g_X11_at (i0 : Int32) (i1 : Int32) (z f : Nat → Nat → Int32) : Option Int32 :=
  some ((20 * i1) + i0)
set_option maxRecDepth 100000 in
set_option maxHeartbeats 4000000 in
theorem e_X11_at {r : LWd} {z f : Nat → Nat → Int32} {i0 : Int32} {i1 : Int32} : m_X11_at i0 i1 (wA z f r) = (g_X11_at i0 i1 z f).map (fun x => (x, wA z f r)) := by
  unfold m_X11_at g_X11_at
  rfl
def g_X11_isLeg (i1 : Int32) (z f : Nat → Nat → Int32) : Option Int32 :=
  (g_X11_isIn i1 0 ((z 66 11) - 1) z f).bind fun x1 =>
  rtZ x1
set_option maxRecDepth 100000 in
set_option maxHeartbeats 4000000 in
theorem e_X11_isLeg {r : LWd} {z f : Nat → Nat → Int32} {i1 : Int32} : m_X11_isLeg 66 i1 (wA z f r) = (g_X11_isLeg i1 z f).map (fun x => (x, wA z f r)) := by
  unfold m_X11_isLeg g_X11_isLeg
  refine opS rcv_66 ?_
  refine opS fI_66_11 ?_
  refine caP (e_X11_isIn) (fun x1 => ?_)
  exact reZ
def g_X11_isDown (i1 : Int32) (z f : Nat → Nat → Int32) : Option Int32 :=
  if (((z 66 17) >>> (i1 &&& 31)) &&& 1) = 1 then
    some (1)
  else
    some (0)
set_option maxRecDepth 100000 in
set_option maxHeartbeats 4000000 in
theorem e_X11_isDown {r : LWd} {z f : Nat → Nat → Int32} {i1 : Int32} : m_X11_isDown 66 i1 (wA z f r) = (g_X11_isDown i1 z f).map (fun x => (x, wA z f r)) := by
  unfold m_X11_isDown g_X11_isDown
  refine opS rcv_66 ?_
  refine opS fI_66_17 ?_
  refine iteE (fun _ => ?_) (fun _ => ?_)
  · rfl
  · rfl
def g_X11_count_l4 : Nat → Int32 → Int32 → Int32 → (Nat → Nat → Int32) → (Nat → Nat → Int32) → Option Int32
  | 0, _, _, _, _, _ => none
  | fu + 1, i0, i1, i2, z, f =>
    if 6 ≤ i2 then
      some (i1)
    else
      g_X11_count_l4 fu i0 (i1 + ((i0 >>> (i2 &&& 31)) &&& 1)) (i2 + 1) z f
set_option maxRecDepth 100000 in
set_option maxHeartbeats 4000000 in
theorem e_X11_count_l4 {r : LWd} {z f : Nat → Nat → Int32} : ∀ (fu : Nat) (i0 : Int32) (i1 : Int32) (i2 : Int32), m_X11_count_l4 fu i0 i1 i2 (wA z f r) = (g_X11_count_l4 fu i0 i1 i2 z f).map (fun x => (x, wA z f r)) := by
  intro fu
  induction fu with
  | zero => intro i0 i1 i2 ; rfl
  | succ fu ih =>
    intro i0 i1 i2 
    rw [m_X11_count_l4, g_X11_count_l4]
    refine iteE (fun _ => ?_) (fun _ => ?_)
    · rfl
    · exact ih _ _ _ 
def g_X11_count (i0 : Int32) (z f : Nat → Nat → Int32) : Option Int32 :=
  g_X11_count_l4 FU i0 0 0 z f
set_option maxRecDepth 100000 in
set_option maxHeartbeats 4000000 in
theorem e_X11_count {r : LWd} {z f : Nat → Nat → Int32} {i0 : Int32} : m_X11_count i0 (wA z f r) = (g_X11_count i0 z f).map (fun x => (x, wA z f r)) := by
  unfold m_X11_count g_X11_count
  exact e_X11_count_l4 FU _ _ _ 
def g_X11_footAt_b51 (k5 : Int32 → Int32 → Int32 → Int32 → (Nat → Nat → Int32) → (Nat → Nat → Int32) → Option Int32) (i1 : Int32) (i2 : Int32) (i4 : Int32) (s0 : Int32) (z f : Nat → Nat → Int32) : Option Int32 :=
  k5 i1 i2 s0 (i4 + 1) z f
set_option maxRecDepth 100000 in
set_option maxHeartbeats 4000000 in
theorem e_X11_footAt_b51 {r : LWd} {z f : Nat → Nat → Int32} {k5 : Nat → Int32 → Int32 → Int32 → Int32 → LWd → Option (Int32 × LWd)} {kg5 : Int32 → Int32 → Int32 → Int32 → (Nat → Nat → Int32) → (Nat → Nat → Int32) → Option Int32} (hk5 : ∀ (i1 : Int32) (i2 : Int32) (i3 : Int32) (i4 : Int32), k5 66 i1 i2 i3 i4 (wA z f r) = (kg5 i1 i2 i3 i4 z f).map (fun x => (x, wA z f r))) (i1 : Int32) (i2 : Int32) (i4 : Int32) (s0 : Int32) : m_X11_footAt_b51 k5 66 i1 i2 i4 s0 (wA z f r) = (g_X11_footAt_b51 kg5 i1 i2 i4 s0 z f).map (fun x => (x, wA z f r)) := by
  unfold m_X11_footAt_b51 g_X11_footAt_b51
  exact hk5 _ _ _ _ 
def g_X11_footAt_b50 (k5 : Int32 → Int32 → Int32 → Int32 → (Nat → Nat → Int32) → (Nat → Nat → Int32) → Option Int32) (i1 : Int32) (i2 : Int32) (i3 : Int32) (i4 : Int32) (z f : Nat → Nat → Int32) : Option Int32 :=
  g_X11_footAt_b51 k5 i1 i2 i4 i3 z f
set_option maxRecDepth 100000 in
set_option maxHeartbeats 4000000 in
theorem e_X11_footAt_b50 {r : LWd} {z f : Nat → Nat → Int32} {k5 : Nat → Int32 → Int32 → Int32 → Int32 → LWd → Option (Int32 × LWd)} {kg5 : Int32 → Int32 → Int32 → Int32 → (Nat → Nat → Int32) → (Nat → Nat → Int32) → Option Int32} (hk5 : ∀ (i1 : Int32) (i2 : Int32) (i3 : Int32) (i4 : Int32), k5 66 i1 i2 i3 i4 (wA z f r) = (kg5 i1 i2 i3 i4 z f).map (fun x => (x, wA z f r))) (i1 : Int32) (i2 : Int32) (i3 : Int32) (i4 : Int32) : m_X11_footAt_b50 k5 66 i1 i2 i3 i4 (wA z f r) = (g_X11_footAt_b50 kg5 i1 i2 i3 i4 z f).map (fun x => (x, wA z f r)) := by
  unfold m_X11_footAt_b50 g_X11_footAt_b50
  exact e_X11_footAt_b51 (hk5 := hk5) _ _ _ _ 
def g_X11_footAt_l5 : Nat → Int32 → Int32 → Int32 → Int32 → (Nat → Nat → Int32) → (Nat → Nat → Int32) → Option Int32
  | 0, _, _, _, _, _, _ => none
  | fu + 1, i1, i2, i3, i4, z, f =>
    if (z 66 11) ≤ i4 then
      some (i3)
    else
      (g_X11_isDown i4 z f).bind fun x1 =>
      if x1 = 0 then
        g_X11_footAt_b50 (fun y0 y1 y2 y3 z f => g_X11_footAt_l5 fu y0 y1 y2 y3 z f) i1 i2 i3 i4 z f
      else
        (ixA 6 i4).bind fun j2 =>
        if (f 74 j2) = i1 then
          (ixA 6 i4).bind fun j3 =>
          if (f 75 j3) = i2 then
            g_X11_footAt_b51 (fun y0 y1 y2 y3 z f => g_X11_footAt_l5 fu y0 y1 y2 y3 z f) i1 i2 i4 i4 z f
          else
            g_X11_footAt_b50 (fun y0 y1 y2 y3 z f => g_X11_footAt_l5 fu y0 y1 y2 y3 z f) i1 i2 i3 i4 z f
        else
          g_X11_footAt_b50 (fun y0 y1 y2 y3 z f => g_X11_footAt_l5 fu y0 y1 y2 y3 z f) i1 i2 i3 i4 z f
set_option maxRecDepth 100000 in
set_option maxHeartbeats 4000000 in
theorem e_X11_footAt_l5 {r : LWd} {z f : Nat → Nat → Int32} : ∀ (fu : Nat) (i1 : Int32) (i2 : Int32) (i3 : Int32) (i4 : Int32), m_X11_footAt_l5 fu 66 i1 i2 i3 i4 (wA z f r) = (g_X11_footAt_l5 fu i1 i2 i3 i4 z f).map (fun x => (x, wA z f r)) := by
  intro fu
  induction fu with
  | zero => intro i1 i2 i3 i4 ; rfl
  | succ fu ih =>
    intro i1 i2 i3 i4 
    rw [m_X11_footAt_l5, g_X11_footAt_l5]
    refine opS fI_66_11 ?_
    refine iteE (fun _ => ?_) (fun _ => ?_)
    · rfl
    · refine caP (e_X11_isDown) (fun x1 => ?_)
      refine iteE (fun _ => ?_) (fun _ => ?_)
      · exact e_X11_footAt_b50 (hk5 := ih) _ _ _ _ 
      · refine opS fR_66_15 ?_
        refine opM aI_74 (fun j2 hj2 => ?_)
        refine iteE (fun _ => ?_) (fun _ => ?_)
        · refine opS fR_66_16 ?_
          refine opM aI_75 (fun j3 hj3 => ?_)
          refine iteE (fun _ => ?_) (fun _ => ?_)
          · exact e_X11_footAt_b51 (hk5 := ih) _ _ _ _ 
          · exact e_X11_footAt_b50 (hk5 := ih) _ _ _ _ 
        · exact e_X11_footAt_b50 (hk5 := ih) _ _ _ _ 
def g_X11_footAt (i1 : Int32) (i2 : Int32) (z f : Nat → Nat → Int32) : Option Int32 :=
  g_X11_footAt_l5 FU i1 i2 ((-1)) 0 z f
set_option maxRecDepth 100000 in
set_option maxHeartbeats 4000000 in
theorem e_X11_footAt {r : LWd} {z f : Nat → Nat → Int32} {i1 : Int32} {i2 : Int32} : m_X11_footAt 66 i1 i2 (wA z f r) = (g_X11_footAt i1 i2 z f).map (fun x => (x, wA z f r)) := by
  unfold m_X11_footAt g_X11_footAt
  refine opS rcv_66 ?_
  exact e_X11_footAt_l5 FU _ _ _ _ 
def g_X11_ground_b72 (i1 : Int32) (i2 : Int32) (i3 : Int32) (i4 : Int32) (i5 : Int32) (s1 : Int32) (z f : Nat → Nat → Int32) : Option (Int32 × (Nat → Nat → Int32) × (Nat → Nat → Int32)) :=
  bn3 (g_X11_fails s1 z f) fun x1 z2 u3 =>
  if x1 = 0 then
    (g_X11_at i1 i2 z2 u3).bind fun x4 =>
    (ixA 400 x4).bind fun j5 =>
    (g_X11_at i1 i2 z2 u3).bind fun x6 =>
    (ixA 400 x6).bind fun j7 =>
    lt2 (upf u3 67 j7 i3) fun u8 =>
    (g_X11_at i1 i2 z2 u8).bind fun x9 =>
    (ixA 400 x9).bind fun j10 =>
    lt2 (upf u8 68 j10 i4) fun u11 =>
    (g_X11_at i1 i2 z2 u11).bind fun x12 =>
    (ixA 400 x12).bind fun j13 =>
    lt2 (upf u11 69 j13 i5) fun u14 =>
    some (u3 67 j5, z2, u14)
  else
    some (0, z2, u3)
set_option maxRecDepth 100000 in
set_option maxHeartbeats 4000000 in
theorem e_X11_ground_b72 {r : LWd} (i1 : Int32) (i2 : Int32) (i3 : Int32) (i4 : Int32) (i5 : Int32) (s1 : Int32) (z f : Nat → Nat → Int32) : m_X11_ground_b72 66 i1 i2 i3 i4 i5 66 s1 (wA z f r) = (g_X11_ground_b72 i1 i2 i3 i4 i5 s1 z f).map (fun q => (q.1, wA q.2.1 q.2.2 r)) := by
  unfold m_X11_ground_b72 g_X11_ground_b72
  refine caW (e_X11_fails) (fun _ _ => rfl) (fun x1 z2 u3 => ?_)
  refine iteE (fun _ => ?_) (fun _ => ?_)
  · refine opS fR_66_0 ?_
    refine caP (e_X11_at) (fun x4 => ?_)
    refine opM aI_67 (fun j5 hj5 => ?_)
    refine opS fR_66_0 ?_
    refine caP (e_X11_at) (fun x6 => ?_)
    refine opM sI_67 (fun j7 hj7 => ?_)
    refine ltE ?_
    refine opS fR_66_1 ?_
    refine caP (e_X11_at) (fun x9 => ?_)
    refine opM sI_68 (fun j10 hj10 => ?_)
    refine ltE ?_
    refine opS fR_66_2 ?_
    refine caP (e_X11_at) (fun x12 => ?_)
    refine opM sI_69 (fun j13 hj13 => ?_)
    refine ltE ?_
    rfl
  · rfl
def g_X11_ground_b45 (i1 : Int32) (i2 : Int32) (i3 : Int32) (i4 : Int32) (i5 : Int32) (s0 : Int32) (z f : Nat → Nat → Int32) : Option (Int32 × (Nat → Nat → Int32) × (Nat → Nat → Int32)) :=
  if s0 = 0 then
    g_X11_ground_b72 i1 i2 i3 i4 i5 1 z f
  else
    (g_X11_footAt i1 i2 z f).bind fun x1 =>
    if x1 = ((-1)) then
      g_X11_ground_b72 i1 i2 i3 i4 i5 0 z f
    else
      g_X11_ground_b72 i1 i2 i3 i4 i5 2 z f
set_option maxRecDepth 100000 in
set_option maxHeartbeats 4000000 in
theorem e_X11_ground_b45 {r : LWd} (i1 : Int32) (i2 : Int32) (i3 : Int32) (i4 : Int32) (i5 : Int32) (s0 : Int32) (z f : Nat → Nat → Int32) : m_X11_ground_b45 66 i1 i2 i3 i4 i5 s0 (wA z f r) = (g_X11_ground_b45 i1 i2 i3 i4 i5 s0 z f).map (fun q => (q.1, wA q.2.1 q.2.2 r)) := by
  unfold m_X11_ground_b45 g_X11_ground_b45
  refine iteE (fun _ => ?_) (fun _ => ?_)
  · exact e_X11_ground_b72 _ _ _ _ _ _  _ _
  · refine caP (e_X11_footAt) (fun x1 => ?_)
    refine iteE (fun _ => ?_) (fun _ => ?_)
    · exact e_X11_ground_b72 _ _ _ _ _ _  _ _
    · exact e_X11_ground_b72 _ _ _ _ _ _  _ _
def g_X11_ground_b44 (i1 : Int32) (i2 : Int32) (i3 : Int32) (i4 : Int32) (i5 : Int32) (z f : Nat → Nat → Int32) : Option (Int32 × (Nat → Nat → Int32) × (Nat → Nat → Int32)) :=
  g_X11_ground_b45 i1 i2 i3 i4 i5 0 z f
set_option maxRecDepth 100000 in
set_option maxHeartbeats 4000000 in
theorem e_X11_ground_b44 {r : LWd} (i1 : Int32) (i2 : Int32) (i3 : Int32) (i4 : Int32) (i5 : Int32) (z f : Nat → Nat → Int32) : m_X11_ground_b44 66 i1 i2 i3 i4 i5 (wA z f r) = (g_X11_ground_b44 i1 i2 i3 i4 i5 z f).map (fun q => (q.1, wA q.2.1 q.2.2 r)) := by
  unfold m_X11_ground_b44 g_X11_ground_b44
  exact e_X11_ground_b45 _ _ _ _ _ _  _ _
def g_X11_ground (i1 : Int32) (i2 : Int32) (i3 : Int32) (i4 : Int32) (i5 : Int32) (z f : Nat → Nat → Int32) : Option (Int32 × (Nat → Nat → Int32) × (Nat → Nat → Int32)) :=
  (g_X11_isPoint i1 i2 z f).bind fun x1 =>
  if x1 = 0 then
    g_X11_ground_b44 i1 i2 i3 i4 i5 z f
  else
    (g_X11_isIn i3 0 9 z f).bind fun x2 =>
    if x2 = 0 then
      g_X11_ground_b44 i1 i2 i3 i4 i5 z f
    else
      (g_X11_isIn i4 0 99 z f).bind fun x3 =>
      if x3 = 0 then
        g_X11_ground_b44 i1 i2 i3 i4 i5 z f
      else
        (g_X11_isIn i5 0 9 z f).bind fun x4 =>
        if x4 = 0 then
          g_X11_ground_b44 i1 i2 i3 i4 i5 z f
        else
          g_X11_ground_b45 i1 i2 i3 i4 i5 1 z f
set_option maxRecDepth 100000 in
set_option maxHeartbeats 4000000 in
theorem e_X11_ground {r : LWd} {z f : Nat → Nat → Int32} {i1 : Int32} {i2 : Int32} {i3 : Int32} {i4 : Int32} {i5 : Int32} : m_X11_ground 66 i1 i2 i3 i4 i5 (wA z f r) = (g_X11_ground i1 i2 i3 i4 i5 z f).map (fun q => (q.1, wA q.2.1 q.2.2 r)) := by
  unfold m_X11_ground g_X11_ground
  refine opS rcv_66 ?_
  refine caP (e_X11_isPoint) (fun x1 => ?_)
  refine iteE (fun _ => ?_) (fun _ => ?_)
  · exact e_X11_ground_b44 _ _ _ _ _  _ _
  · refine caP (e_X11_isIn) (fun x2 => ?_)
    refine iteE (fun _ => ?_) (fun _ => ?_)
    · exact e_X11_ground_b44 _ _ _ _ _  _ _
    · refine caP (e_X11_isIn) (fun x3 => ?_)
      refine iteE (fun _ => ?_) (fun _ => ?_)
      · exact e_X11_ground_b44 _ _ _ _ _  _ _
      · refine caP (e_X11_isIn) (fun x4 => ?_)
        refine iteE (fun _ => ?_) (fun _ => ?_)
        · exact e_X11_ground_b44 _ _ _ _ _  _ _
        · exact e_X11_ground_b45 _ _ _ _ _ _  _ _
def g_X11_chart_b24 (i1 : Int32) (i2 : Int32) (i3 : Int32) (s1 : Int32) (z f : Nat → Nat → Int32) : Option (Int32 × (Nat → Nat → Int32) × (Nat → Nat → Int32)) :=
  bn3 (g_X11_fails s1 z f) fun x1 z2 u3 =>
  if x1 = 0 then
    (g_X11_at i1 i2 z2 u3).bind fun x4 =>
    (ixA 400 x4).bind fun j5 =>
    (g_X11_at i1 i2 z2 u3).bind fun x6 =>
    (ixA 400 x6).bind fun j7 =>
    lt2 (upf u3 70 j7 i3) fun u8 =>
    some (u3 70 j5, z2, u8)
  else
    some (0, z2, u3)
set_option maxRecDepth 100000 in
set_option maxHeartbeats 4000000 in
theorem e_X11_chart_b24 {r : LWd} (i1 : Int32) (i2 : Int32) (i3 : Int32) (s1 : Int32) (z f : Nat → Nat → Int32) : m_X11_chart_b24 66 i1 i2 i3 66 s1 (wA z f r) = (g_X11_chart_b24 i1 i2 i3 s1 z f).map (fun q => (q.1, wA q.2.1 q.2.2 r)) := by
  unfold m_X11_chart_b24 g_X11_chart_b24
  refine caW (e_X11_fails) (fun _ _ => rfl) (fun x1 z2 u3 => ?_)
  refine iteE (fun _ => ?_) (fun _ => ?_)
  · refine opS fR_66_3 ?_
    refine caP (e_X11_at) (fun x4 => ?_)
    refine opM aI_70 (fun j5 hj5 => ?_)
    refine opS fR_66_3 ?_
    refine caP (e_X11_at) (fun x6 => ?_)
    refine opM sI_70 (fun j7 hj7 => ?_)
    refine ltE ?_
    rfl
  · rfl
def g_X11_chart_b23 (i1 : Int32) (i2 : Int32) (i3 : Int32) (z f : Nat → Nat → Int32) : Option (Int32 × (Nat → Nat → Int32) × (Nat → Nat → Int32)) :=
  g_X11_chart_b24 i1 i2 i3 1 z f
set_option maxRecDepth 100000 in
set_option maxHeartbeats 4000000 in
theorem e_X11_chart_b23 {r : LWd} (i1 : Int32) (i2 : Int32) (i3 : Int32) (z f : Nat → Nat → Int32) : m_X11_chart_b23 66 i1 i2 i3 66 (wA z f r) = (g_X11_chart_b23 i1 i2 i3 z f).map (fun q => (q.1, wA q.2.1 q.2.2 r)) := by
  unfold m_X11_chart_b23 g_X11_chart_b23
  exact e_X11_chart_b24 _ _ _ _  _ _
def g_X11_chart (i1 : Int32) (i2 : Int32) (i3 : Int32) (z f : Nat → Nat → Int32) : Option (Int32 × (Nat → Nat → Int32) × (Nat → Nat → Int32)) :=
  (g_X11_isPoint i1 i2 z f).bind fun x1 =>
  if x1 = 0 then
    g_X11_chart_b23 i1 i2 i3 z f
  else
    (g_X11_isIn i3 0 9 z f).bind fun x2 =>
    if x2 = 0 then
      g_X11_chart_b23 i1 i2 i3 z f
    else
      g_X11_chart_b24 i1 i2 i3 0 z f
set_option maxRecDepth 100000 in
set_option maxHeartbeats 4000000 in
theorem e_X11_chart {r : LWd} {z f : Nat → Nat → Int32} {i1 : Int32} {i2 : Int32} {i3 : Int32} : m_X11_chart 66 i1 i2 i3 (wA z f r) = (g_X11_chart i1 i2 i3 z f).map (fun q => (q.1, wA q.2.1 q.2.2 r)) := by
  unfold m_X11_chart g_X11_chart
  refine opS rcv_66 ?_
  refine caP (e_X11_isPoint) (fun x1 => ?_)
  refine iteE (fun _ => ?_) (fun _ => ?_)
  · exact e_X11_chart_b23 _ _ _  _ _
  · refine caP (e_X11_isIn) (fun x2 => ?_)
    refine iteE (fun _ => ?_) (fun _ => ?_)
    · exact e_X11_chart_b23 _ _ _  _ _
    · exact e_X11_chart_b24 _ _ _ _  _ _
def g_X11_leg_b68 (i1 : Int32) (i2 : Int32) (i3 : Int32) (s1 : Int32) (z f : Nat → Nat → Int32) : Option (Int32 × (Nat → Nat → Int32) × (Nat → Nat → Int32)) :=
  bn3 (g_X11_fails s1 z f) fun x1 z2 u3 =>
  if x1 = 0 then
    (ixA 6 (z2 66 11)).bind fun j4 =>
    lt2 (upf u3 71 j4 i1) fun u5 =>
    (ixA 6 (z2 66 11)).bind fun j6 =>
    lt2 (upf u5 72 j6 i2) fun u7 =>
    (ixA 6 (z2 66 11)).bind fun j8 =>
    lt2 (upf u7 73 j8 i3) fun u9 =>
    lt2 (up2 z2 66 11 ((z2 66 11) + 1)) fun z10 =>
    some ((z10 66 11) - 1, z10, u9)
  else
    some (0, z2, u3)
set_option maxRecDepth 100000 in
set_option maxHeartbeats 4000000 in
theorem e_X11_leg_b68 {r : LWd} (i1 : Int32) (i2 : Int32) (i3 : Int32) (s1 : Int32) (z f : Nat → Nat → Int32) : m_X11_leg_b68 66 i1 i2 i3 66 s1 (wA z f r) = (g_X11_leg_b68 i1 i2 i3 s1 z f).map (fun q => (q.1, wA q.2.1 q.2.2 r)) := by
  unfold m_X11_leg_b68 g_X11_leg_b68
  refine caW (e_X11_fails) (fun _ _ => rfl) (fun x1 z2 u3 => ?_)
  refine iteE (fun _ => ?_) (fun _ => ?_)
  · refine opS fR_66_12 ?_
    refine opS fI_66_11 ?_
    refine opM sI_71 (fun j4 hj4 => ?_)
    refine ltE ?_
    refine opS fR_66_13 ?_
    refine opS fI_66_11 ?_
    refine opM sI_72 (fun j6 hj6 => ?_)
    refine ltE ?_
    refine opS fR_66_14 ?_
    refine opS fI_66_11 ?_
    refine opM sI_73 (fun j8 hj8 => ?_)
    refine ltE ?_
    refine opS fI_66_11 ?_
    refine opS pV_66_11 ?_
    refine ltE ?_
    refine opS fI_66_11 ?_
    rfl
  · rfl
def g_X11_leg_b63 (i1 : Int32) (i2 : Int32) (i3 : Int32) (z f : Nat → Nat → Int32) : Option (Int32 × (Nat → Nat → Int32) × (Nat → Nat → Int32)) :=
  g_X11_leg_b68 i1 i2 i3 2 z f
set_option maxRecDepth 100000 in
set_option maxHeartbeats 4000000 in
theorem e_X11_leg_b63 {r : LWd} (i1 : Int32) (i2 : Int32) (i3 : Int32) (z f : Nat → Nat → Int32) : m_X11_leg_b63 66 i1 i2 i3 66 (wA z f r) = (g_X11_leg_b63 i1 i2 i3 z f).map (fun q => (q.1, wA q.2.1 q.2.2 r)) := by
  unfold m_X11_leg_b63 g_X11_leg_b63
  exact e_X11_leg_b68 _ _ _ _  _ _
def g_X11_leg_b35 (i1 : Int32) (i2 : Int32) (i3 : Int32) (s0 : Int32) (z f : Nat → Nat → Int32) : Option (Int32 × (Nat → Nat → Int32) × (Nat → Nat → Int32)) :=
  if s0 = 0 then
    g_X11_leg_b68 i1 i2 i3 1 z f
  else
    if (z 66 11) = 6 then
      g_X11_leg_b63 i1 i2 i3 z f
    else
      if (z 66 4) = 0 then
        g_X11_leg_b68 i1 i2 i3 0 z f
      else
        g_X11_leg_b63 i1 i2 i3 z f
set_option maxRecDepth 100000 in
set_option maxHeartbeats 4000000 in
theorem e_X11_leg_b35 {r : LWd} (i1 : Int32) (i2 : Int32) (i3 : Int32) (s0 : Int32) (z f : Nat → Nat → Int32) : m_X11_leg_b35 66 i1 i2 i3 s0 (wA z f r) = (g_X11_leg_b35 i1 i2 i3 s0 z f).map (fun q => (q.1, wA q.2.1 q.2.2 r)) := by
  unfold m_X11_leg_b35 g_X11_leg_b35
  refine iteE (fun _ => ?_) (fun _ => ?_)
  · exact e_X11_leg_b68 _ _ _ _  _ _
  · refine opS fI_66_11 ?_
    refine iteE (fun _ => ?_) (fun _ => ?_)
    · exact e_X11_leg_b63 _ _ _  _ _
    · refine opS fI_66_4 ?_
      refine iteE (fun _ => ?_) (fun _ => ?_)
      · exact e_X11_leg_b68 _ _ _ _  _ _
      · exact e_X11_leg_b63 _ _ _  _ _
def g_X11_leg_b34 (i1 : Int32) (i2 : Int32) (i3 : Int32) (z f : Nat → Nat → Int32) : Option (Int32 × (Nat → Nat → Int32) × (Nat → Nat → Int32)) :=
  g_X11_leg_b35 i1 i2 i3 0 z f
set_option maxRecDepth 100000 in
set_option maxHeartbeats 4000000 in
theorem e_X11_leg_b34 {r : LWd} (i1 : Int32) (i2 : Int32) (i3 : Int32) (z f : Nat → Nat → Int32) : m_X11_leg_b34 66 i1 i2 i3 (wA z f r) = (g_X11_leg_b34 i1 i2 i3 z f).map (fun q => (q.1, wA q.2.1 q.2.2 r)) := by
  unfold m_X11_leg_b34 g_X11_leg_b34
  exact e_X11_leg_b35 _ _ _ _  _ _
def g_X11_leg (i1 : Int32) (i2 : Int32) (i3 : Int32) (z f : Nat → Nat → Int32) : Option (Int32 × (Nat → Nat → Int32) × (Nat → Nat → Int32)) :=
  (g_X11_isIn i1 ((-5)) 5 z f).bind fun x1 =>
  if x1 = 0 then
    g_X11_leg_b34 i1 i2 i3 z f
  else
    (g_X11_isIn i2 ((-5)) 5 z f).bind fun x2 =>
    if x2 = 0 then
      g_X11_leg_b34 i1 i2 i3 z f
    else
      (g_X11_isIn i3 1 6 z f).bind fun x3 =>
      if x3 = 0 then
        g_X11_leg_b34 i1 i2 i3 z f
      else
        g_X11_leg_b35 i1 i2 i3 1 z f
set_option maxRecDepth 100000 in
set_option maxHeartbeats 4000000 in
theorem e_X11_leg {r : LWd} {z f : Nat → Nat → Int32} {i1 : Int32} {i2 : Int32} {i3 : Int32} : m_X11_leg 66 i1 i2 i3 (wA z f r) = (g_X11_leg i1 i2 i3 z f).map (fun q => (q.1, wA q.2.1 q.2.2 r)) := by
  unfold m_X11_leg g_X11_leg
  refine opS rcv_66 ?_
  refine caP (e_X11_isIn) (fun x1 => ?_)
  refine iteE (fun _ => ?_) (fun _ => ?_)
  · exact e_X11_leg_b34 _ _ _  _ _
  · refine caP (e_X11_isIn) (fun x2 => ?_)
    refine iteE (fun _ => ?_) (fun _ => ?_)
    · exact e_X11_leg_b34 _ _ _  _ _
    · refine caP (e_X11_isIn) (fun x3 => ?_)
      refine iteE (fun _ => ?_) (fun _ => ?_)
      · exact e_X11_leg_b34 _ _ _  _ _
      · exact e_X11_leg_b35 _ _ _ _  _ _
def g_X11_charge_b50 (s1 : Int32) (z f : Nat → Nat → Int32) : Option (Int32 × (Nat → Nat → Int32) × (Nat → Nat → Int32)) :=
  lt2 (up2 z 66 7 s1) fun z1 =>
  some (z1 66 7, z1, f)
set_option maxRecDepth 100000 in
set_option maxHeartbeats 4000000 in
theorem e_X11_charge_b50 {r : LWd} (s1 : Int32) (z f : Nat → Nat → Int32) : m_X11_charge_b50 66 66 s1 (wA z f r) = (g_X11_charge_b50 s1 z f).map (fun q => (q.1, wA q.2.1 q.2.2 r)) := by
  unfold m_X11_charge_b50 g_X11_charge_b50
  refine opS pV_66_7 ?_
  refine ltE ?_
  refine opS fI_66_7 ?_
  rfl
def g_X11_charge_b17 (i1 : Int32) (s1 : Int32) (z f : Nat → Nat → Int32) : Option (Int32 × (Nat → Nat → Int32) × (Nat → Nat → Int32)) :=
  bn3 (g_X11_fails s1 z f) fun x1 z2 u3 =>
  if x1 = 0 then
    if ((z2 66 7) + i1) ≤ 1000 then
      g_X11_charge_b50 ((z2 66 7) + i1) z2 u3
    else
      g_X11_charge_b50 1000 z2 u3
  else
    some (0, z2, u3)
set_option maxRecDepth 100000 in
set_option maxHeartbeats 4000000 in
theorem e_X11_charge_b17 {r : LWd} (i1 : Int32) (s1 : Int32) (z f : Nat → Nat → Int32) : m_X11_charge_b17 66 i1 66 s1 (wA z f r) = (g_X11_charge_b17 i1 s1 z f).map (fun q => (q.1, wA q.2.1 q.2.2 r)) := by
  unfold m_X11_charge_b17 g_X11_charge_b17
  refine caW (e_X11_fails) (fun _ _ => rfl) (fun x1 z2 u3 => ?_)
  refine iteE (fun _ => ?_) (fun _ => ?_)
  · refine opS fI_66_7 ?_
    refine iteE (fun _ => ?_) (fun _ => ?_)
    · refine opS fI_66_7 ?_
      exact e_X11_charge_b50 _  _ _
    · exact e_X11_charge_b50 _  _ _
  · rfl
def g_X11_charge (i1 : Int32) (z f : Nat → Nat → Int32) : Option (Int32 × (Nat → Nat → Int32) × (Nat → Nat → Int32)) :=
  (g_X11_isIn i1 1 1000 z f).bind fun x1 =>
  if x1 = 0 then
    g_X11_charge_b17 i1 1 z f
  else
    g_X11_charge_b17 i1 0 z f
set_option maxRecDepth 100000 in
set_option maxHeartbeats 4000000 in
theorem e_X11_charge {r : LWd} {z f : Nat → Nat → Int32} {i1 : Int32} : m_X11_charge 66 i1 (wA z f r) = (g_X11_charge i1 z f).map (fun q => (q.1, wA q.2.1 q.2.2 r)) := by
  unfold m_X11_charge g_X11_charge
  refine opS rcv_66 ?_
  refine caP (e_X11_isIn) (fun x1 => ?_)
  refine iteE (fun _ => ?_) (fun _ => ?_)
  · exact e_X11_charge_b17 _ _  _ _
  · exact e_X11_charge_b17 _ _  _ _
def g_X11_phase_b85 (i1 : Int32) (i2 : Int32) (i3 : Int32) (i4 : Int32) (i5 : Int32) (s1 : Int32) (z f : Nat → Nat → Int32) : Option (Int32 × (Nat → Nat → Int32) × (Nat → Nat → Int32)) :=
  bn3 (g_X11_fails s1 z f) fun x1 z2 u3 =>
  if x1 = 0 then
    (ixA 40 (5 * (z2 66 25))).bind fun j4 =>
    lt2 (upf u3 77 j4 i1) fun u5 =>
    (ixA 40 ((5 * (z2 66 25)) + 1)).bind fun j6 =>
    lt2 (upf u5 77 j6 i2) fun u7 =>
    (ixA 40 ((5 * (z2 66 25)) + 2)).bind fun j8 =>
    lt2 (upf u7 77 j8 i3) fun u9 =>
    (ixA 40 ((5 * (z2 66 25)) + 3)).bind fun j10 =>
    lt2 (upf u9 77 j10 i4) fun u11 =>
    (ixA 40 ((5 * (z2 66 25)) + 4)).bind fun j12 =>
    lt2 (upf u11 77 j12 i5) fun u13 =>
    lt2 (up2 z2 66 25 ((z2 66 25) + 1)) fun z14 =>
    some (z14 66 25, z14, u13)
  else
    some (0, z2, u3)
set_option maxRecDepth 100000 in
set_option maxHeartbeats 4000000 in
theorem e_X11_phase_b85 {r : LWd} (i1 : Int32) (i2 : Int32) (i3 : Int32) (i4 : Int32) (i5 : Int32) (s1 : Int32) (z f : Nat → Nat → Int32) : m_X11_phase_b85 66 i1 i2 i3 i4 i5 66 s1 (wA z f r) = (g_X11_phase_b85 i1 i2 i3 i4 i5 s1 z f).map (fun q => (q.1, wA q.2.1 q.2.2 r)) := by
  unfold m_X11_phase_b85 g_X11_phase_b85
  refine caW (e_X11_fails) (fun _ _ => rfl) (fun x1 z2 u3 => ?_)
  refine iteE (fun _ => ?_) (fun _ => ?_)
  · refine opS fI_66_25 ?_
    refine opS fR_66_27 ?_
    refine opM sI_77 (fun j4 hj4 => ?_)
    refine ltE ?_
    refine opS fR_66_27 ?_
    refine opM sI_77 (fun j6 hj6 => ?_)
    refine ltE ?_
    refine opS fR_66_27 ?_
    refine opM sI_77 (fun j8 hj8 => ?_)
    refine ltE ?_
    refine opS fR_66_27 ?_
    refine opM sI_77 (fun j10 hj10 => ?_)
    refine ltE ?_
    refine opS fR_66_27 ?_
    refine opM sI_77 (fun j12 hj12 => ?_)
    refine ltE ?_
    refine opS fI_66_25 ?_
    refine opS pV_66_25 ?_
    refine ltE ?_
    refine opS fI_66_25 ?_
    rfl
  · rfl
def g_X11_phase_b47 (i1 : Int32) (i2 : Int32) (i3 : Int32) (i4 : Int32) (i5 : Int32) (s0 : Int32) (z f : Nat → Nat → Int32) : Option (Int32 × (Nat → Nat → Int32) × (Nat → Nat → Int32)) :=
  (g_X11_isLeg i1 z f).bind fun x1 =>
  if x1 = 0 then
    g_X11_phase_b85 i1 i2 i3 i4 i5 1 z f
  else
    if s0 = 0 then
      g_X11_phase_b85 i1 i2 i3 i4 i5 2 z f
    else
      if (z 66 25) = 8 then
        g_X11_phase_b85 i1 i2 i3 i4 i5 3 z f
      else
        g_X11_phase_b85 i1 i2 i3 i4 i5 0 z f
set_option maxRecDepth 100000 in
set_option maxHeartbeats 4000000 in
theorem e_X11_phase_b47 {r : LWd} (i1 : Int32) (i2 : Int32) (i3 : Int32) (i4 : Int32) (i5 : Int32) (s0 : Int32) (z f : Nat → Nat → Int32) : m_X11_phase_b47 66 i1 i2 i3 i4 i5 s0 (wA z f r) = (g_X11_phase_b47 i1 i2 i3 i4 i5 s0 z f).map (fun q => (q.1, wA q.2.1 q.2.2 r)) := by
  unfold m_X11_phase_b47 g_X11_phase_b47
  refine caP (e_X11_isLeg) (fun x1 => ?_)
  refine iteE (fun _ => ?_) (fun _ => ?_)
  · exact e_X11_phase_b85 _ _ _ _ _ _  _ _
  · refine iteE (fun _ => ?_) (fun _ => ?_)
    · exact e_X11_phase_b85 _ _ _ _ _ _  _ _
    · refine opS fI_66_25 ?_
      refine iteE (fun _ => ?_) (fun _ => ?_)
      · exact e_X11_phase_b85 _ _ _ _ _ _  _ _
      · exact e_X11_phase_b85 _ _ _ _ _ _  _ _
def g_X11_phase_b46 (i1 : Int32) (i2 : Int32) (i3 : Int32) (i4 : Int32) (i5 : Int32) (z f : Nat → Nat → Int32) : Option (Int32 × (Nat → Nat → Int32) × (Nat → Nat → Int32)) :=
  g_X11_phase_b47 i1 i2 i3 i4 i5 0 z f
set_option maxRecDepth 100000 in
set_option maxHeartbeats 4000000 in
theorem e_X11_phase_b46 {r : LWd} (i1 : Int32) (i2 : Int32) (i3 : Int32) (i4 : Int32) (i5 : Int32) (z f : Nat → Nat → Int32) : m_X11_phase_b46 66 i1 i2 i3 i4 i5 (wA z f r) = (g_X11_phase_b46 i1 i2 i3 i4 i5 z f).map (fun q => (q.1, wA q.2.1 q.2.2 r)) := by
  unfold m_X11_phase_b46 g_X11_phase_b46
  exact e_X11_phase_b47 _ _ _ _ _ _  _ _
def g_X11_phase (i1 : Int32) (i2 : Int32) (i3 : Int32) (i4 : Int32) (i5 : Int32) (z f : Nat → Nat → Int32) : Option (Int32 × (Nat → Nat → Int32) × (Nat → Nat → Int32)) :=
  (g_X11_isIn i2 ((-6)) 6 z f).bind fun x1 =>
  if x1 = 0 then
    g_X11_phase_b46 i1 i2 i3 i4 i5 z f
  else
    (g_X11_isIn i3 ((-6)) 6 z f).bind fun x2 =>
    if x2 = 0 then
      g_X11_phase_b46 i1 i2 i3 i4 i5 z f
    else
      (g_X11_isIn i4 ((-1)) 1 z f).bind fun x3 =>
      if x3 = 0 then
        g_X11_phase_b46 i1 i2 i3 i4 i5 z f
      else
        (g_X11_isIn i5 ((-1)) 1 z f).bind fun x4 =>
        if x4 = 0 then
          g_X11_phase_b46 i1 i2 i3 i4 i5 z f
        else
          g_X11_phase_b47 i1 i2 i3 i4 i5 1 z f
set_option maxRecDepth 100000 in
set_option maxHeartbeats 4000000 in
theorem e_X11_phase {r : LWd} {z f : Nat → Nat → Int32} {i1 : Int32} {i2 : Int32} {i3 : Int32} {i4 : Int32} {i5 : Int32} : m_X11_phase 66 i1 i2 i3 i4 i5 (wA z f r) = (g_X11_phase i1 i2 i3 i4 i5 z f).map (fun q => (q.1, wA q.2.1 q.2.2 r)) := by
  unfold m_X11_phase g_X11_phase
  refine opS rcv_66 ?_
  refine caP (e_X11_isIn) (fun x1 => ?_)
  refine iteE (fun _ => ?_) (fun _ => ?_)
  · exact e_X11_phase_b46 _ _ _ _ _  _ _
  · refine caP (e_X11_isIn) (fun x2 => ?_)
    refine iteE (fun _ => ?_) (fun _ => ?_)
    · exact e_X11_phase_b46 _ _ _ _ _  _ _
    · refine caP (e_X11_isIn) (fun x3 => ?_)
      refine iteE (fun _ => ?_) (fun _ => ?_)
      · exact e_X11_phase_b46 _ _ _ _ _  _ _
      · refine caP (e_X11_isIn) (fun x4 => ?_)
        refine iteE (fun _ => ?_) (fun _ => ?_)
        · exact e_X11_phase_b46 _ _ _ _ _  _ _
        · exact e_X11_phase_b47 _ _ _ _ _ _  _ _
def g_X11_halt (z f : Nat → Nat → Int32) : Option (Int32 × (Nat → Nat → Int32) × (Nat → Nat → Int32)) :=
  lt2 (up2 z 66 30 0) fun z1 =>
  lt2 (up2 z1 66 25 0) fun z2 =>
  lt2 (up2 z2 66 26 0) fun z3 =>
  some (z1 66 25, z3, f)
set_option maxRecDepth 100000 in
set_option maxHeartbeats 4000000 in
theorem e_X11_halt {r : LWd} {z f : Nat → Nat → Int32} : m_X11_halt 66 (wA z f r) = (g_X11_halt  z f).map (fun q => (q.1, wA q.2.1 q.2.2 r)) := by
  unfold m_X11_halt g_X11_halt
  refine opS rcv_66 ?_
  refine opS pV_66_30 ?_
  refine ltE ?_
  refine opS fI_66_25 ?_
  refine opS pV_66_25 ?_
  refine ltE ?_
  refine opS pV_66_26 ?_
  refine ltE ?_
  rfl
def g_X11_weight (z f : Nat → Nat → Int32) : Option Int32 :=
  some (10 + (z 66 8))
set_option maxRecDepth 100000 in
set_option maxHeartbeats 4000000 in
theorem e_X11_weight {r : LWd} {z f : Nat → Nat → Int32} : m_X11_weight 66 (wA z f r) = (g_X11_weight  z f).map (fun x => (x, wA z f r)) := by
  unfold m_X11_weight g_X11_weight
  refine opS rcv_66 ?_
  refine opS fI_66_8 ?_
  rfl
def g_X11_momentX (z f : Nat → Nat → Int32) : Option Int32 :=
  (g_X11_weight  z f).bind fun x1 =>
  some ((x1 * (z 66 5)) + ((z 66 8) * (z 66 9)))
set_option maxRecDepth 100000 in
set_option maxHeartbeats 4000000 in
theorem e_X11_momentX {r : LWd} {z f : Nat → Nat → Int32} : m_X11_momentX 66 (wA z f r) = (g_X11_momentX  z f).map (fun x => (x, wA z f r)) := by
  unfold m_X11_momentX g_X11_momentX
  refine opS rcv_66 ?_
  refine caP (e_X11_weight) (fun x1 => ?_)
  refine opS fI_66_5 ?_
  refine opS fI_66_8 ?_
  refine opS fI_66_9 ?_
  rfl
def g_X11_momentY (z f : Nat → Nat → Int32) : Option Int32 :=
  (g_X11_weight  z f).bind fun x1 =>
  some ((x1 * (z 66 6)) + ((z 66 8) * (z 66 10)))
set_option maxRecDepth 100000 in
set_option maxHeartbeats 4000000 in
theorem e_X11_momentY {r : LWd} {z f : Nat → Nat → Int32} : m_X11_momentY 66 (wA z f r) = (g_X11_momentY  z f).map (fun x => (x, wA z f r)) := by
  unfold m_X11_momentY g_X11_momentY
  refine opS rcv_66 ?_
  refine caP (e_X11_weight) (fun x1 => ?_)
  refine opS fI_66_6 ?_
  refine opS fI_66_8 ?_
  refine opS fI_66_10 ?_
  rfl
def g_X11_turn (i1 : Int32) (i2 : Int32) (i3 : Int32) (z f : Nat → Nat → Int32) : Option Int32 :=
  (ixA 6 i2).bind fun j1 =>
  (ixA 6 i1).bind fun j2 =>
  (ixA 6 i3).bind fun j3 =>
  (ixA 6 i1).bind fun j4 =>
  (ixA 6 i2).bind fun j5 =>
  (ixA 6 i1).bind fun j6 =>
  (ixA 6 i3).bind fun j7 =>
  (ixA 6 i1).bind fun j8 =>
  some ((((f 74 j1) - (f 74 j2)) * ((f 75 j3) - (f 75 j4))) - (((f 75 j5) - (f 75 j6)) * ((f 74 j7) - (f 74 j8))))
set_option maxRecDepth 100000 in
set_option maxHeartbeats 4000000 in
theorem e_X11_turn {r : LWd} {z f : Nat → Nat → Int32} {i1 : Int32} {i2 : Int32} {i3 : Int32} : m_X11_turn 66 i1 i2 i3 (wA z f r) = (g_X11_turn i1 i2 i3 z f).map (fun x => (x, wA z f r)) := by
  unfold m_X11_turn g_X11_turn
  refine opS rcv_66 ?_
  refine opS fR_66_15 ?_
  refine opM aI_74 (fun j1 hj1 => ?_)
  refine opS fR_66_15 ?_
  refine opM aI_74 (fun j2 hj2 => ?_)
  refine opS fR_66_16 ?_
  refine opM aI_75 (fun j3 hj3 => ?_)
  refine opS fR_66_16 ?_
  refine opM aI_75 (fun j4 hj4 => ?_)
  refine opS fR_66_16 ?_
  refine opM aI_75 (fun j5 hj5 => ?_)
  refine opS fR_66_16 ?_
  refine opM aI_75 (fun j6 hj6 => ?_)
  refine opS fR_66_15 ?_
  refine opM aI_74 (fun j7 hj7 => ?_)
  refine opS fR_66_15 ?_
  refine opM aI_74 (fun j8 hj8 => ?_)
  rfl
def g_X11_square (i1 : Int32) (i2 : Int32) (z f : Nat → Nat → Int32) : Option Int32 :=
  (ixA 6 i2).bind fun j1 =>
  (ixA 6 i1).bind fun j2 =>
  (ixA 6 i2).bind fun j3 =>
  (ixA 6 i1).bind fun j4 =>
  some ((((f 74 j1) - (f 74 j2)) * ((f 74 j1) - (f 74 j2))) + (((f 75 j3) - (f 75 j4)) * ((f 75 j3) - (f 75 j4))))
set_option maxRecDepth 100000 in
set_option maxHeartbeats 4000000 in
theorem e_X11_square {r : LWd} {z f : Nat → Nat → Int32} {i1 : Int32} {i2 : Int32} : m_X11_square 66 i1 i2 (wA z f r) = (g_X11_square i1 i2 z f).map (fun x => (x, wA z f r)) := by
  unfold m_X11_square g_X11_square
  refine opS rcv_66 ?_
  refine opS fR_66_15 ?_
  refine opM aI_74 (fun j1 hj1 => ?_)
  refine opS fR_66_15 ?_
  refine opM aI_74 (fun j2 hj2 => ?_)
  refine opS fR_66_16 ?_
  refine opM aI_75 (fun j3 hj3 => ?_)
  refine opS fR_66_16 ?_
  refine opM aI_75 (fun j4 hj4 => ?_)
  rfl
def g_X11_hull_b242 (k86 : Int32 → Int32 → Int32 → (Nat → Nat → Int32) → (Nat → Nat → Int32) → Option ((Nat → Nat → Int32) × (Nat → Nat → Int32))) (k129 : Int32 → Int32 → Int32 → Int32 → Int32 → (Nat → Nat → Int32) → (Nat → Nat → Int32) → Option ((Nat → Nat → Int32) × (Nat → Nat → Int32))) (i1 : Int32) (i2 : Int32) (i3 : Int32) (i5 : Int32) (s0 : Int32) (z f : Nat → Nat → Int32) : Option ((Nat → Nat → Int32) × (Nat → Nat → Int32)) :=
  k129 i1 i2 i3 s0 (i5 + 1) z f
set_option maxRecDepth 100000 in
set_option maxHeartbeats 4000000 in
theorem e_X11_hull_b242 {r : LWd} {k86 : Nat → Int32 → Int32 → Int32 → LWd → Option LWd} {kg86 : Int32 → Int32 → Int32 → (Nat → Nat → Int32) → (Nat → Nat → Int32) → Option ((Nat → Nat → Int32) × (Nat → Nat → Int32))} (hk86 : ∀ (i1 : Int32) (i2 : Int32) (i3 : Int32) (z f : Nat → Nat → Int32), k86 66 i1 i2 i3 (wA z f r) = (kg86 i1 i2 i3 z f).map (fun q => wA q.1 q.2 r)) {k129 : Nat → Int32 → Int32 → Int32 → Int32 → Int32 → LWd → Option LWd} {kg129 : Int32 → Int32 → Int32 → Int32 → Int32 → (Nat → Nat → Int32) → (Nat → Nat → Int32) → Option ((Nat → Nat → Int32) × (Nat → Nat → Int32))} (hk129 : ∀ (i1 : Int32) (i2 : Int32) (i3 : Int32) (i4 : Int32) (i5 : Int32) (z f : Nat → Nat → Int32), k129 66 i1 i2 i3 i4 i5 (wA z f r) = (kg129 i1 i2 i3 i4 i5 z f).map (fun q => wA q.1 q.2 r)) (i1 : Int32) (i2 : Int32) (i3 : Int32) (i5 : Int32) (s0 : Int32) (z f : Nat → Nat → Int32) : m_X11_hull_b242 k86 k129 66 i1 i2 i3 i5 s0 (wA z f r) = (g_X11_hull_b242 kg86 kg129 i1 i2 i3 i5 s0 z f).map (fun q => wA q.1 q.2 r) := by
  unfold m_X11_hull_b242 g_X11_hull_b242
  exact hk129 _ _ _ _ _  _ _
def g_X11_hull_b228 (k86 : Int32 → Int32 → Int32 → (Nat → Nat → Int32) → (Nat → Nat → Int32) → Option ((Nat → Nat → Int32) × (Nat → Nat → Int32))) (k129 : Int32 → Int32 → Int32 → Int32 → Int32 → (Nat → Nat → Int32) → (Nat → Nat → Int32) → Option ((Nat → Nat → Int32) × (Nat → Nat → Int32))) (i1 : Int32) (i2 : Int32) (i3 : Int32) (i4 : Int32) (i5 : Int32) (s0 : Int32) (z f : Nat → Nat → Int32) : Option ((Nat → Nat → Int32) × (Nat → Nat → Int32)) :=
  if s0 = 0 then
    g_X11_hull_b242 k86 k129 i1 i2 i3 i5 i4 z f
  else
    g_X11_hull_b242 k86 k129 i1 i2 i3 i5 i5 z f
set_option maxRecDepth 100000 in
set_option maxHeartbeats 4000000 in
theorem e_X11_hull_b228 {r : LWd} {k86 : Nat → Int32 → Int32 → Int32 → LWd → Option LWd} {kg86 : Int32 → Int32 → Int32 → (Nat → Nat → Int32) → (Nat → Nat → Int32) → Option ((Nat → Nat → Int32) × (Nat → Nat → Int32))} (hk86 : ∀ (i1 : Int32) (i2 : Int32) (i3 : Int32) (z f : Nat → Nat → Int32), k86 66 i1 i2 i3 (wA z f r) = (kg86 i1 i2 i3 z f).map (fun q => wA q.1 q.2 r)) {k129 : Nat → Int32 → Int32 → Int32 → Int32 → Int32 → LWd → Option LWd} {kg129 : Int32 → Int32 → Int32 → Int32 → Int32 → (Nat → Nat → Int32) → (Nat → Nat → Int32) → Option ((Nat → Nat → Int32) × (Nat → Nat → Int32))} (hk129 : ∀ (i1 : Int32) (i2 : Int32) (i3 : Int32) (i4 : Int32) (i5 : Int32) (z f : Nat → Nat → Int32), k129 66 i1 i2 i3 i4 i5 (wA z f r) = (kg129 i1 i2 i3 i4 i5 z f).map (fun q => wA q.1 q.2 r)) (i1 : Int32) (i2 : Int32) (i3 : Int32) (i4 : Int32) (i5 : Int32) (s0 : Int32) (z f : Nat → Nat → Int32) : m_X11_hull_b228 k86 k129 66 i1 i2 i3 i4 i5 s0 (wA z f r) = (g_X11_hull_b228 kg86 kg129 i1 i2 i3 i4 i5 s0 z f).map (fun q => wA q.1 q.2 r) := by
  unfold m_X11_hull_b228 g_X11_hull_b228
  refine iteE (fun _ => ?_) (fun _ => ?_)
  · exact e_X11_hull_b242 (hk86 := hk86) (hk129 := hk129) _ _ _ _ _  _ _
  · exact e_X11_hull_b242 (hk86 := hk86) (hk129 := hk129) _ _ _ _ _  _ _
def g_X11_hull_b227 (k86 : Int32 → Int32 → Int32 → (Nat → Nat → Int32) → (Nat → Nat → Int32) → Option ((Nat → Nat → Int32) × (Nat → Nat → Int32))) (k129 : Int32 → Int32 → Int32 → Int32 → Int32 → (Nat → Nat → Int32) → (Nat → Nat → Int32) → Option ((Nat → Nat → Int32) × (Nat → Nat → Int32))) (i1 : Int32) (i2 : Int32) (i3 : Int32) (i4 : Int32) (i5 : Int32) (z f : Nat → Nat → Int32) : Option ((Nat → Nat → Int32) × (Nat → Nat → Int32)) :=
  g_X11_hull_b228 k86 k129 i1 i2 i3 i4 i5 0 z f
set_option maxRecDepth 100000 in
set_option maxHeartbeats 4000000 in
theorem e_X11_hull_b227 {r : LWd} {k86 : Nat → Int32 → Int32 → Int32 → LWd → Option LWd} {kg86 : Int32 → Int32 → Int32 → (Nat → Nat → Int32) → (Nat → Nat → Int32) → Option ((Nat → Nat → Int32) × (Nat → Nat → Int32))} (hk86 : ∀ (i1 : Int32) (i2 : Int32) (i3 : Int32) (z f : Nat → Nat → Int32), k86 66 i1 i2 i3 (wA z f r) = (kg86 i1 i2 i3 z f).map (fun q => wA q.1 q.2 r)) {k129 : Nat → Int32 → Int32 → Int32 → Int32 → Int32 → LWd → Option LWd} {kg129 : Int32 → Int32 → Int32 → Int32 → Int32 → (Nat → Nat → Int32) → (Nat → Nat → Int32) → Option ((Nat → Nat → Int32) × (Nat → Nat → Int32))} (hk129 : ∀ (i1 : Int32) (i2 : Int32) (i3 : Int32) (i4 : Int32) (i5 : Int32) (z f : Nat → Nat → Int32), k129 66 i1 i2 i3 i4 i5 (wA z f r) = (kg129 i1 i2 i3 i4 i5 z f).map (fun q => wA q.1 q.2 r)) (i1 : Int32) (i2 : Int32) (i3 : Int32) (i4 : Int32) (i5 : Int32) (z f : Nat → Nat → Int32) : m_X11_hull_b227 k86 k129 66 i1 i2 i3 i4 i5 (wA z f r) = (g_X11_hull_b227 kg86 kg129 i1 i2 i3 i4 i5 z f).map (fun q => wA q.1 q.2 r) := by
  unfold m_X11_hull_b227 g_X11_hull_b227
  exact e_X11_hull_b228 (hk86 := hk86) (hk129 := hk129) _ _ _ _ _ _  _ _
def g_X11_hull_b223 (k86 : Int32 → Int32 → Int32 → (Nat → Nat → Int32) → (Nat → Nat → Int32) → Option ((Nat → Nat → Int32) × (Nat → Nat → Int32))) (k129 : Int32 → Int32 → Int32 → Int32 → Int32 → (Nat → Nat → Int32) → (Nat → Nat → Int32) → Option ((Nat → Nat → Int32) × (Nat → Nat → Int32))) (i1 : Int32) (i2 : Int32) (i3 : Int32) (i4 : Int32) (i5 : Int32) (z f : Nat → Nat → Int32) : Option ((Nat → Nat → Int32) × (Nat → Nat → Int32)) :=
  g_X11_hull_b228 k86 k129 i1 i2 i3 i4 i5 1 z f
set_option maxRecDepth 100000 in
set_option maxHeartbeats 4000000 in
theorem e_X11_hull_b223 {r : LWd} {k86 : Nat → Int32 → Int32 → Int32 → LWd → Option LWd} {kg86 : Int32 → Int32 → Int32 → (Nat → Nat → Int32) → (Nat → Nat → Int32) → Option ((Nat → Nat → Int32) × (Nat → Nat → Int32))} (hk86 : ∀ (i1 : Int32) (i2 : Int32) (i3 : Int32) (z f : Nat → Nat → Int32), k86 66 i1 i2 i3 (wA z f r) = (kg86 i1 i2 i3 z f).map (fun q => wA q.1 q.2 r)) {k129 : Nat → Int32 → Int32 → Int32 → Int32 → Int32 → LWd → Option LWd} {kg129 : Int32 → Int32 → Int32 → Int32 → Int32 → (Nat → Nat → Int32) → (Nat → Nat → Int32) → Option ((Nat → Nat → Int32) × (Nat → Nat → Int32))} (hk129 : ∀ (i1 : Int32) (i2 : Int32) (i3 : Int32) (i4 : Int32) (i5 : Int32) (z f : Nat → Nat → Int32), k129 66 i1 i2 i3 i4 i5 (wA z f r) = (kg129 i1 i2 i3 i4 i5 z f).map (fun q => wA q.1 q.2 r)) (i1 : Int32) (i2 : Int32) (i3 : Int32) (i4 : Int32) (i5 : Int32) (z f : Nat → Nat → Int32) : m_X11_hull_b223 k86 k129 66 i1 i2 i3 i4 i5 (wA z f r) = (g_X11_hull_b223 kg86 kg129 i1 i2 i3 i4 i5 z f).map (fun q => wA q.1 q.2 r) := by
  unfold m_X11_hull_b223 g_X11_hull_b223
  exact e_X11_hull_b228 (hk86 := hk86) (hk129 := hk129) _ _ _ _ _ _  _ _
def g_X11_hull_b183 (k86 : Int32 → Int32 → Int32 → (Nat → Nat → Int32) → (Nat → Nat → Int32) → Option ((Nat → Nat → Int32) × (Nat → Nat → Int32))) (k129 : Int32 → Int32 → Int32 → Int32 → Int32 → (Nat → Nat → Int32) → (Nat → Nat → Int32) → Option ((Nat → Nat → Int32) × (Nat → Nat → Int32))) (i1 : Int32) (i2 : Int32) (i3 : Int32) (i4 : Int32) (i5 : Int32) (i6 : Int32) (s0 : Int32) (z f : Nat → Nat → Int32) : Option ((Nat → Nat → Int32) × (Nat → Nat → Int32)) :=
  if i6 = 0 then
    g_X11_hull_b227 k86 k129 i1 i2 i3 i4 i5 z f
  else
    if i4 = ((-1)) then
      g_X11_hull_b223 k86 k129 i1 i2 i3 i4 i5 z f
    else
      if s0 < 0 then
        g_X11_hull_b223 k86 k129 i1 i2 i3 i4 i5 z f
      else
        if s0 = 0 then
          (g_X11_square i3 i5 z f).bind fun x1 =>
          (g_X11_square i3 i4 z f).bind fun x2 =>
          if x1 ≤ x2 then
            g_X11_hull_b227 k86 k129 i1 i2 i3 i4 i5 z f
          else
            g_X11_hull_b223 k86 k129 i1 i2 i3 i4 i5 z f
        else
          g_X11_hull_b227 k86 k129 i1 i2 i3 i4 i5 z f
set_option maxRecDepth 100000 in
set_option maxHeartbeats 4000000 in
theorem e_X11_hull_b183 {r : LWd} {k86 : Nat → Int32 → Int32 → Int32 → LWd → Option LWd} {kg86 : Int32 → Int32 → Int32 → (Nat → Nat → Int32) → (Nat → Nat → Int32) → Option ((Nat → Nat → Int32) × (Nat → Nat → Int32))} (hk86 : ∀ (i1 : Int32) (i2 : Int32) (i3 : Int32) (z f : Nat → Nat → Int32), k86 66 i1 i2 i3 (wA z f r) = (kg86 i1 i2 i3 z f).map (fun q => wA q.1 q.2 r)) {k129 : Nat → Int32 → Int32 → Int32 → Int32 → Int32 → LWd → Option LWd} {kg129 : Int32 → Int32 → Int32 → Int32 → Int32 → (Nat → Nat → Int32) → (Nat → Nat → Int32) → Option ((Nat → Nat → Int32) × (Nat → Nat → Int32))} (hk129 : ∀ (i1 : Int32) (i2 : Int32) (i3 : Int32) (i4 : Int32) (i5 : Int32) (z f : Nat → Nat → Int32), k129 66 i1 i2 i3 i4 i5 (wA z f r) = (kg129 i1 i2 i3 i4 i5 z f).map (fun q => wA q.1 q.2 r)) (i1 : Int32) (i2 : Int32) (i3 : Int32) (i4 : Int32) (i5 : Int32) (i6 : Int32) (s0 : Int32) (z f : Nat → Nat → Int32) : m_X11_hull_b183 k86 k129 66 i1 i2 i3 i4 i5 i6 s0 (wA z f r) = (g_X11_hull_b183 kg86 kg129 i1 i2 i3 i4 i5 i6 s0 z f).map (fun q => wA q.1 q.2 r) := by
  unfold m_X11_hull_b183 g_X11_hull_b183
  refine iteE (fun _ => ?_) (fun _ => ?_)
  · exact e_X11_hull_b227 (hk86 := hk86) (hk129 := hk129) _ _ _ _ _  _ _
  · refine iteE (fun _ => ?_) (fun _ => ?_)
    · exact e_X11_hull_b223 (hk86 := hk86) (hk129 := hk129) _ _ _ _ _  _ _
    · refine iteE (fun _ => ?_) (fun _ => ?_)
      · exact e_X11_hull_b223 (hk86 := hk86) (hk129 := hk129) _ _ _ _ _  _ _
      · refine iteE (fun _ => ?_) (fun _ => ?_)
        · refine caP (e_X11_square) (fun x1 => ?_)
          refine caP (e_X11_square) (fun x2 => ?_)
          refine iteE (fun _ => ?_) (fun _ => ?_)
          · exact e_X11_hull_b227 (hk86 := hk86) (hk129 := hk129) _ _ _ _ _  _ _
          · exact e_X11_hull_b223 (hk86 := hk86) (hk129 := hk129) _ _ _ _ _  _ _
        · exact e_X11_hull_b227 (hk86 := hk86) (hk129 := hk129) _ _ _ _ _  _ _
def g_X11_hull_b182 (k86 : Int32 → Int32 → Int32 → (Nat → Nat → Int32) → (Nat → Nat → Int32) → Option ((Nat → Nat → Int32) × (Nat → Nat → Int32))) (k129 : Int32 → Int32 → Int32 → Int32 → Int32 → (Nat → Nat → Int32) → (Nat → Nat → Int32) → Option ((Nat → Nat → Int32) × (Nat → Nat → Int32))) (i1 : Int32) (i2 : Int32) (i3 : Int32) (i4 : Int32) (i5 : Int32) (i6 : Int32) (z f : Nat → Nat → Int32) : Option ((Nat → Nat → Int32) × (Nat → Nat → Int32)) :=
  g_X11_hull_b183 k86 k129 i1 i2 i3 i4 i5 i6 0 z f
set_option maxRecDepth 100000 in
set_option maxHeartbeats 4000000 in
theorem e_X11_hull_b182 {r : LWd} {k86 : Nat → Int32 → Int32 → Int32 → LWd → Option LWd} {kg86 : Int32 → Int32 → Int32 → (Nat → Nat → Int32) → (Nat → Nat → Int32) → Option ((Nat → Nat → Int32) × (Nat → Nat → Int32))} (hk86 : ∀ (i1 : Int32) (i2 : Int32) (i3 : Int32) (z f : Nat → Nat → Int32), k86 66 i1 i2 i3 (wA z f r) = (kg86 i1 i2 i3 z f).map (fun q => wA q.1 q.2 r)) {k129 : Nat → Int32 → Int32 → Int32 → Int32 → Int32 → LWd → Option LWd} {kg129 : Int32 → Int32 → Int32 → Int32 → Int32 → (Nat → Nat → Int32) → (Nat → Nat → Int32) → Option ((Nat → Nat → Int32) × (Nat → Nat → Int32))} (hk129 : ∀ (i1 : Int32) (i2 : Int32) (i3 : Int32) (i4 : Int32) (i5 : Int32) (z f : Nat → Nat → Int32), k129 66 i1 i2 i3 i4 i5 (wA z f r) = (kg129 i1 i2 i3 i4 i5 z f).map (fun q => wA q.1 q.2 r)) (i1 : Int32) (i2 : Int32) (i3 : Int32) (i4 : Int32) (i5 : Int32) (i6 : Int32) (z f : Nat → Nat → Int32) : m_X11_hull_b182 k86 k129 66 i1 i2 i3 i4 i5 i6 (wA z f r) = (g_X11_hull_b182 kg86 kg129 i1 i2 i3 i4 i5 i6 z f).map (fun q => wA q.1 q.2 r) := by
  unfold m_X11_hull_b182 g_X11_hull_b182
  exact e_X11_hull_b183 (hk86 := hk86) (hk129 := hk129) _ _ _ _ _ _ _  _ _
def g_X11_hull_b157 (k86 : Int32 → Int32 → Int32 → (Nat → Nat → Int32) → (Nat → Nat → Int32) → Option ((Nat → Nat → Int32) × (Nat → Nat → Int32))) (k129 : Int32 → Int32 → Int32 → Int32 → Int32 → (Nat → Nat → Int32) → (Nat → Nat → Int32) → Option ((Nat → Nat → Int32) × (Nat → Nat → Int32))) (i1 : Int32) (i2 : Int32) (i3 : Int32) (i4 : Int32) (i5 : Int32) (s0 : Int32) (z f : Nat → Nat → Int32) : Option ((Nat → Nat → Int32) × (Nat → Nat → Int32)) :=
  if s0 = 0 then
    g_X11_hull_b182 k86 k129 i1 i2 i3 i4 i5 s0 z f
  else
    if i4 = ((-1)) then
      g_X11_hull_b182 k86 k129 i1 i2 i3 i4 i5 s0 z f
    else
      (g_X11_turn i3 i4 i5 z f).bind fun x1 =>
      g_X11_hull_b183 k86 k129 i1 i2 i3 i4 i5 s0 x1 z f
set_option maxRecDepth 100000 in
set_option maxHeartbeats 4000000 in
theorem e_X11_hull_b157 {r : LWd} {k86 : Nat → Int32 → Int32 → Int32 → LWd → Option LWd} {kg86 : Int32 → Int32 → Int32 → (Nat → Nat → Int32) → (Nat → Nat → Int32) → Option ((Nat → Nat → Int32) × (Nat → Nat → Int32))} (hk86 : ∀ (i1 : Int32) (i2 : Int32) (i3 : Int32) (z f : Nat → Nat → Int32), k86 66 i1 i2 i3 (wA z f r) = (kg86 i1 i2 i3 z f).map (fun q => wA q.1 q.2 r)) {k129 : Nat → Int32 → Int32 → Int32 → Int32 → Int32 → LWd → Option LWd} {kg129 : Int32 → Int32 → Int32 → Int32 → Int32 → (Nat → Nat → Int32) → (Nat → Nat → Int32) → Option ((Nat → Nat → Int32) × (Nat → Nat → Int32))} (hk129 : ∀ (i1 : Int32) (i2 : Int32) (i3 : Int32) (i4 : Int32) (i5 : Int32) (z f : Nat → Nat → Int32), k129 66 i1 i2 i3 i4 i5 (wA z f r) = (kg129 i1 i2 i3 i4 i5 z f).map (fun q => wA q.1 q.2 r)) (i1 : Int32) (i2 : Int32) (i3 : Int32) (i4 : Int32) (i5 : Int32) (s0 : Int32) (z f : Nat → Nat → Int32) : m_X11_hull_b157 k86 k129 66 i1 i2 i3 i4 i5 s0 (wA z f r) = (g_X11_hull_b157 kg86 kg129 i1 i2 i3 i4 i5 s0 z f).map (fun q => wA q.1 q.2 r) := by
  unfold m_X11_hull_b157 g_X11_hull_b157
  refine iteE (fun _ => ?_) (fun _ => ?_)
  · exact e_X11_hull_b182 (hk86 := hk86) (hk129 := hk129) _ _ _ _ _ _  _ _
  · refine iteE (fun _ => ?_) (fun _ => ?_)
    · exact e_X11_hull_b182 (hk86 := hk86) (hk129 := hk129) _ _ _ _ _ _  _ _
    · refine caP (e_X11_turn) (fun x1 => ?_)
      exact e_X11_hull_b183 (hk86 := hk86) (hk129 := hk129) _ _ _ _ _ _ _  _ _
def g_X11_hull_b156 (k86 : Int32 → Int32 → Int32 → (Nat → Nat → Int32) → (Nat → Nat → Int32) → Option ((Nat → Nat → Int32) × (Nat → Nat → Int32))) (k129 : Int32 → Int32 → Int32 → Int32 → Int32 → (Nat → Nat → Int32) → (Nat → Nat → Int32) → Option ((Nat → Nat → Int32) × (Nat → Nat → Int32))) (i1 : Int32) (i2 : Int32) (i3 : Int32) (i4 : Int32) (i5 : Int32) (z f : Nat → Nat → Int32) : Option ((Nat → Nat → Int32) × (Nat → Nat → Int32)) :=
  g_X11_hull_b157 k86 k129 i1 i2 i3 i4 i5 0 z f
set_option maxRecDepth 100000 in
set_option maxHeartbeats 4000000 in
theorem e_X11_hull_b156 {r : LWd} {k86 : Nat → Int32 → Int32 → Int32 → LWd → Option LWd} {kg86 : Int32 → Int32 → Int32 → (Nat → Nat → Int32) → (Nat → Nat → Int32) → Option ((Nat → Nat → Int32) × (Nat → Nat → Int32))} (hk86 : ∀ (i1 : Int32) (i2 : Int32) (i3 : Int32) (z f : Nat → Nat → Int32), k86 66 i1 i2 i3 (wA z f r) = (kg86 i1 i2 i3 z f).map (fun q => wA q.1 q.2 r)) {k129 : Nat → Int32 → Int32 → Int32 → Int32 → Int32 → LWd → Option LWd} {kg129 : Int32 → Int32 → Int32 → Int32 → Int32 → (Nat → Nat → Int32) → (Nat → Nat → Int32) → Option ((Nat → Nat → Int32) × (Nat → Nat → Int32))} (hk129 : ∀ (i1 : Int32) (i2 : Int32) (i3 : Int32) (i4 : Int32) (i5 : Int32) (z f : Nat → Nat → Int32), k129 66 i1 i2 i3 i4 i5 (wA z f r) = (kg129 i1 i2 i3 i4 i5 z f).map (fun q => wA q.1 q.2 r)) (i1 : Int32) (i2 : Int32) (i3 : Int32) (i4 : Int32) (i5 : Int32) (z f : Nat → Nat → Int32) : m_X11_hull_b156 k86 k129 66 i1 i2 i3 i4 i5 (wA z f r) = (g_X11_hull_b156 kg86 kg129 i1 i2 i3 i4 i5 z f).map (fun q => wA q.1 q.2 r) := by
  unfold m_X11_hull_b156 g_X11_hull_b156
  exact e_X11_hull_b157 (hk86 := hk86) (hk129 := hk129) _ _ _ _ _ _  _ _
def g_X11_hull_l129 (k86 : Int32 → Int32 → Int32 → (Nat → Nat → Int32) → (Nat → Nat → Int32) → Option ((Nat → Nat → Int32) × (Nat → Nat → Int32))) : Nat → Int32 → Int32 → Int32 → Int32 → Int32 → (Nat → Nat → Int32) → (Nat → Nat → Int32) → Option ((Nat → Nat → Int32) × (Nat → Nat → Int32))
  | 0, _, _, _, _, _, _, _ => none
  | fu + 1, i1, i2, i3, i4, i5, z, f =>
    if 6 ≤ i5 then
      k86 i1 i2 i4 z f
    else
      if ((i1 >>> (i5 &&& 31)) &&& 1) = 1 then
        if i5 = i3 then
          g_X11_hull_b156 k86 (fun y0 y1 y2 y3 y4 z f => g_X11_hull_l129 k86 fu y0 y1 y2 y3 y4 z f) i1 i2 i3 i4 i5 z f
        else
          g_X11_hull_b157 k86 (fun y0 y1 y2 y3 y4 z f => g_X11_hull_l129 k86 fu y0 y1 y2 y3 y4 z f) i1 i2 i3 i4 i5 1 z f
      else
        g_X11_hull_b156 k86 (fun y0 y1 y2 y3 y4 z f => g_X11_hull_l129 k86 fu y0 y1 y2 y3 y4 z f) i1 i2 i3 i4 i5 z f
set_option maxRecDepth 100000 in
set_option maxHeartbeats 4000000 in
theorem e_X11_hull_l129 {r : LWd} {k86 : Nat → Int32 → Int32 → Int32 → LWd → Option LWd} {kg86 : Int32 → Int32 → Int32 → (Nat → Nat → Int32) → (Nat → Nat → Int32) → Option ((Nat → Nat → Int32) × (Nat → Nat → Int32))} (hk86 : ∀ (i1 : Int32) (i2 : Int32) (i3 : Int32) (z f : Nat → Nat → Int32), k86 66 i1 i2 i3 (wA z f r) = (kg86 i1 i2 i3 z f).map (fun q => wA q.1 q.2 r)) : ∀ (fu : Nat) (i1 : Int32) (i2 : Int32) (i3 : Int32) (i4 : Int32) (i5 : Int32) (z f : Nat → Nat → Int32), m_X11_hull_l129 k86 fu 66 i1 i2 i3 i4 i5 (wA z f r) = (g_X11_hull_l129 kg86 fu i1 i2 i3 i4 i5 z f).map (fun q => wA q.1 q.2 r) := by
  intro fu
  induction fu with
  | zero => intro i1 i2 i3 i4 i5  z f; rfl
  | succ fu ih =>
    intro i1 i2 i3 i4 i5  z f
    rw [m_X11_hull_l129, g_X11_hull_l129]
    refine iteE (fun _ => ?_) (fun _ => ?_)
    · exact hk86 _ _ _  _ _
    · refine iteE (fun _ => ?_) (fun _ => ?_)
      · refine iteE (fun _ => ?_) (fun _ => ?_)
        · exact e_X11_hull_b156 (hk86 := hk86) (hk129 := ih) _ _ _ _ _  _ _
        · exact e_X11_hull_b157 (hk86 := hk86) (hk129 := ih) _ _ _ _ _ _  _ _
      · exact e_X11_hull_b156 (hk86 := hk86) (hk129 := ih) _ _ _ _ _  _ _
def g_X11_hull_b103 (k86 : Int32 → Int32 → Int32 → (Nat → Nat → Int32) → (Nat → Nat → Int32) → Option ((Nat → Nat → Int32) × (Nat → Nat → Int32))) (i1 : Int32) (i2 : Int32) (i3 : Int32) (z f : Nat → Nat → Int32) : Option ((Nat → Nat → Int32) × (Nat → Nat → Int32)) :=
  (ixA 7 (z 66 28)).bind fun j1 =>
  lt2 (upf f 78 j1 i3) fun u2 =>
  lt2 (up2 z 66 28 ((z 66 28) + 1)) fun z3 =>
  g_X11_hull_l129 k86 FU i1 i2 i3 ((-1)) 0 z3 u2
set_option maxRecDepth 100000 in
set_option maxHeartbeats 4000000 in
theorem e_X11_hull_b103 {r : LWd} {k86 : Nat → Int32 → Int32 → Int32 → LWd → Option LWd} {kg86 : Int32 → Int32 → Int32 → (Nat → Nat → Int32) → (Nat → Nat → Int32) → Option ((Nat → Nat → Int32) × (Nat → Nat → Int32))} (hk86 : ∀ (i1 : Int32) (i2 : Int32) (i3 : Int32) (z f : Nat → Nat → Int32), k86 66 i1 i2 i3 (wA z f r) = (kg86 i1 i2 i3 z f).map (fun q => wA q.1 q.2 r)) (i1 : Int32) (i2 : Int32) (i3 : Int32) (z f : Nat → Nat → Int32) : m_X11_hull_b103 k86 66 i1 i2 i3 (wA z f r) = (g_X11_hull_b103 kg86 i1 i2 i3 z f).map (fun q => wA q.1 q.2 r) := by
  unfold m_X11_hull_b103 g_X11_hull_b103
  refine opS fR_66_29 ?_
  refine opS fI_66_28 ?_
  refine opM sI_78 (fun j1 hj1 => ?_)
  refine ltE ?_
  refine opS fI_66_28 ?_
  refine opS pV_66_28 ?_
  refine ltE ?_
  exact e_X11_hull_l129 (hk86 := hk86) FU _ _ _ _ _  _ _
def g_X11_hull_l86 : Nat → Int32 → Int32 → Int32 → (Nat → Nat → Int32) → (Nat → Nat → Int32) → Option ((Nat → Nat → Int32) × (Nat → Nat → Int32))
  | 0, _, _, _, _, _ => none
  | fu + 1, i1, i2, i3, z, f =>
    if i3 = ((-1)) then
      some (z, f)
    else
      if (z 66 28) = 0 then
        g_X11_hull_b103 (fun y0 y1 y2 z f => g_X11_hull_l86 fu y0 y1 y2 z f) i1 i2 i3 z f
      else
        if i3 = i2 then
          some (z, f)
        else
          g_X11_hull_b103 (fun y0 y1 y2 z f => g_X11_hull_l86 fu y0 y1 y2 z f) i1 i2 i3 z f
set_option maxRecDepth 100000 in
set_option maxHeartbeats 4000000 in
theorem e_X11_hull_l86 {r : LWd} : ∀ (fu : Nat) (i1 : Int32) (i2 : Int32) (i3 : Int32) (z f : Nat → Nat → Int32), m_X11_hull_l86 fu 66 i1 i2 i3 (wA z f r) = (g_X11_hull_l86 fu i1 i2 i3 z f).map (fun q => wA q.1 q.2 r) := by
  intro fu
  induction fu with
  | zero => intro i1 i2 i3  z f; rfl
  | succ fu ih =>
    intro i1 i2 i3  z f
    rw [m_X11_hull_l86, g_X11_hull_l86]
    refine iteE (fun _ => ?_) (fun _ => ?_)
    · rfl
    · refine opS fI_66_28 ?_
      refine iteE (fun _ => ?_) (fun _ => ?_)
      · exact e_X11_hull_b103 (hk86 := ih) _ _ _  _ _
      · refine iteE (fun _ => ?_) (fun _ => ?_)
        · rfl
        · exact e_X11_hull_b103 (hk86 := ih) _ _ _  _ _
def g_X11_hull_b77 (k9 : Int32 → Int32 → Int32 → (Nat → Nat → Int32) → (Nat → Nat → Int32) → Option ((Nat → Nat → Int32) × (Nat → Nat → Int32))) (i1 : Int32) (i3 : Int32) (s0 : Int32) (z f : Nat → Nat → Int32) : Option ((Nat → Nat → Int32) × (Nat → Nat → Int32)) :=
  k9 i1 s0 (i3 + (-1)) z f
set_option maxRecDepth 100000 in
set_option maxHeartbeats 4000000 in
theorem e_X11_hull_b77 {r : LWd} {k9 : Nat → Int32 → Int32 → Int32 → LWd → Option LWd} {kg9 : Int32 → Int32 → Int32 → (Nat → Nat → Int32) → (Nat → Nat → Int32) → Option ((Nat → Nat → Int32) × (Nat → Nat → Int32))} (hk9 : ∀ (i1 : Int32) (i2 : Int32) (i3 : Int32) (z f : Nat → Nat → Int32), k9 66 i1 i2 i3 (wA z f r) = (kg9 i1 i2 i3 z f).map (fun q => wA q.1 q.2 r)) (i1 : Int32) (i3 : Int32) (s0 : Int32) (z f : Nat → Nat → Int32) : m_X11_hull_b77 k9 66 i1 i3 s0 (wA z f r) = (g_X11_hull_b77 kg9 i1 i3 s0 z f).map (fun q => wA q.1 q.2 r) := by
  unfold m_X11_hull_b77 g_X11_hull_b77
  exact hk9 _ _ _  _ _
def g_X11_hull_b76 (k9 : Int32 → Int32 → Int32 → (Nat → Nat → Int32) → (Nat → Nat → Int32) → Option ((Nat → Nat → Int32) × (Nat → Nat → Int32))) (i1 : Int32) (i2 : Int32) (i3 : Int32) (z f : Nat → Nat → Int32) : Option ((Nat → Nat → Int32) × (Nat → Nat → Int32)) :=
  g_X11_hull_b77 k9 i1 i3 i2 z f
set_option maxRecDepth 100000 in
set_option maxHeartbeats 4000000 in
theorem e_X11_hull_b76 {r : LWd} {k9 : Nat → Int32 → Int32 → Int32 → LWd → Option LWd} {kg9 : Int32 → Int32 → Int32 → (Nat → Nat → Int32) → (Nat → Nat → Int32) → Option ((Nat → Nat → Int32) × (Nat → Nat → Int32))} (hk9 : ∀ (i1 : Int32) (i2 : Int32) (i3 : Int32) (z f : Nat → Nat → Int32), k9 66 i1 i2 i3 (wA z f r) = (kg9 i1 i2 i3 z f).map (fun q => wA q.1 q.2 r)) (i1 : Int32) (i2 : Int32) (i3 : Int32) (z f : Nat → Nat → Int32) : m_X11_hull_b76 k9 66 i1 i2 i3 (wA z f r) = (g_X11_hull_b76 kg9 i1 i2 i3 z f).map (fun q => wA q.1 q.2 r) := by
  unfold m_X11_hull_b76 g_X11_hull_b76
  exact e_X11_hull_b77 (hk9 := hk9) _ _ _  _ _
def g_X11_hull_b72 (k9 : Int32 → Int32 → Int32 → (Nat → Nat → Int32) → (Nat → Nat → Int32) → Option ((Nat → Nat → Int32) × (Nat → Nat → Int32))) (i1 : Int32) (i3 : Int32) (z f : Nat → Nat → Int32) : Option ((Nat → Nat → Int32) × (Nat → Nat → Int32)) :=
  g_X11_hull_b77 k9 i1 i3 i3 z f
set_option maxRecDepth 100000 in
set_option maxHeartbeats 4000000 in
theorem e_X11_hull_b72 {r : LWd} {k9 : Nat → Int32 → Int32 → Int32 → LWd → Option LWd} {kg9 : Int32 → Int32 → Int32 → (Nat → Nat → Int32) → (Nat → Nat → Int32) → Option ((Nat → Nat → Int32) × (Nat → Nat → Int32))} (hk9 : ∀ (i1 : Int32) (i2 : Int32) (i3 : Int32) (z f : Nat → Nat → Int32), k9 66 i1 i2 i3 (wA z f r) = (kg9 i1 i2 i3 z f).map (fun q => wA q.1 q.2 r)) (i1 : Int32) (i3 : Int32) (z f : Nat → Nat → Int32) : m_X11_hull_b72 k9 66 i1 i3 (wA z f r) = (g_X11_hull_b72 kg9 i1 i3 z f).map (fun q => wA q.1 q.2 r) := by
  unfold m_X11_hull_b72 g_X11_hull_b72
  exact e_X11_hull_b77 (hk9 := hk9) _ _ _  _ _
def g_X11_hull_b27 (k9 : Int32 → Int32 → Int32 → (Nat → Nat → Int32) → (Nat → Nat → Int32) → Option ((Nat → Nat → Int32) × (Nat → Nat → Int32))) (i1 : Int32) (i2 : Int32) (i3 : Int32) (s0 : Int32) (z f : Nat → Nat → Int32) : Option ((Nat → Nat → Int32) × (Nat → Nat → Int32)) :=
  if s0 = 0 then
    g_X11_hull_b76 k9 i1 i2 i3 z f
  else
    if i2 = ((-1)) then
      g_X11_hull_b72 k9 i1 i3 z f
    else
      (ixA 6 i3).bind fun j1 =>
      (ixA 6 i3).bind fun j2 =>
      (g_X11_at (f 74 j1) (f 75 j2) z f).bind fun x3 =>
      (ixA 6 i2).bind fun j4 =>
      (ixA 6 i2).bind fun j5 =>
      (g_X11_at (f 74 j4) (f 75 j5) z f).bind fun x6 =>
      if x6 ≤ x3 then
        g_X11_hull_b76 k9 i1 i2 i3 z f
      else
        g_X11_hull_b72 k9 i1 i3 z f
set_option maxRecDepth 100000 in
set_option maxHeartbeats 4000000 in
theorem e_X11_hull_b27 {r : LWd} {k9 : Nat → Int32 → Int32 → Int32 → LWd → Option LWd} {kg9 : Int32 → Int32 → Int32 → (Nat → Nat → Int32) → (Nat → Nat → Int32) → Option ((Nat → Nat → Int32) × (Nat → Nat → Int32))} (hk9 : ∀ (i1 : Int32) (i2 : Int32) (i3 : Int32) (z f : Nat → Nat → Int32), k9 66 i1 i2 i3 (wA z f r) = (kg9 i1 i2 i3 z f).map (fun q => wA q.1 q.2 r)) (i1 : Int32) (i2 : Int32) (i3 : Int32) (s0 : Int32) (z f : Nat → Nat → Int32) : m_X11_hull_b27 k9 66 i1 i2 i3 s0 (wA z f r) = (g_X11_hull_b27 kg9 i1 i2 i3 s0 z f).map (fun q => wA q.1 q.2 r) := by
  unfold m_X11_hull_b27 g_X11_hull_b27
  refine iteE (fun _ => ?_) (fun _ => ?_)
  · exact e_X11_hull_b76 (hk9 := hk9) _ _ _  _ _
  · refine iteE (fun _ => ?_) (fun _ => ?_)
    · exact e_X11_hull_b72 (hk9 := hk9) _ _  _ _
    · refine opS fR_66_15 ?_
      refine opM aI_74 (fun j1 hj1 => ?_)
      refine opS fR_66_16 ?_
      refine opM aI_75 (fun j2 hj2 => ?_)
      refine caP (e_X11_at) (fun x3 => ?_)
      refine opS fR_66_15 ?_
      refine opM aI_74 (fun j4 hj4 => ?_)
      refine opS fR_66_16 ?_
      refine opM aI_75 (fun j5 hj5 => ?_)
      refine caP (e_X11_at) (fun x6 => ?_)
      refine iteE (fun _ => ?_) (fun _ => ?_)
      · exact e_X11_hull_b76 (hk9 := hk9) _ _ _  _ _
      · exact e_X11_hull_b72 (hk9 := hk9) _ _  _ _
def g_X11_hull_l9 : Nat → Int32 → Int32 → Int32 → (Nat → Nat → Int32) → (Nat → Nat → Int32) → Option ((Nat → Nat → Int32) × (Nat → Nat → Int32))
  | 0, _, _, _, _, _ => none
  | fu + 1, i1, i2, i3, z, f =>
    if i3 < 0 then
      g_X11_hull_l86 FU i1 i2 i2 z f
    else
      if ((i1 >>> (i3 &&& 31)) &&& 1) = 1 then
        g_X11_hull_b27 (fun y0 y1 y2 z f => g_X11_hull_l9 fu y0 y1 y2 z f) i1 i2 i3 1 z f
      else
        g_X11_hull_b27 (fun y0 y1 y2 z f => g_X11_hull_l9 fu y0 y1 y2 z f) i1 i2 i3 0 z f
set_option maxRecDepth 100000 in
set_option maxHeartbeats 4000000 in
theorem e_X11_hull_l9 {r : LWd} : ∀ (fu : Nat) (i1 : Int32) (i2 : Int32) (i3 : Int32) (z f : Nat → Nat → Int32), m_X11_hull_l9 fu 66 i1 i2 i3 (wA z f r) = (g_X11_hull_l9 fu i1 i2 i3 z f).map (fun q => wA q.1 q.2 r) := by
  intro fu
  induction fu with
  | zero => intro i1 i2 i3  z f; rfl
  | succ fu ih =>
    intro i1 i2 i3  z f
    rw [m_X11_hull_l9, g_X11_hull_l9]
    refine iteE (fun _ => ?_) (fun _ => ?_)
    · exact e_X11_hull_l86 FU _ _ _  _ _
    · refine iteE (fun _ => ?_) (fun _ => ?_)
      · exact e_X11_hull_b27 (hk9 := ih) _ _ _ _  _ _
      · exact e_X11_hull_b27 (hk9 := ih) _ _ _ _  _ _
def g_X11_hull (i1 : Int32) (z f : Nat → Nat → Int32) : Option ((Nat → Nat → Int32) × (Nat → Nat → Int32)) :=
  lt2 (up2 z 66 28 0) fun z1 =>
  g_X11_hull_l9 FU i1 ((-1)) 5 z1 f
set_option maxRecDepth 100000 in
set_option maxHeartbeats 4000000 in
theorem e_X11_hull {r : LWd} {z f : Nat → Nat → Int32} {i1 : Int32} : m_X11_hull 66 i1 (wA z f r) = (g_X11_hull i1 z f).map (fun q => wA q.1 q.2 r) := by
  unfold m_X11_hull g_X11_hull
  refine opS rcv_66 ?_
  refine opS pV_66_28 ?_
  refine ltE ?_
  exact e_X11_hull_l9 FU _ _ _  _ _
