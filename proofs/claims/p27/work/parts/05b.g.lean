/-! the methods over the two functions: written by wip/p27/gmake.py -/
def g_X10_point (i1 : Int32) (i2 : Int32) (i3 : Int32) (z f : Nat → Nat → Int32) : Option (Int32 ⊕ String) :=
  (g_X10_pointAt i1 i2 z f).bind fun x1 =>
  if x1 = ((-1)) then
    some (.inr "java/lang/IllegalArgumentException")
  else
    if i3 = 0 then
      some (.inl (rdR 400 (f 8) x1))
    else
      if i3 = 1 then
        some (.inl (rdR 400 (f 10) x1))
      else
        if i3 = 2 then
          some (.inl (rdR 400 (f 12) x1))
        else
          if i3 = 3 then
            some (.inl (rdR 400 (f 14) x1))
          else
            some (.inr "java/lang/IllegalArgumentException")
set_option maxRecDepth 100000 in
set_option maxHeartbeats 4000000 in
theorem e_X10_point {r : LWd} {z f : Nat → Nat → Int32} {i1 : Int32} {i2 : Int32} {i3 : Int32} : m_X10_point 0 i1 i2 i3 (wA z f r) = (g_X10_point i1 i2 i3 z f).map (fun x => (x, wA z f r)) := by
  unfold m_X10_point g_X10_point
  refine opS rcv_0 ?_
  refine caP (e_X10_pointAt) (fun x1 => ?_)
  refine iteE (fun _ => ?_) (fun _ => ?_)
  · rfl
  · refine iteE (fun _ => ?_) (fun _ => ?_)
    · refine opS fR_0_0 ?_
      refine opS fR_6_0 ?_
      refine caR (e_X8_at rw_7) rfl ?_
      rfl
    · refine iteE (fun _ => ?_) (fun _ => ?_)
      · refine opS fR_0_0 ?_
        refine opS fR_6_1 ?_
        refine caR (e_X8_at rw_9) rfl ?_
        rfl
      · refine iteE (fun _ => ?_) (fun _ => ?_)
        · refine opS fR_0_0 ?_
          refine opS fR_6_2 ?_
          refine caR (e_X8_at rw_11) rfl ?_
          rfl
        · refine iteE (fun _ => ?_) (fun _ => ?_)
          · refine opS fR_0_0 ?_
            refine opS fR_6_3 ?_
            refine caR (e_X8_at rw_13) rfl ?_
            rfl
          · rfl
def g_X10_isStable (z f : Nat → Nat → Int32) : Option (Int32 × (Nat → Nat → Int32) × (Nat → Nat → Int32)) :=
  bn3 (g_X9_holdsWithout 22 ((-1)) z f) fun x1 z2 u3 =>
  rtZw x1 z2 u3
set_option maxRecDepth 100000 in
set_option maxHeartbeats 4000000 in
theorem e_X10_isStable {r : LWd} {z f : Nat → Nat → Int32} : m_X10_isStable 0 (wA z f r) = (g_X10_isStable  z f).map (fun q => (q.1, wA q.2.1 q.2.2 r)) := by
  unfold m_X10_isStable g_X10_isStable
  refine opS rcv_0 ?_
  refine opS fR_0_2 ?_
  refine caW (e_X9_holdsWithout (Or.inl rfl)) (fun _ _ => wA_len) (fun x1 z2 u3 => ?_)
  exact reZw
def g_X6_gather_b81 (k8 : Nat → Int32 → Int32 → Int32 → Int32 → (Nat → Nat → Int32) → (Nat → Nat → Int32) → Option ((Nat → Nat → Int32) × (Nat → Nat → Int32))) (a1 : Nat) (i2 : Int32) (i3 : Int32) (i4 : Int32) (i5 : Int32) (z f : Nat → Nat → Int32) : Option ((Nat → Nat → Int32) × (Nat → Nat → Int32)) :=
  k8 a1 i2 i3 i4 (i5 + 1) z f
set_option maxRecDepth 100000 in
set_option maxHeartbeats 4000000 in
theorem e_X6_gather_b81 {r : LWd} {k8 : Nat → Nat → Int32 → Int32 → Int32 → Int32 → LWd → Option LWd} {kg8 : Nat → Int32 → Int32 → Int32 → Int32 → (Nat → Nat → Int32) → (Nat → Nat → Int32) → Option ((Nat → Nat → Int32) × (Nat → Nat → Int32))} (hk8 : ∀ (a1 : Nat) (i2 : Int32) (i3 : Int32) (i4 : Int32) (i5 : Int32) (ha1 : isRw a1) (z f : Nat → Nat → Int32), k8 28 a1 i2 i3 i4 i5 (wA z f r) = (kg8 a1 i2 i3 i4 i5 z f).map (fun q => wA q.1 q.2 r)) (a1 : Nat) (i2 : Int32) (i3 : Int32) (i4 : Int32) (i5 : Int32) (ha1 : isRw a1) (z f : Nat → Nat → Int32) : m_X6_gather_b81 k8 28 a1 i2 i3 i4 i5 (wA z f r) = (g_X6_gather_b81 kg8 a1 i2 i3 i4 i5 z f).map (fun q => wA q.1 q.2 r) := by
  unfold m_X6_gather_b81 g_X6_gather_b81
  exact hk8 _ _ _ _ _ ha1 _ _
def g_X6_gather_l8 : Nat → Nat → Int32 → Int32 → Int32 → Int32 → (Nat → Nat → Int32) → (Nat → Nat → Int32) → Option ((Nat → Nat → Int32) × (Nat → Nat → Int32))
  | 0, _, _, _, _, _, _, _ => none
  | fu + 1, a1, i2, i3, i4, i5, z, f =>
    if 6 ≤ i5 then
      some (z, f)
    else
      if (rdR 6 (f (a1 + 1)) i5) = ((-1)) then
        g_X6_gather_b81 (fun y0 y1 y2 y3 y4 z f => g_X6_gather_l8 fu y0 y1 y2 y3 y4 z f) a1 i2 i3 i4 i5 z f
      else
        (g_X10_xOf (rdR 6 (f (a1 + 1)) i5) z f).bind fun x1 =>
        lt2 (wrR f 30 6 (z 28 2) ((i4 * x1) - i2)) fun u2 =>
        (g_X10_yOf (rdR 6 (f (a1 + 1)) i5) z u2).bind fun x3 =>
        lt2 (wrR u2 32 6 (z 28 2) ((i4 * x3) - i3)) fun u4 =>
        lt2 (up2 z 28 2 ((z 28 2) + 1)) fun z5 =>
        g_X6_gather_b81 (fun y0 y1 y2 y3 y4 z f => g_X6_gather_l8 fu y0 y1 y2 y3 y4 z f) a1 i2 i3 i4 i5 z5 u4
set_option maxRecDepth 100000 in
set_option maxHeartbeats 4000000 in
theorem e_X6_gather_l8 {r : LWd} : ∀ (fu : Nat) (a1 : Nat) (i2 : Int32) (i3 : Int32) (i4 : Int32) (i5 : Int32) (ha1 : isRw a1) (z f : Nat → Nat → Int32), m_X6_gather_l8 fu 28 a1 i2 i3 i4 i5 (wA z f r) = (g_X6_gather_l8 fu a1 i2 i3 i4 i5 z f).map (fun q => wA q.1 q.2 r) := by
  intro fu
  induction fu with
  | zero => intro a1 i2 i3 i4 i5 ha1 z f; first | rfl | (rw [m_X6_gather_l8, g_X6_gather_l8]; rfl)
  | succ fu ih =>
    intro a1 i2 i3 i4 i5 ha1 z f
    rw [m_X6_gather_l8, g_X6_gather_l8]
    refine iteE (fun _ => ?_) (fun _ => ?_)
    · rfl
    · refine caR (e_X8_at (rw_of ha1)) rfl ?_
      refine iteE (fun _ => ?_) (fun _ => ?_)
      · exact e_X6_gather_b81 (hk8 := ih) _ _ _ _ _ ha1 _ _
      · refine opS fR_28_0 ?_
        refine opS fI_28_2 ?_
        refine caP (e_X10_xOf) (fun x1 => ?_)
        refine caV (e_X8_put rw_29) wA_len ?_
        refine ltE ?_
        refine opS fR_28_1 ?_
        refine opS fI_28_2 ?_
        refine caP (e_X10_yOf) (fun x3 => ?_)
        refine caV (e_X8_put rw_31) wA_len ?_
        refine ltE ?_
        refine opS fI_28_2 ?_
        refine opS pV_28_2 ?_
        refine ltE ?_
        exact e_X6_gather_b81 (hk8 := ih) _ _ _ _ _ ha1 _ _
def g_X6_gather (a1 : Nat) (i2 : Int32) (i3 : Int32) (i4 : Int32) (z f : Nat → Nat → Int32) : Option ((Nat → Nat → Int32) × (Nat → Nat → Int32)) :=
  lt2 (up2 z 28 2 0) fun z1 =>
  g_X6_gather_l8 FU a1 i2 i3 i4 0 z1 f
set_option maxRecDepth 100000 in
set_option maxHeartbeats 4000000 in
theorem e_X6_gather {r : LWd} {z f : Nat → Nat → Int32} {a1 : Nat} {i2 : Int32} {i3 : Int32} {i4 : Int32} (ha1 : isRw a1) : m_X6_gather 28 a1 i2 i3 i4 (wA z f r) = (g_X6_gather a1 i2 i3 i4 z f).map (fun q => wA q.1 q.2 r) := by
  unfold m_X6_gather g_X6_gather
  refine opS rcv_28 ?_
  refine opS pV_28_2 ?_
  refine ltE ?_
  exact e_X6_gather_l8 FU _ _ _ _ _ ha1 _ _
def g_X6_turn (i1 : Int32) (i2 : Int32) (z f : Nat → Nat → Int32) : Option Int32 :=
  some (((rdR 6 (f 30) i1) * (rdR 6 (f 32) i2)) - ((rdR 6 (f 32) i1) * (rdR 6 (f 30) i2)))
set_option maxRecDepth 100000 in
set_option maxHeartbeats 4000000 in
theorem e_X6_turn {r : LWd} {z f : Nat → Nat → Int32} {i1 : Int32} {i2 : Int32} : m_X6_turn 28 i1 i2 (wA z f r) = (g_X6_turn i1 i2 z f).map (fun x => (x, wA z f r)) := by
  unfold m_X6_turn g_X6_turn
  refine opS rcv_28 ?_
  refine opS fR_28_0 ?_
  refine caR (e_X8_at rw_29) rfl ?_
  refine opS fR_28_1 ?_
  refine caR (e_X8_at rw_31) rfl ?_
  refine opS fR_28_1 ?_
  refine caR (e_X8_at rw_31) rfl ?_
  refine opS fR_28_0 ?_
  refine caR (e_X8_at rw_29) rfl ?_
  rfl
def g_X6_isOnLine (i1 : Int32) (i2 : Int32) (z f : Nat → Nat → Int32) : Option Int32 :=
  (g_X6_turn i1 i2 z f).bind fun x1 =>
  if x1 = 0 then
    if 0 < (((rdR 6 (f 30) i1) * (rdR 6 (f 30) i2)) + ((rdR 6 (f 32) i1) * (rdR 6 (f 32) i2))) then
      some (0)
    else
      some (1)
  else
    some (0)
set_option maxRecDepth 100000 in
set_option maxHeartbeats 4000000 in
theorem e_X6_isOnLine {r : LWd} {z f : Nat → Nat → Int32} {i1 : Int32} {i2 : Int32} : m_X6_isOnLine 28 i1 i2 (wA z f r) = (g_X6_isOnLine i1 i2 z f).map (fun x => (x, wA z f r)) := by
  unfold m_X6_isOnLine g_X6_isOnLine
  refine opS rcv_28 ?_
  refine caP (e_X6_turn) (fun x1 => ?_)
  refine iteE (fun _ => ?_) (fun _ => ?_)
  · refine opS fR_28_0 ?_
    refine caR (e_X8_at rw_29) rfl ?_
    refine opS fR_28_0 ?_
    refine caR (e_X8_at rw_29) rfl ?_
    refine opS fR_28_1 ?_
    refine caR (e_X8_at rw_31) rfl ?_
    refine opS fR_28_1 ?_
    refine caR (e_X8_at rw_31) rfl ?_
    refine iteE (fun _ => ?_) (fun _ => ?_)
    · rfl
    · rfl
  · rfl
def g_X6_isInTriangle_b52 (i4 : Int32) (i5 : Int32) (i6 : Int32) (z f : Nat → Nat → Int32) : Option Int32 :=
  if 0 < i4 then
    some (0)
  else
    if 0 < i5 then
      some (0)
    else
      if 0 < i6 then
        some (0)
      else
        some (1)
set_option maxRecDepth 100000 in
set_option maxHeartbeats 4000000 in
theorem e_X6_isInTriangle_b52 {r : LWd} {z f : Nat → Nat → Int32} (i4 : Int32) (i5 : Int32) (i6 : Int32) : m_X6_isInTriangle_b52 i4 i5 i6 (wA z f r) = (g_X6_isInTriangle_b52 i4 i5 i6 z f).map (fun x => (x, wA z f r)) := by
  unfold m_X6_isInTriangle_b52 g_X6_isInTriangle_b52
  refine iteE (fun _ => ?_) (fun _ => ?_)
  · rfl
  · refine iteE (fun _ => ?_) (fun _ => ?_)
    · rfl
    · refine iteE (fun _ => ?_) (fun _ => ?_)
      · rfl
      · rfl
def g_X6_isInTriangle (i1 : Int32) (i2 : Int32) (i3 : Int32) (z f : Nat → Nat → Int32) : Option Int32 :=
  (g_X6_turn i1 i2 z f).bind fun x1 =>
  (g_X6_turn i2 i3 z f).bind fun x2 =>
  (g_X6_turn i3 i1 z f).bind fun x3 =>
  if ((x1 + x2) + x3) = 0 then
    some (0)
  else
    if x1 < 0 then
      g_X6_isInTriangle_b52 x1 x2 x3 z f
    else
      if x2 < 0 then
        g_X6_isInTriangle_b52 x1 x2 x3 z f
      else
        if 0 ≤ x3 then
          some (1)
        else
          g_X6_isInTriangle_b52 x1 x2 x3 z f
set_option maxRecDepth 100000 in
set_option maxHeartbeats 4000000 in
theorem e_X6_isInTriangle {r : LWd} {z f : Nat → Nat → Int32} {i1 : Int32} {i2 : Int32} {i3 : Int32} : m_X6_isInTriangle 28 i1 i2 i3 (wA z f r) = (g_X6_isInTriangle i1 i2 i3 z f).map (fun x => (x, wA z f r)) := by
  unfold m_X6_isInTriangle g_X6_isInTriangle
  refine opS rcv_28 ?_
  refine caP (e_X6_turn) (fun x1 => ?_)
  refine caP (e_X6_turn) (fun x2 => ?_)
  refine caP (e_X6_turn) (fun x3 => ?_)
  refine iteE (fun _ => ?_) (fun _ => ?_)
  · rfl
  · refine iteE (fun _ => ?_) (fun _ => ?_)
    · exact e_X6_isInTriangle_b52 _ _ _ 
    · refine iteE (fun _ => ?_) (fun _ => ?_)
      · exact e_X6_isInTriangle_b52 _ _ _ 
      · refine iteE (fun _ => ?_) (fun _ => ?_)
        · rfl
        · exact e_X6_isInTriangle_b52 _ _ _ 
def g_X6_holdMoment_l61 (k2 : Int32 → (Nat → Nat → Int32) → (Nat → Nat → Int32) → Option Int32) (k38 : Int32 → Int32 → (Nat → Nat → Int32) → (Nat → Nat → Int32) → Option Int32) : Nat → Int32 → Int32 → Int32 → (Nat → Nat → Int32) → (Nat → Nat → Int32) → Option Int32
  | 0, _, _, _, _, _ => none
  | fu + 1, i1, i2, i3, z, f =>
    if (z 28 2) ≤ i3 then
      k38 i1 (i2 + 1) z f
    else
      (g_X6_isInTriangle i1 i2 i3 z f).bind fun x1 =>
      if x1 = 0 then
        g_X6_holdMoment_l61 k2 k38 fu i1 i2 (i3 + 1) z f
      else
        some (1)
set_option maxRecDepth 100000 in
set_option maxHeartbeats 4000000 in
theorem e_X6_holdMoment_l61 {r : LWd} {z f : Nat → Nat → Int32} {k2 : Nat → Int32 → LWd → Option (Int32 × LWd)} {kg2 : Int32 → (Nat → Nat → Int32) → (Nat → Nat → Int32) → Option Int32} (hk2 : ∀ (i1 : Int32), k2 28 i1 (wA z f r) = (kg2 i1 z f).map (fun x => (x, wA z f r))) {k38 : Nat → Int32 → Int32 → LWd → Option (Int32 × LWd)} {kg38 : Int32 → Int32 → (Nat → Nat → Int32) → (Nat → Nat → Int32) → Option Int32} (hk38 : ∀ (i1 : Int32) (i2 : Int32), k38 28 i1 i2 (wA z f r) = (kg38 i1 i2 z f).map (fun x => (x, wA z f r))) : ∀ (fu : Nat) (i1 : Int32) (i2 : Int32) (i3 : Int32), m_X6_holdMoment_l61 k2 k38 fu 28 i1 i2 i3 (wA z f r) = (g_X6_holdMoment_l61 kg2 kg38 fu i1 i2 i3 z f).map (fun x => (x, wA z f r)) := by
  intro fu
  induction fu with
  | zero => intro i1 i2 i3 ; first | rfl | (rw [m_X6_holdMoment_l61, g_X6_holdMoment_l61]; rfl)
  | succ fu ih =>
    intro i1 i2 i3 
    rw [m_X6_holdMoment_l61, g_X6_holdMoment_l61]
    refine opS fI_28_2 ?_
    refine iteE (fun _ => ?_) (fun _ => ?_)
    · exact hk38 _ _ 
    · refine caP (e_X6_isInTriangle) (fun x1 => ?_)
      refine iteE (fun _ => ?_) (fun _ => ?_)
      · exact ih _ _ _ 
      · rfl
def g_X6_holdMoment_l38 (k2 : Int32 → (Nat → Nat → Int32) → (Nat → Nat → Int32) → Option Int32) : Nat → Int32 → Int32 → (Nat → Nat → Int32) → (Nat → Nat → Int32) → Option Int32
  | 0, _, _, _, _ => none
  | fu + 1, i1, i2, z, f =>
    if (z 28 2) ≤ i2 then
      k2 (i1 + 1) z f
    else
      (g_X6_isOnLine i1 i2 z f).bind fun x1 =>
      if x1 = 0 then
        g_X6_holdMoment_l61 k2 (fun y0 y1 z f => g_X6_holdMoment_l38 k2 fu y0 y1 z f) FU i1 i2 (i2 + 1) z f
      else
        some (1)
set_option maxRecDepth 100000 in
set_option maxHeartbeats 4000000 in
theorem e_X6_holdMoment_l38 {r : LWd} {z f : Nat → Nat → Int32} {k2 : Nat → Int32 → LWd → Option (Int32 × LWd)} {kg2 : Int32 → (Nat → Nat → Int32) → (Nat → Nat → Int32) → Option Int32} (hk2 : ∀ (i1 : Int32), k2 28 i1 (wA z f r) = (kg2 i1 z f).map (fun x => (x, wA z f r))) : ∀ (fu : Nat) (i1 : Int32) (i2 : Int32), m_X6_holdMoment_l38 k2 fu 28 i1 i2 (wA z f r) = (g_X6_holdMoment_l38 kg2 fu i1 i2 z f).map (fun x => (x, wA z f r)) := by
  intro fu
  induction fu with
  | zero => intro i1 i2 ; first | rfl | (rw [m_X6_holdMoment_l38, g_X6_holdMoment_l38]; rfl)
  | succ fu ih =>
    intro i1 i2 
    rw [m_X6_holdMoment_l38, g_X6_holdMoment_l38]
    refine opS fI_28_2 ?_
    refine iteE (fun _ => ?_) (fun _ => ?_)
    · exact hk2 _ 
    · refine caP (e_X6_isOnLine) (fun x1 => ?_)
      refine iteE (fun _ => ?_) (fun _ => ?_)
      · exact e_X6_holdMoment_l61 (hk2 := hk2) (hk38 := ih) FU _ _ _ 
      · rfl
def g_X6_holdMoment_b34 (k2 : Int32 → (Nat → Nat → Int32) → (Nat → Nat → Int32) → Option Int32) (i1 : Int32) (z f : Nat → Nat → Int32) : Option Int32 :=
  g_X6_holdMoment_l38 k2 FU i1 (i1 + 1) z f
set_option maxRecDepth 100000 in
set_option maxHeartbeats 4000000 in
theorem e_X6_holdMoment_b34 {r : LWd} {z f : Nat → Nat → Int32} {k2 : Nat → Int32 → LWd → Option (Int32 × LWd)} {kg2 : Int32 → (Nat → Nat → Int32) → (Nat → Nat → Int32) → Option Int32} (hk2 : ∀ (i1 : Int32), k2 28 i1 (wA z f r) = (kg2 i1 z f).map (fun x => (x, wA z f r))) (i1 : Int32) : m_X6_holdMoment_b34 k2 28 i1 (wA z f r) = (g_X6_holdMoment_b34 kg2 i1 z f).map (fun x => (x, wA z f r)) := by
  unfold m_X6_holdMoment_b34 g_X6_holdMoment_b34
  exact e_X6_holdMoment_l38 (hk2 := hk2) FU _ _ 
def g_X6_holdMoment_l2 : Nat → Int32 → (Nat → Nat → Int32) → (Nat → Nat → Int32) → Option Int32
  | 0, _, _, _ => none
  | fu + 1, i1, z, f =>
    if (z 28 2) ≤ i1 then
      some (0)
    else
      if (rdR 6 (f 30) i1) = 0 then
        if (rdR 6 (f 32) i1) = 0 then
          some (1)
        else
          g_X6_holdMoment_b34 (fun y0 z f => g_X6_holdMoment_l2 fu y0 z f) i1 z f
      else
        g_X6_holdMoment_b34 (fun y0 z f => g_X6_holdMoment_l2 fu y0 z f) i1 z f
set_option maxRecDepth 100000 in
set_option maxHeartbeats 4000000 in
theorem e_X6_holdMoment_l2 {r : LWd} {z f : Nat → Nat → Int32} : ∀ (fu : Nat) (i1 : Int32), m_X6_holdMoment_l2 fu 28 i1 (wA z f r) = (g_X6_holdMoment_l2 fu i1 z f).map (fun x => (x, wA z f r)) := by
  intro fu
  induction fu with
  | zero => intro i1 ; first | rfl | (rw [m_X6_holdMoment_l2, g_X6_holdMoment_l2]; rfl)
  | succ fu ih =>
    intro i1 
    rw [m_X6_holdMoment_l2, g_X6_holdMoment_l2]
    refine opS fI_28_2 ?_
    refine iteE (fun _ => ?_) (fun _ => ?_)
    · rfl
    · refine opS fR_28_0 ?_
      refine caR (e_X8_at rw_29) rfl ?_
      refine iteE (fun _ => ?_) (fun _ => ?_)
      · refine opS fR_28_1 ?_
        refine caR (e_X8_at rw_31) rfl ?_
        refine iteE (fun _ => ?_) (fun _ => ?_)
        · rfl
        · exact e_X6_holdMoment_b34 (hk2 := ih) _ 
      · exact e_X6_holdMoment_b34 (hk2 := ih) _ 
def g_X6_holdMoment (z f : Nat → Nat → Int32) : Option Int32 :=
  g_X6_holdMoment_l2 FU 0 z f
set_option maxRecDepth 100000 in
set_option maxHeartbeats 4000000 in
theorem e_X6_holdMoment {r : LWd} {z f : Nat → Nat → Int32} : m_X6_holdMoment 28 (wA z f r) = (g_X6_holdMoment  z f).map (fun x => (x, wA z f r)) := by
  unfold m_X6_holdMoment g_X6_holdMoment
  refine opS rcv_28 ?_
  exact e_X6_holdMoment_l2 FU _ 
def g_X10_isStableAnew (z f : Nat → Nat → Int32) : Option (Int32 × (Nat → Nat → Int32) × (Nat → Nat → Int32)) :=
  (g_X9_momentX 22 z f).bind fun x1 =>
  (g_X9_momentY 22 z f).bind fun x2 =>
  (g_X2_weight  z f).bind fun x3 =>
  bn2 (g_X6_gather 23 x1 x2 x3 z f) fun z4 u5 =>
  (g_X6_holdMoment  z4 u5).bind fun x6 =>
  rtZw x6 z4 u5
set_option maxRecDepth 100000 in
set_option maxHeartbeats 4000000 in
theorem e_X10_isStableAnew {r : LWd} {z f : Nat → Nat → Int32} : m_X10_isStableAnew 0 (wA z f r) = (g_X10_isStableAnew  z f).map (fun q => (q.1, wA q.2.1 q.2.2 r)) := by
  unfold m_X10_isStableAnew g_X10_isStableAnew
  refine opS rcv_0 ?_
  refine opS fR_0_4 ?_
  refine opS fR_0_2 ?_
  refine opS (fRs_3 (Or.inl rfl)) ?_
  refine opS fR_0_2 ?_
  refine caP (e_X9_momentX (Or.inl rfl)) (fun x1 => ?_)
  refine opS fR_0_2 ?_
  refine caP (e_X9_momentY (Or.inl rfl)) (fun x2 => ?_)
  refine opS fR_0_1 ?_
  refine caP (e_X2_weight) (fun x3 => ?_)
  refine caU (e_X6_gather (Or.inl rfl)) (fun _ _ => wA_len) (fun z4 u5 => ?_)
  refine opS fR_0_4 ?_
  refine caP (e_X6_holdMoment) (fun x6 => ?_)
  exact reZw
def g_X4_squareOfEdge (i0 : Int32) (i1 : Int32) (z f : Nat → Nat → Int32) : Option Int32 :=
  some ((((jrem i1 20) - (jrem i0 20)) * ((jrem i1 20) - (jrem i0 20))) + (((i1 / 20) - (i0 / 20)) * ((i1 / 20) - (i0 / 20))))
set_option maxRecDepth 100000 in
set_option maxHeartbeats 4000000 in
theorem e_X4_squareOfEdge {r : LWd} {z f : Nat → Nat → Int32} {i0 : Int32} {i1 : Int32} : m_X4_squareOfEdge i0 i1 (wA z f r) = (g_X4_squareOfEdge i0 i1 z f).map (fun x => (x, wA z f r)) := by
  unfold m_X4_squareOfEdge g_X4_squareOfEdge
  rfl
def g_X4_leastSquare_b108 (k6 : Int32 → Int32 → Int32 → UInt32 → Int32 → (Nat → Nat → Int32) → (Nat → Nat → Int32) → Option UInt32) (i1 : Int32) (i2 : Int32) (i3 : Int32) (f4 : UInt32) (i5 : Int32) (z f : Nat → Nat → Int32) : Option UInt32 :=
  k6 i1 i2 i3 f4 (i5 + 1) z f
set_option maxRecDepth 100000 in
set_option maxHeartbeats 4000000 in
theorem e_X4_leastSquare_b108 {r : LWd} {z f : Nat → Nat → Int32} {k6 : Nat → Int32 → Int32 → Int32 → UInt32 → Int32 → LWd → Option (UInt32 × LWd)} {kg6 : Int32 → Int32 → Int32 → UInt32 → Int32 → (Nat → Nat → Int32) → (Nat → Nat → Int32) → Option UInt32} (hk6 : ∀ (i1 : Int32) (i2 : Int32) (i3 : Int32) (f4 : UInt32) (i5 : Int32), k6 1 i1 i2 i3 f4 i5 (wA z f r) = (kg6 i1 i2 i3 f4 i5 z f).map (fun x => (x, wA z f r))) (i1 : Int32) (i2 : Int32) (i3 : Int32) (f4 : UInt32) (i5 : Int32) : m_X4_leastSquare_b108 k6 1 i1 i2 i3 f4 i5 (wA z f r) = (g_X4_leastSquare_b108 kg6 i1 i2 i3 f4 i5 z f).map (fun x => (x, wA z f r)) := by
  unfold m_X4_leastSquare_b108 g_X4_leastSquare_b108
  exact hk6 _ _ _ _ _ 
def g_X4_leastSquare_b104 (k6 : Int32 → Int32 → Int32 → UInt32 → Int32 → (Nat → Nat → Int32) → (Nat → Nat → Int32) → Option UInt32) (i1 : Int32) (i2 : Int32) (i3 : Int32) (i5 : Int32) (f12 : UInt32) (z f : Nat → Nat → Int32) : Option UInt32 :=
  g_X4_leastSquare_b108 k6 i1 i2 i3 f12 i5 z f
set_option maxRecDepth 100000 in
set_option maxHeartbeats 4000000 in
theorem e_X4_leastSquare_b104 {r : LWd} {z f : Nat → Nat → Int32} {k6 : Nat → Int32 → Int32 → Int32 → UInt32 → Int32 → LWd → Option (UInt32 × LWd)} {kg6 : Int32 → Int32 → Int32 → UInt32 → Int32 → (Nat → Nat → Int32) → (Nat → Nat → Int32) → Option UInt32} (hk6 : ∀ (i1 : Int32) (i2 : Int32) (i3 : Int32) (f4 : UInt32) (i5 : Int32), k6 1 i1 i2 i3 f4 i5 (wA z f r) = (kg6 i1 i2 i3 f4 i5 z f).map (fun x => (x, wA z f r))) (i1 : Int32) (i2 : Int32) (i3 : Int32) (i5 : Int32) (f12 : UInt32) : m_X4_leastSquare_b104 k6 1 i1 i2 i3 i5 f12 (wA z f r) = (g_X4_leastSquare_b104 kg6 i1 i2 i3 i5 f12 z f).map (fun x => (x, wA z f r)) := by
  unfold m_X4_leastSquare_b104 g_X4_leastSquare_b104
  exact e_X4_leastSquare_b108 (hk6 := hk6) _ _ _ _ _ 
def g_X4_leastSquare_b89 (k6 : Int32 → Int32 → Int32 → UInt32 → Int32 → (Nat → Nat → Int32) → (Nat → Nat → Int32) → Option UInt32) (i1 : Int32) (i2 : Int32) (i3 : Int32) (f4 : UInt32) (i5 : Int32) (s0 : UInt32) (z f : Nat → Nat → Int32) : Option UInt32 :=
  if i5 = 0 then
    g_X4_leastSquare_b104 k6 i1 i2 i3 i5 s0 z f
  else
    if 0 ≤ (Op.cmpValue (FP.fcmp s0 f4) .g) then
      g_X4_leastSquare_b108 k6 i1 i2 i3 f4 i5 z f
    else
      g_X4_leastSquare_b104 k6 i1 i2 i3 i5 s0 z f
set_option maxRecDepth 100000 in
set_option maxHeartbeats 4000000 in
theorem e_X4_leastSquare_b89 {r : LWd} {z f : Nat → Nat → Int32} {k6 : Nat → Int32 → Int32 → Int32 → UInt32 → Int32 → LWd → Option (UInt32 × LWd)} {kg6 : Int32 → Int32 → Int32 → UInt32 → Int32 → (Nat → Nat → Int32) → (Nat → Nat → Int32) → Option UInt32} (hk6 : ∀ (i1 : Int32) (i2 : Int32) (i3 : Int32) (f4 : UInt32) (i5 : Int32), k6 1 i1 i2 i3 f4 i5 (wA z f r) = (kg6 i1 i2 i3 f4 i5 z f).map (fun x => (x, wA z f r))) (i1 : Int32) (i2 : Int32) (i3 : Int32) (f4 : UInt32) (i5 : Int32) (s0 : UInt32) : m_X4_leastSquare_b89 k6 1 i1 i2 i3 f4 i5 s0 (wA z f r) = (g_X4_leastSquare_b89 kg6 i1 i2 i3 f4 i5 s0 z f).map (fun x => (x, wA z f r)) := by
  unfold m_X4_leastSquare_b89 g_X4_leastSquare_b89
  refine iteE (fun _ => ?_) (fun _ => ?_)
  · exact e_X4_leastSquare_b104 (hk6 := hk6) _ _ _ _ _ 
  · refine iteE (fun _ => ?_) (fun _ => ?_)
    · exact e_X4_leastSquare_b108 (hk6 := hk6) _ _ _ _ _ 
    · exact e_X4_leastSquare_b104 (hk6 := hk6) _ _ _ _ _ 
def g_X4_leastSquare_l6 : Nat → Int32 → Int32 → Int32 → UInt32 → Int32 → (Nat → Nat → Int32) → (Nat → Nat → Int32) → Option UInt32
  | 0, _, _, _, _, _, _, _ => none
  | fu + 1, i1, i2, i3, f4, i5, z, f =>
    if (z 1 2) ≤ i5 then
      some (f4)
    else
      (g_X4_edgeByWay (rdR 7 (f 3) i5) (rdR 7 (f 3) (i5 + 1)) i1 i2 i3 z f).bind fun x1 =>
      (g_X4_squareOfEdge (rdR 7 (f 3) i5) (rdR 7 (f 3) (i5 + 1)) z f).bind fun x2 =>
      if 0 < (lg_cmp (((Int32.toInt64 x2) * (Int32.toInt64 i3)) * (Int32.toInt64 i3)) 0) then
        (jnn (FP.fdiv (FP.l2f ((Int32.toInt64 x1) * (Int32.toInt64 x1))) (FP.l2f (((Int32.toInt64 x2) * (Int32.toInt64 i3)) * (Int32.toInt64 i3))))).bind fun x3 =>
        g_X4_leastSquare_b89 (fun y0 y1 y2 y3 y4 z f => g_X4_leastSquare_l6 fu y0 y1 y2 y3 y4 z f) i1 i2 i3 f4 i5 x3 z f
      else
        g_X4_leastSquare_b89 (fun y0 y1 y2 y3 y4 z f => g_X4_leastSquare_l6 fu y0 y1 y2 y3 y4 z f) i1 i2 i3 f4 i5 FP.fconst0 z f
set_option maxRecDepth 100000 in
set_option maxHeartbeats 4000000 in
theorem e_X4_leastSquare_l6 {r : LWd} {z f : Nat → Nat → Int32} : ∀ (fu : Nat) (i1 : Int32) (i2 : Int32) (i3 : Int32) (f4 : UInt32) (i5 : Int32), m_X4_leastSquare_l6 fu 1 i1 i2 i3 f4 i5 (wA z f r) = (g_X4_leastSquare_l6 fu i1 i2 i3 f4 i5 z f).map (fun x => (x, wA z f r)) := by
  intro fu
  induction fu with
  | zero => intro i1 i2 i3 f4 i5 ; first | rfl | (rw [m_X4_leastSquare_l6, g_X4_leastSquare_l6]; rfl)
  | succ fu ih =>
    intro i1 i2 i3 f4 i5 
    rw [m_X4_leastSquare_l6, g_X4_leastSquare_l6]
    refine opS fI_1_2 ?_
    refine iteE (fun _ => ?_) (fun _ => ?_)
    · rfl
    · refine opS fR_1_0 ?_
      refine caR (e_X8_at rw_2) rfl ?_
      refine opS fR_1_0 ?_
      refine caR (e_X8_at rw_2) rfl ?_
      refine caP (e_X4_edgeByWay) (fun x1 => ?_)
      refine caP (e_X4_squareOfEdge) (fun x2 => ?_)
      refine iteE (fun _ => ?_) (fun _ => ?_)
      · refine opB rfl (fun x3 => ?_)
        exact e_X4_leastSquare_b89 (hk6 := ih) _ _ _ _ _ _ 
      · exact e_X4_leastSquare_b89 (hk6 := ih) _ _ _ _ _ _ 
def g_X4_leastSquare (i1 : Int32) (i2 : Int32) (i3 : Int32) (z f : Nat → Nat → Int32) : Option UInt32 :=
  g_X4_leastSquare_l6 FU i1 i2 i3 FP.fconst0 0 z f
set_option maxRecDepth 100000 in
set_option maxHeartbeats 4000000 in
theorem e_X4_leastSquare {r : LWd} {z f : Nat → Nat → Int32} {i1 : Int32} {i2 : Int32} {i3 : Int32} : m_X4_leastSquare 1 i1 i2 i3 (wA z f r) = (g_X4_leastSquare i1 i2 i3 z f).map (fun x => (x, wA z f r)) := by
  unfold m_X4_leastSquare g_X4_leastSquare
  refine opS rcv_1 ?_
  exact e_X4_leastSquare_l6 FU _ _ _ _ _ 
def g_X10_bitsOf_b67 (i1 : Int32) (f2 : UInt32) (z f : Nat → Nat → Int32) : Option Int32 :=
  (jnn (FP.fsub f2 FP.fconst1)).bind fun x1 =>
  (jnn (FP.fmul x1 1258291200)).bind fun x2 =>
  some ((i1 <<< (23 &&& 31)) ||| (FP.f2i x2))
set_option maxRecDepth 100000 in
set_option maxHeartbeats 4000000 in
theorem e_X10_bitsOf_b67 {r : LWd} {z f : Nat → Nat → Int32} (i1 : Int32) (f2 : UInt32) : m_X10_bitsOf_b67 i1 f2 (wA z f r) = (g_X10_bitsOf_b67 i1 f2 z f).map (fun x => (x, wA z f r)) := by
  unfold m_X10_bitsOf_b67 g_X10_bitsOf_b67
  refine opB rfl (fun x1 => ?_)
  refine opB rfl (fun x2 => ?_)
  rfl
def g_X10_bitsOf_l42 : Nat → Int32 → UInt32 → Int32 → (Nat → Nat → Int32) → (Nat → Nat → Int32) → Option Int32
  | 0, _, _, _, _, _ => none
  | fu + 1, i1, f2, i3, z, f =>
    if 126 ≤ i3 then
      g_X10_bitsOf_b67 i1 f2 z f
    else
      if 0 ≤ (Op.cmpValue (FP.fcmp f2 FP.fconst1) .g) then
        g_X10_bitsOf_b67 i1 f2 z f
      else
        (jnn (FP.fmul f2 FP.fconst2)).bind fun x1 =>
        g_X10_bitsOf_l42 fu (i1 + (-1)) x1 (i3 + 1) z f
set_option maxRecDepth 100000 in
set_option maxHeartbeats 4000000 in
theorem e_X10_bitsOf_l42 {r : LWd} {z f : Nat → Nat → Int32} : ∀ (fu : Nat) (i1 : Int32) (f2 : UInt32) (i3 : Int32), m_X10_bitsOf_l42 fu i1 f2 i3 (wA z f r) = (g_X10_bitsOf_l42 fu i1 f2 i3 z f).map (fun x => (x, wA z f r)) := by
  intro fu
  induction fu with
  | zero => intro i1 f2 i3 ; first | rfl | (rw [m_X10_bitsOf_l42, g_X10_bitsOf_l42]; rfl)
  | succ fu ih =>
    intro i1 f2 i3 
    rw [m_X10_bitsOf_l42, g_X10_bitsOf_l42]
    refine iteE (fun _ => ?_) (fun _ => ?_)
    · exact e_X10_bitsOf_b67 _ _ 
    · refine iteE (fun _ => ?_) (fun _ => ?_)
      · exact e_X10_bitsOf_b67 _ _ 
      · refine opB rfl (fun x1 => ?_)
        exact ih _ _ _ 
def g_X10_bitsOf_b40 (i1 : Int32) (f2 : UInt32) (z f : Nat → Nat → Int32) : Option Int32 :=
  g_X10_bitsOf_l42 FU i1 f2 0 z f
set_option maxRecDepth 100000 in
set_option maxHeartbeats 4000000 in
theorem e_X10_bitsOf_b40 {r : LWd} {z f : Nat → Nat → Int32} (i1 : Int32) (f2 : UInt32) : m_X10_bitsOf_b40 i1 f2 (wA z f r) = (g_X10_bitsOf_b40 i1 f2 z f).map (fun x => (x, wA z f r)) := by
  unfold m_X10_bitsOf_b40 g_X10_bitsOf_b40
  exact e_X10_bitsOf_l42 FU _ _ _ 
def g_X10_bitsOf_l15 : Nat → Int32 → UInt32 → Int32 → (Nat → Nat → Int32) → (Nat → Nat → Int32) → Option Int32
  | 0, _, _, _, _, _ => none
  | fu + 1, i1, f2, i3, z, f =>
    if 126 ≤ i3 then
      g_X10_bitsOf_b40 i1 f2 z f
    else
      if (Op.cmpValue (FP.fcmp f2 FP.fconst2) .l) < 0 then
        g_X10_bitsOf_b40 i1 f2 z f
      else
        (jnn (FP.fdiv f2 FP.fconst2)).bind fun x1 =>
        g_X10_bitsOf_l15 fu (i1 + 1) x1 (i3 + 1) z f
set_option maxRecDepth 100000 in
set_option maxHeartbeats 4000000 in
theorem e_X10_bitsOf_l15 {r : LWd} {z f : Nat → Nat → Int32} : ∀ (fu : Nat) (i1 : Int32) (f2 : UInt32) (i3 : Int32), m_X10_bitsOf_l15 fu i1 f2 i3 (wA z f r) = (g_X10_bitsOf_l15 fu i1 f2 i3 z f).map (fun x => (x, wA z f r)) := by
  intro fu
  induction fu with
  | zero => intro i1 f2 i3 ; first | rfl | (rw [m_X10_bitsOf_l15, g_X10_bitsOf_l15]; rfl)
  | succ fu ih =>
    intro i1 f2 i3 
    rw [m_X10_bitsOf_l15, g_X10_bitsOf_l15]
    refine iteE (fun _ => ?_) (fun _ => ?_)
    · exact e_X10_bitsOf_b40 _ _ 
    · refine iteE (fun _ => ?_) (fun _ => ?_)
      · exact e_X10_bitsOf_b40 _ _ 
      · refine opB rfl (fun x1 => ?_)
        exact ih _ _ _ 
def g_X10_bitsOf (f0 : UInt32) (z f : Nat → Nat → Int32) : Option Int32 :=
  if 0 < (Op.cmpValue (FP.fcmp f0 FP.fconst0) .g) then
    g_X10_bitsOf_l15 FU 127 f0 0 z f
  else
    some (0)
set_option maxRecDepth 100000 in
set_option maxHeartbeats 4000000 in
theorem e_X10_bitsOf {r : LWd} {z f : Nat → Nat → Int32} {f0 : UInt32} : m_X10_bitsOf f0 (wA z f r) = (g_X10_bitsOf f0 z f).map (fun x => (x, wA z f r)) := by
  unfold m_X10_bitsOf g_X10_bitsOf
  refine iteE (fun _ => ?_) (fun _ => ?_)
  · exact e_X10_bitsOf_l15 FU _ _ _ 
  · rfl
def g_X10_margin (z f : Nat → Nat → Int32) : Option (Int32 × (Nat → Nat → Int32) × (Nat → Nat → Int32)) :=
  bn3 (g_X9_holdsWithout 22 ((-1)) z f) fun x1 z2 u3 =>
  if x1 = 0 then
    some ((-1082130432), z2, u3)
  else
    if 3 ≤ (z2 1 2) then
      (g_X9_momentX 22 z2 u3).bind fun x4 =>
      (g_X9_momentY 22 z2 u3).bind fun x5 =>
      (g_X2_weight  z2 u3).bind fun x6 =>
      (g_X4_leastSquare x4 x5 x6 z2 u3).bind fun x7 =>
      (g_X10_bitsOf x7 z2 u3).bind fun x8 =>
      some (x8, z2, u3)
    else
      some (0, z2, u3)
set_option maxRecDepth 100000 in
set_option maxHeartbeats 4000000 in
theorem e_X10_margin {r : LWd} {z f : Nat → Nat → Int32} : m_X10_margin 0 (wA z f r) = (g_X10_margin  z f).map (fun q => (q.1, wA q.2.1 q.2.2 r)) := by
  unfold m_X10_margin g_X10_margin
  refine opS rcv_0 ?_
  refine opS fR_0_2 ?_
  refine caW (e_X9_holdsWithout (Or.inl rfl)) (fun _ _ => wA_len) (fun x1 z2 u3 => ?_)
  refine iteE (fun _ => ?_) (fun _ => ?_)
  · rfl
  · refine opS fR_0_2 ?_
    refine opS (fRs_2 (Or.inl rfl)) ?_
    refine opS fI_1_2 ?_
    refine iteE (fun _ => ?_) (fun _ => ?_)
    · refine opS fR_0_2 ?_
      refine caP (e_X9_momentX (Or.inl rfl)) (fun x4 => ?_)
      refine opS fR_0_2 ?_
      refine caP (e_X9_momentY (Or.inl rfl)) (fun x5 => ?_)
      refine opS fR_0_1 ?_
      refine caP (e_X2_weight) (fun x6 => ?_)
      refine caP (e_X4_leastSquare) (fun x7 => ?_)
      refine caP (e_X10_bitsOf) (fun x8 => ?_)
      rfl
    · rfl
def g_X10_corner (i1 : Int32) (z f : Nat → Nat → Int32) : Option ((Int32 ⊕ String) × (Nat → Nat → Int32) × (Nat → Nat → Int32)) :=
  if 0 ≤ i1 then
    bn2 (g_X4_wrap 23 ((-1)) z f) fun z1 u2 =>
    if (z1 1 2) ≤ i1 then
      some (.inl ((-1)), z1, u2)
    else
      some (.inl (rdR 7 (u2 3) i1), z1, u2)
  else
    some (.inr "java/lang/IllegalArgumentException", z, f)
set_option maxRecDepth 100000 in
set_option maxHeartbeats 4000000 in
theorem e_X10_corner {r : LWd} {z f : Nat → Nat → Int32} {i1 : Int32} : m_X10_corner 0 i1 (wA z f r) = (g_X10_corner i1 z f).map (fun q => (q.1, wA q.2.1 q.2.2 r)) := by
  unfold m_X10_corner g_X10_corner
  refine opS rcv_0 ?_
  refine iteE (fun _ => ?_) (fun _ => ?_)
  · refine opS fR_0_2 ?_
    refine opS (fRs_2 (Or.inl rfl)) ?_
    refine opS fR_0_2 ?_
    refine opS (fRs_3 (Or.inl rfl)) ?_
    refine caU (e_X4_wrap (Or.inl rfl)) (fun _ _ => wA_len) (fun z1 u2 => ?_)
    refine opS fR_0_2 ?_
    refine opS (fRs_2 (Or.inl rfl)) ?_
    refine opS fI_1_2 ?_
    refine iteE (fun _ => ?_) (fun _ => ?_)
    · rfl
    · refine opS fR_0_2 ?_
      refine opS (fRs_2 (Or.inl rfl)) ?_
      refine opS fR_1_0 ?_
      refine caR (e_X8_at rw_2) rfl ?_
      rfl
  · rfl
def g_X9_bestPoint_b191 (k42 : Nat → Int32 → Int32 → Int32 → Int32 → Int32 → Int32 → Int32 → Int32 → (Nat → Nat → Int32) → (Nat → Nat → Int32) → Option Int32) (k61 : Nat → Int32 → Int32 → Int32 → Int32 → Int32 → Int32 → Int32 → Int32 → Int32 → (Nat → Nat → Int32) → (Nat → Nat → Int32) → Option Int32) (k81 : Nat → Int32 → Int32 → Int32 → Int32 → Int32 → Int32 → Int32 → Int32 → Int32 → Int32 → Int32 → (Nat → Nat → Int32) → (Nat → Nat → Int32) → Option Int32) (a0 : Nat) (i1 : Int32) (i2 : Int32) (i3 : Int32) (i4 : Int32) (i5 : Int32) (i6 : Int32) (i7 : Int32) (i8 : Int32) (i9 : Int32) (i10 : Int32) (i11 : Int32) (z f : Nat → Nat → Int32) : Option Int32 :=
  k81 a0 i1 i2 i3 i4 i5 i6 i7 i8 i9 i10 (i11 + 2) z f
set_option maxRecDepth 100000 in
set_option maxHeartbeats 4000000 in
theorem e_X9_bestPoint_b191 {r : LWd} {z f : Nat → Nat → Int32} {k42 : Nat → Int32 → Int32 → Int32 → Int32 → Int32 → Int32 → Int32 → Int32 → LWd → Option (Int32 × LWd)} {kg42 : Nat → Int32 → Int32 → Int32 → Int32 → Int32 → Int32 → Int32 → Int32 → (Nat → Nat → Int32) → (Nat → Nat → Int32) → Option Int32} (hk42 : ∀ (a0 : Nat) (i1 : Int32) (i2 : Int32) (i3 : Int32) (i4 : Int32) (i5 : Int32) (i6 : Int32) (i7 : Int32) (i8 : Int32) (ha0 : isSt a0), k42 a0 i1 i2 i3 i4 i5 i6 i7 i8 (wA z f r) = (kg42 a0 i1 i2 i3 i4 i5 i6 i7 i8 z f).map (fun x => (x, wA z f r))) {k61 : Nat → Int32 → Int32 → Int32 → Int32 → Int32 → Int32 → Int32 → Int32 → Int32 → LWd → Option (Int32 × LWd)} {kg61 : Nat → Int32 → Int32 → Int32 → Int32 → Int32 → Int32 → Int32 → Int32 → Int32 → (Nat → Nat → Int32) → (Nat → Nat → Int32) → Option Int32} (hk61 : ∀ (a0 : Nat) (i1 : Int32) (i2 : Int32) (i3 : Int32) (i4 : Int32) (i5 : Int32) (i6 : Int32) (i7 : Int32) (i8 : Int32) (i9 : Int32) (ha0 : isSt a0), k61 a0 i1 i2 i3 i4 i5 i6 i7 i8 i9 (wA z f r) = (kg61 a0 i1 i2 i3 i4 i5 i6 i7 i8 i9 z f).map (fun x => (x, wA z f r))) {k81 : Nat → Int32 → Int32 → Int32 → Int32 → Int32 → Int32 → Int32 → Int32 → Int32 → Int32 → Int32 → LWd → Option (Int32 × LWd)} {kg81 : Nat → Int32 → Int32 → Int32 → Int32 → Int32 → Int32 → Int32 → Int32 → Int32 → Int32 → Int32 → (Nat → Nat → Int32) → (Nat → Nat → Int32) → Option Int32} (hk81 : ∀ (a0 : Nat) (i1 : Int32) (i2 : Int32) (i3 : Int32) (i4 : Int32) (i5 : Int32) (i6 : Int32) (i7 : Int32) (i8 : Int32) (i9 : Int32) (i10 : Int32) (i11 : Int32) (ha0 : isSt a0), k81 a0 i1 i2 i3 i4 i5 i6 i7 i8 i9 i10 i11 (wA z f r) = (kg81 a0 i1 i2 i3 i4 i5 i6 i7 i8 i9 i10 i11 z f).map (fun x => (x, wA z f r))) (a0 : Nat) (i1 : Int32) (i2 : Int32) (i3 : Int32) (i4 : Int32) (i5 : Int32) (i6 : Int32) (i7 : Int32) (i8 : Int32) (i9 : Int32) (i10 : Int32) (i11 : Int32) (ha0 : isSt a0) : m_X9_bestPoint_b191 k42 k61 k81 a0 i1 i2 i3 i4 i5 i6 i7 i8 i9 i10 i11 (wA z f r) = (g_X9_bestPoint_b191 kg42 kg61 kg81 a0 i1 i2 i3 i4 i5 i6 i7 i8 i9 i10 i11 z f).map (fun x => (x, wA z f r)) := by
  unfold m_X9_bestPoint_b191 g_X9_bestPoint_b191
  exact hk81 _ _ _ _ _ _ _ _ _ _ _ _ ha0
def g_X9_bestPoint_l81 (k42 : Nat → Int32 → Int32 → Int32 → Int32 → Int32 → Int32 → Int32 → Int32 → (Nat → Nat → Int32) → (Nat → Nat → Int32) → Option Int32) (k61 : Nat → Int32 → Int32 → Int32 → Int32 → Int32 → Int32 → Int32 → Int32 → Int32 → (Nat → Nat → Int32) → (Nat → Nat → Int32) → Option Int32) : Nat → Nat → Int32 → Int32 → Int32 → Int32 → Int32 → Int32 → Int32 → Int32 → Int32 → Int32 → Int32 → (Nat → Nat → Int32) → (Nat → Nat → Int32) → Option Int32
  | 0, _, _, _, _, _, _, _, _, _, _, _, _, _, _ => none
  | fu + 1, a0, i1, i2, i3, i4, i5, i6, i7, i8, i9, i10, i11, z, f =>
    if 1 < i11 then
      k61 a0 i1 i2 i3 i4 i5 i6 i7 i8 (i9 + 1) z f
    else
      (g_X10_pointAt (i3 + (i11 * i10)) (i4 + i9) z f).bind fun x1 =>
      if x1 = ((-1)) then
        g_X9_bestPoint_b191 k42 k61 (fun y0 y1 y2 y3 y4 y5 y6 y7 y8 y9 y10 y11 z f => g_X9_bestPoint_l81 k42 k61 fu y0 y1 y2 y3 y4 y5 y6 y7 y8 y9 y10 y11 z f) a0 i1 i2 i3 i4 i5 i6 i7 i8 i9 i10 i11 z f
      else
        if (i5 * i5) < ((i10 * i10) + (i9 * i9)) then
          g_X9_bestPoint_b191 k42 k61 (fun y0 y1 y2 y3 y4 y5 y6 y7 y8 y9 y10 y11 z f => g_X9_bestPoint_l81 k42 k61 fu y0 y1 y2 y3 y4 y5 y6 y7 y8 y9 y10 y11 z f) a0 i1 i2 i3 i4 i5 i6 i7 i8 i9 i10 i11 z f
        else
          if 2 < (jabs ((rdR 400 (f 14) x1) - i2)) then
            g_X9_bestPoint_b191 k42 k61 (fun y0 y1 y2 y3 y4 y5 y6 y7 y8 y9 y10 y11 z f => g_X9_bestPoint_l81 k42 k61 fu y0 y1 y2 y3 y4 y5 y6 y7 y8 y9 y10 y11 z f) a0 i1 i2 i3 i4 i5 i6 i7 i8 i9 i10 i11 z f
          else
            if i7 ≤ ((10 * (jabs ((rdR 400 (f 14) x1) - i2))) + i8) then
              g_X9_bestPoint_b191 k42 k61 (fun y0 y1 y2 y3 y4 y5 y6 y7 y8 y9 y10 y11 z f => g_X9_bestPoint_l81 k42 k61 fu y0 y1 y2 y3 y4 y5 y6 y7 y8 y9 y10 y11 z f) a0 i1 i2 i3 i4 i5 i6 i7 i8 i9 i10 i11 z f
            else
              (g_X9_isTaken a0 x1 i1 z f).bind fun x2 =>
              if x2 = 0 then
                g_X9_bestPoint_b191 k42 k61 (fun y0 y1 y2 y3 y4 y5 y6 y7 y8 y9 y10 y11 z f => g_X9_bestPoint_l81 k42 k61 fu y0 y1 y2 y3 y4 y5 y6 y7 y8 y9 y10 y11 z f) a0 i1 i2 i3 i4 i5 x1 ((10 * (jabs ((rdR 400 (f 14) x1) - i2))) + i8) i8 i9 i10 i11 z f
              else
                g_X9_bestPoint_b191 k42 k61 (fun y0 y1 y2 y3 y4 y5 y6 y7 y8 y9 y10 y11 z f => g_X9_bestPoint_l81 k42 k61 fu y0 y1 y2 y3 y4 y5 y6 y7 y8 y9 y10 y11 z f) a0 i1 i2 i3 i4 i5 i6 i7 i8 i9 i10 i11 z f
set_option maxRecDepth 100000 in
set_option maxHeartbeats 4000000 in
theorem e_X9_bestPoint_l81 {r : LWd} {z f : Nat → Nat → Int32} {k42 : Nat → Int32 → Int32 → Int32 → Int32 → Int32 → Int32 → Int32 → Int32 → LWd → Option (Int32 × LWd)} {kg42 : Nat → Int32 → Int32 → Int32 → Int32 → Int32 → Int32 → Int32 → Int32 → (Nat → Nat → Int32) → (Nat → Nat → Int32) → Option Int32} (hk42 : ∀ (a0 : Nat) (i1 : Int32) (i2 : Int32) (i3 : Int32) (i4 : Int32) (i5 : Int32) (i6 : Int32) (i7 : Int32) (i8 : Int32) (ha0 : isSt a0), k42 a0 i1 i2 i3 i4 i5 i6 i7 i8 (wA z f r) = (kg42 a0 i1 i2 i3 i4 i5 i6 i7 i8 z f).map (fun x => (x, wA z f r))) {k61 : Nat → Int32 → Int32 → Int32 → Int32 → Int32 → Int32 → Int32 → Int32 → Int32 → LWd → Option (Int32 × LWd)} {kg61 : Nat → Int32 → Int32 → Int32 → Int32 → Int32 → Int32 → Int32 → Int32 → Int32 → (Nat → Nat → Int32) → (Nat → Nat → Int32) → Option Int32} (hk61 : ∀ (a0 : Nat) (i1 : Int32) (i2 : Int32) (i3 : Int32) (i4 : Int32) (i5 : Int32) (i6 : Int32) (i7 : Int32) (i8 : Int32) (i9 : Int32) (ha0 : isSt a0), k61 a0 i1 i2 i3 i4 i5 i6 i7 i8 i9 (wA z f r) = (kg61 a0 i1 i2 i3 i4 i5 i6 i7 i8 i9 z f).map (fun x => (x, wA z f r))) : ∀ (fu : Nat) (a0 : Nat) (i1 : Int32) (i2 : Int32) (i3 : Int32) (i4 : Int32) (i5 : Int32) (i6 : Int32) (i7 : Int32) (i8 : Int32) (i9 : Int32) (i10 : Int32) (i11 : Int32) (ha0 : isSt a0), m_X9_bestPoint_l81 k42 k61 fu a0 i1 i2 i3 i4 i5 i6 i7 i8 i9 i10 i11 (wA z f r) = (g_X9_bestPoint_l81 kg42 kg61 fu a0 i1 i2 i3 i4 i5 i6 i7 i8 i9 i10 i11 z f).map (fun x => (x, wA z f r)) := by
  intro fu
  induction fu with
  | zero => intro a0 i1 i2 i3 i4 i5 i6 i7 i8 i9 i10 i11 ha0; first | rfl | (rw [m_X9_bestPoint_l81, g_X9_bestPoint_l81]; rfl)
  | succ fu ih =>
    intro a0 i1 i2 i3 i4 i5 i6 i7 i8 i9 i10 i11 ha0
    rw [m_X9_bestPoint_l81, g_X9_bestPoint_l81]
    refine iteE (fun _ => ?_) (fun _ => ?_)
    · exact hk61 _ _ _ _ _ _ _ _ _ _ ha0
    · refine caP (e_X10_pointAt) (fun x1 => ?_)
      refine opS (fRs_0 ha0) ?_
      refine opS fR_6_3 ?_
      refine caR (e_X8_at rw_13) rfl ?_
      refine iteE (fun _ => ?_) (fun _ => ?_)
      · exact e_X9_bestPoint_b191 (hk42 := hk42) (hk61 := hk61) (hk81 := ih) _ _ _ _ _ _ _ _ _ _ _ _ ha0
      · refine iteE (fun _ => ?_) (fun _ => ?_)
        · exact e_X9_bestPoint_b191 (hk42 := hk42) (hk61 := hk61) (hk81 := ih) _ _ _ _ _ _ _ _ _ _ _ _ ha0
        · refine iteE (fun _ => ?_) (fun _ => ?_)
          · exact e_X9_bestPoint_b191 (hk42 := hk42) (hk61 := hk61) (hk81 := ih) _ _ _ _ _ _ _ _ _ _ _ _ ha0
          · refine iteE (fun _ => ?_) (fun _ => ?_)
            · exact e_X9_bestPoint_b191 (hk42 := hk42) (hk61 := hk61) (hk81 := ih) _ _ _ _ _ _ _ _ _ _ _ _ ha0
            · refine caP (e_X9_isTaken ha0) (fun x2 => ?_)
              refine iteE (fun _ => ?_) (fun _ => ?_)
              · exact e_X9_bestPoint_b191 (hk42 := hk42) (hk61 := hk61) (hk81 := ih) _ _ _ _ _ _ _ _ _ _ _ _ ha0
              · exact e_X9_bestPoint_b191 (hk42 := hk42) (hk61 := hk61) (hk81 := ih) _ _ _ _ _ _ _ _ _ _ _ _ ha0
def g_X9_bestPoint_l61 (k42 : Nat → Int32 → Int32 → Int32 → Int32 → Int32 → Int32 → Int32 → Int32 → (Nat → Nat → Int32) → (Nat → Nat → Int32) → Option Int32) : Nat → Nat → Int32 → Int32 → Int32 → Int32 → Int32 → Int32 → Int32 → Int32 → Int32 → (Nat → Nat → Int32) → (Nat → Nat → Int32) → Option Int32
  | 0, _, _, _, _, _, _, _, _, _, _, _, _ => none
  | fu + 1, a0, i1, i2, i3, i4, i5, i6, i7, i8, i9, z, f =>
    if i8 < i9 then
      k42 a0 i1 i2 i3 i4 i5 i6 i7 (i8 + 1) z f
    else
      g_X9_bestPoint_l81 k42 (fun y0 y1 y2 y3 y4 y5 y6 y7 y8 y9 z f => g_X9_bestPoint_l61 k42 fu y0 y1 y2 y3 y4 y5 y6 y7 y8 y9 z f) FU a0 i1 i2 i3 i4 i5 i6 i7 i8 i9 (i8 - (jabs i9)) ((-1)) z f
set_option maxRecDepth 100000 in
set_option maxHeartbeats 4000000 in
theorem e_X9_bestPoint_l61 {r : LWd} {z f : Nat → Nat → Int32} {k42 : Nat → Int32 → Int32 → Int32 → Int32 → Int32 → Int32 → Int32 → Int32 → LWd → Option (Int32 × LWd)} {kg42 : Nat → Int32 → Int32 → Int32 → Int32 → Int32 → Int32 → Int32 → Int32 → (Nat → Nat → Int32) → (Nat → Nat → Int32) → Option Int32} (hk42 : ∀ (a0 : Nat) (i1 : Int32) (i2 : Int32) (i3 : Int32) (i4 : Int32) (i5 : Int32) (i6 : Int32) (i7 : Int32) (i8 : Int32) (ha0 : isSt a0), k42 a0 i1 i2 i3 i4 i5 i6 i7 i8 (wA z f r) = (kg42 a0 i1 i2 i3 i4 i5 i6 i7 i8 z f).map (fun x => (x, wA z f r))) : ∀ (fu : Nat) (a0 : Nat) (i1 : Int32) (i2 : Int32) (i3 : Int32) (i4 : Int32) (i5 : Int32) (i6 : Int32) (i7 : Int32) (i8 : Int32) (i9 : Int32) (ha0 : isSt a0), m_X9_bestPoint_l61 k42 fu a0 i1 i2 i3 i4 i5 i6 i7 i8 i9 (wA z f r) = (g_X9_bestPoint_l61 kg42 fu a0 i1 i2 i3 i4 i5 i6 i7 i8 i9 z f).map (fun x => (x, wA z f r)) := by
  intro fu
  induction fu with
  | zero => intro a0 i1 i2 i3 i4 i5 i6 i7 i8 i9 ha0; first | rfl | (rw [m_X9_bestPoint_l61, g_X9_bestPoint_l61]; rfl)
  | succ fu ih =>
    intro a0 i1 i2 i3 i4 i5 i6 i7 i8 i9 ha0
    rw [m_X9_bestPoint_l61, g_X9_bestPoint_l61]
    refine iteE (fun _ => ?_) (fun _ => ?_)
    · exact hk42 _ _ _ _ _ _ _ _ _ ha0
    · exact e_X9_bestPoint_l81 (hk42 := hk42) (hk61 := ih) FU _ _ _ _ _ _ _ _ _ _ _ _ ha0
def g_X9_bestPoint_l42 : Nat → Nat → Int32 → Int32 → Int32 → Int32 → Int32 → Int32 → Int32 → Int32 → (Nat → Nat → Int32) → (Nat → Nat → Int32) → Option Int32
  | 0, _, _, _, _, _, _, _, _, _, _, _ => none
  | fu + 1, a0, i1, i2, i3, i4, i5, i6, i7, i8, z, f =>
    if 8 < i8 then
      some (i6)
    else
      if i7 ≤ i8 then
        some (i6)
      else
        g_X9_bestPoint_l61 (fun y0 y1 y2 y3 y4 y5 y6 y7 y8 z f => g_X9_bestPoint_l42 fu y0 y1 y2 y3 y4 y5 y6 y7 y8 z f) FU a0 i1 i2 i3 i4 i5 i6 i7 i8 (-i8) z f
set_option maxRecDepth 100000 in
set_option maxHeartbeats 4000000 in
theorem e_X9_bestPoint_l42 {r : LWd} {z f : Nat → Nat → Int32} : ∀ (fu : Nat) (a0 : Nat) (i1 : Int32) (i2 : Int32) (i3 : Int32) (i4 : Int32) (i5 : Int32) (i6 : Int32) (i7 : Int32) (i8 : Int32) (ha0 : isSt a0), m_X9_bestPoint_l42 fu a0 i1 i2 i3 i4 i5 i6 i7 i8 (wA z f r) = (g_X9_bestPoint_l42 fu a0 i1 i2 i3 i4 i5 i6 i7 i8 z f).map (fun x => (x, wA z f r)) := by
  intro fu
  induction fu with
  | zero => intro a0 i1 i2 i3 i4 i5 i6 i7 i8 ha0; first | rfl | (rw [m_X9_bestPoint_l42, g_X9_bestPoint_l42]; rfl)
  | succ fu ih =>
    intro a0 i1 i2 i3 i4 i5 i6 i7 i8 ha0
    rw [m_X9_bestPoint_l42, g_X9_bestPoint_l42]
    refine iteE (fun _ => ?_) (fun _ => ?_)
    · rfl
    · refine iteE (fun _ => ?_) (fun _ => ?_)
      · rfl
      · exact e_X9_bestPoint_l61 (hk42 := ih) FU _ _ _ _ _ _ _ _ _ _ ha0
def g_X9_bestPoint (a0 : Nat) (i1 : Int32) (z f : Nat → Nat → Int32) : Option Int32 :=
  (g_X9_level a0 i1 z f).bind fun x1 =>
  (g_X9_hipX a0 i1 z f).bind fun x2 =>
  (g_X9_hipY a0 i1 z f).bind fun x3 =>
  g_X9_bestPoint_l42 FU a0 i1 x1 x2 x3 (rdR 6 (f 21) i1) ((-1)) 2147483647 0 z f
set_option maxRecDepth 100000 in
set_option maxHeartbeats 4000000 in
theorem e_X9_bestPoint {r : LWd} {z f : Nat → Nat → Int32} {a0 : Nat} {i1 : Int32} (ha0 : isSt a0) : m_X9_bestPoint a0 i1 (wA z f r) = (g_X9_bestPoint a0 i1 z f).map (fun x => (x, wA z f r)) := by
  unfold m_X9_bestPoint g_X9_bestPoint
  refine opS (rcvs ha0) ?_
  refine caP (e_X9_level ha0) (fun x1 => ?_)
  refine caP (e_X9_hipX ha0) (fun x2 => ?_)
  refine caP (e_X9_hipY ha0) (fun x3 => ?_)
  refine opS (fRs_1 ha0) ?_
  refine opS fR_15_2 ?_
  refine caR (e_X8_at rw_20) rfl ?_
  exact e_X9_bestPoint_l42 FU _ _ _ _ _ _ _ _ _ ha0
def g_X10_foothold (i1 : Int32) (z f : Nat → Nat → Int32) : Option (Int32 ⊕ String) :=
  (g_X10_isLeg i1 z f).bind fun x1 =>
  if x1 = 0 then
    some (.inr "java/lang/IndexOutOfBoundsException")
  else
    (g_X9_bestPoint 22 i1 z f).bind fun x2 =>
    some (.inl x2)
set_option maxRecDepth 100000 in
set_option maxHeartbeats 4000000 in
theorem e_X10_foothold {r : LWd} {z f : Nat → Nat → Int32} {i1 : Int32} : m_X10_foothold 0 i1 (wA z f r) = (g_X10_foothold i1 z f).map (fun x => (x, wA z f r)) := by
  unfold m_X10_foothold g_X10_foothold
  refine opS rcv_0 ?_
  refine caP (e_X10_isLeg) (fun x1 => ?_)
  refine iteE (fun _ => ?_) (fun _ => ?_)
  · rfl
  · refine opS fR_0_2 ?_
    refine caP (e_X9_bestPoint (Or.inl rfl)) (fun x2 => ?_)
    rfl
def g_X9_sinkAway_b35 (i1 : Int32) (z f : Nat → Nat → Int32) : Option (Int32 × (Nat → Nat → Int32) × (Nat → Nat → Int32)) :=
  if i1 = 0 then
    some (0, z, f)
  else
    some (1, z, f)
set_option maxRecDepth 100000 in
set_option maxHeartbeats 4000000 in
theorem e_X9_sinkAway_b35 {r : LWd} (i1 : Int32) (z f : Nat → Nat → Int32) : m_X9_sinkAway_b35 i1 (wA z f r) = (g_X9_sinkAway_b35 i1 z f).map (fun q => (q.1, wA q.2.1 q.2.2 r)) := by
  unfold m_X9_sinkAway_b35 g_X9_sinkAway_b35
  refine iteE (fun _ => ?_) (fun _ => ?_)
  · rfl
  · rfl
def g_X9_sinkAway_l9 : Nat → Nat → Int32 → Int32 → Int32 → (Nat → Nat → Int32) → (Nat → Nat → Int32) → Option (Int32 × (Nat → Nat → Int32) × (Nat → Nat → Int32))
  | 0, _, _, _, _, _, _ => none
  | fu + 1, a0, i1, i2, i3, z, f =>
    if i2 = 0 then
      g_X9_sinkAway_b35 i1 z f
    else
      if 6 ≤ i3 then
        g_X9_sinkAway_b35 i1 z f
      else
        bn2 (g_X9_raise a0 i2 z f) fun z1 u2 =>
        (g_X9_sinking a0 z1 u2).bind fun x3 =>
        g_X9_sinkAway_l9 fu a0 i1 x3 (i3 + 1) z1 u2
set_option maxRecDepth 100000 in
set_option maxHeartbeats 4000000 in
theorem e_X9_sinkAway_l9 {r : LWd} : ∀ (fu : Nat) (a0 : Nat) (i1 : Int32) (i2 : Int32) (i3 : Int32) (ha0 : isSt a0) (z f : Nat → Nat → Int32), m_X9_sinkAway_l9 fu a0 i1 i2 i3 (wA z f r) = (g_X9_sinkAway_l9 fu a0 i1 i2 i3 z f).map (fun q => (q.1, wA q.2.1 q.2.2 r)) := by
  intro fu
  induction fu with
  | zero => intro a0 i1 i2 i3 ha0 z f; first | rfl | (rw [m_X9_sinkAway_l9, g_X9_sinkAway_l9]; rfl)
  | succ fu ih =>
    intro a0 i1 i2 i3 ha0 z f
    rw [m_X9_sinkAway_l9, g_X9_sinkAway_l9]
    refine iteE (fun _ => ?_) (fun _ => ?_)
    · exact e_X9_sinkAway_b35 _  _ _
    · refine iteE (fun _ => ?_) (fun _ => ?_)
      · exact e_X9_sinkAway_b35 _  _ _
      · refine caU (e_X9_raise ha0) (fun _ _ => wA_len) (fun z1 u2 => ?_)
        refine caP (e_X9_sinking ha0) (fun x3 => ?_)
        exact ih _ _ _ _ ha0 _ _
def g_X9_sinkAway (a0 : Nat) (z f : Nat → Nat → Int32) : Option (Int32 × (Nat → Nat → Int32) × (Nat → Nat → Int32)) :=
  (g_X9_sinking a0 z f).bind fun x1 =>
  g_X9_sinkAway_l9 FU a0 x1 x1 0 z f
set_option maxRecDepth 100000 in
set_option maxHeartbeats 4000000 in
theorem e_X9_sinkAway {r : LWd} {z f : Nat → Nat → Int32} {a0 : Nat} (ha0 : isSt a0) : m_X9_sinkAway a0 (wA z f r) = (g_X9_sinkAway a0 z f).map (fun q => (q.1, wA q.2.1 q.2.2 r)) := by
  unfold m_X9_sinkAway g_X9_sinkAway
  refine opS (rcvs ha0) ?_
  refine caP (e_X9_sinking ha0) (fun x1 => ?_)
  exact e_X9_sinkAway_l9 FU _ _ _ _ ha0 _ _
def g_X10_wouldLift (i1 : Int32) (z f : Nat → Nat → Int32) : Option ((Int32 ⊕ String) × (Nat → Nat → Int32) × (Nat → Nat → Int32)) :=
  (g_X10_isLeg i1 z f).bind fun x1 =>
  if x1 = 0 then
    some (.inr "java/lang/IndexOutOfBoundsException", z, f)
  else
    bn3 (g_X10_mayLift i1 z f) fun x2 z3 u4 =>
    if x2 = 0 then
      some (.inl ((-1)), z3, u4)
    else
      bn2 (g_X9_copy 25 22 z3 u4) fun z5 u6 =>
      lt2 (wrR u6 27 6 i1 ((-1))) fun u7 =>
      bn3 (g_X9_sinkAway 25 z5 u7) fun x8 z9 u10 =>
      if x8 = 0 then
        some (.inl 0, z9, u10)
      else
        bn3 (g_X9_holdsWithout 25 ((-1)) z9 u10) fun x11 z12 u13 =>
        if x11 = 0 then
          some (.inl 2, z12, u13)
        else
          some (.inl 1, z12, u13)
set_option maxRecDepth 100000 in
set_option maxHeartbeats 4000000 in
theorem e_X10_wouldLift {r : LWd} {z f : Nat → Nat → Int32} {i1 : Int32} : m_X10_wouldLift 0 i1 (wA z f r) = (g_X10_wouldLift i1 z f).map (fun q => (q.1, wA q.2.1 q.2.2 r)) := by
  unfold m_X10_wouldLift g_X10_wouldLift
  refine opS rcv_0 ?_
  refine caP (e_X10_isLeg) (fun x1 => ?_)
  refine iteE (fun _ => ?_) (fun _ => ?_)
  · rfl
  · refine caW (e_X10_mayLift) (fun _ _ => wA_len) (fun x2 z3 u4 => ?_)
    refine iteE (fun _ => ?_) (fun _ => ?_)
    · rfl
    · refine opS fR_0_3 ?_
      refine opS fR_0_2 ?_
      refine caU (e_X9_copy (Or.inr (Or.inl rfl)) (Or.inl rfl)) (fun _ _ => wA_len) (fun z5 u6 => ?_)
      refine opS fR_0_3 ?_
      refine opS (fRs_3 (Or.inr (Or.inl rfl))) ?_
      refine caV (e_X8_put rw_26) wA_len ?_
      refine ltE ?_
      refine opS fR_0_3 ?_
      refine caW (e_X9_sinkAway (Or.inr (Or.inl rfl))) (fun _ _ => wA_len) (fun x8 z9 u10 => ?_)
      refine iteE (fun _ => ?_) (fun _ => ?_)
      · rfl
      · refine opS fR_0_3 ?_
        refine caW (e_X9_holdsWithout (Or.inr (Or.inl rfl))) (fun _ _ => wA_len) (fun x11 z12 u13 => ?_)
        refine iteE (fun _ => ?_) (fun _ => ?_)
        · rfl
        · rfl
def g_X7_start (a1 : Nat) (i2 : Int32) (z f : Nat → Nat → Int32) : Option ((Nat → Nat → Int32) × (Nat → Nat → Int32)) :=
  lt2 (up2 z 52 2 i2) fun z1 =>
  if 4 ≤ 0 then
    some (z1, f)
  else
    (ixA 4 0).bind fun j2 =>
    bn2 (g_X9_copy (54 + 3 * j2) a1 z1 f) fun z3 u4 =>
    some (z3, u4)
set_option maxRecDepth 100000 in
set_option maxHeartbeats 4000000 in
theorem e_X7_start {r : LWd} {z f : Nat → Nat → Int32} {a1 : Nat} {i2 : Int32} (ha1 : isSt a1) : m_X7_start 52 a1 i2 (wA z f r) = (g_X7_start a1 i2 z f).map (fun q => wA q.1 q.2 r) := by
  unfold m_X7_start g_X7_start
  refine opS rcv_52 ?_
  refine opS pV_52_2 ?_
  refine ltE ?_
  refine opS fR_52_1 ?_
  refine opS aL_53 ?_
  refine iteE (c := (4 : Int32) ≤ 0) (A' := some (up2 z 52 2 i2, f)) (fun _ => ?_) (fun _ => ?_)
  · rfl
  · refine opS fR_52_1 ?_
    refine opM aR_53 (fun j2 hj2 => ?_)
    refine caU (e_X9_copy (isSt_bh hj2) ha1) (fun _ _ => wA_len) (fun z3 u4 => ?_)
    rfl
def g_X7_away (i1 : Int32) (z f : Nat → Nat → Int32) : Option Int32 :=
  if i1 < 0 then
    some (400)
  else
    if i1 < 4 then
      (ixA 4 i1).bind fun j1 =>
      (g_X10_xOf (z 52 2) z f).bind fun x2 =>
      (ixA 4 i1).bind fun j3 =>
      (g_X10_yOf (z 52 2) z f).bind fun x4 =>
      some ((jabs ((z (54 + 3 * j1) 4) - x2)) + (jabs ((z (54 + 3 * j3) 5) - x4)))
    else
      some (400)
set_option maxRecDepth 100000 in
set_option maxHeartbeats 4000000 in
theorem e_X7_away {r : LWd} {z f : Nat → Nat → Int32} {i1 : Int32} : m_X7_away 52 i1 (wA z f r) = (g_X7_away i1 z f).map (fun x => (x, wA z f r)) := by
  unfold m_X7_away g_X7_away
  refine opS rcv_52 ?_
  refine iteE (fun _ => ?_) (fun _ => ?_)
  · rfl
  · refine opS fR_52_1 ?_
    refine opS aL_53 ?_
    refine iteE (fun _ => ?_) (fun _ => ?_)
    · refine opS fR_52_1 ?_
      refine opM aR_53 (fun j1 hj1 => ?_)
      refine opS (fIs_4 (isSt_bh hj1)) ?_
      refine opS fI_52_2 ?_
      refine caP (e_X10_xOf) (fun x2 => ?_)
      refine opS fR_52_1 ?_
      refine opM aR_53 (fun j3 hj3 => ?_)
      refine opS (fIs_5 (isSt_bh hj3)) ?_
      refine opS fI_52_2 ?_
      refine caP (e_X10_yOf) (fun x4 => ?_)
      rfl
    · rfl
def g_X9_step_b22 (a0 : Nat) (i1 : Int32) (z f : Nat → Nat → Int32) : Option (Int32 × (Nat → Nat → Int32) × (Nat → Nat → Int32)) :=
  (g_X9_bestPoint a0 i1 z f).bind fun x1 =>
  if x1 = ((-1)) then
    some (0, z, f)
  else
    lt2 (wrR f (a0 + 1 + 1) 6 i1 x1) fun u2 =>
    some (1, z, u2)
set_option maxRecDepth 100000 in
set_option maxHeartbeats 4000000 in
theorem e_X9_step_b22 {r : LWd} (a0 : Nat) (i1 : Int32) (ha0 : isSt a0) (z f : Nat → Nat → Int32) : m_X9_step_b22 a0 i1 (wA z f r) = (g_X9_step_b22 a0 i1 z f).map (fun q => (q.1, wA q.2.1 q.2.2 r)) := by
  unfold m_X9_step_b22 g_X9_step_b22
  refine caP (e_X9_bestPoint ha0) (fun x1 => ?_)
  refine iteE (fun _ => ?_) (fun _ => ?_)
  · rfl
  · refine opS (fRs_3 ha0) ?_
    refine caV (e_X8_put (rw_of (isRw_of ha0))) wA_len ?_
    refine ltE ?_
    rfl
def g_X9_step (a0 : Nat) (i1 : Int32) (z f : Nat → Nat → Int32) : Option (Int32 × (Nat → Nat → Int32) × (Nat → Nat → Int32)) :=
  if (rdR 6 (f (a0 + 1 + 1)) i1) = ((-1)) then
    g_X9_step_b22 a0 i1 z f
  else
    bn3 (g_X9_holdsWithout a0 i1 z f) fun x1 z2 u3 =>
    if x1 = 0 then
      some (0, z2, u3)
    else
      g_X9_step_b22 a0 i1 z2 u3
set_option maxRecDepth 100000 in
set_option maxHeartbeats 4000000 in
theorem e_X9_step {r : LWd} {z f : Nat → Nat → Int32} {a0 : Nat} {i1 : Int32} (ha0 : isSt a0) : m_X9_step a0 i1 (wA z f r) = (g_X9_step a0 i1 z f).map (fun q => (q.1, wA q.2.1 q.2.2 r)) := by
  unfold m_X9_step g_X9_step
  refine opS (rcvs ha0) ?_
  refine opS (fRs_3 ha0) ?_
  refine caR (e_X8_at (rw_of (isRw_of ha0))) rfl ?_
  refine iteE (fun _ => ?_) (fun _ => ?_)
  · exact e_X9_step_b22 _ _ ha0 _ _
  · refine caW (e_X9_holdsWithout ha0) (fun _ _ => wA_len) (fun x1 z2 u3 => ?_)
    refine iteE (fun _ => ?_) (fun _ => ?_)
    · rfl
    · exact e_X9_step_b22 _ _ ha0 _ _
def g_X7_isMade (i1 : Int32) (i2 : Int32) (z f : Nat → Nat → Int32) : Option (Int32 × (Nat → Nat → Int32) × (Nat → Nat → Int32)) :=
  if i1 < 0 then
    some (0, z, f)
  else
    if (i1 + 1) < 4 then
      (ixA 4 (i1 + 1)).bind fun j1 =>
      (ixA 4 i1).bind fun j2 =>
      bn2 (g_X9_copy (54 + 3 * j1) (54 + 3 * j2) z f) fun z3 u4 =>
      if (i2 - 6) = 0 then
        bn3 (g_X9_moveBody (54 + 3 * j1) ((-1)) 0 z3 u4) fun x5 z6 u7 =>
        rtZw x5 z6 u7
      else
        if (i2 - 6) = 1 then
          bn3 (g_X9_moveBody (54 + 3 * j1) 1 0 z3 u4) fun x8 z9 u10 =>
          rtZw x8 z9 u10
        else
          if (i2 - 6) = 2 then
            bn3 (g_X9_moveBody (54 + 3 * j1) 0 ((-1)) z3 u4) fun x11 z12 u13 =>
            rtZw x11 z12 u13
          else
            if (i2 - 6) = 3 then
              bn3 (g_X9_moveBody (54 + 3 * j1) 0 1 z3 u4) fun x14 z15 u16 =>
              rtZw x14 z15 u16
            else
              if (z3 15 3) ≤ i2 then
                some (0, z3, u4)
              else
                bn3 (g_X9_step (54 + 3 * j1) i2 z3 u4) fun x17 z18 u19 =>
                if x17 = 0 then
                  some (0, z18, u19)
                else
                  some (1, z18, u19)
    else
      some (0, z, f)
set_option maxRecDepth 100000 in
set_option maxHeartbeats 4000000 in
theorem e_X7_isMade {r : LWd} {z f : Nat → Nat → Int32} {i1 : Int32} {i2 : Int32} : m_X7_isMade 52 i1 i2 (wA z f r) = (g_X7_isMade i1 i2 z f).map (fun q => (q.1, wA q.2.1 q.2.2 r)) := by
  unfold m_X7_isMade g_X7_isMade
  refine opS rcv_52 ?_
  refine iteE (fun _ => ?_) (fun _ => ?_)
  · rfl
  · refine opS fR_52_1 ?_
    refine opS aL_53 ?_
    refine iteE (fun _ => ?_) (fun _ => ?_)
    · refine opS fR_52_1 ?_
      refine opM aR_53 (fun j1 hj1 => ?_)
      refine opS fR_52_1 ?_
      refine opM aR_53 (fun j2 hj2 => ?_)
      refine caU (e_X9_copy (isSt_bh hj1) (isSt_bh hj2)) (fun _ _ => wA_len) (fun z3 u4 => ?_)
      refine iteE (fun _ => ?_) (fun _ => ?_)
      · refine caW (e_X9_moveBody (isSt_bh hj1)) (fun _ _ => wA_len) (fun x5 z6 u7 => ?_)
        exact reZw
      · refine iteE (fun _ => ?_) (fun _ => ?_)
        · refine caW (e_X9_moveBody (isSt_bh hj1)) (fun _ _ => wA_len) (fun x8 z9 u10 => ?_)
          exact reZw
        · refine iteE (fun _ => ?_) (fun _ => ?_)
          · refine caW (e_X9_moveBody (isSt_bh hj1)) (fun _ _ => wA_len) (fun x11 z12 u13 => ?_)
            exact reZw
          · refine iteE (fun _ => ?_) (fun _ => ?_)
            · refine caW (e_X9_moveBody (isSt_bh hj1)) (fun _ _ => wA_len) (fun x14 z15 u16 => ?_)
              exact reZw
            · refine opS fR_52_0 ?_
              refine opS fI_15_3 ?_
              refine iteE (fun _ => ?_) (fun _ => ?_)
              · rfl
              · refine caW (e_X9_step (isSt_bh hj1)) (fun _ _ => wA_len) (fun x17 z18 u19 => ?_)
                refine iteE (fun _ => ?_) (fun _ => ?_)
                · rfl
                · rfl
    · rfl
def g_X10_isReachedBy_b59 (gself : Int32 → Int32 → (Nat → Nat → Int32) → (Nat → Nat → Int32) → Option (Int32 × (Nat → Nat → Int32) × (Nat → Nat → Int32))) (k27 : Int32 → Int32 → Int32 → (Nat → Nat → Int32) → (Nat → Nat → Int32) → Option (Int32 × (Nat → Nat → Int32) × (Nat → Nat → Int32))) (i1 : Int32) (i2 : Int32) (i4 : Int32) (z f : Nat → Nat → Int32) : Option (Int32 × (Nat → Nat → Int32) × (Nat → Nat → Int32)) :=
  k27 i1 i2 (i4 + 1) z f
set_option maxRecDepth 100000 in
set_option maxHeartbeats 4000000 in
theorem e_X10_isReachedBy_b59 {r : LWd} {self : Nat → Int32 → Int32 → LWd → Option (Int32 × LWd)} {gself : Int32 → Int32 → (Nat → Nat → Int32) → (Nat → Nat → Int32) → Option (Int32 × (Nat → Nat → Int32) × (Nat → Nat → Int32))} (hself : ∀ (i1 : Int32) (i2 : Int32) (z f : Nat → Nat → Int32), self 52 i1 i2 (wA z f r) = (gself i1 i2 z f).map (fun q => (q.1, wA q.2.1 q.2.2 r))) {k27 : Nat → Int32 → Int32 → Int32 → LWd → Option (Int32 × LWd)} {kg27 : Int32 → Int32 → Int32 → (Nat → Nat → Int32) → (Nat → Nat → Int32) → Option (Int32 × (Nat → Nat → Int32) × (Nat → Nat → Int32))} (hk27 : ∀ (i1 : Int32) (i2 : Int32) (i4 : Int32) (z f : Nat → Nat → Int32), k27 52 i1 i2 i4 (wA z f r) = (kg27 i1 i2 i4 z f).map (fun q => (q.1, wA q.2.1 q.2.2 r))) (i1 : Int32) (i2 : Int32) (i4 : Int32) (z f : Nat → Nat → Int32) : m_X10_isReachedBy_b59 self k27 52 i1 i2 i4 (wA z f r) = (g_X10_isReachedBy_b59 gself kg27 i1 i2 i4 z f).map (fun q => (q.1, wA q.2.1 q.2.2 r)) := by
  unfold m_X10_isReachedBy_b59 g_X10_isReachedBy_b59
  exact hk27 _ _ _  _ _
def g_X10_isReachedBy_l27 (gself : Int32 → Int32 → (Nat → Nat → Int32) → (Nat → Nat → Int32) → Option (Int32 × (Nat → Nat → Int32) × (Nat → Nat → Int32))) : Nat → Int32 → Int32 → Int32 → (Nat → Nat → Int32) → (Nat → Nat → Int32) → Option (Int32 × (Nat → Nat → Int32) × (Nat → Nat → Int32))
  | 0, _, _, _, _, _ => none
  | fu + 1, i1, i2, i4, z, f =>
    if 10 ≤ i4 then
      some (0, z, f)
    else
      bn3 (g_X7_isMade i1 i4 z f) fun x1 z2 u3 =>
      if x1 = 0 then
        g_X10_isReachedBy_b59 gself (fun y0 y1 y2 z f => g_X10_isReachedBy_l27 gself fu y0 y1 y2 z f) i1 i2 i4 z2 u3
      else
        bn3 (gself (i1 + 1) (i2 - 1) z2 u3) fun x4 z5 u6 =>
        if x4 = 0 then
          g_X10_isReachedBy_b59 gself (fun y0 y1 y2 z f => g_X10_isReachedBy_l27 gself fu y0 y1 y2 z f) i1 i2 i4 z5 u6
        else
          some (1, z5, u6)
set_option maxRecDepth 100000 in
set_option maxHeartbeats 4000000 in
theorem e_X10_isReachedBy_l27 {r : LWd} {self : Nat → Int32 → Int32 → LWd → Option (Int32 × LWd)} {gself : Int32 → Int32 → (Nat → Nat → Int32) → (Nat → Nat → Int32) → Option (Int32 × (Nat → Nat → Int32) × (Nat → Nat → Int32))} (hself : ∀ (i1 : Int32) (i2 : Int32) (z f : Nat → Nat → Int32), self 52 i1 i2 (wA z f r) = (gself i1 i2 z f).map (fun q => (q.1, wA q.2.1 q.2.2 r))) : ∀ (fu : Nat) (i1 : Int32) (i2 : Int32) (i4 : Int32) (z f : Nat → Nat → Int32), m_X10_isReachedBy_l27 self fu 52 i1 i2 i4 (wA z f r) = (g_X10_isReachedBy_l27 gself fu i1 i2 i4 z f).map (fun q => (q.1, wA q.2.1 q.2.2 r)) := by
  intro fu
  induction fu with
  | zero => intro i1 i2 i4  z f; first | rfl | (rw [m_X10_isReachedBy_l27, g_X10_isReachedBy_l27]; rfl)
  | succ fu ih =>
    intro i1 i2 i4  z f
    rw [m_X10_isReachedBy_l27, g_X10_isReachedBy_l27]
    refine iteE (fun _ => ?_) (fun _ => ?_)
    · rfl
    · refine caW (e_X7_isMade) (fun _ _ => wA_len) (fun x1 z2 u3 => ?_)
      refine iteE (fun _ => ?_) (fun _ => ?_)
      · exact e_X10_isReachedBy_b59 (hk27 := ih) (hself := hself) _ _ _  _ _
      · refine caW (hself _ _ _ _) (fun _ _ => wA_len) (fun x4 z5 u6 => ?_)
        refine iteE (fun _ => ?_) (fun _ => ?_)
        · exact e_X10_isReachedBy_b59 (hk27 := ih) (hself := hself) _ _ _  _ _
        · rfl
def g_X10_isReachedBy_o (gself : Int32 → Int32 → (Nat → Nat → Int32) → (Nat → Nat → Int32) → Option (Int32 × (Nat → Nat → Int32) × (Nat → Nat → Int32))) (i1 : Int32) (i2 : Int32) (z f : Nat → Nat → Int32) : Option (Int32 × (Nat → Nat → Int32) × (Nat → Nat → Int32)) :=
  (g_X7_away i1 z f).bind fun x1 =>
  if x1 = 0 then
    some (1, z, f)
  else
    if i2 < x1 then
      some (0, z, f)
    else
      if i1 < 3 then
        g_X10_isReachedBy_l27 gself FU i1 i2 0 z f
      else
        some (0, z, f)
def g_X10_isReachedBy : Nat → Int32 → Int32 → (Nat → Nat → Int32) → (Nat → Nat → Int32) → Option (Int32 × (Nat → Nat → Int32) × (Nat → Nat → Int32))
  | 0, _, _, _, _ => none
  | dd + 1, i1, i2, z, f => g_X10_isReachedBy_o (g_X10_isReachedBy dd) i1 i2 z f
set_option maxRecDepth 100000 in
set_option maxHeartbeats 4000000 in
theorem e_X10_isReachedBy {r : LWd} : ∀ (dd : Nat) (i1 : Int32) (i2 : Int32) (z f : Nat → Nat → Int32), m_X10_isReachedBy dd 52 i1 i2 (wA z f r) = (g_X10_isReachedBy dd i1 i2 z f).map (fun q => (q.1, wA q.2.1 q.2.2 r)) := by
  intro dd
  induction dd with
  | zero => intro i1 i2 z f; rfl
  | succ dd ih =>
    intro i1 i2 z f
    have hself := ih
    rw [m_X10_isReachedBy, g_X10_isReachedBy]
    generalize m_X10_isReachedBy dd = self at hself ⊢
    generalize g_X10_isReachedBy dd = gself at hself ⊢
    unfold m_X10_isReachedBy_o g_X10_isReachedBy_o
    refine caP (e_X7_away) (fun x1 => ?_)
    refine iteE (fun _ => ?_) (fun _ => ?_)
    · rfl
    · refine iteE (fun _ => ?_) (fun _ => ?_)
      · rfl
      · refine iteE (fun _ => ?_) (fun _ => ?_)
        · exact e_X10_isReachedBy_l27 (hself := hself) FU _ _ _  _ _
        · rfl
def g_X10_fewest_l52 : Nat → Int32 → (Nat → Nat → Int32) → (Nat → Nat → Int32) → Option ((Int32 ⊕ String) × (Nat → Nat → Int32) × (Nat → Nat → Int32))
  | 0, _, _, _ => none
  | fu + 1, i4, z, f =>
    if 3 < i4 then
      some (.inl ((-1)), z, f)
    else
      bn3 (g_X10_isReachedBy 4 0 i4 z f) fun x1 z2 u3 =>
      if x1 = 0 then
        g_X10_fewest_l52 fu (i4 + 1) z2 u3
      else
        some (.inl i4, z2, u3)
set_option maxRecDepth 100000 in
set_option maxHeartbeats 4000000 in
theorem e_X10_fewest_l52 {r : LWd} : ∀ (fu : Nat) (i4 : Int32) (z f : Nat → Nat → Int32), m_X10_fewest_l52 fu 0 i4 (wA z f r) = (g_X10_fewest_l52 fu i4 z f).map (fun q => (q.1, wA q.2.1 q.2.2 r)) := by
  intro fu
  induction fu with
  | zero => intro i4  z f; first | rfl | (rw [m_X10_fewest_l52, g_X10_fewest_l52]; rfl)
  | succ fu ih =>
    intro i4  z f
    rw [m_X10_fewest_l52, g_X10_fewest_l52]
    refine iteE (fun _ => ?_) (fun _ => ?_)
    · rfl
    · refine opS fR_0_8 ?_
      refine caW (e_X10_isReachedBy 4 _ _ _ _) (fun _ _ => wA_len) (fun x1 z2 u3 => ?_)
      refine iteE (fun _ => ?_) (fun _ => ?_)
      · exact ih _  _ _
      · rfl
def g_X10_fewest (i1 : Int32) (i2 : Int32) (z f : Nat → Nat → Int32) : Option ((Int32 ⊕ String) × (Nat → Nat → Int32) × (Nat → Nat → Int32)) :=
  (g_X10_pointAt i1 i2 z f).bind fun x1 =>
  if x1 = ((-1)) then
    some (.inr "java/lang/IllegalArgumentException", z, f)
  else
    if (z 0 9) = 0 then
      some (.inl ((-1)), z, f)
    else
      bn2 (g_X7_start 22 x1 z f) fun z2 u3 =>
      (g_X7_away 0 z2 u3).bind fun x4 =>
      g_X10_fewest_l52 FU x4 z2 u3
set_option maxRecDepth 100000 in
set_option maxHeartbeats 4000000 in
theorem e_X10_fewest {r : LWd} {z f : Nat → Nat → Int32} {i1 : Int32} {i2 : Int32} : m_X10_fewest 0 i1 i2 (wA z f r) = (g_X10_fewest i1 i2 z f).map (fun q => (q.1, wA q.2.1 q.2.2 r)) := by
  unfold m_X10_fewest g_X10_fewest
  refine opS rcv_0 ?_
  refine caP (e_X10_pointAt) (fun x1 => ?_)
  refine iteE (fun _ => ?_) (fun _ => ?_)
  · rfl
  · refine opS fI_0_9 ?_
    refine iteE (fun _ => ?_) (fun _ => ?_)
    · rfl
    · refine opS fR_0_8 ?_
      refine opS fR_0_2 ?_
      refine caU (e_X7_start (Or.inl rfl)) (fun _ _ => wA_len) (fun z2 u3 => ?_)
      refine opS fR_0_8 ?_
      refine caP (e_X7_away) (fun x4 => ?_)
      exact e_X10_fewest_l52 FU _  _ _
def g_X10_shortestRow_b50 (gself : Int32 → (Nat → Nat → Int32) → (Nat → Nat → Int32) → Option (Int32 × (Nat → Nat → Int32) × (Nat → Nat → Int32))) (k23 : Int32 → Int32 → Int32 → (Nat → Nat → Int32) → (Nat → Nat → Int32) → Option (Int32 × (Nat → Nat → Int32) × (Nat → Nat → Int32))) (i1 : Int32) (i2 : Int32) (i3 : Int32) (z f : Nat → Nat → Int32) : Option (Int32 × (Nat → Nat → Int32) × (Nat → Nat → Int32)) :=
  k23 i1 i2 (i3 + 1) z f
set_option maxRecDepth 100000 in
set_option maxHeartbeats 4000000 in
theorem e_X10_shortestRow_b50 {r : LWd} {self : Nat → Int32 → LWd → Option (Int32 × LWd)} {gself : Int32 → (Nat → Nat → Int32) → (Nat → Nat → Int32) → Option (Int32 × (Nat → Nat → Int32) × (Nat → Nat → Int32))} (hself : ∀ (i1 : Int32) (z f : Nat → Nat → Int32), self 52 i1 (wA z f r) = (gself i1 z f).map (fun q => (q.1, wA q.2.1 q.2.2 r))) {k23 : Nat → Int32 → Int32 → Int32 → LWd → Option (Int32 × LWd)} {kg23 : Int32 → Int32 → Int32 → (Nat → Nat → Int32) → (Nat → Nat → Int32) → Option (Int32 × (Nat → Nat → Int32) × (Nat → Nat → Int32))} (hk23 : ∀ (i1 : Int32) (i2 : Int32) (i3 : Int32) (z f : Nat → Nat → Int32), k23 52 i1 i2 i3 (wA z f r) = (kg23 i1 i2 i3 z f).map (fun q => (q.1, wA q.2.1 q.2.2 r))) (i1 : Int32) (i2 : Int32) (i3 : Int32) (z f : Nat → Nat → Int32) : m_X10_shortestRow_b50 self k23 52 i1 i2 i3 (wA z f r) = (g_X10_shortestRow_b50 gself kg23 i1 i2 i3 z f).map (fun q => (q.1, wA q.2.1 q.2.2 r)) := by
  unfold m_X10_shortestRow_b50 g_X10_shortestRow_b50
  exact hk23 _ _ _  _ _
def g_X10_shortestRow_l23 (gself : Int32 → (Nat → Nat → Int32) → (Nat → Nat → Int32) → Option (Int32 × (Nat → Nat → Int32) × (Nat → Nat → Int32))) : Nat → Int32 → Int32 → Int32 → (Nat → Nat → Int32) → (Nat → Nat → Int32) → Option (Int32 × (Nat → Nat → Int32) × (Nat → Nat → Int32))
  | 0, _, _, _, _, _ => none
  | fu + 1, i1, i2, i3, z, f =>
    if 10 ≤ i3 then
      some (i2, z, f)
    else
      bn3 (g_X7_isMade i1 i3 z f) fun x1 z2 u3 =>
      if x1 = 0 then
        g_X10_shortestRow_b50 gself (fun y0 y1 y2 z f => g_X10_shortestRow_l23 gself fu y0 y1 y2 z f) i1 i2 i3 z2 u3
      else
        bn3 (gself (i1 + 1) z2 u3) fun x4 z5 u6 =>
        g_X10_shortestRow_b50 gself (fun y0 y1 y2 z f => g_X10_shortestRow_l23 gself fu y0 y1 y2 z f) i1 (jmin i2 x4) i3 z5 u6
set_option maxRecDepth 100000 in
set_option maxHeartbeats 4000000 in
theorem e_X10_shortestRow_l23 {r : LWd} {self : Nat → Int32 → LWd → Option (Int32 × LWd)} {gself : Int32 → (Nat → Nat → Int32) → (Nat → Nat → Int32) → Option (Int32 × (Nat → Nat → Int32) × (Nat → Nat → Int32))} (hself : ∀ (i1 : Int32) (z f : Nat → Nat → Int32), self 52 i1 (wA z f r) = (gself i1 z f).map (fun q => (q.1, wA q.2.1 q.2.2 r))) : ∀ (fu : Nat) (i1 : Int32) (i2 : Int32) (i3 : Int32) (z f : Nat → Nat → Int32), m_X10_shortestRow_l23 self fu 52 i1 i2 i3 (wA z f r) = (g_X10_shortestRow_l23 gself fu i1 i2 i3 z f).map (fun q => (q.1, wA q.2.1 q.2.2 r)) := by
  intro fu
  induction fu with
  | zero => intro i1 i2 i3  z f; first | rfl | (rw [m_X10_shortestRow_l23, g_X10_shortestRow_l23]; rfl)
  | succ fu ih =>
    intro i1 i2 i3  z f
    rw [m_X10_shortestRow_l23, g_X10_shortestRow_l23]
    refine iteE (fun _ => ?_) (fun _ => ?_)
    · rfl
    · refine caW (e_X7_isMade) (fun _ _ => wA_len) (fun x1 z2 u3 => ?_)
      refine iteE (fun _ => ?_) (fun _ => ?_)
      · exact e_X10_shortestRow_b50 (hk23 := ih) (hself := hself) _ _ _  _ _
      · refine caW (hself _ _ _) (fun _ _ => wA_len) (fun x4 z5 u6 => ?_)
        exact e_X10_shortestRow_b50 (hk23 := ih) (hself := hself) _ _ _  _ _
def g_X10_shortestRow_b13 (gself : Int32 → (Nat → Nat → Int32) → (Nat → Nat → Int32) → Option (Int32 × (Nat → Nat → Int32) × (Nat → Nat → Int32))) (i1 : Int32) (s0 : Int32) (z f : Nat → Nat → Int32) : Option (Int32 × (Nat → Nat → Int32) × (Nat → Nat → Int32)) :=
  if i1 < 3 then
    g_X10_shortestRow_l23 gself FU i1 s0 0 z f
  else
    some (s0, z, f)
set_option maxRecDepth 100000 in
set_option maxHeartbeats 4000000 in
theorem e_X10_shortestRow_b13 {r : LWd} {self : Nat → Int32 → LWd → Option (Int32 × LWd)} {gself : Int32 → (Nat → Nat → Int32) → (Nat → Nat → Int32) → Option (Int32 × (Nat → Nat → Int32) × (Nat → Nat → Int32))} (hself : ∀ (i1 : Int32) (z f : Nat → Nat → Int32), self 52 i1 (wA z f r) = (gself i1 z f).map (fun q => (q.1, wA q.2.1 q.2.2 r))) (i1 : Int32) (s0 : Int32) (z f : Nat → Nat → Int32) : m_X10_shortestRow_b13 self 52 i1 s0 (wA z f r) = (g_X10_shortestRow_b13 gself i1 s0 z f).map (fun q => (q.1, wA q.2.1 q.2.2 r)) := by
  unfold m_X10_shortestRow_b13 g_X10_shortestRow_b13
  refine iteE (fun _ => ?_) (fun _ => ?_)
  · exact e_X10_shortestRow_l23 (hself := hself) FU _ _ _  _ _
  · rfl
def g_X10_shortestRow_o (gself : Int32 → (Nat → Nat → Int32) → (Nat → Nat → Int32) → Option (Int32 × (Nat → Nat → Int32) × (Nat → Nat → Int32))) (i1 : Int32) (z f : Nat → Nat → Int32) : Option (Int32 × (Nat → Nat → Int32) × (Nat → Nat → Int32)) :=
  (g_X7_away i1 z f).bind fun x1 =>
  if x1 = 0 then
    g_X10_shortestRow_b13 gself i1 i1 z f
  else
    g_X10_shortestRow_b13 gself i1 4 z f
def g_X10_shortestRow : Nat → Int32 → (Nat → Nat → Int32) → (Nat → Nat → Int32) → Option (Int32 × (Nat → Nat → Int32) × (Nat → Nat → Int32))
  | 0, _, _, _ => none
  | dd + 1, i1, z, f => g_X10_shortestRow_o (g_X10_shortestRow dd) i1 z f
set_option maxRecDepth 100000 in
set_option maxHeartbeats 4000000 in
theorem e_X10_shortestRow {r : LWd} : ∀ (dd : Nat) (i1 : Int32) (z f : Nat → Nat → Int32), m_X10_shortestRow dd 52 i1 (wA z f r) = (g_X10_shortestRow dd i1 z f).map (fun q => (q.1, wA q.2.1 q.2.2 r)) := by
  intro dd
  induction dd with
  | zero => intro i1 z f; rfl
  | succ dd ih =>
    intro i1 z f
    have hself := ih
    rw [m_X10_shortestRow, g_X10_shortestRow]
    generalize m_X10_shortestRow dd = self at hself ⊢
    generalize g_X10_shortestRow dd = gself at hself ⊢
    unfold m_X10_shortestRow_o g_X10_shortestRow_o
    refine caP (e_X7_away) (fun x1 => ?_)
    refine iteE (fun _ => ?_) (fun _ => ?_)
    · exact e_X10_shortestRow_b13 (hself := hself) _ _  _ _
    · exact e_X10_shortestRow_b13 (hself := hself) _ _  _ _
def g_X10_fewestAnew (i1 : Int32) (i2 : Int32) (z f : Nat → Nat → Int32) : Option ((Int32 ⊕ String) × (Nat → Nat → Int32) × (Nat → Nat → Int32)) :=
  (g_X10_pointAt i1 i2 z f).bind fun x1 =>
  if x1 = ((-1)) then
    some (.inr "java/lang/IllegalArgumentException", z, f)
  else
    if (z 0 9) = 0 then
      some (.inl ((-1)), z, f)
    else
      bn2 (g_X7_start 22 x1 z f) fun z2 u3 =>
      bn3 (g_X10_shortestRow 4 0 z2 u3) fun x4 z5 u6 =>
      if x4 ≤ 3 then
        some (.inl x4, z5, u6)
      else
        some (.inl ((-1)), z5, u6)
set_option maxRecDepth 100000 in
set_option maxHeartbeats 4000000 in
theorem e_X10_fewestAnew {r : LWd} {z f : Nat → Nat → Int32} {i1 : Int32} {i2 : Int32} : m_X10_fewestAnew 0 i1 i2 (wA z f r) = (g_X10_fewestAnew i1 i2 z f).map (fun q => (q.1, wA q.2.1 q.2.2 r)) := by
  unfold m_X10_fewestAnew g_X10_fewestAnew
  refine opS rcv_0 ?_
  refine caP (e_X10_pointAt) (fun x1 => ?_)
  refine iteE (fun _ => ?_) (fun _ => ?_)
  · rfl
  · refine opS fI_0_9 ?_
    refine iteE (fun _ => ?_) (fun _ => ?_)
    · rfl
    · refine opS fR_0_8 ?_
      refine opS fR_0_2 ?_
      refine caU (e_X7_start (Or.inl rfl)) (fun _ _ => wA_len) (fun z2 u3 => ?_)
      refine opS fR_0_8 ?_
      refine caW (e_X10_shortestRow 4 _ _ _) (fun _ _ => wA_len) (fun x4 z5 u6 => ?_)
      refine iteE (fun _ => ?_) (fun _ => ?_)
      · rfl
      · rfl
def g_X1_kept (z f : Nat → Nat → Int32) : Option Int32 :=
  some (jmin (z 34 3) 40)
set_option maxRecDepth 100000 in
set_option maxHeartbeats 4000000 in
theorem e_X1_kept {r : LWd} {z f : Nat → Nat → Int32} : m_X1_kept 34 (wA z f r) = (g_X1_kept  z f).map (fun x => (x, wA z f r)) := by
  unfold m_X1_kept g_X1_kept
  refine opS rcv_34 ?_
  refine opS fI_34_3 ?_
  rfl
def g_X10_fall_b15 (z f : Nat → Nat → Int32) : Option (Int32 ⊕ String) :=
  some (.inr "java/lang/IndexOutOfBoundsException")
set_option maxRecDepth 100000 in
set_option maxHeartbeats 4000000 in
theorem e_X10_fall_b15 {r : LWd} {z f : Nat → Nat → Int32} : m_X10_fall_b15  (wA z f r) = (g_X10_fall_b15  z f).map (fun x => (x, wA z f r)) := by
  unfold m_X10_fall_b15 g_X10_fall_b15
  rfl
def g_X10_fall (i1 : Int32) (i2 : Int32) (z f : Nat → Nat → Int32) : Option (Int32 ⊕ String) :=
  if i1 < 0 then
    g_X10_fall_b15  z f
  else
    (g_X1_kept  z f).bind fun x1 =>
    if i1 < x1 then
      if i2 = 0 then
        some (.inl (rdR 40 (f 36) i1))
      else
        if i2 = 1 then
          some (.inl (rdR 40 (f 38) i1))
        else
          if i2 = 2 then
            (g_X10_xOf (rdR 40 (f 40) i1) z f).bind fun x2 =>
            some (.inl x2)
          else
            if i2 = 3 then
              (g_X10_yOf (rdR 40 (f 40) i1) z f).bind fun x3 =>
              some (.inl x3)
            else
              some (.inr "java/lang/IllegalArgumentException")
    else
      g_X10_fall_b15  z f
set_option maxRecDepth 100000 in
set_option maxHeartbeats 4000000 in
theorem e_X10_fall {r : LWd} {z f : Nat → Nat → Int32} {i1 : Int32} {i2 : Int32} : m_X10_fall 0 i1 i2 (wA z f r) = (g_X10_fall i1 i2 z f).map (fun x => (x, wA z f r)) := by
  unfold m_X10_fall g_X10_fall
  refine opS rcv_0 ?_
  refine iteE (fun _ => ?_) (fun _ => ?_)
  · exact e_X10_fall_b15  
  · refine opS fR_0_6 ?_
    refine caP (e_X1_kept) (fun x1 => ?_)
    refine iteE (fun _ => ?_) (fun _ => ?_)
    · refine iteE (fun _ => ?_) (fun _ => ?_)
      · refine opS fR_0_6 ?_
        refine opS fR_34_0 ?_
        refine caR (e_X8_at rw_35) rfl ?_
        rfl
      · refine iteE (fun _ => ?_) (fun _ => ?_)
        · refine opS fR_0_6 ?_
          refine opS fR_34_1 ?_
          refine caR (e_X8_at rw_37) rfl ?_
          rfl
        · refine iteE (fun _ => ?_) (fun _ => ?_)
          · refine opS fR_0_6 ?_
            refine opS fR_34_2 ?_
            refine caR (e_X8_at rw_39) rfl ?_
            refine caP (e_X10_xOf) (fun x2 => ?_)
            rfl
          · refine iteE (fun _ => ?_) (fun _ => ?_)
            · refine opS fR_0_6 ?_
              refine opS fR_34_2 ?_
              refine caR (e_X8_at rw_39) rfl ?_
              refine caP (e_X10_yOf) (fun x3 => ?_)
              rfl
            · rfl
    · exact e_X10_fall_b15  
def g_L_does (i1 i2 i3 i4 i5 i6 : Int32) (z f : Nat → Nat → Int32) : Option (Int32 × (Nat → Nat → Int32) × (Nat → Nat → Int32)) :=
  if i1 = 0 then wrGw (g_X10_ground i2 i3 i4 i5 i6 z f) else
  if i1 = 1 then wrGw (g_X10_chart i2 i3 i4 z f) else
  if i1 = 2 then wrGw (g_X10_leg i2 i3 i4 z f) else
  if i1 = 3 then wrGw (g_X10_charge i2 z f) else
  if i1 = 4 then wrGw (g_X10_phase i2 i3 i4 i5 i6 z f) else
  if i1 = 5 then wrGw (g_X10_load i2 i3 i4 z f) else
  if i1 = 6 then wrGw (g_X10_rise  z f) else
  if i1 = 7 then wrGw (g_X10_lift i2 z f) else
  if i1 = 8 then wrGw (g_X10_place i2 i3 i4 z f) else
  if i1 = 9 then wrGw (g_X10_shift i2 i3 z f) else
  if i1 = 10 then wrGw (g_X10_walk i2 z f) else
  if i1 = 11 then wrGw (g_X10_corner i2 z f) else
  if i1 = 12 then wrGr z f (g_X10_fall i2 i3 z f) else
  if i1 = 13 then wrGr z f (g_X10_point i2 i3 i4 z f) else
  wrGr z f (g_X10_foot i2 i3 z f)
theorem e_L_does {i1 i2 i3 i4 i5 i6 : Int32} {z f : Nat → Nat → Int32} {r : LWd} : m_L_does 0 i1 i2 i3 i4 i5 i6 (wA z f r) = (g_L_does i1 i2 i3 i4 i5 i6 z f).map (fun q => (q.1, wA q.2.1 q.2.2 r)) := by
  unfold m_L_does g_L_does
  refine iteE (fun _ => wrG_w e_X10_ground) (fun _ => ?_)
  refine iteE (fun _ => wrG_w e_X10_chart) (fun _ => ?_)
  refine iteE (fun _ => wrG_w e_X10_leg) (fun _ => ?_)
  refine iteE (fun _ => wrG_w e_X10_charge) (fun _ => ?_)
  refine iteE (fun _ => wrG_w e_X10_phase) (fun _ => ?_)
  refine iteE (fun _ => wrG_w e_X10_load) (fun _ => ?_)
  refine iteE (fun _ => wrG_w e_X10_rise) (fun _ => ?_)
  refine iteE (fun _ => wrG_w e_X10_lift) (fun _ => ?_)
  refine iteE (fun _ => wrG_w e_X10_place) (fun _ => ?_)
  refine iteE (fun _ => wrG_w e_X10_shift) (fun _ => ?_)
  refine iteE (fun _ => wrG_w e_X10_walk) (fun _ => ?_)
  refine iteE (fun _ => wrG_w e_X10_corner) (fun _ => ?_)
  refine iteE (fun _ => wrG_r e_X10_fall) (fun _ => ?_)
  refine iteE (fun _ => wrG_r e_X10_point) (fun _ => ?_)
  exact wrG_r e_X10_foot

def g_L_firm (i1 : Int32) (z f : Nat → Nat → Int32) : Option Int32 :=
  (ixA 50 (i1 / 8)).bind fun j1 =>
  some (Int64.toInt32 ((jlushr (lg f 68 j1) (8 * (jrem i1 8))) &&& 255))
set_option maxRecDepth 100000 in
set_option maxHeartbeats 4000000 in
theorem e_L_firm {r : LWd} {z f : Nat → Nat → Int32} {i1 : Int32} : m_L_firm 68 i1 (wA z f r) = (g_L_firm i1 z f).map (fun x => (x, wA z f r)) := by
  unfold m_L_firm g_L_firm
  refine opM aLd_68 (fun j1 hj1 => ?_)
  rfl
def g_L_hipX (i2 : Int32) (z f : Nat → Nat → Int32) : Option Int32 :=
  (ixA 6 i2).bind fun j2 =>
  some (((f 74 1) + (jrem (f 69 j2) 11)) - 5)
set_option maxRecDepth 100000 in
set_option maxHeartbeats 4000000 in
theorem e_L_hipX {r : LWd} {z f : Nat → Nat → Int32} {i2 : Int32} : m_L_hipX 69 74 i2 (wA z f r) = (g_L_hipX i2 z f).map (fun x => (x, wA z f r)) := by
  unfold m_L_hipX g_L_hipX
  refine opS (aI_74.trans (ixl_1 _)) ?_
  refine opM aI_69 (fun j2 hj2 => ?_)
  rfl
def g_L_hipY (i2 : Int32) (z f : Nat → Nat → Int32) : Option Int32 :=
  (ixA 6 i2).bind fun j2 =>
  some (((f 74 2) + (jrem ((f 69 j2) / 11) 11)) - 5)
set_option maxRecDepth 100000 in
set_option maxHeartbeats 4000000 in
theorem e_L_hipY {r : LWd} {z f : Nat → Nat → Int32} {i2 : Int32} : m_L_hipY 69 74 i2 (wA z f r) = (g_L_hipY i2 z f).map (fun x => (x, wA z f r)) := by
  unfold m_L_hipY g_L_hipY
  refine opS (aI_74.trans (ixl_2 _)) ?_
  refine opM aI_69 (fun j2 hj2 => ?_)
  rfl
def g_L_isIn (i0 : Int32) (i1 : Int32) (z f : Nat → Nat → Int32) : Option Int32 :=
  if i0 < 0 then
    some (0)
  else
    if i1 < 0 then
      some (0)
    else
      if 20 ≤ i0 then
        some (0)
      else
        if 20 ≤ i1 then
          some (0)
        else
          some (1)
set_option maxRecDepth 100000 in
set_option maxHeartbeats 4000000 in
theorem e_L_isIn {r : LWd} {z f : Nat → Nat → Int32} {i0 : Int32} {i1 : Int32} : m_L_isIn i0 i1 (wA z f r) = (g_L_isIn i0 i1 z f).map (fun x => (x, wA z f r)) := by
  unfold m_L_isIn g_L_isIn
  refine iteE (fun _ => ?_) (fun _ => ?_)
  · rfl
  · refine iteE (fun _ => ?_) (fun _ => ?_)
    · rfl
    · refine iteE (fun _ => ?_) (fun _ => ?_)
      · rfl
      · refine iteE (fun _ => ?_) (fun _ => ?_)
        · rfl
        · rfl
def g_L_isNear (i2 : Int32) (i3 : Int32) (i4 : Int32) (z f : Nat → Nat → Int32) : Option Int32 :=
  (g_L_hipX i2 z f).bind fun x1 =>
  (g_L_hipY i2 z f).bind fun x2 =>
  (ixA 6 i2).bind fun j3 =>
  (ixA 6 i2).bind fun j4 =>
  if (((f 69 j3) / 121) * ((f 69 j4) / 121)) < (((i3 - x1) * (i3 - x1)) + ((i4 - x2) * (i4 - x2))) then
    some (0)
  else
    some (1)
set_option maxRecDepth 100000 in
set_option maxHeartbeats 4000000 in
theorem e_L_isNear {r : LWd} {z f : Nat → Nat → Int32} {i2 : Int32} {i3 : Int32} {i4 : Int32} : m_L_isNear 69 74 i2 i3 i4 (wA z f r) = (g_L_isNear i2 i3 i4 z f).map (fun x => (x, wA z f r)) := by
  unfold m_L_isNear g_L_isNear
  refine caP (e_L_hipX) (fun x1 => ?_)
  refine caP (e_L_hipY) (fun x2 => ?_)
  refine opM aI_69 (fun j3 hj3 => ?_)
  refine opM aI_69 (fun j4 hj4 => ?_)
  refine iteE (fun _ => ?_) (fun _ => ?_)
  · rfl
  · rfl
def g_L_far_b34 (i6 : Int32) (s0 : Int32) (z f : Nat → Nat → Int32) : Option Int32 :=
  if 0 ≤ i6 then
    some (s0 + i6)
  else
    some (s0 + (-i6))
set_option maxRecDepth 100000 in
set_option maxHeartbeats 4000000 in
theorem e_L_far_b34 {r : LWd} {z f : Nat → Nat → Int32} (i6 : Int32) (s0 : Int32) : m_L_far_b34 i6 s0 (wA z f r) = (g_L_far_b34 i6 s0 z f).map (fun x => (x, wA z f r)) := by
  unfold m_L_far_b34 g_L_far_b34
  refine iteE (fun _ => ?_) (fun _ => ?_)
  · rfl
  · rfl
def g_L_far (i2 : Int32) (i3 : Int32) (i4 : Int32) (z f : Nat → Nat → Int32) : Option Int32 :=
  (g_L_hipX i2 z f).bind fun x1 =>
  (g_L_hipY i2 z f).bind fun x2 =>
  if 0 ≤ (i3 - x1) then
    g_L_far_b34 (i4 - x2) (i3 - x1) z f
  else
    g_L_far_b34 (i4 - x2) (-(i3 - x1)) z f
set_option maxRecDepth 100000 in
set_option maxHeartbeats 4000000 in
theorem e_L_far {r : LWd} {z f : Nat → Nat → Int32} {i2 : Int32} {i3 : Int32} {i4 : Int32} : m_L_far 69 74 i2 i3 i4 (wA z f r) = (g_L_far i2 i3 i4 z f).map (fun x => (x, wA z f r)) := by
  unfold m_L_far g_L_far
  refine caP (e_L_hipX) (fun x1 => ?_)
  refine caP (e_L_hipY) (fun x2 => ?_)
  refine iteE (fun _ => ?_) (fun _ => ?_)
  · exact e_L_far_b34 _ _ 
  · exact e_L_far_b34 _ _ 
def g_L_isTaken_b50 (k6 : Int32 → Int32 → Int32 → Int32 → Int32 → (Nat → Nat → Int32) → (Nat → Nat → Int32) → Option Int32) (i2 : Int32) (i3 : Int32) (i4 : Int32) (i6 : Int32) (s0 : Int32) (z f : Nat → Nat → Int32) : Option Int32 :=
  k6 i2 i3 i4 s0 (i6 + 1) z f
set_option maxRecDepth 100000 in
set_option maxHeartbeats 4000000 in
theorem e_L_isTaken_b50 {r : LWd} {z f : Nat → Nat → Int32} {k6 : Nat → Nat → Int32 → Int32 → Int32 → Int32 → Int32 → LWd → Option (Int32 × LWd)} {kg6 : Int32 → Int32 → Int32 → Int32 → Int32 → (Nat → Nat → Int32) → (Nat → Nat → Int32) → Option Int32} (hk6 : ∀ (i2 : Int32) (i3 : Int32) (i4 : Int32) (i5 : Int32) (i6 : Int32), k6 70 71 i2 i3 i4 i5 i6 (wA z f r) = (kg6 i2 i3 i4 i5 i6 z f).map (fun x => (x, wA z f r))) (i2 : Int32) (i3 : Int32) (i4 : Int32) (i6 : Int32) (s0 : Int32) : m_L_isTaken_b50 k6 70 71 i2 i3 i4 i6 s0 (wA z f r) = (g_L_isTaken_b50 kg6 i2 i3 i4 i6 s0 z f).map (fun x => (x, wA z f r)) := by
  unfold m_L_isTaken_b50 g_L_isTaken_b50
  exact hk6 _ _ _ _ _ 
def g_L_isTaken_b45 (k6 : Int32 → Int32 → Int32 → Int32 → Int32 → (Nat → Nat → Int32) → (Nat → Nat → Int32) → Option Int32) (i2 : Int32) (i3 : Int32) (i4 : Int32) (i6 : Int32) (z f : Nat → Nat → Int32) : Option Int32 :=
  g_L_isTaken_b50 k6 i2 i3 i4 i6 1 z f
set_option maxRecDepth 100000 in
set_option maxHeartbeats 4000000 in
theorem e_L_isTaken_b45 {r : LWd} {z f : Nat → Nat → Int32} {k6 : Nat → Nat → Int32 → Int32 → Int32 → Int32 → Int32 → LWd → Option (Int32 × LWd)} {kg6 : Int32 → Int32 → Int32 → Int32 → Int32 → (Nat → Nat → Int32) → (Nat → Nat → Int32) → Option Int32} (hk6 : ∀ (i2 : Int32) (i3 : Int32) (i4 : Int32) (i5 : Int32) (i6 : Int32), k6 70 71 i2 i3 i4 i5 i6 (wA z f r) = (kg6 i2 i3 i4 i5 i6 z f).map (fun x => (x, wA z f r))) (i2 : Int32) (i3 : Int32) (i4 : Int32) (i6 : Int32) : m_L_isTaken_b45 k6 70 71 i2 i3 i4 i6 (wA z f r) = (g_L_isTaken_b45 kg6 i2 i3 i4 i6 z f).map (fun x => (x, wA z f r)) := by
  unfold m_L_isTaken_b45 g_L_isTaken_b45
  exact e_L_isTaken_b50 (hk6 := hk6) _ _ _ _ _ 
def g_L_isTaken_b49 (k6 : Int32 → Int32 → Int32 → Int32 → Int32 → (Nat → Nat → Int32) → (Nat → Nat → Int32) → Option Int32) (i2 : Int32) (i3 : Int32) (i4 : Int32) (i6 : Int32) (z f : Nat → Nat → Int32) : Option Int32 :=
  g_L_isTaken_b50 k6 i2 i3 i4 i6 0 z f
set_option maxRecDepth 100000 in
set_option maxHeartbeats 4000000 in
theorem e_L_isTaken_b49 {r : LWd} {z f : Nat → Nat → Int32} {k6 : Nat → Nat → Int32 → Int32 → Int32 → Int32 → Int32 → LWd → Option (Int32 × LWd)} {kg6 : Int32 → Int32 → Int32 → Int32 → Int32 → (Nat → Nat → Int32) → (Nat → Nat → Int32) → Option Int32} (hk6 : ∀ (i2 : Int32) (i3 : Int32) (i4 : Int32) (i5 : Int32) (i6 : Int32), k6 70 71 i2 i3 i4 i5 i6 (wA z f r) = (kg6 i2 i3 i4 i5 i6 z f).map (fun x => (x, wA z f r))) (i2 : Int32) (i3 : Int32) (i4 : Int32) (i6 : Int32) : m_L_isTaken_b49 k6 70 71 i2 i3 i4 i6 (wA z f r) = (g_L_isTaken_b49 kg6 i2 i3 i4 i6 z f).map (fun x => (x, wA z f r)) := by
  unfold m_L_isTaken_b49 g_L_isTaken_b49
  exact e_L_isTaken_b50 (hk6 := hk6) _ _ _ _ _ 
def g_L_isTaken_l6 : Nat → Int32 → Int32 → Int32 → Int32 → Int32 → (Nat → Nat → Int32) → (Nat → Nat → Int32) → Option Int32
  | 0, _, _, _, _, _, _, _ => none
  | fu + 1, i2, i3, i4, i5, i6, z, f =>
    if 6 ≤ i6 then
      rtZ i5
    else
      if i5 = 0 then
        if ((i2 >>> (i6 &&& 31)) &&& 1) = 1 then
          (ixA 6 i6).bind fun j1 =>
          if (f 70 j1) = i3 then
            (ixA 6 i6).bind fun j2 =>
            if (f 71 j2) = i4 then
              g_L_isTaken_b45 (fun y0 y1 y2 y3 y4 z f => g_L_isTaken_l6 fu y0 y1 y2 y3 y4 z f) i2 i3 i4 i6 z f
            else
              g_L_isTaken_b49 (fun y0 y1 y2 y3 y4 z f => g_L_isTaken_l6 fu y0 y1 y2 y3 y4 z f) i2 i3 i4 i6 z f
          else
            g_L_isTaken_b49 (fun y0 y1 y2 y3 y4 z f => g_L_isTaken_l6 fu y0 y1 y2 y3 y4 z f) i2 i3 i4 i6 z f
        else
          g_L_isTaken_b49 (fun y0 y1 y2 y3 y4 z f => g_L_isTaken_l6 fu y0 y1 y2 y3 y4 z f) i2 i3 i4 i6 z f
      else
        g_L_isTaken_b45 (fun y0 y1 y2 y3 y4 z f => g_L_isTaken_l6 fu y0 y1 y2 y3 y4 z f) i2 i3 i4 i6 z f
set_option maxRecDepth 100000 in
set_option maxHeartbeats 4000000 in
theorem e_L_isTaken_l6 {r : LWd} {z f : Nat → Nat → Int32} : ∀ (fu : Nat) (i2 : Int32) (i3 : Int32) (i4 : Int32) (i5 : Int32) (i6 : Int32), m_L_isTaken_l6 fu 70 71 i2 i3 i4 i5 i6 (wA z f r) = (g_L_isTaken_l6 fu i2 i3 i4 i5 i6 z f).map (fun x => (x, wA z f r)) := by
  intro fu
  induction fu with
  | zero => intro i2 i3 i4 i5 i6 ; first | rfl | (rw [m_L_isTaken_l6, g_L_isTaken_l6]; rfl)
  | succ fu ih =>
    intro i2 i3 i4 i5 i6 
    rw [m_L_isTaken_l6, g_L_isTaken_l6]
    refine iteE (fun _ => ?_) (fun _ => ?_)
    · exact reZ
    · refine iteE (fun _ => ?_) (fun _ => ?_)
      · refine iteE (fun _ => ?_) (fun _ => ?_)
        · refine opM aI_70 (fun j1 hj1 => ?_)
          refine iteE (fun _ => ?_) (fun _ => ?_)
          · refine opM aI_71 (fun j2 hj2 => ?_)
            refine iteE (fun _ => ?_) (fun _ => ?_)
            · exact e_L_isTaken_b45 (hk6 := ih) _ _ _ _ 
            · exact e_L_isTaken_b49 (hk6 := ih) _ _ _ _ 
          · exact e_L_isTaken_b49 (hk6 := ih) _ _ _ _ 
        · exact e_L_isTaken_b49 (hk6 := ih) _ _ _ _ 
      · exact e_L_isTaken_b45 (hk6 := ih) _ _ _ _ 
def g_L_isTaken (i2 : Int32) (i3 : Int32) (i4 : Int32) (z f : Nat → Nat → Int32) : Option Int32 :=
  g_L_isTaken_l6 FU i2 i3 i4 0 0 z f
set_option maxRecDepth 100000 in
set_option maxHeartbeats 4000000 in
theorem e_L_isTaken {r : LWd} {z f : Nat → Nat → Int32} {i2 : Int32} {i3 : Int32} {i4 : Int32} : m_L_isTaken 70 71 i2 i3 i4 (wA z f r) = (g_L_isTaken i2 i3 i4 z f).map (fun x => (x, wA z f r)) := by
  unfold m_L_isTaken g_L_isTaken
  exact e_L_isTaken_l6 FU _ _ _ _ _ 
def g_L_holds_b329 (k44 : Int32 → Int32 → Int32 → Int32 → Int32 → (Nat → Nat → Int32) → (Nat → Nat → Int32) → Option Int32) (k55 : Int32 → Int32 → Int32 → Int32 → Int32 → Int32 → (Nat → Nat → Int32) → (Nat → Nat → Int32) → Option Int32) (k66 : Int32 → Int32 → Int32 → Int32 → Int32 → Int32 → Int32 → (Nat → Nat → Int32) → (Nat → Nat → Int32) → Option Int32) (i3 : Int32) (i4 : Int32) (i5 : Int32) (i6 : Int32) (i7 : Int32) (i8 : Int32) (i9 : Int32) (z f : Nat → Nat → Int32) : Option Int32 :=
  k66 i3 i4 i5 i6 i7 i8 (i9 + 1) z f
set_option maxRecDepth 100000 in
set_option maxHeartbeats 4000000 in
theorem e_L_holds_b329 {r : LWd} {z f : Nat → Nat → Int32} {k44 : Nat → Nat → Int32 → Int32 → Int32 → Int32 → Int32 → LWd → Option (Int32 × LWd)} {kg44 : Int32 → Int32 → Int32 → Int32 → Int32 → (Nat → Nat → Int32) → (Nat → Nat → Int32) → Option Int32} (hk44 : ∀ (i3 : Int32) (i4 : Int32) (i5 : Int32) (i6 : Int32) (i7 : Int32), k44 70 71 i3 i4 i5 i6 i7 (wA z f r) = (kg44 i3 i4 i5 i6 i7 z f).map (fun x => (x, wA z f r))) {k55 : Nat → Nat → Int32 → Int32 → Int32 → Int32 → Int32 → Int32 → LWd → Option (Int32 × LWd)} {kg55 : Int32 → Int32 → Int32 → Int32 → Int32 → Int32 → (Nat → Nat → Int32) → (Nat → Nat → Int32) → Option Int32} (hk55 : ∀ (i3 : Int32) (i4 : Int32) (i5 : Int32) (i6 : Int32) (i7 : Int32) (i8 : Int32), k55 70 71 i3 i4 i5 i6 i7 i8 (wA z f r) = (kg55 i3 i4 i5 i6 i7 i8 z f).map (fun x => (x, wA z f r))) {k66 : Nat → Nat → Int32 → Int32 → Int32 → Int32 → Int32 → Int32 → Int32 → LWd → Option (Int32 × LWd)} {kg66 : Int32 → Int32 → Int32 → Int32 → Int32 → Int32 → Int32 → (Nat → Nat → Int32) → (Nat → Nat → Int32) → Option Int32} (hk66 : ∀ (i3 : Int32) (i4 : Int32) (i5 : Int32) (i6 : Int32) (i7 : Int32) (i8 : Int32) (i9 : Int32), k66 70 71 i3 i4 i5 i6 i7 i8 i9 (wA z f r) = (kg66 i3 i4 i5 i6 i7 i8 i9 z f).map (fun x => (x, wA z f r))) (i3 : Int32) (i4 : Int32) (i5 : Int32) (i6 : Int32) (i7 : Int32) (i8 : Int32) (i9 : Int32) : m_L_holds_b329 k44 k55 k66 70 71 i3 i4 i5 i6 i7 i8 i9 (wA z f r) = (g_L_holds_b329 kg44 kg55 kg66 i3 i4 i5 i6 i7 i8 i9 z f).map (fun x => (x, wA z f r)) := by
  unfold m_L_holds_b329 g_L_holds_b329
  exact hk66 _ _ _ _ _ _ _ 
def g_L_holds_b310 (k44 : Int32 → Int32 → Int32 → Int32 → Int32 → (Nat → Nat → Int32) → (Nat → Nat → Int32) → Option Int32) (k55 : Int32 → Int32 → Int32 → Int32 → Int32 → Int32 → (Nat → Nat → Int32) → (Nat → Nat → Int32) → Option Int32) (k66 : Int32 → Int32 → Int32 → Int32 → Int32 → Int32 → Int32 → (Nat → Nat → Int32) → (Nat → Nat → Int32) → Option Int32) (i3 : Int32) (i4 : Int32) (i5 : Int32) (i6 : Int32) (i7 : Int32) (i8 : Int32) (i9 : Int32) (i19 : Int32) (i20 : Int32) (s0 : Int32) (z f : Nat → Nat → Int32) : Option Int32 :=
  if i19 = 0 then
    g_L_holds_b329 k44 k55 k66 i3 i4 i5 i6 i7 i8 i9 z f
  else
    if i20 = 0 then
      some (1)
    else
      if s0 = 0 then
        g_L_holds_b329 k44 k55 k66 i3 i4 i5 i6 i7 i8 i9 z f
      else
        some (1)
set_option maxRecDepth 100000 in
set_option maxHeartbeats 4000000 in
theorem e_L_holds_b310 {r : LWd} {z f : Nat → Nat → Int32} {k44 : Nat → Nat → Int32 → Int32 → Int32 → Int32 → Int32 → LWd → Option (Int32 × LWd)} {kg44 : Int32 → Int32 → Int32 → Int32 → Int32 → (Nat → Nat → Int32) → (Nat → Nat → Int32) → Option Int32} (hk44 : ∀ (i3 : Int32) (i4 : Int32) (i5 : Int32) (i6 : Int32) (i7 : Int32), k44 70 71 i3 i4 i5 i6 i7 (wA z f r) = (kg44 i3 i4 i5 i6 i7 z f).map (fun x => (x, wA z f r))) {k55 : Nat → Nat → Int32 → Int32 → Int32 → Int32 → Int32 → Int32 → LWd → Option (Int32 × LWd)} {kg55 : Int32 → Int32 → Int32 → Int32 → Int32 → Int32 → (Nat → Nat → Int32) → (Nat → Nat → Int32) → Option Int32} (hk55 : ∀ (i3 : Int32) (i4 : Int32) (i5 : Int32) (i6 : Int32) (i7 : Int32) (i8 : Int32), k55 70 71 i3 i4 i5 i6 i7 i8 (wA z f r) = (kg55 i3 i4 i5 i6 i7 i8 z f).map (fun x => (x, wA z f r))) {k66 : Nat → Nat → Int32 → Int32 → Int32 → Int32 → Int32 → Int32 → Int32 → LWd → Option (Int32 × LWd)} {kg66 : Int32 → Int32 → Int32 → Int32 → Int32 → Int32 → Int32 → (Nat → Nat → Int32) → (Nat → Nat → Int32) → Option Int32} (hk66 : ∀ (i3 : Int32) (i4 : Int32) (i5 : Int32) (i6 : Int32) (i7 : Int32) (i8 : Int32) (i9 : Int32), k66 70 71 i3 i4 i5 i6 i7 i8 i9 (wA z f r) = (kg66 i3 i4 i5 i6 i7 i8 i9 z f).map (fun x => (x, wA z f r))) (i3 : Int32) (i4 : Int32) (i5 : Int32) (i6 : Int32) (i7 : Int32) (i8 : Int32) (i9 : Int32) (i19 : Int32) (i20 : Int32) (s0 : Int32) : m_L_holds_b310 k44 k55 k66 70 71 i3 i4 i5 i6 i7 i8 i9 i19 i20 s0 (wA z f r) = (g_L_holds_b310 kg44 kg55 kg66 i3 i4 i5 i6 i7 i8 i9 i19 i20 s0 z f).map (fun x => (x, wA z f r)) := by
  unfold m_L_holds_b310 g_L_holds_b310
  refine iteE (fun _ => ?_) (fun _ => ?_)
  · exact e_L_holds_b329 (hk44 := hk44) (hk55 := hk55) (hk66 := hk66) _ _ _ _ _ _ _ 
  · refine iteE (fun _ => ?_) (fun _ => ?_)
    · rfl
    · refine iteE (fun _ => ?_) (fun _ => ?_)
      · exact e_L_holds_b329 (hk44 := hk44) (hk55 := hk55) (hk66 := hk66) _ _ _ _ _ _ _ 
      · rfl
def g_L_holds_b305 (k44 : Int32 → Int32 → Int32 → Int32 → Int32 → (Nat → Nat → Int32) → (Nat → Nat → Int32) → Option Int32) (k55 : Int32 → Int32 → Int32 → Int32 → Int32 → Int32 → (Nat → Nat → Int32) → (Nat → Nat → Int32) → Option Int32) (k66 : Int32 → Int32 → Int32 → Int32 → Int32 → Int32 → Int32 → (Nat → Nat → Int32) → (Nat → Nat → Int32) → Option Int32) (i3 : Int32) (i4 : Int32) (i5 : Int32) (i6 : Int32) (i7 : Int32) (i8 : Int32) (i9 : Int32) (i19 : Int32) (i20 : Int32) (z f : Nat → Nat → Int32) : Option Int32 :=
  g_L_holds_b310 k44 k55 k66 i3 i4 i5 i6 i7 i8 i9 i19 i20 1 z f
set_option maxRecDepth 100000 in
set_option maxHeartbeats 4000000 in
theorem e_L_holds_b305 {r : LWd} {z f : Nat → Nat → Int32} {k44 : Nat → Nat → Int32 → Int32 → Int32 → Int32 → Int32 → LWd → Option (Int32 × LWd)} {kg44 : Int32 → Int32 → Int32 → Int32 → Int32 → (Nat → Nat → Int32) → (Nat → Nat → Int32) → Option Int32} (hk44 : ∀ (i3 : Int32) (i4 : Int32) (i5 : Int32) (i6 : Int32) (i7 : Int32), k44 70 71 i3 i4 i5 i6 i7 (wA z f r) = (kg44 i3 i4 i5 i6 i7 z f).map (fun x => (x, wA z f r))) {k55 : Nat → Nat → Int32 → Int32 → Int32 → Int32 → Int32 → Int32 → LWd → Option (Int32 × LWd)} {kg55 : Int32 → Int32 → Int32 → Int32 → Int32 → Int32 → (Nat → Nat → Int32) → (Nat → Nat → Int32) → Option Int32} (hk55 : ∀ (i3 : Int32) (i4 : Int32) (i5 : Int32) (i6 : Int32) (i7 : Int32) (i8 : Int32), k55 70 71 i3 i4 i5 i6 i7 i8 (wA z f r) = (kg55 i3 i4 i5 i6 i7 i8 z f).map (fun x => (x, wA z f r))) {k66 : Nat → Nat → Int32 → Int32 → Int32 → Int32 → Int32 → Int32 → Int32 → LWd → Option (Int32 × LWd)} {kg66 : Int32 → Int32 → Int32 → Int32 → Int32 → Int32 → Int32 → (Nat → Nat → Int32) → (Nat → Nat → Int32) → Option Int32} (hk66 : ∀ (i3 : Int32) (i4 : Int32) (i5 : Int32) (i6 : Int32) (i7 : Int32) (i8 : Int32) (i9 : Int32), k66 70 71 i3 i4 i5 i6 i7 i8 i9 (wA z f r) = (kg66 i3 i4 i5 i6 i7 i8 i9 z f).map (fun x => (x, wA z f r))) (i3 : Int32) (i4 : Int32) (i5 : Int32) (i6 : Int32) (i7 : Int32) (i8 : Int32) (i9 : Int32) (i19 : Int32) (i20 : Int32) : m_L_holds_b305 k44 k55 k66 70 71 i3 i4 i5 i6 i7 i8 i9 i19 i20 (wA z f r) = (g_L_holds_b305 kg44 kg55 kg66 i3 i4 i5 i6 i7 i8 i9 i19 i20 z f).map (fun x => (x, wA z f r)) := by
  unfold m_L_holds_b305 g_L_holds_b305
  exact e_L_holds_b310 (hk44 := hk44) (hk55 := hk55) (hk66 := hk66) _ _ _ _ _ _ _ _ _ _ 
def g_L_holds_b261 (k44 : Int32 → Int32 → Int32 → Int32 → Int32 → (Nat → Nat → Int32) → (Nat → Nat → Int32) → Option Int32) (k55 : Int32 → Int32 → Int32 → Int32 → Int32 → Int32 → (Nat → Nat → Int32) → (Nat → Nat → Int32) → Option Int32) (k66 : Int32 → Int32 → Int32 → Int32 → Int32 → Int32 → Int32 → (Nat → Nat → Int32) → (Nat → Nat → Int32) → Option Int32) (i3 : Int32) (i4 : Int32) (i5 : Int32) (i6 : Int32) (i7 : Int32) (i8 : Int32) (i9 : Int32) (i10 : Int32) (i11 : Int32) (i12 : Int32) (i13 : Int32) (i14 : Int32) (i15 : Int32) (i19 : Int32) (s0 : Int32) (z f : Nat → Nat → Int32) : Option Int32 :=
  if ((i10 * i12) + (i11 * i13)) ≤ 0 then
    g_L_holds_b305 k44 k55 k66 i3 i4 i5 i6 i7 i8 i9 i19 s0 z f
  else
    if ((i12 * i14) + (i13 * i15)) ≤ 0 then
      g_L_holds_b305 k44 k55 k66 i3 i4 i5 i6 i7 i8 i9 i19 s0 z f
    else
      if 0 < ((i10 * i14) + (i11 * i15)) then
        g_L_holds_b310 k44 k55 k66 i3 i4 i5 i6 i7 i8 i9 i19 s0 0 z f
      else
        g_L_holds_b305 k44 k55 k66 i3 i4 i5 i6 i7 i8 i9 i19 s0 z f
set_option maxRecDepth 100000 in
set_option maxHeartbeats 4000000 in
theorem e_L_holds_b261 {r : LWd} {z f : Nat → Nat → Int32} {k44 : Nat → Nat → Int32 → Int32 → Int32 → Int32 → Int32 → LWd → Option (Int32 × LWd)} {kg44 : Int32 → Int32 → Int32 → Int32 → Int32 → (Nat → Nat → Int32) → (Nat → Nat → Int32) → Option Int32} (hk44 : ∀ (i3 : Int32) (i4 : Int32) (i5 : Int32) (i6 : Int32) (i7 : Int32), k44 70 71 i3 i4 i5 i6 i7 (wA z f r) = (kg44 i3 i4 i5 i6 i7 z f).map (fun x => (x, wA z f r))) {k55 : Nat → Nat → Int32 → Int32 → Int32 → Int32 → Int32 → Int32 → LWd → Option (Int32 × LWd)} {kg55 : Int32 → Int32 → Int32 → Int32 → Int32 → Int32 → (Nat → Nat → Int32) → (Nat → Nat → Int32) → Option Int32} (hk55 : ∀ (i3 : Int32) (i4 : Int32) (i5 : Int32) (i6 : Int32) (i7 : Int32) (i8 : Int32), k55 70 71 i3 i4 i5 i6 i7 i8 (wA z f r) = (kg55 i3 i4 i5 i6 i7 i8 z f).map (fun x => (x, wA z f r))) {k66 : Nat → Nat → Int32 → Int32 → Int32 → Int32 → Int32 → Int32 → Int32 → LWd → Option (Int32 × LWd)} {kg66 : Int32 → Int32 → Int32 → Int32 → Int32 → Int32 → Int32 → (Nat → Nat → Int32) → (Nat → Nat → Int32) → Option Int32} (hk66 : ∀ (i3 : Int32) (i4 : Int32) (i5 : Int32) (i6 : Int32) (i7 : Int32) (i8 : Int32) (i9 : Int32), k66 70 71 i3 i4 i5 i6 i7 i8 i9 (wA z f r) = (kg66 i3 i4 i5 i6 i7 i8 i9 z f).map (fun x => (x, wA z f r))) (i3 : Int32) (i4 : Int32) (i5 : Int32) (i6 : Int32) (i7 : Int32) (i8 : Int32) (i9 : Int32) (i10 : Int32) (i11 : Int32) (i12 : Int32) (i13 : Int32) (i14 : Int32) (i15 : Int32) (i19 : Int32) (s0 : Int32) : m_L_holds_b261 k44 k55 k66 70 71 i3 i4 i5 i6 i7 i8 i9 i10 i11 i12 i13 i14 i15 i19 s0 (wA z f r) = (g_L_holds_b261 kg44 kg55 kg66 i3 i4 i5 i6 i7 i8 i9 i10 i11 i12 i13 i14 i15 i19 s0 z f).map (fun x => (x, wA z f r)) := by
  unfold m_L_holds_b261 g_L_holds_b261
  refine iteE (fun _ => ?_) (fun _ => ?_)
  · exact e_L_holds_b305 (hk44 := hk44) (hk55 := hk55) (hk66 := hk66) _ _ _ _ _ _ _ _ _ 
  · refine iteE (fun _ => ?_) (fun _ => ?_)
    · exact e_L_holds_b305 (hk44 := hk44) (hk55 := hk55) (hk66 := hk66) _ _ _ _ _ _ _ _ _ 
    · refine iteE (fun _ => ?_) (fun _ => ?_)
      · exact e_L_holds_b310 (hk44 := hk44) (hk55 := hk55) (hk66 := hk66) _ _ _ _ _ _ _ _ _ _ 
      · exact e_L_holds_b305 (hk44 := hk44) (hk55 := hk55) (hk66 := hk66) _ _ _ _ _ _ _ _ _ 
def g_L_holds_b260 (k44 : Int32 → Int32 → Int32 → Int32 → Int32 → (Nat → Nat → Int32) → (Nat → Nat → Int32) → Option Int32) (k55 : Int32 → Int32 → Int32 → Int32 → Int32 → Int32 → (Nat → Nat → Int32) → (Nat → Nat → Int32) → Option Int32) (k66 : Int32 → Int32 → Int32 → Int32 → Int32 → Int32 → Int32 → (Nat → Nat → Int32) → (Nat → Nat → Int32) → Option Int32) (i3 : Int32) (i4 : Int32) (i5 : Int32) (i6 : Int32) (i7 : Int32) (i8 : Int32) (i9 : Int32) (i10 : Int32) (i11 : Int32) (i12 : Int32) (i13 : Int32) (i14 : Int32) (i15 : Int32) (i19 : Int32) (z f : Nat → Nat → Int32) : Option Int32 :=
  g_L_holds_b261 k44 k55 k66 i3 i4 i5 i6 i7 i8 i9 i10 i11 i12 i13 i14 i15 i19 0 z f
set_option maxRecDepth 100000 in
set_option maxHeartbeats 4000000 in
theorem e_L_holds_b260 {r : LWd} {z f : Nat → Nat → Int32} {k44 : Nat → Nat → Int32 → Int32 → Int32 → Int32 → Int32 → LWd → Option (Int32 × LWd)} {kg44 : Int32 → Int32 → Int32 → Int32 → Int32 → (Nat → Nat → Int32) → (Nat → Nat → Int32) → Option Int32} (hk44 : ∀ (i3 : Int32) (i4 : Int32) (i5 : Int32) (i6 : Int32) (i7 : Int32), k44 70 71 i3 i4 i5 i6 i7 (wA z f r) = (kg44 i3 i4 i5 i6 i7 z f).map (fun x => (x, wA z f r))) {k55 : Nat → Nat → Int32 → Int32 → Int32 → Int32 → Int32 → Int32 → LWd → Option (Int32 × LWd)} {kg55 : Int32 → Int32 → Int32 → Int32 → Int32 → Int32 → (Nat → Nat → Int32) → (Nat → Nat → Int32) → Option Int32} (hk55 : ∀ (i3 : Int32) (i4 : Int32) (i5 : Int32) (i6 : Int32) (i7 : Int32) (i8 : Int32), k55 70 71 i3 i4 i5 i6 i7 i8 (wA z f r) = (kg55 i3 i4 i5 i6 i7 i8 z f).map (fun x => (x, wA z f r))) {k66 : Nat → Nat → Int32 → Int32 → Int32 → Int32 → Int32 → Int32 → Int32 → LWd → Option (Int32 × LWd)} {kg66 : Int32 → Int32 → Int32 → Int32 → Int32 → Int32 → Int32 → (Nat → Nat → Int32) → (Nat → Nat → Int32) → Option Int32} (hk66 : ∀ (i3 : Int32) (i4 : Int32) (i5 : Int32) (i6 : Int32) (i7 : Int32) (i8 : Int32) (i9 : Int32), k66 70 71 i3 i4 i5 i6 i7 i8 i9 (wA z f r) = (kg66 i3 i4 i5 i6 i7 i8 i9 z f).map (fun x => (x, wA z f r))) (i3 : Int32) (i4 : Int32) (i5 : Int32) (i6 : Int32) (i7 : Int32) (i8 : Int32) (i9 : Int32) (i10 : Int32) (i11 : Int32) (i12 : Int32) (i13 : Int32) (i14 : Int32) (i15 : Int32) (i19 : Int32) : m_L_holds_b260 k44 k55 k66 70 71 i3 i4 i5 i6 i7 i8 i9 i10 i11 i12 i13 i14 i15 i19 (wA z f r) = (g_L_holds_b260 kg44 kg55 kg66 i3 i4 i5 i6 i7 i8 i9 i10 i11 i12 i13 i14 i15 i19 z f).map (fun x => (x, wA z f r)) := by
  unfold m_L_holds_b260 g_L_holds_b260
  exact e_L_holds_b261 (hk44 := hk44) (hk55 := hk55) (hk66 := hk66) _ _ _ _ _ _ _ _ _ _ _ _ _ _ _ 
def g_L_holds_b239 (k44 : Int32 → Int32 → Int32 → Int32 → Int32 → (Nat → Nat → Int32) → (Nat → Nat → Int32) → Option Int32) (k55 : Int32 → Int32 → Int32 → Int32 → Int32 → Int32 → (Nat → Nat → Int32) → (Nat → Nat → Int32) → Option Int32) (k66 : Int32 → Int32 → Int32 → Int32 → Int32 → Int32 → Int32 → (Nat → Nat → Int32) → (Nat → Nat → Int32) → Option Int32) (i3 : Int32) (i4 : Int32) (i5 : Int32) (i6 : Int32) (i7 : Int32) (i8 : Int32) (i9 : Int32) (i10 : Int32) (i11 : Int32) (i12 : Int32) (i13 : Int32) (i14 : Int32) (i15 : Int32) (i16 : Int32) (i17 : Int32) (i18 : Int32) (s0 : Int32) (z f : Nat → Nat → Int32) : Option Int32 :=
  if i16 = 0 then
    if i17 = 0 then
      if i18 = 0 then
        g_L_holds_b261 k44 k55 k66 i3 i4 i5 i6 i7 i8 i9 i10 i11 i12 i13 i14 i15 s0 1 z f
      else
        g_L_holds_b260 k44 k55 k66 i3 i4 i5 i6 i7 i8 i9 i10 i11 i12 i13 i14 i15 s0 z f
    else
      g_L_holds_b260 k44 k55 k66 i3 i4 i5 i6 i7 i8 i9 i10 i11 i12 i13 i14 i15 s0 z f
  else
    g_L_holds_b260 k44 k55 k66 i3 i4 i5 i6 i7 i8 i9 i10 i11 i12 i13 i14 i15 s0 z f
set_option maxRecDepth 100000 in
set_option maxHeartbeats 4000000 in
theorem e_L_holds_b239 {r : LWd} {z f : Nat → Nat → Int32} {k44 : Nat → Nat → Int32 → Int32 → Int32 → Int32 → Int32 → LWd → Option (Int32 × LWd)} {kg44 : Int32 → Int32 → Int32 → Int32 → Int32 → (Nat → Nat → Int32) → (Nat → Nat → Int32) → Option Int32} (hk44 : ∀ (i3 : Int32) (i4 : Int32) (i5 : Int32) (i6 : Int32) (i7 : Int32), k44 70 71 i3 i4 i5 i6 i7 (wA z f r) = (kg44 i3 i4 i5 i6 i7 z f).map (fun x => (x, wA z f r))) {k55 : Nat → Nat → Int32 → Int32 → Int32 → Int32 → Int32 → Int32 → LWd → Option (Int32 × LWd)} {kg55 : Int32 → Int32 → Int32 → Int32 → Int32 → Int32 → (Nat → Nat → Int32) → (Nat → Nat → Int32) → Option Int32} (hk55 : ∀ (i3 : Int32) (i4 : Int32) (i5 : Int32) (i6 : Int32) (i7 : Int32) (i8 : Int32), k55 70 71 i3 i4 i5 i6 i7 i8 (wA z f r) = (kg55 i3 i4 i5 i6 i7 i8 z f).map (fun x => (x, wA z f r))) {k66 : Nat → Nat → Int32 → Int32 → Int32 → Int32 → Int32 → Int32 → Int32 → LWd → Option (Int32 × LWd)} {kg66 : Int32 → Int32 → Int32 → Int32 → Int32 → Int32 → Int32 → (Nat → Nat → Int32) → (Nat → Nat → Int32) → Option Int32} (hk66 : ∀ (i3 : Int32) (i4 : Int32) (i5 : Int32) (i6 : Int32) (i7 : Int32) (i8 : Int32) (i9 : Int32), k66 70 71 i3 i4 i5 i6 i7 i8 i9 (wA z f r) = (kg66 i3 i4 i5 i6 i7 i8 i9 z f).map (fun x => (x, wA z f r))) (i3 : Int32) (i4 : Int32) (i5 : Int32) (i6 : Int32) (i7 : Int32) (i8 : Int32) (i9 : Int32) (i10 : Int32) (i11 : Int32) (i12 : Int32) (i13 : Int32) (i14 : Int32) (i15 : Int32) (i16 : Int32) (i17 : Int32) (i18 : Int32) (s0 : Int32) : m_L_holds_b239 k44 k55 k66 70 71 i3 i4 i5 i6 i7 i8 i9 i10 i11 i12 i13 i14 i15 i16 i17 i18 s0 (wA z f r) = (g_L_holds_b239 kg44 kg55 kg66 i3 i4 i5 i6 i7 i8 i9 i10 i11 i12 i13 i14 i15 i16 i17 i18 s0 z f).map (fun x => (x, wA z f r)) := by
  unfold m_L_holds_b239 g_L_holds_b239
  refine iteE (fun _ => ?_) (fun _ => ?_)
  · refine iteE (fun _ => ?_) (fun _ => ?_)
    · refine iteE (fun _ => ?_) (fun _ => ?_)
      · exact e_L_holds_b261 (hk44 := hk44) (hk55 := hk55) (hk66 := hk66) _ _ _ _ _ _ _ _ _ _ _ _ _ _ _ 
      · exact e_L_holds_b260 (hk44 := hk44) (hk55 := hk55) (hk66 := hk66) _ _ _ _ _ _ _ _ _ _ _ _ _ _ 
    · exact e_L_holds_b260 (hk44 := hk44) (hk55 := hk55) (hk66 := hk66) _ _ _ _ _ _ _ _ _ _ _ _ _ _ 
  · exact e_L_holds_b260 (hk44 := hk44) (hk55 := hk55) (hk66 := hk66) _ _ _ _ _ _ _ _ _ _ _ _ _ _ 
def g_L_holds_b238 (k44 : Int32 → Int32 → Int32 → Int32 → Int32 → (Nat → Nat → Int32) → (Nat → Nat → Int32) → Option Int32) (k55 : Int32 → Int32 → Int32 → Int32 → Int32 → Int32 → (Nat → Nat → Int32) → (Nat → Nat → Int32) → Option Int32) (k66 : Int32 → Int32 → Int32 → Int32 → Int32 → Int32 → Int32 → (Nat → Nat → Int32) → (Nat → Nat → Int32) → Option Int32) (i3 : Int32) (i4 : Int32) (i5 : Int32) (i6 : Int32) (i7 : Int32) (i8 : Int32) (i9 : Int32) (i10 : Int32) (i11 : Int32) (i12 : Int32) (i13 : Int32) (i14 : Int32) (i15 : Int32) (i16 : Int32) (i17 : Int32) (i18 : Int32) (z f : Nat → Nat → Int32) : Option Int32 :=
  g_L_holds_b239 k44 k55 k66 i3 i4 i5 i6 i7 i8 i9 i10 i11 i12 i13 i14 i15 i16 i17 i18 0 z f
set_option maxRecDepth 100000 in
set_option maxHeartbeats 4000000 in
theorem e_L_holds_b238 {r : LWd} {z f : Nat → Nat → Int32} {k44 : Nat → Nat → Int32 → Int32 → Int32 → Int32 → Int32 → LWd → Option (Int32 × LWd)} {kg44 : Int32 → Int32 → Int32 → Int32 → Int32 → (Nat → Nat → Int32) → (Nat → Nat → Int32) → Option Int32} (hk44 : ∀ (i3 : Int32) (i4 : Int32) (i5 : Int32) (i6 : Int32) (i7 : Int32), k44 70 71 i3 i4 i5 i6 i7 (wA z f r) = (kg44 i3 i4 i5 i6 i7 z f).map (fun x => (x, wA z f r))) {k55 : Nat → Nat → Int32 → Int32 → Int32 → Int32 → Int32 → Int32 → LWd → Option (Int32 × LWd)} {kg55 : Int32 → Int32 → Int32 → Int32 → Int32 → Int32 → (Nat → Nat → Int32) → (Nat → Nat → Int32) → Option Int32} (hk55 : ∀ (i3 : Int32) (i4 : Int32) (i5 : Int32) (i6 : Int32) (i7 : Int32) (i8 : Int32), k55 70 71 i3 i4 i5 i6 i7 i8 (wA z f r) = (kg55 i3 i4 i5 i6 i7 i8 z f).map (fun x => (x, wA z f r))) {k66 : Nat → Nat → Int32 → Int32 → Int32 → Int32 → Int32 → Int32 → Int32 → LWd → Option (Int32 × LWd)} {kg66 : Int32 → Int32 → Int32 → Int32 → Int32 → Int32 → Int32 → (Nat → Nat → Int32) → (Nat → Nat → Int32) → Option Int32} (hk66 : ∀ (i3 : Int32) (i4 : Int32) (i5 : Int32) (i6 : Int32) (i7 : Int32) (i8 : Int32) (i9 : Int32), k66 70 71 i3 i4 i5 i6 i7 i8 i9 (wA z f r) = (kg66 i3 i4 i5 i6 i7 i8 i9 z f).map (fun x => (x, wA z f r))) (i3 : Int32) (i4 : Int32) (i5 : Int32) (i6 : Int32) (i7 : Int32) (i8 : Int32) (i9 : Int32) (i10 : Int32) (i11 : Int32) (i12 : Int32) (i13 : Int32) (i14 : Int32) (i15 : Int32) (i16 : Int32) (i17 : Int32) (i18 : Int32) : m_L_holds_b238 k44 k55 k66 70 71 i3 i4 i5 i6 i7 i8 i9 i10 i11 i12 i13 i14 i15 i16 i17 i18 (wA z f r) = (g_L_holds_b238 kg44 kg55 kg66 i3 i4 i5 i6 i7 i8 i9 i10 i11 i12 i13 i14 i15 i16 i17 i18 z f).map (fun x => (x, wA z f r)) := by
  unfold m_L_holds_b238 g_L_holds_b238
  exact e_L_holds_b239 (hk44 := hk44) (hk55 := hk55) (hk66 := hk66) _ _ _ _ _ _ _ _ _ _ _ _ _ _ _ _ _ 
def g_L_holds_b234 (k44 : Int32 → Int32 → Int32 → Int32 → Int32 → (Nat → Nat → Int32) → (Nat → Nat → Int32) → Option Int32) (k55 : Int32 → Int32 → Int32 → Int32 → Int32 → Int32 → (Nat → Nat → Int32) → (Nat → Nat → Int32) → Option Int32) (k66 : Int32 → Int32 → Int32 → Int32 → Int32 → Int32 → Int32 → (Nat → Nat → Int32) → (Nat → Nat → Int32) → Option Int32) (i3 : Int32) (i4 : Int32) (i5 : Int32) (i6 : Int32) (i7 : Int32) (i8 : Int32) (i9 : Int32) (i10 : Int32) (i11 : Int32) (i12 : Int32) (i13 : Int32) (i14 : Int32) (i15 : Int32) (i16 : Int32) (i17 : Int32) (i18 : Int32) (z f : Nat → Nat → Int32) : Option Int32 :=
  g_L_holds_b239 k44 k55 k66 i3 i4 i5 i6 i7 i8 i9 i10 i11 i12 i13 i14 i15 i16 i17 i18 1 z f
set_option maxRecDepth 100000 in
set_option maxHeartbeats 4000000 in
theorem e_L_holds_b234 {r : LWd} {z f : Nat → Nat → Int32} {k44 : Nat → Nat → Int32 → Int32 → Int32 → Int32 → Int32 → LWd → Option (Int32 × LWd)} {kg44 : Int32 → Int32 → Int32 → Int32 → Int32 → (Nat → Nat → Int32) → (Nat → Nat → Int32) → Option Int32} (hk44 : ∀ (i3 : Int32) (i4 : Int32) (i5 : Int32) (i6 : Int32) (i7 : Int32), k44 70 71 i3 i4 i5 i6 i7 (wA z f r) = (kg44 i3 i4 i5 i6 i7 z f).map (fun x => (x, wA z f r))) {k55 : Nat → Nat → Int32 → Int32 → Int32 → Int32 → Int32 → Int32 → LWd → Option (Int32 × LWd)} {kg55 : Int32 → Int32 → Int32 → Int32 → Int32 → Int32 → (Nat → Nat → Int32) → (Nat → Nat → Int32) → Option Int32} (hk55 : ∀ (i3 : Int32) (i4 : Int32) (i5 : Int32) (i6 : Int32) (i7 : Int32) (i8 : Int32), k55 70 71 i3 i4 i5 i6 i7 i8 (wA z f r) = (kg55 i3 i4 i5 i6 i7 i8 z f).map (fun x => (x, wA z f r))) {k66 : Nat → Nat → Int32 → Int32 → Int32 → Int32 → Int32 → Int32 → Int32 → LWd → Option (Int32 × LWd)} {kg66 : Int32 → Int32 → Int32 → Int32 → Int32 → Int32 → Int32 → (Nat → Nat → Int32) → (Nat → Nat → Int32) → Option Int32} (hk66 : ∀ (i3 : Int32) (i4 : Int32) (i5 : Int32) (i6 : Int32) (i7 : Int32) (i8 : Int32) (i9 : Int32), k66 70 71 i3 i4 i5 i6 i7 i8 i9 (wA z f r) = (kg66 i3 i4 i5 i6 i7 i8 i9 z f).map (fun x => (x, wA z f r))) (i3 : Int32) (i4 : Int32) (i5 : Int32) (i6 : Int32) (i7 : Int32) (i8 : Int32) (i9 : Int32) (i10 : Int32) (i11 : Int32) (i12 : Int32) (i13 : Int32) (i14 : Int32) (i15 : Int32) (i16 : Int32) (i17 : Int32) (i18 : Int32) : m_L_holds_b234 k44 k55 k66 70 71 i3 i4 i5 i6 i7 i8 i9 i10 i11 i12 i13 i14 i15 i16 i17 i18 (wA z f r) = (g_L_holds_b234 kg44 kg55 kg66 i3 i4 i5 i6 i7 i8 i9 i10 i11 i12 i13 i14 i15 i16 i17 i18 z f).map (fun x => (x, wA z f r)) := by
  unfold m_L_holds_b234 g_L_holds_b234
  exact e_L_holds_b239 (hk44 := hk44) (hk55 := hk55) (hk66 := hk66) _ _ _ _ _ _ _ _ _ _ _ _ _ _ _ _ _ 
def g_L_holds_b219 (k44 : Int32 → Int32 → Int32 → Int32 → Int32 → (Nat → Nat → Int32) → (Nat → Nat → Int32) → Option Int32) (k55 : Int32 → Int32 → Int32 → Int32 → Int32 → Int32 → (Nat → Nat → Int32) → (Nat → Nat → Int32) → Option Int32) (k66 : Int32 → Int32 → Int32 → Int32 → Int32 → Int32 → Int32 → (Nat → Nat → Int32) → (Nat → Nat → Int32) → Option Int32) (i3 : Int32) (i4 : Int32) (i5 : Int32) (i6 : Int32) (i7 : Int32) (i8 : Int32) (i9 : Int32) (i10 : Int32) (i11 : Int32) (i12 : Int32) (i13 : Int32) (i14 : Int32) (i15 : Int32) (i16 : Int32) (i17 : Int32) (i18 : Int32) (z f : Nat → Nat → Int32) : Option Int32 :=
  if 0 < i16 then
    g_L_holds_b238 k44 k55 k66 i3 i4 i5 i6 i7 i8 i9 i10 i11 i12 i13 i14 i15 i16 i17 i18 z f
  else
    if 0 < i17 then
      g_L_holds_b238 k44 k55 k66 i3 i4 i5 i6 i7 i8 i9 i10 i11 i12 i13 i14 i15 i16 i17 i18 z f
    else
      if 0 < i18 then
        g_L_holds_b238 k44 k55 k66 i3 i4 i5 i6 i7 i8 i9 i10 i11 i12 i13 i14 i15 i16 i17 i18 z f
      else
        g_L_holds_b234 k44 k55 k66 i3 i4 i5 i6 i7 i8 i9 i10 i11 i12 i13 i14 i15 i16 i17 i18 z f
set_option maxRecDepth 100000 in
set_option maxHeartbeats 4000000 in
theorem e_L_holds_b219 {r : LWd} {z f : Nat → Nat → Int32} {k44 : Nat → Nat → Int32 → Int32 → Int32 → Int32 → Int32 → LWd → Option (Int32 × LWd)} {kg44 : Int32 → Int32 → Int32 → Int32 → Int32 → (Nat → Nat → Int32) → (Nat → Nat → Int32) → Option Int32} (hk44 : ∀ (i3 : Int32) (i4 : Int32) (i5 : Int32) (i6 : Int32) (i7 : Int32), k44 70 71 i3 i4 i5 i6 i7 (wA z f r) = (kg44 i3 i4 i5 i6 i7 z f).map (fun x => (x, wA z f r))) {k55 : Nat → Nat → Int32 → Int32 → Int32 → Int32 → Int32 → Int32 → LWd → Option (Int32 × LWd)} {kg55 : Int32 → Int32 → Int32 → Int32 → Int32 → Int32 → (Nat → Nat → Int32) → (Nat → Nat → Int32) → Option Int32} (hk55 : ∀ (i3 : Int32) (i4 : Int32) (i5 : Int32) (i6 : Int32) (i7 : Int32) (i8 : Int32), k55 70 71 i3 i4 i5 i6 i7 i8 (wA z f r) = (kg55 i3 i4 i5 i6 i7 i8 z f).map (fun x => (x, wA z f r))) {k66 : Nat → Nat → Int32 → Int32 → Int32 → Int32 → Int32 → Int32 → Int32 → LWd → Option (Int32 × LWd)} {kg66 : Int32 → Int32 → Int32 → Int32 → Int32 → Int32 → Int32 → (Nat → Nat → Int32) → (Nat → Nat → Int32) → Option Int32} (hk66 : ∀ (i3 : Int32) (i4 : Int32) (i5 : Int32) (i6 : Int32) (i7 : Int32) (i8 : Int32) (i9 : Int32), k66 70 71 i3 i4 i5 i6 i7 i8 i9 (wA z f r) = (kg66 i3 i4 i5 i6 i7 i8 i9 z f).map (fun x => (x, wA z f r))) (i3 : Int32) (i4 : Int32) (i5 : Int32) (i6 : Int32) (i7 : Int32) (i8 : Int32) (i9 : Int32) (i10 : Int32) (i11 : Int32) (i12 : Int32) (i13 : Int32) (i14 : Int32) (i15 : Int32) (i16 : Int32) (i17 : Int32) (i18 : Int32) : m_L_holds_b219 k44 k55 k66 70 71 i3 i4 i5 i6 i7 i8 i9 i10 i11 i12 i13 i14 i15 i16 i17 i18 (wA z f r) = (g_L_holds_b219 kg44 kg55 kg66 i3 i4 i5 i6 i7 i8 i9 i10 i11 i12 i13 i14 i15 i16 i17 i18 z f).map (fun x => (x, wA z f r)) := by
  unfold m_L_holds_b219 g_L_holds_b219
  refine iteE (fun _ => ?_) (fun _ => ?_)
  · exact e_L_holds_b238 (hk44 := hk44) (hk55 := hk55) (hk66 := hk66) _ _ _ _ _ _ _ _ _ _ _ _ _ _ _ _ 
  · refine iteE (fun _ => ?_) (fun _ => ?_)
    · exact e_L_holds_b238 (hk44 := hk44) (hk55 := hk55) (hk66 := hk66) _ _ _ _ _ _ _ _ _ _ _ _ _ _ _ _ 
    · refine iteE (fun _ => ?_) (fun _ => ?_)
      · exact e_L_holds_b238 (hk44 := hk44) (hk55 := hk55) (hk66 := hk66) _ _ _ _ _ _ _ _ _ _ _ _ _ _ _ _ 
      · exact e_L_holds_b234 (hk44 := hk44) (hk55 := hk55) (hk66 := hk66) _ _ _ _ _ _ _ _ _ _ _ _ _ _ _ _ 
def g_L_holds_l66 (k44 : Int32 → Int32 → Int32 → Int32 → Int32 → (Nat → Nat → Int32) → (Nat → Nat → Int32) → Option Int32) (k55 : Int32 → Int32 → Int32 → Int32 → Int32 → Int32 → (Nat → Nat → Int32) → (Nat → Nat → Int32) → Option Int32) : Nat → Int32 → Int32 → Int32 → Int32 → Int32 → Int32 → Int32 → (Nat → Nat → Int32) → (Nat → Nat → Int32) → Option Int32
  | 0, _, _, _, _, _, _, _, _, _ => none
  | fu + 1, i3, i4, i5, i6, i7, i8, i9, z, f =>
    if 6 ≤ i9 then
      k55 i3 i4 i5 i6 i7 (i8 + 1) z f
    else
      if ((((i3 >>> (i7 &&& 31)) &&& (i3 >>> (i8 &&& 31))) &&& (i3 >>> (i9 &&& 31))) &&& 1) = 1 then
        (ixA 6 i7).bind fun j1 =>
        (ixA 6 i7).bind fun j2 =>
        (ixA 6 i8).bind fun j3 =>
        (ixA 6 i8).bind fun j4 =>
        (ixA 6 i9).bind fun j5 =>
        (ixA 6 i9).bind fun j6 =>
        if (((i5 - (i4 * (f 70 j1))) * (i6 - (i4 * (f 71 j4)))) - ((i6 - (i4 * (f 71 j2))) * (i5 - (i4 * (f 70 j3))))) < 0 then
          g_L_holds_b219 k44 k55 (fun y0 y1 y2 y3 y4 y5 y6 z f => g_L_holds_l66 k44 k55 fu y0 y1 y2 y3 y4 y5 y6 z f) i3 i4 i5 i6 i7 i8 i9 (i5 - (i4 * (f 70 j1))) (i6 - (i4 * (f 71 j2))) (i5 - (i4 * (f 70 j3))) (i6 - (i4 * (f 71 j4))) (i5 - (i4 * (f 70 j5))) (i6 - (i4 * (f 71 j6))) (((i5 - (i4 * (f 70 j1))) * (i6 - (i4 * (f 71 j4)))) - ((i6 - (i4 * (f 71 j2))) * (i5 - (i4 * (f 70 j3))))) (((i5 - (i4 * (f 70 j3))) * (i6 - (i4 * (f 71 j6)))) - ((i6 - (i4 * (f 71 j4))) * (i5 - (i4 * (f 70 j5))))) (((i5 - (i4 * (f 70 j5))) * (i6 - (i4 * (f 71 j2)))) - ((i6 - (i4 * (f 71 j6))) * (i5 - (i4 * (f 70 j1))))) z f
        else
          if (((i5 - (i4 * (f 70 j3))) * (i6 - (i4 * (f 71 j6)))) - ((i6 - (i4 * (f 71 j4))) * (i5 - (i4 * (f 70 j5))))) < 0 then
            g_L_holds_b219 k44 k55 (fun y0 y1 y2 y3 y4 y5 y6 z f => g_L_holds_l66 k44 k55 fu y0 y1 y2 y3 y4 y5 y6 z f) i3 i4 i5 i6 i7 i8 i9 (i5 - (i4 * (f 70 j1))) (i6 - (i4 * (f 71 j2))) (i5 - (i4 * (f 70 j3))) (i6 - (i4 * (f 71 j4))) (i5 - (i4 * (f 70 j5))) (i6 - (i4 * (f 71 j6))) (((i5 - (i4 * (f 70 j1))) * (i6 - (i4 * (f 71 j4)))) - ((i6 - (i4 * (f 71 j2))) * (i5 - (i4 * (f 70 j3))))) (((i5 - (i4 * (f 70 j3))) * (i6 - (i4 * (f 71 j6)))) - ((i6 - (i4 * (f 71 j4))) * (i5 - (i4 * (f 70 j5))))) (((i5 - (i4 * (f 70 j5))) * (i6 - (i4 * (f 71 j2)))) - ((i6 - (i4 * (f 71 j6))) * (i5 - (i4 * (f 70 j1))))) z f
          else
            if 0 ≤ (((i5 - (i4 * (f 70 j5))) * (i6 - (i4 * (f 71 j2)))) - ((i6 - (i4 * (f 71 j6))) * (i5 - (i4 * (f 70 j1))))) then
              g_L_holds_b234 k44 k55 (fun y0 y1 y2 y3 y4 y5 y6 z f => g_L_holds_l66 k44 k55 fu y0 y1 y2 y3 y4 y5 y6 z f) i3 i4 i5 i6 i7 i8 i9 (i5 - (i4 * (f 70 j1))) (i6 - (i4 * (f 71 j2))) (i5 - (i4 * (f 70 j3))) (i6 - (i4 * (f 71 j4))) (i5 - (i4 * (f 70 j5))) (i6 - (i4 * (f 71 j6))) (((i5 - (i4 * (f 70 j1))) * (i6 - (i4 * (f 71 j4)))) - ((i6 - (i4 * (f 71 j2))) * (i5 - (i4 * (f 70 j3))))) (((i5 - (i4 * (f 70 j3))) * (i6 - (i4 * (f 71 j6)))) - ((i6 - (i4 * (f 71 j4))) * (i5 - (i4 * (f 70 j5))))) (((i5 - (i4 * (f 70 j5))) * (i6 - (i4 * (f 71 j2)))) - ((i6 - (i4 * (f 71 j6))) * (i5 - (i4 * (f 70 j1))))) z f
            else
              g_L_holds_b219 k44 k55 (fun y0 y1 y2 y3 y4 y5 y6 z f => g_L_holds_l66 k44 k55 fu y0 y1 y2 y3 y4 y5 y6 z f) i3 i4 i5 i6 i7 i8 i9 (i5 - (i4 * (f 70 j1))) (i6 - (i4 * (f 71 j2))) (i5 - (i4 * (f 70 j3))) (i6 - (i4 * (f 71 j4))) (i5 - (i4 * (f 70 j5))) (i6 - (i4 * (f 71 j6))) (((i5 - (i4 * (f 70 j1))) * (i6 - (i4 * (f 71 j4)))) - ((i6 - (i4 * (f 71 j2))) * (i5 - (i4 * (f 70 j3))))) (((i5 - (i4 * (f 70 j3))) * (i6 - (i4 * (f 71 j6)))) - ((i6 - (i4 * (f 71 j4))) * (i5 - (i4 * (f 70 j5))))) (((i5 - (i4 * (f 70 j5))) * (i6 - (i4 * (f 71 j2)))) - ((i6 - (i4 * (f 71 j6))) * (i5 - (i4 * (f 70 j1))))) z f
      else
        g_L_holds_b329 k44 k55 (fun y0 y1 y2 y3 y4 y5 y6 z f => g_L_holds_l66 k44 k55 fu y0 y1 y2 y3 y4 y5 y6 z f) i3 i4 i5 i6 i7 i8 i9 z f
set_option maxRecDepth 100000 in
set_option maxHeartbeats 4000000 in
theorem e_L_holds_l66 {r : LWd} {z f : Nat → Nat → Int32} {k44 : Nat → Nat → Int32 → Int32 → Int32 → Int32 → Int32 → LWd → Option (Int32 × LWd)} {kg44 : Int32 → Int32 → Int32 → Int32 → Int32 → (Nat → Nat → Int32) → (Nat → Nat → Int32) → Option Int32} (hk44 : ∀ (i3 : Int32) (i4 : Int32) (i5 : Int32) (i6 : Int32) (i7 : Int32), k44 70 71 i3 i4 i5 i6 i7 (wA z f r) = (kg44 i3 i4 i5 i6 i7 z f).map (fun x => (x, wA z f r))) {k55 : Nat → Nat → Int32 → Int32 → Int32 → Int32 → Int32 → Int32 → LWd → Option (Int32 × LWd)} {kg55 : Int32 → Int32 → Int32 → Int32 → Int32 → Int32 → (Nat → Nat → Int32) → (Nat → Nat → Int32) → Option Int32} (hk55 : ∀ (i3 : Int32) (i4 : Int32) (i5 : Int32) (i6 : Int32) (i7 : Int32) (i8 : Int32), k55 70 71 i3 i4 i5 i6 i7 i8 (wA z f r) = (kg55 i3 i4 i5 i6 i7 i8 z f).map (fun x => (x, wA z f r))) : ∀ (fu : Nat) (i3 : Int32) (i4 : Int32) (i5 : Int32) (i6 : Int32) (i7 : Int32) (i8 : Int32) (i9 : Int32), m_L_holds_l66 k44 k55 fu 70 71 i3 i4 i5 i6 i7 i8 i9 (wA z f r) = (g_L_holds_l66 kg44 kg55 fu i3 i4 i5 i6 i7 i8 i9 z f).map (fun x => (x, wA z f r)) := by
  intro fu
  induction fu with
  | zero => intro i3 i4 i5 i6 i7 i8 i9 ; first | rfl | (rw [m_L_holds_l66, g_L_holds_l66]; rfl)
  | succ fu ih =>
    intro i3 i4 i5 i6 i7 i8 i9 
    rw [m_L_holds_l66, g_L_holds_l66]
    refine iteE (fun _ => ?_) (fun _ => ?_)
    · exact hk55 _ _ _ _ _ _ 
    · refine iteE (fun _ => ?_) (fun _ => ?_)
      · refine opM aI_70 (fun j1 hj1 => ?_)
        refine opM aI_71 (fun j2 hj2 => ?_)
        refine opM aI_70 (fun j3 hj3 => ?_)
        refine opM aI_71 (fun j4 hj4 => ?_)
        refine opM aI_70 (fun j5 hj5 => ?_)
        refine opM aI_71 (fun j6 hj6 => ?_)
        refine iteE (fun _ => ?_) (fun _ => ?_)
        · exact e_L_holds_b219 (hk44 := hk44) (hk55 := hk55) (hk66 := ih) _ _ _ _ _ _ _ _ _ _ _ _ _ _ _ _ 
        · refine iteE (fun _ => ?_) (fun _ => ?_)
          · exact e_L_holds_b219 (hk44 := hk44) (hk55 := hk55) (hk66 := ih) _ _ _ _ _ _ _ _ _ _ _ _ _ _ _ _ 
          · refine iteE (fun _ => ?_) (fun _ => ?_)
            · exact e_L_holds_b234 (hk44 := hk44) (hk55 := hk55) (hk66 := ih) _ _ _ _ _ _ _ _ _ _ _ _ _ _ _ _ 
            · exact e_L_holds_b219 (hk44 := hk44) (hk55 := hk55) (hk66 := ih) _ _ _ _ _ _ _ _ _ _ _ _ _ _ _ _ 
      · exact e_L_holds_b329 (hk44 := hk44) (hk55 := hk55) (hk66 := ih) _ _ _ _ _ _ _ 
def g_L_holds_l55 (k44 : Int32 → Int32 → Int32 → Int32 → Int32 → (Nat → Nat → Int32) → (Nat → Nat → Int32) → Option Int32) : Nat → Int32 → Int32 → Int32 → Int32 → Int32 → Int32 → (Nat → Nat → Int32) → (Nat → Nat → Int32) → Option Int32
  | 0, _, _, _, _, _, _, _, _ => none
  | fu + 1, i3, i4, i5, i6, i7, i8, z, f =>
    if 6 ≤ i8 then
      k44 i3 i4 i5 i6 (i7 + 1) z f
    else
      g_L_holds_l66 k44 (fun y0 y1 y2 y3 y4 y5 z f => g_L_holds_l55 k44 fu y0 y1 y2 y3 y4 y5 z f) FU i3 i4 i5 i6 i7 i8 i8 z f
set_option maxRecDepth 100000 in
set_option maxHeartbeats 4000000 in
theorem e_L_holds_l55 {r : LWd} {z f : Nat → Nat → Int32} {k44 : Nat → Nat → Int32 → Int32 → Int32 → Int32 → Int32 → LWd → Option (Int32 × LWd)} {kg44 : Int32 → Int32 → Int32 → Int32 → Int32 → (Nat → Nat → Int32) → (Nat → Nat → Int32) → Option Int32} (hk44 : ∀ (i3 : Int32) (i4 : Int32) (i5 : Int32) (i6 : Int32) (i7 : Int32), k44 70 71 i3 i4 i5 i6 i7 (wA z f r) = (kg44 i3 i4 i5 i6 i7 z f).map (fun x => (x, wA z f r))) : ∀ (fu : Nat) (i3 : Int32) (i4 : Int32) (i5 : Int32) (i6 : Int32) (i7 : Int32) (i8 : Int32), m_L_holds_l55 k44 fu 70 71 i3 i4 i5 i6 i7 i8 (wA z f r) = (g_L_holds_l55 kg44 fu i3 i4 i5 i6 i7 i8 z f).map (fun x => (x, wA z f r)) := by
  intro fu
  induction fu with
  | zero => intro i3 i4 i5 i6 i7 i8 ; first | rfl | (rw [m_L_holds_l55, g_L_holds_l55]; rfl)
  | succ fu ih =>
    intro i3 i4 i5 i6 i7 i8 
    rw [m_L_holds_l55, g_L_holds_l55]
    refine iteE (fun _ => ?_) (fun _ => ?_)
    · exact hk44 _ _ _ _ _ 
    · exact e_L_holds_l66 (hk44 := hk44) (hk55 := ih) FU _ _ _ _ _ _ _ 
def g_L_holds_l44 : Nat → Int32 → Int32 → Int32 → Int32 → Int32 → (Nat → Nat → Int32) → (Nat → Nat → Int32) → Option Int32
  | 0, _, _, _, _, _, _, _ => none
  | fu + 1, i3, i4, i5, i6, i7, z, f =>
    if 6 ≤ i7 then
      some (0)
    else
      g_L_holds_l55 (fun y0 y1 y2 y3 y4 z f => g_L_holds_l44 fu y0 y1 y2 y3 y4 z f) FU i3 i4 i5 i6 i7 i7 z f
set_option maxRecDepth 100000 in
set_option maxHeartbeats 4000000 in
theorem e_L_holds_l44 {r : LWd} {z f : Nat → Nat → Int32} : ∀ (fu : Nat) (i3 : Int32) (i4 : Int32) (i5 : Int32) (i6 : Int32) (i7 : Int32), m_L_holds_l44 fu 70 71 i3 i4 i5 i6 i7 (wA z f r) = (g_L_holds_l44 fu i3 i4 i5 i6 i7 z f).map (fun x => (x, wA z f r)) := by
  intro fu
  induction fu with
  | zero => intro i3 i4 i5 i6 i7 ; first | rfl | (rw [m_L_holds_l44, g_L_holds_l44]; rfl)
  | succ fu ih =>
    intro i3 i4 i5 i6 i7 
    rw [m_L_holds_l44, g_L_holds_l44]
    refine iteE (fun _ => ?_) (fun _ => ?_)
    · rfl
    · exact e_L_holds_l55 (hk44 := ih) FU _ _ _ _ _ _ 
def g_L_holds (i3 : Int32) (z f : Nat → Nat → Int32) : Option Int32 :=
  g_L_holds_l44 FU i3 (10 + (f 74 4)) (((10 + (f 74 4)) * (f 74 1)) + ((f 74 4) * (f 74 5))) (((10 + (f 74 4)) * (f 74 2)) + ((f 74 4) * (f 74 6))) 0 z f
set_option maxRecDepth 100000 in
set_option maxHeartbeats 4000000 in
theorem e_L_holds {r : LWd} {z f : Nat → Nat → Int32} {i3 : Int32} : m_L_holds 70 71 74 i3 (wA z f r) = (g_L_holds i3 z f).map (fun x => (x, wA z f r)) := by
  unfold m_L_holds g_L_holds
  refine opS (aI_74.trans (ixl_4 _)) ?_
  refine opS (aI_74.trans (ixl_1 _)) ?_
  refine opS (aI_74.trans (ixl_4 _)) ?_
  refine opS (aI_74.trans (ixl_5 _)) ?_
  refine opS (aI_74.trans (ixl_2 _)) ?_
  refine opS (aI_74.trans (ixl_4 _)) ?_
  refine opS (aI_74.trans (ixl_6 _)) ?_
  exact e_L_holds_l44 FU _ _ _ _ _ 
def g_L_many_l4 : Nat → Int32 → Int32 → Int32 → (Nat → Nat → Int32) → (Nat → Nat → Int32) → Option Int32
  | 0, _, _, _, _, _ => none
  | fu + 1, i0, i1, i2, z, f =>
    if 6 ≤ i2 then
      some (i1)
    else
      g_L_many_l4 fu i0 (i1 + ((i0 >>> (i2 &&& 31)) &&& 1)) (i2 + 1) z f
set_option maxRecDepth 100000 in
set_option maxHeartbeats 4000000 in
theorem e_L_many_l4 {r : LWd} {z f : Nat → Nat → Int32} : ∀ (fu : Nat) (i0 : Int32) (i1 : Int32) (i2 : Int32), m_L_many_l4 fu i0 i1 i2 (wA z f r) = (g_L_many_l4 fu i0 i1 i2 z f).map (fun x => (x, wA z f r)) := by
  intro fu
  induction fu with
  | zero => intro i0 i1 i2 ; first | rfl | (rw [m_L_many_l4, g_L_many_l4]; rfl)
  | succ fu ih =>
    intro i0 i1 i2 
    rw [m_L_many_l4, g_L_many_l4]
    refine iteE (fun _ => ?_) (fun _ => ?_)
    · rfl
    · exact ih _ _ _ 
def g_L_many (i0 : Int32) (z f : Nat → Nat → Int32) : Option Int32 :=
  g_L_many_l4 FU i0 0 0 z f
set_option maxRecDepth 100000 in
set_option maxHeartbeats 4000000 in
theorem e_L_many {r : LWd} {z f : Nat → Nat → Int32} {i0 : Int32} : m_L_many i0 (wA z f r) = (g_L_many i0 z f).map (fun x => (x, wA z f r)) := by
  unfold m_L_many g_L_many
  exact e_L_many_l4 FU _ _ _ 
