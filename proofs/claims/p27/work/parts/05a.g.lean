/-! the methods over the two functions: written by wip/p27/gmake.py -/
def g_X10_pointAt (i0 : Int32) (i1 : Int32) (z f : Nat → Nat → Int32) : Option Int32 :=
  if i0 < 0 then
    some ((-1))
  else
    if 20 ≤ i0 then
      some ((-1))
    else
      if i1 < 0 then
        some ((-1))
      else
        if 20 ≤ i1 then
          some ((-1))
        else
          some ((20 * i1) + i0)
set_option maxRecDepth 100000 in
set_option maxHeartbeats 4000000 in
theorem e_X10_pointAt {r : LWd} {z f : Nat → Nat → Int32} {i0 : Int32} {i1 : Int32} : m_X10_pointAt i0 i1 (wA z f r) = (g_X10_pointAt i0 i1 z f).map (fun x => (x, wA z f r)) := by
  unfold m_X10_pointAt g_X10_pointAt
  refine iteE (fun _ => ?_) (fun _ => ?_)
  · rfl
  · refine iteE (fun _ => ?_) (fun _ => ?_)
    · rfl
    · refine iteE (fun _ => ?_) (fun _ => ?_)
      · rfl
      · refine iteE (fun _ => ?_) (fun _ => ?_)
        · rfl
        · rfl
def g_X10_isWithin (i0 : Int32) (i1 : Int32) (i2 : Int32) (z f : Nat → Nat → Int32) : Option Int32 :=
  if i0 < i1 then
    some (0)
  else
    if i2 < i0 then
      some (0)
    else
      some (1)
set_option maxRecDepth 100000 in
set_option maxHeartbeats 4000000 in
theorem e_X10_isWithin {r : LWd} {z f : Nat → Nat → Int32} {i0 : Int32} {i1 : Int32} {i2 : Int32} : m_X10_isWithin i0 i1 i2 (wA z f r) = (g_X10_isWithin i0 i1 i2 z f).map (fun x => (x, wA z f r)) := by
  unfold m_X10_isWithin g_X10_isWithin
  refine iteE (fun _ => ?_) (fun _ => ?_)
  · rfl
  · refine iteE (fun _ => ?_) (fun _ => ?_)
    · rfl
    · rfl
def g_X9_isTaken_b27 (k2 : Nat → Int32 → Int32 → Int32 → (Nat → Nat → Int32) → (Nat → Nat → Int32) → Option Int32) (a0 : Nat) (i1 : Int32) (i2 : Int32) (i3 : Int32) (z f : Nat → Nat → Int32) : Option Int32 :=
  k2 a0 i1 i2 (i3 + 1) z f
set_option maxRecDepth 100000 in
set_option maxHeartbeats 4000000 in
theorem e_X9_isTaken_b27 {r : LWd} {z f : Nat → Nat → Int32} {k2 : Nat → Int32 → Int32 → Int32 → LWd → Option (Int32 × LWd)} {kg2 : Nat → Int32 → Int32 → Int32 → (Nat → Nat → Int32) → (Nat → Nat → Int32) → Option Int32} (hk2 : ∀ (a0 : Nat) (i1 : Int32) (i2 : Int32) (i3 : Int32) (ha0 : isSt a0), k2 a0 i1 i2 i3 (wA z f r) = (kg2 a0 i1 i2 i3 z f).map (fun x => (x, wA z f r))) (a0 : Nat) (i1 : Int32) (i2 : Int32) (i3 : Int32) (ha0 : isSt a0) : m_X9_isTaken_b27 k2 a0 i1 i2 i3 (wA z f r) = (g_X9_isTaken_b27 kg2 a0 i1 i2 i3 z f).map (fun x => (x, wA z f r)) := by
  unfold m_X9_isTaken_b27 g_X9_isTaken_b27
  exact hk2 _ _ _ _ ha0
def g_X9_isTaken_l2 : Nat → Nat → Int32 → Int32 → Int32 → (Nat → Nat → Int32) → (Nat → Nat → Int32) → Option Int32
  | 0, _, _, _, _, _, _ => none
  | fu + 1, a0, i1, i2, i3, z, f =>
    if 6 ≤ i3 then
      some (0)
    else
      if i3 = i2 then
        g_X9_isTaken_b27 (fun y0 y1 y2 y3 z f => g_X9_isTaken_l2 fu y0 y1 y2 y3 z f) a0 i1 i2 i3 z f
      else
        if (rdR 6 (f (a0 + 1 + 1)) i3) = i1 then
          some (1)
        else
          g_X9_isTaken_b27 (fun y0 y1 y2 y3 z f => g_X9_isTaken_l2 fu y0 y1 y2 y3 z f) a0 i1 i2 i3 z f
set_option maxRecDepth 100000 in
set_option maxHeartbeats 4000000 in
theorem e_X9_isTaken_l2 {r : LWd} {z f : Nat → Nat → Int32} : ∀ (fu : Nat) (a0 : Nat) (i1 : Int32) (i2 : Int32) (i3 : Int32) (ha0 : isSt a0), m_X9_isTaken_l2 fu a0 i1 i2 i3 (wA z f r) = (g_X9_isTaken_l2 fu a0 i1 i2 i3 z f).map (fun x => (x, wA z f r)) := by
  intro fu
  induction fu with
  | zero => intro a0 i1 i2 i3 ha0; first | rfl | (rw [m_X9_isTaken_l2, g_X9_isTaken_l2]; rfl)
  | succ fu ih =>
    intro a0 i1 i2 i3 ha0
    rw [m_X9_isTaken_l2, g_X9_isTaken_l2]
    refine iteE (fun _ => ?_) (fun _ => ?_)
    · rfl
    · refine iteE (fun _ => ?_) (fun _ => ?_)
      · exact e_X9_isTaken_b27 (hk2 := ih) _ _ _ _ ha0
      · refine opS (fRs_3 ha0) ?_
        refine caR (e_X8_at (rw_of (isRw_of ha0))) rfl ?_
        refine iteE (fun _ => ?_) (fun _ => ?_)
        · rfl
        · exact e_X9_isTaken_b27 (hk2 := ih) _ _ _ _ ha0
def g_X9_isTaken (a0 : Nat) (i1 : Int32) (i2 : Int32) (z f : Nat → Nat → Int32) : Option Int32 :=
  g_X9_isTaken_l2 FU a0 i1 i2 0 z f
set_option maxRecDepth 100000 in
set_option maxHeartbeats 4000000 in
theorem e_X9_isTaken {r : LWd} {z f : Nat → Nat → Int32} {a0 : Nat} {i1 : Int32} {i2 : Int32} (ha0 : isSt a0) : m_X9_isTaken a0 i1 i2 (wA z f r) = (g_X9_isTaken a0 i1 i2 z f).map (fun x => (x, wA z f r)) := by
  unfold m_X9_isTaken g_X9_isTaken
  refine opS (rcvs ha0) ?_
  exact e_X9_isTaken_l2 FU _ _ _ _ ha0
def g_X10_ground_b45 (z f : Nat → Nat → Int32) : Option ((Int32 ⊕ String) × (Nat → Nat → Int32) × (Nat → Nat → Int32)) :=
  some (.inr "java/lang/IllegalArgumentException", z, f)
set_option maxRecDepth 100000 in
set_option maxHeartbeats 4000000 in
theorem e_X10_ground_b45 {r : LWd} (z f : Nat → Nat → Int32) : m_X10_ground_b45  (wA z f r) = (g_X10_ground_b45  z f).map (fun q => (q.1, wA q.2.1 q.2.2 r)) := by
  unfold m_X10_ground_b45 g_X10_ground_b45
  rfl
def g_X10_ground (i1 : Int32) (i2 : Int32) (i3 : Int32) (i4 : Int32) (i5 : Int32) (z f : Nat → Nat → Int32) : Option ((Int32 ⊕ String) × (Nat → Nat → Int32) × (Nat → Nat → Int32)) :=
  (g_X10_pointAt i1 i2 z f).bind fun x1 =>
  if x1 = ((-1)) then
    g_X10_ground_b45  z f
  else
    (g_X10_isWithin i3 0 9 z f).bind fun x2 =>
    if x2 = 0 then
      g_X10_ground_b45  z f
    else
      (g_X10_isWithin i4 0 99 z f).bind fun x3 =>
      if x3 = 0 then
        g_X10_ground_b45  z f
      else
        (g_X10_isWithin i5 0 9 z f).bind fun x4 =>
        if x4 = 0 then
          g_X10_ground_b45  z f
        else
          (g_X9_isTaken 22 x1 ((-1)) z f).bind fun x5 =>
          if x5 = 0 then
            lt2 (wrR f 8 400 x1 i3) fun u6 =>
            lt2 (wrR u6 10 400 x1 i4) fun u7 =>
            lt2 (wrR u7 12 400 x1 i5) fun u8 =>
            some (.inl (rdR 400 (f 8) x1), z, u8)
          else
            some (.inr "java/lang/IllegalStateException", z, f)
set_option maxRecDepth 100000 in
set_option maxHeartbeats 4000000 in
theorem e_X10_ground {r : LWd} {z f : Nat → Nat → Int32} {i1 : Int32} {i2 : Int32} {i3 : Int32} {i4 : Int32} {i5 : Int32} : m_X10_ground 0 i1 i2 i3 i4 i5 (wA z f r) = (g_X10_ground i1 i2 i3 i4 i5 z f).map (fun q => (q.1, wA q.2.1 q.2.2 r)) := by
  unfold m_X10_ground g_X10_ground
  refine opS rcv_0 ?_
  refine caP (e_X10_pointAt) (fun x1 => ?_)
  refine iteE (fun _ => ?_) (fun _ => ?_)
  · exact e_X10_ground_b45   _ _
  · refine caP (e_X10_isWithin) (fun x2 => ?_)
    refine iteE (fun _ => ?_) (fun _ => ?_)
    · exact e_X10_ground_b45   _ _
    · refine caP (e_X10_isWithin) (fun x3 => ?_)
      refine iteE (fun _ => ?_) (fun _ => ?_)
      · exact e_X10_ground_b45   _ _
      · refine caP (e_X10_isWithin) (fun x4 => ?_)
        refine iteE (fun _ => ?_) (fun _ => ?_)
        · exact e_X10_ground_b45   _ _
        · refine opS fR_0_2 ?_
          refine caP (e_X9_isTaken (Or.inl rfl)) (fun x5 => ?_)
          refine iteE (fun _ => ?_) (fun _ => ?_)
          · refine opS fR_0_0 ?_
            refine opS fR_6_0 ?_
            refine caR (e_X8_at rw_7) rfl ?_
            refine opS fR_0_0 ?_
            refine opS fR_6_0 ?_
            refine caV (e_X8_put rw_7) wA_len ?_
            refine ltE ?_
            refine opS fR_0_0 ?_
            refine opS fR_6_1 ?_
            refine caV (e_X8_put rw_9) wA_len ?_
            refine ltE ?_
            refine opS fR_0_0 ?_
            refine opS fR_6_2 ?_
            refine caV (e_X8_put rw_11) wA_len ?_
            refine ltE ?_
            rfl
          · rfl
def g_X10_chart_b23 (z f : Nat → Nat → Int32) : Option ((Int32 ⊕ String) × (Nat → Nat → Int32) × (Nat → Nat → Int32)) :=
  some (.inr "java/lang/IllegalArgumentException", z, f)
set_option maxRecDepth 100000 in
set_option maxHeartbeats 4000000 in
theorem e_X10_chart_b23 {r : LWd} (z f : Nat → Nat → Int32) : m_X10_chart_b23  (wA z f r) = (g_X10_chart_b23  z f).map (fun q => (q.1, wA q.2.1 q.2.2 r)) := by
  unfold m_X10_chart_b23 g_X10_chart_b23
  rfl
def g_X10_chart (i1 : Int32) (i2 : Int32) (i3 : Int32) (z f : Nat → Nat → Int32) : Option ((Int32 ⊕ String) × (Nat → Nat → Int32) × (Nat → Nat → Int32)) :=
  (g_X10_pointAt i1 i2 z f).bind fun x1 =>
  if x1 = ((-1)) then
    g_X10_chart_b23  z f
  else
    (g_X10_isWithin i3 0 9 z f).bind fun x2 =>
    if x2 = 0 then
      g_X10_chart_b23  z f
    else
      lt2 (wrR f 14 400 x1 i3) fun u3 =>
      some (.inl (rdR 400 (f 14) x1), z, u3)
set_option maxRecDepth 100000 in
set_option maxHeartbeats 4000000 in
theorem e_X10_chart {r : LWd} {z f : Nat → Nat → Int32} {i1 : Int32} {i2 : Int32} {i3 : Int32} : m_X10_chart 0 i1 i2 i3 (wA z f r) = (g_X10_chart i1 i2 i3 z f).map (fun q => (q.1, wA q.2.1 q.2.2 r)) := by
  unfold m_X10_chart g_X10_chart
  refine opS rcv_0 ?_
  refine caP (e_X10_pointAt) (fun x1 => ?_)
  refine iteE (fun _ => ?_) (fun _ => ?_)
  · exact e_X10_chart_b23   _ _
  · refine caP (e_X10_isWithin) (fun x2 => ?_)
    refine iteE (fun _ => ?_) (fun _ => ?_)
    · exact e_X10_chart_b23   _ _
    · refine opS fR_0_0 ?_
      refine opS fR_6_3 ?_
      refine caR (e_X8_at rw_13) rfl ?_
      refine opS fR_0_0 ?_
      refine opS fR_6_3 ?_
      refine caV (e_X8_put rw_13) wA_len ?_
      refine ltE ?_
      rfl
def g_X10_isAside (i0 : Int32) (z f : Nat → Nat → Int32) : Option Int32 :=
  (g_X10_isWithin i0 ((-5)) 5 z f).bind fun x1 =>
  rtZ x1
set_option maxRecDepth 100000 in
set_option maxHeartbeats 4000000 in
theorem e_X10_isAside {r : LWd} {z f : Nat → Nat → Int32} {i0 : Int32} : m_X10_isAside i0 (wA z f r) = (g_X10_isAside i0 z f).map (fun x => (x, wA z f r)) := by
  unfold m_X10_isAside g_X10_isAside
  refine caP (e_X10_isWithin) (fun x1 => ?_)
  exact reZ
def g_X2_join (i1 : Int32) (i2 : Int32) (i3 : Int32) (z f : Nat → Nat → Int32) : Option (Int32 × (Nat → Nat → Int32) × (Nat → Nat → Int32)) :=
  lt2 (wrR f 17 6 (z 15 3) i1) fun u1 =>
  lt2 (wrR u1 19 6 (z 15 3) i2) fun u2 =>
  lt2 (wrR u2 21 6 (z 15 3) i3) fun u3 =>
  lt2 (up2 z 15 3 ((z 15 3) + 1)) fun z4 =>
  some (z 15 3, z4, u3)
set_option maxRecDepth 100000 in
set_option maxHeartbeats 4000000 in
theorem e_X2_join {r : LWd} {z f : Nat → Nat → Int32} {i1 : Int32} {i2 : Int32} {i3 : Int32} : m_X2_join 15 i1 i2 i3 (wA z f r) = (g_X2_join i1 i2 i3 z f).map (fun q => (q.1, wA q.2.1 q.2.2 r)) := by
  unfold m_X2_join g_X2_join
  refine opS rcv_15 ?_
  refine opS fI_15_3 ?_
  refine opS fR_15_0 ?_
  refine caV (e_X8_put rw_16) wA_len ?_
  refine ltE ?_
  refine opS fR_15_1 ?_
  refine caV (e_X8_put rw_18) wA_len ?_
  refine ltE ?_
  refine opS fR_15_2 ?_
  refine caV (e_X8_put rw_20) wA_len ?_
  refine ltE ?_
  refine opS fI_15_3 ?_
  refine opS pV_15_3 ?_
  refine ltE ?_
  rfl
def g_X10_leg_b24 (z f : Nat → Nat → Int32) : Option ((Int32 ⊕ String) × (Nat → Nat → Int32) × (Nat → Nat → Int32)) :=
  some (.inr "java/lang/IllegalArgumentException", z, f)
set_option maxRecDepth 100000 in
set_option maxHeartbeats 4000000 in
theorem e_X10_leg_b24 {r : LWd} (z f : Nat → Nat → Int32) : m_X10_leg_b24  (wA z f r) = (g_X10_leg_b24  z f).map (fun q => (q.1, wA q.2.1 q.2.2 r)) := by
  unfold m_X10_leg_b24 g_X10_leg_b24
  rfl
def g_X10_leg_b53 (z f : Nat → Nat → Int32) : Option ((Int32 ⊕ String) × (Nat → Nat → Int32) × (Nat → Nat → Int32)) :=
  some (.inr "java/lang/IllegalStateException", z, f)
set_option maxRecDepth 100000 in
set_option maxHeartbeats 4000000 in
theorem e_X10_leg_b53 {r : LWd} (z f : Nat → Nat → Int32) : m_X10_leg_b53  (wA z f r) = (g_X10_leg_b53  z f).map (fun q => (q.1, wA q.2.1 q.2.2 r)) := by
  unfold m_X10_leg_b53 g_X10_leg_b53
  rfl
def g_X10_leg (i1 : Int32) (i2 : Int32) (i3 : Int32) (z f : Nat → Nat → Int32) : Option ((Int32 ⊕ String) × (Nat → Nat → Int32) × (Nat → Nat → Int32)) :=
  (g_X10_isAside i1 z f).bind fun x1 =>
  if x1 = 0 then
    g_X10_leg_b24  z f
  else
    (g_X10_isAside i2 z f).bind fun x2 =>
    if x2 = 0 then
      g_X10_leg_b24  z f
    else
      (g_X10_isWithin i3 1 6 z f).bind fun x3 =>
      if x3 = 0 then
        g_X10_leg_b24  z f
      else
        if (z 0 9) = 0 then
          if (z 15 3) < 6 then
            bn3 (g_X2_join i1 i2 i3 z f) fun x4 z5 u6 =>
            some (.inl x4, z5, u6)
          else
            g_X10_leg_b53  z f
        else
          g_X10_leg_b53  z f
set_option maxRecDepth 100000 in
set_option maxHeartbeats 4000000 in
theorem e_X10_leg {r : LWd} {z f : Nat → Nat → Int32} {i1 : Int32} {i2 : Int32} {i3 : Int32} : m_X10_leg 0 i1 i2 i3 (wA z f r) = (g_X10_leg i1 i2 i3 z f).map (fun q => (q.1, wA q.2.1 q.2.2 r)) := by
  unfold m_X10_leg g_X10_leg
  refine opS rcv_0 ?_
  refine caP (e_X10_isAside) (fun x1 => ?_)
  refine iteE (fun _ => ?_) (fun _ => ?_)
  · exact e_X10_leg_b24   _ _
  · refine caP (e_X10_isAside) (fun x2 => ?_)
    refine iteE (fun _ => ?_) (fun _ => ?_)
    · exact e_X10_leg_b24   _ _
    · refine caP (e_X10_isWithin) (fun x3 => ?_)
      refine iteE (fun _ => ?_) (fun _ => ?_)
      · exact e_X10_leg_b24   _ _
      · refine opS fI_0_9 ?_
        refine iteE (fun _ => ?_) (fun _ => ?_)
        · refine opS fR_0_1 ?_
          refine opS fI_15_3 ?_
          refine iteE (fun _ => ?_) (fun _ => ?_)
          · refine opS fR_0_1 ?_
            refine caW (e_X2_join) (fun _ _ => wA_len) (fun x4 z5 u6 => ?_)
            rfl
          · exact e_X10_leg_b53   _ _
        · exact e_X10_leg_b53   _ _
def g_X10_charge (i1 : Int32) (z f : Nat → Nat → Int32) : Option ((Int32 ⊕ String) × (Nat → Nat → Int32) × (Nat → Nat → Int32)) :=
  (g_X10_isWithin i1 1 1000 z f).bind fun x1 =>
  if x1 = 0 then
    some (.inr "java/lang/IllegalArgumentException", z, f)
  else
    lt2 (up2 z 0 10 (jmin 1000 ((z 0 10) + i1))) fun z2 =>
    some (.inl (z2 0 10), z2, f)
set_option maxRecDepth 100000 in
set_option maxHeartbeats 4000000 in
theorem e_X10_charge {r : LWd} {z f : Nat → Nat → Int32} {i1 : Int32} : m_X10_charge 0 i1 (wA z f r) = (g_X10_charge i1 z f).map (fun q => (q.1, wA q.2.1 q.2.2 r)) := by
  unfold m_X10_charge g_X10_charge
  refine opS rcv_0 ?_
  refine caP (e_X10_isWithin) (fun x1 => ?_)
  refine iteE (fun _ => ?_) (fun _ => ?_)
  · rfl
  · refine opS fI_0_10 ?_
    refine opS pV_0_10 ?_
    refine ltE ?_
    refine opS fI_0_10 ?_
    rfl
def g_X10_isLeg (i1 : Int32) (z f : Nat → Nat → Int32) : Option Int32 :=
  if i1 < 0 then
    some (0)
  else
    if (z 15 3) ≤ i1 then
      some (0)
    else
      some (1)
set_option maxRecDepth 100000 in
set_option maxHeartbeats 4000000 in
theorem e_X10_isLeg {r : LWd} {z f : Nat → Nat → Int32} {i1 : Int32} : m_X10_isLeg 0 i1 (wA z f r) = (g_X10_isLeg i1 z f).map (fun x => (x, wA z f r)) := by
  unfold m_X10_isLeg g_X10_isLeg
  refine opS rcv_0 ?_
  refine iteE (fun _ => ?_) (fun _ => ?_)
  · rfl
  · refine opS fR_0_1 ?_
    refine opS fI_15_3 ?_
    refine iteE (fun _ => ?_) (fun _ => ?_)
    · rfl
    · rfl
def g_X3_add (i1 : Int32) (i2 : Int32) (i3 : Int32) (i4 : Int32) (i5 : Int32) (z f : Nat → Nat → Int32) : Option (Int32 × (Nat → Nat → Int32) × (Nat → Nat → Int32)) :=
  lt2 (wrR f 43 8 (z 41 5) i1) fun u1 =>
  lt2 (wrR u1 45 8 (z 41 5) i2) fun u2 =>
  lt2 (wrR u2 47 8 (z 41 5) i3) fun u3 =>
  lt2 (wrR u3 49 8 (z 41 5) i4) fun u4 =>
  lt2 (wrR u4 51 8 (z 41 5) i5) fun u5 =>
  lt2 (up2 z 41 5 ((z 41 5) + 1)) fun z6 =>
  some (z6 41 5, z6, u5)
set_option maxRecDepth 100000 in
set_option maxHeartbeats 4000000 in
theorem e_X3_add {r : LWd} {z f : Nat → Nat → Int32} {i1 : Int32} {i2 : Int32} {i3 : Int32} {i4 : Int32} {i5 : Int32} : m_X3_add 41 i1 i2 i3 i4 i5 (wA z f r) = (g_X3_add i1 i2 i3 i4 i5 z f).map (fun q => (q.1, wA q.2.1 q.2.2 r)) := by
  unfold m_X3_add g_X3_add
  refine opS rcv_41 ?_
  refine opS fR_41_0 ?_
  refine opS fI_41_5 ?_
  refine caV (e_X8_put rw_42) wA_len ?_
  refine ltE ?_
  refine opS fR_41_1 ?_
  refine opS fI_41_5 ?_
  refine caV (e_X8_put rw_44) wA_len ?_
  refine ltE ?_
  refine opS fR_41_2 ?_
  refine opS fI_41_5 ?_
  refine caV (e_X8_put rw_46) wA_len ?_
  refine ltE ?_
  refine opS fR_41_3 ?_
  refine opS fI_41_5 ?_
  refine caV (e_X8_put rw_48) wA_len ?_
  refine ltE ?_
  refine opS fR_41_4 ?_
  refine opS fI_41_5 ?_
  refine caV (e_X8_put rw_50) wA_len ?_
  refine ltE ?_
  refine opS fI_41_5 ?_
  refine opS pV_41_5 ?_
  refine ltE ?_
  refine opS fI_41_5 ?_
  rfl
def g_X10_phase_b60 (z f : Nat → Nat → Int32) : Option ((Int32 ⊕ String) × (Nat → Nat → Int32) × (Nat → Nat → Int32)) :=
  some (.inr "java/lang/IllegalArgumentException", z, f)
set_option maxRecDepth 100000 in
set_option maxHeartbeats 4000000 in
theorem e_X10_phase_b60 {r : LWd} (z f : Nat → Nat → Int32) : m_X10_phase_b60  (wA z f r) = (g_X10_phase_b60  z f).map (fun q => (q.1, wA q.2.1 q.2.2 r)) := by
  unfold m_X10_phase_b60 g_X10_phase_b60
  rfl
def g_X10_phase (i1 : Int32) (i2 : Int32) (i3 : Int32) (i4 : Int32) (i5 : Int32) (z f : Nat → Nat → Int32) : Option ((Int32 ⊕ String) × (Nat → Nat → Int32) × (Nat → Nat → Int32)) :=
  (g_X10_isLeg i1 z f).bind fun x1 =>
  if x1 = 0 then
    some (.inr "java/lang/IndexOutOfBoundsException", z, f)
  else
    (g_X10_isWithin i2 ((-6)) 6 z f).bind fun x2 =>
    if x2 = 0 then
      g_X10_phase_b60  z f
    else
      (g_X10_isWithin i3 ((-6)) 6 z f).bind fun x3 =>
      if x3 = 0 then
        g_X10_phase_b60  z f
      else
        (g_X10_isWithin i4 ((-1)) 1 z f).bind fun x4 =>
        if x4 = 0 then
          g_X10_phase_b60  z f
        else
          (g_X10_isWithin i5 ((-1)) 1 z f).bind fun x5 =>
          if x5 = 0 then
            g_X10_phase_b60  z f
          else
            if (z 41 5) < 8 then
              bn3 (g_X3_add i1 i2 i3 i4 i5 z f) fun x6 z7 u8 =>
              some (.inl x6, z7, u8)
            else
              some (.inr "java/lang/IllegalStateException", z, f)
set_option maxRecDepth 100000 in
set_option maxHeartbeats 4000000 in
theorem e_X10_phase {r : LWd} {z f : Nat → Nat → Int32} {i1 : Int32} {i2 : Int32} {i3 : Int32} {i4 : Int32} {i5 : Int32} : m_X10_phase 0 i1 i2 i3 i4 i5 (wA z f r) = (g_X10_phase i1 i2 i3 i4 i5 z f).map (fun q => (q.1, wA q.2.1 q.2.2 r)) := by
  unfold m_X10_phase g_X10_phase
  refine opS rcv_0 ?_
  refine caP (e_X10_isLeg) (fun x1 => ?_)
  refine iteE (fun _ => ?_) (fun _ => ?_)
  · rfl
  · refine caP (e_X10_isWithin) (fun x2 => ?_)
    refine iteE (fun _ => ?_) (fun _ => ?_)
    · exact e_X10_phase_b60   _ _
    · refine caP (e_X10_isWithin) (fun x3 => ?_)
      refine iteE (fun _ => ?_) (fun _ => ?_)
      · exact e_X10_phase_b60   _ _
      · refine caP (e_X10_isWithin) (fun x4 => ?_)
        refine iteE (fun _ => ?_) (fun _ => ?_)
        · exact e_X10_phase_b60   _ _
        · refine caP (e_X10_isWithin) (fun x5 => ?_)
          refine iteE (fun _ => ?_) (fun _ => ?_)
          · exact e_X10_phase_b60   _ _
          · refine opS fR_0_7 ?_
            refine opS fI_41_5 ?_
            refine iteE (fun _ => ?_) (fun _ => ?_)
            · refine opS fR_0_7 ?_
              refine caW (e_X3_add) (fun _ _ => wA_len) (fun x6 z7 u8 => ?_)
              rfl
            · rfl
def g_X3_clear (z f : Nat → Nat → Int32) : Option ((Nat → Nat → Int32) × (Nat → Nat → Int32)) :=
  lt2 (up2 z 41 5 0) fun z1 =>
  lt2 (up2 z1 41 6 0) fun z2 =>
  some (z2, f)
set_option maxRecDepth 100000 in
set_option maxHeartbeats 4000000 in
theorem e_X3_clear {r : LWd} {z f : Nat → Nat → Int32} : m_X3_clear 41 (wA z f r) = (g_X3_clear  z f).map (fun q => wA q.1 q.2 r) := by
  unfold m_X3_clear g_X3_clear
  refine opS rcv_41 ?_
  refine opS pV_41_5 ?_
  refine ltE ?_
  refine opS pV_41_6 ?_
  refine ltE ?_
  rfl
def g_X10_halt (z f : Nat → Nat → Int32) : Option (Int32 × (Nat → Nat → Int32) × (Nat → Nat → Int32)) :=
  bn2 (g_X3_clear  z f) fun z1 u2 =>
  some (z 41 5, z1, u2)
set_option maxRecDepth 100000 in
set_option maxHeartbeats 4000000 in
theorem e_X10_halt {r : LWd} {z f : Nat → Nat → Int32} : m_X10_halt 0 (wA z f r) = (g_X10_halt  z f).map (fun q => (q.1, wA q.2.1 q.2.2 r)) := by
  unfold m_X10_halt g_X10_halt
  refine opS rcv_0 ?_
  refine opS fR_0_7 ?_
  refine opS fI_41_5 ?_
  refine opS fR_0_7 ?_
  refine caU (e_X3_clear) (fun _ _ => wA_len) (fun z1 u2 => ?_)
  rfl
def g_X2_carry (i1 : Int32) (i2 : Int32) (i3 : Int32) (z f : Nat → Nat → Int32) : Option ((Nat → Nat → Int32) × (Nat → Nat → Int32)) :=
  lt2 (up2 z 15 4 i1) fun z1 =>
  lt2 (up2 z1 15 5 i2) fun z2 =>
  lt2 (up2 z2 15 6 i3) fun z3 =>
  some (z3, f)
set_option maxRecDepth 100000 in
set_option maxHeartbeats 4000000 in
theorem e_X2_carry {r : LWd} {z f : Nat → Nat → Int32} {i1 : Int32} {i2 : Int32} {i3 : Int32} : m_X2_carry 15 i1 i2 i3 (wA z f r) = (g_X2_carry i1 i2 i3 z f).map (fun q => wA q.1 q.2 r) := by
  unfold m_X2_carry g_X2_carry
  refine opS rcv_15 ?_
  refine opS pV_15_4 ?_
  refine ltE ?_
  refine opS pV_15_5 ?_
  refine ltE ?_
  refine opS pV_15_6 ?_
  refine ltE ?_
  rfl
def g_X4_isFurtherOut (i0 : Int32) (i1 : Int32) (i2 : Int32) (z f : Nat → Nat → Int32) : Option Int32 :=
  if ((((jrem i1 20) - (jrem i0 20)) * ((i2 / 20) - (i0 / 20))) - (((i1 / 20) - (i0 / 20)) * ((jrem i2 20) - (jrem i0 20)))) < 0 then
    some (1)
  else
    if ((((jrem i1 20) - (jrem i0 20)) * ((i2 / 20) - (i0 / 20))) - (((i1 / 20) - (i0 / 20)) * ((jrem i2 20) - (jrem i0 20)))) = 0 then
      if ((((jrem i2 20) - (jrem i0 20)) * ((jrem i2 20) - (jrem i0 20))) + (((i2 / 20) - (i0 / 20)) * ((i2 / 20) - (i0 / 20)))) ≤ ((((jrem i1 20) - (jrem i0 20)) * ((jrem i1 20) - (jrem i0 20))) + (((i1 / 20) - (i0 / 20)) * ((i1 / 20) - (i0 / 20)))) then
        some (0)
      else
        some (1)
    else
      some (0)
set_option maxRecDepth 100000 in
set_option maxHeartbeats 4000000 in
theorem e_X4_isFurtherOut {r : LWd} {z f : Nat → Nat → Int32} {i0 : Int32} {i1 : Int32} {i2 : Int32} : m_X4_isFurtherOut i0 i1 i2 (wA z f r) = (g_X4_isFurtherOut i0 i1 i2 z f).map (fun x => (x, wA z f r)) := by
  unfold m_X4_isFurtherOut g_X4_isFurtherOut
  refine iteE (fun _ => ?_) (fun _ => ?_)
  · rfl
  · refine iteE (fun _ => ?_) (fun _ => ?_)
    · refine iteE (fun _ => ?_) (fun _ => ?_)
      · rfl
      · rfl
    · rfl
def g_X4_wrap_b175 (i4 : Int32) (z f : Nat → Nat → Int32) : Option ((Nat → Nat → Int32) × (Nat → Nat → Int32)) :=
  lt2 (wrR f 3 7 (z 1 2) i4) fun u1 =>
  some (z, u1)
set_option maxRecDepth 100000 in
set_option maxHeartbeats 4000000 in
theorem e_X4_wrap_b175 {r : LWd} (i4 : Int32) (z f : Nat → Nat → Int32) : m_X4_wrap_b175 1 i4 (wA z f r) = (g_X4_wrap_b175 i4 z f).map (fun q => wA q.1 q.2 r) := by
  unfold m_X4_wrap_b175 g_X4_wrap_b175
  refine opS fR_1_0 ?_
  refine opS fI_1_2 ?_
  refine caV (e_X8_put rw_2) wA_len ?_
  refine ltE ?_
  rfl
def g_X4_wrap_b152 (k74 : Int32 → Int32 → Int32 → (Nat → Nat → Int32) → (Nat → Nat → Int32) → Option ((Nat → Nat → Int32) × (Nat → Nat → Int32))) (k116 : Int32 → Int32 → Int32 → Int32 → Int32 → (Nat → Nat → Int32) → (Nat → Nat → Int32) → Option ((Nat → Nat → Int32) × (Nat → Nat → Int32))) (i3 : Int32) (i4 : Int32) (i5 : Int32) (i6 : Int32) (i7 : Int32) (z f : Nat → Nat → Int32) : Option ((Nat → Nat → Int32) × (Nat → Nat → Int32)) :=
  k116 i3 i4 i5 i6 (i7 + 1) z f
set_option maxRecDepth 100000 in
set_option maxHeartbeats 4000000 in
theorem e_X4_wrap_b152 {r : LWd} {k74 : Nat → Int32 → Int32 → Int32 → LWd → Option LWd} {kg74 : Int32 → Int32 → Int32 → (Nat → Nat → Int32) → (Nat → Nat → Int32) → Option ((Nat → Nat → Int32) × (Nat → Nat → Int32))} (hk74 : ∀ (i3 : Int32) (i4 : Int32) (i5 : Int32) (z f : Nat → Nat → Int32), k74 1 i3 i4 i5 (wA z f r) = (kg74 i3 i4 i5 z f).map (fun q => wA q.1 q.2 r)) {k116 : Nat → Int32 → Int32 → Int32 → Int32 → Int32 → LWd → Option LWd} {kg116 : Int32 → Int32 → Int32 → Int32 → Int32 → (Nat → Nat → Int32) → (Nat → Nat → Int32) → Option ((Nat → Nat → Int32) × (Nat → Nat → Int32))} (hk116 : ∀ (i3 : Int32) (i4 : Int32) (i5 : Int32) (i6 : Int32) (i7 : Int32) (z f : Nat → Nat → Int32), k116 1 i3 i4 i5 i6 i7 (wA z f r) = (kg116 i3 i4 i5 i6 i7 z f).map (fun q => wA q.1 q.2 r)) (i3 : Int32) (i4 : Int32) (i5 : Int32) (i6 : Int32) (i7 : Int32) (z f : Nat → Nat → Int32) : m_X4_wrap_b152 k74 k116 1 i3 i4 i5 i6 i7 (wA z f r) = (g_X4_wrap_b152 kg74 kg116 i3 i4 i5 i6 i7 z f).map (fun q => wA q.1 q.2 r) := by
  unfold m_X4_wrap_b152 g_X4_wrap_b152
  exact hk116 _ _ _ _ _  _ _
def g_X4_wrap_l116 (k74 : Int32 → Int32 → Int32 → (Nat → Nat → Int32) → (Nat → Nat → Int32) → Option ((Nat → Nat → Int32) × (Nat → Nat → Int32))) : Nat → Int32 → Int32 → Int32 → Int32 → Int32 → (Nat → Nat → Int32) → (Nat → Nat → Int32) → Option ((Nat → Nat → Int32) × (Nat → Nat → Int32))
  | 0, _, _, _, _, _, _, _ => none
  | fu + 1, i3, i4, i5, i6, i7, z, f =>
    if i3 ≤ i7 then
      lt2 (up2 z 1 2 ((z 1 2) + 1)) fun z1 =>
      k74 i3 i4 i6 z1 f
    else
      (g_X4_isFurtherOut i5 i6 (rdR 6 (f 5) i7) z f).bind fun x2 =>
      if x2 = 0 then
        g_X4_wrap_b152 k74 (fun y0 y1 y2 y3 y4 z f => g_X4_wrap_l116 k74 fu y0 y1 y2 y3 y4 z f) i3 i4 i5 i6 i7 z f
      else
        g_X4_wrap_b152 k74 (fun y0 y1 y2 y3 y4 z f => g_X4_wrap_l116 k74 fu y0 y1 y2 y3 y4 z f) i3 i4 i5 (rdR 6 (f 5) i7) i7 z f
set_option maxRecDepth 100000 in
set_option maxHeartbeats 4000000 in
theorem e_X4_wrap_l116 {r : LWd} {k74 : Nat → Int32 → Int32 → Int32 → LWd → Option LWd} {kg74 : Int32 → Int32 → Int32 → (Nat → Nat → Int32) → (Nat → Nat → Int32) → Option ((Nat → Nat → Int32) × (Nat → Nat → Int32))} (hk74 : ∀ (i3 : Int32) (i4 : Int32) (i5 : Int32) (z f : Nat → Nat → Int32), k74 1 i3 i4 i5 (wA z f r) = (kg74 i3 i4 i5 z f).map (fun q => wA q.1 q.2 r)) : ∀ (fu : Nat) (i3 : Int32) (i4 : Int32) (i5 : Int32) (i6 : Int32) (i7 : Int32) (z f : Nat → Nat → Int32), m_X4_wrap_l116 k74 fu 1 i3 i4 i5 i6 i7 (wA z f r) = (g_X4_wrap_l116 kg74 fu i3 i4 i5 i6 i7 z f).map (fun q => wA q.1 q.2 r) := by
  intro fu
  induction fu with
  | zero => intro i3 i4 i5 i6 i7  z f; first | rfl | (rw [m_X4_wrap_l116, g_X4_wrap_l116]; rfl)
  | succ fu ih =>
    intro i3 i4 i5 i6 i7  z f
    rw [m_X4_wrap_l116, g_X4_wrap_l116]
    refine iteE (fun _ => ?_) (fun _ => ?_)
    · refine opS fI_1_2 ?_
      refine opS pV_1_2 ?_
      refine ltE ?_
      exact hk74 _ _ _  _ _
    · refine opS fR_1_1 ?_
      refine caR (e_X8_at rw_4) rfl ?_
      refine caP (e_X4_isFurtherOut) (fun x2 => ?_)
      refine iteE (fun _ => ?_) (fun _ => ?_)
      · exact e_X4_wrap_b152 (hk74 := hk74) (hk116 := ih) _ _ _ _ _  _ _
      · refine opS fR_1_1 ?_
        refine caR (e_X8_at rw_4) rfl ?_
        exact e_X4_wrap_b152 (hk74 := hk74) (hk116 := ih) _ _ _ _ _  _ _
def g_X4_wrap_b96 (k74 : Int32 → Int32 → Int32 → (Nat → Nat → Int32) → (Nat → Nat → Int32) → Option ((Nat → Nat → Int32) × (Nat → Nat → Int32))) (i3 : Int32) (i4 : Int32) (i5 : Int32) (z f : Nat → Nat → Int32) : Option ((Nat → Nat → Int32) × (Nat → Nat → Int32)) :=
  lt2 (wrR f 3 7 (z 1 2) i5) fun u1 =>
  g_X4_wrap_l116 k74 FU i3 i4 i5 i5 0 z u1
set_option maxRecDepth 100000 in
set_option maxHeartbeats 4000000 in
theorem e_X4_wrap_b96 {r : LWd} {k74 : Nat → Int32 → Int32 → Int32 → LWd → Option LWd} {kg74 : Int32 → Int32 → Int32 → (Nat → Nat → Int32) → (Nat → Nat → Int32) → Option ((Nat → Nat → Int32) × (Nat → Nat → Int32))} (hk74 : ∀ (i3 : Int32) (i4 : Int32) (i5 : Int32) (z f : Nat → Nat → Int32), k74 1 i3 i4 i5 (wA z f r) = (kg74 i3 i4 i5 z f).map (fun q => wA q.1 q.2 r)) (i3 : Int32) (i4 : Int32) (i5 : Int32) (z f : Nat → Nat → Int32) : m_X4_wrap_b96 k74 1 i3 i4 i5 (wA z f r) = (g_X4_wrap_b96 kg74 i3 i4 i5 z f).map (fun q => wA q.1 q.2 r) := by
  unfold m_X4_wrap_b96 g_X4_wrap_b96
  refine opS fR_1_0 ?_
  refine opS fI_1_2 ?_
  refine caV (e_X8_put rw_2) wA_len ?_
  refine ltE ?_
  exact e_X4_wrap_l116 (hk74 := hk74) FU _ _ _ _ _  _ _
def g_X4_wrap_l74 : Nat → Int32 → Int32 → Int32 → (Nat → Nat → Int32) → (Nat → Nat → Int32) → Option ((Nat → Nat → Int32) × (Nat → Nat → Int32))
  | 0, _, _, _, _, _ => none
  | fu + 1, i3, i4, i5, z, f =>
    if i3 ≤ (z 1 2) then
      g_X4_wrap_b175 i4 z f
    else
      if (z 1 2) = 0 then
        g_X4_wrap_b96 (fun y0 y1 y2 z f => g_X4_wrap_l74 fu y0 y1 y2 z f) i3 i4 i5 z f
      else
        if i5 = i4 then
          g_X4_wrap_b175 i4 z f
        else
          g_X4_wrap_b96 (fun y0 y1 y2 z f => g_X4_wrap_l74 fu y0 y1 y2 z f) i3 i4 i5 z f
set_option maxRecDepth 100000 in
set_option maxHeartbeats 4000000 in
theorem e_X4_wrap_l74 {r : LWd} : ∀ (fu : Nat) (i3 : Int32) (i4 : Int32) (i5 : Int32) (z f : Nat → Nat → Int32), m_X4_wrap_l74 fu 1 i3 i4 i5 (wA z f r) = (g_X4_wrap_l74 fu i3 i4 i5 z f).map (fun q => wA q.1 q.2 r) := by
  intro fu
  induction fu with
  | zero => intro i3 i4 i5  z f; first | rfl | (rw [m_X4_wrap_l74, g_X4_wrap_l74]; rfl)
  | succ fu ih =>
    intro i3 i4 i5  z f
    rw [m_X4_wrap_l74, g_X4_wrap_l74]
    refine opS fI_1_2 ?_
    refine iteE (fun _ => ?_) (fun _ => ?_)
    · exact e_X4_wrap_b175 _  _ _
    · refine opS fI_1_2 ?_
      refine iteE (fun _ => ?_) (fun _ => ?_)
      · exact e_X4_wrap_b96 (hk74 := ih) _ _ _  _ _
      · refine iteE (fun _ => ?_) (fun _ => ?_)
        · exact e_X4_wrap_b175 _  _ _
        · exact e_X4_wrap_b96 (hk74 := ih) _ _ _  _ _
def g_X4_wrap_b59 (k10 : Nat → Int32 → Int32 → Int32 → Int32 → (Nat → Nat → Int32) → (Nat → Nat → Int32) → Option ((Nat → Nat → Int32) × (Nat → Nat → Int32))) (a1 : Nat) (i2 : Int32) (i3 : Int32) (i4 : Int32) (i5 : Int32) (z f : Nat → Nat → Int32) : Option ((Nat → Nat → Int32) × (Nat → Nat → Int32)) :=
  k10 a1 i2 i3 i4 (i5 + 1) z f
set_option maxRecDepth 100000 in
set_option maxHeartbeats 4000000 in
theorem e_X4_wrap_b59 {r : LWd} {k10 : Nat → Nat → Int32 → Int32 → Int32 → Int32 → LWd → Option LWd} {kg10 : Nat → Int32 → Int32 → Int32 → Int32 → (Nat → Nat → Int32) → (Nat → Nat → Int32) → Option ((Nat → Nat → Int32) × (Nat → Nat → Int32))} (hk10 : ∀ (a1 : Nat) (i2 : Int32) (i3 : Int32) (i4 : Int32) (i5 : Int32) (ha1 : isRw a1) (z f : Nat → Nat → Int32), k10 1 a1 i2 i3 i4 i5 (wA z f r) = (kg10 a1 i2 i3 i4 i5 z f).map (fun q => wA q.1 q.2 r)) (a1 : Nat) (i2 : Int32) (i3 : Int32) (i4 : Int32) (i5 : Int32) (ha1 : isRw a1) (z f : Nat → Nat → Int32) : m_X4_wrap_b59 k10 1 a1 i2 i3 i4 i5 (wA z f r) = (g_X4_wrap_b59 kg10 a1 i2 i3 i4 i5 z f).map (fun q => wA q.1 q.2 r) := by
  unfold m_X4_wrap_b59 g_X4_wrap_b59
  exact hk10 _ _ _ _ _ ha1 _ _
def g_X4_wrap_l10 : Nat → Nat → Int32 → Int32 → Int32 → Int32 → (Nat → Nat → Int32) → (Nat → Nat → Int32) → Option ((Nat → Nat → Int32) × (Nat → Nat → Int32))
  | 0, _, _, _, _, _, _, _ => none
  | fu + 1, a1, i2, i3, i4, i5, z, f =>
    if 6 ≤ i5 then
      lt2 (up2 z 1 2 0) fun z1 =>
      g_X4_wrap_l74 FU i3 i4 i4 z1 f
    else
      if i5 = i2 then
        g_X4_wrap_b59 (fun y0 y1 y2 y3 y4 z f => g_X4_wrap_l10 fu y0 y1 y2 y3 y4 z f) a1 i2 i3 i4 i5 z f
      else
        if (rdR 6 (f (a1 + 1)) i5) = ((-1)) then
          g_X4_wrap_b59 (fun y0 y1 y2 y3 y4 z f => g_X4_wrap_l10 fu y0 y1 y2 y3 y4 z f) a1 i2 i3 i4 i5 z f
        else
          lt2 (wrR f 5 6 i3 (rdR 6 (f (a1 + 1)) i5)) fun u2 =>
          g_X4_wrap_b59 (fun y0 y1 y2 y3 y4 z f => g_X4_wrap_l10 fu y0 y1 y2 y3 y4 z f) a1 i2 (i3 + 1) (jmin i4 (rdR 6 (f (a1 + 1)) i5)) i5 z u2
set_option maxRecDepth 100000 in
set_option maxHeartbeats 4000000 in
theorem e_X4_wrap_l10 {r : LWd} : ∀ (fu : Nat) (a1 : Nat) (i2 : Int32) (i3 : Int32) (i4 : Int32) (i5 : Int32) (ha1 : isRw a1) (z f : Nat → Nat → Int32), m_X4_wrap_l10 fu 1 a1 i2 i3 i4 i5 (wA z f r) = (g_X4_wrap_l10 fu a1 i2 i3 i4 i5 z f).map (fun q => wA q.1 q.2 r) := by
  intro fu
  induction fu with
  | zero => intro a1 i2 i3 i4 i5 ha1 z f; first | rfl | (rw [m_X4_wrap_l10, g_X4_wrap_l10]; rfl)
  | succ fu ih =>
    intro a1 i2 i3 i4 i5 ha1 z f
    rw [m_X4_wrap_l10, g_X4_wrap_l10]
    refine iteE (fun _ => ?_) (fun _ => ?_)
    · refine opS pV_1_2 ?_
      refine ltE ?_
      exact e_X4_wrap_l74 FU _ _ _  _ _
    · refine caR (e_X8_at (rw_of ha1)) rfl ?_
      refine iteE (fun _ => ?_) (fun _ => ?_)
      · exact e_X4_wrap_b59 (hk10 := ih) _ _ _ _ _ ha1 _ _
      · refine iteE (fun _ => ?_) (fun _ => ?_)
        · exact e_X4_wrap_b59 (hk10 := ih) _ _ _ _ _ ha1 _ _
        · refine opS fR_1_1 ?_
          refine caV (e_X8_put rw_4) wA_len ?_
          refine ltE ?_
          exact e_X4_wrap_b59 (hk10 := ih) _ _ _ _ _ ha1 _ _
def g_X4_wrap (a1 : Nat) (i2 : Int32) (z f : Nat → Nat → Int32) : Option ((Nat → Nat → Int32) × (Nat → Nat → Int32)) :=
  g_X4_wrap_l10 FU a1 i2 0 400 0 z f
set_option maxRecDepth 100000 in
set_option maxHeartbeats 4000000 in
theorem e_X4_wrap {r : LWd} {z f : Nat → Nat → Int32} {a1 : Nat} {i2 : Int32} (ha1 : isRw a1) : m_X4_wrap 1 a1 i2 (wA z f r) = (g_X4_wrap a1 i2 z f).map (fun q => wA q.1 q.2 r) := by
  unfold m_X4_wrap g_X4_wrap
  refine opS rcv_1 ?_
  exact e_X4_wrap_l10 FU _ _ _ _ _ ha1 _ _
def g_X9_momentX (a0 : Nat) (z f : Nat → Nat → Int32) : Option Int32 :=
  some ((10 * (z a0 4)) + ((z 15 4) * ((z a0 4) + (z 15 5))))
set_option maxRecDepth 100000 in
set_option maxHeartbeats 4000000 in
theorem e_X9_momentX {r : LWd} {z f : Nat → Nat → Int32} {a0 : Nat} (ha0 : isSt a0) : m_X9_momentX a0 (wA z f r) = (g_X9_momentX a0 z f).map (fun x => (x, wA z f r)) := by
  unfold m_X9_momentX g_X9_momentX
  refine opS (rcvs ha0) ?_
  refine opS (fIs_4 ha0) ?_
  refine opS (fRs_1 ha0) ?_
  refine opS fI_15_4 ?_
  refine opS (fIs_4 ha0) ?_
  refine opS (fRs_1 ha0) ?_
  refine opS fI_15_5 ?_
  rfl
def g_X9_momentY (a0 : Nat) (z f : Nat → Nat → Int32) : Option Int32 :=
  some ((10 * (z a0 5)) + ((z 15 4) * ((z a0 5) + (z 15 6))))
set_option maxRecDepth 100000 in
set_option maxHeartbeats 4000000 in
theorem e_X9_momentY {r : LWd} {z f : Nat → Nat → Int32} {a0 : Nat} (ha0 : isSt a0) : m_X9_momentY a0 (wA z f r) = (g_X9_momentY a0 z f).map (fun x => (x, wA z f r)) := by
  unfold m_X9_momentY g_X9_momentY
  refine opS (rcvs ha0) ?_
  refine opS (fIs_5 ha0) ?_
  refine opS (fRs_1 ha0) ?_
  refine opS fI_15_4 ?_
  refine opS (fIs_5 ha0) ?_
  refine opS (fRs_1 ha0) ?_
  refine opS fI_15_6 ?_
  rfl
def g_X2_weight (z f : Nat → Nat → Int32) : Option Int32 :=
  some (10 + (z 15 4))
set_option maxRecDepth 100000 in
set_option maxHeartbeats 4000000 in
theorem e_X2_weight {r : LWd} {z f : Nat → Nat → Int32} : m_X2_weight 15 (wA z f r) = (g_X2_weight  z f).map (fun x => (x, wA z f r)) := by
  unfold m_X2_weight g_X2_weight
  refine opS rcv_15 ?_
  refine opS fI_15_4 ?_
  rfl
def g_X4_edgeByWay (i0 : Int32) (i1 : Int32) (i2 : Int32) (i3 : Int32) (i4 : Int32) (z f : Nat → Nat → Int32) : Option Int32 :=
  some ((((jrem i1 20) - (jrem i0 20)) * (i3 - (i4 * (i0 / 20)))) - (((i1 / 20) - (i0 / 20)) * (i2 - (i4 * (jrem i0 20)))))
set_option maxRecDepth 100000 in
set_option maxHeartbeats 4000000 in
theorem e_X4_edgeByWay {r : LWd} {z f : Nat → Nat → Int32} {i0 : Int32} {i1 : Int32} {i2 : Int32} {i3 : Int32} {i4 : Int32} : m_X4_edgeByWay i0 i1 i2 i3 i4 (wA z f r) = (g_X4_edgeByWay i0 i1 i2 i3 i4 z f).map (fun x => (x, wA z f r)) := by
  unfold m_X4_edgeByWay g_X4_edgeByWay
  rfl
def g_X4_holds_l19 : Nat → Int32 → Int32 → Int32 → Int32 → Int32 → Int32 → Int32 → Int32 → (Nat → Nat → Int32) → (Nat → Nat → Int32) → Option Int32
  | 0, _, _, _, _, _, _, _, _, _, _ => none
  | fu + 1, i1, i2, i3, i4, i5, i6, i7, i8, z, f =>
    if (z 1 2) ≤ i8 then
      (g_X10_isWithin i1 i4 i5 z f).bind fun x1 =>
      if x1 = 0 then
        some (0)
      else
        (g_X10_isWithin i2 i6 i7 z f).bind fun x2 =>
        if x2 = 0 then
          some (0)
        else
          some (1)
    else
      (g_X4_edgeByWay (rdR 7 (f 3) i8) (rdR 7 (f 3) (i8 + 1)) i1 i2 i3 z f).bind fun x3 =>
      if 0 ≤ x3 then
        g_X4_holds_l19 fu i1 i2 i3 (jmin i4 (i3 * (jrem (rdR 7 (f 3) i8) 20))) (jmax i5 (i3 * (jrem (rdR 7 (f 3) i8) 20))) (jmin i6 (i3 * ((rdR 7 (f 3) i8) / 20))) (jmax i7 (i3 * ((rdR 7 (f 3) i8) / 20))) (i8 + 1) z f
      else
        some (0)
set_option maxRecDepth 100000 in
set_option maxHeartbeats 4000000 in
theorem e_X4_holds_l19 {r : LWd} {z f : Nat → Nat → Int32} : ∀ (fu : Nat) (i1 : Int32) (i2 : Int32) (i3 : Int32) (i4 : Int32) (i5 : Int32) (i6 : Int32) (i7 : Int32) (i8 : Int32), m_X4_holds_l19 fu 1 i1 i2 i3 i4 i5 i6 i7 i8 (wA z f r) = (g_X4_holds_l19 fu i1 i2 i3 i4 i5 i6 i7 i8 z f).map (fun x => (x, wA z f r)) := by
  intro fu
  induction fu with
  | zero => intro i1 i2 i3 i4 i5 i6 i7 i8 ; first | rfl | (rw [m_X4_holds_l19, g_X4_holds_l19]; rfl)
  | succ fu ih =>
    intro i1 i2 i3 i4 i5 i6 i7 i8 
    rw [m_X4_holds_l19, g_X4_holds_l19]
    refine opS fI_1_2 ?_
    refine iteE (fun _ => ?_) (fun _ => ?_)
    · refine caP (e_X10_isWithin) (fun x1 => ?_)
      refine iteE (fun _ => ?_) (fun _ => ?_)
      · rfl
      · refine caP (e_X10_isWithin) (fun x2 => ?_)
        refine iteE (fun _ => ?_) (fun _ => ?_)
        · rfl
        · rfl
    · refine opS fR_1_0 ?_
      refine caR (e_X8_at rw_2) rfl ?_
      refine opS fR_1_0 ?_
      refine caR (e_X8_at rw_2) rfl ?_
      refine caP (e_X4_edgeByWay) (fun x3 => ?_)
      refine iteE (fun _ => ?_) (fun _ => ?_)
      · exact ih _ _ _ _ _ _ _ _ 
      · rfl
def g_X4_holds (i1 : Int32) (i2 : Int32) (i3 : Int32) (z f : Nat → Nat → Int32) : Option Int32 :=
  g_X4_holds_l19 FU i1 i2 i3 2147483647 ((-2147483648)) 2147483647 ((-2147483648)) 0 z f
set_option maxRecDepth 100000 in
set_option maxHeartbeats 4000000 in
theorem e_X4_holds {r : LWd} {z f : Nat → Nat → Int32} {i1 : Int32} {i2 : Int32} {i3 : Int32} : m_X4_holds 1 i1 i2 i3 (wA z f r) = (g_X4_holds i1 i2 i3 z f).map (fun x => (x, wA z f r)) := by
  unfold m_X4_holds g_X4_holds
  refine opS rcv_1 ?_
  exact e_X4_holds_l19 FU _ _ _ _ _ _ _ _ 
def g_X9_holdsWithout (a0 : Nat) (i1 : Int32) (z f : Nat → Nat → Int32) : Option (Int32 × (Nat → Nat → Int32) × (Nat → Nat → Int32)) :=
  bn2 (g_X4_wrap (a0 + 1) i1 z f) fun z1 u2 =>
  (g_X9_momentX a0 z1 u2).bind fun x3 =>
  (g_X9_momentY a0 z1 u2).bind fun x4 =>
  (g_X2_weight  z1 u2).bind fun x5 =>
  (g_X4_holds x3 x4 x5 z1 u2).bind fun x6 =>
  rtZw x6 z1 u2
set_option maxRecDepth 100000 in
set_option maxHeartbeats 4000000 in
theorem e_X9_holdsWithout {r : LWd} {z f : Nat → Nat → Int32} {a0 : Nat} {i1 : Int32} (ha0 : isSt a0) : m_X9_holdsWithout a0 i1 (wA z f r) = (g_X9_holdsWithout a0 i1 z f).map (fun q => (q.1, wA q.2.1 q.2.2 r)) := by
  unfold m_X9_holdsWithout g_X9_holdsWithout
  refine opS (rcvs ha0) ?_
  refine opS (fRs_2 ha0) ?_
  refine opS (fRs_3 ha0) ?_
  refine caU (e_X4_wrap (isRw_of ha0)) (fun _ _ => wA_len) (fun z1 u2 => ?_)
  refine opS (fRs_2 ha0) ?_
  refine caP (e_X9_momentX ha0) (fun x3 => ?_)
  refine caP (e_X9_momentY ha0) (fun x4 => ?_)
  refine opS (fRs_1 ha0) ?_
  refine caP (e_X2_weight) (fun x5 => ?_)
  refine caP (e_X4_holds) (fun x6 => ?_)
  exact reZw
def g_X0_beginAct (z f : Nat → Nat → Int32) : Option ((Nat → Nat → Int32) × (Nat → Nat → Int32)) :=
  lt2 (up2 z 33 3 0) fun z1 =>
  some (z1, f)
set_option maxRecDepth 100000 in
set_option maxHeartbeats 4000000 in
theorem e_X0_beginAct {r : LWd} {z f : Nat → Nat → Int32} : m_X0_beginAct 33 (wA z f r) = (g_X0_beginAct  z f).map (fun q => wA q.1 q.2 r) := by
  unfold m_X0_beginAct g_X0_beginAct
  refine opS rcv_33 ?_
  refine opS pV_33_3 ?_
  refine ltE ?_
  rfl
def g_X10_takeLoad_b70 (z f : Nat → Nat → Int32) : Option (Int32 × (Nat → Nat → Int32) × (Nat → Nat → Int32)) :=
  bn2 (g_X0_beginAct  z f) fun z1 u2 =>
  some (1, z1, u2)
set_option maxRecDepth 100000 in
set_option maxHeartbeats 4000000 in
theorem e_X10_takeLoad_b70 {r : LWd} (z f : Nat → Nat → Int32) : m_X10_takeLoad_b70 0 (wA z f r) = (g_X10_takeLoad_b70  z f).map (fun q => (q.1, wA q.2.1 q.2.2 r)) := by
  unfold m_X10_takeLoad_b70 g_X10_takeLoad_b70
  refine opS fR_0_5 ?_
  refine caU (e_X0_beginAct) (fun _ _ => wA_len) (fun z1 u2 => ?_)
  rfl
def g_X10_takeLoad (i1 : Int32) (i2 : Int32) (i3 : Int32) (z f : Nat → Nat → Int32) : Option (Int32 × (Nat → Nat → Int32) × (Nat → Nat → Int32)) :=
  bn2 (g_X2_carry i1 i2 i3 z f) fun z1 u2 =>
  if (z1 0 9) = 0 then
    g_X10_takeLoad_b70  z1 u2
  else
    bn3 (g_X9_holdsWithout 22 ((-1)) z1 u2) fun x3 z4 u5 =>
    if x3 = 0 then
      bn2 (g_X2_carry (z 15 4) (z 15 5) (z 15 6) z4 u5) fun z6 u7 =>
      some (0, z6, u7)
    else
      g_X10_takeLoad_b70  z4 u5
set_option maxRecDepth 100000 in
set_option maxHeartbeats 4000000 in
theorem e_X10_takeLoad {r : LWd} {z f : Nat → Nat → Int32} {i1 : Int32} {i2 : Int32} {i3 : Int32} : m_X10_takeLoad 0 i1 i2 i3 (wA z f r) = (g_X10_takeLoad i1 i2 i3 z f).map (fun q => (q.1, wA q.2.1 q.2.2 r)) := by
  unfold m_X10_takeLoad g_X10_takeLoad
  refine opS rcv_0 ?_
  refine opS fR_0_1 ?_
  refine opS fI_15_4 ?_
  refine opS fR_0_1 ?_
  refine opS fI_15_5 ?_
  refine opS fR_0_1 ?_
  refine opS fI_15_6 ?_
  refine opS fR_0_1 ?_
  refine caU (e_X2_carry) (fun _ _ => wA_len) (fun z1 u2 => ?_)
  refine opS fI_0_9 ?_
  refine iteE (fun _ => ?_) (fun _ => ?_)
  · exact e_X10_takeLoad_b70   _ _
  · refine opS fR_0_2 ?_
    refine caW (e_X9_holdsWithout (Or.inl rfl)) (fun _ _ => wA_len) (fun x3 z4 u5 => ?_)
    refine iteE (fun _ => ?_) (fun _ => ?_)
    · refine opS fR_0_1 ?_
      refine caU (e_X2_carry) (fun _ _ => wA_len) (fun z6 u7 => ?_)
      rfl
    · exact e_X10_takeLoad_b70   _ _
def g_X9_down_b25 (k4 : Nat → Int32 → Int32 → (Nat → Nat → Int32) → (Nat → Nat → Int32) → Option Int32) (a0 : Nat) (i1 : Int32) (i2 : Int32) (z f : Nat → Nat → Int32) : Option Int32 :=
  k4 a0 i1 (i2 + 1) z f
set_option maxRecDepth 100000 in
set_option maxHeartbeats 4000000 in
theorem e_X9_down_b25 {r : LWd} {z f : Nat → Nat → Int32} {k4 : Nat → Int32 → Int32 → LWd → Option (Int32 × LWd)} {kg4 : Nat → Int32 → Int32 → (Nat → Nat → Int32) → (Nat → Nat → Int32) → Option Int32} (hk4 : ∀ (a0 : Nat) (i1 : Int32) (i2 : Int32) (ha0 : isSt a0), k4 a0 i1 i2 (wA z f r) = (kg4 a0 i1 i2 z f).map (fun x => (x, wA z f r))) (a0 : Nat) (i1 : Int32) (i2 : Int32) (ha0 : isSt a0) : m_X9_down_b25 k4 a0 i1 i2 (wA z f r) = (g_X9_down_b25 kg4 a0 i1 i2 z f).map (fun x => (x, wA z f r)) := by
  unfold m_X9_down_b25 g_X9_down_b25
  exact hk4 _ _ _ ha0
def g_X9_down_l4 : Nat → Nat → Int32 → Int32 → (Nat → Nat → Int32) → (Nat → Nat → Int32) → Option Int32
  | 0, _, _, _, _, _ => none
  | fu + 1, a0, i1, i2, z, f =>
    if 6 ≤ i2 then
      some (i1)
    else
      if (rdR 6 (f (a0 + 1 + 1)) i2) = ((-1)) then
        g_X9_down_b25 (fun y0 y1 y2 z f => g_X9_down_l4 fu y0 y1 y2 z f) a0 i1 i2 z f
      else
        g_X9_down_b25 (fun y0 y1 y2 z f => g_X9_down_l4 fu y0 y1 y2 z f) a0 (i1 + 1) i2 z f
set_option maxRecDepth 100000 in
set_option maxHeartbeats 4000000 in
theorem e_X9_down_l4 {r : LWd} {z f : Nat → Nat → Int32} : ∀ (fu : Nat) (a0 : Nat) (i1 : Int32) (i2 : Int32) (ha0 : isSt a0), m_X9_down_l4 fu a0 i1 i2 (wA z f r) = (g_X9_down_l4 fu a0 i1 i2 z f).map (fun x => (x, wA z f r)) := by
  intro fu
  induction fu with
  | zero => intro a0 i1 i2 ha0; first | rfl | (rw [m_X9_down_l4, g_X9_down_l4]; rfl)
  | succ fu ih =>
    intro a0 i1 i2 ha0
    rw [m_X9_down_l4, g_X9_down_l4]
    refine iteE (fun _ => ?_) (fun _ => ?_)
    · rfl
    · refine opS (fRs_3 ha0) ?_
      refine caR (e_X8_at (rw_of (isRw_of ha0))) rfl ?_
      refine iteE (fun _ => ?_) (fun _ => ?_)
      · exact e_X9_down_b25 (hk4 := ih) _ _ _ ha0
      · exact e_X9_down_b25 (hk4 := ih) _ _ _ ha0
def g_X9_down (a0 : Nat) (z f : Nat → Nat → Int32) : Option Int32 :=
  g_X9_down_l4 FU a0 0 0 z f
set_option maxRecDepth 100000 in
set_option maxHeartbeats 4000000 in
theorem e_X9_down {r : LWd} {z f : Nat → Nat → Int32} {a0 : Nat} (ha0 : isSt a0) : m_X9_down a0 (wA z f r) = (g_X9_down a0 z f).map (fun x => (x, wA z f r)) := by
  unfold m_X9_down g_X9_down
  refine opS (rcvs ha0) ?_
  exact e_X9_down_l4 FU _ _ _ ha0
def g_X10_roundedUp (i0 : Int32) (i1 : Int32) (z f : Nat → Nat → Int32) : Option Int32 :=
  if 0 < i1 then
    if i1 = 0 then none else
    some (((i0 + i1) - 1) / i1)
  else
    some (0)
set_option maxRecDepth 100000 in
set_option maxHeartbeats 4000000 in
theorem e_X10_roundedUp {r : LWd} {z f : Nat → Nat → Int32} {i0 : Int32} {i1 : Int32} : m_X10_roundedUp i0 i1 (wA z f r) = (g_X10_roundedUp i0 i1 z f).map (fun x => (x, wA z f r)) := by
  unfold m_X10_roundedUp g_X10_roundedUp
  refine iteE (fun _ => ?_) (fun _ => ?_)
  · refine iteN (fun _ => ?_)
    rfl
  · rfl
def g_X9_pressure (a0 : Nat) (z f : Nat → Nat → Int32) : Option Int32 :=
  (g_X2_weight  z f).bind fun x1 =>
  (g_X9_down a0 z f).bind fun x2 =>
  (g_X10_roundedUp x1 x2 z f).bind fun x3 =>
  some (x3)
set_option maxRecDepth 100000 in
set_option maxHeartbeats 4000000 in
theorem e_X9_pressure {r : LWd} {z f : Nat → Nat → Int32} {a0 : Nat} (ha0 : isSt a0) : m_X9_pressure a0 (wA z f r) = (g_X9_pressure a0 z f).map (fun x => (x, wA z f r)) := by
  unfold m_X9_pressure g_X9_pressure
  refine opS (rcvs ha0) ?_
  refine opS (fRs_1 ha0) ?_
  refine caP (e_X2_weight) (fun x1 => ?_)
  refine caP (e_X9_down ha0) (fun x2 => ?_)
  refine caP (e_X10_roundedUp) (fun x3 => ?_)
  rfl
def g_X9_sinking_b53 (k9 : Nat → Int32 → Int32 → Int32 → (Nat → Nat → Int32) → (Nat → Nat → Int32) → Option Int32) (a0 : Nat) (i1 : Int32) (i2 : Int32) (i3 : Int32) (z f : Nat → Nat → Int32) : Option Int32 :=
  k9 a0 i1 i2 (i3 + 1) z f
set_option maxRecDepth 100000 in
set_option maxHeartbeats 4000000 in
theorem e_X9_sinking_b53 {r : LWd} {z f : Nat → Nat → Int32} {k9 : Nat → Int32 → Int32 → Int32 → LWd → Option (Int32 × LWd)} {kg9 : Nat → Int32 → Int32 → Int32 → (Nat → Nat → Int32) → (Nat → Nat → Int32) → Option Int32} (hk9 : ∀ (a0 : Nat) (i1 : Int32) (i2 : Int32) (i3 : Int32) (ha0 : isSt a0), k9 a0 i1 i2 i3 (wA z f r) = (kg9 a0 i1 i2 i3 z f).map (fun x => (x, wA z f r))) (a0 : Nat) (i1 : Int32) (i2 : Int32) (i3 : Int32) (ha0 : isSt a0) : m_X9_sinking_b53 k9 a0 i1 i2 i3 (wA z f r) = (g_X9_sinking_b53 kg9 a0 i1 i2 i3 z f).map (fun x => (x, wA z f r)) := by
  unfold m_X9_sinking_b53 g_X9_sinking_b53
  exact hk9 _ _ _ _ ha0
def g_X9_sinking_l9 : Nat → Nat → Int32 → Int32 → Int32 → (Nat → Nat → Int32) → (Nat → Nat → Int32) → Option Int32
  | 0, _, _, _, _, _, _ => none
  | fu + 1, a0, i1, i2, i3, z, f =>
    if 6 ≤ i3 then
      some (i2)
    else
      if (rdR 6 (f (a0 + 1 + 1)) i3) = ((-1)) then
        g_X9_sinking_b53 (fun y0 y1 y2 y3 z f => g_X9_sinking_l9 fu y0 y1 y2 y3 z f) a0 i1 i2 i3 z f
      else
        if i1 ≤ (rdR 400 (f 10) (rdR 6 (f (a0 + 1 + 1)) i3)) then
          g_X9_sinking_b53 (fun y0 y1 y2 y3 z f => g_X9_sinking_l9 fu y0 y1 y2 y3 z f) a0 i1 i2 i3 z f
        else
          g_X9_sinking_b53 (fun y0 y1 y2 y3 z f => g_X9_sinking_l9 fu y0 y1 y2 y3 z f) a0 i1 (i2 ||| (1 <<< (i3 &&& 31))) i3 z f
set_option maxRecDepth 100000 in
set_option maxHeartbeats 4000000 in
theorem e_X9_sinking_l9 {r : LWd} {z f : Nat → Nat → Int32} : ∀ (fu : Nat) (a0 : Nat) (i1 : Int32) (i2 : Int32) (i3 : Int32) (ha0 : isSt a0), m_X9_sinking_l9 fu a0 i1 i2 i3 (wA z f r) = (g_X9_sinking_l9 fu a0 i1 i2 i3 z f).map (fun x => (x, wA z f r)) := by
  intro fu
  induction fu with
  | zero => intro a0 i1 i2 i3 ha0; first | rfl | (rw [m_X9_sinking_l9, g_X9_sinking_l9]; rfl)
  | succ fu ih =>
    intro a0 i1 i2 i3 ha0
    rw [m_X9_sinking_l9, g_X9_sinking_l9]
    refine iteE (fun _ => ?_) (fun _ => ?_)
    · rfl
    · refine opS (fRs_3 ha0) ?_
      refine caR (e_X8_at (rw_of (isRw_of ha0))) rfl ?_
      refine iteE (fun _ => ?_) (fun _ => ?_)
      · exact e_X9_sinking_b53 (hk9 := ih) _ _ _ _ ha0
      · refine opS (fRs_0 ha0) ?_
        refine opS fR_6_1 ?_
        refine caR (e_X8_at rw_9) rfl ?_
        refine iteE (fun _ => ?_) (fun _ => ?_)
        · exact e_X9_sinking_b53 (hk9 := ih) _ _ _ _ ha0
        · exact e_X9_sinking_b53 (hk9 := ih) _ _ _ _ ha0
def g_X9_sinking (a0 : Nat) (z f : Nat → Nat → Int32) : Option Int32 :=
  (g_X9_pressure a0 z f).bind fun x1 =>
  g_X9_sinking_l9 FU a0 x1 0 0 z f
set_option maxRecDepth 100000 in
set_option maxHeartbeats 4000000 in
theorem e_X9_sinking {r : LWd} {z f : Nat → Nat → Int32} {a0 : Nat} (ha0 : isSt a0) : m_X9_sinking a0 (wA z f r) = (g_X9_sinking a0 z f).map (fun x => (x, wA z f r)) := by
  unfold m_X9_sinking g_X9_sinking
  refine opS (rcvs ha0) ?_
  refine caP (e_X9_pressure ha0) (fun x1 => ?_)
  exact e_X9_sinking_l9 FU _ _ _ _ ha0
def g_X5_learn (i1 : Int32) (z f : Nat → Nat → Int32) : Option ((Nat → Nat → Int32) × (Nat → Nat → Int32)) :=
  lt2 (wrR f 14 400 i1 (rdR 400 (f 8) i1)) fun u1 =>
  some (z, u1)
set_option maxRecDepth 100000 in
set_option maxHeartbeats 4000000 in
theorem e_X5_learn {r : LWd} {z f : Nat → Nat → Int32} {i1 : Int32} : m_X5_learn 6 i1 (wA z f r) = (g_X5_learn i1 z f).map (fun q => wA q.1 q.2 r) := by
  unfold m_X5_learn g_X5_learn
  refine opS rcv_6 ?_
  refine opS fR_6_3 ?_
  refine opS fR_6_0 ?_
  refine caR (e_X8_at rw_7) rfl ?_
  refine caV (e_X8_put rw_13) wA_len ?_
  refine ltE ?_
  rfl
def g_X5_sag (i1 : Int32) (z f : Nat → Nat → Int32) : Option ((Nat → Nat → Int32) × (Nat → Nat → Int32)) :=
  lt2 (wrR f 8 400 i1 (jmax 0 ((rdR 400 (f 8) i1) - 1))) fun u1 =>
  bn2 (g_X5_learn i1 z u1) fun z2 u3 =>
  some (z2, u3)
set_option maxRecDepth 100000 in
set_option maxHeartbeats 4000000 in
theorem e_X5_sag {r : LWd} {z f : Nat → Nat → Int32} {i1 : Int32} : m_X5_sag 6 i1 (wA z f r) = (g_X5_sag i1 z f).map (fun q => wA q.1 q.2 r) := by
  unfold m_X5_sag g_X5_sag
  refine opS rcv_6 ?_
  refine opS fR_6_0 ?_
  refine opS fR_6_0 ?_
  refine caR (e_X8_at rw_7) rfl ?_
  refine caV (e_X8_put rw_7) wA_len ?_
  refine ltE ?_
  refine caU (e_X5_learn) (fun _ _ => wA_len) (fun z2 u3 => ?_)
  rfl
def g_X0_tell_b29 (z f : Nat → Nat → Int32) : Option ((Nat → Nat → Int32) × (Nat → Nat → Int32)) :=
  lt2 (up2 z 33 0 ((z 33 0) + 1)) fun z1 =>
  some (z1, f)
set_option maxRecDepth 100000 in
set_option maxHeartbeats 4000000 in
theorem e_X0_tell_b29 {r : LWd} (z f : Nat → Nat → Int32) : m_X0_tell_b29 33 (wA z f r) = (g_X0_tell_b29  z f).map (fun q => wA q.1 q.2 r) := by
  unfold m_X0_tell_b29 g_X0_tell_b29
  refine opS fI_33_0 ?_
  refine opS pV_33_0 ?_
  refine ltE ?_
  rfl
def g_X0_tell_b17 (i1 : Int32) (z f : Nat → Nat → Int32) : Option ((Nat → Nat → Int32) × (Nat → Nat → Int32)) :=
  if (z 33 3) = 0 then
    lt2 (up2 z 33 3 i1) fun z1 =>
    g_X0_tell_b29  z1 f
  else
    g_X0_tell_b29  z f
set_option maxRecDepth 100000 in
set_option maxHeartbeats 4000000 in
theorem e_X0_tell_b17 {r : LWd} (i1 : Int32) (z f : Nat → Nat → Int32) : m_X0_tell_b17 33 i1 (wA z f r) = (g_X0_tell_b17 i1 z f).map (fun q => wA q.1 q.2 r) := by
  unfold m_X0_tell_b17 g_X0_tell_b17
  refine opS fI_33_3 ?_
  refine iteE (fun _ => ?_) (fun _ => ?_)
  · refine opS pV_33_3 ?_
    refine ltE ?_
    exact e_X0_tell_b29   _ _
  · exact e_X0_tell_b29   _ _
def g_X0_tell (i1 : Int32) (i2 : Int32) (z f : Nat → Nat → Int32) : Option ((Nat → Nat → Int32) × (Nat → Nat → Int32)) :=
  if (z 33 0) = 0 then
    lt2 (up2 z 33 1 i1) fun z1 =>
    lt2 (up2 z1 33 2 i2) fun z2 =>
    g_X0_tell_b17 i1 z2 f
  else
    g_X0_tell_b17 i1 z f
set_option maxRecDepth 100000 in
set_option maxHeartbeats 4000000 in
theorem e_X0_tell {r : LWd} {z f : Nat → Nat → Int32} {i1 : Int32} {i2 : Int32} : m_X0_tell 33 i1 i2 (wA z f r) = (g_X0_tell i1 i2 z f).map (fun q => wA q.1 q.2 r) := by
  unfold m_X0_tell g_X0_tell
  refine opS rcv_33 ?_
  refine opS fI_33_0 ?_
  refine iteE (fun _ => ?_) (fun _ => ?_)
  · refine opS pV_33_1 ?_
    refine ltE ?_
    refine opS pV_33_2 ?_
    refine ltE ?_
    exact e_X0_tell_b17 _  _ _
  · exact e_X0_tell_b17 _  _ _
def g_X10_breakGround_b45 (k2 : Int32 → Int32 → (Nat → Nat → Int32) → (Nat → Nat → Int32) → Option ((Nat → Nat → Int32) × (Nat → Nat → Int32))) (i1 : Int32) (i2 : Int32) (z f : Nat → Nat → Int32) : Option ((Nat → Nat → Int32) × (Nat → Nat → Int32)) :=
  k2 i1 (i2 + 1) z f
set_option maxRecDepth 100000 in
set_option maxHeartbeats 4000000 in
theorem e_X10_breakGround_b45 {r : LWd} {k2 : Nat → Int32 → Int32 → LWd → Option LWd} {kg2 : Int32 → Int32 → (Nat → Nat → Int32) → (Nat → Nat → Int32) → Option ((Nat → Nat → Int32) × (Nat → Nat → Int32))} (hk2 : ∀ (i1 : Int32) (i2 : Int32) (z f : Nat → Nat → Int32), k2 0 i1 i2 (wA z f r) = (kg2 i1 i2 z f).map (fun q => wA q.1 q.2 r)) (i1 : Int32) (i2 : Int32) (z f : Nat → Nat → Int32) : m_X10_breakGround_b45 k2 0 i1 i2 (wA z f r) = (g_X10_breakGround_b45 kg2 i1 i2 z f).map (fun q => wA q.1 q.2 r) := by
  unfold m_X10_breakGround_b45 g_X10_breakGround_b45
  exact hk2 _ _  _ _
def g_X10_breakGround_l2 : Nat → Int32 → Int32 → (Nat → Nat → Int32) → (Nat → Nat → Int32) → Option ((Nat → Nat → Int32) × (Nat → Nat → Int32))
  | 0, _, _, _, _ => none
  | fu + 1, i1, i2, z, f =>
    if 6 ≤ i2 then
      some (z, f)
    else
      if ((i1 >>> (i2 &&& 31)) &&& 1) = 0 then
        g_X10_breakGround_b45 (fun y0 y1 z f => g_X10_breakGround_l2 fu y0 y1 z f) i1 i2 z f
      else
        bn2 (g_X5_sag (rdR 6 (f 24) i2) z f) fun z1 u2 =>
        bn2 (g_X0_tell 2 (rdR 6 (f 24) i2) z1 u2) fun z3 u4 =>
        g_X10_breakGround_b45 (fun y0 y1 z f => g_X10_breakGround_l2 fu y0 y1 z f) i1 i2 z3 u4
set_option maxRecDepth 100000 in
set_option maxHeartbeats 4000000 in
theorem e_X10_breakGround_l2 {r : LWd} : ∀ (fu : Nat) (i1 : Int32) (i2 : Int32) (z f : Nat → Nat → Int32), m_X10_breakGround_l2 fu 0 i1 i2 (wA z f r) = (g_X10_breakGround_l2 fu i1 i2 z f).map (fun q => wA q.1 q.2 r) := by
  intro fu
  induction fu with
  | zero => intro i1 i2  z f; first | rfl | (rw [m_X10_breakGround_l2, g_X10_breakGround_l2]; rfl)
  | succ fu ih =>
    intro i1 i2  z f
    rw [m_X10_breakGround_l2, g_X10_breakGround_l2]
    refine iteE (fun _ => ?_) (fun _ => ?_)
    · rfl
    · refine iteE (fun _ => ?_) (fun _ => ?_)
      · exact e_X10_breakGround_b45 (hk2 := ih) _ _  _ _
      · refine opS fR_0_2 ?_
        refine opS (fRs_3 (Or.inl rfl)) ?_
        refine caR (e_X8_at rw_23) rfl ?_
        refine opS fR_0_0 ?_
        refine caU (e_X5_sag) (fun _ _ => wA_len) (fun z1 u2 => ?_)
        refine opS fR_0_5 ?_
        refine caU (e_X0_tell) (fun _ _ => wA_len) (fun z3 u4 => ?_)
        exact e_X10_breakGround_b45 (hk2 := ih) _ _  _ _
def g_X10_breakGround (i1 : Int32) (z f : Nat → Nat → Int32) : Option ((Nat → Nat → Int32) × (Nat → Nat → Int32)) :=
  g_X10_breakGround_l2 FU i1 0 z f
set_option maxRecDepth 100000 in
set_option maxHeartbeats 4000000 in
theorem e_X10_breakGround {r : LWd} {z f : Nat → Nat → Int32} {i1 : Int32} : m_X10_breakGround 0 i1 (wA z f r) = (g_X10_breakGround i1 z f).map (fun q => wA q.1 q.2 r) := by
  unfold m_X10_breakGround g_X10_breakGround
  refine opS rcv_0 ?_
  exact e_X10_breakGround_l2 FU _ _  _ _
def g_X9_raise_b25 (k2 : Nat → Int32 → Int32 → (Nat → Nat → Int32) → (Nat → Nat → Int32) → Option ((Nat → Nat → Int32) × (Nat → Nat → Int32))) (a0 : Nat) (i1 : Int32) (i2 : Int32) (z f : Nat → Nat → Int32) : Option ((Nat → Nat → Int32) × (Nat → Nat → Int32)) :=
  k2 a0 i1 (i2 + 1) z f
set_option maxRecDepth 100000 in
set_option maxHeartbeats 4000000 in
theorem e_X9_raise_b25 {r : LWd} {k2 : Nat → Int32 → Int32 → LWd → Option LWd} {kg2 : Nat → Int32 → Int32 → (Nat → Nat → Int32) → (Nat → Nat → Int32) → Option ((Nat → Nat → Int32) × (Nat → Nat → Int32))} (hk2 : ∀ (a0 : Nat) (i1 : Int32) (i2 : Int32) (ha0 : isSt a0) (z f : Nat → Nat → Int32), k2 a0 i1 i2 (wA z f r) = (kg2 a0 i1 i2 z f).map (fun q => wA q.1 q.2 r)) (a0 : Nat) (i1 : Int32) (i2 : Int32) (ha0 : isSt a0) (z f : Nat → Nat → Int32) : m_X9_raise_b25 k2 a0 i1 i2 (wA z f r) = (g_X9_raise_b25 kg2 a0 i1 i2 z f).map (fun q => wA q.1 q.2 r) := by
  unfold m_X9_raise_b25 g_X9_raise_b25
  exact hk2 _ _ _ ha0 _ _
def g_X9_raise_l2 : Nat → Nat → Int32 → Int32 → (Nat → Nat → Int32) → (Nat → Nat → Int32) → Option ((Nat → Nat → Int32) × (Nat → Nat → Int32))
  | 0, _, _, _, _, _ => none
  | fu + 1, a0, i1, i2, z, f =>
    if 6 ≤ i2 then
      some (z, f)
    else
      if ((i1 >>> (i2 &&& 31)) &&& 1) = 0 then
        g_X9_raise_b25 (fun y0 y1 y2 z f => g_X9_raise_l2 fu y0 y1 y2 z f) a0 i1 i2 z f
      else
        lt2 (wrR f (a0 + 1 + 1) 6 i2 ((-1))) fun u1 =>
        g_X9_raise_b25 (fun y0 y1 y2 z f => g_X9_raise_l2 fu y0 y1 y2 z f) a0 i1 i2 z u1
set_option maxRecDepth 100000 in
set_option maxHeartbeats 4000000 in
theorem e_X9_raise_l2 {r : LWd} : ∀ (fu : Nat) (a0 : Nat) (i1 : Int32) (i2 : Int32) (ha0 : isSt a0) (z f : Nat → Nat → Int32), m_X9_raise_l2 fu a0 i1 i2 (wA z f r) = (g_X9_raise_l2 fu a0 i1 i2 z f).map (fun q => wA q.1 q.2 r) := by
  intro fu
  induction fu with
  | zero => intro a0 i1 i2 ha0 z f; first | rfl | (rw [m_X9_raise_l2, g_X9_raise_l2]; rfl)
  | succ fu ih =>
    intro a0 i1 i2 ha0 z f
    rw [m_X9_raise_l2, g_X9_raise_l2]
    refine iteE (fun _ => ?_) (fun _ => ?_)
    · rfl
    · refine iteE (fun _ => ?_) (fun _ => ?_)
      · exact e_X9_raise_b25 (hk2 := ih) _ _ _ ha0 _ _
      · refine opS (fRs_3 ha0) ?_
        refine caV (e_X8_put (rw_of (isRw_of ha0))) wA_len ?_
        refine ltE ?_
        exact e_X9_raise_b25 (hk2 := ih) _ _ _ ha0 _ _
def g_X9_raise (a0 : Nat) (i1 : Int32) (z f : Nat → Nat → Int32) : Option ((Nat → Nat → Int32) × (Nat → Nat → Int32)) :=
  g_X9_raise_l2 FU a0 i1 0 z f
set_option maxRecDepth 100000 in
set_option maxHeartbeats 4000000 in
theorem e_X9_raise {r : LWd} {z f : Nat → Nat → Int32} {a0 : Nat} {i1 : Int32} (ha0 : isSt a0) : m_X9_raise a0 i1 (wA z f r) = (g_X9_raise a0 i1 z f).map (fun q => wA q.1 q.2 r) := by
  unfold m_X9_raise g_X9_raise
  refine opS (rcvs ha0) ?_
  exact e_X9_raise_l2 FU _ _ _ ha0 _ _
def g_X10_xOf (i0 : Int32) (z f : Nat → Nat → Int32) : Option Int32 :=
  some (jrem i0 20)
set_option maxRecDepth 100000 in
set_option maxHeartbeats 4000000 in
theorem e_X10_xOf {r : LWd} {z f : Nat → Nat → Int32} {i0 : Int32} : m_X10_xOf i0 (wA z f r) = (g_X10_xOf i0 z f).map (fun x => (x, wA z f r)) := by
  unfold m_X10_xOf g_X10_xOf
  rfl
def g_X10_yOf (i0 : Int32) (z f : Nat → Nat → Int32) : Option Int32 :=
  some (i0 / 20)
set_option maxRecDepth 100000 in
set_option maxHeartbeats 4000000 in
theorem e_X10_yOf {r : LWd} {z f : Nat → Nat → Int32} {i0 : Int32} : m_X10_yOf i0 (wA z f r) = (g_X10_yOf i0 z f).map (fun x => (x, wA z f r)) := by
  unfold m_X10_yOf g_X10_yOf
  rfl
def g_J6_signum_0f7a4 (i0 : Int32) (z f : Nat → Nat → Int32) : Option Int32 :=
  some ((i0 >>> (31 &&& 31)) ||| (jushr (-i0) 31))
set_option maxRecDepth 100000 in
set_option maxHeartbeats 4000000 in
theorem e_J6_signum_0f7a4 {r : LWd} {z f : Nat → Nat → Int32} {i0 : Int32} : m_J6_signum_0f7a4 i0 (wA z f r) = (g_J6_signum_0f7a4 i0 z f).map (fun x => (x, wA z f r)) := by
  unfold m_J6_signum_0f7a4 g_J6_signum_0f7a4
  rfl
def g_X9_direction_b52 (k9 : Nat → Int32 → Int32 → Int32 → Int32 → (Nat → Nat → Int32) → (Nat → Nat → Int32) → Option Int32) (a0 : Nat) (i1 : Int32) (i2 : Int32) (i3 : Int32) (i4 : Int32) (z f : Nat → Nat → Int32) : Option Int32 :=
  k9 a0 i1 i2 i3 (i4 + 1) z f
set_option maxRecDepth 100000 in
set_option maxHeartbeats 4000000 in
theorem e_X9_direction_b52 {r : LWd} {z f : Nat → Nat → Int32} {k9 : Nat → Int32 → Int32 → Int32 → Int32 → LWd → Option (Int32 × LWd)} {kg9 : Nat → Int32 → Int32 → Int32 → Int32 → (Nat → Nat → Int32) → (Nat → Nat → Int32) → Option Int32} (hk9 : ∀ (a0 : Nat) (i1 : Int32) (i2 : Int32) (i3 : Int32) (i4 : Int32) (ha0 : isSt a0), k9 a0 i1 i2 i3 i4 (wA z f r) = (kg9 a0 i1 i2 i3 i4 z f).map (fun x => (x, wA z f r))) (a0 : Nat) (i1 : Int32) (i2 : Int32) (i3 : Int32) (i4 : Int32) (ha0 : isSt a0) : m_X9_direction_b52 k9 a0 i1 i2 i3 i4 (wA z f r) = (g_X9_direction_b52 kg9 a0 i1 i2 i3 i4 z f).map (fun x => (x, wA z f r)) := by
  unfold m_X9_direction_b52 g_X9_direction_b52
  exact hk9 _ _ _ _ _ ha0
def g_X9_direction_l9 : Nat → Nat → Int32 → Int32 → Int32 → Int32 → (Nat → Nat → Int32) → (Nat → Nat → Int32) → Option Int32
  | 0, _, _, _, _, _, _, _ => none
  | fu + 1, a0, i1, i2, i3, i4, z, f =>
    if 6 ≤ i4 then
      (g_X9_momentX a0 z f).bind fun x1 =>
      (g_X2_weight  z f).bind fun x2 =>
      (g_J6_signum_0f7a4 ((x1 * i1) - (i2 * x2)) z f).bind fun x3 =>
      (g_X9_momentY a0 z f).bind fun x4 =>
      (g_X2_weight  z f).bind fun x5 =>
      (g_J6_signum_0f7a4 ((x4 * i1) - (i3 * x5)) z f).bind fun x6 =>
      some (((3 * (x3 + 1)) + x6) + 1)
    else
      if (rdR 6 (f (a0 + 1 + 1)) i4) = ((-1)) then
        g_X9_direction_b52 (fun y0 y1 y2 y3 y4 z f => g_X9_direction_l9 fu y0 y1 y2 y3 y4 z f) a0 i1 i2 i3 i4 z f
      else
        (g_X10_xOf (rdR 6 (f (a0 + 1 + 1)) i4) z f).bind fun x7 =>
        (g_X10_yOf (rdR 6 (f (a0 + 1 + 1)) i4) z f).bind fun x8 =>
        g_X9_direction_b52 (fun y0 y1 y2 y3 y4 z f => g_X9_direction_l9 fu y0 y1 y2 y3 y4 z f) a0 (i1 + 1) (i2 + x7) (i3 + x8) i4 z f
set_option maxRecDepth 100000 in
set_option maxHeartbeats 4000000 in
theorem e_X9_direction_l9 {r : LWd} {z f : Nat → Nat → Int32} : ∀ (fu : Nat) (a0 : Nat) (i1 : Int32) (i2 : Int32) (i3 : Int32) (i4 : Int32) (ha0 : isSt a0), m_X9_direction_l9 fu a0 i1 i2 i3 i4 (wA z f r) = (g_X9_direction_l9 fu a0 i1 i2 i3 i4 z f).map (fun x => (x, wA z f r)) := by
  intro fu
  induction fu with
  | zero => intro a0 i1 i2 i3 i4 ha0; first | rfl | (rw [m_X9_direction_l9, g_X9_direction_l9]; rfl)
  | succ fu ih =>
    intro a0 i1 i2 i3 i4 ha0
    rw [m_X9_direction_l9, g_X9_direction_l9]
    refine iteE (fun _ => ?_) (fun _ => ?_)
    · refine caP (e_X9_momentX ha0) (fun x1 => ?_)
      refine opS (fRs_1 ha0) ?_
      refine caP (e_X2_weight) (fun x2 => ?_)
      refine caP (e_J6_signum_0f7a4) (fun x3 => ?_)
      refine caP (e_X9_momentY ha0) (fun x4 => ?_)
      refine opS (fRs_1 ha0) ?_
      refine caP (e_X2_weight) (fun x5 => ?_)
      refine caP (e_J6_signum_0f7a4) (fun x6 => ?_)
      rfl
    · refine opS (fRs_3 ha0) ?_
      refine caR (e_X8_at (rw_of (isRw_of ha0))) rfl ?_
      refine iteE (fun _ => ?_) (fun _ => ?_)
      · exact e_X9_direction_b52 (hk9 := ih) _ _ _ _ _ ha0
      · refine caP (e_X10_xOf) (fun x7 => ?_)
        refine caP (e_X10_yOf) (fun x8 => ?_)
        exact e_X9_direction_b52 (hk9 := ih) _ _ _ _ _ ha0
def g_X9_direction (a0 : Nat) (z f : Nat → Nat → Int32) : Option Int32 :=
  g_X9_direction_l9 FU a0 0 0 0 0 z f
set_option maxRecDepth 100000 in
set_option maxHeartbeats 4000000 in
theorem e_X9_direction {r : LWd} {z f : Nat → Nat → Int32} {a0 : Nat} (ha0 : isSt a0) : m_X9_direction a0 (wA z f r) = (g_X9_direction a0 z f).map (fun x => (x, wA z f r)) := by
  unfold m_X9_direction g_X9_direction
  refine opS (rcvs ha0) ?_
  exact e_X9_direction_l9 FU _ _ _ _ _ ha0
def g_X1_keep (i1 : Int32) (i2 : Int32) (i3 : Int32) (z f : Nat → Nat → Int32) : Option ((Nat → Nat → Int32) × (Nat → Nat → Int32)) :=
  lt2 (wrR f 36 40 (z 34 3) i1) fun u1 =>
  lt2 (wrR u1 38 40 (z 34 3) i2) fun u2 =>
  lt2 (wrR u2 40 40 (z 34 3) i3) fun u3 =>
  lt2 (up2 z 34 3 ((z 34 3) + 1)) fun z4 =>
  some (z4, u3)
set_option maxRecDepth 100000 in
set_option maxHeartbeats 4000000 in
theorem e_X1_keep {r : LWd} {z f : Nat → Nat → Int32} {i1 : Int32} {i2 : Int32} {i3 : Int32} : m_X1_keep 34 i1 i2 i3 (wA z f r) = (g_X1_keep i1 i2 i3 z f).map (fun q => wA q.1 q.2 r) := by
  unfold m_X1_keep g_X1_keep
  refine opS rcv_34 ?_
  refine opS fR_34_0 ?_
  refine opS fI_34_3 ?_
  refine caV (e_X8_put rw_35) wA_len ?_
  refine ltE ?_
  refine opS fR_34_1 ?_
  refine opS fI_34_3 ?_
  refine caV (e_X8_put rw_37) wA_len ?_
  refine ltE ?_
  refine opS fR_34_2 ?_
  refine opS fI_34_3 ?_
  refine caV (e_X8_put rw_39) wA_len ?_
  refine ltE ?_
  refine opS fI_34_3 ?_
  refine opS pV_34_3 ?_
  refine ltE ?_
  rfl
def g_X10_toppleOver (z f : Nat → Nat → Int32) : Option ((Nat → Nat → Int32) × (Nat → Nat → Int32)) :=
  (g_X9_direction 22 z f).bind fun x1 =>
  bn2 (g_X1_keep x1 (z 33 1) (z 33 2) z f) fun z2 u3 =>
  lt2 (up2 z2 0 9 0) fun z4 =>
  lt2 (flR u3 24 6 ((-1))) fun u5 =>
  some (z4, u5)
set_option maxRecDepth 100000 in
set_option maxHeartbeats 4000000 in
theorem e_X10_toppleOver {r : LWd} {z f : Nat → Nat → Int32} : m_X10_toppleOver 0 (wA z f r) = (g_X10_toppleOver  z f).map (fun q => wA q.1 q.2 r) := by
  unfold m_X10_toppleOver g_X10_toppleOver
  refine opS rcv_0 ?_
  refine opS fR_0_6 ?_
  refine opS fR_0_2 ?_
  refine caP (e_X9_direction (Or.inl rfl)) (fun x1 => ?_)
  refine opS fR_0_5 ?_
  refine opS fI_33_1 ?_
  refine opS fR_0_5 ?_
  refine opS fI_33_2 ?_
  refine caU (e_X1_keep) (fun _ _ => wA_len) (fun z2 u3 => ?_)
  refine opS (pZ_0_9 (by decide)) ?_
  refine ltE ?_
  refine opS fR_0_2 ?_
  refine opS (fRs_3 (Or.inl rfl)) ?_
  refine caV (e_X8_fill rw_23 (by decide)) wA_len ?_
  refine ltE ?_
  rfl
def g_X10_settled_b69 (z f : Nat → Nat → Int32) : Option (Int32 × (Nat → Nat → Int32) × (Nat → Nat → Int32)) :=
  some (z 33 3, z, f)
set_option maxRecDepth 100000 in
set_option maxHeartbeats 4000000 in
theorem e_X10_settled_b69 {r : LWd} (z f : Nat → Nat → Int32) : m_X10_settled_b69 0 (wA z f r) = (g_X10_settled_b69  z f).map (fun q => (q.1, wA q.2.1 q.2.2 r)) := by
  unfold m_X10_settled_b69 g_X10_settled_b69
  refine opS fR_0_5 ?_
  refine opS fI_33_3 ?_
  rfl
def g_X10_settled_b54 (z f : Nat → Nat → Int32) : Option (Int32 × (Nat → Nat → Int32) × (Nat → Nat → Int32)) :=
  bn3 (g_X9_holdsWithout 22 ((-1)) z f) fun x1 z2 u3 =>
  if x1 = 0 then
    bn2 (g_X10_toppleOver  z2 u3) fun z4 u5 =>
    g_X10_settled_b69  z4 u5
  else
    g_X10_settled_b69  z2 u3
set_option maxRecDepth 100000 in
set_option maxHeartbeats 4000000 in
theorem e_X10_settled_b54 {r : LWd} (z f : Nat → Nat → Int32) : m_X10_settled_b54 0 (wA z f r) = (g_X10_settled_b54  z f).map (fun q => (q.1, wA q.2.1 q.2.2 r)) := by
  unfold m_X10_settled_b54 g_X10_settled_b54
  refine opS fR_0_2 ?_
  refine caW (e_X9_holdsWithout (Or.inl rfl)) (fun _ _ => wA_len) (fun x1 z2 u3 => ?_)
  refine iteE (fun _ => ?_) (fun _ => ?_)
  · refine caU (e_X10_toppleOver) (fun _ _ => wA_len) (fun z4 u5 => ?_)
    exact e_X10_settled_b69   _ _
  · exact e_X10_settled_b69   _ _
def g_X10_settled_l17 : Nat → Int32 → Int32 → (Nat → Nat → Int32) → (Nat → Nat → Int32) → Option (Int32 × (Nat → Nat → Int32) × (Nat → Nat → Int32))
  | 0, _, _, _, _ => none
  | fu + 1, i1, i2, z, f =>
    if i1 = 0 then
      g_X10_settled_b54  z f
    else
      if 6 ≤ i2 then
        g_X10_settled_b54  z f
      else
        bn2 (g_X10_breakGround i1 z f) fun z1 u2 =>
        bn2 (g_X9_raise 22 i1 z1 u2) fun z3 u4 =>
        (g_X9_sinking 22 z3 u4).bind fun x5 =>
        g_X10_settled_l17 fu x5 (i2 + 1) z3 u4
set_option maxRecDepth 100000 in
set_option maxHeartbeats 4000000 in
theorem e_X10_settled_l17 {r : LWd} : ∀ (fu : Nat) (i1 : Int32) (i2 : Int32) (z f : Nat → Nat → Int32), m_X10_settled_l17 fu 0 i1 i2 (wA z f r) = (g_X10_settled_l17 fu i1 i2 z f).map (fun q => (q.1, wA q.2.1 q.2.2 r)) := by
  intro fu
  induction fu with
  | zero => intro i1 i2  z f; first | rfl | (rw [m_X10_settled_l17, g_X10_settled_l17]; rfl)
  | succ fu ih =>
    intro i1 i2  z f
    rw [m_X10_settled_l17, g_X10_settled_l17]
    refine iteE (fun _ => ?_) (fun _ => ?_)
    · exact e_X10_settled_b54   _ _
    · refine iteE (fun _ => ?_) (fun _ => ?_)
      · exact e_X10_settled_b54   _ _
      · refine caU (e_X10_breakGround) (fun _ _ => wA_len) (fun z1 u2 => ?_)
        refine opS fR_0_2 ?_
        refine caU (e_X9_raise (Or.inl rfl)) (fun _ _ => wA_len) (fun z3 u4 => ?_)
        refine opS fR_0_2 ?_
        refine caP (e_X9_sinking (Or.inl rfl)) (fun x5 => ?_)
        exact ih _ _  _ _
def g_X10_settled (z f : Nat → Nat → Int32) : Option (Int32 × (Nat → Nat → Int32) × (Nat → Nat → Int32)) :=
  if (z 0 9) = 0 then
    g_X10_settled_b69  z f
  else
    (g_X9_sinking 22 z f).bind fun x1 =>
    g_X10_settled_l17 FU x1 0 z f
set_option maxRecDepth 100000 in
set_option maxHeartbeats 4000000 in
theorem e_X10_settled {r : LWd} {z f : Nat → Nat → Int32} : m_X10_settled 0 (wA z f r) = (g_X10_settled  z f).map (fun q => (q.1, wA q.2.1 q.2.2 r)) := by
  unfold m_X10_settled g_X10_settled
  refine opS rcv_0 ?_
  refine opS fI_0_9 ?_
  refine iteE (fun _ => ?_) (fun _ => ?_)
  · exact e_X10_settled_b69   _ _
  · refine opS fR_0_2 ?_
    refine caP (e_X9_sinking (Or.inl rfl)) (fun x1 => ?_)
    exact e_X10_settled_l17 FU _ _  _ _
def g_X10_load_b24 (z f : Nat → Nat → Int32) : Option ((Int32 ⊕ String) × (Nat → Nat → Int32) × (Nat → Nat → Int32)) :=
  some (.inr "java/lang/IllegalArgumentException", z, f)
set_option maxRecDepth 100000 in
set_option maxHeartbeats 4000000 in
theorem e_X10_load_b24 {r : LWd} (z f : Nat → Nat → Int32) : m_X10_load_b24  (wA z f r) = (g_X10_load_b24  z f).map (fun q => (q.1, wA q.2.1 q.2.2 r)) := by
  unfold m_X10_load_b24 g_X10_load_b24
  rfl
def g_X10_load (i1 : Int32) (i2 : Int32) (i3 : Int32) (z f : Nat → Nat → Int32) : Option ((Int32 ⊕ String) × (Nat → Nat → Int32) × (Nat → Nat → Int32)) :=
  (g_X10_isWithin i1 0 20 z f).bind fun x1 =>
  if x1 = 0 then
    g_X10_load_b24  z f
  else
    (g_X10_isAside i2 z f).bind fun x2 =>
    if x2 = 0 then
      g_X10_load_b24  z f
    else
      (g_X10_isAside i3 z f).bind fun x3 =>
      if x3 = 0 then
        g_X10_load_b24  z f
      else
        bn3 (g_X10_takeLoad i1 i2 i3 z f) fun x4 z5 u6 =>
        if x4 = 0 then
          some (.inr "java/lang/IllegalStateException", z5, u6)
        else
          bn3 (g_X10_settled  z5 u6) fun x7 z8 u9 =>
          some (.inl x7, z8, u9)
set_option maxRecDepth 100000 in
set_option maxHeartbeats 4000000 in
theorem e_X10_load {r : LWd} {z f : Nat → Nat → Int32} {i1 : Int32} {i2 : Int32} {i3 : Int32} : m_X10_load 0 i1 i2 i3 (wA z f r) = (g_X10_load i1 i2 i3 z f).map (fun q => (q.1, wA q.2.1 q.2.2 r)) := by
  unfold m_X10_load g_X10_load
  refine opS rcv_0 ?_
  refine caP (e_X10_isWithin) (fun x1 => ?_)
  refine iteE (fun _ => ?_) (fun _ => ?_)
  · exact e_X10_load_b24   _ _
  · refine caP (e_X10_isAside) (fun x2 => ?_)
    refine iteE (fun _ => ?_) (fun _ => ?_)
    · exact e_X10_load_b24   _ _
    · refine caP (e_X10_isAside) (fun x3 => ?_)
      refine iteE (fun _ => ?_) (fun _ => ?_)
      · exact e_X10_load_b24   _ _
      · refine caW (e_X10_takeLoad) (fun _ _ => wA_len) (fun x4 z5 u6 => ?_)
        refine iteE (fun _ => ?_) (fun _ => ?_)
        · rfl
        · refine caW (e_X10_settled) (fun _ _ => wA_len) (fun x7 z8 u9 => ?_)
          rfl
def g_X9_copy (a0 : Nat) (a1 : Nat) (z f : Nat → Nat → Int32) : Option ((Nat → Nat → Int32) × (Nat → Nat → Int32)) :=
  lt2 (up2 z a0 4 (z a1 4)) fun z1 =>
  lt2 (up2 z1 a0 5 (z1 a1 5)) fun z2 =>
  lt2 (cpR f (a0 + 1 + 1) (a1 + 1 + 1) 6) fun u3 =>
  some (z2, u3)
set_option maxRecDepth 100000 in
set_option maxHeartbeats 4000000 in
theorem e_X9_copy {r : LWd} {z f : Nat → Nat → Int32} {a0 : Nat} {a1 : Nat} (ha0 : isSt a0) (ha1 : isSt a1) : m_X9_copy a0 a1 (wA z f r) = (g_X9_copy a0 a1 z f).map (fun q => wA q.1 q.2 r) := by
  unfold m_X9_copy g_X9_copy
  refine opS (rcvs ha0) ?_
  refine opS (fIs_4 ha1) ?_
  refine opS (pVs_4 ha0) ?_
  refine ltE ?_
  refine opS (fIs_5 ha1) ?_
  refine opS (pVs_5 ha0) ?_
  refine ltE ?_
  refine opS (fRs_3 ha0) ?_
  refine opS (fRs_3 ha1) ?_
  refine caV (e_X8_copy (rw_of (isRw_of ha0)) (rw_of (isRw_of ha1)) (by decide)) wA_len ?_
  refine ltE ?_
  rfl
def g_X9_hipX (a0 : Nat) (i1 : Int32) (z f : Nat → Nat → Int32) : Option Int32 :=
  some ((z a0 4) + (rdR 6 (f 17) i1))
set_option maxRecDepth 100000 in
set_option maxHeartbeats 4000000 in
theorem e_X9_hipX {r : LWd} {z f : Nat → Nat → Int32} {a0 : Nat} {i1 : Int32} (ha0 : isSt a0) : m_X9_hipX a0 i1 (wA z f r) = (g_X9_hipX a0 i1 z f).map (fun x => (x, wA z f r)) := by
  unfold m_X9_hipX g_X9_hipX
  refine opS (rcvs ha0) ?_
  refine opS (fIs_4 ha0) ?_
  refine opS (fRs_1 ha0) ?_
  refine opS fR_15_0 ?_
  refine caR (e_X8_at rw_16) rfl ?_
  rfl
def g_X9_hipY (a0 : Nat) (i1 : Int32) (z f : Nat → Nat → Int32) : Option Int32 :=
  some ((z a0 5) + (rdR 6 (f 19) i1))
set_option maxRecDepth 100000 in
set_option maxHeartbeats 4000000 in
theorem e_X9_hipY {r : LWd} {z f : Nat → Nat → Int32} {a0 : Nat} {i1 : Int32} (ha0 : isSt a0) : m_X9_hipY a0 i1 (wA z f r) = (g_X9_hipY a0 i1 z f).map (fun x => (x, wA z f r)) := by
  unfold m_X9_hipY g_X9_hipY
  refine opS (rcvs ha0) ?_
  refine opS (fIs_5 ha0) ?_
  refine opS (fRs_1 ha0) ?_
  refine opS fR_15_1 ?_
  refine caR (e_X8_at rw_18) rfl ?_
  rfl
def g_X10_hipsBear_l18 : Nat → Int32 → Int32 → Int32 → (Nat → Nat → Int32) → (Nat → Nat → Int32) → Option (Int32 × (Nat → Nat → Int32) × (Nat → Nat → Int32))
  | 0, _, _, _, _, _ => none
  | fu + 1, i1, i2, i3, z, f =>
    if (z 15 3) ≤ i3 then
      if 2 < (i2 - i1) then
        some (0, z, f)
      else
        bn3 (g_X9_holdsWithout 25 ((-1)) z f) fun x1 z2 u3 =>
        if x1 = 0 then
          some (0, z2, u3)
        else
          some (1, z2, u3)
    else
      (g_X9_hipX 22 i3 z f).bind fun x4 =>
      (g_X9_hipY 22 i3 z f).bind fun x5 =>
      (g_X10_pointAt x4 x5 z f).bind fun x6 =>
      if x6 = ((-1)) then
        some (0, z, f)
      else
        (g_X9_isTaken 25 x6 ((-1)) z f).bind fun x7 =>
        if x7 = 0 then
          lt2 (wrR f 27 6 i3 x6) fun u8 =>
          g_X10_hipsBear_l18 fu (jmin i1 (rdR 400 (u8 14) x6)) (jmax i2 (rdR 400 (u8 14) x6)) (i3 + 1) z u8
        else
          some (0, z, f)
set_option maxRecDepth 100000 in
set_option maxHeartbeats 4000000 in
theorem e_X10_hipsBear_l18 {r : LWd} : ∀ (fu : Nat) (i1 : Int32) (i2 : Int32) (i3 : Int32) (z f : Nat → Nat → Int32), m_X10_hipsBear_l18 fu 0 i1 i2 i3 (wA z f r) = (g_X10_hipsBear_l18 fu i1 i2 i3 z f).map (fun q => (q.1, wA q.2.1 q.2.2 r)) := by
  intro fu
  induction fu with
  | zero => intro i1 i2 i3  z f; first | rfl | (rw [m_X10_hipsBear_l18, g_X10_hipsBear_l18]; rfl)
  | succ fu ih =>
    intro i1 i2 i3  z f
    rw [m_X10_hipsBear_l18, g_X10_hipsBear_l18]
    refine opS fR_0_1 ?_
    refine opS fI_15_3 ?_
    refine iteE (fun _ => ?_) (fun _ => ?_)
    · refine iteE (fun _ => ?_) (fun _ => ?_)
      · rfl
      · refine opS fR_0_3 ?_
        refine caW (e_X9_holdsWithout (Or.inr (Or.inl rfl))) (fun _ _ => wA_len) (fun x1 z2 u3 => ?_)
        refine iteE (fun _ => ?_) (fun _ => ?_)
        · rfl
        · rfl
    · refine opS fR_0_2 ?_
      refine caP (e_X9_hipX (Or.inl rfl)) (fun x4 => ?_)
      refine opS fR_0_2 ?_
      refine caP (e_X9_hipY (Or.inl rfl)) (fun x5 => ?_)
      refine caP (e_X10_pointAt) (fun x6 => ?_)
      refine iteE (fun _ => ?_) (fun _ => ?_)
      · rfl
      · refine opS fR_0_3 ?_
        refine caP (e_X9_isTaken (Or.inr (Or.inl rfl))) (fun x7 => ?_)
        refine iteE (fun _ => ?_) (fun _ => ?_)
        · refine opS fR_0_3 ?_
          refine opS (fRs_3 (Or.inr (Or.inl rfl))) ?_
          refine caV (e_X8_put rw_26) wA_len ?_
          refine ltE ?_
          refine opS fR_0_0 ?_
          refine opS fR_6_3 ?_
          refine caR (e_X8_at rw_13) rfl ?_
          refine opS fR_0_0 ?_
          refine opS fR_6_3 ?_
          refine caR (e_X8_at rw_13) rfl ?_
          exact ih _ _ _  _ _
        · rfl
def g_X10_hipsBear (z f : Nat → Nat → Int32) : Option (Int32 × (Nat → Nat → Int32) × (Nat → Nat → Int32)) :=
  bn2 (g_X9_copy 25 22 z f) fun z1 u2 =>
  g_X10_hipsBear_l18 FU 9 0 0 z1 u2
set_option maxRecDepth 100000 in
set_option maxHeartbeats 4000000 in
theorem e_X10_hipsBear {r : LWd} {z f : Nat → Nat → Int32} : m_X10_hipsBear 0 (wA z f r) = (g_X10_hipsBear  z f).map (fun q => (q.1, wA q.2.1 q.2.2 r)) := by
  unfold m_X10_hipsBear g_X10_hipsBear
  refine opS rcv_0 ?_
  refine opS fR_0_3 ?_
  refine opS fR_0_2 ?_
  refine caU (e_X9_copy (Or.inr (Or.inl rfl)) (Or.inl rfl)) (fun _ _ => wA_len) (fun z1 u2 => ?_)
  exact e_X10_hipsBear_l18 FU _ _ _  _ _
def g_X0_forget (z f : Nat → Nat → Int32) : Option ((Nat → Nat → Int32) × (Nat → Nat → Int32)) :=
  lt2 (up2 z 33 0 0) fun z1 =>
  lt2 (up2 z1 33 1 0) fun z2 =>
  lt2 (up2 z2 33 2 ((-1))) fun z3 =>
  lt2 (up2 z3 33 3 0) fun z4 =>
  some (z4, f)
set_option maxRecDepth 100000 in
set_option maxHeartbeats 4000000 in
theorem e_X0_forget {r : LWd} {z f : Nat → Nat → Int32} : m_X0_forget 33 (wA z f r) = (g_X0_forget  z f).map (fun q => wA q.1 q.2 r) := by
  unfold m_X0_forget g_X0_forget
  refine opS rcv_33 ?_
  refine opS pV_33_0 ?_
  refine ltE ?_
  refine opS pV_33_1 ?_
  refine ltE ?_
  refine opS pV_33_2 ?_
  refine ltE ?_
  refine opS pV_33_3 ?_
  refine ltE ?_
  rfl
def g_X5_neighbour (i0 : Int32) (i1 : Int32) (z f : Nat → Nat → Int32) : Option Int32 :=
  (g_X10_xOf i0 z f).bind fun x1 =>
  (g_X10_yOf i0 z f).bind fun x2 =>
  if i1 = 0 then
    (g_X10_pointAt x1 (x2 - 1) z f).bind fun x3 =>
    some (x3)
  else
    if i1 = 1 then
      (g_X10_pointAt (x1 - 1) x2 z f).bind fun x4 =>
      some (x4)
    else
      if i1 = 2 then
        (g_X10_pointAt (x1 + 1) x2 z f).bind fun x5 =>
        some (x5)
      else
        (g_X10_pointAt x1 (x2 + 1) z f).bind fun x6 =>
        some (x6)
set_option maxRecDepth 100000 in
set_option maxHeartbeats 4000000 in
theorem e_X5_neighbour {r : LWd} {z f : Nat → Nat → Int32} {i0 : Int32} {i1 : Int32} : m_X5_neighbour i0 i1 (wA z f r) = (g_X5_neighbour i0 i1 z f).map (fun x => (x, wA z f r)) := by
  unfold m_X5_neighbour g_X5_neighbour
  refine caP (e_X10_xOf) (fun x1 => ?_)
  refine caP (e_X10_yOf) (fun x2 => ?_)
  refine iteE (fun _ => ?_) (fun _ => ?_)
  · refine caP (e_X10_pointAt) (fun x3 => ?_)
    rfl
  · refine iteE (fun _ => ?_) (fun _ => ?_)
    · refine caP (e_X10_pointAt) (fun x4 => ?_)
      rfl
    · refine iteE (fun _ => ?_) (fun _ => ?_)
      · refine caP (e_X10_pointAt) (fun x5 => ?_)
        rfl
      · refine caP (e_X10_pointAt) (fun x6 => ?_)
        rfl
def g_X5_slipFrom_b69 (k23 : Int32 → Int32 → Int32 → Int32 → (Nat → Nat → Int32) → (Nat → Nat → Int32) → Option Int32) (i1 : Int32) (i2 : Int32) (i3 : Int32) (i4 : Int32) (z f : Nat → Nat → Int32) : Option Int32 :=
  k23 i1 i2 i3 (i4 + 1) z f
set_option maxRecDepth 100000 in
set_option maxHeartbeats 4000000 in
theorem e_X5_slipFrom_b69 {r : LWd} {z f : Nat → Nat → Int32} {k23 : Nat → Int32 → Int32 → Int32 → Int32 → LWd → Option (Int32 × LWd)} {kg23 : Int32 → Int32 → Int32 → Int32 → (Nat → Nat → Int32) → (Nat → Nat → Int32) → Option Int32} (hk23 : ∀ (i1 : Int32) (i2 : Int32) (i3 : Int32) (i4 : Int32), k23 6 i1 i2 i3 i4 (wA z f r) = (kg23 i1 i2 i3 i4 z f).map (fun x => (x, wA z f r))) (i1 : Int32) (i2 : Int32) (i3 : Int32) (i4 : Int32) : m_X5_slipFrom_b69 k23 6 i1 i2 i3 i4 (wA z f r) = (g_X5_slipFrom_b69 kg23 i1 i2 i3 i4 z f).map (fun x => (x, wA z f r)) := by
  unfold m_X5_slipFrom_b69 g_X5_slipFrom_b69
  exact hk23 _ _ _ _ 
def g_X5_slipFrom_l23 : Nat → Int32 → Int32 → Int32 → Int32 → (Nat → Nat → Int32) → (Nat → Nat → Int32) → Option Int32
  | 0, _, _, _, _, _, _ => none
  | fu + 1, i1, i2, i3, i4, z, f =>
    if 4 ≤ i4 then
      some (i3)
    else
      (g_X5_neighbour i1 i4 z f).bind fun x1 =>
      if x1 = ((-1)) then
        g_X5_slipFrom_b69 (fun y0 y1 y2 y3 z f => g_X5_slipFrom_l23 fu y0 y1 y2 y3 z f) i1 i2 i3 i4 z f
      else
        if i2 ≤ (rdR 400 (f 8) x1) then
          g_X5_slipFrom_b69 (fun y0 y1 y2 y3 z f => g_X5_slipFrom_l23 fu y0 y1 y2 y3 z f) i1 i2 i3 i4 z f
        else
          g_X5_slipFrom_b69 (fun y0 y1 y2 y3 z f => g_X5_slipFrom_l23 fu y0 y1 y2 y3 z f) i1 (rdR 400 (f 8) x1) x1 i4 z f
set_option maxRecDepth 100000 in
set_option maxHeartbeats 4000000 in
theorem e_X5_slipFrom_l23 {r : LWd} {z f : Nat → Nat → Int32} : ∀ (fu : Nat) (i1 : Int32) (i2 : Int32) (i3 : Int32) (i4 : Int32), m_X5_slipFrom_l23 fu 6 i1 i2 i3 i4 (wA z f r) = (g_X5_slipFrom_l23 fu i1 i2 i3 i4 z f).map (fun x => (x, wA z f r)) := by
  intro fu
  induction fu with
  | zero => intro i1 i2 i3 i4 ; first | rfl | (rw [m_X5_slipFrom_l23, g_X5_slipFrom_l23]; rfl)
  | succ fu ih =>
    intro i1 i2 i3 i4 
    rw [m_X5_slipFrom_l23, g_X5_slipFrom_l23]
    refine iteE (fun _ => ?_) (fun _ => ?_)
    · rfl
    · refine caP (e_X5_neighbour) (fun x1 => ?_)
      refine iteE (fun _ => ?_) (fun _ => ?_)
      · exact e_X5_slipFrom_b69 (hk23 := ih) _ _ _ _ 
      · refine opS fR_6_0 ?_
        refine caR (e_X8_at rw_7) rfl ?_
        refine iteE (fun _ => ?_) (fun _ => ?_)
        · exact e_X5_slipFrom_b69 (hk23 := ih) _ _ _ _ 
        · refine opS fR_6_0 ?_
          refine caR (e_X8_at rw_7) rfl ?_
          exact e_X5_slipFrom_b69 (hk23 := ih) _ _ _ _ 
def g_X5_slipFrom (i1 : Int32) (z f : Nat → Nat → Int32) : Option Int32 :=
  g_X5_slipFrom_l23 FU i1 ((rdR 400 (f 8) i1) - (rdR 400 (f 12) i1)) ((-1)) 0 z f
set_option maxRecDepth 100000 in
set_option maxHeartbeats 4000000 in
theorem e_X5_slipFrom {r : LWd} {z f : Nat → Nat → Int32} {i1 : Int32} : m_X5_slipFrom 6 i1 (wA z f r) = (g_X5_slipFrom i1 z f).map (fun x => (x, wA z f r)) := by
  unfold m_X5_slipFrom g_X5_slipFrom
  refine opS rcv_6 ?_
  refine opS fR_6_0 ?_
  refine caR (e_X8_at rw_7) rfl ?_
  refine opS fR_6_2 ?_
  refine caR (e_X8_at rw_11) rfl ?_
  exact e_X5_slipFrom_l23 FU _ _ _ _ 
def g_X9_isInReach (a0 : Nat) (i1 : Int32) (i2 : Int32) (z f : Nat → Nat → Int32) : Option Int32 :=
  (g_X10_xOf i2 z f).bind fun x1 =>
  (g_X9_hipX a0 i1 z f).bind fun x2 =>
  (g_X10_yOf i2 z f).bind fun x3 =>
  (g_X9_hipY a0 i1 z f).bind fun x4 =>
  if ((rdR 6 (f 21) i1) * (rdR 6 (f 21) i1)) < (((x1 - x2) * (x1 - x2)) + ((x3 - x4) * (x3 - x4))) then
    some (0)
  else
    some (1)
set_option maxRecDepth 100000 in
set_option maxHeartbeats 4000000 in
theorem e_X9_isInReach {r : LWd} {z f : Nat → Nat → Int32} {a0 : Nat} {i1 : Int32} {i2 : Int32} (ha0 : isSt a0) : m_X9_isInReach a0 i1 i2 (wA z f r) = (g_X9_isInReach a0 i1 i2 z f).map (fun x => (x, wA z f r)) := by
  unfold m_X9_isInReach g_X9_isInReach
  refine opS (rcvs ha0) ?_
  refine caP (e_X10_xOf) (fun x1 => ?_)
  refine caP (e_X9_hipX ha0) (fun x2 => ?_)
  refine caP (e_X10_yOf) (fun x3 => ?_)
  refine caP (e_X9_hipY ha0) (fun x4 => ?_)
  refine opS (fRs_1 ha0) ?_
  refine opS fR_15_2 ?_
  refine caR (e_X8_at rw_20) rfl ?_
  refine iteE (fun _ => ?_) (fun _ => ?_)
  · rfl
  · rfl
def g_X10_setFoot_b35 (i1 : Int32) (i2 : Int32) (s0 : Int32) (z f : Nat → Nat → Int32) : Option ((Nat → Nat → Int32) × (Nat → Nat → Int32)) :=
  bn2 (g_X5_learn i2 z f) fun z1 u2 =>
  if s0 = 0 then
    (g_X5_slipFrom i2 z1 u2).bind fun x3 =>
    if x3 = ((-1)) then
      lt2 (wrR u2 24 6 i1 i2) fun u11 =>
      some (z1, u11)
    else
      bn2 (g_X5_learn x3 z1 u2) fun z4 u5 =>
      bn2 (g_X0_tell 3 i2 z4 u5) fun z6 u7 =>
      (g_X9_isInReach 22 i1 x3 z6 u7).bind fun x8 =>
      if x8 = 0 then
        some (z6, u7)
      else
        (g_X9_isTaken 22 x3 i1 z6 u7).bind fun x9 =>
        if x9 = 0 then
          lt2 (wrR u7 24 6 i1 x3) fun u10 =>
          some (z6, u10)
        else
          some (z6, u7)
  else
    bn2 (g_X0_tell 1 i2 z1 u2) fun z12 u13 =>
    some (z12, u13)
set_option maxRecDepth 100000 in
set_option maxHeartbeats 4000000 in
theorem e_X10_setFoot_b35 {r : LWd} (i1 : Int32) (i2 : Int32) (s0 : Int32) (z f : Nat → Nat → Int32) : m_X10_setFoot_b35 0 i1 i2 s0 (wA z f r) = (g_X10_setFoot_b35 i1 i2 s0 z f).map (fun q => wA q.1 q.2 r) := by
  unfold m_X10_setFoot_b35 g_X10_setFoot_b35
  refine opS fR_0_0 ?_
  refine caU (e_X5_learn) (fun _ _ => wA_len) (fun z1 u2 => ?_)
  refine iteE (fun _ => ?_) (fun _ => ?_)
  · refine opS fR_0_0 ?_
    refine caP (e_X5_slipFrom) (fun x3 => ?_)
    refine iteE (fun _ => ?_) (fun _ => ?_)
    · refine opS fR_0_2 ?_
      refine opS (fRs_3 (Or.inl rfl)) ?_
      refine caV (e_X8_put rw_23) wA_len ?_
      refine ltE ?_
      rfl
    · refine opS fR_0_0 ?_
      refine caU (e_X5_learn) (fun _ _ => wA_len) (fun z4 u5 => ?_)
      refine opS fR_0_5 ?_
      refine caU (e_X0_tell) (fun _ _ => wA_len) (fun z6 u7 => ?_)
      refine opS fR_0_2 ?_
      refine caP (e_X9_isInReach (Or.inl rfl)) (fun x8 => ?_)
      refine iteE (fun _ => ?_) (fun _ => ?_)
      · rfl
      · refine opS fR_0_2 ?_
        refine caP (e_X9_isTaken (Or.inl rfl)) (fun x9 => ?_)
        refine iteE (fun _ => ?_) (fun _ => ?_)
        · refine opS fR_0_2 ?_
          refine opS (fRs_3 (Or.inl rfl)) ?_
          refine caV (e_X8_put rw_23) wA_len ?_
          refine ltE ?_
          rfl
        · rfl
  · refine opS fR_0_5 ?_
    refine caU (e_X0_tell) (fun _ _ => wA_len) (fun z12 u13 => ?_)
    rfl
def g_X10_setFoot (i1 : Int32) (i2 : Int32) (z f : Nat → Nat → Int32) : Option ((Nat → Nat → Int32) × (Nat → Nat → Int32)) :=
  if (jabs ((rdR 400 (f 8) i2) - (rdR 400 (f 14) i2))) < 2 then
    g_X10_setFoot_b35 i1 i2 0 z f
  else
    g_X10_setFoot_b35 i1 i2 1 z f
set_option maxRecDepth 100000 in
set_option maxHeartbeats 4000000 in
theorem e_X10_setFoot {r : LWd} {z f : Nat → Nat → Int32} {i1 : Int32} {i2 : Int32} : m_X10_setFoot 0 i1 i2 (wA z f r) = (g_X10_setFoot i1 i2 z f).map (fun q => wA q.1 q.2 r) := by
  unfold m_X10_setFoot g_X10_setFoot
  refine opS rcv_0 ?_
  refine opS fR_0_0 ?_
  refine opS fR_6_0 ?_
  refine caR (e_X8_at rw_7) rfl ?_
  refine opS fR_0_0 ?_
  refine opS fR_6_3 ?_
  refine caR (e_X8_at rw_13) rfl ?_
  refine iteE (fun _ => ?_) (fun _ => ?_)
  · exact e_X10_setFoot_b35 _ _ _  _ _
  · exact e_X10_setFoot_b35 _ _ _  _ _
def g_X10_getUp_b104 (k50 : Int32 → (Nat → Nat → Int32) → (Nat → Nat → Int32) → Option (Int32 × (Nat → Nat → Int32) × (Nat → Nat → Int32))) (i1 : Int32) (z f : Nat → Nat → Int32) : Option (Int32 × (Nat → Nat → Int32) × (Nat → Nat → Int32)) :=
  k50 (i1 + 1) z f
set_option maxRecDepth 100000 in
set_option maxHeartbeats 4000000 in
theorem e_X10_getUp_b104 {r : LWd} {k50 : Nat → Int32 → LWd → Option (Int32 × LWd)} {kg50 : Int32 → (Nat → Nat → Int32) → (Nat → Nat → Int32) → Option (Int32 × (Nat → Nat → Int32) × (Nat → Nat → Int32))} (hk50 : ∀ (i1 : Int32) (z f : Nat → Nat → Int32), k50 0 i1 (wA z f r) = (kg50 i1 z f).map (fun q => (q.1, wA q.2.1 q.2.2 r))) (i1 : Int32) (z f : Nat → Nat → Int32) : m_X10_getUp_b104 k50 0 i1 (wA z f r) = (g_X10_getUp_b104 kg50 i1 z f).map (fun q => (q.1, wA q.2.1 q.2.2 r)) := by
  unfold m_X10_getUp_b104 g_X10_getUp_b104
  exact hk50 _  _ _
def g_X10_getUp_l50 : Nat → Int32 → (Nat → Nat → Int32) → (Nat → Nat → Int32) → Option (Int32 × (Nat → Nat → Int32) × (Nat → Nat → Int32))
  | 0, _, _, _ => none
  | fu + 1, i1, z, f =>
    if (z 15 3) ≤ i1 then
      some (1, z, f)
    else
      (g_X9_hipX 22 i1 z f).bind fun x1 =>
      (g_X9_hipY 22 i1 z f).bind fun x2 =>
      (g_X10_pointAt x1 x2 z f).bind fun x3 =>
      if x3 = ((-1)) then
        g_X10_getUp_b104 (fun y0 z f => g_X10_getUp_l50 fu y0 z f) i1 z f
      else
        (g_X9_isTaken 22 x3 ((-1)) z f).bind fun x4 =>
        if x4 = 0 then
          bn2 (g_X10_setFoot i1 x3 z f) fun z5 u6 =>
          g_X10_getUp_b104 (fun y0 z f => g_X10_getUp_l50 fu y0 z f) i1 z5 u6
        else
          g_X10_getUp_b104 (fun y0 z f => g_X10_getUp_l50 fu y0 z f) i1 z f
set_option maxRecDepth 100000 in
set_option maxHeartbeats 4000000 in
theorem e_X10_getUp_l50 {r : LWd} : ∀ (fu : Nat) (i1 : Int32) (z f : Nat → Nat → Int32), m_X10_getUp_l50 fu 0 i1 (wA z f r) = (g_X10_getUp_l50 fu i1 z f).map (fun q => (q.1, wA q.2.1 q.2.2 r)) := by
  intro fu
  induction fu with
  | zero => intro i1  z f; first | rfl | (rw [m_X10_getUp_l50, g_X10_getUp_l50]; rfl)
  | succ fu ih =>
    intro i1  z f
    rw [m_X10_getUp_l50, g_X10_getUp_l50]
    refine opS fR_0_1 ?_
    refine opS fI_15_3 ?_
    refine iteE (fun _ => ?_) (fun _ => ?_)
    · rfl
    · refine opS fR_0_2 ?_
      refine caP (e_X9_hipX (Or.inl rfl)) (fun x1 => ?_)
      refine opS fR_0_2 ?_
      refine caP (e_X9_hipY (Or.inl rfl)) (fun x2 => ?_)
      refine caP (e_X10_pointAt) (fun x3 => ?_)
      refine iteE (fun _ => ?_) (fun _ => ?_)
      · exact e_X10_getUp_b104 (hk50 := ih) _  _ _
      · refine opS fR_0_2 ?_
        refine caP (e_X9_isTaken (Or.inl rfl)) (fun x4 => ?_)
        refine iteE (fun _ => ?_) (fun _ => ?_)
        · refine caU (e_X10_setFoot) (fun _ _ => wA_len) (fun z5 u6 => ?_)
          exact e_X10_getUp_b104 (hk50 := ih) _  _ _
        · exact e_X10_getUp_b104 (hk50 := ih) _  _ _
def g_X10_getUp (z f : Nat → Nat → Int32) : Option (Int32 × (Nat → Nat → Int32) × (Nat → Nat → Int32)) :=
  if (z 0 9) = 0 then
    if (z 0 10) < 20 then
      some (0, z, f)
    else
      bn3 (g_X10_hipsBear  z f) fun x1 z2 u3 =>
      if x1 = 0 then
        some (0, z2, u3)
      else
        lt2 (up2 z2 0 10 ((z2 0 10) - 20)) fun z4 =>
        lt2 (up2 z4 0 9 1) fun z5 =>
        bn2 (g_X0_forget  z5 u3) fun z6 u7 =>
        g_X10_getUp_l50 FU 0 z6 u7
  else
    some (0, z, f)
set_option maxRecDepth 100000 in
set_option maxHeartbeats 4000000 in
theorem e_X10_getUp {r : LWd} {z f : Nat → Nat → Int32} : m_X10_getUp 0 (wA z f r) = (g_X10_getUp  z f).map (fun q => (q.1, wA q.2.1 q.2.2 r)) := by
  unfold m_X10_getUp g_X10_getUp
  refine opS rcv_0 ?_
  refine opS fI_0_9 ?_
  refine iteE (fun _ => ?_) (fun _ => ?_)
  · refine opS fI_0_10 ?_
    refine iteE (fun _ => ?_) (fun _ => ?_)
    · rfl
    · refine caW (e_X10_hipsBear) (fun _ _ => wA_len) (fun x1 z2 u3 => ?_)
      refine iteE (fun _ => ?_) (fun _ => ?_)
      · rfl
      · refine opS fI_0_10 ?_
        refine opS pV_0_10 ?_
        refine ltE ?_
        refine opS (pZ_0_9 (by decide)) ?_
        refine ltE ?_
        refine opS fR_0_5 ?_
        refine caU (e_X0_forget) (fun _ _ => wA_len) (fun z6 u7 => ?_)
        exact e_X10_getUp_l50 FU _  _ _
  · rfl
def g_X10_rise (z f : Nat → Nat → Int32) : Option ((Int32 ⊕ String) × (Nat → Nat → Int32) × (Nat → Nat → Int32)) :=
  bn3 (g_X10_getUp  z f) fun x1 z2 u3 =>
  if x1 = 0 then
    some (.inr "java/lang/IllegalStateException", z2, u3)
  else
    bn3 (g_X10_settled  z2 u3) fun x4 z5 u6 =>
    (g_X9_down 22 z5 u6).bind fun x7 =>
    some (.inl x7, z5, u6)
set_option maxRecDepth 100000 in
set_option maxHeartbeats 4000000 in
theorem e_X10_rise {r : LWd} {z f : Nat → Nat → Int32} : m_X10_rise 0 (wA z f r) = (g_X10_rise  z f).map (fun q => (q.1, wA q.2.1 q.2.2 r)) := by
  unfold m_X10_rise g_X10_rise
  refine opS rcv_0 ?_
  refine caW (e_X10_getUp) (fun _ _ => wA_len) (fun x1 z2 u3 => ?_)
  refine iteE (fun _ => ?_) (fun _ => ?_)
  · rfl
  · refine caW (e_X10_settled) (fun _ _ => wA_len) (fun x4 z5 u6 => ?_)
    refine opS fR_0_2 ?_
    refine caP (e_X9_down (Or.inl rfl)) (fun x7 => ?_)
    rfl
def g_X10_mayLift (i1 : Int32) (z f : Nat → Nat → Int32) : Option (Int32 × (Nat → Nat → Int32) × (Nat → Nat → Int32)) :=
  if (z 0 9) = 0 then
    some (0, z, f)
  else
    if (z 0 10) < 1 then
      some (0, z, f)
    else
      if (rdR 6 (f 24) i1) = ((-1)) then
        some (0, z, f)
      else
        bn3 (g_X9_holdsWithout 22 i1 z f) fun x1 z2 u3 =>
        if x1 = 0 then
          some (0, z2, u3)
        else
          some (1, z2, u3)
set_option maxRecDepth 100000 in
set_option maxHeartbeats 4000000 in
theorem e_X10_mayLift {r : LWd} {z f : Nat → Nat → Int32} {i1 : Int32} : m_X10_mayLift 0 i1 (wA z f r) = (g_X10_mayLift i1 z f).map (fun q => (q.1, wA q.2.1 q.2.2 r)) := by
  unfold m_X10_mayLift g_X10_mayLift
  refine opS rcv_0 ?_
  refine opS fI_0_9 ?_
  refine iteE (fun _ => ?_) (fun _ => ?_)
  · rfl
  · refine opS fI_0_10 ?_
    refine iteE (fun _ => ?_) (fun _ => ?_)
    · rfl
    · refine opS fR_0_2 ?_
      refine opS (fRs_3 (Or.inl rfl)) ?_
      refine caR (e_X8_at rw_23) rfl ?_
      refine iteE (fun _ => ?_) (fun _ => ?_)
      · rfl
      · refine opS fR_0_2 ?_
        refine caW (e_X9_holdsWithout (Or.inl rfl)) (fun _ _ => wA_len) (fun x1 z2 u3 => ?_)
        refine iteE (fun _ => ?_) (fun _ => ?_)
        · rfl
        · rfl
def g_X10_liftFoot (i1 : Int32) (z f : Nat → Nat → Int32) : Option (Int32 × (Nat → Nat → Int32) × (Nat → Nat → Int32)) :=
  bn3 (g_X10_mayLift i1 z f) fun x1 z2 u3 =>
  if x1 = 0 then
    some (0, z2, u3)
  else
    lt2 (up2 z2 0 10 ((z2 0 10) - 1)) fun z4 =>
    bn2 (g_X0_beginAct  z4 u3) fun z5 u6 =>
    lt2 (wrR u6 24 6 i1 ((-1))) fun u7 =>
    some (1, z5, u7)
set_option maxRecDepth 100000 in
set_option maxHeartbeats 4000000 in
theorem e_X10_liftFoot {r : LWd} {z f : Nat → Nat → Int32} {i1 : Int32} : m_X10_liftFoot 0 i1 (wA z f r) = (g_X10_liftFoot i1 z f).map (fun q => (q.1, wA q.2.1 q.2.2 r)) := by
  unfold m_X10_liftFoot g_X10_liftFoot
  refine opS rcv_0 ?_
  refine caW (e_X10_mayLift) (fun _ _ => wA_len) (fun x1 z2 u3 => ?_)
  refine iteE (fun _ => ?_) (fun _ => ?_)
  · rfl
  · refine opS fI_0_10 ?_
    refine opS pV_0_10 ?_
    refine ltE ?_
    refine opS fR_0_5 ?_
    refine caU (e_X0_beginAct) (fun _ _ => wA_len) (fun z5 u6 => ?_)
    refine opS fR_0_2 ?_
    refine opS (fRs_3 (Or.inl rfl)) ?_
    refine caV (e_X8_put rw_23) wA_len ?_
    refine ltE ?_
    rfl
def g_X10_lift (i1 : Int32) (z f : Nat → Nat → Int32) : Option ((Int32 ⊕ String) × (Nat → Nat → Int32) × (Nat → Nat → Int32)) :=
  (g_X10_isLeg i1 z f).bind fun x1 =>
  if x1 = 0 then
    some (.inr "java/lang/IndexOutOfBoundsException", z, f)
  else
    bn3 (g_X10_liftFoot i1 z f) fun x2 z3 u4 =>
    if x2 = 0 then
      some (.inr "java/lang/IllegalStateException", z3, u4)
    else
      bn3 (g_X10_settled  z3 u4) fun x5 z6 u7 =>
      some (.inl x5, z6, u7)
set_option maxRecDepth 100000 in
set_option maxHeartbeats 4000000 in
theorem e_X10_lift {r : LWd} {z f : Nat → Nat → Int32} {i1 : Int32} : m_X10_lift 0 i1 (wA z f r) = (g_X10_lift i1 z f).map (fun q => (q.1, wA q.2.1 q.2.2 r)) := by
  unfold m_X10_lift g_X10_lift
  refine opS rcv_0 ?_
  refine caP (e_X10_isLeg) (fun x1 => ?_)
  refine iteE (fun _ => ?_) (fun _ => ?_)
  · rfl
  · refine caW (e_X10_liftFoot) (fun _ _ => wA_len) (fun x2 z3 u4 => ?_)
    refine iteE (fun _ => ?_) (fun _ => ?_)
    · rfl
    · refine caW (e_X10_settled) (fun _ _ => wA_len) (fun x5 z6 u7 => ?_)
      rfl
def g_X9_far (a0 : Nat) (i1 : Int32) (i2 : Int32) (z f : Nat → Nat → Int32) : Option Int32 :=
  (g_X10_xOf i2 z f).bind fun x1 =>
  (g_X9_hipX a0 i1 z f).bind fun x2 =>
  (g_X10_yOf i2 z f).bind fun x3 =>
  (g_X9_hipY a0 i1 z f).bind fun x4 =>
  some ((jabs (x1 - x2)) + (jabs (x3 - x4)))
set_option maxRecDepth 100000 in
set_option maxHeartbeats 4000000 in
theorem e_X9_far {r : LWd} {z f : Nat → Nat → Int32} {a0 : Nat} {i1 : Int32} {i2 : Int32} (ha0 : isSt a0) : m_X9_far a0 i1 i2 (wA z f r) = (g_X9_far a0 i1 i2 z f).map (fun x => (x, wA z f r)) := by
  unfold m_X9_far g_X9_far
  refine opS (rcvs ha0) ?_
  refine caP (e_X10_xOf) (fun x1 => ?_)
  refine caP (e_X9_hipX ha0) (fun x2 => ?_)
  refine caP (e_X10_yOf) (fun x3 => ?_)
  refine caP (e_X9_hipY ha0) (fun x4 => ?_)
  rfl
def g_X9_level_b48 (k4 : Nat → Int32 → Int32 → Int32 → (Nat → Nat → Int32) → (Nat → Nat → Int32) → Option Int32) (a0 : Nat) (i1 : Int32) (i2 : Int32) (i3 : Int32) (z f : Nat → Nat → Int32) : Option Int32 :=
  k4 a0 i1 i2 (i3 + 1) z f
set_option maxRecDepth 100000 in
set_option maxHeartbeats 4000000 in
theorem e_X9_level_b48 {r : LWd} {z f : Nat → Nat → Int32} {k4 : Nat → Int32 → Int32 → Int32 → LWd → Option (Int32 × LWd)} {kg4 : Nat → Int32 → Int32 → Int32 → (Nat → Nat → Int32) → (Nat → Nat → Int32) → Option Int32} (hk4 : ∀ (a0 : Nat) (i1 : Int32) (i2 : Int32) (i3 : Int32) (ha0 : isSt a0), k4 a0 i1 i2 i3 (wA z f r) = (kg4 a0 i1 i2 i3 z f).map (fun x => (x, wA z f r))) (a0 : Nat) (i1 : Int32) (i2 : Int32) (i3 : Int32) (ha0 : isSt a0) : m_X9_level_b48 k4 a0 i1 i2 i3 (wA z f r) = (g_X9_level_b48 kg4 a0 i1 i2 i3 z f).map (fun x => (x, wA z f r)) := by
  unfold m_X9_level_b48 g_X9_level_b48
  exact hk4 _ _ _ _ ha0
def g_X9_level_l4 : Nat → Nat → Int32 → Int32 → Int32 → (Nat → Nat → Int32) → (Nat → Nat → Int32) → Option Int32
  | 0, _, _, _, _, _, _ => none
  | fu + 1, a0, i1, i2, i3, z, f =>
    if 6 ≤ i3 then
      some (i2)
    else
      if i3 = i1 then
        g_X9_level_b48 (fun y0 y1 y2 y3 z f => g_X9_level_l4 fu y0 y1 y2 y3 z f) a0 i1 i2 i3 z f
      else
        if (rdR 6 (f (a0 + 1 + 1)) i3) = ((-1)) then
          g_X9_level_b48 (fun y0 y1 y2 y3 z f => g_X9_level_l4 fu y0 y1 y2 y3 z f) a0 i1 i2 i3 z f
        else
          g_X9_level_b48 (fun y0 y1 y2 y3 z f => g_X9_level_l4 fu y0 y1 y2 y3 z f) a0 i1 (jmax i2 (rdR 400 (f 14) (rdR 6 (f (a0 + 1 + 1)) i3))) i3 z f
set_option maxRecDepth 100000 in
set_option maxHeartbeats 4000000 in
theorem e_X9_level_l4 {r : LWd} {z f : Nat → Nat → Int32} : ∀ (fu : Nat) (a0 : Nat) (i1 : Int32) (i2 : Int32) (i3 : Int32) (ha0 : isSt a0), m_X9_level_l4 fu a0 i1 i2 i3 (wA z f r) = (g_X9_level_l4 fu a0 i1 i2 i3 z f).map (fun x => (x, wA z f r)) := by
  intro fu
  induction fu with
  | zero => intro a0 i1 i2 i3 ha0; first | rfl | (rw [m_X9_level_l4, g_X9_level_l4]; rfl)
  | succ fu ih =>
    intro a0 i1 i2 i3 ha0
    rw [m_X9_level_l4, g_X9_level_l4]
    refine iteE (fun _ => ?_) (fun _ => ?_)
    · rfl
    · refine opS (fRs_3 ha0) ?_
      refine caR (e_X8_at (rw_of (isRw_of ha0))) rfl ?_
      refine iteE (fun _ => ?_) (fun _ => ?_)
      · exact e_X9_level_b48 (hk4 := ih) _ _ _ _ ha0
      · refine iteE (fun _ => ?_) (fun _ => ?_)
        · exact e_X9_level_b48 (hk4 := ih) _ _ _ _ ha0
        · refine opS (fRs_0 ha0) ?_
          refine opS fR_6_3 ?_
          refine caR (e_X8_at rw_13) rfl ?_
          exact e_X9_level_b48 (hk4 := ih) _ _ _ _ ha0
def g_X9_level (a0 : Nat) (i1 : Int32) (z f : Nat → Nat → Int32) : Option Int32 :=
  g_X9_level_l4 FU a0 i1 0 0 z f
set_option maxRecDepth 100000 in
set_option maxHeartbeats 4000000 in
theorem e_X9_level {r : LWd} {z f : Nat → Nat → Int32} {a0 : Nat} {i1 : Int32} (ha0 : isSt a0) : m_X9_level a0 i1 (wA z f r) = (g_X9_level a0 i1 z f).map (fun x => (x, wA z f r)) := by
  unfold m_X9_level g_X9_level
  refine opS (rcvs ha0) ?_
  exact e_X9_level_l4 FU _ _ _ _ ha0
def g_X10_placeFoot (i1 : Int32) (i2 : Int32) (z f : Nat → Nat → Int32) : Option (Int32 × (Nat → Nat → Int32) × (Nat → Nat → Int32)) :=
  (g_X9_far 22 i1 i2 z f).bind fun x1 =>
  (g_X9_level 22 ((-1)) z f).bind fun x2 =>
  if (z 0 9) = 0 then
    some (0, z, f)
  else
    if (z 0 10) < (1 + x1) then
      some (0, z, f)
    else
      if (rdR 6 (f 24) i1) = ((-1)) then
        if 2 < (jabs ((rdR 400 (f 14) i2) - x2)) then
          some (0, z, f)
        else
          (g_X9_isInReach 22 i1 i2 z f).bind fun x3 =>
          if x3 = 0 then
            some (0, z, f)
          else
            (g_X9_isTaken 22 i2 ((-1)) z f).bind fun x4 =>
            if x4 = 0 then
              lt2 (up2 z 0 10 ((z 0 10) - (1 + x1))) fun z5 =>
              bn2 (g_X0_beginAct  z5 f) fun z6 u7 =>
              bn2 (g_X10_setFoot i1 i2 z6 u7) fun z8 u9 =>
              some (1, z8, u9)
            else
              some (0, z, f)
      else
        some (0, z, f)
set_option maxRecDepth 100000 in
set_option maxHeartbeats 4000000 in
theorem e_X10_placeFoot {r : LWd} {z f : Nat → Nat → Int32} {i1 : Int32} {i2 : Int32} : m_X10_placeFoot 0 i1 i2 (wA z f r) = (g_X10_placeFoot i1 i2 z f).map (fun q => (q.1, wA q.2.1 q.2.2 r)) := by
  unfold m_X10_placeFoot g_X10_placeFoot
  refine opS rcv_0 ?_
  refine opS fR_0_2 ?_
  refine caP (e_X9_far (Or.inl rfl)) (fun x1 => ?_)
  refine opS fR_0_0 ?_
  refine opS fR_6_3 ?_
  refine caR (e_X8_at rw_13) rfl ?_
  refine opS fR_0_2 ?_
  refine caP (e_X9_level (Or.inl rfl)) (fun x2 => ?_)
  refine opS fI_0_9 ?_
  refine iteE (fun _ => ?_) (fun _ => ?_)
  · rfl
  · refine opS fI_0_10 ?_
    refine iteE (fun _ => ?_) (fun _ => ?_)
    · rfl
    · refine opS fR_0_2 ?_
      refine opS (fRs_3 (Or.inl rfl)) ?_
      refine caR (e_X8_at rw_23) rfl ?_
      refine iteE (fun _ => ?_) (fun _ => ?_)
      · refine iteE (fun _ => ?_) (fun _ => ?_)
        · rfl
        · refine opS fR_0_2 ?_
          refine caP (e_X9_isInReach (Or.inl rfl)) (fun x3 => ?_)
          refine iteE (fun _ => ?_) (fun _ => ?_)
          · rfl
          · refine opS fR_0_2 ?_
            refine caP (e_X9_isTaken (Or.inl rfl)) (fun x4 => ?_)
            refine iteE (fun _ => ?_) (fun _ => ?_)
            · refine opS fI_0_10 ?_
              refine opS pV_0_10 ?_
              refine ltE ?_
              refine opS fR_0_5 ?_
              refine caU (e_X0_beginAct) (fun _ _ => wA_len) (fun z6 u7 => ?_)
              refine caU (e_X10_setFoot) (fun _ _ => wA_len) (fun z8 u9 => ?_)
              rfl
            · rfl
      · rfl
def g_X10_place (i1 : Int32) (i2 : Int32) (i3 : Int32) (z f : Nat → Nat → Int32) : Option ((Int32 ⊕ String) × (Nat → Nat → Int32) × (Nat → Nat → Int32)) :=
  (g_X10_isLeg i1 z f).bind fun x1 =>
  if x1 = 0 then
    some (.inr "java/lang/IndexOutOfBoundsException", z, f)
  else
    (g_X10_pointAt i2 i3 z f).bind fun x2 =>
    if x2 = ((-1)) then
      some (.inr "java/lang/IllegalArgumentException", z, f)
    else
      bn3 (g_X10_placeFoot i1 x2 z f) fun x3 z4 u5 =>
      if x3 = 0 then
        some (.inr "java/lang/IllegalStateException", z4, u5)
      else
        bn3 (g_X10_settled  z4 u5) fun x6 z7 u8 =>
        some (.inl x6, z7, u8)
set_option maxRecDepth 100000 in
set_option maxHeartbeats 4000000 in
theorem e_X10_place {r : LWd} {z f : Nat → Nat → Int32} {i1 : Int32} {i2 : Int32} {i3 : Int32} : m_X10_place 0 i1 i2 i3 (wA z f r) = (g_X10_place i1 i2 i3 z f).map (fun q => (q.1, wA q.2.1 q.2.2 r)) := by
  unfold m_X10_place g_X10_place
  refine opS rcv_0 ?_
  refine caP (e_X10_isLeg) (fun x1 => ?_)
  refine iteE (fun _ => ?_) (fun _ => ?_)
  · rfl
  · refine caP (e_X10_pointAt) (fun x2 => ?_)
    refine iteE (fun _ => ?_) (fun _ => ?_)
    · rfl
    · refine caW (e_X10_placeFoot) (fun _ _ => wA_len) (fun x3 z4 u5 => ?_)
      refine iteE (fun _ => ?_) (fun _ => ?_)
      · rfl
      · refine caW (e_X10_settled) (fun _ _ => wA_len) (fun x6 z7 u8 => ?_)
        rfl
def g_X9_moveBody_b73 (k39 : Nat → Int32 → (Nat → Nat → Int32) → (Nat → Nat → Int32) → Option (Int32 × (Nat → Nat → Int32) × (Nat → Nat → Int32))) (a0 : Nat) (i3 : Int32) (z f : Nat → Nat → Int32) : Option (Int32 × (Nat → Nat → Int32) × (Nat → Nat → Int32)) :=
  k39 a0 (i3 + 1) z f
set_option maxRecDepth 100000 in
set_option maxHeartbeats 4000000 in
theorem e_X9_moveBody_b73 {r : LWd} {k39 : Nat → Int32 → LWd → Option (Int32 × LWd)} {kg39 : Nat → Int32 → (Nat → Nat → Int32) → (Nat → Nat → Int32) → Option (Int32 × (Nat → Nat → Int32) × (Nat → Nat → Int32))} (hk39 : ∀ (a0 : Nat) (i3 : Int32) (ha0 : isSt a0) (z f : Nat → Nat → Int32), k39 a0 i3 (wA z f r) = (kg39 a0 i3 z f).map (fun q => (q.1, wA q.2.1 q.2.2 r))) (a0 : Nat) (i3 : Int32) (ha0 : isSt a0) (z f : Nat → Nat → Int32) : m_X9_moveBody_b73 k39 a0 i3 (wA z f r) = (g_X9_moveBody_b73 kg39 a0 i3 z f).map (fun q => (q.1, wA q.2.1 q.2.2 r)) := by
  unfold m_X9_moveBody_b73 g_X9_moveBody_b73
  exact hk39 _ _ ha0 _ _
def g_X9_moveBody_l39 : Nat → Nat → Int32 → (Nat → Nat → Int32) → (Nat → Nat → Int32) → Option (Int32 × (Nat → Nat → Int32) × (Nat → Nat → Int32))
  | 0, _, _, _, _ => none
  | fu + 1, a0, i3, z, f =>
    if 6 ≤ i3 then
      bn3 (g_X9_holdsWithout a0 ((-1)) z f) fun x1 z2 u3 =>
      rtZw x1 z2 u3
    else
      if (rdR 6 (f (a0 + 1 + 1)) i3) = ((-1)) then
        g_X9_moveBody_b73 (fun y0 y1 z f => g_X9_moveBody_l39 fu y0 y1 z f) a0 i3 z f
      else
        (g_X9_isInReach a0 i3 (rdR 6 (f (a0 + 1 + 1)) i3) z f).bind fun x4 =>
        if x4 = 0 then
          some (0, z, f)
        else
          g_X9_moveBody_b73 (fun y0 y1 z f => g_X9_moveBody_l39 fu y0 y1 z f) a0 i3 z f
set_option maxRecDepth 100000 in
set_option maxHeartbeats 4000000 in
theorem e_X9_moveBody_l39 {r : LWd} : ∀ (fu : Nat) (a0 : Nat) (i3 : Int32) (ha0 : isSt a0) (z f : Nat → Nat → Int32), m_X9_moveBody_l39 fu a0 i3 (wA z f r) = (g_X9_moveBody_l39 fu a0 i3 z f).map (fun q => (q.1, wA q.2.1 q.2.2 r)) := by
  intro fu
  induction fu with
  | zero => intro a0 i3 ha0 z f; first | rfl | (rw [m_X9_moveBody_l39, g_X9_moveBody_l39]; rfl)
  | succ fu ih =>
    intro a0 i3 ha0 z f
    rw [m_X9_moveBody_l39, g_X9_moveBody_l39]
    refine iteE (fun _ => ?_) (fun _ => ?_)
    · refine caW (e_X9_holdsWithout ha0) (fun _ _ => wA_len) (fun x1 z2 u3 => ?_)
      exact reZw
    · refine opS (fRs_3 ha0) ?_
      refine caR (e_X8_at (rw_of (isRw_of ha0))) rfl ?_
      refine iteE (fun _ => ?_) (fun _ => ?_)
      · exact e_X9_moveBody_b73 (hk39 := ih) _ _ ha0 _ _
      · refine caP (e_X9_isInReach ha0) (fun x4 => ?_)
        refine iteE (fun _ => ?_) (fun _ => ?_)
        · rfl
        · exact e_X9_moveBody_b73 (hk39 := ih) _ _ ha0 _ _
def g_X9_moveBody (a0 : Nat) (i1 : Int32) (i2 : Int32) (z f : Nat → Nat → Int32) : Option (Int32 × (Nat → Nat → Int32) × (Nat → Nat → Int32)) :=
  lt2 (up2 z a0 4 ((z a0 4) + i1)) fun z1 =>
  lt2 (up2 z1 a0 5 ((z1 a0 5) + i2)) fun z2 =>
  (g_X10_pointAt (z2 a0 4) (z2 a0 5) z2 f).bind fun x3 =>
  if x3 = ((-1)) then
    some (0, z2, f)
  else
    g_X9_moveBody_l39 FU a0 0 z2 f
set_option maxRecDepth 100000 in
set_option maxHeartbeats 4000000 in
theorem e_X9_moveBody {r : LWd} {z f : Nat → Nat → Int32} {a0 : Nat} {i1 : Int32} {i2 : Int32} (ha0 : isSt a0) : m_X9_moveBody a0 i1 i2 (wA z f r) = (g_X9_moveBody a0 i1 i2 z f).map (fun q => (q.1, wA q.2.1 q.2.2 r)) := by
  unfold m_X9_moveBody g_X9_moveBody
  refine opS (rcvs ha0) ?_
  refine opS (fIs_4 ha0) ?_
  refine opS (pVs_4 ha0) ?_
  refine ltE ?_
  refine opS (fIs_5 ha0) ?_
  refine opS (pVs_5 ha0) ?_
  refine ltE ?_
  refine opS (fIs_4 ha0) ?_
  refine opS (fIs_5 ha0) ?_
  refine caP (e_X10_pointAt) (fun x3 => ?_)
  refine iteE (fun _ => ?_) (fun _ => ?_)
  · rfl
  · exact e_X9_moveBody_l39 FU _ _ ha0 _ _
def g_X10_shiftBody (i1 : Int32) (i2 : Int32) (z f : Nat → Nat → Int32) : Option (Int32 × (Nat → Nat → Int32) × (Nat → Nat → Int32)) :=
  (g_X2_weight  z f).bind fun x1 =>
  (g_X10_roundedUp x1 10 z f).bind fun x2 =>
  bn2 (g_X9_copy 25 22 z f) fun z3 u4 =>
  if (z3 0 9) = 0 then
    some (0, z3, u4)
  else
    if (z3 0 10) < x2 then
      some (0, z3, u4)
    else
      bn3 (g_X9_moveBody 25 i1 i2 z3 u4) fun x5 z6 u7 =>
      if x5 = 0 then
        some (0, z6, u7)
      else
        lt2 (up2 z6 0 10 ((z6 0 10) - x2)) fun z8 =>
        bn2 (g_X0_beginAct  z8 u7) fun z9 u10 =>
        bn2 (g_X9_copy 22 25 z9 u10) fun z11 u12 =>
        some (1, z11, u12)
set_option maxRecDepth 100000 in
set_option maxHeartbeats 4000000 in
theorem e_X10_shiftBody {r : LWd} {z f : Nat → Nat → Int32} {i1 : Int32} {i2 : Int32} : m_X10_shiftBody 0 i1 i2 (wA z f r) = (g_X10_shiftBody i1 i2 z f).map (fun q => (q.1, wA q.2.1 q.2.2 r)) := by
  unfold m_X10_shiftBody g_X10_shiftBody
  refine opS rcv_0 ?_
  refine opS fR_0_1 ?_
  refine caP (e_X2_weight) (fun x1 => ?_)
  refine caP (e_X10_roundedUp) (fun x2 => ?_)
  refine opS fR_0_3 ?_
  refine opS fR_0_2 ?_
  refine caU (e_X9_copy (Or.inr (Or.inl rfl)) (Or.inl rfl)) (fun _ _ => wA_len) (fun z3 u4 => ?_)
  refine opS fI_0_9 ?_
  refine iteE (fun _ => ?_) (fun _ => ?_)
  · rfl
  · refine opS fI_0_10 ?_
    refine iteE (fun _ => ?_) (fun _ => ?_)
    · rfl
    · refine opS fR_0_3 ?_
      refine caW (e_X9_moveBody (Or.inr (Or.inl rfl))) (fun _ _ => wA_len) (fun x5 z6 u7 => ?_)
      refine iteE (fun _ => ?_) (fun _ => ?_)
      · rfl
      · refine opS fI_0_10 ?_
        refine opS pV_0_10 ?_
        refine ltE ?_
        refine opS fR_0_5 ?_
        refine caU (e_X0_beginAct) (fun _ _ => wA_len) (fun z9 u10 => ?_)
        refine opS fR_0_2 ?_
        refine opS fR_0_3 ?_
        refine caU (e_X9_copy (Or.inl rfl) (Or.inr (Or.inl rfl))) (fun _ _ => wA_len) (fun z11 u12 => ?_)
        rfl
def g_X10_shift_b26 (z f : Nat → Nat → Int32) : Option ((Int32 ⊕ String) × (Nat → Nat → Int32) × (Nat → Nat → Int32)) :=
  some (.inr "java/lang/IllegalArgumentException", z, f)
set_option maxRecDepth 100000 in
set_option maxHeartbeats 4000000 in
theorem e_X10_shift_b26 {r : LWd} (z f : Nat → Nat → Int32) : m_X10_shift_b26  (wA z f r) = (g_X10_shift_b26  z f).map (fun q => (q.1, wA q.2.1 q.2.2 r)) := by
  unfold m_X10_shift_b26 g_X10_shift_b26
  rfl
def g_X10_shift_b36 (i1 : Int32) (i2 : Int32) (z f : Nat → Nat → Int32) : Option ((Int32 ⊕ String) × (Nat → Nat → Int32) × (Nat → Nat → Int32)) :=
  bn3 (g_X10_shiftBody i1 i2 z f) fun x1 z2 u3 =>
  if x1 = 0 then
    some (.inr "java/lang/IllegalStateException", z2, u3)
  else
    bn3 (g_X10_settled  z2 u3) fun x4 z5 u6 =>
    some (.inl x4, z5, u6)
set_option maxRecDepth 100000 in
set_option maxHeartbeats 4000000 in
theorem e_X10_shift_b36 {r : LWd} (i1 : Int32) (i2 : Int32) (z f : Nat → Nat → Int32) : m_X10_shift_b36 0 i1 i2 (wA z f r) = (g_X10_shift_b36 i1 i2 z f).map (fun q => (q.1, wA q.2.1 q.2.2 r)) := by
  unfold m_X10_shift_b36 g_X10_shift_b36
  refine caW (e_X10_shiftBody) (fun _ _ => wA_len) (fun x1 z2 u3 => ?_)
  refine iteE (fun _ => ?_) (fun _ => ?_)
  · rfl
  · refine caW (e_X10_settled) (fun _ _ => wA_len) (fun x4 z5 u6 => ?_)
    rfl
def g_X10_shift (i1 : Int32) (i2 : Int32) (z f : Nat → Nat → Int32) : Option ((Int32 ⊕ String) × (Nat → Nat → Int32) × (Nat → Nat → Int32)) :=
  (g_X10_isWithin i1 ((-1)) 1 z f).bind fun x1 =>
  if x1 = 0 then
    g_X10_shift_b26  z f
  else
    (g_X10_isWithin i2 ((-1)) 1 z f).bind fun x2 =>
    if x2 = 0 then
      g_X10_shift_b26  z f
    else
      if i1 = 0 then
        if i2 = 0 then
          g_X10_shift_b26  z f
        else
          g_X10_shift_b36 i1 i2 z f
      else
        g_X10_shift_b36 i1 i2 z f
set_option maxRecDepth 100000 in
set_option maxHeartbeats 4000000 in
theorem e_X10_shift {r : LWd} {z f : Nat → Nat → Int32} {i1 : Int32} {i2 : Int32} : m_X10_shift 0 i1 i2 (wA z f r) = (g_X10_shift i1 i2 z f).map (fun q => (q.1, wA q.2.1 q.2.2 r)) := by
  unfold m_X10_shift g_X10_shift
  refine opS rcv_0 ?_
  refine caP (e_X10_isWithin) (fun x1 => ?_)
  refine iteE (fun _ => ?_) (fun _ => ?_)
  · exact e_X10_shift_b26   _ _
  · refine caP (e_X10_isWithin) (fun x2 => ?_)
    refine iteE (fun _ => ?_) (fun _ => ?_)
    · exact e_X10_shift_b26   _ _
    · refine iteE (fun _ => ?_) (fun _ => ?_)
      · refine iteE (fun _ => ?_) (fun _ => ?_)
        · exact e_X10_shift_b26   _ _
        · exact e_X10_shift_b36 _ _  _ _
      · exact e_X10_shift_b36 _ _  _ _
def g_X10_isPhaseDone_b139 (i5 : Int32) (i6 : Int32) (z f : Nat → Nat → Int32) : Option (Int32 × (Nat → Nat → Int32) × (Nat → Nat → Int32)) :=
  bn3 (g_X10_shiftBody i5 i6 z f) fun x1 z2 u3 =>
  if x1 = 0 then
    some (0, z2, u3)
  else
    bn3 (g_X10_settled  z2 u3) fun x4 z5 u6 =>
    if x4 = 0 then
      some (1, z5, u6)
    else
      some (0, z5, u6)
set_option maxRecDepth 100000 in
set_option maxHeartbeats 4000000 in
theorem e_X10_isPhaseDone_b139 {r : LWd} (i5 : Int32) (i6 : Int32) (z f : Nat → Nat → Int32) : m_X10_isPhaseDone_b139 0 i5 i6 (wA z f r) = (g_X10_isPhaseDone_b139 i5 i6 z f).map (fun q => (q.1, wA q.2.1 q.2.2 r)) := by
  unfold m_X10_isPhaseDone_b139 g_X10_isPhaseDone_b139
  refine caW (e_X10_shiftBody) (fun _ _ => wA_len) (fun x1 z2 u3 => ?_)
  refine iteE (fun _ => ?_) (fun _ => ?_)
  · rfl
  · refine caW (e_X10_settled) (fun _ _ => wA_len) (fun x4 z5 u6 => ?_)
    refine iteE (fun _ => ?_) (fun _ => ?_)
    · rfl
    · rfl
def g_X10_isPhaseDone (i1 : Int32) (z f : Nat → Nat → Int32) : Option (Int32 × (Nat → Nat → Int32) × (Nat → Nat → Int32)) :=
  bn3 (g_X10_liftFoot (rdR 8 (f 43) i1) z f) fun x1 z2 u3 =>
  if x1 = 0 then
    some (0, z2, u3)
  else
    bn3 (g_X10_settled  z2 u3) fun x4 z5 u6 =>
    if x4 = 0 then
      (g_X10_xOf (rdR 6 (f 24) (rdR 8 (f 43) i1)) z5 u6).bind fun x7 =>
      (g_X10_yOf (rdR 6 (f 24) (rdR 8 (f 43) i1)) z5 u6).bind fun x8 =>
      (g_X10_pointAt (x7 + (rdR 8 (u6 45) i1)) (x8 + (rdR 8 (u6 47) i1)) z5 u6).bind fun x9 =>
      if x9 = ((-1)) then
        some (0, z5, u6)
      else
        bn3 (g_X10_placeFoot (rdR 8 (f 43) i1) x9 z5 u6) fun x10 z11 u12 =>
        if x10 = 0 then
          some (0, z11, u12)
        else
          bn3 (g_X10_settled  z11 u12) fun x13 z14 u15 =>
          if x13 = 0 then
            if (rdR 8 (u15 49) i1) = 0 then
              if (rdR 8 (u15 51) i1) = 0 then
                some (1, z14, u15)
              else
                g_X10_isPhaseDone_b139 (rdR 8 (u15 49) i1) (rdR 8 (u15 51) i1) z14 u15
            else
              g_X10_isPhaseDone_b139 (rdR 8 (u15 49) i1) (rdR 8 (u15 51) i1) z14 u15
          else
            some (0, z14, u15)
    else
      some (0, z5, u6)
set_option maxRecDepth 100000 in
set_option maxHeartbeats 4000000 in
theorem e_X10_isPhaseDone {r : LWd} {z f : Nat → Nat → Int32} {i1 : Int32} : m_X10_isPhaseDone 0 i1 (wA z f r) = (g_X10_isPhaseDone i1 z f).map (fun q => (q.1, wA q.2.1 q.2.2 r)) := by
  unfold m_X10_isPhaseDone g_X10_isPhaseDone
  refine opS rcv_0 ?_
  refine opS fR_0_7 ?_
  refine opS fR_41_0 ?_
  refine caR (e_X8_at rw_42) rfl ?_
  refine opS fR_0_2 ?_
  refine opS (fRs_3 (Or.inl rfl)) ?_
  refine caR (e_X8_at rw_23) rfl ?_
  refine caW (e_X10_liftFoot) (fun _ _ => wA_len) (fun x1 z2 u3 => ?_)
  refine iteE (fun _ => ?_) (fun _ => ?_)
  · rfl
  · refine caW (e_X10_settled) (fun _ _ => wA_len) (fun x4 z5 u6 => ?_)
    refine iteE (fun _ => ?_) (fun _ => ?_)
    · refine caP (e_X10_xOf) (fun x7 => ?_)
      refine opS fR_0_7 ?_
      refine opS fR_41_1 ?_
      refine caR (e_X8_at rw_44) rfl ?_
      refine caP (e_X10_yOf) (fun x8 => ?_)
      refine opS fR_0_7 ?_
      refine opS fR_41_2 ?_
      refine caR (e_X8_at rw_46) rfl ?_
      refine caP (e_X10_pointAt) (fun x9 => ?_)
      refine iteE (fun _ => ?_) (fun _ => ?_)
      · rfl
      · refine caW (e_X10_placeFoot) (fun _ _ => wA_len) (fun x10 z11 u12 => ?_)
        refine iteE (fun _ => ?_) (fun _ => ?_)
        · rfl
        · refine caW (e_X10_settled) (fun _ _ => wA_len) (fun x13 z14 u15 => ?_)
          refine iteE (fun _ => ?_) (fun _ => ?_)
          · refine opS fR_0_7 ?_
            refine opS fR_41_3 ?_
            refine caR (e_X8_at rw_48) rfl ?_
            refine opS fR_0_7 ?_
            refine opS fR_41_4 ?_
            refine caR (e_X8_at rw_50) rfl ?_
            refine iteE (fun _ => ?_) (fun _ => ?_)
            · refine iteE (fun _ => ?_) (fun _ => ?_)
              · rfl
              · exact e_X10_isPhaseDone_b139 _ _  _ _
            · exact e_X10_isPhaseDone_b139 _ _  _ _
          · rfl
    · rfl
def g_X3_goOn_b24 (s1 : Int32) (z f : Nat → Nat → Int32) : Option ((Nat → Nat → Int32) × (Nat → Nat → Int32)) :=
  lt2 (up2 z 41 6 s1) fun z1 =>
  some (z1, f)
set_option maxRecDepth 100000 in
set_option maxHeartbeats 4000000 in
theorem e_X3_goOn_b24 {r : LWd} (s1 : Int32) (z f : Nat → Nat → Int32) : m_X3_goOn_b24 41 s1 (wA z f r) = (g_X3_goOn_b24 s1 z f).map (fun q => wA q.1 q.2 r) := by
  unfold m_X3_goOn_b24 g_X3_goOn_b24
  refine opS pV_41_6 ?_
  refine ltE ?_
  rfl
def g_X3_goOn (z f : Nat → Nat → Int32) : Option ((Nat → Nat → Int32) × (Nat → Nat → Int32)) :=
  if (z 41 5) ≤ ((z 41 6) + 1) then
    g_X3_goOn_b24 0 z f
  else
    g_X3_goOn_b24 ((z 41 6) + 1) z f
set_option maxRecDepth 100000 in
set_option maxHeartbeats 4000000 in
theorem e_X3_goOn {r : LWd} {z f : Nat → Nat → Int32} : m_X3_goOn 41 (wA z f r) = (g_X3_goOn  z f).map (fun q => wA q.1 q.2 r) := by
  unfold m_X3_goOn g_X3_goOn
  refine opS rcv_41 ?_
  refine opS fI_41_6 ?_
  refine opS fI_41_5 ?_
  refine iteE (fun _ => ?_) (fun _ => ?_)
  · exact e_X3_goOn_b24 _  _ _
  · refine opS fI_41_6 ?_
    exact e_X3_goOn_b24 _  _ _
def g_X10_walk_l42 : Nat → Int32 → Int32 → (Nat → Nat → Int32) → (Nat → Nat → Int32) → Option ((Int32 ⊕ String) × (Nat → Nat → Int32) × (Nat → Nat → Int32))
  | 0, _, _, _, _ => none
  | fu + 1, i1, i2, z, f =>
    if i1 ≤ i2 then
      some (.inl i2, z, f)
    else
      bn3 (g_X10_isPhaseDone (z 41 6) z f) fun x1 z2 u3 =>
      if x1 = 0 then
        some (.inl i2, z2, u3)
      else
        bn2 (g_X3_goOn  z2 u3) fun z4 u5 =>
        g_X10_walk_l42 fu i1 (i2 + 1) z4 u5
set_option maxRecDepth 100000 in
set_option maxHeartbeats 4000000 in
theorem e_X10_walk_l42 {r : LWd} : ∀ (fu : Nat) (i1 : Int32) (i2 : Int32) (z f : Nat → Nat → Int32), m_X10_walk_l42 fu 0 i1 i2 (wA z f r) = (g_X10_walk_l42 fu i1 i2 z f).map (fun q => (q.1, wA q.2.1 q.2.2 r)) := by
  intro fu
  induction fu with
  | zero => intro i1 i2  z f; first | rfl | (rw [m_X10_walk_l42, g_X10_walk_l42]; rfl)
  | succ fu ih =>
    intro i1 i2  z f
    rw [m_X10_walk_l42, g_X10_walk_l42]
    refine iteE (fun _ => ?_) (fun _ => ?_)
    · rfl
    · refine opS fR_0_7 ?_
      refine opS fI_41_6 ?_
      refine caW (e_X10_isPhaseDone) (fun _ _ => wA_len) (fun x1 z2 u3 => ?_)
      refine iteE (fun _ => ?_) (fun _ => ?_)
      · rfl
      · refine opS fR_0_7 ?_
        refine caU (e_X3_goOn) (fun _ _ => wA_len) (fun z4 u5 => ?_)
        exact ih _ _  _ _
def g_X10_walk (i1 : Int32) (z f : Nat → Nat → Int32) : Option ((Int32 ⊕ String) × (Nat → Nat → Int32) × (Nat → Nat → Int32)) :=
  (g_X10_isWithin i1 1 20 z f).bind fun x1 =>
  if x1 = 0 then
    some (.inr "java/lang/IllegalArgumentException", z, f)
  else
    if (z 41 5) = 0 then
      some (.inr "java/lang/IllegalStateException", z, f)
    else
      g_X10_walk_l42 FU i1 0 z f
set_option maxRecDepth 100000 in
set_option maxHeartbeats 4000000 in
theorem e_X10_walk {r : LWd} {z f : Nat → Nat → Int32} {i1 : Int32} : m_X10_walk 0 i1 (wA z f r) = (g_X10_walk i1 z f).map (fun q => (q.1, wA q.2.1 q.2.2 r)) := by
  unfold m_X10_walk g_X10_walk
  refine opS rcv_0 ?_
  refine caP (e_X10_isWithin) (fun x1 => ?_)
  refine iteE (fun _ => ?_) (fun _ => ?_)
  · rfl
  · refine opS fR_0_7 ?_
    refine opS fI_41_5 ?_
    refine iteE (fun _ => ?_) (fun _ => ?_)
    · rfl
    · exact e_X10_walk_l42 FU _ _  _ _
def g_X10_machine (i1 : Int32) (z f : Nat → Nat → Int32) : Option (Int32 ⊕ String) :=
  if i1 = 0 then
    some (.inl (z 22 4))
  else
    if i1 = 1 then
      some (.inl (z 22 5))
    else
      if i1 = 2 then
        if (z 0 9) = 0 then
          some (.inl 0)
        else
          some (.inl 1)
      else
        if i1 = 3 then
          some (.inl (z 0 10))
        else
          if i1 = 4 then
            some (.inl (z 15 4))
          else
            if i1 = 5 then
              (g_X9_level 22 ((-1)) z f).bind fun x1 =>
              some (.inl x1)
            else
              if i1 = 6 then
                (g_X9_pressure 22 z f).bind fun x2 =>
                some (.inl x2)
              else
                if i1 = 7 then
                  (g_X9_down 22 z f).bind fun x3 =>
                  some (.inl x3)
                else
                  if i1 = 8 then
                    some (.inl (z 33 0))
                  else
                    if i1 = 9 then
                      some (.inl (z 34 3))
                    else
                      if i1 = 10 then
                        some (.inl (z 15 3))
                      else
                        if i1 = 11 then
                          if (z 41 5) = 0 then
                            some (.inl ((-1)))
                          else
                            some (.inl (z 41 6))
                        else
                          some (.inr "java/lang/IllegalArgumentException")
set_option maxRecDepth 100000 in
set_option maxHeartbeats 4000000 in
theorem e_X10_machine {r : LWd} {z f : Nat → Nat → Int32} {i1 : Int32} : m_X10_machine 0 i1 (wA z f r) = (g_X10_machine i1 z f).map (fun x => (x, wA z f r)) := by
  unfold m_X10_machine g_X10_machine
  refine opS rcv_0 ?_
  refine iteE (fun _ => ?_) (fun _ => ?_)
  · refine opS fR_0_2 ?_
    refine opS (fIs_4 (Or.inl rfl)) ?_
    rfl
  · refine iteE (fun _ => ?_) (fun _ => ?_)
    · refine opS fR_0_2 ?_
      refine opS (fIs_5 (Or.inl rfl)) ?_
      rfl
    · refine iteE (fun _ => ?_) (fun _ => ?_)
      · refine opS fI_0_9 ?_
        refine iteE (fun _ => ?_) (fun _ => ?_)
        · rfl
        · rfl
      · refine iteE (fun _ => ?_) (fun _ => ?_)
        · refine opS fI_0_10 ?_
          rfl
        · refine iteE (fun _ => ?_) (fun _ => ?_)
          · refine opS fR_0_1 ?_
            refine opS fI_15_4 ?_
            rfl
          · refine iteE (fun _ => ?_) (fun _ => ?_)
            · refine opS fR_0_2 ?_
              refine caP (e_X9_level (Or.inl rfl)) (fun x1 => ?_)
              rfl
            · refine iteE (fun _ => ?_) (fun _ => ?_)
              · refine opS fR_0_2 ?_
                refine caP (e_X9_pressure (Or.inl rfl)) (fun x2 => ?_)
                rfl
              · refine iteE (fun _ => ?_) (fun _ => ?_)
                · refine opS fR_0_2 ?_
                  refine caP (e_X9_down (Or.inl rfl)) (fun x3 => ?_)
                  rfl
                · refine iteE (fun _ => ?_) (fun _ => ?_)
                  · refine opS fR_0_5 ?_
                    refine opS fI_33_0 ?_
                    rfl
                  · refine iteE (fun _ => ?_) (fun _ => ?_)
                    · refine opS fR_0_6 ?_
                      refine opS fI_34_3 ?_
                      rfl
                    · refine iteE (fun _ => ?_) (fun _ => ?_)
                      · refine opS fR_0_1 ?_
                        refine opS fI_15_3 ?_
                        rfl
                      · refine iteE (fun _ => ?_) (fun _ => ?_)
                        · refine opS fR_0_7 ?_
                          refine opS fI_41_5 ?_
                          refine iteE (fun _ => ?_) (fun _ => ?_)
                          · rfl
                          · refine opS fR_0_7 ?_
                            refine opS fI_41_6 ?_
                            rfl
                        · rfl
def g_X10_foot (i1 : Int32) (i2 : Int32) (z f : Nat → Nat → Int32) : Option (Int32 ⊕ String) :=
  (g_X10_isLeg i1 z f).bind fun x1 =>
  if x1 = 0 then
    some (.inr "java/lang/IndexOutOfBoundsException")
  else
    if i2 = 0 then
      if (rdR 6 (f 24) i1) = ((-1)) then
        some (.inl 0)
      else
        some (.inl 1)
    else
      if i2 = 1 then
        if (rdR 6 (f 24) i1) = ((-1)) then
          some (.inl ((-1)))
        else
          (g_X10_xOf (rdR 6 (f 24) i1) z f).bind fun x2 =>
          some (.inl x2)
      else
        if i2 = 2 then
          if (rdR 6 (f 24) i1) = ((-1)) then
            some (.inl ((-1)))
          else
            (g_X10_yOf (rdR 6 (f 24) i1) z f).bind fun x3 =>
            some (.inl x3)
        else
          some (.inr "java/lang/IllegalArgumentException")
set_option maxRecDepth 100000 in
set_option maxHeartbeats 4000000 in
theorem e_X10_foot {r : LWd} {z f : Nat → Nat → Int32} {i1 : Int32} {i2 : Int32} : m_X10_foot 0 i1 i2 (wA z f r) = (g_X10_foot i1 i2 z f).map (fun x => (x, wA z f r)) := by
  unfold m_X10_foot g_X10_foot
  refine opS rcv_0 ?_
  refine caP (e_X10_isLeg) (fun x1 => ?_)
  refine iteE (fun _ => ?_) (fun _ => ?_)
  · rfl
  · refine opS fR_0_2 ?_
    refine opS (fRs_3 (Or.inl rfl)) ?_
    refine caR (e_X8_at rw_23) rfl ?_
    refine iteE (fun _ => ?_) (fun _ => ?_)
    · refine iteE (fun _ => ?_) (fun _ => ?_)
      · rfl
      · rfl
    · refine iteE (fun _ => ?_) (fun _ => ?_)
      · refine iteE (fun _ => ?_) (fun _ => ?_)
        · rfl
        · refine caP (e_X10_xOf) (fun x2 => ?_)
          rfl
      · refine iteE (fun _ => ?_) (fun _ => ?_)
        · refine iteE (fun _ => ?_) (fun _ => ?_)
          · rfl
          · refine caP (e_X10_yOf) (fun x3 => ?_)
            rfl
        · rfl
