/-! the methods over the two functions: written by wip/p27/gmake.py -/
def g_L_isTold_b1143 (s0 : Int32) (s1 : Int32) (z f : Nat → Nat → Int32) : Option (Int32 × (Nat → Nat → Int32) × (Nat → Nat → Int32)) :=
  if s0 = s1 then
    some (1, z, f)
  else
    some (0, z, f)
set_option maxRecDepth 100000 in
set_option maxHeartbeats 4000000 in
theorem e_L_isTold_b1143 {r : LWd} (s0 : Int32) (s1 : Int32) (z f : Nat → Nat → Int32) : m_L_isTold_b1143 s0 s1 (wA z f r) = (g_L_isTold_b1143 s0 s1 z f).map (fun q => (q.1, wA q.2.1 q.2.2 r)) := by
  unfold m_L_isTold_b1143 g_L_isTold_b1143
  refine iteE (fun _ => ?_) (fun _ => ?_)
  · rfl
  · rfl
def g_L_isTold_b1093 (i17 : Int32) (i18 : Int32) (i19 : Int32) (i20 : Int32) (i21 : Int32) (i22 : Int32) (i23 : Int32) (i24 : Int32) (z f : Nat → Nat → Int32) : Option (Int32 × (Nat → Nat → Int32) × (Nat → Nat → Int32)) :=
  bn3 (g_L_does 4 i17 i18 i19 i20 i21 z f) fun x1 z2 u3 =>
  if i22 = 0 then
    g_L_isTold_b1143 x1 ((-3000000)) z2 u3
  else
    if i23 = 0 then
      g_L_isTold_b1143 x1 ((-2000000)) z2 u3
    else
      if i24 = 0 then
        g_L_isTold_b1143 x1 ((-1000000)) z2 u3
      else
        g_L_isTold_b1143 x1 (u3 74 12) z2 u3
set_option maxRecDepth 100000 in
set_option maxHeartbeats 4000000 in
theorem e_L_isTold_b1093 {r : LWd} (i17 : Int32) (i18 : Int32) (i19 : Int32) (i20 : Int32) (i21 : Int32) (i22 : Int32) (i23 : Int32) (i24 : Int32) (z f : Nat → Nat → Int32) : m_L_isTold_b1093 0 74 i17 i18 i19 i20 i21 i22 i23 i24 (wA z f r) = (g_L_isTold_b1093 i17 i18 i19 i20 i21 i22 i23 i24 z f).map (fun q => (q.1, wA q.2.1 q.2.2 r)) := by
  unfold m_L_isTold_b1093 g_L_isTold_b1093
  refine caW e_L_does (fun _ _ => wA_len) (fun x1 z2 u3 => ?_)
  refine iteE (fun _ => ?_) (fun _ => ?_)
  · exact e_L_isTold_b1143 _ _  _ _
  · refine iteE (fun _ => ?_) (fun _ => ?_)
    · exact e_L_isTold_b1143 _ _  _ _
    · refine iteE (fun _ => ?_) (fun _ => ?_)
      · exact e_L_isTold_b1143 _ _  _ _
      · refine opS (aI_74.trans (ixl_12 _)) ?_
        exact e_L_isTold_b1143 _ _  _ _
def g_L_isTold_b1030 (i17 : Int32) (i18 : Int32) (i19 : Int32) (i20 : Int32) (i21 : Int32) (i22 : Int32) (i23 : Int32) (s0 : Int32) (z f : Nat → Nat → Int32) : Option (Int32 × (Nat → Nat → Int32) × (Nat → Nat → Int32)) :=
  if s0 = 0 then
    g_L_isTold_b1093 i17 i18 i19 i20 i21 i22 i23 s0 z f
  else
    (ixA 8 (f 74 12)).bind fun j2 =>
    lt2 (upf f 72 j2 ((((i17 + (8 * (i18 + 6))) + (128 * (i19 + 6))) + (2048 * (i20 + 1))) + (8192 * (i21 + 1)))) fun u3 =>
    lt2 (upf u3 74 12 ((u3 74 12) + 1)) fun u6 =>
    g_L_isTold_b1093 i17 i18 i19 i20 i21 i22 i23 s0 z u6
set_option maxRecDepth 100000 in
set_option maxHeartbeats 4000000 in
theorem e_L_isTold_b1030 {r : LWd} (i17 : Int32) (i18 : Int32) (i19 : Int32) (i20 : Int32) (i21 : Int32) (i22 : Int32) (i23 : Int32) (s0 : Int32) (z f : Nat → Nat → Int32) : m_L_isTold_b1030 0 72 74 i17 i18 i19 i20 i21 i22 i23 s0 (wA z f r) = (g_L_isTold_b1030 i17 i18 i19 i20 i21 i22 i23 s0 z f).map (fun q => (q.1, wA q.2.1 q.2.2 r)) := by
  unfold m_L_isTold_b1030 g_L_isTold_b1030
  refine iteE (fun _ => ?_) (fun _ => ?_)
  · exact e_L_isTold_b1093 _ _ _ _ _ _ _ _  _ _
  · refine opS (aI_74.trans (ixl_12 _)) ?_
    refine opM sI_72 (fun j2 hj2 => ?_)
    refine ltE ?_
    refine opS (aI_74.trans (ixl_12 _)) ?_
    refine opS (sI_74.trans (ixl_12 _)) ?_
    refine ltE ?_
    exact e_L_isTold_b1093 _ _ _ _ _ _ _ _  _ _
def g_L_isTold_b1029 (i17 : Int32) (i18 : Int32) (i19 : Int32) (i20 : Int32) (i21 : Int32) (i22 : Int32) (i23 : Int32) (z f : Nat → Nat → Int32) : Option (Int32 × (Nat → Nat → Int32) × (Nat → Nat → Int32)) :=
  g_L_isTold_b1030 i17 i18 i19 i20 i21 i22 i23 0 z f
set_option maxRecDepth 100000 in
set_option maxHeartbeats 4000000 in
theorem e_L_isTold_b1029 {r : LWd} (i17 : Int32) (i18 : Int32) (i19 : Int32) (i20 : Int32) (i21 : Int32) (i22 : Int32) (i23 : Int32) (z f : Nat → Nat → Int32) : m_L_isTold_b1029 0 72 74 i17 i18 i19 i20 i21 i22 i23 (wA z f r) = (g_L_isTold_b1029 i17 i18 i19 i20 i21 i22 i23 z f).map (fun q => (q.1, wA q.2.1 q.2.2 r)) := by
  unfold m_L_isTold_b1029 g_L_isTold_b1029
  exact e_L_isTold_b1030 _ _ _ _ _ _ _ _  _ _
def g_L_isTold_b1003 (i17 : Int32) (i18 : Int32) (i19 : Int32) (i20 : Int32) (i21 : Int32) (i22 : Int32) (s0 : Int32) (z f : Nat → Nat → Int32) : Option (Int32 × (Nat → Nat → Int32) × (Nat → Nat → Int32)) :=
  if i22 = 0 then
    g_L_isTold_b1029 i17 i18 i19 i20 i21 i22 s0 z f
  else
    if s0 = 0 then
      g_L_isTold_b1029 i17 i18 i19 i20 i21 i22 s0 z f
    else
      if 8 ≤ (f 74 12) then
        g_L_isTold_b1029 i17 i18 i19 i20 i21 i22 s0 z f
      else
        g_L_isTold_b1030 i17 i18 i19 i20 i21 i22 s0 1 z f
set_option maxRecDepth 100000 in
set_option maxHeartbeats 4000000 in
theorem e_L_isTold_b1003 {r : LWd} (i17 : Int32) (i18 : Int32) (i19 : Int32) (i20 : Int32) (i21 : Int32) (i22 : Int32) (s0 : Int32) (z f : Nat → Nat → Int32) : m_L_isTold_b1003 0 72 74 i17 i18 i19 i20 i21 i22 s0 (wA z f r) = (g_L_isTold_b1003 i17 i18 i19 i20 i21 i22 s0 z f).map (fun q => (q.1, wA q.2.1 q.2.2 r)) := by
  unfold m_L_isTold_b1003 g_L_isTold_b1003
  refine iteE (fun _ => ?_) (fun _ => ?_)
  · exact e_L_isTold_b1029 _ _ _ _ _ _ _  _ _
  · refine iteE (fun _ => ?_) (fun _ => ?_)
    · exact e_L_isTold_b1029 _ _ _ _ _ _ _  _ _
    · refine opS (aI_74.trans (ixl_12 _)) ?_
      refine iteE (fun _ => ?_) (fun _ => ?_)
      · exact e_L_isTold_b1029 _ _ _ _ _ _ _  _ _
      · exact e_L_isTold_b1030 _ _ _ _ _ _ _ _  _ _
def g_L_isTold_b1002 (i17 : Int32) (i18 : Int32) (i19 : Int32) (i20 : Int32) (i21 : Int32) (i22 : Int32) (z f : Nat → Nat → Int32) : Option (Int32 × (Nat → Nat → Int32) × (Nat → Nat → Int32)) :=
  g_L_isTold_b1003 i17 i18 i19 i20 i21 i22 0 z f
set_option maxRecDepth 100000 in
set_option maxHeartbeats 4000000 in
theorem e_L_isTold_b1002 {r : LWd} (i17 : Int32) (i18 : Int32) (i19 : Int32) (i20 : Int32) (i21 : Int32) (i22 : Int32) (z f : Nat → Nat → Int32) : m_L_isTold_b1002 0 72 74 i17 i18 i19 i20 i21 i22 (wA z f r) = (g_L_isTold_b1002 i17 i18 i19 i20 i21 i22 z f).map (fun q => (q.1, wA q.2.1 q.2.2 r)) := by
  unfold m_L_isTold_b1002 g_L_isTold_b1002
  exact e_L_isTold_b1003 _ _ _ _ _ _ _  _ _
def g_L_isTold_b976 (i17 : Int32) (i18 : Int32) (i19 : Int32) (i20 : Int32) (i21 : Int32) (s0 : Int32) (z f : Nat → Nat → Int32) : Option (Int32 × (Nat → Nat → Int32) × (Nat → Nat → Int32)) :=
  if 7 ≤ i18 then
    g_L_isTold_b1002 i17 i18 i19 i20 i21 s0 z f
  else
    if i19 ≤ ((-7)) then
      g_L_isTold_b1002 i17 i18 i19 i20 i21 s0 z f
    else
      if 2 ≤ i20 then
        g_L_isTold_b1002 i17 i18 i19 i20 i21 s0 z f
      else
        g_L_isTold_b1003 i17 i18 i19 i20 i21 s0 1 z f
set_option maxRecDepth 100000 in
set_option maxHeartbeats 4000000 in
theorem e_L_isTold_b976 {r : LWd} (i17 : Int32) (i18 : Int32) (i19 : Int32) (i20 : Int32) (i21 : Int32) (s0 : Int32) (z f : Nat → Nat → Int32) : m_L_isTold_b976 0 72 74 i17 i18 i19 i20 i21 s0 (wA z f r) = (g_L_isTold_b976 i17 i18 i19 i20 i21 s0 z f).map (fun q => (q.1, wA q.2.1 q.2.2 r)) := by
  unfold m_L_isTold_b976 g_L_isTold_b976
  refine iteE (fun _ => ?_) (fun _ => ?_)
  · exact e_L_isTold_b1002 _ _ _ _ _ _  _ _
  · refine iteE (fun _ => ?_) (fun _ => ?_)
    · exact e_L_isTold_b1002 _ _ _ _ _ _  _ _
    · refine iteE (fun _ => ?_) (fun _ => ?_)
      · exact e_L_isTold_b1002 _ _ _ _ _ _  _ _
      · exact e_L_isTold_b1003 _ _ _ _ _ _ _  _ _
def g_L_isTold_b948 (i10 : Int32) (i17 : Int32) (i18 : Int32) (i19 : Int32) (s0 : Int32) (z f : Nat → Nat → Int32) : Option (Int32 × (Nat → Nat → Int32) × (Nat → Nat → Int32)) :=
  if (f 74 7) ≤ i17 then
    g_L_isTold_b976 i17 i18 i19 s0 ((jrem (i10 / 21) 3) - 1) 0 z f
  else
    g_L_isTold_b976 i17 i18 i19 s0 ((jrem (i10 / 21) 3) - 1) 1 z f
set_option maxRecDepth 100000 in
set_option maxHeartbeats 4000000 in
theorem e_L_isTold_b948 {r : LWd} (i10 : Int32) (i17 : Int32) (i18 : Int32) (i19 : Int32) (s0 : Int32) (z f : Nat → Nat → Int32) : m_L_isTold_b948 0 72 74 i10 i17 i18 i19 s0 (wA z f r) = (g_L_isTold_b948 i10 i17 i18 i19 s0 z f).map (fun q => (q.1, wA q.2.1 q.2.2 r)) := by
  unfold m_L_isTold_b948 g_L_isTold_b948
  refine opS (aI_74.trans (ixl_7 _)) ?_
  refine iteE (fun _ => ?_) (fun _ => ?_)
  · exact e_L_isTold_b976 _ _ _ _ _ _  _ _
  · exact e_L_isTold_b976 _ _ _ _ _ _  _ _
def g_L_isTold_b920 (i10 : Int32) (i17 : Int32) (i18 : Int32) (s0 : Int32) (z f : Nat → Nat → Int32) : Option (Int32 × (Nat → Nat → Int32) × (Nat → Nat → Int32)) :=
  if (jrem (i10 / 7) 13) = 12 then
    g_L_isTold_b948 i10 i17 i18 s0 2 z f
  else
    g_L_isTold_b948 i10 i17 i18 s0 ((jrem (i10 / 7) 3) - 1) z f
set_option maxRecDepth 100000 in
set_option maxHeartbeats 4000000 in
theorem e_L_isTold_b920 {r : LWd} (i10 : Int32) (i17 : Int32) (i18 : Int32) (s0 : Int32) (z f : Nat → Nat → Int32) : m_L_isTold_b920 0 72 74 i10 i17 i18 s0 (wA z f r) = (g_L_isTold_b920 i10 i17 i18 s0 z f).map (fun q => (q.1, wA q.2.1 q.2.2 r)) := by
  unfold m_L_isTold_b920 g_L_isTold_b920
  refine iteE (fun _ => ?_) (fun _ => ?_)
  · exact e_L_isTold_b948 _ _ _ _ _  _ _
  · exact e_L_isTold_b948 _ _ _ _ _  _ _
def g_L_isTold_b891 (i10 : Int32) (i11 : Int32) (i17 : Int32) (s0 : Int32) (z f : Nat → Nat → Int32) : Option (Int32 × (Nat → Nat → Int32) × (Nat → Nat → Int32)) :=
  if (jrem (i11 / 13) 13) = 12 then
    g_L_isTold_b920 i10 i17 s0 ((-7)) z f
  else
    g_L_isTold_b920 i10 i17 s0 ((jrem (i11 / 13) 3) - 1) z f
set_option maxRecDepth 100000 in
set_option maxHeartbeats 4000000 in
theorem e_L_isTold_b891 {r : LWd} (i10 : Int32) (i11 : Int32) (i17 : Int32) (s0 : Int32) (z f : Nat → Nat → Int32) : m_L_isTold_b891 0 72 74 i10 i11 i17 s0 (wA z f r) = (g_L_isTold_b891 i10 i11 i17 s0 z f).map (fun q => (q.1, wA q.2.1 q.2.2 r)) := by
  unfold m_L_isTold_b891 g_L_isTold_b891
  refine iteE (fun _ => ?_) (fun _ => ?_)
  · exact e_L_isTold_b920 _ _ _ _  _ _
  · exact e_L_isTold_b920 _ _ _ _  _ _
def g_L_isTold_b843 (s0 : Int32) (s1 : Int32) (z f : Nat → Nat → Int32) : Option (Int32 × (Nat → Nat → Int32) × (Nat → Nat → Int32)) :=
  if s0 = s1 then
    some (1, z, f)
  else
    some (0, z, f)
set_option maxRecDepth 100000 in
set_option maxHeartbeats 4000000 in
theorem e_L_isTold_b843 {r : LWd} (s0 : Int32) (s1 : Int32) (z f : Nat → Nat → Int32) : m_L_isTold_b843 s0 s1 (wA z f r) = (g_L_isTold_b843 s0 s1 z f).map (fun q => (q.1, wA q.2.1 q.2.2 r)) := by
  unfold m_L_isTold_b843 g_L_isTold_b843
  refine iteE (fun _ => ?_) (fun _ => ?_)
  · rfl
  · rfl
def g_L_isTold_b817 (i17 : Int32) (i18 : Int32) (s1 : Int32) (s2 : Int32) (z f : Nat → Nat → Int32) : Option (Int32 × (Nat → Nat → Int32) × (Nat → Nat → Int32)) :=
  (ixA 15 s1).bind fun j1 =>
  lt2 (upf f 74 j1 s2) fun u2 =>
  bn3 (g_L_does 3 i17 0 0 0 0 z u2) fun x3 z4 u5 =>
  if i18 = 0 then
    g_L_isTold_b843 x3 ((-2000000)) z4 u5
  else
    g_L_isTold_b843 x3 (u5 74 3) z4 u5
set_option maxRecDepth 100000 in
set_option maxHeartbeats 4000000 in
theorem e_L_isTold_b817 {r : LWd} (i17 : Int32) (i18 : Int32) (s1 : Int32) (s2 : Int32) (z f : Nat → Nat → Int32) : m_L_isTold_b817 0 74 i17 i18 74 s1 s2 (wA z f r) = (g_L_isTold_b817 i17 i18 s1 s2 z f).map (fun q => (q.1, wA q.2.1 q.2.2 r)) := by
  unfold m_L_isTold_b817 g_L_isTold_b817
  refine opM sI_74 (fun j1 hj1 => ?_)
  refine ltE ?_
  refine caW e_L_does (fun _ _ => wA_len) (fun x3 z4 u5 => ?_)
  refine iteE (fun _ => ?_) (fun _ => ?_)
  · exact e_L_isTold_b843 _ _  _ _
  · refine opS (aI_74.trans (ixl_3 _)) ?_
    exact e_L_isTold_b843 _ _  _ _
def g_L_isTold_b792 (i17 : Int32) (i18 : Int32) (s1 : Int32) (s2 : Int32) (s3 : Int32) (z f : Nat → Nat → Int32) : Option (Int32 × (Nat → Nat → Int32) × (Nat → Nat → Int32)) :=
  (ixA 15 s1).bind fun j1 =>
  lt2 (upf f 74 j1 (s2 + s3)) fun u2 =>
  if (u2 74 3) ≤ 1000 then
    g_L_isTold_b817 i17 i18 3 (u2 74 3) z u2
  else
    g_L_isTold_b817 i17 i18 3 1000 z u2
set_option maxRecDepth 100000 in
set_option maxHeartbeats 4000000 in
theorem e_L_isTold_b792 {r : LWd} (i17 : Int32) (i18 : Int32) (s1 : Int32) (s2 : Int32) (s3 : Int32) (z f : Nat → Nat → Int32) : m_L_isTold_b792 0 74 i17 i18 74 s1 s2 s3 (wA z f r) = (g_L_isTold_b792 i17 i18 s1 s2 s3 z f).map (fun q => (q.1, wA q.2.1 q.2.2 r)) := by
  unfold m_L_isTold_b792 g_L_isTold_b792
  refine opM sI_74 (fun j1 hj1 => ?_)
  refine ltE ?_
  refine opS (aI_74.trans (ixl_3 _)) ?_
  refine iteE (fun _ => ?_) (fun _ => ?_)
  · refine opS (aI_74.trans (ixl_3 _)) ?_
    exact e_L_isTold_b817 _ _ _ _  _ _
  · exact e_L_isTold_b817 _ _ _ _  _ _
def g_L_isTold_b774 (i17 : Int32) (s0 : Int32) (z f : Nat → Nat → Int32) : Option (Int32 × (Nat → Nat → Int32) × (Nat → Nat → Int32)) :=
  if s0 = 0 then
    g_L_isTold_b792 i17 s0 3 (f 74 3) 0 z f
  else
    g_L_isTold_b792 i17 s0 3 (f 74 3) i17 z f
set_option maxRecDepth 100000 in
set_option maxHeartbeats 4000000 in
theorem e_L_isTold_b774 {r : LWd} (i17 : Int32) (s0 : Int32) (z f : Nat → Nat → Int32) : m_L_isTold_b774 0 74 i17 s0 (wA z f r) = (g_L_isTold_b774 i17 s0 z f).map (fun q => (q.1, wA q.2.1 q.2.2 r)) := by
  unfold m_L_isTold_b774 g_L_isTold_b774
  refine opS (aI_74.trans (ixl_3 _)) ?_
  refine iteE (fun _ => ?_) (fun _ => ?_)
  · exact e_L_isTold_b792 _ _ _ _ _  _ _
  · exact e_L_isTold_b792 _ _ _ _ _  _ _
def g_L_isTold_b773 (i17 : Int32) (z f : Nat → Nat → Int32) : Option (Int32 × (Nat → Nat → Int32) × (Nat → Nat → Int32)) :=
  g_L_isTold_b774 i17 0 z f
set_option maxRecDepth 100000 in
set_option maxHeartbeats 4000000 in
theorem e_L_isTold_b773 {r : LWd} (i17 : Int32) (z f : Nat → Nat → Int32) : m_L_isTold_b773 0 74 i17 (wA z f r) = (g_L_isTold_b773 i17 z f).map (fun q => (q.1, wA q.2.1 q.2.2 r)) := by
  unfold m_L_isTold_b773 g_L_isTold_b773
  exact e_L_isTold_b774 _ _  _ _
def g_L_isTold_b754 (s0 : Int32) (z f : Nat → Nat → Int32) : Option (Int32 × (Nat → Nat → Int32) × (Nat → Nat → Int32)) :=
  if s0 ≤ 0 then
    g_L_isTold_b773 s0 z f
  else
    if 1001 ≤ s0 then
      g_L_isTold_b773 s0 z f
    else
      g_L_isTold_b774 s0 1 z f
set_option maxRecDepth 100000 in
set_option maxHeartbeats 4000000 in
theorem e_L_isTold_b754 {r : LWd} (s0 : Int32) (z f : Nat → Nat → Int32) : m_L_isTold_b754 0 74 s0 (wA z f r) = (g_L_isTold_b754 s0 z f).map (fun q => (q.1, wA q.2.1 q.2.2 r)) := by
  unfold m_L_isTold_b754 g_L_isTold_b754
  refine iteE (fun _ => ?_) (fun _ => ?_)
  · exact e_L_isTold_b773 _  _ _
  · refine iteE (fun _ => ?_) (fun _ => ?_)
    · exact e_L_isTold_b773 _  _ _
    · exact e_L_isTold_b774 _ _  _ _
def g_L_isTold_b710 (s0 : Int32) (s1 : Int32) (z f : Nat → Nat → Int32) : Option (Int32 × (Nat → Nat → Int32) × (Nat → Nat → Int32)) :=
  if s0 = s1 then
    some (1, z, f)
  else
    some (0, z, f)
set_option maxRecDepth 100000 in
set_option maxHeartbeats 4000000 in
theorem e_L_isTold_b710 {r : LWd} (s0 : Int32) (s1 : Int32) (z f : Nat → Nat → Int32) : m_L_isTold_b710 s0 s1 (wA z f r) = (g_L_isTold_b710 s0 s1 z f).map (fun q => (q.1, wA q.2.1 q.2.2 r)) := by
  unfold m_L_isTold_b710 g_L_isTold_b710
  refine iteE (fun _ => ?_) (fun _ => ?_)
  · rfl
  · rfl
def g_L_isTold_b670 (i17 : Int32) (i18 : Int32) (i19 : Int32) (i20 : Int32) (i21 : Int32) (z f : Nat → Nat → Int32) : Option (Int32 × (Nat → Nat → Int32) × (Nat → Nat → Int32)) :=
  bn3 (g_L_does 2 i17 i18 i19 0 0 z f) fun x1 z2 u3 =>
  if i20 = 0 then
    g_L_isTold_b710 x1 ((-2000000)) z2 u3
  else
    if i21 = 0 then
      g_L_isTold_b710 x1 ((-1000000)) z2 u3
    else
      g_L_isTold_b710 x1 ((u3 74 7) - 1) z2 u3
set_option maxRecDepth 100000 in
set_option maxHeartbeats 4000000 in
theorem e_L_isTold_b670 {r : LWd} (i17 : Int32) (i18 : Int32) (i19 : Int32) (i20 : Int32) (i21 : Int32) (z f : Nat → Nat → Int32) : m_L_isTold_b670 0 74 i17 i18 i19 i20 i21 (wA z f r) = (g_L_isTold_b670 i17 i18 i19 i20 i21 z f).map (fun q => (q.1, wA q.2.1 q.2.2 r)) := by
  unfold m_L_isTold_b670 g_L_isTold_b670
  refine caW e_L_does (fun _ _ => wA_len) (fun x1 z2 u3 => ?_)
  refine iteE (fun _ => ?_) (fun _ => ?_)
  · exact e_L_isTold_b710 _ _  _ _
  · refine iteE (fun _ => ?_) (fun _ => ?_)
    · exact e_L_isTold_b710 _ _  _ _
    · refine opS (aI_74.trans (ixl_7 _)) ?_
      exact e_L_isTold_b710 _ _  _ _
def g_L_isTold_b628 (i17 : Int32) (i18 : Int32) (i19 : Int32) (i20 : Int32) (s0 : Int32) (z f : Nat → Nat → Int32) : Option (Int32 × (Nat → Nat → Int32) × (Nat → Nat → Int32)) :=
  if s0 = 0 then
    g_L_isTold_b670 i17 i18 i19 i20 s0 z f
  else
    (ixA 6 (f 74 7)).bind fun j2 =>
    lt2 (upf f 69 j2 (((i17 + 5) + (11 * (i18 + 5))) + (121 * i19))) fun u3 =>
    lt2 (upf u3 74 7 ((u3 74 7) + 1)) fun u6 =>
    g_L_isTold_b670 i17 i18 i19 i20 s0 z u6
set_option maxRecDepth 100000 in
set_option maxHeartbeats 4000000 in
theorem e_L_isTold_b628 {r : LWd} (i17 : Int32) (i18 : Int32) (i19 : Int32) (i20 : Int32) (s0 : Int32) (z f : Nat → Nat → Int32) : m_L_isTold_b628 0 69 74 i17 i18 i19 i20 s0 (wA z f r) = (g_L_isTold_b628 i17 i18 i19 i20 s0 z f).map (fun q => (q.1, wA q.2.1 q.2.2 r)) := by
  unfold m_L_isTold_b628 g_L_isTold_b628
  refine iteE (fun _ => ?_) (fun _ => ?_)
  · exact e_L_isTold_b670 _ _ _ _ _  _ _
  · refine opS (aI_74.trans (ixl_7 _)) ?_
    refine opM sI_69 (fun j2 hj2 => ?_)
    refine ltE ?_
    refine opS (aI_74.trans (ixl_7 _)) ?_
    refine opS (sI_74.trans (ixl_7 _)) ?_
    refine ltE ?_
    exact e_L_isTold_b670 _ _ _ _ _  _ _
def g_L_isTold_b627 (i17 : Int32) (i18 : Int32) (i19 : Int32) (i20 : Int32) (z f : Nat → Nat → Int32) : Option (Int32 × (Nat → Nat → Int32) × (Nat → Nat → Int32)) :=
  g_L_isTold_b628 i17 i18 i19 i20 0 z f
set_option maxRecDepth 100000 in
set_option maxHeartbeats 4000000 in
theorem e_L_isTold_b627 {r : LWd} (i17 : Int32) (i18 : Int32) (i19 : Int32) (i20 : Int32) (z f : Nat → Nat → Int32) : m_L_isTold_b627 0 69 74 i17 i18 i19 i20 (wA z f r) = (g_L_isTold_b627 i17 i18 i19 i20 z f).map (fun q => (q.1, wA q.2.1 q.2.2 r)) := by
  unfold m_L_isTold_b627 g_L_isTold_b627
  exact e_L_isTold_b628 _ _ _ _ _  _ _
def g_L_isTold_b599 (i17 : Int32) (i18 : Int32) (i19 : Int32) (s0 : Int32) (z f : Nat → Nat → Int32) : Option (Int32 × (Nat → Nat → Int32) × (Nat → Nat → Int32)) :=
  if s0 = 0 then
    g_L_isTold_b627 i17 i18 i19 s0 z f
  else
    if 6 ≤ (f 74 7) then
      g_L_isTold_b627 i17 i18 i19 s0 z f
    else
      if (f 74 0) = 0 then
        g_L_isTold_b628 i17 i18 i19 s0 1 z f
      else
        g_L_isTold_b627 i17 i18 i19 s0 z f
set_option maxRecDepth 100000 in
set_option maxHeartbeats 4000000 in
theorem e_L_isTold_b599 {r : LWd} (i17 : Int32) (i18 : Int32) (i19 : Int32) (s0 : Int32) (z f : Nat → Nat → Int32) : m_L_isTold_b599 0 69 74 i17 i18 i19 s0 (wA z f r) = (g_L_isTold_b599 i17 i18 i19 s0 z f).map (fun q => (q.1, wA q.2.1 q.2.2 r)) := by
  unfold m_L_isTold_b599 g_L_isTold_b599
  refine iteE (fun _ => ?_) (fun _ => ?_)
  · exact e_L_isTold_b627 _ _ _ _  _ _
  · refine opS (aI_74.trans (ixl_7 _)) ?_
    refine iteE (fun _ => ?_) (fun _ => ?_)
    · exact e_L_isTold_b627 _ _ _ _  _ _
    · refine opS (aI_74.trans (ixl_0 _)) ?_
      refine iteE (fun _ => ?_) (fun _ => ?_)
      · exact e_L_isTold_b628 _ _ _ _ _  _ _
      · exact e_L_isTold_b627 _ _ _ _  _ _
def g_L_isTold_b598 (i17 : Int32) (i18 : Int32) (i19 : Int32) (z f : Nat → Nat → Int32) : Option (Int32 × (Nat → Nat → Int32) × (Nat → Nat → Int32)) :=
  g_L_isTold_b599 i17 i18 i19 0 z f
set_option maxRecDepth 100000 in
set_option maxHeartbeats 4000000 in
theorem e_L_isTold_b598 {r : LWd} (i17 : Int32) (i18 : Int32) (i19 : Int32) (z f : Nat → Nat → Int32) : m_L_isTold_b598 0 69 74 i17 i18 i19 (wA z f r) = (g_L_isTold_b598 i17 i18 i19 z f).map (fun q => (q.1, wA q.2.1 q.2.2 r)) := by
  unfold m_L_isTold_b598 g_L_isTold_b598
  exact e_L_isTold_b599 _ _ _ _  _ _
def g_L_isTold_b571 (i17 : Int32) (i18 : Int32) (s0 : Int32) (z f : Nat → Nat → Int32) : Option (Int32 × (Nat → Nat → Int32) × (Nat → Nat → Int32)) :=
  if 6 ≤ i17 then
    g_L_isTold_b598 i17 i18 s0 z f
  else
    if i18 ≤ ((-6)) then
      g_L_isTold_b598 i17 i18 s0 z f
    else
      if 7 ≤ s0 then
        g_L_isTold_b598 i17 i18 s0 z f
      else
        g_L_isTold_b599 i17 i18 s0 1 z f
set_option maxRecDepth 100000 in
set_option maxHeartbeats 4000000 in
theorem e_L_isTold_b571 {r : LWd} (i17 : Int32) (i18 : Int32) (s0 : Int32) (z f : Nat → Nat → Int32) : m_L_isTold_b571 0 69 74 i17 i18 s0 (wA z f r) = (g_L_isTold_b571 i17 i18 s0 z f).map (fun q => (q.1, wA q.2.1 q.2.2 r)) := by
  unfold m_L_isTold_b571 g_L_isTold_b571
  refine iteE (fun _ => ?_) (fun _ => ?_)
  · exact e_L_isTold_b598 _ _ _  _ _
  · refine iteE (fun _ => ?_) (fun _ => ?_)
    · exact e_L_isTold_b598 _ _ _  _ _
    · refine iteE (fun _ => ?_) (fun _ => ?_)
      · exact e_L_isTold_b598 _ _ _  _ _
      · exact e_L_isTold_b599 _ _ _ _  _ _
def g_L_isTold_b548 (i11 : Int32) (i17 : Int32) (s0 : Int32) (z f : Nat → Nat → Int32) : Option (Int32 × (Nat → Nat → Int32) × (Nat → Nat → Int32)) :=
  if (jrem i11 9) = 8 then
    g_L_isTold_b571 i17 s0 7 z f
  else
    g_L_isTold_b571 i17 s0 (1 + (jrem i11 4)) z f
set_option maxRecDepth 100000 in
set_option maxHeartbeats 4000000 in
theorem e_L_isTold_b548 {r : LWd} (i11 : Int32) (i17 : Int32) (s0 : Int32) (z f : Nat → Nat → Int32) : m_L_isTold_b548 0 69 74 i11 i17 s0 (wA z f r) = (g_L_isTold_b548 i11 i17 s0 z f).map (fun q => (q.1, wA q.2.1 q.2.2 r)) := by
  unfold m_L_isTold_b548 g_L_isTold_b548
  refine iteE (fun _ => ?_) (fun _ => ?_)
  · exact e_L_isTold_b571 _ _ _  _ _
  · exact e_L_isTold_b571 _ _ _  _ _
def g_L_isTold_b519 (i10 : Int32) (i11 : Int32) (s0 : Int32) (z f : Nat → Nat → Int32) : Option (Int32 × (Nat → Nat → Int32) × (Nat → Nat → Int32)) :=
  if (jrem (i10 / 13) 13) = 12 then
    g_L_isTold_b548 i11 s0 ((-6)) z f
  else
    g_L_isTold_b548 i11 s0 ((jrem (i10 / 13) 5) - 2) z f
set_option maxRecDepth 100000 in
set_option maxHeartbeats 4000000 in
theorem e_L_isTold_b519 {r : LWd} (i10 : Int32) (i11 : Int32) (s0 : Int32) (z f : Nat → Nat → Int32) : m_L_isTold_b519 0 69 74 i10 i11 s0 (wA z f r) = (g_L_isTold_b519 i10 i11 s0 z f).map (fun q => (q.1, wA q.2.1 q.2.2 r)) := by
  unfold m_L_isTold_b519 g_L_isTold_b519
  refine iteE (fun _ => ?_) (fun _ => ?_)
  · exact e_L_isTold_b548 _ _ _  _ _
  · exact e_L_isTold_b548 _ _ _  _ _
def g_L_isTold_b483 (s0 : Int32) (s1 : Int32) (z f : Nat → Nat → Int32) : Option (Int32 × (Nat → Nat → Int32) × (Nat → Nat → Int32)) :=
  if s0 = s1 then
    some (1, z, f)
  else
    some (0, z, f)
set_option maxRecDepth 100000 in
set_option maxHeartbeats 4000000 in
theorem e_L_isTold_b483 {r : LWd} (s0 : Int32) (s1 : Int32) (z f : Nat → Nat → Int32) : m_L_isTold_b483 s0 s1 (wA z f r) = (g_L_isTold_b483 s0 s1 z f).map (fun q => (q.1, wA q.2.1 q.2.2 r)) := by
  unfold m_L_isTold_b483 g_L_isTold_b483
  refine iteE (fun _ => ?_) (fun _ => ?_)
  · rfl
  · rfl
def g_L_isTold_b458 (i12 : Int32) (i13 : Int32) (i16 : Int32) (i17 : Int32) (i18 : Int32) (z f : Nat → Nat → Int32) : Option (Int32 × (Nat → Nat → Int32) × (Nat → Nat → Int32)) :=
  bn3 (g_L_does 1 i12 i13 i16 0 0 z f) fun x1 z2 u3 =>
  if i17 = 0 then
    g_L_isTold_b483 x1 ((-2000000)) z2 u3
  else
    g_L_isTold_b483 x1 i18 z2 u3
set_option maxRecDepth 100000 in
set_option maxHeartbeats 4000000 in
theorem e_L_isTold_b458 {r : LWd} (i12 : Int32) (i13 : Int32) (i16 : Int32) (i17 : Int32) (i18 : Int32) (z f : Nat → Nat → Int32) : m_L_isTold_b458 0 i12 i13 i16 i17 i18 (wA z f r) = (g_L_isTold_b458 i12 i13 i16 i17 i18 z f).map (fun q => (q.1, wA q.2.1 q.2.2 r)) := by
  unfold m_L_isTold_b458 g_L_isTold_b458
  refine caW e_L_does (fun _ _ => wA_len) (fun x1 z2 u3 => ?_)
  refine iteE (fun _ => ?_) (fun _ => ?_)
  · exact e_L_isTold_b483 _ _  _ _
  · exact e_L_isTold_b483 _ _  _ _
def g_L_isTold_b427 (i12 : Int32) (i13 : Int32) (i15 : Int32) (i16 : Int32) (s0 : Int32) (z f : Nat → Nat → Int32) : Option (Int32 × (Nat → Nat → Int32) × (Nat → Nat → Int32)) :=
  (g_L_four 50 66 (400 + i15) f).bind fun x1 =>
  if s0 = 0 then
    g_L_isTold_b458 i12 i13 i16 s0 x1 z f
  else
    (g_L_sets 50 66 (400 + i15) i16 f).bind fun u2 =>
    g_L_isTold_b458 i12 i13 i16 s0 x1 z u2
set_option maxRecDepth 100000 in
set_option maxHeartbeats 4000000 in
theorem e_L_isTold_b427 {r : LWd} (i12 : Int32) (i13 : Int32) (i15 : Int32) (i16 : Int32) (s0 : Int32) (z f : Nat → Nat → Int32) : m_L_isTold_b427 0 66 i12 i13 i15 i16 s0 (wA z f r) = (g_L_isTold_b427 i12 i13 i15 i16 s0 z f).map (fun q => (q.1, wA q.2.1 q.2.2 r)) := by
  unfold m_L_isTold_b427 g_L_isTold_b427
  refine caP (e_L_four lwr_66) (fun x1 => ?_)
  refine iteE (fun _ => ?_) (fun _ => ?_)
  · exact e_L_isTold_b458 _ _ _ _ _  _ _
  · refine caUs (e_L_sets (fun _ => lwr_66)) (fun u2 => ?_)
    exact e_L_isTold_b458 _ _ _ _ _  _ _
def g_L_isTold_b426 (i12 : Int32) (i13 : Int32) (i15 : Int32) (i16 : Int32) (z f : Nat → Nat → Int32) : Option (Int32 × (Nat → Nat → Int32) × (Nat → Nat → Int32)) :=
  g_L_isTold_b427 i12 i13 i15 i16 0 z f
set_option maxRecDepth 100000 in
set_option maxHeartbeats 4000000 in
theorem e_L_isTold_b426 {r : LWd} (i12 : Int32) (i13 : Int32) (i15 : Int32) (i16 : Int32) (z f : Nat → Nat → Int32) : m_L_isTold_b426 0 66 i12 i13 i15 i16 (wA z f r) = (g_L_isTold_b426 i12 i13 i15 i16 z f).map (fun q => (q.1, wA q.2.1 q.2.2 r)) := by
  unfold m_L_isTold_b426 g_L_isTold_b426
  exact e_L_isTold_b427 _ _ _ _ _  _ _
def g_L_isTold_b395 (s0 : Int32) (s1 : Int32) (z f : Nat → Nat → Int32) : Option (Int32 × (Nat → Nat → Int32) × (Nat → Nat → Int32)) :=
  if s0 = s1 then
    some (1, z, f)
  else
    some (0, z, f)
set_option maxRecDepth 100000 in
set_option maxHeartbeats 4000000 in
theorem e_L_isTold_b395 {r : LWd} (s0 : Int32) (s1 : Int32) (z f : Nat → Nat → Int32) : m_L_isTold_b395 s0 s1 (wA z f r) = (g_L_isTold_b395 s0 s1 z f).map (fun q => (q.1, wA q.2.1 q.2.2 r)) := by
  unfold m_L_isTold_b395 g_L_isTold_b395
  refine iteE (fun _ => ?_) (fun _ => ?_)
  · rfl
  · rfl
def g_L_isTold_b358 (i12 : Int32) (i13 : Int32) (i16 : Int32) (i17 : Int32) (i18 : Int32) (i19 : Int32) (i20 : Int32) (i21 : Int32) (z f : Nat → Nat → Int32) : Option (Int32 × (Nat → Nat → Int32) × (Nat → Nat → Int32)) :=
  bn3 (g_L_does 0 i12 i13 i16 i17 i18 z f) fun x1 z2 u3 =>
  if i19 = 0 then
    g_L_isTold_b395 x1 ((-2000000)) z2 u3
  else
    if i20 = 0 then
      g_L_isTold_b395 x1 ((-1000000)) z2 u3
    else
      g_L_isTold_b395 x1 i21 z2 u3
set_option maxRecDepth 100000 in
set_option maxHeartbeats 4000000 in
theorem e_L_isTold_b358 {r : LWd} (i12 : Int32) (i13 : Int32) (i16 : Int32) (i17 : Int32) (i18 : Int32) (i19 : Int32) (i20 : Int32) (i21 : Int32) (z f : Nat → Nat → Int32) : m_L_isTold_b358 0 i12 i13 i16 i17 i18 i19 i20 i21 (wA z f r) = (g_L_isTold_b358 i12 i13 i16 i17 i18 i19 i20 i21 z f).map (fun q => (q.1, wA q.2.1 q.2.2 r)) := by
  unfold m_L_isTold_b358 g_L_isTold_b358
  refine caW e_L_does (fun _ _ => wA_len) (fun x1 z2 u3 => ?_)
  refine iteE (fun _ => ?_) (fun _ => ?_)
  · exact e_L_isTold_b395 _ _  _ _
  · refine iteE (fun _ => ?_) (fun _ => ?_)
    · exact e_L_isTold_b395 _ _  _ _
    · exact e_L_isTold_b395 _ _  _ _
def g_L_isTold_b279 (i12 : Int32) (i13 : Int32) (i15 : Int32) (i16 : Int32) (i17 : Int32) (i18 : Int32) (i19 : Int32) (s0 : Int32) (z f : Nat → Nat → Int32) : Option (Int32 × (Nat → Nat → Int32) × (Nat → Nat → Int32)) :=
  (g_L_four 50 66 i15 f).bind fun x1 =>
  if s0 = 0 then
    g_L_isTold_b358 i12 i13 i16 i17 i18 i19 s0 x1 z f
  else
    (g_L_sets 50 66 i15 i16 f).bind fun u2 =>
    (g_L_sets 25 67 i15 i18 u2).bind fun u3 =>
    (ixA 50 (i15 / 8)).bind fun j4 =>
    (ixA 50 (i15 / 8)).bind fun j5 =>
    lt2 (ulg u3 68 j5 ((lg u3 68 j4) &&& ((255 <<< (Int32.toInt64 (8 * (jrem i15 8)) &&& 63)) ^^^ ((-1))))) fun u6 =>
    (ixA 50 (i15 / 8)).bind fun j7 =>
    (ixA 50 (i15 / 8)).bind fun j8 =>
    lt2 (ulg u6 68 j8 ((lg u6 68 j7) ||| ((Int32.toInt64 i17) <<< (Int32.toInt64 (8 * (jrem i15 8)) &&& 63)))) fun u9 =>
    g_L_isTold_b358 i12 i13 i16 i17 i18 i19 s0 x1 z u9
set_option maxRecDepth 100000 in
set_option maxHeartbeats 4000000 in
theorem e_L_isTold_b279 {r : LWd} (i12 : Int32) (i13 : Int32) (i15 : Int32) (i16 : Int32) (i17 : Int32) (i18 : Int32) (i19 : Int32) (s0 : Int32) (z f : Nat → Nat → Int32) : m_L_isTold_b279 0 66 67 68 i12 i13 i15 i16 i17 i18 i19 s0 (wA z f r) = (g_L_isTold_b279 i12 i13 i15 i16 i17 i18 i19 s0 z f).map (fun q => (q.1, wA q.2.1 q.2.2 r)) := by
  unfold m_L_isTold_b279 g_L_isTold_b279
  refine caP (e_L_four lwr_66) (fun x1 => ?_)
  refine iteE (fun _ => ?_) (fun _ => ?_)
  · exact e_L_isTold_b358 _ _ _ _ _ _ _ _  _ _
  · refine caUs (e_L_sets (fun _ => lwr_66)) (fun u2 => ?_)
    refine caUs (e_L_sets (fun _ => lwr_67)) (fun u3 => ?_)
    refine opM aLd_68 (fun j4 hj4 => ?_)
    refine opM sL_68 (fun j5 hj5 => ?_)
    refine ltE ?_
    refine opM aLd_68 (fun j7 hj7 => ?_)
    refine opM sL_68 (fun j8 hj8 => ?_)
    refine ltE ?_
    exact e_L_isTold_b358 _ _ _ _ _ _ _ _  _ _
def g_L_isTold_b278 (i12 : Int32) (i13 : Int32) (i15 : Int32) (i16 : Int32) (i17 : Int32) (i18 : Int32) (i19 : Int32) (z f : Nat → Nat → Int32) : Option (Int32 × (Nat → Nat → Int32) × (Nat → Nat → Int32)) :=
  g_L_isTold_b279 i12 i13 i15 i16 i17 i18 i19 0 z f
set_option maxRecDepth 100000 in
set_option maxHeartbeats 4000000 in
theorem e_L_isTold_b278 {r : LWd} (i12 : Int32) (i13 : Int32) (i15 : Int32) (i16 : Int32) (i17 : Int32) (i18 : Int32) (i19 : Int32) (z f : Nat → Nat → Int32) : m_L_isTold_b278 0 66 67 68 i12 i13 i15 i16 i17 i18 i19 (wA z f r) = (g_L_isTold_b278 i12 i13 i15 i16 i17 i18 i19 z f).map (fun q => (q.1, wA q.2.1 q.2.2 r)) := by
  unfold m_L_isTold_b278 g_L_isTold_b278
  exact e_L_isTold_b279 _ _ _ _ _ _ _ _  _ _
def g_L_isTold_b248 (i12 : Int32) (i13 : Int32) (i15 : Int32) (i16 : Int32) (i17 : Int32) (i18 : Int32) (s0 : Int32) (z f : Nat → Nat → Int32) : Option (Int32 × (Nat → Nat → Int32) × (Nat → Nat → Int32)) :=
  if s0 = 0 then
    g_L_isTold_b278 i12 i13 i15 i16 i17 i18 s0 z f
  else
    (g_L_isTaken (f 74 8) i12 i13 z f).bind fun x2 =>
    if x2 = 0 then
      g_L_isTold_b279 i12 i13 i15 i16 i17 i18 s0 1 z f
    else
      g_L_isTold_b278 i12 i13 i15 i16 i17 i18 s0 z f
set_option maxRecDepth 100000 in
set_option maxHeartbeats 4000000 in
theorem e_L_isTold_b248 {r : LWd} (i12 : Int32) (i13 : Int32) (i15 : Int32) (i16 : Int32) (i17 : Int32) (i18 : Int32) (s0 : Int32) (z f : Nat → Nat → Int32) : m_L_isTold_b248 0 66 67 68 70 71 74 i12 i13 i15 i16 i17 i18 s0 (wA z f r) = (g_L_isTold_b248 i12 i13 i15 i16 i17 i18 s0 z f).map (fun q => (q.1, wA q.2.1 q.2.2 r)) := by
  unfold m_L_isTold_b248 g_L_isTold_b248
  refine iteE (fun _ => ?_) (fun _ => ?_)
  · exact e_L_isTold_b278 _ _ _ _ _ _ _  _ _
  · refine opS (aI_74.trans (ixl_8 _)) ?_
    refine caP (e_L_isTaken) (fun x2 => ?_)
    refine iteE (fun _ => ?_) (fun _ => ?_)
    · exact e_L_isTold_b279 _ _ _ _ _ _ _ _  _ _
    · exact e_L_isTold_b278 _ _ _ _ _ _ _  _ _
def g_L_isTold_b247 (i12 : Int32) (i13 : Int32) (i15 : Int32) (i16 : Int32) (i17 : Int32) (i18 : Int32) (z f : Nat → Nat → Int32) : Option (Int32 × (Nat → Nat → Int32) × (Nat → Nat → Int32)) :=
  g_L_isTold_b248 i12 i13 i15 i16 i17 i18 0 z f
set_option maxRecDepth 100000 in
set_option maxHeartbeats 4000000 in
theorem e_L_isTold_b247 {r : LWd} (i12 : Int32) (i13 : Int32) (i15 : Int32) (i16 : Int32) (i17 : Int32) (i18 : Int32) (z f : Nat → Nat → Int32) : m_L_isTold_b247 0 66 67 68 70 71 74 i12 i13 i15 i16 i17 i18 (wA z f r) = (g_L_isTold_b247 i12 i13 i15 i16 i17 i18 z f).map (fun q => (q.1, wA q.2.1 q.2.2 r)) := by
  unfold m_L_isTold_b247 g_L_isTold_b247
  exact e_L_isTold_b248 _ _ _ _ _ _ _  _ _
def g_L_isTold_b215 (i12 : Int32) (i13 : Int32) (i14 : Int32) (i15 : Int32) (i16 : Int32) (i17 : Int32) (s0 : Int32) (z f : Nat → Nat → Int32) : Option (Int32 × (Nat → Nat → Int32) × (Nat → Nat → Int32)) :=
  if i14 = 0 then
    g_L_isTold_b247 i12 i13 i15 i16 i17 s0 z f
  else
    if 10 ≤ i16 then
      g_L_isTold_b247 i12 i13 i15 i16 i17 s0 z f
    else
      if 100 ≤ i17 then
        g_L_isTold_b247 i12 i13 i15 i16 i17 s0 z f
      else
        if 10 ≤ s0 then
          g_L_isTold_b247 i12 i13 i15 i16 i17 s0 z f
        else
          g_L_isTold_b248 i12 i13 i15 i16 i17 s0 1 z f
set_option maxRecDepth 100000 in
set_option maxHeartbeats 4000000 in
theorem e_L_isTold_b215 {r : LWd} (i12 : Int32) (i13 : Int32) (i14 : Int32) (i15 : Int32) (i16 : Int32) (i17 : Int32) (s0 : Int32) (z f : Nat → Nat → Int32) : m_L_isTold_b215 0 66 67 68 70 71 74 i12 i13 i14 i15 i16 i17 s0 (wA z f r) = (g_L_isTold_b215 i12 i13 i14 i15 i16 i17 s0 z f).map (fun q => (q.1, wA q.2.1 q.2.2 r)) := by
  unfold m_L_isTold_b215 g_L_isTold_b215
  refine iteE (fun _ => ?_) (fun _ => ?_)
  · exact e_L_isTold_b247 _ _ _ _ _ _  _ _
  · refine iteE (fun _ => ?_) (fun _ => ?_)
    · exact e_L_isTold_b247 _ _ _ _ _ _  _ _
    · refine iteE (fun _ => ?_) (fun _ => ?_)
      · exact e_L_isTold_b247 _ _ _ _ _ _  _ _
      · refine iteE (fun _ => ?_) (fun _ => ?_)
        · exact e_L_isTold_b247 _ _ _ _ _ _  _ _
        · exact e_L_isTold_b248 _ _ _ _ _ _ _  _ _
def g_L_isTold_b182 (i10 : Int32) (i12 : Int32) (i13 : Int32) (i14 : Int32) (i15 : Int32) (i16 : Int32) (s0 : Int32) (z f : Nat → Nat → Int32) : Option (Int32 × (Nat → Nat → Int32) × (Nat → Nat → Int32)) :=
  if (jrem (i10 / 319) 3) ≤ 0 then
    g_L_isTold_b215 i12 i13 i14 i15 i16 s0 (jrem (i10 / 957) 11) z f
  else
    g_L_isTold_b215 i12 i13 i14 i15 i16 s0 (jrem (i10 / 319) 3) z f
set_option maxRecDepth 100000 in
set_option maxHeartbeats 4000000 in
theorem e_L_isTold_b182 {r : LWd} (i10 : Int32) (i12 : Int32) (i13 : Int32) (i14 : Int32) (i15 : Int32) (i16 : Int32) (s0 : Int32) (z f : Nat → Nat → Int32) : m_L_isTold_b182 0 66 67 68 70 71 74 i10 i12 i13 i14 i15 i16 s0 (wA z f r) = (g_L_isTold_b182 i10 i12 i13 i14 i15 i16 s0 z f).map (fun q => (q.1, wA q.2.1 q.2.2 r)) := by
  unfold m_L_isTold_b182 g_L_isTold_b182
  refine iteE (fun _ => ?_) (fun _ => ?_)
  · exact e_L_isTold_b215 _ _ _ _ _ _ _  _ _
  · exact e_L_isTold_b215 _ _ _ _ _ _ _  _ _
def g_L_isTold_b134 (i9 : Int32) (i10 : Int32) (i11 : Int32) (i12 : Int32) (i13 : Int32) (i14 : Int32) (i15 : Int32) (s0 : Int32) (z f : Nat → Nat → Int32) : Option (Int32 × (Nat → Nat → Int32) × (Nat → Nat → Int32)) :=
  if i9 = 0 then
    if (jrem (i11 / 9) 13) = 12 then
      g_L_isTold_b182 i10 i12 i13 i14 i15 s0 100 z f
    else
      if (jrem (i11 / 9) 3) ≤ 0 then
        g_L_isTold_b182 i10 i12 i13 i14 i15 s0 (jrem (i11 / 27) 14) z f
      else
        g_L_isTold_b182 i10 i12 i13 i14 i15 s0 99 z f
  else
    if i9 = 1 then
      if i14 = 0 then
        g_L_isTold_b426 i12 i13 i15 s0 z f
      else
        if 10 ≤ s0 then
          g_L_isTold_b426 i12 i13 i15 s0 z f
        else
          g_L_isTold_b427 i12 i13 i15 s0 1 z f
    else
      if i9 = 2 then
        if (jrem i10 13) = 12 then
          g_L_isTold_b519 i10 i11 6 z f
        else
          g_L_isTold_b519 i10 i11 ((jrem i10 5) - 2) z f
      else
        if i9 = 3 then
          if (jrem i10 9) = 0 then
            g_L_isTold_b754 ((jrem (i10 / 9) 2) * 1001) z f
          else
            g_L_isTold_b754 (1 + (jrem i10 90)) z f
        else
          if i9 = 4 then
            if (f 74 7) + 1 = 0 then none else
            if (jrem i11 13) = 12 then
              g_L_isTold_b891 i10 i11 (jrem i10 ((f 74 7) + 1)) 7 z f
            else
              g_L_isTold_b891 i10 i11 (jrem i10 ((f 74 7) + 1)) ((jrem i11 3) - 1) z f
          else
            lt2 (upf f 74 12 0) fun u3 =>
            lt2 (upf u3 74 13 0) fun u5 =>
            bn3 (g_X10_halt  z u5) fun x6 z7 u8 =>
            if x6 = (f 74 12) then
              some (1, z7, u8)
            else
              some (0, z7, u8)
set_option maxRecDepth 100000 in
set_option maxHeartbeats 4000000 in
theorem e_L_isTold_b134 {r : LWd} (i9 : Int32) (i10 : Int32) (i11 : Int32) (i12 : Int32) (i13 : Int32) (i14 : Int32) (i15 : Int32) (s0 : Int32) (z f : Nat → Nat → Int32) : m_L_isTold_b134 0 66 67 68 69 70 71 72 74 i9 i10 i11 i12 i13 i14 i15 s0 (wA z f r) = (g_L_isTold_b134 i9 i10 i11 i12 i13 i14 i15 s0 z f).map (fun q => (q.1, wA q.2.1 q.2.2 r)) := by
  unfold m_L_isTold_b134 g_L_isTold_b134
  refine iteE (fun _ => ?_) (fun _ => ?_)
  · refine iteE (fun _ => ?_) (fun _ => ?_)
    · exact e_L_isTold_b182 _ _ _ _ _ _ _  _ _
    · refine iteE (fun _ => ?_) (fun _ => ?_)
      · exact e_L_isTold_b182 _ _ _ _ _ _ _  _ _
      · exact e_L_isTold_b182 _ _ _ _ _ _ _  _ _
  · refine iteE (fun _ => ?_) (fun _ => ?_)
    · refine iteE (fun _ => ?_) (fun _ => ?_)
      · exact e_L_isTold_b426 _ _ _ _  _ _
      · refine iteE (fun _ => ?_) (fun _ => ?_)
        · exact e_L_isTold_b426 _ _ _ _  _ _
        · exact e_L_isTold_b427 _ _ _ _ _  _ _
    · refine iteE (fun _ => ?_) (fun _ => ?_)
      · refine iteE (fun _ => ?_) (fun _ => ?_)
        · exact e_L_isTold_b519 _ _ _  _ _
        · exact e_L_isTold_b519 _ _ _  _ _
      · refine iteE (fun _ => ?_) (fun _ => ?_)
        · refine iteE (fun _ => ?_) (fun _ => ?_)
          · exact e_L_isTold_b754 _  _ _
          · exact e_L_isTold_b754 _  _ _
        · refine iteE (fun _ => ?_) (fun _ => ?_)
          · refine opS (aI_74.trans (ixl_7 _)) ?_
            refine iteN (fun _ => ?_)
            refine iteE (fun _ => ?_) (fun _ => ?_)
            · exact e_L_isTold_b891 _ _ _ _  _ _
            · exact e_L_isTold_b891 _ _ _ _  _ _
          · refine opS (aI_74.trans (ixl_12 _)) ?_
            refine opS (sI_74.trans (ixl_12 _)) ?_
            refine ltE ?_
            refine opS (sI_74.trans (ixl_13 _)) ?_
            refine ltE ?_
            refine caW (e_X10_halt) (fun _ _ => wA_len) (fun x6 z7 u8 => ?_)
            refine iteE (fun _ => ?_) (fun _ => ?_)
            · rfl
            · rfl
def g_L_isTold_b107 (i9 : Int32) (i10 : Int32) (i11 : Int32) (i12 : Int32) (i13 : Int32) (i14 : Int32) (s0 : Int32) (z f : Nat → Nat → Int32) : Option (Int32 × (Nat → Nat → Int32) × (Nat → Nat → Int32)) :=
  if (jrem (i10 / 29) 11) = 10 then
    g_L_isTold_b134 i9 i10 i11 i12 i13 i14 s0 10 z f
  else
    g_L_isTold_b134 i9 i10 i11 i12 i13 i14 s0 (jrem (i10 / 29) 4) z f
set_option maxRecDepth 100000 in
set_option maxHeartbeats 4000000 in
theorem e_L_isTold_b107 {r : LWd} (i9 : Int32) (i10 : Int32) (i11 : Int32) (i12 : Int32) (i13 : Int32) (i14 : Int32) (s0 : Int32) (z f : Nat → Nat → Int32) : m_L_isTold_b107 0 66 67 68 69 70 71 72 74 i9 i10 i11 i12 i13 i14 s0 (wA z f r) = (g_L_isTold_b107 i9 i10 i11 i12 i13 i14 s0 z f).map (fun q => (q.1, wA q.2.1 q.2.2 r)) := by
  unfold m_L_isTold_b107 g_L_isTold_b107
  refine iteE (fun _ => ?_) (fun _ => ?_)
  · exact e_L_isTold_b134 _ _ _ _ _ _ _ _  _ _
  · exact e_L_isTold_b134 _ _ _ _ _ _ _ _  _ _
def g_L_isTold_b79 (i9 : Int32) (i10 : Int32) (i11 : Int32) (i12 : Int32) (s0 : Int32) (z f : Nat → Nat → Int32) : Option (Int32 × (Nat → Nat → Int32) × (Nat → Nat → Int32)) :=
  (g_L_isIn i12 s0 z f).bind fun x1 =>
  if x1 = 0 then
    g_L_isTold_b107 i9 i10 i11 i12 s0 x1 0 z f
  else
    g_L_isTold_b107 i9 i10 i11 i12 s0 x1 ((20 * s0) + i12) z f
set_option maxRecDepth 100000 in
set_option maxHeartbeats 4000000 in
theorem e_L_isTold_b79 {r : LWd} (i9 : Int32) (i10 : Int32) (i11 : Int32) (i12 : Int32) (s0 : Int32) (z f : Nat → Nat → Int32) : m_L_isTold_b79 0 66 67 68 69 70 71 72 74 i9 i10 i11 i12 s0 (wA z f r) = (g_L_isTold_b79 i9 i10 i11 i12 s0 z f).map (fun q => (q.1, wA q.2.1 q.2.2 r)) := by
  unfold m_L_isTold_b79 g_L_isTold_b79
  refine caP (e_L_isIn) (fun x1 => ?_)
  refine iteE (fun _ => ?_) (fun _ => ?_)
  · exact e_L_isTold_b107 _ _ _ _ _ _ _  _ _
  · exact e_L_isTold_b107 _ _ _ _ _ _ _  _ _
def g_L_isTold_b46 (i9 : Int32) (i10 : Int32) (i11 : Int32) (s0 : Int32) (z f : Nat → Nat → Int32) : Option (Int32 × (Nat → Nat → Int32) × (Nat → Nat → Int32)) :=
  if 0 ≤ (((f 74 2) - 4) + (jrem i11 9)) then
    g_L_isTold_b79 i9 i10 i11 s0 (((f 74 2) - 4) + (jrem i11 9)) z f
  else
    g_L_isTold_b79 i9 i10 i11 s0 0 z f
set_option maxRecDepth 100000 in
set_option maxHeartbeats 4000000 in
theorem e_L_isTold_b46 {r : LWd} (i9 : Int32) (i10 : Int32) (i11 : Int32) (s0 : Int32) (z f : Nat → Nat → Int32) : m_L_isTold_b46 0 66 67 68 69 70 71 72 74 i9 i10 i11 s0 (wA z f r) = (g_L_isTold_b46 i9 i10 i11 s0 z f).map (fun q => (q.1, wA q.2.1 q.2.2 r)) := by
  unfold m_L_isTold_b46 g_L_isTold_b46
  refine opS (aI_74.trans (ixl_2 _)) ?_
  refine iteE (fun _ => ?_) (fun _ => ?_)
  · refine opS (aI_74.trans (ixl_2 _)) ?_
    exact e_L_isTold_b79 _ _ _ _ _  _ _
  · exact e_L_isTold_b79 _ _ _ _ _  _ _
def g_L_isTold (i9 : Int32) (i10 : Int32) (i11 : Int32) (z f : Nat → Nat → Int32) : Option (Int32 × (Nat → Nat → Int32) × (Nat → Nat → Int32)) :=
  if (jrem i10 29) = 28 then
    g_L_isTold_b46 i9 i10 i11 20 z f
  else
    if 0 ≤ (((f 74 1) - 4) + (jrem i10 9)) then
      g_L_isTold_b46 i9 i10 i11 (((f 74 1) - 4) + (jrem i10 9)) z f
    else
      g_L_isTold_b46 i9 i10 i11 0 z f
set_option maxRecDepth 100000 in
set_option maxHeartbeats 4000000 in
theorem e_L_isTold {r : LWd} {z f : Nat → Nat → Int32} {i9 : Int32} {i10 : Int32} {i11 : Int32} : m_L_isTold 0 66 67 68 69 70 71 72 74 i9 i10 i11 (wA z f r) = (g_L_isTold i9 i10 i11 z f).map (fun q => (q.1, wA q.2.1 q.2.2 r)) := by
  unfold m_L_isTold g_L_isTold
  refine iteE (fun _ => ?_) (fun _ => ?_)
  · exact e_L_isTold_b46 _ _ _ _  _ _
  · refine opS (aI_74.trans (ixl_1 _)) ?_
    refine iteE (fun _ => ?_) (fun _ => ?_)
    · refine opS (aI_74.trans (ixl_1 _)) ?_
      exact e_L_isTold_b46 _ _ _ _  _ _
    · exact e_L_isTold_b46 _ _ _ _  _ _
def g_L_isDone_b1466 (s0 : Int32) (s1 : Int32) (z f : Nat → Nat → Int32) : Option (Int32 × (Nat → Nat → Int32) × (Nat → Nat → Int32)) :=
  if s0 = s1 then
    some (1, z, f)
  else
    some (0, z, f)
set_option maxRecDepth 100000 in
set_option maxHeartbeats 4000000 in
theorem e_L_isDone_b1466 {r : LWd} (s0 : Int32) (s1 : Int32) (z f : Nat → Nat → Int32) : m_L_isDone_b1466 s0 s1 (wA z f r) = (g_L_isDone_b1466 s0 s1 z f).map (fun q => (q.1, wA q.2.1 q.2.2 r)) := by
  unfold m_L_isDone_b1466 g_L_isDone_b1466
  refine iteE (fun _ => ?_) (fun _ => ?_)
  · rfl
  · rfl
def g_L_isDone_b1432 (i15 : Int32) (i16 : Int32) (i17 : Int32) (i19 : Int32) (z f : Nat → Nat → Int32) : Option (Int32 × (Nat → Nat → Int32) × (Nat → Nat → Int32)) :=
  bn3 (g_L_does 10 i15 0 0 0 0 z f) fun x1 z2 u3 =>
  if i16 = 0 then
    g_L_isDone_b1466 x1 ((-2000000)) z2 u3
  else
    if i19 = 0 then
      g_L_isDone_b1466 x1 ((-1000000)) z2 u3
    else
      g_L_isDone_b1466 x1 i17 z2 u3
set_option maxRecDepth 100000 in
set_option maxHeartbeats 4000000 in
theorem e_L_isDone_b1432 {r : LWd} (i15 : Int32) (i16 : Int32) (i17 : Int32) (i19 : Int32) (z f : Nat → Nat → Int32) : m_L_isDone_b1432 0 i15 i16 i17 i19 (wA z f r) = (g_L_isDone_b1432 i15 i16 i17 i19 z f).map (fun q => (q.1, wA q.2.1 q.2.2 r)) := by
  unfold m_L_isDone_b1432 g_L_isDone_b1432
  refine caW e_L_does (fun _ _ => wA_len) (fun x1 z2 u3 => ?_)
  refine iteE (fun _ => ?_) (fun _ => ?_)
  · exact e_L_isDone_b1466 _ _  _ _
  · refine iteE (fun _ => ?_) (fun _ => ?_)
    · exact e_L_isDone_b1466 _ _  _ _
    · exact e_L_isDone_b1466 _ _  _ _
def g_L_isDone_b1428 (k1153 : Int32 → Int32 → Int32 → Int32 → Int32 → (Nat → Nat → Int32) → (Nat → Nat → Int32) → Option (Int32 × (Nat → Nat → Int32) × (Nat → Nat → Int32))) (i15 : Int32) (i16 : Int32) (i17 : Int32) (i18 : Int32) (i19 : Int32) (s1 : Int32) (s2 : Int32) (z f : Nat → Nat → Int32) : Option (Int32 × (Nat → Nat → Int32) × (Nat → Nat → Int32)) :=
  (ixA 15 s1).bind fun j1 =>
  lt2 (upf f 74 j1 s2) fun u2 =>
  k1153 i15 i16 i17 i18 i19 z u2
set_option maxRecDepth 100000 in
set_option maxHeartbeats 4000000 in
theorem e_L_isDone_b1428 {r : LWd} {k1153 : Nat → Nat → Nat → Nat → Nat → Nat → Nat → Nat → Nat → Nat → Int32 → Int32 → Int32 → Int32 → Int32 → LWd → Option (Int32 × LWd)} {kg1153 : Int32 → Int32 → Int32 → Int32 → Int32 → (Nat → Nat → Int32) → (Nat → Nat → Int32) → Option (Int32 × (Nat → Nat → Int32) × (Nat → Nat → Int32))} (hk1153 : ∀ (i15 : Int32) (i16 : Int32) (i17 : Int32) (i18 : Int32) (i19 : Int32) (z f : Nat → Nat → Int32), k1153 0 66 67 68 69 70 71 72 73 74 i15 i16 i17 i18 i19 (wA z f r) = (kg1153 i15 i16 i17 i18 i19 z f).map (fun q => (q.1, wA q.2.1 q.2.2 r))) (i15 : Int32) (i16 : Int32) (i17 : Int32) (i18 : Int32) (i19 : Int32) (s1 : Int32) (s2 : Int32) (z f : Nat → Nat → Int32) : m_L_isDone_b1428 k1153 0 66 67 68 69 70 71 72 73 74 i15 i16 i17 i18 i19 74 s1 s2 (wA z f r) = (g_L_isDone_b1428 kg1153 i15 i16 i17 i18 i19 s1 s2 z f).map (fun q => (q.1, wA q.2.1 q.2.2 r)) := by
  unfold m_L_isDone_b1428 g_L_isDone_b1428
  refine opM sI_74 (fun j1 hj1 => ?_)
  refine ltE ?_
  exact hk1153 _ _ _ _ _  _ _
def g_L_isDone_b1395 (k1153 : Int32 → Int32 → Int32 → Int32 → Int32 → (Nat → Nat → Int32) → (Nat → Nat → Int32) → Option (Int32 × (Nat → Nat → Int32) × (Nat → Nat → Int32))) (i15 : Int32) (i16 : Int32) (i18 : Int32) (i19 : Int32) (s0 : Int32) (s1 : Int32) (z f : Nat → Nat → Int32) : Option (Int32 × (Nat → Nat → Int32) × (Nat → Nat → Int32)) :=
  if i18 = 0 then
    g_L_isDone_b1428 k1153 i15 i16 (s0 + s1) i18 i19 13 (f 74 13) z f
  else
    if f 74 12 = 0 then none else
    g_L_isDone_b1428 k1153 i15 i16 (s0 + s1) i18 i19 13 (jrem ((f 74 13) + 1) (f 74 12)) z f
set_option maxRecDepth 100000 in
set_option maxHeartbeats 4000000 in
theorem e_L_isDone_b1395 {r : LWd} {k1153 : Nat → Nat → Nat → Nat → Nat → Nat → Nat → Nat → Nat → Nat → Int32 → Int32 → Int32 → Int32 → Int32 → LWd → Option (Int32 × LWd)} {kg1153 : Int32 → Int32 → Int32 → Int32 → Int32 → (Nat → Nat → Int32) → (Nat → Nat → Int32) → Option (Int32 × (Nat → Nat → Int32) × (Nat → Nat → Int32))} (hk1153 : ∀ (i15 : Int32) (i16 : Int32) (i17 : Int32) (i18 : Int32) (i19 : Int32) (z f : Nat → Nat → Int32), k1153 0 66 67 68 69 70 71 72 73 74 i15 i16 i17 i18 i19 (wA z f r) = (kg1153 i15 i16 i17 i18 i19 z f).map (fun q => (q.1, wA q.2.1 q.2.2 r))) (i15 : Int32) (i16 : Int32) (i18 : Int32) (i19 : Int32) (s0 : Int32) (s1 : Int32) (z f : Nat → Nat → Int32) : m_L_isDone_b1395 k1153 0 66 67 68 69 70 71 72 73 74 i15 i16 i18 i19 s0 s1 (wA z f r) = (g_L_isDone_b1395 kg1153 i15 i16 i18 i19 s0 s1 z f).map (fun q => (q.1, wA q.2.1 q.2.2 r)) := by
  unfold m_L_isDone_b1395 g_L_isDone_b1395
  refine iteE (fun _ => ?_) (fun _ => ?_)
  · refine opS (aI_74.trans (ixl_13 _)) ?_
    exact e_L_isDone_b1428 (hk1153 := hk1153) _ _ _ _ _ _ _  _ _
  · refine opS (aI_74.trans (ixl_13 _)) ?_
    refine opS (aI_74.trans (ixl_12 _)) ?_
    refine iteN (fun _ => ?_)
    exact e_L_isDone_b1428 (hk1153 := hk1153) _ _ _ _ _ _ _  _ _
def g_L_isDone_b1381 (k1153 : Int32 → Int32 → Int32 → Int32 → Int32 → (Nat → Nat → Int32) → (Nat → Nat → Int32) → Option (Int32 × (Nat → Nat → Int32) × (Nat → Nat → Int32))) (i15 : Int32) (i16 : Int32) (i17 : Int32) (i19 : Int32) (s0 : Int32) (z f : Nat → Nat → Int32) : Option (Int32 × (Nat → Nat → Int32) × (Nat → Nat → Int32)) :=
  if s0 = 0 then
    g_L_isDone_b1395 k1153 i15 i16 s0 i19 i17 0 z f
  else
    g_L_isDone_b1395 k1153 i15 i16 s0 i19 i17 1 z f
set_option maxRecDepth 100000 in
set_option maxHeartbeats 4000000 in
theorem e_L_isDone_b1381 {r : LWd} {k1153 : Nat → Nat → Nat → Nat → Nat → Nat → Nat → Nat → Nat → Nat → Int32 → Int32 → Int32 → Int32 → Int32 → LWd → Option (Int32 × LWd)} {kg1153 : Int32 → Int32 → Int32 → Int32 → Int32 → (Nat → Nat → Int32) → (Nat → Nat → Int32) → Option (Int32 × (Nat → Nat → Int32) × (Nat → Nat → Int32))} (hk1153 : ∀ (i15 : Int32) (i16 : Int32) (i17 : Int32) (i18 : Int32) (i19 : Int32) (z f : Nat → Nat → Int32), k1153 0 66 67 68 69 70 71 72 73 74 i15 i16 i17 i18 i19 (wA z f r) = (kg1153 i15 i16 i17 i18 i19 z f).map (fun q => (q.1, wA q.2.1 q.2.2 r))) (i15 : Int32) (i16 : Int32) (i17 : Int32) (i19 : Int32) (s0 : Int32) (z f : Nat → Nat → Int32) : m_L_isDone_b1381 k1153 0 66 67 68 69 70 71 72 73 74 i15 i16 i17 i19 s0 (wA z f r) = (g_L_isDone_b1381 kg1153 i15 i16 i17 i19 s0 z f).map (fun q => (q.1, wA q.2.1 q.2.2 r)) := by
  unfold m_L_isDone_b1381 g_L_isDone_b1381
  refine iteE (fun _ => ?_) (fun _ => ?_)
  · exact e_L_isDone_b1395 (hk1153 := hk1153) _ _ _ _ _ _  _ _
  · exact e_L_isDone_b1395 (hk1153 := hk1153) _ _ _ _ _ _  _ _
def g_L_isDone_b1380 (k1153 : Int32 → Int32 → Int32 → Int32 → Int32 → (Nat → Nat → Int32) → (Nat → Nat → Int32) → Option (Int32 × (Nat → Nat → Int32) × (Nat → Nat → Int32))) (i15 : Int32) (i16 : Int32) (i17 : Int32) (i19 : Int32) (z f : Nat → Nat → Int32) : Option (Int32 × (Nat → Nat → Int32) × (Nat → Nat → Int32)) :=
  g_L_isDone_b1381 k1153 i15 i16 i17 i19 0 z f
set_option maxRecDepth 100000 in
set_option maxHeartbeats 4000000 in
theorem e_L_isDone_b1380 {r : LWd} {k1153 : Nat → Nat → Nat → Nat → Nat → Nat → Nat → Nat → Nat → Nat → Int32 → Int32 → Int32 → Int32 → Int32 → LWd → Option (Int32 × LWd)} {kg1153 : Int32 → Int32 → Int32 → Int32 → Int32 → (Nat → Nat → Int32) → (Nat → Nat → Int32) → Option (Int32 × (Nat → Nat → Int32) × (Nat → Nat → Int32))} (hk1153 : ∀ (i15 : Int32) (i16 : Int32) (i17 : Int32) (i18 : Int32) (i19 : Int32) (z f : Nat → Nat → Int32), k1153 0 66 67 68 69 70 71 72 73 74 i15 i16 i17 i18 i19 (wA z f r) = (kg1153 i15 i16 i17 i18 i19 z f).map (fun q => (q.1, wA q.2.1 q.2.2 r))) (i15 : Int32) (i16 : Int32) (i17 : Int32) (i19 : Int32) (z f : Nat → Nat → Int32) : m_L_isDone_b1380 k1153 0 66 67 68 69 70 71 72 73 74 i15 i16 i17 i19 (wA z f r) = (g_L_isDone_b1380 kg1153 i15 i16 i17 i19 z f).map (fun q => (q.1, wA q.2.1 q.2.2 r)) := by
  unfold m_L_isDone_b1380 g_L_isDone_b1380
  exact e_L_isDone_b1381 (hk1153 := hk1153) _ _ _ _ _  _ _
def g_L_isDone_b1376 (k1153 : Int32 → Int32 → Int32 → Int32 → Int32 → (Nat → Nat → Int32) → (Nat → Nat → Int32) → Option (Int32 × (Nat → Nat → Int32) × (Nat → Nat → Int32))) (i15 : Int32) (i16 : Int32) (i17 : Int32) (i19 : Int32) (z f : Nat → Nat → Int32) : Option (Int32 × (Nat → Nat → Int32) × (Nat → Nat → Int32)) :=
  g_L_isDone_b1381 k1153 i15 i16 i17 i19 1 z f
set_option maxRecDepth 100000 in
set_option maxHeartbeats 4000000 in
theorem e_L_isDone_b1376 {r : LWd} {k1153 : Nat → Nat → Nat → Nat → Nat → Nat → Nat → Nat → Nat → Nat → Int32 → Int32 → Int32 → Int32 → Int32 → LWd → Option (Int32 × LWd)} {kg1153 : Int32 → Int32 → Int32 → Int32 → Int32 → (Nat → Nat → Int32) → (Nat → Nat → Int32) → Option (Int32 × (Nat → Nat → Int32) × (Nat → Nat → Int32))} (hk1153 : ∀ (i15 : Int32) (i16 : Int32) (i17 : Int32) (i18 : Int32) (i19 : Int32) (z f : Nat → Nat → Int32), k1153 0 66 67 68 69 70 71 72 73 74 i15 i16 i17 i18 i19 (wA z f r) = (kg1153 i15 i16 i17 i18 i19 z f).map (fun q => (q.1, wA q.2.1 q.2.2 r))) (i15 : Int32) (i16 : Int32) (i17 : Int32) (i19 : Int32) (z f : Nat → Nat → Int32) : m_L_isDone_b1376 k1153 0 66 67 68 69 70 71 72 73 74 i15 i16 i17 i19 (wA z f r) = (g_L_isDone_b1376 kg1153 i15 i16 i17 i19 z f).map (fun q => (q.1, wA q.2.1 q.2.2 r)) := by
  unfold m_L_isDone_b1376 g_L_isDone_b1376
  exact e_L_isDone_b1381 (hk1153 := hk1153) _ _ _ _ _  _ _
def g_L_isDone_b1346 (k1153 : Int32 → Int32 → Int32 → Int32 → Int32 → (Nat → Nat → Int32) → (Nat → Nat → Int32) → Option (Int32 × (Nat → Nat → Int32) × (Nat → Nat → Int32))) (i15 : Int32) (i16 : Int32) (i17 : Int32) (i19 : Int32) (i24 : Int32) (i25 : Int32) (z f : Nat → Nat → Int32) : Option (Int32 × (Nat → Nat → Int32) × (Nat → Nat → Int32)) :=
  bn3 (g_L_shifts i24 i25 z f) fun x1 z2 u3 =>
  if x1 = 0 then
    g_L_isDone_b1380 k1153 i15 i16 i17 i19 z2 u3
  else
    if (u3 74 14) = 0 then
      g_L_isDone_b1376 k1153 i15 i16 i17 i19 z2 u3
    else
      g_L_isDone_b1380 k1153 i15 i16 i17 i19 z2 u3
set_option maxRecDepth 100000 in
set_option maxHeartbeats 4000000 in
theorem e_L_isDone_b1346 {r : LWd} {k1153 : Nat → Nat → Nat → Nat → Nat → Nat → Nat → Nat → Nat → Nat → Int32 → Int32 → Int32 → Int32 → Int32 → LWd → Option (Int32 × LWd)} {kg1153 : Int32 → Int32 → Int32 → Int32 → Int32 → (Nat → Nat → Int32) → (Nat → Nat → Int32) → Option (Int32 × (Nat → Nat → Int32) × (Nat → Nat → Int32))} (hk1153 : ∀ (i15 : Int32) (i16 : Int32) (i17 : Int32) (i18 : Int32) (i19 : Int32) (z f : Nat → Nat → Int32), k1153 0 66 67 68 69 70 71 72 73 74 i15 i16 i17 i18 i19 (wA z f r) = (kg1153 i15 i16 i17 i18 i19 z f).map (fun q => (q.1, wA q.2.1 q.2.2 r))) (i15 : Int32) (i16 : Int32) (i17 : Int32) (i19 : Int32) (i24 : Int32) (i25 : Int32) (z f : Nat → Nat → Int32) : m_L_isDone_b1346 k1153 0 66 67 68 69 70 71 72 73 74 i15 i16 i17 i19 i24 i25 (wA z f r) = (g_L_isDone_b1346 kg1153 i15 i16 i17 i19 i24 i25 z f).map (fun q => (q.1, wA q.2.1 q.2.2 r)) := by
  unfold m_L_isDone_b1346 g_L_isDone_b1346
  refine caW (e_L_shifts) (fun _ _ => wA_len) (fun x1 z2 u3 => ?_)
  refine iteE (fun _ => ?_) (fun _ => ?_)
  · exact e_L_isDone_b1380 (hk1153 := hk1153) _ _ _ _  _ _
  · refine opS (aI_74.trans (ixl_14 _)) ?_
    refine iteE (fun _ => ?_) (fun _ => ?_)
    · exact e_L_isDone_b1376 (hk1153 := hk1153) _ _ _ _  _ _
    · exact e_L_isDone_b1380 (hk1153 := hk1153) _ _ _ _  _ _
def g_L_isDone_b1329 (k1153 : Int32 → Int32 → Int32 → Int32 → Int32 → (Nat → Nat → Int32) → (Nat → Nat → Int32) → Option (Int32 × (Nat → Nat → Int32) × (Nat → Nat → Int32))) (i15 : Int32) (i16 : Int32) (i17 : Int32) (i19 : Int32) (i24 : Int32) (i25 : Int32) (s0 : Int32) (z f : Nat → Nat → Int32) : Option (Int32 × (Nat → Nat → Int32) × (Nat → Nat → Int32)) :=
  if s0 = 0 then
    g_L_isDone_b1380 k1153 i15 i16 i17 i19 z f
  else
    if i24 = 0 then
      if i25 = 0 then
        g_L_isDone_b1376 k1153 i15 i16 i17 i19 z f
      else
        g_L_isDone_b1346 k1153 i15 i16 i17 i19 i24 i25 z f
    else
      g_L_isDone_b1346 k1153 i15 i16 i17 i19 i24 i25 z f
set_option maxRecDepth 100000 in
set_option maxHeartbeats 4000000 in
theorem e_L_isDone_b1329 {r : LWd} {k1153 : Nat → Nat → Nat → Nat → Nat → Nat → Nat → Nat → Nat → Nat → Int32 → Int32 → Int32 → Int32 → Int32 → LWd → Option (Int32 × LWd)} {kg1153 : Int32 → Int32 → Int32 → Int32 → Int32 → (Nat → Nat → Int32) → (Nat → Nat → Int32) → Option (Int32 × (Nat → Nat → Int32) × (Nat → Nat → Int32))} (hk1153 : ∀ (i15 : Int32) (i16 : Int32) (i17 : Int32) (i18 : Int32) (i19 : Int32) (z f : Nat → Nat → Int32), k1153 0 66 67 68 69 70 71 72 73 74 i15 i16 i17 i18 i19 (wA z f r) = (kg1153 i15 i16 i17 i18 i19 z f).map (fun q => (q.1, wA q.2.1 q.2.2 r))) (i15 : Int32) (i16 : Int32) (i17 : Int32) (i19 : Int32) (i24 : Int32) (i25 : Int32) (s0 : Int32) (z f : Nat → Nat → Int32) : m_L_isDone_b1329 k1153 0 66 67 68 69 70 71 72 73 74 i15 i16 i17 i19 i24 i25 s0 (wA z f r) = (g_L_isDone_b1329 kg1153 i15 i16 i17 i19 i24 i25 s0 z f).map (fun q => (q.1, wA q.2.1 q.2.2 r)) := by
  unfold m_L_isDone_b1329 g_L_isDone_b1329
  refine iteE (fun _ => ?_) (fun _ => ?_)
  · exact e_L_isDone_b1380 (hk1153 := hk1153) _ _ _ _  _ _
  · refine iteE (fun _ => ?_) (fun _ => ?_)
    · refine iteE (fun _ => ?_) (fun _ => ?_)
      · exact e_L_isDone_b1376 (hk1153 := hk1153) _ _ _ _  _ _
      · exact e_L_isDone_b1346 (hk1153 := hk1153) _ _ _ _ _ _  _ _
    · exact e_L_isDone_b1346 (hk1153 := hk1153) _ _ _ _ _ _  _ _
def g_L_isDone_b1328 (k1153 : Int32 → Int32 → Int32 → Int32 → Int32 → (Nat → Nat → Int32) → (Nat → Nat → Int32) → Option (Int32 × (Nat → Nat → Int32) × (Nat → Nat → Int32))) (i15 : Int32) (i16 : Int32) (i17 : Int32) (i19 : Int32) (i24 : Int32) (i25 : Int32) (z f : Nat → Nat → Int32) : Option (Int32 × (Nat → Nat → Int32) × (Nat → Nat → Int32)) :=
  g_L_isDone_b1329 k1153 i15 i16 i17 i19 i24 i25 0 z f
set_option maxRecDepth 100000 in
set_option maxHeartbeats 4000000 in
theorem e_L_isDone_b1328 {r : LWd} {k1153 : Nat → Nat → Nat → Nat → Nat → Nat → Nat → Nat → Nat → Nat → Int32 → Int32 → Int32 → Int32 → Int32 → LWd → Option (Int32 × LWd)} {kg1153 : Int32 → Int32 → Int32 → Int32 → Int32 → (Nat → Nat → Int32) → (Nat → Nat → Int32) → Option (Int32 × (Nat → Nat → Int32) × (Nat → Nat → Int32))} (hk1153 : ∀ (i15 : Int32) (i16 : Int32) (i17 : Int32) (i18 : Int32) (i19 : Int32) (z f : Nat → Nat → Int32), k1153 0 66 67 68 69 70 71 72 73 74 i15 i16 i17 i18 i19 (wA z f r) = (kg1153 i15 i16 i17 i18 i19 z f).map (fun q => (q.1, wA q.2.1 q.2.2 r))) (i15 : Int32) (i16 : Int32) (i17 : Int32) (i19 : Int32) (i24 : Int32) (i25 : Int32) (z f : Nat → Nat → Int32) : m_L_isDone_b1328 k1153 0 66 67 68 69 70 71 72 73 74 i15 i16 i17 i19 i24 i25 (wA z f r) = (g_L_isDone_b1328 kg1153 i15 i16 i17 i19 i24 i25 z f).map (fun q => (q.1, wA q.2.1 q.2.2 r)) := by
  unfold m_L_isDone_b1328 g_L_isDone_b1328
  exact e_L_isDone_b1329 (hk1153 := hk1153) _ _ _ _ _ _ _  _ _
def g_L_isDone_b1284 (k1153 : Int32 → Int32 → Int32 → Int32 → Int32 → (Nat → Nat → Int32) → (Nat → Nat → Int32) → Option (Int32 × (Nat → Nat → Int32) × (Nat → Nat → Int32))) (i15 : Int32) (i16 : Int32) (i17 : Int32) (i19 : Int32) (i21 : Int32) (i22 : Int32) (i23 : Int32) (i24 : Int32) (i25 : Int32) (s0 : Int32) (z f : Nat → Nat → Int32) : Option (Int32 × (Nat → Nat → Int32) × (Nat → Nat → Int32)) :=
  if s0 = 0 then
    g_L_isDone_b1328 k1153 i15 i16 i17 i19 i24 i25 z f
  else
    bn3 (g_L_places i21 i22 i23 z f) fun x1 z2 u3 =>
    if x1 = 0 then
      g_L_isDone_b1328 k1153 i15 i16 i17 i19 i24 i25 z2 u3
    else
      if (u3 74 14) = 0 then
        g_L_isDone_b1329 k1153 i15 i16 i17 i19 i24 i25 1 z2 u3
      else
        g_L_isDone_b1328 k1153 i15 i16 i17 i19 i24 i25 z2 u3
set_option maxRecDepth 100000 in
set_option maxHeartbeats 4000000 in
theorem e_L_isDone_b1284 {r : LWd} {k1153 : Nat → Nat → Nat → Nat → Nat → Nat → Nat → Nat → Nat → Nat → Int32 → Int32 → Int32 → Int32 → Int32 → LWd → Option (Int32 × LWd)} {kg1153 : Int32 → Int32 → Int32 → Int32 → Int32 → (Nat → Nat → Int32) → (Nat → Nat → Int32) → Option (Int32 × (Nat → Nat → Int32) × (Nat → Nat → Int32))} (hk1153 : ∀ (i15 : Int32) (i16 : Int32) (i17 : Int32) (i18 : Int32) (i19 : Int32) (z f : Nat → Nat → Int32), k1153 0 66 67 68 69 70 71 72 73 74 i15 i16 i17 i18 i19 (wA z f r) = (kg1153 i15 i16 i17 i18 i19 z f).map (fun q => (q.1, wA q.2.1 q.2.2 r))) (i15 : Int32) (i16 : Int32) (i17 : Int32) (i19 : Int32) (i21 : Int32) (i22 : Int32) (i23 : Int32) (i24 : Int32) (i25 : Int32) (s0 : Int32) (z f : Nat → Nat → Int32) : m_L_isDone_b1284 k1153 0 66 67 68 69 70 71 72 73 74 i15 i16 i17 i19 i21 i22 i23 i24 i25 s0 (wA z f r) = (g_L_isDone_b1284 kg1153 i15 i16 i17 i19 i21 i22 i23 i24 i25 s0 z f).map (fun q => (q.1, wA q.2.1 q.2.2 r)) := by
  unfold m_L_isDone_b1284 g_L_isDone_b1284
  refine iteE (fun _ => ?_) (fun _ => ?_)
  · exact e_L_isDone_b1328 (hk1153 := hk1153) _ _ _ _ _ _  _ _
  · refine caW (e_L_places) (fun _ _ => wA_len) (fun x1 z2 u3 => ?_)
    refine iteE (fun _ => ?_) (fun _ => ?_)
    · exact e_L_isDone_b1328 (hk1153 := hk1153) _ _ _ _ _ _  _ _
    · refine opS (aI_74.trans (ixl_14 _)) ?_
      refine iteE (fun _ => ?_) (fun _ => ?_)
      · exact e_L_isDone_b1329 (hk1153 := hk1153) _ _ _ _ _ _ _  _ _
      · exact e_L_isDone_b1328 (hk1153 := hk1153) _ _ _ _ _ _  _ _
def g_L_isDone_b1283 (k1153 : Int32 → Int32 → Int32 → Int32 → Int32 → (Nat → Nat → Int32) → (Nat → Nat → Int32) → Option (Int32 × (Nat → Nat → Int32) × (Nat → Nat → Int32))) (i15 : Int32) (i16 : Int32) (i17 : Int32) (i19 : Int32) (i21 : Int32) (i22 : Int32) (i23 : Int32) (i24 : Int32) (i25 : Int32) (z f : Nat → Nat → Int32) : Option (Int32 × (Nat → Nat → Int32) × (Nat → Nat → Int32)) :=
  g_L_isDone_b1284 k1153 i15 i16 i17 i19 i21 i22 i23 i24 i25 0 z f
set_option maxRecDepth 100000 in
set_option maxHeartbeats 4000000 in
theorem e_L_isDone_b1283 {r : LWd} {k1153 : Nat → Nat → Nat → Nat → Nat → Nat → Nat → Nat → Nat → Nat → Int32 → Int32 → Int32 → Int32 → Int32 → LWd → Option (Int32 × LWd)} {kg1153 : Int32 → Int32 → Int32 → Int32 → Int32 → (Nat → Nat → Int32) → (Nat → Nat → Int32) → Option (Int32 × (Nat → Nat → Int32) × (Nat → Nat → Int32))} (hk1153 : ∀ (i15 : Int32) (i16 : Int32) (i17 : Int32) (i18 : Int32) (i19 : Int32) (z f : Nat → Nat → Int32), k1153 0 66 67 68 69 70 71 72 73 74 i15 i16 i17 i18 i19 (wA z f r) = (kg1153 i15 i16 i17 i18 i19 z f).map (fun q => (q.1, wA q.2.1 q.2.2 r))) (i15 : Int32) (i16 : Int32) (i17 : Int32) (i19 : Int32) (i21 : Int32) (i22 : Int32) (i23 : Int32) (i24 : Int32) (i25 : Int32) (z f : Nat → Nat → Int32) : m_L_isDone_b1283 k1153 0 66 67 68 69 70 71 72 73 74 i15 i16 i17 i19 i21 i22 i23 i24 i25 (wA z f r) = (g_L_isDone_b1283 kg1153 i15 i16 i17 i19 i21 i22 i23 i24 i25 z f).map (fun q => (q.1, wA q.2.1 q.2.2 r)) := by
  unfold m_L_isDone_b1283 g_L_isDone_b1283
  exact e_L_isDone_b1284 (hk1153 := hk1153) _ _ _ _ _ _ _ _ _ _  _ _
def g_L_isDone_l1153 : Nat → Int32 → Int32 → Int32 → Int32 → Int32 → (Nat → Nat → Int32) → (Nat → Nat → Int32) → Option (Int32 × (Nat → Nat → Int32) × (Nat → Nat → Int32))
  | 0, _, _, _, _, _, _, _ => none
  | fu + 1, i15, i16, i17, i18, i19, z, f =>
    if i18 = 0 then
      g_L_isDone_b1432 i15 i16 i17 i19 z f
    else
      if i15 ≤ i17 then
        g_L_isDone_b1432 i15 i16 i17 i19 z f
      else
        (ixA 8 (f 74 13)).bind fun j2 =>
        (ixA 6 (jrem (f 72 j2) 8)).bind fun j3 =>
        (ixA 6 (jrem (f 72 j2) 8)).bind fun j4 =>
        bn3 (g_L_lifts (jrem (f 72 j2) 8) z f) fun x5 z6 u7 =>
        if x5 = 0 then
          g_L_isDone_b1283 (fun y0 y1 y2 y3 y4 z f => g_L_isDone_l1153 fu y0 y1 y2 y3 y4 z f) i15 i16 i17 i19 (jrem (f 72 j2) 8) (((f 70 j3) + (jrem ((f 72 j2) / 8) 16)) - 6) (((f 71 j4) + (jrem ((f 72 j2) / 128) 16)) - 6) ((jrem ((f 72 j2) / 2048) 4) - 1) (((f 72 j2) / 8192) - 1) z6 u7
        else
          if (u7 74 14) = 0 then
            (g_L_isIn (((f 70 j3) + (jrem ((f 72 j2) / 8) 16)) - 6) (((f 71 j4) + (jrem ((f 72 j2) / 128) 16)) - 6) z6 u7).bind fun x9 =>
            if x9 = 0 then
              g_L_isDone_b1283 (fun y0 y1 y2 y3 y4 z f => g_L_isDone_l1153 fu y0 y1 y2 y3 y4 z f) i15 i16 i17 i19 (jrem (f 72 j2) 8) (((f 70 j3) + (jrem ((f 72 j2) / 8) 16)) - 6) (((f 71 j4) + (jrem ((f 72 j2) / 128) 16)) - 6) ((jrem ((f 72 j2) / 2048) 4) - 1) (((f 72 j2) / 8192) - 1) z6 u7
            else
              g_L_isDone_b1284 (fun y0 y1 y2 y3 y4 z f => g_L_isDone_l1153 fu y0 y1 y2 y3 y4 z f) i15 i16 i17 i19 (jrem (f 72 j2) 8) (((f 70 j3) + (jrem ((f 72 j2) / 8) 16)) - 6) (((f 71 j4) + (jrem ((f 72 j2) / 128) 16)) - 6) ((jrem ((f 72 j2) / 2048) 4) - 1) (((f 72 j2) / 8192) - 1) 1 z6 u7
          else
            g_L_isDone_b1283 (fun y0 y1 y2 y3 y4 z f => g_L_isDone_l1153 fu y0 y1 y2 y3 y4 z f) i15 i16 i17 i19 (jrem (f 72 j2) 8) (((f 70 j3) + (jrem ((f 72 j2) / 8) 16)) - 6) (((f 71 j4) + (jrem ((f 72 j2) / 128) 16)) - 6) ((jrem ((f 72 j2) / 2048) 4) - 1) (((f 72 j2) / 8192) - 1) z6 u7
set_option maxRecDepth 100000 in
set_option maxHeartbeats 4000000 in
theorem e_L_isDone_l1153 {r : LWd} : ∀ (fu : Nat) (i15 : Int32) (i16 : Int32) (i17 : Int32) (i18 : Int32) (i19 : Int32) (z f : Nat → Nat → Int32), m_L_isDone_l1153 fu 0 66 67 68 69 70 71 72 73 74 i15 i16 i17 i18 i19 (wA z f r) = (g_L_isDone_l1153 fu i15 i16 i17 i18 i19 z f).map (fun q => (q.1, wA q.2.1 q.2.2 r)) := by
  intro fu
  induction fu with
  | zero => intro i15 i16 i17 i18 i19  z f; first | rfl | (rw [m_L_isDone_l1153, g_L_isDone_l1153]; rfl)
  | succ fu ih =>
    intro i15 i16 i17 i18 i19  z f
    rw [m_L_isDone_l1153, g_L_isDone_l1153]
    refine iteE (fun _ => ?_) (fun _ => ?_)
    · exact e_L_isDone_b1432 _ _ _ _  _ _
    · refine iteE (fun _ => ?_) (fun _ => ?_)
      · exact e_L_isDone_b1432 _ _ _ _  _ _
      · refine opS (aI_74.trans (ixl_13 _)) ?_
        refine opM aI_72 (fun j2 hj2 => ?_)
        refine opM aI_70 (fun j3 hj3 => ?_)
        refine opM aI_71 (fun j4 hj4 => ?_)
        refine caW (e_L_lifts) (fun _ _ => wA_len) (fun x5 z6 u7 => ?_)
        refine iteE (fun _ => ?_) (fun _ => ?_)
        · exact e_L_isDone_b1283 (hk1153 := ih) _ _ _ _ _ _ _ _ _  _ _
        · refine opS (aI_74.trans (ixl_14 _)) ?_
          refine iteE (fun _ => ?_) (fun _ => ?_)
          · refine caP (e_L_isIn) (fun x9 => ?_)
            refine iteE (fun _ => ?_) (fun _ => ?_)
            · exact e_L_isDone_b1283 (hk1153 := ih) _ _ _ _ _ _ _ _ _  _ _
            · exact e_L_isDone_b1284 (hk1153 := ih) _ _ _ _ _ _ _ _ _ _  _ _
          · exact e_L_isDone_b1283 (hk1153 := ih) _ _ _ _ _ _ _ _ _  _ _
def g_L_isDone_b1147 (i15 : Int32) (i16 : Int32) (i17 : Int32) (s0 : Int32) (z f : Nat → Nat → Int32) : Option (Int32 × (Nat → Nat → Int32) × (Nat → Nat → Int32)) :=
  g_L_isDone_l1153 FU i15 i16 i17 s0 s0 z f
set_option maxRecDepth 100000 in
set_option maxHeartbeats 4000000 in
theorem e_L_isDone_b1147 {r : LWd} (i15 : Int32) (i16 : Int32) (i17 : Int32) (s0 : Int32) (z f : Nat → Nat → Int32) : m_L_isDone_b1147 0 66 67 68 69 70 71 72 73 74 i15 i16 i17 s0 (wA z f r) = (g_L_isDone_b1147 i15 i16 i17 s0 z f).map (fun q => (q.1, wA q.2.1 q.2.2 r)) := by
  unfold m_L_isDone_b1147 g_L_isDone_b1147
  exact e_L_isDone_l1153 FU _ _ _ _ _  _ _
def g_L_isDone_b1146 (i15 : Int32) (i16 : Int32) (i17 : Int32) (z f : Nat → Nat → Int32) : Option (Int32 × (Nat → Nat → Int32) × (Nat → Nat → Int32)) :=
  g_L_isDone_b1147 i15 i16 i17 0 z f
set_option maxRecDepth 100000 in
set_option maxHeartbeats 4000000 in
theorem e_L_isDone_b1146 {r : LWd} (i15 : Int32) (i16 : Int32) (i17 : Int32) (z f : Nat → Nat → Int32) : m_L_isDone_b1146 0 66 67 68 69 70 71 72 73 74 i15 i16 i17 (wA z f r) = (g_L_isDone_b1146 i15 i16 i17 z f).map (fun q => (q.1, wA q.2.1 q.2.2 r)) := by
  unfold m_L_isDone_b1146 g_L_isDone_b1146
  exact e_L_isDone_b1147 _ _ _ _  _ _
def g_L_isDone_b1124 (i15 : Int32) (s0 : Int32) (z f : Nat → Nat → Int32) : Option (Int32 × (Nat → Nat → Int32) × (Nat → Nat → Int32)) :=
  if s0 = 0 then
    g_L_isDone_b1146 i15 s0 0 z f
  else
    if (f 74 12) ≤ 0 then
      g_L_isDone_b1146 i15 s0 0 z f
    else
      g_L_isDone_b1147 i15 s0 0 1 z f
set_option maxRecDepth 100000 in
set_option maxHeartbeats 4000000 in
theorem e_L_isDone_b1124 {r : LWd} (i15 : Int32) (s0 : Int32) (z f : Nat → Nat → Int32) : m_L_isDone_b1124 0 66 67 68 69 70 71 72 73 74 i15 s0 (wA z f r) = (g_L_isDone_b1124 i15 s0 z f).map (fun q => (q.1, wA q.2.1 q.2.2 r)) := by
  unfold m_L_isDone_b1124 g_L_isDone_b1124
  refine iteE (fun _ => ?_) (fun _ => ?_)
  · exact e_L_isDone_b1146 _ _ _  _ _
  · refine opS (aI_74.trans (ixl_12 _)) ?_
    refine iteE (fun _ => ?_) (fun _ => ?_)
    · exact e_L_isDone_b1146 _ _ _  _ _
    · exact e_L_isDone_b1147 _ _ _ _  _ _
def g_L_isDone_b1123 (i15 : Int32) (z f : Nat → Nat → Int32) : Option (Int32 × (Nat → Nat → Int32) × (Nat → Nat → Int32)) :=
  g_L_isDone_b1124 i15 0 z f
set_option maxRecDepth 100000 in
set_option maxHeartbeats 4000000 in
theorem e_L_isDone_b1123 {r : LWd} (i15 : Int32) (z f : Nat → Nat → Int32) : m_L_isDone_b1123 0 66 67 68 69 70 71 72 73 74 i15 (wA z f r) = (g_L_isDone_b1123 i15 z f).map (fun q => (q.1, wA q.2.1 q.2.2 r)) := by
  unfold m_L_isDone_b1123 g_L_isDone_b1123
  exact e_L_isDone_b1124 _ _  _ _
def g_L_isDone_b1091 (s0 : Int32) (s1 : Int32) (z f : Nat → Nat → Int32) : Option (Int32 × (Nat → Nat → Int32) × (Nat → Nat → Int32)) :=
  if s0 = s1 then
    some (1, z, f)
  else
    some (0, z, f)
set_option maxRecDepth 100000 in
set_option maxHeartbeats 4000000 in
theorem e_L_isDone_b1091 {r : LWd} (s0 : Int32) (s1 : Int32) (z f : Nat → Nat → Int32) : m_L_isDone_b1091 s0 s1 (wA z f r) = (g_L_isDone_b1091 s0 s1 z f).map (fun q => (q.1, wA q.2.1 q.2.2 r)) := by
  unfold m_L_isDone_b1091 g_L_isDone_b1091
  refine iteE (fun _ => ?_) (fun _ => ?_)
  · rfl
  · rfl
def g_L_isDone_b1051 (i15 : Int32) (i16 : Int32) (i17 : Int32) (s0 : Int32) (z f : Nat → Nat → Int32) : Option (Int32 × (Nat → Nat → Int32) × (Nat → Nat → Int32)) :=
  bn3 (g_L_does 9 i15 i16 0 0 0 z f) fun x1 z2 u3 =>
  if i17 = 0 then
    g_L_isDone_b1091 x1 ((-2000000)) z2 u3
  else
    if s0 = 0 then
      g_L_isDone_b1091 x1 ((-1000000)) z2 u3
    else
      g_L_isDone_b1091 x1 (u3 74 14) z2 u3
set_option maxRecDepth 100000 in
set_option maxHeartbeats 4000000 in
theorem e_L_isDone_b1051 {r : LWd} (i15 : Int32) (i16 : Int32) (i17 : Int32) (s0 : Int32) (z f : Nat → Nat → Int32) : m_L_isDone_b1051 0 74 i15 i16 i17 s0 (wA z f r) = (g_L_isDone_b1051 i15 i16 i17 s0 z f).map (fun q => (q.1, wA q.2.1 q.2.2 r)) := by
  unfold m_L_isDone_b1051 g_L_isDone_b1051
  refine caW e_L_does (fun _ _ => wA_len) (fun x1 z2 u3 => ?_)
  refine iteE (fun _ => ?_) (fun _ => ?_)
  · exact e_L_isDone_b1091 _ _  _ _
  · refine iteE (fun _ => ?_) (fun _ => ?_)
    · exact e_L_isDone_b1091 _ _  _ _
    · refine opS (aI_74.trans (ixl_14 _)) ?_
      exact e_L_isDone_b1091 _ _  _ _
def g_L_isDone_b1050 (i15 : Int32) (i16 : Int32) (i17 : Int32) (z f : Nat → Nat → Int32) : Option (Int32 × (Nat → Nat → Int32) × (Nat → Nat → Int32)) :=
  g_L_isDone_b1051 i15 i16 i17 0 z f
set_option maxRecDepth 100000 in
set_option maxHeartbeats 4000000 in
theorem e_L_isDone_b1050 {r : LWd} (i15 : Int32) (i16 : Int32) (i17 : Int32) (z f : Nat → Nat → Int32) : m_L_isDone_b1050 0 74 i15 i16 i17 (wA z f r) = (g_L_isDone_b1050 i15 i16 i17 z f).map (fun q => (q.1, wA q.2.1 q.2.2 r)) := by
  unfold m_L_isDone_b1050 g_L_isDone_b1050
  exact e_L_isDone_b1051 _ _ _ _  _ _
def g_L_isDone_b1017 (i15 : Int32) (i16 : Int32) (s0 : Int32) (z f : Nat → Nat → Int32) : Option (Int32 × (Nat → Nat → Int32) × (Nat → Nat → Int32)) :=
  if s0 = 0 then
    g_L_isDone_b1050 i15 i16 s0 z f
  else
    bn3 (g_L_shifts i15 i16 z f) fun x1 z2 u3 =>
    if x1 = 0 then
      g_L_isDone_b1050 i15 i16 s0 z2 u3
    else
      g_L_isDone_b1051 i15 i16 s0 1 z2 u3
set_option maxRecDepth 100000 in
set_option maxHeartbeats 4000000 in
theorem e_L_isDone_b1017 {r : LWd} (i15 : Int32) (i16 : Int32) (s0 : Int32) (z f : Nat → Nat → Int32) : m_L_isDone_b1017 0 66 68 69 70 71 73 74 i15 i16 s0 (wA z f r) = (g_L_isDone_b1017 i15 i16 s0 z f).map (fun q => (q.1, wA q.2.1 q.2.2 r)) := by
  unfold m_L_isDone_b1017 g_L_isDone_b1017
  refine iteE (fun _ => ?_) (fun _ => ?_)
  · exact e_L_isDone_b1050 _ _ _  _ _
  · refine caW (e_L_shifts) (fun _ _ => wA_len) (fun x1 z2 u3 => ?_)
    refine iteE (fun _ => ?_) (fun _ => ?_)
    · exact e_L_isDone_b1050 _ _ _  _ _
    · exact e_L_isDone_b1051 _ _ _ _  _ _
def g_L_isDone_b1016 (i15 : Int32) (i16 : Int32) (z f : Nat → Nat → Int32) : Option (Int32 × (Nat → Nat → Int32) × (Nat → Nat → Int32)) :=
  g_L_isDone_b1017 i15 i16 0 z f
set_option maxRecDepth 100000 in
set_option maxHeartbeats 4000000 in
theorem e_L_isDone_b1016 {r : LWd} (i15 : Int32) (i16 : Int32) (z f : Nat → Nat → Int32) : m_L_isDone_b1016 0 66 68 69 70 71 73 74 i15 i16 (wA z f r) = (g_L_isDone_b1016 i15 i16 z f).map (fun q => (q.1, wA q.2.1 q.2.2 r)) := by
  unfold m_L_isDone_b1016 g_L_isDone_b1016
  exact e_L_isDone_b1017 _ _ _  _ _
def g_L_isDone_b1012 (i15 : Int32) (i16 : Int32) (z f : Nat → Nat → Int32) : Option (Int32 × (Nat → Nat → Int32) × (Nat → Nat → Int32)) :=
  g_L_isDone_b1017 i15 i16 1 z f
set_option maxRecDepth 100000 in
set_option maxHeartbeats 4000000 in
theorem e_L_isDone_b1012 {r : LWd} (i15 : Int32) (i16 : Int32) (z f : Nat → Nat → Int32) : m_L_isDone_b1012 0 66 68 69 70 71 73 74 i15 i16 (wA z f r) = (g_L_isDone_b1012 i15 i16 z f).map (fun q => (q.1, wA q.2.1 q.2.2 r)) := by
  unfold m_L_isDone_b1012 g_L_isDone_b1012
  exact e_L_isDone_b1017 _ _ _  _ _
def g_L_isDone_b986 (i12 : Int32) (s0 : Int32) (z f : Nat → Nat → Int32) : Option (Int32 × (Nat → Nat → Int32) × (Nat → Nat → Int32)) :=
  if 2 ≤ s0 then
    g_L_isDone_b1016 s0 ((jrem i12 3) - 1) z f
  else
    if s0 = 0 then
      if ((jrem i12 3) - 1) = 0 then
        g_L_isDone_b1016 s0 ((jrem i12 3) - 1) z f
      else
        g_L_isDone_b1012 s0 ((jrem i12 3) - 1) z f
    else
      g_L_isDone_b1012 s0 ((jrem i12 3) - 1) z f
set_option maxRecDepth 100000 in
set_option maxHeartbeats 4000000 in
theorem e_L_isDone_b986 {r : LWd} (i12 : Int32) (s0 : Int32) (z f : Nat → Nat → Int32) : m_L_isDone_b986 0 66 68 69 70 71 73 74 i12 s0 (wA z f r) = (g_L_isDone_b986 i12 s0 z f).map (fun q => (q.1, wA q.2.1 q.2.2 r)) := by
  unfold m_L_isDone_b986 g_L_isDone_b986
  refine iteE (fun _ => ?_) (fun _ => ?_)
  · exact e_L_isDone_b1016 _ _  _ _
  · refine iteE (fun _ => ?_) (fun _ => ?_)
    · refine iteE (fun _ => ?_) (fun _ => ?_)
      · exact e_L_isDone_b1016 _ _  _ _
      · exact e_L_isDone_b1012 _ _  _ _
    · exact e_L_isDone_b1012 _ _  _ _
def g_L_isDone_b951 (s0 : Int32) (s1 : Int32) (z f : Nat → Nat → Int32) : Option (Int32 × (Nat → Nat → Int32) × (Nat → Nat → Int32)) :=
  if s0 = s1 then
    some (1, z, f)
  else
    some (0, z, f)
set_option maxRecDepth 100000 in
set_option maxHeartbeats 4000000 in
theorem e_L_isDone_b951 {r : LWd} (s0 : Int32) (s1 : Int32) (z f : Nat → Nat → Int32) : m_L_isDone_b951 s0 s1 (wA z f r) = (g_L_isDone_b951 s0 s1 z f).map (fun q => (q.1, wA q.2.1 q.2.2 r)) := by
  unfold m_L_isDone_b951 g_L_isDone_b951
  refine iteE (fun _ => ?_) (fun _ => ?_)
  · rfl
  · rfl
def g_L_isDone_b900 (i13 : Int32) (i14 : Int32) (i15 : Int32) (i16 : Int32) (i17 : Int32) (s0 : Int32) (z f : Nat → Nat → Int32) : Option (Int32 × (Nat → Nat → Int32) × (Nat → Nat → Int32)) :=
  bn3 (g_L_does 8 i13 i15 i16 0 0 z f) fun x1 z2 u3 =>
  if i14 = 0 then
    g_L_isDone_b951 x1 ((-3000000)) z2 u3
  else
    if i17 = 0 then
      g_L_isDone_b951 x1 ((-2000000)) z2 u3
    else
      if s0 = 0 then
        g_L_isDone_b951 x1 ((-1000000)) z2 u3
      else
        g_L_isDone_b951 x1 (u3 74 14) z2 u3
set_option maxRecDepth 100000 in
set_option maxHeartbeats 4000000 in
theorem e_L_isDone_b900 {r : LWd} (i13 : Int32) (i14 : Int32) (i15 : Int32) (i16 : Int32) (i17 : Int32) (s0 : Int32) (z f : Nat → Nat → Int32) : m_L_isDone_b900 0 74 i13 i14 i15 i16 i17 s0 (wA z f r) = (g_L_isDone_b900 i13 i14 i15 i16 i17 s0 z f).map (fun q => (q.1, wA q.2.1 q.2.2 r)) := by
  unfold m_L_isDone_b900 g_L_isDone_b900
  refine caW e_L_does (fun _ _ => wA_len) (fun x1 z2 u3 => ?_)
  refine iteE (fun _ => ?_) (fun _ => ?_)
  · exact e_L_isDone_b951 _ _  _ _
  · refine iteE (fun _ => ?_) (fun _ => ?_)
    · exact e_L_isDone_b951 _ _  _ _
    · refine iteE (fun _ => ?_) (fun _ => ?_)
      · exact e_L_isDone_b951 _ _  _ _
      · refine opS (aI_74.trans (ixl_14 _)) ?_
        exact e_L_isDone_b951 _ _  _ _
def g_L_isDone_b899 (i13 : Int32) (i14 : Int32) (i15 : Int32) (i16 : Int32) (i17 : Int32) (z f : Nat → Nat → Int32) : Option (Int32 × (Nat → Nat → Int32) × (Nat → Nat → Int32)) :=
  g_L_isDone_b900 i13 i14 i15 i16 i17 0 z f
set_option maxRecDepth 100000 in
set_option maxHeartbeats 4000000 in
theorem e_L_isDone_b899 {r : LWd} (i13 : Int32) (i14 : Int32) (i15 : Int32) (i16 : Int32) (i17 : Int32) (z f : Nat → Nat → Int32) : m_L_isDone_b899 0 74 i13 i14 i15 i16 i17 (wA z f r) = (g_L_isDone_b899 i13 i14 i15 i16 i17 z f).map (fun q => (q.1, wA q.2.1 q.2.2 r)) := by
  unfold m_L_isDone_b899 g_L_isDone_b899
  exact e_L_isDone_b900 _ _ _ _ _ _  _ _
def g_L_isDone_b840 (i12 : Int32) (i13 : Int32) (i14 : Int32) (i15 : Int32) (s0 : Int32) (z f : Nat → Nat → Int32) : Option (Int32 × (Nat → Nat → Int32) × (Nat → Nat → Int32)) :=
  (g_L_isIn i15 ((s0 + (jrem (i12 / 5) 5)) - 2) z f).bind fun x1 =>
  if i14 = 0 then
    g_L_isDone_b899 i13 i14 i15 ((s0 + (jrem (i12 / 5) 5)) - 2) x1 z f
  else
    if x1 = 0 then
      g_L_isDone_b899 i13 i14 i15 ((s0 + (jrem (i12 / 5) 5)) - 2) x1 z f
    else
      bn3 (g_L_places i13 i15 ((s0 + (jrem (i12 / 5) 5)) - 2) z f) fun x2 z3 u4 =>
      if x2 = 0 then
        g_L_isDone_b899 i13 i14 i15 ((s0 + (jrem (i12 / 5) 5)) - 2) x1 z3 u4
      else
        g_L_isDone_b900 i13 i14 i15 ((s0 + (jrem (i12 / 5) 5)) - 2) x1 1 z3 u4
set_option maxRecDepth 100000 in
set_option maxHeartbeats 4000000 in
theorem e_L_isDone_b840 {r : LWd} (i12 : Int32) (i13 : Int32) (i14 : Int32) (i15 : Int32) (s0 : Int32) (z f : Nat → Nat → Int32) : m_L_isDone_b840 0 66 67 68 69 70 71 73 74 i12 i13 i14 i15 s0 (wA z f r) = (g_L_isDone_b840 i12 i13 i14 i15 s0 z f).map (fun q => (q.1, wA q.2.1 q.2.2 r)) := by
  unfold m_L_isDone_b840 g_L_isDone_b840
  refine caP (e_L_isIn) (fun x1 => ?_)
  refine iteE (fun _ => ?_) (fun _ => ?_)
  · exact e_L_isDone_b899 _ _ _ _ _  _ _
  · refine iteE (fun _ => ?_) (fun _ => ?_)
    · exact e_L_isDone_b899 _ _ _ _ _  _ _
    · refine caW (e_L_places) (fun _ _ => wA_len) (fun x2 z3 u4 => ?_)
      refine iteE (fun _ => ?_) (fun _ => ?_)
      · exact e_L_isDone_b899 _ _ _ _ _  _ _
      · exact e_L_isDone_b900 _ _ _ _ _ _  _ _
def g_L_isDone_b813 (i12 : Int32) (i13 : Int32) (i14 : Int32) (s0 : Int32) (z f : Nat → Nat → Int32) : Option (Int32 × (Nat → Nat → Int32) × (Nat → Nat → Int32)) :=
  if i14 = 0 then
    g_L_isDone_b840 i12 i13 i14 ((s0 + (jrem i12 5)) - 2) 5 z f
  else
    (g_L_hipY i13 z f).bind fun x1 =>
    g_L_isDone_b840 i12 i13 i14 ((s0 + (jrem i12 5)) - 2) x1 z f
set_option maxRecDepth 100000 in
set_option maxHeartbeats 4000000 in
theorem e_L_isDone_b813 {r : LWd} (i12 : Int32) (i13 : Int32) (i14 : Int32) (s0 : Int32) (z f : Nat → Nat → Int32) : m_L_isDone_b813 0 66 67 68 69 70 71 73 74 i12 i13 i14 s0 (wA z f r) = (g_L_isDone_b813 i12 i13 i14 s0 z f).map (fun q => (q.1, wA q.2.1 q.2.2 r)) := by
  unfold m_L_isDone_b813 g_L_isDone_b813
  refine iteE (fun _ => ?_) (fun _ => ?_)
  · exact e_L_isDone_b840 _ _ _ _ _  _ _
  · refine caP (e_L_hipY) (fun x1 => ?_)
    exact e_L_isDone_b840 _ _ _ _ _  _ _
def g_L_isDone_b780 (s0 : Int32) (s1 : Int32) (z f : Nat → Nat → Int32) : Option (Int32 × (Nat → Nat → Int32) × (Nat → Nat → Int32)) :=
  if s0 = s1 then
    some (1, z, f)
  else
    some (0, z, f)
set_option maxRecDepth 100000 in
set_option maxHeartbeats 4000000 in
theorem e_L_isDone_b780 {r : LWd} (s0 : Int32) (s1 : Int32) (z f : Nat → Nat → Int32) : m_L_isDone_b780 s0 s1 (wA z f r) = (g_L_isDone_b780 s0 s1 z f).map (fun q => (q.1, wA q.2.1 q.2.2 r)) := by
  unfold m_L_isDone_b780 g_L_isDone_b780
  refine iteE (fun _ => ?_) (fun _ => ?_)
  · rfl
  · rfl
def g_L_isDone_b741 (i13 : Int32) (i14 : Int32) (s0 : Int32) (z f : Nat → Nat → Int32) : Option (Int32 × (Nat → Nat → Int32) × (Nat → Nat → Int32)) :=
  bn3 (g_L_does 7 i13 0 0 0 0 z f) fun x1 z2 u3 =>
  if i14 = 0 then
    g_L_isDone_b780 x1 ((-3000000)) z2 u3
  else
    if s0 = 0 then
      g_L_isDone_b780 x1 ((-1000000)) z2 u3
    else
      g_L_isDone_b780 x1 (u3 74 14) z2 u3
set_option maxRecDepth 100000 in
set_option maxHeartbeats 4000000 in
theorem e_L_isDone_b741 {r : LWd} (i13 : Int32) (i14 : Int32) (s0 : Int32) (z f : Nat → Nat → Int32) : m_L_isDone_b741 0 74 i13 i14 s0 (wA z f r) = (g_L_isDone_b741 i13 i14 s0 z f).map (fun q => (q.1, wA q.2.1 q.2.2 r)) := by
  unfold m_L_isDone_b741 g_L_isDone_b741
  refine caW e_L_does (fun _ _ => wA_len) (fun x1 z2 u3 => ?_)
  refine iteE (fun _ => ?_) (fun _ => ?_)
  · exact e_L_isDone_b780 _ _  _ _
  · refine iteE (fun _ => ?_) (fun _ => ?_)
    · exact e_L_isDone_b780 _ _  _ _
    · refine opS (aI_74.trans (ixl_14 _)) ?_
      exact e_L_isDone_b780 _ _  _ _
def g_L_isDone_b740 (i13 : Int32) (i14 : Int32) (z f : Nat → Nat → Int32) : Option (Int32 × (Nat → Nat → Int32) × (Nat → Nat → Int32)) :=
  g_L_isDone_b741 i13 i14 0 z f
set_option maxRecDepth 100000 in
set_option maxHeartbeats 4000000 in
theorem e_L_isDone_b740 {r : LWd} (i13 : Int32) (i14 : Int32) (z f : Nat → Nat → Int32) : m_L_isDone_b740 0 74 i13 i14 (wA z f r) = (g_L_isDone_b740 i13 i14 z f).map (fun q => (q.1, wA q.2.1 q.2.2 r)) := by
  unfold m_L_isDone_b740 g_L_isDone_b740
  exact e_L_isDone_b741 _ _ _  _ _
def g_L_isDone_b705 (i10 : Int32) (i11 : Int32) (i12 : Int32) (i13 : Int32) (s0 : Int32) (z f : Nat → Nat → Int32) : Option (Int32 × (Nat → Nat → Int32) × (Nat → Nat → Int32)) :=
  if i10 = 2 then
    if s0 = 0 then
      g_L_isDone_b740 i13 s0 z f
    else
      bn3 (g_L_lifts i13 z f) fun x2 z3 u4 =>
      if x2 = 0 then
        g_L_isDone_b740 i13 s0 z3 u4
      else
        g_L_isDone_b741 i13 s0 1 z3 u4
  else
    if i10 = 3 then
      if s0 = 0 then
        g_L_isDone_b813 i12 i13 s0 5 z f
      else
        (g_L_hipX i13 z f).bind fun x1 =>
        g_L_isDone_b813 i12 i13 s0 x1 z f
    else
      if i10 = 4 then
        if (jrem i11 13) = 12 then
          g_L_isDone_b986 i12 2 z f
        else
          g_L_isDone_b986 i12 ((jrem i11 3) - 1) z f
      else
        if (jrem i12 23) ≤ 0 then
          g_L_isDone_b1123 (jrem i12 23) z f
        else
          if 21 ≤ (jrem i12 23) then
            g_L_isDone_b1123 (jrem i12 23) z f
          else
            g_L_isDone_b1124 (jrem i12 23) 1 z f
set_option maxRecDepth 100000 in
set_option maxHeartbeats 4000000 in
theorem e_L_isDone_b705 {r : LWd} (i10 : Int32) (i11 : Int32) (i12 : Int32) (i13 : Int32) (s0 : Int32) (z f : Nat → Nat → Int32) : m_L_isDone_b705 0 66 67 68 69 70 71 72 73 74 i10 i11 i12 i13 s0 (wA z f r) = (g_L_isDone_b705 i10 i11 i12 i13 s0 z f).map (fun q => (q.1, wA q.2.1 q.2.2 r)) := by
  unfold m_L_isDone_b705 g_L_isDone_b705
  refine iteE (fun _ => ?_) (fun _ => ?_)
  · refine iteE (fun _ => ?_) (fun _ => ?_)
    · exact e_L_isDone_b740 _ _  _ _
    · refine caW (e_L_lifts) (fun _ _ => wA_len) (fun x2 z3 u4 => ?_)
      refine iteE (fun _ => ?_) (fun _ => ?_)
      · exact e_L_isDone_b740 _ _  _ _
      · exact e_L_isDone_b741 _ _ _  _ _
  · refine iteE (fun _ => ?_) (fun _ => ?_)
    · refine iteE (fun _ => ?_) (fun _ => ?_)
      · exact e_L_isDone_b813 _ _ _ _  _ _
      · refine caP (e_L_hipX) (fun x1 => ?_)
        exact e_L_isDone_b813 _ _ _ _  _ _
    · refine iteE (fun _ => ?_) (fun _ => ?_)
      · refine iteE (fun _ => ?_) (fun _ => ?_)
        · exact e_L_isDone_b986 _ _  _ _
        · exact e_L_isDone_b986 _ _  _ _
      · refine iteE (fun _ => ?_) (fun _ => ?_)
        · exact e_L_isDone_b1123 _  _ _
        · refine iteE (fun _ => ?_) (fun _ => ?_)
          · exact e_L_isDone_b1123 _  _ _
          · exact e_L_isDone_b1124 _ _  _ _
def g_L_isDone_b669 (s0 : Int32) (s1 : Int32) (z f : Nat → Nat → Int32) : Option (Int32 × (Nat → Nat → Int32) × (Nat → Nat → Int32)) :=
  if s0 = s1 then
    some (1, z, f)
  else
    some (0, z, f)
set_option maxRecDepth 100000 in
set_option maxHeartbeats 4000000 in
theorem e_L_isDone_b669 {r : LWd} (s0 : Int32) (s1 : Int32) (z f : Nat → Nat → Int32) : m_L_isDone_b669 s0 s1 (wA z f r) = (g_L_isDone_b669 s0 s1 z f).map (fun q => (q.1, wA q.2.1 q.2.2 r)) := by
  unfold m_L_isDone_b669 g_L_isDone_b669
  refine iteE (fun _ => ?_) (fun _ => ?_)
  · rfl
  · rfl
def g_L_isDone_b640 (i13 : Int32) (z f : Nat → Nat → Int32) : Option (Int32 × (Nat → Nat → Int32) × (Nat → Nat → Int32)) :=
  bn3 (g_L_does 6 0 0 0 0 0 z f) fun x1 z2 u3 =>
  if i13 = 0 then
    g_L_isDone_b669 x1 ((-1000000)) z2 u3
  else
    (g_L_many (u3 74 8) z2 u3).bind fun x5 =>
    g_L_isDone_b669 x1 x5 z2 u3
set_option maxRecDepth 100000 in
set_option maxHeartbeats 4000000 in
theorem e_L_isDone_b640 {r : LWd} (i13 : Int32) (z f : Nat → Nat → Int32) : m_L_isDone_b640 0 74 i13 (wA z f r) = (g_L_isDone_b640 i13 z f).map (fun q => (q.1, wA q.2.1 q.2.2 r)) := by
  unfold m_L_isDone_b640 g_L_isDone_b640
  refine caW e_L_does (fun _ _ => wA_len) (fun x1 z2 u3 => ?_)
  refine iteE (fun _ => ?_) (fun _ => ?_)
  · exact e_L_isDone_b669 _ _  _ _
  · refine opS (aI_74.trans (ixl_8 _)) ?_
    refine caP (e_L_many) (fun x5 => ?_)
    exact e_L_isDone_b669 _ _  _ _
def g_L_isDone_b621 (k545 : Int32 → Int32 → (Nat → Nat → Int32) → (Nat → Nat → Int32) → Option (Int32 × (Nat → Nat → Int32) × (Nat → Nat → Int32))) (i13 : Int32) (i14 : Int32) (z f : Nat → Nat → Int32) : Option (Int32 × (Nat → Nat → Int32) × (Nat → Nat → Int32)) :=
  k545 i13 (i14 + 1) z f
set_option maxRecDepth 100000 in
set_option maxHeartbeats 4000000 in
theorem e_L_isDone_b621 {r : LWd} {k545 : Nat → Nat → Nat → Nat → Nat → Nat → Nat → Nat → Nat → Int32 → Int32 → LWd → Option (Int32 × LWd)} {kg545 : Int32 → Int32 → (Nat → Nat → Int32) → (Nat → Nat → Int32) → Option (Int32 × (Nat → Nat → Int32) × (Nat → Nat → Int32))} (hk545 : ∀ (i13 : Int32) (i14 : Int32) (z f : Nat → Nat → Int32), k545 0 66 67 68 69 70 71 73 74 i13 i14 (wA z f r) = (kg545 i13 i14 z f).map (fun q => (q.1, wA q.2.1 q.2.2 r))) (i13 : Int32) (i14 : Int32) (z f : Nat → Nat → Int32) : m_L_isDone_b621 k545 0 66 67 68 69 70 71 73 74 i13 i14 (wA z f r) = (g_L_isDone_b621 kg545 i13 i14 z f).map (fun q => (q.1, wA q.2.1 q.2.2 r)) := by
  unfold m_L_isDone_b621 g_L_isDone_b621
  exact hk545 _ _  _ _
def g_L_isDone_l545 : Nat → Int32 → Int32 → (Nat → Nat → Int32) → (Nat → Nat → Int32) → Option (Int32 × (Nat → Nat → Int32) × (Nat → Nat → Int32))
  | 0, _, _, _, _ => none
  | fu + 1, i13, i14, z, f =>
    if (f 74 7) ≤ i14 then
      bn2 (g_L_settles  z f) fun z2 u3 =>
      g_L_isDone_b640 i13 z2 u3
    else
      (g_L_hipX i14 z f).bind fun x5 =>
      (g_L_hipY i14 z f).bind fun x6 =>
      (g_L_isTaken (f 74 8) x5 x6 z f).bind fun x7 =>
      if x7 = 0 then
        (g_L_hipX i14 z f).bind fun x8 =>
        (g_L_hipY i14 z f).bind fun x9 =>
        bn2 (g_L_comes i14 x8 x9 z f) fun z10 u11 =>
        g_L_isDone_b621 (fun y0 y1 z f => g_L_isDone_l545 fu y0 y1 z f) i13 i14 z10 u11
      else
        g_L_isDone_b621 (fun y0 y1 z f => g_L_isDone_l545 fu y0 y1 z f) i13 i14 z f
set_option maxRecDepth 100000 in
set_option maxHeartbeats 4000000 in
theorem e_L_isDone_l545 {r : LWd} : ∀ (fu : Nat) (i13 : Int32) (i14 : Int32) (z f : Nat → Nat → Int32), m_L_isDone_l545 fu 0 66 67 68 69 70 71 73 74 i13 i14 (wA z f r) = (g_L_isDone_l545 fu i13 i14 z f).map (fun q => (q.1, wA q.2.1 q.2.2 r)) := by
  intro fu
  induction fu with
  | zero => intro i13 i14  z f; first | rfl | (rw [m_L_isDone_l545, g_L_isDone_l545]; rfl)
  | succ fu ih =>
    intro i13 i14  z f
    rw [m_L_isDone_l545, g_L_isDone_l545]
    refine opS (aI_74.trans (ixl_7 _)) ?_
    refine iteE (fun _ => ?_) (fun _ => ?_)
    · refine caU (e_L_settles) (fun _ _ => wA_len) (fun z2 u3 => ?_)
      exact e_L_isDone_b640 _  _ _
    · refine opS (aI_74.trans (ixl_8 _)) ?_
      refine caP (e_L_hipX) (fun x5 => ?_)
      refine caP (e_L_hipY) (fun x6 => ?_)
      refine caP (e_L_isTaken) (fun x7 => ?_)
      refine iteE (fun _ => ?_) (fun _ => ?_)
      · refine caP (e_L_hipX) (fun x8 => ?_)
        refine caP (e_L_hipY) (fun x9 => ?_)
        refine caU (e_L_comes) (fun _ _ => wA_len) (fun z10 u11 => ?_)
        exact e_L_isDone_b621 (hk545 := ih) _ _  _ _
      · exact e_L_isDone_b621 (hk545 := ih) _ _  _ _
def g_L_isDone_b503 (s0 : Int32) (z f : Nat → Nat → Int32) : Option (Int32 × (Nat → Nat → Int32) × (Nat → Nat → Int32)) :=
  lt2 (upf f 74 14 0) fun u2 =>
  if s0 = 0 then
    g_L_isDone_b640 s0 z u2
  else
    lt2 (upf u2 74 3 ((u2 74 3) - 20)) fun u5 =>
    lt2 (upf u5 74 0 1) fun u7 =>
    lt2 (upf u7 74 9 0) fun u9 =>
    lt2 (upf u9 74 10 0) fun u11 =>
    g_L_isDone_l545 FU s0 0 z u11
set_option maxRecDepth 100000 in
set_option maxHeartbeats 4000000 in
theorem e_L_isDone_b503 {r : LWd} (s0 : Int32) (z f : Nat → Nat → Int32) : m_L_isDone_b503 0 66 67 68 69 70 71 73 74 s0 (wA z f r) = (g_L_isDone_b503 s0 z f).map (fun q => (q.1, wA q.2.1 q.2.2 r)) := by
  unfold m_L_isDone_b503 g_L_isDone_b503
  refine opS (sI_74.trans (ixl_14 _)) ?_
  refine ltE ?_
  refine iteE (fun _ => ?_) (fun _ => ?_)
  · exact e_L_isDone_b640 _  _ _
  · refine opS (aI_74.trans (ixl_3 _)) ?_
    refine opS (sI_74.trans (ixl_3 _)) ?_
    refine ltE ?_
    refine opS (sI_74.trans (ixl_0 _)) ?_
    refine ltE ?_
    refine opS (sI_74.trans (ixl_9 _)) ?_
    refine ltE ?_
    refine opS (sI_74.trans (ixl_10 _)) ?_
    refine ltE ?_
    exact e_L_isDone_l545 FU _ _  _ _
def g_L_isDone_b502 (z f : Nat → Nat → Int32) : Option (Int32 × (Nat → Nat → Int32) × (Nat → Nat → Int32)) :=
  g_L_isDone_b503 0 z f
set_option maxRecDepth 100000 in
set_option maxHeartbeats 4000000 in
theorem e_L_isDone_b502 {r : LWd} (z f : Nat → Nat → Int32) : m_L_isDone_b502 0 66 67 68 69 70 71 73 74 (wA z f r) = (g_L_isDone_b502  z f).map (fun q => (q.1, wA q.2.1 q.2.2 r)) := by
  unfold m_L_isDone_b502 g_L_isDone_b502
  exact e_L_isDone_b503 _  _ _
def g_L_isDone_b472 (i13 : Int32) (z f : Nat → Nat → Int32) : Option (Int32 × (Nat → Nat → Int32) × (Nat → Nat → Int32)) :=
  if i13 = 0 then
    g_L_isDone_b502  z f
  else
    (g_L_holds ((1 <<< ((f 74 7) &&& 31)) - 1) z f).bind fun x2 =>
    if x2 = 0 then
      g_L_isDone_b502  z f
    else
      g_L_isDone_b503 1 z f
set_option maxRecDepth 100000 in
set_option maxHeartbeats 4000000 in
theorem e_L_isDone_b472 {r : LWd} (i13 : Int32) (z f : Nat → Nat → Int32) : m_L_isDone_b472 0 66 67 68 69 70 71 73 74 i13 (wA z f r) = (g_L_isDone_b472 i13 z f).map (fun q => (q.1, wA q.2.1 q.2.2 r)) := by
  unfold m_L_isDone_b472 g_L_isDone_b472
  refine iteE (fun _ => ?_) (fun _ => ?_)
  · exact e_L_isDone_b502   _ _
  · refine opS (aI_74.trans (ixl_7 _)) ?_
    refine caP (e_L_holds) (fun x2 => ?_)
    refine iteE (fun _ => ?_) (fun _ => ?_)
    · exact e_L_isDone_b502   _ _
    · exact e_L_isDone_b503 _  _ _
def g_L_isDone_b466 (k294 : Int32 → Int32 → (Nat → Nat → Int32) → (Nat → Nat → Int32) → Option (Int32 × (Nat → Nat → Int32) × (Nat → Nat → Int32))) (i13 : Int32) (i14 : Int32) (z f : Nat → Nat → Int32) : Option (Int32 × (Nat → Nat → Int32) × (Nat → Nat → Int32)) :=
  k294 i13 (i14 + 1) z f
set_option maxRecDepth 100000 in
set_option maxHeartbeats 4000000 in
theorem e_L_isDone_b466 {r : LWd} {k294 : Nat → Nat → Nat → Nat → Nat → Nat → Nat → Nat → Nat → Int32 → Int32 → LWd → Option (Int32 × LWd)} {kg294 : Int32 → Int32 → (Nat → Nat → Int32) → (Nat → Nat → Int32) → Option (Int32 × (Nat → Nat → Int32) × (Nat → Nat → Int32))} (hk294 : ∀ (i13 : Int32) (i14 : Int32) (z f : Nat → Nat → Int32), k294 0 66 67 68 69 70 71 73 74 i13 i14 (wA z f r) = (kg294 i13 i14 z f).map (fun q => (q.1, wA q.2.1 q.2.2 r))) (i13 : Int32) (i14 : Int32) (z f : Nat → Nat → Int32) : m_L_isDone_b466 k294 0 66 67 68 69 70 71 73 74 i13 i14 (wA z f r) = (g_L_isDone_b466 kg294 i13 i14 z f).map (fun q => (q.1, wA q.2.1 q.2.2 r)) := by
  unfold m_L_isDone_b466 g_L_isDone_b466
  exact hk294 _ _  _ _
def g_L_isDone_b458 (k294 : Int32 → Int32 → (Nat → Nat → Int32) → (Nat → Nat → Int32) → Option (Int32 × (Nat → Nat → Int32) × (Nat → Nat → Int32))) (k355 : Int32 → Int32 → Int32 → (Nat → Nat → Int32) → (Nat → Nat → Int32) → Option (Int32 × (Nat → Nat → Int32) × (Nat → Nat → Int32))) (i14 : Int32) (i15 : Int32) (s0 : Int32) (z f : Nat → Nat → Int32) : Option (Int32 × (Nat → Nat → Int32) × (Nat → Nat → Int32)) :=
  k355 s0 i14 (i15 + 1) z f
set_option maxRecDepth 100000 in
set_option maxHeartbeats 4000000 in
theorem e_L_isDone_b458 {r : LWd} {k294 : Nat → Nat → Nat → Nat → Nat → Nat → Nat → Nat → Nat → Int32 → Int32 → LWd → Option (Int32 × LWd)} {kg294 : Int32 → Int32 → (Nat → Nat → Int32) → (Nat → Nat → Int32) → Option (Int32 × (Nat → Nat → Int32) × (Nat → Nat → Int32))} (hk294 : ∀ (i13 : Int32) (i14 : Int32) (z f : Nat → Nat → Int32), k294 0 66 67 68 69 70 71 73 74 i13 i14 (wA z f r) = (kg294 i13 i14 z f).map (fun q => (q.1, wA q.2.1 q.2.2 r))) {k355 : Nat → Nat → Nat → Nat → Nat → Nat → Nat → Nat → Nat → Int32 → Int32 → Int32 → LWd → Option (Int32 × LWd)} {kg355 : Int32 → Int32 → Int32 → (Nat → Nat → Int32) → (Nat → Nat → Int32) → Option (Int32 × (Nat → Nat → Int32) × (Nat → Nat → Int32))} (hk355 : ∀ (i13 : Int32) (i14 : Int32) (i15 : Int32) (z f : Nat → Nat → Int32), k355 0 66 67 68 69 70 71 73 74 i13 i14 i15 (wA z f r) = (kg355 i13 i14 i15 z f).map (fun q => (q.1, wA q.2.1 q.2.2 r))) (i14 : Int32) (i15 : Int32) (s0 : Int32) (z f : Nat → Nat → Int32) : m_L_isDone_b458 k294 k355 0 66 67 68 69 70 71 73 74 i14 i15 s0 (wA z f r) = (g_L_isDone_b458 kg294 kg355 i14 i15 s0 z f).map (fun q => (q.1, wA q.2.1 q.2.2 r)) := by
  unfold m_L_isDone_b458 g_L_isDone_b458
  exact hk355 _ _ _  _ _
def g_L_isDone_b457 (k294 : Int32 → Int32 → (Nat → Nat → Int32) → (Nat → Nat → Int32) → Option (Int32 × (Nat → Nat → Int32) × (Nat → Nat → Int32))) (k355 : Int32 → Int32 → Int32 → (Nat → Nat → Int32) → (Nat → Nat → Int32) → Option (Int32 × (Nat → Nat → Int32) × (Nat → Nat → Int32))) (i14 : Int32) (i15 : Int32) (z f : Nat → Nat → Int32) : Option (Int32 × (Nat → Nat → Int32) × (Nat → Nat → Int32)) :=
  g_L_isDone_b458 k294 k355 i14 i15 0 z f
set_option maxRecDepth 100000 in
set_option maxHeartbeats 4000000 in
theorem e_L_isDone_b457 {r : LWd} {k294 : Nat → Nat → Nat → Nat → Nat → Nat → Nat → Nat → Nat → Int32 → Int32 → LWd → Option (Int32 × LWd)} {kg294 : Int32 → Int32 → (Nat → Nat → Int32) → (Nat → Nat → Int32) → Option (Int32 × (Nat → Nat → Int32) × (Nat → Nat → Int32))} (hk294 : ∀ (i13 : Int32) (i14 : Int32) (z f : Nat → Nat → Int32), k294 0 66 67 68 69 70 71 73 74 i13 i14 (wA z f r) = (kg294 i13 i14 z f).map (fun q => (q.1, wA q.2.1 q.2.2 r))) {k355 : Nat → Nat → Nat → Nat → Nat → Nat → Nat → Nat → Nat → Int32 → Int32 → Int32 → LWd → Option (Int32 × LWd)} {kg355 : Int32 → Int32 → Int32 → (Nat → Nat → Int32) → (Nat → Nat → Int32) → Option (Int32 × (Nat → Nat → Int32) × (Nat → Nat → Int32))} (hk355 : ∀ (i13 : Int32) (i14 : Int32) (i15 : Int32) (z f : Nat → Nat → Int32), k355 0 66 67 68 69 70 71 73 74 i13 i14 i15 (wA z f r) = (kg355 i13 i14 i15 z f).map (fun q => (q.1, wA q.2.1 q.2.2 r))) (i14 : Int32) (i15 : Int32) (z f : Nat → Nat → Int32) : m_L_isDone_b457 k294 k355 0 66 67 68 69 70 71 73 74 i14 i15 (wA z f r) = (g_L_isDone_b457 kg294 kg355 i14 i15 z f).map (fun q => (q.1, wA q.2.1 q.2.2 r)) := by
  unfold m_L_isDone_b457 g_L_isDone_b457
  exact e_L_isDone_b458 (hk294 := hk294) (hk355 := hk355) _ _ _  _ _
def g_L_isDone_b453 (k294 : Int32 → Int32 → (Nat → Nat → Int32) → (Nat → Nat → Int32) → Option (Int32 × (Nat → Nat → Int32) × (Nat → Nat → Int32))) (k355 : Int32 → Int32 → Int32 → (Nat → Nat → Int32) → (Nat → Nat → Int32) → Option (Int32 × (Nat → Nat → Int32) × (Nat → Nat → Int32))) (i14 : Int32) (i15 : Int32) (z f : Nat → Nat → Int32) : Option (Int32 × (Nat → Nat → Int32) × (Nat → Nat → Int32)) :=
  g_L_isDone_b458 k294 k355 i14 i15 1 z f
set_option maxRecDepth 100000 in
set_option maxHeartbeats 4000000 in
theorem e_L_isDone_b453 {r : LWd} {k294 : Nat → Nat → Nat → Nat → Nat → Nat → Nat → Nat → Nat → Int32 → Int32 → LWd → Option (Int32 × LWd)} {kg294 : Int32 → Int32 → (Nat → Nat → Int32) → (Nat → Nat → Int32) → Option (Int32 × (Nat → Nat → Int32) × (Nat → Nat → Int32))} (hk294 : ∀ (i13 : Int32) (i14 : Int32) (z f : Nat → Nat → Int32), k294 0 66 67 68 69 70 71 73 74 i13 i14 (wA z f r) = (kg294 i13 i14 z f).map (fun q => (q.1, wA q.2.1 q.2.2 r))) {k355 : Nat → Nat → Nat → Nat → Nat → Nat → Nat → Nat → Nat → Int32 → Int32 → Int32 → LWd → Option (Int32 × LWd)} {kg355 : Int32 → Int32 → Int32 → (Nat → Nat → Int32) → (Nat → Nat → Int32) → Option (Int32 × (Nat → Nat → Int32) × (Nat → Nat → Int32))} (hk355 : ∀ (i13 : Int32) (i14 : Int32) (i15 : Int32) (z f : Nat → Nat → Int32), k355 0 66 67 68 69 70 71 73 74 i13 i14 i15 (wA z f r) = (kg355 i13 i14 i15 z f).map (fun q => (q.1, wA q.2.1 q.2.2 r))) (i14 : Int32) (i15 : Int32) (z f : Nat → Nat → Int32) : m_L_isDone_b453 k294 k355 0 66 67 68 69 70 71 73 74 i14 i15 (wA z f r) = (g_L_isDone_b453 kg294 kg355 i14 i15 z f).map (fun q => (q.1, wA q.2.1 q.2.2 r)) := by
  unfold m_L_isDone_b453 g_L_isDone_b453
  exact e_L_isDone_b458 (hk294 := hk294) (hk355 := hk355) _ _ _  _ _
def g_L_isDone_l355 (k294 : Int32 → Int32 → (Nat → Nat → Int32) → (Nat → Nat → Int32) → Option (Int32 × (Nat → Nat → Int32) × (Nat → Nat → Int32))) : Nat → Int32 → Int32 → Int32 → (Nat → Nat → Int32) → (Nat → Nat → Int32) → Option (Int32 × (Nat → Nat → Int32) × (Nat → Nat → Int32))
  | 0, _, _, _, _, _ => none
  | fu + 1, i13, i14, i15, z, f =>
    if i14 ≤ i15 then
      g_L_isDone_b466 k294 i13 i14 z f
    else
      if i13 = 0 then
        g_L_isDone_b466 k294 i13 i14 z f
      else
        (ixA 6 i14).bind fun j1 =>
        (ixA 6 i14).bind fun j2 =>
        (g_L_four 50 66 ((400 + (20 * (f 71 j1))) + (f 70 j2)) f).bind fun x3 =>
        (ixA 6 i15).bind fun j4 =>
        (ixA 6 i15).bind fun j5 =>
        (g_L_four 50 66 ((400 + (20 * (f 71 j4))) + (f 70 j5)) f).bind fun x6 =>
        if 3 ≤ (x3 - x6) then
          g_L_isDone_b457 k294 (fun y0 y1 y2 z f => g_L_isDone_l355 k294 fu y0 y1 y2 z f) i14 i15 z f
        else
          if (x3 - x6) ≤ ((-3)) then
            g_L_isDone_b457 k294 (fun y0 y1 y2 z f => g_L_isDone_l355 k294 fu y0 y1 y2 z f) i14 i15 z f
          else
            (ixA 6 i15).bind fun j7 =>
            (ixA 6 i14).bind fun j8 =>
            if (f 70 j7) = (f 70 j8) then
              (ixA 6 i15).bind fun j9 =>
              (ixA 6 i14).bind fun j10 =>
              if (f 71 j9) = (f 71 j10) then
                g_L_isDone_b457 k294 (fun y0 y1 y2 z f => g_L_isDone_l355 k294 fu y0 y1 y2 z f) i14 i15 z f
              else
                g_L_isDone_b453 k294 (fun y0 y1 y2 z f => g_L_isDone_l355 k294 fu y0 y1 y2 z f) i14 i15 z f
            else
              g_L_isDone_b453 k294 (fun y0 y1 y2 z f => g_L_isDone_l355 k294 fu y0 y1 y2 z f) i14 i15 z f
set_option maxRecDepth 100000 in
set_option maxHeartbeats 4000000 in
theorem e_L_isDone_l355 {r : LWd} {k294 : Nat → Nat → Nat → Nat → Nat → Nat → Nat → Nat → Nat → Int32 → Int32 → LWd → Option (Int32 × LWd)} {kg294 : Int32 → Int32 → (Nat → Nat → Int32) → (Nat → Nat → Int32) → Option (Int32 × (Nat → Nat → Int32) × (Nat → Nat → Int32))} (hk294 : ∀ (i13 : Int32) (i14 : Int32) (z f : Nat → Nat → Int32), k294 0 66 67 68 69 70 71 73 74 i13 i14 (wA z f r) = (kg294 i13 i14 z f).map (fun q => (q.1, wA q.2.1 q.2.2 r))) : ∀ (fu : Nat) (i13 : Int32) (i14 : Int32) (i15 : Int32) (z f : Nat → Nat → Int32), m_L_isDone_l355 k294 fu 0 66 67 68 69 70 71 73 74 i13 i14 i15 (wA z f r) = (g_L_isDone_l355 kg294 fu i13 i14 i15 z f).map (fun q => (q.1, wA q.2.1 q.2.2 r)) := by
  intro fu
  induction fu with
  | zero => intro i13 i14 i15  z f; first | rfl | (rw [m_L_isDone_l355, g_L_isDone_l355]; rfl)
  | succ fu ih =>
    intro i13 i14 i15  z f
    rw [m_L_isDone_l355, g_L_isDone_l355]
    refine iteE (fun _ => ?_) (fun _ => ?_)
    · exact e_L_isDone_b466 (hk294 := hk294) _ _  _ _
    · refine iteE (fun _ => ?_) (fun _ => ?_)
      · exact e_L_isDone_b466 (hk294 := hk294) _ _  _ _
      · refine opM aI_71 (fun j1 hj1 => ?_)
        refine opM aI_70 (fun j2 hj2 => ?_)
        refine caP (e_L_four lwr_66) (fun x3 => ?_)
        refine opM aI_71 (fun j4 hj4 => ?_)
        refine opM aI_70 (fun j5 hj5 => ?_)
        refine caP (e_L_four lwr_66) (fun x6 => ?_)
        refine iteE (fun _ => ?_) (fun _ => ?_)
        · exact e_L_isDone_b457 (hk294 := hk294) (hk355 := ih) _ _  _ _
        · refine iteE (fun _ => ?_) (fun _ => ?_)
          · exact e_L_isDone_b457 (hk294 := hk294) (hk355 := ih) _ _  _ _
          · refine opM aI_70 (fun j7 hj7 => ?_)
            refine opM aI_70 (fun j8 hj8 => ?_)
            refine iteE (fun _ => ?_) (fun _ => ?_)
            · refine opM aI_71 (fun j9 hj9 => ?_)
              refine opM aI_71 (fun j10 hj10 => ?_)
              refine iteE (fun _ => ?_) (fun _ => ?_)
              · exact e_L_isDone_b457 (hk294 := hk294) (hk355 := ih) _ _  _ _
              · exact e_L_isDone_b453 (hk294 := hk294) (hk355 := ih) _ _  _ _
            · exact e_L_isDone_b453 (hk294 := hk294) (hk355 := ih) _ _  _ _
def g_L_isDone_l294 : Nat → Int32 → Int32 → (Nat → Nat → Int32) → (Nat → Nat → Int32) → Option (Int32 × (Nat → Nat → Int32) × (Nat → Nat → Int32))
  | 0, _, _, _, _ => none
  | fu + 1, i13, i14, z, f =>
    if (f 74 7) ≤ i14 then
      g_L_isDone_b472 i13 z f
    else
      if i13 = 0 then
        g_L_isDone_b472 i13 z f
      else
        (g_L_hipX i14 z f).bind fun x2 =>
        (ixA 6 i14).bind fun j3 =>
        lt2 (upf f 70 j3 x2) fun u4 =>
        (g_L_hipY i14 z u4).bind fun x5 =>
        (ixA 6 i14).bind fun j6 =>
        lt2 (upf u4 71 j6 x5) fun u7 =>
        (ixA 6 i14).bind fun j8 =>
        (ixA 6 i14).bind fun j9 =>
        (g_L_isIn (u7 70 j8) (u7 71 j9) z u7).bind fun x10 =>
        g_L_isDone_l355 (fun y0 y1 z f => g_L_isDone_l294 fu y0 y1 z f) FU x10 i14 0 z u7
set_option maxRecDepth 100000 in
set_option maxHeartbeats 4000000 in
theorem e_L_isDone_l294 {r : LWd} : ∀ (fu : Nat) (i13 : Int32) (i14 : Int32) (z f : Nat → Nat → Int32), m_L_isDone_l294 fu 0 66 67 68 69 70 71 73 74 i13 i14 (wA z f r) = (g_L_isDone_l294 fu i13 i14 z f).map (fun q => (q.1, wA q.2.1 q.2.2 r)) := by
  intro fu
  induction fu with
  | zero => intro i13 i14  z f; first | rfl | (rw [m_L_isDone_l294, g_L_isDone_l294]; rfl)
  | succ fu ih =>
    intro i13 i14  z f
    rw [m_L_isDone_l294, g_L_isDone_l294]
    refine opS (aI_74.trans (ixl_7 _)) ?_
    refine iteE (fun _ => ?_) (fun _ => ?_)
    · exact e_L_isDone_b472 _  _ _
    · refine iteE (fun _ => ?_) (fun _ => ?_)
      · exact e_L_isDone_b472 _  _ _
      · refine caP (e_L_hipX) (fun x2 => ?_)
        refine opM sI_70 (fun j3 hj3 => ?_)
        refine ltE ?_
        refine caP (e_L_hipY) (fun x5 => ?_)
        refine opM sI_71 (fun j6 hj6 => ?_)
        refine ltE ?_
        refine opM aI_70 (fun j8 hj8 => ?_)
        refine opM aI_71 (fun j9 hj9 => ?_)
        refine caP (e_L_isIn) (fun x10 => ?_)
        exact e_L_isDone_l355 (hk294 := ih) FU _ _ _  _ _
def g_L_isDone_b289 (s0 : Int32) (z f : Nat → Nat → Int32) : Option (Int32 × (Nat → Nat → Int32) × (Nat → Nat → Int32)) :=
  g_L_isDone_l294 FU s0 0 z f
set_option maxRecDepth 100000 in
set_option maxHeartbeats 4000000 in
theorem e_L_isDone_b289 {r : LWd} (s0 : Int32) (z f : Nat → Nat → Int32) : m_L_isDone_b289 0 66 67 68 69 70 71 73 74 s0 (wA z f r) = (g_L_isDone_b289 s0 z f).map (fun q => (q.1, wA q.2.1 q.2.2 r)) := by
  unfold m_L_isDone_b289 g_L_isDone_b289
  exact e_L_isDone_l294 FU _ _  _ _
def g_L_isDone_b288 (z f : Nat → Nat → Int32) : Option (Int32 × (Nat → Nat → Int32) × (Nat → Nat → Int32)) :=
  g_L_isDone_b289 0 z f
set_option maxRecDepth 100000 in
set_option maxHeartbeats 4000000 in
theorem e_L_isDone_b288 {r : LWd} (z f : Nat → Nat → Int32) : m_L_isDone_b288 0 66 67 68 69 70 71 73 74 (wA z f r) = (g_L_isDone_b288  z f).map (fun q => (q.1, wA q.2.1 q.2.2 r)) := by
  unfold m_L_isDone_b288 g_L_isDone_b288
  exact e_L_isDone_b289 _  _ _
def g_L_isDone_b245 (s0 : Int32) (s1 : Int32) (z f : Nat → Nat → Int32) : Option (Int32 × (Nat → Nat → Int32) × (Nat → Nat → Int32)) :=
  if s0 = s1 then
    some (1, z, f)
  else
    some (0, z, f)
set_option maxRecDepth 100000 in
set_option maxHeartbeats 4000000 in
theorem e_L_isDone_b245 {r : LWd} (s0 : Int32) (s1 : Int32) (z f : Nat → Nat → Int32) : m_L_isDone_b245 s0 s1 (wA z f r) = (g_L_isDone_b245 s0 s1 z f).map (fun q => (q.1, wA q.2.1 q.2.2 r)) := by
  unfold m_L_isDone_b245 g_L_isDone_b245
  refine iteE (fun _ => ?_) (fun _ => ?_)
  · rfl
  · rfl
def g_L_isDone_b207 (i13 : Int32) (i14 : Int32) (i15 : Int32) (i16 : Int32) (i20 : Int32) (z f : Nat → Nat → Int32) : Option (Int32 × (Nat → Nat → Int32) × (Nat → Nat → Int32)) :=
  bn3 (g_L_does 5 i13 i14 i15 0 0 z f) fun x1 z2 u3 =>
  if i16 = 0 then
    g_L_isDone_b245 x1 ((-2000000)) z2 u3
  else
    if i20 = 0 then
      g_L_isDone_b245 x1 ((-1000000)) z2 u3
    else
      g_L_isDone_b245 x1 (u3 74 14) z2 u3
set_option maxRecDepth 100000 in
set_option maxHeartbeats 4000000 in
theorem e_L_isDone_b207 {r : LWd} (i13 : Int32) (i14 : Int32) (i15 : Int32) (i16 : Int32) (i20 : Int32) (z f : Nat → Nat → Int32) : m_L_isDone_b207 0 74 i13 i14 i15 i16 i20 (wA z f r) = (g_L_isDone_b207 i13 i14 i15 i16 i20 z f).map (fun q => (q.1, wA q.2.1 q.2.2 r)) := by
  unfold m_L_isDone_b207 g_L_isDone_b207
  refine caW e_L_does (fun _ _ => wA_len) (fun x1 z2 u3 => ?_)
  refine iteE (fun _ => ?_) (fun _ => ?_)
  · exact e_L_isDone_b245 _ _  _ _
  · refine iteE (fun _ => ?_) (fun _ => ?_)
    · exact e_L_isDone_b245 _ _  _ _
    · refine opS (aI_74.trans (ixl_14 _)) ?_
      exact e_L_isDone_b245 _ _  _ _
def g_L_isDone_b159 (i13 : Int32) (i14 : Int32) (i15 : Int32) (i16 : Int32) (i17 : Int32) (i18 : Int32) (i19 : Int32) (s0 : Int32) (z f : Nat → Nat → Int32) : Option (Int32 × (Nat → Nat → Int32) × (Nat → Nat → Int32)) :=
  lt2 (upf f 74 14 0) fun u2 =>
  if s0 = 0 then
    lt2 (upf u2 74 4 i17) fun u4 =>
    lt2 (upf u4 74 5 i18) fun u6 =>
    lt2 (upf u6 74 6 i19) fun u8 =>
    g_L_isDone_b207 i13 i14 i15 i16 s0 z u8
  else
    bn2 (g_L_settles  z u2) fun z9 u10 =>
    g_L_isDone_b207 i13 i14 i15 i16 s0 z9 u10
set_option maxRecDepth 100000 in
set_option maxHeartbeats 4000000 in
theorem e_L_isDone_b159 {r : LWd} (i13 : Int32) (i14 : Int32) (i15 : Int32) (i16 : Int32) (i17 : Int32) (i18 : Int32) (i19 : Int32) (s0 : Int32) (z f : Nat → Nat → Int32) : m_L_isDone_b159 0 66 68 70 71 73 74 i13 i14 i15 i16 i17 i18 i19 s0 (wA z f r) = (g_L_isDone_b159 i13 i14 i15 i16 i17 i18 i19 s0 z f).map (fun q => (q.1, wA q.2.1 q.2.2 r)) := by
  unfold m_L_isDone_b159 g_L_isDone_b159
  refine opS (sI_74.trans (ixl_14 _)) ?_
  refine ltE ?_
  refine iteE (fun _ => ?_) (fun _ => ?_)
  · refine opS (sI_74.trans (ixl_4 _)) ?_
    refine ltE ?_
    refine opS (sI_74.trans (ixl_5 _)) ?_
    refine ltE ?_
    refine opS (sI_74.trans (ixl_6 _)) ?_
    refine ltE ?_
    exact e_L_isDone_b207 _ _ _ _ _  _ _
  · refine caU (e_L_settles) (fun _ _ => wA_len) (fun z9 u10 => ?_)
    exact e_L_isDone_b207 _ _ _ _ _  _ _
def g_L_isDone_b158 (i13 : Int32) (i14 : Int32) (i15 : Int32) (i16 : Int32) (i17 : Int32) (i18 : Int32) (i19 : Int32) (z f : Nat → Nat → Int32) : Option (Int32 × (Nat → Nat → Int32) × (Nat → Nat → Int32)) :=
  g_L_isDone_b159 i13 i14 i15 i16 i17 i18 i19 0 z f
set_option maxRecDepth 100000 in
set_option maxHeartbeats 4000000 in
theorem e_L_isDone_b158 {r : LWd} (i13 : Int32) (i14 : Int32) (i15 : Int32) (i16 : Int32) (i17 : Int32) (i18 : Int32) (i19 : Int32) (z f : Nat → Nat → Int32) : m_L_isDone_b158 0 66 68 70 71 73 74 i13 i14 i15 i16 i17 i18 i19 (wA z f r) = (g_L_isDone_b158 i13 i14 i15 i16 i17 i18 i19 z f).map (fun q => (q.1, wA q.2.1 q.2.2 r)) := by
  unfold m_L_isDone_b158 g_L_isDone_b158
  exact e_L_isDone_b159 _ _ _ _ _ _ _ _  _ _
def g_L_isDone_b154 (i13 : Int32) (i14 : Int32) (i15 : Int32) (i16 : Int32) (i17 : Int32) (i18 : Int32) (i19 : Int32) (z f : Nat → Nat → Int32) : Option (Int32 × (Nat → Nat → Int32) × (Nat → Nat → Int32)) :=
  g_L_isDone_b159 i13 i14 i15 i16 i17 i18 i19 1 z f
set_option maxRecDepth 100000 in
set_option maxHeartbeats 4000000 in
theorem e_L_isDone_b154 {r : LWd} (i13 : Int32) (i14 : Int32) (i15 : Int32) (i16 : Int32) (i17 : Int32) (i18 : Int32) (i19 : Int32) (z f : Nat → Nat → Int32) : m_L_isDone_b154 0 66 68 70 71 73 74 i13 i14 i15 i16 i17 i18 i19 (wA z f r) = (g_L_isDone_b154 i13 i14 i15 i16 i17 i18 i19 z f).map (fun q => (q.1, wA q.2.1 q.2.2 r)) := by
  unfold m_L_isDone_b154 g_L_isDone_b154
  exact e_L_isDone_b159 _ _ _ _ _ _ _ _  _ _
def g_L_isDone_b85 (i13 : Int32) (i14 : Int32) (i15 : Int32) (s0 : Int32) (z f : Nat → Nat → Int32) : Option (Int32 × (Nat → Nat → Int32) × (Nat → Nat → Int32)) :=
  lt2 (upf f 74 4 i13) fun u5 =>
  lt2 (upf u5 74 5 i14) fun u7 =>
  lt2 (upf u7 74 6 i15) fun u9 =>
  if s0 = 0 then
    g_L_isDone_b158 i13 i14 i15 s0 (f 74 4) (f 74 5) (f 74 6) z u9
  else
    if (u9 74 0) = 0 then
      g_L_isDone_b154 i13 i14 i15 s0 (f 74 4) (f 74 5) (f 74 6) z u9
    else
      (g_L_holds (u9 74 8) z u9).bind fun x12 =>
      if x12 = 0 then
        g_L_isDone_b158 i13 i14 i15 s0 (f 74 4) (f 74 5) (f 74 6) z u9
      else
        g_L_isDone_b154 i13 i14 i15 s0 (f 74 4) (f 74 5) (f 74 6) z u9
set_option maxRecDepth 100000 in
set_option maxHeartbeats 4000000 in
theorem e_L_isDone_b85 {r : LWd} (i13 : Int32) (i14 : Int32) (i15 : Int32) (s0 : Int32) (z f : Nat → Nat → Int32) : m_L_isDone_b85 0 66 68 70 71 73 74 i13 i14 i15 s0 (wA z f r) = (g_L_isDone_b85 i13 i14 i15 s0 z f).map (fun q => (q.1, wA q.2.1 q.2.2 r)) := by
  unfold m_L_isDone_b85 g_L_isDone_b85
  refine opS (aI_74.trans (ixl_4 _)) ?_
  refine opS (aI_74.trans (ixl_5 _)) ?_
  refine opS (aI_74.trans (ixl_6 _)) ?_
  refine opS (sI_74.trans (ixl_4 _)) ?_
  refine ltE ?_
  refine opS (sI_74.trans (ixl_5 _)) ?_
  refine ltE ?_
  refine opS (sI_74.trans (ixl_6 _)) ?_
  refine ltE ?_
  refine iteE (fun _ => ?_) (fun _ => ?_)
  · exact e_L_isDone_b158 _ _ _ _ _ _ _  _ _
  · refine opS (aI_74.trans (ixl_0 _)) ?_
    refine iteE (fun _ => ?_) (fun _ => ?_)
    · exact e_L_isDone_b154 _ _ _ _ _ _ _  _ _
    · refine opS (aI_74.trans (ixl_8 _)) ?_
      refine caP (e_L_holds) (fun x12 => ?_)
      refine iteE (fun _ => ?_) (fun _ => ?_)
      · exact e_L_isDone_b158 _ _ _ _ _ _ _  _ _
      · exact e_L_isDone_b154 _ _ _ _ _ _ _  _ _
def g_L_isDone_b84 (i13 : Int32) (i14 : Int32) (i15 : Int32) (z f : Nat → Nat → Int32) : Option (Int32 × (Nat → Nat → Int32) × (Nat → Nat → Int32)) :=
  g_L_isDone_b85 i13 i14 i15 0 z f
set_option maxRecDepth 100000 in
set_option maxHeartbeats 4000000 in
theorem e_L_isDone_b84 {r : LWd} (i13 : Int32) (i14 : Int32) (i15 : Int32) (z f : Nat → Nat → Int32) : m_L_isDone_b84 0 66 68 70 71 73 74 i13 i14 i15 (wA z f r) = (g_L_isDone_b84 i13 i14 i15 z f).map (fun q => (q.1, wA q.2.1 q.2.2 r)) := by
  unfold m_L_isDone_b84 g_L_isDone_b84
  exact e_L_isDone_b85 _ _ _ _  _ _
def g_L_isDone_b64 (i13 : Int32) (i14 : Int32) (s0 : Int32) (z f : Nat → Nat → Int32) : Option (Int32 × (Nat → Nat → Int32) × (Nat → Nat → Int32)) :=
  if 21 ≤ i13 then
    g_L_isDone_b84 i13 i14 s0 z f
  else
    if 6 ≤ s0 then
      g_L_isDone_b84 i13 i14 s0 z f
    else
      g_L_isDone_b85 i13 i14 s0 1 z f
set_option maxRecDepth 100000 in
set_option maxHeartbeats 4000000 in
theorem e_L_isDone_b64 {r : LWd} (i13 : Int32) (i14 : Int32) (s0 : Int32) (z f : Nat → Nat → Int32) : m_L_isDone_b64 0 66 68 70 71 73 74 i13 i14 s0 (wA z f r) = (g_L_isDone_b64 i13 i14 s0 z f).map (fun q => (q.1, wA q.2.1 q.2.2 r)) := by
  unfold m_L_isDone_b64 g_L_isDone_b64
  refine iteE (fun _ => ?_) (fun _ => ?_)
  · exact e_L_isDone_b84 _ _ _  _ _
  · refine iteE (fun _ => ?_) (fun _ => ?_)
    · exact e_L_isDone_b84 _ _ _  _ _
    · exact e_L_isDone_b85 _ _ _ _  _ _
def g_L_isDone_b25 (i12 : Int32) (s0 : Int32) (z f : Nat → Nat → Int32) : Option (Int32 × (Nat → Nat → Int32) × (Nat → Nat → Int32)) :=
  if (jrem (i12 / 7) 13) = 12 then
    g_L_isDone_b64 s0 ((jrem i12 7) - 3) 6 z f
  else
    g_L_isDone_b64 s0 ((jrem i12 7) - 3) ((jrem (i12 / 7) 7) - 3) z f
set_option maxRecDepth 100000 in
set_option maxHeartbeats 4000000 in
theorem e_L_isDone_b25 {r : LWd} (i12 : Int32) (s0 : Int32) (z f : Nat → Nat → Int32) : m_L_isDone_b25 0 66 68 70 71 73 74 i12 s0 (wA z f r) = (g_L_isDone_b25 i12 s0 z f).map (fun q => (q.1, wA q.2.1 q.2.2 r)) := by
  unfold m_L_isDone_b25 g_L_isDone_b25
  refine iteE (fun _ => ?_) (fun _ => ?_)
  · exact e_L_isDone_b64 _ _ _  _ _
  · exact e_L_isDone_b64 _ _ _  _ _
def g_L_isDone (i10 : Int32) (i11 : Int32) (i12 : Int32) (z f : Nat → Nat → Int32) : Option (Int32 × (Nat → Nat → Int32) × (Nat → Nat → Int32)) :=
  if i10 = 0 then
    if (jrem i11 23) = 22 then
      g_L_isDone_b25 i12 21 z f
    else
      g_L_isDone_b25 i12 (jrem i11 21) z f
  else
    if i10 = 1 then
      if (f 74 0) = 0 then
        if (f 74 7) ≤ 0 then
          g_L_isDone_b288  z f
        else
          if (f 74 3) ≤ 19 then
            g_L_isDone_b288  z f
          else
            g_L_isDone_b289 1 z f
      else
        g_L_isDone_b288  z f
    else
      if (f 74 7) + 1 = 0 then none else
      if (f 74 7) ≤ (jrem i11 ((f 74 7) + 1)) then
        g_L_isDone_b705 i10 i11 i12 (jrem i11 ((f 74 7) + 1)) 0 z f
      else
        g_L_isDone_b705 i10 i11 i12 (jrem i11 ((f 74 7) + 1)) 1 z f
set_option maxRecDepth 100000 in
set_option maxHeartbeats 4000000 in
theorem e_L_isDone {r : LWd} {z f : Nat → Nat → Int32} {i10 : Int32} {i11 : Int32} {i12 : Int32} : m_L_isDone 0 66 67 68 69 70 71 72 73 74 i10 i11 i12 (wA z f r) = (g_L_isDone i10 i11 i12 z f).map (fun q => (q.1, wA q.2.1 q.2.2 r)) := by
  unfold m_L_isDone g_L_isDone
  refine iteE (fun _ => ?_) (fun _ => ?_)
  · refine iteE (fun _ => ?_) (fun _ => ?_)
    · exact e_L_isDone_b25 _ _  _ _
    · exact e_L_isDone_b25 _ _  _ _
  · refine iteE (fun _ => ?_) (fun _ => ?_)
    · refine opS (aI_74.trans (ixl_0 _)) ?_
      refine iteE (fun _ => ?_) (fun _ => ?_)
      · refine opS (aI_74.trans (ixl_7 _)) ?_
        refine iteE (fun _ => ?_) (fun _ => ?_)
        · exact e_L_isDone_b288   _ _
        · refine opS (aI_74.trans (ixl_3 _)) ?_
          refine iteE (fun _ => ?_) (fun _ => ?_)
          · exact e_L_isDone_b288   _ _
          · exact e_L_isDone_b289 _  _ _
      · exact e_L_isDone_b288   _ _
    · refine opS (aI_74.trans (ixl_7 _)) ?_
      refine iteN (fun _ => ?_)
      refine opS (aI_74.trans (ixl_7 _)) ?_
      refine iteE (fun _ => ?_) (fun _ => ?_)
      · exact e_L_isDone_b705 _ _ _ _ _  _ _
      · exact e_L_isDone_b705 _ _ _ _ _  _ _
def g_L_law_b528 (L : Nat) (xs : Nat → Int32) (k235 : Int32 → Int32 → (Nat → Nat → Int32) → (Nat → Nat → Int32) → Option (Int32 × (Nat → Nat → Int32) × (Nat → Nat → Int32))) (i12 : Int32) (s0 : Int32) (z f : Nat → Nat → Int32) : Option (Int32 × (Nat → Nat → Int32) × (Nat → Nat → Int32)) :=
  k235 s0 (i12 + 1) z f
set_option maxRecDepth 100000 in
set_option maxHeartbeats 4000000 in
theorem e_L_law_b528 {r : LWd} {L : Nat} {xs : Nat → Int32} {k235 : Nat → Nat → Nat → Nat → Nat → Nat → Nat → Nat → Nat → Nat → Int32 → Int32 → LWd → Option (Int32 × LWd)} {kg235 : Int32 → Int32 → (Nat → Nat → Int32) → (Nat → Nat → Int32) → Option (Int32 × (Nat → Nat → Int32) × (Nat → Nat → Int32))} (hk235 : ∀ (i11 : Int32) (i12 : Int32) (z f : Nat → Nat → Int32), k235 0 66 67 68 69 70 71 72 73 74 i11 i12 (wA z f r) = (kg235 i11 i12 z f).map (fun q => (q.1, wA q.2.1 q.2.2 r))) (i12 : Int32) (s0 : Int32) (z f : Nat → Nat → Int32) : m_L_law_b528 L xs k235 0 66 67 68 69 70 71 72 73 74 i12 s0 (wA z f r) = (g_L_law_b528 L xs kg235 i12 s0 z f).map (fun q => (q.1, wA q.2.1 q.2.2 r)) := by
  unfold m_L_law_b528 g_L_law_b528
  exact hk235 _ _  _ _
def g_L_law_b527 (L : Nat) (xs : Nat → Int32) (k235 : Int32 → Int32 → (Nat → Nat → Int32) → (Nat → Nat → Int32) → Option (Int32 × (Nat → Nat → Int32) × (Nat → Nat → Int32))) (i12 : Int32) (z f : Nat → Nat → Int32) : Option (Int32 × (Nat → Nat → Int32) × (Nat → Nat → Int32)) :=
  g_L_law_b528 L xs k235 i12 0 z f
set_option maxRecDepth 100000 in
set_option maxHeartbeats 4000000 in
theorem e_L_law_b527 {r : LWd} {L : Nat} {xs : Nat → Int32} {k235 : Nat → Nat → Nat → Nat → Nat → Nat → Nat → Nat → Nat → Nat → Int32 → Int32 → LWd → Option (Int32 × LWd)} {kg235 : Int32 → Int32 → (Nat → Nat → Int32) → (Nat → Nat → Int32) → Option (Int32 × (Nat → Nat → Int32) × (Nat → Nat → Int32))} (hk235 : ∀ (i11 : Int32) (i12 : Int32) (z f : Nat → Nat → Int32), k235 0 66 67 68 69 70 71 72 73 74 i11 i12 (wA z f r) = (kg235 i11 i12 z f).map (fun q => (q.1, wA q.2.1 q.2.2 r))) (i12 : Int32) (z f : Nat → Nat → Int32) : m_L_law_b527 L xs k235 0 66 67 68 69 70 71 72 73 74 i12 (wA z f r) = (g_L_law_b527 L xs kg235 i12 z f).map (fun q => (q.1, wA q.2.1 q.2.2 r)) := by
  unfold m_L_law_b527 g_L_law_b527
  exact e_L_law_b528 (hk235 := hk235) _ _  _ _
def g_L_law_b493 (L : Nat) (xs : Nat → Int32) (k235 : Int32 → Int32 → (Nat → Nat → Int32) → (Nat → Nat → Int32) → Option (Int32 × (Nat → Nat → Int32) × (Nat → Nat → Int32))) (i11 : Int32) (i12 : Int32) (i14 : Int32) (i15 : Int32) (z f : Nat → Nat → Int32) : Option (Int32 × (Nat → Nat → Int32) × (Nat → Nat → Int32)) :=
  if i11 = 0 then
    g_L_law_b527 L xs k235 i12 z f
  else
    bn3 (g_L_isSo i14 i15 z f) fun x1 z2 u3 =>
    if x1 = 0 then
      g_L_law_b527 L xs k235 i12 z2 u3
    else
      g_L_law_b528 L xs k235 i12 1 z2 u3
set_option maxRecDepth 100000 in
set_option maxHeartbeats 4000000 in
theorem e_L_law_b493 {r : LWd} {L : Nat} {xs : Nat → Int32} {k235 : Nat → Nat → Nat → Nat → Nat → Nat → Nat → Nat → Nat → Nat → Int32 → Int32 → LWd → Option (Int32 × LWd)} {kg235 : Int32 → Int32 → (Nat → Nat → Int32) → (Nat → Nat → Int32) → Option (Int32 × (Nat → Nat → Int32) × (Nat → Nat → Int32))} (hk235 : ∀ (i11 : Int32) (i12 : Int32) (z f : Nat → Nat → Int32), k235 0 66 67 68 69 70 71 72 73 74 i11 i12 (wA z f r) = (kg235 i11 i12 z f).map (fun q => (q.1, wA q.2.1 q.2.2 r))) (i11 : Int32) (i12 : Int32) (i14 : Int32) (i15 : Int32) (z f : Nat → Nat → Int32) : m_L_law_b493 L xs k235 0 66 67 68 69 70 71 72 73 74 i11 i12 i14 i15 (wA z f r) = (g_L_law_b493 L xs kg235 i11 i12 i14 i15 z f).map (fun q => (q.1, wA q.2.1 q.2.2 r)) := by
  unfold m_L_law_b493 g_L_law_b493
  refine iteE (fun _ => ?_) (fun _ => ?_)
  · exact e_L_law_b527 (hk235 := hk235) _  _ _
  · refine caW (e_L_isSo) (fun _ _ => wA_len) (fun x1 z2 u3 => ?_)
    refine iteE (fun _ => ?_) (fun _ => ?_)
    · exact e_L_law_b527 (hk235 := hk235) _  _ _
    · exact e_L_law_b528 (hk235 := hk235) _ _  _ _
def g_L_law_b484 (L : Nat) (xs : Nat → Int32) (k235 : Int32 → Int32 → (Nat → Nat → Int32) → (Nat → Nat → Int32) → Option (Int32 × (Nat → Nat → Int32) × (Nat → Nat → Int32))) (i12 : Int32) (i14 : Int32) (i15 : Int32) (s10 : Int32) (z f : Nat → Nat → Int32) : Option (Int32 × (Nat → Nat → Int32) × (Nat → Nat → Int32)) :=
  bn3 (g_L_isDone s10 i14 i15 z f) fun x1 z2 u3 =>
  g_L_law_b493 L xs k235 x1 i12 i14 i15 z2 u3
set_option maxRecDepth 100000 in
set_option maxHeartbeats 4000000 in
theorem e_L_law_b484 {r : LWd} {L : Nat} {xs : Nat → Int32} {k235 : Nat → Nat → Nat → Nat → Nat → Nat → Nat → Nat → Nat → Nat → Int32 → Int32 → LWd → Option (Int32 × LWd)} {kg235 : Int32 → Int32 → (Nat → Nat → Int32) → (Nat → Nat → Int32) → Option (Int32 × (Nat → Nat → Int32) × (Nat → Nat → Int32))} (hk235 : ∀ (i11 : Int32) (i12 : Int32) (z f : Nat → Nat → Int32), k235 0 66 67 68 69 70 71 72 73 74 i11 i12 (wA z f r) = (kg235 i11 i12 z f).map (fun q => (q.1, wA q.2.1 q.2.2 r))) (i12 : Int32) (i14 : Int32) (i15 : Int32) (s10 : Int32) (z f : Nat → Nat → Int32) : m_L_law_b484 L xs k235 0 66 67 68 69 70 71 72 73 74 i12 i14 i15 0 66 67 68 69 70 71 72 73 74 s10 (wA z f r) = (g_L_law_b484 L xs kg235 i12 i14 i15 s10 z f).map (fun q => (q.1, wA q.2.1 q.2.2 r)) := by
  unfold m_L_law_b484 g_L_law_b484
  refine caW (e_L_isDone) (fun _ _ => wA_len) (fun x1 z2 u3 => ?_)
  exact e_L_law_b493 (hk235 := hk235) _ _ _ _  _ _
def g_L_law_b399 (L : Nat) (xs : Nat → Int32) (k235 : Int32 → Int32 → (Nat → Nat → Int32) → (Nat → Nat → Int32) → Option (Int32 × (Nat → Nat → Int32) × (Nat → Nat → Int32))) (i12 : Int32) (i14 : Int32) (i15 : Int32) (s9 : Int32) (z f : Nat → Nat → Int32) : Option (Int32 × (Nat → Nat → Int32) × (Nat → Nat → Int32)) :=
  bn3 (g_L_isTold s9 i14 i15 z f) fun x1 z2 u3 =>
  g_L_law_b493 L xs k235 x1 i12 i14 i15 z2 u3
set_option maxRecDepth 100000 in
set_option maxHeartbeats 4000000 in
theorem e_L_law_b399 {r : LWd} {L : Nat} {xs : Nat → Int32} {k235 : Nat → Nat → Nat → Nat → Nat → Nat → Nat → Nat → Nat → Nat → Int32 → Int32 → LWd → Option (Int32 × LWd)} {kg235 : Int32 → Int32 → (Nat → Nat → Int32) → (Nat → Nat → Int32) → Option (Int32 × (Nat → Nat → Int32) × (Nat → Nat → Int32))} (hk235 : ∀ (i11 : Int32) (i12 : Int32) (z f : Nat → Nat → Int32), k235 0 66 67 68 69 70 71 72 73 74 i11 i12 (wA z f r) = (kg235 i11 i12 z f).map (fun q => (q.1, wA q.2.1 q.2.2 r))) (i12 : Int32) (i14 : Int32) (i15 : Int32) (s9 : Int32) (z f : Nat → Nat → Int32) : m_L_law_b399 L xs k235 0 66 67 68 69 70 71 72 73 74 i12 i14 i15 0 66 67 68 69 70 71 72 74 s9 (wA z f r) = (g_L_law_b399 L xs kg235 i12 i14 i15 s9 z f).map (fun q => (q.1, wA q.2.1 q.2.2 r)) := by
  unfold m_L_law_b399 g_L_law_b399
  refine caW (e_L_isTold) (fun _ _ => wA_len) (fun x1 z2 u3 => ?_)
  exact e_L_law_b493 (hk235 := hk235) _ _ _ _  _ _
def g_L_law_b291 (L : Nat) (xs : Nat → Int32) (k235 : Int32 → Int32 → (Nat → Nat → Int32) → (Nat → Nat → Int32) → Option (Int32 × (Nat → Nat → Int32) × (Nat → Nat → Int32))) (i12 : Int32) (s0 : Int32) (z f : Nat → Nat → Int32) : Option (Int32 × (Nat → Nat → Int32) × (Nat → Nat → Int32)) :=
  (prG L xs ((3 * i12) + 1) 60000).bind fun x1 =>
  (prG L xs ((3 * i12) + 2) 60000).bind fun x2 =>
  if 18 ≤ s0 then
    if 21 ≤ s0 then
      if 29 ≤ s0 then
        if 37 ≤ s0 then
          if 45 ≤ s0 then
            if 51 ≤ s0 then
              g_L_law_b484 L xs k235 i12 x1 x2 5 z f
            else
              g_L_law_b484 L xs k235 i12 x1 x2 4 z f
          else
            g_L_law_b484 L xs k235 i12 x1 x2 3 z f
        else
          g_L_law_b484 L xs k235 i12 x1 x2 2 z f
      else
        g_L_law_b484 L xs k235 i12 x1 x2 1 z f
    else
      g_L_law_b484 L xs k235 i12 x1 x2 0 z f
  else
    if 6 ≤ s0 then
      if 9 ≤ s0 then
        if 12 ≤ s0 then
          if s0 = 12 then
            g_L_law_b399 L xs k235 i12 x1 x2 3 z f
          else
            if 17 ≤ s0 then
              g_L_law_b399 L xs k235 i12 x1 x2 5 z f
            else
              g_L_law_b399 L xs k235 i12 x1 x2 4 z f
        else
          g_L_law_b399 L xs k235 i12 x1 x2 2 z f
      else
        g_L_law_b399 L xs k235 i12 x1 x2 1 z f
    else
      g_L_law_b399 L xs k235 i12 x1 x2 0 z f
set_option maxRecDepth 100000 in
set_option maxHeartbeats 4000000 in
theorem e_L_law_b291 {r : LWd} {L : Nat} {xs : Nat → Int32} {k235 : Nat → Nat → Nat → Nat → Nat → Nat → Nat → Nat → Nat → Nat → Int32 → Int32 → LWd → Option (Int32 × LWd)} {kg235 : Int32 → Int32 → (Nat → Nat → Int32) → (Nat → Nat → Int32) → Option (Int32 × (Nat → Nat → Int32) × (Nat → Nat → Int32))} (hk235 : ∀ (i11 : Int32) (i12 : Int32) (z f : Nat → Nat → Int32), k235 0 66 67 68 69 70 71 72 73 74 i11 i12 (wA z f r) = (kg235 i11 i12 z f).map (fun q => (q.1, wA q.2.1 q.2.2 r))) (i12 : Int32) (s0 : Int32) (z f : Nat → Nat → Int32) : m_L_law_b291 L xs k235 0 66 67 68 69 70 71 72 73 74 i12 s0 (wA z f r) = (g_L_law_b291 L xs kg235 i12 s0 z f).map (fun q => (q.1, wA q.2.1 q.2.2 r)) := by
  unfold m_L_law_b291 g_L_law_b291
  refine caP e_L_part (fun x1 => ?_)
  refine caP e_L_part (fun x2 => ?_)
  refine iteE (fun _ => ?_) (fun _ => ?_)
  · refine iteE (fun _ => ?_) (fun _ => ?_)
    · refine iteE (fun _ => ?_) (fun _ => ?_)
      · refine iteE (fun _ => ?_) (fun _ => ?_)
        · refine iteE (fun _ => ?_) (fun _ => ?_)
          · refine iteE (fun _ => ?_) (fun _ => ?_)
            · exact e_L_law_b484 (hk235 := hk235) _ _ _ _  _ _
            · exact e_L_law_b484 (hk235 := hk235) _ _ _ _  _ _
          · exact e_L_law_b484 (hk235 := hk235) _ _ _ _  _ _
        · exact e_L_law_b484 (hk235 := hk235) _ _ _ _  _ _
      · exact e_L_law_b484 (hk235 := hk235) _ _ _ _  _ _
    · exact e_L_law_b484 (hk235 := hk235) _ _ _ _  _ _
  · refine iteE (fun _ => ?_) (fun _ => ?_)
    · refine iteE (fun _ => ?_) (fun _ => ?_)
      · refine iteE (fun _ => ?_) (fun _ => ?_)
        · refine iteE (fun _ => ?_) (fun _ => ?_)
          · exact e_L_law_b399 (hk235 := hk235) _ _ _ _  _ _
          · refine iteE (fun _ => ?_) (fun _ => ?_)
            · exact e_L_law_b399 (hk235 := hk235) _ _ _ _  _ _
            · exact e_L_law_b399 (hk235 := hk235) _ _ _ _  _ _
        · exact e_L_law_b399 (hk235 := hk235) _ _ _ _  _ _
      · exact e_L_law_b399 (hk235 := hk235) _ _ _ _  _ _
    · exact e_L_law_b399 (hk235 := hk235) _ _ _ _  _ _
def g_L_law_l235 (L : Nat) (xs : Nat → Int32) : Nat → Int32 → Int32 → (Nat → Nat → Int32) → (Nat → Nat → Int32) → Option (Int32 × (Nat → Nat → Int32) × (Nat → Nat → Int32))
  | 0, _, _, _, _ => none
  | fu + 1, i11, i12, z, f =>
    if 60 ≤ i12 then
      rtZw i11 z f
    else
      if i11 = 0 then
        rtZw i11 z f
      else
        if 4 ≤ i12 then
          if 6 ≤ i12 then
            if 7 ≤ i12 then
              (prG L xs (3 * i12) 56).bind fun x1 =>
              g_L_law_b291 L xs (fun y0 y1 z f => g_L_law_l235 L xs fu y0 y1 z f) i12 x1 z f
            else
              g_L_law_b291 L xs (fun y0 y1 z f => g_L_law_l235 L xs fu y0 y1 z f) i12 22 z f
          else
            g_L_law_b291 L xs (fun y0 y1 z f => g_L_law_l235 L xs fu y0 y1 z f) i12 0 z f
        else
          g_L_law_b291 L xs (fun y0 y1 z f => g_L_law_l235 L xs fu y0 y1 z f) i12 9 z f
set_option maxRecDepth 100000 in
set_option maxHeartbeats 4000000 in
theorem e_L_law_l235 {r : LWd} {L : Nat} {xs : Nat → Int32} : ∀ (fu : Nat) (i11 : Int32) (i12 : Int32) (z f : Nat → Nat → Int32), m_L_law_l235 L xs fu 0 66 67 68 69 70 71 72 73 74 i11 i12 (wA z f r) = (g_L_law_l235 L xs fu i11 i12 z f).map (fun q => (q.1, wA q.2.1 q.2.2 r)) := by
  intro fu
  induction fu with
  | zero => intro i11 i12  z f; first | rfl | (rw [m_L_law_l235, g_L_law_l235]; rfl)
  | succ fu ih =>
    intro i11 i12  z f
    rw [m_L_law_l235, g_L_law_l235]
    refine iteE (fun _ => ?_) (fun _ => ?_)
    · exact reZw
    · refine iteE (fun _ => ?_) (fun _ => ?_)
      · exact reZw
      · refine iteE (fun _ => ?_) (fun _ => ?_)
        · refine iteE (fun _ => ?_) (fun _ => ?_)
          · refine iteE (fun _ => ?_) (fun _ => ?_)
            · refine caP e_L_part (fun x1 => ?_)
              exact e_L_law_b291 (hk235 := ih) _ _  _ _
            · exact e_L_law_b291 (hk235 := ih) _ _  _ _
          · exact e_L_law_b291 (hk235 := ih) _ _  _ _
        · exact e_L_law_b291 (hk235 := ih) _ _  _ _
def g_L_law_b230 (L : Nat) (xs : Nat → Int32) (s0 : Int32) (z f : Nat → Nat → Int32) : Option (Int32 × (Nat → Nat → Int32) × (Nat → Nat → Int32)) :=
  g_L_law_l235 L xs 61 s0 0 z f
set_option maxRecDepth 100000 in
set_option maxHeartbeats 4000000 in
theorem e_L_law_b230 {r : LWd} {L : Nat} {xs : Nat → Int32} (s0 : Int32) (z f : Nat → Nat → Int32) : m_L_law_b230 L xs 0 66 67 68 69 70 71 72 73 74 s0 (wA z f r) = (g_L_law_b230 L xs s0 z f).map (fun q => (q.1, wA q.2.1 q.2.2 r)) := by
  unfold m_L_law_b230 g_L_law_b230
  exact e_L_law_l235 61 _ _  _ _
def g_L_law_b229 (L : Nat) (xs : Nat → Int32) (z f : Nat → Nat → Int32) : Option (Int32 × (Nat → Nat → Int32) × (Nat → Nat → Int32)) :=
  g_L_law_b230 L xs 0 z f
set_option maxRecDepth 100000 in
set_option maxHeartbeats 4000000 in
theorem e_L_law_b229 {r : LWd} {L : Nat} {xs : Nat → Int32} (z f : Nat → Nat → Int32) : m_L_law_b229 L xs 0 66 67 68 69 70 71 72 73 74 (wA z f r) = (g_L_law_b229 L xs  z f).map (fun q => (q.1, wA q.2.1 q.2.2 r)) := by
  unfold m_L_law_b229 g_L_law_b229
  exact e_L_law_b230 _  _ _
def g_L_law_l63 (L : Nat) (xs : Nat → Int32) : Nat → Int32 → (Nat → Nat → Int32) → (Nat → Nat → Int32) → Option (Int32 × (Nat → Nat → Int32) × (Nat → Nat → Int32))
  | 0, _, _, _ => none
  | fu + 1, i11, z, f =>
    if 50 ≤ i11 then
      lt2 (upf f 74 1 10) fun u2 =>
      lt2 (upf u2 74 2 10) fun u4 =>
      lt2 (upf u4 74 3 1000) fun u6 =>
      bn3 (g_L_does 6 0 0 0 0 0 z u6) fun x7 z8 u9 =>
      if x7 = ((-1000000)) then
        bn3 (g_L_does 7 0 0 0 0 0 z8 u9) fun x10 z11 u12 =>
        if x10 = ((-3000000)) then
          bn3 (g_L_does 9 0 0 0 0 0 z11 u12) fun x13 z14 u15 =>
          if x13 = ((-2000000)) then
            bn3 (g_L_does 9 1 0 0 0 0 z14 u15) fun x16 z17 u18 =>
            if x16 = ((-1000000)) then
              bn3 (g_L_does 10 1 0 0 0 0 z17 u18) fun x19 z20 u21 =>
              if x19 = ((-1000000)) then
                bn3 (g_L_does 11 ((-1)) 0 0 0 0 z20 u21) fun x22 z23 u24 =>
                if x22 = ((-2000000)) then
                  bn3 (g_L_does 13 20 0 0 0 0 z23 u24) fun x25 z26 u27 =>
                  if x25 = ((-2000000)) then
                    g_L_law_b230 L xs 1 z26 u27
                  else
                    g_L_law_b229 L xs  z26 u27
                else
                  g_L_law_b229 L xs  z23 u24
              else
                g_L_law_b229 L xs  z20 u21
            else
              g_L_law_b229 L xs  z17 u18
          else
            g_L_law_b229 L xs  z14 u15
        else
          g_L_law_b229 L xs  z11 u12
      else
        g_L_law_b229 L xs  z8 u9
    else
      (ixA 50 i11).bind fun j28 =>
      lt2 (ulg f 68 j28 7161677110969590627) fun u29 =>
      (ixA 25 (i11 / 2)).bind fun j30 =>
      lt2 (ulg u29 67 j30 ((-7378697629483820647))) fun u31 =>
      g_L_law_l63 L xs fu (i11 + 1) z u31
set_option maxRecDepth 100000 in
set_option maxHeartbeats 4000000 in
theorem e_L_law_l63 {r : LWd} {L : Nat} {xs : Nat → Int32} : ∀ (fu : Nat) (i11 : Int32) (z f : Nat → Nat → Int32), m_L_law_l63 L xs fu 0 66 67 68 69 70 71 72 73 74 i11 (wA z f r) = (g_L_law_l63 L xs fu i11 z f).map (fun q => (q.1, wA q.2.1 q.2.2 r)) := by
  intro fu
  induction fu with
  | zero => intro i11  z f; first | rfl | (rw [m_L_law_l63, g_L_law_l63]; rfl)
  | succ fu ih =>
    intro i11  z f
    rw [m_L_law_l63, g_L_law_l63]
    refine iteE (fun _ => ?_) (fun _ => ?_)
    · refine opS (sI_74.trans (ixl_1 _)) ?_
      refine ltE ?_
      refine opS (sI_74.trans (ixl_2 _)) ?_
      refine ltE ?_
      refine opS (sI_74.trans (ixl_3 _)) ?_
      refine ltE ?_
      refine caW e_L_does (fun _ _ => wA_len) (fun x7 z8 u9 => ?_)
      refine iteE (fun _ => ?_) (fun _ => ?_)
      · refine caW e_L_does (fun _ _ => wA_len) (fun x10 z11 u12 => ?_)
        refine iteE (fun _ => ?_) (fun _ => ?_)
        · refine caW e_L_does (fun _ _ => wA_len) (fun x13 z14 u15 => ?_)
          refine iteE (fun _ => ?_) (fun _ => ?_)
          · refine caW e_L_does (fun _ _ => wA_len) (fun x16 z17 u18 => ?_)
            refine iteE (fun _ => ?_) (fun _ => ?_)
            · refine caW e_L_does (fun _ _ => wA_len) (fun x19 z20 u21 => ?_)
              refine iteE (fun _ => ?_) (fun _ => ?_)
              · refine caW e_L_does (fun _ _ => wA_len) (fun x22 z23 u24 => ?_)
                refine iteE (fun _ => ?_) (fun _ => ?_)
                · refine caW e_L_does (fun _ _ => wA_len) (fun x25 z26 u27 => ?_)
                  refine iteE (fun _ => ?_) (fun _ => ?_)
                  · exact e_L_law_b230 _  _ _
                  · exact e_L_law_b229   _ _
                · exact e_L_law_b229   _ _
              · exact e_L_law_b229   _ _
            · exact e_L_law_b229   _ _
          · exact e_L_law_b229   _ _
        · exact e_L_law_b229   _ _
      · exact e_L_law_b229   _ _
    · refine opM sL_68 (fun j28 hj28 => ?_)
      refine ltE ?_
      refine opM sL_67 (fun j30 hj30 => ?_)
      refine ltE ?_
      exact ih _  _ _
