/-! the methods over the two functions: written by wip/p27/gmake.py -/
def g_L_pressure (i1 : Int32) (z f : Nat → Nat → Int32) : Option Int32 :=
  (g_L_many i1 z f).bind fun x1 =>
  if x1 = 0 then
    some (0)
  else
    if x1 = 0 then none else
    if x1 = 0 then none else
    if (jrem (10 + (f 74 4)) x1) ≤ 0 then
      some (((10 + (f 74 4)) / x1) + 0)
    else
      some (((10 + (f 74 4)) / x1) + 1)
set_option maxRecDepth 100000 in
set_option maxHeartbeats 4000000 in
theorem e_L_pressure {r : LWd} {z f : Nat → Nat → Int32} {i1 : Int32} : m_L_pressure 74 i1 (wA z f r) = (g_L_pressure i1 z f).map (fun x => (x, wA z f r)) := by
  unfold m_L_pressure g_L_pressure
  refine caP (e_L_many) (fun x1 => ?_)
  refine iteE (fun _ => ?_) (fun _ => ?_)
  · rfl
  · refine opS (aI_74.trans (ixl_4 _)) ?_
    refine iteN (fun _ => ?_)
    refine opS (aI_74.trans (ixl_4 _)) ?_
    refine iteN (fun _ => ?_)
    refine iteE (fun _ => ?_) (fun _ => ?_)
    · rfl
    · rfl
def g_L_level_b63 (k6 : Int32 → Int32 → Int32 → (Nat → Nat → Int32) → (Nat → Nat → Int32) → Option Int32) (i3 : Int32) (i5 : Int32) (s0 : Int32) (z f : Nat → Nat → Int32) : Option Int32 :=
  k6 i3 s0 (i5 + 1) z f
set_option maxRecDepth 100000 in
set_option maxHeartbeats 4000000 in
theorem e_L_level_b63 {r : LWd} {z f : Nat → Nat → Int32} {k6 : Nat → Nat → Nat → Int32 → Int32 → Int32 → LWd → Option (Int32 × LWd)} {kg6 : Int32 → Int32 → Int32 → (Nat → Nat → Int32) → (Nat → Nat → Int32) → Option Int32} (hk6 : ∀ (i3 : Int32) (i4 : Int32) (i5 : Int32), k6 66 70 71 i3 i4 i5 (wA z f r) = (kg6 i3 i4 i5 z f).map (fun x => (x, wA z f r))) (i3 : Int32) (i5 : Int32) (s0 : Int32) : m_L_level_b63 k6 66 70 71 i3 i5 s0 (wA z f r) = (g_L_level_b63 kg6 i3 i5 s0 z f).map (fun x => (x, wA z f r)) := by
  unfold m_L_level_b63 g_L_level_b63
  exact hk6 _ _ _ 
def g_L_level_b47 (k6 : Int32 → Int32 → Int32 → (Nat → Nat → Int32) → (Nat → Nat → Int32) → Option Int32) (i3 : Int32) (i4 : Int32) (i5 : Int32) (s0 : Int32) (z f : Nat → Nat → Int32) : Option Int32 :=
  if s0 ≤ i4 then
    g_L_level_b63 k6 i3 i5 i4 z f
  else
    g_L_level_b63 k6 i3 i5 s0 z f
set_option maxRecDepth 100000 in
set_option maxHeartbeats 4000000 in
theorem e_L_level_b47 {r : LWd} {z f : Nat → Nat → Int32} {k6 : Nat → Nat → Nat → Int32 → Int32 → Int32 → LWd → Option (Int32 × LWd)} {kg6 : Int32 → Int32 → Int32 → (Nat → Nat → Int32) → (Nat → Nat → Int32) → Option Int32} (hk6 : ∀ (i3 : Int32) (i4 : Int32) (i5 : Int32), k6 66 70 71 i3 i4 i5 (wA z f r) = (kg6 i3 i4 i5 z f).map (fun x => (x, wA z f r))) (i3 : Int32) (i4 : Int32) (i5 : Int32) (s0 : Int32) : m_L_level_b47 k6 66 70 71 i3 i4 i5 s0 (wA z f r) = (g_L_level_b47 kg6 i3 i4 i5 s0 z f).map (fun x => (x, wA z f r)) := by
  unfold m_L_level_b47 g_L_level_b47
  refine iteE (fun _ => ?_) (fun _ => ?_)
  · exact e_L_level_b63 (hk6 := hk6) _ _ _ 
  · exact e_L_level_b63 (hk6 := hk6) _ _ _ 
def g_L_level_l6 : Nat → Int32 → Int32 → Int32 → (Nat → Nat → Int32) → (Nat → Nat → Int32) → Option Int32
  | 0, _, _, _, _, _ => none
  | fu + 1, i3, i4, i5, z, f =>
    if 6 ≤ i5 then
      some (i4)
    else
      if ((i3 >>> (i5 &&& 31)) &&& 1) = 1 then
        (ixA 6 i5).bind fun j1 =>
        (ixA 6 i5).bind fun j2 =>
        (g_L_four 50 66 ((400 + (20 * (f 71 j1))) + (f 70 j2)) f).bind fun x3 =>
        g_L_level_b47 (fun y0 y1 y2 z f => g_L_level_l6 fu y0 y1 y2 z f) i3 i4 i5 x3 z f
      else
        g_L_level_b47 (fun y0 y1 y2 z f => g_L_level_l6 fu y0 y1 y2 z f) i3 i4 i5 0 z f
set_option maxRecDepth 100000 in
set_option maxHeartbeats 4000000 in
theorem e_L_level_l6 {r : LWd} {z f : Nat → Nat → Int32} : ∀ (fu : Nat) (i3 : Int32) (i4 : Int32) (i5 : Int32), m_L_level_l6 fu 66 70 71 i3 i4 i5 (wA z f r) = (g_L_level_l6 fu i3 i4 i5 z f).map (fun x => (x, wA z f r)) := by
  intro fu
  induction fu with
  | zero => intro i3 i4 i5 ; first | rfl | (rw [m_L_level_l6, g_L_level_l6]; rfl)
  | succ fu ih =>
    intro i3 i4 i5 
    rw [m_L_level_l6, g_L_level_l6]
    refine iteE (fun _ => ?_) (fun _ => ?_)
    · rfl
    · refine iteE (fun _ => ?_) (fun _ => ?_)
      · refine opM aI_71 (fun j1 hj1 => ?_)
        refine opM aI_70 (fun j2 hj2 => ?_)
        refine caP (e_L_four lwr_66) (fun x3 => ?_)
        exact e_L_level_b47 (hk6 := ih) _ _ _ _ 
      · exact e_L_level_b47 (hk6 := ih) _ _ _ _ 
def g_L_level (i3 : Int32) (z f : Nat → Nat → Int32) : Option Int32 :=
  g_L_level_l6 FU i3 0 0 z f
set_option maxRecDepth 100000 in
set_option maxHeartbeats 4000000 in
theorem e_L_level {r : LWd} {z f : Nat → Nat → Int32} {i3 : Int32} : m_L_level 66 70 71 i3 (wA z f r) = (g_L_level i3 z f).map (fun x => (x, wA z f r)) := by
  unfold m_L_level g_L_level
  exact e_L_level_l6 FU _ _ _ 
def g_L_breaks_b41 (s1 : Int32) (s2 : Int32) (z f : Nat → Nat → Int32) : Option ((Nat → Nat → Int32) × (Nat → Nat → Int32)) :=
  (ixA 15 s1).bind fun j1 =>
  lt2 (upf f 74 j1 s2) fun u2 =>
  lt2 (upf u2 74 9 ((u2 74 9) + 1)) fun u5 =>
  some (z, u5)
set_option maxRecDepth 100000 in
set_option maxHeartbeats 4000000 in
theorem e_L_breaks_b41 {r : LWd} (s1 : Int32) (s2 : Int32) (z f : Nat → Nat → Int32) : m_L_breaks_b41 74 74 s1 s2 (wA z f r) = (g_L_breaks_b41 s1 s2 z f).map (fun q => wA q.1 q.2 r) := by
  unfold m_L_breaks_b41 g_L_breaks_b41
  refine opM sI_74 (fun j1 hj1 => ?_)
  refine ltE ?_
  refine opS (aI_74.trans (ixl_9 _)) ?_
  refine opS (sI_74.trans (ixl_9 _)) ?_
  refine ltE ?_
  rfl
def g_L_breaks_b22 (i1 : Int32) (s1 : Int32) (s2 : Int32) (z f : Nat → Nat → Int32) : Option ((Nat → Nat → Int32) × (Nat → Nat → Int32)) :=
  (ixA 15 s1).bind fun j1 =>
  lt2 (upf f 74 j1 s2) fun u2 =>
  if (u2 74 14) = 0 then
    g_L_breaks_b41 14 i1 z u2
  else
    g_L_breaks_b41 14 (u2 74 14) z u2
set_option maxRecDepth 100000 in
set_option maxHeartbeats 4000000 in
theorem e_L_breaks_b22 {r : LWd} (i1 : Int32) (s1 : Int32) (s2 : Int32) (z f : Nat → Nat → Int32) : m_L_breaks_b22 74 i1 74 s1 s2 (wA z f r) = (g_L_breaks_b22 i1 s1 s2 z f).map (fun q => wA q.1 q.2 r) := by
  unfold m_L_breaks_b22 g_L_breaks_b22
  refine opM sI_74 (fun j1 hj1 => ?_)
  refine ltE ?_
  refine opS (aI_74.trans (ixl_14 _)) ?_
  refine iteE (fun _ => ?_) (fun _ => ?_)
  · exact e_L_breaks_b41 _ _  _ _
  · refine opS (aI_74.trans (ixl_14 _)) ?_
    exact e_L_breaks_b41 _ _  _ _
def g_L_breaks (i1 : Int32) (i2 : Int32) (z f : Nat → Nat → Int32) : Option ((Nat → Nat → Int32) × (Nat → Nat → Int32)) :=
  if (f 74 9) = 0 then
    g_L_breaks_b22 i1 10 (i1 + (4 * i2)) z f
  else
    g_L_breaks_b22 i1 10 (f 74 10) z f
set_option maxRecDepth 100000 in
set_option maxHeartbeats 4000000 in
theorem e_L_breaks {r : LWd} {z f : Nat → Nat → Int32} {i1 : Int32} {i2 : Int32} : m_L_breaks 74 i1 i2 (wA z f r) = (g_L_breaks i1 i2 z f).map (fun q => wA q.1 q.2 r) := by
  unfold m_L_breaks g_L_breaks
  refine opS (aI_74.trans (ixl_9 _)) ?_
  refine iteE (fun _ => ?_) (fun _ => ?_)
  · exact e_L_breaks_b22 _ _ _  _ _
  · refine opS (aI_74.trans (ixl_10 _)) ?_
    exact e_L_breaks_b22 _ _ _  _ _
def g_L_sinking_b59 (k6 : Int32 → Int32 → Int32 → (Nat → Nat → Int32) → (Nat → Nat → Int32) → Option Int32) (i4 : Int32) (i6 : Int32) (s0 : Int32) (s1 : Int32) (z f : Nat → Nat → Int32) : Option Int32 :=
  k6 i4 (s0 + s1) (i6 + 1) z f
set_option maxRecDepth 100000 in
set_option maxHeartbeats 4000000 in
theorem e_L_sinking_b59 {r : LWd} {z f : Nat → Nat → Int32} {k6 : Nat → Nat → Nat → Nat → Int32 → Int32 → Int32 → LWd → Option (Int32 × LWd)} {kg6 : Int32 → Int32 → Int32 → (Nat → Nat → Int32) → (Nat → Nat → Int32) → Option Int32} (hk6 : ∀ (i4 : Int32) (i5 : Int32) (i6 : Int32), k6 68 70 71 74 i4 i5 i6 (wA z f r) = (kg6 i4 i5 i6 z f).map (fun x => (x, wA z f r))) (i4 : Int32) (i6 : Int32) (s0 : Int32) (s1 : Int32) : m_L_sinking_b59 k6 68 70 71 74 i4 i6 s0 s1 (wA z f r) = (g_L_sinking_b59 kg6 i4 i6 s0 s1 z f).map (fun x => (x, wA z f r)) := by
  unfold m_L_sinking_b59 g_L_sinking_b59
  exact hk6 _ _ _ 
def g_L_sinking_b58 (k6 : Int32 → Int32 → Int32 → (Nat → Nat → Int32) → (Nat → Nat → Int32) → Option Int32) (i4 : Int32) (i6 : Int32) (s0 : Int32) (z f : Nat → Nat → Int32) : Option Int32 :=
  g_L_sinking_b59 k6 i4 i6 s0 0 z f
set_option maxRecDepth 100000 in
set_option maxHeartbeats 4000000 in
theorem e_L_sinking_b58 {r : LWd} {z f : Nat → Nat → Int32} {k6 : Nat → Nat → Nat → Nat → Int32 → Int32 → Int32 → LWd → Option (Int32 × LWd)} {kg6 : Int32 → Int32 → Int32 → (Nat → Nat → Int32) → (Nat → Nat → Int32) → Option Int32} (hk6 : ∀ (i4 : Int32) (i5 : Int32) (i6 : Int32), k6 68 70 71 74 i4 i5 i6 (wA z f r) = (kg6 i4 i5 i6 z f).map (fun x => (x, wA z f r))) (i4 : Int32) (i6 : Int32) (s0 : Int32) : m_L_sinking_b58 k6 68 70 71 74 i4 i6 s0 (wA z f r) = (g_L_sinking_b58 kg6 i4 i6 s0 z f).map (fun x => (x, wA z f r)) := by
  unfold m_L_sinking_b58 g_L_sinking_b58
  exact e_L_sinking_b59 (hk6 := hk6) _ _ _ _ 
def g_L_sinking_l6 : Nat → Int32 → Int32 → Int32 → (Nat → Nat → Int32) → (Nat → Nat → Int32) → Option Int32
  | 0, _, _, _, _, _ => none
  | fu + 1, i4, i5, i6, z, f =>
    if 6 ≤ i6 then
      some (i5)
    else
      if ((i4 >>> (i6 &&& 31)) &&& 1) = 1 then
        (ixA 6 i6).bind fun j1 =>
        (ixA 6 i6).bind fun j2 =>
        (g_L_firm ((20 * (f 71 j1)) + (f 70 j2)) z f).bind fun x3 =>
        (g_L_pressure i4 z f).bind fun x4 =>
        if x4 ≤ x3 then
          g_L_sinking_b58 (fun y0 y1 y2 z f => g_L_sinking_l6 fu y0 y1 y2 z f) i4 i6 i5 z f
        else
          g_L_sinking_b59 (fun y0 y1 y2 z f => g_L_sinking_l6 fu y0 y1 y2 z f) i4 i6 i5 (1 <<< (i6 &&& 31)) z f
      else
        g_L_sinking_b58 (fun y0 y1 y2 z f => g_L_sinking_l6 fu y0 y1 y2 z f) i4 i6 i5 z f
set_option maxRecDepth 100000 in
set_option maxHeartbeats 4000000 in
theorem e_L_sinking_l6 {r : LWd} {z f : Nat → Nat → Int32} : ∀ (fu : Nat) (i4 : Int32) (i5 : Int32) (i6 : Int32), m_L_sinking_l6 fu 68 70 71 74 i4 i5 i6 (wA z f r) = (g_L_sinking_l6 fu i4 i5 i6 z f).map (fun x => (x, wA z f r)) := by
  intro fu
  induction fu with
  | zero => intro i4 i5 i6 ; first | rfl | (rw [m_L_sinking_l6, g_L_sinking_l6]; rfl)
  | succ fu ih =>
    intro i4 i5 i6 
    rw [m_L_sinking_l6, g_L_sinking_l6]
    refine iteE (fun _ => ?_) (fun _ => ?_)
    · rfl
    · refine iteE (fun _ => ?_) (fun _ => ?_)
      · refine opM aI_71 (fun j1 hj1 => ?_)
        refine opM aI_70 (fun j2 hj2 => ?_)
        refine caP (e_L_firm) (fun x3 => ?_)
        refine caP (e_L_pressure) (fun x4 => ?_)
        refine iteE (fun _ => ?_) (fun _ => ?_)
        · exact e_L_sinking_b58 (hk6 := ih) _ _ _ 
        · exact e_L_sinking_b59 (hk6 := ih) _ _ _ _ 
      · exact e_L_sinking_b58 (hk6 := ih) _ _ _ 
def g_L_sinking (i4 : Int32) (z f : Nat → Nat → Int32) : Option Int32 :=
  g_L_sinking_l6 FU i4 0 0 z f
set_option maxRecDepth 100000 in
set_option maxHeartbeats 4000000 in
theorem e_L_sinking {r : LWd} {z f : Nat → Nat → Int32} {i4 : Int32} : m_L_sinking 68 70 71 74 i4 (wA z f r) = (g_L_sinking i4 z f).map (fun x => (x, wA z f r)) := by
  unfold m_L_sinking g_L_sinking
  exact e_L_sinking_l6 FU _ _ _ 
def g_L_settles_b376 (i10 : Int32) (s1 : Int32) (z f : Nat → Nat → Int32) : Option ((Nat → Nat → Int32) × (Nat → Nat → Int32)) :=
  (ixA 41 s1).bind fun j2 =>
  lt2 (upf f 73 j2 (i10 + (9 * (f 74 10)))) fun u3 =>
  lt2 (upf u3 74 11 ((u3 74 11) + 1)) fun u6 =>
  lt2 (upf u6 74 0 0) fun u8 =>
  lt2 (upf u8 74 8 0) fun u10 =>
  some (z, u10)
set_option maxRecDepth 100000 in
set_option maxHeartbeats 4000000 in
theorem e_L_settles_b376 {r : LWd} (i10 : Int32) (s1 : Int32) (z f : Nat → Nat → Int32) : m_L_settles_b376 74 i10 73 s1 (wA z f r) = (g_L_settles_b376 i10 s1 z f).map (fun q => wA q.1 q.2 r) := by
  unfold m_L_settles_b376 g_L_settles_b376
  refine opS (aI_74.trans (ixl_10 _)) ?_
  refine opM sI_73 (fun j2 hj2 => ?_)
  refine ltE ?_
  refine opS (aI_74.trans (ixl_11 _)) ?_
  refine opS (sI_74.trans (ixl_11 _)) ?_
  refine ltE ?_
  refine opS (sI_74.trans (ixl_0 _)) ?_
  refine ltE ?_
  refine opS (sI_74.trans (ixl_8 _)) ?_
  refine ltE ?_
  rfl
def g_L_settles_b351 (s0 : Int32) (s1 : Int32) (z f : Nat → Nat → Int32) : Option ((Nat → Nat → Int32) × (Nat → Nat → Int32)) :=
  if 40 ≤ (f 74 11) then
    g_L_settles_b376 (s0 + s1) 40 z f
  else
    g_L_settles_b376 (s0 + s1) (f 74 11) z f
set_option maxRecDepth 100000 in
set_option maxHeartbeats 4000000 in
theorem e_L_settles_b351 {r : LWd} (s0 : Int32) (s1 : Int32) (z f : Nat → Nat → Int32) : m_L_settles_b351 73 74 s0 s1 (wA z f r) = (g_L_settles_b351 s0 s1 z f).map (fun q => wA q.1 q.2 r) := by
  unfold m_L_settles_b351 g_L_settles_b351
  refine opS (aI_74.trans (ixl_11 _)) ?_
  refine iteE (fun _ => ?_) (fun _ => ?_)
  · exact e_L_settles_b376 _ _  _ _
  · refine opS (aI_74.trans (ixl_11 _)) ?_
    exact e_L_settles_b376 _ _  _ _
def g_L_settles_b332 (i9 : Int32) (s0 : Int32) (z f : Nat → Nat → Int32) : Option ((Nat → Nat → Int32) × (Nat → Nat → Int32)) :=
  if i9 ≤ 0 then
    if 0 ≤ i9 then
      g_L_settles_b351 s0 1 z f
    else
      g_L_settles_b351 s0 0 z f
  else
    g_L_settles_b351 s0 2 z f
set_option maxRecDepth 100000 in
set_option maxHeartbeats 4000000 in
theorem e_L_settles_b332 {r : LWd} (i9 : Int32) (s0 : Int32) (z f : Nat → Nat → Int32) : m_L_settles_b332 73 74 i9 s0 (wA z f r) = (g_L_settles_b332 i9 s0 z f).map (fun q => wA q.1 q.2 r) := by
  unfold m_L_settles_b332 g_L_settles_b332
  refine iteE (fun _ => ?_) (fun _ => ?_)
  · refine iteE (fun _ => ?_) (fun _ => ?_)
    · exact e_L_settles_b351 _ _  _ _
    · exact e_L_settles_b351 _ _  _ _
  · exact e_L_settles_b351 _ _  _ _
def g_L_settles_l243 : Nat → Int32 → Int32 → Int32 → (Nat → Nat → Int32) → (Nat → Nat → Int32) → Option ((Nat → Nat → Int32) × (Nat → Nat → Int32))
  | 0, _, _, _, _, _ => none
  | fu + 1, i8, i9, i10, z, f =>
    if 6 ≤ i10 then
      if i8 ≤ 0 then
        if 0 ≤ i8 then
          g_L_settles_b332 i9 3 z f
        else
          g_L_settles_b332 i9 0 z f
      else
        g_L_settles_b332 i9 6 z f
    else
      (ixA 6 i10).bind fun j3 =>
      (ixA 6 i10).bind fun j6 =>
      g_L_settles_l243 fu (i8 - (((((f 74 8) >>> (i10 &&& 31)) &&& 1) * (10 + (f 74 4))) * (f 70 j3))) (i9 - (((((f 74 8) >>> (i10 &&& 31)) &&& 1) * (10 + (f 74 4))) * (f 71 j6))) (i10 + 1) z f
set_option maxRecDepth 100000 in
set_option maxHeartbeats 4000000 in
theorem e_L_settles_l243 {r : LWd} : ∀ (fu : Nat) (i8 : Int32) (i9 : Int32) (i10 : Int32) (z f : Nat → Nat → Int32), m_L_settles_l243 fu 70 71 73 74 i8 i9 i10 (wA z f r) = (g_L_settles_l243 fu i8 i9 i10 z f).map (fun q => wA q.1 q.2 r) := by
  intro fu
  induction fu with
  | zero => intro i8 i9 i10  z f; first | rfl | (rw [m_L_settles_l243, g_L_settles_l243]; rfl)
  | succ fu ih =>
    intro i8 i9 i10  z f
    rw [m_L_settles_l243, g_L_settles_l243]
    refine iteE (fun _ => ?_) (fun _ => ?_)
    · refine iteE (fun _ => ?_) (fun _ => ?_)
      · refine iteE (fun _ => ?_) (fun _ => ?_)
        · exact e_L_settles_b332 _ _  _ _
        · exact e_L_settles_b332 _ _  _ _
      · exact e_L_settles_b332 _ _  _ _
    · refine opS (aI_74.trans (ixl_8 _)) ?_
      refine opS (aI_74.trans (ixl_4 _)) ?_
      refine opM aI_70 (fun j3 hj3 => ?_)
      refine opS (aI_74.trans (ixl_8 _)) ?_
      refine opS (aI_74.trans (ixl_4 _)) ?_
      refine opM aI_71 (fun j6 hj6 => ?_)
      exact ih _ _ _  _ _
def g_L_settles_b118 (k27 : Int32 → (Nat → Nat → Int32) → (Nat → Nat → Int32) → Option ((Nat → Nat → Int32) × (Nat → Nat → Int32))) (k35 : Int32 → Int32 → (Nat → Nat → Int32) → (Nat → Nat → Int32) → Option ((Nat → Nat → Int32) × (Nat → Nat → Int32))) (i6 : Int32) (i7 : Int32) (z f : Nat → Nat → Int32) : Option ((Nat → Nat → Int32) × (Nat → Nat → Int32)) :=
  k35 i6 (i7 + 1) z f
set_option maxRecDepth 100000 in
set_option maxHeartbeats 4000000 in
theorem e_L_settles_b118 {r : LWd} {k27 : Nat → Nat → Nat → Nat → Nat → Nat → Int32 → LWd → Option LWd} {kg27 : Int32 → (Nat → Nat → Int32) → (Nat → Nat → Int32) → Option ((Nat → Nat → Int32) × (Nat → Nat → Int32))} (hk27 : ∀ (i6 : Int32) (z f : Nat → Nat → Int32), k27 66 68 70 71 73 74 i6 (wA z f r) = (kg27 i6 z f).map (fun q => wA q.1 q.2 r)) {k35 : Nat → Nat → Nat → Nat → Nat → Nat → Int32 → Int32 → LWd → Option LWd} {kg35 : Int32 → Int32 → (Nat → Nat → Int32) → (Nat → Nat → Int32) → Option ((Nat → Nat → Int32) × (Nat → Nat → Int32))} (hk35 : ∀ (i6 : Int32) (i7 : Int32) (z f : Nat → Nat → Int32), k35 66 68 70 71 73 74 i6 i7 (wA z f r) = (kg35 i6 i7 z f).map (fun q => wA q.1 q.2 r)) (i6 : Int32) (i7 : Int32) (z f : Nat → Nat → Int32) : m_L_settles_b118 k27 k35 66 68 70 71 73 74 i6 i7 (wA z f r) = (g_L_settles_b118 kg27 kg35 i6 i7 z f).map (fun q => wA q.1 q.2 r) := by
  unfold m_L_settles_b118 g_L_settles_b118
  exact hk35 _ _  _ _
def g_L_settles_b88 (k27 : Int32 → (Nat → Nat → Int32) → (Nat → Nat → Int32) → Option ((Nat → Nat → Int32) × (Nat → Nat → Int32))) (k35 : Int32 → Int32 → (Nat → Nat → Int32) → (Nat → Nat → Int32) → Option ((Nat → Nat → Int32) × (Nat → Nat → Int32))) (i6 : Int32) (i7 : Int32) (i8 : Int32) (s0 : Int32) (z f : Nat → Nat → Int32) : Option ((Nat → Nat → Int32) × (Nat → Nat → Int32)) :=
  (g_L_sets 50 66 i8 s0 f).bind fun u1 =>
  (g_L_sets 50 66 (400 + i8) s0 u1).bind fun u2 =>
  bn2 (g_L_breaks 2 i8 z u2) fun z3 u4 =>
  g_L_settles_b118 k27 k35 i6 i7 z3 u4
set_option maxRecDepth 100000 in
set_option maxHeartbeats 4000000 in
theorem e_L_settles_b88 {r : LWd} {k27 : Nat → Nat → Nat → Nat → Nat → Nat → Int32 → LWd → Option LWd} {kg27 : Int32 → (Nat → Nat → Int32) → (Nat → Nat → Int32) → Option ((Nat → Nat → Int32) × (Nat → Nat → Int32))} (hk27 : ∀ (i6 : Int32) (z f : Nat → Nat → Int32), k27 66 68 70 71 73 74 i6 (wA z f r) = (kg27 i6 z f).map (fun q => wA q.1 q.2 r)) {k35 : Nat → Nat → Nat → Nat → Nat → Nat → Int32 → Int32 → LWd → Option LWd} {kg35 : Int32 → Int32 → (Nat → Nat → Int32) → (Nat → Nat → Int32) → Option ((Nat → Nat → Int32) × (Nat → Nat → Int32))} (hk35 : ∀ (i6 : Int32) (i7 : Int32) (z f : Nat → Nat → Int32), k35 66 68 70 71 73 74 i6 i7 (wA z f r) = (kg35 i6 i7 z f).map (fun q => wA q.1 q.2 r)) (i6 : Int32) (i7 : Int32) (i8 : Int32) (s0 : Int32) (z f : Nat → Nat → Int32) : m_L_settles_b88 k27 k35 66 68 70 71 73 74 i6 i7 i8 s0 (wA z f r) = (g_L_settles_b88 kg27 kg35 i6 i7 i8 s0 z f).map (fun q => wA q.1 q.2 r) := by
  unfold m_L_settles_b88 g_L_settles_b88
  refine caUs (e_L_sets (fun _ => lwr_66)) (fun u1 => ?_)
  refine caUs (e_L_sets (fun _ => lwr_66)) (fun u2 => ?_)
  refine caU (e_L_breaks) (fun _ _ => wA_len) (fun z3 u4 => ?_)
  exact e_L_settles_b118 (hk27 := hk27) (hk35 := hk35) _ _  _ _
def g_L_settles_l35 (k27 : Int32 → (Nat → Nat → Int32) → (Nat → Nat → Int32) → Option ((Nat → Nat → Int32) × (Nat → Nat → Int32))) : Nat → Int32 → Int32 → (Nat → Nat → Int32) → (Nat → Nat → Int32) → Option ((Nat → Nat → Int32) × (Nat → Nat → Int32))
  | 0, _, _, _, _ => none
  | fu + 1, i6, i7, z, f =>
    if 6 ≤ i7 then
      lt2 (upf f 74 8 ((f 74 8) - i6)) fun u3 =>
      (g_L_sinking (u3 74 8) z u3).bind fun x5 =>
      k27 x5 z u3
    else
      if ((i6 >>> (i7 &&& 31)) &&& 1) = 1 then
        (ixA 6 i7).bind fun j6 =>
        (ixA 6 i7).bind fun j7 =>
        (g_L_four 50 66 ((20 * (f 71 j6)) + (f 70 j7)) f).bind fun x8 =>
        if x8 = 0 then
          g_L_settles_b88 k27 (fun y0 y1 z f => g_L_settles_l35 k27 fu y0 y1 z f) i6 i7 ((20 * (f 71 j6)) + (f 70 j7)) 0 z f
        else
          (g_L_four 50 66 ((20 * (f 71 j6)) + (f 70 j7)) f).bind fun x9 =>
          g_L_settles_b88 k27 (fun y0 y1 z f => g_L_settles_l35 k27 fu y0 y1 z f) i6 i7 ((20 * (f 71 j6)) + (f 70 j7)) (x9 - 1) z f
      else
        g_L_settles_b118 k27 (fun y0 y1 z f => g_L_settles_l35 k27 fu y0 y1 z f) i6 i7 z f
set_option maxRecDepth 100000 in
set_option maxHeartbeats 4000000 in
theorem e_L_settles_l35 {r : LWd} {k27 : Nat → Nat → Nat → Nat → Nat → Nat → Int32 → LWd → Option LWd} {kg27 : Int32 → (Nat → Nat → Int32) → (Nat → Nat → Int32) → Option ((Nat → Nat → Int32) × (Nat → Nat → Int32))} (hk27 : ∀ (i6 : Int32) (z f : Nat → Nat → Int32), k27 66 68 70 71 73 74 i6 (wA z f r) = (kg27 i6 z f).map (fun q => wA q.1 q.2 r)) : ∀ (fu : Nat) (i6 : Int32) (i7 : Int32) (z f : Nat → Nat → Int32), m_L_settles_l35 k27 fu 66 68 70 71 73 74 i6 i7 (wA z f r) = (g_L_settles_l35 kg27 fu i6 i7 z f).map (fun q => wA q.1 q.2 r) := by
  intro fu
  induction fu with
  | zero => intro i6 i7  z f; first | rfl | (rw [m_L_settles_l35, g_L_settles_l35]; rfl)
  | succ fu ih =>
    intro i6 i7  z f
    rw [m_L_settles_l35, g_L_settles_l35]
    refine iteE (fun _ => ?_) (fun _ => ?_)
    · refine opS (aI_74.trans (ixl_8 _)) ?_
      refine opS (sI_74.trans (ixl_8 _)) ?_
      refine ltE ?_
      refine opS (aI_74.trans (ixl_8 _)) ?_
      refine caP (e_L_sinking) (fun x5 => ?_)
      exact hk27 _  _ _
    · refine iteE (fun _ => ?_) (fun _ => ?_)
      · refine opM aI_71 (fun j6 hj6 => ?_)
        refine opM aI_70 (fun j7 hj7 => ?_)
        refine caP (e_L_four lwr_66) (fun x8 => ?_)
        refine iteE (fun _ => ?_) (fun _ => ?_)
        · exact e_L_settles_b88 (hk27 := hk27) (hk35 := ih) _ _ _ _  _ _
        · refine caP (e_L_four lwr_66) (fun x9 => ?_)
          exact e_L_settles_b88 (hk27 := hk27) (hk35 := ih) _ _ _ _  _ _
      · exact e_L_settles_b118 (hk27 := hk27) (hk35 := ih) _ _  _ _
def g_L_settles_l27 : Nat → Int32 → (Nat → Nat → Int32) → (Nat → Nat → Int32) → Option ((Nat → Nat → Int32) × (Nat → Nat → Int32))
  | 0, _, _, _ => none
  | fu + 1, i6, z, f =>
    if i6 ≤ 0 then
      if (f 74 0) = 1 then
        (g_L_holds (f 74 8) z f).bind fun x3 =>
        if x3 = 0 then
          (g_L_many (f 74 8) z f).bind fun x5 =>
          g_L_settles_l243 FU (x5 * (((10 + (f 74 4)) * (f 74 1)) + ((f 74 4) * (f 74 5)))) (x5 * (((10 + (f 74 4)) * (f 74 2)) + ((f 74 4) * (f 74 6)))) 0 z f
        else
          some (z, f)
      else
        some (z, f)
    else
      g_L_settles_l35 (fun y0 z f => g_L_settles_l27 fu y0 z f) FU i6 0 z f
set_option maxRecDepth 100000 in
set_option maxHeartbeats 4000000 in
theorem e_L_settles_l27 {r : LWd} : ∀ (fu : Nat) (i6 : Int32) (z f : Nat → Nat → Int32), m_L_settles_l27 fu 66 68 70 71 73 74 i6 (wA z f r) = (g_L_settles_l27 fu i6 z f).map (fun q => wA q.1 q.2 r) := by
  intro fu
  induction fu with
  | zero => intro i6  z f; first | rfl | (rw [m_L_settles_l27, g_L_settles_l27]; rfl)
  | succ fu ih =>
    intro i6  z f
    rw [m_L_settles_l27, g_L_settles_l27]
    refine iteE (fun _ => ?_) (fun _ => ?_)
    · refine opS (aI_74.trans (ixl_0 _)) ?_
      refine iteE (fun _ => ?_) (fun _ => ?_)
      · refine opS (aI_74.trans (ixl_8 _)) ?_
        refine caP (e_L_holds) (fun x3 => ?_)
        refine iteE (fun _ => ?_) (fun _ => ?_)
        · refine opS (aI_74.trans (ixl_8 _)) ?_
          refine caP (e_L_many) (fun x5 => ?_)
          refine opS (aI_74.trans (ixl_4 _)) ?_
          refine opS (aI_74.trans (ixl_1 _)) ?_
          refine opS (aI_74.trans (ixl_4 _)) ?_
          refine opS (aI_74.trans (ixl_5 _)) ?_
          refine opS (aI_74.trans (ixl_4 _)) ?_
          refine opS (aI_74.trans (ixl_2 _)) ?_
          refine opS (aI_74.trans (ixl_4 _)) ?_
          refine opS (aI_74.trans (ixl_6 _)) ?_
          exact e_L_settles_l243 FU _ _ _  _ _
        · rfl
      · rfl
    · exact e_L_settles_l35 (hk27 := ih) FU _ _  _ _
def g_L_settles_b25 (s0 : Int32) (z f : Nat → Nat → Int32) : Option ((Nat → Nat → Int32) × (Nat → Nat → Int32)) :=
  g_L_settles_l27 FU s0 z f
set_option maxRecDepth 100000 in
set_option maxHeartbeats 4000000 in
theorem e_L_settles_b25 {r : LWd} (s0 : Int32) (z f : Nat → Nat → Int32) : m_L_settles_b25 66 68 70 71 73 74 s0 (wA z f r) = (g_L_settles_b25 s0 z f).map (fun q => wA q.1 q.2 r) := by
  unfold m_L_settles_b25 g_L_settles_b25
  exact e_L_settles_l27 FU _  _ _
def g_L_settles (z f : Nat → Nat → Int32) : Option ((Nat → Nat → Int32) × (Nat → Nat → Int32)) :=
  if (f 74 0) = 1 then
    (g_L_sinking (f 74 8) z f).bind fun x3 =>
    g_L_settles_b25 x3 z f
  else
    g_L_settles_b25 0 z f
set_option maxRecDepth 100000 in
set_option maxHeartbeats 4000000 in
theorem e_L_settles {r : LWd} {z f : Nat → Nat → Int32} : m_L_settles 66 68 70 71 73 74 (wA z f r) = (g_L_settles  z f).map (fun q => wA q.1 q.2 r) := by
  unfold m_L_settles g_L_settles
  refine opS (aI_74.trans (ixl_0 _)) ?_
  refine iteE (fun _ => ?_) (fun _ => ?_)
  · refine opS (aI_74.trans (ixl_8 _)) ?_
    refine caP (e_L_sinking) (fun x3 => ?_)
    exact e_L_settles_b25 _  _ _
  · exact e_L_settles_b25 _  _ _
def g_L_comes_b57 (i9 : Int32) (z f : Nat → Nat → Int32) : Option ((Nat → Nat → Int32) × (Nat → Nat → Int32)) :=
  bn2 (g_L_breaks 1 i9 z f) fun z1 u2 =>
  some (z1, u2)
set_option maxRecDepth 100000 in
set_option maxHeartbeats 4000000 in
theorem e_L_comes_b57 {r : LWd} (i9 : Int32) (z f : Nat → Nat → Int32) : m_L_comes_b57 74 i9 (wA z f r) = (g_L_comes_b57 i9 z f).map (fun q => wA q.1 q.2 r) := by
  unfold m_L_comes_b57 g_L_comes_b57
  refine caU (e_L_breaks) (fun _ _ => wA_len) (fun z1 u2 => ?_)
  rfl
def g_L_comes_b278 (i6 : Int32) (i13 : Int32) (s0 : Int32) (z f : Nat → Nat → Int32) : Option ((Nat → Nat → Int32) × (Nat → Nat → Int32)) :=
  if s0 = 0 then
    some (z, f)
  else
    (ixA 6 i6).bind fun j1 =>
    lt2 (upf f 70 j1 (jrem i13 20)) fun u2 =>
    (ixA 6 i6).bind fun j3 =>
    lt2 (upf u2 71 j3 (i13 / 20)) fun u4 =>
    lt2 (upf u4 74 8 ((u4 74 8) ||| (1 <<< (i6 &&& 31)))) fun u7 =>
    some (z, u7)
set_option maxRecDepth 100000 in
set_option maxHeartbeats 4000000 in
theorem e_L_comes_b278 {r : LWd} (i6 : Int32) (i13 : Int32) (s0 : Int32) (z f : Nat → Nat → Int32) : m_L_comes_b278 70 71 74 i6 i13 s0 (wA z f r) = (g_L_comes_b278 i6 i13 s0 z f).map (fun q => wA q.1 q.2 r) := by
  unfold m_L_comes_b278 g_L_comes_b278
  refine iteE (fun _ => ?_) (fun _ => ?_)
  · rfl
  · refine opM sI_70 (fun j1 hj1 => ?_)
    refine ltE ?_
    refine opM sI_71 (fun j3 hj3 => ?_)
    refine ltE ?_
    refine opS (aI_74.trans (ixl_8 _)) ?_
    refine opS (sI_74.trans (ixl_8 _)) ?_
    refine ltE ?_
    rfl
def g_L_comes_b273 (i6 : Int32) (i13 : Int32) (z f : Nat → Nat → Int32) : Option ((Nat → Nat → Int32) × (Nat → Nat → Int32)) :=
  g_L_comes_b278 i6 i13 1 z f
set_option maxRecDepth 100000 in
set_option maxHeartbeats 4000000 in
theorem e_L_comes_b273 {r : LWd} (i6 : Int32) (i13 : Int32) (z f : Nat → Nat → Int32) : m_L_comes_b273 70 71 74 i6 i13 (wA z f r) = (g_L_comes_b273 i6 i13 z f).map (fun q => wA q.1 q.2 r) := by
  unfold m_L_comes_b273 g_L_comes_b273
  exact e_L_comes_b278 _ _ _  _ _
def g_L_comes_b277 (i6 : Int32) (i13 : Int32) (z f : Nat → Nat → Int32) : Option ((Nat → Nat → Int32) × (Nat → Nat → Int32)) :=
  g_L_comes_b278 i6 i13 0 z f
set_option maxRecDepth 100000 in
set_option maxHeartbeats 4000000 in
theorem e_L_comes_b277 {r : LWd} (i6 : Int32) (i13 : Int32) (z f : Nat → Nat → Int32) : m_L_comes_b277 70 71 74 i6 i13 (wA z f r) = (g_L_comes_b277 i6 i13 z f).map (fun q => wA q.1 q.2 r) := by
  unfold m_L_comes_b277 g_L_comes_b277
  exact e_L_comes_b278 _ _ _  _ _
def g_L_comes_b223 (i6 : Int32) (i12 : Int32) (i13 : Int32) (z f : Nat → Nat → Int32) : Option ((Nat → Nat → Int32) × (Nat → Nat → Int32)) :=
  if i12 < 0 then
    g_L_comes_b273 i6 i13 z f
  else
    (g_L_isNear i6 (jrem i12 20) (i12 / 20) z f).bind fun x1 =>
    if x1 = 0 then
      g_L_comes_b277 i6 i13 z f
    else
      (g_L_isTaken (f 74 8) (jrem i12 20) (i12 / 20) z f).bind fun x3 =>
      if x3 = 0 then
        g_L_comes_b273 i6 i13 z f
      else
        g_L_comes_b277 i6 i13 z f
set_option maxRecDepth 100000 in
set_option maxHeartbeats 4000000 in
theorem e_L_comes_b223 {r : LWd} (i6 : Int32) (i12 : Int32) (i13 : Int32) (z f : Nat → Nat → Int32) : m_L_comes_b223 69 70 71 74 i6 i12 i13 (wA z f r) = (g_L_comes_b223 i6 i12 i13 z f).map (fun q => wA q.1 q.2 r) := by
  unfold m_L_comes_b223 g_L_comes_b223
  refine iteE (fun _ => ?_) (fun _ => ?_)
  · exact e_L_comes_b273 _ _  _ _
  · refine caP (e_L_isNear) (fun x1 => ?_)
    refine iteE (fun _ => ?_) (fun _ => ?_)
    · exact e_L_comes_b277 _ _  _ _
    · refine opS (aI_74.trans (ixl_8 _)) ?_
      refine caP (e_L_isTaken) (fun x3 => ?_)
      refine iteE (fun _ => ?_) (fun _ => ?_)
      · exact e_L_comes_b273 _ _  _ _
      · exact e_L_comes_b277 _ _  _ _
def g_L_comes_b192 (i6 : Int32) (i9 : Int32) (i12 : Int32) (s0 : Int32) (z f : Nat → Nat → Int32) : Option ((Nat → Nat → Int32) × (Nat → Nat → Int32)) :=
  if i12 < 0 then
    g_L_comes_b223 i6 i12 s0 z f
  else
    bn2 (g_L_breaks 3 i9 z f) fun z1 u2 =>
    (g_L_four 50 66 i12 u2).bind fun x3 =>
    (g_L_sets 50 66 (400 + i12) x3 u2).bind fun u4 =>
    g_L_comes_b223 i6 i12 s0 z1 u4
set_option maxRecDepth 100000 in
set_option maxHeartbeats 4000000 in
theorem e_L_comes_b192 {r : LWd} (i6 : Int32) (i9 : Int32) (i12 : Int32) (s0 : Int32) (z f : Nat → Nat → Int32) : m_L_comes_b192 66 69 70 71 74 i6 i9 i12 s0 (wA z f r) = (g_L_comes_b192 i6 i9 i12 s0 z f).map (fun q => wA q.1 q.2 r) := by
  unfold m_L_comes_b192 g_L_comes_b192
  refine iteE (fun _ => ?_) (fun _ => ?_)
  · exact e_L_comes_b223 _ _ _  _ _
  · refine caU (e_L_breaks) (fun _ _ => wA_len) (fun z1 u2 => ?_)
    refine caP (e_L_four lwr_66) (fun x3 => ?_)
    refine caUs (e_L_sets (fun _ => lwr_66)) (fun u4 => ?_)
    exact e_L_comes_b223 _ _ _  _ _
def g_L_comes_b172 (k72 : Int32 → Int32 → Int32 → Int32 → Int32 → Int32 → Int32 → (Nat → Nat → Int32) → (Nat → Nat → Int32) → Option ((Nat → Nat → Int32) × (Nat → Nat → Int32))) (i6 : Int32) (i7 : Int32) (i8 : Int32) (i9 : Int32) (i10 : Int32) (i13 : Int32) (s0 : Int32) (z f : Nat → Nat → Int32) : Option ((Nat → Nat → Int32) × (Nat → Nat → Int32)) :=
  k72 i6 i7 i8 i9 i10 s0 (i13 + 1) z f
set_option maxRecDepth 100000 in
set_option maxHeartbeats 4000000 in
theorem e_L_comes_b172 {r : LWd} {k72 : Nat → Nat → Nat → Nat → Nat → Nat → Int32 → Int32 → Int32 → Int32 → Int32 → Int32 → Int32 → LWd → Option LWd} {kg72 : Int32 → Int32 → Int32 → Int32 → Int32 → Int32 → Int32 → (Nat → Nat → Int32) → (Nat → Nat → Int32) → Option ((Nat → Nat → Int32) × (Nat → Nat → Int32))} (hk72 : ∀ (i6 : Int32) (i7 : Int32) (i8 : Int32) (i9 : Int32) (i10 : Int32) (i12 : Int32) (i13 : Int32) (z f : Nat → Nat → Int32), k72 66 67 69 70 71 74 i6 i7 i8 i9 i10 i12 i13 (wA z f r) = (kg72 i6 i7 i8 i9 i10 i12 i13 z f).map (fun q => wA q.1 q.2 r)) (i6 : Int32) (i7 : Int32) (i8 : Int32) (i9 : Int32) (i10 : Int32) (i13 : Int32) (s0 : Int32) (z f : Nat → Nat → Int32) : m_L_comes_b172 k72 66 67 69 70 71 74 i6 i7 i8 i9 i10 i13 s0 (wA z f r) = (g_L_comes_b172 kg72 i6 i7 i8 i9 i10 i13 s0 z f).map (fun q => wA q.1 q.2 r) := by
  unfold m_L_comes_b172 g_L_comes_b172
  exact hk72 _ _ _ _ _ _ _  _ _
def g_L_comes_b170 (k72 : Int32 → Int32 → Int32 → Int32 → Int32 → Int32 → Int32 → (Nat → Nat → Int32) → (Nat → Nat → Int32) → Option ((Nat → Nat → Int32) × (Nat → Nat → Int32))) (i6 : Int32) (i7 : Int32) (i8 : Int32) (i9 : Int32) (i10 : Int32) (i12 : Int32) (i13 : Int32) (z f : Nat → Nat → Int32) : Option ((Nat → Nat → Int32) × (Nat → Nat → Int32)) :=
  g_L_comes_b172 k72 i6 i7 i8 i9 i10 i13 i12 z f
set_option maxRecDepth 100000 in
set_option maxHeartbeats 4000000 in
theorem e_L_comes_b170 {r : LWd} {k72 : Nat → Nat → Nat → Nat → Nat → Nat → Int32 → Int32 → Int32 → Int32 → Int32 → Int32 → Int32 → LWd → Option LWd} {kg72 : Int32 → Int32 → Int32 → Int32 → Int32 → Int32 → Int32 → (Nat → Nat → Int32) → (Nat → Nat → Int32) → Option ((Nat → Nat → Int32) × (Nat → Nat → Int32))} (hk72 : ∀ (i6 : Int32) (i7 : Int32) (i8 : Int32) (i9 : Int32) (i10 : Int32) (i12 : Int32) (i13 : Int32) (z f : Nat → Nat → Int32), k72 66 67 69 70 71 74 i6 i7 i8 i9 i10 i12 i13 (wA z f r) = (kg72 i6 i7 i8 i9 i10 i12 i13 z f).map (fun q => wA q.1 q.2 r)) (i6 : Int32) (i7 : Int32) (i8 : Int32) (i9 : Int32) (i10 : Int32) (i12 : Int32) (i13 : Int32) (z f : Nat → Nat → Int32) : m_L_comes_b170 k72 66 67 69 70 71 74 i6 i7 i8 i9 i10 i12 i13 (wA z f r) = (g_L_comes_b170 kg72 i6 i7 i8 i9 i10 i12 i13 z f).map (fun q => wA q.1 q.2 r) := by
  unfold m_L_comes_b170 g_L_comes_b170
  exact e_L_comes_b172 (hk72 := hk72) _ _ _ _ _ _ _  _ _
def g_L_comes_b165 (k72 : Int32 → Int32 → Int32 → Int32 → Int32 → Int32 → Int32 → (Nat → Nat → Int32) → (Nat → Nat → Int32) → Option ((Nat → Nat → Int32) × (Nat → Nat → Int32))) (i6 : Int32) (i7 : Int32) (i8 : Int32) (i9 : Int32) (i10 : Int32) (i13 : Int32) (z f : Nat → Nat → Int32) : Option ((Nat → Nat → Int32) × (Nat → Nat → Int32)) :=
  g_L_comes_b172 k72 i6 i7 i8 i9 i10 i13 i13 z f
set_option maxRecDepth 100000 in
set_option maxHeartbeats 4000000 in
theorem e_L_comes_b165 {r : LWd} {k72 : Nat → Nat → Nat → Nat → Nat → Nat → Int32 → Int32 → Int32 → Int32 → Int32 → Int32 → Int32 → LWd → Option LWd} {kg72 : Int32 → Int32 → Int32 → Int32 → Int32 → Int32 → Int32 → (Nat → Nat → Int32) → (Nat → Nat → Int32) → Option ((Nat → Nat → Int32) × (Nat → Nat → Int32))} (hk72 : ∀ (i6 : Int32) (i7 : Int32) (i8 : Int32) (i9 : Int32) (i10 : Int32) (i12 : Int32) (i13 : Int32) (z f : Nat → Nat → Int32), k72 66 67 69 70 71 74 i6 i7 i8 i9 i10 i12 i13 (wA z f r) = (kg72 i6 i7 i8 i9 i10 i12 i13 z f).map (fun q => wA q.1 q.2 r)) (i6 : Int32) (i7 : Int32) (i8 : Int32) (i9 : Int32) (i10 : Int32) (i13 : Int32) (z f : Nat → Nat → Int32) : m_L_comes_b165 k72 66 67 69 70 71 74 i6 i7 i8 i9 i10 i13 (wA z f r) = (g_L_comes_b165 kg72 i6 i7 i8 i9 i10 i13 z f).map (fun q => wA q.1 q.2 r) := by
  unfold m_L_comes_b165 g_L_comes_b165
  exact e_L_comes_b172 (hk72 := hk72) _ _ _ _ _ _ _  _ _
def g_L_comes_b138 (k72 : Int32 → Int32 → Int32 → Int32 → Int32 → Int32 → Int32 → (Nat → Nat → Int32) → (Nat → Nat → Int32) → Option ((Nat → Nat → Int32) × (Nat → Nat → Int32))) (i6 : Int32) (i7 : Int32) (i8 : Int32) (i9 : Int32) (i10 : Int32) (i12 : Int32) (i13 : Int32) (s0 : Int32) (z f : Nat → Nat → Int32) : Option ((Nat → Nat → Int32) × (Nat → Nat → Int32)) :=
  if s0 = 0 then
    g_L_comes_b170 k72 i6 i7 i8 i9 i10 i12 i13 z f
  else
    if i12 < 0 then
      g_L_comes_b165 k72 i6 i7 i8 i9 i10 i13 z f
    else
      (g_L_four 50 66 i13 f).bind fun x1 =>
      (g_L_four 50 66 i12 f).bind fun x2 =>
      if x2 ≤ x1 then
        g_L_comes_b170 k72 i6 i7 i8 i9 i10 i12 i13 z f
      else
        g_L_comes_b165 k72 i6 i7 i8 i9 i10 i13 z f
set_option maxRecDepth 100000 in
set_option maxHeartbeats 4000000 in
theorem e_L_comes_b138 {r : LWd} {k72 : Nat → Nat → Nat → Nat → Nat → Nat → Int32 → Int32 → Int32 → Int32 → Int32 → Int32 → Int32 → LWd → Option LWd} {kg72 : Int32 → Int32 → Int32 → Int32 → Int32 → Int32 → Int32 → (Nat → Nat → Int32) → (Nat → Nat → Int32) → Option ((Nat → Nat → Int32) × (Nat → Nat → Int32))} (hk72 : ∀ (i6 : Int32) (i7 : Int32) (i8 : Int32) (i9 : Int32) (i10 : Int32) (i12 : Int32) (i13 : Int32) (z f : Nat → Nat → Int32), k72 66 67 69 70 71 74 i6 i7 i8 i9 i10 i12 i13 (wA z f r) = (kg72 i6 i7 i8 i9 i10 i12 i13 z f).map (fun q => wA q.1 q.2 r)) (i6 : Int32) (i7 : Int32) (i8 : Int32) (i9 : Int32) (i10 : Int32) (i12 : Int32) (i13 : Int32) (s0 : Int32) (z f : Nat → Nat → Int32) : m_L_comes_b138 k72 66 67 69 70 71 74 i6 i7 i8 i9 i10 i12 i13 s0 (wA z f r) = (g_L_comes_b138 kg72 i6 i7 i8 i9 i10 i12 i13 s0 z f).map (fun q => wA q.1 q.2 r) := by
  unfold m_L_comes_b138 g_L_comes_b138
  refine iteE (fun _ => ?_) (fun _ => ?_)
  · exact e_L_comes_b170 (hk72 := hk72) _ _ _ _ _ _ _  _ _
  · refine iteE (fun _ => ?_) (fun _ => ?_)
    · exact e_L_comes_b165 (hk72 := hk72) _ _ _ _ _ _  _ _
    · refine caP (e_L_four lwr_66) (fun x1 => ?_)
      refine caP (e_L_four lwr_66) (fun x2 => ?_)
      refine iteE (fun _ => ?_) (fun _ => ?_)
      · exact e_L_comes_b170 (hk72 := hk72) _ _ _ _ _ _ _  _ _
      · exact e_L_comes_b165 (hk72 := hk72) _ _ _ _ _ _  _ _
def g_L_comes_b137 (k72 : Int32 → Int32 → Int32 → Int32 → Int32 → Int32 → Int32 → (Nat → Nat → Int32) → (Nat → Nat → Int32) → Option ((Nat → Nat → Int32) × (Nat → Nat → Int32))) (i6 : Int32) (i7 : Int32) (i8 : Int32) (i9 : Int32) (i10 : Int32) (i12 : Int32) (i13 : Int32) (z f : Nat → Nat → Int32) : Option ((Nat → Nat → Int32) × (Nat → Nat → Int32)) :=
  g_L_comes_b138 k72 i6 i7 i8 i9 i10 i12 i13 0 z f
set_option maxRecDepth 100000 in
set_option maxHeartbeats 4000000 in
theorem e_L_comes_b137 {r : LWd} {k72 : Nat → Nat → Nat → Nat → Nat → Nat → Int32 → Int32 → Int32 → Int32 → Int32 → Int32 → Int32 → LWd → Option LWd} {kg72 : Int32 → Int32 → Int32 → Int32 → Int32 → Int32 → Int32 → (Nat → Nat → Int32) → (Nat → Nat → Int32) → Option ((Nat → Nat → Int32) × (Nat → Nat → Int32))} (hk72 : ∀ (i6 : Int32) (i7 : Int32) (i8 : Int32) (i9 : Int32) (i10 : Int32) (i12 : Int32) (i13 : Int32) (z f : Nat → Nat → Int32), k72 66 67 69 70 71 74 i6 i7 i8 i9 i10 i12 i13 (wA z f r) = (kg72 i6 i7 i8 i9 i10 i12 i13 z f).map (fun q => wA q.1 q.2 r)) (i6 : Int32) (i7 : Int32) (i8 : Int32) (i9 : Int32) (i10 : Int32) (i12 : Int32) (i13 : Int32) (z f : Nat → Nat → Int32) : m_L_comes_b137 k72 66 67 69 70 71 74 i6 i7 i8 i9 i10 i12 i13 (wA z f r) = (g_L_comes_b137 kg72 i6 i7 i8 i9 i10 i12 i13 z f).map (fun q => wA q.1 q.2 r) := by
  unfold m_L_comes_b137 g_L_comes_b137
  exact e_L_comes_b138 (hk72 := hk72) _ _ _ _ _ _ _ _  _ _
def g_L_comes_l72 : Nat → Int32 → Int32 → Int32 → Int32 → Int32 → Int32 → Int32 → (Nat → Nat → Int32) → (Nat → Nat → Int32) → Option ((Nat → Nat → Int32) × (Nat → Nat → Int32))
  | 0, _, _, _, _, _, _, _, _, _ => none
  | fu + 1, i6, i7, i8, i9, i10, i12, i13, z, f =>
    if 400 ≤ i13 then
      if 0 ≤ i12 then
        g_L_comes_b192 i6 i9 i12 i12 z f
      else
        g_L_comes_b192 i6 i9 i12 i9 z f
    else
      if ((((jrem i13 20) - i7) * ((jrem i13 20) - i7)) + (((i13 / 20) - i8) * ((i13 / 20) - i8))) = 1 then
        (g_L_four 50 66 i13 f).bind fun x1 =>
        (g_L_four 25 67 i9 f).bind fun x2 =>
        if (i10 - x1) ≤ x2 then
          g_L_comes_b137 (fun y0 y1 y2 y3 y4 y5 y6 z f => g_L_comes_l72 fu y0 y1 y2 y3 y4 y5 y6 z f) i6 i7 i8 i9 i10 i12 i13 z f
        else
          g_L_comes_b138 (fun y0 y1 y2 y3 y4 y5 y6 z f => g_L_comes_l72 fu y0 y1 y2 y3 y4 y5 y6 z f) i6 i7 i8 i9 i10 i12 i13 1 z f
      else
        g_L_comes_b137 (fun y0 y1 y2 y3 y4 y5 y6 z f => g_L_comes_l72 fu y0 y1 y2 y3 y4 y5 y6 z f) i6 i7 i8 i9 i10 i12 i13 z f
set_option maxRecDepth 100000 in
set_option maxHeartbeats 4000000 in
theorem e_L_comes_l72 {r : LWd} : ∀ (fu : Nat) (i6 : Int32) (i7 : Int32) (i8 : Int32) (i9 : Int32) (i10 : Int32) (i12 : Int32) (i13 : Int32) (z f : Nat → Nat → Int32), m_L_comes_l72 fu 66 67 69 70 71 74 i6 i7 i8 i9 i10 i12 i13 (wA z f r) = (g_L_comes_l72 fu i6 i7 i8 i9 i10 i12 i13 z f).map (fun q => wA q.1 q.2 r) := by
  intro fu
  induction fu with
  | zero => intro i6 i7 i8 i9 i10 i12 i13  z f; first | rfl | (rw [m_L_comes_l72, g_L_comes_l72]; rfl)
  | succ fu ih =>
    intro i6 i7 i8 i9 i10 i12 i13  z f
    rw [m_L_comes_l72, g_L_comes_l72]
    refine iteE (fun _ => ?_) (fun _ => ?_)
    · refine iteE (fun _ => ?_) (fun _ => ?_)
      · exact e_L_comes_b192 _ _ _ _  _ _
      · exact e_L_comes_b192 _ _ _ _  _ _
    · refine iteE (fun _ => ?_) (fun _ => ?_)
      · refine caP (e_L_four lwr_66) (fun x1 => ?_)
        refine caP (e_L_four lwr_67) (fun x2 => ?_)
        refine iteE (fun _ => ?_) (fun _ => ?_)
        · exact e_L_comes_b137 (hk72 := ih) _ _ _ _ _ _ _  _ _
        · exact e_L_comes_b138 (hk72 := ih) _ _ _ _ _ _ _ _  _ _
      · exact e_L_comes_b137 (hk72 := ih) _ _ _ _ _ _ _  _ _
def g_L_comes (i6 : Int32) (i7 : Int32) (i8 : Int32) (z f : Nat → Nat → Int32) : Option ((Nat → Nat → Int32) × (Nat → Nat → Int32)) :=
  (g_L_four 50 66 ((20 * i8) + i7) f).bind fun x1 =>
  (g_L_four 50 66 (400 + ((20 * i8) + i7)) f).bind fun x2 =>
  (g_L_sets 50 66 (400 + ((20 * i8) + i7)) x1 f).bind fun u3 =>
  if 1 < (x1 - x2) then
    g_L_comes_b57 ((20 * i8) + i7) z u3
  else
    if ((-1)) ≤ (x1 - x2) then
      g_L_comes_l72 FU i6 i7 i8 ((20 * i8) + i7) x1 ((-1)) 0 z u3
    else
      g_L_comes_b57 ((20 * i8) + i7) z u3
set_option maxRecDepth 100000 in
set_option maxHeartbeats 4000000 in
theorem e_L_comes {r : LWd} {z f : Nat → Nat → Int32} {i6 : Int32} {i7 : Int32} {i8 : Int32} : m_L_comes 66 67 69 70 71 74 i6 i7 i8 (wA z f r) = (g_L_comes i6 i7 i8 z f).map (fun q => wA q.1 q.2 r) := by
  unfold m_L_comes g_L_comes
  refine caP (e_L_four lwr_66) (fun x1 => ?_)
  refine caP (e_L_four lwr_66) (fun x2 => ?_)
  refine caUs (e_L_sets (fun _ => lwr_66)) (fun u3 => ?_)
  refine iteE (fun _ => ?_) (fun _ => ?_)
  · exact e_L_comes_b57 _  _ _
  · refine iteE (fun _ => ?_) (fun _ => ?_)
    · exact e_L_comes_l72 FU _ _ _ _ _ _ _  _ _
    · exact e_L_comes_b57 _  _ _
def g_L_lifts_b56 (i7 : Int32) (s0 : Int32) (z f : Nat → Nat → Int32) : Option (Int32 × (Nat → Nat → Int32) × (Nat → Nat → Int32)) :=
  lt2 (upf f 74 14 0) fun u2 =>
  if s0 = 0 then
    rtZw s0 z u2
  else
    lt2 (upf u2 74 3 ((u2 74 3) - 1)) fun u5 =>
    lt2 (upf u5 74 8 i7) fun u7 =>
    bn2 (g_L_settles  z u7) fun z8 u9 =>
    rtZw s0 z8 u9
set_option maxRecDepth 100000 in
set_option maxHeartbeats 4000000 in
theorem e_L_lifts_b56 {r : LWd} (i7 : Int32) (s0 : Int32) (z f : Nat → Nat → Int32) : m_L_lifts_b56 66 68 70 71 73 74 i7 s0 (wA z f r) = (g_L_lifts_b56 i7 s0 z f).map (fun q => (q.1, wA q.2.1 q.2.2 r)) := by
  unfold m_L_lifts_b56 g_L_lifts_b56
  refine opS (sI_74.trans (ixl_14 _)) ?_
  refine ltE ?_
  refine iteE (fun _ => ?_) (fun _ => ?_)
  · exact reZw
  · refine opS (aI_74.trans (ixl_3 _)) ?_
    refine opS (sI_74.trans (ixl_3 _)) ?_
    refine ltE ?_
    refine opS (sI_74.trans (ixl_8 _)) ?_
    refine ltE ?_
    refine caU (e_L_settles) (fun _ _ => wA_len) (fun z8 u9 => ?_)
    exact reZw
def g_L_lifts_b55 (i7 : Int32) (z f : Nat → Nat → Int32) : Option (Int32 × (Nat → Nat → Int32) × (Nat → Nat → Int32)) :=
  g_L_lifts_b56 i7 0 z f
set_option maxRecDepth 100000 in
set_option maxHeartbeats 4000000 in
theorem e_L_lifts_b55 {r : LWd} (i7 : Int32) (z f : Nat → Nat → Int32) : m_L_lifts_b55 66 68 70 71 73 74 i7 (wA z f r) = (g_L_lifts_b55 i7 z f).map (fun q => (q.1, wA q.2.1 q.2.2 r)) := by
  unfold m_L_lifts_b55 g_L_lifts_b55
  exact e_L_lifts_b56 _ _  _ _
def g_L_lifts (i6 : Int32) (z f : Nat → Nat → Int32) : Option (Int32 × (Nat → Nat → Int32) × (Nat → Nat → Int32)) :=
  if (f 74 0) = 1 then
    if ((f 74 8) &&& ((1 <<< (i6 &&& 31)) ^^^ ((-1)))) = (f 74 8) then
      g_L_lifts_b55 ((f 74 8) &&& ((1 <<< (i6 &&& 31)) ^^^ ((-1)))) z f
    else
      if (f 74 3) ≤ 0 then
        g_L_lifts_b55 ((f 74 8) &&& ((1 <<< (i6 &&& 31)) ^^^ ((-1)))) z f
      else
        (g_L_holds ((f 74 8) &&& ((1 <<< (i6 &&& 31)) ^^^ ((-1)))) z f).bind fun x5 =>
        if x5 = 0 then
          g_L_lifts_b55 ((f 74 8) &&& ((1 <<< (i6 &&& 31)) ^^^ ((-1)))) z f
        else
          g_L_lifts_b56 ((f 74 8) &&& ((1 <<< (i6 &&& 31)) ^^^ ((-1)))) 1 z f
  else
    g_L_lifts_b55 ((f 74 8) &&& ((1 <<< (i6 &&& 31)) ^^^ ((-1)))) z f
set_option maxRecDepth 100000 in
set_option maxHeartbeats 4000000 in
theorem e_L_lifts {r : LWd} {z f : Nat → Nat → Int32} {i6 : Int32} : m_L_lifts 66 68 70 71 73 74 i6 (wA z f r) = (g_L_lifts i6 z f).map (fun q => (q.1, wA q.2.1 q.2.2 r)) := by
  unfold m_L_lifts g_L_lifts
  refine opS (aI_74.trans (ixl_8 _)) ?_
  refine opS (aI_74.trans (ixl_0 _)) ?_
  refine iteE (fun _ => ?_) (fun _ => ?_)
  · refine opS (aI_74.trans (ixl_8 _)) ?_
    refine iteE (fun _ => ?_) (fun _ => ?_)
    · exact e_L_lifts_b55 _  _ _
    · refine opS (aI_74.trans (ixl_3 _)) ?_
      refine iteE (fun _ => ?_) (fun _ => ?_)
      · exact e_L_lifts_b55 _  _ _
      · refine caP (e_L_holds) (fun x5 => ?_)
        refine iteE (fun _ => ?_) (fun _ => ?_)
        · exact e_L_lifts_b55 _  _ _
        · exact e_L_lifts_b56 _ _  _ _
  · exact e_L_lifts_b55 _  _ _
def g_L_places_b130 (i8 : Int32) (i9 : Int32) (i10 : Int32) (i12 : Int32) (s0 : Int32) (z f : Nat → Nat → Int32) : Option (Int32 × (Nat → Nat → Int32) × (Nat → Nat → Int32)) :=
  lt2 (upf f 74 14 0) fun u2 =>
  if s0 = 0 then
    rtZw s0 z u2
  else
    lt2 (upf u2 74 3 ((u2 74 3) - i12)) fun u5 =>
    bn2 (g_L_comes i8 i9 i10 z u5) fun z6 u7 =>
    bn2 (g_L_settles  z6 u7) fun z8 u9 =>
    rtZw s0 z8 u9
set_option maxRecDepth 100000 in
set_option maxHeartbeats 4000000 in
theorem e_L_places_b130 {r : LWd} (i8 : Int32) (i9 : Int32) (i10 : Int32) (i12 : Int32) (s0 : Int32) (z f : Nat → Nat → Int32) : m_L_places_b130 66 67 68 69 70 71 73 74 i8 i9 i10 i12 s0 (wA z f r) = (g_L_places_b130 i8 i9 i10 i12 s0 z f).map (fun q => (q.1, wA q.2.1 q.2.2 r)) := by
  unfold m_L_places_b130 g_L_places_b130
  refine opS (sI_74.trans (ixl_14 _)) ?_
  refine ltE ?_
  refine iteE (fun _ => ?_) (fun _ => ?_)
  · exact reZw
  · refine opS (aI_74.trans (ixl_3 _)) ?_
    refine opS (sI_74.trans (ixl_3 _)) ?_
    refine ltE ?_
    refine caU (e_L_comes) (fun _ _ => wA_len) (fun z6 u7 => ?_)
    refine caU (e_L_settles) (fun _ _ => wA_len) (fun z8 u9 => ?_)
    exact reZw
def g_L_places_b129 (i8 : Int32) (i9 : Int32) (i10 : Int32) (i12 : Int32) (z f : Nat → Nat → Int32) : Option (Int32 × (Nat → Nat → Int32) × (Nat → Nat → Int32)) :=
  g_L_places_b130 i8 i9 i10 i12 0 z f
set_option maxRecDepth 100000 in
set_option maxHeartbeats 4000000 in
theorem e_L_places_b129 {r : LWd} (i8 : Int32) (i9 : Int32) (i10 : Int32) (i12 : Int32) (z f : Nat → Nat → Int32) : m_L_places_b129 66 67 68 69 70 71 73 74 i8 i9 i10 i12 (wA z f r) = (g_L_places_b129 i8 i9 i10 i12 z f).map (fun q => (q.1, wA q.2.1 q.2.2 r)) := by
  unfold m_L_places_b129 g_L_places_b129
  exact e_L_places_b130 _ _ _ _ _  _ _
def g_L_places (i8 : Int32) (i9 : Int32) (i10 : Int32) (z f : Nat → Nat → Int32) : Option (Int32 × (Nat → Nat → Int32) × (Nat → Nat → Int32)) :=
  (g_L_four 50 66 ((400 + (20 * i10)) + i9) f).bind fun x1 =>
  (g_L_level (f 74 8) z f).bind fun x3 =>
  (g_L_far i8 i9 i10 z f).bind fun x4 =>
  if (f 74 0) = 1 then
    if (((f 74 8) >>> (i8 &&& 31)) &&& 1) = 0 then
      if (f 74 3) < (1 + x4) then
        g_L_places_b129 i8 i9 i10 (1 + x4) z f
      else
        (g_L_isNear i8 i9 i10 z f).bind fun x8 =>
        if x8 = 0 then
          g_L_places_b129 i8 i9 i10 (1 + x4) z f
        else
          (g_L_isTaken (f 74 8) i9 i10 z f).bind fun x10 =>
          if x10 = 0 then
            if 3 ≤ (x1 - x3) then
              g_L_places_b129 i8 i9 i10 (1 + x4) z f
            else
              if (x1 - x3) ≤ ((-3)) then
                g_L_places_b129 i8 i9 i10 (1 + x4) z f
              else
                g_L_places_b130 i8 i9 i10 (1 + x4) 1 z f
          else
            g_L_places_b129 i8 i9 i10 (1 + x4) z f
    else
      g_L_places_b129 i8 i9 i10 (1 + x4) z f
  else
    g_L_places_b129 i8 i9 i10 (1 + x4) z f
set_option maxRecDepth 100000 in
set_option maxHeartbeats 4000000 in
theorem e_L_places {r : LWd} {z f : Nat → Nat → Int32} {i8 : Int32} {i9 : Int32} {i10 : Int32} : m_L_places 66 67 68 69 70 71 73 74 i8 i9 i10 (wA z f r) = (g_L_places i8 i9 i10 z f).map (fun q => (q.1, wA q.2.1 q.2.2 r)) := by
  unfold m_L_places g_L_places
  refine caP (e_L_four lwr_66) (fun x1 => ?_)
  refine opS (aI_74.trans (ixl_8 _)) ?_
  refine caP (e_L_level) (fun x3 => ?_)
  refine caP (e_L_far) (fun x4 => ?_)
  refine opS (aI_74.trans (ixl_0 _)) ?_
  refine iteE (fun _ => ?_) (fun _ => ?_)
  · refine opS (aI_74.trans (ixl_8 _)) ?_
    refine iteE (fun _ => ?_) (fun _ => ?_)
    · refine opS (aI_74.trans (ixl_3 _)) ?_
      refine iteE (fun _ => ?_) (fun _ => ?_)
      · exact e_L_places_b129 _ _ _ _  _ _
      · refine caP (e_L_isNear) (fun x8 => ?_)
        refine iteE (fun _ => ?_) (fun _ => ?_)
        · exact e_L_places_b129 _ _ _ _  _ _
        · refine opS (aI_74.trans (ixl_8 _)) ?_
          refine caP (e_L_isTaken) (fun x10 => ?_)
          refine iteE (fun _ => ?_) (fun _ => ?_)
          · refine iteE (fun _ => ?_) (fun _ => ?_)
            · exact e_L_places_b129 _ _ _ _  _ _
            · refine iteE (fun _ => ?_) (fun _ => ?_)
              · exact e_L_places_b129 _ _ _ _  _ _
              · exact e_L_places_b130 _ _ _ _ _  _ _
          · exact e_L_places_b129 _ _ _ _  _ _
    · exact e_L_places_b129 _ _ _ _  _ _
  · exact e_L_places_b129 _ _ _ _  _ _
def g_L_canShift_b107 (k58 : Int32 → Int32 → Int32 → Int32 → (Nat → Nat → Int32) → (Nat → Nat → Int32) → Option (Int32 × (Nat → Nat → Int32) × (Nat → Nat → Int32))) (i4 : Int32) (i5 : Int32) (i7 : Int32) (s0 : Int32) (z f : Nat → Nat → Int32) : Option (Int32 × (Nat → Nat → Int32) × (Nat → Nat → Int32)) :=
  k58 i4 i5 s0 (i7 + 1) z f
set_option maxRecDepth 100000 in
set_option maxHeartbeats 4000000 in
theorem e_L_canShift_b107 {r : LWd} {k58 : Nat → Nat → Nat → Nat → Int32 → Int32 → Int32 → Int32 → LWd → Option (Int32 × LWd)} {kg58 : Int32 → Int32 → Int32 → Int32 → (Nat → Nat → Int32) → (Nat → Nat → Int32) → Option (Int32 × (Nat → Nat → Int32) × (Nat → Nat → Int32))} (hk58 : ∀ (i4 : Int32) (i5 : Int32) (i6 : Int32) (i7 : Int32) (z f : Nat → Nat → Int32), k58 69 70 71 74 i4 i5 i6 i7 (wA z f r) = (kg58 i4 i5 i6 i7 z f).map (fun q => (q.1, wA q.2.1 q.2.2 r))) (i4 : Int32) (i5 : Int32) (i7 : Int32) (s0 : Int32) (z f : Nat → Nat → Int32) : m_L_canShift_b107 k58 69 70 71 74 i4 i5 i7 s0 (wA z f r) = (g_L_canShift_b107 kg58 i4 i5 i7 s0 z f).map (fun q => (q.1, wA q.2.1 q.2.2 r)) := by
  unfold m_L_canShift_b107 g_L_canShift_b107
  exact hk58 _ _ _ _  _ _
def g_L_canShift_b106 (k58 : Int32 → Int32 → Int32 → Int32 → (Nat → Nat → Int32) → (Nat → Nat → Int32) → Option (Int32 × (Nat → Nat → Int32) × (Nat → Nat → Int32))) (i4 : Int32) (i5 : Int32) (i7 : Int32) (z f : Nat → Nat → Int32) : Option (Int32 × (Nat → Nat → Int32) × (Nat → Nat → Int32)) :=
  g_L_canShift_b107 k58 i4 i5 i7 0 z f
set_option maxRecDepth 100000 in
set_option maxHeartbeats 4000000 in
theorem e_L_canShift_b106 {r : LWd} {k58 : Nat → Nat → Nat → Nat → Int32 → Int32 → Int32 → Int32 → LWd → Option (Int32 × LWd)} {kg58 : Int32 → Int32 → Int32 → Int32 → (Nat → Nat → Int32) → (Nat → Nat → Int32) → Option (Int32 × (Nat → Nat → Int32) × (Nat → Nat → Int32))} (hk58 : ∀ (i4 : Int32) (i5 : Int32) (i6 : Int32) (i7 : Int32) (z f : Nat → Nat → Int32), k58 69 70 71 74 i4 i5 i6 i7 (wA z f r) = (kg58 i4 i5 i6 i7 z f).map (fun q => (q.1, wA q.2.1 q.2.2 r))) (i4 : Int32) (i5 : Int32) (i7 : Int32) (z f : Nat → Nat → Int32) : m_L_canShift_b106 k58 69 70 71 74 i4 i5 i7 (wA z f r) = (g_L_canShift_b106 kg58 i4 i5 i7 z f).map (fun q => (q.1, wA q.2.1 q.2.2 r)) := by
  unfold m_L_canShift_b106 g_L_canShift_b106
  exact e_L_canShift_b107 (hk58 := hk58) _ _ _ _  _ _
def g_L_canShift_b102 (k58 : Int32 → Int32 → Int32 → Int32 → (Nat → Nat → Int32) → (Nat → Nat → Int32) → Option (Int32 × (Nat → Nat → Int32) × (Nat → Nat → Int32))) (i4 : Int32) (i5 : Int32) (i7 : Int32) (z f : Nat → Nat → Int32) : Option (Int32 × (Nat → Nat → Int32) × (Nat → Nat → Int32)) :=
  g_L_canShift_b107 k58 i4 i5 i7 1 z f
set_option maxRecDepth 100000 in
set_option maxHeartbeats 4000000 in
theorem e_L_canShift_b102 {r : LWd} {k58 : Nat → Nat → Nat → Nat → Int32 → Int32 → Int32 → Int32 → LWd → Option (Int32 × LWd)} {kg58 : Int32 → Int32 → Int32 → Int32 → (Nat → Nat → Int32) → (Nat → Nat → Int32) → Option (Int32 × (Nat → Nat → Int32) × (Nat → Nat → Int32))} (hk58 : ∀ (i4 : Int32) (i5 : Int32) (i6 : Int32) (i7 : Int32) (z f : Nat → Nat → Int32), k58 69 70 71 74 i4 i5 i6 i7 (wA z f r) = (kg58 i4 i5 i6 i7 z f).map (fun q => (q.1, wA q.2.1 q.2.2 r))) (i4 : Int32) (i5 : Int32) (i7 : Int32) (z f : Nat → Nat → Int32) : m_L_canShift_b102 k58 69 70 71 74 i4 i5 i7 (wA z f r) = (g_L_canShift_b102 kg58 i4 i5 i7 z f).map (fun q => (q.1, wA q.2.1 q.2.2 r)) := by
  unfold m_L_canShift_b102 g_L_canShift_b102
  exact e_L_canShift_b107 (hk58 := hk58) _ _ _ _  _ _
def g_L_canShift_l58 : Nat → Int32 → Int32 → Int32 → Int32 → (Nat → Nat → Int32) → (Nat → Nat → Int32) → Option (Int32 × (Nat → Nat → Int32) × (Nat → Nat → Int32))
  | 0, _, _, _, _, _, _ => none
  | fu + 1, i4, i5, i6, i7, z, f =>
    if (f 74 7) ≤ i7 then
      lt2 (upf f 74 1 ((f 74 1) - i4)) fun u4 =>
      lt2 (upf u4 74 2 ((u4 74 2) - i5)) fun u7 =>
      rtZw i6 z u7
    else
      if i6 = 0 then
        g_L_canShift_b106 (fun y0 y1 y2 y3 z f => g_L_canShift_l58 fu y0 y1 y2 y3 z f) i4 i5 i7 z f
      else
        if (((f 74 8) >>> (i7 &&& 31)) &&& 1) = 0 then
          g_L_canShift_b102 (fun y0 y1 y2 y3 z f => g_L_canShift_l58 fu y0 y1 y2 y3 z f) i4 i5 i7 z f
        else
          (ixA 6 i7).bind fun j9 =>
          (ixA 6 i7).bind fun j10 =>
          (g_L_isNear i7 (f 70 j9) (f 71 j10) z f).bind fun x11 =>
          if x11 = 0 then
            g_L_canShift_b106 (fun y0 y1 y2 y3 z f => g_L_canShift_l58 fu y0 y1 y2 y3 z f) i4 i5 i7 z f
          else
            g_L_canShift_b102 (fun y0 y1 y2 y3 z f => g_L_canShift_l58 fu y0 y1 y2 y3 z f) i4 i5 i7 z f
set_option maxRecDepth 100000 in
set_option maxHeartbeats 4000000 in
theorem e_L_canShift_l58 {r : LWd} : ∀ (fu : Nat) (i4 : Int32) (i5 : Int32) (i6 : Int32) (i7 : Int32) (z f : Nat → Nat → Int32), m_L_canShift_l58 fu 69 70 71 74 i4 i5 i6 i7 (wA z f r) = (g_L_canShift_l58 fu i4 i5 i6 i7 z f).map (fun q => (q.1, wA q.2.1 q.2.2 r)) := by
  intro fu
  induction fu with
  | zero => intro i4 i5 i6 i7  z f; first | rfl | (rw [m_L_canShift_l58, g_L_canShift_l58]; rfl)
  | succ fu ih =>
    intro i4 i5 i6 i7  z f
    rw [m_L_canShift_l58, g_L_canShift_l58]
    refine opS (aI_74.trans (ixl_7 _)) ?_
    refine iteE (fun _ => ?_) (fun _ => ?_)
    · refine opS (aI_74.trans (ixl_1 _)) ?_
      refine opS (sI_74.trans (ixl_1 _)) ?_
      refine ltE ?_
      refine opS (aI_74.trans (ixl_2 _)) ?_
      refine opS (sI_74.trans (ixl_2 _)) ?_
      refine ltE ?_
      exact reZw
    · refine iteE (fun _ => ?_) (fun _ => ?_)
      · exact e_L_canShift_b106 (hk58 := ih) _ _ _  _ _
      · refine opS (aI_74.trans (ixl_8 _)) ?_
        refine iteE (fun _ => ?_) (fun _ => ?_)
        · exact e_L_canShift_b102 (hk58 := ih) _ _ _  _ _
        · refine opM aI_70 (fun j9 hj9 => ?_)
          refine opM aI_71 (fun j10 hj10 => ?_)
          refine caP (e_L_isNear) (fun x11 => ?_)
          refine iteE (fun _ => ?_) (fun _ => ?_)
          · exact e_L_canShift_b106 (hk58 := ih) _ _ _  _ _
          · exact e_L_canShift_b102 (hk58 := ih) _ _ _  _ _
def g_L_canShift_b53 (i4 : Int32) (i5 : Int32) (s0 : Int32) (z f : Nat → Nat → Int32) : Option (Int32 × (Nat → Nat → Int32) × (Nat → Nat → Int32)) :=
  g_L_canShift_l58 FU i4 i5 s0 0 z f
set_option maxRecDepth 100000 in
set_option maxHeartbeats 4000000 in
theorem e_L_canShift_b53 {r : LWd} (i4 : Int32) (i5 : Int32) (s0 : Int32) (z f : Nat → Nat → Int32) : m_L_canShift_b53 69 70 71 74 i4 i5 s0 (wA z f r) = (g_L_canShift_b53 i4 i5 s0 z f).map (fun q => (q.1, wA q.2.1 q.2.2 r)) := by
  unfold m_L_canShift_b53 g_L_canShift_b53
  exact e_L_canShift_l58 FU _ _ _ _  _ _
def g_L_canShift_b52 (i4 : Int32) (i5 : Int32) (z f : Nat → Nat → Int32) : Option (Int32 × (Nat → Nat → Int32) × (Nat → Nat → Int32)) :=
  g_L_canShift_b53 i4 i5 0 z f
set_option maxRecDepth 100000 in
set_option maxHeartbeats 4000000 in
theorem e_L_canShift_b52 {r : LWd} (i4 : Int32) (i5 : Int32) (z f : Nat → Nat → Int32) : m_L_canShift_b52 69 70 71 74 i4 i5 (wA z f r) = (g_L_canShift_b52 i4 i5 z f).map (fun q => (q.1, wA q.2.1 q.2.2 r)) := by
  unfold m_L_canShift_b52 g_L_canShift_b52
  exact e_L_canShift_b53 _ _ _  _ _
def g_L_canShift (i4 : Int32) (i5 : Int32) (z f : Nat → Nat → Int32) : Option (Int32 × (Nat → Nat → Int32) × (Nat → Nat → Int32)) :=
  lt2 (upf f 74 1 ((f 74 1) + i4)) fun u3 =>
  lt2 (upf u3 74 2 ((u3 74 2) + i5)) fun u6 =>
  if (u6 74 0) = 1 then
    (g_L_isIn (u6 74 1) (u6 74 2) z u6).bind fun x10 =>
    if x10 = 0 then
      g_L_canShift_b52 i4 i5 z u6
    else
      (g_L_holds (u6 74 8) z u6).bind fun x12 =>
      if x12 = 0 then
        g_L_canShift_b52 i4 i5 z u6
      else
        g_L_canShift_b53 i4 i5 1 z u6
  else
    g_L_canShift_b52 i4 i5 z u6
set_option maxRecDepth 100000 in
set_option maxHeartbeats 4000000 in
theorem e_L_canShift {r : LWd} {z f : Nat → Nat → Int32} {i4 : Int32} {i5 : Int32} : m_L_canShift 69 70 71 74 i4 i5 (wA z f r) = (g_L_canShift i4 i5 z f).map (fun q => (q.1, wA q.2.1 q.2.2 r)) := by
  unfold m_L_canShift g_L_canShift
  refine opS (aI_74.trans (ixl_1 _)) ?_
  refine opS (sI_74.trans (ixl_1 _)) ?_
  refine ltE ?_
  refine opS (aI_74.trans (ixl_2 _)) ?_
  refine opS (sI_74.trans (ixl_2 _)) ?_
  refine ltE ?_
  refine opS (aI_74.trans (ixl_0 _)) ?_
  refine iteE (fun _ => ?_) (fun _ => ?_)
  · refine opS (aI_74.trans (ixl_1 _)) ?_
    refine opS (aI_74.trans (ixl_2 _)) ?_
    refine caP (e_L_isIn) (fun x10 => ?_)
    refine iteE (fun _ => ?_) (fun _ => ?_)
    · exact e_L_canShift_b52 _ _  _ _
    · refine opS (aI_74.trans (ixl_8 _)) ?_
      refine caP (e_L_holds) (fun x12 => ?_)
      refine iteE (fun _ => ?_) (fun _ => ?_)
      · exact e_L_canShift_b52 _ _  _ _
      · exact e_L_canShift_b53 _ _ _  _ _
  · exact e_L_canShift_b52 _ _  _ _
def g_L_shifts_b44 (i7 : Int32) (i8 : Int32) (i9 : Int32) (s0 : Int32) (z f : Nat → Nat → Int32) : Option (Int32 × (Nat → Nat → Int32) × (Nat → Nat → Int32)) :=
  lt2 (upf f 74 14 0) fun u2 =>
  if s0 = 0 then
    rtZw s0 z u2
  else
    lt2 (upf u2 74 3 ((u2 74 3) - i9)) fun u5 =>
    lt2 (upf u5 74 1 ((u5 74 1) + i7)) fun u8 =>
    lt2 (upf u8 74 2 ((u8 74 2) + i8)) fun u11 =>
    bn2 (g_L_settles  z u11) fun z12 u13 =>
    rtZw s0 z12 u13
set_option maxRecDepth 100000 in
set_option maxHeartbeats 4000000 in
theorem e_L_shifts_b44 {r : LWd} (i7 : Int32) (i8 : Int32) (i9 : Int32) (s0 : Int32) (z f : Nat → Nat → Int32) : m_L_shifts_b44 66 68 70 71 73 74 i7 i8 i9 s0 (wA z f r) = (g_L_shifts_b44 i7 i8 i9 s0 z f).map (fun q => (q.1, wA q.2.1 q.2.2 r)) := by
  unfold m_L_shifts_b44 g_L_shifts_b44
  refine opS (sI_74.trans (ixl_14 _)) ?_
  refine ltE ?_
  refine iteE (fun _ => ?_) (fun _ => ?_)
  · exact reZw
  · refine opS (aI_74.trans (ixl_3 _)) ?_
    refine opS (sI_74.trans (ixl_3 _)) ?_
    refine ltE ?_
    refine opS (aI_74.trans (ixl_1 _)) ?_
    refine opS (sI_74.trans (ixl_1 _)) ?_
    refine ltE ?_
    refine opS (aI_74.trans (ixl_2 _)) ?_
    refine opS (sI_74.trans (ixl_2 _)) ?_
    refine ltE ?_
    refine caU (e_L_settles) (fun _ _ => wA_len) (fun z12 u13 => ?_)
    exact reZw
def g_L_shifts_b43 (i7 : Int32) (i8 : Int32) (i9 : Int32) (z f : Nat → Nat → Int32) : Option (Int32 × (Nat → Nat → Int32) × (Nat → Nat → Int32)) :=
  g_L_shifts_b44 i7 i8 i9 0 z f
set_option maxRecDepth 100000 in
set_option maxHeartbeats 4000000 in
theorem e_L_shifts_b43 {r : LWd} (i7 : Int32) (i8 : Int32) (i9 : Int32) (z f : Nat → Nat → Int32) : m_L_shifts_b43 66 68 70 71 73 74 i7 i8 i9 (wA z f r) = (g_L_shifts_b43 i7 i8 i9 z f).map (fun q => (q.1, wA q.2.1 q.2.2 r)) := by
  unfold m_L_shifts_b43 g_L_shifts_b43
  exact e_L_shifts_b44 _ _ _ _  _ _
def g_L_shifts (i7 : Int32) (i8 : Int32) (z f : Nat → Nat → Int32) : Option (Int32 × (Nat → Nat → Int32) × (Nat → Nat → Int32)) :=
  bn3 (g_L_canShift i7 i8 z f) fun x2 z3 u4 =>
  if x2 = 0 then
    g_L_shifts_b43 i7 i8 (1 + (((f 74 4) + 9) / 10)) z3 u4
  else
    if (u4 74 3) < (1 + (((f 74 4) + 9) / 10)) then
      g_L_shifts_b43 i7 i8 (1 + (((f 74 4) + 9) / 10)) z3 u4
    else
      g_L_shifts_b44 i7 i8 (1 + (((f 74 4) + 9) / 10)) 1 z3 u4
set_option maxRecDepth 100000 in
set_option maxHeartbeats 4000000 in
theorem e_L_shifts {r : LWd} {z f : Nat → Nat → Int32} {i7 : Int32} {i8 : Int32} : m_L_shifts 66 68 69 70 71 73 74 i7 i8 (wA z f r) = (g_L_shifts i7 i8 z f).map (fun q => (q.1, wA q.2.1 q.2.2 r)) := by
  unfold m_L_shifts g_L_shifts
  refine opS (aI_74.trans (ixl_4 _)) ?_
  refine caW (e_L_canShift) (fun _ _ => wA_len) (fun x2 z3 u4 => ?_)
  refine iteE (fun _ => ?_) (fun _ => ?_)
  · exact e_L_shifts_b43 _ _ _  _ _
  · refine opS (aI_74.trans (ixl_3 _)) ?_
    refine iteE (fun _ => ?_) (fun _ => ?_)
    · exact e_L_shifts_b43 _ _ _  _ _
    · exact e_L_shifts_b44 _ _ _ _  _ _
def g_L_nearest_b145 (i3 : Int32) (s0 : Int64) (z f : Nat → Nat → Int32) : Option Int64 :=
  some (s0 + ((Int32.toInt64 (i3 + 64)) <<< (Int32.toInt64 32 &&& 63)))
set_option maxRecDepth 100000 in
set_option maxHeartbeats 4000000 in
theorem e_L_nearest_b145 {r : LWd} {z f : Nat → Nat → Int32} (i3 : Int32) (s0 : Int64) : m_L_nearest_b145 i3 s0 (wA z f r) = (g_L_nearest_b145 i3 s0 z f).map (fun x => (x, wA z f r)) := by
  unfold m_L_nearest_b145 g_L_nearest_b145
  rfl
def g_L_nearest_b126 (l4 : Int64) (s0 : Int32) (s1 : Int32) (z f : Nat → Nat → Int32) : Option Int64 :=
  if (lg_cmp l4 16777216) = 0 then
    g_L_nearest_b145 (s0 + s1) 8388608 z f
  else
    g_L_nearest_b145 (s0 + s1) l4 z f
set_option maxRecDepth 100000 in
set_option maxHeartbeats 4000000 in
theorem e_L_nearest_b126 {r : LWd} {z f : Nat → Nat → Int32} (l4 : Int64) (s0 : Int32) (s1 : Int32) : m_L_nearest_b126 l4 s0 s1 (wA z f r) = (g_L_nearest_b126 l4 s0 s1 z f).map (fun x => (x, wA z f r)) := by
  unfold m_L_nearest_b126 g_L_nearest_b126
  refine iteE (fun _ => ?_) (fun _ => ?_)
  · exact e_L_nearest_b145 _ _ 
  · exact e_L_nearest_b145 _ _ 
def g_L_nearest_b108 (i3 : Int32) (s0 : Int64) (s1 : Int64) (z f : Nat → Nat → Int32) : Option Int64 :=
  if (lg_cmp (s0 + s1) 16777216) = 0 then
    g_L_nearest_b126 (s0 + s1) i3 1 z f
  else
    g_L_nearest_b126 (s0 + s1) i3 0 z f
set_option maxRecDepth 100000 in
set_option maxHeartbeats 4000000 in
theorem e_L_nearest_b108 {r : LWd} {z f : Nat → Nat → Int32} (i3 : Int32) (s0 : Int64) (s1 : Int64) : m_L_nearest_b108 i3 s0 s1 (wA z f r) = (g_L_nearest_b108 i3 s0 s1 z f).map (fun x => (x, wA z f r)) := by
  unfold m_L_nearest_b108 g_L_nearest_b108
  refine iteE (fun _ => ?_) (fun _ => ?_)
  · exact e_L_nearest_b126 _ _ _ 
  · exact e_L_nearest_b126 _ _ _ 
def g_L_nearest_b103 (i3 : Int32) (s0 : Int64) (z f : Nat → Nat → Int32) : Option Int64 :=
  g_L_nearest_b108 i3 s0 1 z f
set_option maxRecDepth 100000 in
set_option maxHeartbeats 4000000 in
theorem e_L_nearest_b103 {r : LWd} {z f : Nat → Nat → Int32} (i3 : Int32) (s0 : Int64) : m_L_nearest_b103 i3 s0 (wA z f r) = (g_L_nearest_b103 i3 s0 z f).map (fun x => (x, wA z f r)) := by
  unfold m_L_nearest_b103 g_L_nearest_b103
  exact e_L_nearest_b108 _ _ _ 
def g_L_nearest_b107 (i3 : Int32) (s0 : Int64) (z f : Nat → Nat → Int32) : Option Int64 :=
  g_L_nearest_b108 i3 s0 0 z f
set_option maxRecDepth 100000 in
set_option maxHeartbeats 4000000 in
theorem e_L_nearest_b107 {r : LWd} {z f : Nat → Nat → Int32} (i3 : Int32) (s0 : Int64) : m_L_nearest_b107 i3 s0 (wA z f r) = (g_L_nearest_b107 i3 s0 z f).map (fun x => (x, wA z f r)) := by
  unfold m_L_nearest_b107 g_L_nearest_b107
  exact e_L_nearest_b108 _ _ _ 
def g_L_nearest_b72 (i3 : Int32) (l4 : Int64) (l6 : Int64) (s0 : Int64) (z f : Nat → Nat → Int32) : Option Int64 :=
  if 0 < (lg_cmp l6 s0) then
    g_L_nearest_b103 i3 l4 z f
  else
    if (lg_cmp l6 s0) = 0 then
      if (lg_cmp (jlrem l4 2) 1) = 0 then
        g_L_nearest_b103 i3 l4 z f
      else
        g_L_nearest_b107 i3 l4 z f
    else
      g_L_nearest_b107 i3 l4 z f
set_option maxRecDepth 100000 in
set_option maxHeartbeats 4000000 in
theorem e_L_nearest_b72 {r : LWd} {z f : Nat → Nat → Int32} (i3 : Int32) (l4 : Int64) (l6 : Int64) (s0 : Int64) : m_L_nearest_b72 i3 l4 l6 s0 (wA z f r) = (g_L_nearest_b72 i3 l4 l6 s0 z f).map (fun x => (x, wA z f r)) := by
  unfold m_L_nearest_b72 g_L_nearest_b72
  refine iteE (fun _ => ?_) (fun _ => ?_)
  · exact e_L_nearest_b103 _ _ 
  · refine iteE (fun _ => ?_) (fun _ => ?_)
    · refine iteE (fun _ => ?_) (fun _ => ?_)
      · exact e_L_nearest_b103 _ _ 
      · exact e_L_nearest_b107 _ _ 
    · exact e_L_nearest_b107 _ _ 
def g_L_nearest_b57 (i3 : Int32) (l4 : Int64) (s0 : Int64) (z f : Nat → Nat → Int32) : Option Int64 :=
  if 0 < i3 then
    g_L_nearest_b72 i3 l4 s0 (1 <<< (Int32.toInt64 (i3 - 1) &&& 63)) z f
  else
    g_L_nearest_b72 i3 l4 s0 1 z f
set_option maxRecDepth 100000 in
set_option maxHeartbeats 4000000 in
theorem e_L_nearest_b57 {r : LWd} {z f : Nat → Nat → Int32} (i3 : Int32) (l4 : Int64) (s0 : Int64) : m_L_nearest_b57 i3 l4 s0 (wA z f r) = (g_L_nearest_b57 i3 l4 s0 z f).map (fun x => (x, wA z f r)) := by
  unfold m_L_nearest_b57 g_L_nearest_b57
  refine iteE (fun _ => ?_) (fun _ => ?_)
  · exact e_L_nearest_b72 _ _ _ _ 
  · exact e_L_nearest_b72 _ _ _ _ 
def g_L_nearest_b41 (l0 : Int64) (i3 : Int32) (s0 : Int64) (z f : Nat → Nat → Int32) : Option Int64 :=
  if 0 < i3 then
    g_L_nearest_b57 i3 s0 (l0 - (s0 <<< (Int32.toInt64 i3 &&& 63))) z f
  else
    g_L_nearest_b57 i3 s0 0 z f
set_option maxRecDepth 100000 in
set_option maxHeartbeats 4000000 in
theorem e_L_nearest_b41 {r : LWd} {z f : Nat → Nat → Int32} (l0 : Int64) (i3 : Int32) (s0 : Int64) : m_L_nearest_b41 l0 i3 s0 (wA z f r) = (g_L_nearest_b41 l0 i3 s0 z f).map (fun x => (x, wA z f r)) := by
  unfold m_L_nearest_b41 g_L_nearest_b41
  refine iteE (fun _ => ?_) (fun _ => ?_)
  · exact e_L_nearest_b57 _ _ _ 
  · exact e_L_nearest_b57 _ _ _ 
def g_L_nearest_b22 (l0 : Int64) (i2 : Int32) (z f : Nat → Nat → Int32) : Option Int64 :=
  if 0 < (i2 - 24) then
    g_L_nearest_b41 l0 (i2 - 24) (l0 >>> (Int32.toInt64 (i2 - 24) &&& 63)) z f
  else
    g_L_nearest_b41 l0 (i2 - 24) (l0 <<< (Int32.toInt64 (-(i2 - 24)) &&& 63)) z f
set_option maxRecDepth 100000 in
set_option maxHeartbeats 4000000 in
theorem e_L_nearest_b22 {r : LWd} {z f : Nat → Nat → Int32} (l0 : Int64) (i2 : Int32) : m_L_nearest_b22 l0 i2 (wA z f r) = (g_L_nearest_b22 l0 i2 z f).map (fun x => (x, wA z f r)) := by
  unfold m_L_nearest_b22 g_L_nearest_b22
  refine iteE (fun _ => ?_) (fun _ => ?_)
  · exact e_L_nearest_b41 _ _ _ 
  · exact e_L_nearest_b41 _ _ _ 
def g_L_nearest_l2 : Nat → Int64 → Int32 → (Nat → Nat → Int32) → (Nat → Nat → Int32) → Option Int64
  | 0, _, _, _, _ => none
  | fu + 1, l0, i2, z, f =>
    if 63 ≤ i2 then
      g_L_nearest_b22 l0 i2 z f
    else
      if (lg_cmp (l0 >>> (Int32.toInt64 i2 &&& 63)) 0) ≤ 0 then
        g_L_nearest_b22 l0 i2 z f
      else
        g_L_nearest_l2 fu l0 (i2 + 1) z f
set_option maxRecDepth 100000 in
set_option maxHeartbeats 4000000 in
theorem e_L_nearest_l2 {r : LWd} {z f : Nat → Nat → Int32} : ∀ (fu : Nat) (l0 : Int64) (i2 : Int32), m_L_nearest_l2 fu l0 i2 (wA z f r) = (g_L_nearest_l2 fu l0 i2 z f).map (fun x => (x, wA z f r)) := by
  intro fu
  induction fu with
  | zero => intro l0 i2 ; first | rfl | (rw [m_L_nearest_l2, g_L_nearest_l2]; rfl)
  | succ fu ih =>
    intro l0 i2 
    rw [m_L_nearest_l2, g_L_nearest_l2]
    refine iteE (fun _ => ?_) (fun _ => ?_)
    · exact e_L_nearest_b22 _ _ 
    · refine iteE (fun _ => ?_) (fun _ => ?_)
      · exact e_L_nearest_b22 _ _ 
      · exact ih _ _ 
def g_L_nearest (l0 : Int64) (z f : Nat → Nat → Int32) : Option Int64 :=
  g_L_nearest_l2 FU l0 0 z f
set_option maxRecDepth 100000 in
set_option maxHeartbeats 4000000 in
theorem e_L_nearest {r : LWd} {z f : Nat → Nat → Int32} {l0 : Int64} : m_L_nearest l0 (wA z f r) = (g_L_nearest l0 z f).map (fun x => (x, wA z f r)) := by
  unfold m_L_nearest g_L_nearest
  exact e_L_nearest_l2 FU _ _ 
def g_L_bits_b178 (i12 : Int32) (s0 : Int64) (z f : Nat → Nat → Int32) : Option Int32 :=
  some (((i12 + 150) <<< (23 &&& 31)) + (Int64.toInt32 (s0 - 8388608)))
set_option maxRecDepth 100000 in
set_option maxHeartbeats 4000000 in
theorem e_L_bits_b178 {r : LWd} {z f : Nat → Nat → Int32} (i12 : Int32) (s0 : Int64) : m_L_bits_b178 i12 s0 (wA z f r) = (g_L_bits_b178 i12 s0 z f).map (fun x => (x, wA z f r)) := by
  unfold m_L_bits_b178 g_L_bits_b178
  rfl
def g_L_bits_b158 (l15 : Int64) (s0 : Int32) (s1 : Int32) (z f : Nat → Nat → Int32) : Option Int32 :=
  if (lg_cmp l15 16777216) = 0 then
    g_L_bits_b178 (s0 + s1) 8388608 z f
  else
    g_L_bits_b178 (s0 + s1) l15 z f
set_option maxRecDepth 100000 in
set_option maxHeartbeats 4000000 in
theorem e_L_bits_b158 {r : LWd} {z f : Nat → Nat → Int32} (l15 : Int64) (s0 : Int32) (s1 : Int32) : m_L_bits_b158 l15 s0 s1 (wA z f r) = (g_L_bits_b158 l15 s0 s1 z f).map (fun x => (x, wA z f r)) := by
  unfold m_L_bits_b158 g_L_bits_b158
  refine iteE (fun _ => ?_) (fun _ => ?_)
  · exact e_L_bits_b178 _ _ 
  · exact e_L_bits_b178 _ _ 
def g_L_bits_b139 (i12 : Int32) (s0 : Int64) (s1 : Int64) (z f : Nat → Nat → Int32) : Option Int32 :=
  if (lg_cmp (s0 + s1) 16777216) = 0 then
    g_L_bits_b158 (s0 + s1) i12 1 z f
  else
    g_L_bits_b158 (s0 + s1) i12 0 z f
set_option maxRecDepth 100000 in
set_option maxHeartbeats 4000000 in
theorem e_L_bits_b139 {r : LWd} {z f : Nat → Nat → Int32} (i12 : Int32) (s0 : Int64) (s1 : Int64) : m_L_bits_b139 i12 s0 s1 (wA z f r) = (g_L_bits_b139 i12 s0 s1 z f).map (fun x => (x, wA z f r)) := by
  unfold m_L_bits_b139 g_L_bits_b139
  refine iteE (fun _ => ?_) (fun _ => ?_)
  · exact e_L_bits_b158 _ _ _ 
  · exact e_L_bits_b158 _ _ _ 
def g_L_bits_b134 (i12 : Int32) (s0 : Int64) (z f : Nat → Nat → Int32) : Option Int32 :=
  g_L_bits_b139 i12 s0 1 z f
set_option maxRecDepth 100000 in
set_option maxHeartbeats 4000000 in
theorem e_L_bits_b134 {r : LWd} {z f : Nat → Nat → Int32} (i12 : Int32) (s0 : Int64) : m_L_bits_b134 i12 s0 (wA z f r) = (g_L_bits_b134 i12 s0 z f).map (fun x => (x, wA z f r)) := by
  unfold m_L_bits_b134 g_L_bits_b134
  exact e_L_bits_b139 _ _ _ 
def g_L_bits_b138 (i12 : Int32) (s0 : Int64) (z f : Nat → Nat → Int32) : Option Int32 :=
  g_L_bits_b139 i12 s0 0 z f
set_option maxRecDepth 100000 in
set_option maxHeartbeats 4000000 in
theorem e_L_bits_b138 {r : LWd} {z f : Nat → Nat → Int32} (i12 : Int32) (s0 : Int64) : m_L_bits_b138 i12 s0 (wA z f r) = (g_L_bits_b138 i12 s0 z f).map (fun x => (x, wA z f r)) := by
  unfold m_L_bits_b138 g_L_bits_b138
  exact e_L_bits_b139 _ _ _ 
def g_L_bits_b84 (l10 : Int64) (i12 : Int32) (s0 : Int64) (s1 : Int32) (z f : Nat → Nat → Int32) : Option Int32 :=
  if l10 = 0 then none else
  if l10 = 0 then none else
  if 0 < (lg_cmp ((jlrem (s0 <<< (Int32.toInt64 s1 &&& 63)) l10) * 2) l10) then
    g_L_bits_b134 i12 ((s0 <<< (Int32.toInt64 s1 &&& 63)) / l10) z f
  else
    if (lg_cmp ((jlrem (s0 <<< (Int32.toInt64 s1 &&& 63)) l10) * 2) l10) = 0 then
      if (lg_cmp (jlrem ((s0 <<< (Int32.toInt64 s1 &&& 63)) / l10) 2) 1) = 0 then
        g_L_bits_b134 i12 ((s0 <<< (Int32.toInt64 s1 &&& 63)) / l10) z f
      else
        g_L_bits_b138 i12 ((s0 <<< (Int32.toInt64 s1 &&& 63)) / l10) z f
    else
      g_L_bits_b138 i12 ((s0 <<< (Int32.toInt64 s1 &&& 63)) / l10) z f
set_option maxRecDepth 100000 in
set_option maxHeartbeats 4000000 in
theorem e_L_bits_b84 {r : LWd} {z f : Nat → Nat → Int32} (l10 : Int64) (i12 : Int32) (s0 : Int64) (s1 : Int32) : m_L_bits_b84 l10 i12 s0 s1 (wA z f r) = (g_L_bits_b84 l10 i12 s0 s1 z f).map (fun x => (x, wA z f r)) := by
  unfold m_L_bits_b84 g_L_bits_b84
  refine iteN (fun _ => ?_)
  refine iteN (fun _ => ?_)
  refine iteE (fun _ => ?_) (fun _ => ?_)
  · exact e_L_bits_b134 _ _ 
  · refine iteE (fun _ => ?_) (fun _ => ?_)
    · refine iteE (fun _ => ?_) (fun _ => ?_)
      · exact e_L_bits_b134 _ _ 
      · exact e_L_bits_b138 _ _ 
    · exact e_L_bits_b138 _ _ 
def g_L_bits_b64 (l8 : Int64) (l10 : Int64) (s0 : Int32) (s1 : Int32) (z f : Nat → Nat → Int32) : Option Int32 :=
  if 0 ≤ (lg_cmp l8 l10) then
    g_L_bits_b84 l10 (s0 - s1) l8 23 z f
  else
    g_L_bits_b84 l10 (s0 - s1) l8 24 z f
set_option maxRecDepth 100000 in
set_option maxHeartbeats 4000000 in
theorem e_L_bits_b64 {r : LWd} {z f : Nat → Nat → Int32} (l8 : Int64) (l10 : Int64) (s0 : Int32) (s1 : Int32) : m_L_bits_b64 l8 l10 s0 s1 (wA z f r) = (g_L_bits_b64 l8 l10 s0 s1 z f).map (fun x => (x, wA z f r)) := by
  unfold m_L_bits_b64 g_L_bits_b64
  refine iteE (fun _ => ?_) (fun _ => ?_)
  · exact e_L_bits_b84 _ _ _ _ 
  · exact e_L_bits_b84 _ _ _ _ 
def g_L_bits (l0 : Int64) (l2 : Int64) (z f : Nat → Nat → Int32) : Option Int32 :=
  if (lg_cmp l0 0) = 0 then
    some (0)
  else
    (g_L_nearest l0 z f).bind fun x1 =>
    (g_L_nearest l2 z f).bind fun x2 =>
    if 0 ≤ (lg_cmp (jlrem x1 4294967296) (jlrem x2 4294967296)) then
      g_L_bits_b64 (jlrem x1 4294967296) (jlrem x2 4294967296) ((Int64.toInt32 (x1 >>> (Int32.toInt64 32 &&& 63))) - (Int64.toInt32 (x2 >>> (Int32.toInt64 32 &&& 63)))) 23 z f
    else
      g_L_bits_b64 (jlrem x1 4294967296) (jlrem x2 4294967296) ((Int64.toInt32 (x1 >>> (Int32.toInt64 32 &&& 63))) - (Int64.toInt32 (x2 >>> (Int32.toInt64 32 &&& 63)))) 24 z f
set_option maxRecDepth 100000 in
set_option maxHeartbeats 4000000 in
theorem e_L_bits {r : LWd} {z f : Nat → Nat → Int32} {l0 : Int64} {l2 : Int64} : m_L_bits l0 l2 (wA z f r) = (g_L_bits l0 l2 z f).map (fun x => (x, wA z f r)) := by
  unfold m_L_bits g_L_bits
  refine iteE (fun _ => ?_) (fun _ => ?_)
  · rfl
  · refine caP (e_L_nearest) (fun x1 => ?_)
    refine caP (e_L_nearest) (fun x2 => ?_)
    refine iteE (fun _ => ?_) (fun _ => ?_)
    · exact e_L_bits_b64 _ _ _ _ 
    · exact e_L_bits_b64 _ _ _ _ 
def g_L_isEdge_b147 (k30 : Int32 → Int32 → Int32 → Int32 → Int32 → (Nat → Nat → Int32) → (Nat → Nat → Int32) → Option Int32) (i2 : Int32) (i3 : Int32) (i4 : Int32) (i6 : Int32) (s0 : Int32) (z f : Nat → Nat → Int32) : Option Int32 :=
  k30 i2 i3 i4 s0 (i6 + 1) z f
set_option maxRecDepth 100000 in
set_option maxHeartbeats 4000000 in
theorem e_L_isEdge_b147 {r : LWd} {z f : Nat → Nat → Int32} {k30 : Nat → Nat → Int32 → Int32 → Int32 → Int32 → Int32 → LWd → Option (Int32 × LWd)} {kg30 : Int32 → Int32 → Int32 → Int32 → Int32 → (Nat → Nat → Int32) → (Nat → Nat → Int32) → Option Int32} (hk30 : ∀ (i2 : Int32) (i3 : Int32) (i4 : Int32) (i5 : Int32) (i6 : Int32), k30 70 71 i2 i3 i4 i5 i6 (wA z f r) = (kg30 i2 i3 i4 i5 i6 z f).map (fun x => (x, wA z f r))) (i2 : Int32) (i3 : Int32) (i4 : Int32) (i6 : Int32) (s0 : Int32) : m_L_isEdge_b147 k30 70 71 i2 i3 i4 i6 s0 (wA z f r) = (g_L_isEdge_b147 kg30 i2 i3 i4 i6 s0 z f).map (fun x => (x, wA z f r)) := by
  unfold m_L_isEdge_b147 g_L_isEdge_b147
  exact hk30 _ _ _ _ _ 
def g_L_isEdge_b142 (k30 : Int32 → Int32 → Int32 → Int32 → Int32 → (Nat → Nat → Int32) → (Nat → Nat → Int32) → Option Int32) (i2 : Int32) (i3 : Int32) (i4 : Int32) (i6 : Int32) (z f : Nat → Nat → Int32) : Option Int32 :=
  g_L_isEdge_b147 k30 i2 i3 i4 i6 1 z f
set_option maxRecDepth 100000 in
set_option maxHeartbeats 4000000 in
theorem e_L_isEdge_b142 {r : LWd} {z f : Nat → Nat → Int32} {k30 : Nat → Nat → Int32 → Int32 → Int32 → Int32 → Int32 → LWd → Option (Int32 × LWd)} {kg30 : Int32 → Int32 → Int32 → Int32 → Int32 → (Nat → Nat → Int32) → (Nat → Nat → Int32) → Option Int32} (hk30 : ∀ (i2 : Int32) (i3 : Int32) (i4 : Int32) (i5 : Int32) (i6 : Int32), k30 70 71 i2 i3 i4 i5 i6 (wA z f r) = (kg30 i2 i3 i4 i5 i6 z f).map (fun x => (x, wA z f r))) (i2 : Int32) (i3 : Int32) (i4 : Int32) (i6 : Int32) : m_L_isEdge_b142 k30 70 71 i2 i3 i4 i6 (wA z f r) = (g_L_isEdge_b142 kg30 i2 i3 i4 i6 z f).map (fun x => (x, wA z f r)) := by
  unfold m_L_isEdge_b142 g_L_isEdge_b142
  exact e_L_isEdge_b147 (hk30 := hk30) _ _ _ _ _ 
def g_L_isEdge_b146 (k30 : Int32 → Int32 → Int32 → Int32 → Int32 → (Nat → Nat → Int32) → (Nat → Nat → Int32) → Option Int32) (i2 : Int32) (i3 : Int32) (i4 : Int32) (i6 : Int32) (z f : Nat → Nat → Int32) : Option Int32 :=
  g_L_isEdge_b147 k30 i2 i3 i4 i6 0 z f
set_option maxRecDepth 100000 in
set_option maxHeartbeats 4000000 in
theorem e_L_isEdge_b146 {r : LWd} {z f : Nat → Nat → Int32} {k30 : Nat → Nat → Int32 → Int32 → Int32 → Int32 → Int32 → LWd → Option (Int32 × LWd)} {kg30 : Int32 → Int32 → Int32 → Int32 → Int32 → (Nat → Nat → Int32) → (Nat → Nat → Int32) → Option Int32} (hk30 : ∀ (i2 : Int32) (i3 : Int32) (i4 : Int32) (i5 : Int32) (i6 : Int32), k30 70 71 i2 i3 i4 i5 i6 (wA z f r) = (kg30 i2 i3 i4 i5 i6 z f).map (fun x => (x, wA z f r))) (i2 : Int32) (i3 : Int32) (i4 : Int32) (i6 : Int32) : m_L_isEdge_b146 k30 70 71 i2 i3 i4 i6 (wA z f r) = (g_L_isEdge_b146 kg30 i2 i3 i4 i6 z f).map (fun x => (x, wA z f r)) := by
  unfold m_L_isEdge_b146 g_L_isEdge_b146
  exact e_L_isEdge_b147 (hk30 := hk30) _ _ _ _ _ 
def g_L_isEdge_l30 : Nat → Int32 → Int32 → Int32 → Int32 → Int32 → (Nat → Nat → Int32) → (Nat → Nat → Int32) → Option Int32
  | 0, _, _, _, _, _, _, _ => none
  | fu + 1, i2, i3, i4, i5, i6, z, f =>
    if 6 ≤ i6 then
      rtZ i5
    else
      if i5 = 0 then
        rtZ i5
      else
        (ixA 6 i4).bind fun j1 =>
        (ixA 6 i3).bind fun j2 =>
        (ixA 6 i6).bind fun j3 =>
        (ixA 6 i3).bind fun j4 =>
        (ixA 6 i4).bind fun j5 =>
        (ixA 6 i3).bind fun j6 =>
        (ixA 6 i6).bind fun j7 =>
        (ixA 6 i3).bind fun j8 =>
        (ixA 6 i6).bind fun j9 =>
        (ixA 6 i3).bind fun j10 =>
        (ixA 6 i6).bind fun j11 =>
        (ixA 6 i4).bind fun j12 =>
        (ixA 6 i6).bind fun j13 =>
        (ixA 6 i3).bind fun j14 =>
        (ixA 6 i6).bind fun j15 =>
        (ixA 6 i4).bind fun j16 =>
        if ((i2 >>> (i6 &&& 31)) &&& 1) = 0 then
          g_L_isEdge_b142 (fun y0 y1 y2 y3 y4 z f => g_L_isEdge_l30 fu y0 y1 y2 y3 y4 z f) i2 i3 i4 i6 z f
        else
          if 0 < ((((f 70 j1) - (f 70 j2)) * ((f 71 j3) - (f 71 j4))) - (((f 71 j5) - (f 71 j6)) * ((f 70 j7) - (f 70 j8)))) then
            g_L_isEdge_b142 (fun y0 y1 y2 y3 y4 z f => g_L_isEdge_l30 fu y0 y1 y2 y3 y4 z f) i2 i3 i4 i6 z f
          else
            if ((((f 70 j1) - (f 70 j2)) * ((f 71 j3) - (f 71 j4))) - (((f 71 j5) - (f 71 j6)) * ((f 70 j7) - (f 70 j8)))) = 0 then
              if 0 < ((((f 70 j9) - (f 70 j10)) * ((f 70 j11) - (f 70 j12))) + (((f 71 j13) - (f 71 j14)) * ((f 71 j15) - (f 71 j16)))) then
                g_L_isEdge_b146 (fun y0 y1 y2 y3 y4 z f => g_L_isEdge_l30 fu y0 y1 y2 y3 y4 z f) i2 i3 i4 i6 z f
              else
                g_L_isEdge_b142 (fun y0 y1 y2 y3 y4 z f => g_L_isEdge_l30 fu y0 y1 y2 y3 y4 z f) i2 i3 i4 i6 z f
            else
              g_L_isEdge_b146 (fun y0 y1 y2 y3 y4 z f => g_L_isEdge_l30 fu y0 y1 y2 y3 y4 z f) i2 i3 i4 i6 z f
set_option maxRecDepth 100000 in
set_option maxHeartbeats 4000000 in
theorem e_L_isEdge_l30 {r : LWd} {z f : Nat → Nat → Int32} : ∀ (fu : Nat) (i2 : Int32) (i3 : Int32) (i4 : Int32) (i5 : Int32) (i6 : Int32), m_L_isEdge_l30 fu 70 71 i2 i3 i4 i5 i6 (wA z f r) = (g_L_isEdge_l30 fu i2 i3 i4 i5 i6 z f).map (fun x => (x, wA z f r)) := by
  intro fu
  induction fu with
  | zero => intro i2 i3 i4 i5 i6 ; first | rfl | (rw [m_L_isEdge_l30, g_L_isEdge_l30]; rfl)
  | succ fu ih =>
    intro i2 i3 i4 i5 i6 
    rw [m_L_isEdge_l30, g_L_isEdge_l30]
    refine iteE (fun _ => ?_) (fun _ => ?_)
    · exact reZ
    · refine iteE (fun _ => ?_) (fun _ => ?_)
      · exact reZ
      · refine opM aI_70 (fun j1 hj1 => ?_)
        refine opM aI_70 (fun j2 hj2 => ?_)
        refine opM aI_71 (fun j3 hj3 => ?_)
        refine opM aI_71 (fun j4 hj4 => ?_)
        refine opM aI_71 (fun j5 hj5 => ?_)
        refine opM aI_71 (fun j6 hj6 => ?_)
        refine opM aI_70 (fun j7 hj7 => ?_)
        refine opM aI_70 (fun j8 hj8 => ?_)
        refine opM aI_70 (fun j9 hj9 => ?_)
        refine opM aI_70 (fun j10 hj10 => ?_)
        refine opM aI_70 (fun j11 hj11 => ?_)
        refine opM aI_70 (fun j12 hj12 => ?_)
        refine opM aI_71 (fun j13 hj13 => ?_)
        refine opM aI_71 (fun j14 hj14 => ?_)
        refine opM aI_71 (fun j15 hj15 => ?_)
        refine opM aI_71 (fun j16 hj16 => ?_)
        refine iteE (fun _ => ?_) (fun _ => ?_)
        · exact e_L_isEdge_b142 (hk30 := ih) _ _ _ _ 
        · refine iteE (fun _ => ?_) (fun _ => ?_)
          · exact e_L_isEdge_b142 (hk30 := ih) _ _ _ _ 
          · refine iteE (fun _ => ?_) (fun _ => ?_)
            · refine iteE (fun _ => ?_) (fun _ => ?_)
              · exact e_L_isEdge_b146 (hk30 := ih) _ _ _ _ 
              · exact e_L_isEdge_b142 (hk30 := ih) _ _ _ _ 
            · exact e_L_isEdge_b146 (hk30 := ih) _ _ _ _ 
def g_L_isEdge_b25 (i2 : Int32) (i3 : Int32) (i4 : Int32) (s0 : Int32) (z f : Nat → Nat → Int32) : Option Int32 :=
  g_L_isEdge_l30 FU i2 i3 i4 s0 0 z f
set_option maxRecDepth 100000 in
set_option maxHeartbeats 4000000 in
theorem e_L_isEdge_b25 {r : LWd} {z f : Nat → Nat → Int32} (i2 : Int32) (i3 : Int32) (i4 : Int32) (s0 : Int32) : m_L_isEdge_b25 70 71 i2 i3 i4 s0 (wA z f r) = (g_L_isEdge_b25 i2 i3 i4 s0 z f).map (fun x => (x, wA z f r)) := by
  unfold m_L_isEdge_b25 g_L_isEdge_b25
  exact e_L_isEdge_l30 FU _ _ _ _ _ 
def g_L_isEdge_b24 (i2 : Int32) (i3 : Int32) (i4 : Int32) (z f : Nat → Nat → Int32) : Option Int32 :=
  g_L_isEdge_b25 i2 i3 i4 0 z f
set_option maxRecDepth 100000 in
set_option maxHeartbeats 4000000 in
theorem e_L_isEdge_b24 {r : LWd} {z f : Nat → Nat → Int32} (i2 : Int32) (i3 : Int32) (i4 : Int32) : m_L_isEdge_b24 70 71 i2 i3 i4 (wA z f r) = (g_L_isEdge_b24 i2 i3 i4 z f).map (fun x => (x, wA z f r)) := by
  unfold m_L_isEdge_b24 g_L_isEdge_b24
  exact e_L_isEdge_b25 _ _ _ _ 
def g_L_isEdge (i2 : Int32) (i3 : Int32) (i4 : Int32) (z f : Nat → Nat → Int32) : Option Int32 :=
  if i3 = i4 then
    g_L_isEdge_b24 i2 i3 i4 z f
  else
    if (((i2 >>> (i3 &&& 31)) &&& (i2 >>> (i4 &&& 31))) &&& 1) = 1 then
      g_L_isEdge_b25 i2 i3 i4 1 z f
    else
      g_L_isEdge_b24 i2 i3 i4 z f
set_option maxRecDepth 100000 in
set_option maxHeartbeats 4000000 in
theorem e_L_isEdge {r : LWd} {z f : Nat → Nat → Int32} {i2 : Int32} {i3 : Int32} {i4 : Int32} : m_L_isEdge 70 71 i2 i3 i4 (wA z f r) = (g_L_isEdge i2 i3 i4 z f).map (fun x => (x, wA z f r)) := by
  unfold m_L_isEdge g_L_isEdge
  refine iteE (fun _ => ?_) (fun _ => ?_)
  · exact e_L_isEdge_b24 _ _ _ 
  · refine iteE (fun _ => ?_) (fun _ => ?_)
    · exact e_L_isEdge_b25 _ _ _ _ 
    · exact e_L_isEdge_b24 _ _ _ 
def g_L_isSo_b1666 (i13 : Int32) (z f : Nat → Nat → Int32) : Option (Int32 × (Nat → Nat → Int32) × (Nat → Nat → Int32)) :=
  if i13 = 0 then
    some (0, z, f)
  else
    bn3 (g_L_does 12 (f 74 11) 0 0 0 0 z f) fun x2 z3 u4 =>
    if x2 = ((-3000000)) then
      bn3 (g_L_does 14 (u4 74 7) 0 0 0 0 z3 u4) fun x6 z7 u8 =>
      if x6 = ((-3000000)) then
        some (1, z7, u8)
      else
        some (0, z7, u8)
    else
      some (0, z3, u4)
set_option maxRecDepth 100000 in
set_option maxHeartbeats 4000000 in
theorem e_L_isSo_b1666 {r : LWd} (i13 : Int32) (z f : Nat → Nat → Int32) : m_L_isSo_b1666 0 74 i13 (wA z f r) = (g_L_isSo_b1666 i13 z f).map (fun q => (q.1, wA q.2.1 q.2.2 r)) := by
  unfold m_L_isSo_b1666 g_L_isSo_b1666
  refine iteE (fun _ => ?_) (fun _ => ?_)
  · rfl
  · refine opS (aI_74.trans (ixl_11 _)) ?_
    refine caW e_L_does (fun _ _ => wA_len) (fun x2 z3 u4 => ?_)
    refine iteE (fun _ => ?_) (fun _ => ?_)
    · refine opS (aI_74.trans (ixl_7 _)) ?_
      refine caW e_L_does (fun _ _ => wA_len) (fun x6 z7 u8 => ?_)
      refine iteE (fun _ => ?_) (fun _ => ?_)
      · rfl
      · rfl
    · rfl
def g_L_isSo_b1664 (s0 : Int32) (z f : Nat → Nat → Int32) : Option (Int32 × (Nat → Nat → Int32) × (Nat → Nat → Int32)) :=
  g_L_isSo_b1666 s0 z f
set_option maxRecDepth 100000 in
set_option maxHeartbeats 4000000 in
theorem e_L_isSo_b1664 {r : LWd} (s0 : Int32) (z f : Nat → Nat → Int32) : m_L_isSo_b1664 0 74 s0 (wA z f r) = (g_L_isSo_b1664 s0 z f).map (fun q => (q.1, wA q.2.1 q.2.2 r)) := by
  unfold m_L_isSo_b1664 g_L_isSo_b1664
  exact e_L_isSo_b1666 _  _ _
def g_L_isSo_b1663 (z f : Nat → Nat → Int32) : Option (Int32 × (Nat → Nat → Int32) × (Nat → Nat → Int32)) :=
  g_L_isSo_b1664 0 z f
set_option maxRecDepth 100000 in
set_option maxHeartbeats 4000000 in
theorem e_L_isSo_b1663 {r : LWd} (z f : Nat → Nat → Int32) : m_L_isSo_b1663 0 74 (wA z f r) = (g_L_isSo_b1663  z f).map (fun q => (q.1, wA q.2.1 q.2.2 r)) := by
  unfold m_L_isSo_b1663 g_L_isSo_b1663
  exact e_L_isSo_b1664 _  _ _
def g_L_isSo_b1659 (z f : Nat → Nat → Int32) : Option (Int32 × (Nat → Nat → Int32) × (Nat → Nat → Int32)) :=
  g_L_isSo_b1664 1 z f
set_option maxRecDepth 100000 in
set_option maxHeartbeats 4000000 in
theorem e_L_isSo_b1659 {r : LWd} (z f : Nat → Nat → Int32) : m_L_isSo_b1659 0 74 (wA z f r) = (g_L_isSo_b1659  z f).map (fun q => (q.1, wA q.2.1 q.2.2 r)) := by
  unfold m_L_isSo_b1659 g_L_isSo_b1659
  exact e_L_isSo_b1664 _  _ _
def g_L_isSo_b1647 (s0 : Int32) (s1 : Int32) (z f : Nat → Nat → Int32) : Option (Int32 × (Nat → Nat → Int32) × (Nat → Nat → Int32)) :=
  if s0 = s1 then
    g_L_isSo_b1659  z f
  else
    g_L_isSo_b1663  z f
set_option maxRecDepth 100000 in
set_option maxHeartbeats 4000000 in
theorem e_L_isSo_b1647 {r : LWd} (s0 : Int32) (s1 : Int32) (z f : Nat → Nat → Int32) : m_L_isSo_b1647 0 74 s0 s1 (wA z f r) = (g_L_isSo_b1647 s0 s1 z f).map (fun q => (q.1, wA q.2.1 q.2.2 r)) := by
  unfold m_L_isSo_b1647 g_L_isSo_b1647
  refine iteE (fun _ => ?_) (fun _ => ?_)
  · exact e_L_isSo_b1659   _ _
  · exact e_L_isSo_b1663   _ _
def g_L_isSo_b1600 (i21 : Int32) (i22 : Int32) (i23 : Int32) (i24 : Int32) (s0 : Int32) (s1 : Int32) (z f : Nat → Nat → Int32) : Option (Int32 × (Nat → Nat → Int32) × (Nat → Nat → Int32)) :=
  if s0 = s1 then
    bn3 (nthW (g_X10_fewestAnew ((f 74 1) + i21) ((f 74 2) + i22) z f)) fun x3 z4 u5 =>
    if x3 = i23 then
      if (u5 74 0) = 1 then
        if i23 = 1 then
          g_L_isSo_b1647 i24 1 z4 u5
        else
          g_L_isSo_b1647 i24 0 z4 u5
      else
        if i23 = ((-1)) then
          g_L_isSo_b1659  z4 u5
        else
          g_L_isSo_b1663  z4 u5
    else
      g_L_isSo_b1663  z4 u5
  else
    g_L_isSo_b1663  z f
set_option maxRecDepth 100000 in
set_option maxHeartbeats 4000000 in
theorem e_L_isSo_b1600 {r : LWd} (i21 : Int32) (i22 : Int32) (i23 : Int32) (i24 : Int32) (s0 : Int32) (s1 : Int32) (z f : Nat → Nat → Int32) : m_L_isSo_b1600 0 74 i21 i22 i23 i24 s0 s1 (wA z f r) = (g_L_isSo_b1600 i21 i22 i23 i24 s0 s1 z f).map (fun q => (q.1, wA q.2.1 q.2.2 r)) := by
  unfold m_L_isSo_b1600 g_L_isSo_b1600
  refine iteE (fun _ => ?_) (fun _ => ?_)
  · refine opS (aI_74.trans (ixl_1 _)) ?_
    refine opS (aI_74.trans (ixl_2 _)) ?_
    refine caW (nt_w (e_X10_fewestAnew)) (fun _ _ => wA_len) (fun x3 z4 u5 => ?_)
    refine iteE (fun _ => ?_) (fun _ => ?_)
    · refine opS (aI_74.trans (ixl_0 _)) ?_
      refine iteE (fun _ => ?_) (fun _ => ?_)
      · refine iteE (fun _ => ?_) (fun _ => ?_)
        · exact e_L_isSo_b1647 _ _  _ _
        · exact e_L_isSo_b1647 _ _  _ _
      · refine iteE (fun _ => ?_) (fun _ => ?_)
        · exact e_L_isSo_b1659   _ _
        · exact e_L_isSo_b1663   _ _
    · exact e_L_isSo_b1663   _ _
  · exact e_L_isSo_b1663   _ _
def g_L_isSo_b1503 (i10 : Int32) (i13 : Int32) (i21 : Int32) (s0 : Int32) (z f : Nat → Nat → Int32) : Option (Int32 × (Nat → Nat → Int32) × (Nat → Nat → Int32)) :=
  if i13 = 0 then
    g_L_isSo_b1666 i13 z f
  else
    if (jrem i10 16) = 0 then
      (g_L_isIn ((f 74 1) + i21) ((f 74 2) + s0) z f).bind fun x3 =>
      if x3 = 0 then
        g_L_isSo_b1666 i13 z f
      else
        bn3 (nthW (g_X10_fewest ((f 74 1) + i21) ((f 74 2) + s0) z f)) fun x6 z7 u8 =>
        bn3 (g_L_canShift i21 s0 z7 u8) fun x9 z10 u11 =>
        bn3 (nthW (g_X10_fewest (u11 74 1) (u11 74 2) z10 u11)) fun x14 z15 u16 =>
        if (u16 74 0) = 1 then
          g_L_isSo_b1600 i21 s0 x6 x9 x14 0 z15 u16
        else
          g_L_isSo_b1600 i21 s0 x6 x9 x14 ((-1)) z15 u16
    else
      g_L_isSo_b1666 i13 z f
set_option maxRecDepth 100000 in
set_option maxHeartbeats 4000000 in
theorem e_L_isSo_b1503 {r : LWd} (i10 : Int32) (i13 : Int32) (i21 : Int32) (s0 : Int32) (z f : Nat → Nat → Int32) : m_L_isSo_b1503 0 69 70 71 74 i10 i13 i21 s0 (wA z f r) = (g_L_isSo_b1503 i10 i13 i21 s0 z f).map (fun q => (q.1, wA q.2.1 q.2.2 r)) := by
  unfold m_L_isSo_b1503 g_L_isSo_b1503
  refine iteE (fun _ => ?_) (fun _ => ?_)
  · exact e_L_isSo_b1666 _  _ _
  · refine iteE (fun _ => ?_) (fun _ => ?_)
    · refine opS (aI_74.trans (ixl_1 _)) ?_
      refine opS (aI_74.trans (ixl_2 _)) ?_
      refine caP (e_L_isIn) (fun x3 => ?_)
      refine iteE (fun _ => ?_) (fun _ => ?_)
      · exact e_L_isSo_b1666 _  _ _
      · refine opS (aI_74.trans (ixl_1 _)) ?_
        refine opS (aI_74.trans (ixl_2 _)) ?_
        refine caW (nt_w (e_X10_fewest)) (fun _ _ => wA_len) (fun x6 z7 u8 => ?_)
        refine caW (e_L_canShift) (fun _ _ => wA_len) (fun x9 z10 u11 => ?_)
        refine opS (aI_74.trans (ixl_1 _)) ?_
        refine opS (aI_74.trans (ixl_2 _)) ?_
        refine caW (nt_w (e_X10_fewest)) (fun _ _ => wA_len) (fun x14 z15 u16 => ?_)
        refine opS (aI_74.trans (ixl_0 _)) ?_
        refine iteE (fun _ => ?_) (fun _ => ?_)
        · exact e_L_isSo_b1600 _ _ _ _ _ _  _ _
        · exact e_L_isSo_b1600 _ _ _ _ _ _  _ _
    · exact e_L_isSo_b1666 _  _ _
def g_L_isSo_b1480 (i10 : Int32) (i13 : Int32) (i20 : Int32) (s0 : Int32) (z f : Nat → Nat → Int32) : Option (Int32 × (Nat → Nat → Int32) × (Nat → Nat → Int32)) :=
  if i20 = 2 then
    g_L_isSo_b1503 i10 i13 s0 1 z f
  else
    if i20 = 3 then
      g_L_isSo_b1503 i10 i13 s0 ((-1)) z f
    else
      g_L_isSo_b1503 i10 i13 s0 0 z f
set_option maxRecDepth 100000 in
set_option maxHeartbeats 4000000 in
theorem e_L_isSo_b1480 {r : LWd} (i10 : Int32) (i13 : Int32) (i20 : Int32) (s0 : Int32) (z f : Nat → Nat → Int32) : m_L_isSo_b1480 0 69 70 71 74 i10 i13 i20 s0 (wA z f r) = (g_L_isSo_b1480 i10 i13 i20 s0 z f).map (fun q => (q.1, wA q.2.1 q.2.2 r)) := by
  unfold m_L_isSo_b1480 g_L_isSo_b1480
  refine iteE (fun _ => ?_) (fun _ => ?_)
  · exact e_L_isSo_b1503 _ _ _ _  _ _
  · refine iteE (fun _ => ?_) (fun _ => ?_)
    · exact e_L_isSo_b1503 _ _ _ _  _ _
    · exact e_L_isSo_b1503 _ _ _ _  _ _
def g_L_isSo_b1454 (i9 : Int32) (i10 : Int32) (i13 : Int32) (z f : Nat → Nat → Int32) : Option (Int32 × (Nat → Nat → Int32) × (Nat → Nat → Int32)) :=
  if (jrem i9 4) = 0 then
    g_L_isSo_b1480 i10 i13 (jrem i9 4) 1 z f
  else
    if (jrem i9 4) = 1 then
      g_L_isSo_b1480 i10 i13 (jrem i9 4) ((-1)) z f
    else
      g_L_isSo_b1480 i10 i13 (jrem i9 4) 0 z f
set_option maxRecDepth 100000 in
set_option maxHeartbeats 4000000 in
theorem e_L_isSo_b1454 {r : LWd} (i9 : Int32) (i10 : Int32) (i13 : Int32) (z f : Nat → Nat → Int32) : m_L_isSo_b1454 0 69 70 71 74 i9 i10 i13 (wA z f r) = (g_L_isSo_b1454 i9 i10 i13 z f).map (fun q => (q.1, wA q.2.1 q.2.2 r)) := by
  unfold m_L_isSo_b1454 g_L_isSo_b1454
  refine iteE (fun _ => ?_) (fun _ => ?_)
  · exact e_L_isSo_b1480 _ _ _ _  _ _
  · refine iteE (fun _ => ?_) (fun _ => ?_)
    · exact e_L_isSo_b1480 _ _ _ _  _ _
    · exact e_L_isSo_b1480 _ _ _ _  _ _
def g_L_isSo_b1452 (i9 : Int32) (i10 : Int32) (s0 : Int32) (z f : Nat → Nat → Int32) : Option (Int32 × (Nat → Nat → Int32) × (Nat → Nat → Int32)) :=
  g_L_isSo_b1454 i9 i10 s0 z f
set_option maxRecDepth 100000 in
set_option maxHeartbeats 4000000 in
theorem e_L_isSo_b1452 {r : LWd} (i9 : Int32) (i10 : Int32) (s0 : Int32) (z f : Nat → Nat → Int32) : m_L_isSo_b1452 0 69 70 71 74 i9 i10 s0 (wA z f r) = (g_L_isSo_b1452 i9 i10 s0 z f).map (fun q => (q.1, wA q.2.1 q.2.2 r)) := by
  unfold m_L_isSo_b1452 g_L_isSo_b1452
  exact e_L_isSo_b1454 _ _ _  _ _
def g_L_isSo_b1451 (i9 : Int32) (i10 : Int32) (z f : Nat → Nat → Int32) : Option (Int32 × (Nat → Nat → Int32) × (Nat → Nat → Int32)) :=
  g_L_isSo_b1452 i9 i10 0 z f
set_option maxRecDepth 100000 in
set_option maxHeartbeats 4000000 in
theorem e_L_isSo_b1451 {r : LWd} (i9 : Int32) (i10 : Int32) (z f : Nat → Nat → Int32) : m_L_isSo_b1451 0 69 70 71 74 i9 i10 (wA z f r) = (g_L_isSo_b1451 i9 i10 z f).map (fun q => (q.1, wA q.2.1 q.2.2 r)) := by
  unfold m_L_isSo_b1451 g_L_isSo_b1451
  exact e_L_isSo_b1452 _ _ _  _ _
def g_L_isSo_b1348 (i9 : Int32) (i10 : Int32) (i13 : Int32) (z f : Nat → Nat → Int32) : Option (Int32 × (Nat → Nat → Int32) × (Nat → Nat → Int32)) :=
  if ((f 74 11) - 1) < 0 then
    g_L_isSo_b1454 i9 i10 i13 z f
  else
    if 40 ≤ ((f 74 11) - 1) then
      g_L_isSo_b1454 i9 i10 i13 z f
    else
      if i13 = 0 then
        g_L_isSo_b1454 i9 i10 i13 z f
      else
        (ixA 41 ((f 74 11) - 1)).bind fun j2 =>
        (nthR (g_X10_fall ((f 74 11) - 1) 0 z f)).bind fun x3 =>
        if x3 = (jrem (f 73 j2) 9) then
          (nthR (g_X10_fall ((f 74 11) - 1) 1 z f)).bind fun x4 =>
          if x4 = (jrem ((f 73 j2) / 9) 4) then
            (nthR (g_X10_fall ((f 74 11) - 1) 2 z f)).bind fun x5 =>
            if x5 = (jrem ((f 73 j2) / 36) 20) then
              (nthR (g_X10_fall ((f 74 11) - 1) 3 z f)).bind fun x6 =>
              if x6 = ((f 73 j2) / 720) then
                g_L_isSo_b1452 i9 i10 1 z f
              else
                g_L_isSo_b1451 i9 i10 z f
            else
              g_L_isSo_b1451 i9 i10 z f
          else
            g_L_isSo_b1451 i9 i10 z f
        else
          g_L_isSo_b1451 i9 i10 z f
set_option maxRecDepth 100000 in
set_option maxHeartbeats 4000000 in
theorem e_L_isSo_b1348 {r : LWd} (i9 : Int32) (i10 : Int32) (i13 : Int32) (z f : Nat → Nat → Int32) : m_L_isSo_b1348 0 69 70 71 73 74 i9 i10 i13 (wA z f r) = (g_L_isSo_b1348 i9 i10 i13 z f).map (fun q => (q.1, wA q.2.1 q.2.2 r)) := by
  unfold m_L_isSo_b1348 g_L_isSo_b1348
  refine opS (aI_74.trans (ixl_11 _)) ?_
  refine iteE (fun _ => ?_) (fun _ => ?_)
  · exact e_L_isSo_b1454 _ _ _  _ _
  · refine iteE (fun _ => ?_) (fun _ => ?_)
    · exact e_L_isSo_b1454 _ _ _  _ _
    · refine iteE (fun _ => ?_) (fun _ => ?_)
      · exact e_L_isSo_b1454 _ _ _  _ _
      · refine opM aI_73 (fun j2 hj2 => ?_)
        refine caP (nt_r (e_X10_fall)) (fun x3 => ?_)
        refine iteE (fun _ => ?_) (fun _ => ?_)
        · refine caP (nt_r (e_X10_fall)) (fun x4 => ?_)
          refine iteE (fun _ => ?_) (fun _ => ?_)
          · refine caP (nt_r (e_X10_fall)) (fun x5 => ?_)
            refine iteE (fun _ => ?_) (fun _ => ?_)
            · refine caP (nt_r (e_X10_fall)) (fun x6 => ?_)
              refine iteE (fun _ => ?_) (fun _ => ?_)
              · exact e_L_isSo_b1452 _ _ _  _ _
              · exact e_L_isSo_b1451 _ _  _ _
            · exact e_L_isSo_b1451 _ _  _ _
          · exact e_L_isSo_b1451 _ _  _ _
        · exact e_L_isSo_b1451 _ _  _ _
def g_L_isSo_b1340 (k1191 : Int32 → Int32 → Int32 → Int32 → (Nat → Nat → Int32) → (Nat → Nat → Int32) → Option (Int32 × (Nat → Nat → Int32) × (Nat → Nat → Int32))) (i9 : Int32) (i10 : Int32) (i19 : Int32) (s0 : Int32) (z f : Nat → Nat → Int32) : Option (Int32 × (Nat → Nat → Int32) × (Nat → Nat → Int32)) :=
  k1191 i9 i10 s0 (i19 + 1) z f
set_option maxRecDepth 100000 in
set_option maxHeartbeats 4000000 in
theorem e_L_isSo_b1340 {r : LWd} {k1191 : Nat → Nat → Nat → Nat → Nat → Nat → Nat → Nat → Nat → Int32 → Int32 → Int32 → Int32 → LWd → Option (Int32 × LWd)} {kg1191 : Int32 → Int32 → Int32 → Int32 → (Nat → Nat → Int32) → (Nat → Nat → Int32) → Option (Int32 × (Nat → Nat → Int32) × (Nat → Nat → Int32))} (hk1191 : ∀ (i9 : Int32) (i10 : Int32) (i13 : Int32) (i19 : Int32) (z f : Nat → Nat → Int32), k1191 0 66 67 68 69 70 71 73 74 i9 i10 i13 i19 (wA z f r) = (kg1191 i9 i10 i13 i19 z f).map (fun q => (q.1, wA q.2.1 q.2.2 r))) (i9 : Int32) (i10 : Int32) (i19 : Int32) (s0 : Int32) (z f : Nat → Nat → Int32) : m_L_isSo_b1340 k1191 0 66 67 68 69 70 71 73 74 i9 i10 i19 s0 (wA z f r) = (g_L_isSo_b1340 kg1191 i9 i10 i19 s0 z f).map (fun q => (q.1, wA q.2.1 q.2.2 r)) := by
  unfold m_L_isSo_b1340 g_L_isSo_b1340
  exact hk1191 _ _ _ _  _ _
def g_L_isSo_b1335 (k1191 : Int32 → Int32 → Int32 → Int32 → (Nat → Nat → Int32) → (Nat → Nat → Int32) → Option (Int32 × (Nat → Nat → Int32) × (Nat → Nat → Int32))) (i9 : Int32) (i10 : Int32) (i19 : Int32) (z f : Nat → Nat → Int32) : Option (Int32 × (Nat → Nat → Int32) × (Nat → Nat → Int32)) :=
  g_L_isSo_b1340 k1191 i9 i10 i19 1 z f
set_option maxRecDepth 100000 in
set_option maxHeartbeats 4000000 in
theorem e_L_isSo_b1335 {r : LWd} {k1191 : Nat → Nat → Nat → Nat → Nat → Nat → Nat → Nat → Nat → Int32 → Int32 → Int32 → Int32 → LWd → Option (Int32 × LWd)} {kg1191 : Int32 → Int32 → Int32 → Int32 → (Nat → Nat → Int32) → (Nat → Nat → Int32) → Option (Int32 × (Nat → Nat → Int32) × (Nat → Nat → Int32))} (hk1191 : ∀ (i9 : Int32) (i10 : Int32) (i13 : Int32) (i19 : Int32) (z f : Nat → Nat → Int32), k1191 0 66 67 68 69 70 71 73 74 i9 i10 i13 i19 (wA z f r) = (kg1191 i9 i10 i13 i19 z f).map (fun q => (q.1, wA q.2.1 q.2.2 r))) (i9 : Int32) (i10 : Int32) (i19 : Int32) (z f : Nat → Nat → Int32) : m_L_isSo_b1335 k1191 0 66 67 68 69 70 71 73 74 i9 i10 i19 (wA z f r) = (g_L_isSo_b1335 kg1191 i9 i10 i19 z f).map (fun q => (q.1, wA q.2.1 q.2.2 r)) := by
  unfold m_L_isSo_b1335 g_L_isSo_b1335
  exact e_L_isSo_b1340 (hk1191 := hk1191) _ _ _ _  _ _
def g_L_isSo_b1339 (k1191 : Int32 → Int32 → Int32 → Int32 → (Nat → Nat → Int32) → (Nat → Nat → Int32) → Option (Int32 × (Nat → Nat → Int32) × (Nat → Nat → Int32))) (i9 : Int32) (i10 : Int32) (i19 : Int32) (z f : Nat → Nat → Int32) : Option (Int32 × (Nat → Nat → Int32) × (Nat → Nat → Int32)) :=
  g_L_isSo_b1340 k1191 i9 i10 i19 0 z f
set_option maxRecDepth 100000 in
set_option maxHeartbeats 4000000 in
theorem e_L_isSo_b1339 {r : LWd} {k1191 : Nat → Nat → Nat → Nat → Nat → Nat → Nat → Nat → Nat → Int32 → Int32 → Int32 → Int32 → LWd → Option (Int32 × LWd)} {kg1191 : Int32 → Int32 → Int32 → Int32 → (Nat → Nat → Int32) → (Nat → Nat → Int32) → Option (Int32 × (Nat → Nat → Int32) × (Nat → Nat → Int32))} (hk1191 : ∀ (i9 : Int32) (i10 : Int32) (i13 : Int32) (i19 : Int32) (z f : Nat → Nat → Int32), k1191 0 66 67 68 69 70 71 73 74 i9 i10 i13 i19 (wA z f r) = (kg1191 i9 i10 i13 i19 z f).map (fun q => (q.1, wA q.2.1 q.2.2 r))) (i9 : Int32) (i10 : Int32) (i19 : Int32) (z f : Nat → Nat → Int32) : m_L_isSo_b1339 k1191 0 66 67 68 69 70 71 73 74 i9 i10 i19 (wA z f r) = (g_L_isSo_b1339 kg1191 i9 i10 i19 z f).map (fun q => (q.1, wA q.2.1 q.2.2 r)) := by
  unfold m_L_isSo_b1339 g_L_isSo_b1339
  exact e_L_isSo_b1340 (hk1191 := hk1191) _ _ _ _  _ _
def g_L_isSo_l1191 : Nat → Int32 → Int32 → Int32 → Int32 → (Nat → Nat → Int32) → (Nat → Nat → Int32) → Option (Int32 × (Nat → Nat → Int32) × (Nat → Nat → Int32))
  | 0, _, _, _, _, _, _ => none
  | fu + 1, i9, i10, i13, i19, z, f =>
    if 9 ≤ i19 then
      g_L_isSo_b1348 i9 i10 i13 z f
    else
      if i13 = 0 then
        g_L_isSo_b1348 i9 i10 i13 z f
      else
        (g_L_isIn (((f 74 1) - 4) + (jrem (i9 + i19) 9)) (((f 74 2) - 4) + (jrem (i10 + (2 * i19)) 9)) z f).bind fun x3 =>
        if x3 = 0 then
          g_L_isSo_b1335 (fun y0 y1 y2 y3 z f => g_L_isSo_l1191 fu y0 y1 y2 y3 z f) i9 i10 i19 z f
        else
          (nthR (g_X10_point (((f 74 1) - 4) + (jrem (i9 + i19) 9)) (((f 74 2) - 4) + (jrem (i10 + (2 * i19)) 9)) 0 z f)).bind fun x4 =>
          (g_L_four 50 66 ((20 * (((f 74 2) - 4) + (jrem (i10 + (2 * i19)) 9))) + (((f 74 1) - 4) + (jrem (i9 + i19) 9))) f).bind fun x5 =>
          if x4 = x5 then
            (nthR (g_X10_point (((f 74 1) - 4) + (jrem (i9 + i19) 9)) (((f 74 2) - 4) + (jrem (i10 + (2 * i19)) 9)) 1 z f)).bind fun x6 =>
            (g_L_firm ((20 * (((f 74 2) - 4) + (jrem (i10 + (2 * i19)) 9))) + (((f 74 1) - 4) + (jrem (i9 + i19) 9))) z f).bind fun x7 =>
            if x6 = x7 then
              (nthR (g_X10_point (((f 74 1) - 4) + (jrem (i9 + i19) 9)) (((f 74 2) - 4) + (jrem (i10 + (2 * i19)) 9)) 2 z f)).bind fun x8 =>
              (g_L_four 25 67 ((20 * (((f 74 2) - 4) + (jrem (i10 + (2 * i19)) 9))) + (((f 74 1) - 4) + (jrem (i9 + i19) 9))) f).bind fun x9 =>
              if x8 = x9 then
                (nthR (g_X10_point (((f 74 1) - 4) + (jrem (i9 + i19) 9)) (((f 74 2) - 4) + (jrem (i10 + (2 * i19)) 9)) 3 z f)).bind fun x10 =>
                (g_L_four 50 66 (400 + ((20 * (((f 74 2) - 4) + (jrem (i10 + (2 * i19)) 9))) + (((f 74 1) - 4) + (jrem (i9 + i19) 9)))) f).bind fun x11 =>
                if x10 = x11 then
                  g_L_isSo_b1335 (fun y0 y1 y2 y3 z f => g_L_isSo_l1191 fu y0 y1 y2 y3 z f) i9 i10 i19 z f
                else
                  g_L_isSo_b1339 (fun y0 y1 y2 y3 z f => g_L_isSo_l1191 fu y0 y1 y2 y3 z f) i9 i10 i19 z f
              else
                g_L_isSo_b1339 (fun y0 y1 y2 y3 z f => g_L_isSo_l1191 fu y0 y1 y2 y3 z f) i9 i10 i19 z f
            else
              g_L_isSo_b1339 (fun y0 y1 y2 y3 z f => g_L_isSo_l1191 fu y0 y1 y2 y3 z f) i9 i10 i19 z f
          else
            g_L_isSo_b1339 (fun y0 y1 y2 y3 z f => g_L_isSo_l1191 fu y0 y1 y2 y3 z f) i9 i10 i19 z f
set_option maxRecDepth 100000 in
set_option maxHeartbeats 4000000 in
theorem e_L_isSo_l1191 {r : LWd} : ∀ (fu : Nat) (i9 : Int32) (i10 : Int32) (i13 : Int32) (i19 : Int32) (z f : Nat → Nat → Int32), m_L_isSo_l1191 fu 0 66 67 68 69 70 71 73 74 i9 i10 i13 i19 (wA z f r) = (g_L_isSo_l1191 fu i9 i10 i13 i19 z f).map (fun q => (q.1, wA q.2.1 q.2.2 r)) := by
  intro fu
  induction fu with
  | zero => intro i9 i10 i13 i19  z f; first | rfl | (rw [m_L_isSo_l1191, g_L_isSo_l1191]; rfl)
  | succ fu ih =>
    intro i9 i10 i13 i19  z f
    rw [m_L_isSo_l1191, g_L_isSo_l1191]
    refine iteE (fun _ => ?_) (fun _ => ?_)
    · exact e_L_isSo_b1348 _ _ _  _ _
    · refine iteE (fun _ => ?_) (fun _ => ?_)
      · exact e_L_isSo_b1348 _ _ _  _ _
      · refine opS (aI_74.trans (ixl_1 _)) ?_
        refine opS (aI_74.trans (ixl_2 _)) ?_
        refine caP (e_L_isIn) (fun x3 => ?_)
        refine iteE (fun _ => ?_) (fun _ => ?_)
        · exact e_L_isSo_b1335 (hk1191 := ih) _ _ _  _ _
        · refine caP (nt_r (e_X10_point)) (fun x4 => ?_)
          refine caP (e_L_four lwr_66) (fun x5 => ?_)
          refine iteE (fun _ => ?_) (fun _ => ?_)
          · refine caP (nt_r (e_X10_point)) (fun x6 => ?_)
            refine caP (e_L_firm) (fun x7 => ?_)
            refine iteE (fun _ => ?_) (fun _ => ?_)
            · refine caP (nt_r (e_X10_point)) (fun x8 => ?_)
              refine caP (e_L_four lwr_67) (fun x9 => ?_)
              refine iteE (fun _ => ?_) (fun _ => ?_)
              · refine caP (nt_r (e_X10_point)) (fun x10 => ?_)
                refine caP (e_L_four lwr_66) (fun x11 => ?_)
                refine iteE (fun _ => ?_) (fun _ => ?_)
                · exact e_L_isSo_b1335 (hk1191 := ih) _ _ _  _ _
                · exact e_L_isSo_b1339 (hk1191 := ih) _ _ _  _ _
              · exact e_L_isSo_b1339 (hk1191 := ih) _ _ _  _ _
            · exact e_L_isSo_b1339 (hk1191 := ih) _ _ _  _ _
          · exact e_L_isSo_b1339 (hk1191 := ih) _ _ _  _ _
def g_L_isSo_b1186 (i9 : Int32) (i10 : Int32) (s0 : Int32) (z f : Nat → Nat → Int32) : Option (Int32 × (Nat → Nat → Int32) × (Nat → Nat → Int32)) :=
  g_L_isSo_l1191 FU i9 i10 s0 0 z f
set_option maxRecDepth 100000 in
set_option maxHeartbeats 4000000 in
theorem e_L_isSo_b1186 {r : LWd} (i9 : Int32) (i10 : Int32) (s0 : Int32) (z f : Nat → Nat → Int32) : m_L_isSo_b1186 0 66 67 68 69 70 71 73 74 i9 i10 s0 (wA z f r) = (g_L_isSo_b1186 i9 i10 s0 z f).map (fun q => (q.1, wA q.2.1 q.2.2 r)) := by
  unfold m_L_isSo_b1186 g_L_isSo_b1186
  exact e_L_isSo_l1191 FU _ _ _ _  _ _
def g_L_isSo_b1185 (i9 : Int32) (i10 : Int32) (z f : Nat → Nat → Int32) : Option (Int32 × (Nat → Nat → Int32) × (Nat → Nat → Int32)) :=
  g_L_isSo_b1186 i9 i10 0 z f
set_option maxRecDepth 100000 in
set_option maxHeartbeats 4000000 in
theorem e_L_isSo_b1185 {r : LWd} (i9 : Int32) (i10 : Int32) (z f : Nat → Nat → Int32) : m_L_isSo_b1185 0 66 67 68 69 70 71 73 74 i9 i10 (wA z f r) = (g_L_isSo_b1185 i9 i10 z f).map (fun q => (q.1, wA q.2.1 q.2.2 r)) := by
  unfold m_L_isSo_b1185 g_L_isSo_b1185
  exact e_L_isSo_b1186 _ _ _  _ _
def g_L_isSo_b1178 (i9 : Int32) (i10 : Int32) (s0 : Int32) (s1 : Int32) (z f : Nat → Nat → Int32) : Option (Int32 × (Nat → Nat → Int32) × (Nat → Nat → Int32)) :=
  if s0 = s1 then
    g_L_isSo_b1186 i9 i10 1 z f
  else
    g_L_isSo_b1185 i9 i10 z f
set_option maxRecDepth 100000 in
set_option maxHeartbeats 4000000 in
theorem e_L_isSo_b1178 {r : LWd} (i9 : Int32) (i10 : Int32) (s0 : Int32) (s1 : Int32) (z f : Nat → Nat → Int32) : m_L_isSo_b1178 0 66 67 68 69 70 71 73 74 i9 i10 s0 s1 (wA z f r) = (g_L_isSo_b1178 i9 i10 s0 s1 z f).map (fun q => (q.1, wA q.2.1 q.2.2 r)) := by
  unfold m_L_isSo_b1178 g_L_isSo_b1178
  refine iteE (fun _ => ?_) (fun _ => ?_)
  · exact e_L_isSo_b1186 _ _ _  _ _
  · exact e_L_isSo_b1185 _ _  _ _
def g_L_isSo_b1138 (i9 : Int32) (i10 : Int32) (i12 : Int32) (i13 : Int32) (i16 : Int32) (i17 : Int32) (i18 : Int32) (z f : Nat → Nat → Int32) : Option (Int32 × (Nat → Nat → Int32) × (Nat → Nat → Int32)) :=
  if i13 = 0 then
    g_L_isSo_b1185 i9 i10 z f
  else
    bn3 (nthW (g_X10_corner i16 z f)) fun x1 z2 u3 =>
    if x1 = ((-1)) then
      bn3 (g_X10_margin  z2 u3) fun x4 z5 u6 =>
      if i12 = 0 then
        g_L_isSo_b1178 i9 i10 x4 ((-1082130432)) z5 u6
      else
        if i18 = 0 then
          g_L_isSo_b1178 i9 i10 x4 0 z5 u6
        else
          g_L_isSo_b1178 i9 i10 x4 i17 z5 u6
    else
      g_L_isSo_b1185 i9 i10 z2 u3
set_option maxRecDepth 100000 in
set_option maxHeartbeats 4000000 in
theorem e_L_isSo_b1138 {r : LWd} (i9 : Int32) (i10 : Int32) (i12 : Int32) (i13 : Int32) (i16 : Int32) (i17 : Int32) (i18 : Int32) (z f : Nat → Nat → Int32) : m_L_isSo_b1138 0 66 67 68 69 70 71 73 74 i9 i10 i12 i13 i16 i17 i18 (wA z f r) = (g_L_isSo_b1138 i9 i10 i12 i13 i16 i17 i18 z f).map (fun q => (q.1, wA q.2.1 q.2.2 r)) := by
  unfold m_L_isSo_b1138 g_L_isSo_b1138
  refine iteE (fun _ => ?_) (fun _ => ?_)
  · exact e_L_isSo_b1185 _ _  _ _
  · refine caW (nt_w (e_X10_corner)) (fun _ _ => wA_len) (fun x1 z2 u3 => ?_)
    refine iteE (fun _ => ?_) (fun _ => ?_)
    · refine caW (e_X10_margin) (fun _ _ => wA_len) (fun x4 z5 u6 => ?_)
      refine iteE (fun _ => ?_) (fun _ => ?_)
      · exact e_L_isSo_b1178 _ _ _ _  _ _
      · refine iteE (fun _ => ?_) (fun _ => ?_)
        · exact e_L_isSo_b1178 _ _ _ _  _ _
        · exact e_L_isSo_b1178 _ _ _ _  _ _
    · exact e_L_isSo_b1185 _ _  _ _
def g_L_isSo_b1131 (k806 : Int32 → Int32 → Int32 → Int32 → Int32 → Int32 → Int32 → Int32 → Int32 → Int32 → (Nat → Nat → Int32) → (Nat → Nat → Int32) → Option (Int32 × (Nat → Nat → Int32) × (Nat → Nat → Int32))) (i9 : Int32) (i10 : Int32) (i11 : Int32) (i12 : Int32) (i13 : Int32) (i15 : Int32) (i16 : Int32) (i17 : Int32) (i18 : Int32) (i19 : Int32) (z f : Nat → Nat → Int32) : Option (Int32 × (Nat → Nat → Int32) × (Nat → Nat → Int32)) :=
  k806 i9 i10 i11 i12 i13 i19 i15 i16 i17 i18 z f
set_option maxRecDepth 100000 in
set_option maxHeartbeats 4000000 in
theorem e_L_isSo_b1131 {r : LWd} {k806 : Nat → Nat → Nat → Nat → Nat → Nat → Nat → Nat → Nat → Int32 → Int32 → Int32 → Int32 → Int32 → Int32 → Int32 → Int32 → Int32 → Int32 → LWd → Option (Int32 × LWd)} {kg806 : Int32 → Int32 → Int32 → Int32 → Int32 → Int32 → Int32 → Int32 → Int32 → Int32 → (Nat → Nat → Int32) → (Nat → Nat → Int32) → Option (Int32 × (Nat → Nat → Int32) × (Nat → Nat → Int32))} (hk806 : ∀ (i9 : Int32) (i10 : Int32) (i11 : Int32) (i12 : Int32) (i13 : Int32) (i14 : Int32) (i15 : Int32) (i16 : Int32) (i17 : Int32) (i18 : Int32) (z f : Nat → Nat → Int32), k806 0 66 67 68 69 70 71 73 74 i9 i10 i11 i12 i13 i14 i15 i16 i17 i18 (wA z f r) = (kg806 i9 i10 i11 i12 i13 i14 i15 i16 i17 i18 z f).map (fun q => (q.1, wA q.2.1 q.2.2 r))) (i9 : Int32) (i10 : Int32) (i11 : Int32) (i12 : Int32) (i13 : Int32) (i15 : Int32) (i16 : Int32) (i17 : Int32) (i18 : Int32) (i19 : Int32) (z f : Nat → Nat → Int32) : m_L_isSo_b1131 k806 0 66 67 68 69 70 71 73 74 i9 i10 i11 i12 i13 i15 i16 i17 i18 i19 (wA z f r) = (g_L_isSo_b1131 kg806 i9 i10 i11 i12 i13 i15 i16 i17 i18 i19 z f).map (fun q => (q.1, wA q.2.1 q.2.2 r)) := by
  unfold m_L_isSo_b1131 g_L_isSo_b1131
  exact hk806 _ _ _ _ _ _ _ _ _ _  _ _
def g_L_isSo_b1129 (k806 : Int32 → Int32 → Int32 → Int32 → Int32 → Int32 → Int32 → Int32 → Int32 → Int32 → (Nat → Nat → Int32) → (Nat → Nat → Int32) → Option (Int32 × (Nat → Nat → Int32) × (Nat → Nat → Int32))) (i9 : Int32) (i10 : Int32) (i11 : Int32) (i12 : Int32) (i13 : Int32) (i15 : Int32) (i16 : Int32) (i17 : Int32) (i19 : Int32) (s0 : Int32) (z f : Nat → Nat → Int32) : Option (Int32 × (Nat → Nat → Int32) × (Nat → Nat → Int32)) :=
  g_L_isSo_b1131 k806 i9 i10 i11 i12 i13 i15 i16 i17 s0 i19 z f
set_option maxRecDepth 100000 in
set_option maxHeartbeats 4000000 in
theorem e_L_isSo_b1129 {r : LWd} {k806 : Nat → Nat → Nat → Nat → Nat → Nat → Nat → Nat → Nat → Int32 → Int32 → Int32 → Int32 → Int32 → Int32 → Int32 → Int32 → Int32 → Int32 → LWd → Option (Int32 × LWd)} {kg806 : Int32 → Int32 → Int32 → Int32 → Int32 → Int32 → Int32 → Int32 → Int32 → Int32 → (Nat → Nat → Int32) → (Nat → Nat → Int32) → Option (Int32 × (Nat → Nat → Int32) × (Nat → Nat → Int32))} (hk806 : ∀ (i9 : Int32) (i10 : Int32) (i11 : Int32) (i12 : Int32) (i13 : Int32) (i14 : Int32) (i15 : Int32) (i16 : Int32) (i17 : Int32) (i18 : Int32) (z f : Nat → Nat → Int32), k806 0 66 67 68 69 70 71 73 74 i9 i10 i11 i12 i13 i14 i15 i16 i17 i18 (wA z f r) = (kg806 i9 i10 i11 i12 i13 i14 i15 i16 i17 i18 z f).map (fun q => (q.1, wA q.2.1 q.2.2 r))) (i9 : Int32) (i10 : Int32) (i11 : Int32) (i12 : Int32) (i13 : Int32) (i15 : Int32) (i16 : Int32) (i17 : Int32) (i19 : Int32) (s0 : Int32) (z f : Nat → Nat → Int32) : m_L_isSo_b1129 k806 0 66 67 68 69 70 71 73 74 i9 i10 i11 i12 i13 i15 i16 i17 i19 s0 (wA z f r) = (g_L_isSo_b1129 kg806 i9 i10 i11 i12 i13 i15 i16 i17 i19 s0 z f).map (fun q => (q.1, wA q.2.1 q.2.2 r)) := by
  unfold m_L_isSo_b1129 g_L_isSo_b1129
  exact e_L_isSo_b1131 (hk806 := hk806) _ _ _ _ _ _ _ _ _ _  _ _
def g_L_isSo_b1124 (k806 : Int32 → Int32 → Int32 → Int32 → Int32 → Int32 → Int32 → Int32 → Int32 → Int32 → (Nat → Nat → Int32) → (Nat → Nat → Int32) → Option (Int32 × (Nat → Nat → Int32) × (Nat → Nat → Int32))) (i9 : Int32) (i10 : Int32) (i11 : Int32) (i12 : Int32) (i13 : Int32) (i15 : Int32) (i16 : Int32) (i17 : Int32) (i19 : Int32) (z f : Nat → Nat → Int32) : Option (Int32 × (Nat → Nat → Int32) × (Nat → Nat → Int32)) :=
  g_L_isSo_b1129 k806 i9 i10 i11 i12 i13 i15 i16 i17 i19 1 z f
set_option maxRecDepth 100000 in
set_option maxHeartbeats 4000000 in
theorem e_L_isSo_b1124 {r : LWd} {k806 : Nat → Nat → Nat → Nat → Nat → Nat → Nat → Nat → Nat → Int32 → Int32 → Int32 → Int32 → Int32 → Int32 → Int32 → Int32 → Int32 → Int32 → LWd → Option (Int32 × LWd)} {kg806 : Int32 → Int32 → Int32 → Int32 → Int32 → Int32 → Int32 → Int32 → Int32 → Int32 → (Nat → Nat → Int32) → (Nat → Nat → Int32) → Option (Int32 × (Nat → Nat → Int32) × (Nat → Nat → Int32))} (hk806 : ∀ (i9 : Int32) (i10 : Int32) (i11 : Int32) (i12 : Int32) (i13 : Int32) (i14 : Int32) (i15 : Int32) (i16 : Int32) (i17 : Int32) (i18 : Int32) (z f : Nat → Nat → Int32), k806 0 66 67 68 69 70 71 73 74 i9 i10 i11 i12 i13 i14 i15 i16 i17 i18 (wA z f r) = (kg806 i9 i10 i11 i12 i13 i14 i15 i16 i17 i18 z f).map (fun q => (q.1, wA q.2.1 q.2.2 r))) (i9 : Int32) (i10 : Int32) (i11 : Int32) (i12 : Int32) (i13 : Int32) (i15 : Int32) (i16 : Int32) (i17 : Int32) (i19 : Int32) (z f : Nat → Nat → Int32) : m_L_isSo_b1124 k806 0 66 67 68 69 70 71 73 74 i9 i10 i11 i12 i13 i15 i16 i17 i19 (wA z f r) = (g_L_isSo_b1124 kg806 i9 i10 i11 i12 i13 i15 i16 i17 i19 z f).map (fun q => (q.1, wA q.2.1 q.2.2 r)) := by
  unfold m_L_isSo_b1124 g_L_isSo_b1124
  exact e_L_isSo_b1129 (hk806 := hk806) _ _ _ _ _ _ _ _ _ _  _ _
def g_L_isSo_b1101 (k806 : Int32 → Int32 → Int32 → Int32 → Int32 → Int32 → Int32 → Int32 → Int32 → Int32 → (Nat → Nat → Int32) → (Nat → Nat → Int32) → Option (Int32 × (Nat → Nat → Int32) × (Nat → Nat → Int32))) (i9 : Int32) (i10 : Int32) (i11 : Int32) (i12 : Int32) (i13 : Int32) (i14 : Int32) (i15 : Int32) (i16 : Int32) (i18 : Int32) (i19 : Int32) (s0 : Int32) (z f : Nat → Nat → Int32) : Option (Int32 × (Nat → Nat → Int32) × (Nat → Nat → Int32)) :=
  if i18 = 0 then
    (g_L_isEdge i11 i19 i14 z f).bind fun x1 =>
    if x1 = 0 then
      g_L_isSo_b1124 k806 i9 i10 i11 i12 i13 i15 i16 s0 i19 z f
    else
      g_L_isSo_b1129 k806 i9 i10 i11 i12 i13 i15 i16 s0 i19 0 z f
  else
    g_L_isSo_b1124 k806 i9 i10 i11 i12 i13 i15 i16 s0 i19 z f
set_option maxRecDepth 100000 in
set_option maxHeartbeats 4000000 in
theorem e_L_isSo_b1101 {r : LWd} {k806 : Nat → Nat → Nat → Nat → Nat → Nat → Nat → Nat → Nat → Int32 → Int32 → Int32 → Int32 → Int32 → Int32 → Int32 → Int32 → Int32 → Int32 → LWd → Option (Int32 × LWd)} {kg806 : Int32 → Int32 → Int32 → Int32 → Int32 → Int32 → Int32 → Int32 → Int32 → Int32 → (Nat → Nat → Int32) → (Nat → Nat → Int32) → Option (Int32 × (Nat → Nat → Int32) × (Nat → Nat → Int32))} (hk806 : ∀ (i9 : Int32) (i10 : Int32) (i11 : Int32) (i12 : Int32) (i13 : Int32) (i14 : Int32) (i15 : Int32) (i16 : Int32) (i17 : Int32) (i18 : Int32) (z f : Nat → Nat → Int32), k806 0 66 67 68 69 70 71 73 74 i9 i10 i11 i12 i13 i14 i15 i16 i17 i18 (wA z f r) = (kg806 i9 i10 i11 i12 i13 i14 i15 i16 i17 i18 z f).map (fun q => (q.1, wA q.2.1 q.2.2 r))) (i9 : Int32) (i10 : Int32) (i11 : Int32) (i12 : Int32) (i13 : Int32) (i14 : Int32) (i15 : Int32) (i16 : Int32) (i18 : Int32) (i19 : Int32) (s0 : Int32) (z f : Nat → Nat → Int32) : m_L_isSo_b1101 k806 0 66 67 68 69 70 71 73 74 i9 i10 i11 i12 i13 i14 i15 i16 i18 i19 s0 (wA z f r) = (g_L_isSo_b1101 kg806 i9 i10 i11 i12 i13 i14 i15 i16 i18 i19 s0 z f).map (fun q => (q.1, wA q.2.1 q.2.2 r)) := by
  unfold m_L_isSo_b1101 g_L_isSo_b1101
  refine iteE (fun _ => ?_) (fun _ => ?_)
  · refine caP (e_L_isEdge) (fun x1 => ?_)
    refine iteE (fun _ => ?_) (fun _ => ?_)
    · exact e_L_isSo_b1124 (hk806 := hk806) _ _ _ _ _ _ _ _ _  _ _
    · exact e_L_isSo_b1129 (hk806 := hk806) _ _ _ _ _ _ _ _ _ _  _ _
  · exact e_L_isSo_b1124 (hk806 := hk806) _ _ _ _ _ _ _ _ _  _ _
def g_L_isSo_b1094 (k806 : Int32 → Int32 → Int32 → Int32 → Int32 → Int32 → Int32 → Int32 → Int32 → Int32 → (Nat → Nat → Int32) → (Nat → Nat → Int32) → Option (Int32 × (Nat → Nat → Int32) × (Nat → Nat → Int32))) (i9 : Int32) (i10 : Int32) (i11 : Int32) (i12 : Int32) (i13 : Int32) (i14 : Int32) (i15 : Int32) (i16 : Int32) (i18 : Int32) (i19 : Int32) (i29 : Int32) (z f : Nat → Nat → Int32) : Option (Int32 × (Nat → Nat → Int32) × (Nat → Nat → Int32)) :=
  g_L_isSo_b1101 k806 i9 i10 i11 i12 i13 i14 i15 i16 i18 i19 i29 z f
set_option maxRecDepth 100000 in
set_option maxHeartbeats 4000000 in
theorem e_L_isSo_b1094 {r : LWd} {k806 : Nat → Nat → Nat → Nat → Nat → Nat → Nat → Nat → Nat → Int32 → Int32 → Int32 → Int32 → Int32 → Int32 → Int32 → Int32 → Int32 → Int32 → LWd → Option (Int32 × LWd)} {kg806 : Int32 → Int32 → Int32 → Int32 → Int32 → Int32 → Int32 → Int32 → Int32 → Int32 → (Nat → Nat → Int32) → (Nat → Nat → Int32) → Option (Int32 × (Nat → Nat → Int32) × (Nat → Nat → Int32))} (hk806 : ∀ (i9 : Int32) (i10 : Int32) (i11 : Int32) (i12 : Int32) (i13 : Int32) (i14 : Int32) (i15 : Int32) (i16 : Int32) (i17 : Int32) (i18 : Int32) (z f : Nat → Nat → Int32), k806 0 66 67 68 69 70 71 73 74 i9 i10 i11 i12 i13 i14 i15 i16 i17 i18 (wA z f r) = (kg806 i9 i10 i11 i12 i13 i14 i15 i16 i17 i18 z f).map (fun q => (q.1, wA q.2.1 q.2.2 r))) (i9 : Int32) (i10 : Int32) (i11 : Int32) (i12 : Int32) (i13 : Int32) (i14 : Int32) (i15 : Int32) (i16 : Int32) (i18 : Int32) (i19 : Int32) (i29 : Int32) (z f : Nat → Nat → Int32) : m_L_isSo_b1094 k806 0 66 67 68 69 70 71 73 74 i9 i10 i11 i12 i13 i14 i15 i16 i18 i19 i29 (wA z f r) = (g_L_isSo_b1094 kg806 i9 i10 i11 i12 i13 i14 i15 i16 i18 i19 i29 z f).map (fun q => (q.1, wA q.2.1 q.2.2 r)) := by
  unfold m_L_isSo_b1094 g_L_isSo_b1094
  exact e_L_isSo_b1101 (hk806 := hk806) _ _ _ _ _ _ _ _ _ _ _  _ _
def g_L_isSo_b897 (k806 : Int32 → Int32 → Int32 → Int32 → Int32 → Int32 → Int32 → Int32 → Int32 → Int32 → (Nat → Nat → Int32) → (Nat → Nat → Int32) → Option (Int32 × (Nat → Nat → Int32) × (Nat → Nat → Int32))) (k867 : Int32 → Int32 → Int32 → Int32 → Int32 → Int32 → Int32 → Int32 → Int32 → Int32 → Int32 → Int32 → (Nat → Nat → Int32) → (Nat → Nat → Int32) → Option (Int32 × (Nat → Nat → Int32) × (Nat → Nat → Int32))) (i9 : Int32) (i10 : Int32) (i11 : Int32) (i12 : Int32) (i13 : Int32) (i14 : Int32) (i15 : Int32) (i16 : Int32) (i17 : Int32) (i18 : Int32) (i20 : Int32) (s0 : Int32) (z f : Nat → Nat → Int32) : Option (Int32 × (Nat → Nat → Int32) × (Nat → Nat → Int32)) :=
  k867 i9 i10 i11 i12 i13 i14 i15 i16 i17 i18 s0 (i20 + 1) z f
set_option maxRecDepth 100000 in
set_option maxHeartbeats 4000000 in
theorem e_L_isSo_b897 {r : LWd} {k806 : Nat → Nat → Nat → Nat → Nat → Nat → Nat → Nat → Nat → Int32 → Int32 → Int32 → Int32 → Int32 → Int32 → Int32 → Int32 → Int32 → Int32 → LWd → Option (Int32 × LWd)} {kg806 : Int32 → Int32 → Int32 → Int32 → Int32 → Int32 → Int32 → Int32 → Int32 → Int32 → (Nat → Nat → Int32) → (Nat → Nat → Int32) → Option (Int32 × (Nat → Nat → Int32) × (Nat → Nat → Int32))} (hk806 : ∀ (i9 : Int32) (i10 : Int32) (i11 : Int32) (i12 : Int32) (i13 : Int32) (i14 : Int32) (i15 : Int32) (i16 : Int32) (i17 : Int32) (i18 : Int32) (z f : Nat → Nat → Int32), k806 0 66 67 68 69 70 71 73 74 i9 i10 i11 i12 i13 i14 i15 i16 i17 i18 (wA z f r) = (kg806 i9 i10 i11 i12 i13 i14 i15 i16 i17 i18 z f).map (fun q => (q.1, wA q.2.1 q.2.2 r))) {k867 : Nat → Nat → Nat → Nat → Nat → Nat → Nat → Nat → Nat → Int32 → Int32 → Int32 → Int32 → Int32 → Int32 → Int32 → Int32 → Int32 → Int32 → Int32 → Int32 → LWd → Option (Int32 × LWd)} {kg867 : Int32 → Int32 → Int32 → Int32 → Int32 → Int32 → Int32 → Int32 → Int32 → Int32 → Int32 → Int32 → (Nat → Nat → Int32) → (Nat → Nat → Int32) → Option (Int32 × (Nat → Nat → Int32) × (Nat → Nat → Int32))} (hk867 : ∀ (i9 : Int32) (i10 : Int32) (i11 : Int32) (i12 : Int32) (i13 : Int32) (i14 : Int32) (i15 : Int32) (i16 : Int32) (i17 : Int32) (i18 : Int32) (i19 : Int32) (i20 : Int32) (z f : Nat → Nat → Int32), k867 0 66 67 68 69 70 71 73 74 i9 i10 i11 i12 i13 i14 i15 i16 i17 i18 i19 i20 (wA z f r) = (kg867 i9 i10 i11 i12 i13 i14 i15 i16 i17 i18 i19 i20 z f).map (fun q => (q.1, wA q.2.1 q.2.2 r))) (i9 : Int32) (i10 : Int32) (i11 : Int32) (i12 : Int32) (i13 : Int32) (i14 : Int32) (i15 : Int32) (i16 : Int32) (i17 : Int32) (i18 : Int32) (i20 : Int32) (s0 : Int32) (z f : Nat → Nat → Int32) : m_L_isSo_b897 k806 k867 0 66 67 68 69 70 71 73 74 i9 i10 i11 i12 i13 i14 i15 i16 i17 i18 i20 s0 (wA z f r) = (g_L_isSo_b897 kg806 kg867 i9 i10 i11 i12 i13 i14 i15 i16 i17 i18 i20 s0 z f).map (fun q => (q.1, wA q.2.1 q.2.2 r)) := by
  unfold m_L_isSo_b897 g_L_isSo_b897
  exact hk867 _ _ _ _ _ _ _ _ _ _ _ _  _ _
def g_L_isSo_l867 (k806 : Int32 → Int32 → Int32 → Int32 → Int32 → Int32 → Int32 → Int32 → Int32 → Int32 → (Nat → Nat → Int32) → (Nat → Nat → Int32) → Option (Int32 × (Nat → Nat → Int32) × (Nat → Nat → Int32))) : Nat → Int32 → Int32 → Int32 → Int32 → Int32 → Int32 → Int32 → Int32 → Int32 → Int32 → Int32 → Int32 → (Nat → Nat → Int32) → (Nat → Nat → Int32) → Option (Int32 × (Nat → Nat → Int32) × (Nat → Nat → Int32))
  | 0, _, _, _, _, _, _, _, _, _, _, _, _, _, _ => none
  | fu + 1, i9, i10, i11, i12, i13, i14, i15, i16, i17, i18, i19, i20, z, f =>
    if 6 ≤ i20 then
      if i19 < 0 then
        g_L_isSo_b1131 k806 i9 i10 i11 i12 i13 i15 i16 i17 i18 i19 z f
      else
        (ixA 6 i14).bind fun j5 =>
        (ixA 6 i14).bind fun j9 =>
        (ixA 6 i19).bind fun j10 =>
        (ixA 6 i14).bind fun j11 =>
        (ixA 6 i19).bind fun j12 =>
        (ixA 6 i14).bind fun j13 =>
        (ixA 6 i19).bind fun j14 =>
        (ixA 6 i14).bind fun j15 =>
        (ixA 6 i19).bind fun j16 =>
        (ixA 6 i14).bind fun j17 =>
        (ixA 6 i19).bind fun j18 =>
        (ixA 6 i14).bind fun j19 =>
        (ixA 6 i19).bind fun j20 =>
        (ixA 6 i14).bind fun j21 =>
        (g_L_bits ((((Int32.toInt64 ((f 70 j10) - (f 70 j11))) * (Int32.toInt64 ((((10 + (f 74 4)) * (f 74 2)) + ((f 74 4) * (f 74 6))) - ((10 + (f 74 4)) * (f 71 j9))))) - ((Int32.toInt64 ((f 71 j12) - (f 71 j13))) * (Int32.toInt64 ((((10 + (f 74 4)) * (f 74 1)) + ((f 74 4) * (f 74 5))) - ((10 + (f 74 4)) * (f 70 j5)))))) * (((Int32.toInt64 ((f 70 j10) - (f 70 j11))) * (Int32.toInt64 ((((10 + (f 74 4)) * (f 74 2)) + ((f 74 4) * (f 74 6))) - ((10 + (f 74 4)) * (f 71 j9))))) - ((Int32.toInt64 ((f 71 j12) - (f 71 j13))) * (Int32.toInt64 ((((10 + (f 74 4)) * (f 74 1)) + ((f 74 4) * (f 74 5))) - ((10 + (f 74 4)) * (f 70 j5))))))) (((Int32.toInt64 ((((f 70 j14) - (f 70 j15)) * ((f 70 j16) - (f 70 j17))) + (((f 71 j18) - (f 71 j19)) * ((f 71 j20) - (f 71 j21))))) * (Int32.toInt64 (10 + (f 74 4)))) * (Int32.toInt64 (10 + (f 74 4)))) z f).bind fun x22 =>
        if i16 = 1 then
          g_L_isSo_b1094 k806 i9 i10 i11 i12 i13 i14 i15 i16 i18 i19 x22 z f
        else
          if i17 ≤ x22 then
            g_L_isSo_b1101 k806 i9 i10 i11 i12 i13 i14 i15 i16 i18 i19 i17 z f
          else
            g_L_isSo_b1094 k806 i9 i10 i11 i12 i13 i14 i15 i16 i18 i19 x22 z f
    else
      (g_L_isEdge i11 i14 i20 z f).bind fun x23 =>
      if x23 = 0 then
        g_L_isSo_b897 k806 (fun y0 y1 y2 y3 y4 y5 y6 y7 y8 y9 y10 y11 z f => g_L_isSo_l867 k806 fu y0 y1 y2 y3 y4 y5 y6 y7 y8 y9 y10 y11 z f) i9 i10 i11 i12 i13 i14 i15 i16 i17 i18 i20 i19 z f
      else
        g_L_isSo_b897 k806 (fun y0 y1 y2 y3 y4 y5 y6 y7 y8 y9 y10 y11 z f => g_L_isSo_l867 k806 fu y0 y1 y2 y3 y4 y5 y6 y7 y8 y9 y10 y11 z f) i9 i10 i11 i12 i13 i14 i15 i16 i17 i18 i20 i20 z f
set_option maxRecDepth 100000 in
set_option maxHeartbeats 4000000 in
theorem e_L_isSo_l867 {r : LWd} {k806 : Nat → Nat → Nat → Nat → Nat → Nat → Nat → Nat → Nat → Int32 → Int32 → Int32 → Int32 → Int32 → Int32 → Int32 → Int32 → Int32 → Int32 → LWd → Option (Int32 × LWd)} {kg806 : Int32 → Int32 → Int32 → Int32 → Int32 → Int32 → Int32 → Int32 → Int32 → Int32 → (Nat → Nat → Int32) → (Nat → Nat → Int32) → Option (Int32 × (Nat → Nat → Int32) × (Nat → Nat → Int32))} (hk806 : ∀ (i9 : Int32) (i10 : Int32) (i11 : Int32) (i12 : Int32) (i13 : Int32) (i14 : Int32) (i15 : Int32) (i16 : Int32) (i17 : Int32) (i18 : Int32) (z f : Nat → Nat → Int32), k806 0 66 67 68 69 70 71 73 74 i9 i10 i11 i12 i13 i14 i15 i16 i17 i18 (wA z f r) = (kg806 i9 i10 i11 i12 i13 i14 i15 i16 i17 i18 z f).map (fun q => (q.1, wA q.2.1 q.2.2 r))) : ∀ (fu : Nat) (i9 : Int32) (i10 : Int32) (i11 : Int32) (i12 : Int32) (i13 : Int32) (i14 : Int32) (i15 : Int32) (i16 : Int32) (i17 : Int32) (i18 : Int32) (i19 : Int32) (i20 : Int32) (z f : Nat → Nat → Int32), m_L_isSo_l867 k806 fu 0 66 67 68 69 70 71 73 74 i9 i10 i11 i12 i13 i14 i15 i16 i17 i18 i19 i20 (wA z f r) = (g_L_isSo_l867 kg806 fu i9 i10 i11 i12 i13 i14 i15 i16 i17 i18 i19 i20 z f).map (fun q => (q.1, wA q.2.1 q.2.2 r)) := by
  intro fu
  induction fu with
  | zero => intro i9 i10 i11 i12 i13 i14 i15 i16 i17 i18 i19 i20  z f; first | rfl | (rw [m_L_isSo_l867, g_L_isSo_l867]; rfl)
  | succ fu ih =>
    intro i9 i10 i11 i12 i13 i14 i15 i16 i17 i18 i19 i20  z f
    rw [m_L_isSo_l867, g_L_isSo_l867]
    refine iteE (fun _ => ?_) (fun _ => ?_)
    · refine iteE (fun _ => ?_) (fun _ => ?_)
      · exact e_L_isSo_b1131 (hk806 := hk806) _ _ _ _ _ _ _ _ _ _  _ _
      · refine opS (aI_74.trans (ixl_4 _)) ?_
        refine opS (aI_74.trans (ixl_1 _)) ?_
        refine opS (aI_74.trans (ixl_4 _)) ?_
        refine opS (aI_74.trans (ixl_5 _)) ?_
        refine opM aI_70 (fun j5 hj5 => ?_)
        refine opS (aI_74.trans (ixl_2 _)) ?_
        refine opS (aI_74.trans (ixl_4 _)) ?_
        refine opS (aI_74.trans (ixl_6 _)) ?_
        refine opM aI_71 (fun j9 hj9 => ?_)
        refine opM aI_70 (fun j10 hj10 => ?_)
        refine opM aI_70 (fun j11 hj11 => ?_)
        refine opM aI_71 (fun j12 hj12 => ?_)
        refine opM aI_71 (fun j13 hj13 => ?_)
        refine opM aI_70 (fun j14 hj14 => ?_)
        refine opM aI_70 (fun j15 hj15 => ?_)
        refine opM aI_70 (fun j16 hj16 => ?_)
        refine opM aI_70 (fun j17 hj17 => ?_)
        refine opM aI_71 (fun j18 hj18 => ?_)
        refine opM aI_71 (fun j19 hj19 => ?_)
        refine opM aI_71 (fun j20 hj20 => ?_)
        refine opM aI_71 (fun j21 hj21 => ?_)
        refine caP (e_L_bits) (fun x22 => ?_)
        refine iteE (fun _ => ?_) (fun _ => ?_)
        · exact e_L_isSo_b1094 (hk806 := hk806) _ _ _ _ _ _ _ _ _ _ _  _ _
        · refine iteE (fun _ => ?_) (fun _ => ?_)
          · exact e_L_isSo_b1101 (hk806 := hk806) _ _ _ _ _ _ _ _ _ _ _  _ _
          · exact e_L_isSo_b1094 (hk806 := hk806) _ _ _ _ _ _ _ _ _ _ _  _ _
    · refine caP (e_L_isEdge) (fun x23 => ?_)
      refine iteE (fun _ => ?_) (fun _ => ?_)
      · exact e_L_isSo_b897 (hk806 := hk806) (hk867 := ih) _ _ _ _ _ _ _ _ _ _ _ _  _ _
      · exact e_L_isSo_b897 (hk806 := hk806) (hk867 := ih) _ _ _ _ _ _ _ _ _ _ _ _  _ _
def g_L_isSo_b856 (k806 : Int32 → Int32 → Int32 → Int32 → Int32 → Int32 → Int32 → Int32 → Int32 → Int32 → (Nat → Nat → Int32) → (Nat → Nat → Int32) → Option (Int32 × (Nat → Nat → Int32) × (Nat → Nat → Int32))) (i9 : Int32) (i10 : Int32) (i11 : Int32) (i12 : Int32) (i14 : Int32) (i15 : Int32) (i16 : Int32) (i17 : Int32) (i18 : Int32) (s0 : Int32) (z f : Nat → Nat → Int32) : Option (Int32 × (Nat → Nat → Int32) × (Nat → Nat → Int32)) :=
  g_L_isSo_l867 k806 FU i9 i10 i11 i12 s0 i14 i15 (i16 + 1) i17 i18 ((-1)) 0 z f
set_option maxRecDepth 100000 in
set_option maxHeartbeats 4000000 in
theorem e_L_isSo_b856 {r : LWd} {k806 : Nat → Nat → Nat → Nat → Nat → Nat → Nat → Nat → Nat → Int32 → Int32 → Int32 → Int32 → Int32 → Int32 → Int32 → Int32 → Int32 → Int32 → LWd → Option (Int32 × LWd)} {kg806 : Int32 → Int32 → Int32 → Int32 → Int32 → Int32 → Int32 → Int32 → Int32 → Int32 → (Nat → Nat → Int32) → (Nat → Nat → Int32) → Option (Int32 × (Nat → Nat → Int32) × (Nat → Nat → Int32))} (hk806 : ∀ (i9 : Int32) (i10 : Int32) (i11 : Int32) (i12 : Int32) (i13 : Int32) (i14 : Int32) (i15 : Int32) (i16 : Int32) (i17 : Int32) (i18 : Int32) (z f : Nat → Nat → Int32), k806 0 66 67 68 69 70 71 73 74 i9 i10 i11 i12 i13 i14 i15 i16 i17 i18 (wA z f r) = (kg806 i9 i10 i11 i12 i13 i14 i15 i16 i17 i18 z f).map (fun q => (q.1, wA q.2.1 q.2.2 r))) (i9 : Int32) (i10 : Int32) (i11 : Int32) (i12 : Int32) (i14 : Int32) (i15 : Int32) (i16 : Int32) (i17 : Int32) (i18 : Int32) (s0 : Int32) (z f : Nat → Nat → Int32) : m_L_isSo_b856 k806 0 66 67 68 69 70 71 73 74 i9 i10 i11 i12 i14 i15 i16 i17 i18 s0 (wA z f r) = (g_L_isSo_b856 kg806 i9 i10 i11 i12 i14 i15 i16 i17 i18 s0 z f).map (fun q => (q.1, wA q.2.1 q.2.2 r)) := by
  unfold m_L_isSo_b856 g_L_isSo_b856
  exact e_L_isSo_l867 (hk806 := hk806) FU _ _ _ _ _ _ _ _ _ _ _ _  _ _
def g_L_isSo_b828 (k806 : Int32 → Int32 → Int32 → Int32 → Int32 → Int32 → Int32 → Int32 → Int32 → Int32 → (Nat → Nat → Int32) → (Nat → Nat → Int32) → Option (Int32 × (Nat → Nat → Int32) × (Nat → Nat → Int32))) (i9 : Int32) (i10 : Int32) (i11 : Int32) (i12 : Int32) (i14 : Int32) (i15 : Int32) (i16 : Int32) (i17 : Int32) (i18 : Int32) (z f : Nat → Nat → Int32) : Option (Int32 × (Nat → Nat → Int32) × (Nat → Nat → Int32)) :=
  bn3 (nthW (g_X10_corner i16 z f)) fun x1 z2 u3 =>
  (ixA 6 i14).bind fun j4 =>
  (ixA 6 i14).bind fun j5 =>
  if x1 = ((20 * (u3 71 j4)) + (u3 70 j5)) then
    g_L_isSo_b856 k806 i9 i10 i11 i12 i14 i15 i16 i17 i18 1 z2 u3
  else
    g_L_isSo_b856 k806 i9 i10 i11 i12 i14 i15 i16 i17 i18 0 z2 u3
set_option maxRecDepth 100000 in
set_option maxHeartbeats 4000000 in
theorem e_L_isSo_b828 {r : LWd} {k806 : Nat → Nat → Nat → Nat → Nat → Nat → Nat → Nat → Nat → Int32 → Int32 → Int32 → Int32 → Int32 → Int32 → Int32 → Int32 → Int32 → Int32 → LWd → Option (Int32 × LWd)} {kg806 : Int32 → Int32 → Int32 → Int32 → Int32 → Int32 → Int32 → Int32 → Int32 → Int32 → (Nat → Nat → Int32) → (Nat → Nat → Int32) → Option (Int32 × (Nat → Nat → Int32) × (Nat → Nat → Int32))} (hk806 : ∀ (i9 : Int32) (i10 : Int32) (i11 : Int32) (i12 : Int32) (i13 : Int32) (i14 : Int32) (i15 : Int32) (i16 : Int32) (i17 : Int32) (i18 : Int32) (z f : Nat → Nat → Int32), k806 0 66 67 68 69 70 71 73 74 i9 i10 i11 i12 i13 i14 i15 i16 i17 i18 (wA z f r) = (kg806 i9 i10 i11 i12 i13 i14 i15 i16 i17 i18 z f).map (fun q => (q.1, wA q.2.1 q.2.2 r))) (i9 : Int32) (i10 : Int32) (i11 : Int32) (i12 : Int32) (i14 : Int32) (i15 : Int32) (i16 : Int32) (i17 : Int32) (i18 : Int32) (z f : Nat → Nat → Int32) : m_L_isSo_b828 k806 0 66 67 68 69 70 71 73 74 i9 i10 i11 i12 i14 i15 i16 i17 i18 (wA z f r) = (g_L_isSo_b828 kg806 i9 i10 i11 i12 i14 i15 i16 i17 i18 z f).map (fun q => (q.1, wA q.2.1 q.2.2 r)) := by
  unfold m_L_isSo_b828 g_L_isSo_b828
  refine caW (nt_w (e_X10_corner)) (fun _ _ => wA_len) (fun x1 z2 u3 => ?_)
  refine opM aI_71 (fun j4 hj4 => ?_)
  refine opM aI_70 (fun j5 hj5 => ?_)
  refine iteE (fun _ => ?_) (fun _ => ?_)
  · exact e_L_isSo_b856 (hk806 := hk806) _ _ _ _ _ _ _ _ _ _  _ _
  · exact e_L_isSo_b856 (hk806 := hk806) _ _ _ _ _ _ _ _ _ _  _ _
def g_L_isSo_l806 : Nat → Int32 → Int32 → Int32 → Int32 → Int32 → Int32 → Int32 → Int32 → Int32 → Int32 → (Nat → Nat → Int32) → (Nat → Nat → Int32) → Option (Int32 × (Nat → Nat → Int32) × (Nat → Nat → Int32))
  | 0, _, _, _, _, _, _, _, _, _, _, _, _ => none
  | fu + 1, i9, i10, i11, i12, i13, i14, i15, i16, i17, i18, z, f =>
    if i14 < 0 then
      g_L_isSo_b1138 i9 i10 i12 i13 i16 i17 i18 z f
    else
      if i13 = 0 then
        g_L_isSo_b1138 i9 i10 i12 i13 i16 i17 i18 z f
      else
        if i16 = 0 then
          g_L_isSo_b828 (fun y0 y1 y2 y3 y4 y5 y6 y7 y8 y9 z f => g_L_isSo_l806 fu y0 y1 y2 y3 y4 y5 y6 y7 y8 y9 z f) i9 i10 i11 i12 i14 i15 i16 i17 i18 z f
        else
          if i14 = i15 then
            g_L_isSo_b1138 i9 i10 i12 i13 i16 i17 i18 z f
          else
            g_L_isSo_b828 (fun y0 y1 y2 y3 y4 y5 y6 y7 y8 y9 z f => g_L_isSo_l806 fu y0 y1 y2 y3 y4 y5 y6 y7 y8 y9 z f) i9 i10 i11 i12 i14 i15 i16 i17 i18 z f
set_option maxRecDepth 100000 in
set_option maxHeartbeats 4000000 in
theorem e_L_isSo_l806 {r : LWd} : ∀ (fu : Nat) (i9 : Int32) (i10 : Int32) (i11 : Int32) (i12 : Int32) (i13 : Int32) (i14 : Int32) (i15 : Int32) (i16 : Int32) (i17 : Int32) (i18 : Int32) (z f : Nat → Nat → Int32), m_L_isSo_l806 fu 0 66 67 68 69 70 71 73 74 i9 i10 i11 i12 i13 i14 i15 i16 i17 i18 (wA z f r) = (g_L_isSo_l806 fu i9 i10 i11 i12 i13 i14 i15 i16 i17 i18 z f).map (fun q => (q.1, wA q.2.1 q.2.2 r)) := by
  intro fu
  induction fu with
  | zero => intro i9 i10 i11 i12 i13 i14 i15 i16 i17 i18  z f; first | rfl | (rw [m_L_isSo_l806, g_L_isSo_l806]; rfl)
  | succ fu ih =>
    intro i9 i10 i11 i12 i13 i14 i15 i16 i17 i18  z f
    rw [m_L_isSo_l806, g_L_isSo_l806]
    refine iteE (fun _ => ?_) (fun _ => ?_)
    · exact e_L_isSo_b1138 _ _ _ _ _ _ _  _ _
    · refine iteE (fun _ => ?_) (fun _ => ?_)
      · exact e_L_isSo_b1138 _ _ _ _ _ _ _  _ _
      · refine iteE (fun _ => ?_) (fun _ => ?_)
        · exact e_L_isSo_b828 (hk806 := ih) _ _ _ _ _ _ _ _ _  _ _
        · refine iteE (fun _ => ?_) (fun _ => ?_)
          · exact e_L_isSo_b1138 _ _ _ _ _ _ _  _ _
          · exact e_L_isSo_b828 (hk806 := ih) _ _ _ _ _ _ _ _ _  _ _
def g_L_isSo_b785 (k712 : Int32 → Int32 → Int32 → Int32 → Int32 → Int32 → Int32 → (Nat → Nat → Int32) → (Nat → Nat → Int32) → Option (Int32 × (Nat → Nat → Int32) × (Nat → Nat → Int32))) (i9 : Int32) (i10 : Int32) (i11 : Int32) (i12 : Int32) (i13 : Int32) (i15 : Int32) (s0 : Int32) (z f : Nat → Nat → Int32) : Option (Int32 × (Nat → Nat → Int32) × (Nat → Nat → Int32)) :=
  k712 i9 i10 i11 i12 i13 s0 (i15 + 1) z f
set_option maxRecDepth 100000 in
set_option maxHeartbeats 4000000 in
theorem e_L_isSo_b785 {r : LWd} {k712 : Nat → Nat → Nat → Nat → Nat → Nat → Nat → Nat → Nat → Int32 → Int32 → Int32 → Int32 → Int32 → Int32 → Int32 → LWd → Option (Int32 × LWd)} {kg712 : Int32 → Int32 → Int32 → Int32 → Int32 → Int32 → Int32 → (Nat → Nat → Int32) → (Nat → Nat → Int32) → Option (Int32 × (Nat → Nat → Int32) × (Nat → Nat → Int32))} (hk712 : ∀ (i9 : Int32) (i10 : Int32) (i11 : Int32) (i12 : Int32) (i13 : Int32) (i14 : Int32) (i15 : Int32) (z f : Nat → Nat → Int32), k712 0 66 67 68 69 70 71 73 74 i9 i10 i11 i12 i13 i14 i15 (wA z f r) = (kg712 i9 i10 i11 i12 i13 i14 i15 z f).map (fun q => (q.1, wA q.2.1 q.2.2 r))) (i9 : Int32) (i10 : Int32) (i11 : Int32) (i12 : Int32) (i13 : Int32) (i15 : Int32) (s0 : Int32) (z f : Nat → Nat → Int32) : m_L_isSo_b785 k712 0 66 67 68 69 70 71 73 74 i9 i10 i11 i12 i13 i15 s0 (wA z f r) = (g_L_isSo_b785 kg712 i9 i10 i11 i12 i13 i15 s0 z f).map (fun q => (q.1, wA q.2.1 q.2.2 r)) := by
  unfold m_L_isSo_b785 g_L_isSo_b785
  exact hk712 _ _ _ _ _ _ _  _ _
def g_L_isSo_b771 (k712 : Int32 → Int32 → Int32 → Int32 → Int32 → Int32 → Int32 → (Nat → Nat → Int32) → (Nat → Nat → Int32) → Option (Int32 × (Nat → Nat → Int32) × (Nat → Nat → Int32))) (i9 : Int32) (i10 : Int32) (i11 : Int32) (i12 : Int32) (i13 : Int32) (i14 : Int32) (i15 : Int32) (s0 : Int32) (z f : Nat → Nat → Int32) : Option (Int32 × (Nat → Nat → Int32) × (Nat → Nat → Int32)) :=
  if s0 = 0 then
    g_L_isSo_b785 k712 i9 i10 i11 i12 i13 i15 i14 z f
  else
    g_L_isSo_b785 k712 i9 i10 i11 i12 i13 i15 i15 z f
set_option maxRecDepth 100000 in
set_option maxHeartbeats 4000000 in
theorem e_L_isSo_b771 {r : LWd} {k712 : Nat → Nat → Nat → Nat → Nat → Nat → Nat → Nat → Nat → Int32 → Int32 → Int32 → Int32 → Int32 → Int32 → Int32 → LWd → Option (Int32 × LWd)} {kg712 : Int32 → Int32 → Int32 → Int32 → Int32 → Int32 → Int32 → (Nat → Nat → Int32) → (Nat → Nat → Int32) → Option (Int32 × (Nat → Nat → Int32) × (Nat → Nat → Int32))} (hk712 : ∀ (i9 : Int32) (i10 : Int32) (i11 : Int32) (i12 : Int32) (i13 : Int32) (i14 : Int32) (i15 : Int32) (z f : Nat → Nat → Int32), k712 0 66 67 68 69 70 71 73 74 i9 i10 i11 i12 i13 i14 i15 (wA z f r) = (kg712 i9 i10 i11 i12 i13 i14 i15 z f).map (fun q => (q.1, wA q.2.1 q.2.2 r))) (i9 : Int32) (i10 : Int32) (i11 : Int32) (i12 : Int32) (i13 : Int32) (i14 : Int32) (i15 : Int32) (s0 : Int32) (z f : Nat → Nat → Int32) : m_L_isSo_b771 k712 0 66 67 68 69 70 71 73 74 i9 i10 i11 i12 i13 i14 i15 s0 (wA z f r) = (g_L_isSo_b771 kg712 i9 i10 i11 i12 i13 i14 i15 s0 z f).map (fun q => (q.1, wA q.2.1 q.2.2 r)) := by
  unfold m_L_isSo_b771 g_L_isSo_b771
  refine iteE (fun _ => ?_) (fun _ => ?_)
  · exact e_L_isSo_b785 (hk712 := hk712) _ _ _ _ _ _ _  _ _
  · exact e_L_isSo_b785 (hk712 := hk712) _ _ _ _ _ _ _  _ _
def g_L_isSo_b770 (k712 : Int32 → Int32 → Int32 → Int32 → Int32 → Int32 → Int32 → (Nat → Nat → Int32) → (Nat → Nat → Int32) → Option (Int32 × (Nat → Nat → Int32) × (Nat → Nat → Int32))) (i9 : Int32) (i10 : Int32) (i11 : Int32) (i12 : Int32) (i13 : Int32) (i14 : Int32) (i15 : Int32) (z f : Nat → Nat → Int32) : Option (Int32 × (Nat → Nat → Int32) × (Nat → Nat → Int32)) :=
  g_L_isSo_b771 k712 i9 i10 i11 i12 i13 i14 i15 0 z f
set_option maxRecDepth 100000 in
set_option maxHeartbeats 4000000 in
theorem e_L_isSo_b770 {r : LWd} {k712 : Nat → Nat → Nat → Nat → Nat → Nat → Nat → Nat → Nat → Int32 → Int32 → Int32 → Int32 → Int32 → Int32 → Int32 → LWd → Option (Int32 × LWd)} {kg712 : Int32 → Int32 → Int32 → Int32 → Int32 → Int32 → Int32 → (Nat → Nat → Int32) → (Nat → Nat → Int32) → Option (Int32 × (Nat → Nat → Int32) × (Nat → Nat → Int32))} (hk712 : ∀ (i9 : Int32) (i10 : Int32) (i11 : Int32) (i12 : Int32) (i13 : Int32) (i14 : Int32) (i15 : Int32) (z f : Nat → Nat → Int32), k712 0 66 67 68 69 70 71 73 74 i9 i10 i11 i12 i13 i14 i15 (wA z f r) = (kg712 i9 i10 i11 i12 i13 i14 i15 z f).map (fun q => (q.1, wA q.2.1 q.2.2 r))) (i9 : Int32) (i10 : Int32) (i11 : Int32) (i12 : Int32) (i13 : Int32) (i14 : Int32) (i15 : Int32) (z f : Nat → Nat → Int32) : m_L_isSo_b770 k712 0 66 67 68 69 70 71 73 74 i9 i10 i11 i12 i13 i14 i15 (wA z f r) = (g_L_isSo_b770 kg712 i9 i10 i11 i12 i13 i14 i15 z f).map (fun q => (q.1, wA q.2.1 q.2.2 r)) := by
  unfold m_L_isSo_b770 g_L_isSo_b770
  exact e_L_isSo_b771 (hk712 := hk712) _ _ _ _ _ _ _ _  _ _
def g_L_isSo_b766 (k712 : Int32 → Int32 → Int32 → Int32 → Int32 → Int32 → Int32 → (Nat → Nat → Int32) → (Nat → Nat → Int32) → Option (Int32 × (Nat → Nat → Int32) × (Nat → Nat → Int32))) (i9 : Int32) (i10 : Int32) (i11 : Int32) (i12 : Int32) (i13 : Int32) (i14 : Int32) (i15 : Int32) (z f : Nat → Nat → Int32) : Option (Int32 × (Nat → Nat → Int32) × (Nat → Nat → Int32)) :=
  g_L_isSo_b771 k712 i9 i10 i11 i12 i13 i14 i15 1 z f
set_option maxRecDepth 100000 in
set_option maxHeartbeats 4000000 in
theorem e_L_isSo_b766 {r : LWd} {k712 : Nat → Nat → Nat → Nat → Nat → Nat → Nat → Nat → Nat → Int32 → Int32 → Int32 → Int32 → Int32 → Int32 → Int32 → LWd → Option (Int32 × LWd)} {kg712 : Int32 → Int32 → Int32 → Int32 → Int32 → Int32 → Int32 → (Nat → Nat → Int32) → (Nat → Nat → Int32) → Option (Int32 × (Nat → Nat → Int32) × (Nat → Nat → Int32))} (hk712 : ∀ (i9 : Int32) (i10 : Int32) (i11 : Int32) (i12 : Int32) (i13 : Int32) (i14 : Int32) (i15 : Int32) (z f : Nat → Nat → Int32), k712 0 66 67 68 69 70 71 73 74 i9 i10 i11 i12 i13 i14 i15 (wA z f r) = (kg712 i9 i10 i11 i12 i13 i14 i15 z f).map (fun q => (q.1, wA q.2.1 q.2.2 r))) (i9 : Int32) (i10 : Int32) (i11 : Int32) (i12 : Int32) (i13 : Int32) (i14 : Int32) (i15 : Int32) (z f : Nat → Nat → Int32) : m_L_isSo_b766 k712 0 66 67 68 69 70 71 73 74 i9 i10 i11 i12 i13 i14 i15 (wA z f r) = (g_L_isSo_b766 kg712 i9 i10 i11 i12 i13 i14 i15 z f).map (fun q => (q.1, wA q.2.1 q.2.2 r)) := by
  unfold m_L_isSo_b766 g_L_isSo_b766
  exact e_L_isSo_b771 (hk712 := hk712) _ _ _ _ _ _ _ _  _ _
def g_L_isSo_l712 : Nat → Int32 → Int32 → Int32 → Int32 → Int32 → Int32 → Int32 → (Nat → Nat → Int32) → (Nat → Nat → Int32) → Option (Int32 × (Nat → Nat → Int32) × (Nat → Nat → Int32))
  | 0, _, _, _, _, _, _, _, _, _ => none
  | fu + 1, i9, i10, i11, i12, i13, i14, i15, z, f =>
    if 6 ≤ i15 then
      g_L_isSo_l806 FU i9 i10 i11 i12 i13 i14 i14 0 0 0 z f
    else
      if ((i11 >>> (i15 &&& 31)) &&& 1) = 1 then
        if i14 < 0 then
          g_L_isSo_b766 (fun y0 y1 y2 y3 y4 y5 y6 z f => g_L_isSo_l712 fu y0 y1 y2 y3 y4 y5 y6 z f) i9 i10 i11 i12 i13 i14 i15 z f
        else
          (ixA 6 i15).bind fun j1 =>
          (ixA 6 i15).bind fun j2 =>
          (ixA 6 i14).bind fun j3 =>
          (ixA 6 i14).bind fun j4 =>
          if ((20 * (f 71 j3)) + (f 70 j4)) ≤ ((20 * (f 71 j1)) + (f 70 j2)) then
            g_L_isSo_b770 (fun y0 y1 y2 y3 y4 y5 y6 z f => g_L_isSo_l712 fu y0 y1 y2 y3 y4 y5 y6 z f) i9 i10 i11 i12 i13 i14 i15 z f
          else
            g_L_isSo_b766 (fun y0 y1 y2 y3 y4 y5 y6 z f => g_L_isSo_l712 fu y0 y1 y2 y3 y4 y5 y6 z f) i9 i10 i11 i12 i13 i14 i15 z f
      else
        g_L_isSo_b770 (fun y0 y1 y2 y3 y4 y5 y6 z f => g_L_isSo_l712 fu y0 y1 y2 y3 y4 y5 y6 z f) i9 i10 i11 i12 i13 i14 i15 z f
set_option maxRecDepth 100000 in
set_option maxHeartbeats 4000000 in
theorem e_L_isSo_l712 {r : LWd} : ∀ (fu : Nat) (i9 : Int32) (i10 : Int32) (i11 : Int32) (i12 : Int32) (i13 : Int32) (i14 : Int32) (i15 : Int32) (z f : Nat → Nat → Int32), m_L_isSo_l712 fu 0 66 67 68 69 70 71 73 74 i9 i10 i11 i12 i13 i14 i15 (wA z f r) = (g_L_isSo_l712 fu i9 i10 i11 i12 i13 i14 i15 z f).map (fun q => (q.1, wA q.2.1 q.2.2 r)) := by
  intro fu
  induction fu with
  | zero => intro i9 i10 i11 i12 i13 i14 i15  z f; first | rfl | (rw [m_L_isSo_l712, g_L_isSo_l712]; rfl)
  | succ fu ih =>
    intro i9 i10 i11 i12 i13 i14 i15  z f
    rw [m_L_isSo_l712, g_L_isSo_l712]
    refine iteE (fun _ => ?_) (fun _ => ?_)
    · exact e_L_isSo_l806 FU _ _ _ _ _ _ _ _ _ _  _ _
    · refine iteE (fun _ => ?_) (fun _ => ?_)
      · refine iteE (fun _ => ?_) (fun _ => ?_)
        · exact e_L_isSo_b766 (hk712 := ih) _ _ _ _ _ _ _  _ _
        · refine opM aI_71 (fun j1 hj1 => ?_)
          refine opM aI_70 (fun j2 hj2 => ?_)
          refine opM aI_71 (fun j3 hj3 => ?_)
          refine opM aI_70 (fun j4 hj4 => ?_)
          refine iteE (fun _ => ?_) (fun _ => ?_)
          · exact e_L_isSo_b770 (hk712 := ih) _ _ _ _ _ _ _  _ _
          · exact e_L_isSo_b766 (hk712 := ih) _ _ _ _ _ _ _  _ _
      · exact e_L_isSo_b770 (hk712 := ih) _ _ _ _ _ _ _  _ _
def g_L_isSo_b706 (i9 : Int32) (i10 : Int32) (i11 : Int32) (i12 : Int32) (i13 : Int32) (z f : Nat → Nat → Int32) : Option (Int32 × (Nat → Nat → Int32) × (Nat → Nat → Int32)) :=
  g_L_isSo_l712 FU i9 i10 i11 i12 i13 ((-1)) 0 z f
set_option maxRecDepth 100000 in
set_option maxHeartbeats 4000000 in
theorem e_L_isSo_b706 {r : LWd} (i9 : Int32) (i10 : Int32) (i11 : Int32) (i12 : Int32) (i13 : Int32) (z f : Nat → Nat → Int32) : m_L_isSo_b706 0 66 67 68 69 70 71 73 74 i9 i10 i11 i12 i13 (wA z f r) = (g_L_isSo_b706 i9 i10 i11 i12 i13 z f).map (fun q => (q.1, wA q.2.1 q.2.2 r)) := by
  unfold m_L_isSo_b706 g_L_isSo_b706
  exact e_L_isSo_l712 FU _ _ _ _ _ _ _  _ _
def g_L_isSo_b698 (k224 : Int32 → Int32 → Int32 → Int32 → Int32 → Int32 → (Nat → Nat → Int32) → (Nat → Nat → Int32) → Option (Int32 × (Nat → Nat → Int32) × (Nat → Nat → Int32))) (i9 : Int32) (i10 : Int32) (i11 : Int32) (i12 : Int32) (i14 : Int32) (s0 : Int32) (z f : Nat → Nat → Int32) : Option (Int32 × (Nat → Nat → Int32) × (Nat → Nat → Int32)) :=
  k224 i9 i10 i11 i12 s0 (i14 + 1) z f
set_option maxRecDepth 100000 in
set_option maxHeartbeats 4000000 in
theorem e_L_isSo_b698 {r : LWd} {k224 : Nat → Nat → Nat → Nat → Nat → Nat → Nat → Nat → Nat → Int32 → Int32 → Int32 → Int32 → Int32 → Int32 → LWd → Option (Int32 × LWd)} {kg224 : Int32 → Int32 → Int32 → Int32 → Int32 → Int32 → (Nat → Nat → Int32) → (Nat → Nat → Int32) → Option (Int32 × (Nat → Nat → Int32) × (Nat → Nat → Int32))} (hk224 : ∀ (i9 : Int32) (i10 : Int32) (i11 : Int32) (i12 : Int32) (i13 : Int32) (i14 : Int32) (z f : Nat → Nat → Int32), k224 0 66 67 68 69 70 71 73 74 i9 i10 i11 i12 i13 i14 (wA z f r) = (kg224 i9 i10 i11 i12 i13 i14 z f).map (fun q => (q.1, wA q.2.1 q.2.2 r))) (i9 : Int32) (i10 : Int32) (i11 : Int32) (i12 : Int32) (i14 : Int32) (s0 : Int32) (z f : Nat → Nat → Int32) : m_L_isSo_b698 k224 0 66 67 68 69 70 71 73 74 i9 i10 i11 i12 i14 s0 (wA z f r) = (g_L_isSo_b698 kg224 i9 i10 i11 i12 i14 s0 z f).map (fun q => (q.1, wA q.2.1 q.2.2 r)) := by
  unfold m_L_isSo_b698 g_L_isSo_b698
  exact hk224 _ _ _ _ _ _  _ _
def g_L_isSo_b697 (k224 : Int32 → Int32 → Int32 → Int32 → Int32 → Int32 → (Nat → Nat → Int32) → (Nat → Nat → Int32) → Option (Int32 × (Nat → Nat → Int32) × (Nat → Nat → Int32))) (i9 : Int32) (i10 : Int32) (i11 : Int32) (i12 : Int32) (i14 : Int32) (z f : Nat → Nat → Int32) : Option (Int32 × (Nat → Nat → Int32) × (Nat → Nat → Int32)) :=
  g_L_isSo_b698 k224 i9 i10 i11 i12 i14 0 z f
set_option maxRecDepth 100000 in
set_option maxHeartbeats 4000000 in
theorem e_L_isSo_b697 {r : LWd} {k224 : Nat → Nat → Nat → Nat → Nat → Nat → Nat → Nat → Nat → Int32 → Int32 → Int32 → Int32 → Int32 → Int32 → LWd → Option (Int32 × LWd)} {kg224 : Int32 → Int32 → Int32 → Int32 → Int32 → Int32 → (Nat → Nat → Int32) → (Nat → Nat → Int32) → Option (Int32 × (Nat → Nat → Int32) × (Nat → Nat → Int32))} (hk224 : ∀ (i9 : Int32) (i10 : Int32) (i11 : Int32) (i12 : Int32) (i13 : Int32) (i14 : Int32) (z f : Nat → Nat → Int32), k224 0 66 67 68 69 70 71 73 74 i9 i10 i11 i12 i13 i14 (wA z f r) = (kg224 i9 i10 i11 i12 i13 i14 z f).map (fun q => (q.1, wA q.2.1 q.2.2 r))) (i9 : Int32) (i10 : Int32) (i11 : Int32) (i12 : Int32) (i14 : Int32) (z f : Nat → Nat → Int32) : m_L_isSo_b697 k224 0 66 67 68 69 70 71 73 74 i9 i10 i11 i12 i14 (wA z f r) = (g_L_isSo_b697 kg224 i9 i10 i11 i12 i14 z f).map (fun q => (q.1, wA q.2.1 q.2.2 r)) := by
  unfold m_L_isSo_b697 g_L_isSo_b697
  exact e_L_isSo_b698 (hk224 := hk224) _ _ _ _ _ _  _ _
def g_L_isSo_b677 (k224 : Int32 → Int32 → Int32 → Int32 → Int32 → Int32 → (Nat → Nat → Int32) → (Nat → Nat → Int32) → Option (Int32 × (Nat → Nat → Int32) × (Nat → Nat → Int32))) (i9 : Int32) (i10 : Int32) (i11 : Int32) (i12 : Int32) (i13 : Int32) (i14 : Int32) (i21 : Int32) (z f : Nat → Nat → Int32) : Option (Int32 × (Nat → Nat → Int32) × (Nat → Nat → Int32)) :=
  if i13 = 0 then
    g_L_isSo_b697 k224 i9 i10 i11 i12 i14 z f
  else
    bn3 (nthW (g_X10_wouldLift i14 z f)) fun x1 z2 u3 =>
    if x1 = i21 then
      g_L_isSo_b698 k224 i9 i10 i11 i12 i14 1 z2 u3
    else
      g_L_isSo_b697 k224 i9 i10 i11 i12 i14 z2 u3
set_option maxRecDepth 100000 in
set_option maxHeartbeats 4000000 in
theorem e_L_isSo_b677 {r : LWd} {k224 : Nat → Nat → Nat → Nat → Nat → Nat → Nat → Nat → Nat → Int32 → Int32 → Int32 → Int32 → Int32 → Int32 → LWd → Option (Int32 × LWd)} {kg224 : Int32 → Int32 → Int32 → Int32 → Int32 → Int32 → (Nat → Nat → Int32) → (Nat → Nat → Int32) → Option (Int32 × (Nat → Nat → Int32) × (Nat → Nat → Int32))} (hk224 : ∀ (i9 : Int32) (i10 : Int32) (i11 : Int32) (i12 : Int32) (i13 : Int32) (i14 : Int32) (z f : Nat → Nat → Int32), k224 0 66 67 68 69 70 71 73 74 i9 i10 i11 i12 i13 i14 (wA z f r) = (kg224 i9 i10 i11 i12 i13 i14 z f).map (fun q => (q.1, wA q.2.1 q.2.2 r))) (i9 : Int32) (i10 : Int32) (i11 : Int32) (i12 : Int32) (i13 : Int32) (i14 : Int32) (i21 : Int32) (z f : Nat → Nat → Int32) : m_L_isSo_b677 k224 0 66 67 68 69 70 71 73 74 i9 i10 i11 i12 i13 i14 i21 (wA z f r) = (g_L_isSo_b677 kg224 i9 i10 i11 i12 i13 i14 i21 z f).map (fun q => (q.1, wA q.2.1 q.2.2 r)) := by
  unfold m_L_isSo_b677 g_L_isSo_b677
  refine iteE (fun _ => ?_) (fun _ => ?_)
  · exact e_L_isSo_b697 (hk224 := hk224) _ _ _ _ _  _ _
  · refine caW (nt_w (e_X10_wouldLift)) (fun _ _ => wA_len) (fun x1 z2 u3 => ?_)
    refine iteE (fun _ => ?_) (fun _ => ?_)
    · exact e_L_isSo_b698 (hk224 := hk224) _ _ _ _ _ _  _ _
    · exact e_L_isSo_b697 (hk224 := hk224) _ _ _ _ _  _ _
def g_L_isSo_b675 (k224 : Int32 → Int32 → Int32 → Int32 → Int32 → Int32 → (Nat → Nat → Int32) → (Nat → Nat → Int32) → Option (Int32 × (Nat → Nat → Int32) × (Nat → Nat → Int32))) (i9 : Int32) (i10 : Int32) (i11 : Int32) (i12 : Int32) (i13 : Int32) (i14 : Int32) (s0 : Int32) (z f : Nat → Nat → Int32) : Option (Int32 × (Nat → Nat → Int32) × (Nat → Nat → Int32)) :=
  g_L_isSo_b677 k224 i9 i10 i11 i12 i13 i14 s0 z f
set_option maxRecDepth 100000 in
set_option maxHeartbeats 4000000 in
theorem e_L_isSo_b675 {r : LWd} {k224 : Nat → Nat → Nat → Nat → Nat → Nat → Nat → Nat → Nat → Int32 → Int32 → Int32 → Int32 → Int32 → Int32 → LWd → Option (Int32 × LWd)} {kg224 : Int32 → Int32 → Int32 → Int32 → Int32 → Int32 → (Nat → Nat → Int32) → (Nat → Nat → Int32) → Option (Int32 × (Nat → Nat → Int32) × (Nat → Nat → Int32))} (hk224 : ∀ (i9 : Int32) (i10 : Int32) (i11 : Int32) (i12 : Int32) (i13 : Int32) (i14 : Int32) (z f : Nat → Nat → Int32), k224 0 66 67 68 69 70 71 73 74 i9 i10 i11 i12 i13 i14 (wA z f r) = (kg224 i9 i10 i11 i12 i13 i14 z f).map (fun q => (q.1, wA q.2.1 q.2.2 r))) (i9 : Int32) (i10 : Int32) (i11 : Int32) (i12 : Int32) (i13 : Int32) (i14 : Int32) (s0 : Int32) (z f : Nat → Nat → Int32) : m_L_isSo_b675 k224 0 66 67 68 69 70 71 73 74 i9 i10 i11 i12 i13 i14 s0 (wA z f r) = (g_L_isSo_b675 kg224 i9 i10 i11 i12 i13 i14 s0 z f).map (fun q => (q.1, wA q.2.1 q.2.2 r)) := by
  unfold m_L_isSo_b675 g_L_isSo_b675
  exact e_L_isSo_b677 (hk224 := hk224) _ _ _ _ _ _ _  _ _
def g_L_isSo_l623 (k224 : Int32 → Int32 → Int32 → Int32 → Int32 → Int32 → (Nat → Nat → Int32) → (Nat → Nat → Int32) → Option (Int32 × (Nat → Nat → Int32) × (Nat → Nat → Int32))) : Nat → Int32 → Int32 → Int32 → Int32 → Int32 → Int32 → Int32 → Int32 → Int32 → (Nat → Nat → Int32) → (Nat → Nat → Int32) → Option (Int32 × (Nat → Nat → Int32) × (Nat → Nat → Int32))
  | 0, _, _, _, _, _, _, _, _, _, _, _ => none
  | fu + 1, i9, i10, i11, i12, i13, i14, i20, i21, i22, z, f =>
    if i22 ≤ 0 then
      (g_L_holds i20 z f).bind fun x1 =>
      if x1 = 0 then
        g_L_isSo_b675 k224 i9 i10 i11 i12 i13 i14 2 z f
      else
        g_L_isSo_b675 k224 i9 i10 i11 i12 i13 i14 i21 z f
    else
      (g_L_sinking (i20 - i22) z f).bind fun x2 =>
      g_L_isSo_l623 k224 fu i9 i10 i11 i12 i13 i14 (i20 - i22) 1 x2 z f
set_option maxRecDepth 100000 in
set_option maxHeartbeats 4000000 in
theorem e_L_isSo_l623 {r : LWd} {k224 : Nat → Nat → Nat → Nat → Nat → Nat → Nat → Nat → Nat → Int32 → Int32 → Int32 → Int32 → Int32 → Int32 → LWd → Option (Int32 × LWd)} {kg224 : Int32 → Int32 → Int32 → Int32 → Int32 → Int32 → (Nat → Nat → Int32) → (Nat → Nat → Int32) → Option (Int32 × (Nat → Nat → Int32) × (Nat → Nat → Int32))} (hk224 : ∀ (i9 : Int32) (i10 : Int32) (i11 : Int32) (i12 : Int32) (i13 : Int32) (i14 : Int32) (z f : Nat → Nat → Int32), k224 0 66 67 68 69 70 71 73 74 i9 i10 i11 i12 i13 i14 (wA z f r) = (kg224 i9 i10 i11 i12 i13 i14 z f).map (fun q => (q.1, wA q.2.1 q.2.2 r))) : ∀ (fu : Nat) (i9 : Int32) (i10 : Int32) (i11 : Int32) (i12 : Int32) (i13 : Int32) (i14 : Int32) (i20 : Int32) (i21 : Int32) (i22 : Int32) (z f : Nat → Nat → Int32), m_L_isSo_l623 k224 fu 0 66 67 68 69 70 71 73 74 i9 i10 i11 i12 i13 i14 i20 i21 i22 (wA z f r) = (g_L_isSo_l623 kg224 fu i9 i10 i11 i12 i13 i14 i20 i21 i22 z f).map (fun q => (q.1, wA q.2.1 q.2.2 r)) := by
  intro fu
  induction fu with
  | zero => intro i9 i10 i11 i12 i13 i14 i20 i21 i22  z f; first | rfl | (rw [m_L_isSo_l623, g_L_isSo_l623]; rfl)
  | succ fu ih =>
    intro i9 i10 i11 i12 i13 i14 i20 i21 i22  z f
    rw [m_L_isSo_l623, g_L_isSo_l623]
    refine iteE (fun _ => ?_) (fun _ => ?_)
    · refine caP (e_L_holds) (fun x1 => ?_)
      refine iteE (fun _ => ?_) (fun _ => ?_)
      · exact e_L_isSo_b675 (hk224 := hk224) _ _ _ _ _ _ _  _ _
      · exact e_L_isSo_b675 (hk224 := hk224) _ _ _ _ _ _ _  _ _
    · refine caP (e_L_sinking) (fun x2 => ?_)
      exact ih _ _ _ _ _ _ _ _ _  _ _
def g_L_isSo_b602 (k224 : Int32 → Int32 → Int32 → Int32 → Int32 → Int32 → (Nat → Nat → Int32) → (Nat → Nat → Int32) → Option (Int32 × (Nat → Nat → Int32) × (Nat → Nat → Int32))) (i9 : Int32) (i10 : Int32) (i11 : Int32) (i12 : Int32) (i13 : Int32) (i14 : Int32) (i20 : Int32) (s0 : Int32) (z f : Nat → Nat → Int32) : Option (Int32 × (Nat → Nat → Int32) × (Nat → Nat → Int32)) :=
  if s0 = 0 then
    (g_L_sinking i20 z f).bind fun x1 =>
    g_L_isSo_l623 k224 FU i9 i10 i11 i12 i13 i14 i20 s0 x1 z f
  else
    g_L_isSo_b677 k224 i9 i10 i11 i12 i13 i14 s0 z f
set_option maxRecDepth 100000 in
set_option maxHeartbeats 4000000 in
theorem e_L_isSo_b602 {r : LWd} {k224 : Nat → Nat → Nat → Nat → Nat → Nat → Nat → Nat → Nat → Int32 → Int32 → Int32 → Int32 → Int32 → Int32 → LWd → Option (Int32 × LWd)} {kg224 : Int32 → Int32 → Int32 → Int32 → Int32 → Int32 → (Nat → Nat → Int32) → (Nat → Nat → Int32) → Option (Int32 × (Nat → Nat → Int32) × (Nat → Nat → Int32))} (hk224 : ∀ (i9 : Int32) (i10 : Int32) (i11 : Int32) (i12 : Int32) (i13 : Int32) (i14 : Int32) (z f : Nat → Nat → Int32), k224 0 66 67 68 69 70 71 73 74 i9 i10 i11 i12 i13 i14 (wA z f r) = (kg224 i9 i10 i11 i12 i13 i14 z f).map (fun q => (q.1, wA q.2.1 q.2.2 r))) (i9 : Int32) (i10 : Int32) (i11 : Int32) (i12 : Int32) (i13 : Int32) (i14 : Int32) (i20 : Int32) (s0 : Int32) (z f : Nat → Nat → Int32) : m_L_isSo_b602 k224 0 66 67 68 69 70 71 73 74 i9 i10 i11 i12 i13 i14 i20 s0 (wA z f r) = (g_L_isSo_b602 kg224 i9 i10 i11 i12 i13 i14 i20 s0 z f).map (fun q => (q.1, wA q.2.1 q.2.2 r)) := by
  unfold m_L_isSo_b602 g_L_isSo_b602
  refine iteE (fun _ => ?_) (fun _ => ?_)
  · refine caP (e_L_sinking) (fun x1 => ?_)
    exact e_L_isSo_l623 (hk224 := hk224) FU _ _ _ _ _ _ _ _ _  _ _
  · exact e_L_isSo_b677 (hk224 := hk224) _ _ _ _ _ _ _  _ _
def g_L_isSo_b601 (k224 : Int32 → Int32 → Int32 → Int32 → Int32 → Int32 → (Nat → Nat → Int32) → (Nat → Nat → Int32) → Option (Int32 × (Nat → Nat → Int32) × (Nat → Nat → Int32))) (i9 : Int32) (i10 : Int32) (i11 : Int32) (i12 : Int32) (i13 : Int32) (i14 : Int32) (i20 : Int32) (z f : Nat → Nat → Int32) : Option (Int32 × (Nat → Nat → Int32) × (Nat → Nat → Int32)) :=
  g_L_isSo_b602 k224 i9 i10 i11 i12 i13 i14 i20 ((-1)) z f
set_option maxRecDepth 100000 in
set_option maxHeartbeats 4000000 in
theorem e_L_isSo_b601 {r : LWd} {k224 : Nat → Nat → Nat → Nat → Nat → Nat → Nat → Nat → Nat → Int32 → Int32 → Int32 → Int32 → Int32 → Int32 → LWd → Option (Int32 × LWd)} {kg224 : Int32 → Int32 → Int32 → Int32 → Int32 → Int32 → (Nat → Nat → Int32) → (Nat → Nat → Int32) → Option (Int32 × (Nat → Nat → Int32) × (Nat → Nat → Int32))} (hk224 : ∀ (i9 : Int32) (i10 : Int32) (i11 : Int32) (i12 : Int32) (i13 : Int32) (i14 : Int32) (z f : Nat → Nat → Int32), k224 0 66 67 68 69 70 71 73 74 i9 i10 i11 i12 i13 i14 (wA z f r) = (kg224 i9 i10 i11 i12 i13 i14 z f).map (fun q => (q.1, wA q.2.1 q.2.2 r))) (i9 : Int32) (i10 : Int32) (i11 : Int32) (i12 : Int32) (i13 : Int32) (i14 : Int32) (i20 : Int32) (z f : Nat → Nat → Int32) : m_L_isSo_b601 k224 0 66 67 68 69 70 71 73 74 i9 i10 i11 i12 i13 i14 i20 (wA z f r) = (g_L_isSo_b601 kg224 i9 i10 i11 i12 i13 i14 i20 z f).map (fun q => (q.1, wA q.2.1 q.2.2 r)) := by
  unfold m_L_isSo_b601 g_L_isSo_b601
  exact e_L_isSo_b602 (hk224 := hk224) _ _ _ _ _ _ _ _  _ _
def g_L_isSo_b557 (k224 : Int32 → Int32 → Int32 → Int32 → Int32 → Int32 → (Nat → Nat → Int32) → (Nat → Nat → Int32) → Option (Int32 × (Nat → Nat → Int32) × (Nat → Nat → Int32))) (i9 : Int32) (i10 : Int32) (i11 : Int32) (i12 : Int32) (i14 : Int32) (i15 : Int32) (i16 : Int32) (s0 : Int32) (z f : Nat → Nat → Int32) : Option (Int32 × (Nat → Nat → Int32) × (Nat → Nat → Int32)) :=
  if (f 74 0) = 1 then
    if i15 = 0 then
      g_L_isSo_b601 k224 i9 i10 i11 i12 s0 i14 i16 z f
    else
      if (f 74 3) ≤ 0 then
        g_L_isSo_b601 k224 i9 i10 i11 i12 s0 i14 i16 z f
      else
        (g_L_holds i16 z f).bind fun x3 =>
        if x3 = 0 then
          g_L_isSo_b601 k224 i9 i10 i11 i12 s0 i14 i16 z f
        else
          g_L_isSo_b602 k224 i9 i10 i11 i12 s0 i14 i16 0 z f
  else
    g_L_isSo_b601 k224 i9 i10 i11 i12 s0 i14 i16 z f
set_option maxRecDepth 100000 in
set_option maxHeartbeats 4000000 in
theorem e_L_isSo_b557 {r : LWd} {k224 : Nat → Nat → Nat → Nat → Nat → Nat → Nat → Nat → Nat → Int32 → Int32 → Int32 → Int32 → Int32 → Int32 → LWd → Option (Int32 × LWd)} {kg224 : Int32 → Int32 → Int32 → Int32 → Int32 → Int32 → (Nat → Nat → Int32) → (Nat → Nat → Int32) → Option (Int32 × (Nat → Nat → Int32) × (Nat → Nat → Int32))} (hk224 : ∀ (i9 : Int32) (i10 : Int32) (i11 : Int32) (i12 : Int32) (i13 : Int32) (i14 : Int32) (z f : Nat → Nat → Int32), k224 0 66 67 68 69 70 71 73 74 i9 i10 i11 i12 i13 i14 (wA z f r) = (kg224 i9 i10 i11 i12 i13 i14 z f).map (fun q => (q.1, wA q.2.1 q.2.2 r))) (i9 : Int32) (i10 : Int32) (i11 : Int32) (i12 : Int32) (i14 : Int32) (i15 : Int32) (i16 : Int32) (s0 : Int32) (z f : Nat → Nat → Int32) : m_L_isSo_b557 k224 0 66 67 68 69 70 71 73 74 i9 i10 i11 i12 i14 i15 i16 s0 (wA z f r) = (g_L_isSo_b557 kg224 i9 i10 i11 i12 i14 i15 i16 s0 z f).map (fun q => (q.1, wA q.2.1 q.2.2 r)) := by
  unfold m_L_isSo_b557 g_L_isSo_b557
  refine opS (aI_74.trans (ixl_0 _)) ?_
  refine iteE (fun _ => ?_) (fun _ => ?_)
  · refine iteE (fun _ => ?_) (fun _ => ?_)
    · exact e_L_isSo_b601 (hk224 := hk224) _ _ _ _ _ _ _  _ _
    · refine opS (aI_74.trans (ixl_3 _)) ?_
      refine iteE (fun _ => ?_) (fun _ => ?_)
      · exact e_L_isSo_b601 (hk224 := hk224) _ _ _ _ _ _ _  _ _
      · refine caP (e_L_holds) (fun x3 => ?_)
        refine iteE (fun _ => ?_) (fun _ => ?_)
        · exact e_L_isSo_b601 (hk224 := hk224) _ _ _ _ _ _ _  _ _
        · exact e_L_isSo_b602 (hk224 := hk224) _ _ _ _ _ _ _ _  _ _
  · exact e_L_isSo_b601 (hk224 := hk224) _ _ _ _ _ _ _  _ _
def g_L_isSo_b556 (k224 : Int32 → Int32 → Int32 → Int32 → Int32 → Int32 → (Nat → Nat → Int32) → (Nat → Nat → Int32) → Option (Int32 × (Nat → Nat → Int32) × (Nat → Nat → Int32))) (i9 : Int32) (i10 : Int32) (i11 : Int32) (i12 : Int32) (i14 : Int32) (i15 : Int32) (i16 : Int32) (z f : Nat → Nat → Int32) : Option (Int32 × (Nat → Nat → Int32) × (Nat → Nat → Int32)) :=
  g_L_isSo_b557 k224 i9 i10 i11 i12 i14 i15 i16 0 z f
set_option maxRecDepth 100000 in
set_option maxHeartbeats 4000000 in
theorem e_L_isSo_b556 {r : LWd} {k224 : Nat → Nat → Nat → Nat → Nat → Nat → Nat → Nat → Nat → Int32 → Int32 → Int32 → Int32 → Int32 → Int32 → LWd → Option (Int32 × LWd)} {kg224 : Int32 → Int32 → Int32 → Int32 → Int32 → Int32 → (Nat → Nat → Int32) → (Nat → Nat → Int32) → Option (Int32 × (Nat → Nat → Int32) × (Nat → Nat → Int32))} (hk224 : ∀ (i9 : Int32) (i10 : Int32) (i11 : Int32) (i12 : Int32) (i13 : Int32) (i14 : Int32) (z f : Nat → Nat → Int32), k224 0 66 67 68 69 70 71 73 74 i9 i10 i11 i12 i13 i14 (wA z f r) = (kg224 i9 i10 i11 i12 i13 i14 z f).map (fun q => (q.1, wA q.2.1 q.2.2 r))) (i9 : Int32) (i10 : Int32) (i11 : Int32) (i12 : Int32) (i14 : Int32) (i15 : Int32) (i16 : Int32) (z f : Nat → Nat → Int32) : m_L_isSo_b556 k224 0 66 67 68 69 70 71 73 74 i9 i10 i11 i12 i14 i15 i16 (wA z f r) = (g_L_isSo_b556 kg224 i9 i10 i11 i12 i14 i15 i16 z f).map (fun q => (q.1, wA q.2.1 q.2.2 r)) := by
  unfold m_L_isSo_b556 g_L_isSo_b556
  exact e_L_isSo_b557 (hk224 := hk224) _ _ _ _ _ _ _ _  _ _
def g_L_isSo_b528 (k224 : Int32 → Int32 → Int32 → Int32 → Int32 → Int32 → (Nat → Nat → Int32) → (Nat → Nat → Int32) → Option (Int32 × (Nat → Nat → Int32) × (Nat → Nat → Int32))) (k366 : Int32 → Int32 → Int32 → Int32 → Int32 → Int32 → Int32 → Int32 → Int32 → Int32 → Int32 → Int32 → (Nat → Nat → Int32) → (Nat → Nat → Int32) → Option (Int32 × (Nat → Nat → Int32) × (Nat → Nat → Int32))) (i9 : Int32) (i10 : Int32) (i11 : Int32) (i12 : Int32) (i13 : Int32) (i14 : Int32) (i15 : Int32) (i16 : Int32) (i17 : Int32) (i18 : Int32) (i20 : Int32) (s0 : Int32) (z f : Nat → Nat → Int32) : Option (Int32 × (Nat → Nat → Int32) × (Nat → Nat → Int32)) :=
  k366 i9 i10 i11 i12 i13 i14 i15 i16 i17 i18 s0 (i20 + 1) z f
set_option maxRecDepth 100000 in
set_option maxHeartbeats 4000000 in
theorem e_L_isSo_b528 {r : LWd} {k224 : Nat → Nat → Nat → Nat → Nat → Nat → Nat → Nat → Nat → Int32 → Int32 → Int32 → Int32 → Int32 → Int32 → LWd → Option (Int32 × LWd)} {kg224 : Int32 → Int32 → Int32 → Int32 → Int32 → Int32 → (Nat → Nat → Int32) → (Nat → Nat → Int32) → Option (Int32 × (Nat → Nat → Int32) × (Nat → Nat → Int32))} (hk224 : ∀ (i9 : Int32) (i10 : Int32) (i11 : Int32) (i12 : Int32) (i13 : Int32) (i14 : Int32) (z f : Nat → Nat → Int32), k224 0 66 67 68 69 70 71 73 74 i9 i10 i11 i12 i13 i14 (wA z f r) = (kg224 i9 i10 i11 i12 i13 i14 z f).map (fun q => (q.1, wA q.2.1 q.2.2 r))) {k366 : Nat → Nat → Nat → Nat → Nat → Nat → Nat → Nat → Nat → Int32 → Int32 → Int32 → Int32 → Int32 → Int32 → Int32 → Int32 → Int32 → Int32 → Int32 → Int32 → LWd → Option (Int32 × LWd)} {kg366 : Int32 → Int32 → Int32 → Int32 → Int32 → Int32 → Int32 → Int32 → Int32 → Int32 → Int32 → Int32 → (Nat → Nat → Int32) → (Nat → Nat → Int32) → Option (Int32 × (Nat → Nat → Int32) × (Nat → Nat → Int32))} (hk366 : ∀ (i9 : Int32) (i10 : Int32) (i11 : Int32) (i12 : Int32) (i13 : Int32) (i14 : Int32) (i15 : Int32) (i16 : Int32) (i17 : Int32) (i18 : Int32) (i19 : Int32) (i20 : Int32) (z f : Nat → Nat → Int32), k366 0 66 67 68 69 70 71 73 74 i9 i10 i11 i12 i13 i14 i15 i16 i17 i18 i19 i20 (wA z f r) = (kg366 i9 i10 i11 i12 i13 i14 i15 i16 i17 i18 i19 i20 z f).map (fun q => (q.1, wA q.2.1 q.2.2 r))) (i9 : Int32) (i10 : Int32) (i11 : Int32) (i12 : Int32) (i13 : Int32) (i14 : Int32) (i15 : Int32) (i16 : Int32) (i17 : Int32) (i18 : Int32) (i20 : Int32) (s0 : Int32) (z f : Nat → Nat → Int32) : m_L_isSo_b528 k224 k366 0 66 67 68 69 70 71 73 74 i9 i10 i11 i12 i13 i14 i15 i16 i17 i18 i20 s0 (wA z f r) = (g_L_isSo_b528 kg224 kg366 i9 i10 i11 i12 i13 i14 i15 i16 i17 i18 i20 s0 z f).map (fun q => (q.1, wA q.2.1 q.2.2 r)) := by
  unfold m_L_isSo_b528 g_L_isSo_b528
  exact hk366 _ _ _ _ _ _ _ _ _ _ _ _  _ _
def g_L_isSo_b526 (k224 : Int32 → Int32 → Int32 → Int32 → Int32 → Int32 → (Nat → Nat → Int32) → (Nat → Nat → Int32) → Option (Int32 × (Nat → Nat → Int32) × (Nat → Nat → Int32))) (k366 : Int32 → Int32 → Int32 → Int32 → Int32 → Int32 → Int32 → Int32 → Int32 → Int32 → Int32 → Int32 → (Nat → Nat → Int32) → (Nat → Nat → Int32) → Option (Int32 × (Nat → Nat → Int32) × (Nat → Nat → Int32))) (i9 : Int32) (i10 : Int32) (i11 : Int32) (i12 : Int32) (i13 : Int32) (i14 : Int32) (i15 : Int32) (i16 : Int32) (i17 : Int32) (i18 : Int32) (i19 : Int32) (i20 : Int32) (z f : Nat → Nat → Int32) : Option (Int32 × (Nat → Nat → Int32) × (Nat → Nat → Int32)) :=
  g_L_isSo_b528 k224 k366 i9 i10 i11 i12 i13 i14 i15 i16 i17 i18 i20 i19 z f
set_option maxRecDepth 100000 in
set_option maxHeartbeats 4000000 in
theorem e_L_isSo_b526 {r : LWd} {k224 : Nat → Nat → Nat → Nat → Nat → Nat → Nat → Nat → Nat → Int32 → Int32 → Int32 → Int32 → Int32 → Int32 → LWd → Option (Int32 × LWd)} {kg224 : Int32 → Int32 → Int32 → Int32 → Int32 → Int32 → (Nat → Nat → Int32) → (Nat → Nat → Int32) → Option (Int32 × (Nat → Nat → Int32) × (Nat → Nat → Int32))} (hk224 : ∀ (i9 : Int32) (i10 : Int32) (i11 : Int32) (i12 : Int32) (i13 : Int32) (i14 : Int32) (z f : Nat → Nat → Int32), k224 0 66 67 68 69 70 71 73 74 i9 i10 i11 i12 i13 i14 (wA z f r) = (kg224 i9 i10 i11 i12 i13 i14 z f).map (fun q => (q.1, wA q.2.1 q.2.2 r))) {k366 : Nat → Nat → Nat → Nat → Nat → Nat → Nat → Nat → Nat → Int32 → Int32 → Int32 → Int32 → Int32 → Int32 → Int32 → Int32 → Int32 → Int32 → Int32 → Int32 → LWd → Option (Int32 × LWd)} {kg366 : Int32 → Int32 → Int32 → Int32 → Int32 → Int32 → Int32 → Int32 → Int32 → Int32 → Int32 → Int32 → (Nat → Nat → Int32) → (Nat → Nat → Int32) → Option (Int32 × (Nat → Nat → Int32) × (Nat → Nat → Int32))} (hk366 : ∀ (i9 : Int32) (i10 : Int32) (i11 : Int32) (i12 : Int32) (i13 : Int32) (i14 : Int32) (i15 : Int32) (i16 : Int32) (i17 : Int32) (i18 : Int32) (i19 : Int32) (i20 : Int32) (z f : Nat → Nat → Int32), k366 0 66 67 68 69 70 71 73 74 i9 i10 i11 i12 i13 i14 i15 i16 i17 i18 i19 i20 (wA z f r) = (kg366 i9 i10 i11 i12 i13 i14 i15 i16 i17 i18 i19 i20 z f).map (fun q => (q.1, wA q.2.1 q.2.2 r))) (i9 : Int32) (i10 : Int32) (i11 : Int32) (i12 : Int32) (i13 : Int32) (i14 : Int32) (i15 : Int32) (i16 : Int32) (i17 : Int32) (i18 : Int32) (i19 : Int32) (i20 : Int32) (z f : Nat → Nat → Int32) : m_L_isSo_b526 k224 k366 0 66 67 68 69 70 71 73 74 i9 i10 i11 i12 i13 i14 i15 i16 i17 i18 i19 i20 (wA z f r) = (g_L_isSo_b526 kg224 kg366 i9 i10 i11 i12 i13 i14 i15 i16 i17 i18 i19 i20 z f).map (fun q => (q.1, wA q.2.1 q.2.2 r)) := by
  unfold m_L_isSo_b526 g_L_isSo_b526
  exact e_L_isSo_b528 (hk224 := hk224) (hk366 := hk366) _ _ _ _ _ _ _ _ _ _ _ _  _ _
def g_L_isSo_b507 (k224 : Int32 → Int32 → Int32 → Int32 → Int32 → Int32 → (Nat → Nat → Int32) → (Nat → Nat → Int32) → Option (Int32 × (Nat → Nat → Int32) × (Nat → Nat → Int32))) (k366 : Int32 → Int32 → Int32 → Int32 → Int32 → Int32 → Int32 → Int32 → Int32 → Int32 → Int32 → Int32 → (Nat → Nat → Int32) → (Nat → Nat → Int32) → Option (Int32 × (Nat → Nat → Int32) × (Nat → Nat → Int32))) (i9 : Int32) (i10 : Int32) (i11 : Int32) (i12 : Int32) (i13 : Int32) (i14 : Int32) (i15 : Int32) (i16 : Int32) (i17 : Int32) (i19 : Int32) (i20 : Int32) (i22 : Int32) (i23 : Int32) (s0 : Int32) (z f : Nat → Nat → Int32) : Option (Int32 × (Nat → Nat → Int32) × (Nat → Nat → Int32)) :=
  if i22 = 0 then
    g_L_isSo_b526 k224 k366 i9 i10 i11 i12 i13 i14 i15 i16 i17 s0 i19 i20 z f
  else
    if i19 ≤ i23 then
      g_L_isSo_b526 k224 k366 i9 i10 i11 i12 i13 i14 i15 i16 i17 s0 i19 i20 z f
    else
      g_L_isSo_b528 k224 k366 i9 i10 i11 i12 i13 i14 i15 i16 i17 s0 i20 i23 z f
set_option maxRecDepth 100000 in
set_option maxHeartbeats 4000000 in
theorem e_L_isSo_b507 {r : LWd} {k224 : Nat → Nat → Nat → Nat → Nat → Nat → Nat → Nat → Nat → Int32 → Int32 → Int32 → Int32 → Int32 → Int32 → LWd → Option (Int32 × LWd)} {kg224 : Int32 → Int32 → Int32 → Int32 → Int32 → Int32 → (Nat → Nat → Int32) → (Nat → Nat → Int32) → Option (Int32 × (Nat → Nat → Int32) × (Nat → Nat → Int32))} (hk224 : ∀ (i9 : Int32) (i10 : Int32) (i11 : Int32) (i12 : Int32) (i13 : Int32) (i14 : Int32) (z f : Nat → Nat → Int32), k224 0 66 67 68 69 70 71 73 74 i9 i10 i11 i12 i13 i14 (wA z f r) = (kg224 i9 i10 i11 i12 i13 i14 z f).map (fun q => (q.1, wA q.2.1 q.2.2 r))) {k366 : Nat → Nat → Nat → Nat → Nat → Nat → Nat → Nat → Nat → Int32 → Int32 → Int32 → Int32 → Int32 → Int32 → Int32 → Int32 → Int32 → Int32 → Int32 → Int32 → LWd → Option (Int32 × LWd)} {kg366 : Int32 → Int32 → Int32 → Int32 → Int32 → Int32 → Int32 → Int32 → Int32 → Int32 → Int32 → Int32 → (Nat → Nat → Int32) → (Nat → Nat → Int32) → Option (Int32 × (Nat → Nat → Int32) × (Nat → Nat → Int32))} (hk366 : ∀ (i9 : Int32) (i10 : Int32) (i11 : Int32) (i12 : Int32) (i13 : Int32) (i14 : Int32) (i15 : Int32) (i16 : Int32) (i17 : Int32) (i18 : Int32) (i19 : Int32) (i20 : Int32) (z f : Nat → Nat → Int32), k366 0 66 67 68 69 70 71 73 74 i9 i10 i11 i12 i13 i14 i15 i16 i17 i18 i19 i20 (wA z f r) = (kg366 i9 i10 i11 i12 i13 i14 i15 i16 i17 i18 i19 i20 z f).map (fun q => (q.1, wA q.2.1 q.2.2 r))) (i9 : Int32) (i10 : Int32) (i11 : Int32) (i12 : Int32) (i13 : Int32) (i14 : Int32) (i15 : Int32) (i16 : Int32) (i17 : Int32) (i19 : Int32) (i20 : Int32) (i22 : Int32) (i23 : Int32) (s0 : Int32) (z f : Nat → Nat → Int32) : m_L_isSo_b507 k224 k366 0 66 67 68 69 70 71 73 74 i9 i10 i11 i12 i13 i14 i15 i16 i17 i19 i20 i22 i23 s0 (wA z f r) = (g_L_isSo_b507 kg224 kg366 i9 i10 i11 i12 i13 i14 i15 i16 i17 i19 i20 i22 i23 s0 z f).map (fun q => (q.1, wA q.2.1 q.2.2 r)) := by
  unfold m_L_isSo_b507 g_L_isSo_b507
  refine iteE (fun _ => ?_) (fun _ => ?_)
  · exact e_L_isSo_b526 (hk224 := hk224) (hk366 := hk366) _ _ _ _ _ _ _ _ _ _ _ _  _ _
  · refine iteE (fun _ => ?_) (fun _ => ?_)
    · exact e_L_isSo_b526 (hk224 := hk224) (hk366 := hk366) _ _ _ _ _ _ _ _ _ _ _ _  _ _
    · exact e_L_isSo_b528 (hk224 := hk224) (hk366 := hk366) _ _ _ _ _ _ _ _ _ _ _ _  _ _
def g_L_isSo_b505 (k224 : Int32 → Int32 → Int32 → Int32 → Int32 → Int32 → (Nat → Nat → Int32) → (Nat → Nat → Int32) → Option (Int32 × (Nat → Nat → Int32) × (Nat → Nat → Int32))) (k366 : Int32 → Int32 → Int32 → Int32 → Int32 → Int32 → Int32 → Int32 → Int32 → Int32 → Int32 → Int32 → (Nat → Nat → Int32) → (Nat → Nat → Int32) → Option (Int32 × (Nat → Nat → Int32) × (Nat → Nat → Int32))) (i9 : Int32) (i10 : Int32) (i11 : Int32) (i12 : Int32) (i13 : Int32) (i14 : Int32) (i15 : Int32) (i16 : Int32) (i17 : Int32) (i18 : Int32) (i19 : Int32) (i20 : Int32) (i22 : Int32) (i23 : Int32) (z f : Nat → Nat → Int32) : Option (Int32 × (Nat → Nat → Int32) × (Nat → Nat → Int32)) :=
  g_L_isSo_b507 k224 k366 i9 i10 i11 i12 i13 i14 i15 i16 i17 i19 i20 i22 i23 i18 z f
set_option maxRecDepth 100000 in
set_option maxHeartbeats 4000000 in
theorem e_L_isSo_b505 {r : LWd} {k224 : Nat → Nat → Nat → Nat → Nat → Nat → Nat → Nat → Nat → Int32 → Int32 → Int32 → Int32 → Int32 → Int32 → LWd → Option (Int32 × LWd)} {kg224 : Int32 → Int32 → Int32 → Int32 → Int32 → Int32 → (Nat → Nat → Int32) → (Nat → Nat → Int32) → Option (Int32 × (Nat → Nat → Int32) × (Nat → Nat → Int32))} (hk224 : ∀ (i9 : Int32) (i10 : Int32) (i11 : Int32) (i12 : Int32) (i13 : Int32) (i14 : Int32) (z f : Nat → Nat → Int32), k224 0 66 67 68 69 70 71 73 74 i9 i10 i11 i12 i13 i14 (wA z f r) = (kg224 i9 i10 i11 i12 i13 i14 z f).map (fun q => (q.1, wA q.2.1 q.2.2 r))) {k366 : Nat → Nat → Nat → Nat → Nat → Nat → Nat → Nat → Nat → Int32 → Int32 → Int32 → Int32 → Int32 → Int32 → Int32 → Int32 → Int32 → Int32 → Int32 → Int32 → LWd → Option (Int32 × LWd)} {kg366 : Int32 → Int32 → Int32 → Int32 → Int32 → Int32 → Int32 → Int32 → Int32 → Int32 → Int32 → Int32 → (Nat → Nat → Int32) → (Nat → Nat → Int32) → Option (Int32 × (Nat → Nat → Int32) × (Nat → Nat → Int32))} (hk366 : ∀ (i9 : Int32) (i10 : Int32) (i11 : Int32) (i12 : Int32) (i13 : Int32) (i14 : Int32) (i15 : Int32) (i16 : Int32) (i17 : Int32) (i18 : Int32) (i19 : Int32) (i20 : Int32) (z f : Nat → Nat → Int32), k366 0 66 67 68 69 70 71 73 74 i9 i10 i11 i12 i13 i14 i15 i16 i17 i18 i19 i20 (wA z f r) = (kg366 i9 i10 i11 i12 i13 i14 i15 i16 i17 i18 i19 i20 z f).map (fun q => (q.1, wA q.2.1 q.2.2 r))) (i9 : Int32) (i10 : Int32) (i11 : Int32) (i12 : Int32) (i13 : Int32) (i14 : Int32) (i15 : Int32) (i16 : Int32) (i17 : Int32) (i18 : Int32) (i19 : Int32) (i20 : Int32) (i22 : Int32) (i23 : Int32) (z f : Nat → Nat → Int32) : m_L_isSo_b505 k224 k366 0 66 67 68 69 70 71 73 74 i9 i10 i11 i12 i13 i14 i15 i16 i17 i18 i19 i20 i22 i23 (wA z f r) = (g_L_isSo_b505 kg224 kg366 i9 i10 i11 i12 i13 i14 i15 i16 i17 i18 i19 i20 i22 i23 z f).map (fun q => (q.1, wA q.2.1 q.2.2 r)) := by
  unfold m_L_isSo_b505 g_L_isSo_b505
  exact e_L_isSo_b507 (hk224 := hk224) (hk366 := hk366) _ _ _ _ _ _ _ _ _ _ _ _ _ _  _ _
def g_L_isSo_b459 (k224 : Int32 → Int32 → Int32 → Int32 → Int32 → Int32 → (Nat → Nat → Int32) → (Nat → Nat → Int32) → Option (Int32 × (Nat → Nat → Int32) × (Nat → Nat → Int32))) (k366 : Int32 → Int32 → Int32 → Int32 → Int32 → Int32 → Int32 → Int32 → Int32 → Int32 → Int32 → Int32 → (Nat → Nat → Int32) → (Nat → Nat → Int32) → Option (Int32 × (Nat → Nat → Int32) × (Nat → Nat → Int32))) (i9 : Int32) (i10 : Int32) (i11 : Int32) (i12 : Int32) (i13 : Int32) (i14 : Int32) (i15 : Int32) (i16 : Int32) (i17 : Int32) (i18 : Int32) (i19 : Int32) (i20 : Int32) (i21 : Int32) (s0 : Int32) (z f : Nat → Nat → Int32) : Option (Int32 × (Nat → Nat → Int32) × (Nat → Nat → Int32)) :=
  (g_L_far i14 (jrem i20 20) (i20 / 20) z f).bind fun x1 =>
  if s0 = 0 then
    g_L_isSo_b505 k224 k366 i9 i10 i11 i12 i13 i14 i15 i16 i17 i18 i19 i20 s0 ((10 * i21) + x1) z f
  else
    if i19 ≤ ((10 * i21) + x1) then
      g_L_isSo_b505 k224 k366 i9 i10 i11 i12 i13 i14 i15 i16 i17 i18 i19 i20 s0 ((10 * i21) + x1) z f
    else
      g_L_isSo_b507 k224 k366 i9 i10 i11 i12 i13 i14 i15 i16 i17 i19 i20 s0 ((10 * i21) + x1) i20 z f
set_option maxRecDepth 100000 in
set_option maxHeartbeats 4000000 in
theorem e_L_isSo_b459 {r : LWd} {k224 : Nat → Nat → Nat → Nat → Nat → Nat → Nat → Nat → Nat → Int32 → Int32 → Int32 → Int32 → Int32 → Int32 → LWd → Option (Int32 × LWd)} {kg224 : Int32 → Int32 → Int32 → Int32 → Int32 → Int32 → (Nat → Nat → Int32) → (Nat → Nat → Int32) → Option (Int32 × (Nat → Nat → Int32) × (Nat → Nat → Int32))} (hk224 : ∀ (i9 : Int32) (i10 : Int32) (i11 : Int32) (i12 : Int32) (i13 : Int32) (i14 : Int32) (z f : Nat → Nat → Int32), k224 0 66 67 68 69 70 71 73 74 i9 i10 i11 i12 i13 i14 (wA z f r) = (kg224 i9 i10 i11 i12 i13 i14 z f).map (fun q => (q.1, wA q.2.1 q.2.2 r))) {k366 : Nat → Nat → Nat → Nat → Nat → Nat → Nat → Nat → Nat → Int32 → Int32 → Int32 → Int32 → Int32 → Int32 → Int32 → Int32 → Int32 → Int32 → Int32 → Int32 → LWd → Option (Int32 × LWd)} {kg366 : Int32 → Int32 → Int32 → Int32 → Int32 → Int32 → Int32 → Int32 → Int32 → Int32 → Int32 → Int32 → (Nat → Nat → Int32) → (Nat → Nat → Int32) → Option (Int32 × (Nat → Nat → Int32) × (Nat → Nat → Int32))} (hk366 : ∀ (i9 : Int32) (i10 : Int32) (i11 : Int32) (i12 : Int32) (i13 : Int32) (i14 : Int32) (i15 : Int32) (i16 : Int32) (i17 : Int32) (i18 : Int32) (i19 : Int32) (i20 : Int32) (z f : Nat → Nat → Int32), k366 0 66 67 68 69 70 71 73 74 i9 i10 i11 i12 i13 i14 i15 i16 i17 i18 i19 i20 (wA z f r) = (kg366 i9 i10 i11 i12 i13 i14 i15 i16 i17 i18 i19 i20 z f).map (fun q => (q.1, wA q.2.1 q.2.2 r))) (i9 : Int32) (i10 : Int32) (i11 : Int32) (i12 : Int32) (i13 : Int32) (i14 : Int32) (i15 : Int32) (i16 : Int32) (i17 : Int32) (i18 : Int32) (i19 : Int32) (i20 : Int32) (i21 : Int32) (s0 : Int32) (z f : Nat → Nat → Int32) : m_L_isSo_b459 k224 k366 0 66 67 68 69 70 71 73 74 i9 i10 i11 i12 i13 i14 i15 i16 i17 i18 i19 i20 i21 s0 (wA z f r) = (g_L_isSo_b459 kg224 kg366 i9 i10 i11 i12 i13 i14 i15 i16 i17 i18 i19 i20 i21 s0 z f).map (fun q => (q.1, wA q.2.1 q.2.2 r)) := by
  unfold m_L_isSo_b459 g_L_isSo_b459
  refine caP (e_L_far) (fun x1 => ?_)
  refine iteE (fun _ => ?_) (fun _ => ?_)
  · exact e_L_isSo_b505 (hk224 := hk224) (hk366 := hk366) _ _ _ _ _ _ _ _ _ _ _ _ _ _  _ _
  · refine iteE (fun _ => ?_) (fun _ => ?_)
    · exact e_L_isSo_b505 (hk224 := hk224) (hk366 := hk366) _ _ _ _ _ _ _ _ _ _ _ _ _ _  _ _
    · exact e_L_isSo_b507 (hk224 := hk224) (hk366 := hk366) _ _ _ _ _ _ _ _ _ _ _ _ _ _  _ _
def g_L_isSo_b458 (k224 : Int32 → Int32 → Int32 → Int32 → Int32 → Int32 → (Nat → Nat → Int32) → (Nat → Nat → Int32) → Option (Int32 × (Nat → Nat → Int32) × (Nat → Nat → Int32))) (k366 : Int32 → Int32 → Int32 → Int32 → Int32 → Int32 → Int32 → Int32 → Int32 → Int32 → Int32 → Int32 → (Nat → Nat → Int32) → (Nat → Nat → Int32) → Option (Int32 × (Nat → Nat → Int32) × (Nat → Nat → Int32))) (i9 : Int32) (i10 : Int32) (i11 : Int32) (i12 : Int32) (i13 : Int32) (i14 : Int32) (i15 : Int32) (i16 : Int32) (i17 : Int32) (i18 : Int32) (i19 : Int32) (i20 : Int32) (i21 : Int32) (z f : Nat → Nat → Int32) : Option (Int32 × (Nat → Nat → Int32) × (Nat → Nat → Int32)) :=
  g_L_isSo_b459 k224 k366 i9 i10 i11 i12 i13 i14 i15 i16 i17 i18 i19 i20 i21 0 z f
set_option maxRecDepth 100000 in
set_option maxHeartbeats 4000000 in
theorem e_L_isSo_b458 {r : LWd} {k224 : Nat → Nat → Nat → Nat → Nat → Nat → Nat → Nat → Nat → Int32 → Int32 → Int32 → Int32 → Int32 → Int32 → LWd → Option (Int32 × LWd)} {kg224 : Int32 → Int32 → Int32 → Int32 → Int32 → Int32 → (Nat → Nat → Int32) → (Nat → Nat → Int32) → Option (Int32 × (Nat → Nat → Int32) × (Nat → Nat → Int32))} (hk224 : ∀ (i9 : Int32) (i10 : Int32) (i11 : Int32) (i12 : Int32) (i13 : Int32) (i14 : Int32) (z f : Nat → Nat → Int32), k224 0 66 67 68 69 70 71 73 74 i9 i10 i11 i12 i13 i14 (wA z f r) = (kg224 i9 i10 i11 i12 i13 i14 z f).map (fun q => (q.1, wA q.2.1 q.2.2 r))) {k366 : Nat → Nat → Nat → Nat → Nat → Nat → Nat → Nat → Nat → Int32 → Int32 → Int32 → Int32 → Int32 → Int32 → Int32 → Int32 → Int32 → Int32 → Int32 → Int32 → LWd → Option (Int32 × LWd)} {kg366 : Int32 → Int32 → Int32 → Int32 → Int32 → Int32 → Int32 → Int32 → Int32 → Int32 → Int32 → Int32 → (Nat → Nat → Int32) → (Nat → Nat → Int32) → Option (Int32 × (Nat → Nat → Int32) × (Nat → Nat → Int32))} (hk366 : ∀ (i9 : Int32) (i10 : Int32) (i11 : Int32) (i12 : Int32) (i13 : Int32) (i14 : Int32) (i15 : Int32) (i16 : Int32) (i17 : Int32) (i18 : Int32) (i19 : Int32) (i20 : Int32) (z f : Nat → Nat → Int32), k366 0 66 67 68 69 70 71 73 74 i9 i10 i11 i12 i13 i14 i15 i16 i17 i18 i19 i20 (wA z f r) = (kg366 i9 i10 i11 i12 i13 i14 i15 i16 i17 i18 i19 i20 z f).map (fun q => (q.1, wA q.2.1 q.2.2 r))) (i9 : Int32) (i10 : Int32) (i11 : Int32) (i12 : Int32) (i13 : Int32) (i14 : Int32) (i15 : Int32) (i16 : Int32) (i17 : Int32) (i18 : Int32) (i19 : Int32) (i20 : Int32) (i21 : Int32) (z f : Nat → Nat → Int32) : m_L_isSo_b458 k224 k366 0 66 67 68 69 70 71 73 74 i9 i10 i11 i12 i13 i14 i15 i16 i17 i18 i19 i20 i21 (wA z f r) = (g_L_isSo_b458 kg224 kg366 i9 i10 i11 i12 i13 i14 i15 i16 i17 i18 i19 i20 i21 z f).map (fun q => (q.1, wA q.2.1 q.2.2 r)) := by
  unfold m_L_isSo_b458 g_L_isSo_b458
  exact e_L_isSo_b459 (hk224 := hk224) (hk366 := hk366) _ _ _ _ _ _ _ _ _ _ _ _ _ _  _ _
def g_L_isSo_b402 (k224 : Int32 → Int32 → Int32 → Int32 → Int32 → Int32 → (Nat → Nat → Int32) → (Nat → Nat → Int32) → Option (Int32 × (Nat → Nat → Int32) × (Nat → Nat → Int32))) (k366 : Int32 → Int32 → Int32 → Int32 → Int32 → Int32 → Int32 → Int32 → Int32 → Int32 → Int32 → Int32 → (Nat → Nat → Int32) → (Nat → Nat → Int32) → Option (Int32 × (Nat → Nat → Int32) × (Nat → Nat → Int32))) (i9 : Int32) (i10 : Int32) (i11 : Int32) (i12 : Int32) (i13 : Int32) (i14 : Int32) (i15 : Int32) (i16 : Int32) (i17 : Int32) (i18 : Int32) (i19 : Int32) (i20 : Int32) (s0 : Int32) (z f : Nat → Nat → Int32) : Option (Int32 × (Nat → Nat → Int32) × (Nat → Nat → Int32)) :=
  if 3 ≤ s0 then
    g_L_isSo_b458 k224 k366 i9 i10 i11 i12 i13 i14 i15 i16 i17 i18 i19 i20 s0 z f
  else
    (g_L_isNear i14 (jrem i20 20) (i20 / 20) z f).bind fun x1 =>
    if x1 = 0 then
      g_L_isSo_b458 k224 k366 i9 i10 i11 i12 i13 i14 i15 i16 i17 i18 i19 i20 s0 z f
    else
      (g_L_isTaken i16 (jrem i20 20) (i20 / 20) z f).bind fun x2 =>
      if x2 = 0 then
        g_L_isSo_b459 k224 k366 i9 i10 i11 i12 i13 i14 i15 i16 i17 i18 i19 i20 s0 1 z f
      else
        g_L_isSo_b458 k224 k366 i9 i10 i11 i12 i13 i14 i15 i16 i17 i18 i19 i20 s0 z f
set_option maxRecDepth 100000 in
set_option maxHeartbeats 4000000 in
theorem e_L_isSo_b402 {r : LWd} {k224 : Nat → Nat → Nat → Nat → Nat → Nat → Nat → Nat → Nat → Int32 → Int32 → Int32 → Int32 → Int32 → Int32 → LWd → Option (Int32 × LWd)} {kg224 : Int32 → Int32 → Int32 → Int32 → Int32 → Int32 → (Nat → Nat → Int32) → (Nat → Nat → Int32) → Option (Int32 × (Nat → Nat → Int32) × (Nat → Nat → Int32))} (hk224 : ∀ (i9 : Int32) (i10 : Int32) (i11 : Int32) (i12 : Int32) (i13 : Int32) (i14 : Int32) (z f : Nat → Nat → Int32), k224 0 66 67 68 69 70 71 73 74 i9 i10 i11 i12 i13 i14 (wA z f r) = (kg224 i9 i10 i11 i12 i13 i14 z f).map (fun q => (q.1, wA q.2.1 q.2.2 r))) {k366 : Nat → Nat → Nat → Nat → Nat → Nat → Nat → Nat → Nat → Int32 → Int32 → Int32 → Int32 → Int32 → Int32 → Int32 → Int32 → Int32 → Int32 → Int32 → Int32 → LWd → Option (Int32 × LWd)} {kg366 : Int32 → Int32 → Int32 → Int32 → Int32 → Int32 → Int32 → Int32 → Int32 → Int32 → Int32 → Int32 → (Nat → Nat → Int32) → (Nat → Nat → Int32) → Option (Int32 × (Nat → Nat → Int32) × (Nat → Nat → Int32))} (hk366 : ∀ (i9 : Int32) (i10 : Int32) (i11 : Int32) (i12 : Int32) (i13 : Int32) (i14 : Int32) (i15 : Int32) (i16 : Int32) (i17 : Int32) (i18 : Int32) (i19 : Int32) (i20 : Int32) (z f : Nat → Nat → Int32), k366 0 66 67 68 69 70 71 73 74 i9 i10 i11 i12 i13 i14 i15 i16 i17 i18 i19 i20 (wA z f r) = (kg366 i9 i10 i11 i12 i13 i14 i15 i16 i17 i18 i19 i20 z f).map (fun q => (q.1, wA q.2.1 q.2.2 r))) (i9 : Int32) (i10 : Int32) (i11 : Int32) (i12 : Int32) (i13 : Int32) (i14 : Int32) (i15 : Int32) (i16 : Int32) (i17 : Int32) (i18 : Int32) (i19 : Int32) (i20 : Int32) (s0 : Int32) (z f : Nat → Nat → Int32) : m_L_isSo_b402 k224 k366 0 66 67 68 69 70 71 73 74 i9 i10 i11 i12 i13 i14 i15 i16 i17 i18 i19 i20 s0 (wA z f r) = (g_L_isSo_b402 kg224 kg366 i9 i10 i11 i12 i13 i14 i15 i16 i17 i18 i19 i20 s0 z f).map (fun q => (q.1, wA q.2.1 q.2.2 r)) := by
  unfold m_L_isSo_b402 g_L_isSo_b402
  refine iteE (fun _ => ?_) (fun _ => ?_)
  · exact e_L_isSo_b458 (hk224 := hk224) (hk366 := hk366) _ _ _ _ _ _ _ _ _ _ _ _ _  _ _
  · refine caP (e_L_isNear) (fun x1 => ?_)
    refine iteE (fun _ => ?_) (fun _ => ?_)
    · exact e_L_isSo_b458 (hk224 := hk224) (hk366 := hk366) _ _ _ _ _ _ _ _ _ _ _ _ _  _ _
    · refine caP (e_L_isTaken) (fun x2 => ?_)
      refine iteE (fun _ => ?_) (fun _ => ?_)
      · exact e_L_isSo_b459 (hk224 := hk224) (hk366 := hk366) _ _ _ _ _ _ _ _ _ _ _ _ _ _  _ _
      · exact e_L_isSo_b458 (hk224 := hk224) (hk366 := hk366) _ _ _ _ _ _ _ _ _ _ _ _ _  _ _
def g_L_isSo_l366 (k224 : Int32 → Int32 → Int32 → Int32 → Int32 → Int32 → (Nat → Nat → Int32) → (Nat → Nat → Int32) → Option (Int32 × (Nat → Nat → Int32) × (Nat → Nat → Int32))) : Nat → Int32 → Int32 → Int32 → Int32 → Int32 → Int32 → Int32 → Int32 → Int32 → Int32 → Int32 → Int32 → (Nat → Nat → Int32) → (Nat → Nat → Int32) → Option (Int32 × (Nat → Nat → Int32) × (Nat → Nat → Int32))
  | 0, _, _, _, _, _, _, _, _, _, _, _, _, _, _ => none
  | fu + 1, i9, i10, i11, i12, i13, i14, i15, i16, i17, i18, i19, i20, z, f =>
    if 400 ≤ i20 then
      if i13 = 0 then
        g_L_isSo_b556 k224 i9 i10 i11 i12 i14 i15 i16 z f
      else
        (nthR (g_X10_foothold i14 z f)).bind fun x1 =>
        if x1 = i18 then
          g_L_isSo_b557 k224 i9 i10 i11 i12 i14 i15 i16 1 z f
        else
          g_L_isSo_b556 k224 i9 i10 i11 i12 i14 i15 i16 z f
    else
      (g_L_four 50 66 (400 + i20) f).bind fun x2 =>
      if 0 ≤ (x2 - i17) then
        g_L_isSo_b402 k224 (fun y0 y1 y2 y3 y4 y5 y6 y7 y8 y9 y10 y11 z f => g_L_isSo_l366 k224 fu y0 y1 y2 y3 y4 y5 y6 y7 y8 y9 y10 y11 z f) i9 i10 i11 i12 i13 i14 i15 i16 i17 i18 i19 i20 (x2 - i17) z f
      else
        g_L_isSo_b402 k224 (fun y0 y1 y2 y3 y4 y5 y6 y7 y8 y9 y10 y11 z f => g_L_isSo_l366 k224 fu y0 y1 y2 y3 y4 y5 y6 y7 y8 y9 y10 y11 z f) i9 i10 i11 i12 i13 i14 i15 i16 i17 i18 i19 i20 (-(x2 - i17)) z f
set_option maxRecDepth 100000 in
set_option maxHeartbeats 4000000 in
theorem e_L_isSo_l366 {r : LWd} {k224 : Nat → Nat → Nat → Nat → Nat → Nat → Nat → Nat → Nat → Int32 → Int32 → Int32 → Int32 → Int32 → Int32 → LWd → Option (Int32 × LWd)} {kg224 : Int32 → Int32 → Int32 → Int32 → Int32 → Int32 → (Nat → Nat → Int32) → (Nat → Nat → Int32) → Option (Int32 × (Nat → Nat → Int32) × (Nat → Nat → Int32))} (hk224 : ∀ (i9 : Int32) (i10 : Int32) (i11 : Int32) (i12 : Int32) (i13 : Int32) (i14 : Int32) (z f : Nat → Nat → Int32), k224 0 66 67 68 69 70 71 73 74 i9 i10 i11 i12 i13 i14 (wA z f r) = (kg224 i9 i10 i11 i12 i13 i14 z f).map (fun q => (q.1, wA q.2.1 q.2.2 r))) : ∀ (fu : Nat) (i9 : Int32) (i10 : Int32) (i11 : Int32) (i12 : Int32) (i13 : Int32) (i14 : Int32) (i15 : Int32) (i16 : Int32) (i17 : Int32) (i18 : Int32) (i19 : Int32) (i20 : Int32) (z f : Nat → Nat → Int32), m_L_isSo_l366 k224 fu 0 66 67 68 69 70 71 73 74 i9 i10 i11 i12 i13 i14 i15 i16 i17 i18 i19 i20 (wA z f r) = (g_L_isSo_l366 kg224 fu i9 i10 i11 i12 i13 i14 i15 i16 i17 i18 i19 i20 z f).map (fun q => (q.1, wA q.2.1 q.2.2 r)) := by
  intro fu
  induction fu with
  | zero => intro i9 i10 i11 i12 i13 i14 i15 i16 i17 i18 i19 i20  z f; first | rfl | (rw [m_L_isSo_l366, g_L_isSo_l366]; rfl)
  | succ fu ih =>
    intro i9 i10 i11 i12 i13 i14 i15 i16 i17 i18 i19 i20  z f
    rw [m_L_isSo_l366, g_L_isSo_l366]
    refine iteE (fun _ => ?_) (fun _ => ?_)
    · refine iteE (fun _ => ?_) (fun _ => ?_)
      · exact e_L_isSo_b556 (hk224 := hk224) _ _ _ _ _ _ _  _ _
      · refine caP (nt_r (e_X10_foothold)) (fun x1 => ?_)
        refine iteE (fun _ => ?_) (fun _ => ?_)
        · exact e_L_isSo_b557 (hk224 := hk224) _ _ _ _ _ _ _ _  _ _
        · exact e_L_isSo_b556 (hk224 := hk224) _ _ _ _ _ _ _  _ _
    · refine caP (e_L_four lwr_66) (fun x2 => ?_)
      refine iteE (fun _ => ?_) (fun _ => ?_)
      · exact e_L_isSo_b402 (hk224 := hk224) (hk366 := ih) _ _ _ _ _ _ _ _ _ _ _ _ _  _ _
      · exact e_L_isSo_b402 (hk224 := hk224) (hk366 := ih) _ _ _ _ _ _ _ _ _ _ _ _ _  _ _
def g_L_isSo_b330 (k224 : Int32 → Int32 → Int32 → Int32 → Int32 → Int32 → (Nat → Nat → Int32) → (Nat → Nat → Int32) → Option (Int32 × (Nat → Nat → Int32) × (Nat → Nat → Int32))) (i9 : Int32) (i10 : Int32) (i11 : Int32) (i12 : Int32) (i14 : Int32) (i15 : Int32) (s0 : Int32) (z f : Nat → Nat → Int32) : Option (Int32 × (Nat → Nat → Int32) × (Nat → Nat → Int32)) :=
  (g_L_level (i11 &&& ((1 <<< (i14 &&& 31)) ^^^ ((-1)))) z f).bind fun x1 =>
  g_L_isSo_l366 k224 FU i9 i10 i11 i12 s0 i14 i15 (i11 &&& ((1 <<< (i14 &&& 31)) ^^^ ((-1)))) x1 ((-1)) 10000 0 z f
set_option maxRecDepth 100000 in
set_option maxHeartbeats 4000000 in
theorem e_L_isSo_b330 {r : LWd} {k224 : Nat → Nat → Nat → Nat → Nat → Nat → Nat → Nat → Nat → Int32 → Int32 → Int32 → Int32 → Int32 → Int32 → LWd → Option (Int32 × LWd)} {kg224 : Int32 → Int32 → Int32 → Int32 → Int32 → Int32 → (Nat → Nat → Int32) → (Nat → Nat → Int32) → Option (Int32 × (Nat → Nat → Int32) × (Nat → Nat → Int32))} (hk224 : ∀ (i9 : Int32) (i10 : Int32) (i11 : Int32) (i12 : Int32) (i13 : Int32) (i14 : Int32) (z f : Nat → Nat → Int32), k224 0 66 67 68 69 70 71 73 74 i9 i10 i11 i12 i13 i14 (wA z f r) = (kg224 i9 i10 i11 i12 i13 i14 z f).map (fun q => (q.1, wA q.2.1 q.2.2 r))) (i9 : Int32) (i10 : Int32) (i11 : Int32) (i12 : Int32) (i14 : Int32) (i15 : Int32) (s0 : Int32) (z f : Nat → Nat → Int32) : m_L_isSo_b330 k224 0 66 67 68 69 70 71 73 74 i9 i10 i11 i12 i14 i15 s0 (wA z f r) = (g_L_isSo_b330 kg224 i9 i10 i11 i12 i14 i15 s0 z f).map (fun q => (q.1, wA q.2.1 q.2.2 r)) := by
  unfold m_L_isSo_b330 g_L_isSo_b330
  refine caP (e_L_level) (fun x1 => ?_)
  exact e_L_isSo_l366 (hk224 := hk224) FU _ _ _ _ _ _ _ _ _ _ _ _  _ _
def g_L_isSo_b329 (k224 : Int32 → Int32 → Int32 → Int32 → Int32 → Int32 → (Nat → Nat → Int32) → (Nat → Nat → Int32) → Option (Int32 × (Nat → Nat → Int32) × (Nat → Nat → Int32))) (i9 : Int32) (i10 : Int32) (i11 : Int32) (i12 : Int32) (i14 : Int32) (i15 : Int32) (z f : Nat → Nat → Int32) : Option (Int32 × (Nat → Nat → Int32) × (Nat → Nat → Int32)) :=
  g_L_isSo_b330 k224 i9 i10 i11 i12 i14 i15 0 z f
set_option maxRecDepth 100000 in
set_option maxHeartbeats 4000000 in
theorem e_L_isSo_b329 {r : LWd} {k224 : Nat → Nat → Nat → Nat → Nat → Nat → Nat → Nat → Nat → Int32 → Int32 → Int32 → Int32 → Int32 → Int32 → LWd → Option (Int32 × LWd)} {kg224 : Int32 → Int32 → Int32 → Int32 → Int32 → Int32 → (Nat → Nat → Int32) → (Nat → Nat → Int32) → Option (Int32 × (Nat → Nat → Int32) × (Nat → Nat → Int32))} (hk224 : ∀ (i9 : Int32) (i10 : Int32) (i11 : Int32) (i12 : Int32) (i13 : Int32) (i14 : Int32) (z f : Nat → Nat → Int32), k224 0 66 67 68 69 70 71 73 74 i9 i10 i11 i12 i13 i14 (wA z f r) = (kg224 i9 i10 i11 i12 i13 i14 z f).map (fun q => (q.1, wA q.2.1 q.2.2 r))) (i9 : Int32) (i10 : Int32) (i11 : Int32) (i12 : Int32) (i14 : Int32) (i15 : Int32) (z f : Nat → Nat → Int32) : m_L_isSo_b329 k224 0 66 67 68 69 70 71 73 74 i9 i10 i11 i12 i14 i15 (wA z f r) = (g_L_isSo_b329 kg224 i9 i10 i11 i12 i14 i15 z f).map (fun q => (q.1, wA q.2.1 q.2.2 r)) := by
  unfold m_L_isSo_b329 g_L_isSo_b329
  exact e_L_isSo_b330 (hk224 := hk224) _ _ _ _ _ _ _  _ _
def g_L_isSo_b322 (k224 : Int32 → Int32 → Int32 → Int32 → Int32 → Int32 → (Nat → Nat → Int32) → (Nat → Nat → Int32) → Option (Int32 × (Nat → Nat → Int32) × (Nat → Nat → Int32))) (i9 : Int32) (i10 : Int32) (i11 : Int32) (i12 : Int32) (i14 : Int32) (i15 : Int32) (s0 : Int32) (s1 : Int32) (z f : Nat → Nat → Int32) : Option (Int32 × (Nat → Nat → Int32) × (Nat → Nat → Int32)) :=
  if s0 = s1 then
    g_L_isSo_b330 k224 i9 i10 i11 i12 i14 i15 1 z f
  else
    g_L_isSo_b329 k224 i9 i10 i11 i12 i14 i15 z f
set_option maxRecDepth 100000 in
set_option maxHeartbeats 4000000 in
theorem e_L_isSo_b322 {r : LWd} {k224 : Nat → Nat → Nat → Nat → Nat → Nat → Nat → Nat → Nat → Int32 → Int32 → Int32 → Int32 → Int32 → Int32 → LWd → Option (Int32 × LWd)} {kg224 : Int32 → Int32 → Int32 → Int32 → Int32 → Int32 → (Nat → Nat → Int32) → (Nat → Nat → Int32) → Option (Int32 × (Nat → Nat → Int32) × (Nat → Nat → Int32))} (hk224 : ∀ (i9 : Int32) (i10 : Int32) (i11 : Int32) (i12 : Int32) (i13 : Int32) (i14 : Int32) (z f : Nat → Nat → Int32), k224 0 66 67 68 69 70 71 73 74 i9 i10 i11 i12 i13 i14 (wA z f r) = (kg224 i9 i10 i11 i12 i13 i14 z f).map (fun q => (q.1, wA q.2.1 q.2.2 r))) (i9 : Int32) (i10 : Int32) (i11 : Int32) (i12 : Int32) (i14 : Int32) (i15 : Int32) (s0 : Int32) (s1 : Int32) (z f : Nat → Nat → Int32) : m_L_isSo_b322 k224 0 66 67 68 69 70 71 73 74 i9 i10 i11 i12 i14 i15 s0 s1 (wA z f r) = (g_L_isSo_b322 kg224 i9 i10 i11 i12 i14 i15 s0 s1 z f).map (fun q => (q.1, wA q.2.1 q.2.2 r)) := by
  unfold m_L_isSo_b322 g_L_isSo_b322
  refine iteE (fun _ => ?_) (fun _ => ?_)
  · exact e_L_isSo_b330 (hk224 := hk224) _ _ _ _ _ _ _  _ _
  · exact e_L_isSo_b329 (hk224 := hk224) _ _ _ _ _ _  _ _
def g_L_isSo_b298 (k224 : Int32 → Int32 → Int32 → Int32 → Int32 → Int32 → (Nat → Nat → Int32) → (Nat → Nat → Int32) → Option (Int32 × (Nat → Nat → Int32) × (Nat → Nat → Int32))) (i9 : Int32) (i10 : Int32) (i11 : Int32) (i12 : Int32) (i14 : Int32) (i15 : Int32) (s0 : Int32) (s1 : Int32) (z f : Nat → Nat → Int32) : Option (Int32 × (Nat → Nat → Int32) × (Nat → Nat → Int32)) :=
  if s0 = s1 then
    (nthR (g_X10_foot i14 2 z f)).bind fun x1 =>
    if i15 = 0 then
      g_L_isSo_b322 k224 i9 i10 i11 i12 i14 i15 x1 ((-1)) z f
    else
      (ixA 6 i14).bind fun j2 =>
      g_L_isSo_b322 k224 i9 i10 i11 i12 i14 i15 x1 (f 71 j2) z f
  else
    g_L_isSo_b329 k224 i9 i10 i11 i12 i14 i15 z f
set_option maxRecDepth 100000 in
set_option maxHeartbeats 4000000 in
theorem e_L_isSo_b298 {r : LWd} {k224 : Nat → Nat → Nat → Nat → Nat → Nat → Nat → Nat → Nat → Int32 → Int32 → Int32 → Int32 → Int32 → Int32 → LWd → Option (Int32 × LWd)} {kg224 : Int32 → Int32 → Int32 → Int32 → Int32 → Int32 → (Nat → Nat → Int32) → (Nat → Nat → Int32) → Option (Int32 × (Nat → Nat → Int32) × (Nat → Nat → Int32))} (hk224 : ∀ (i9 : Int32) (i10 : Int32) (i11 : Int32) (i12 : Int32) (i13 : Int32) (i14 : Int32) (z f : Nat → Nat → Int32), k224 0 66 67 68 69 70 71 73 74 i9 i10 i11 i12 i13 i14 (wA z f r) = (kg224 i9 i10 i11 i12 i13 i14 z f).map (fun q => (q.1, wA q.2.1 q.2.2 r))) (i9 : Int32) (i10 : Int32) (i11 : Int32) (i12 : Int32) (i14 : Int32) (i15 : Int32) (s0 : Int32) (s1 : Int32) (z f : Nat → Nat → Int32) : m_L_isSo_b298 k224 0 66 67 68 69 70 71 73 74 i9 i10 i11 i12 i14 i15 s0 s1 (wA z f r) = (g_L_isSo_b298 kg224 i9 i10 i11 i12 i14 i15 s0 s1 z f).map (fun q => (q.1, wA q.2.1 q.2.2 r)) := by
  unfold m_L_isSo_b298 g_L_isSo_b298
  refine iteE (fun _ => ?_) (fun _ => ?_)
  · refine caP (nt_r (e_X10_foot)) (fun x1 => ?_)
    refine iteE (fun _ => ?_) (fun _ => ?_)
    · exact e_L_isSo_b322 (hk224 := hk224) _ _ _ _ _ _ _ _  _ _
    · refine opM aI_71 (fun j2 hj2 => ?_)
      exact e_L_isSo_b322 (hk224 := hk224) _ _ _ _ _ _ _ _  _ _
  · exact e_L_isSo_b329 (hk224 := hk224) _ _ _ _ _ _  _ _
def g_L_isSo_b274 (k224 : Int32 → Int32 → Int32 → Int32 → Int32 → Int32 → (Nat → Nat → Int32) → (Nat → Nat → Int32) → Option (Int32 × (Nat → Nat → Int32) × (Nat → Nat → Int32))) (i9 : Int32) (i10 : Int32) (i11 : Int32) (i12 : Int32) (i14 : Int32) (i15 : Int32) (s0 : Int32) (s1 : Int32) (z f : Nat → Nat → Int32) : Option (Int32 × (Nat → Nat → Int32) × (Nat → Nat → Int32)) :=
  if s0 = s1 then
    (nthR (g_X10_foot i14 1 z f)).bind fun x1 =>
    if i15 = 0 then
      g_L_isSo_b298 k224 i9 i10 i11 i12 i14 i15 x1 ((-1)) z f
    else
      (ixA 6 i14).bind fun j2 =>
      g_L_isSo_b298 k224 i9 i10 i11 i12 i14 i15 x1 (f 70 j2) z f
  else
    g_L_isSo_b329 k224 i9 i10 i11 i12 i14 i15 z f
set_option maxRecDepth 100000 in
set_option maxHeartbeats 4000000 in
theorem e_L_isSo_b274 {r : LWd} {k224 : Nat → Nat → Nat → Nat → Nat → Nat → Nat → Nat → Nat → Int32 → Int32 → Int32 → Int32 → Int32 → Int32 → LWd → Option (Int32 × LWd)} {kg224 : Int32 → Int32 → Int32 → Int32 → Int32 → Int32 → (Nat → Nat → Int32) → (Nat → Nat → Int32) → Option (Int32 × (Nat → Nat → Int32) × (Nat → Nat → Int32))} (hk224 : ∀ (i9 : Int32) (i10 : Int32) (i11 : Int32) (i12 : Int32) (i13 : Int32) (i14 : Int32) (z f : Nat → Nat → Int32), k224 0 66 67 68 69 70 71 73 74 i9 i10 i11 i12 i13 i14 (wA z f r) = (kg224 i9 i10 i11 i12 i13 i14 z f).map (fun q => (q.1, wA q.2.1 q.2.2 r))) (i9 : Int32) (i10 : Int32) (i11 : Int32) (i12 : Int32) (i14 : Int32) (i15 : Int32) (s0 : Int32) (s1 : Int32) (z f : Nat → Nat → Int32) : m_L_isSo_b274 k224 0 66 67 68 69 70 71 73 74 i9 i10 i11 i12 i14 i15 s0 s1 (wA z f r) = (g_L_isSo_b274 kg224 i9 i10 i11 i12 i14 i15 s0 s1 z f).map (fun q => (q.1, wA q.2.1 q.2.2 r)) := by
  unfold m_L_isSo_b274 g_L_isSo_b274
  refine iteE (fun _ => ?_) (fun _ => ?_)
  · refine caP (nt_r (e_X10_foot)) (fun x1 => ?_)
    refine iteE (fun _ => ?_) (fun _ => ?_)
    · exact e_L_isSo_b298 (hk224 := hk224) _ _ _ _ _ _ _ _  _ _
    · refine opM aI_70 (fun j2 hj2 => ?_)
      exact e_L_isSo_b298 (hk224 := hk224) _ _ _ _ _ _ _ _  _ _
  · exact e_L_isSo_b329 (hk224 := hk224) _ _ _ _ _ _  _ _
def g_L_isSo_b255 (k224 : Int32 → Int32 → Int32 → Int32 → Int32 → Int32 → (Nat → Nat → Int32) → (Nat → Nat → Int32) → Option (Int32 × (Nat → Nat → Int32) × (Nat → Nat → Int32))) (i9 : Int32) (i10 : Int32) (i11 : Int32) (i12 : Int32) (i14 : Int32) (s0 : Int32) (z f : Nat → Nat → Int32) : Option (Int32 × (Nat → Nat → Int32) × (Nat → Nat → Int32)) :=
  (nthR (g_X10_foot i14 0 z f)).bind fun x1 =>
  if s0 = 0 then
    g_L_isSo_b274 k224 i9 i10 i11 i12 i14 s0 x1 0 z f
  else
    g_L_isSo_b274 k224 i9 i10 i11 i12 i14 s0 x1 1 z f
set_option maxRecDepth 100000 in
set_option maxHeartbeats 4000000 in
theorem e_L_isSo_b255 {r : LWd} {k224 : Nat → Nat → Nat → Nat → Nat → Nat → Nat → Nat → Nat → Int32 → Int32 → Int32 → Int32 → Int32 → Int32 → LWd → Option (Int32 × LWd)} {kg224 : Int32 → Int32 → Int32 → Int32 → Int32 → Int32 → (Nat → Nat → Int32) → (Nat → Nat → Int32) → Option (Int32 × (Nat → Nat → Int32) × (Nat → Nat → Int32))} (hk224 : ∀ (i9 : Int32) (i10 : Int32) (i11 : Int32) (i12 : Int32) (i13 : Int32) (i14 : Int32) (z f : Nat → Nat → Int32), k224 0 66 67 68 69 70 71 73 74 i9 i10 i11 i12 i13 i14 (wA z f r) = (kg224 i9 i10 i11 i12 i13 i14 z f).map (fun q => (q.1, wA q.2.1 q.2.2 r))) (i9 : Int32) (i10 : Int32) (i11 : Int32) (i12 : Int32) (i14 : Int32) (s0 : Int32) (z f : Nat → Nat → Int32) : m_L_isSo_b255 k224 0 66 67 68 69 70 71 73 74 i9 i10 i11 i12 i14 s0 (wA z f r) = (g_L_isSo_b255 kg224 i9 i10 i11 i12 i14 s0 z f).map (fun q => (q.1, wA q.2.1 q.2.2 r)) := by
  unfold m_L_isSo_b255 g_L_isSo_b255
  refine caP (nt_r (e_X10_foot)) (fun x1 => ?_)
  refine iteE (fun _ => ?_) (fun _ => ?_)
  · exact e_L_isSo_b274 (hk224 := hk224) _ _ _ _ _ _ _ _  _ _
  · exact e_L_isSo_b274 (hk224 := hk224) _ _ _ _ _ _ _ _  _ _
def g_L_isSo_l224 : Nat → Int32 → Int32 → Int32 → Int32 → Int32 → Int32 → (Nat → Nat → Int32) → (Nat → Nat → Int32) → Option (Int32 × (Nat → Nat → Int32) × (Nat → Nat → Int32))
  | 0, _, _, _, _, _, _, _, _ => none
  | fu + 1, i9, i10, i11, i12, i13, i14, z, f =>
    if (f 74 7) ≤ i14 then
      g_L_isSo_b706 i9 i10 i11 i12 i13 z f
    else
      if i13 = 0 then
        g_L_isSo_b706 i9 i10 i11 i12 i13 z f
      else
        if ((i11 >>> (i14 &&& 31)) &&& 1) = 1 then
          g_L_isSo_b255 (fun y0 y1 y2 y3 y4 y5 z f => g_L_isSo_l224 fu y0 y1 y2 y3 y4 y5 z f) i9 i10 i11 i12 i14 1 z f
        else
          g_L_isSo_b255 (fun y0 y1 y2 y3 y4 y5 z f => g_L_isSo_l224 fu y0 y1 y2 y3 y4 y5 z f) i9 i10 i11 i12 i14 0 z f
set_option maxRecDepth 100000 in
set_option maxHeartbeats 4000000 in
theorem e_L_isSo_l224 {r : LWd} : ∀ (fu : Nat) (i9 : Int32) (i10 : Int32) (i11 : Int32) (i12 : Int32) (i13 : Int32) (i14 : Int32) (z f : Nat → Nat → Int32), m_L_isSo_l224 fu 0 66 67 68 69 70 71 73 74 i9 i10 i11 i12 i13 i14 (wA z f r) = (g_L_isSo_l224 fu i9 i10 i11 i12 i13 i14 z f).map (fun q => (q.1, wA q.2.1 q.2.2 r)) := by
  intro fu
  induction fu with
  | zero => intro i9 i10 i11 i12 i13 i14  z f; first | rfl | (rw [m_L_isSo_l224, g_L_isSo_l224]; rfl)
  | succ fu ih =>
    intro i9 i10 i11 i12 i13 i14  z f
    rw [m_L_isSo_l224, g_L_isSo_l224]
    refine opS (aI_74.trans (ixl_7 _)) ?_
    refine iteE (fun _ => ?_) (fun _ => ?_)
    · exact e_L_isSo_b706 _ _ _ _ _  _ _
    · refine iteE (fun _ => ?_) (fun _ => ?_)
      · exact e_L_isSo_b706 _ _ _ _ _  _ _
      · refine iteE (fun _ => ?_) (fun _ => ?_)
        · exact e_L_isSo_b255 (hk224 := ih) _ _ _ _ _ _  _ _
        · exact e_L_isSo_b255 (hk224 := ih) _ _ _ _ _ _  _ _
def g_L_isSo_b219 (i9 : Int32) (i10 : Int32) (i11 : Int32) (i12 : Int32) (s0 : Int32) (z f : Nat → Nat → Int32) : Option (Int32 × (Nat → Nat → Int32) × (Nat → Nat → Int32)) :=
  g_L_isSo_l224 FU i9 i10 i11 i12 s0 0 z f
set_option maxRecDepth 100000 in
set_option maxHeartbeats 4000000 in
theorem e_L_isSo_b219 {r : LWd} (i9 : Int32) (i10 : Int32) (i11 : Int32) (i12 : Int32) (s0 : Int32) (z f : Nat → Nat → Int32) : m_L_isSo_b219 0 66 67 68 69 70 71 73 74 i9 i10 i11 i12 s0 (wA z f r) = (g_L_isSo_b219 i9 i10 i11 i12 s0 z f).map (fun q => (q.1, wA q.2.1 q.2.2 r)) := by
  unfold m_L_isSo_b219 g_L_isSo_b219
  exact e_L_isSo_l224 FU _ _ _ _ _ _  _ _
def g_L_isSo_b218 (i9 : Int32) (i10 : Int32) (i11 : Int32) (i12 : Int32) (z f : Nat → Nat → Int32) : Option (Int32 × (Nat → Nat → Int32) × (Nat → Nat → Int32)) :=
  g_L_isSo_b219 i9 i10 i11 i12 0 z f
set_option maxRecDepth 100000 in
set_option maxHeartbeats 4000000 in
theorem e_L_isSo_b218 {r : LWd} (i9 : Int32) (i10 : Int32) (i11 : Int32) (i12 : Int32) (z f : Nat → Nat → Int32) : m_L_isSo_b218 0 66 67 68 69 70 71 73 74 i9 i10 i11 i12 (wA z f r) = (g_L_isSo_b218 i9 i10 i11 i12 z f).map (fun q => (q.1, wA q.2.1 q.2.2 r)) := by
  unfold m_L_isSo_b218 g_L_isSo_b218
  exact e_L_isSo_b219 _ _ _ _ _  _ _
def g_L_isSo_b193 (i9 : Int32) (i10 : Int32) (i11 : Int32) (i12 : Int32) (s0 : Int32) (s1 : Int32) (z f : Nat → Nat → Int32) : Option (Int32 × (Nat → Nat → Int32) × (Nat → Nat → Int32)) :=
  if s0 = s1 then
    bn3 (g_X10_isStable  z f) fun x1 z2 u3 =>
    if x1 = i12 then
      bn3 (g_X10_isStableAnew  z2 u3) fun x4 z5 u6 =>
      if x4 = i12 then
        g_L_isSo_b219 i9 i10 i11 i12 1 z5 u6
      else
        g_L_isSo_b218 i9 i10 i11 i12 z5 u6
    else
      g_L_isSo_b218 i9 i10 i11 i12 z2 u3
  else
    g_L_isSo_b218 i9 i10 i11 i12 z f
set_option maxRecDepth 100000 in
set_option maxHeartbeats 4000000 in
theorem e_L_isSo_b193 {r : LWd} (i9 : Int32) (i10 : Int32) (i11 : Int32) (i12 : Int32) (s0 : Int32) (s1 : Int32) (z f : Nat → Nat → Int32) : m_L_isSo_b193 0 66 67 68 69 70 71 73 74 i9 i10 i11 i12 s0 s1 (wA z f r) = (g_L_isSo_b193 i9 i10 i11 i12 s0 s1 z f).map (fun q => (q.1, wA q.2.1 q.2.2 r)) := by
  unfold m_L_isSo_b193 g_L_isSo_b193
  refine iteE (fun _ => ?_) (fun _ => ?_)
  · refine caW (e_X10_isStable) (fun _ _ => wA_len) (fun x1 z2 u3 => ?_)
    refine iteE (fun _ => ?_) (fun _ => ?_)
    · refine caW (e_X10_isStableAnew) (fun _ _ => wA_len) (fun x4 z5 u6 => ?_)
      refine iteE (fun _ => ?_) (fun _ => ?_)
      · exact e_L_isSo_b219 _ _ _ _ _  _ _
      · exact e_L_isSo_b218 _ _ _ _  _ _
    · exact e_L_isSo_b218 _ _ _ _  _ _
  · exact e_L_isSo_b218 _ _ _ _  _ _
def g_L_isSo (i9 : Int32) (i10 : Int32) (z f : Nat → Nat → Int32) : Option (Int32 × (Nat → Nat → Int32) × (Nat → Nat → Int32)) :=
  (g_L_holds (f 74 8) z f).bind fun x2 =>
  (nthR (g_X10_machine 0 z f)).bind fun x3 =>
  if x3 = (f 74 1) then
    (nthR (g_X10_machine 1 z f)).bind fun x5 =>
    if x5 = (f 74 2) then
      (nthR (g_X10_machine 2 z f)).bind fun x7 =>
      if x7 = (f 74 0) then
        (nthR (g_X10_machine 3 z f)).bind fun x9 =>
        if x9 = (f 74 3) then
          (nthR (g_X10_machine 4 z f)).bind fun x11 =>
          if x11 = (f 74 4) then
            (nthR (g_X10_machine 5 z f)).bind fun x13 =>
            (g_L_level (f 74 8) z f).bind fun x14 =>
            if x13 = x14 then
              (nthR (g_X10_machine 6 z f)).bind fun x15 =>
              (g_L_pressure (f 74 8) z f).bind fun x16 =>
              if x15 = x16 then
                (nthR (g_X10_machine 7 z f)).bind fun x17 =>
                (g_L_many (f 74 8) z f).bind fun x18 =>
                if x17 = x18 then
                  (nthR (g_X10_machine 8 z f)).bind fun x19 =>
                  if x19 = (f 74 9) then
                    (nthR (g_X10_machine 9 z f)).bind fun x21 =>
                    if x21 = (f 74 11) then
                      (nthR (g_X10_machine 10 z f)).bind fun x23 =>
                      if x23 = (f 74 7) then
                        (nthR (g_X10_machine 11 z f)).bind fun x25 =>
                        if (f 74 12) = 0 then
                          g_L_isSo_b193 i9 i10 (f 74 8) x2 x25 ((-1)) z f
                        else
                          g_L_isSo_b193 i9 i10 (f 74 8) x2 x25 (f 74 13) z f
                      else
                        g_L_isSo_b218 i9 i10 (f 74 8) x2 z f
                    else
                      g_L_isSo_b218 i9 i10 (f 74 8) x2 z f
                  else
                    g_L_isSo_b218 i9 i10 (f 74 8) x2 z f
                else
                  g_L_isSo_b218 i9 i10 (f 74 8) x2 z f
              else
                g_L_isSo_b218 i9 i10 (f 74 8) x2 z f
            else
              g_L_isSo_b218 i9 i10 (f 74 8) x2 z f
          else
            g_L_isSo_b218 i9 i10 (f 74 8) x2 z f
        else
          g_L_isSo_b218 i9 i10 (f 74 8) x2 z f
      else
        g_L_isSo_b218 i9 i10 (f 74 8) x2 z f
    else
      g_L_isSo_b218 i9 i10 (f 74 8) x2 z f
  else
    g_L_isSo_b218 i9 i10 (f 74 8) x2 z f
set_option maxRecDepth 100000 in
set_option maxHeartbeats 4000000 in
theorem e_L_isSo {r : LWd} {z f : Nat → Nat → Int32} {i9 : Int32} {i10 : Int32} : m_L_isSo 0 66 67 68 69 70 71 73 74 i9 i10 (wA z f r) = (g_L_isSo i9 i10 z f).map (fun q => (q.1, wA q.2.1 q.2.2 r)) := by
  unfold m_L_isSo g_L_isSo
  refine opS (aI_74.trans (ixl_8 _)) ?_
  refine caP (e_L_holds) (fun x2 => ?_)
  refine caP (nt_r (e_X10_machine)) (fun x3 => ?_)
  refine opS (aI_74.trans (ixl_1 _)) ?_
  refine iteE (fun _ => ?_) (fun _ => ?_)
  · refine caP (nt_r (e_X10_machine)) (fun x5 => ?_)
    refine opS (aI_74.trans (ixl_2 _)) ?_
    refine iteE (fun _ => ?_) (fun _ => ?_)
    · refine caP (nt_r (e_X10_machine)) (fun x7 => ?_)
      refine opS (aI_74.trans (ixl_0 _)) ?_
      refine iteE (fun _ => ?_) (fun _ => ?_)
      · refine caP (nt_r (e_X10_machine)) (fun x9 => ?_)
        refine opS (aI_74.trans (ixl_3 _)) ?_
        refine iteE (fun _ => ?_) (fun _ => ?_)
        · refine caP (nt_r (e_X10_machine)) (fun x11 => ?_)
          refine opS (aI_74.trans (ixl_4 _)) ?_
          refine iteE (fun _ => ?_) (fun _ => ?_)
          · refine caP (nt_r (e_X10_machine)) (fun x13 => ?_)
            refine caP (e_L_level) (fun x14 => ?_)
            refine iteE (fun _ => ?_) (fun _ => ?_)
            · refine caP (nt_r (e_X10_machine)) (fun x15 => ?_)
              refine caP (e_L_pressure) (fun x16 => ?_)
              refine iteE (fun _ => ?_) (fun _ => ?_)
              · refine caP (nt_r (e_X10_machine)) (fun x17 => ?_)
                refine caP (e_L_many) (fun x18 => ?_)
                refine iteE (fun _ => ?_) (fun _ => ?_)
                · refine caP (nt_r (e_X10_machine)) (fun x19 => ?_)
                  refine opS (aI_74.trans (ixl_9 _)) ?_
                  refine iteE (fun _ => ?_) (fun _ => ?_)
                  · refine caP (nt_r (e_X10_machine)) (fun x21 => ?_)
                    refine opS (aI_74.trans (ixl_11 _)) ?_
                    refine iteE (fun _ => ?_) (fun _ => ?_)
                    · refine caP (nt_r (e_X10_machine)) (fun x23 => ?_)
                      refine opS (aI_74.trans (ixl_7 _)) ?_
                      refine iteE (fun _ => ?_) (fun _ => ?_)
                      · refine caP (nt_r (e_X10_machine)) (fun x25 => ?_)
                        refine opS (aI_74.trans (ixl_12 _)) ?_
                        refine iteE (fun _ => ?_) (fun _ => ?_)
                        · exact e_L_isSo_b193 _ _ _ _ _ _  _ _
                        · refine opS (aI_74.trans (ixl_13 _)) ?_
                          exact e_L_isSo_b193 _ _ _ _ _ _  _ _
                      · exact e_L_isSo_b218 _ _ _ _  _ _
                    · exact e_L_isSo_b218 _ _ _ _  _ _
                  · exact e_L_isSo_b218 _ _ _ _  _ _
                · exact e_L_isSo_b218 _ _ _ _  _ _
              · exact e_L_isSo_b218 _ _ _ _  _ _
            · exact e_L_isSo_b218 _ _ _ _  _ _
          · exact e_L_isSo_b218 _ _ _ _  _ _
        · exact e_L_isSo_b218 _ _ _ _  _ _
      · exact e_L_isSo_b218 _ _ _ _  _ _
    · exact e_L_isSo_b218 _ _ _ _  _ _
  · exact e_L_isSo_b218 _ _ _ _  _ _
