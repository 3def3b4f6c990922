/-! methods: written by wip/p27/make.py -/
def wsL_isTold : List Cond := Cond.code yL_isTold cL_isTold 25 (some .boolean) :: jW
def m_L_isTold_b1143 (s0 : Int32) (s1 : Int32) (ws : LWd) : Option (Int32 × LWd) :=
  if s0 = s1 then
    some (1, ws)
  else
    some (0, ws)
set_option maxRecDepth 100000 in
set_option maxHeartbeats 4000000 in
theorem jm_L_isTold_b1143 {n0 : Nat} {rr : Int32} {ws' : LWd} (s0 : Int32) (s1 : Int32) (ws : LWd) (h : m_L_isTold_b1143 s0 s1 ws = some (rr, ws')) : JG (.inr none) cL_isTold 25 RL wsL_isTold (some .boolean) "isTold" 8 1 6 n0 (.inl (some (.int rr)), ws') 1143 [none, none, none, none, none, none, none, none, none, none, none, none, none, none, none, none, none, none, none, none, none, none, none, none, none] [.int s1, .int s0] ws 1 6 := by
  unfold m_L_isTold_b1143 at h
  refine j_icmp_ne (pc := 1143) (tgt := 1150) dL_isTold_1143 (by decide) (fun c1 => ?_) (fun c1 => ?_)
  · rw [if_neg c1] at h
    refine j_iconst (pc := 1150) dL_isTold_1150 (v := 0) (by decide) ?_
    obtain ⟨rfl, rfl⟩ := jretS h
    exact j_zretL (pc := 1151) (by decide) rfl dL_isTold_1151 (by decide) (by decide) rfl
  · rw [if_pos c1] at h
    refine j_iconst (pc := 1146) dL_isTold_1146 (v := 1) (by decide) ?_
    refine j_goto (pc := 1147) (tgt := 1151) dL_isTold_1147 (by decide) ?_
    obtain ⟨rfl, rfl⟩ := jretS h
    exact j_zretL (pc := 1151) (by decide) rfl dL_isTold_1151 (by decide) (by decide) rfl
def m_L_isTold_b1093 (a0 : Nat) (a8 : Nat) (i17 : Int32) (i18 : Int32) (i19 : Int32) (i20 : Int32) (i21 : Int32) (i22 : Int32) (i23 : Int32) (i24 : Int32) (ws : LWd) : Option (Int32 × LWd) :=
  bn2 (calSR ws (m_L_does a0 4 i17 i18 i19 i20 i21 ws)) fun x3 w1 =>
  if i22 = 0 then
    m_L_isTold_b1143 x3 ((-3000000)) w1
  else
    if i23 = 0 then
      m_L_isTold_b1143 x3 ((-2000000)) w1
    else
      if i24 = 0 then
        m_L_isTold_b1143 x3 ((-1000000)) w1
      else
        (aI w1 a8 12).bind fun x7 =>
        m_L_isTold_b1143 x3 x7 w1
set_option maxRecDepth 100000 in
set_option maxHeartbeats 4000000 in
theorem jm_L_isTold_b1093 {n0 : Nat} {rr : Int32} {ws' : LWd} (a0 : Nat) (a8 : Nat) (i17 : Int32) (i18 : Int32) (i19 : Int32) (i20 : Int32) (i21 : Int32) (i22 : Int32) (i23 : Int32) (i24 : Int32) (ws : LWd) (h : m_L_isTold_b1093 a0 a8 i17 i18 i19 i20 i21 i22 i23 i24 ws = some (rr, ws')) : JG (.inr none) cL_isTold 25 RL wsL_isTold (some .boolean) "isTold" 8 1 6 n0 (.inl (some (.int rr)), ws') 1093 [some (.ref a0), none, none, none, none, none, none, none, some (.ref a8), none, none, none, none, none, none, none, none, some (.int i17), some (.int i18), some (.int i19), some (.int i20), some (.int i21), some (.int i22), some (.int i23), some (.int i24)] [] ws 0 0 := by
  unfold m_L_isTold_b1093 at h
  refine j_aload_n (pc := 1093) dL_isTold_1093 rfl ?_
  refine j_iconst (pc := 1094) dL_isTold_1094 (v := 4) (by decide) ?_
  refine j_iload (pc := 1095) dL_isTold_1095 rfl ?_
  refine j_iload (pc := 1097) dL_isTold_1097 rfl ?_
  refine j_iload (pc := 1099) dL_isTold_1099 rfl ?_
  refine j_iload (pc := 1101) dL_isTold_1101 rfl ?_
  refine j_iload (pc := 1103) dL_isTold_1103 rfl ?_
  obtain ⟨x3, w1, e2, h⟩ := obS2 h
  have ge2 := calSR_of e2
  refine j_callSW (pc := 1105) (As := [.ref a0, .int 4, .int i17, .int i18, .int i19, .int i20, .int i21]) (k' := 1) (n' := 6) dL_isTold_1105 (fun q h => by cases h) (s_L_does ge2.1) (jgS lw_657 lw_658 lw_597 lw_656) rfl hy_L_does rfl (by decide) (by decide) (Nat.le_of_ble_eq_true rfl) (by decide) (by decide) (by decide) (by decide) ge2.2 ?_
  refine j_iload (pc := 1108) dL_isTold_1108 rfl ?_
  refine j_if_ne (pc := 1110) (tgt := 1118) dL_isTold_1110 (by decide) (fun c4 => ?_) (fun c4 => ?_)
  · rw [if_neg c4] at h
    refine j_iload (pc := 1118) dL_isTold_1118 rfl ?_
    refine j_if_ne (pc := 1120) (tgt := 1128) dL_isTold_1120 (by decide) (fun c5 => ?_) (fun c5 => ?_)
    · rw [if_neg c5] at h
      refine j_iload (pc := 1128) dL_isTold_1128 rfl ?_
      refine j_if_eq (pc := 1130) (tgt := 1141) dL_isTold_1130 (by decide) (fun c6 => ?_) (fun c6 => ?_)
      · rw [if_pos c6] at h
        refine j_ldc (pc := 1141) dL_isTold_1141 (v := (-1000000)) (jwm lw_530) ?_
        refine j_mask [false, false, false, false, false, false, false, false, false, false, false, false, false, false, false, false, false, false, false, false, false, false, false, false, false] ?_
        exact jm_L_isTold_b1143 _ _ w1 h
      · rw [if_neg c6] at h
        refine j_aload (pc := 1133) dL_isTold_1133 rfl ?_
        refine j_bipush (pc := 1135) dL_isTold_1135 (v := 12) (by decide) ?_
        obtain ⟨x7, e8, h⟩ := obS h
        refine j_iald (pc := 1137) dL_isTold_1137 e8 ?_
        refine j_goto (pc := 1138) (tgt := 1143) dL_isTold_1138 (by decide) ?_
        refine j_mask [false, false, false, false, false, false, false, false, false, false, false, false, false, false, false, false, false, false, false, false, false, false, false, false, false] ?_
        exact jm_L_isTold_b1143 _ _ w1 h
    · rw [if_pos c5] at h
      refine j_ldc (pc := 1123) dL_isTold_1123 (v := (-2000000)) (jwm lw_528) ?_
      refine j_goto (pc := 1125) (tgt := 1143) dL_isTold_1125 (by decide) ?_
      refine j_mask [false, false, false, false, false, false, false, false, false, false, false, false, false, false, false, false, false, false, false, false, false, false, false, false, false] ?_
      exact jm_L_isTold_b1143 _ _ w1 h
  · rw [if_pos c4] at h
    refine j_ldc (pc := 1113) dL_isTold_1113 (v := (-3000000)) (jwm lw_526) ?_
    refine j_goto (pc := 1115) (tgt := 1143) dL_isTold_1115 (by decide) ?_
    refine j_mask [false, false, false, false, false, false, false, false, false, false, false, false, false, false, false, false, false, false, false, false, false, false, false, false, false] ?_
    exact jm_L_isTold_b1143 _ _ w1 h
def m_L_isTold_b1030 (a0 : Nat) (a7 : Nat) (a8 : Nat) (i17 : Int32) (i18 : Int32) (i19 : Int32) (i20 : Int32) (i21 : Int32) (i22 : Int32) (i23 : Int32) (s0 : Int32) (ws : LWd) : Option (Int32 × LWd) :=
  if s0 = 0 then
    m_L_isTold_b1093 a0 a8 i17 i18 i19 i20 i21 i22 i23 s0 ws
  else
    (aI ws a8 12).bind fun x2 =>
    (sI ws a7 x2 ((((i17 + (8 * (i18 + 6))) + (128 * (i19 + 6))) + (2048 * (i20 + 1))) + (8192 * (i21 + 1)))).bind fun w4 =>
    (aI w4 a8 12).bind fun x6 =>
    (sI w4 a8 12 (x6 + 1)).bind fun w8 =>
    m_L_isTold_b1093 a0 a8 i17 i18 i19 i20 i21 i22 i23 s0 w8
set_option maxRecDepth 100000 in
set_option maxHeartbeats 4000000 in
theorem jm_L_isTold_b1030 {n0 : Nat} {rr : Int32} {ws' : LWd} (a0 : Nat) (a7 : Nat) (a8 : Nat) (i17 : Int32) (i18 : Int32) (i19 : Int32) (i20 : Int32) (i21 : Int32) (i22 : Int32) (i23 : Int32) (s0 : Int32) (ws : LWd) (h : m_L_isTold_b1030 a0 a7 a8 i17 i18 i19 i20 i21 i22 i23 s0 ws = some (rr, ws')) : JG (.inr none) cL_isTold 25 RL wsL_isTold (some .boolean) "isTold" 8 1 6 n0 (.inl (some (.int rr)), ws') 1030 [some (.ref a0), none, none, none, none, none, none, some (.ref a7), some (.ref a8), none, none, none, none, none, none, none, none, some (.int i17), some (.int i18), some (.int i19), some (.int i20), some (.int i21), some (.int i22), some (.int i23), none] [.int s0] ws 0 0 := by
  unfold m_L_isTold_b1030 at h
  refine j_istore_24 (pc := 1030) dL_isTold_1030 (by decide) rfl ?_
  refine j_iload (pc := 1032) dL_isTold_1032 rfl ?_
  refine j_if_eq (pc := 1034) (tgt := 1093) dL_isTold_1034 (by decide) (fun c1 => ?_) (fun c1 => ?_)
  · rw [if_pos c1] at h
    refine j_mask [true, false, false, false, false, false, false, false, true, false, false, false, false, false, false, false, false, true, true, true, true, true, true, true, true] ?_
    exact jm_L_isTold_b1093 _ _ _ _ _ _ _ _ _ _ ws h
  · rw [if_neg c1] at h
    refine j_aload (pc := 1037) dL_isTold_1037 rfl ?_
    refine j_aload (pc := 1039) dL_isTold_1039 rfl ?_
    refine j_bipush (pc := 1041) dL_isTold_1041 (v := 12) (by decide) ?_
    obtain ⟨x2, e3, h⟩ := obS h
    refine j_iald (pc := 1043) dL_isTold_1043 e3 ?_
    refine j_iload (pc := 1044) dL_isTold_1044 rfl ?_
    refine j_bipush (pc := 1046) dL_isTold_1046 (v := 8) (by decide) ?_
    refine j_iload (pc := 1048) dL_isTold_1048 rfl ?_
    refine j_bipush (pc := 1050) dL_isTold_1050 (v := 6) (by decide) ?_
    refine j_iadd (pc := 1052) dL_isTold_1052 ?_
    refine j_imul (pc := 1053) dL_isTold_1053 ?_
    refine j_iadd (pc := 1054) dL_isTold_1054 ?_
    refine j_sipush (pc := 1055) dL_isTold_1055 (v := 128) (by decide) ?_
    refine j_iload (pc := 1058) dL_isTold_1058 rfl ?_
    refine j_bipush (pc := 1060) dL_isTold_1060 (v := 6) (by decide) ?_
    refine j_iadd (pc := 1062) dL_isTold_1062 ?_
    refine j_imul (pc := 1063) dL_isTold_1063 ?_
    refine j_iadd (pc := 1064) dL_isTold_1064 ?_
    refine j_sipush (pc := 1065) dL_isTold_1065 (v := 2048) (by decide) ?_
    refine j_iload (pc := 1068) dL_isTold_1068 rfl ?_
    refine j_iconst (pc := 1070) dL_isTold_1070 (v := 1) (by decide) ?_
    refine j_iadd (pc := 1071) dL_isTold_1071 ?_
    refine j_imul (pc := 1072) dL_isTold_1072 ?_
    refine j_iadd (pc := 1073) dL_isTold_1073 ?_
    refine j_sipush (pc := 1074) dL_isTold_1074 (v := 8192) (by decide) ?_
    refine j_iload (pc := 1077) dL_isTold_1077 rfl ?_
    refine j_iconst (pc := 1079) dL_isTold_1079 (v := 1) (by decide) ?_
    refine j_iadd (pc := 1080) dL_isTold_1080 ?_
    refine j_imul (pc := 1081) dL_isTold_1081 ?_
    refine j_iadd (pc := 1082) dL_isTold_1082 ?_
    obtain ⟨w4, e5, h⟩ := obS h
    refine j_iast (pc := 1083) dL_isTold_1083 e5 ?_
    refine j_aload (pc := 1084) dL_isTold_1084 rfl ?_
    refine j_bipush (pc := 1086) dL_isTold_1086 (v := 12) (by decide) ?_
    refine j_dup2 (pc := 1088) dL_isTold_1088 rfl rfl ?_
    obtain ⟨x6, e7, h⟩ := obS h
    refine j_iald (pc := 1089) dL_isTold_1089 e7 ?_
    refine j_iconst (pc := 1090) dL_isTold_1090 (v := 1) (by decide) ?_
    refine j_iadd (pc := 1091) dL_isTold_1091 ?_
    obtain ⟨w8, e9, h⟩ := obS h
    refine j_iast (pc := 1092) dL_isTold_1092 e9 ?_
    refine j_mask [true, false, false, false, false, false, false, false, true, false, false, false, false, false, false, false, false, true, true, true, true, true, true, true, true] ?_
    exact jm_L_isTold_b1093 _ _ _ _ _ _ _ _ _ _ w8 h
def m_L_isTold_b1029 (a0 : Nat) (a7 : Nat) (a8 : Nat) (i17 : Int32) (i18 : Int32) (i19 : Int32) (i20 : Int32) (i21 : Int32) (i22 : Int32) (i23 : Int32) (ws : LWd) : Option (Int32 × LWd) :=
  m_L_isTold_b1030 a0 a7 a8 i17 i18 i19 i20 i21 i22 i23 0 ws
set_option maxRecDepth 100000 in
set_option maxHeartbeats 4000000 in
theorem jm_L_isTold_b1029 {n0 : Nat} {rr : Int32} {ws' : LWd} (a0 : Nat) (a7 : Nat) (a8 : Nat) (i17 : Int32) (i18 : Int32) (i19 : Int32) (i20 : Int32) (i21 : Int32) (i22 : Int32) (i23 : Int32) (ws : LWd) (h : m_L_isTold_b1029 a0 a7 a8 i17 i18 i19 i20 i21 i22 i23 ws = some (rr, ws')) : JG (.inr none) cL_isTold 25 RL wsL_isTold (some .boolean) "isTold" 8 1 6 n0 (.inl (some (.int rr)), ws') 1029 [some (.ref a0), none, none, none, none, none, none, some (.ref a7), some (.ref a8), none, none, none, none, none, none, none, none, some (.int i17), some (.int i18), some (.int i19), some (.int i20), some (.int i21), some (.int i22), some (.int i23), none] [] ws 0 0 := by
  unfold m_L_isTold_b1029 at h
  refine j_iconst (pc := 1029) dL_isTold_1029 (v := 0) (by decide) ?_
  exact jm_L_isTold_b1030 _ _ _ _ _ _ _ _ _ _ _ ws h
def m_L_isTold_b1003 (a0 : Nat) (a7 : Nat) (a8 : Nat) (i17 : Int32) (i18 : Int32) (i19 : Int32) (i20 : Int32) (i21 : Int32) (i22 : Int32) (s0 : Int32) (ws : LWd) : Option (Int32 × LWd) :=
  if i22 = 0 then
    m_L_isTold_b1029 a0 a7 a8 i17 i18 i19 i20 i21 i22 s0 ws
  else
    if s0 = 0 then
      m_L_isTold_b1029 a0 a7 a8 i17 i18 i19 i20 i21 i22 s0 ws
    else
      (aI ws a8 12).bind fun x3 =>
      if 8 ≤ x3 then
        m_L_isTold_b1029 a0 a7 a8 i17 i18 i19 i20 i21 i22 s0 ws
      else
        m_L_isTold_b1030 a0 a7 a8 i17 i18 i19 i20 i21 i22 s0 1 ws
set_option maxRecDepth 100000 in
set_option maxHeartbeats 4000000 in
theorem jm_L_isTold_b1003 {n0 : Nat} {rr : Int32} {ws' : LWd} (a0 : Nat) (a7 : Nat) (a8 : Nat) (i17 : Int32) (i18 : Int32) (i19 : Int32) (i20 : Int32) (i21 : Int32) (i22 : Int32) (s0 : Int32) (ws : LWd) (h : m_L_isTold_b1003 a0 a7 a8 i17 i18 i19 i20 i21 i22 s0 ws = some (rr, ws')) : JG (.inr none) cL_isTold 25 RL wsL_isTold (some .boolean) "isTold" 8 1 6 n0 (.inl (some (.int rr)), ws') 1003 [some (.ref a0), none, none, none, none, none, none, some (.ref a7), some (.ref a8), none, none, none, none, none, none, none, none, some (.int i17), some (.int i18), some (.int i19), some (.int i20), some (.int i21), some (.int i22), none, none] [.int s0] ws 0 0 := by
  unfold m_L_isTold_b1003 at h
  refine j_istore_23 (pc := 1003) dL_isTold_1003 (by decide) rfl ?_
  refine j_iload (pc := 1005) dL_isTold_1005 rfl ?_
  refine j_if_eq (pc := 1007) (tgt := 1029) dL_isTold_1007 (by decide) (fun c1 => ?_) (fun c1 => ?_)
  · rw [if_pos c1] at h
    exact jm_L_isTold_b1029 _ _ _ _ _ _ _ _ _ _ ws h
  · rw [if_neg c1] at h
    refine j_iload (pc := 1010) dL_isTold_1010 rfl ?_
    refine j_if_eq (pc := 1012) (tgt := 1029) dL_isTold_1012 (by decide) (fun c2 => ?_) (fun c2 => ?_)
    · rw [if_pos c2] at h
      exact jm_L_isTold_b1029 _ _ _ _ _ _ _ _ _ _ ws h
    · rw [if_neg c2] at h
      refine j_aload (pc := 1015) dL_isTold_1015 rfl ?_
      refine j_bipush (pc := 1017) dL_isTold_1017 (v := 12) (by decide) ?_
      obtain ⟨x3, e4, h⟩ := obS h
      refine j_iald (pc := 1019) dL_isTold_1019 e4 ?_
      refine j_bipush (pc := 1020) dL_isTold_1020 (v := 8) (by decide) ?_
      refine j_icmp_ge (pc := 1022) (tgt := 1029) dL_isTold_1022 (by decide) (fun c5 => ?_) (fun c5 => ?_)
      · rw [if_pos c5] at h
        exact jm_L_isTold_b1029 _ _ _ _ _ _ _ _ _ _ ws h
      · rw [if_neg c5] at h
        refine j_iconst (pc := 1025) dL_isTold_1025 (v := 1) (by decide) ?_
        refine j_goto (pc := 1026) (tgt := 1030) dL_isTold_1026 (by decide) ?_
        exact jm_L_isTold_b1030 _ _ _ _ _ _ _ _ _ _ _ ws h
def m_L_isTold_b1002 (a0 : Nat) (a7 : Nat) (a8 : Nat) (i17 : Int32) (i18 : Int32) (i19 : Int32) (i20 : Int32) (i21 : Int32) (i22 : Int32) (ws : LWd) : Option (Int32 × LWd) :=
  m_L_isTold_b1003 a0 a7 a8 i17 i18 i19 i20 i21 i22 0 ws
set_option maxRecDepth 100000 in
set_option maxHeartbeats 4000000 in
theorem jm_L_isTold_b1002 {n0 : Nat} {rr : Int32} {ws' : LWd} (a0 : Nat) (a7 : Nat) (a8 : Nat) (i17 : Int32) (i18 : Int32) (i19 : Int32) (i20 : Int32) (i21 : Int32) (i22 : Int32) (ws : LWd) (h : m_L_isTold_b1002 a0 a7 a8 i17 i18 i19 i20 i21 i22 ws = some (rr, ws')) : JG (.inr none) cL_isTold 25 RL wsL_isTold (some .boolean) "isTold" 8 1 6 n0 (.inl (some (.int rr)), ws') 1002 [some (.ref a0), none, none, none, none, none, none, some (.ref a7), some (.ref a8), none, none, none, none, none, none, none, none, some (.int i17), some (.int i18), some (.int i19), some (.int i20), some (.int i21), some (.int i22), none, none] [] ws 0 0 := by
  unfold m_L_isTold_b1002 at h
  refine j_iconst (pc := 1002) dL_isTold_1002 (v := 0) (by decide) ?_
  exact jm_L_isTold_b1003 _ _ _ _ _ _ _ _ _ _ ws h
def m_L_isTold_b976 (a0 : Nat) (a7 : Nat) (a8 : Nat) (i17 : Int32) (i18 : Int32) (i19 : Int32) (i20 : Int32) (i21 : Int32) (s0 : Int32) (ws : LWd) : Option (Int32 × LWd) :=
  if 7 ≤ i18 then
    m_L_isTold_b1002 a0 a7 a8 i17 i18 i19 i20 i21 s0 ws
  else
    if i19 ≤ ((-7)) then
      m_L_isTold_b1002 a0 a7 a8 i17 i18 i19 i20 i21 s0 ws
    else
      if 2 ≤ i20 then
        m_L_isTold_b1002 a0 a7 a8 i17 i18 i19 i20 i21 s0 ws
      else
        m_L_isTold_b1003 a0 a7 a8 i17 i18 i19 i20 i21 s0 1 ws
set_option maxRecDepth 100000 in
set_option maxHeartbeats 4000000 in
theorem jm_L_isTold_b976 {n0 : Nat} {rr : Int32} {ws' : LWd} (a0 : Nat) (a7 : Nat) (a8 : Nat) (i17 : Int32) (i18 : Int32) (i19 : Int32) (i20 : Int32) (i21 : Int32) (s0 : Int32) (ws : LWd) (h : m_L_isTold_b976 a0 a7 a8 i17 i18 i19 i20 i21 s0 ws = some (rr, ws')) : JG (.inr none) cL_isTold 25 RL wsL_isTold (some .boolean) "isTold" 8 1 6 n0 (.inl (some (.int rr)), ws') 976 [some (.ref a0), none, none, none, none, none, none, some (.ref a7), some (.ref a8), none, none, none, none, none, none, none, none, some (.int i17), some (.int i18), some (.int i19), some (.int i20), some (.int i21), none, none, none] [.int s0] ws 0 0 := by
  unfold m_L_isTold_b976 at h
  refine j_istore_22 (pc := 976) dL_isTold_976 (by decide) rfl ?_
  refine j_iload (pc := 978) dL_isTold_978 rfl ?_
  refine j_bipush (pc := 980) dL_isTold_980 (v := 7) (by decide) ?_
  refine j_icmp_ge (pc := 982) (tgt := 1002) dL_isTold_982 (by decide) (fun c1 => ?_) (fun c1 => ?_)
  · rw [if_pos c1] at h
    exact jm_L_isTold_b1002 _ _ _ _ _ _ _ _ _ ws h
  · rw [if_neg c1] at h
    refine j_iload (pc := 985) dL_isTold_985 rfl ?_
    refine j_bipush (pc := 987) dL_isTold_987 (v := (-7)) (by decide) ?_
    refine j_icmp_le (pc := 989) (tgt := 1002) dL_isTold_989 (by decide) (fun c2 => ?_) (fun c2 => ?_)
    · rw [if_pos c2] at h
      exact jm_L_isTold_b1002 _ _ _ _ _ _ _ _ _ ws h
    · rw [if_neg c2] at h
      refine j_iload (pc := 992) dL_isTold_992 rfl ?_
      refine j_iconst (pc := 994) dL_isTold_994 (v := 2) (by decide) ?_
      refine j_icmp_ge (pc := 995) (tgt := 1002) dL_isTold_995 (by decide) (fun c3 => ?_) (fun c3 => ?_)
      · rw [if_pos c3] at h
        exact jm_L_isTold_b1002 _ _ _ _ _ _ _ _ _ ws h
      · rw [if_neg c3] at h
        refine j_iconst (pc := 998) dL_isTold_998 (v := 1) (by decide) ?_
        refine j_goto (pc := 999) (tgt := 1003) dL_isTold_999 (by decide) ?_
        exact jm_L_isTold_b1003 _ _ _ _ _ _ _ _ _ _ ws h
def m_L_isTold_b948 (a0 : Nat) (a7 : Nat) (a8 : Nat) (i10 : Int32) (i17 : Int32) (i18 : Int32) (i19 : Int32) (s0 : Int32) (ws : LWd) : Option (Int32 × LWd) :=
  (aI ws a8 7).bind fun x1 =>
  if x1 ≤ i17 then
    m_L_isTold_b976 a0 a7 a8 i17 i18 i19 s0 ((jrem (i10 / 21) 3) - 1) 0 ws
  else
    m_L_isTold_b976 a0 a7 a8 i17 i18 i19 s0 ((jrem (i10 / 21) 3) - 1) 1 ws
set_option maxRecDepth 100000 in
set_option maxHeartbeats 4000000 in
theorem jm_L_isTold_b948 {n0 : Nat} {rr : Int32} {ws' : LWd} (a0 : Nat) (a7 : Nat) (a8 : Nat) (i10 : Int32) (i17 : Int32) (i18 : Int32) (i19 : Int32) (s0 : Int32) (ws : LWd) (h : m_L_isTold_b948 a0 a7 a8 i10 i17 i18 i19 s0 ws = some (rr, ws')) : JG (.inr none) cL_isTold 25 RL wsL_isTold (some .boolean) "isTold" 8 1 6 n0 (.inl (some (.int rr)), ws') 948 [some (.ref a0), none, none, none, none, none, none, some (.ref a7), some (.ref a8), none, some (.int i10), none, none, none, none, none, none, some (.int i17), some (.int i18), some (.int i19), none, none, none, none, none] [.int s0] ws 0 0 := by
  unfold m_L_isTold_b948 at h
  refine j_istore_20 (pc := 948) dL_isTold_948 (by decide) rfl ?_
  refine j_iload (pc := 950) dL_isTold_950 rfl ?_
  refine j_bipush (pc := 952) dL_isTold_952 (v := 21) (by decide) ?_
  refine j_idiv (pc := 954) dL_isTold_954 (by decide) ?_
  refine j_iconst (pc := 955) dL_isTold_955 (v := 3) (by decide) ?_
  refine j_irem (pc := 956) dL_isTold_956 (by decide) ?_
  refine j_iconst (pc := 957) dL_isTold_957 (v := 1) (by decide) ?_
  refine j_isub (pc := 958) dL_isTold_958 ?_
  refine j_istore_21 (pc := 959) dL_isTold_959 (by decide) rfl ?_
  refine j_iload (pc := 961) dL_isTold_961 rfl ?_
  refine j_aload (pc := 963) dL_isTold_963 rfl ?_
  refine j_bipush (pc := 965) dL_isTold_965 (v := 7) (by decide) ?_
  obtain ⟨x1, e2, h⟩ := obS h
  refine j_iald (pc := 967) dL_isTold_967 e2 ?_
  refine j_icmp_ge (pc := 968) (tgt := 975) dL_isTold_968 (by decide) (fun c3 => ?_) (fun c3 => ?_)
  · rw [if_pos c3] at h
    refine j_iconst (pc := 975) dL_isTold_975 (v := 0) (by decide) ?_
    refine j_mask [true, false, false, false, false, false, false, true, true, false, false, false, false, false, false, false, false, true, true, true, true, true, false, false, false] ?_
    exact jm_L_isTold_b976 _ _ _ _ _ _ _ _ _ ws h
  · rw [if_neg c3] at h
    refine j_iconst (pc := 971) dL_isTold_971 (v := 1) (by decide) ?_
    refine j_goto (pc := 972) (tgt := 976) dL_isTold_972 (by decide) ?_
    refine j_mask [true, false, false, false, false, false, false, true, true, false, false, false, false, false, false, false, false, true, true, true, true, true, false, false, false] ?_
    exact jm_L_isTold_b976 _ _ _ _ _ _ _ _ _ ws h
def m_L_isTold_b920 (a0 : Nat) (a7 : Nat) (a8 : Nat) (i10 : Int32) (i17 : Int32) (i18 : Int32) (s0 : Int32) (ws : LWd) : Option (Int32 × LWd) :=
  if (jrem (i10 / 7) 13) = 12 then
    m_L_isTold_b948 a0 a7 a8 i10 i17 i18 s0 2 ws
  else
    m_L_isTold_b948 a0 a7 a8 i10 i17 i18 s0 ((jrem (i10 / 7) 3) - 1) ws
set_option maxRecDepth 100000 in
set_option maxHeartbeats 4000000 in
theorem jm_L_isTold_b920 {n0 : Nat} {rr : Int32} {ws' : LWd} (a0 : Nat) (a7 : Nat) (a8 : Nat) (i10 : Int32) (i17 : Int32) (i18 : Int32) (s0 : Int32) (ws : LWd) (h : m_L_isTold_b920 a0 a7 a8 i10 i17 i18 s0 ws = some (rr, ws')) : JG (.inr none) cL_isTold 25 RL wsL_isTold (some .boolean) "isTold" 8 1 6 n0 (.inl (some (.int rr)), ws') 920 [some (.ref a0), none, none, none, none, none, none, some (.ref a7), some (.ref a8), none, some (.int i10), none, none, none, none, none, none, some (.int i17), some (.int i18), none, none, none, none, none, none] [.int s0] ws 0 0 := by
  unfold m_L_isTold_b920 at h
  refine j_istore_19 (pc := 920) dL_isTold_920 (by decide) rfl ?_
  refine j_iload (pc := 922) dL_isTold_922 rfl ?_
  refine j_bipush (pc := 924) dL_isTold_924 (v := 7) (by decide) ?_
  refine j_idiv (pc := 926) dL_isTold_926 (by decide) ?_
  refine j_bipush (pc := 927) dL_isTold_927 (v := 13) (by decide) ?_
  refine j_irem (pc := 929) dL_isTold_929 (by decide) ?_
  refine j_bipush (pc := 930) dL_isTold_930 (v := 12) (by decide) ?_
  refine j_icmp_ne (pc := 932) (tgt := 939) dL_isTold_932 (by decide) (fun c1 => ?_) (fun c1 => ?_)
  · rw [if_neg c1] at h
    refine j_iload (pc := 939) dL_isTold_939 rfl ?_
    refine j_bipush (pc := 941) dL_isTold_941 (v := 7) (by decide) ?_
    refine j_idiv (pc := 943) dL_isTold_943 (by decide) ?_
    refine j_iconst (pc := 944) dL_isTold_944 (v := 3) (by decide) ?_
    refine j_irem (pc := 945) dL_isTold_945 (by decide) ?_
    refine j_iconst (pc := 946) dL_isTold_946 (v := 1) (by decide) ?_
    refine j_isub (pc := 947) dL_isTold_947 ?_
    exact jm_L_isTold_b948 _ _ _ _ _ _ _ _ ws h
  · rw [if_pos c1] at h
    refine j_iconst (pc := 935) dL_isTold_935 (v := 2) (by decide) ?_
    refine j_goto (pc := 936) (tgt := 948) dL_isTold_936 (by decide) ?_
    exact jm_L_isTold_b948 _ _ _ _ _ _ _ _ ws h
def m_L_isTold_b891 (a0 : Nat) (a7 : Nat) (a8 : Nat) (i10 : Int32) (i11 : Int32) (i17 : Int32) (s0 : Int32) (ws : LWd) : Option (Int32 × LWd) :=
  if (jrem (i11 / 13) 13) = 12 then
    m_L_isTold_b920 a0 a7 a8 i10 i17 s0 ((-7)) ws
  else
    m_L_isTold_b920 a0 a7 a8 i10 i17 s0 ((jrem (i11 / 13) 3) - 1) ws
set_option maxRecDepth 100000 in
set_option maxHeartbeats 4000000 in
theorem jm_L_isTold_b891 {n0 : Nat} {rr : Int32} {ws' : LWd} (a0 : Nat) (a7 : Nat) (a8 : Nat) (i10 : Int32) (i11 : Int32) (i17 : Int32) (s0 : Int32) (ws : LWd) (h : m_L_isTold_b891 a0 a7 a8 i10 i11 i17 s0 ws = some (rr, ws')) : JG (.inr none) cL_isTold 25 RL wsL_isTold (some .boolean) "isTold" 8 1 6 n0 (.inl (some (.int rr)), ws') 891 [some (.ref a0), none, none, none, none, none, none, some (.ref a7), some (.ref a8), none, some (.int i10), some (.int i11), none, none, none, none, none, some (.int i17), none, none, none, none, none, none, none] [.int s0] ws 0 0 := by
  unfold m_L_isTold_b891 at h
  refine j_istore_18 (pc := 891) dL_isTold_891 (by decide) rfl ?_
  refine j_iload (pc := 893) dL_isTold_893 rfl ?_
  refine j_bipush (pc := 895) dL_isTold_895 (v := 13) (by decide) ?_
  refine j_idiv (pc := 897) dL_isTold_897 (by decide) ?_
  refine j_bipush (pc := 898) dL_isTold_898 (v := 13) (by decide) ?_
  refine j_irem (pc := 900) dL_isTold_900 (by decide) ?_
  refine j_bipush (pc := 901) dL_isTold_901 (v := 12) (by decide) ?_
  refine j_icmp_ne (pc := 903) (tgt := 911) dL_isTold_903 (by decide) (fun c1 => ?_) (fun c1 => ?_)
  · rw [if_neg c1] at h
    refine j_iload (pc := 911) dL_isTold_911 rfl ?_
    refine j_bipush (pc := 913) dL_isTold_913 (v := 13) (by decide) ?_
    refine j_idiv (pc := 915) dL_isTold_915 (by decide) ?_
    refine j_iconst (pc := 916) dL_isTold_916 (v := 3) (by decide) ?_
    refine j_irem (pc := 917) dL_isTold_917 (by decide) ?_
    refine j_iconst (pc := 918) dL_isTold_918 (v := 1) (by decide) ?_
    refine j_isub (pc := 919) dL_isTold_919 ?_
    refine j_mask [true, false, false, false, false, false, false, true, true, false, true, false, false, false, false, false, false, true, true, false, false, false, false, false, false] ?_
    exact jm_L_isTold_b920 _ _ _ _ _ _ _ ws h
  · rw [if_pos c1] at h
    refine j_bipush (pc := 906) dL_isTold_906 (v := (-7)) (by decide) ?_
    refine j_goto (pc := 908) (tgt := 920) dL_isTold_908 (by decide) ?_
    refine j_mask [true, false, false, false, false, false, false, true, true, false, true, false, false, false, false, false, false, true, true, false, false, false, false, false, false] ?_
    exact jm_L_isTold_b920 _ _ _ _ _ _ _ ws h
def m_L_isTold_b843 (s0 : Int32) (s1 : Int32) (ws : LWd) : Option (Int32 × LWd) :=
  if s0 = s1 then
    some (1, ws)
  else
    some (0, ws)
set_option maxRecDepth 100000 in
set_option maxHeartbeats 4000000 in
theorem jm_L_isTold_b843 {n0 : Nat} {rr : Int32} {ws' : LWd} (s0 : Int32) (s1 : Int32) (ws : LWd) (h : m_L_isTold_b843 s0 s1 ws = some (rr, ws')) : JG (.inr none) cL_isTold 25 RL wsL_isTold (some .boolean) "isTold" 8 1 6 n0 (.inl (some (.int rr)), ws') 843 [none, none, none, none, none, none, none, none, none, none, none, none, none, none, none, none, none, none, none, none, none, none, none, none, none] [.int s1, .int s0] ws 1 6 := by
  unfold m_L_isTold_b843 at h
  refine j_icmp_ne (pc := 843) (tgt := 850) dL_isTold_843 (by decide) (fun c1 => ?_) (fun c1 => ?_)
  · rw [if_neg c1] at h
    refine j_iconst (pc := 850) dL_isTold_850 (v := 0) (by decide) ?_
    obtain ⟨rfl, rfl⟩ := jretS h
    exact j_zretL (pc := 851) (by decide) rfl dL_isTold_851 (by decide) (by decide) rfl
  · rw [if_pos c1] at h
    refine j_iconst (pc := 846) dL_isTold_846 (v := 1) (by decide) ?_
    refine j_goto (pc := 847) (tgt := 851) dL_isTold_847 (by decide) ?_
    obtain ⟨rfl, rfl⟩ := jretS h
    exact j_zretL (pc := 851) (by decide) rfl dL_isTold_851 (by decide) (by decide) rfl
def m_L_isTold_b817 (a0 : Nat) (a8 : Nat) (i17 : Int32) (i18 : Int32) (s0 : Nat) (s1 : Int32) (s2 : Int32) (ws : LWd) : Option (Int32 × LWd) :=
  (sI ws s0 s1 s2).bind fun w1 =>
  bn2 (calSR w1 (m_L_does a0 3 i17 0 0 0 0 w1)) fun x5 w3 =>
  if i18 = 0 then
    m_L_isTold_b843 x5 ((-2000000)) w3
  else
    (aI w3 a8 3).bind fun x7 =>
    m_L_isTold_b843 x5 x7 w3
set_option maxRecDepth 100000 in
set_option maxHeartbeats 4000000 in
theorem jm_L_isTold_b817 {n0 : Nat} {rr : Int32} {ws' : LWd} (a0 : Nat) (a8 : Nat) (i17 : Int32) (i18 : Int32) (s0 : Nat) (s1 : Int32) (s2 : Int32) (ws : LWd) (h : m_L_isTold_b817 a0 a8 i17 i18 s0 s1 s2 ws = some (rr, ws')) : JG (.inr none) cL_isTold 25 RL wsL_isTold (some .boolean) "isTold" 8 1 6 n0 (.inl (some (.int rr)), ws') 817 [some (.ref a0), none, none, none, none, none, none, none, some (.ref a8), none, none, none, none, none, none, none, none, some (.int i17), some (.int i18), none, none, none, none, none, none] [.int s2, .int s1, .ref s0] ws 0 0 := by
  unfold m_L_isTold_b817 at h
  obtain ⟨w1, e2, h⟩ := obS h
  refine j_iast (pc := 817) dL_isTold_817 e2 ?_
  refine j_aload_n (pc := 818) dL_isTold_818 rfl ?_
  refine j_iconst (pc := 819) dL_isTold_819 (v := 3) (by decide) ?_
  refine j_iload (pc := 820) dL_isTold_820 rfl ?_
  refine j_iconst (pc := 822) dL_isTold_822 (v := 0) (by decide) ?_
  refine j_iconst (pc := 823) dL_isTold_823 (v := 0) (by decide) ?_
  refine j_iconst (pc := 824) dL_isTold_824 (v := 0) (by decide) ?_
  refine j_iconst (pc := 825) dL_isTold_825 (v := 0) (by decide) ?_
  obtain ⟨x5, w3, e4, h⟩ := obS2 h
  have ge4 := calSR_of e4
  refine j_callSW (pc := 826) (As := [.ref a0, .int 3, .int i17, .int 0, .int 0, .int 0, .int 0]) (k' := 1) (n' := 6) dL_isTold_826 (fun q h => by cases h) (s_L_does ge4.1) (jgS lw_657 lw_658 lw_597 lw_656) rfl hy_L_does rfl (by decide) (by decide) (Nat.le_of_ble_eq_true rfl) (by decide) (by decide) (by decide) (by decide) ge4.2 ?_
  refine j_iload (pc := 829) dL_isTold_829 rfl ?_
  refine j_if_eq (pc := 831) (tgt := 841) dL_isTold_831 (by decide) (fun c6 => ?_) (fun c6 => ?_)
  · rw [if_pos c6] at h
    refine j_ldc (pc := 841) dL_isTold_841 (v := (-2000000)) (jwm lw_528) ?_
    refine j_mask [false, false, false, false, false, false, false, false, false, false, false, false, false, false, false, false, false, false, false, false, false, false, false, false, false] ?_
    exact jm_L_isTold_b843 _ _ w3 h
  · rw [if_neg c6] at h
    refine j_aload (pc := 834) dL_isTold_834 rfl ?_
    refine j_iconst (pc := 836) dL_isTold_836 (v := 3) (by decide) ?_
    obtain ⟨x7, e8, h⟩ := obS h
    refine j_iald (pc := 837) dL_isTold_837 e8 ?_
    refine j_goto (pc := 838) (tgt := 843) dL_isTold_838 (by decide) ?_
    refine j_mask [false, false, false, false, false, false, false, false, false, false, false, false, false, false, false, false, false, false, false, false, false, false, false, false, false] ?_
    exact jm_L_isTold_b843 _ _ w3 h
def m_L_isTold_b792 (a0 : Nat) (a8 : Nat) (i17 : Int32) (i18 : Int32) (s0 : Nat) (s1 : Int32) (s2 : Int32) (s3 : Int32) (ws : LWd) : Option (Int32 × LWd) :=
  (sI ws s0 s1 (s2 + s3)).bind fun w1 =>
  (aI w1 a8 3).bind fun x3 =>
  if x3 ≤ 1000 then
    (aI w1 a8 3).bind fun x6 =>
    m_L_isTold_b817 a0 a8 i17 i18 a8 3 x6 w1
  else
    m_L_isTold_b817 a0 a8 i17 i18 a8 3 1000 w1
set_option maxRecDepth 100000 in
set_option maxHeartbeats 4000000 in
theorem jm_L_isTold_b792 {n0 : Nat} {rr : Int32} {ws' : LWd} (a0 : Nat) (a8 : Nat) (i17 : Int32) (i18 : Int32) (s0 : Nat) (s1 : Int32) (s2 : Int32) (s3 : Int32) (ws : LWd) (h : m_L_isTold_b792 a0 a8 i17 i18 s0 s1 s2 s3 ws = some (rr, ws')) : JG (.inr none) cL_isTold 25 RL wsL_isTold (some .boolean) "isTold" 8 1 6 n0 (.inl (some (.int rr)), ws') 792 [some (.ref a0), none, none, none, none, none, none, none, some (.ref a8), none, none, none, none, none, none, none, none, some (.int i17), some (.int i18), none, none, none, none, none, none] [.int s3, .int s2, .int s1, .ref s0] ws 0 0 := by
  unfold m_L_isTold_b792 at h
  refine j_iadd (pc := 792) dL_isTold_792 ?_
  obtain ⟨w1, e2, h⟩ := obS h
  refine j_iast (pc := 793) dL_isTold_793 e2 ?_
  refine j_aload (pc := 794) dL_isTold_794 rfl ?_
  refine j_iconst (pc := 796) dL_isTold_796 (v := 3) (by decide) ?_
  refine j_aload (pc := 797) dL_isTold_797 rfl ?_
  refine j_iconst (pc := 799) dL_isTold_799 (v := 3) (by decide) ?_
  obtain ⟨x3, e4, h⟩ := obS h
  refine j_iald (pc := 800) dL_isTold_800 e4 ?_
  refine j_sipush (pc := 801) dL_isTold_801 (v := 1000) (by decide) ?_
  refine j_icmp_le (pc := 804) (tgt := 813) dL_isTold_804 (by decide) (fun c5 => ?_) (fun c5 => ?_)
  · rw [if_pos c5] at h
    refine j_aload (pc := 813) dL_isTold_813 rfl ?_
    refine j_iconst (pc := 815) dL_isTold_815 (v := 3) (by decide) ?_
    obtain ⟨x6, e7, h⟩ := obS h
    refine j_iald (pc := 816) dL_isTold_816 e7 ?_
    exact jm_L_isTold_b817 _ _ _ _ _ _ _ w1 h
  · rw [if_neg c5] at h
    refine j_sipush (pc := 807) dL_isTold_807 (v := 1000) (by decide) ?_
    refine j_goto (pc := 810) (tgt := 817) dL_isTold_810 (by decide) ?_
    exact jm_L_isTold_b817 _ _ _ _ _ _ _ w1 h
def m_L_isTold_b774 (a0 : Nat) (a8 : Nat) (i17 : Int32) (s0 : Int32) (ws : LWd) : Option (Int32 × LWd) :=
  (aI ws a8 3).bind fun x1 =>
  if s0 = 0 then
    m_L_isTold_b792 a0 a8 i17 s0 a8 3 x1 0 ws
  else
    m_L_isTold_b792 a0 a8 i17 s0 a8 3 x1 i17 ws
set_option maxRecDepth 100000 in
set_option maxHeartbeats 4000000 in
theorem jm_L_isTold_b774 {n0 : Nat} {rr : Int32} {ws' : LWd} (a0 : Nat) (a8 : Nat) (i17 : Int32) (s0 : Int32) (ws : LWd) (h : m_L_isTold_b774 a0 a8 i17 s0 ws = some (rr, ws')) : JG (.inr none) cL_isTold 25 RL wsL_isTold (some .boolean) "isTold" 8 1 6 n0 (.inl (some (.int rr)), ws') 774 [some (.ref a0), none, none, none, none, none, none, none, some (.ref a8), none, none, none, none, none, none, none, none, some (.int i17), none, none, none, none, none, none, none] [.int s0] ws 0 0 := by
  unfold m_L_isTold_b774 at h
  refine j_istore_18 (pc := 774) dL_isTold_774 (by decide) rfl ?_
  refine j_aload (pc := 776) dL_isTold_776 rfl ?_
  refine j_iconst (pc := 778) dL_isTold_778 (v := 3) (by decide) ?_
  refine j_dup2 (pc := 779) dL_isTold_779 rfl rfl ?_
  obtain ⟨x1, e2, h⟩ := obS h
  refine j_iald (pc := 780) dL_isTold_780 e2 ?_
  refine j_iload (pc := 781) dL_isTold_781 rfl ?_
  refine j_if_eq (pc := 783) (tgt := 791) dL_isTold_783 (by decide) (fun c3 => ?_) (fun c3 => ?_)
  · rw [if_pos c3] at h
    refine j_iconst (pc := 791) dL_isTold_791 (v := 0) (by decide) ?_
    exact jm_L_isTold_b792 _ _ _ _ _ _ _ _ ws h
  · rw [if_neg c3] at h
    refine j_iload (pc := 786) dL_isTold_786 rfl ?_
    refine j_goto (pc := 788) (tgt := 792) dL_isTold_788 (by decide) ?_
    exact jm_L_isTold_b792 _ _ _ _ _ _ _ _ ws h
def m_L_isTold_b773 (a0 : Nat) (a8 : Nat) (i17 : Int32) (ws : LWd) : Option (Int32 × LWd) :=
  m_L_isTold_b774 a0 a8 i17 0 ws
set_option maxRecDepth 100000 in
set_option maxHeartbeats 4000000 in
theorem jm_L_isTold_b773 {n0 : Nat} {rr : Int32} {ws' : LWd} (a0 : Nat) (a8 : Nat) (i17 : Int32) (ws : LWd) (h : m_L_isTold_b773 a0 a8 i17 ws = some (rr, ws')) : JG (.inr none) cL_isTold 25 RL wsL_isTold (some .boolean) "isTold" 8 1 6 n0 (.inl (some (.int rr)), ws') 773 [some (.ref a0), none, none, none, none, none, none, none, some (.ref a8), none, none, none, none, none, none, none, none, some (.int i17), none, none, none, none, none, none, none] [] ws 0 0 := by
  unfold m_L_isTold_b773 at h
  refine j_iconst (pc := 773) dL_isTold_773 (v := 0) (by decide) ?_
  exact jm_L_isTold_b774 _ _ _ _ ws h
def m_L_isTold_b754 (a0 : Nat) (a8 : Nat) (s0 : Int32) (ws : LWd) : Option (Int32 × LWd) :=
  if s0 ≤ 0 then
    m_L_isTold_b773 a0 a8 s0 ws
  else
    if 1001 ≤ s0 then
      m_L_isTold_b773 a0 a8 s0 ws
    else
      m_L_isTold_b774 a0 a8 s0 1 ws
set_option maxRecDepth 100000 in
set_option maxHeartbeats 4000000 in
theorem jm_L_isTold_b754 {n0 : Nat} {rr : Int32} {ws' : LWd} (a0 : Nat) (a8 : Nat) (s0 : Int32) (ws : LWd) (h : m_L_isTold_b754 a0 a8 s0 ws = some (rr, ws')) : JG (.inr none) cL_isTold 25 RL wsL_isTold (some .boolean) "isTold" 8 1 6 n0 (.inl (some (.int rr)), ws') 754 [some (.ref a0), none, none, none, none, none, none, none, some (.ref a8), none, none, none, none, none, none, none, none, none, none, none, none, none, none, none, none] [.int s0] ws 0 0 := by
  unfold m_L_isTold_b754 at h
  refine j_istore_17 (pc := 754) dL_isTold_754 (by decide) rfl ?_
  refine j_iload (pc := 756) dL_isTold_756 rfl ?_
  refine j_if_le (pc := 758) (tgt := 773) dL_isTold_758 (by decide) (fun c1 => ?_) (fun c1 => ?_)
  · rw [if_pos c1] at h
    exact jm_L_isTold_b773 _ _ _ ws h
  · rw [if_neg c1] at h
    refine j_iload (pc := 761) dL_isTold_761 rfl ?_
    refine j_sipush (pc := 763) dL_isTold_763 (v := 1001) (by decide) ?_
    refine j_icmp_ge (pc := 766) (tgt := 773) dL_isTold_766 (by decide) (fun c2 => ?_) (fun c2 => ?_)
    · rw [if_pos c2] at h
      exact jm_L_isTold_b773 _ _ _ ws h
    · rw [if_neg c2] at h
      refine j_iconst (pc := 769) dL_isTold_769 (v := 1) (by decide) ?_
      refine j_goto (pc := 770) (tgt := 774) dL_isTold_770 (by decide) ?_
      exact jm_L_isTold_b774 _ _ _ _ ws h
def m_L_isTold_b710 (s0 : Int32) (s1 : Int32) (ws : LWd) : Option (Int32 × LWd) :=
  if s0 = s1 then
    some (1, ws)
  else
    some (0, ws)
set_option maxRecDepth 100000 in
set_option maxHeartbeats 4000000 in
theorem jm_L_isTold_b710 {n0 : Nat} {rr : Int32} {ws' : LWd} (s0 : Int32) (s1 : Int32) (ws : LWd) (h : m_L_isTold_b710 s0 s1 ws = some (rr, ws')) : JG (.inr none) cL_isTold 25 RL wsL_isTold (some .boolean) "isTold" 8 1 6 n0 (.inl (some (.int rr)), ws') 710 [none, none, none, none, none, none, none, none, none, none, none, none, none, none, none, none, none, none, none, none, none, none, none, none, none] [.int s1, .int s0] ws 1 6 := by
  unfold m_L_isTold_b710 at h
  refine j_icmp_ne (pc := 710) (tgt := 717) dL_isTold_710 (by decide) (fun c1 => ?_) (fun c1 => ?_)
  · rw [if_neg c1] at h
    refine j_iconst (pc := 717) dL_isTold_717 (v := 0) (by decide) ?_
    obtain ⟨rfl, rfl⟩ := jretS h
    exact j_zretL (pc := 718) (by decide) rfl dL_isTold_718 (by decide) (by decide) rfl
  · rw [if_pos c1] at h
    refine j_iconst (pc := 713) dL_isTold_713 (v := 1) (by decide) ?_
    refine j_goto (pc := 714) (tgt := 718) dL_isTold_714 (by decide) ?_
    obtain ⟨rfl, rfl⟩ := jretS h
    exact j_zretL (pc := 718) (by decide) rfl dL_isTold_718 (by decide) (by decide) rfl
def m_L_isTold_b670 (a0 : Nat) (a8 : Nat) (i17 : Int32) (i18 : Int32) (i19 : Int32) (i20 : Int32) (i21 : Int32) (ws : LWd) : Option (Int32 × LWd) :=
  bn2 (calSR ws (m_L_does a0 2 i17 i18 i19 0 0 ws)) fun x3 w1 =>
  if i20 = 0 then
    m_L_isTold_b710 x3 ((-2000000)) w1
  else
    if i21 = 0 then
      m_L_isTold_b710 x3 ((-1000000)) w1
    else
      (aI w1 a8 7).bind fun x6 =>
      m_L_isTold_b710 x3 (x6 - 1) w1
set_option maxRecDepth 100000 in
set_option maxHeartbeats 4000000 in
theorem jm_L_isTold_b670 {n0 : Nat} {rr : Int32} {ws' : LWd} (a0 : Nat) (a8 : Nat) (i17 : Int32) (i18 : Int32) (i19 : Int32) (i20 : Int32) (i21 : Int32) (ws : LWd) (h : m_L_isTold_b670 a0 a8 i17 i18 i19 i20 i21 ws = some (rr, ws')) : JG (.inr none) cL_isTold 25 RL wsL_isTold (some .boolean) "isTold" 8 1 6 n0 (.inl (some (.int rr)), ws') 670 [some (.ref a0), none, none, none, none, none, none, none, some (.ref a8), none, none, none, none, none, none, none, none, some (.int i17), some (.int i18), some (.int i19), some (.int i20), some (.int i21), none, none, none] [] ws 0 0 := by
  unfold m_L_isTold_b670 at h
  refine j_aload_n (pc := 670) dL_isTold_670 rfl ?_
  refine j_iconst (pc := 671) dL_isTold_671 (v := 2) (by decide) ?_
  refine j_iload (pc := 672) dL_isTold_672 rfl ?_
  refine j_iload (pc := 674) dL_isTold_674 rfl ?_
  refine j_iload (pc := 676) dL_isTold_676 rfl ?_
  refine j_iconst (pc := 678) dL_isTold_678 (v := 0) (by decide) ?_
  refine j_iconst (pc := 679) dL_isTold_679 (v := 0) (by decide) ?_
  obtain ⟨x3, w1, e2, h⟩ := obS2 h
  have ge2 := calSR_of e2
  refine j_callSW (pc := 680) (As := [.ref a0, .int 2, .int i17, .int i18, .int i19, .int 0, .int 0]) (k' := 1) (n' := 6) dL_isTold_680 (fun q h => by cases h) (s_L_does ge2.1) (jgS lw_657 lw_658 lw_597 lw_656) rfl hy_L_does rfl (by decide) (by decide) (Nat.le_of_ble_eq_true rfl) (by decide) (by decide) (by decide) (by decide) ge2.2 ?_
  refine j_iload (pc := 683) dL_isTold_683 rfl ?_
  refine j_if_ne (pc := 685) (tgt := 693) dL_isTold_685 (by decide) (fun c4 => ?_) (fun c4 => ?_)
  · rw [if_neg c4] at h
    refine j_iload (pc := 693) dL_isTold_693 rfl ?_
    refine j_if_eq (pc := 695) (tgt := 708) dL_isTold_695 (by decide) (fun c5 => ?_) (fun c5 => ?_)
    · rw [if_pos c5] at h
      refine j_ldc (pc := 708) dL_isTold_708 (v := (-1000000)) (jwm lw_530) ?_
      refine j_mask [false, false, false, false, false, false, false, false, false, false, false, false, false, false, false, false, false, false, false, false, false, false, false, false, false] ?_
      exact jm_L_isTold_b710 _ _ w1 h
    · rw [if_neg c5] at h
      refine j_aload (pc := 698) dL_isTold_698 rfl ?_
      refine j_bipush (pc := 700) dL_isTold_700 (v := 7) (by decide) ?_
      obtain ⟨x6, e7, h⟩ := obS h
      refine j_iald (pc := 702) dL_isTold_702 e7 ?_
      refine j_iconst (pc := 703) dL_isTold_703 (v := 1) (by decide) ?_
      refine j_isub (pc := 704) dL_isTold_704 ?_
      refine j_goto (pc := 705) (tgt := 710) dL_isTold_705 (by decide) ?_
      refine j_mask [false, false, false, false, false, false, false, false, false, false, false, false, false, false, false, false, false, false, false, false, false, false, false, false, false] ?_
      exact jm_L_isTold_b710 _ _ w1 h
  · rw [if_pos c4] at h
    refine j_ldc (pc := 688) dL_isTold_688 (v := (-2000000)) (jwm lw_528) ?_
    refine j_goto (pc := 690) (tgt := 710) dL_isTold_690 (by decide) ?_
    refine j_mask [false, false, false, false, false, false, false, false, false, false, false, false, false, false, false, false, false, false, false, false, false, false, false, false, false] ?_
    exact jm_L_isTold_b710 _ _ w1 h
def m_L_isTold_b628 (a0 : Nat) (a4 : Nat) (a8 : Nat) (i17 : Int32) (i18 : Int32) (i19 : Int32) (i20 : Int32) (s0 : Int32) (ws : LWd) : Option (Int32 × LWd) :=
  if s0 = 0 then
    m_L_isTold_b670 a0 a8 i17 i18 i19 i20 s0 ws
  else
    (aI ws a8 7).bind fun x2 =>
    (sI ws a4 x2 (((i17 + 5) + (11 * (i18 + 5))) + (121 * i19))).bind fun w4 =>
    (aI w4 a8 7).bind fun x6 =>
    (sI w4 a8 7 (x6 + 1)).bind fun w8 =>
    m_L_isTold_b670 a0 a8 i17 i18 i19 i20 s0 w8
set_option maxRecDepth 100000 in
set_option maxHeartbeats 4000000 in
theorem jm_L_isTold_b628 {n0 : Nat} {rr : Int32} {ws' : LWd} (a0 : Nat) (a4 : Nat) (a8 : Nat) (i17 : Int32) (i18 : Int32) (i19 : Int32) (i20 : Int32) (s0 : Int32) (ws : LWd) (h : m_L_isTold_b628 a0 a4 a8 i17 i18 i19 i20 s0 ws = some (rr, ws')) : JG (.inr none) cL_isTold 25 RL wsL_isTold (some .boolean) "isTold" 8 1 6 n0 (.inl (some (.int rr)), ws') 628 [some (.ref a0), none, none, none, some (.ref a4), none, none, none, some (.ref a8), none, none, none, none, none, none, none, none, some (.int i17), some (.int i18), some (.int i19), some (.int i20), none, none, none, none] [.int s0] ws 0 0 := by
  unfold m_L_isTold_b628 at h
  refine j_istore_21 (pc := 628) dL_isTold_628 (by decide) rfl ?_
  refine j_iload (pc := 630) dL_isTold_630 rfl ?_
  refine j_if_eq (pc := 632) (tgt := 670) dL_isTold_632 (by decide) (fun c1 => ?_) (fun c1 => ?_)
  · rw [if_pos c1] at h
    refine j_mask [true, false, false, false, false, false, false, false, true, false, false, false, false, false, false, false, false, true, true, true, true, true, false, false, false] ?_
    exact jm_L_isTold_b670 _ _ _ _ _ _ _ ws h
  · rw [if_neg c1] at h
    refine j_aload (pc := 635) dL_isTold_635 rfl ?_
    refine j_aload (pc := 637) dL_isTold_637 rfl ?_
    refine j_bipush (pc := 639) dL_isTold_639 (v := 7) (by decide) ?_
    obtain ⟨x2, e3, h⟩ := obS h
    refine j_iald (pc := 641) dL_isTold_641 e3 ?_
    refine j_iload (pc := 642) dL_isTold_642 rfl ?_
    refine j_iconst (pc := 644) dL_isTold_644 (v := 5) (by decide) ?_
    refine j_iadd (pc := 645) dL_isTold_645 ?_
    refine j_bipush (pc := 646) dL_isTold_646 (v := 11) (by decide) ?_
    refine j_iload (pc := 648) dL_isTold_648 rfl ?_
    refine j_iconst (pc := 650) dL_isTold_650 (v := 5) (by decide) ?_
    refine j_iadd (pc := 651) dL_isTold_651 ?_
    refine j_imul (pc := 652) dL_isTold_652 ?_
    refine j_iadd (pc := 653) dL_isTold_653 ?_
    refine j_bipush (pc := 654) dL_isTold_654 (v := 121) (by decide) ?_
    refine j_iload (pc := 656) dL_isTold_656 rfl ?_
    refine j_imul (pc := 658) dL_isTold_658 ?_
    refine j_iadd (pc := 659) dL_isTold_659 ?_
    obtain ⟨w4, e5, h⟩ := obS h
    refine j_iast (pc := 660) dL_isTold_660 e5 ?_
    refine j_aload (pc := 661) dL_isTold_661 rfl ?_
    refine j_bipush (pc := 663) dL_isTold_663 (v := 7) (by decide) ?_
    refine j_dup2 (pc := 665) dL_isTold_665 rfl rfl ?_
    obtain ⟨x6, e7, h⟩ := obS h
    refine j_iald (pc := 666) dL_isTold_666 e7 ?_
    refine j_iconst (pc := 667) dL_isTold_667 (v := 1) (by decide) ?_
    refine j_iadd (pc := 668) dL_isTold_668 ?_
    obtain ⟨w8, e9, h⟩ := obS h
    refine j_iast (pc := 669) dL_isTold_669 e9 ?_
    refine j_mask [true, false, false, false, false, false, false, false, true, false, false, false, false, false, false, false, false, true, true, true, true, true, false, false, false] ?_
    exact jm_L_isTold_b670 _ _ _ _ _ _ _ w8 h
def m_L_isTold_b627 (a0 : Nat) (a4 : Nat) (a8 : Nat) (i17 : Int32) (i18 : Int32) (i19 : Int32) (i20 : Int32) (ws : LWd) : Option (Int32 × LWd) :=
  m_L_isTold_b628 a0 a4 a8 i17 i18 i19 i20 0 ws
set_option maxRecDepth 100000 in
set_option maxHeartbeats 4000000 in
theorem jm_L_isTold_b627 {n0 : Nat} {rr : Int32} {ws' : LWd} (a0 : Nat) (a4 : Nat) (a8 : Nat) (i17 : Int32) (i18 : Int32) (i19 : Int32) (i20 : Int32) (ws : LWd) (h : m_L_isTold_b627 a0 a4 a8 i17 i18 i19 i20 ws = some (rr, ws')) : JG (.inr none) cL_isTold 25 RL wsL_isTold (some .boolean) "isTold" 8 1 6 n0 (.inl (some (.int rr)), ws') 627 [some (.ref a0), none, none, none, some (.ref a4), none, none, none, some (.ref a8), none, none, none, none, none, none, none, none, some (.int i17), some (.int i18), some (.int i19), some (.int i20), none, none, none, none] [] ws 0 0 := by
  unfold m_L_isTold_b627 at h
  refine j_iconst (pc := 627) dL_isTold_627 (v := 0) (by decide) ?_
  exact jm_L_isTold_b628 _ _ _ _ _ _ _ _ ws h
def m_L_isTold_b599 (a0 : Nat) (a4 : Nat) (a8 : Nat) (i17 : Int32) (i18 : Int32) (i19 : Int32) (s0 : Int32) (ws : LWd) : Option (Int32 × LWd) :=
  if s0 = 0 then
    m_L_isTold_b627 a0 a4 a8 i17 i18 i19 s0 ws
  else
    (aI ws a8 7).bind fun x2 =>
    if 6 ≤ x2 then
      m_L_isTold_b627 a0 a4 a8 i17 i18 i19 s0 ws
    else
      (aI ws a8 0).bind fun x5 =>
      if x5 = 0 then
        m_L_isTold_b628 a0 a4 a8 i17 i18 i19 s0 1 ws
      else
        m_L_isTold_b627 a0 a4 a8 i17 i18 i19 s0 ws
set_option maxRecDepth 100000 in
set_option maxHeartbeats 4000000 in
theorem jm_L_isTold_b599 {n0 : Nat} {rr : Int32} {ws' : LWd} (a0 : Nat) (a4 : Nat) (a8 : Nat) (i17 : Int32) (i18 : Int32) (i19 : Int32) (s0 : Int32) (ws : LWd) (h : m_L_isTold_b599 a0 a4 a8 i17 i18 i19 s0 ws = some (rr, ws')) : JG (.inr none) cL_isTold 25 RL wsL_isTold (some .boolean) "isTold" 8 1 6 n0 (.inl (some (.int rr)), ws') 599 [some (.ref a0), none, none, none, some (.ref a4), none, none, none, some (.ref a8), none, none, none, none, none, none, none, none, some (.int i17), some (.int i18), some (.int i19), none, none, none, none, none] [.int s0] ws 0 0 := by
  unfold m_L_isTold_b599 at h
  refine j_istore_20 (pc := 599) dL_isTold_599 (by decide) rfl ?_
  refine j_iload (pc := 601) dL_isTold_601 rfl ?_
  refine j_if_eq (pc := 603) (tgt := 627) dL_isTold_603 (by decide) (fun c1 => ?_) (fun c1 => ?_)
  · rw [if_pos c1] at h
    exact jm_L_isTold_b627 _ _ _ _ _ _ _ ws h
  · rw [if_neg c1] at h
    refine j_aload (pc := 606) dL_isTold_606 rfl ?_
    refine j_bipush (pc := 608) dL_isTold_608 (v := 7) (by decide) ?_
    obtain ⟨x2, e3, h⟩ := obS h
    refine j_iald (pc := 610) dL_isTold_610 e3 ?_
    refine j_bipush (pc := 611) dL_isTold_611 (v := 6) (by decide) ?_
    refine j_icmp_ge (pc := 613) (tgt := 627) dL_isTold_613 (by decide) (fun c4 => ?_) (fun c4 => ?_)
    · rw [if_pos c4] at h
      exact jm_L_isTold_b627 _ _ _ _ _ _ _ ws h
    · rw [if_neg c4] at h
      refine j_aload (pc := 616) dL_isTold_616 rfl ?_
      refine j_iconst (pc := 618) dL_isTold_618 (v := 0) (by decide) ?_
      obtain ⟨x5, e6, h⟩ := obS h
      refine j_iald (pc := 619) dL_isTold_619 e6 ?_
      refine j_if_ne (pc := 620) (tgt := 627) dL_isTold_620 (by decide) (fun c7 => ?_) (fun c7 => ?_)
      · rw [if_neg c7] at h
        exact jm_L_isTold_b627 _ _ _ _ _ _ _ ws h
      · rw [if_pos c7] at h
        refine j_iconst (pc := 623) dL_isTold_623 (v := 1) (by decide) ?_
        refine j_goto (pc := 624) (tgt := 628) dL_isTold_624 (by decide) ?_
        exact jm_L_isTold_b628 _ _ _ _ _ _ _ _ ws h
def m_L_isTold_b598 (a0 : Nat) (a4 : Nat) (a8 : Nat) (i17 : Int32) (i18 : Int32) (i19 : Int32) (ws : LWd) : Option (Int32 × LWd) :=
  m_L_isTold_b599 a0 a4 a8 i17 i18 i19 0 ws
set_option maxRecDepth 100000 in
set_option maxHeartbeats 4000000 in
theorem jm_L_isTold_b598 {n0 : Nat} {rr : Int32} {ws' : LWd} (a0 : Nat) (a4 : Nat) (a8 : Nat) (i17 : Int32) (i18 : Int32) (i19 : Int32) (ws : LWd) (h : m_L_isTold_b598 a0 a4 a8 i17 i18 i19 ws = some (rr, ws')) : JG (.inr none) cL_isTold 25 RL wsL_isTold (some .boolean) "isTold" 8 1 6 n0 (.inl (some (.int rr)), ws') 598 [some (.ref a0), none, none, none, some (.ref a4), none, none, none, some (.ref a8), none, none, none, none, none, none, none, none, some (.int i17), some (.int i18), some (.int i19), none, none, none, none, none] [] ws 0 0 := by
  unfold m_L_isTold_b598 at h
  refine j_iconst (pc := 598) dL_isTold_598 (v := 0) (by decide) ?_
  exact jm_L_isTold_b599 _ _ _ _ _ _ _ ws h
def m_L_isTold_b571 (a0 : Nat) (a4 : Nat) (a8 : Nat) (i17 : Int32) (i18 : Int32) (s0 : Int32) (ws : LWd) : Option (Int32 × LWd) :=
  if 6 ≤ i17 then
    m_L_isTold_b598 a0 a4 a8 i17 i18 s0 ws
  else
    if i18 ≤ ((-6)) then
      m_L_isTold_b598 a0 a4 a8 i17 i18 s0 ws
    else
      if 7 ≤ s0 then
        m_L_isTold_b598 a0 a4 a8 i17 i18 s0 ws
      else
        m_L_isTold_b599 a0 a4 a8 i17 i18 s0 1 ws
set_option maxRecDepth 100000 in
set_option maxHeartbeats 4000000 in
theorem jm_L_isTold_b571 {n0 : Nat} {rr : Int32} {ws' : LWd} (a0 : Nat) (a4 : Nat) (a8 : Nat) (i17 : Int32) (i18 : Int32) (s0 : Int32) (ws : LWd) (h : m_L_isTold_b571 a0 a4 a8 i17 i18 s0 ws = some (rr, ws')) : JG (.inr none) cL_isTold 25 RL wsL_isTold (some .boolean) "isTold" 8 1 6 n0 (.inl (some (.int rr)), ws') 571 [some (.ref a0), none, none, none, some (.ref a4), none, none, none, some (.ref a8), none, none, none, none, none, none, none, none, some (.int i17), some (.int i18), none, none, none, none, none, none] [.int s0] ws 0 0 := by
  unfold m_L_isTold_b571 at h
  refine j_istore_19 (pc := 571) dL_isTold_571 (by decide) rfl ?_
  refine j_iload (pc := 573) dL_isTold_573 rfl ?_
  refine j_bipush (pc := 575) dL_isTold_575 (v := 6) (by decide) ?_
  refine j_icmp_ge (pc := 577) (tgt := 598) dL_isTold_577 (by decide) (fun c1 => ?_) (fun c1 => ?_)
  · rw [if_pos c1] at h
    exact jm_L_isTold_b598 _ _ _ _ _ _ ws h
  · rw [if_neg c1] at h
    refine j_iload (pc := 580) dL_isTold_580 rfl ?_
    refine j_bipush (pc := 582) dL_isTold_582 (v := (-6)) (by decide) ?_
    refine j_icmp_le (pc := 584) (tgt := 598) dL_isTold_584 (by decide) (fun c2 => ?_) (fun c2 => ?_)
    · rw [if_pos c2] at h
      exact jm_L_isTold_b598 _ _ _ _ _ _ ws h
    · rw [if_neg c2] at h
      refine j_iload (pc := 587) dL_isTold_587 rfl ?_
      refine j_bipush (pc := 589) dL_isTold_589 (v := 7) (by decide) ?_
      refine j_icmp_ge (pc := 591) (tgt := 598) dL_isTold_591 (by decide) (fun c3 => ?_) (fun c3 => ?_)
      · rw [if_pos c3] at h
        exact jm_L_isTold_b598 _ _ _ _ _ _ ws h
      · rw [if_neg c3] at h
        refine j_iconst (pc := 594) dL_isTold_594 (v := 1) (by decide) ?_
        refine j_goto (pc := 595) (tgt := 599) dL_isTold_595 (by decide) ?_
        exact jm_L_isTold_b599 _ _ _ _ _ _ _ ws h
def m_L_isTold_b548 (a0 : Nat) (a4 : Nat) (a8 : Nat) (i11 : Int32) (i17 : Int32) (s0 : Int32) (ws : LWd) : Option (Int32 × LWd) :=
  if (jrem i11 9) = 8 then
    m_L_isTold_b571 a0 a4 a8 i17 s0 7 ws
  else
    m_L_isTold_b571 a0 a4 a8 i17 s0 (1 + (jrem i11 4)) ws
set_option maxRecDepth 100000 in
set_option maxHeartbeats 4000000 in
theorem jm_L_isTold_b548 {n0 : Nat} {rr : Int32} {ws' : LWd} (a0 : Nat) (a4 : Nat) (a8 : Nat) (i11 : Int32) (i17 : Int32) (s0 : Int32) (ws : LWd) (h : m_L_isTold_b548 a0 a4 a8 i11 i17 s0 ws = some (rr, ws')) : JG (.inr none) cL_isTold 25 RL wsL_isTold (some .boolean) "isTold" 8 1 6 n0 (.inl (some (.int rr)), ws') 548 [some (.ref a0), none, none, none, some (.ref a4), none, none, none, some (.ref a8), none, none, some (.int i11), none, none, none, none, none, some (.int i17), none, none, none, none, none, none, none] [.int s0] ws 0 0 := by
  unfold m_L_isTold_b548 at h
  refine j_istore_18 (pc := 548) dL_isTold_548 (by decide) rfl ?_
  refine j_iload (pc := 550) dL_isTold_550 rfl ?_
  refine j_bipush (pc := 552) dL_isTold_552 (v := 9) (by decide) ?_
  refine j_irem (pc := 554) dL_isTold_554 (by decide) ?_
  refine j_bipush (pc := 555) dL_isTold_555 (v := 8) (by decide) ?_
  refine j_icmp_ne (pc := 557) (tgt := 565) dL_isTold_557 (by decide) (fun c1 => ?_) (fun c1 => ?_)
  · rw [if_neg c1] at h
    refine j_iconst (pc := 565) dL_isTold_565 (v := 1) (by decide) ?_
    refine j_iload (pc := 566) dL_isTold_566 rfl ?_
    refine j_iconst (pc := 568) dL_isTold_568 (v := 4) (by decide) ?_
    refine j_irem (pc := 569) dL_isTold_569 (by decide) ?_
    refine j_iadd (pc := 570) dL_isTold_570 ?_
    refine j_mask [true, false, false, false, true, false, false, false, true, false, false, false, false, false, false, false, false, true, true, false, false, false, false, false, false] ?_
    exact jm_L_isTold_b571 _ _ _ _ _ _ ws h
  · rw [if_pos c1] at h
    refine j_bipush (pc := 560) dL_isTold_560 (v := 7) (by decide) ?_
    refine j_goto (pc := 562) (tgt := 571) dL_isTold_562 (by decide) ?_
    refine j_mask [true, false, false, false, true, false, false, false, true, false, false, false, false, false, false, false, false, true, true, false, false, false, false, false, false] ?_
    exact jm_L_isTold_b571 _ _ _ _ _ _ ws h
def m_L_isTold_b519 (a0 : Nat) (a4 : Nat) (a8 : Nat) (i10 : Int32) (i11 : Int32) (s0 : Int32) (ws : LWd) : Option (Int32 × LWd) :=
  if (jrem (i10 / 13) 13) = 12 then
    m_L_isTold_b548 a0 a4 a8 i11 s0 ((-6)) ws
  else
    m_L_isTold_b548 a0 a4 a8 i11 s0 ((jrem (i10 / 13) 5) - 2) ws
set_option maxRecDepth 100000 in
set_option maxHeartbeats 4000000 in
theorem jm_L_isTold_b519 {n0 : Nat} {rr : Int32} {ws' : LWd} (a0 : Nat) (a4 : Nat) (a8 : Nat) (i10 : Int32) (i11 : Int32) (s0 : Int32) (ws : LWd) (h : m_L_isTold_b519 a0 a4 a8 i10 i11 s0 ws = some (rr, ws')) : JG (.inr none) cL_isTold 25 RL wsL_isTold (some .boolean) "isTold" 8 1 6 n0 (.inl (some (.int rr)), ws') 519 [some (.ref a0), none, none, none, some (.ref a4), none, none, none, some (.ref a8), none, some (.int i10), some (.int i11), none, none, none, none, none, none, none, none, none, none, none, none, none] [.int s0] ws 0 0 := by
  unfold m_L_isTold_b519 at h
  refine j_istore_17 (pc := 519) dL_isTold_519 (by decide) rfl ?_
  refine j_iload (pc := 521) dL_isTold_521 rfl ?_
  refine j_bipush (pc := 523) dL_isTold_523 (v := 13) (by decide) ?_
  refine j_idiv (pc := 525) dL_isTold_525 (by decide) ?_
  refine j_bipush (pc := 526) dL_isTold_526 (v := 13) (by decide) ?_
  refine j_irem (pc := 528) dL_isTold_528 (by decide) ?_
  refine j_bipush (pc := 529) dL_isTold_529 (v := 12) (by decide) ?_
  refine j_icmp_ne (pc := 531) (tgt := 539) dL_isTold_531 (by decide) (fun c1 => ?_) (fun c1 => ?_)
  · rw [if_neg c1] at h
    refine j_iload (pc := 539) dL_isTold_539 rfl ?_
    refine j_bipush (pc := 541) dL_isTold_541 (v := 13) (by decide) ?_
    refine j_idiv (pc := 543) dL_isTold_543 (by decide) ?_
    refine j_iconst (pc := 544) dL_isTold_544 (v := 5) (by decide) ?_
    refine j_irem (pc := 545) dL_isTold_545 (by decide) ?_
    refine j_iconst (pc := 546) dL_isTold_546 (v := 2) (by decide) ?_
    refine j_isub (pc := 547) dL_isTold_547 ?_
    refine j_mask [true, false, false, false, true, false, false, false, true, false, false, true, false, false, false, false, false, true, false, false, false, false, false, false, false] ?_
    exact jm_L_isTold_b548 _ _ _ _ _ _ ws h
  · rw [if_pos c1] at h
    refine j_bipush (pc := 534) dL_isTold_534 (v := (-6)) (by decide) ?_
    refine j_goto (pc := 536) (tgt := 548) dL_isTold_536 (by decide) ?_
    refine j_mask [true, false, false, false, true, false, false, false, true, false, false, true, false, false, false, false, false, true, false, false, false, false, false, false, false] ?_
    exact jm_L_isTold_b548 _ _ _ _ _ _ ws h
def m_L_isTold_b483 (s0 : Int32) (s1 : Int32) (ws : LWd) : Option (Int32 × LWd) :=
  if s0 = s1 then
    some (1, ws)
  else
    some (0, ws)
set_option maxRecDepth 100000 in
set_option maxHeartbeats 4000000 in
theorem jm_L_isTold_b483 {n0 : Nat} {rr : Int32} {ws' : LWd} (s0 : Int32) (s1 : Int32) (ws : LWd) (h : m_L_isTold_b483 s0 s1 ws = some (rr, ws')) : JG (.inr none) cL_isTold 25 RL wsL_isTold (some .boolean) "isTold" 8 1 6 n0 (.inl (some (.int rr)), ws') 483 [none, none, none, none, none, none, none, none, none, none, none, none, none, none, none, none, none, none, none, none, none, none, none, none, none] [.int s1, .int s0] ws 1 6 := by
  unfold m_L_isTold_b483 at h
  refine j_icmp_ne (pc := 483) (tgt := 490) dL_isTold_483 (by decide) (fun c1 => ?_) (fun c1 => ?_)
  · rw [if_neg c1] at h
    refine j_iconst (pc := 490) dL_isTold_490 (v := 0) (by decide) ?_
    obtain ⟨rfl, rfl⟩ := jretS h
    exact j_zretL (pc := 491) (by decide) rfl dL_isTold_491 (by decide) (by decide) rfl
  · rw [if_pos c1] at h
    refine j_iconst (pc := 486) dL_isTold_486 (v := 1) (by decide) ?_
    refine j_goto (pc := 487) (tgt := 491) dL_isTold_487 (by decide) ?_
    obtain ⟨rfl, rfl⟩ := jretS h
    exact j_zretL (pc := 491) (by decide) rfl dL_isTold_491 (by decide) (by decide) rfl
def m_L_isTold_b458 (a0 : Nat) (i12 : Int32) (i13 : Int32) (i16 : Int32) (i17 : Int32) (i18 : Int32) (ws : LWd) : Option (Int32 × LWd) :=
  bn2 (calSR ws (m_L_does a0 1 i12 i13 i16 0 0 ws)) fun x3 w1 =>
  if i17 = 0 then
    m_L_isTold_b483 x3 ((-2000000)) w1
  else
    m_L_isTold_b483 x3 i18 w1
set_option maxRecDepth 100000 in
set_option maxHeartbeats 4000000 in
theorem jm_L_isTold_b458 {n0 : Nat} {rr : Int32} {ws' : LWd} (a0 : Nat) (i12 : Int32) (i13 : Int32) (i16 : Int32) (i17 : Int32) (i18 : Int32) (ws : LWd) (h : m_L_isTold_b458 a0 i12 i13 i16 i17 i18 ws = some (rr, ws')) : JG (.inr none) cL_isTold 25 RL wsL_isTold (some .boolean) "isTold" 8 1 6 n0 (.inl (some (.int rr)), ws') 458 [some (.ref a0), none, none, none, none, none, none, none, none, none, none, none, some (.int i12), some (.int i13), none, none, some (.int i16), some (.int i17), some (.int i18), none, none, none, none, none, none] [] ws 0 0 := by
  unfold m_L_isTold_b458 at h
  refine j_aload_n (pc := 458) dL_isTold_458 rfl ?_
  refine j_iconst (pc := 459) dL_isTold_459 (v := 1) (by decide) ?_
  refine j_iload (pc := 460) dL_isTold_460 rfl ?_
  refine j_iload (pc := 462) dL_isTold_462 rfl ?_
  refine j_iload (pc := 464) dL_isTold_464 rfl ?_
  refine j_iconst (pc := 466) dL_isTold_466 (v := 0) (by decide) ?_
  refine j_iconst (pc := 467) dL_isTold_467 (v := 0) (by decide) ?_
  obtain ⟨x3, w1, e2, h⟩ := obS2 h
  have ge2 := calSR_of e2
  refine j_callSW (pc := 468) (As := [.ref a0, .int 1, .int i12, .int i13, .int i16, .int 0, .int 0]) (k' := 1) (n' := 6) dL_isTold_468 (fun q h => by cases h) (s_L_does ge2.1) (jgS lw_657 lw_658 lw_597 lw_656) rfl hy_L_does rfl (by decide) (by decide) (Nat.le_of_ble_eq_true rfl) (by decide) (by decide) (by decide) (by decide) ge2.2 ?_
  refine j_iload (pc := 471) dL_isTold_471 rfl ?_
  refine j_if_eq (pc := 473) (tgt := 481) dL_isTold_473 (by decide) (fun c4 => ?_) (fun c4 => ?_)
  · rw [if_pos c4] at h
    refine j_ldc (pc := 481) dL_isTold_481 (v := (-2000000)) (jwm lw_528) ?_
    refine j_mask [false, false, false, false, false, false, false, false, false, false, false, false, false, false, false, false, false, false, false, false, false, false, false, false, false] ?_
    exact jm_L_isTold_b483 _ _ w1 h
  · rw [if_neg c4] at h
    refine j_iload (pc := 476) dL_isTold_476 rfl ?_
    refine j_goto (pc := 478) (tgt := 483) dL_isTold_478 (by decide) ?_
    refine j_mask [false, false, false, false, false, false, false, false, false, false, false, false, false, false, false, false, false, false, false, false, false, false, false, false, false] ?_
    exact jm_L_isTold_b483 _ _ w1 h
def m_L_isTold_b427 (a0 : Nat) (a1 : Nat) (i12 : Int32) (i13 : Int32) (i15 : Int32) (i16 : Int32) (s0 : Int32) (ws : LWd) : Option (Int32 × LWd) :=
  bn2 (calSR ws (m_L_four a1 (400 + i15) ws)) fun x3 w1 =>
  if s0 = 0 then
    m_L_isTold_b458 a0 i12 i13 i16 s0 x3 w1
  else
    (calSV w1 (m_L_sets a1 (400 + i15) i16 w1)).bind fun w5 =>
    m_L_isTold_b458 a0 i12 i13 i16 s0 x3 w5
set_option maxRecDepth 100000 in
set_option maxHeartbeats 4000000 in
theorem jm_L_isTold_b427 {n0 : Nat} {rr : Int32} {ws' : LWd} (a0 : Nat) (a1 : Nat) (i12 : Int32) (i13 : Int32) (i15 : Int32) (i16 : Int32) (s0 : Int32) (ws : LWd) (h : m_L_isTold_b427 a0 a1 i12 i13 i15 i16 s0 ws = some (rr, ws')) : JG (.inr none) cL_isTold 25 RL wsL_isTold (some .boolean) "isTold" 8 1 6 n0 (.inl (some (.int rr)), ws') 427 [some (.ref a0), some (.ref a1), none, none, none, none, none, none, none, none, none, none, some (.int i12), some (.int i13), none, some (.int i15), some (.int i16), none, none, none, none, none, none, none, none] [.int s0] ws 0 0 := by
  unfold m_L_isTold_b427 at h
  refine j_istore_17 (pc := 427) dL_isTold_427 (by decide) rfl ?_
  refine j_aload_n (pc := 429) dL_isTold_429 rfl ?_
  refine j_sipush (pc := 430) dL_isTold_430 (v := 400) (by decide) ?_
  refine j_iload (pc := 433) dL_isTold_433 rfl ?_
  refine j_iadd (pc := 435) dL_isTold_435 ?_
  obtain ⟨x3, w1, e2, h⟩ := obS2 h
  have ge2 := calSR_of e2
  refine j_callS_g (pc := 436) (As := [.ref a1, .int (400 + i15)]) (k' := 0) (n' := 0) dL_isTold_436 (s_L_four ge2.1) (jgS lw_605 lw_606 lw_597 lw_604) rfl hy_L_four rfl (by decide) (by decide) (Nat.le_of_ble_eq_true rfl) (by decide) (by decide) (by decide) (by decide) (Or.inl ge2.2) ?_
  refine j_istore_18 (pc := 439) dL_isTold_439 (by decide) rfl ?_
  refine j_iload (pc := 441) dL_isTold_441 rfl ?_
  refine j_if_eq (pc := 443) (tgt := 458) dL_isTold_443 (by decide) (fun c4 => ?_) (fun c4 => ?_)
  · rw [if_pos c4] at h
    refine j_mask [true, false, false, false, false, false, false, false, false, false, false, false, true, true, false, false, true, true, true, false, false, false, false, false, false] ?_
    exact jm_L_isTold_b458 _ _ _ _ _ _ w1 h
  · rw [if_neg c4] at h
    refine j_aload_n (pc := 446) dL_isTold_446 rfl ?_
    refine j_sipush (pc := 447) dL_isTold_447 (v := 400) (by decide) ?_
    refine j_iload (pc := 450) dL_isTold_450 rfl ?_
    refine j_iadd (pc := 452) dL_isTold_452 ?_
    refine j_iload (pc := 453) dL_isTold_453 rfl ?_
    obtain ⟨w5, e6, h⟩ := obS h
    have ge6 := calSV_of e6
    refine j_callS_g (pc := 455) (As := [.ref a1, .int (400 + i15), .int i16]) (k' := 0) (n' := 0) dL_isTold_455 (s_L_sets ge6.1) (jgS lw_614 lw_615 lw_597 lw_613) rfl hy_L_sets rfl (by decide) (by decide) (Nat.le_of_ble_eq_true rfl) (by decide) (by decide) (by decide) (by decide) (Or.inl ge6.2) ?_
    refine j_mask [true, false, false, false, false, false, false, false, false, false, false, false, true, true, false, false, true, true, true, false, false, false, false, false, false] ?_
    exact jm_L_isTold_b458 _ _ _ _ _ _ w5 h
def m_L_isTold_b426 (a0 : Nat) (a1 : Nat) (i12 : Int32) (i13 : Int32) (i15 : Int32) (i16 : Int32) (ws : LWd) : Option (Int32 × LWd) :=
  m_L_isTold_b427 a0 a1 i12 i13 i15 i16 0 ws
set_option maxRecDepth 100000 in
set_option maxHeartbeats 4000000 in
theorem jm_L_isTold_b426 {n0 : Nat} {rr : Int32} {ws' : LWd} (a0 : Nat) (a1 : Nat) (i12 : Int32) (i13 : Int32) (i15 : Int32) (i16 : Int32) (ws : LWd) (h : m_L_isTold_b426 a0 a1 i12 i13 i15 i16 ws = some (rr, ws')) : JG (.inr none) cL_isTold 25 RL wsL_isTold (some .boolean) "isTold" 8 1 6 n0 (.inl (some (.int rr)), ws') 426 [some (.ref a0), some (.ref a1), none, none, none, none, none, none, none, none, none, none, some (.int i12), some (.int i13), none, some (.int i15), some (.int i16), none, none, none, none, none, none, none, none] [] ws 0 0 := by
  unfold m_L_isTold_b426 at h
  refine j_iconst (pc := 426) dL_isTold_426 (v := 0) (by decide) ?_
  exact jm_L_isTold_b427 _ _ _ _ _ _ _ ws h
def m_L_isTold_b395 (s0 : Int32) (s1 : Int32) (ws : LWd) : Option (Int32 × LWd) :=
  if s0 = s1 then
    some (1, ws)
  else
    some (0, ws)
set_option maxRecDepth 100000 in
set_option maxHeartbeats 4000000 in
theorem jm_L_isTold_b395 {n0 : Nat} {rr : Int32} {ws' : LWd} (s0 : Int32) (s1 : Int32) (ws : LWd) (h : m_L_isTold_b395 s0 s1 ws = some (rr, ws')) : JG (.inr none) cL_isTold 25 RL wsL_isTold (some .boolean) "isTold" 8 1 6 n0 (.inl (some (.int rr)), ws') 395 [none, none, none, none, none, none, none, none, none, none, none, none, none, none, none, none, none, none, none, none, none, none, none, none, none] [.int s1, .int s0] ws 1 6 := by
  unfold m_L_isTold_b395 at h
  refine j_icmp_ne (pc := 395) (tgt := 402) dL_isTold_395 (by decide) (fun c1 => ?_) (fun c1 => ?_)
  · rw [if_neg c1] at h
    refine j_iconst (pc := 402) dL_isTold_402 (v := 0) (by decide) ?_
    obtain ⟨rfl, rfl⟩ := jretS h
    exact j_zretL (pc := 403) (by decide) rfl dL_isTold_403 (by decide) (by decide) rfl
  · rw [if_pos c1] at h
    refine j_iconst (pc := 398) dL_isTold_398 (v := 1) (by decide) ?_
    refine j_goto (pc := 399) (tgt := 403) dL_isTold_399 (by decide) ?_
    obtain ⟨rfl, rfl⟩ := jretS h
    exact j_zretL (pc := 403) (by decide) rfl dL_isTold_403 (by decide) (by decide) rfl
def m_L_isTold_b358 (a0 : Nat) (i12 : Int32) (i13 : Int32) (i16 : Int32) (i17 : Int32) (i18 : Int32) (i19 : Int32) (i20 : Int32) (i21 : Int32) (ws : LWd) : Option (Int32 × LWd) :=
  bn2 (calSR ws (m_L_does a0 0 i12 i13 i16 i17 i18 ws)) fun x3 w1 =>
  if i19 = 0 then
    m_L_isTold_b395 x3 ((-2000000)) w1
  else
    if i20 = 0 then
      m_L_isTold_b395 x3 ((-1000000)) w1
    else
      m_L_isTold_b395 x3 i21 w1
set_option maxRecDepth 100000 in
set_option maxHeartbeats 4000000 in
theorem jm_L_isTold_b358 {n0 : Nat} {rr : Int32} {ws' : LWd} (a0 : Nat) (i12 : Int32) (i13 : Int32) (i16 : Int32) (i17 : Int32) (i18 : Int32) (i19 : Int32) (i20 : Int32) (i21 : Int32) (ws : LWd) (h : m_L_isTold_b358 a0 i12 i13 i16 i17 i18 i19 i20 i21 ws = some (rr, ws')) : JG (.inr none) cL_isTold 25 RL wsL_isTold (some .boolean) "isTold" 8 1 6 n0 (.inl (some (.int rr)), ws') 358 [some (.ref a0), none, none, none, none, none, none, none, none, none, none, none, some (.int i12), some (.int i13), none, none, some (.int i16), some (.int i17), some (.int i18), some (.int i19), some (.int i20), some (.int i21), none, none, none] [] ws 0 0 := by
  unfold m_L_isTold_b358 at h
  refine j_aload_n (pc := 358) dL_isTold_358 rfl ?_
  refine j_iconst (pc := 359) dL_isTold_359 (v := 0) (by decide) ?_
  refine j_iload (pc := 360) dL_isTold_360 rfl ?_
  refine j_iload (pc := 362) dL_isTold_362 rfl ?_
  refine j_iload (pc := 364) dL_isTold_364 rfl ?_
  refine j_iload (pc := 366) dL_isTold_366 rfl ?_
  refine j_iload (pc := 368) dL_isTold_368 rfl ?_
  obtain ⟨x3, w1, e2, h⟩ := obS2 h
  have ge2 := calSR_of e2
  refine j_callSW (pc := 370) (As := [.ref a0, .int 0, .int i12, .int i13, .int i16, .int i17, .int i18]) (k' := 1) (n' := 6) dL_isTold_370 (fun q h => by cases h) (s_L_does ge2.1) (jgS lw_657 lw_658 lw_597 lw_656) rfl hy_L_does rfl (by decide) (by decide) (Nat.le_of_ble_eq_true rfl) (by decide) (by decide) (by decide) (by decide) ge2.2 ?_
  refine j_iload (pc := 373) dL_isTold_373 rfl ?_
  refine j_if_ne (pc := 375) (tgt := 383) dL_isTold_375 (by decide) (fun c4 => ?_) (fun c4 => ?_)
  · rw [if_neg c4] at h
    refine j_iload (pc := 383) dL_isTold_383 rfl ?_
    refine j_if_eq (pc := 385) (tgt := 393) dL_isTold_385 (by decide) (fun c5 => ?_) (fun c5 => ?_)
    · rw [if_pos c5] at h
      refine j_ldc (pc := 393) dL_isTold_393 (v := (-1000000)) (jwm lw_530) ?_
      refine j_mask [false, false, false, false, false, false, false, false, false, false, false, false, false, false, false, false, false, false, false, false, false, false, false, false, false] ?_
      exact jm_L_isTold_b395 _ _ w1 h
    · rw [if_neg c5] at h
      refine j_iload (pc := 388) dL_isTold_388 rfl ?_
      refine j_goto (pc := 390) (tgt := 395) dL_isTold_390 (by decide) ?_
      refine j_mask [false, false, false, false, false, false, false, false, false, false, false, false, false, false, false, false, false, false, false, false, false, false, false, false, false] ?_
      exact jm_L_isTold_b395 _ _ w1 h
  · rw [if_pos c4] at h
    refine j_ldc (pc := 378) dL_isTold_378 (v := (-2000000)) (jwm lw_528) ?_
    refine j_goto (pc := 380) (tgt := 395) dL_isTold_380 (by decide) ?_
    refine j_mask [false, false, false, false, false, false, false, false, false, false, false, false, false, false, false, false, false, false, false, false, false, false, false, false, false] ?_
    exact jm_L_isTold_b395 _ _ w1 h
def m_L_isTold_b279 (a0 : Nat) (a1 : Nat) (a2 : Nat) (a3 : Nat) (i12 : Int32) (i13 : Int32) (i15 : Int32) (i16 : Int32) (i17 : Int32) (i18 : Int32) (i19 : Int32) (s0 : Int32) (ws : LWd) : Option (Int32 × LWd) :=
  bn2 (calSR ws (m_L_four a1 i15 ws)) fun x3 w1 =>
  if s0 = 0 then
    m_L_isTold_b358 a0 i12 i13 i16 i17 i18 i19 s0 x3 w1
  else
    (calSV w1 (m_L_sets a1 i15 i16 w1)).bind fun w5 =>
    (calSV w5 (m_L_sets a2 i15 i18 w5)).bind fun w7 =>
    (aLd w7 a3 (i15 / 8)).bind fun x9 =>
    (sL w7 a3 (i15 / 8) (x9 &&& ((255 <<< (Int32.toInt64 (8 * (jrem i15 8)) &&& 63)) ^^^ ((-1))))).bind fun w11 =>
    (aLd w11 a3 (i15 / 8)).bind fun x13 =>
    (sL w11 a3 (i15 / 8) (x13 ||| ((Int32.toInt64 i17) <<< (Int32.toInt64 (8 * (jrem i15 8)) &&& 63)))).bind fun w15 =>
    m_L_isTold_b358 a0 i12 i13 i16 i17 i18 i19 s0 x3 w15
set_option maxRecDepth 100000 in
set_option maxHeartbeats 4000000 in
theorem jm_L_isTold_b279 {n0 : Nat} {rr : Int32} {ws' : LWd} (a0 : Nat) (a1 : Nat) (a2 : Nat) (a3 : Nat) (i12 : Int32) (i13 : Int32) (i15 : Int32) (i16 : Int32) (i17 : Int32) (i18 : Int32) (i19 : Int32) (s0 : Int32) (ws : LWd) (h : m_L_isTold_b279 a0 a1 a2 a3 i12 i13 i15 i16 i17 i18 i19 s0 ws = some (rr, ws')) : JG (.inr none) cL_isTold 25 RL wsL_isTold (some .boolean) "isTold" 8 1 6 n0 (.inl (some (.int rr)), ws') 279 [some (.ref a0), some (.ref a1), some (.ref a2), some (.ref a3), none, none, none, none, none, none, none, none, some (.int i12), some (.int i13), none, some (.int i15), some (.int i16), some (.int i17), some (.int i18), some (.int i19), none, none, none, none, none] [.int s0] ws 0 0 := by
  unfold m_L_isTold_b279 at h
  refine j_istore_20 (pc := 279) dL_isTold_279 (by decide) rfl ?_
  refine j_aload_n (pc := 281) dL_isTold_281 rfl ?_
  refine j_iload (pc := 282) dL_isTold_282 rfl ?_
  obtain ⟨x3, w1, e2, h⟩ := obS2 h
  have ge2 := calSR_of e2
  refine j_callS_g (pc := 284) (As := [.ref a1, .int i15]) (k' := 0) (n' := 0) dL_isTold_284 (s_L_four ge2.1) (jgS lw_605 lw_606 lw_597 lw_604) rfl hy_L_four rfl (by decide) (by decide) (Nat.le_of_ble_eq_true rfl) (by decide) (by decide) (by decide) (by decide) (Or.inl ge2.2) ?_
  refine j_istore_21 (pc := 287) dL_isTold_287 (by decide) rfl ?_
  refine j_iload (pc := 289) dL_isTold_289 rfl ?_
  refine j_if_eq (pc := 291) (tgt := 358) dL_isTold_291 (by decide) (fun c4 => ?_) (fun c4 => ?_)
  · rw [if_pos c4] at h
    refine j_mask [true, false, false, false, false, false, false, false, false, false, false, false, true, true, false, false, true, true, true, true, true, true, false, false, false] ?_
    exact jm_L_isTold_b358 _ _ _ _ _ _ _ _ _ w1 h
  · rw [if_neg c4] at h
    refine j_aload_n (pc := 294) dL_isTold_294 rfl ?_
    refine j_iload (pc := 295) dL_isTold_295 rfl ?_
    refine j_iload (pc := 297) dL_isTold_297 rfl ?_
    obtain ⟨w5, e6, h⟩ := obS h
    have ge6 := calSV_of e6
    refine j_callS_g (pc := 299) (As := [.ref a1, .int i15, .int i16]) (k' := 0) (n' := 0) dL_isTold_299 (s_L_sets ge6.1) (jgS lw_614 lw_615 lw_597 lw_613) rfl hy_L_sets rfl (by decide) (by decide) (Nat.le_of_ble_eq_true rfl) (by decide) (by decide) (by decide) (by decide) (Or.inl ge6.2) ?_
    refine j_aload_n (pc := 302) dL_isTold_302 rfl ?_
    refine j_iload (pc := 303) dL_isTold_303 rfl ?_
    refine j_iload (pc := 305) dL_isTold_305 rfl ?_
    obtain ⟨w7, e8, h⟩ := obS h
    have ge8 := calSV_of e8
    refine j_callS_g (pc := 307) (As := [.ref a2, .int i15, .int i18]) (k' := 0) (n' := 0) dL_isTold_307 (s_L_sets ge8.1) (jgS lw_614 lw_615 lw_597 lw_613) rfl hy_L_sets rfl (by decide) (by decide) (Nat.le_of_ble_eq_true rfl) (by decide) (by decide) (by decide) (by decide) (Or.inl ge8.2) ?_
    refine j_aload_n (pc := 310) dL_isTold_310 rfl ?_
    refine j_iload (pc := 311) dL_isTold_311 rfl ?_
    refine j_bipush (pc := 313) dL_isTold_313 (v := 8) (by decide) ?_
    refine j_idiv (pc := 315) dL_isTold_315 (by decide) ?_
    refine j_dup2 (pc := 316) dL_isTold_316 rfl rfl ?_
    obtain ⟨x9, e10, h⟩ := obS h
    refine j_lald (pc := 317) dL_isTold_317 e10 ?_
    refine j_ldc2 (pc := 318) dL_isTold_318 (v := 255) (jwm lw_593) ?_
    refine j_bipush (pc := 321) dL_isTold_321 (v := 8) (by decide) ?_
    refine j_iload (pc := 323) dL_isTold_323 rfl ?_
    refine j_bipush (pc := 325) dL_isTold_325 (v := 8) (by decide) ?_
    refine j_irem (pc := 327) dL_isTold_327 (by decide) ?_
    refine j_imul (pc := 328) dL_isTold_328 ?_
    refine j_lshl (pc := 329) dL_isTold_329 ?_
    refine j_ldc2 (pc := 330) dL_isTold_330 (v := (-1)) (jwm lw_592) ?_
    refine j_lxor (pc := 333) dL_isTold_333 ?_
    refine j_land (pc := 334) dL_isTold_334 ?_
    obtain ⟨w11, e12, h⟩ := obS h
    refine j_last (pc := 335) dL_isTold_335 e12 ?_
    refine j_aload_n (pc := 336) dL_isTold_336 rfl ?_
    refine j_iload (pc := 337) dL_isTold_337 rfl ?_
    refine j_bipush (pc := 339) dL_isTold_339 (v := 8) (by decide) ?_
    refine j_idiv (pc := 341) dL_isTold_341 (by decide) ?_
    refine j_dup2 (pc := 342) dL_isTold_342 rfl rfl ?_
    obtain ⟨x13, e14, h⟩ := obS h
    refine j_lald (pc := 343) dL_isTold_343 e14 ?_
    refine j_iload (pc := 344) dL_isTold_344 rfl ?_
    refine j_i2l (pc := 346) dL_isTold_346 ?_
    refine j_bipush (pc := 347) dL_isTold_347 (v := 8) (by decide) ?_
    refine j_iload (pc := 349) dL_isTold_349 rfl ?_
    refine j_bipush (pc := 351) dL_isTold_351 (v := 8) (by decide) ?_
    refine j_irem (pc := 353) dL_isTold_353 (by decide) ?_
    refine j_imul (pc := 354) dL_isTold_354 ?_
    refine j_lshl (pc := 355) dL_isTold_355 ?_
    refine j_lor (pc := 356) dL_isTold_356 ?_
    obtain ⟨w15, e16, h⟩ := obS h
    refine j_last (pc := 357) dL_isTold_357 e16 ?_
    refine j_mask [true, false, false, false, false, false, false, false, false, false, false, false, true, true, false, false, true, true, true, true, true, true, false, false, false] ?_
    exact jm_L_isTold_b358 _ _ _ _ _ _ _ _ _ w15 h
def m_L_isTold_b278 (a0 : Nat) (a1 : Nat) (a2 : Nat) (a3 : Nat) (i12 : Int32) (i13 : Int32) (i15 : Int32) (i16 : Int32) (i17 : Int32) (i18 : Int32) (i19 : Int32) (ws : LWd) : Option (Int32 × LWd) :=
  m_L_isTold_b279 a0 a1 a2 a3 i12 i13 i15 i16 i17 i18 i19 0 ws
set_option maxRecDepth 100000 in
set_option maxHeartbeats 4000000 in
theorem jm_L_isTold_b278 {n0 : Nat} {rr : Int32} {ws' : LWd} (a0 : Nat) (a1 : Nat) (a2 : Nat) (a3 : Nat) (i12 : Int32) (i13 : Int32) (i15 : Int32) (i16 : Int32) (i17 : Int32) (i18 : Int32) (i19 : Int32) (ws : LWd) (h : m_L_isTold_b278 a0 a1 a2 a3 i12 i13 i15 i16 i17 i18 i19 ws = some (rr, ws')) : JG (.inr none) cL_isTold 25 RL wsL_isTold (some .boolean) "isTold" 8 1 6 n0 (.inl (some (.int rr)), ws') 278 [some (.ref a0), some (.ref a1), some (.ref a2), some (.ref a3), none, none, none, none, none, none, none, none, some (.int i12), some (.int i13), none, some (.int i15), some (.int i16), some (.int i17), some (.int i18), some (.int i19), none, none, none, none, none] [] ws 0 0 := by
  unfold m_L_isTold_b278 at h
  refine j_iconst (pc := 278) dL_isTold_278 (v := 0) (by decide) ?_
  exact jm_L_isTold_b279 _ _ _ _ _ _ _ _ _ _ _ _ ws h
def m_L_isTold_b248 (a0 : Nat) (a1 : Nat) (a2 : Nat) (a3 : Nat) (a5 : Nat) (a6 : Nat) (a8 : Nat) (i12 : Int32) (i13 : Int32) (i15 : Int32) (i16 : Int32) (i17 : Int32) (i18 : Int32) (s0 : Int32) (ws : LWd) : Option (Int32 × LWd) :=
  if s0 = 0 then
    m_L_isTold_b278 a0 a1 a2 a3 i12 i13 i15 i16 i17 i18 s0 ws
  else
    (aI ws a8 8).bind fun x2 =>
    bn2 (calSR ws (m_L_isTaken a5 a6 x2 i12 i13 ws)) fun x6 w4 =>
    if x6 = 0 then
      m_L_isTold_b279 a0 a1 a2 a3 i12 i13 i15 i16 i17 i18 s0 1 w4
    else
      m_L_isTold_b278 a0 a1 a2 a3 i12 i13 i15 i16 i17 i18 s0 w4
set_option maxRecDepth 100000 in
set_option maxHeartbeats 4000000 in
theorem jm_L_isTold_b248 {n0 : Nat} {rr : Int32} {ws' : LWd} (a0 : Nat) (a1 : Nat) (a2 : Nat) (a3 : Nat) (a5 : Nat) (a6 : Nat) (a8 : Nat) (i12 : Int32) (i13 : Int32) (i15 : Int32) (i16 : Int32) (i17 : Int32) (i18 : Int32) (s0 : Int32) (ws : LWd) (h : m_L_isTold_b248 a0 a1 a2 a3 a5 a6 a8 i12 i13 i15 i16 i17 i18 s0 ws = some (rr, ws')) : JG (.inr none) cL_isTold 25 RL wsL_isTold (some .boolean) "isTold" 8 1 6 n0 (.inl (some (.int rr)), ws') 248 [some (.ref a0), some (.ref a1), some (.ref a2), some (.ref a3), none, some (.ref a5), some (.ref a6), none, some (.ref a8), none, none, none, some (.int i12), some (.int i13), none, some (.int i15), some (.int i16), some (.int i17), some (.int i18), none, none, none, none, none, none] [.int s0] ws 0 0 := by
  unfold m_L_isTold_b248 at h
  refine j_istore_19 (pc := 248) dL_isTold_248 (by decide) rfl ?_
  refine j_iload (pc := 250) dL_isTold_250 rfl ?_
  refine j_if_eq (pc := 252) (tgt := 278) dL_isTold_252 (by decide) (fun c1 => ?_) (fun c1 => ?_)
  · rw [if_pos c1] at h
    refine j_mask [true, true, true, true, false, false, false, false, false, false, false, false, true, true, false, true, true, true, true, true, false, false, false, false, false] ?_
    exact jm_L_isTold_b278 _ _ _ _ _ _ _ _ _ _ _ ws h
  · rw [if_neg c1] at h
    refine j_aload (pc := 255) dL_isTold_255 rfl ?_
    refine j_aload (pc := 257) dL_isTold_257 rfl ?_
    refine j_aload (pc := 259) dL_isTold_259 rfl ?_
    refine j_bipush (pc := 261) dL_isTold_261 (v := 8) (by decide) ?_
    obtain ⟨x2, e3, h⟩ := obS h
    refine j_iald (pc := 263) dL_isTold_263 e3 ?_
    refine j_iload (pc := 264) dL_isTold_264 rfl ?_
    refine j_iload (pc := 266) dL_isTold_266 rfl ?_
    obtain ⟨x6, w4, e5, h⟩ := obS2 h
    have ge5 := calSR_of e5
    refine j_callS_g (pc := 268) (As := [.ref a5, .ref a6, .int x2, .int i12, .int i13]) (k' := 0) (n' := 0) dL_isTold_268 (s_L_isTaken ge5.1) (jgS lw_629 lw_630 lw_597 lw_628) rfl hy_L_isTaken rfl (by decide) (by decide) (Nat.le_of_ble_eq_true rfl) (by decide) (by decide) (by decide) (by decide) (Or.inl ge5.2) ?_
    refine j_if_ne (pc := 271) (tgt := 278) dL_isTold_271 (by decide) (fun c7 => ?_) (fun c7 => ?_)
    · rw [if_neg c7] at h
      refine j_mask [true, true, true, true, false, false, false, false, false, false, false, false, true, true, false, true, true, true, true, true, false, false, false, false, false] ?_
      exact jm_L_isTold_b278 _ _ _ _ _ _ _ _ _ _ _ w4 h
    · rw [if_pos c7] at h
      refine j_iconst (pc := 274) dL_isTold_274 (v := 1) (by decide) ?_
      refine j_goto (pc := 275) (tgt := 279) dL_isTold_275 (by decide) ?_
      refine j_mask [true, true, true, true, false, false, false, false, false, false, false, false, true, true, false, true, true, true, true, true, false, false, false, false, false] ?_
      exact jm_L_isTold_b279 _ _ _ _ _ _ _ _ _ _ _ _ w4 h
def m_L_isTold_b247 (a0 : Nat) (a1 : Nat) (a2 : Nat) (a3 : Nat) (a5 : Nat) (a6 : Nat) (a8 : Nat) (i12 : Int32) (i13 : Int32) (i15 : Int32) (i16 : Int32) (i17 : Int32) (i18 : Int32) (ws : LWd) : Option (Int32 × LWd) :=
  m_L_isTold_b248 a0 a1 a2 a3 a5 a6 a8 i12 i13 i15 i16 i17 i18 0 ws
set_option maxRecDepth 100000 in
set_option maxHeartbeats 4000000 in
theorem jm_L_isTold_b247 {n0 : Nat} {rr : Int32} {ws' : LWd} (a0 : Nat) (a1 : Nat) (a2 : Nat) (a3 : Nat) (a5 : Nat) (a6 : Nat) (a8 : Nat) (i12 : Int32) (i13 : Int32) (i15 : Int32) (i16 : Int32) (i17 : Int32) (i18 : Int32) (ws : LWd) (h : m_L_isTold_b247 a0 a1 a2 a3 a5 a6 a8 i12 i13 i15 i16 i17 i18 ws = some (rr, ws')) : JG (.inr none) cL_isTold 25 RL wsL_isTold (some .boolean) "isTold" 8 1 6 n0 (.inl (some (.int rr)), ws') 247 [some (.ref a0), some (.ref a1), some (.ref a2), some (.ref a3), none, some (.ref a5), some (.ref a6), none, some (.ref a8), none, none, none, some (.int i12), some (.int i13), none, some (.int i15), some (.int i16), some (.int i17), some (.int i18), none, none, none, none, none, none] [] ws 0 0 := by
  unfold m_L_isTold_b247 at h
  refine j_iconst (pc := 247) dL_isTold_247 (v := 0) (by decide) ?_
  exact jm_L_isTold_b248 _ _ _ _ _ _ _ _ _ _ _ _ _ _ ws h
def m_L_isTold_b215 (a0 : Nat) (a1 : Nat) (a2 : Nat) (a3 : Nat) (a5 : Nat) (a6 : Nat) (a8 : Nat) (i12 : Int32) (i13 : Int32) (i14 : Int32) (i15 : Int32) (i16 : Int32) (i17 : Int32) (s0 : Int32) (ws : LWd) : Option (Int32 × LWd) :=
  if i14 = 0 then
    m_L_isTold_b247 a0 a1 a2 a3 a5 a6 a8 i12 i13 i15 i16 i17 s0 ws
  else
    if 10 ≤ i16 then
      m_L_isTold_b247 a0 a1 a2 a3 a5 a6 a8 i12 i13 i15 i16 i17 s0 ws
    else
      if 100 ≤ i17 then
        m_L_isTold_b247 a0 a1 a2 a3 a5 a6 a8 i12 i13 i15 i16 i17 s0 ws
      else
        if 10 ≤ s0 then
          m_L_isTold_b247 a0 a1 a2 a3 a5 a6 a8 i12 i13 i15 i16 i17 s0 ws
        else
          m_L_isTold_b248 a0 a1 a2 a3 a5 a6 a8 i12 i13 i15 i16 i17 s0 1 ws
set_option maxRecDepth 100000 in
set_option maxHeartbeats 4000000 in
theorem jm_L_isTold_b215 {n0 : Nat} {rr : Int32} {ws' : LWd} (a0 : Nat) (a1 : Nat) (a2 : Nat) (a3 : Nat) (a5 : Nat) (a6 : Nat) (a8 : Nat) (i12 : Int32) (i13 : Int32) (i14 : Int32) (i15 : Int32) (i16 : Int32) (i17 : Int32) (s0 : Int32) (ws : LWd) (h : m_L_isTold_b215 a0 a1 a2 a3 a5 a6 a8 i12 i13 i14 i15 i16 i17 s0 ws = some (rr, ws')) : JG (.inr none) cL_isTold 25 RL wsL_isTold (some .boolean) "isTold" 8 1 6 n0 (.inl (some (.int rr)), ws') 215 [some (.ref a0), some (.ref a1), some (.ref a2), some (.ref a3), none, some (.ref a5), some (.ref a6), none, some (.ref a8), none, none, none, some (.int i12), some (.int i13), some (.int i14), some (.int i15), some (.int i16), some (.int i17), none, none, none, none, none, none, none] [.int s0] ws 0 0 := by
  unfold m_L_isTold_b215 at h
  refine j_istore_18 (pc := 215) dL_isTold_215 (by decide) rfl ?_
  refine j_iload (pc := 217) dL_isTold_217 rfl ?_
  refine j_if_eq (pc := 219) (tgt := 247) dL_isTold_219 (by decide) (fun c1 => ?_) (fun c1 => ?_)
  · rw [if_pos c1] at h
    refine j_mask [true, true, true, true, false, true, true, false, true, false, false, false, true, true, false, true, true, true, true, false, false, false, false, false, false] ?_
    exact jm_L_isTold_b247 _ _ _ _ _ _ _ _ _ _ _ _ _ ws h
  · rw [if_neg c1] at h
    refine j_iload (pc := 222) dL_isTold_222 rfl ?_
    refine j_bipush (pc := 224) dL_isTold_224 (v := 10) (by decide) ?_
    refine j_icmp_ge (pc := 226) (tgt := 247) dL_isTold_226 (by decide) (fun c2 => ?_) (fun c2 => ?_)
    · rw [if_pos c2] at h
      refine j_mask [true, true, true, true, false, true, true, false, true, false, false, false, true, true, false, true, true, true, true, false, false, false, false, false, false] ?_
      exact jm_L_isTold_b247 _ _ _ _ _ _ _ _ _ _ _ _ _ ws h
    · rw [if_neg c2] at h
      refine j_iload (pc := 229) dL_isTold_229 rfl ?_
      refine j_bipush (pc := 231) dL_isTold_231 (v := 100) (by decide) ?_
      refine j_icmp_ge (pc := 233) (tgt := 247) dL_isTold_233 (by decide) (fun c3 => ?_) (fun c3 => ?_)
      · rw [if_pos c3] at h
        refine j_mask [true, true, true, true, false, true, true, false, true, false, false, false, true, true, false, true, true, true, true, false, false, false, false, false, false] ?_
        exact jm_L_isTold_b247 _ _ _ _ _ _ _ _ _ _ _ _ _ ws h
      · rw [if_neg c3] at h
        refine j_iload (pc := 236) dL_isTold_236 rfl ?_
        refine j_bipush (pc := 238) dL_isTold_238 (v := 10) (by decide) ?_
        refine j_icmp_ge (pc := 240) (tgt := 247) dL_isTold_240 (by decide) (fun c4 => ?_) (fun c4 => ?_)
        · rw [if_pos c4] at h
          refine j_mask [true, true, true, true, false, true, true, false, true, false, false, false, true, true, false, true, true, true, true, false, false, false, false, false, false] ?_
          exact jm_L_isTold_b247 _ _ _ _ _ _ _ _ _ _ _ _ _ ws h
        · rw [if_neg c4] at h
          refine j_iconst (pc := 243) dL_isTold_243 (v := 1) (by decide) ?_
          refine j_goto (pc := 244) (tgt := 248) dL_isTold_244 (by decide) ?_
          refine j_mask [true, true, true, true, false, true, true, false, true, false, false, false, true, true, false, true, true, true, true, false, false, false, false, false, false] ?_
          exact jm_L_isTold_b248 _ _ _ _ _ _ _ _ _ _ _ _ _ _ ws h
def m_L_isTold_b182 (a0 : Nat) (a1 : Nat) (a2 : Nat) (a3 : Nat) (a5 : Nat) (a6 : Nat) (a8 : Nat) (i10 : Int32) (i12 : Int32) (i13 : Int32) (i14 : Int32) (i15 : Int32) (i16 : Int32) (s0 : Int32) (ws : LWd) : Option (Int32 × LWd) :=
  if (jrem (i10 / 319) 3) ≤ 0 then
    m_L_isTold_b215 a0 a1 a2 a3 a5 a6 a8 i12 i13 i14 i15 i16 s0 (jrem (i10 / 957) 11) ws
  else
    m_L_isTold_b215 a0 a1 a2 a3 a5 a6 a8 i12 i13 i14 i15 i16 s0 (jrem (i10 / 319) 3) ws
set_option maxRecDepth 100000 in
set_option maxHeartbeats 4000000 in
theorem jm_L_isTold_b182 {n0 : Nat} {rr : Int32} {ws' : LWd} (a0 : Nat) (a1 : Nat) (a2 : Nat) (a3 : Nat) (a5 : Nat) (a6 : Nat) (a8 : Nat) (i10 : Int32) (i12 : Int32) (i13 : Int32) (i14 : Int32) (i15 : Int32) (i16 : Int32) (s0 : Int32) (ws : LWd) (h : m_L_isTold_b182 a0 a1 a2 a3 a5 a6 a8 i10 i12 i13 i14 i15 i16 s0 ws = some (rr, ws')) : JG (.inr none) cL_isTold 25 RL wsL_isTold (some .boolean) "isTold" 8 1 6 n0 (.inl (some (.int rr)), ws') 182 [some (.ref a0), some (.ref a1), some (.ref a2), some (.ref a3), none, some (.ref a5), some (.ref a6), none, some (.ref a8), none, some (.int i10), none, some (.int i12), some (.int i13), some (.int i14), some (.int i15), some (.int i16), none, none, none, none, none, none, none, none] [.int s0] ws 0 0 := by
  unfold m_L_isTold_b182 at h
  refine j_istore_17 (pc := 182) dL_isTold_182 (by decide) rfl ?_
  refine j_iload (pc := 184) dL_isTold_184 rfl ?_
  refine j_sipush (pc := 186) dL_isTold_186 (v := 319) (by decide) ?_
  refine j_idiv (pc := 189) dL_isTold_189 (by decide) ?_
  refine j_iconst (pc := 190) dL_isTold_190 (v := 3) (by decide) ?_
  refine j_irem (pc := 191) dL_isTold_191 (by decide) ?_
  refine j_if_le (pc := 192) (tgt := 206) dL_isTold_192 (by decide) (fun c1 => ?_) (fun c1 => ?_)
  · rw [if_pos c1] at h
    refine j_iload (pc := 206) dL_isTold_206 rfl ?_
    refine j_sipush (pc := 208) dL_isTold_208 (v := 957) (by decide) ?_
    refine j_idiv (pc := 211) dL_isTold_211 (by decide) ?_
    refine j_bipush (pc := 212) dL_isTold_212 (v := 11) (by decide) ?_
    refine j_irem (pc := 214) dL_isTold_214 (by decide) ?_
    refine j_mask [true, true, true, true, false, true, true, false, true, false, false, false, true, true, true, true, true, true, false, false, false, false, false, false, false] ?_
    exact jm_L_isTold_b215 _ _ _ _ _ _ _ _ _ _ _ _ _ _ ws h
  · rw [if_neg c1] at h
    refine j_iload (pc := 195) dL_isTold_195 rfl ?_
    refine j_sipush (pc := 197) dL_isTold_197 (v := 319) (by decide) ?_
    refine j_idiv (pc := 200) dL_isTold_200 (by decide) ?_
    refine j_iconst (pc := 201) dL_isTold_201 (v := 3) (by decide) ?_
    refine j_irem (pc := 202) dL_isTold_202 (by decide) ?_
    refine j_goto (pc := 203) (tgt := 215) dL_isTold_203 (by decide) ?_
    refine j_mask [true, true, true, true, false, true, true, false, true, false, false, false, true, true, true, true, true, true, false, false, false, false, false, false, false] ?_
    exact jm_L_isTold_b215 _ _ _ _ _ _ _ _ _ _ _ _ _ _ ws h
def m_L_isTold_b134 (a0 : Nat) (a1 : Nat) (a2 : Nat) (a3 : Nat) (a4 : Nat) (a5 : Nat) (a6 : Nat) (a7 : Nat) (a8 : Nat) (i9 : Int32) (i10 : Int32) (i11 : Int32) (i12 : Int32) (i13 : Int32) (i14 : Int32) (i15 : Int32) (s0 : Int32) (ws : LWd) : Option (Int32 × LWd) :=
  if i9 = 0 then
    if (jrem (i11 / 9) 13) = 12 then
      m_L_isTold_b182 a0 a1 a2 a3 a5 a6 a8 i10 i12 i13 i14 i15 s0 100 ws
    else
      if (jrem (i11 / 9) 3) ≤ 0 then
        m_L_isTold_b182 a0 a1 a2 a3 a5 a6 a8 i10 i12 i13 i14 i15 s0 (jrem (i11 / 27) 14) ws
      else
        m_L_isTold_b182 a0 a1 a2 a3 a5 a6 a8 i10 i12 i13 i14 i15 s0 99 ws
  else
    if i9 = 1 then
      if i14 = 0 then
        m_L_isTold_b426 a0 a1 i12 i13 i15 s0 ws
      else
        if 10 ≤ s0 then
          m_L_isTold_b426 a0 a1 i12 i13 i15 s0 ws
        else
          m_L_isTold_b427 a0 a1 i12 i13 i15 s0 1 ws
    else
      if i9 = 2 then
        if (jrem i10 13) = 12 then
          m_L_isTold_b519 a0 a4 a8 i10 i11 6 ws
        else
          m_L_isTold_b519 a0 a4 a8 i10 i11 ((jrem i10 5) - 2) ws
      else
        if i9 = 3 then
          if (jrem i10 9) = 0 then
            m_L_isTold_b754 a0 a8 ((jrem (i10 / 9) 2) * 1001) ws
          else
            m_L_isTold_b754 a0 a8 (1 + (jrem i10 90)) ws
        else
          if i9 = 4 then
            (aI ws a8 7).bind fun x16 =>
            if x16 + 1 = 0 then none else
            if (jrem i11 13) = 12 then
              m_L_isTold_b891 a0 a7 a8 i10 i11 (jrem i10 (x16 + 1)) 7 ws
            else
              m_L_isTold_b891 a0 a7 a8 i10 i11 (jrem i10 (x16 + 1)) ((jrem i11 3) - 1) ws
          else
            (aI ws a8 12).bind fun x6 =>
            (sI ws a8 12 0).bind fun w8 =>
            (sI w8 a8 13 0).bind fun w10 =>
            bn2 (calSR w10 (m_X10_halt a0 w10)) fun x14 w12 =>
            if x14 = x6 then
              some (1, w12)
            else
              some (0, w12)
set_option maxRecDepth 100000 in
set_option maxHeartbeats 4000000 in
theorem jm_L_isTold_b134 {n0 : Nat} {rr : Int32} {ws' : LWd} (a0 : Nat) (a1 : Nat) (a2 : Nat) (a3 : Nat) (a4 : Nat) (a5 : Nat) (a6 : Nat) (a7 : Nat) (a8 : Nat) (i9 : Int32) (i10 : Int32) (i11 : Int32) (i12 : Int32) (i13 : Int32) (i14 : Int32) (i15 : Int32) (s0 : Int32) (ws : LWd) (h : m_L_isTold_b134 a0 a1 a2 a3 a4 a5 a6 a7 a8 i9 i10 i11 i12 i13 i14 i15 s0 ws = some (rr, ws')) : JG (.inr none) cL_isTold 25 RL wsL_isTold (some .boolean) "isTold" 8 1 6 n0 (.inl (some (.int rr)), ws') 134 [some (.ref a0), some (.ref a1), some (.ref a2), some (.ref a3), some (.ref a4), some (.ref a5), some (.ref a6), some (.ref a7), some (.ref a8), some (.int i9), some (.int i10), some (.int i11), some (.int i12), some (.int i13), some (.int i14), some (.int i15), none, none, none, none, none, none, none, none, none] [.int s0] ws 0 0 := by
  unfold m_L_isTold_b134 at h
  refine j_istore_16 (pc := 134) dL_isTold_134 (by decide) rfl ?_
  refine j_iload (pc := 136) dL_isTold_136 rfl ?_
  refine j_if_ne (pc := 138) (tgt := 404) dL_isTold_138 (by decide) (fun c1 => ?_) (fun c1 => ?_)
  · rw [if_neg c1] at h
    refine j_iload (pc := 404) dL_isTold_404 rfl ?_
    refine j_iconst (pc := 406) dL_isTold_406 (v := 1) (by decide) ?_
    refine j_icmp_ne (pc := 407) (tgt := 492) dL_isTold_407 (by decide) (fun c2 => ?_) (fun c2 => ?_)
    · rw [if_neg c2] at h
      refine j_iload (pc := 492) dL_isTold_492 rfl ?_
      refine j_iconst (pc := 494) dL_isTold_494 (v := 2) (by decide) ?_
      refine j_icmp_ne (pc := 495) (tgt := 719) dL_isTold_495 (by decide) (fun c3 => ?_) (fun c3 => ?_)
      · rw [if_neg c3] at h
        refine j_iload (pc := 719) dL_isTold_719 rfl ?_
        refine j_iconst (pc := 721) dL_isTold_721 (v := 3) (by decide) ?_
        refine j_icmp_ne (pc := 722) (tgt := 852) dL_isTold_722 (by decide) (fun c4 => ?_) (fun c4 => ?_)
        · rw [if_neg c4] at h
          refine j_iload (pc := 852) dL_isTold_852 rfl ?_
          refine j_iconst (pc := 854) dL_isTold_854 (v := 4) (by decide) ?_
          refine j_icmp_ne (pc := 855) (tgt := 1152) dL_isTold_855 (by decide) (fun c5 => ?_) (fun c5 => ?_)
          · rw [if_neg c5] at h
            refine j_aload (pc := 1152) dL_isTold_1152 rfl ?_
            refine j_bipush (pc := 1154) dL_isTold_1154 (v := 12) (by decide) ?_
            obtain ⟨x6, e7, h⟩ := obS h
            refine j_iald (pc := 1156) dL_isTold_1156 e7 ?_
            refine j_istore_17 (pc := 1157) dL_isTold_1157 (by decide) rfl ?_
            refine j_aload (pc := 1159) dL_isTold_1159 rfl ?_
            refine j_bipush (pc := 1161) dL_isTold_1161 (v := 12) (by decide) ?_
            refine j_iconst (pc := 1163) dL_isTold_1163 (v := 0) (by decide) ?_
            obtain ⟨w8, e9, h⟩ := obS h
            refine j_iast (pc := 1164) dL_isTold_1164 e9 ?_
            refine j_aload (pc := 1165) dL_isTold_1165 rfl ?_
            refine j_bipush (pc := 1167) dL_isTold_1167 (v := 13) (by decide) ?_
            refine j_iconst (pc := 1169) dL_isTold_1169 (v := 0) (by decide) ?_
            obtain ⟨w10, e11, h⟩ := obS h
            refine j_iast (pc := 1170) dL_isTold_1170 e11 ?_
            refine j_aload_n (pc := 1171) dL_isTold_1171 rfl ?_
            obtain ⟨x14, w12, e13, h⟩ := obS2 h
            have ge13 := calSR_of e13
            refine j_callV_g (pc := 1172) (As := []) (k' := 0) (n' := 0) dL_isTold_1172 (s_X10_halt ge13.1) (jgV lw_699 lw_700 lw_701 lw_147 lw_698) rfl hv_X10_halt rfl (r_X10_halt ge13.1) rfl (by decide) (by decide) (Nat.le_of_ble_eq_true rfl) (by decide) (by decide) (by decide) (by decide) (Or.inl ge13.2) ?_
            refine j_iload (pc := 1175) dL_isTold_1175 rfl ?_
            refine j_icmp_ne (pc := 1177) (tgt := 1184) dL_isTold_1177 (by decide) (fun c15 => ?_) (fun c15 => ?_)
            · rw [if_neg c15] at h
              refine j_iconst (pc := 1184) dL_isTold_1184 (v := 0) (by decide) ?_
              obtain ⟨rfl, rfl⟩ := jretS h
              exact j_zretL (pc := 1185) (by decide) rfl dL_isTold_1185 (by decide) (by decide) rfl
            · rw [if_pos c15] at h
              refine j_iconst (pc := 1180) dL_isTold_1180 (v := 1) (by decide) ?_
              refine j_goto (pc := 1181) (tgt := 1185) dL_isTold_1181 (by decide) ?_
              obtain ⟨rfl, rfl⟩ := jretS h
              exact j_zretL (pc := 1185) (by decide) rfl dL_isTold_1185 (by decide) (by decide) rfl
          · rw [if_pos c5] at h
            refine j_iload (pc := 858) dL_isTold_858 rfl ?_
            refine j_aload (pc := 860) dL_isTold_860 rfl ?_
            refine j_bipush (pc := 862) dL_isTold_862 (v := 7) (by decide) ?_
            obtain ⟨x16, e17, h⟩ := obS h
            refine j_iald (pc := 864) dL_isTold_864 e17 ?_
            refine j_iconst (pc := 865) dL_isTold_865 (v := 1) (by decide) ?_
            refine j_iadd (pc := 866) dL_isTold_866 ?_
            have c18 := jneS h
            rw [if_neg c18] at h
            refine j_irem (pc := 867) dL_isTold_867 c18 ?_
            refine j_istore_17 (pc := 868) dL_isTold_868 (by decide) rfl ?_
            refine j_iload (pc := 870) dL_isTold_870 rfl ?_
            refine j_bipush (pc := 872) dL_isTold_872 (v := 13) (by decide) ?_
            refine j_irem (pc := 874) dL_isTold_874 (by decide) ?_
            refine j_bipush (pc := 875) dL_isTold_875 (v := 12) (by decide) ?_
            refine j_icmp_ne (pc := 877) (tgt := 885) dL_isTold_877 (by decide) (fun c19 => ?_) (fun c19 => ?_)
            · rw [if_neg c19] at h
              refine j_iload (pc := 885) dL_isTold_885 rfl ?_
              refine j_iconst (pc := 887) dL_isTold_887 (v := 3) (by decide) ?_
              refine j_irem (pc := 888) dL_isTold_888 (by decide) ?_
              refine j_iconst (pc := 889) dL_isTold_889 (v := 1) (by decide) ?_
              refine j_isub (pc := 890) dL_isTold_890 ?_
              refine j_mask [true, false, false, false, false, false, false, true, true, false, true, true, false, false, false, false, false, true, false, false, false, false, false, false, false] ?_
              exact jm_L_isTold_b891 _ _ _ _ _ _ _ ws h
            · rw [if_pos c19] at h
              refine j_bipush (pc := 880) dL_isTold_880 (v := 7) (by decide) ?_
              refine j_goto (pc := 882) (tgt := 891) dL_isTold_882 (by decide) ?_
              refine j_mask [true, false, false, false, false, false, false, true, true, false, true, true, false, false, false, false, false, true, false, false, false, false, false, false, false] ?_
              exact jm_L_isTold_b891 _ _ _ _ _ _ _ ws h
        · rw [if_pos c4] at h
          refine j_iload (pc := 725) dL_isTold_725 rfl ?_
          refine j_bipush (pc := 727) dL_isTold_727 (v := 9) (by decide) ?_
          refine j_irem (pc := 729) dL_isTold_729 (by decide) ?_
          refine j_if_ne (pc := 730) (tgt := 747) dL_isTold_730 (by decide) (fun c20 => ?_) (fun c20 => ?_)
          · rw [if_neg c20] at h
            refine j_iconst (pc := 747) dL_isTold_747 (v := 1) (by decide) ?_
            refine j_iload (pc := 748) dL_isTold_748 rfl ?_
            refine j_bipush (pc := 750) dL_isTold_750 (v := 90) (by decide) ?_
            refine j_irem (pc := 752) dL_isTold_752 (by decide) ?_
            refine j_iadd (pc := 753) dL_isTold_753 ?_
            refine j_mask [true, false, false, false, false, false, false, false, true, false, false, false, false, false, false, false, false, false, false, false, false, false, false, false, false] ?_
            exact jm_L_isTold_b754 _ _ _ ws h
          · rw [if_pos c20] at h
            refine j_iload (pc := 733) dL_isTold_733 rfl ?_
            refine j_bipush (pc := 735) dL_isTold_735 (v := 9) (by decide) ?_
            refine j_idiv (pc := 737) dL_isTold_737 (by decide) ?_
            refine j_iconst (pc := 738) dL_isTold_738 (v := 2) (by decide) ?_
            refine j_irem (pc := 739) dL_isTold_739 (by decide) ?_
            refine j_sipush (pc := 740) dL_isTold_740 (v := 1001) (by decide) ?_
            refine j_imul (pc := 743) dL_isTold_743 ?_
            refine j_goto (pc := 744) (tgt := 754) dL_isTold_744 (by decide) ?_
            refine j_mask [true, false, false, false, false, false, false, false, true, false, false, false, false, false, false, false, false, false, false, false, false, false, false, false, false] ?_
            exact jm_L_isTold_b754 _ _ _ ws h
      · rw [if_pos c3] at h
        refine j_iload (pc := 498) dL_isTold_498 rfl ?_
        refine j_bipush (pc := 500) dL_isTold_500 (v := 13) (by decide) ?_
        refine j_irem (pc := 502) dL_isTold_502 (by decide) ?_
        refine j_bipush (pc := 503) dL_isTold_503 (v := 12) (by decide) ?_
        refine j_icmp_ne (pc := 505) (tgt := 513) dL_isTold_505 (by decide) (fun c21 => ?_) (fun c21 => ?_)
        · rw [if_neg c21] at h
          refine j_iload (pc := 513) dL_isTold_513 rfl ?_
          refine j_iconst (pc := 515) dL_isTold_515 (v := 5) (by decide) ?_
          refine j_irem (pc := 516) dL_isTold_516 (by decide) ?_
          refine j_iconst (pc := 517) dL_isTold_517 (v := 2) (by decide) ?_
          refine j_isub (pc := 518) dL_isTold_518 ?_
          refine j_mask [true, false, false, false, true, false, false, false, true, false, true, true, false, false, false, false, false, false, false, false, false, false, false, false, false] ?_
          exact jm_L_isTold_b519 _ _ _ _ _ _ ws h
        · rw [if_pos c21] at h
          refine j_bipush (pc := 508) dL_isTold_508 (v := 6) (by decide) ?_
          refine j_goto (pc := 510) (tgt := 519) dL_isTold_510 (by decide) ?_
          refine j_mask [true, false, false, false, true, false, false, false, true, false, true, true, false, false, false, false, false, false, false, false, false, false, false, false, false] ?_
          exact jm_L_isTold_b519 _ _ _ _ _ _ ws h
    · rw [if_pos c2] at h
      refine j_iload (pc := 410) dL_isTold_410 rfl ?_
      refine j_if_eq (pc := 412) (tgt := 426) dL_isTold_412 (by decide) (fun c22 => ?_) (fun c22 => ?_)
      · rw [if_pos c22] at h
        refine j_mask [true, true, false, false, false, false, false, false, false, false, false, false, true, true, false, true, true, false, false, false, false, false, false, false, false] ?_
        exact jm_L_isTold_b426 _ _ _ _ _ _ ws h
      · rw [if_neg c22] at h
        refine j_iload (pc := 415) dL_isTold_415 rfl ?_
        refine j_bipush (pc := 417) dL_isTold_417 (v := 10) (by decide) ?_
        refine j_icmp_ge (pc := 419) (tgt := 426) dL_isTold_419 (by decide) (fun c23 => ?_) (fun c23 => ?_)
        · rw [if_pos c23] at h
          refine j_mask [true, true, false, false, false, false, false, false, false, false, false, false, true, true, false, true, true, false, false, false, false, false, false, false, false] ?_
          exact jm_L_isTold_b426 _ _ _ _ _ _ ws h
        · rw [if_neg c23] at h
          refine j_iconst (pc := 422) dL_isTold_422 (v := 1) (by decide) ?_
          refine j_goto (pc := 423) (tgt := 427) dL_isTold_423 (by decide) ?_
          refine j_mask [true, true, false, false, false, false, false, false, false, false, false, false, true, true, false, true, true, false, false, false, false, false, false, false, false] ?_
          exact jm_L_isTold_b427 _ _ _ _ _ _ _ ws h
  · rw [if_pos c1] at h
    refine j_iload (pc := 141) dL_isTold_141 rfl ?_
    refine j_bipush (pc := 143) dL_isTold_143 (v := 9) (by decide) ?_
    refine j_idiv (pc := 145) dL_isTold_145 (by decide) ?_
    refine j_bipush (pc := 146) dL_isTold_146 (v := 13) (by decide) ?_
    refine j_irem (pc := 148) dL_isTold_148 (by decide) ?_
    refine j_bipush (pc := 149) dL_isTold_149 (v := 12) (by decide) ?_
    refine j_icmp_ne (pc := 151) (tgt := 159) dL_isTold_151 (by decide) (fun c24 => ?_) (fun c24 => ?_)
    · rw [if_neg c24] at h
      refine j_iload (pc := 159) dL_isTold_159 rfl ?_
      refine j_bipush (pc := 161) dL_isTold_161 (v := 9) (by decide) ?_
      refine j_idiv (pc := 163) dL_isTold_163 (by decide) ?_
      refine j_iconst (pc := 164) dL_isTold_164 (v := 3) (by decide) ?_
      refine j_irem (pc := 165) dL_isTold_165 (by decide) ?_
      refine j_if_le (pc := 166) (tgt := 174) dL_isTold_166 (by decide) (fun c25 => ?_) (fun c25 => ?_)
      · rw [if_pos c25] at h
        refine j_iload (pc := 174) dL_isTold_174 rfl ?_
        refine j_bipush (pc := 176) dL_isTold_176 (v := 27) (by decide) ?_
        refine j_idiv (pc := 178) dL_isTold_178 (by decide) ?_
        refine j_bipush (pc := 179) dL_isTold_179 (v := 14) (by decide) ?_
        refine j_irem (pc := 181) dL_isTold_181 (by decide) ?_
        refine j_mask [true, true, true, true, false, true, true, false, true, false, true, false, true, true, true, true, true, false, false, false, false, false, false, false, false] ?_
        exact jm_L_isTold_b182 _ _ _ _ _ _ _ _ _ _ _ _ _ _ ws h
      · rw [if_neg c25] at h
        refine j_bipush (pc := 169) dL_isTold_169 (v := 99) (by decide) ?_
        refine j_goto (pc := 171) (tgt := 182) dL_isTold_171 (by decide) ?_
        refine j_mask [true, true, true, true, false, true, true, false, true, false, true, false, true, true, true, true, true, false, false, false, false, false, false, false, false] ?_
        exact jm_L_isTold_b182 _ _ _ _ _ _ _ _ _ _ _ _ _ _ ws h
    · rw [if_pos c24] at h
      refine j_bipush (pc := 154) dL_isTold_154 (v := 100) (by decide) ?_
      refine j_goto (pc := 156) (tgt := 182) dL_isTold_156 (by decide) ?_
      refine j_mask [true, true, true, true, false, true, true, false, true, false, true, false, true, true, true, true, true, false, false, false, false, false, false, false, false] ?_
      exact jm_L_isTold_b182 _ _ _ _ _ _ _ _ _ _ _ _ _ _ ws h
def m_L_isTold_b107 (a0 : Nat) (a1 : Nat) (a2 : Nat) (a3 : Nat) (a4 : Nat) (a5 : Nat) (a6 : Nat) (a7 : Nat) (a8 : Nat) (i9 : Int32) (i10 : Int32) (i11 : Int32) (i12 : Int32) (i13 : Int32) (i14 : Int32) (s0 : Int32) (ws : LWd) : Option (Int32 × LWd) :=
  if (jrem (i10 / 29) 11) = 10 then
    m_L_isTold_b134 a0 a1 a2 a3 a4 a5 a6 a7 a8 i9 i10 i11 i12 i13 i14 s0 10 ws
  else
    m_L_isTold_b134 a0 a1 a2 a3 a4 a5 a6 a7 a8 i9 i10 i11 i12 i13 i14 s0 (jrem (i10 / 29) 4) ws
set_option maxRecDepth 100000 in
set_option maxHeartbeats 4000000 in
theorem jm_L_isTold_b107 {n0 : Nat} {rr : Int32} {ws' : LWd} (a0 : Nat) (a1 : Nat) (a2 : Nat) (a3 : Nat) (a4 : Nat) (a5 : Nat) (a6 : Nat) (a7 : Nat) (a8 : Nat) (i9 : Int32) (i10 : Int32) (i11 : Int32) (i12 : Int32) (i13 : Int32) (i14 : Int32) (s0 : Int32) (ws : LWd) (h : m_L_isTold_b107 a0 a1 a2 a3 a4 a5 a6 a7 a8 i9 i10 i11 i12 i13 i14 s0 ws = some (rr, ws')) : JG (.inr none) cL_isTold 25 RL wsL_isTold (some .boolean) "isTold" 8 1 6 n0 (.inl (some (.int rr)), ws') 107 [some (.ref a0), some (.ref a1), some (.ref a2), some (.ref a3), some (.ref a4), some (.ref a5), some (.ref a6), some (.ref a7), some (.ref a8), some (.int i9), some (.int i10), some (.int i11), some (.int i12), some (.int i13), some (.int i14), none, none, none, none, none, none, none, none, none, none] [.int s0] ws 0 0 := by
  unfold m_L_isTold_b107 at h
  refine j_istore_15 (pc := 107) dL_isTold_107 (by decide) rfl ?_
  refine j_iload (pc := 109) dL_isTold_109 rfl ?_
  refine j_bipush (pc := 111) dL_isTold_111 (v := 29) (by decide) ?_
  refine j_idiv (pc := 113) dL_isTold_113 (by decide) ?_
  refine j_bipush (pc := 114) dL_isTold_114 (v := 11) (by decide) ?_
  refine j_irem (pc := 116) dL_isTold_116 (by decide) ?_
  refine j_bipush (pc := 117) dL_isTold_117 (v := 10) (by decide) ?_
  refine j_icmp_ne (pc := 119) (tgt := 127) dL_isTold_119 (by decide) (fun c1 => ?_) (fun c1 => ?_)
  · rw [if_neg c1] at h
    refine j_iload (pc := 127) dL_isTold_127 rfl ?_
    refine j_bipush (pc := 129) dL_isTold_129 (v := 29) (by decide) ?_
    refine j_idiv (pc := 131) dL_isTold_131 (by decide) ?_
    refine j_iconst (pc := 132) dL_isTold_132 (v := 4) (by decide) ?_
    refine j_irem (pc := 133) dL_isTold_133 (by decide) ?_
    exact jm_L_isTold_b134 _ _ _ _ _ _ _ _ _ _ _ _ _ _ _ _ _ ws h
  · rw [if_pos c1] at h
    refine j_bipush (pc := 122) dL_isTold_122 (v := 10) (by decide) ?_
    refine j_goto (pc := 124) (tgt := 134) dL_isTold_124 (by decide) ?_
    exact jm_L_isTold_b134 _ _ _ _ _ _ _ _ _ _ _ _ _ _ _ _ _ ws h
def m_L_isTold_b79 (a0 : Nat) (a1 : Nat) (a2 : Nat) (a3 : Nat) (a4 : Nat) (a5 : Nat) (a6 : Nat) (a7 : Nat) (a8 : Nat) (i9 : Int32) (i10 : Int32) (i11 : Int32) (i12 : Int32) (s0 : Int32) (ws : LWd) : Option (Int32 × LWd) :=
  bn2 (calSR ws (m_L_isIn i12 s0 ws)) fun x3 w1 =>
  if x3 = 0 then
    m_L_isTold_b107 a0 a1 a2 a3 a4 a5 a6 a7 a8 i9 i10 i11 i12 s0 x3 0 w1
  else
    m_L_isTold_b107 a0 a1 a2 a3 a4 a5 a6 a7 a8 i9 i10 i11 i12 s0 x3 ((20 * s0) + i12) w1
set_option maxRecDepth 100000 in
set_option maxHeartbeats 4000000 in
theorem jm_L_isTold_b79 {n0 : Nat} {rr : Int32} {ws' : LWd} (a0 : Nat) (a1 : Nat) (a2 : Nat) (a3 : Nat) (a4 : Nat) (a5 : Nat) (a6 : Nat) (a7 : Nat) (a8 : Nat) (i9 : Int32) (i10 : Int32) (i11 : Int32) (i12 : Int32) (s0 : Int32) (ws : LWd) (h : m_L_isTold_b79 a0 a1 a2 a3 a4 a5 a6 a7 a8 i9 i10 i11 i12 s0 ws = some (rr, ws')) : JG (.inr none) cL_isTold 25 RL wsL_isTold (some .boolean) "isTold" 8 1 6 n0 (.inl (some (.int rr)), ws') 79 [some (.ref a0), some (.ref a1), some (.ref a2), some (.ref a3), some (.ref a4), some (.ref a5), some (.ref a6), some (.ref a7), some (.ref a8), some (.int i9), some (.int i10), some (.int i11), some (.int i12), none, none, none, none, none, none, none, none, none, none, none, none] [.int s0] ws 0 0 := by
  unfold m_L_isTold_b79 at h
  refine j_istore_13 (pc := 79) dL_isTold_79 (by decide) rfl ?_
  refine j_iload (pc := 81) dL_isTold_81 rfl ?_
  refine j_iload (pc := 83) dL_isTold_83 rfl ?_
  obtain ⟨x3, w1, e2, h⟩ := obS2 h
  have ge2 := calSR_of e2
  refine j_callS_g (pc := 85) (As := [.int i12, .int s0]) (k' := 0) (n' := 0) dL_isTold_85 (s_L_isIn ge2.1) (jgS lw_644 lw_645 lw_597 lw_643) rfl hy_L_isIn rfl (by decide) (by decide) (Nat.le_of_ble_eq_true rfl) (by decide) (by decide) (by decide) (by decide) (Or.inl ge2.2) ?_
  refine j_istore_14 (pc := 88) dL_isTold_88 (by decide) rfl ?_
  refine j_iload (pc := 90) dL_isTold_90 rfl ?_
  refine j_if_eq (pc := 92) (tgt := 106) dL_isTold_92 (by decide) (fun c4 => ?_) (fun c4 => ?_)
  · rw [if_pos c4] at h
    refine j_iconst (pc := 106) dL_isTold_106 (v := 0) (by decide) ?_
    exact jm_L_isTold_b107 _ _ _ _ _ _ _ _ _ _ _ _ _ _ _ _ w1 h
  · rw [if_neg c4] at h
    refine j_bipush (pc := 95) dL_isTold_95 (v := 20) (by decide) ?_
    refine j_iload (pc := 97) dL_isTold_97 rfl ?_
    refine j_imul (pc := 99) dL_isTold_99 ?_
    refine j_iload (pc := 100) dL_isTold_100 rfl ?_
    refine j_iadd (pc := 102) dL_isTold_102 ?_
    refine j_goto (pc := 103) (tgt := 107) dL_isTold_103 (by decide) ?_
    exact jm_L_isTold_b107 _ _ _ _ _ _ _ _ _ _ _ _ _ _ _ _ w1 h
def m_L_isTold_b46 (a0 : Nat) (a1 : Nat) (a2 : Nat) (a3 : Nat) (a4 : Nat) (a5 : Nat) (a6 : Nat) (a7 : Nat) (a8 : Nat) (i9 : Int32) (i10 : Int32) (i11 : Int32) (s0 : Int32) (ws : LWd) : Option (Int32 × LWd) :=
  (aI ws a8 2).bind fun x1 =>
  if 0 ≤ ((x1 - 4) + (jrem i11 9)) then
    (aI ws a8 2).bind fun x4 =>
    m_L_isTold_b79 a0 a1 a2 a3 a4 a5 a6 a7 a8 i9 i10 i11 s0 ((x4 - 4) + (jrem i11 9)) ws
  else
    m_L_isTold_b79 a0 a1 a2 a3 a4 a5 a6 a7 a8 i9 i10 i11 s0 0 ws
set_option maxRecDepth 100000 in
set_option maxHeartbeats 4000000 in
theorem jm_L_isTold_b46 {n0 : Nat} {rr : Int32} {ws' : LWd} (a0 : Nat) (a1 : Nat) (a2 : Nat) (a3 : Nat) (a4 : Nat) (a5 : Nat) (a6 : Nat) (a7 : Nat) (a8 : Nat) (i9 : Int32) (i10 : Int32) (i11 : Int32) (s0 : Int32) (ws : LWd) (h : m_L_isTold_b46 a0 a1 a2 a3 a4 a5 a6 a7 a8 i9 i10 i11 s0 ws = some (rr, ws')) : JG (.inr none) cL_isTold 25 RL wsL_isTold (some .boolean) "isTold" 8 1 6 n0 (.inl (some (.int rr)), ws') 46 [some (.ref a0), some (.ref a1), some (.ref a2), some (.ref a3), some (.ref a4), some (.ref a5), some (.ref a6), some (.ref a7), some (.ref a8), some (.int i9), some (.int i10), some (.int i11), none, none, none, none, none, none, none, none, none, none, none, none, none] [.int s0] ws 0 0 := by
  unfold m_L_isTold_b46 at h
  refine j_istore_12 (pc := 46) dL_isTold_46 (by decide) rfl ?_
  refine j_aload (pc := 48) dL_isTold_48 rfl ?_
  refine j_iconst (pc := 50) dL_isTold_50 (v := 2) (by decide) ?_
  obtain ⟨x1, e2, h⟩ := obS h
  refine j_iald (pc := 51) dL_isTold_51 e2 ?_
  refine j_iconst (pc := 52) dL_isTold_52 (v := 4) (by decide) ?_
  refine j_isub (pc := 53) dL_isTold_53 ?_
  refine j_iload (pc := 54) dL_isTold_54 rfl ?_
  refine j_bipush (pc := 56) dL_isTold_56 (v := 9) (by decide) ?_
  refine j_irem (pc := 58) dL_isTold_58 (by decide) ?_
  refine j_iadd (pc := 59) dL_isTold_59 ?_
  refine j_if_ge (pc := 60) (tgt := 67) dL_isTold_60 (by decide) (fun c3 => ?_) (fun c3 => ?_)
  · rw [if_pos c3] at h
    refine j_aload (pc := 67) dL_isTold_67 rfl ?_
    refine j_iconst (pc := 69) dL_isTold_69 (v := 2) (by decide) ?_
    obtain ⟨x4, e5, h⟩ := obS h
    refine j_iald (pc := 70) dL_isTold_70 e5 ?_
    refine j_iconst (pc := 71) dL_isTold_71 (v := 4) (by decide) ?_
    refine j_isub (pc := 72) dL_isTold_72 ?_
    refine j_iload (pc := 73) dL_isTold_73 rfl ?_
    refine j_bipush (pc := 75) dL_isTold_75 (v := 9) (by decide) ?_
    refine j_irem (pc := 77) dL_isTold_77 (by decide) ?_
    refine j_iadd (pc := 78) dL_isTold_78 ?_
    exact jm_L_isTold_b79 _ _ _ _ _ _ _ _ _ _ _ _ _ _ ws h
  · rw [if_neg c3] at h
    refine j_iconst (pc := 63) dL_isTold_63 (v := 0) (by decide) ?_
    refine j_goto (pc := 64) (tgt := 79) dL_isTold_64 (by decide) ?_
    exact jm_L_isTold_b79 _ _ _ _ _ _ _ _ _ _ _ _ _ _ ws h
def m_L_isTold (a0 : Nat) (a1 : Nat) (a2 : Nat) (a3 : Nat) (a4 : Nat) (a5 : Nat) (a6 : Nat) (a7 : Nat) (a8 : Nat) (i9 : Int32) (i10 : Int32) (i11 : Int32) (ws : LWd) : Option (Int32 × LWd) :=
  if (jrem i10 29) = 28 then
    m_L_isTold_b46 a0 a1 a2 a3 a4 a5 a6 a7 a8 i9 i10 i11 20 ws
  else
    (aI ws a8 1).bind fun x2 =>
    if 0 ≤ ((x2 - 4) + (jrem i10 9)) then
      (aI ws a8 1).bind fun x5 =>
      m_L_isTold_b46 a0 a1 a2 a3 a4 a5 a6 a7 a8 i9 i10 i11 ((x5 - 4) + (jrem i10 9)) ws
    else
      m_L_isTold_b46 a0 a1 a2 a3 a4 a5 a6 a7 a8 i9 i10 i11 0 ws
set_option maxRecDepth 100000 in
set_option maxHeartbeats 4000000 in
theorem s_L_isTold {a0 : Nat} {a1 : Nat} {a2 : Nat} {a3 : Nat} {a4 : Nat} {a5 : Nat} {a6 : Nat} {a7 : Nat} {a8 : Nat} {i9 : Int32} {i10 : Int32} {i11 : Int32} {ws : LWd} {rr : Int32} {ws' : LWd} (h : m_L_isTold a0 a1 a2 a3 a4 a5 a6 a7 a8 i9 i10 i11 ws = some (rr, ws')) : jSW  none yL_isTold wsL_isTold 8 1 6 [.ref a0, .ref a1, .ref a2, .ref a3, .ref a4, .ref a5, .ref a6, .ref a7, .ref a8, .int i9, .int i10, .int i11] ws (.inl (some (.int rr)), ws') := by
  unfold m_L_isTold at h
  refine j_entryW (ret := (some .boolean)) (nm := "isTold") (own := RL) pl_L rfl rfl rfl (jcats (by rfl)) (Nat.le_of_ble_eq_true rfl) ?_
  show JG (.inr none) cL_isTold 25 RL wsL_isTold (some .boolean) "isTold" 8 1 6 ws.length (.inl (some (.int rr)), ws') 0 [some (.ref a0), some (.ref a1), some (.ref a2), some (.ref a3), some (.ref a4), some (.ref a5), some (.ref a6), some (.ref a7), some (.ref a8), some (.int i9), some (.int i10), some (.int i11), none, none, none, none, none, none, none, none, none, none, none, none, none] [] ws 0 0
  refine j_iload (pc := 0) dL_isTold_0 rfl ?_
  refine j_bipush (pc := 2) dL_isTold_2 (v := 29) (by decide) ?_
  refine j_irem (pc := 4) dL_isTold_4 (by decide) ?_
  refine j_bipush (pc := 5) dL_isTold_5 (v := 28) (by decide) ?_
  refine j_icmp_ne (pc := 7) (tgt := 15) dL_isTold_7 (by decide) (fun c1 => ?_) (fun c1 => ?_)
  · rw [if_neg c1] at h
    refine j_aload (pc := 15) dL_isTold_15 rfl ?_
    refine j_iconst (pc := 17) dL_isTold_17 (v := 1) (by decide) ?_
    obtain ⟨x2, e3, h⟩ := obS h
    refine j_iald (pc := 18) dL_isTold_18 e3 ?_
    refine j_iconst (pc := 19) dL_isTold_19 (v := 4) (by decide) ?_
    refine j_isub (pc := 20) dL_isTold_20 ?_
    refine j_iload (pc := 21) dL_isTold_21 rfl ?_
    refine j_bipush (pc := 23) dL_isTold_23 (v := 9) (by decide) ?_
    refine j_irem (pc := 25) dL_isTold_25 (by decide) ?_
    refine j_iadd (pc := 26) dL_isTold_26 ?_
    refine j_if_ge (pc := 27) (tgt := 34) dL_isTold_27 (by decide) (fun c4 => ?_) (fun c4 => ?_)
    · rw [if_pos c4] at h
      refine j_aload (pc := 34) dL_isTold_34 rfl ?_
      refine j_iconst (pc := 36) dL_isTold_36 (v := 1) (by decide) ?_
      obtain ⟨x5, e6, h⟩ := obS h
      refine j_iald (pc := 37) dL_isTold_37 e6 ?_
      refine j_iconst (pc := 38) dL_isTold_38 (v := 4) (by decide) ?_
      refine j_isub (pc := 39) dL_isTold_39 ?_
      refine j_iload (pc := 40) dL_isTold_40 rfl ?_
      refine j_bipush (pc := 42) dL_isTold_42 (v := 9) (by decide) ?_
      refine j_irem (pc := 44) dL_isTold_44 (by decide) ?_
      refine j_iadd (pc := 45) dL_isTold_45 ?_
      exact jm_L_isTold_b46 _ _ _ _ _ _ _ _ _ _ _ _ _ ws h
    · rw [if_neg c4] at h
      refine j_iconst (pc := 30) dL_isTold_30 (v := 0) (by decide) ?_
      refine j_goto (pc := 31) (tgt := 46) dL_isTold_31 (by decide) ?_
      exact jm_L_isTold_b46 _ _ _ _ _ _ _ _ _ _ _ _ _ ws h
  · rw [if_pos c1] at h
    refine j_bipush (pc := 10) dL_isTold_10 (v := 20) (by decide) ?_
    refine j_goto (pc := 12) (tgt := 46) dL_isTold_12 (by decide) ?_
    exact jm_L_isTold_b46 _ _ _ _ _ _ _ _ _ _ _ _ _ ws h
def wsL_isDone : List Cond := Cond.code yL_isDone cL_isDone 26 (some .boolean) :: jW
def m_L_isDone_b1466 (s0 : Int32) (s1 : Int32) (ws : LWd) : Option (Int32 × LWd) :=
  if s0 = s1 then
    some (1, ws)
  else
    some (0, ws)
set_option maxRecDepth 100000 in
set_option maxHeartbeats 4000000 in
theorem jm_L_isDone_b1466 {n0 : Nat} {rr : Int32} {ws' : LWd} (s0 : Int32) (s1 : Int32) (ws : LWd) (h : m_L_isDone_b1466 s0 s1 ws = some (rr, ws')) : JG (.inr none) cL_isDone 26 RL wsL_isDone (some .boolean) "isDone" 8 1 6 n0 (.inl (some (.int rr)), ws') 1466 [none, none, none, none, none, none, none, none, none, none, none, none, none, none, none, none, none, none, none, none, none, none, none, none, none, none] [.int s1, .int s0] ws 1 6 := by
  unfold m_L_isDone_b1466 at h
  refine j_icmp_ne (pc := 1466) (tgt := 1473) dL_isDone_1466 (by decide) (fun c1 => ?_) (fun c1 => ?_)
  · rw [if_neg c1] at h
    refine j_iconst (pc := 1473) dL_isDone_1473 (v := 0) (by decide) ?_
    obtain ⟨rfl, rfl⟩ := jretS h
    exact j_zretL (pc := 1474) (by decide) rfl dL_isDone_1474 (by decide) (by decide) rfl
  · rw [if_pos c1] at h
    refine j_iconst (pc := 1469) dL_isDone_1469 (v := 1) (by decide) ?_
    refine j_goto (pc := 1470) (tgt := 1474) dL_isDone_1470 (by decide) ?_
    obtain ⟨rfl, rfl⟩ := jretS h
    exact j_zretL (pc := 1474) (by decide) rfl dL_isDone_1474 (by decide) (by decide) rfl
def m_L_isDone_b1432 (a0 : Nat) (i15 : Int32) (i16 : Int32) (i17 : Int32) (i19 : Int32) (ws : LWd) : Option (Int32 × LWd) :=
  bn2 (calSR ws (m_L_does a0 10 i15 0 0 0 0 ws)) fun x3 w1 =>
  if i16 = 0 then
    m_L_isDone_b1466 x3 ((-2000000)) w1
  else
    if i19 = 0 then
      m_L_isDone_b1466 x3 ((-1000000)) w1
    else
      m_L_isDone_b1466 x3 i17 w1
set_option maxRecDepth 100000 in
set_option maxHeartbeats 4000000 in
theorem jm_L_isDone_b1432 {n0 : Nat} {rr : Int32} {ws' : LWd} (a0 : Nat) (i15 : Int32) (i16 : Int32) (i17 : Int32) (i19 : Int32) (ws : LWd) (h : m_L_isDone_b1432 a0 i15 i16 i17 i19 ws = some (rr, ws')) : JG (.inr none) cL_isDone 26 RL wsL_isDone (some .boolean) "isDone" 8 1 6 n0 (.inl (some (.int rr)), ws') 1432 [some (.ref a0), none, none, none, none, none, none, none, none, none, none, none, none, none, none, some (.int i15), some (.int i16), some (.int i17), none, some (.int i19), none, none, none, none, none, none] [] ws 0 0 := by
  unfold m_L_isDone_b1432 at h
  refine j_aload_n (pc := 1432) dL_isDone_1432 rfl ?_
  refine j_bipush (pc := 1433) dL_isDone_1433 (v := 10) (by decide) ?_
  refine j_iload (pc := 1435) dL_isDone_1435 rfl ?_
  refine j_iconst (pc := 1437) dL_isDone_1437 (v := 0) (by decide) ?_
  refine j_iconst (pc := 1438) dL_isDone_1438 (v := 0) (by decide) ?_
  refine j_iconst (pc := 1439) dL_isDone_1439 (v := 0) (by decide) ?_
  refine j_iconst (pc := 1440) dL_isDone_1440 (v := 0) (by decide) ?_
  obtain ⟨x3, w1, e2, h⟩ := obS2 h
  have ge2 := calSR_of e2
  refine j_callSW (pc := 1441) (As := [.ref a0, .int 10, .int i15, .int 0, .int 0, .int 0, .int 0]) (k' := 1) (n' := 6) dL_isDone_1441 (fun q h => by cases h) (s_L_does ge2.1) (jgS lw_657 lw_658 lw_597 lw_656) rfl hy_L_does rfl (by decide) (by decide) (Nat.le_of_ble_eq_true rfl) (by decide) (by decide) (by decide) (by decide) ge2.2 ?_
  refine j_iload (pc := 1444) dL_isDone_1444 rfl ?_
  refine j_if_ne (pc := 1446) (tgt := 1454) dL_isDone_1446 (by decide) (fun c4 => ?_) (fun c4 => ?_)
  · rw [if_neg c4] at h
    refine j_iload (pc := 1454) dL_isDone_1454 rfl ?_
    refine j_if_eq (pc := 1456) (tgt := 1464) dL_isDone_1456 (by decide) (fun c5 => ?_) (fun c5 => ?_)
    · rw [if_pos c5] at h
      refine j_ldc (pc := 1464) dL_isDone_1464 (v := (-1000000)) (jwm lw_530) ?_
      refine j_mask [false, false, false, false, false, false, false, false, false, false, false, false, false, false, false, false, false, false, false, false, false, false, false, false, false, false] ?_
      exact jm_L_isDone_b1466 _ _ w1 h
    · rw [if_neg c5] at h
      refine j_iload (pc := 1459) dL_isDone_1459 rfl ?_
      refine j_goto (pc := 1461) (tgt := 1466) dL_isDone_1461 (by decide) ?_
      refine j_mask [false, false, false, false, false, false, false, false, false, false, false, false, false, false, false, false, false, false, false, false, false, false, false, false, false, false] ?_
      exact jm_L_isDone_b1466 _ _ w1 h
  · rw [if_pos c4] at h
    refine j_ldc (pc := 1449) dL_isDone_1449 (v := (-2000000)) (jwm lw_528) ?_
    refine j_goto (pc := 1451) (tgt := 1466) dL_isDone_1451 (by decide) ?_
    refine j_mask [false, false, false, false, false, false, false, false, false, false, false, false, false, false, false, false, false, false, false, false, false, false, false, false, false, false] ?_
    exact jm_L_isDone_b1466 _ _ w1 h
def m_L_isDone_b1428 (k1153 : Nat → Nat → Nat → Nat → Nat → Nat → Nat → Nat → Nat → Nat → Int32 → Int32 → Int32 → Int32 → Int32 → LWd → Option (Int32 × LWd)) (a0 : Nat) (a1 : Nat) (a2 : Nat) (a3 : Nat) (a4 : Nat) (a5 : Nat) (a6 : Nat) (a7 : Nat) (a8 : Nat) (a9 : Nat) (i15 : Int32) (i16 : Int32) (i17 : Int32) (i18 : Int32) (i19 : Int32) (s0 : Nat) (s1 : Int32) (s2 : Int32) (ws : LWd) : Option (Int32 × LWd) :=
  (sI ws s0 s1 s2).bind fun w1 =>
  k1153 a0 a1 a2 a3 a4 a5 a6 a7 a8 a9 i15 i16 i17 i18 i19 w1
set_option maxRecDepth 100000 in
set_option maxHeartbeats 4000000 in
theorem jm_L_isDone_b1428 {n0 : Nat} {rr : Int32} {ws' : LWd} {k1153 : Nat → Nat → Nat → Nat → Nat → Nat → Nat → Nat → Nat → Nat → Int32 → Int32 → Int32 → Int32 → Int32 → LWd → Option (Int32 × LWd)} (hk1153 : ∀ (a0 : Nat) (a1 : Nat) (a2 : Nat) (a3 : Nat) (a4 : Nat) (a5 : Nat) (a6 : Nat) (a7 : Nat) (a8 : Nat) (a9 : Nat) (i15 : Int32) (i16 : Int32) (i17 : Int32) (i18 : Int32) (i19 : Int32) (ws : LWd), k1153 a0 a1 a2 a3 a4 a5 a6 a7 a8 a9 i15 i16 i17 i18 i19 ws = some (rr, ws') → JG (.inr none) cL_isDone 26 RL wsL_isDone (some .boolean) "isDone" 8 1 6 n0 (.inl (some (.int rr)), ws') 1153 [some (.ref a0), some (.ref a1), some (.ref a2), some (.ref a3), some (.ref a4), some (.ref a5), some (.ref a6), some (.ref a7), some (.ref a8), some (.ref a9), none, none, none, none, none, some (.int i15), some (.int i16), some (.int i17), some (.int i18), some (.int i19), none, none, none, none, none, none] [] ws 0 0) (a0 : Nat) (a1 : Nat) (a2 : Nat) (a3 : Nat) (a4 : Nat) (a5 : Nat) (a6 : Nat) (a7 : Nat) (a8 : Nat) (a9 : Nat) (i15 : Int32) (i16 : Int32) (i17 : Int32) (i18 : Int32) (i19 : Int32) (s0 : Nat) (s1 : Int32) (s2 : Int32) (ws : LWd) (h : m_L_isDone_b1428 k1153 a0 a1 a2 a3 a4 a5 a6 a7 a8 a9 i15 i16 i17 i18 i19 s0 s1 s2 ws = some (rr, ws')) : JG (.inr none) cL_isDone 26 RL wsL_isDone (some .boolean) "isDone" 8 1 6 n0 (.inl (some (.int rr)), ws') 1428 [some (.ref a0), some (.ref a1), some (.ref a2), some (.ref a3), some (.ref a4), some (.ref a5), some (.ref a6), some (.ref a7), some (.ref a8), some (.ref a9), none, none, none, none, none, some (.int i15), some (.int i16), some (.int i17), some (.int i18), some (.int i19), none, none, none, none, none, none] [.int s2, .int s1, .ref s0] ws 0 0 := by
  unfold m_L_isDone_b1428 at h
  obtain ⟨w1, e2, h⟩ := obS h
  refine j_iast (pc := 1428) dL_isDone_1428 e2 ?_
  refine j_goto (pc := 1429) (tgt := 1153) dL_isDone_1429 (by decide) ?_
  exact hk1153 _ _ _ _ _ _ _ _ _ _ _ _ _ _ _ w1 h
def m_L_isDone_b1395 (k1153 : Nat → Nat → Nat → Nat → Nat → Nat → Nat → Nat → Nat → Nat → Int32 → Int32 → Int32 → Int32 → Int32 → LWd → Option (Int32 × LWd)) (a0 : Nat) (a1 : Nat) (a2 : Nat) (a3 : Nat) (a4 : Nat) (a5 : Nat) (a6 : Nat) (a7 : Nat) (a8 : Nat) (a9 : Nat) (i15 : Int32) (i16 : Int32) (i18 : Int32) (i19 : Int32) (s0 : Int32) (s1 : Int32) (ws : LWd) : Option (Int32 × LWd) :=
  if i18 = 0 then
    (aI ws a9 13).bind fun x2 =>
    m_L_isDone_b1428 k1153 a0 a1 a2 a3 a4 a5 a6 a7 a8 a9 i15 i16 (s0 + s1) i18 i19 a9 13 x2 ws
  else
    (aI ws a9 13).bind fun x4 =>
    (aI ws a9 12).bind fun x6 =>
    if x6 = 0 then none else
    m_L_isDone_b1428 k1153 a0 a1 a2 a3 a4 a5 a6 a7 a8 a9 i15 i16 (s0 + s1) i18 i19 a9 13 (jrem (x4 + 1) x6) ws
set_option maxRecDepth 100000 in
set_option maxHeartbeats 4000000 in
theorem jm_L_isDone_b1395 {n0 : Nat} {rr : Int32} {ws' : LWd} {k1153 : Nat → Nat → Nat → Nat → Nat → Nat → Nat → Nat → Nat → Nat → Int32 → Int32 → Int32 → Int32 → Int32 → LWd → Option (Int32 × LWd)} (hk1153 : ∀ (a0 : Nat) (a1 : Nat) (a2 : Nat) (a3 : Nat) (a4 : Nat) (a5 : Nat) (a6 : Nat) (a7 : Nat) (a8 : Nat) (a9 : Nat) (i15 : Int32) (i16 : Int32) (i17 : Int32) (i18 : Int32) (i19 : Int32) (ws : LWd), k1153 a0 a1 a2 a3 a4 a5 a6 a7 a8 a9 i15 i16 i17 i18 i19 ws = some (rr, ws') → JG (.inr none) cL_isDone 26 RL wsL_isDone (some .boolean) "isDone" 8 1 6 n0 (.inl (some (.int rr)), ws') 1153 [some (.ref a0), some (.ref a1), some (.ref a2), some (.ref a3), some (.ref a4), some (.ref a5), some (.ref a6), some (.ref a7), some (.ref a8), some (.ref a9), none, none, none, none, none, some (.int i15), some (.int i16), some (.int i17), some (.int i18), some (.int i19), none, none, none, none, none, none] [] ws 0 0) (a0 : Nat) (a1 : Nat) (a2 : Nat) (a3 : Nat) (a4 : Nat) (a5 : Nat) (a6 : Nat) (a7 : Nat) (a8 : Nat) (a9 : Nat) (i15 : Int32) (i16 : Int32) (i18 : Int32) (i19 : Int32) (s0 : Int32) (s1 : Int32) (ws : LWd) (h : m_L_isDone_b1395 k1153 a0 a1 a2 a3 a4 a5 a6 a7 a8 a9 i15 i16 i18 i19 s0 s1 ws = some (rr, ws')) : JG (.inr none) cL_isDone 26 RL wsL_isDone (some .boolean) "isDone" 8 1 6 n0 (.inl (some (.int rr)), ws') 1395 [some (.ref a0), some (.ref a1), some (.ref a2), some (.ref a3), some (.ref a4), some (.ref a5), some (.ref a6), some (.ref a7), some (.ref a8), some (.ref a9), none, none, none, none, none, some (.int i15), some (.int i16), none, some (.int i18), some (.int i19), none, none, none, none, none, none] [.int s1, .int s0] ws 0 0 := by
  unfold m_L_isDone_b1395 at h
  refine j_iadd (pc := 1395) dL_isDone_1395 ?_
  refine j_istore_17 (pc := 1396) dL_isDone_1396 (by decide) rfl ?_
  refine j_aload (pc := 1398) dL_isDone_1398 rfl ?_
  refine j_bipush (pc := 1400) dL_isDone_1400 (v := 13) (by decide) ?_
  refine j_iload (pc := 1402) dL_isDone_1402 rfl ?_
  refine j_if_eq (pc := 1404) (tgt := 1423) dL_isDone_1404 (by decide) (fun c1 => ?_) (fun c1 => ?_)
  · rw [if_pos c1] at h
    refine j_aload (pc := 1423) dL_isDone_1423 rfl ?_
    refine j_bipush (pc := 1425) dL_isDone_1425 (v := 13) (by decide) ?_
    obtain ⟨x2, e3, h⟩ := obS h
    refine j_iald (pc := 1427) dL_isDone_1427 e3 ?_
    exact jm_L_isDone_b1428 (hk1153 := hk1153) _ _ _ _ _ _ _ _ _ _ _ _ _ _ _ _ _ _ ws h
  · rw [if_neg c1] at h
    refine j_aload (pc := 1407) dL_isDone_1407 rfl ?_
    refine j_bipush (pc := 1409) dL_isDone_1409 (v := 13) (by decide) ?_
    obtain ⟨x4, e5, h⟩ := obS h
    refine j_iald (pc := 1411) dL_isDone_1411 e5 ?_
    refine j_iconst (pc := 1412) dL_isDone_1412 (v := 1) (by decide) ?_
    refine j_iadd (pc := 1413) dL_isDone_1413 ?_
    refine j_aload (pc := 1414) dL_isDone_1414 rfl ?_
    refine j_bipush (pc := 1416) dL_isDone_1416 (v := 12) (by decide) ?_
    obtain ⟨x6, e7, h⟩ := obS h
    refine j_iald (pc := 1418) dL_isDone_1418 e7 ?_
    have c8 := jneS h
    rw [if_neg c8] at h
    refine j_irem (pc := 1419) dL_isDone_1419 c8 ?_
    refine j_goto (pc := 1420) (tgt := 1428) dL_isDone_1420 (by decide) ?_
    exact jm_L_isDone_b1428 (hk1153 := hk1153) _ _ _ _ _ _ _ _ _ _ _ _ _ _ _ _ _ _ ws h
def m_L_isDone_b1381 (k1153 : Nat → Nat → Nat → Nat → Nat → Nat → Nat → Nat → Nat → Nat → Int32 → Int32 → Int32 → Int32 → Int32 → LWd → Option (Int32 × LWd)) (a0 : Nat) (a1 : Nat) (a2 : Nat) (a3 : Nat) (a4 : Nat) (a5 : Nat) (a6 : Nat) (a7 : Nat) (a8 : Nat) (a9 : Nat) (i15 : Int32) (i16 : Int32) (i17 : Int32) (i19 : Int32) (s0 : Int32) (ws : LWd) : Option (Int32 × LWd) :=
  if s0 = 0 then
    m_L_isDone_b1395 k1153 a0 a1 a2 a3 a4 a5 a6 a7 a8 a9 i15 i16 s0 i19 i17 0 ws
  else
    m_L_isDone_b1395 k1153 a0 a1 a2 a3 a4 a5 a6 a7 a8 a9 i15 i16 s0 i19 i17 1 ws
set_option maxRecDepth 100000 in
set_option maxHeartbeats 4000000 in
theorem jm_L_isDone_b1381 {n0 : Nat} {rr : Int32} {ws' : LWd} {k1153 : Nat → Nat → Nat → Nat → Nat → Nat → Nat → Nat → Nat → Nat → Int32 → Int32 → Int32 → Int32 → Int32 → LWd → Option (Int32 × LWd)} (hk1153 : ∀ (a0 : Nat) (a1 : Nat) (a2 : Nat) (a3 : Nat) (a4 : Nat) (a5 : Nat) (a6 : Nat) (a7 : Nat) (a8 : Nat) (a9 : Nat) (i15 : Int32) (i16 : Int32) (i17 : Int32) (i18 : Int32) (i19 : Int32) (ws : LWd), k1153 a0 a1 a2 a3 a4 a5 a6 a7 a8 a9 i15 i16 i17 i18 i19 ws = some (rr, ws') → JG (.inr none) cL_isDone 26 RL wsL_isDone (some .boolean) "isDone" 8 1 6 n0 (.inl (some (.int rr)), ws') 1153 [some (.ref a0), some (.ref a1), some (.ref a2), some (.ref a3), some (.ref a4), some (.ref a5), some (.ref a6), some (.ref a7), some (.ref a8), some (.ref a9), none, none, none, none, none, some (.int i15), some (.int i16), some (.int i17), some (.int i18), some (.int i19), none, none, none, none, none, none] [] ws 0 0) (a0 : Nat) (a1 : Nat) (a2 : Nat) (a3 : Nat) (a4 : Nat) (a5 : Nat) (a6 : Nat) (a7 : Nat) (a8 : Nat) (a9 : Nat) (i15 : Int32) (i16 : Int32) (i17 : Int32) (i19 : Int32) (s0 : Int32) (ws : LWd) (h : m_L_isDone_b1381 k1153 a0 a1 a2 a3 a4 a5 a6 a7 a8 a9 i15 i16 i17 i19 s0 ws = some (rr, ws')) : JG (.inr none) cL_isDone 26 RL wsL_isDone (some .boolean) "isDone" 8 1 6 n0 (.inl (some (.int rr)), ws') 1381 [some (.ref a0), some (.ref a1), some (.ref a2), some (.ref a3), some (.ref a4), some (.ref a5), some (.ref a6), some (.ref a7), some (.ref a8), some (.ref a9), none, none, none, none, none, some (.int i15), some (.int i16), some (.int i17), none, some (.int i19), none, none, none, none, none, none] [.int s0] ws 0 0 := by
  unfold m_L_isDone_b1381 at h
  refine j_istore_18 (pc := 1381) dL_isDone_1381 (by decide) rfl ?_
  refine j_iload (pc := 1383) dL_isDone_1383 rfl ?_
  refine j_iload (pc := 1385) dL_isDone_1385 rfl ?_
  refine j_if_eq (pc := 1387) (tgt := 1394) dL_isDone_1387 (by decide) (fun c1 => ?_) (fun c1 => ?_)
  · rw [if_pos c1] at h
    refine j_iconst (pc := 1394) dL_isDone_1394 (v := 0) (by decide) ?_
    refine j_mask [true, true, true, true, true, true, true, true, true, true, false, false, false, false, false, true, true, false, true, true, false, false, false, false, false, false] ?_
    exact jm_L_isDone_b1395 (hk1153 := hk1153) _ _ _ _ _ _ _ _ _ _ _ _ _ _ _ _ ws h
  · rw [if_neg c1] at h
    refine j_iconst (pc := 1390) dL_isDone_1390 (v := 1) (by decide) ?_
    refine j_goto (pc := 1391) (tgt := 1395) dL_isDone_1391 (by decide) ?_
    refine j_mask [true, true, true, true, true, true, true, true, true, true, false, false, false, false, false, true, true, false, true, true, false, false, false, false, false, false] ?_
    exact jm_L_isDone_b1395 (hk1153 := hk1153) _ _ _ _ _ _ _ _ _ _ _ _ _ _ _ _ ws h
def m_L_isDone_b1380 (k1153 : Nat → Nat → Nat → Nat → Nat → Nat → Nat → Nat → Nat → Nat → Int32 → Int32 → Int32 → Int32 → Int32 → LWd → Option (Int32 × LWd)) (a0 : Nat) (a1 : Nat) (a2 : Nat) (a3 : Nat) (a4 : Nat) (a5 : Nat) (a6 : Nat) (a7 : Nat) (a8 : Nat) (a9 : Nat) (i15 : Int32) (i16 : Int32) (i17 : Int32) (i19 : Int32) (ws : LWd) : Option (Int32 × LWd) :=
  m_L_isDone_b1381 k1153 a0 a1 a2 a3 a4 a5 a6 a7 a8 a9 i15 i16 i17 i19 0 ws
set_option maxRecDepth 100000 in
set_option maxHeartbeats 4000000 in
theorem jm_L_isDone_b1380 {n0 : Nat} {rr : Int32} {ws' : LWd} {k1153 : Nat → Nat → Nat → Nat → Nat → Nat → Nat → Nat → Nat → Nat → Int32 → Int32 → Int32 → Int32 → Int32 → LWd → Option (Int32 × LWd)} (hk1153 : ∀ (a0 : Nat) (a1 : Nat) (a2 : Nat) (a3 : Nat) (a4 : Nat) (a5 : Nat) (a6 : Nat) (a7 : Nat) (a8 : Nat) (a9 : Nat) (i15 : Int32) (i16 : Int32) (i17 : Int32) (i18 : Int32) (i19 : Int32) (ws : LWd), k1153 a0 a1 a2 a3 a4 a5 a6 a7 a8 a9 i15 i16 i17 i18 i19 ws = some (rr, ws') → JG (.inr none) cL_isDone 26 RL wsL_isDone (some .boolean) "isDone" 8 1 6 n0 (.inl (some (.int rr)), ws') 1153 [some (.ref a0), some (.ref a1), some (.ref a2), some (.ref a3), some (.ref a4), some (.ref a5), some (.ref a6), some (.ref a7), some (.ref a8), some (.ref a9), none, none, none, none, none, some (.int i15), some (.int i16), some (.int i17), some (.int i18), some (.int i19), none, none, none, none, none, none] [] ws 0 0) (a0 : Nat) (a1 : Nat) (a2 : Nat) (a3 : Nat) (a4 : Nat) (a5 : Nat) (a6 : Nat) (a7 : Nat) (a8 : Nat) (a9 : Nat) (i15 : Int32) (i16 : Int32) (i17 : Int32) (i19 : Int32) (ws : LWd) (h : m_L_isDone_b1380 k1153 a0 a1 a2 a3 a4 a5 a6 a7 a8 a9 i15 i16 i17 i19 ws = some (rr, ws')) : JG (.inr none) cL_isDone 26 RL wsL_isDone (some .boolean) "isDone" 8 1 6 n0 (.inl (some (.int rr)), ws') 1380 [some (.ref a0), some (.ref a1), some (.ref a2), some (.ref a3), some (.ref a4), some (.ref a5), some (.ref a6), some (.ref a7), some (.ref a8), some (.ref a9), none, none, none, none, none, some (.int i15), some (.int i16), some (.int i17), none, some (.int i19), none, none, none, none, none, none] [] ws 0 0 := by
  unfold m_L_isDone_b1380 at h
  refine j_iconst (pc := 1380) dL_isDone_1380 (v := 0) (by decide) ?_
  exact jm_L_isDone_b1381 (hk1153 := hk1153) _ _ _ _ _ _ _ _ _ _ _ _ _ _ _ ws h
def m_L_isDone_b1376 (k1153 : Nat → Nat → Nat → Nat → Nat → Nat → Nat → Nat → Nat → Nat → Int32 → Int32 → Int32 → Int32 → Int32 → LWd → Option (Int32 × LWd)) (a0 : Nat) (a1 : Nat) (a2 : Nat) (a3 : Nat) (a4 : Nat) (a5 : Nat) (a6 : Nat) (a7 : Nat) (a8 : Nat) (a9 : Nat) (i15 : Int32) (i16 : Int32) (i17 : Int32) (i19 : Int32) (ws : LWd) : Option (Int32 × LWd) :=
  m_L_isDone_b1381 k1153 a0 a1 a2 a3 a4 a5 a6 a7 a8 a9 i15 i16 i17 i19 1 ws
set_option maxRecDepth 100000 in
set_option maxHeartbeats 4000000 in
theorem jm_L_isDone_b1376 {n0 : Nat} {rr : Int32} {ws' : LWd} {k1153 : Nat → Nat → Nat → Nat → Nat → Nat → Nat → Nat → Nat → Nat → Int32 → Int32 → Int32 → Int32 → Int32 → LWd → Option (Int32 × LWd)} (hk1153 : ∀ (a0 : Nat) (a1 : Nat) (a2 : Nat) (a3 : Nat) (a4 : Nat) (a5 : Nat) (a6 : Nat) (a7 : Nat) (a8 : Nat) (a9 : Nat) (i15 : Int32) (i16 : Int32) (i17 : Int32) (i18 : Int32) (i19 : Int32) (ws : LWd), k1153 a0 a1 a2 a3 a4 a5 a6 a7 a8 a9 i15 i16 i17 i18 i19 ws = some (rr, ws') → JG (.inr none) cL_isDone 26 RL wsL_isDone (some .boolean) "isDone" 8 1 6 n0 (.inl (some (.int rr)), ws') 1153 [some (.ref a0), some (.ref a1), some (.ref a2), some (.ref a3), some (.ref a4), some (.ref a5), some (.ref a6), some (.ref a7), some (.ref a8), some (.ref a9), none, none, none, none, none, some (.int i15), some (.int i16), some (.int i17), some (.int i18), some (.int i19), none, none, none, none, none, none] [] ws 0 0) (a0 : Nat) (a1 : Nat) (a2 : Nat) (a3 : Nat) (a4 : Nat) (a5 : Nat) (a6 : Nat) (a7 : Nat) (a8 : Nat) (a9 : Nat) (i15 : Int32) (i16 : Int32) (i17 : Int32) (i19 : Int32) (ws : LWd) (h : m_L_isDone_b1376 k1153 a0 a1 a2 a3 a4 a5 a6 a7 a8 a9 i15 i16 i17 i19 ws = some (rr, ws')) : JG (.inr none) cL_isDone 26 RL wsL_isDone (some .boolean) "isDone" 8 1 6 n0 (.inl (some (.int rr)), ws') 1376 [some (.ref a0), some (.ref a1), some (.ref a2), some (.ref a3), some (.ref a4), some (.ref a5), some (.ref a6), some (.ref a7), some (.ref a8), some (.ref a9), none, none, none, none, none, some (.int i15), some (.int i16), some (.int i17), none, some (.int i19), none, none, none, none, none, none] [] ws 0 0 := by
  unfold m_L_isDone_b1376 at h
  refine j_iconst (pc := 1376) dL_isDone_1376 (v := 1) (by decide) ?_
  refine j_goto (pc := 1377) (tgt := 1381) dL_isDone_1377 (by decide) ?_
  exact jm_L_isDone_b1381 (hk1153 := hk1153) _ _ _ _ _ _ _ _ _ _ _ _ _ _ _ ws h
def m_L_isDone_b1346 (k1153 : Nat → Nat → Nat → Nat → Nat → Nat → Nat → Nat → Nat → Nat → Int32 → Int32 → Int32 → Int32 → Int32 → LWd → Option (Int32 × LWd)) (a0 : Nat) (a1 : Nat) (a2 : Nat) (a3 : Nat) (a4 : Nat) (a5 : Nat) (a6 : Nat) (a7 : Nat) (a8 : Nat) (a9 : Nat) (i15 : Int32) (i16 : Int32) (i17 : Int32) (i19 : Int32) (i24 : Int32) (i25 : Int32) (ws : LWd) : Option (Int32 × LWd) :=
  bn2 (calSR ws (m_L_shifts a1 a3 a4 a5 a6 a8 a9 i24 i25 ws)) fun x3 w1 =>
  if x3 = 0 then
    m_L_isDone_b1380 k1153 a0 a1 a2 a3 a4 a5 a6 a7 a8 a9 i15 i16 i17 i19 w1
  else
    (aI w1 a9 14).bind fun x5 =>
    if x5 = 0 then
      m_L_isDone_b1376 k1153 a0 a1 a2 a3 a4 a5 a6 a7 a8 a9 i15 i16 i17 i19 w1
    else
      m_L_isDone_b1380 k1153 a0 a1 a2 a3 a4 a5 a6 a7 a8 a9 i15 i16 i17 i19 w1
set_option maxRecDepth 100000 in
set_option maxHeartbeats 4000000 in
theorem jm_L_isDone_b1346 {n0 : Nat} {rr : Int32} {ws' : LWd} {k1153 : Nat → Nat → Nat → Nat → Nat → Nat → Nat → Nat → Nat → Nat → Int32 → Int32 → Int32 → Int32 → Int32 → LWd → Option (Int32 × LWd)} (hk1153 : ∀ (a0 : Nat) (a1 : Nat) (a2 : Nat) (a3 : Nat) (a4 : Nat) (a5 : Nat) (a6 : Nat) (a7 : Nat) (a8 : Nat) (a9 : Nat) (i15 : Int32) (i16 : Int32) (i17 : Int32) (i18 : Int32) (i19 : Int32) (ws : LWd), k1153 a0 a1 a2 a3 a4 a5 a6 a7 a8 a9 i15 i16 i17 i18 i19 ws = some (rr, ws') → JG (.inr none) cL_isDone 26 RL wsL_isDone (some .boolean) "isDone" 8 1 6 n0 (.inl (some (.int rr)), ws') 1153 [some (.ref a0), some (.ref a1), some (.ref a2), some (.ref a3), some (.ref a4), some (.ref a5), some (.ref a6), some (.ref a7), some (.ref a8), some (.ref a9), none, none, none, none, none, some (.int i15), some (.int i16), some (.int i17), some (.int i18), some (.int i19), none, none, none, none, none, none] [] ws 0 0) (a0 : Nat) (a1 : Nat) (a2 : Nat) (a3 : Nat) (a4 : Nat) (a5 : Nat) (a6 : Nat) (a7 : Nat) (a8 : Nat) (a9 : Nat) (i15 : Int32) (i16 : Int32) (i17 : Int32) (i19 : Int32) (i24 : Int32) (i25 : Int32) (ws : LWd) (h : m_L_isDone_b1346 k1153 a0 a1 a2 a3 a4 a5 a6 a7 a8 a9 i15 i16 i17 i19 i24 i25 ws = some (rr, ws')) : JG (.inr none) cL_isDone 26 RL wsL_isDone (some .boolean) "isDone" 8 1 6 n0 (.inl (some (.int rr)), ws') 1346 [some (.ref a0), some (.ref a1), some (.ref a2), some (.ref a3), some (.ref a4), some (.ref a5), some (.ref a6), some (.ref a7), some (.ref a8), some (.ref a9), none, none, none, none, none, some (.int i15), some (.int i16), some (.int i17), none, some (.int i19), none, none, none, none, some (.int i24), some (.int i25)] [] ws 0 0 := by
  unfold m_L_isDone_b1346 at h
  refine j_aload_n (pc := 1346) dL_isDone_1346 rfl ?_
  refine j_aload_n (pc := 1347) dL_isDone_1347 rfl ?_
  refine j_aload (pc := 1348) dL_isDone_1348 rfl ?_
  refine j_aload (pc := 1350) dL_isDone_1350 rfl ?_
  refine j_aload (pc := 1352) dL_isDone_1352 rfl ?_
  refine j_aload (pc := 1354) dL_isDone_1354 rfl ?_
  refine j_aload (pc := 1356) dL_isDone_1356 rfl ?_
  refine j_iload (pc := 1358) dL_isDone_1358 rfl ?_
  refine j_iload (pc := 1360) dL_isDone_1360 rfl ?_
  obtain ⟨x3, w1, e2, h⟩ := obS2 h
  have ge2 := calSR_of e2
  refine j_callS_g (pc := 1362) (As := [.ref a1, .ref a3, .ref a4, .ref a5, .ref a6, .ref a8, .ref a9, .int i24, .int i25]) (k' := 0) (n' := 0) dL_isDone_1362 (s_L_shifts ge2.1) (jgS lw_703 lw_704 lw_597 lw_702) rfl hy_L_shifts rfl (by decide) (by decide) (Nat.le_of_ble_eq_true rfl) (by decide) (by decide) (by decide) (by decide) (Or.inl ge2.2) ?_
  refine j_if_eq (pc := 1365) (tgt := 1380) dL_isDone_1365 (by decide) (fun c4 => ?_) (fun c4 => ?_)
  · rw [if_pos c4] at h
    refine j_mask [true, true, true, true, true, true, true, true, true, true, false, false, false, false, false, true, true, true, false, true, false, false, false, false, false, false] ?_
    exact jm_L_isDone_b1380 (hk1153 := hk1153) _ _ _ _ _ _ _ _ _ _ _ _ _ _ w1 h
  · rw [if_neg c4] at h
    refine j_aload (pc := 1368) dL_isDone_1368 rfl ?_
    refine j_bipush (pc := 1370) dL_isDone_1370 (v := 14) (by decide) ?_
    obtain ⟨x5, e6, h⟩ := obS h
    refine j_iald (pc := 1372) dL_isDone_1372 e6 ?_
    refine j_if_ne (pc := 1373) (tgt := 1380) dL_isDone_1373 (by decide) (fun c7 => ?_) (fun c7 => ?_)
    · rw [if_neg c7] at h
      refine j_mask [true, true, true, true, true, true, true, true, true, true, false, false, false, false, false, true, true, true, false, true, false, false, false, false, false, false] ?_
      exact jm_L_isDone_b1380 (hk1153 := hk1153) _ _ _ _ _ _ _ _ _ _ _ _ _ _ w1 h
    · rw [if_pos c7] at h
      refine j_mask [true, true, true, true, true, true, true, true, true, true, false, false, false, false, false, true, true, true, false, true, false, false, false, false, false, false] ?_
      exact jm_L_isDone_b1376 (hk1153 := hk1153) _ _ _ _ _ _ _ _ _ _ _ _ _ _ w1 h
def m_L_isDone_b1329 (k1153 : Nat → Nat → Nat → Nat → Nat → Nat → Nat → Nat → Nat → Nat → Int32 → Int32 → Int32 → Int32 → Int32 → LWd → Option (Int32 × LWd)) (a0 : Nat) (a1 : Nat) (a2 : Nat) (a3 : Nat) (a4 : Nat) (a5 : Nat) (a6 : Nat) (a7 : Nat) (a8 : Nat) (a9 : Nat) (i15 : Int32) (i16 : Int32) (i17 : Int32) (i19 : Int32) (i24 : Int32) (i25 : Int32) (s0 : Int32) (ws : LWd) : Option (Int32 × LWd) :=
  if s0 = 0 then
    m_L_isDone_b1380 k1153 a0 a1 a2 a3 a4 a5 a6 a7 a8 a9 i15 i16 i17 i19 ws
  else
    if i24 = 0 then
      if i25 = 0 then
        m_L_isDone_b1376 k1153 a0 a1 a2 a3 a4 a5 a6 a7 a8 a9 i15 i16 i17 i19 ws
      else
        m_L_isDone_b1346 k1153 a0 a1 a2 a3 a4 a5 a6 a7 a8 a9 i15 i16 i17 i19 i24 i25 ws
    else
      m_L_isDone_b1346 k1153 a0 a1 a2 a3 a4 a5 a6 a7 a8 a9 i15 i16 i17 i19 i24 i25 ws
set_option maxRecDepth 100000 in
set_option maxHeartbeats 4000000 in
theorem jm_L_isDone_b1329 {n0 : Nat} {rr : Int32} {ws' : LWd} {k1153 : Nat → Nat → Nat → Nat → Nat → Nat → Nat → Nat → Nat → Nat → Int32 → Int32 → Int32 → Int32 → Int32 → LWd → Option (Int32 × LWd)} (hk1153 : ∀ (a0 : Nat) (a1 : Nat) (a2 : Nat) (a3 : Nat) (a4 : Nat) (a5 : Nat) (a6 : Nat) (a7 : Nat) (a8 : Nat) (a9 : Nat) (i15 : Int32) (i16 : Int32) (i17 : Int32) (i18 : Int32) (i19 : Int32) (ws : LWd), k1153 a0 a1 a2 a3 a4 a5 a6 a7 a8 a9 i15 i16 i17 i18 i19 ws = some (rr, ws') → JG (.inr none) cL_isDone 26 RL wsL_isDone (some .boolean) "isDone" 8 1 6 n0 (.inl (some (.int rr)), ws') 1153 [some (.ref a0), some (.ref a1), some (.ref a2), some (.ref a3), some (.ref a4), some (.ref a5), some (.ref a6), some (.ref a7), some (.ref a8), some (.ref a9), none, none, none, none, none, some (.int i15), some (.int i16), some (.int i17), some (.int i18), some (.int i19), none, none, none, none, none, none] [] ws 0 0) (a0 : Nat) (a1 : Nat) (a2 : Nat) (a3 : Nat) (a4 : Nat) (a5 : Nat) (a6 : Nat) (a7 : Nat) (a8 : Nat) (a9 : Nat) (i15 : Int32) (i16 : Int32) (i17 : Int32) (i19 : Int32) (i24 : Int32) (i25 : Int32) (s0 : Int32) (ws : LWd) (h : m_L_isDone_b1329 k1153 a0 a1 a2 a3 a4 a5 a6 a7 a8 a9 i15 i16 i17 i19 i24 i25 s0 ws = some (rr, ws')) : JG (.inr none) cL_isDone 26 RL wsL_isDone (some .boolean) "isDone" 8 1 6 n0 (.inl (some (.int rr)), ws') 1329 [some (.ref a0), some (.ref a1), some (.ref a2), some (.ref a3), some (.ref a4), some (.ref a5), some (.ref a6), some (.ref a7), some (.ref a8), some (.ref a9), none, none, none, none, none, some (.int i15), some (.int i16), some (.int i17), none, some (.int i19), none, none, none, none, some (.int i24), some (.int i25)] [.int s0] ws 0 0 := by
  unfold m_L_isDone_b1329 at h
  refine j_istore_18 (pc := 1329) dL_isDone_1329 (by decide) rfl ?_
  refine j_iload (pc := 1331) dL_isDone_1331 rfl ?_
  refine j_if_eq (pc := 1333) (tgt := 1380) dL_isDone_1333 (by decide) (fun c1 => ?_) (fun c1 => ?_)
  · rw [if_pos c1] at h
    refine j_mask [true, true, true, true, true, true, true, true, true, true, false, false, false, false, false, true, true, true, false, true, false, false, false, false, false, false] ?_
    exact jm_L_isDone_b1380 (hk1153 := hk1153) _ _ _ _ _ _ _ _ _ _ _ _ _ _ ws h
  · rw [if_neg c1] at h
    refine j_iload (pc := 1336) dL_isDone_1336 rfl ?_
    refine j_if_ne (pc := 1338) (tgt := 1346) dL_isDone_1338 (by decide) (fun c2 => ?_) (fun c2 => ?_)
    · rw [if_neg c2] at h
      refine j_mask [true, true, true, true, true, true, true, true, true, true, false, false, false, false, false, true, true, true, false, true, false, false, false, false, true, true] ?_
      exact jm_L_isDone_b1346 (hk1153 := hk1153) _ _ _ _ _ _ _ _ _ _ _ _ _ _ _ _ ws h
    · rw [if_pos c2] at h
      refine j_iload (pc := 1341) dL_isDone_1341 rfl ?_
      refine j_if_eq (pc := 1343) (tgt := 1376) dL_isDone_1343 (by decide) (fun c3 => ?_) (fun c3 => ?_)
      · rw [if_pos c3] at h
        refine j_mask [true, true, true, true, true, true, true, true, true, true, false, false, false, false, false, true, true, true, false, true, false, false, false, false, false, false] ?_
        exact jm_L_isDone_b1376 (hk1153 := hk1153) _ _ _ _ _ _ _ _ _ _ _ _ _ _ ws h
      · rw [if_neg c3] at h
        refine j_mask [true, true, true, true, true, true, true, true, true, true, false, false, false, false, false, true, true, true, false, true, false, false, false, false, true, true] ?_
        exact jm_L_isDone_b1346 (hk1153 := hk1153) _ _ _ _ _ _ _ _ _ _ _ _ _ _ _ _ ws h
def m_L_isDone_b1328 (k1153 : Nat → Nat → Nat → Nat → Nat → Nat → Nat → Nat → Nat → Nat → Int32 → Int32 → Int32 → Int32 → Int32 → LWd → Option (Int32 × LWd)) (a0 : Nat) (a1 : Nat) (a2 : Nat) (a3 : Nat) (a4 : Nat) (a5 : Nat) (a6 : Nat) (a7 : Nat) (a8 : Nat) (a9 : Nat) (i15 : Int32) (i16 : Int32) (i17 : Int32) (i19 : Int32) (i24 : Int32) (i25 : Int32) (ws : LWd) : Option (Int32 × LWd) :=
  m_L_isDone_b1329 k1153 a0 a1 a2 a3 a4 a5 a6 a7 a8 a9 i15 i16 i17 i19 i24 i25 0 ws
set_option maxRecDepth 100000 in
set_option maxHeartbeats 4000000 in
theorem jm_L_isDone_b1328 {n0 : Nat} {rr : Int32} {ws' : LWd} {k1153 : Nat → Nat → Nat → Nat → Nat → Nat → Nat → Nat → Nat → Nat → Int32 → Int32 → Int32 → Int32 → Int32 → LWd → Option (Int32 × LWd)} (hk1153 : ∀ (a0 : Nat) (a1 : Nat) (a2 : Nat) (a3 : Nat) (a4 : Nat) (a5 : Nat) (a6 : Nat) (a7 : Nat) (a8 : Nat) (a9 : Nat) (i15 : Int32) (i16 : Int32) (i17 : Int32) (i18 : Int32) (i19 : Int32) (ws : LWd), k1153 a0 a1 a2 a3 a4 a5 a6 a7 a8 a9 i15 i16 i17 i18 i19 ws = some (rr, ws') → JG (.inr none) cL_isDone 26 RL wsL_isDone (some .boolean) "isDone" 8 1 6 n0 (.inl (some (.int rr)), ws') 1153 [some (.ref a0), some (.ref a1), some (.ref a2), some (.ref a3), some (.ref a4), some (.ref a5), some (.ref a6), some (.ref a7), some (.ref a8), some (.ref a9), none, none, none, none, none, some (.int i15), some (.int i16), some (.int i17), some (.int i18), some (.int i19), none, none, none, none, none, none] [] ws 0 0) (a0 : Nat) (a1 : Nat) (a2 : Nat) (a3 : Nat) (a4 : Nat) (a5 : Nat) (a6 : Nat) (a7 : Nat) (a8 : Nat) (a9 : Nat) (i15 : Int32) (i16 : Int32) (i17 : Int32) (i19 : Int32) (i24 : Int32) (i25 : Int32) (ws : LWd) (h : m_L_isDone_b1328 k1153 a0 a1 a2 a3 a4 a5 a6 a7 a8 a9 i15 i16 i17 i19 i24 i25 ws = some (rr, ws')) : JG (.inr none) cL_isDone 26 RL wsL_isDone (some .boolean) "isDone" 8 1 6 n0 (.inl (some (.int rr)), ws') 1328 [some (.ref a0), some (.ref a1), some (.ref a2), some (.ref a3), some (.ref a4), some (.ref a5), some (.ref a6), some (.ref a7), some (.ref a8), some (.ref a9), none, none, none, none, none, some (.int i15), some (.int i16), some (.int i17), none, some (.int i19), none, none, none, none, some (.int i24), some (.int i25)] [] ws 0 0 := by
  unfold m_L_isDone_b1328 at h
  refine j_iconst (pc := 1328) dL_isDone_1328 (v := 0) (by decide) ?_
  exact jm_L_isDone_b1329 (hk1153 := hk1153) _ _ _ _ _ _ _ _ _ _ _ _ _ _ _ _ _ ws h
def m_L_isDone_b1284 (k1153 : Nat → Nat → Nat → Nat → Nat → Nat → Nat → Nat → Nat → Nat → Int32 → Int32 → Int32 → Int32 → Int32 → LWd → Option (Int32 × LWd)) (a0 : Nat) (a1 : Nat) (a2 : Nat) (a3 : Nat) (a4 : Nat) (a5 : Nat) (a6 : Nat) (a7 : Nat) (a8 : Nat) (a9 : Nat) (i15 : Int32) (i16 : Int32) (i17 : Int32) (i19 : Int32) (i21 : Int32) (i22 : Int32) (i23 : Int32) (i24 : Int32) (i25 : Int32) (s0 : Int32) (ws : LWd) : Option (Int32 × LWd) :=
  if s0 = 0 then
    m_L_isDone_b1328 k1153 a0 a1 a2 a3 a4 a5 a6 a7 a8 a9 i15 i16 i17 i19 i24 i25 ws
  else
    bn2 (calSR ws (m_L_places a1 a2 a3 a4 a5 a6 a8 a9 i21 i22 i23 ws)) fun x4 w2 =>
    if x4 = 0 then
      m_L_isDone_b1328 k1153 a0 a1 a2 a3 a4 a5 a6 a7 a8 a9 i15 i16 i17 i19 i24 i25 w2
    else
      (aI w2 a9 14).bind fun x6 =>
      if x6 = 0 then
        m_L_isDone_b1329 k1153 a0 a1 a2 a3 a4 a5 a6 a7 a8 a9 i15 i16 i17 i19 i24 i25 1 w2
      else
        m_L_isDone_b1328 k1153 a0 a1 a2 a3 a4 a5 a6 a7 a8 a9 i15 i16 i17 i19 i24 i25 w2
set_option maxRecDepth 100000 in
set_option maxHeartbeats 4000000 in
theorem jm_L_isDone_b1284 {n0 : Nat} {rr : Int32} {ws' : LWd} {k1153 : Nat → Nat → Nat → Nat → Nat → Nat → Nat → Nat → Nat → Nat → Int32 → Int32 → Int32 → Int32 → Int32 → LWd → Option (Int32 × LWd)} (hk1153 : ∀ (a0 : Nat) (a1 : Nat) (a2 : Nat) (a3 : Nat) (a4 : Nat) (a5 : Nat) (a6 : Nat) (a7 : Nat) (a8 : Nat) (a9 : Nat) (i15 : Int32) (i16 : Int32) (i17 : Int32) (i18 : Int32) (i19 : Int32) (ws : LWd), k1153 a0 a1 a2 a3 a4 a5 a6 a7 a8 a9 i15 i16 i17 i18 i19 ws = some (rr, ws') → JG (.inr none) cL_isDone 26 RL wsL_isDone (some .boolean) "isDone" 8 1 6 n0 (.inl (some (.int rr)), ws') 1153 [some (.ref a0), some (.ref a1), some (.ref a2), some (.ref a3), some (.ref a4), some (.ref a5), some (.ref a6), some (.ref a7), some (.ref a8), some (.ref a9), none, none, none, none, none, some (.int i15), some (.int i16), some (.int i17), some (.int i18), some (.int i19), none, none, none, none, none, none] [] ws 0 0) (a0 : Nat) (a1 : Nat) (a2 : Nat) (a3 : Nat) (a4 : Nat) (a5 : Nat) (a6 : Nat) (a7 : Nat) (a8 : Nat) (a9 : Nat) (i15 : Int32) (i16 : Int32) (i17 : Int32) (i19 : Int32) (i21 : Int32) (i22 : Int32) (i23 : Int32) (i24 : Int32) (i25 : Int32) (s0 : Int32) (ws : LWd) (h : m_L_isDone_b1284 k1153 a0 a1 a2 a3 a4 a5 a6 a7 a8 a9 i15 i16 i17 i19 i21 i22 i23 i24 i25 s0 ws = some (rr, ws')) : JG (.inr none) cL_isDone 26 RL wsL_isDone (some .boolean) "isDone" 8 1 6 n0 (.inl (some (.int rr)), ws') 1284 [some (.ref a0), some (.ref a1), some (.ref a2), some (.ref a3), some (.ref a4), some (.ref a5), some (.ref a6), some (.ref a7), some (.ref a8), some (.ref a9), none, none, none, none, none, some (.int i15), some (.int i16), some (.int i17), none, some (.int i19), none, some (.int i21), some (.int i22), some (.int i23), some (.int i24), some (.int i25)] [.int s0] ws 0 0 := by
  unfold m_L_isDone_b1284 at h
  refine j_istore_18 (pc := 1284) dL_isDone_1284 (by decide) rfl ?_
  refine j_iload (pc := 1286) dL_isDone_1286 rfl ?_
  refine j_if_eq (pc := 1288) (tgt := 1328) dL_isDone_1288 (by decide) (fun c1 => ?_) (fun c1 => ?_)
  · rw [if_pos c1] at h
    refine j_mask [true, true, true, true, true, true, true, true, true, true, false, false, false, false, false, true, true, true, false, true, false, false, false, false, true, true] ?_
    exact jm_L_isDone_b1328 (hk1153 := hk1153) _ _ _ _ _ _ _ _ _ _ _ _ _ _ _ _ ws h
  · rw [if_neg c1] at h
    refine j_aload_n (pc := 1291) dL_isDone_1291 rfl ?_
    refine j_aload_n (pc := 1292) dL_isDone_1292 rfl ?_
    refine j_aload_n (pc := 1293) dL_isDone_1293 rfl ?_
    refine j_aload (pc := 1294) dL_isDone_1294 rfl ?_
    refine j_aload (pc := 1296) dL_isDone_1296 rfl ?_
    refine j_aload (pc := 1298) dL_isDone_1298 rfl ?_
    refine j_aload (pc := 1300) dL_isDone_1300 rfl ?_
    refine j_aload (pc := 1302) dL_isDone_1302 rfl ?_
    refine j_iload (pc := 1304) dL_isDone_1304 rfl ?_
    refine j_iload (pc := 1306) dL_isDone_1306 rfl ?_
    refine j_iload (pc := 1308) dL_isDone_1308 rfl ?_
    obtain ⟨x4, w2, e3, h⟩ := obS2 h
    have ge3 := calSR_of e3
    refine j_callS_g (pc := 1310) (As := [.ref a1, .ref a2, .ref a3, .ref a4, .ref a5, .ref a6, .ref a8, .ref a9, .int i21, .int i22, .int i23]) (k' := 0) (n' := 0) dL_isDone_1310 (s_L_places ge3.1) (jgS lw_706 lw_707 lw_597 lw_705) rfl hy_L_places rfl (by decide) (by decide) (Nat.le_of_ble_eq_true rfl) (by decide) (by decide) (by decide) (by decide) (Or.inl ge3.2) ?_
    refine j_if_eq (pc := 1313) (tgt := 1328) dL_isDone_1313 (by decide) (fun c5 => ?_) (fun c5 => ?_)
    · rw [if_pos c5] at h
      refine j_mask [true, true, true, true, true, true, true, true, true, true, false, false, false, false, false, true, true, true, false, true, false, false, false, false, true, true] ?_
      exact jm_L_isDone_b1328 (hk1153 := hk1153) _ _ _ _ _ _ _ _ _ _ _ _ _ _ _ _ w2 h
    · rw [if_neg c5] at h
      refine j_aload (pc := 1316) dL_isDone_1316 rfl ?_
      refine j_bipush (pc := 1318) dL_isDone_1318 (v := 14) (by decide) ?_
      obtain ⟨x6, e7, h⟩ := obS h
      refine j_iald (pc := 1320) dL_isDone_1320 e7 ?_
      refine j_if_ne (pc := 1321) (tgt := 1328) dL_isDone_1321 (by decide) (fun c8 => ?_) (fun c8 => ?_)
      · rw [if_neg c8] at h
        refine j_mask [true, true, true, true, true, true, true, true, true, true, false, false, false, false, false, true, true, true, false, true, false, false, false, false, true, true] ?_
        exact jm_L_isDone_b1328 (hk1153 := hk1153) _ _ _ _ _ _ _ _ _ _ _ _ _ _ _ _ w2 h
      · rw [if_pos c8] at h
        refine j_iconst (pc := 1324) dL_isDone_1324 (v := 1) (by decide) ?_
        refine j_goto (pc := 1325) (tgt := 1329) dL_isDone_1325 (by decide) ?_
        refine j_mask [true, true, true, true, true, true, true, true, true, true, false, false, false, false, false, true, true, true, false, true, false, false, false, false, true, true] ?_
        exact jm_L_isDone_b1329 (hk1153 := hk1153) _ _ _ _ _ _ _ _ _ _ _ _ _ _ _ _ _ w2 h
def m_L_isDone_b1283 (k1153 : Nat → Nat → Nat → Nat → Nat → Nat → Nat → Nat → Nat → Nat → Int32 → Int32 → Int32 → Int32 → Int32 → LWd → Option (Int32 × LWd)) (a0 : Nat) (a1 : Nat) (a2 : Nat) (a3 : Nat) (a4 : Nat) (a5 : Nat) (a6 : Nat) (a7 : Nat) (a8 : Nat) (a9 : Nat) (i15 : Int32) (i16 : Int32) (i17 : Int32) (i19 : Int32) (i21 : Int32) (i22 : Int32) (i23 : Int32) (i24 : Int32) (i25 : Int32) (ws : LWd) : Option (Int32 × LWd) :=
  m_L_isDone_b1284 k1153 a0 a1 a2 a3 a4 a5 a6 a7 a8 a9 i15 i16 i17 i19 i21 i22 i23 i24 i25 0 ws
set_option maxRecDepth 100000 in
set_option maxHeartbeats 4000000 in
theorem jm_L_isDone_b1283 {n0 : Nat} {rr : Int32} {ws' : LWd} {k1153 : Nat → Nat → Nat → Nat → Nat → Nat → Nat → Nat → Nat → Nat → Int32 → Int32 → Int32 → Int32 → Int32 → LWd → Option (Int32 × LWd)} (hk1153 : ∀ (a0 : Nat) (a1 : Nat) (a2 : Nat) (a3 : Nat) (a4 : Nat) (a5 : Nat) (a6 : Nat) (a7 : Nat) (a8 : Nat) (a9 : Nat) (i15 : Int32) (i16 : Int32) (i17 : Int32) (i18 : Int32) (i19 : Int32) (ws : LWd), k1153 a0 a1 a2 a3 a4 a5 a6 a7 a8 a9 i15 i16 i17 i18 i19 ws = some (rr, ws') → JG (.inr none) cL_isDone 26 RL wsL_isDone (some .boolean) "isDone" 8 1 6 n0 (.inl (some (.int rr)), ws') 1153 [some (.ref a0), some (.ref a1), some (.ref a2), some (.ref a3), some (.ref a4), some (.ref a5), some (.ref a6), some (.ref a7), some (.ref a8), some (.ref a9), none, none, none, none, none, some (.int i15), some (.int i16), some (.int i17), some (.int i18), some (.int i19), none, none, none, none, none, none] [] ws 0 0) (a0 : Nat) (a1 : Nat) (a2 : Nat) (a3 : Nat) (a4 : Nat) (a5 : Nat) (a6 : Nat) (a7 : Nat) (a8 : Nat) (a9 : Nat) (i15 : Int32) (i16 : Int32) (i17 : Int32) (i19 : Int32) (i21 : Int32) (i22 : Int32) (i23 : Int32) (i24 : Int32) (i25 : Int32) (ws : LWd) (h : m_L_isDone_b1283 k1153 a0 a1 a2 a3 a4 a5 a6 a7 a8 a9 i15 i16 i17 i19 i21 i22 i23 i24 i25 ws = some (rr, ws')) : JG (.inr none) cL_isDone 26 RL wsL_isDone (some .boolean) "isDone" 8 1 6 n0 (.inl (some (.int rr)), ws') 1283 [some (.ref a0), some (.ref a1), some (.ref a2), some (.ref a3), some (.ref a4), some (.ref a5), some (.ref a6), some (.ref a7), some (.ref a8), some (.ref a9), none, none, none, none, none, some (.int i15), some (.int i16), some (.int i17), none, some (.int i19), none, some (.int i21), some (.int i22), some (.int i23), some (.int i24), some (.int i25)] [] ws 0 0 := by
  unfold m_L_isDone_b1283 at h
  refine j_iconst (pc := 1283) dL_isDone_1283 (v := 0) (by decide) ?_
  exact jm_L_isDone_b1284 (hk1153 := hk1153) _ _ _ _ _ _ _ _ _ _ _ _ _ _ _ _ _ _ _ _ ws h
def m_L_isDone_l1153 : Nat → Nat → Nat → Nat → Nat → Nat → Nat → Nat → Nat → Nat → Nat → Int32 → Int32 → Int32 → Int32 → Int32 → LWd → Option (Int32 × LWd)
  | 0, _, _, _, _, _, _, _, _, _, _, _, _, _, _, _, _ => none
  | fu + 1, a0, a1, a2, a3, a4, a5, a6, a7, a8, a9, i15, i16, i17, i18, i19, ws =>
    if i18 = 0 then
      m_L_isDone_b1432 a0 i15 i16 i17 i19 ws
    else
      if i15 ≤ i17 then
        m_L_isDone_b1432 a0 i15 i16 i17 i19 ws
      else
        (aI ws a9 13).bind fun x3 =>
        (aI ws a7 x3).bind fun x5 =>
        (aI ws a5 (jrem x5 8)).bind fun x7 =>
        (aI ws a6 (jrem x5 8)).bind fun x9 =>
        bn2 (calSR ws (m_L_lifts a1 a3 a5 a6 a8 a9 (jrem x5 8) ws)) fun x13 w11 =>
        if x13 = 0 then
          m_L_isDone_b1283 (fun z0 z1 z2 z3 z4 z5 z6 z7 z8 z9 z10 z11 z12 z13 z14 w => m_L_isDone_l1153 fu z0 z1 z2 z3 z4 z5 z6 z7 z8 z9 z10 z11 z12 z13 z14 w) a0 a1 a2 a3 a4 a5 a6 a7 a8 a9 i15 i16 i17 i19 (jrem x5 8) ((x7 + (jrem (x5 / 8) 16)) - 6) ((x9 + (jrem (x5 / 128) 16)) - 6) ((jrem (x5 / 2048) 4) - 1) ((x5 / 8192) - 1) w11
        else
          (aI w11 a9 14).bind fun x15 =>
          if x15 = 0 then
            bn2 (calSR w11 (m_L_isIn ((x7 + (jrem (x5 / 8) 16)) - 6) ((x9 + (jrem (x5 / 128) 16)) - 6) w11)) fun x20 w18 =>
            if x20 = 0 then
              m_L_isDone_b1283 (fun z0 z1 z2 z3 z4 z5 z6 z7 z8 z9 z10 z11 z12 z13 z14 w => m_L_isDone_l1153 fu z0 z1 z2 z3 z4 z5 z6 z7 z8 z9 z10 z11 z12 z13 z14 w) a0 a1 a2 a3 a4 a5 a6 a7 a8 a9 i15 i16 i17 i19 (jrem x5 8) ((x7 + (jrem (x5 / 8) 16)) - 6) ((x9 + (jrem (x5 / 128) 16)) - 6) ((jrem (x5 / 2048) 4) - 1) ((x5 / 8192) - 1) w18
            else
              m_L_isDone_b1284 (fun z0 z1 z2 z3 z4 z5 z6 z7 z8 z9 z10 z11 z12 z13 z14 w => m_L_isDone_l1153 fu z0 z1 z2 z3 z4 z5 z6 z7 z8 z9 z10 z11 z12 z13 z14 w) a0 a1 a2 a3 a4 a5 a6 a7 a8 a9 i15 i16 i17 i19 (jrem x5 8) ((x7 + (jrem (x5 / 8) 16)) - 6) ((x9 + (jrem (x5 / 128) 16)) - 6) ((jrem (x5 / 2048) 4) - 1) ((x5 / 8192) - 1) 1 w18
          else
            m_L_isDone_b1283 (fun z0 z1 z2 z3 z4 z5 z6 z7 z8 z9 z10 z11 z12 z13 z14 w => m_L_isDone_l1153 fu z0 z1 z2 z3 z4 z5 z6 z7 z8 z9 z10 z11 z12 z13 z14 w) a0 a1 a2 a3 a4 a5 a6 a7 a8 a9 i15 i16 i17 i19 (jrem x5 8) ((x7 + (jrem (x5 / 8) 16)) - 6) ((x9 + (jrem (x5 / 128) 16)) - 6) ((jrem (x5 / 2048) 4) - 1) ((x5 / 8192) - 1) w11
set_option maxRecDepth 100000 in
set_option maxHeartbeats 4000000 in
theorem jm_L_isDone_l1153 {n0 : Nat} {rr : Int32} {ws' : LWd} : ∀ (fu : Nat) (a0 : Nat) (a1 : Nat) (a2 : Nat) (a3 : Nat) (a4 : Nat) (a5 : Nat) (a6 : Nat) (a7 : Nat) (a8 : Nat) (a9 : Nat) (i15 : Int32) (i16 : Int32) (i17 : Int32) (i18 : Int32) (i19 : Int32) (ws : LWd), m_L_isDone_l1153 fu a0 a1 a2 a3 a4 a5 a6 a7 a8 a9 i15 i16 i17 i18 i19 ws = some (rr, ws') → JG (.inr none) cL_isDone 26 RL wsL_isDone (some .boolean) "isDone" 8 1 6 n0 (.inl (some (.int rr)), ws') 1153 [some (.ref a0), some (.ref a1), some (.ref a2), some (.ref a3), some (.ref a4), some (.ref a5), some (.ref a6), some (.ref a7), some (.ref a8), some (.ref a9), none, none, none, none, none, some (.int i15), some (.int i16), some (.int i17), some (.int i18), some (.int i19), none, none, none, none, none, none] [] ws 0 0 := by
  intro fu
  induction fu with
  | zero => intro a0 a1 a2 a3 a4 a5 a6 a7 a8 a9 i15 i16 i17 i18 i19 ws h; first | (cases h; done) | (rw [m_L_isDone_l1153] at h; cases h)
  | succ fu ih =>
    intro a0 a1 a2 a3 a4 a5 a6 a7 a8 a9 i15 i16 i17 i18 i19 ws h
    rw [m_L_isDone_l1153] at h
    refine j_iload (pc := 1153) dL_isDone_1153 rfl ?_
    refine j_if_eq (pc := 1155) (tgt := 1432) dL_isDone_1155 (by decide) (fun c1 => ?_) (fun c1 => ?_)
    · rw [if_pos c1] at h
      refine j_mask [true, false, false, false, false, false, false, false, false, false, false, false, false, false, false, true, true, true, false, true, false, false, false, false, false, false] ?_
      exact jm_L_isDone_b1432 _ _ _ _ _ ws h
    · rw [if_neg c1] at h
      refine j_iload (pc := 1158) dL_isDone_1158 rfl ?_
      refine j_iload (pc := 1160) dL_isDone_1160 rfl ?_
      refine j_icmp_ge (pc := 1162) (tgt := 1432) dL_isDone_1162 (by decide) (fun c2 => ?_) (fun c2 => ?_)
      · rw [if_pos c2] at h
        refine j_mask [true, false, false, false, false, false, false, false, false, false, false, false, false, false, false, true, true, true, false, true, false, false, false, false, false, false] ?_
        exact jm_L_isDone_b1432 _ _ _ _ _ ws h
      · rw [if_neg c2] at h
        refine j_aload (pc := 1165) dL_isDone_1165 rfl ?_
        refine j_aload (pc := 1167) dL_isDone_1167 rfl ?_
        refine j_bipush (pc := 1169) dL_isDone_1169 (v := 13) (by decide) ?_
        obtain ⟨x3, e4, h⟩ := obS h
        refine j_iald (pc := 1171) dL_isDone_1171 e4 ?_
        obtain ⟨x5, e6, h⟩ := obS h
        refine j_iald (pc := 1172) dL_isDone_1172 e6 ?_
        refine j_istore_20 (pc := 1173) dL_isDone_1173 (by decide) rfl ?_
        refine j_iload (pc := 1175) dL_isDone_1175 rfl ?_
        refine j_bipush (pc := 1177) dL_isDone_1177 (v := 8) (by decide) ?_
        refine j_irem (pc := 1179) dL_isDone_1179 (by decide) ?_
        refine j_istore_21 (pc := 1180) dL_isDone_1180 (by decide) rfl ?_
        refine j_aload (pc := 1182) dL_isDone_1182 rfl ?_
        refine j_iload (pc := 1184) dL_isDone_1184 rfl ?_
        obtain ⟨x7, e8, h⟩ := obS h
        refine j_iald (pc := 1186) dL_isDone_1186 e8 ?_
        refine j_iload (pc := 1187) dL_isDone_1187 rfl ?_
        refine j_bipush (pc := 1189) dL_isDone_1189 (v := 8) (by decide) ?_
        refine j_idiv (pc := 1191) dL_isDone_1191 (by decide) ?_
        refine j_bipush (pc := 1192) dL_isDone_1192 (v := 16) (by decide) ?_
        refine j_irem (pc := 1194) dL_isDone_1194 (by decide) ?_
        refine j_iadd (pc := 1195) dL_isDone_1195 ?_
        refine j_bipush (pc := 1196) dL_isDone_1196 (v := 6) (by decide) ?_
        refine j_isub (pc := 1198) dL_isDone_1198 ?_
        refine j_istore_22 (pc := 1199) dL_isDone_1199 (by decide) rfl ?_
        refine j_aload (pc := 1201) dL_isDone_1201 rfl ?_
        refine j_iload (pc := 1203) dL_isDone_1203 rfl ?_
        obtain ⟨x9, e10, h⟩ := obS h
        refine j_iald (pc := 1205) dL_isDone_1205 e10 ?_
        refine j_iload (pc := 1206) dL_isDone_1206 rfl ?_
        refine j_sipush (pc := 1208) dL_isDone_1208 (v := 128) (by decide) ?_
        refine j_idiv (pc := 1211) dL_isDone_1211 (by decide) ?_
        refine j_bipush (pc := 1212) dL_isDone_1212 (v := 16) (by decide) ?_
        refine j_irem (pc := 1214) dL_isDone_1214 (by decide) ?_
        refine j_iadd (pc := 1215) dL_isDone_1215 ?_
        refine j_bipush (pc := 1216) dL_isDone_1216 (v := 6) (by decide) ?_
        refine j_isub (pc := 1218) dL_isDone_1218 ?_
        refine j_istore_23 (pc := 1219) dL_isDone_1219 (by decide) rfl ?_
        refine j_iload (pc := 1221) dL_isDone_1221 rfl ?_
        refine j_sipush (pc := 1223) dL_isDone_1223 (v := 2048) (by decide) ?_
        refine j_idiv (pc := 1226) dL_isDone_1226 (by decide) ?_
        refine j_iconst (pc := 1227) dL_isDone_1227 (v := 4) (by decide) ?_
        refine j_irem (pc := 1228) dL_isDone_1228 (by decide) ?_
        refine j_iconst (pc := 1229) dL_isDone_1229 (v := 1) (by decide) ?_
        refine j_isub (pc := 1230) dL_isDone_1230 ?_
        refine j_istore_24 (pc := 1231) dL_isDone_1231 (by decide) rfl ?_
        refine j_iload (pc := 1233) dL_isDone_1233 rfl ?_
        refine j_sipush (pc := 1235) dL_isDone_1235 (v := 8192) (by decide) ?_
        refine j_idiv (pc := 1238) dL_isDone_1238 (by decide) ?_
        refine j_iconst (pc := 1239) dL_isDone_1239 (v := 1) (by decide) ?_
        refine j_isub (pc := 1240) dL_isDone_1240 ?_
        refine j_istore_25 (pc := 1241) dL_isDone_1241 (by decide) rfl ?_
        refine j_aload_n (pc := 1243) dL_isDone_1243 rfl ?_
        refine j_aload_n (pc := 1244) dL_isDone_1244 rfl ?_
        refine j_aload (pc := 1245) dL_isDone_1245 rfl ?_
        refine j_aload (pc := 1247) dL_isDone_1247 rfl ?_
        refine j_aload (pc := 1249) dL_isDone_1249 rfl ?_
        refine j_aload (pc := 1251) dL_isDone_1251 rfl ?_
        refine j_iload (pc := 1253) dL_isDone_1253 rfl ?_
        obtain ⟨x13, w11, e12, h⟩ := obS2 h
        have ge12 := calSR_of e12
        refine j_callS_g (pc := 1255) (As := [.ref a1, .ref a3, .ref a5, .ref a6, .ref a8, .ref a9, .int (jrem x5 8)]) (k' := 0) (n' := 0) dL_isDone_1255 (s_L_lifts ge12.1) (jgS lw_709 lw_710 lw_597 lw_708) rfl hy_L_lifts rfl (by decide) (by decide) (Nat.le_of_ble_eq_true rfl) (by decide) (by decide) (by decide) (by decide) (Or.inl ge12.2) ?_
        refine j_if_eq (pc := 1258) (tgt := 1283) dL_isDone_1258 (by decide) (fun c14 => ?_) (fun c14 => ?_)
        · rw [if_pos c14] at h
          refine j_mask [true, true, true, true, true, true, true, true, true, true, false, false, false, false, false, true, true, true, false, true, false, true, true, true, true, true] ?_
          exact jm_L_isDone_b1283 (hk1153 := ih) _ _ _ _ _ _ _ _ _ _ _ _ _ _ _ _ _ _ _ w11 h
        · rw [if_neg c14] at h
          refine j_aload (pc := 1261) dL_isDone_1261 rfl ?_
          refine j_bipush (pc := 1263) dL_isDone_1263 (v := 14) (by decide) ?_
          obtain ⟨x15, e16, h⟩ := obS h
          refine j_iald (pc := 1265) dL_isDone_1265 e16 ?_
          refine j_if_ne (pc := 1266) (tgt := 1283) dL_isDone_1266 (by decide) (fun c17 => ?_) (fun c17 => ?_)
          · rw [if_neg c17] at h
            refine j_mask [true, true, true, true, true, true, true, true, true, true, false, false, false, false, false, true, true, true, false, true, false, true, true, true, true, true] ?_
            exact jm_L_isDone_b1283 (hk1153 := ih) _ _ _ _ _ _ _ _ _ _ _ _ _ _ _ _ _ _ _ w11 h
          · rw [if_pos c17] at h
            refine j_iload (pc := 1269) dL_isDone_1269 rfl ?_
            refine j_iload (pc := 1271) dL_isDone_1271 rfl ?_
            obtain ⟨x20, w18, e19, h⟩ := obS2 h
            have ge19 := calSR_of e19
            refine j_callS_g (pc := 1273) (As := [.int ((x7 + (jrem (x5 / 8) 16)) - 6), .int ((x9 + (jrem (x5 / 128) 16)) - 6)]) (k' := 0) (n' := 0) dL_isDone_1273 (s_L_isIn ge19.1) (jgS lw_644 lw_645 lw_597 lw_643) rfl hy_L_isIn rfl (by decide) (by decide) (Nat.le_of_ble_eq_true rfl) (by decide) (by decide) (by decide) (by decide) (Or.inl ge19.2) ?_
            refine j_if_eq (pc := 1276) (tgt := 1283) dL_isDone_1276 (by decide) (fun c21 => ?_) (fun c21 => ?_)
            · rw [if_pos c21] at h
              refine j_mask [true, true, true, true, true, true, true, true, true, true, false, false, false, false, false, true, true, true, false, true, false, true, true, true, true, true] ?_
              exact jm_L_isDone_b1283 (hk1153 := ih) _ _ _ _ _ _ _ _ _ _ _ _ _ _ _ _ _ _ _ w18 h
            · rw [if_neg c21] at h
              refine j_iconst (pc := 1279) dL_isDone_1279 (v := 1) (by decide) ?_
              refine j_goto (pc := 1280) (tgt := 1284) dL_isDone_1280 (by decide) ?_
              refine j_mask [true, true, true, true, true, true, true, true, true, true, false, false, false, false, false, true, true, true, false, true, false, true, true, true, true, true] ?_
              exact jm_L_isDone_b1284 (hk1153 := ih) _ _ _ _ _ _ _ _ _ _ _ _ _ _ _ _ _ _ _ _ w18 h
def m_L_isDone_b1147 (a0 : Nat) (a1 : Nat) (a2 : Nat) (a3 : Nat) (a4 : Nat) (a5 : Nat) (a6 : Nat) (a7 : Nat) (a8 : Nat) (a9 : Nat) (i15 : Int32) (i16 : Int32) (i17 : Int32) (s0 : Int32) (ws : LWd) : Option (Int32 × LWd) :=
  m_L_isDone_l1153 FU a0 a1 a2 a3 a4 a5 a6 a7 a8 a9 i15 i16 i17 s0 s0 ws
set_option maxRecDepth 100000 in
set_option maxHeartbeats 4000000 in
theorem jm_L_isDone_b1147 {n0 : Nat} {rr : Int32} {ws' : LWd} (a0 : Nat) (a1 : Nat) (a2 : Nat) (a3 : Nat) (a4 : Nat) (a5 : Nat) (a6 : Nat) (a7 : Nat) (a8 : Nat) (a9 : Nat) (i15 : Int32) (i16 : Int32) (i17 : Int32) (s0 : Int32) (ws : LWd) (h : m_L_isDone_b1147 a0 a1 a2 a3 a4 a5 a6 a7 a8 a9 i15 i16 i17 s0 ws = some (rr, ws')) : JG (.inr none) cL_isDone 26 RL wsL_isDone (some .boolean) "isDone" 8 1 6 n0 (.inl (some (.int rr)), ws') 1147 [some (.ref a0), some (.ref a1), some (.ref a2), some (.ref a3), some (.ref a4), some (.ref a5), some (.ref a6), some (.ref a7), some (.ref a8), some (.ref a9), none, none, none, none, none, some (.int i15), some (.int i16), some (.int i17), none, none, none, none, none, none, none, none] [.int s0] ws 0 0 := by
  unfold m_L_isDone_b1147 at h
  refine j_istore_18 (pc := 1147) dL_isDone_1147 (by decide) rfl ?_
  refine j_iload (pc := 1149) dL_isDone_1149 rfl ?_
  refine j_istore_19 (pc := 1151) dL_isDone_1151 (by decide) rfl ?_
  exact jm_L_isDone_l1153 FU _ _ _ _ _ _ _ _ _ _ _ _ _ _ _ ws h
def m_L_isDone_b1146 (a0 : Nat) (a1 : Nat) (a2 : Nat) (a3 : Nat) (a4 : Nat) (a5 : Nat) (a6 : Nat) (a7 : Nat) (a8 : Nat) (a9 : Nat) (i15 : Int32) (i16 : Int32) (i17 : Int32) (ws : LWd) : Option (Int32 × LWd) :=
  m_L_isDone_b1147 a0 a1 a2 a3 a4 a5 a6 a7 a8 a9 i15 i16 i17 0 ws
set_option maxRecDepth 100000 in
set_option maxHeartbeats 4000000 in
theorem jm_L_isDone_b1146 {n0 : Nat} {rr : Int32} {ws' : LWd} (a0 : Nat) (a1 : Nat) (a2 : Nat) (a3 : Nat) (a4 : Nat) (a5 : Nat) (a6 : Nat) (a7 : Nat) (a8 : Nat) (a9 : Nat) (i15 : Int32) (i16 : Int32) (i17 : Int32) (ws : LWd) (h : m_L_isDone_b1146 a0 a1 a2 a3 a4 a5 a6 a7 a8 a9 i15 i16 i17 ws = some (rr, ws')) : JG (.inr none) cL_isDone 26 RL wsL_isDone (some .boolean) "isDone" 8 1 6 n0 (.inl (some (.int rr)), ws') 1146 [some (.ref a0), some (.ref a1), some (.ref a2), some (.ref a3), some (.ref a4), some (.ref a5), some (.ref a6), some (.ref a7), some (.ref a8), some (.ref a9), none, none, none, none, none, some (.int i15), some (.int i16), some (.int i17), none, none, none, none, none, none, none, none] [] ws 0 0 := by
  unfold m_L_isDone_b1146 at h
  refine j_iconst (pc := 1146) dL_isDone_1146 (v := 0) (by decide) ?_
  exact jm_L_isDone_b1147 _ _ _ _ _ _ _ _ _ _ _ _ _ _ ws h
def m_L_isDone_b1124 (a0 : Nat) (a1 : Nat) (a2 : Nat) (a3 : Nat) (a4 : Nat) (a5 : Nat) (a6 : Nat) (a7 : Nat) (a8 : Nat) (a9 : Nat) (i15 : Int32) (s0 : Int32) (ws : LWd) : Option (Int32 × LWd) :=
  if s0 = 0 then
    m_L_isDone_b1146 a0 a1 a2 a3 a4 a5 a6 a7 a8 a9 i15 s0 0 ws
  else
    (aI ws a9 12).bind fun x2 =>
    if x2 ≤ 0 then
      m_L_isDone_b1146 a0 a1 a2 a3 a4 a5 a6 a7 a8 a9 i15 s0 0 ws
    else
      m_L_isDone_b1147 a0 a1 a2 a3 a4 a5 a6 a7 a8 a9 i15 s0 0 1 ws
set_option maxRecDepth 100000 in
set_option maxHeartbeats 4000000 in
theorem jm_L_isDone_b1124 {n0 : Nat} {rr : Int32} {ws' : LWd} (a0 : Nat) (a1 : Nat) (a2 : Nat) (a3 : Nat) (a4 : Nat) (a5 : Nat) (a6 : Nat) (a7 : Nat) (a8 : Nat) (a9 : Nat) (i15 : Int32) (s0 : Int32) (ws : LWd) (h : m_L_isDone_b1124 a0 a1 a2 a3 a4 a5 a6 a7 a8 a9 i15 s0 ws = some (rr, ws')) : JG (.inr none) cL_isDone 26 RL wsL_isDone (some .boolean) "isDone" 8 1 6 n0 (.inl (some (.int rr)), ws') 1124 [some (.ref a0), some (.ref a1), some (.ref a2), some (.ref a3), some (.ref a4), some (.ref a5), some (.ref a6), some (.ref a7), some (.ref a8), some (.ref a9), none, none, none, none, none, some (.int i15), none, none, none, none, none, none, none, none, none, none] [.int s0] ws 0 0 := by
  unfold m_L_isDone_b1124 at h
  refine j_istore_16 (pc := 1124) dL_isDone_1124 (by decide) rfl ?_
  refine j_iconst (pc := 1126) dL_isDone_1126 (v := 0) (by decide) ?_
  refine j_istore_17 (pc := 1127) dL_isDone_1127 (by decide) rfl ?_
  refine j_iload (pc := 1129) dL_isDone_1129 rfl ?_
  refine j_if_eq (pc := 1131) (tgt := 1146) dL_isDone_1131 (by decide) (fun c1 => ?_) (fun c1 => ?_)
  · rw [if_pos c1] at h
    exact jm_L_isDone_b1146 _ _ _ _ _ _ _ _ _ _ _ _ _ ws h
  · rw [if_neg c1] at h
    refine j_aload (pc := 1134) dL_isDone_1134 rfl ?_
    refine j_bipush (pc := 1136) dL_isDone_1136 (v := 12) (by decide) ?_
    obtain ⟨x2, e3, h⟩ := obS h
    refine j_iald (pc := 1138) dL_isDone_1138 e3 ?_
    refine j_if_le (pc := 1139) (tgt := 1146) dL_isDone_1139 (by decide) (fun c4 => ?_) (fun c4 => ?_)
    · rw [if_pos c4] at h
      exact jm_L_isDone_b1146 _ _ _ _ _ _ _ _ _ _ _ _ _ ws h
    · rw [if_neg c4] at h
      refine j_iconst (pc := 1142) dL_isDone_1142 (v := 1) (by decide) ?_
      refine j_goto (pc := 1143) (tgt := 1147) dL_isDone_1143 (by decide) ?_
      exact jm_L_isDone_b1147 _ _ _ _ _ _ _ _ _ _ _ _ _ _ ws h
def m_L_isDone_b1123 (a0 : Nat) (a1 : Nat) (a2 : Nat) (a3 : Nat) (a4 : Nat) (a5 : Nat) (a6 : Nat) (a7 : Nat) (a8 : Nat) (a9 : Nat) (i15 : Int32) (ws : LWd) : Option (Int32 × LWd) :=
  m_L_isDone_b1124 a0 a1 a2 a3 a4 a5 a6 a7 a8 a9 i15 0 ws
set_option maxRecDepth 100000 in
set_option maxHeartbeats 4000000 in
theorem jm_L_isDone_b1123 {n0 : Nat} {rr : Int32} {ws' : LWd} (a0 : Nat) (a1 : Nat) (a2 : Nat) (a3 : Nat) (a4 : Nat) (a5 : Nat) (a6 : Nat) (a7 : Nat) (a8 : Nat) (a9 : Nat) (i15 : Int32) (ws : LWd) (h : m_L_isDone_b1123 a0 a1 a2 a3 a4 a5 a6 a7 a8 a9 i15 ws = some (rr, ws')) : JG (.inr none) cL_isDone 26 RL wsL_isDone (some .boolean) "isDone" 8 1 6 n0 (.inl (some (.int rr)), ws') 1123 [some (.ref a0), some (.ref a1), some (.ref a2), some (.ref a3), some (.ref a4), some (.ref a5), some (.ref a6), some (.ref a7), some (.ref a8), some (.ref a9), none, none, none, none, none, some (.int i15), none, none, none, none, none, none, none, none, none, none] [] ws 0 0 := by
  unfold m_L_isDone_b1123 at h
  refine j_iconst (pc := 1123) dL_isDone_1123 (v := 0) (by decide) ?_
  exact jm_L_isDone_b1124 _ _ _ _ _ _ _ _ _ _ _ _ ws h
def m_L_isDone_b1091 (s0 : Int32) (s1 : Int32) (ws : LWd) : Option (Int32 × LWd) :=
  if s0 = s1 then
    some (1, ws)
  else
    some (0, ws)
set_option maxRecDepth 100000 in
set_option maxHeartbeats 4000000 in
theorem jm_L_isDone_b1091 {n0 : Nat} {rr : Int32} {ws' : LWd} (s0 : Int32) (s1 : Int32) (ws : LWd) (h : m_L_isDone_b1091 s0 s1 ws = some (rr, ws')) : JG (.inr none) cL_isDone 26 RL wsL_isDone (some .boolean) "isDone" 8 1 6 n0 (.inl (some (.int rr)), ws') 1091 [none, none, none, none, none, none, none, none, none, none, none, none, none, none, none, none, none, none, none, none, none, none, none, none, none, none] [.int s1, .int s0] ws 1 6 := by
  unfold m_L_isDone_b1091 at h
  refine j_icmp_ne (pc := 1091) (tgt := 1098) dL_isDone_1091 (by decide) (fun c1 => ?_) (fun c1 => ?_)
  · rw [if_neg c1] at h
    refine j_iconst (pc := 1098) dL_isDone_1098 (v := 0) (by decide) ?_
    obtain ⟨rfl, rfl⟩ := jretS h
    exact j_zretL (pc := 1099) (by decide) rfl dL_isDone_1099 (by decide) (by decide) rfl
  · rw [if_pos c1] at h
    refine j_iconst (pc := 1094) dL_isDone_1094 (v := 1) (by decide) ?_
    refine j_goto (pc := 1095) (tgt := 1099) dL_isDone_1095 (by decide) ?_
    obtain ⟨rfl, rfl⟩ := jretS h
    exact j_zretL (pc := 1099) (by decide) rfl dL_isDone_1099 (by decide) (by decide) rfl
def m_L_isDone_b1051 (a0 : Nat) (a9 : Nat) (i15 : Int32) (i16 : Int32) (i17 : Int32) (s0 : Int32) (ws : LWd) : Option (Int32 × LWd) :=
  bn2 (calSR ws (m_L_does a0 9 i15 i16 0 0 0 ws)) fun x3 w1 =>
  if i17 = 0 then
    m_L_isDone_b1091 x3 ((-2000000)) w1
  else
    if s0 = 0 then
      m_L_isDone_b1091 x3 ((-1000000)) w1
    else
      (aI w1 a9 14).bind fun x6 =>
      m_L_isDone_b1091 x3 x6 w1
set_option maxRecDepth 100000 in
set_option maxHeartbeats 4000000 in
theorem jm_L_isDone_b1051 {n0 : Nat} {rr : Int32} {ws' : LWd} (a0 : Nat) (a9 : Nat) (i15 : Int32) (i16 : Int32) (i17 : Int32) (s0 : Int32) (ws : LWd) (h : m_L_isDone_b1051 a0 a9 i15 i16 i17 s0 ws = some (rr, ws')) : JG (.inr none) cL_isDone 26 RL wsL_isDone (some .boolean) "isDone" 8 1 6 n0 (.inl (some (.int rr)), ws') 1051 [some (.ref a0), none, none, none, none, none, none, none, none, some (.ref a9), none, none, none, none, none, some (.int i15), some (.int i16), some (.int i17), none, none, none, none, none, none, none, none] [.int s0] ws 0 0 := by
  unfold m_L_isDone_b1051 at h
  refine j_istore_18 (pc := 1051) dL_isDone_1051 (by decide) rfl ?_
  refine j_aload_n (pc := 1053) dL_isDone_1053 rfl ?_
  refine j_bipush (pc := 1054) dL_isDone_1054 (v := 9) (by decide) ?_
  refine j_iload (pc := 1056) dL_isDone_1056 rfl ?_
  refine j_iload (pc := 1058) dL_isDone_1058 rfl ?_
  refine j_iconst (pc := 1060) dL_isDone_1060 (v := 0) (by decide) ?_
  refine j_iconst (pc := 1061) dL_isDone_1061 (v := 0) (by decide) ?_
  refine j_iconst (pc := 1062) dL_isDone_1062 (v := 0) (by decide) ?_
  obtain ⟨x3, w1, e2, h⟩ := obS2 h
  have ge2 := calSR_of e2
  refine j_callSW (pc := 1063) (As := [.ref a0, .int 9, .int i15, .int i16, .int 0, .int 0, .int 0]) (k' := 1) (n' := 6) dL_isDone_1063 (fun q h => by cases h) (s_L_does ge2.1) (jgS lw_657 lw_658 lw_597 lw_656) rfl hy_L_does rfl (by decide) (by decide) (Nat.le_of_ble_eq_true rfl) (by decide) (by decide) (by decide) (by decide) ge2.2 ?_
  refine j_iload (pc := 1066) dL_isDone_1066 rfl ?_
  refine j_if_ne (pc := 1068) (tgt := 1076) dL_isDone_1068 (by decide) (fun c4 => ?_) (fun c4 => ?_)
  · rw [if_neg c4] at h
    refine j_iload (pc := 1076) dL_isDone_1076 rfl ?_
    refine j_if_eq (pc := 1078) (tgt := 1089) dL_isDone_1078 (by decide) (fun c5 => ?_) (fun c5 => ?_)
    · rw [if_pos c5] at h
      refine j_ldc (pc := 1089) dL_isDone_1089 (v := (-1000000)) (jwm lw_530) ?_
      refine j_mask [false, false, false, false, false, false, false, false, false, false, false, false, false, false, false, false, false, false, false, false, false, false, false, false, false, false] ?_
      exact jm_L_isDone_b1091 _ _ w1 h
    · rw [if_neg c5] at h
      refine j_aload (pc := 1081) dL_isDone_1081 rfl ?_
      refine j_bipush (pc := 1083) dL_isDone_1083 (v := 14) (by decide) ?_
      obtain ⟨x6, e7, h⟩ := obS h
      refine j_iald (pc := 1085) dL_isDone_1085 e7 ?_
      refine j_goto (pc := 1086) (tgt := 1091) dL_isDone_1086 (by decide) ?_
      refine j_mask [false, false, false, false, false, false, false, false, false, false, false, false, false, false, false, false, false, false, false, false, false, false, false, false, false, false] ?_
      exact jm_L_isDone_b1091 _ _ w1 h
  · rw [if_pos c4] at h
    refine j_ldc (pc := 1071) dL_isDone_1071 (v := (-2000000)) (jwm lw_528) ?_
    refine j_goto (pc := 1073) (tgt := 1091) dL_isDone_1073 (by decide) ?_
    refine j_mask [false, false, false, false, false, false, false, false, false, false, false, false, false, false, false, false, false, false, false, false, false, false, false, false, false, false] ?_
    exact jm_L_isDone_b1091 _ _ w1 h
def m_L_isDone_b1050 (a0 : Nat) (a9 : Nat) (i15 : Int32) (i16 : Int32) (i17 : Int32) (ws : LWd) : Option (Int32 × LWd) :=
  m_L_isDone_b1051 a0 a9 i15 i16 i17 0 ws
set_option maxRecDepth 100000 in
set_option maxHeartbeats 4000000 in
theorem jm_L_isDone_b1050 {n0 : Nat} {rr : Int32} {ws' : LWd} (a0 : Nat) (a9 : Nat) (i15 : Int32) (i16 : Int32) (i17 : Int32) (ws : LWd) (h : m_L_isDone_b1050 a0 a9 i15 i16 i17 ws = some (rr, ws')) : JG (.inr none) cL_isDone 26 RL wsL_isDone (some .boolean) "isDone" 8 1 6 n0 (.inl (some (.int rr)), ws') 1050 [some (.ref a0), none, none, none, none, none, none, none, none, some (.ref a9), none, none, none, none, none, some (.int i15), some (.int i16), some (.int i17), none, none, none, none, none, none, none, none] [] ws 0 0 := by
  unfold m_L_isDone_b1050 at h
  refine j_iconst (pc := 1050) dL_isDone_1050 (v := 0) (by decide) ?_
  exact jm_L_isDone_b1051 _ _ _ _ _ _ ws h
def m_L_isDone_b1017 (a0 : Nat) (a1 : Nat) (a3 : Nat) (a4 : Nat) (a5 : Nat) (a6 : Nat) (a8 : Nat) (a9 : Nat) (i15 : Int32) (i16 : Int32) (s0 : Int32) (ws : LWd) : Option (Int32 × LWd) :=
  if s0 = 0 then
    m_L_isDone_b1050 a0 a9 i15 i16 s0 ws
  else
    bn2 (calSR ws (m_L_shifts a1 a3 a4 a5 a6 a8 a9 i15 i16 ws)) fun x4 w2 =>
    if x4 = 0 then
      m_L_isDone_b1050 a0 a9 i15 i16 s0 w2
    else
      m_L_isDone_b1051 a0 a9 i15 i16 s0 1 w2
set_option maxRecDepth 100000 in
set_option maxHeartbeats 4000000 in
theorem jm_L_isDone_b1017 {n0 : Nat} {rr : Int32} {ws' : LWd} (a0 : Nat) (a1 : Nat) (a3 : Nat) (a4 : Nat) (a5 : Nat) (a6 : Nat) (a8 : Nat) (a9 : Nat) (i15 : Int32) (i16 : Int32) (s0 : Int32) (ws : LWd) (h : m_L_isDone_b1017 a0 a1 a3 a4 a5 a6 a8 a9 i15 i16 s0 ws = some (rr, ws')) : JG (.inr none) cL_isDone 26 RL wsL_isDone (some .boolean) "isDone" 8 1 6 n0 (.inl (some (.int rr)), ws') 1017 [some (.ref a0), some (.ref a1), none, some (.ref a3), some (.ref a4), some (.ref a5), some (.ref a6), none, some (.ref a8), some (.ref a9), none, none, none, none, none, some (.int i15), some (.int i16), none, none, none, none, none, none, none, none, none] [.int s0] ws 0 0 := by
  unfold m_L_isDone_b1017 at h
  refine j_istore_17 (pc := 1017) dL_isDone_1017 (by decide) rfl ?_
  refine j_iload (pc := 1019) dL_isDone_1019 rfl ?_
  refine j_if_eq (pc := 1021) (tgt := 1050) dL_isDone_1021 (by decide) (fun c1 => ?_) (fun c1 => ?_)
  · rw [if_pos c1] at h
    refine j_mask [true, false, false, false, false, false, false, false, false, true, false, false, false, false, false, true, true, true, false, false, false, false, false, false, false, false] ?_
    exact jm_L_isDone_b1050 _ _ _ _ _ ws h
  · rw [if_neg c1] at h
    refine j_aload_n (pc := 1024) dL_isDone_1024 rfl ?_
    refine j_aload_n (pc := 1025) dL_isDone_1025 rfl ?_
    refine j_aload (pc := 1026) dL_isDone_1026 rfl ?_
    refine j_aload (pc := 1028) dL_isDone_1028 rfl ?_
    refine j_aload (pc := 1030) dL_isDone_1030 rfl ?_
    refine j_aload (pc := 1032) dL_isDone_1032 rfl ?_
    refine j_aload (pc := 1034) dL_isDone_1034 rfl ?_
    refine j_iload (pc := 1036) dL_isDone_1036 rfl ?_
    refine j_iload (pc := 1038) dL_isDone_1038 rfl ?_
    obtain ⟨x4, w2, e3, h⟩ := obS2 h
    have ge3 := calSR_of e3
    refine j_callS_g (pc := 1040) (As := [.ref a1, .ref a3, .ref a4, .ref a5, .ref a6, .ref a8, .ref a9, .int i15, .int i16]) (k' := 0) (n' := 0) dL_isDone_1040 (s_L_shifts ge3.1) (jgS lw_703 lw_704 lw_597 lw_702) rfl hy_L_shifts rfl (by decide) (by decide) (Nat.le_of_ble_eq_true rfl) (by decide) (by decide) (by decide) (by decide) (Or.inl ge3.2) ?_
    refine j_if_eq (pc := 1043) (tgt := 1050) dL_isDone_1043 (by decide) (fun c5 => ?_) (fun c5 => ?_)
    · rw [if_pos c5] at h
      refine j_mask [true, false, false, false, false, false, false, false, false, true, false, false, false, false, false, true, true, true, false, false, false, false, false, false, false, false] ?_
      exact jm_L_isDone_b1050 _ _ _ _ _ w2 h
    · rw [if_neg c5] at h
      refine j_iconst (pc := 1046) dL_isDone_1046 (v := 1) (by decide) ?_
      refine j_goto (pc := 1047) (tgt := 1051) dL_isDone_1047 (by decide) ?_
      refine j_mask [true, false, false, false, false, false, false, false, false, true, false, false, false, false, false, true, true, true, false, false, false, false, false, false, false, false] ?_
      exact jm_L_isDone_b1051 _ _ _ _ _ _ w2 h
def m_L_isDone_b1016 (a0 : Nat) (a1 : Nat) (a3 : Nat) (a4 : Nat) (a5 : Nat) (a6 : Nat) (a8 : Nat) (a9 : Nat) (i15 : Int32) (i16 : Int32) (ws : LWd) : Option (Int32 × LWd) :=
  m_L_isDone_b1017 a0 a1 a3 a4 a5 a6 a8 a9 i15 i16 0 ws
set_option maxRecDepth 100000 in
set_option maxHeartbeats 4000000 in
theorem jm_L_isDone_b1016 {n0 : Nat} {rr : Int32} {ws' : LWd} (a0 : Nat) (a1 : Nat) (a3 : Nat) (a4 : Nat) (a5 : Nat) (a6 : Nat) (a8 : Nat) (a9 : Nat) (i15 : Int32) (i16 : Int32) (ws : LWd) (h : m_L_isDone_b1016 a0 a1 a3 a4 a5 a6 a8 a9 i15 i16 ws = some (rr, ws')) : JG (.inr none) cL_isDone 26 RL wsL_isDone (some .boolean) "isDone" 8 1 6 n0 (.inl (some (.int rr)), ws') 1016 [some (.ref a0), some (.ref a1), none, some (.ref a3), some (.ref a4), some (.ref a5), some (.ref a6), none, some (.ref a8), some (.ref a9), none, none, none, none, none, some (.int i15), some (.int i16), none, none, none, none, none, none, none, none, none] [] ws 0 0 := by
  unfold m_L_isDone_b1016 at h
  refine j_iconst (pc := 1016) dL_isDone_1016 (v := 0) (by decide) ?_
  exact jm_L_isDone_b1017 _ _ _ _ _ _ _ _ _ _ _ ws h
def m_L_isDone_b1012 (a0 : Nat) (a1 : Nat) (a3 : Nat) (a4 : Nat) (a5 : Nat) (a6 : Nat) (a8 : Nat) (a9 : Nat) (i15 : Int32) (i16 : Int32) (ws : LWd) : Option (Int32 × LWd) :=
  m_L_isDone_b1017 a0 a1 a3 a4 a5 a6 a8 a9 i15 i16 1 ws
set_option maxRecDepth 100000 in
set_option maxHeartbeats 4000000 in
theorem jm_L_isDone_b1012 {n0 : Nat} {rr : Int32} {ws' : LWd} (a0 : Nat) (a1 : Nat) (a3 : Nat) (a4 : Nat) (a5 : Nat) (a6 : Nat) (a8 : Nat) (a9 : Nat) (i15 : Int32) (i16 : Int32) (ws : LWd) (h : m_L_isDone_b1012 a0 a1 a3 a4 a5 a6 a8 a9 i15 i16 ws = some (rr, ws')) : JG (.inr none) cL_isDone 26 RL wsL_isDone (some .boolean) "isDone" 8 1 6 n0 (.inl (some (.int rr)), ws') 1012 [some (.ref a0), some (.ref a1), none, some (.ref a3), some (.ref a4), some (.ref a5), some (.ref a6), none, some (.ref a8), some (.ref a9), none, none, none, none, none, some (.int i15), some (.int i16), none, none, none, none, none, none, none, none, none] [] ws 0 0 := by
  unfold m_L_isDone_b1012 at h
  refine j_iconst (pc := 1012) dL_isDone_1012 (v := 1) (by decide) ?_
  refine j_goto (pc := 1013) (tgt := 1017) dL_isDone_1013 (by decide) ?_
  exact jm_L_isDone_b1017 _ _ _ _ _ _ _ _ _ _ _ ws h
def m_L_isDone_b986 (a0 : Nat) (a1 : Nat) (a3 : Nat) (a4 : Nat) (a5 : Nat) (a6 : Nat) (a8 : Nat) (a9 : Nat) (i12 : Int32) (s0 : Int32) (ws : LWd) : Option (Int32 × LWd) :=
  if 2 ≤ s0 then
    m_L_isDone_b1016 a0 a1 a3 a4 a5 a6 a8 a9 s0 ((jrem i12 3) - 1) ws
  else
    if s0 = 0 then
      if ((jrem i12 3) - 1) = 0 then
        m_L_isDone_b1016 a0 a1 a3 a4 a5 a6 a8 a9 s0 ((jrem i12 3) - 1) ws
      else
        m_L_isDone_b1012 a0 a1 a3 a4 a5 a6 a8 a9 s0 ((jrem i12 3) - 1) ws
    else
      m_L_isDone_b1012 a0 a1 a3 a4 a5 a6 a8 a9 s0 ((jrem i12 3) - 1) ws
set_option maxRecDepth 100000 in
set_option maxHeartbeats 4000000 in
theorem jm_L_isDone_b986 {n0 : Nat} {rr : Int32} {ws' : LWd} (a0 : Nat) (a1 : Nat) (a3 : Nat) (a4 : Nat) (a5 : Nat) (a6 : Nat) (a8 : Nat) (a9 : Nat) (i12 : Int32) (s0 : Int32) (ws : LWd) (h : m_L_isDone_b986 a0 a1 a3 a4 a5 a6 a8 a9 i12 s0 ws = some (rr, ws')) : JG (.inr none) cL_isDone 26 RL wsL_isDone (some .boolean) "isDone" 8 1 6 n0 (.inl (some (.int rr)), ws') 986 [some (.ref a0), some (.ref a1), none, some (.ref a3), some (.ref a4), some (.ref a5), some (.ref a6), none, some (.ref a8), some (.ref a9), none, none, some (.int i12), none, none, none, none, none, none, none, none, none, none, none, none, none] [.int s0] ws 0 0 := by
  unfold m_L_isDone_b986 at h
  refine j_istore_15 (pc := 986) dL_isDone_986 (by decide) rfl ?_
  refine j_iload (pc := 988) dL_isDone_988 rfl ?_
  refine j_iconst (pc := 990) dL_isDone_990 (v := 3) (by decide) ?_
  refine j_irem (pc := 991) dL_isDone_991 (by decide) ?_
  refine j_iconst (pc := 992) dL_isDone_992 (v := 1) (by decide) ?_
  refine j_isub (pc := 993) dL_isDone_993 ?_
  refine j_istore_16 (pc := 994) dL_isDone_994 (by decide) rfl ?_
  refine j_iload (pc := 996) dL_isDone_996 rfl ?_
  refine j_iconst (pc := 998) dL_isDone_998 (v := 2) (by decide) ?_
  refine j_icmp_ge (pc := 999) (tgt := 1016) dL_isDone_999 (by decide) (fun c1 => ?_) (fun c1 => ?_)
  · rw [if_pos c1] at h
    refine j_mask [true, true, false, true, true, true, true, false, true, true, false, false, false, false, false, true, true, false, false, false, false, false, false, false, false, false] ?_
    exact jm_L_isDone_b1016 _ _ _ _ _ _ _ _ _ _ ws h
  · rw [if_neg c1] at h
    refine j_iload (pc := 1002) dL_isDone_1002 rfl ?_
    refine j_if_ne (pc := 1004) (tgt := 1012) dL_isDone_1004 (by decide) (fun c2 => ?_) (fun c2 => ?_)
    · rw [if_neg c2] at h
      refine j_mask [true, true, false, true, true, true, true, false, true, true, false, false, false, false, false, true, true, false, false, false, false, false, false, false, false, false] ?_
      exact jm_L_isDone_b1012 _ _ _ _ _ _ _ _ _ _ ws h
    · rw [if_pos c2] at h
      refine j_iload (pc := 1007) dL_isDone_1007 rfl ?_
      refine j_if_eq (pc := 1009) (tgt := 1016) dL_isDone_1009 (by decide) (fun c3 => ?_) (fun c3 => ?_)
      · rw [if_pos c3] at h
        refine j_mask [true, true, false, true, true, true, true, false, true, true, false, false, false, false, false, true, true, false, false, false, false, false, false, false, false, false] ?_
        exact jm_L_isDone_b1016 _ _ _ _ _ _ _ _ _ _ ws h
      · rw [if_neg c3] at h
        refine j_mask [true, true, false, true, true, true, true, false, true, true, false, false, false, false, false, true, true, false, false, false, false, false, false, false, false, false] ?_
        exact jm_L_isDone_b1012 _ _ _ _ _ _ _ _ _ _ ws h
def m_L_isDone_b951 (s0 : Int32) (s1 : Int32) (ws : LWd) : Option (Int32 × LWd) :=
  if s0 = s1 then
    some (1, ws)
  else
    some (0, ws)
set_option maxRecDepth 100000 in
set_option maxHeartbeats 4000000 in
theorem jm_L_isDone_b951 {n0 : Nat} {rr : Int32} {ws' : LWd} (s0 : Int32) (s1 : Int32) (ws : LWd) (h : m_L_isDone_b951 s0 s1 ws = some (rr, ws')) : JG (.inr none) cL_isDone 26 RL wsL_isDone (some .boolean) "isDone" 8 1 6 n0 (.inl (some (.int rr)), ws') 951 [none, none, none, none, none, none, none, none, none, none, none, none, none, none, none, none, none, none, none, none, none, none, none, none, none, none] [.int s1, .int s0] ws 1 6 := by
  unfold m_L_isDone_b951 at h
  refine j_icmp_ne (pc := 951) (tgt := 958) dL_isDone_951 (by decide) (fun c1 => ?_) (fun c1 => ?_)
  · rw [if_neg c1] at h
    refine j_iconst (pc := 958) dL_isDone_958 (v := 0) (by decide) ?_
    obtain ⟨rfl, rfl⟩ := jretS h
    exact j_zretL (pc := 959) (by decide) rfl dL_isDone_959 (by decide) (by decide) rfl
  · rw [if_pos c1] at h
    refine j_iconst (pc := 954) dL_isDone_954 (v := 1) (by decide) ?_
    refine j_goto (pc := 955) (tgt := 959) dL_isDone_955 (by decide) ?_
    obtain ⟨rfl, rfl⟩ := jretS h
    exact j_zretL (pc := 959) (by decide) rfl dL_isDone_959 (by decide) (by decide) rfl
def m_L_isDone_b900 (a0 : Nat) (a9 : Nat) (i13 : Int32) (i14 : Int32) (i15 : Int32) (i16 : Int32) (i17 : Int32) (s0 : Int32) (ws : LWd) : Option (Int32 × LWd) :=
  bn2 (calSR ws (m_L_does a0 8 i13 i15 i16 0 0 ws)) fun x3 w1 =>
  if i14 = 0 then
    m_L_isDone_b951 x3 ((-3000000)) w1
  else
    if i17 = 0 then
      m_L_isDone_b951 x3 ((-2000000)) w1
    else
      if s0 = 0 then
        m_L_isDone_b951 x3 ((-1000000)) w1
      else
        (aI w1 a9 14).bind fun x7 =>
        m_L_isDone_b951 x3 x7 w1
set_option maxRecDepth 100000 in
set_option maxHeartbeats 4000000 in
theorem jm_L_isDone_b900 {n0 : Nat} {rr : Int32} {ws' : LWd} (a0 : Nat) (a9 : Nat) (i13 : Int32) (i14 : Int32) (i15 : Int32) (i16 : Int32) (i17 : Int32) (s0 : Int32) (ws : LWd) (h : m_L_isDone_b900 a0 a9 i13 i14 i15 i16 i17 s0 ws = some (rr, ws')) : JG (.inr none) cL_isDone 26 RL wsL_isDone (some .boolean) "isDone" 8 1 6 n0 (.inl (some (.int rr)), ws') 900 [some (.ref a0), none, none, none, none, none, none, none, none, some (.ref a9), none, none, none, some (.int i13), some (.int i14), some (.int i15), some (.int i16), some (.int i17), none, none, none, none, none, none, none, none] [.int s0] ws 0 0 := by
  unfold m_L_isDone_b900 at h
  refine j_istore_18 (pc := 900) dL_isDone_900 (by decide) rfl ?_
  refine j_aload_n (pc := 902) dL_isDone_902 rfl ?_
  refine j_bipush (pc := 903) dL_isDone_903 (v := 8) (by decide) ?_
  refine j_iload (pc := 905) dL_isDone_905 rfl ?_
  refine j_iload (pc := 907) dL_isDone_907 rfl ?_
  refine j_iload (pc := 909) dL_isDone_909 rfl ?_
  refine j_iconst (pc := 911) dL_isDone_911 (v := 0) (by decide) ?_
  refine j_iconst (pc := 912) dL_isDone_912 (v := 0) (by decide) ?_
  obtain ⟨x3, w1, e2, h⟩ := obS2 h
  have ge2 := calSR_of e2
  refine j_callSW (pc := 913) (As := [.ref a0, .int 8, .int i13, .int i15, .int i16, .int 0, .int 0]) (k' := 1) (n' := 6) dL_isDone_913 (fun q h => by cases h) (s_L_does ge2.1) (jgS lw_657 lw_658 lw_597 lw_656) rfl hy_L_does rfl (by decide) (by decide) (Nat.le_of_ble_eq_true rfl) (by decide) (by decide) (by decide) (by decide) ge2.2 ?_
  refine j_iload (pc := 916) dL_isDone_916 rfl ?_
  refine j_if_ne (pc := 918) (tgt := 926) dL_isDone_918 (by decide) (fun c4 => ?_) (fun c4 => ?_)
  · rw [if_neg c4] at h
    refine j_iload (pc := 926) dL_isDone_926 rfl ?_
    refine j_if_ne (pc := 928) (tgt := 936) dL_isDone_928 (by decide) (fun c5 => ?_) (fun c5 => ?_)
    · rw [if_neg c5] at h
      refine j_iload (pc := 936) dL_isDone_936 rfl ?_
      refine j_if_eq (pc := 938) (tgt := 949) dL_isDone_938 (by decide) (fun c6 => ?_) (fun c6 => ?_)
      · rw [if_pos c6] at h
        refine j_ldc (pc := 949) dL_isDone_949 (v := (-1000000)) (jwm lw_530) ?_
        refine j_mask [false, false, false, false, false, false, false, false, false, false, false, false, false, false, false, false, false, false, false, false, false, false, false, false, false, false] ?_
        exact jm_L_isDone_b951 _ _ w1 h
      · rw [if_neg c6] at h
        refine j_aload (pc := 941) dL_isDone_941 rfl ?_
        refine j_bipush (pc := 943) dL_isDone_943 (v := 14) (by decide) ?_
        obtain ⟨x7, e8, h⟩ := obS h
        refine j_iald (pc := 945) dL_isDone_945 e8 ?_
        refine j_goto (pc := 946) (tgt := 951) dL_isDone_946 (by decide) ?_
        refine j_mask [false, false, false, false, false, false, false, false, false, false, false, false, false, false, false, false, false, false, false, false, false, false, false, false, false, false] ?_
        exact jm_L_isDone_b951 _ _ w1 h
    · rw [if_pos c5] at h
      refine j_ldc (pc := 931) dL_isDone_931 (v := (-2000000)) (jwm lw_528) ?_
      refine j_goto (pc := 933) (tgt := 951) dL_isDone_933 (by decide) ?_
      refine j_mask [false, false, false, false, false, false, false, false, false, false, false, false, false, false, false, false, false, false, false, false, false, false, false, false, false, false] ?_
      exact jm_L_isDone_b951 _ _ w1 h
  · rw [if_pos c4] at h
    refine j_ldc (pc := 921) dL_isDone_921 (v := (-3000000)) (jwm lw_526) ?_
    refine j_goto (pc := 923) (tgt := 951) dL_isDone_923 (by decide) ?_
    refine j_mask [false, false, false, false, false, false, false, false, false, false, false, false, false, false, false, false, false, false, false, false, false, false, false, false, false, false] ?_
    exact jm_L_isDone_b951 _ _ w1 h
def m_L_isDone_b899 (a0 : Nat) (a9 : Nat) (i13 : Int32) (i14 : Int32) (i15 : Int32) (i16 : Int32) (i17 : Int32) (ws : LWd) : Option (Int32 × LWd) :=
  m_L_isDone_b900 a0 a9 i13 i14 i15 i16 i17 0 ws
set_option maxRecDepth 100000 in
set_option maxHeartbeats 4000000 in
theorem jm_L_isDone_b899 {n0 : Nat} {rr : Int32} {ws' : LWd} (a0 : Nat) (a9 : Nat) (i13 : Int32) (i14 : Int32) (i15 : Int32) (i16 : Int32) (i17 : Int32) (ws : LWd) (h : m_L_isDone_b899 a0 a9 i13 i14 i15 i16 i17 ws = some (rr, ws')) : JG (.inr none) cL_isDone 26 RL wsL_isDone (some .boolean) "isDone" 8 1 6 n0 (.inl (some (.int rr)), ws') 899 [some (.ref a0), none, none, none, none, none, none, none, none, some (.ref a9), none, none, none, some (.int i13), some (.int i14), some (.int i15), some (.int i16), some (.int i17), none, none, none, none, none, none, none, none] [] ws 0 0 := by
  unfold m_L_isDone_b899 at h
  refine j_iconst (pc := 899) dL_isDone_899 (v := 0) (by decide) ?_
  exact jm_L_isDone_b900 _ _ _ _ _ _ _ _ ws h
def m_L_isDone_b840 (a0 : Nat) (a1 : Nat) (a2 : Nat) (a3 : Nat) (a4 : Nat) (a5 : Nat) (a6 : Nat) (a8 : Nat) (a9 : Nat) (i12 : Int32) (i13 : Int32) (i14 : Int32) (i15 : Int32) (s0 : Int32) (ws : LWd) : Option (Int32 × LWd) :=
  bn2 (calSR ws (m_L_isIn i15 ((s0 + (jrem (i12 / 5) 5)) - 2) ws)) fun x3 w1 =>
  if i14 = 0 then
    m_L_isDone_b899 a0 a9 i13 i14 i15 ((s0 + (jrem (i12 / 5) 5)) - 2) x3 w1
  else
    if x3 = 0 then
      m_L_isDone_b899 a0 a9 i13 i14 i15 ((s0 + (jrem (i12 / 5) 5)) - 2) x3 w1
    else
      bn2 (calSR w1 (m_L_places a1 a2 a3 a4 a5 a6 a8 a9 i13 i15 ((s0 + (jrem (i12 / 5) 5)) - 2) w1)) fun x8 w6 =>
      if x8 = 0 then
        m_L_isDone_b899 a0 a9 i13 i14 i15 ((s0 + (jrem (i12 / 5) 5)) - 2) x3 w6
      else
        m_L_isDone_b900 a0 a9 i13 i14 i15 ((s0 + (jrem (i12 / 5) 5)) - 2) x3 1 w6
set_option maxRecDepth 100000 in
set_option maxHeartbeats 4000000 in
theorem jm_L_isDone_b840 {n0 : Nat} {rr : Int32} {ws' : LWd} (a0 : Nat) (a1 : Nat) (a2 : Nat) (a3 : Nat) (a4 : Nat) (a5 : Nat) (a6 : Nat) (a8 : Nat) (a9 : Nat) (i12 : Int32) (i13 : Int32) (i14 : Int32) (i15 : Int32) (s0 : Int32) (ws : LWd) (h : m_L_isDone_b840 a0 a1 a2 a3 a4 a5 a6 a8 a9 i12 i13 i14 i15 s0 ws = some (rr, ws')) : JG (.inr none) cL_isDone 26 RL wsL_isDone (some .boolean) "isDone" 8 1 6 n0 (.inl (some (.int rr)), ws') 840 [some (.ref a0), some (.ref a1), some (.ref a2), some (.ref a3), some (.ref a4), some (.ref a5), some (.ref a6), none, some (.ref a8), some (.ref a9), none, none, some (.int i12), some (.int i13), some (.int i14), some (.int i15), none, none, none, none, none, none, none, none, none, none] [.int s0] ws 0 0 := by
  unfold m_L_isDone_b840 at h
  refine j_iload (pc := 840) dL_isDone_840 rfl ?_
  refine j_iconst (pc := 842) dL_isDone_842 (v := 5) (by decide) ?_
  refine j_idiv (pc := 843) dL_isDone_843 (by decide) ?_
  refine j_iconst (pc := 844) dL_isDone_844 (v := 5) (by decide) ?_
  refine j_irem (pc := 845) dL_isDone_845 (by decide) ?_
  refine j_iadd (pc := 846) dL_isDone_846 ?_
  refine j_iconst (pc := 847) dL_isDone_847 (v := 2) (by decide) ?_
  refine j_isub (pc := 848) dL_isDone_848 ?_
  refine j_istore_16 (pc := 849) dL_isDone_849 (by decide) rfl ?_
  refine j_iload (pc := 851) dL_isDone_851 rfl ?_
  refine j_iload (pc := 853) dL_isDone_853 rfl ?_
  obtain ⟨x3, w1, e2, h⟩ := obS2 h
  have ge2 := calSR_of e2
  refine j_callS_g (pc := 855) (As := [.int i15, .int ((s0 + (jrem (i12 / 5) 5)) - 2)]) (k' := 0) (n' := 0) dL_isDone_855 (s_L_isIn ge2.1) (jgS lw_644 lw_645 lw_597 lw_643) rfl hy_L_isIn rfl (by decide) (by decide) (Nat.le_of_ble_eq_true rfl) (by decide) (by decide) (by decide) (by decide) (Or.inl ge2.2) ?_
  refine j_istore_17 (pc := 858) dL_isDone_858 (by decide) rfl ?_
  refine j_iload (pc := 860) dL_isDone_860 rfl ?_
  refine j_if_eq (pc := 862) (tgt := 899) dL_isDone_862 (by decide) (fun c4 => ?_) (fun c4 => ?_)
  · rw [if_pos c4] at h
    refine j_mask [true, false, false, false, false, false, false, false, false, true, false, false, false, true, true, true, true, true, false, false, false, false, false, false, false, false] ?_
    exact jm_L_isDone_b899 _ _ _ _ _ _ _ w1 h
  · rw [if_neg c4] at h
    refine j_iload (pc := 865) dL_isDone_865 rfl ?_
    refine j_if_eq (pc := 867) (tgt := 899) dL_isDone_867 (by decide) (fun c5 => ?_) (fun c5 => ?_)
    · rw [if_pos c5] at h
      refine j_mask [true, false, false, false, false, false, false, false, false, true, false, false, false, true, true, true, true, true, false, false, false, false, false, false, false, false] ?_
      exact jm_L_isDone_b899 _ _ _ _ _ _ _ w1 h
    · rw [if_neg c5] at h
      refine j_aload_n (pc := 870) dL_isDone_870 rfl ?_
      refine j_aload_n (pc := 871) dL_isDone_871 rfl ?_
      refine j_aload_n (pc := 872) dL_isDone_872 rfl ?_
      refine j_aload (pc := 873) dL_isDone_873 rfl ?_
      refine j_aload (pc := 875) dL_isDone_875 rfl ?_
      refine j_aload (pc := 877) dL_isDone_877 rfl ?_
      refine j_aload (pc := 879) dL_isDone_879 rfl ?_
      refine j_aload (pc := 881) dL_isDone_881 rfl ?_
      refine j_iload (pc := 883) dL_isDone_883 rfl ?_
      refine j_iload (pc := 885) dL_isDone_885 rfl ?_
      refine j_iload (pc := 887) dL_isDone_887 rfl ?_
      obtain ⟨x8, w6, e7, h⟩ := obS2 h
      have ge7 := calSR_of e7
      refine j_callS_g (pc := 889) (As := [.ref a1, .ref a2, .ref a3, .ref a4, .ref a5, .ref a6, .ref a8, .ref a9, .int i13, .int i15, .int ((s0 + (jrem (i12 / 5) 5)) - 2)]) (k' := 0) (n' := 0) dL_isDone_889 (s_L_places ge7.1) (jgS lw_706 lw_707 lw_597 lw_705) rfl hy_L_places rfl (by decide) (by decide) (Nat.le_of_ble_eq_true rfl) (by decide) (by decide) (by decide) (by decide) (Or.inl ge7.2) ?_
      refine j_if_eq (pc := 892) (tgt := 899) dL_isDone_892 (by decide) (fun c9 => ?_) (fun c9 => ?_)
      · rw [if_pos c9] at h
        refine j_mask [true, false, false, false, false, false, false, false, false, true, false, false, false, true, true, true, true, true, false, false, false, false, false, false, false, false] ?_
        exact jm_L_isDone_b899 _ _ _ _ _ _ _ w6 h
      · rw [if_neg c9] at h
        refine j_iconst (pc := 895) dL_isDone_895 (v := 1) (by decide) ?_
        refine j_goto (pc := 896) (tgt := 900) dL_isDone_896 (by decide) ?_
        refine j_mask [true, false, false, false, false, false, false, false, false, true, false, false, false, true, true, true, true, true, false, false, false, false, false, false, false, false] ?_
        exact jm_L_isDone_b900 _ _ _ _ _ _ _ _ w6 h
def m_L_isDone_b813 (a0 : Nat) (a1 : Nat) (a2 : Nat) (a3 : Nat) (a4 : Nat) (a5 : Nat) (a6 : Nat) (a8 : Nat) (a9 : Nat) (i12 : Int32) (i13 : Int32) (i14 : Int32) (s0 : Int32) (ws : LWd) : Option (Int32 × LWd) :=
  if i14 = 0 then
    m_L_isDone_b840 a0 a1 a2 a3 a4 a5 a6 a8 a9 i12 i13 i14 ((s0 + (jrem i12 5)) - 2) 5 ws
  else
    bn2 (calSR ws (m_L_hipY a4 a9 i13 ws)) fun x4 w2 =>
    m_L_isDone_b840 a0 a1 a2 a3 a4 a5 a6 a8 a9 i12 i13 i14 ((s0 + (jrem i12 5)) - 2) x4 w2
set_option maxRecDepth 100000 in
set_option maxHeartbeats 4000000 in
theorem jm_L_isDone_b813 {n0 : Nat} {rr : Int32} {ws' : LWd} (a0 : Nat) (a1 : Nat) (a2 : Nat) (a3 : Nat) (a4 : Nat) (a5 : Nat) (a6 : Nat) (a8 : Nat) (a9 : Nat) (i12 : Int32) (i13 : Int32) (i14 : Int32) (s0 : Int32) (ws : LWd) (h : m_L_isDone_b813 a0 a1 a2 a3 a4 a5 a6 a8 a9 i12 i13 i14 s0 ws = some (rr, ws')) : JG (.inr none) cL_isDone 26 RL wsL_isDone (some .boolean) "isDone" 8 1 6 n0 (.inl (some (.int rr)), ws') 813 [some (.ref a0), some (.ref a1), some (.ref a2), some (.ref a3), some (.ref a4), some (.ref a5), some (.ref a6), none, some (.ref a8), some (.ref a9), none, none, some (.int i12), some (.int i13), some (.int i14), none, none, none, none, none, none, none, none, none, none, none] [.int s0] ws 0 0 := by
  unfold m_L_isDone_b813 at h
  refine j_iload (pc := 813) dL_isDone_813 rfl ?_
  refine j_iconst (pc := 815) dL_isDone_815 (v := 5) (by decide) ?_
  refine j_irem (pc := 816) dL_isDone_816 (by decide) ?_
  refine j_iadd (pc := 817) dL_isDone_817 ?_
  refine j_iconst (pc := 818) dL_isDone_818 (v := 2) (by decide) ?_
  refine j_isub (pc := 819) dL_isDone_819 ?_
  refine j_istore_15 (pc := 820) dL_isDone_820 (by decide) rfl ?_
  refine j_iload (pc := 822) dL_isDone_822 rfl ?_
  refine j_if_eq (pc := 824) (tgt := 839) dL_isDone_824 (by decide) (fun c1 => ?_) (fun c1 => ?_)
  · rw [if_pos c1] at h
    refine j_iconst (pc := 839) dL_isDone_839 (v := 5) (by decide) ?_
    exact jm_L_isDone_b840 _ _ _ _ _ _ _ _ _ _ _ _ _ _ ws h
  · rw [if_neg c1] at h
    refine j_aload (pc := 827) dL_isDone_827 rfl ?_
    refine j_aload (pc := 829) dL_isDone_829 rfl ?_
    refine j_iload (pc := 831) dL_isDone_831 rfl ?_
    obtain ⟨x4, w2, e3, h⟩ := obS2 h
    have ge3 := calSR_of e3
    refine j_callS_g (pc := 833) (As := [.ref a4, .ref a9, .int i13]) (k' := 0) (n' := 0) dL_isDone_833 (s_L_hipY ge3.1) (jgS lw_599 lw_600 lw_597 lw_598) rfl hy_L_hipY rfl (by decide) (by decide) (Nat.le_of_ble_eq_true rfl) (by decide) (by decide) (by decide) (by decide) (Or.inl ge3.2) ?_
    refine j_goto (pc := 836) (tgt := 840) dL_isDone_836 (by decide) ?_
    exact jm_L_isDone_b840 _ _ _ _ _ _ _ _ _ _ _ _ _ _ w2 h
def m_L_isDone_b780 (s0 : Int32) (s1 : Int32) (ws : LWd) : Option (Int32 × LWd) :=
  if s0 = s1 then
    some (1, ws)
  else
    some (0, ws)
set_option maxRecDepth 100000 in
set_option maxHeartbeats 4000000 in
theorem jm_L_isDone_b780 {n0 : Nat} {rr : Int32} {ws' : LWd} (s0 : Int32) (s1 : Int32) (ws : LWd) (h : m_L_isDone_b780 s0 s1 ws = some (rr, ws')) : JG (.inr none) cL_isDone 26 RL wsL_isDone (some .boolean) "isDone" 8 1 6 n0 (.inl (some (.int rr)), ws') 780 [none, none, none, none, none, none, none, none, none, none, none, none, none, none, none, none, none, none, none, none, none, none, none, none, none, none] [.int s1, .int s0] ws 1 6 := by
  unfold m_L_isDone_b780 at h
  refine j_icmp_ne (pc := 780) (tgt := 787) dL_isDone_780 (by decide) (fun c1 => ?_) (fun c1 => ?_)
  · rw [if_neg c1] at h
    refine j_iconst (pc := 787) dL_isDone_787 (v := 0) (by decide) ?_
    obtain ⟨rfl, rfl⟩ := jretS h
    exact j_zretL (pc := 788) (by decide) rfl dL_isDone_788 (by decide) (by decide) rfl
  · rw [if_pos c1] at h
    refine j_iconst (pc := 783) dL_isDone_783 (v := 1) (by decide) ?_
    refine j_goto (pc := 784) (tgt := 788) dL_isDone_784 (by decide) ?_
    obtain ⟨rfl, rfl⟩ := jretS h
    exact j_zretL (pc := 788) (by decide) rfl dL_isDone_788 (by decide) (by decide) rfl
def m_L_isDone_b741 (a0 : Nat) (a9 : Nat) (i13 : Int32) (i14 : Int32) (s0 : Int32) (ws : LWd) : Option (Int32 × LWd) :=
  bn2 (calSR ws (m_L_does a0 7 i13 0 0 0 0 ws)) fun x3 w1 =>
  if i14 = 0 then
    m_L_isDone_b780 x3 ((-3000000)) w1
  else
    if s0 = 0 then
      m_L_isDone_b780 x3 ((-1000000)) w1
    else
      (aI w1 a9 14).bind fun x6 =>
      m_L_isDone_b780 x3 x6 w1
set_option maxRecDepth 100000 in
set_option maxHeartbeats 4000000 in
theorem jm_L_isDone_b741 {n0 : Nat} {rr : Int32} {ws' : LWd} (a0 : Nat) (a9 : Nat) (i13 : Int32) (i14 : Int32) (s0 : Int32) (ws : LWd) (h : m_L_isDone_b741 a0 a9 i13 i14 s0 ws = some (rr, ws')) : JG (.inr none) cL_isDone 26 RL wsL_isDone (some .boolean) "isDone" 8 1 6 n0 (.inl (some (.int rr)), ws') 741 [some (.ref a0), none, none, none, none, none, none, none, none, some (.ref a9), none, none, none, some (.int i13), some (.int i14), none, none, none, none, none, none, none, none, none, none, none] [.int s0] ws 0 0 := by
  unfold m_L_isDone_b741 at h
  refine j_istore_15 (pc := 741) dL_isDone_741 (by decide) rfl ?_
  refine j_aload_n (pc := 743) dL_isDone_743 rfl ?_
  refine j_bipush (pc := 744) dL_isDone_744 (v := 7) (by decide) ?_
  refine j_iload (pc := 746) dL_isDone_746 rfl ?_
  refine j_iconst (pc := 748) dL_isDone_748 (v := 0) (by decide) ?_
  refine j_iconst (pc := 749) dL_isDone_749 (v := 0) (by decide) ?_
  refine j_iconst (pc := 750) dL_isDone_750 (v := 0) (by decide) ?_
  refine j_iconst (pc := 751) dL_isDone_751 (v := 0) (by decide) ?_
  obtain ⟨x3, w1, e2, h⟩ := obS2 h
  have ge2 := calSR_of e2
  refine j_callSW (pc := 752) (As := [.ref a0, .int 7, .int i13, .int 0, .int 0, .int 0, .int 0]) (k' := 1) (n' := 6) dL_isDone_752 (fun q h => by cases h) (s_L_does ge2.1) (jgS lw_657 lw_658 lw_597 lw_656) rfl hy_L_does rfl (by decide) (by decide) (Nat.le_of_ble_eq_true rfl) (by decide) (by decide) (by decide) (by decide) ge2.2 ?_
  refine j_iload (pc := 755) dL_isDone_755 rfl ?_
  refine j_if_ne (pc := 757) (tgt := 765) dL_isDone_757 (by decide) (fun c4 => ?_) (fun c4 => ?_)
  · rw [if_neg c4] at h
    refine j_iload (pc := 765) dL_isDone_765 rfl ?_
    refine j_if_eq (pc := 767) (tgt := 778) dL_isDone_767 (by decide) (fun c5 => ?_) (fun c5 => ?_)
    · rw [if_pos c5] at h
      refine j_ldc (pc := 778) dL_isDone_778 (v := (-1000000)) (jwm lw_530) ?_
      refine j_mask [false, false, false, false, false, false, false, false, false, false, false, false, false, false, false, false, false, false, false, false, false, false, false, false, false, false] ?_
      exact jm_L_isDone_b780 _ _ w1 h
    · rw [if_neg c5] at h
      refine j_aload (pc := 770) dL_isDone_770 rfl ?_
      refine j_bipush (pc := 772) dL_isDone_772 (v := 14) (by decide) ?_
      obtain ⟨x6, e7, h⟩ := obS h
      refine j_iald (pc := 774) dL_isDone_774 e7 ?_
      refine j_goto (pc := 775) (tgt := 780) dL_isDone_775 (by decide) ?_
      refine j_mask [false, false, false, false, false, false, false, false, false, false, false, false, false, false, false, false, false, false, false, false, false, false, false, false, false, false] ?_
      exact jm_L_isDone_b780 _ _ w1 h
  · rw [if_pos c4] at h
    refine j_ldc (pc := 760) dL_isDone_760 (v := (-3000000)) (jwm lw_526) ?_
    refine j_goto (pc := 762) (tgt := 780) dL_isDone_762 (by decide) ?_
    refine j_mask [false, false, false, false, false, false, false, false, false, false, false, false, false, false, false, false, false, false, false, false, false, false, false, false, false, false] ?_
    exact jm_L_isDone_b780 _ _ w1 h
def m_L_isDone_b740 (a0 : Nat) (a9 : Nat) (i13 : Int32) (i14 : Int32) (ws : LWd) : Option (Int32 × LWd) :=
  m_L_isDone_b741 a0 a9 i13 i14 0 ws
set_option maxRecDepth 100000 in
set_option maxHeartbeats 4000000 in
theorem jm_L_isDone_b740 {n0 : Nat} {rr : Int32} {ws' : LWd} (a0 : Nat) (a9 : Nat) (i13 : Int32) (i14 : Int32) (ws : LWd) (h : m_L_isDone_b740 a0 a9 i13 i14 ws = some (rr, ws')) : JG (.inr none) cL_isDone 26 RL wsL_isDone (some .boolean) "isDone" 8 1 6 n0 (.inl (some (.int rr)), ws') 740 [some (.ref a0), none, none, none, none, none, none, none, none, some (.ref a9), none, none, none, some (.int i13), some (.int i14), none, none, none, none, none, none, none, none, none, none, none] [] ws 0 0 := by
  unfold m_L_isDone_b740 at h
  refine j_iconst (pc := 740) dL_isDone_740 (v := 0) (by decide) ?_
  exact jm_L_isDone_b741 _ _ _ _ _ ws h
def m_L_isDone_b705 (a0 : Nat) (a1 : Nat) (a2 : Nat) (a3 : Nat) (a4 : Nat) (a5 : Nat) (a6 : Nat) (a7 : Nat) (a8 : Nat) (a9 : Nat) (i10 : Int32) (i11 : Int32) (i12 : Int32) (i13 : Int32) (s0 : Int32) (ws : LWd) : Option (Int32 × LWd) :=
  if i10 = 2 then
    if s0 = 0 then
      m_L_isDone_b740 a0 a9 i13 s0 ws
    else
      bn2 (calSR ws (m_L_lifts a1 a3 a5 a6 a8 a9 i13 ws)) fun x14 w12 =>
      if x14 = 0 then
        m_L_isDone_b740 a0 a9 i13 s0 w12
      else
        m_L_isDone_b741 a0 a9 i13 s0 1 w12
  else
    if i10 = 3 then
      if s0 = 0 then
        m_L_isDone_b813 a0 a1 a2 a3 a4 a5 a6 a8 a9 i12 i13 s0 5 ws
      else
        bn2 (calSR ws (m_L_hipX a4 a9 i13 ws)) fun x10 w8 =>
        m_L_isDone_b813 a0 a1 a2 a3 a4 a5 a6 a8 a9 i12 i13 s0 x10 w8
    else
      if i10 = 4 then
        if (jrem i11 13) = 12 then
          m_L_isDone_b986 a0 a1 a3 a4 a5 a6 a8 a9 i12 2 ws
        else
          m_L_isDone_b986 a0 a1 a3 a4 a5 a6 a8 a9 i12 ((jrem i11 3) - 1) ws
      else
        if (jrem i12 23) ≤ 0 then
          m_L_isDone_b1123 a0 a1 a2 a3 a4 a5 a6 a7 a8 a9 (jrem i12 23) ws
        else
          if 21 ≤ (jrem i12 23) then
            m_L_isDone_b1123 a0 a1 a2 a3 a4 a5 a6 a7 a8 a9 (jrem i12 23) ws
          else
            m_L_isDone_b1124 a0 a1 a2 a3 a4 a5 a6 a7 a8 a9 (jrem i12 23) 1 ws
set_option maxRecDepth 100000 in
set_option maxHeartbeats 4000000 in
theorem jm_L_isDone_b705 {n0 : Nat} {rr : Int32} {ws' : LWd} (a0 : Nat) (a1 : Nat) (a2 : Nat) (a3 : Nat) (a4 : Nat) (a5 : Nat) (a6 : Nat) (a7 : Nat) (a8 : Nat) (a9 : Nat) (i10 : Int32) (i11 : Int32) (i12 : Int32) (i13 : Int32) (s0 : Int32) (ws : LWd) (h : m_L_isDone_b705 a0 a1 a2 a3 a4 a5 a6 a7 a8 a9 i10 i11 i12 i13 s0 ws = some (rr, ws')) : JG (.inr none) cL_isDone 26 RL wsL_isDone (some .boolean) "isDone" 8 1 6 n0 (.inl (some (.int rr)), ws') 705 [some (.ref a0), some (.ref a1), some (.ref a2), some (.ref a3), some (.ref a4), some (.ref a5), some (.ref a6), some (.ref a7), some (.ref a8), some (.ref a9), some (.int i10), some (.int i11), some (.int i12), some (.int i13), none, none, none, none, none, none, none, none, none, none, none, none] [.int s0] ws 0 0 := by
  unfold m_L_isDone_b705 at h
  refine j_istore_14 (pc := 705) dL_isDone_705 (by decide) rfl ?_
  refine j_iload (pc := 707) dL_isDone_707 rfl ?_
  refine j_iconst (pc := 709) dL_isDone_709 (v := 2) (by decide) ?_
  refine j_icmp_ne (pc := 710) (tgt := 789) dL_isDone_710 (by decide) (fun c1 => ?_) (fun c1 => ?_)
  · rw [if_neg c1] at h
    refine j_iload (pc := 789) dL_isDone_789 rfl ?_
    refine j_iconst (pc := 791) dL_isDone_791 (v := 3) (by decide) ?_
    refine j_icmp_ne (pc := 792) (tgt := 960) dL_isDone_792 (by decide) (fun c2 => ?_) (fun c2 => ?_)
    · rw [if_neg c2] at h
      refine j_iload (pc := 960) dL_isDone_960 rfl ?_
      refine j_iconst (pc := 962) dL_isDone_962 (v := 4) (by decide) ?_
      refine j_icmp_ne (pc := 963) (tgt := 1100) dL_isDone_963 (by decide) (fun c3 => ?_) (fun c3 => ?_)
      · rw [if_neg c3] at h
        refine j_iload (pc := 1100) dL_isDone_1100 rfl ?_
        refine j_bipush (pc := 1102) dL_isDone_1102 (v := 23) (by decide) ?_
        refine j_irem (pc := 1104) dL_isDone_1104 (by decide) ?_
        refine j_istore_15 (pc := 1105) dL_isDone_1105 (by decide) rfl ?_
        refine j_iload (pc := 1107) dL_isDone_1107 rfl ?_
        refine j_if_le (pc := 1109) (tgt := 1123) dL_isDone_1109 (by decide) (fun c4 => ?_) (fun c4 => ?_)
        · rw [if_pos c4] at h
          refine j_mask [true, true, true, true, true, true, true, true, true, true, false, false, false, false, false, true, false, false, false, false, false, false, false, false, false, false] ?_
          exact jm_L_isDone_b1123 _ _ _ _ _ _ _ _ _ _ _ ws h
        · rw [if_neg c4] at h
          refine j_iload (pc := 1112) dL_isDone_1112 rfl ?_
          refine j_bipush (pc := 1114) dL_isDone_1114 (v := 21) (by decide) ?_
          refine j_icmp_ge (pc := 1116) (tgt := 1123) dL_isDone_1116 (by decide) (fun c5 => ?_) (fun c5 => ?_)
          · rw [if_pos c5] at h
            refine j_mask [true, true, true, true, true, true, true, true, true, true, false, false, false, false, false, true, false, false, false, false, false, false, false, false, false, false] ?_
            exact jm_L_isDone_b1123 _ _ _ _ _ _ _ _ _ _ _ ws h
          · rw [if_neg c5] at h
            refine j_iconst (pc := 1119) dL_isDone_1119 (v := 1) (by decide) ?_
            refine j_goto (pc := 1120) (tgt := 1124) dL_isDone_1120 (by decide) ?_
            refine j_mask [true, true, true, true, true, true, true, true, true, true, false, false, false, false, false, true, false, false, false, false, false, false, false, false, false, false] ?_
            exact jm_L_isDone_b1124 _ _ _ _ _ _ _ _ _ _ _ _ ws h
      · rw [if_pos c3] at h
        refine j_iload (pc := 966) dL_isDone_966 rfl ?_
        refine j_bipush (pc := 968) dL_isDone_968 (v := 13) (by decide) ?_
        refine j_irem (pc := 970) dL_isDone_970 (by decide) ?_
        refine j_bipush (pc := 971) dL_isDone_971 (v := 12) (by decide) ?_
        refine j_icmp_ne (pc := 973) (tgt := 980) dL_isDone_973 (by decide) (fun c6 => ?_) (fun c6 => ?_)
        · rw [if_neg c6] at h
          refine j_iload (pc := 980) dL_isDone_980 rfl ?_
          refine j_iconst (pc := 982) dL_isDone_982 (v := 3) (by decide) ?_
          refine j_irem (pc := 983) dL_isDone_983 (by decide) ?_
          refine j_iconst (pc := 984) dL_isDone_984 (v := 1) (by decide) ?_
          refine j_isub (pc := 985) dL_isDone_985 ?_
          refine j_mask [true, true, false, true, true, true, true, false, true, true, false, false, true, false, false, false, false, false, false, false, false, false, false, false, false, false] ?_
          exact jm_L_isDone_b986 _ _ _ _ _ _ _ _ _ _ ws h
        · rw [if_pos c6] at h
          refine j_iconst (pc := 976) dL_isDone_976 (v := 2) (by decide) ?_
          refine j_goto (pc := 977) (tgt := 986) dL_isDone_977 (by decide) ?_
          refine j_mask [true, true, false, true, true, true, true, false, true, true, false, false, true, false, false, false, false, false, false, false, false, false, false, false, false, false] ?_
          exact jm_L_isDone_b986 _ _ _ _ _ _ _ _ _ _ ws h
    · rw [if_pos c2] at h
      refine j_iload (pc := 795) dL_isDone_795 rfl ?_
      refine j_if_eq (pc := 797) (tgt := 812) dL_isDone_797 (by decide) (fun c7 => ?_) (fun c7 => ?_)
      · rw [if_pos c7] at h
        refine j_iconst (pc := 812) dL_isDone_812 (v := 5) (by decide) ?_
        refine j_mask [true, true, true, true, true, true, true, false, true, true, false, false, true, true, true, false, false, false, false, false, false, false, false, false, false, false] ?_
        exact jm_L_isDone_b813 _ _ _ _ _ _ _ _ _ _ _ _ _ ws h
      · rw [if_neg c7] at h
        refine j_aload (pc := 800) dL_isDone_800 rfl ?_
        refine j_aload (pc := 802) dL_isDone_802 rfl ?_
        refine j_iload (pc := 804) dL_isDone_804 rfl ?_
        obtain ⟨x10, w8, e9, h⟩ := obS2 h
        have ge9 := calSR_of e9
        refine j_callS_g (pc := 806) (As := [.ref a4, .ref a9, .int i13]) (k' := 0) (n' := 0) dL_isDone_806 (s_L_hipX ge9.1) (jgS lw_595 lw_596 lw_597 lw_594) rfl hy_L_hipX rfl (by decide) (by decide) (Nat.le_of_ble_eq_true rfl) (by decide) (by decide) (by decide) (by decide) (Or.inl ge9.2) ?_
        refine j_goto (pc := 809) (tgt := 813) dL_isDone_809 (by decide) ?_
        refine j_mask [true, true, true, true, true, true, true, false, true, true, false, false, true, true, true, false, false, false, false, false, false, false, false, false, false, false] ?_
        exact jm_L_isDone_b813 _ _ _ _ _ _ _ _ _ _ _ _ _ w8 h
  · rw [if_pos c1] at h
    refine j_iload (pc := 713) dL_isDone_713 rfl ?_
    refine j_if_eq (pc := 715) (tgt := 740) dL_isDone_715 (by decide) (fun c11 => ?_) (fun c11 => ?_)
    · rw [if_pos c11] at h
      refine j_mask [true, false, false, false, false, false, false, false, false, true, false, false, false, true, true, false, false, false, false, false, false, false, false, false, false, false] ?_
      exact jm_L_isDone_b740 _ _ _ _ ws h
    · rw [if_neg c11] at h
      refine j_aload_n (pc := 718) dL_isDone_718 rfl ?_
      refine j_aload_n (pc := 719) dL_isDone_719 rfl ?_
      refine j_aload (pc := 720) dL_isDone_720 rfl ?_
      refine j_aload (pc := 722) dL_isDone_722 rfl ?_
      refine j_aload (pc := 724) dL_isDone_724 rfl ?_
      refine j_aload (pc := 726) dL_isDone_726 rfl ?_
      refine j_iload (pc := 728) dL_isDone_728 rfl ?_
      obtain ⟨x14, w12, e13, h⟩ := obS2 h
      have ge13 := calSR_of e13
      refine j_callS_g (pc := 730) (As := [.ref a1, .ref a3, .ref a5, .ref a6, .ref a8, .ref a9, .int i13]) (k' := 0) (n' := 0) dL_isDone_730 (s_L_lifts ge13.1) (jgS lw_709 lw_710 lw_597 lw_708) rfl hy_L_lifts rfl (by decide) (by decide) (Nat.le_of_ble_eq_true rfl) (by decide) (by decide) (by decide) (by decide) (Or.inl ge13.2) ?_
      refine j_if_eq (pc := 733) (tgt := 740) dL_isDone_733 (by decide) (fun c15 => ?_) (fun c15 => ?_)
      · rw [if_pos c15] at h
        refine j_mask [true, false, false, false, false, false, false, false, false, true, false, false, false, true, true, false, false, false, false, false, false, false, false, false, false, false] ?_
        exact jm_L_isDone_b740 _ _ _ _ w12 h
      · rw [if_neg c15] at h
        refine j_iconst (pc := 736) dL_isDone_736 (v := 1) (by decide) ?_
        refine j_goto (pc := 737) (tgt := 741) dL_isDone_737 (by decide) ?_
        refine j_mask [true, false, false, false, false, false, false, false, false, true, false, false, false, true, true, false, false, false, false, false, false, false, false, false, false, false] ?_
        exact jm_L_isDone_b741 _ _ _ _ _ w12 h
def m_L_isDone_b669 (s0 : Int32) (s1 : Int32) (ws : LWd) : Option (Int32 × LWd) :=
  if s0 = s1 then
    some (1, ws)
  else
    some (0, ws)
set_option maxRecDepth 100000 in
set_option maxHeartbeats 4000000 in
theorem jm_L_isDone_b669 {n0 : Nat} {rr : Int32} {ws' : LWd} (s0 : Int32) (s1 : Int32) (ws : LWd) (h : m_L_isDone_b669 s0 s1 ws = some (rr, ws')) : JG (.inr none) cL_isDone 26 RL wsL_isDone (some .boolean) "isDone" 8 1 6 n0 (.inl (some (.int rr)), ws') 669 [none, none, none, none, none, none, none, none, none, none, none, none, none, none, none, none, none, none, none, none, none, none, none, none, none, none] [.int s1, .int s0] ws 1 6 := by
  unfold m_L_isDone_b669 at h
  refine j_icmp_ne (pc := 669) (tgt := 676) dL_isDone_669 (by decide) (fun c1 => ?_) (fun c1 => ?_)
  · rw [if_neg c1] at h
    refine j_iconst (pc := 676) dL_isDone_676 (v := 0) (by decide) ?_
    obtain ⟨rfl, rfl⟩ := jretS h
    exact j_zretL (pc := 677) (by decide) rfl dL_isDone_677 (by decide) (by decide) rfl
  · rw [if_pos c1] at h
    refine j_iconst (pc := 672) dL_isDone_672 (v := 1) (by decide) ?_
    refine j_goto (pc := 673) (tgt := 677) dL_isDone_673 (by decide) ?_
    obtain ⟨rfl, rfl⟩ := jretS h
    exact j_zretL (pc := 677) (by decide) rfl dL_isDone_677 (by decide) (by decide) rfl
def m_L_isDone_b640 (a0 : Nat) (a9 : Nat) (i13 : Int32) (ws : LWd) : Option (Int32 × LWd) :=
  bn2 (calSR ws (m_L_does a0 6 0 0 0 0 0 ws)) fun x3 w1 =>
  if i13 = 0 then
    m_L_isDone_b669 x3 ((-1000000)) w1
  else
    (aI w1 a9 8).bind fun x5 =>
    bn2 (calSR w1 (m_L_many x5 w1)) fun x9 w7 =>
    m_L_isDone_b669 x3 x9 w7
set_option maxRecDepth 100000 in
set_option maxHeartbeats 4000000 in
theorem jm_L_isDone_b640 {n0 : Nat} {rr : Int32} {ws' : LWd} (a0 : Nat) (a9 : Nat) (i13 : Int32) (ws : LWd) (h : m_L_isDone_b640 a0 a9 i13 ws = some (rr, ws')) : JG (.inr none) cL_isDone 26 RL wsL_isDone (some .boolean) "isDone" 8 1 6 n0 (.inl (some (.int rr)), ws') 640 [some (.ref a0), none, none, none, none, none, none, none, none, some (.ref a9), none, none, none, some (.int i13), none, none, none, none, none, none, none, none, none, none, none, none] [] ws 0 0 := by
  unfold m_L_isDone_b640 at h
  refine j_aload_n (pc := 640) dL_isDone_640 rfl ?_
  refine j_bipush (pc := 641) dL_isDone_641 (v := 6) (by decide) ?_
  refine j_iconst (pc := 643) dL_isDone_643 (v := 0) (by decide) ?_
  refine j_iconst (pc := 644) dL_isDone_644 (v := 0) (by decide) ?_
  refine j_iconst (pc := 645) dL_isDone_645 (v := 0) (by decide) ?_
  refine j_iconst (pc := 646) dL_isDone_646 (v := 0) (by decide) ?_
  refine j_iconst (pc := 647) dL_isDone_647 (v := 0) (by decide) ?_
  obtain ⟨x3, w1, e2, h⟩ := obS2 h
  have ge2 := calSR_of e2
  refine j_callSW (pc := 648) (As := [.ref a0, .int 6, .int 0, .int 0, .int 0, .int 0, .int 0]) (k' := 1) (n' := 6) dL_isDone_648 (fun q h => by cases h) (s_L_does ge2.1) (jgS lw_657 lw_658 lw_597 lw_656) rfl hy_L_does rfl (by decide) (by decide) (Nat.le_of_ble_eq_true rfl) (by decide) (by decide) (by decide) (by decide) ge2.2 ?_
  refine j_iload (pc := 651) dL_isDone_651 rfl ?_
  refine j_if_eq (pc := 653) (tgt := 667) dL_isDone_653 (by decide) (fun c4 => ?_) (fun c4 => ?_)
  · rw [if_pos c4] at h
    refine j_ldc (pc := 667) dL_isDone_667 (v := (-1000000)) (jwm lw_530) ?_
    refine j_mask [false, false, false, false, false, false, false, false, false, false, false, false, false, false, false, false, false, false, false, false, false, false, false, false, false, false] ?_
    exact jm_L_isDone_b669 _ _ w1 h
  · rw [if_neg c4] at h
    refine j_aload (pc := 656) dL_isDone_656 rfl ?_
    refine j_bipush (pc := 658) dL_isDone_658 (v := 8) (by decide) ?_
    obtain ⟨x5, e6, h⟩ := obS h
    refine j_iald (pc := 660) dL_isDone_660 e6 ?_
    obtain ⟨x9, w7, e8, h⟩ := obS2 h
    have ge8 := calSR_of e8
    refine j_callS_g (pc := 661) (As := [.int x5]) (k' := 1) (n' := 6) dL_isDone_661 (s_L_many ge8.1) (jgS lw_602 lw_603 lw_597 lw_601) rfl hy_L_many rfl (by decide) (by decide) (Nat.le_of_ble_eq_true rfl) (by decide) (by decide) (by decide) (by decide) (Or.inl ge8.2) ?_
    refine j_goto (pc := 664) (tgt := 669) dL_isDone_664 (by decide) ?_
    refine j_mask [false, false, false, false, false, false, false, false, false, false, false, false, false, false, false, false, false, false, false, false, false, false, false, false, false, false] ?_
    exact jm_L_isDone_b669 _ _ w7 h
def m_L_isDone_b621 (k545 : Nat → Nat → Nat → Nat → Nat → Nat → Nat → Nat → Nat → Int32 → Int32 → LWd → Option (Int32 × LWd)) (a0 : Nat) (a1 : Nat) (a2 : Nat) (a3 : Nat) (a4 : Nat) (a5 : Nat) (a6 : Nat) (a8 : Nat) (a9 : Nat) (i13 : Int32) (i14 : Int32) (ws : LWd) : Option (Int32 × LWd) :=
  k545 a0 a1 a2 a3 a4 a5 a6 a8 a9 i13 (i14 + 1) ws
set_option maxRecDepth 100000 in
set_option maxHeartbeats 4000000 in
theorem jm_L_isDone_b621 {n0 : Nat} {rr : Int32} {ws' : LWd} {k545 : Nat → Nat → Nat → Nat → Nat → Nat → Nat → Nat → Nat → Int32 → Int32 → LWd → Option (Int32 × LWd)} (hk545 : ∀ (a0 : Nat) (a1 : Nat) (a2 : Nat) (a3 : Nat) (a4 : Nat) (a5 : Nat) (a6 : Nat) (a8 : Nat) (a9 : Nat) (i13 : Int32) (i14 : Int32) (ws : LWd), k545 a0 a1 a2 a3 a4 a5 a6 a8 a9 i13 i14 ws = some (rr, ws') → JG (.inr none) cL_isDone 26 RL wsL_isDone (some .boolean) "isDone" 8 1 6 n0 (.inl (some (.int rr)), ws') 545 [some (.ref a0), some (.ref a1), some (.ref a2), some (.ref a3), some (.ref a4), some (.ref a5), some (.ref a6), none, some (.ref a8), some (.ref a9), none, none, none, some (.int i13), some (.int i14), none, none, none, none, none, none, none, none, none, none, none] [] ws 0 0) (a0 : Nat) (a1 : Nat) (a2 : Nat) (a3 : Nat) (a4 : Nat) (a5 : Nat) (a6 : Nat) (a8 : Nat) (a9 : Nat) (i13 : Int32) (i14 : Int32) (ws : LWd) (h : m_L_isDone_b621 k545 a0 a1 a2 a3 a4 a5 a6 a8 a9 i13 i14 ws = some (rr, ws')) : JG (.inr none) cL_isDone 26 RL wsL_isDone (some .boolean) "isDone" 8 1 6 n0 (.inl (some (.int rr)), ws') 621 [some (.ref a0), some (.ref a1), some (.ref a2), some (.ref a3), some (.ref a4), some (.ref a5), some (.ref a6), none, some (.ref a8), some (.ref a9), none, none, none, some (.int i13), some (.int i14), none, none, none, none, none, none, none, none, none, none, none] [] ws 0 0 := by
  unfold m_L_isDone_b621 at h
  refine j_iinc_14 (pc := 621) dL_isDone_621 (y := i14 + 1) rfl (by decide) rfl ?_
  refine j_goto (pc := 624) (tgt := 545) dL_isDone_624 (by decide) ?_
  exact hk545 _ _ _ _ _ _ _ _ _ _ _ ws h
def m_L_isDone_l545 : Nat → Nat → Nat → Nat → Nat → Nat → Nat → Nat → Nat → Nat → Int32 → Int32 → LWd → Option (Int32 × LWd)
  | 0, _, _, _, _, _, _, _, _, _, _, _, _ => none
  | fu + 1, a0, a1, a2, a3, a4, a5, a6, a8, a9, i13, i14, ws =>
    (aI ws a9 7).bind fun x1 =>
    if x1 ≤ i14 then
      (calSV ws (m_L_settles a1 a3 a5 a6 a8 a9 ws)).bind fun w4 =>
      m_L_isDone_b640 a0 a9 i13 w4
    else
      (aI ws a9 8).bind fun x6 =>
      bn2 (calSR ws (m_L_hipX a4 a9 i14 ws)) fun x10 w8 =>
      bn2 (calSR w8 (m_L_hipY a4 a9 i14 w8)) fun x13 w11 =>
      bn2 (calSR w11 (m_L_isTaken a5 a6 x6 x10 x13 w11)) fun x16 w14 =>
      if x16 = 0 then
        bn2 (calSR w14 (m_L_hipX a4 a9 i14 w14)) fun x20 w18 =>
        bn2 (calSR w18 (m_L_hipY a4 a9 i14 w18)) fun x23 w21 =>
        (calSV w21 (m_L_comes a1 a2 a4 a5 a6 a9 i14 x20 x23 w21)).bind fun w24 =>
        m_L_isDone_b621 (fun z0 z1 z2 z3 z4 z5 z6 z7 z8 z9 z10 w => m_L_isDone_l545 fu z0 z1 z2 z3 z4 z5 z6 z7 z8 z9 z10 w) a0 a1 a2 a3 a4 a5 a6 a8 a9 i13 i14 w24
      else
        m_L_isDone_b621 (fun z0 z1 z2 z3 z4 z5 z6 z7 z8 z9 z10 w => m_L_isDone_l545 fu z0 z1 z2 z3 z4 z5 z6 z7 z8 z9 z10 w) a0 a1 a2 a3 a4 a5 a6 a8 a9 i13 i14 w14
set_option maxRecDepth 100000 in
set_option maxHeartbeats 4000000 in
theorem jm_L_isDone_l545 {n0 : Nat} {rr : Int32} {ws' : LWd} : ∀ (fu : Nat) (a0 : Nat) (a1 : Nat) (a2 : Nat) (a3 : Nat) (a4 : Nat) (a5 : Nat) (a6 : Nat) (a8 : Nat) (a9 : Nat) (i13 : Int32) (i14 : Int32) (ws : LWd), m_L_isDone_l545 fu a0 a1 a2 a3 a4 a5 a6 a8 a9 i13 i14 ws = some (rr, ws') → JG (.inr none) cL_isDone 26 RL wsL_isDone (some .boolean) "isDone" 8 1 6 n0 (.inl (some (.int rr)), ws') 545 [some (.ref a0), some (.ref a1), some (.ref a2), some (.ref a3), some (.ref a4), some (.ref a5), some (.ref a6), none, some (.ref a8), some (.ref a9), none, none, none, some (.int i13), some (.int i14), none, none, none, none, none, none, none, none, none, none, none] [] ws 0 0 := by
  intro fu
  induction fu with
  | zero => intro a0 a1 a2 a3 a4 a5 a6 a8 a9 i13 i14 ws h; first | (cases h; done) | (rw [m_L_isDone_l545] at h; cases h)
  | succ fu ih =>
    intro a0 a1 a2 a3 a4 a5 a6 a8 a9 i13 i14 ws h
    rw [m_L_isDone_l545] at h
    refine j_iload (pc := 545) dL_isDone_545 rfl ?_
    refine j_aload (pc := 547) dL_isDone_547 rfl ?_
    refine j_bipush (pc := 549) dL_isDone_549 (v := 7) (by decide) ?_
    obtain ⟨x1, e2, h⟩ := obS h
    refine j_iald (pc := 551) dL_isDone_551 e2 ?_
    refine j_icmp_ge (pc := 552) (tgt := 627) dL_isDone_552 (by decide) (fun c3 => ?_) (fun c3 => ?_)
    · rw [if_pos c3] at h
      refine j_aload_n (pc := 627) dL_isDone_627 rfl ?_
      refine j_aload_n (pc := 628) dL_isDone_628 rfl ?_
      refine j_aload (pc := 629) dL_isDone_629 rfl ?_
      refine j_aload (pc := 631) dL_isDone_631 rfl ?_
      refine j_aload (pc := 633) dL_isDone_633 rfl ?_
      refine j_aload (pc := 635) dL_isDone_635 rfl ?_
      obtain ⟨w4, e5, h⟩ := obS h
      have ge5 := calSV_of e5
      refine j_callS_g (pc := 637) (As := [.ref a1, .ref a3, .ref a5, .ref a6, .ref a8, .ref a9]) (k' := 0) (n' := 0) dL_isDone_637 (s_L_settles ge5.1) (jgS lw_632 lw_633 lw_597 lw_631) rfl hy_L_settles rfl (by decide) (by decide) (Nat.le_of_ble_eq_true rfl) (by decide) (by decide) (by decide) (by decide) (Or.inl ge5.2) ?_
      refine j_mask [true, false, false, false, false, false, false, false, false, true, false, false, false, true, false, false, false, false, false, false, false, false, false, false, false, false] ?_
      exact jm_L_isDone_b640 _ _ _ w4 h
    · rw [if_neg c3] at h
      refine j_aload (pc := 555) dL_isDone_555 rfl ?_
      refine j_aload (pc := 557) dL_isDone_557 rfl ?_
      refine j_aload (pc := 559) dL_isDone_559 rfl ?_
      refine j_bipush (pc := 561) dL_isDone_561 (v := 8) (by decide) ?_
      obtain ⟨x6, e7, h⟩ := obS h
      refine j_iald (pc := 563) dL_isDone_563 e7 ?_
      refine j_aload (pc := 564) dL_isDone_564 rfl ?_
      refine j_aload (pc := 566) dL_isDone_566 rfl ?_
      refine j_iload (pc := 568) dL_isDone_568 rfl ?_
      obtain ⟨x10, w8, e9, h⟩ := obS2 h
      have ge9 := calSR_of e9
      refine j_callS_g (pc := 570) (As := [.ref a4, .ref a9, .int i14]) (k' := 0) (n' := 0) dL_isDone_570 (s_L_hipX ge9.1) (jgS lw_595 lw_596 lw_597 lw_594) rfl hy_L_hipX rfl (by decide) (by decide) (Nat.le_of_ble_eq_true rfl) (by decide) (by decide) (by decide) (by decide) (Or.inl ge9.2) ?_
      refine j_aload (pc := 573) dL_isDone_573 rfl ?_
      refine j_aload (pc := 575) dL_isDone_575 rfl ?_
      refine j_iload (pc := 577) dL_isDone_577 rfl ?_
      obtain ⟨x13, w11, e12, h⟩ := obS2 h
      have ge12 := calSR_of e12
      refine j_callS_g (pc := 579) (As := [.ref a4, .ref a9, .int i14]) (k' := 0) (n' := 0) dL_isDone_579 (s_L_hipY ge12.1) (jgS lw_599 lw_600 lw_597 lw_598) rfl hy_L_hipY rfl (by decide) (by decide) (Nat.le_of_ble_eq_true rfl) (by decide) (by decide) (by decide) (by decide) (Or.inl ge12.2) ?_
      obtain ⟨x16, w14, e15, h⟩ := obS2 h
      have ge15 := calSR_of e15
      refine j_callS_g (pc := 582) (As := [.ref a5, .ref a6, .int x6, .int x10, .int x13]) (k' := 0) (n' := 0) dL_isDone_582 (s_L_isTaken ge15.1) (jgS lw_629 lw_630 lw_597 lw_628) rfl hy_L_isTaken rfl (by decide) (by decide) (Nat.le_of_ble_eq_true rfl) (by decide) (by decide) (by decide) (by decide) (Or.inl ge15.2) ?_
      refine j_if_ne (pc := 585) (tgt := 621) dL_isDone_585 (by decide) (fun c17 => ?_) (fun c17 => ?_)
      · rw [if_neg c17] at h
        exact jm_L_isDone_b621 (hk545 := ih) _ _ _ _ _ _ _ _ _ _ _ w14 h
      · rw [if_pos c17] at h
        refine j_aload_n (pc := 588) dL_isDone_588 rfl ?_
        refine j_aload_n (pc := 589) dL_isDone_589 rfl ?_
        refine j_aload (pc := 590) dL_isDone_590 rfl ?_
        refine j_aload (pc := 592) dL_isDone_592 rfl ?_
        refine j_aload (pc := 594) dL_isDone_594 rfl ?_
        refine j_aload (pc := 596) dL_isDone_596 rfl ?_
        refine j_iload (pc := 598) dL_isDone_598 rfl ?_
        refine j_aload (pc := 600) dL_isDone_600 rfl ?_
        refine j_aload (pc := 602) dL_isDone_602 rfl ?_
        refine j_iload (pc := 604) dL_isDone_604 rfl ?_
        obtain ⟨x20, w18, e19, h⟩ := obS2 h
        have ge19 := calSR_of e19
        refine j_callS_g (pc := 606) (As := [.ref a4, .ref a9, .int i14]) (k' := 0) (n' := 0) dL_isDone_606 (s_L_hipX ge19.1) (jgS lw_595 lw_596 lw_597 lw_594) rfl hy_L_hipX rfl (by decide) (by decide) (Nat.le_of_ble_eq_true rfl) (by decide) (by decide) (by decide) (by decide) (Or.inl ge19.2) ?_
        refine j_aload (pc := 609) dL_isDone_609 rfl ?_
        refine j_aload (pc := 611) dL_isDone_611 rfl ?_
        refine j_iload (pc := 613) dL_isDone_613 rfl ?_
        obtain ⟨x23, w21, e22, h⟩ := obS2 h
        have ge22 := calSR_of e22
        refine j_callS_g (pc := 615) (As := [.ref a4, .ref a9, .int i14]) (k' := 0) (n' := 0) dL_isDone_615 (s_L_hipY ge22.1) (jgS lw_599 lw_600 lw_597 lw_598) rfl hy_L_hipY rfl (by decide) (by decide) (Nat.le_of_ble_eq_true rfl) (by decide) (by decide) (by decide) (by decide) (Or.inl ge22.2) ?_
        obtain ⟨w24, e25, h⟩ := obS h
        have ge25 := calSV_of e25
        refine j_callS_g (pc := 618) (As := [.ref a1, .ref a2, .ref a4, .ref a5, .ref a6, .ref a9, .int i14, .int x20, .int x23]) (k' := 0) (n' := 0) dL_isDone_618 (s_L_comes ge25.1) (jgS lw_635 lw_636 lw_597 lw_634) rfl hy_L_comes rfl (by decide) (by decide) (Nat.le_of_ble_eq_true rfl) (by decide) (by decide) (by decide) (by decide) (Or.inl ge25.2) ?_
        exact jm_L_isDone_b621 (hk545 := ih) _ _ _ _ _ _ _ _ _ _ _ w24 h
def m_L_isDone_b503 (a0 : Nat) (a1 : Nat) (a2 : Nat) (a3 : Nat) (a4 : Nat) (a5 : Nat) (a6 : Nat) (a8 : Nat) (a9 : Nat) (s0 : Int32) (ws : LWd) : Option (Int32 × LWd) :=
  (sI ws a9 14 0).bind fun w1 =>
  if s0 = 0 then
    m_L_isDone_b640 a0 a9 s0 w1
  else
    (aI w1 a9 3).bind fun x4 =>
    (sI w1 a9 3 (x4 - 20)).bind fun w6 =>
    (sI w6 a9 0 1).bind fun w8 =>
    (sI w8 a9 9 0).bind fun w10 =>
    (sI w10 a9 10 0).bind fun w12 =>
    m_L_isDone_l545 FU a0 a1 a2 a3 a4 a5 a6 a8 a9 s0 0 w12
set_option maxRecDepth 100000 in
set_option maxHeartbeats 4000000 in
theorem jm_L_isDone_b503 {n0 : Nat} {rr : Int32} {ws' : LWd} (a0 : Nat) (a1 : Nat) (a2 : Nat) (a3 : Nat) (a4 : Nat) (a5 : Nat) (a6 : Nat) (a8 : Nat) (a9 : Nat) (s0 : Int32) (ws : LWd) (h : m_L_isDone_b503 a0 a1 a2 a3 a4 a5 a6 a8 a9 s0 ws = some (rr, ws')) : JG (.inr none) cL_isDone 26 RL wsL_isDone (some .boolean) "isDone" 8 1 6 n0 (.inl (some (.int rr)), ws') 503 [some (.ref a0), some (.ref a1), some (.ref a2), some (.ref a3), some (.ref a4), some (.ref a5), some (.ref a6), none, some (.ref a8), some (.ref a9), none, none, none, none, none, none, none, none, none, none, none, none, none, none, none, none] [.int s0] ws 0 0 := by
  unfold m_L_isDone_b503 at h
  refine j_istore_13 (pc := 503) dL_isDone_503 (by decide) rfl ?_
  refine j_aload (pc := 505) dL_isDone_505 rfl ?_
  refine j_bipush (pc := 507) dL_isDone_507 (v := 14) (by decide) ?_
  refine j_iconst (pc := 509) dL_isDone_509 (v := 0) (by decide) ?_
  obtain ⟨w1, e2, h⟩ := obS h
  refine j_iast (pc := 510) dL_isDone_510 e2 ?_
  refine j_iload (pc := 511) dL_isDone_511 rfl ?_
  refine j_if_eq (pc := 513) (tgt := 640) dL_isDone_513 (by decide) (fun c3 => ?_) (fun c3 => ?_)
  · rw [if_pos c3] at h
    refine j_mask [true, false, false, false, false, false, false, false, false, true, false, false, false, true, false, false, false, false, false, false, false, false, false, false, false, false] ?_
    exact jm_L_isDone_b640 _ _ _ w1 h
  · rw [if_neg c3] at h
    refine j_aload (pc := 516) dL_isDone_516 rfl ?_
    refine j_iconst (pc := 518) dL_isDone_518 (v := 3) (by decide) ?_
    refine j_dup2 (pc := 519) dL_isDone_519 rfl rfl ?_
    obtain ⟨x4, e5, h⟩ := obS h
    refine j_iald (pc := 520) dL_isDone_520 e5 ?_
    refine j_bipush (pc := 521) dL_isDone_521 (v := 20) (by decide) ?_
    refine j_isub (pc := 523) dL_isDone_523 ?_
    obtain ⟨w6, e7, h⟩ := obS h
    refine j_iast (pc := 524) dL_isDone_524 e7 ?_
    refine j_aload (pc := 525) dL_isDone_525 rfl ?_
    refine j_iconst (pc := 527) dL_isDone_527 (v := 0) (by decide) ?_
    refine j_iconst (pc := 528) dL_isDone_528 (v := 1) (by decide) ?_
    obtain ⟨w8, e9, h⟩ := obS h
    refine j_iast (pc := 529) dL_isDone_529 e9 ?_
    refine j_aload (pc := 530) dL_isDone_530 rfl ?_
    refine j_bipush (pc := 532) dL_isDone_532 (v := 9) (by decide) ?_
    refine j_iconst (pc := 534) dL_isDone_534 (v := 0) (by decide) ?_
    obtain ⟨w10, e11, h⟩ := obS h
    refine j_iast (pc := 535) dL_isDone_535 e11 ?_
    refine j_aload (pc := 536) dL_isDone_536 rfl ?_
    refine j_bipush (pc := 538) dL_isDone_538 (v := 10) (by decide) ?_
    refine j_iconst (pc := 540) dL_isDone_540 (v := 0) (by decide) ?_
    obtain ⟨w12, e13, h⟩ := obS h
    refine j_iast (pc := 541) dL_isDone_541 e13 ?_
    refine j_iconst (pc := 542) dL_isDone_542 (v := 0) (by decide) ?_
    refine j_istore_14 (pc := 543) dL_isDone_543 (by decide) rfl ?_
    exact jm_L_isDone_l545 FU _ _ _ _ _ _ _ _ _ _ _ w12 h
def m_L_isDone_b502 (a0 : Nat) (a1 : Nat) (a2 : Nat) (a3 : Nat) (a4 : Nat) (a5 : Nat) (a6 : Nat) (a8 : Nat) (a9 : Nat) (ws : LWd) : Option (Int32 × LWd) :=
  m_L_isDone_b503 a0 a1 a2 a3 a4 a5 a6 a8 a9 0 ws
set_option maxRecDepth 100000 in
set_option maxHeartbeats 4000000 in
theorem jm_L_isDone_b502 {n0 : Nat} {rr : Int32} {ws' : LWd} (a0 : Nat) (a1 : Nat) (a2 : Nat) (a3 : Nat) (a4 : Nat) (a5 : Nat) (a6 : Nat) (a8 : Nat) (a9 : Nat) (ws : LWd) (h : m_L_isDone_b502 a0 a1 a2 a3 a4 a5 a6 a8 a9 ws = some (rr, ws')) : JG (.inr none) cL_isDone 26 RL wsL_isDone (some .boolean) "isDone" 8 1 6 n0 (.inl (some (.int rr)), ws') 502 [some (.ref a0), some (.ref a1), some (.ref a2), some (.ref a3), some (.ref a4), some (.ref a5), some (.ref a6), none, some (.ref a8), some (.ref a9), none, none, none, none, none, none, none, none, none, none, none, none, none, none, none, none] [] ws 0 0 := by
  unfold m_L_isDone_b502 at h
  refine j_iconst (pc := 502) dL_isDone_502 (v := 0) (by decide) ?_
  exact jm_L_isDone_b503 _ _ _ _ _ _ _ _ _ _ ws h
def m_L_isDone_b472 (a0 : Nat) (a1 : Nat) (a2 : Nat) (a3 : Nat) (a4 : Nat) (a5 : Nat) (a6 : Nat) (a8 : Nat) (a9 : Nat) (i13 : Int32) (ws : LWd) : Option (Int32 × LWd) :=
  if i13 = 0 then
    m_L_isDone_b502 a0 a1 a2 a3 a4 a5 a6 a8 a9 ws
  else
    (aI ws a9 7).bind fun x2 =>
    bn2 (calSR ws (m_L_holds a5 a6 a9 ((1 <<< (x2 &&& 31)) - 1) ws)) fun x6 w4 =>
    if x6 = 0 then
      m_L_isDone_b502 a0 a1 a2 a3 a4 a5 a6 a8 a9 w4
    else
      m_L_isDone_b503 a0 a1 a2 a3 a4 a5 a6 a8 a9 1 w4
set_option maxRecDepth 100000 in
set_option maxHeartbeats 4000000 in
theorem jm_L_isDone_b472 {n0 : Nat} {rr : Int32} {ws' : LWd} (a0 : Nat) (a1 : Nat) (a2 : Nat) (a3 : Nat) (a4 : Nat) (a5 : Nat) (a6 : Nat) (a8 : Nat) (a9 : Nat) (i13 : Int32) (ws : LWd) (h : m_L_isDone_b472 a0 a1 a2 a3 a4 a5 a6 a8 a9 i13 ws = some (rr, ws')) : JG (.inr none) cL_isDone 26 RL wsL_isDone (some .boolean) "isDone" 8 1 6 n0 (.inl (some (.int rr)), ws') 472 [some (.ref a0), some (.ref a1), some (.ref a2), some (.ref a3), some (.ref a4), some (.ref a5), some (.ref a6), none, some (.ref a8), some (.ref a9), none, none, none, some (.int i13), none, none, none, none, none, none, none, none, none, none, none, none] [] ws 0 0 := by
  unfold m_L_isDone_b472 at h
  refine j_iload (pc := 472) dL_isDone_472 rfl ?_
  refine j_if_eq (pc := 474) (tgt := 502) dL_isDone_474 (by decide) (fun c1 => ?_) (fun c1 => ?_)
  · rw [if_pos c1] at h
    refine j_mask [true, true, true, true, true, true, true, false, true, true, false, false, false, false, false, false, false, false, false, false, false, false, false, false, false, false] ?_
    exact jm_L_isDone_b502 _ _ _ _ _ _ _ _ _ ws h
  · rw [if_neg c1] at h
    refine j_aload (pc := 477) dL_isDone_477 rfl ?_
    refine j_aload (pc := 479) dL_isDone_479 rfl ?_
    refine j_aload (pc := 481) dL_isDone_481 rfl ?_
    refine j_iconst (pc := 483) dL_isDone_483 (v := 1) (by decide) ?_
    refine j_aload (pc := 484) dL_isDone_484 rfl ?_
    refine j_bipush (pc := 486) dL_isDone_486 (v := 7) (by decide) ?_
    obtain ⟨x2, e3, h⟩ := obS h
    refine j_iald (pc := 488) dL_isDone_488 e3 ?_
    refine j_ishl (pc := 489) dL_isDone_489 ?_
    refine j_iconst (pc := 490) dL_isDone_490 (v := 1) (by decide) ?_
    refine j_isub (pc := 491) dL_isDone_491 ?_
    obtain ⟨x6, w4, e5, h⟩ := obS2 h
    have ge5 := calSR_of e5
    refine j_callS_g (pc := 492) (As := [.ref a5, .ref a6, .ref a9, .int ((1 <<< (x2 &&& 31)) - 1)]) (k' := 0) (n' := 0) dL_isDone_492 (s_L_holds ge5.1) (jgS lw_623 lw_624 lw_597 lw_622) rfl hy_L_holds rfl (by decide) (by decide) (Nat.le_of_ble_eq_true rfl) (by decide) (by decide) (by decide) (by decide) (Or.inl ge5.2) ?_
    refine j_if_eq (pc := 495) (tgt := 502) dL_isDone_495 (by decide) (fun c7 => ?_) (fun c7 => ?_)
    · rw [if_pos c7] at h
      refine j_mask [true, true, true, true, true, true, true, false, true, true, false, false, false, false, false, false, false, false, false, false, false, false, false, false, false, false] ?_
      exact jm_L_isDone_b502 _ _ _ _ _ _ _ _ _ w4 h
    · rw [if_neg c7] at h
      refine j_iconst (pc := 498) dL_isDone_498 (v := 1) (by decide) ?_
      refine j_goto (pc := 499) (tgt := 503) dL_isDone_499 (by decide) ?_
      refine j_mask [true, true, true, true, true, true, true, false, true, true, false, false, false, false, false, false, false, false, false, false, false, false, false, false, false, false] ?_
      exact jm_L_isDone_b503 _ _ _ _ _ _ _ _ _ _ w4 h
def m_L_isDone_b466 (k294 : Nat → Nat → Nat → Nat → Nat → Nat → Nat → Nat → Nat → Int32 → Int32 → LWd → Option (Int32 × LWd)) (a0 : Nat) (a1 : Nat) (a2 : Nat) (a3 : Nat) (a4 : Nat) (a5 : Nat) (a6 : Nat) (a8 : Nat) (a9 : Nat) (i13 : Int32) (i14 : Int32) (ws : LWd) : Option (Int32 × LWd) :=
  k294 a0 a1 a2 a3 a4 a5 a6 a8 a9 i13 (i14 + 1) ws
set_option maxRecDepth 100000 in
set_option maxHeartbeats 4000000 in
theorem jm_L_isDone_b466 {n0 : Nat} {rr : Int32} {ws' : LWd} {k294 : Nat → Nat → Nat → Nat → Nat → Nat → Nat → Nat → Nat → Int32 → Int32 → LWd → Option (Int32 × LWd)} (hk294 : ∀ (a0 : Nat) (a1 : Nat) (a2 : Nat) (a3 : Nat) (a4 : Nat) (a5 : Nat) (a6 : Nat) (a8 : Nat) (a9 : Nat) (i13 : Int32) (i14 : Int32) (ws : LWd), k294 a0 a1 a2 a3 a4 a5 a6 a8 a9 i13 i14 ws = some (rr, ws') → JG (.inr none) cL_isDone 26 RL wsL_isDone (some .boolean) "isDone" 8 1 6 n0 (.inl (some (.int rr)), ws') 294 [some (.ref a0), some (.ref a1), some (.ref a2), some (.ref a3), some (.ref a4), some (.ref a5), some (.ref a6), none, some (.ref a8), some (.ref a9), none, none, none, some (.int i13), some (.int i14), none, none, none, none, none, none, none, none, none, none, none] [] ws 0 0) (a0 : Nat) (a1 : Nat) (a2 : Nat) (a3 : Nat) (a4 : Nat) (a5 : Nat) (a6 : Nat) (a8 : Nat) (a9 : Nat) (i13 : Int32) (i14 : Int32) (ws : LWd) (h : m_L_isDone_b466 k294 a0 a1 a2 a3 a4 a5 a6 a8 a9 i13 i14 ws = some (rr, ws')) : JG (.inr none) cL_isDone 26 RL wsL_isDone (some .boolean) "isDone" 8 1 6 n0 (.inl (some (.int rr)), ws') 466 [some (.ref a0), some (.ref a1), some (.ref a2), some (.ref a3), some (.ref a4), some (.ref a5), some (.ref a6), none, some (.ref a8), some (.ref a9), none, none, none, some (.int i13), some (.int i14), none, none, none, none, none, none, none, none, none, none, none] [] ws 0 0 := by
  unfold m_L_isDone_b466 at h
  refine j_iinc_14 (pc := 466) dL_isDone_466 (y := i14 + 1) rfl (by decide) rfl ?_
  refine j_goto (pc := 469) (tgt := 294) dL_isDone_469 (by decide) ?_
  exact hk294 _ _ _ _ _ _ _ _ _ _ _ ws h
def m_L_isDone_b458 (k294 : Nat → Nat → Nat → Nat → Nat → Nat → Nat → Nat → Nat → Int32 → Int32 → LWd → Option (Int32 × LWd)) (k355 : Nat → Nat → Nat → Nat → Nat → Nat → Nat → Nat → Nat → Int32 → Int32 → Int32 → LWd → Option (Int32 × LWd)) (a0 : Nat) (a1 : Nat) (a2 : Nat) (a3 : Nat) (a4 : Nat) (a5 : Nat) (a6 : Nat) (a8 : Nat) (a9 : Nat) (i14 : Int32) (i15 : Int32) (s0 : Int32) (ws : LWd) : Option (Int32 × LWd) :=
  k355 a0 a1 a2 a3 a4 a5 a6 a8 a9 s0 i14 (i15 + 1) ws
set_option maxRecDepth 100000 in
set_option maxHeartbeats 4000000 in
theorem jm_L_isDone_b458 {n0 : Nat} {rr : Int32} {ws' : LWd} {k294 : Nat → Nat → Nat → Nat → Nat → Nat → Nat → Nat → Nat → Int32 → Int32 → LWd → Option (Int32 × LWd)} {k355 : Nat → Nat → Nat → Nat → Nat → Nat → Nat → Nat → Nat → Int32 → Int32 → Int32 → LWd → Option (Int32 × LWd)} (hk294 : ∀ (a0 : Nat) (a1 : Nat) (a2 : Nat) (a3 : Nat) (a4 : Nat) (a5 : Nat) (a6 : Nat) (a8 : Nat) (a9 : Nat) (i13 : Int32) (i14 : Int32) (ws : LWd), k294 a0 a1 a2 a3 a4 a5 a6 a8 a9 i13 i14 ws = some (rr, ws') → JG (.inr none) cL_isDone 26 RL wsL_isDone (some .boolean) "isDone" 8 1 6 n0 (.inl (some (.int rr)), ws') 294 [some (.ref a0), some (.ref a1), some (.ref a2), some (.ref a3), some (.ref a4), some (.ref a5), some (.ref a6), none, some (.ref a8), some (.ref a9), none, none, none, some (.int i13), some (.int i14), none, none, none, none, none, none, none, none, none, none, none] [] ws 0 0) (hk355 : ∀ (a0 : Nat) (a1 : Nat) (a2 : Nat) (a3 : Nat) (a4 : Nat) (a5 : Nat) (a6 : Nat) (a8 : Nat) (a9 : Nat) (i13 : Int32) (i14 : Int32) (i15 : Int32) (ws : LWd), k355 a0 a1 a2 a3 a4 a5 a6 a8 a9 i13 i14 i15 ws = some (rr, ws') → JG (.inr none) cL_isDone 26 RL wsL_isDone (some .boolean) "isDone" 8 1 6 n0 (.inl (some (.int rr)), ws') 355 [some (.ref a0), some (.ref a1), some (.ref a2), some (.ref a3), some (.ref a4), some (.ref a5), some (.ref a6), none, some (.ref a8), some (.ref a9), none, none, none, some (.int i13), some (.int i14), some (.int i15), none, none, none, none, none, none, none, none, none, none] [] ws 0 0) (a0 : Nat) (a1 : Nat) (a2 : Nat) (a3 : Nat) (a4 : Nat) (a5 : Nat) (a6 : Nat) (a8 : Nat) (a9 : Nat) (i14 : Int32) (i15 : Int32) (s0 : Int32) (ws : LWd) (h : m_L_isDone_b458 k294 k355 a0 a1 a2 a3 a4 a5 a6 a8 a9 i14 i15 s0 ws = some (rr, ws')) : JG (.inr none) cL_isDone 26 RL wsL_isDone (some .boolean) "isDone" 8 1 6 n0 (.inl (some (.int rr)), ws') 458 [some (.ref a0), some (.ref a1), some (.ref a2), some (.ref a3), some (.ref a4), some (.ref a5), some (.ref a6), none, some (.ref a8), some (.ref a9), none, none, none, none, some (.int i14), some (.int i15), none, none, none, none, none, none, none, none, none, none] [.int s0] ws 0 0 := by
  unfold m_L_isDone_b458 at h
  refine j_istore_13 (pc := 458) dL_isDone_458 (by decide) rfl ?_
  refine j_iinc_15 (pc := 460) dL_isDone_460 (y := i15 + 1) rfl (by decide) rfl ?_
  refine j_goto (pc := 463) (tgt := 355) dL_isDone_463 (by decide) ?_
  exact hk355 _ _ _ _ _ _ _ _ _ _ _ _ ws h
def m_L_isDone_b457 (k294 : Nat → Nat → Nat → Nat → Nat → Nat → Nat → Nat → Nat → Int32 → Int32 → LWd → Option (Int32 × LWd)) (k355 : Nat → Nat → Nat → Nat → Nat → Nat → Nat → Nat → Nat → Int32 → Int32 → Int32 → LWd → Option (Int32 × LWd)) (a0 : Nat) (a1 : Nat) (a2 : Nat) (a3 : Nat) (a4 : Nat) (a5 : Nat) (a6 : Nat) (a8 : Nat) (a9 : Nat) (i14 : Int32) (i15 : Int32) (ws : LWd) : Option (Int32 × LWd) :=
  m_L_isDone_b458 k294 k355 a0 a1 a2 a3 a4 a5 a6 a8 a9 i14 i15 0 ws
set_option maxRecDepth 100000 in
set_option maxHeartbeats 4000000 in
theorem jm_L_isDone_b457 {n0 : Nat} {rr : Int32} {ws' : LWd} {k294 : Nat → Nat → Nat → Nat → Nat → Nat → Nat → Nat → Nat → Int32 → Int32 → LWd → Option (Int32 × LWd)} {k355 : Nat → Nat → Nat → Nat → Nat → Nat → Nat → Nat → Nat → Int32 → Int32 → Int32 → LWd → Option (Int32 × LWd)} (hk294 : ∀ (a0 : Nat) (a1 : Nat) (a2 : Nat) (a3 : Nat) (a4 : Nat) (a5 : Nat) (a6 : Nat) (a8 : Nat) (a9 : Nat) (i13 : Int32) (i14 : Int32) (ws : LWd), k294 a0 a1 a2 a3 a4 a5 a6 a8 a9 i13 i14 ws = some (rr, ws') → JG (.inr none) cL_isDone 26 RL wsL_isDone (some .boolean) "isDone" 8 1 6 n0 (.inl (some (.int rr)), ws') 294 [some (.ref a0), some (.ref a1), some (.ref a2), some (.ref a3), some (.ref a4), some (.ref a5), some (.ref a6), none, some (.ref a8), some (.ref a9), none, none, none, some (.int i13), some (.int i14), none, none, none, none, none, none, none, none, none, none, none] [] ws 0 0) (hk355 : ∀ (a0 : Nat) (a1 : Nat) (a2 : Nat) (a3 : Nat) (a4 : Nat) (a5 : Nat) (a6 : Nat) (a8 : Nat) (a9 : Nat) (i13 : Int32) (i14 : Int32) (i15 : Int32) (ws : LWd), k355 a0 a1 a2 a3 a4 a5 a6 a8 a9 i13 i14 i15 ws = some (rr, ws') → JG (.inr none) cL_isDone 26 RL wsL_isDone (some .boolean) "isDone" 8 1 6 n0 (.inl (some (.int rr)), ws') 355 [some (.ref a0), some (.ref a1), some (.ref a2), some (.ref a3), some (.ref a4), some (.ref a5), some (.ref a6), none, some (.ref a8), some (.ref a9), none, none, none, some (.int i13), some (.int i14), some (.int i15), none, none, none, none, none, none, none, none, none, none] [] ws 0 0) (a0 : Nat) (a1 : Nat) (a2 : Nat) (a3 : Nat) (a4 : Nat) (a5 : Nat) (a6 : Nat) (a8 : Nat) (a9 : Nat) (i14 : Int32) (i15 : Int32) (ws : LWd) (h : m_L_isDone_b457 k294 k355 a0 a1 a2 a3 a4 a5 a6 a8 a9 i14 i15 ws = some (rr, ws')) : JG (.inr none) cL_isDone 26 RL wsL_isDone (some .boolean) "isDone" 8 1 6 n0 (.inl (some (.int rr)), ws') 457 [some (.ref a0), some (.ref a1), some (.ref a2), some (.ref a3), some (.ref a4), some (.ref a5), some (.ref a6), none, some (.ref a8), some (.ref a9), none, none, none, none, some (.int i14), some (.int i15), none, none, none, none, none, none, none, none, none, none] [] ws 0 0 := by
  unfold m_L_isDone_b457 at h
  refine j_iconst (pc := 457) dL_isDone_457 (v := 0) (by decide) ?_
  exact jm_L_isDone_b458 (hk294 := hk294) (hk355 := hk355) _ _ _ _ _ _ _ _ _ _ _ _ ws h
def m_L_isDone_b453 (k294 : Nat → Nat → Nat → Nat → Nat → Nat → Nat → Nat → Nat → Int32 → Int32 → LWd → Option (Int32 × LWd)) (k355 : Nat → Nat → Nat → Nat → Nat → Nat → Nat → Nat → Nat → Int32 → Int32 → Int32 → LWd → Option (Int32 × LWd)) (a0 : Nat) (a1 : Nat) (a2 : Nat) (a3 : Nat) (a4 : Nat) (a5 : Nat) (a6 : Nat) (a8 : Nat) (a9 : Nat) (i14 : Int32) (i15 : Int32) (ws : LWd) : Option (Int32 × LWd) :=
  m_L_isDone_b458 k294 k355 a0 a1 a2 a3 a4 a5 a6 a8 a9 i14 i15 1 ws
set_option maxRecDepth 100000 in
set_option maxHeartbeats 4000000 in
theorem jm_L_isDone_b453 {n0 : Nat} {rr : Int32} {ws' : LWd} {k294 : Nat → Nat → Nat → Nat → Nat → Nat → Nat → Nat → Nat → Int32 → Int32 → LWd → Option (Int32 × LWd)} {k355 : Nat → Nat → Nat → Nat → Nat → Nat → Nat → Nat → Nat → Int32 → Int32 → Int32 → LWd → Option (Int32 × LWd)} (hk294 : ∀ (a0 : Nat) (a1 : Nat) (a2 : Nat) (a3 : Nat) (a4 : Nat) (a5 : Nat) (a6 : Nat) (a8 : Nat) (a9 : Nat) (i13 : Int32) (i14 : Int32) (ws : LWd), k294 a0 a1 a2 a3 a4 a5 a6 a8 a9 i13 i14 ws = some (rr, ws') → JG (.inr none) cL_isDone 26 RL wsL_isDone (some .boolean) "isDone" 8 1 6 n0 (.inl (some (.int rr)), ws') 294 [some (.ref a0), some (.ref a1), some (.ref a2), some (.ref a3), some (.ref a4), some (.ref a5), some (.ref a6), none, some (.ref a8), some (.ref a9), none, none, none, some (.int i13), some (.int i14), none, none, none, none, none, none, none, none, none, none, none] [] ws 0 0) (hk355 : ∀ (a0 : Nat) (a1 : Nat) (a2 : Nat) (a3 : Nat) (a4 : Nat) (a5 : Nat) (a6 : Nat) (a8 : Nat) (a9 : Nat) (i13 : Int32) (i14 : Int32) (i15 : Int32) (ws : LWd), k355 a0 a1 a2 a3 a4 a5 a6 a8 a9 i13 i14 i15 ws = some (rr, ws') → JG (.inr none) cL_isDone 26 RL wsL_isDone (some .boolean) "isDone" 8 1 6 n0 (.inl (some (.int rr)), ws') 355 [some (.ref a0), some (.ref a1), some (.ref a2), some (.ref a3), some (.ref a4), some (.ref a5), some (.ref a6), none, some (.ref a8), some (.ref a9), none, none, none, some (.int i13), some (.int i14), some (.int i15), none, none, none, none, none, none, none, none, none, none] [] ws 0 0) (a0 : Nat) (a1 : Nat) (a2 : Nat) (a3 : Nat) (a4 : Nat) (a5 : Nat) (a6 : Nat) (a8 : Nat) (a9 : Nat) (i14 : Int32) (i15 : Int32) (ws : LWd) (h : m_L_isDone_b453 k294 k355 a0 a1 a2 a3 a4 a5 a6 a8 a9 i14 i15 ws = some (rr, ws')) : JG (.inr none) cL_isDone 26 RL wsL_isDone (some .boolean) "isDone" 8 1 6 n0 (.inl (some (.int rr)), ws') 453 [some (.ref a0), some (.ref a1), some (.ref a2), some (.ref a3), some (.ref a4), some (.ref a5), some (.ref a6), none, some (.ref a8), some (.ref a9), none, none, none, none, some (.int i14), some (.int i15), none, none, none, none, none, none, none, none, none, none] [] ws 0 0 := by
  unfold m_L_isDone_b453 at h
  refine j_iconst (pc := 453) dL_isDone_453 (v := 1) (by decide) ?_
  refine j_goto (pc := 454) (tgt := 458) dL_isDone_454 (by decide) ?_
  exact jm_L_isDone_b458 (hk294 := hk294) (hk355 := hk355) _ _ _ _ _ _ _ _ _ _ _ _ ws h
def m_L_isDone_l355 (k294 : Nat → Nat → Nat → Nat → Nat → Nat → Nat → Nat → Nat → Int32 → Int32 → LWd → Option (Int32 × LWd)) : Nat → Nat → Nat → Nat → Nat → Nat → Nat → Nat → Nat → Nat → Int32 → Int32 → Int32 → LWd → Option (Int32 × LWd)
  | 0, _, _, _, _, _, _, _, _, _, _, _, _, _ => none
  | fu + 1, a0, a1, a2, a3, a4, a5, a6, a8, a9, i13, i14, i15, ws =>
    if i14 ≤ i15 then
      m_L_isDone_b466 k294 a0 a1 a2 a3 a4 a5 a6 a8 a9 i13 i14 ws
    else
      if i13 = 0 then
        m_L_isDone_b466 k294 a0 a1 a2 a3 a4 a5 a6 a8 a9 i13 i14 ws
      else
        (aI ws a6 i14).bind fun x3 =>
        (aI ws a5 i14).bind fun x5 =>
        bn2 (calSR ws (m_L_four a1 ((400 + (20 * x3)) + x5) ws)) fun x9 w7 =>
        (aI w7 a6 i15).bind fun x10 =>
        (aI w7 a5 i15).bind fun x12 =>
        bn2 (calSR w7 (m_L_four a1 ((400 + (20 * x10)) + x12) w7)) fun x16 w14 =>
        if 3 ≤ (x9 - x16) then
          m_L_isDone_b457 k294 (fun z0 z1 z2 z3 z4 z5 z6 z7 z8 z9 z10 z11 w => m_L_isDone_l355 k294 fu z0 z1 z2 z3 z4 z5 z6 z7 z8 z9 z10 z11 w) a0 a1 a2 a3 a4 a5 a6 a8 a9 i14 i15 w14
        else
          if (x9 - x16) ≤ ((-3)) then
            m_L_isDone_b457 k294 (fun z0 z1 z2 z3 z4 z5 z6 z7 z8 z9 z10 z11 w => m_L_isDone_l355 k294 fu z0 z1 z2 z3 z4 z5 z6 z7 z8 z9 z10 z11 w) a0 a1 a2 a3 a4 a5 a6 a8 a9 i14 i15 w14
          else
            (aI w14 a5 i15).bind fun x19 =>
            (aI w14 a5 i14).bind fun x21 =>
            if x19 = x21 then
              (aI w14 a6 i15).bind fun x24 =>
              (aI w14 a6 i14).bind fun x26 =>
              if x24 = x26 then
                m_L_isDone_b457 k294 (fun z0 z1 z2 z3 z4 z5 z6 z7 z8 z9 z10 z11 w => m_L_isDone_l355 k294 fu z0 z1 z2 z3 z4 z5 z6 z7 z8 z9 z10 z11 w) a0 a1 a2 a3 a4 a5 a6 a8 a9 i14 i15 w14
              else
                m_L_isDone_b453 k294 (fun z0 z1 z2 z3 z4 z5 z6 z7 z8 z9 z10 z11 w => m_L_isDone_l355 k294 fu z0 z1 z2 z3 z4 z5 z6 z7 z8 z9 z10 z11 w) a0 a1 a2 a3 a4 a5 a6 a8 a9 i14 i15 w14
            else
              m_L_isDone_b453 k294 (fun z0 z1 z2 z3 z4 z5 z6 z7 z8 z9 z10 z11 w => m_L_isDone_l355 k294 fu z0 z1 z2 z3 z4 z5 z6 z7 z8 z9 z10 z11 w) a0 a1 a2 a3 a4 a5 a6 a8 a9 i14 i15 w14
set_option maxRecDepth 100000 in
set_option maxHeartbeats 4000000 in
theorem jm_L_isDone_l355 {n0 : Nat} {rr : Int32} {ws' : LWd} {k294 : Nat → Nat → Nat → Nat → Nat → Nat → Nat → Nat → Nat → Int32 → Int32 → LWd → Option (Int32 × LWd)} (hk294 : ∀ (a0 : Nat) (a1 : Nat) (a2 : Nat) (a3 : Nat) (a4 : Nat) (a5 : Nat) (a6 : Nat) (a8 : Nat) (a9 : Nat) (i13 : Int32) (i14 : Int32) (ws : LWd), k294 a0 a1 a2 a3 a4 a5 a6 a8 a9 i13 i14 ws = some (rr, ws') → JG (.inr none) cL_isDone 26 RL wsL_isDone (some .boolean) "isDone" 8 1 6 n0 (.inl (some (.int rr)), ws') 294 [some (.ref a0), some (.ref a1), some (.ref a2), some (.ref a3), some (.ref a4), some (.ref a5), some (.ref a6), none, some (.ref a8), some (.ref a9), none, none, none, some (.int i13), some (.int i14), none, none, none, none, none, none, none, none, none, none, none] [] ws 0 0) : ∀ (fu : Nat) (a0 : Nat) (a1 : Nat) (a2 : Nat) (a3 : Nat) (a4 : Nat) (a5 : Nat) (a6 : Nat) (a8 : Nat) (a9 : Nat) (i13 : Int32) (i14 : Int32) (i15 : Int32) (ws : LWd), m_L_isDone_l355 k294 fu a0 a1 a2 a3 a4 a5 a6 a8 a9 i13 i14 i15 ws = some (rr, ws') → JG (.inr none) cL_isDone 26 RL wsL_isDone (some .boolean) "isDone" 8 1 6 n0 (.inl (some (.int rr)), ws') 355 [some (.ref a0), some (.ref a1), some (.ref a2), some (.ref a3), some (.ref a4), some (.ref a5), some (.ref a6), none, some (.ref a8), some (.ref a9), none, none, none, some (.int i13), some (.int i14), some (.int i15), none, none, none, none, none, none, none, none, none, none] [] ws 0 0 := by
  intro fu
  induction fu with
  | zero => intro a0 a1 a2 a3 a4 a5 a6 a8 a9 i13 i14 i15 ws h; first | (cases h; done) | (rw [m_L_isDone_l355] at h; cases h)
  | succ fu ih =>
    intro a0 a1 a2 a3 a4 a5 a6 a8 a9 i13 i14 i15 ws h
    rw [m_L_isDone_l355] at h
    refine j_iload (pc := 355) dL_isDone_355 rfl ?_
    refine j_iload (pc := 357) dL_isDone_357 rfl ?_
    refine j_icmp_ge (pc := 359) (tgt := 466) dL_isDone_359 (by decide) (fun c1 => ?_) (fun c1 => ?_)
    · rw [if_pos c1] at h
      refine j_mask [true, true, true, true, true, true, true, false, true, true, false, false, false, true, true, false, false, false, false, false, false, false, false, false, false, false] ?_
      exact jm_L_isDone_b466 (hk294 := hk294) _ _ _ _ _ _ _ _ _ _ _ ws h
    · rw [if_neg c1] at h
      refine j_iload (pc := 362) dL_isDone_362 rfl ?_
      refine j_if_eq (pc := 364) (tgt := 466) dL_isDone_364 (by decide) (fun c2 => ?_) (fun c2 => ?_)
      · rw [if_pos c2] at h
        refine j_mask [true, true, true, true, true, true, true, false, true, true, false, false, false, true, true, false, false, false, false, false, false, false, false, false, false, false] ?_
        exact jm_L_isDone_b466 (hk294 := hk294) _ _ _ _ _ _ _ _ _ _ _ ws h
      · rw [if_neg c2] at h
        refine j_aload_n (pc := 367) dL_isDone_367 rfl ?_
        refine j_sipush (pc := 368) dL_isDone_368 (v := 400) (by decide) ?_
        refine j_bipush (pc := 371) dL_isDone_371 (v := 20) (by decide) ?_
        refine j_aload (pc := 373) dL_isDone_373 rfl ?_
        refine j_iload (pc := 375) dL_isDone_375 rfl ?_
        obtain ⟨x3, e4, h⟩ := obS h
        refine j_iald (pc := 377) dL_isDone_377 e4 ?_
        refine j_imul (pc := 378) dL_isDone_378 ?_
        refine j_iadd (pc := 379) dL_isDone_379 ?_
        refine j_aload (pc := 380) dL_isDone_380 rfl ?_
        refine j_iload (pc := 382) dL_isDone_382 rfl ?_
        obtain ⟨x5, e6, h⟩ := obS h
        refine j_iald (pc := 384) dL_isDone_384 e6 ?_
        refine j_iadd (pc := 385) dL_isDone_385 ?_
        obtain ⟨x9, w7, e8, h⟩ := obS2 h
        have ge8 := calSR_of e8
        refine j_callS_g (pc := 386) (As := [.ref a1, .int ((400 + (20 * x3)) + x5)]) (k' := 0) (n' := 0) dL_isDone_386 (s_L_four ge8.1) (jgS lw_605 lw_606 lw_597 lw_604) rfl hy_L_four rfl (by decide) (by decide) (Nat.le_of_ble_eq_true rfl) (by decide) (by decide) (by decide) (by decide) (Or.inl ge8.2) ?_
        refine j_aload_n (pc := 389) dL_isDone_389 rfl ?_
        refine j_sipush (pc := 390) dL_isDone_390 (v := 400) (by decide) ?_
        refine j_bipush (pc := 393) dL_isDone_393 (v := 20) (by decide) ?_
        refine j_aload (pc := 395) dL_isDone_395 rfl ?_
        refine j_iload (pc := 397) dL_isDone_397 rfl ?_
        obtain ⟨x10, e11, h⟩ := obS h
        refine j_iald (pc := 399) dL_isDone_399 e11 ?_
        refine j_imul (pc := 400) dL_isDone_400 ?_
        refine j_iadd (pc := 401) dL_isDone_401 ?_
        refine j_aload (pc := 402) dL_isDone_402 rfl ?_
        refine j_iload (pc := 404) dL_isDone_404 rfl ?_
        obtain ⟨x12, e13, h⟩ := obS h
        refine j_iald (pc := 406) dL_isDone_406 e13 ?_
        refine j_iadd (pc := 407) dL_isDone_407 ?_
        obtain ⟨x16, w14, e15, h⟩ := obS2 h
        have ge15 := calSR_of e15
        refine j_callS_g (pc := 408) (As := [.ref a1, .int ((400 + (20 * x10)) + x12)]) (k' := 0) (n' := 0) dL_isDone_408 (s_L_four ge15.1) (jgS lw_605 lw_606 lw_597 lw_604) rfl hy_L_four rfl (by decide) (by decide) (Nat.le_of_ble_eq_true rfl) (by decide) (by decide) (by decide) (by decide) (Or.inl ge15.2) ?_
        refine j_isub (pc := 411) dL_isDone_411 ?_
        refine j_istore_16 (pc := 412) dL_isDone_412 (by decide) rfl ?_
        refine j_iload (pc := 414) dL_isDone_414 rfl ?_
        refine j_iconst (pc := 416) dL_isDone_416 (v := 3) (by decide) ?_
        refine j_icmp_ge (pc := 417) (tgt := 457) dL_isDone_417 (by decide) (fun c17 => ?_) (fun c17 => ?_)
        · rw [if_pos c17] at h
          refine j_mask [true, true, true, true, true, true, true, false, true, true, false, false, false, false, true, true, false, false, false, false, false, false, false, false, false, false] ?_
          exact jm_L_isDone_b457 (hk294 := hk294) (hk355 := ih) _ _ _ _ _ _ _ _ _ _ _ w14 h
        · rw [if_neg c17] at h
          refine j_iload (pc := 420) dL_isDone_420 rfl ?_
          refine j_bipush (pc := 422) dL_isDone_422 (v := (-3)) (by decide) ?_
          refine j_icmp_le (pc := 424) (tgt := 457) dL_isDone_424 (by decide) (fun c18 => ?_) (fun c18 => ?_)
          · rw [if_pos c18] at h
            refine j_mask [true, true, true, true, true, true, true, false, true, true, false, false, false, false, true, true, false, false, false, false, false, false, false, false, false, false] ?_
            exact jm_L_isDone_b457 (hk294 := hk294) (hk355 := ih) _ _ _ _ _ _ _ _ _ _ _ w14 h
          · rw [if_neg c18] at h
            refine j_aload (pc := 427) dL_isDone_427 rfl ?_
            refine j_iload (pc := 429) dL_isDone_429 rfl ?_
            obtain ⟨x19, e20, h⟩ := obS h
            refine j_iald (pc := 431) dL_isDone_431 e20 ?_
            refine j_aload (pc := 432) dL_isDone_432 rfl ?_
            refine j_iload (pc := 434) dL_isDone_434 rfl ?_
            obtain ⟨x21, e22, h⟩ := obS h
            refine j_iald (pc := 436) dL_isDone_436 e22 ?_
            refine j_icmp_ne (pc := 437) (tgt := 453) dL_isDone_437 (by decide) (fun c23 => ?_) (fun c23 => ?_)
            · rw [if_neg c23] at h
              refine j_mask [true, true, true, true, true, true, true, false, true, true, false, false, false, false, true, true, false, false, false, false, false, false, false, false, false, false] ?_
              exact jm_L_isDone_b453 (hk294 := hk294) (hk355 := ih) _ _ _ _ _ _ _ _ _ _ _ w14 h
            · rw [if_pos c23] at h
              refine j_aload (pc := 440) dL_isDone_440 rfl ?_
              refine j_iload (pc := 442) dL_isDone_442 rfl ?_
              obtain ⟨x24, e25, h⟩ := obS h
              refine j_iald (pc := 444) dL_isDone_444 e25 ?_
              refine j_aload (pc := 445) dL_isDone_445 rfl ?_
              refine j_iload (pc := 447) dL_isDone_447 rfl ?_
              obtain ⟨x26, e27, h⟩ := obS h
              refine j_iald (pc := 449) dL_isDone_449 e27 ?_
              refine j_icmp_eq (pc := 450) (tgt := 457) dL_isDone_450 (by decide) (fun c28 => ?_) (fun c28 => ?_)
              · rw [if_pos c28] at h
                refine j_mask [true, true, true, true, true, true, true, false, true, true, false, false, false, false, true, true, false, false, false, false, false, false, false, false, false, false] ?_
                exact jm_L_isDone_b457 (hk294 := hk294) (hk355 := ih) _ _ _ _ _ _ _ _ _ _ _ w14 h
              · rw [if_neg c28] at h
                refine j_mask [true, true, true, true, true, true, true, false, true, true, false, false, false, false, true, true, false, false, false, false, false, false, false, false, false, false] ?_
                exact jm_L_isDone_b453 (hk294 := hk294) (hk355 := ih) _ _ _ _ _ _ _ _ _ _ _ w14 h
def m_L_isDone_l294 : Nat → Nat → Nat → Nat → Nat → Nat → Nat → Nat → Nat → Nat → Int32 → Int32 → LWd → Option (Int32 × LWd)
  | 0, _, _, _, _, _, _, _, _, _, _, _, _ => none
  | fu + 1, a0, a1, a2, a3, a4, a5, a6, a8, a9, i13, i14, ws =>
    (aI ws a9 7).bind fun x1 =>
    if x1 ≤ i14 then
      m_L_isDone_b472 a0 a1 a2 a3 a4 a5 a6 a8 a9 i13 ws
    else
      if i13 = 0 then
        m_L_isDone_b472 a0 a1 a2 a3 a4 a5 a6 a8 a9 i13 ws
      else
        bn2 (calSR ws (m_L_hipX a4 a9 i14 ws)) fun x7 w5 =>
        (sI w5 a5 i14 x7).bind fun w8 =>
        bn2 (calSR w8 (m_L_hipY a4 a9 i14 w8)) fun x12 w10 =>
        (sI w10 a6 i14 x12).bind fun w13 =>
        (aI w13 a5 i14).bind fun x15 =>
        (aI w13 a6 i14).bind fun x17 =>
        bn2 (calSR w13 (m_L_isIn x15 x17 w13)) fun x21 w19 =>
        m_L_isDone_l355 (fun z0 z1 z2 z3 z4 z5 z6 z7 z8 z9 z10 w => m_L_isDone_l294 fu z0 z1 z2 z3 z4 z5 z6 z7 z8 z9 z10 w) FU a0 a1 a2 a3 a4 a5 a6 a8 a9 x21 i14 0 w19
set_option maxRecDepth 100000 in
set_option maxHeartbeats 4000000 in
theorem jm_L_isDone_l294 {n0 : Nat} {rr : Int32} {ws' : LWd} : ∀ (fu : Nat) (a0 : Nat) (a1 : Nat) (a2 : Nat) (a3 : Nat) (a4 : Nat) (a5 : Nat) (a6 : Nat) (a8 : Nat) (a9 : Nat) (i13 : Int32) (i14 : Int32) (ws : LWd), m_L_isDone_l294 fu a0 a1 a2 a3 a4 a5 a6 a8 a9 i13 i14 ws = some (rr, ws') → JG (.inr none) cL_isDone 26 RL wsL_isDone (some .boolean) "isDone" 8 1 6 n0 (.inl (some (.int rr)), ws') 294 [some (.ref a0), some (.ref a1), some (.ref a2), some (.ref a3), some (.ref a4), some (.ref a5), some (.ref a6), none, some (.ref a8), some (.ref a9), none, none, none, some (.int i13), some (.int i14), none, none, none, none, none, none, none, none, none, none, none] [] ws 0 0 := by
  intro fu
  induction fu with
  | zero => intro a0 a1 a2 a3 a4 a5 a6 a8 a9 i13 i14 ws h; first | (cases h; done) | (rw [m_L_isDone_l294] at h; cases h)
  | succ fu ih =>
    intro a0 a1 a2 a3 a4 a5 a6 a8 a9 i13 i14 ws h
    rw [m_L_isDone_l294] at h
    refine j_iload (pc := 294) dL_isDone_294 rfl ?_
    refine j_aload (pc := 296) dL_isDone_296 rfl ?_
    refine j_bipush (pc := 298) dL_isDone_298 (v := 7) (by decide) ?_
    obtain ⟨x1, e2, h⟩ := obS h
    refine j_iald (pc := 300) dL_isDone_300 e2 ?_
    refine j_icmp_ge (pc := 301) (tgt := 472) dL_isDone_301 (by decide) (fun c3 => ?_) (fun c3 => ?_)
    · rw [if_pos c3] at h
      refine j_mask [true, true, true, true, true, true, true, false, true, true, false, false, false, true, false, false, false, false, false, false, false, false, false, false, false, false] ?_
      exact jm_L_isDone_b472 _ _ _ _ _ _ _ _ _ _ ws h
    · rw [if_neg c3] at h
      refine j_iload (pc := 304) dL_isDone_304 rfl ?_
      refine j_if_eq (pc := 306) (tgt := 472) dL_isDone_306 (by decide) (fun c4 => ?_) (fun c4 => ?_)
      · rw [if_pos c4] at h
        refine j_mask [true, true, true, true, true, true, true, false, true, true, false, false, false, true, false, false, false, false, false, false, false, false, false, false, false, false] ?_
        exact jm_L_isDone_b472 _ _ _ _ _ _ _ _ _ _ ws h
      · rw [if_neg c4] at h
        refine j_aload (pc := 309) dL_isDone_309 rfl ?_
        refine j_iload (pc := 311) dL_isDone_311 rfl ?_
        refine j_aload (pc := 313) dL_isDone_313 rfl ?_
        refine j_aload (pc := 315) dL_isDone_315 rfl ?_
        refine j_iload (pc := 317) dL_isDone_317 rfl ?_
        obtain ⟨x7, w5, e6, h⟩ := obS2 h
        have ge6 := calSR_of e6
        refine j_callS_g (pc := 319) (As := [.ref a4, .ref a9, .int i14]) (k' := 0) (n' := 0) dL_isDone_319 (s_L_hipX ge6.1) (jgS lw_595 lw_596 lw_597 lw_594) rfl hy_L_hipX rfl (by decide) (by decide) (Nat.le_of_ble_eq_true rfl) (by decide) (by decide) (by decide) (by decide) (Or.inl ge6.2) ?_
        obtain ⟨w8, e9, h⟩ := obS h
        refine j_iast (pc := 322) dL_isDone_322 e9 ?_
        refine j_aload (pc := 323) dL_isDone_323 rfl ?_
        refine j_iload (pc := 325) dL_isDone_325 rfl ?_
        refine j_aload (pc := 327) dL_isDone_327 rfl ?_
        refine j_aload (pc := 329) dL_isDone_329 rfl ?_
        refine j_iload (pc := 331) dL_isDone_331 rfl ?_
        obtain ⟨x12, w10, e11, h⟩ := obS2 h
        have ge11 := calSR_of e11
        refine j_callS_g (pc := 333) (As := [.ref a4, .ref a9, .int i14]) (k' := 0) (n' := 0) dL_isDone_333 (s_L_hipY ge11.1) (jgS lw_599 lw_600 lw_597 lw_598) rfl hy_L_hipY rfl (by decide) (by decide) (Nat.le_of_ble_eq_true rfl) (by decide) (by decide) (by decide) (by decide) (Or.inl ge11.2) ?_
        obtain ⟨w13, e14, h⟩ := obS h
        refine j_iast (pc := 336) dL_isDone_336 e14 ?_
        refine j_aload (pc := 337) dL_isDone_337 rfl ?_
        refine j_iload (pc := 339) dL_isDone_339 rfl ?_
        obtain ⟨x15, e16, h⟩ := obS h
        refine j_iald (pc := 341) dL_isDone_341 e16 ?_
        refine j_aload (pc := 342) dL_isDone_342 rfl ?_
        refine j_iload (pc := 344) dL_isDone_344 rfl ?_
        obtain ⟨x17, e18, h⟩ := obS h
        refine j_iald (pc := 346) dL_isDone_346 e18 ?_
        obtain ⟨x21, w19, e20, h⟩ := obS2 h
        have ge20 := calSR_of e20
        refine j_callS_g (pc := 347) (As := [.int x15, .int x17]) (k' := 0) (n' := 0) dL_isDone_347 (s_L_isIn ge20.1) (jgS lw_644 lw_645 lw_597 lw_643) rfl hy_L_isIn rfl (by decide) (by decide) (Nat.le_of_ble_eq_true rfl) (by decide) (by decide) (by decide) (by decide) (Or.inl ge20.2) ?_
        refine j_istore_13 (pc := 350) dL_isDone_350 (by decide) rfl ?_
        refine j_iconst (pc := 352) dL_isDone_352 (v := 0) (by decide) ?_
        refine j_istore_15 (pc := 353) dL_isDone_353 (by decide) rfl ?_
        exact jm_L_isDone_l355 (hk294 := ih) FU _ _ _ _ _ _ _ _ _ _ _ _ w19 h
def m_L_isDone_b289 (a0 : Nat) (a1 : Nat) (a2 : Nat) (a3 : Nat) (a4 : Nat) (a5 : Nat) (a6 : Nat) (a8 : Nat) (a9 : Nat) (s0 : Int32) (ws : LWd) : Option (Int32 × LWd) :=
  m_L_isDone_l294 FU a0 a1 a2 a3 a4 a5 a6 a8 a9 s0 0 ws
set_option maxRecDepth 100000 in
set_option maxHeartbeats 4000000 in
theorem jm_L_isDone_b289 {n0 : Nat} {rr : Int32} {ws' : LWd} (a0 : Nat) (a1 : Nat) (a2 : Nat) (a3 : Nat) (a4 : Nat) (a5 : Nat) (a6 : Nat) (a8 : Nat) (a9 : Nat) (s0 : Int32) (ws : LWd) (h : m_L_isDone_b289 a0 a1 a2 a3 a4 a5 a6 a8 a9 s0 ws = some (rr, ws')) : JG (.inr none) cL_isDone 26 RL wsL_isDone (some .boolean) "isDone" 8 1 6 n0 (.inl (some (.int rr)), ws') 289 [some (.ref a0), some (.ref a1), some (.ref a2), some (.ref a3), some (.ref a4), some (.ref a5), some (.ref a6), none, some (.ref a8), some (.ref a9), none, none, none, none, none, none, none, none, none, none, none, none, none, none, none, none] [.int s0] ws 0 0 := by
  unfold m_L_isDone_b289 at h
  refine j_istore_13 (pc := 289) dL_isDone_289 (by decide) rfl ?_
  refine j_iconst (pc := 291) dL_isDone_291 (v := 0) (by decide) ?_
  refine j_istore_14 (pc := 292) dL_isDone_292 (by decide) rfl ?_
  exact jm_L_isDone_l294 FU _ _ _ _ _ _ _ _ _ _ _ ws h
def m_L_isDone_b288 (a0 : Nat) (a1 : Nat) (a2 : Nat) (a3 : Nat) (a4 : Nat) (a5 : Nat) (a6 : Nat) (a8 : Nat) (a9 : Nat) (ws : LWd) : Option (Int32 × LWd) :=
  m_L_isDone_b289 a0 a1 a2 a3 a4 a5 a6 a8 a9 0 ws
set_option maxRecDepth 100000 in
set_option maxHeartbeats 4000000 in
theorem jm_L_isDone_b288 {n0 : Nat} {rr : Int32} {ws' : LWd} (a0 : Nat) (a1 : Nat) (a2 : Nat) (a3 : Nat) (a4 : Nat) (a5 : Nat) (a6 : Nat) (a8 : Nat) (a9 : Nat) (ws : LWd) (h : m_L_isDone_b288 a0 a1 a2 a3 a4 a5 a6 a8 a9 ws = some (rr, ws')) : JG (.inr none) cL_isDone 26 RL wsL_isDone (some .boolean) "isDone" 8 1 6 n0 (.inl (some (.int rr)), ws') 288 [some (.ref a0), some (.ref a1), some (.ref a2), some (.ref a3), some (.ref a4), some (.ref a5), some (.ref a6), none, some (.ref a8), some (.ref a9), none, none, none, none, none, none, none, none, none, none, none, none, none, none, none, none] [] ws 0 0 := by
  unfold m_L_isDone_b288 at h
  refine j_iconst (pc := 288) dL_isDone_288 (v := 0) (by decide) ?_
  exact jm_L_isDone_b289 _ _ _ _ _ _ _ _ _ _ ws h
def m_L_isDone_b245 (s0 : Int32) (s1 : Int32) (ws : LWd) : Option (Int32 × LWd) :=
  if s0 = s1 then
    some (1, ws)
  else
    some (0, ws)
set_option maxRecDepth 100000 in
set_option maxHeartbeats 4000000 in
theorem jm_L_isDone_b245 {n0 : Nat} {rr : Int32} {ws' : LWd} (s0 : Int32) (s1 : Int32) (ws : LWd) (h : m_L_isDone_b245 s0 s1 ws = some (rr, ws')) : JG (.inr none) cL_isDone 26 RL wsL_isDone (some .boolean) "isDone" 8 1 6 n0 (.inl (some (.int rr)), ws') 245 [none, none, none, none, none, none, none, none, none, none, none, none, none, none, none, none, none, none, none, none, none, none, none, none, none, none] [.int s1, .int s0] ws 1 6 := by
  unfold m_L_isDone_b245 at h
  refine j_icmp_ne (pc := 245) (tgt := 252) dL_isDone_245 (by decide) (fun c1 => ?_) (fun c1 => ?_)
  · rw [if_neg c1] at h
    refine j_iconst (pc := 252) dL_isDone_252 (v := 0) (by decide) ?_
    obtain ⟨rfl, rfl⟩ := jretS h
    exact j_zretL (pc := 253) (by decide) rfl dL_isDone_253 (by decide) (by decide) rfl
  · rw [if_pos c1] at h
    refine j_iconst (pc := 248) dL_isDone_248 (v := 1) (by decide) ?_
    refine j_goto (pc := 249) (tgt := 253) dL_isDone_249 (by decide) ?_
    obtain ⟨rfl, rfl⟩ := jretS h
    exact j_zretL (pc := 253) (by decide) rfl dL_isDone_253 (by decide) (by decide) rfl
def m_L_isDone_b207 (a0 : Nat) (a9 : Nat) (i13 : Int32) (i14 : Int32) (i15 : Int32) (i16 : Int32) (i20 : Int32) (ws : LWd) : Option (Int32 × LWd) :=
  bn2 (calSR ws (m_L_does a0 5 i13 i14 i15 0 0 ws)) fun x3 w1 =>
  if i16 = 0 then
    m_L_isDone_b245 x3 ((-2000000)) w1
  else
    if i20 = 0 then
      m_L_isDone_b245 x3 ((-1000000)) w1
    else
      (aI w1 a9 14).bind fun x6 =>
      m_L_isDone_b245 x3 x6 w1
set_option maxRecDepth 100000 in
set_option maxHeartbeats 4000000 in
theorem jm_L_isDone_b207 {n0 : Nat} {rr : Int32} {ws' : LWd} (a0 : Nat) (a9 : Nat) (i13 : Int32) (i14 : Int32) (i15 : Int32) (i16 : Int32) (i20 : Int32) (ws : LWd) (h : m_L_isDone_b207 a0 a9 i13 i14 i15 i16 i20 ws = some (rr, ws')) : JG (.inr none) cL_isDone 26 RL wsL_isDone (some .boolean) "isDone" 8 1 6 n0 (.inl (some (.int rr)), ws') 207 [some (.ref a0), none, none, none, none, none, none, none, none, some (.ref a9), none, none, none, some (.int i13), some (.int i14), some (.int i15), some (.int i16), none, none, none, some (.int i20), none, none, none, none, none] [] ws 0 0 := by
  unfold m_L_isDone_b207 at h
  refine j_aload_n (pc := 207) dL_isDone_207 rfl ?_
  refine j_iconst (pc := 208) dL_isDone_208 (v := 5) (by decide) ?_
  refine j_iload (pc := 209) dL_isDone_209 rfl ?_
  refine j_iload (pc := 211) dL_isDone_211 rfl ?_
  refine j_iload (pc := 213) dL_isDone_213 rfl ?_
  refine j_iconst (pc := 215) dL_isDone_215 (v := 0) (by decide) ?_
  refine j_iconst (pc := 216) dL_isDone_216 (v := 0) (by decide) ?_
  obtain ⟨x3, w1, e2, h⟩ := obS2 h
  have ge2 := calSR_of e2
  refine j_callSW (pc := 217) (As := [.ref a0, .int 5, .int i13, .int i14, .int i15, .int 0, .int 0]) (k' := 1) (n' := 6) dL_isDone_217 (fun q h => by cases h) (s_L_does ge2.1) (jgS lw_657 lw_658 lw_597 lw_656) rfl hy_L_does rfl (by decide) (by decide) (Nat.le_of_ble_eq_true rfl) (by decide) (by decide) (by decide) (by decide) ge2.2 ?_
  refine j_iload (pc := 220) dL_isDone_220 rfl ?_
  refine j_if_ne (pc := 222) (tgt := 230) dL_isDone_222 (by decide) (fun c4 => ?_) (fun c4 => ?_)
  · rw [if_neg c4] at h
    refine j_iload (pc := 230) dL_isDone_230 rfl ?_
    refine j_if_eq (pc := 232) (tgt := 243) dL_isDone_232 (by decide) (fun c5 => ?_) (fun c5 => ?_)
    · rw [if_pos c5] at h
      refine j_ldc (pc := 243) dL_isDone_243 (v := (-1000000)) (jwm lw_530) ?_
      refine j_mask [false, false, false, false, false, false, false, false, false, false, false, false, false, false, false, false, false, false, false, false, false, false, false, false, false, false] ?_
      exact jm_L_isDone_b245 _ _ w1 h
    · rw [if_neg c5] at h
      refine j_aload (pc := 235) dL_isDone_235 rfl ?_
      refine j_bipush (pc := 237) dL_isDone_237 (v := 14) (by decide) ?_
      obtain ⟨x6, e7, h⟩ := obS h
      refine j_iald (pc := 239) dL_isDone_239 e7 ?_
      refine j_goto (pc := 240) (tgt := 245) dL_isDone_240 (by decide) ?_
      refine j_mask [false, false, false, false, false, false, false, false, false, false, false, false, false, false, false, false, false, false, false, false, false, false, false, false, false, false] ?_
      exact jm_L_isDone_b245 _ _ w1 h
  · rw [if_pos c4] at h
    refine j_ldc (pc := 225) dL_isDone_225 (v := (-2000000)) (jwm lw_528) ?_
    refine j_goto (pc := 227) (tgt := 245) dL_isDone_227 (by decide) ?_
    refine j_mask [false, false, false, false, false, false, false, false, false, false, false, false, false, false, false, false, false, false, false, false, false, false, false, false, false, false] ?_
    exact jm_L_isDone_b245 _ _ w1 h
def m_L_isDone_b159 (a0 : Nat) (a1 : Nat) (a3 : Nat) (a5 : Nat) (a6 : Nat) (a8 : Nat) (a9 : Nat) (i13 : Int32) (i14 : Int32) (i15 : Int32) (i16 : Int32) (i17 : Int32) (i18 : Int32) (i19 : Int32) (s0 : Int32) (ws : LWd) : Option (Int32 × LWd) :=
  (sI ws a9 14 0).bind fun w1 =>
  if s0 = 0 then
    (sI w1 a9 4 i17).bind fun w4 =>
    (sI w4 a9 5 i18).bind fun w6 =>
    (sI w6 a9 6 i19).bind fun w8 =>
    m_L_isDone_b207 a0 a9 i13 i14 i15 i16 s0 w8
  else
    (calSV w1 (m_L_settles a1 a3 a5 a6 a8 a9 w1)).bind fun w10 =>
    m_L_isDone_b207 a0 a9 i13 i14 i15 i16 s0 w10
set_option maxRecDepth 100000 in
set_option maxHeartbeats 4000000 in
theorem jm_L_isDone_b159 {n0 : Nat} {rr : Int32} {ws' : LWd} (a0 : Nat) (a1 : Nat) (a3 : Nat) (a5 : Nat) (a6 : Nat) (a8 : Nat) (a9 : Nat) (i13 : Int32) (i14 : Int32) (i15 : Int32) (i16 : Int32) (i17 : Int32) (i18 : Int32) (i19 : Int32) (s0 : Int32) (ws : LWd) (h : m_L_isDone_b159 a0 a1 a3 a5 a6 a8 a9 i13 i14 i15 i16 i17 i18 i19 s0 ws = some (rr, ws')) : JG (.inr none) cL_isDone 26 RL wsL_isDone (some .boolean) "isDone" 8 1 6 n0 (.inl (some (.int rr)), ws') 159 [some (.ref a0), some (.ref a1), none, some (.ref a3), none, some (.ref a5), some (.ref a6), none, some (.ref a8), some (.ref a9), none, none, none, some (.int i13), some (.int i14), some (.int i15), some (.int i16), some (.int i17), some (.int i18), some (.int i19), none, none, none, none, none, none] [.int s0] ws 0 0 := by
  unfold m_L_isDone_b159 at h
  refine j_istore_20 (pc := 159) dL_isDone_159 (by decide) rfl ?_
  refine j_aload (pc := 161) dL_isDone_161 rfl ?_
  refine j_bipush (pc := 163) dL_isDone_163 (v := 14) (by decide) ?_
  refine j_iconst (pc := 165) dL_isDone_165 (v := 0) (by decide) ?_
  obtain ⟨w1, e2, h⟩ := obS h
  refine j_iast (pc := 166) dL_isDone_166 e2 ?_
  refine j_iload (pc := 167) dL_isDone_167 rfl ?_
  refine j_if_eq (pc := 169) (tgt := 188) dL_isDone_169 (by decide) (fun c3 => ?_) (fun c3 => ?_)
  · rw [if_pos c3] at h
    refine j_aload (pc := 188) dL_isDone_188 rfl ?_
    refine j_iconst (pc := 190) dL_isDone_190 (v := 4) (by decide) ?_
    refine j_iload (pc := 191) dL_isDone_191 rfl ?_
    obtain ⟨w4, e5, h⟩ := obS h
    refine j_iast (pc := 193) dL_isDone_193 e5 ?_
    refine j_aload (pc := 194) dL_isDone_194 rfl ?_
    refine j_iconst (pc := 196) dL_isDone_196 (v := 5) (by decide) ?_
    refine j_iload (pc := 197) dL_isDone_197 rfl ?_
    obtain ⟨w6, e7, h⟩ := obS h
    refine j_iast (pc := 199) dL_isDone_199 e7 ?_
    refine j_aload (pc := 200) dL_isDone_200 rfl ?_
    refine j_bipush (pc := 202) dL_isDone_202 (v := 6) (by decide) ?_
    refine j_iload (pc := 204) dL_isDone_204 rfl ?_
    obtain ⟨w8, e9, h⟩ := obS h
    refine j_iast (pc := 206) dL_isDone_206 e9 ?_
    refine j_mask [true, false, false, false, false, false, false, false, false, true, false, false, false, true, true, true, true, false, false, false, true, false, false, false, false, false] ?_
    exact jm_L_isDone_b207 _ _ _ _ _ _ _ w8 h
  · rw [if_neg c3] at h
    refine j_aload_n (pc := 172) dL_isDone_172 rfl ?_
    refine j_aload_n (pc := 173) dL_isDone_173 rfl ?_
    refine j_aload (pc := 174) dL_isDone_174 rfl ?_
    refine j_aload (pc := 176) dL_isDone_176 rfl ?_
    refine j_aload (pc := 178) dL_isDone_178 rfl ?_
    refine j_aload (pc := 180) dL_isDone_180 rfl ?_
    obtain ⟨w10, e11, h⟩ := obS h
    have ge11 := calSV_of e11
    refine j_callS_g (pc := 182) (As := [.ref a1, .ref a3, .ref a5, .ref a6, .ref a8, .ref a9]) (k' := 0) (n' := 0) dL_isDone_182 (s_L_settles ge11.1) (jgS lw_632 lw_633 lw_597 lw_631) rfl hy_L_settles rfl (by decide) (by decide) (Nat.le_of_ble_eq_true rfl) (by decide) (by decide) (by decide) (by decide) (Or.inl ge11.2) ?_
    refine j_goto (pc := 185) (tgt := 207) dL_isDone_185 (by decide) ?_
    refine j_mask [true, false, false, false, false, false, false, false, false, true, false, false, false, true, true, true, true, false, false, false, true, false, false, false, false, false] ?_
    exact jm_L_isDone_b207 _ _ _ _ _ _ _ w10 h
def m_L_isDone_b158 (a0 : Nat) (a1 : Nat) (a3 : Nat) (a5 : Nat) (a6 : Nat) (a8 : Nat) (a9 : Nat) (i13 : Int32) (i14 : Int32) (i15 : Int32) (i16 : Int32) (i17 : Int32) (i18 : Int32) (i19 : Int32) (ws : LWd) : Option (Int32 × LWd) :=
  m_L_isDone_b159 a0 a1 a3 a5 a6 a8 a9 i13 i14 i15 i16 i17 i18 i19 0 ws
set_option maxRecDepth 100000 in
set_option maxHeartbeats 4000000 in
theorem jm_L_isDone_b158 {n0 : Nat} {rr : Int32} {ws' : LWd} (a0 : Nat) (a1 : Nat) (a3 : Nat) (a5 : Nat) (a6 : Nat) (a8 : Nat) (a9 : Nat) (i13 : Int32) (i14 : Int32) (i15 : Int32) (i16 : Int32) (i17 : Int32) (i18 : Int32) (i19 : Int32) (ws : LWd) (h : m_L_isDone_b158 a0 a1 a3 a5 a6 a8 a9 i13 i14 i15 i16 i17 i18 i19 ws = some (rr, ws')) : JG (.inr none) cL_isDone 26 RL wsL_isDone (some .boolean) "isDone" 8 1 6 n0 (.inl (some (.int rr)), ws') 158 [some (.ref a0), some (.ref a1), none, some (.ref a3), none, some (.ref a5), some (.ref a6), none, some (.ref a8), some (.ref a9), none, none, none, some (.int i13), some (.int i14), some (.int i15), some (.int i16), some (.int i17), some (.int i18), some (.int i19), none, none, none, none, none, none] [] ws 0 0 := by
  unfold m_L_isDone_b158 at h
  refine j_iconst (pc := 158) dL_isDone_158 (v := 0) (by decide) ?_
  exact jm_L_isDone_b159 _ _ _ _ _ _ _ _ _ _ _ _ _ _ _ ws h
def m_L_isDone_b154 (a0 : Nat) (a1 : Nat) (a3 : Nat) (a5 : Nat) (a6 : Nat) (a8 : Nat) (a9 : Nat) (i13 : Int32) (i14 : Int32) (i15 : Int32) (i16 : Int32) (i17 : Int32) (i18 : Int32) (i19 : Int32) (ws : LWd) : Option (Int32 × LWd) :=
  m_L_isDone_b159 a0 a1 a3 a5 a6 a8 a9 i13 i14 i15 i16 i17 i18 i19 1 ws
set_option maxRecDepth 100000 in
set_option maxHeartbeats 4000000 in
theorem jm_L_isDone_b154 {n0 : Nat} {rr : Int32} {ws' : LWd} (a0 : Nat) (a1 : Nat) (a3 : Nat) (a5 : Nat) (a6 : Nat) (a8 : Nat) (a9 : Nat) (i13 : Int32) (i14 : Int32) (i15 : Int32) (i16 : Int32) (i17 : Int32) (i18 : Int32) (i19 : Int32) (ws : LWd) (h : m_L_isDone_b154 a0 a1 a3 a5 a6 a8 a9 i13 i14 i15 i16 i17 i18 i19 ws = some (rr, ws')) : JG (.inr none) cL_isDone 26 RL wsL_isDone (some .boolean) "isDone" 8 1 6 n0 (.inl (some (.int rr)), ws') 154 [some (.ref a0), some (.ref a1), none, some (.ref a3), none, some (.ref a5), some (.ref a6), none, some (.ref a8), some (.ref a9), none, none, none, some (.int i13), some (.int i14), some (.int i15), some (.int i16), some (.int i17), some (.int i18), some (.int i19), none, none, none, none, none, none] [] ws 0 0 := by
  unfold m_L_isDone_b154 at h
  refine j_iconst (pc := 154) dL_isDone_154 (v := 1) (by decide) ?_
  refine j_goto (pc := 155) (tgt := 159) dL_isDone_155 (by decide) ?_
  exact jm_L_isDone_b159 _ _ _ _ _ _ _ _ _ _ _ _ _ _ _ ws h
def m_L_isDone_b85 (a0 : Nat) (a1 : Nat) (a3 : Nat) (a5 : Nat) (a6 : Nat) (a8 : Nat) (a9 : Nat) (i13 : Int32) (i14 : Int32) (i15 : Int32) (s0 : Int32) (ws : LWd) : Option (Int32 × LWd) :=
  (aI ws a9 4).bind fun x1 =>
  (aI ws a9 5).bind fun x3 =>
  (aI ws a9 6).bind fun x5 =>
  (sI ws a9 4 i13).bind fun w7 =>
  (sI w7 a9 5 i14).bind fun w9 =>
  (sI w9 a9 6 i15).bind fun w11 =>
  if s0 = 0 then
    m_L_isDone_b158 a0 a1 a3 a5 a6 a8 a9 i13 i14 i15 s0 x1 x3 x5 w11
  else
    (aI w11 a9 0).bind fun x14 =>
    if x14 = 0 then
      m_L_isDone_b154 a0 a1 a3 a5 a6 a8 a9 i13 i14 i15 s0 x1 x3 x5 w11
    else
      (aI w11 a9 8).bind fun x17 =>
      bn2 (calSR w11 (m_L_holds a5 a6 a9 x17 w11)) fun x21 w19 =>
      if x21 = 0 then
        m_L_isDone_b158 a0 a1 a3 a5 a6 a8 a9 i13 i14 i15 s0 x1 x3 x5 w19
      else
        m_L_isDone_b154 a0 a1 a3 a5 a6 a8 a9 i13 i14 i15 s0 x1 x3 x5 w19
set_option maxRecDepth 100000 in
set_option maxHeartbeats 4000000 in
theorem jm_L_isDone_b85 {n0 : Nat} {rr : Int32} {ws' : LWd} (a0 : Nat) (a1 : Nat) (a3 : Nat) (a5 : Nat) (a6 : Nat) (a8 : Nat) (a9 : Nat) (i13 : Int32) (i14 : Int32) (i15 : Int32) (s0 : Int32) (ws : LWd) (h : m_L_isDone_b85 a0 a1 a3 a5 a6 a8 a9 i13 i14 i15 s0 ws = some (rr, ws')) : JG (.inr none) cL_isDone 26 RL wsL_isDone (some .boolean) "isDone" 8 1 6 n0 (.inl (some (.int rr)), ws') 85 [some (.ref a0), some (.ref a1), none, some (.ref a3), none, some (.ref a5), some (.ref a6), none, some (.ref a8), some (.ref a9), none, none, none, some (.int i13), some (.int i14), some (.int i15), none, none, none, none, none, none, none, none, none, none] [.int s0] ws 0 0 := by
  unfold m_L_isDone_b85 at h
  refine j_istore_16 (pc := 85) dL_isDone_85 (by decide) rfl ?_
  refine j_aload (pc := 87) dL_isDone_87 rfl ?_
  refine j_iconst (pc := 89) dL_isDone_89 (v := 4) (by decide) ?_
  obtain ⟨x1, e2, h⟩ := obS h
  refine j_iald (pc := 90) dL_isDone_90 e2 ?_
  refine j_istore_17 (pc := 91) dL_isDone_91 (by decide) rfl ?_
  refine j_aload (pc := 93) dL_isDone_93 rfl ?_
  refine j_iconst (pc := 95) dL_isDone_95 (v := 5) (by decide) ?_
  obtain ⟨x3, e4, h⟩ := obS h
  refine j_iald (pc := 96) dL_isDone_96 e4 ?_
  refine j_istore_18 (pc := 97) dL_isDone_97 (by decide) rfl ?_
  refine j_aload (pc := 99) dL_isDone_99 rfl ?_
  refine j_bipush (pc := 101) dL_isDone_101 (v := 6) (by decide) ?_
  obtain ⟨x5, e6, h⟩ := obS h
  refine j_iald (pc := 103) dL_isDone_103 e6 ?_
  refine j_istore_19 (pc := 104) dL_isDone_104 (by decide) rfl ?_
  refine j_aload (pc := 106) dL_isDone_106 rfl ?_
  refine j_iconst (pc := 108) dL_isDone_108 (v := 4) (by decide) ?_
  refine j_iload (pc := 109) dL_isDone_109 rfl ?_
  obtain ⟨w7, e8, h⟩ := obS h
  refine j_iast (pc := 111) dL_isDone_111 e8 ?_
  refine j_aload (pc := 112) dL_isDone_112 rfl ?_
  refine j_iconst (pc := 114) dL_isDone_114 (v := 5) (by decide) ?_
  refine j_iload (pc := 115) dL_isDone_115 rfl ?_
  obtain ⟨w9, e10, h⟩ := obS h
  refine j_iast (pc := 117) dL_isDone_117 e10 ?_
  refine j_aload (pc := 118) dL_isDone_118 rfl ?_
  refine j_bipush (pc := 120) dL_isDone_120 (v := 6) (by decide) ?_
  refine j_iload (pc := 122) dL_isDone_122 rfl ?_
  obtain ⟨w11, e12, h⟩ := obS h
  refine j_iast (pc := 124) dL_isDone_124 e12 ?_
  refine j_iload (pc := 125) dL_isDone_125 rfl ?_
  refine j_if_eq (pc := 127) (tgt := 158) dL_isDone_127 (by decide) (fun c13 => ?_) (fun c13 => ?_)
  · rw [if_pos c13] at h
    exact jm_L_isDone_b158 _ _ _ _ _ _ _ _ _ _ _ _ _ _ w11 h
  · rw [if_neg c13] at h
    refine j_aload (pc := 130) dL_isDone_130 rfl ?_
    refine j_iconst (pc := 132) dL_isDone_132 (v := 0) (by decide) ?_
    obtain ⟨x14, e15, h⟩ := obS h
    refine j_iald (pc := 133) dL_isDone_133 e15 ?_
    refine j_if_eq (pc := 134) (tgt := 154) dL_isDone_134 (by decide) (fun c16 => ?_) (fun c16 => ?_)
    · rw [if_pos c16] at h
      exact jm_L_isDone_b154 _ _ _ _ _ _ _ _ _ _ _ _ _ _ w11 h
    · rw [if_neg c16] at h
      refine j_aload (pc := 137) dL_isDone_137 rfl ?_
      refine j_aload (pc := 139) dL_isDone_139 rfl ?_
      refine j_aload (pc := 141) dL_isDone_141 rfl ?_
      refine j_aload (pc := 143) dL_isDone_143 rfl ?_
      refine j_bipush (pc := 145) dL_isDone_145 (v := 8) (by decide) ?_
      obtain ⟨x17, e18, h⟩ := obS h
      refine j_iald (pc := 147) dL_isDone_147 e18 ?_
      obtain ⟨x21, w19, e20, h⟩ := obS2 h
      have ge20 := calSR_of e20
      refine j_callS_g (pc := 148) (As := [.ref a5, .ref a6, .ref a9, .int x17]) (k' := 0) (n' := 0) dL_isDone_148 (s_L_holds ge20.1) (jgS lw_623 lw_624 lw_597 lw_622) rfl hy_L_holds rfl (by decide) (by decide) (Nat.le_of_ble_eq_true rfl) (by decide) (by decide) (by decide) (by decide) (Or.inl ge20.2) ?_
      refine j_if_eq (pc := 151) (tgt := 158) dL_isDone_151 (by decide) (fun c22 => ?_) (fun c22 => ?_)
      · rw [if_pos c22] at h
        exact jm_L_isDone_b158 _ _ _ _ _ _ _ _ _ _ _ _ _ _ w19 h
      · rw [if_neg c22] at h
        exact jm_L_isDone_b154 _ _ _ _ _ _ _ _ _ _ _ _ _ _ w19 h
def m_L_isDone_b84 (a0 : Nat) (a1 : Nat) (a3 : Nat) (a5 : Nat) (a6 : Nat) (a8 : Nat) (a9 : Nat) (i13 : Int32) (i14 : Int32) (i15 : Int32) (ws : LWd) : Option (Int32 × LWd) :=
  m_L_isDone_b85 a0 a1 a3 a5 a6 a8 a9 i13 i14 i15 0 ws
set_option maxRecDepth 100000 in
set_option maxHeartbeats 4000000 in
theorem jm_L_isDone_b84 {n0 : Nat} {rr : Int32} {ws' : LWd} (a0 : Nat) (a1 : Nat) (a3 : Nat) (a5 : Nat) (a6 : Nat) (a8 : Nat) (a9 : Nat) (i13 : Int32) (i14 : Int32) (i15 : Int32) (ws : LWd) (h : m_L_isDone_b84 a0 a1 a3 a5 a6 a8 a9 i13 i14 i15 ws = some (rr, ws')) : JG (.inr none) cL_isDone 26 RL wsL_isDone (some .boolean) "isDone" 8 1 6 n0 (.inl (some (.int rr)), ws') 84 [some (.ref a0), some (.ref a1), none, some (.ref a3), none, some (.ref a5), some (.ref a6), none, some (.ref a8), some (.ref a9), none, none, none, some (.int i13), some (.int i14), some (.int i15), none, none, none, none, none, none, none, none, none, none] [] ws 0 0 := by
  unfold m_L_isDone_b84 at h
  refine j_iconst (pc := 84) dL_isDone_84 (v := 0) (by decide) ?_
  exact jm_L_isDone_b85 _ _ _ _ _ _ _ _ _ _ _ ws h
def m_L_isDone_b64 (a0 : Nat) (a1 : Nat) (a3 : Nat) (a5 : Nat) (a6 : Nat) (a8 : Nat) (a9 : Nat) (i13 : Int32) (i14 : Int32) (s0 : Int32) (ws : LWd) : Option (Int32 × LWd) :=
  if 21 ≤ i13 then
    m_L_isDone_b84 a0 a1 a3 a5 a6 a8 a9 i13 i14 s0 ws
  else
    if 6 ≤ s0 then
      m_L_isDone_b84 a0 a1 a3 a5 a6 a8 a9 i13 i14 s0 ws
    else
      m_L_isDone_b85 a0 a1 a3 a5 a6 a8 a9 i13 i14 s0 1 ws
set_option maxRecDepth 100000 in
set_option maxHeartbeats 4000000 in
theorem jm_L_isDone_b64 {n0 : Nat} {rr : Int32} {ws' : LWd} (a0 : Nat) (a1 : Nat) (a3 : Nat) (a5 : Nat) (a6 : Nat) (a8 : Nat) (a9 : Nat) (i13 : Int32) (i14 : Int32) (s0 : Int32) (ws : LWd) (h : m_L_isDone_b64 a0 a1 a3 a5 a6 a8 a9 i13 i14 s0 ws = some (rr, ws')) : JG (.inr none) cL_isDone 26 RL wsL_isDone (some .boolean) "isDone" 8 1 6 n0 (.inl (some (.int rr)), ws') 64 [some (.ref a0), some (.ref a1), none, some (.ref a3), none, some (.ref a5), some (.ref a6), none, some (.ref a8), some (.ref a9), none, none, none, some (.int i13), some (.int i14), none, none, none, none, none, none, none, none, none, none, none] [.int s0] ws 0 0 := by
  unfold m_L_isDone_b64 at h
  refine j_istore_15 (pc := 64) dL_isDone_64 (by decide) rfl ?_
  refine j_iload (pc := 66) dL_isDone_66 rfl ?_
  refine j_bipush (pc := 68) dL_isDone_68 (v := 21) (by decide) ?_
  refine j_icmp_ge (pc := 70) (tgt := 84) dL_isDone_70 (by decide) (fun c1 => ?_) (fun c1 => ?_)
  · rw [if_pos c1] at h
    exact jm_L_isDone_b84 _ _ _ _ _ _ _ _ _ _ ws h
  · rw [if_neg c1] at h
    refine j_iload (pc := 73) dL_isDone_73 rfl ?_
    refine j_bipush (pc := 75) dL_isDone_75 (v := 6) (by decide) ?_
    refine j_icmp_ge (pc := 77) (tgt := 84) dL_isDone_77 (by decide) (fun c2 => ?_) (fun c2 => ?_)
    · rw [if_pos c2] at h
      exact jm_L_isDone_b84 _ _ _ _ _ _ _ _ _ _ ws h
    · rw [if_neg c2] at h
      refine j_iconst (pc := 80) dL_isDone_80 (v := 1) (by decide) ?_
      refine j_goto (pc := 81) (tgt := 85) dL_isDone_81 (by decide) ?_
      exact jm_L_isDone_b85 _ _ _ _ _ _ _ _ _ _ _ ws h
def m_L_isDone_b25 (a0 : Nat) (a1 : Nat) (a3 : Nat) (a5 : Nat) (a6 : Nat) (a8 : Nat) (a9 : Nat) (i12 : Int32) (s0 : Int32) (ws : LWd) : Option (Int32 × LWd) :=
  if (jrem (i12 / 7) 13) = 12 then
    m_L_isDone_b64 a0 a1 a3 a5 a6 a8 a9 s0 ((jrem i12 7) - 3) 6 ws
  else
    m_L_isDone_b64 a0 a1 a3 a5 a6 a8 a9 s0 ((jrem i12 7) - 3) ((jrem (i12 / 7) 7) - 3) ws
set_option maxRecDepth 100000 in
set_option maxHeartbeats 4000000 in
theorem jm_L_isDone_b25 {n0 : Nat} {rr : Int32} {ws' : LWd} (a0 : Nat) (a1 : Nat) (a3 : Nat) (a5 : Nat) (a6 : Nat) (a8 : Nat) (a9 : Nat) (i12 : Int32) (s0 : Int32) (ws : LWd) (h : m_L_isDone_b25 a0 a1 a3 a5 a6 a8 a9 i12 s0 ws = some (rr, ws')) : JG (.inr none) cL_isDone 26 RL wsL_isDone (some .boolean) "isDone" 8 1 6 n0 (.inl (some (.int rr)), ws') 25 [some (.ref a0), some (.ref a1), none, some (.ref a3), none, some (.ref a5), some (.ref a6), none, some (.ref a8), some (.ref a9), none, none, some (.int i12), none, none, none, none, none, none, none, none, none, none, none, none, none] [.int s0] ws 0 0 := by
  unfold m_L_isDone_b25 at h
  refine j_istore_13 (pc := 25) dL_isDone_25 (by decide) rfl ?_
  refine j_iload (pc := 27) dL_isDone_27 rfl ?_
  refine j_bipush (pc := 29) dL_isDone_29 (v := 7) (by decide) ?_
  refine j_irem (pc := 31) dL_isDone_31 (by decide) ?_
  refine j_iconst (pc := 32) dL_isDone_32 (v := 3) (by decide) ?_
  refine j_isub (pc := 33) dL_isDone_33 ?_
  refine j_istore_14 (pc := 34) dL_isDone_34 (by decide) rfl ?_
  refine j_iload (pc := 36) dL_isDone_36 rfl ?_
  refine j_bipush (pc := 38) dL_isDone_38 (v := 7) (by decide) ?_
  refine j_idiv (pc := 40) dL_isDone_40 (by decide) ?_
  refine j_bipush (pc := 41) dL_isDone_41 (v := 13) (by decide) ?_
  refine j_irem (pc := 43) dL_isDone_43 (by decide) ?_
  refine j_bipush (pc := 44) dL_isDone_44 (v := 12) (by decide) ?_
  refine j_icmp_ne (pc := 46) (tgt := 54) dL_isDone_46 (by decide) (fun c1 => ?_) (fun c1 => ?_)
  · rw [if_neg c1] at h
    refine j_iload (pc := 54) dL_isDone_54 rfl ?_
    refine j_bipush (pc := 56) dL_isDone_56 (v := 7) (by decide) ?_
    refine j_idiv (pc := 58) dL_isDone_58 (by decide) ?_
    refine j_bipush (pc := 59) dL_isDone_59 (v := 7) (by decide) ?_
    refine j_irem (pc := 61) dL_isDone_61 (by decide) ?_
    refine j_iconst (pc := 62) dL_isDone_62 (v := 3) (by decide) ?_
    refine j_isub (pc := 63) dL_isDone_63 ?_
    refine j_mask [true, true, false, true, false, true, true, false, true, true, false, false, false, true, true, false, false, false, false, false, false, false, false, false, false, false] ?_
    exact jm_L_isDone_b64 _ _ _ _ _ _ _ _ _ _ ws h
  · rw [if_pos c1] at h
    refine j_bipush (pc := 49) dL_isDone_49 (v := 6) (by decide) ?_
    refine j_goto (pc := 51) (tgt := 64) dL_isDone_51 (by decide) ?_
    refine j_mask [true, true, false, true, false, true, true, false, true, true, false, false, false, true, true, false, false, false, false, false, false, false, false, false, false, false] ?_
    exact jm_L_isDone_b64 _ _ _ _ _ _ _ _ _ _ ws h
def m_L_isDone (a0 : Nat) (a1 : Nat) (a2 : Nat) (a3 : Nat) (a4 : Nat) (a5 : Nat) (a6 : Nat) (a7 : Nat) (a8 : Nat) (a9 : Nat) (i10 : Int32) (i11 : Int32) (i12 : Int32) (ws : LWd) : Option (Int32 × LWd) :=
  if i10 = 0 then
    if (jrem i11 23) = 22 then
      m_L_isDone_b25 a0 a1 a3 a5 a6 a8 a9 i12 21 ws
    else
      m_L_isDone_b25 a0 a1 a3 a5 a6 a8 a9 i12 (jrem i11 21) ws
  else
    if i10 = 1 then
      (aI ws a9 0).bind fun x9 =>
      if x9 = 0 then
        (aI ws a9 7).bind fun x12 =>
        if x12 ≤ 0 then
          m_L_isDone_b288 a0 a1 a2 a3 a4 a5 a6 a8 a9 ws
        else
          (aI ws a9 3).bind fun x15 =>
          if x15 ≤ 19 then
            m_L_isDone_b288 a0 a1 a2 a3 a4 a5 a6 a8 a9 ws
          else
            m_L_isDone_b289 a0 a1 a2 a3 a4 a5 a6 a8 a9 1 ws
      else
        m_L_isDone_b288 a0 a1 a2 a3 a4 a5 a6 a8 a9 ws
    else
      (aI ws a9 7).bind fun x3 =>
      if x3 + 1 = 0 then none else
      (aI ws a9 7).bind fun x6 =>
      if x6 ≤ (jrem i11 (x3 + 1)) then
        m_L_isDone_b705 a0 a1 a2 a3 a4 a5 a6 a7 a8 a9 i10 i11 i12 (jrem i11 (x3 + 1)) 0 ws
      else
        m_L_isDone_b705 a0 a1 a2 a3 a4 a5 a6 a7 a8 a9 i10 i11 i12 (jrem i11 (x3 + 1)) 1 ws
set_option maxRecDepth 100000 in
set_option maxHeartbeats 4000000 in
theorem s_L_isDone {a0 : Nat} {a1 : Nat} {a2 : Nat} {a3 : Nat} {a4 : Nat} {a5 : Nat} {a6 : Nat} {a7 : Nat} {a8 : Nat} {a9 : Nat} {i10 : Int32} {i11 : Int32} {i12 : Int32} {ws : LWd} {rr : Int32} {ws' : LWd} (h : m_L_isDone a0 a1 a2 a3 a4 a5 a6 a7 a8 a9 i10 i11 i12 ws = some (rr, ws')) : jSW  none yL_isDone wsL_isDone 8 1 6 [.ref a0, .ref a1, .ref a2, .ref a3, .ref a4, .ref a5, .ref a6, .ref a7, .ref a8, .ref a9, .int i10, .int i11, .int i12] ws (.inl (some (.int rr)), ws') := by
  unfold m_L_isDone at h
  refine j_entryW (ret := (some .boolean)) (nm := "isDone") (own := RL) pl_L rfl rfl rfl (jcats (by rfl)) (Nat.le_of_ble_eq_true rfl) ?_
  show JG (.inr none) cL_isDone 26 RL wsL_isDone (some .boolean) "isDone" 8 1 6 ws.length (.inl (some (.int rr)), ws') 0 [some (.ref a0), some (.ref a1), some (.ref a2), some (.ref a3), some (.ref a4), some (.ref a5), some (.ref a6), some (.ref a7), some (.ref a8), some (.ref a9), some (.int i10), some (.int i11), some (.int i12), none, none, none, none, none, none, none, none, none, none, none, none, none] [] ws 0 0
  refine j_iload (pc := 0) dL_isDone_0 rfl ?_
  refine j_if_ne (pc := 2) (tgt := 254) dL_isDone_2 (by decide) (fun c1 => ?_) (fun c1 => ?_)
  · rw [if_neg c1] at h
    refine j_iload (pc := 254) dL_isDone_254 rfl ?_
    refine j_iconst (pc := 256) dL_isDone_256 (v := 1) (by decide) ?_
    refine j_icmp_ne (pc := 257) (tgt := 678) dL_isDone_257 (by decide) (fun c2 => ?_) (fun c2 => ?_)
    · rw [if_neg c2] at h
      refine j_iload (pc := 678) dL_isDone_678 rfl ?_
      refine j_aload (pc := 680) dL_isDone_680 rfl ?_
      refine j_bipush (pc := 682) dL_isDone_682 (v := 7) (by decide) ?_
      obtain ⟨x3, e4, h⟩ := obS h
      refine j_iald (pc := 684) dL_isDone_684 e4 ?_
      refine j_iconst (pc := 685) dL_isDone_685 (v := 1) (by decide) ?_
      refine j_iadd (pc := 686) dL_isDone_686 ?_
      have c5 := jneS h
      rw [if_neg c5] at h
      refine j_irem (pc := 687) dL_isDone_687 c5 ?_
      refine j_istore_13 (pc := 688) dL_isDone_688 (by decide) rfl ?_
      refine j_iload (pc := 690) dL_isDone_690 rfl ?_
      refine j_aload (pc := 692) dL_isDone_692 rfl ?_
      refine j_bipush (pc := 694) dL_isDone_694 (v := 7) (by decide) ?_
      obtain ⟨x6, e7, h⟩ := obS h
      refine j_iald (pc := 696) dL_isDone_696 e7 ?_
      refine j_icmp_ge (pc := 697) (tgt := 704) dL_isDone_697 (by decide) (fun c8 => ?_) (fun c8 => ?_)
      · rw [if_pos c8] at h
        refine j_iconst (pc := 704) dL_isDone_704 (v := 0) (by decide) ?_
        exact jm_L_isDone_b705 _ _ _ _ _ _ _ _ _ _ _ _ _ _ _ ws h
      · rw [if_neg c8] at h
        refine j_iconst (pc := 700) dL_isDone_700 (v := 1) (by decide) ?_
        refine j_goto (pc := 701) (tgt := 705) dL_isDone_701 (by decide) ?_
        exact jm_L_isDone_b705 _ _ _ _ _ _ _ _ _ _ _ _ _ _ _ ws h
    · rw [if_pos c2] at h
      refine j_aload (pc := 260) dL_isDone_260 rfl ?_
      refine j_iconst (pc := 262) dL_isDone_262 (v := 0) (by decide) ?_
      obtain ⟨x9, e10, h⟩ := obS h
      refine j_iald (pc := 263) dL_isDone_263 e10 ?_
      refine j_if_ne (pc := 264) (tgt := 288) dL_isDone_264 (by decide) (fun c11 => ?_) (fun c11 => ?_)
      · rw [if_neg c11] at h
        refine j_mask [true, true, true, true, true, true, true, false, true, true, false, false, false, false, false, false, false, false, false, false, false, false, false, false, false, false] ?_
        exact jm_L_isDone_b288 _ _ _ _ _ _ _ _ _ ws h
      · rw [if_pos c11] at h
        refine j_aload (pc := 267) dL_isDone_267 rfl ?_
        refine j_bipush (pc := 269) dL_isDone_269 (v := 7) (by decide) ?_
        obtain ⟨x12, e13, h⟩ := obS h
        refine j_iald (pc := 271) dL_isDone_271 e13 ?_
        refine j_if_le (pc := 272) (tgt := 288) dL_isDone_272 (by decide) (fun c14 => ?_) (fun c14 => ?_)
        · rw [if_pos c14] at h
          refine j_mask [true, true, true, true, true, true, true, false, true, true, false, false, false, false, false, false, false, false, false, false, false, false, false, false, false, false] ?_
          exact jm_L_isDone_b288 _ _ _ _ _ _ _ _ _ ws h
        · rw [if_neg c14] at h
          refine j_aload (pc := 275) dL_isDone_275 rfl ?_
          refine j_iconst (pc := 277) dL_isDone_277 (v := 3) (by decide) ?_
          obtain ⟨x15, e16, h⟩ := obS h
          refine j_iald (pc := 278) dL_isDone_278 e16 ?_
          refine j_bipush (pc := 279) dL_isDone_279 (v := 19) (by decide) ?_
          refine j_icmp_le (pc := 281) (tgt := 288) dL_isDone_281 (by decide) (fun c17 => ?_) (fun c17 => ?_)
          · rw [if_pos c17] at h
            refine j_mask [true, true, true, true, true, true, true, false, true, true, false, false, false, false, false, false, false, false, false, false, false, false, false, false, false, false] ?_
            exact jm_L_isDone_b288 _ _ _ _ _ _ _ _ _ ws h
          · rw [if_neg c17] at h
            refine j_iconst (pc := 284) dL_isDone_284 (v := 1) (by decide) ?_
            refine j_goto (pc := 285) (tgt := 289) dL_isDone_285 (by decide) ?_
            refine j_mask [true, true, true, true, true, true, true, false, true, true, false, false, false, false, false, false, false, false, false, false, false, false, false, false, false, false] ?_
            exact jm_L_isDone_b289 _ _ _ _ _ _ _ _ _ _ ws h
  · rw [if_pos c1] at h
    refine j_iload (pc := 5) dL_isDone_5 rfl ?_
    refine j_bipush (pc := 7) dL_isDone_7 (v := 23) (by decide) ?_
    refine j_irem (pc := 9) dL_isDone_9 (by decide) ?_
    refine j_bipush (pc := 10) dL_isDone_10 (v := 22) (by decide) ?_
    refine j_icmp_ne (pc := 12) (tgt := 20) dL_isDone_12 (by decide) (fun c18 => ?_) (fun c18 => ?_)
    · rw [if_neg c18] at h
      refine j_iload (pc := 20) dL_isDone_20 rfl ?_
      refine j_bipush (pc := 22) dL_isDone_22 (v := 21) (by decide) ?_
      refine j_irem (pc := 24) dL_isDone_24 (by decide) ?_
      refine j_mask [true, true, false, true, false, true, true, false, true, true, false, false, true, false, false, false, false, false, false, false, false, false, false, false, false, false] ?_
      exact jm_L_isDone_b25 _ _ _ _ _ _ _ _ _ ws h
    · rw [if_pos c18] at h
      refine j_bipush (pc := 15) dL_isDone_15 (v := 21) (by decide) ?_
      refine j_goto (pc := 17) (tgt := 25) dL_isDone_17 (by decide) ?_
      refine j_mask [true, true, false, true, false, true, true, false, true, true, false, false, true, false, false, false, false, false, false, false, false, false, false, false, false, false] ?_
      exact jm_L_isDone_b25 _ _ _ _ _ _ _ _ _ ws h
