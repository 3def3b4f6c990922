/-! methods: written by wip/p27/make.py -/
def wsL_four : List Cond := Cond.code yL_four cL_four 2 (some .int) :: jW
def m_L_four (a0 : Nat) (i1 : Int32) (ws : LWd) : Option (Int32 × LWd) :=
  (aLd ws a0 (i1 / 16)).bind fun x1 =>
  some (Int64.toInt32 ((jlushr x1 (4 * (jrem i1 16))) &&& 15), ws)
set_option maxRecDepth 100000 in
set_option maxHeartbeats 4000000 in
theorem s_L_four {a0 : Nat} {i1 : Int32} {ws : LWd} {rr : Int32} {ws' : LWd} (h : m_L_four a0 i1 ws = some (rr, ws')) : jSp yL_four wsL_four 0 0 0 [.ref a0, .int i1] ws (.inl (some (.int rr)), ws') := by
  unfold m_L_four at h
  refine j_entry (ret := (some .int)) (nm := "four") (own := RL) pl_L rfl rfl rfl (jcats (by rfl)) (Nat.le_of_ble_eq_true rfl) ?_
  show JG (.inl false) cL_four 2 RL wsL_four (some .int) "four" 0 0 0 ws.length (.inl (some (.int rr)), ws') 0 [some (.ref a0), some (.int i1)] [] ws 0 0
  refine j_aload_n (pc := 0) dL_four_0 rfl ?_
  refine j_iload_n (pc := 1) dL_four_1 rfl ?_
  refine j_bipush (pc := 2) dL_four_2 (v := 16) (by decide) ?_
  refine j_idiv (pc := 4) dL_four_4 (by decide) ?_
  obtain ⟨x1, e2, h⟩ := obS h
  refine j_lald (pc := 5) dL_four_5 e2 ?_
  refine j_iconst (pc := 6) dL_four_6 (v := 4) (by decide) ?_
  refine j_iload_n (pc := 7) dL_four_7 rfl ?_
  refine j_bipush (pc := 8) dL_four_8 (v := 16) (by decide) ?_
  refine j_irem (pc := 10) dL_four_10 (by decide) ?_
  refine j_imul (pc := 11) dL_four_11 ?_
  refine j_lushr (pc := 12) dL_four_12 ?_
  refine j_ldc2 (pc := 13) dL_four_13 (v := 15) (jwm lw_591) ?_
  refine j_land (pc := 16) dL_four_16 ?_
  refine j_l2i (pc := 17) dL_four_17 ?_
  obtain ⟨rfl, rfl⟩ := jretS h
  exact j_iret (pc := 18) rfl dL_four_18 (by decide) (by decide) rfl
def wsL_sets : List Cond := Cond.code yL_sets cL_sets 3 none :: jW
def m_L_sets (a0 : Nat) (i1 : Int32) (i2 : Int32) (ws : LWd) : Option LWd :=
  (aLd ws a0 (i1 / 16)).bind fun x1 =>
  (sL ws a0 (i1 / 16) (x1 &&& ((15 <<< (Int32.toInt64 (4 * (jrem i1 16)) &&& 63)) ^^^ ((-1))))).bind fun w3 =>
  (aLd w3 a0 (i1 / 16)).bind fun x5 =>
  (sL w3 a0 (i1 / 16) (x5 ||| ((Int32.toInt64 i2) <<< (Int32.toInt64 (4 * (jrem i1 16)) &&& 63)))).bind fun w7 =>
  some w7
set_option maxRecDepth 100000 in
set_option maxHeartbeats 4000000 in
theorem s_L_sets {a0 : Nat} {i1 : Int32} {i2 : Int32} {ws : LWd} {ws' : LWd} (h : m_L_sets a0 i1 i2 ws = some ws') : jSp yL_sets wsL_sets 0 0 0 [.ref a0, .int i1, .int i2] ws (.inl none, ws') := by
  unfold m_L_sets at h
  refine j_entry (ret := none) (nm := "sets") (own := RL) pl_L rfl rfl rfl (jcats (by rfl)) (Nat.le_of_ble_eq_true rfl) ?_
  show JG (.inl false) cL_sets 3 RL wsL_sets none "sets" 0 0 0 ws.length (.inl none, ws') 0 [some (.ref a0), some (.int i1), some (.int i2)] [] ws 0 0
  refine j_aload_n (pc := 0) dL_sets_0 rfl ?_
  refine j_iload_n (pc := 1) dL_sets_1 rfl ?_
  refine j_bipush (pc := 2) dL_sets_2 (v := 16) (by decide) ?_
  refine j_idiv (pc := 4) dL_sets_4 (by decide) ?_
  refine j_dup2 (pc := 5) dL_sets_5 rfl rfl ?_
  obtain ⟨x1, e2, h⟩ := obS h
  refine j_lald (pc := 6) dL_sets_6 e2 ?_
  refine j_ldc2 (pc := 7) dL_sets_7 (v := 15) (jwm lw_591) ?_
  refine j_iconst (pc := 10) dL_sets_10 (v := 4) (by decide) ?_
  refine j_iload_n (pc := 11) dL_sets_11 rfl ?_
  refine j_bipush (pc := 12) dL_sets_12 (v := 16) (by decide) ?_
  refine j_irem (pc := 14) dL_sets_14 (by decide) ?_
  refine j_imul (pc := 15) dL_sets_15 ?_
  refine j_lshl (pc := 16) dL_sets_16 ?_
  refine j_ldc2 (pc := 17) dL_sets_17 (v := (-1)) (jwm lw_592) ?_
  refine j_lxor (pc := 20) dL_sets_20 ?_
  refine j_land (pc := 21) dL_sets_21 ?_
  obtain ⟨w3, e4, h⟩ := obS h
  refine j_last (pc := 22) dL_sets_22 e4 ?_
  refine j_aload_n (pc := 23) dL_sets_23 rfl ?_
  refine j_iload_n (pc := 24) dL_sets_24 rfl ?_
  refine j_bipush (pc := 25) dL_sets_25 (v := 16) (by decide) ?_
  refine j_idiv (pc := 27) dL_sets_27 (by decide) ?_
  refine j_dup2 (pc := 28) dL_sets_28 rfl rfl ?_
  obtain ⟨x5, e6, h⟩ := obS h
  refine j_lald (pc := 29) dL_sets_29 e6 ?_
  refine j_iload_n (pc := 30) dL_sets_30 rfl ?_
  refine j_i2l (pc := 31) dL_sets_31 ?_
  refine j_iconst (pc := 32) dL_sets_32 (v := 4) (by decide) ?_
  refine j_iload_n (pc := 33) dL_sets_33 rfl ?_
  refine j_bipush (pc := 34) dL_sets_34 (v := 16) (by decide) ?_
  refine j_irem (pc := 36) dL_sets_36 (by decide) ?_
  refine j_imul (pc := 37) dL_sets_37 ?_
  refine j_lshl (pc := 38) dL_sets_38 ?_
  refine j_lor (pc := 39) dL_sets_39 ?_
  obtain ⟨w7, e8, h⟩ := obS h
  refine j_last (pc := 40) dL_sets_40 e8 ?_
  cases h
  exact j_vret (pc := 41) rfl dL_sets_41 (by decide) (by decide) rfl
def wsL_firm : List Cond := Cond.code yL_firm cL_firm 2 (some .int) :: jW
def m_L_firm (a0 : Nat) (i1 : Int32) (ws : LWd) : Option (Int32 × LWd) :=
  (aLd ws a0 (i1 / 8)).bind fun x1 =>
  some (Int64.toInt32 ((jlushr x1 (8 * (jrem i1 8))) &&& 255), ws)
set_option maxRecDepth 100000 in
set_option maxHeartbeats 4000000 in
theorem s_L_firm {a0 : Nat} {i1 : Int32} {ws : LWd} {rr : Int32} {ws' : LWd} (h : m_L_firm a0 i1 ws = some (rr, ws')) : jSp yL_firm wsL_firm 0 0 0 [.ref a0, .int i1] ws (.inl (some (.int rr)), ws') := by
  unfold m_L_firm at h
  refine j_entry (ret := (some .int)) (nm := "firm") (own := RL) pl_L rfl rfl rfl (jcats (by rfl)) (Nat.le_of_ble_eq_true rfl) ?_
  show JG (.inl false) cL_firm 2 RL wsL_firm (some .int) "firm" 0 0 0 ws.length (.inl (some (.int rr)), ws') 0 [some (.ref a0), some (.int i1)] [] ws 0 0
  refine j_aload_n (pc := 0) dL_firm_0 rfl ?_
  refine j_iload_n (pc := 1) dL_firm_1 rfl ?_
  refine j_bipush (pc := 2) dL_firm_2 (v := 8) (by decide) ?_
  refine j_idiv (pc := 4) dL_firm_4 (by decide) ?_
  obtain ⟨x1, e2, h⟩ := obS h
  refine j_lald (pc := 5) dL_firm_5 e2 ?_
  refine j_bipush (pc := 6) dL_firm_6 (v := 8) (by decide) ?_
  refine j_iload_n (pc := 8) dL_firm_8 rfl ?_
  refine j_bipush (pc := 9) dL_firm_9 (v := 8) (by decide) ?_
  refine j_irem (pc := 11) dL_firm_11 (by decide) ?_
  refine j_imul (pc := 12) dL_firm_12 ?_
  refine j_lushr (pc := 13) dL_firm_13 ?_
  refine j_ldc2 (pc := 14) dL_firm_14 (v := 255) (jwm lw_593) ?_
  refine j_land (pc := 17) dL_firm_17 ?_
  refine j_l2i (pc := 18) dL_firm_18 ?_
  obtain ⟨rfl, rfl⟩ := jretS h
  exact j_iret (pc := 19) rfl dL_firm_19 (by decide) (by decide) rfl
def wsL_hipX : List Cond := Cond.code yL_hipX cL_hipX 3 (some .int) :: jW
def m_L_hipX (a0 : Nat) (a1 : Nat) (i2 : Int32) (ws : LWd) : Option (Int32 × LWd) :=
  (aI ws a1 1).bind fun x1 =>
  (aI ws a0 i2).bind fun x3 =>
  some ((x1 + (jrem x3 11)) - 5, ws)
set_option maxRecDepth 100000 in
set_option maxHeartbeats 4000000 in
theorem s_L_hipX {a0 : Nat} {a1 : Nat} {i2 : Int32} {ws : LWd} {rr : Int32} {ws' : LWd} (h : m_L_hipX a0 a1 i2 ws = some (rr, ws')) : jSp yL_hipX wsL_hipX 0 0 0 [.ref a0, .ref a1, .int i2] ws (.inl (some (.int rr)), ws') := by
  unfold m_L_hipX at h
  refine j_entry (ret := (some .int)) (nm := "hipX") (own := RL) pl_L rfl rfl rfl (jcats (by rfl)) (Nat.le_of_ble_eq_true rfl) ?_
  show JG (.inl false) cL_hipX 3 RL wsL_hipX (some .int) "hipX" 0 0 0 ws.length (.inl (some (.int rr)), ws') 0 [some (.ref a0), some (.ref a1), some (.int i2)] [] ws 0 0
  refine j_aload_n (pc := 0) dL_hipX_0 rfl ?_
  refine j_iconst (pc := 1) dL_hipX_1 (v := 1) (by decide) ?_
  obtain ⟨x1, e2, h⟩ := obS h
  refine j_iald (pc := 2) dL_hipX_2 e2 ?_
  refine j_aload_n (pc := 3) dL_hipX_3 rfl ?_
  refine j_iload_n (pc := 4) dL_hipX_4 rfl ?_
  obtain ⟨x3, e4, h⟩ := obS h
  refine j_iald (pc := 5) dL_hipX_5 e4 ?_
  refine j_bipush (pc := 6) dL_hipX_6 (v := 11) (by decide) ?_
  refine j_irem (pc := 8) dL_hipX_8 (by decide) ?_
  refine j_iadd (pc := 9) dL_hipX_9 ?_
  refine j_iconst (pc := 10) dL_hipX_10 (v := 5) (by decide) ?_
  refine j_isub (pc := 11) dL_hipX_11 ?_
  obtain ⟨rfl, rfl⟩ := jretS h
  exact j_iret (pc := 12) rfl dL_hipX_12 (by decide) (by decide) rfl
def wsL_hipY : List Cond := Cond.code yL_hipY cL_hipY 3 (some .int) :: jW
def m_L_hipY (a0 : Nat) (a1 : Nat) (i2 : Int32) (ws : LWd) : Option (Int32 × LWd) :=
  (aI ws a1 2).bind fun x1 =>
  (aI ws a0 i2).bind fun x3 =>
  some ((x1 + (jrem (x3 / 11) 11)) - 5, ws)
set_option maxRecDepth 100000 in
set_option maxHeartbeats 4000000 in
theorem s_L_hipY {a0 : Nat} {a1 : Nat} {i2 : Int32} {ws : LWd} {rr : Int32} {ws' : LWd} (h : m_L_hipY a0 a1 i2 ws = some (rr, ws')) : jSp yL_hipY wsL_hipY 0 0 0 [.ref a0, .ref a1, .int i2] ws (.inl (some (.int rr)), ws') := by
  unfold m_L_hipY at h
  refine j_entry (ret := (some .int)) (nm := "hipY") (own := RL) pl_L rfl rfl rfl (jcats (by rfl)) (Nat.le_of_ble_eq_true rfl) ?_
  show JG (.inl false) cL_hipY 3 RL wsL_hipY (some .int) "hipY" 0 0 0 ws.length (.inl (some (.int rr)), ws') 0 [some (.ref a0), some (.ref a1), some (.int i2)] [] ws 0 0
  refine j_aload_n (pc := 0) dL_hipY_0 rfl ?_
  refine j_iconst (pc := 1) dL_hipY_1 (v := 2) (by decide) ?_
  obtain ⟨x1, e2, h⟩ := obS h
  refine j_iald (pc := 2) dL_hipY_2 e2 ?_
  refine j_aload_n (pc := 3) dL_hipY_3 rfl ?_
  refine j_iload_n (pc := 4) dL_hipY_4 rfl ?_
  obtain ⟨x3, e4, h⟩ := obS h
  refine j_iald (pc := 5) dL_hipY_5 e4 ?_
  refine j_bipush (pc := 6) dL_hipY_6 (v := 11) (by decide) ?_
  refine j_idiv (pc := 8) dL_hipY_8 (by decide) ?_
  refine j_bipush (pc := 9) dL_hipY_9 (v := 11) (by decide) ?_
  refine j_irem (pc := 11) dL_hipY_11 (by decide) ?_
  refine j_iadd (pc := 12) dL_hipY_12 ?_
  refine j_iconst (pc := 13) dL_hipY_13 (v := 5) (by decide) ?_
  refine j_isub (pc := 14) dL_hipY_14 ?_
  obtain ⟨rfl, rfl⟩ := jretS h
  exact j_iret (pc := 15) rfl dL_hipY_15 (by decide) (by decide) rfl
def wsL_isIn : List Cond := Cond.code yL_isIn cL_isIn 2 (some .boolean) :: jW
def m_L_isIn (i0 : Int32) (i1 : Int32) (ws : LWd) : Option (Int32 × LWd) :=
  if i0 < 0 then
    some (0, ws)
  else
    if i1 < 0 then
      some (0, ws)
    else
      if 20 ≤ i0 then
        some (0, ws)
      else
        if 20 ≤ i1 then
          some (0, ws)
        else
          some (1, ws)
set_option maxRecDepth 100000 in
set_option maxHeartbeats 4000000 in
theorem s_L_isIn {i0 : Int32} {i1 : Int32} {ws : LWd} {rr : Int32} {ws' : LWd} (h : m_L_isIn i0 i1 ws = some (rr, ws')) : jSp yL_isIn wsL_isIn 0 0 0 [.int i0, .int i1] ws (.inl (some (.int rr)), ws') := by
  unfold m_L_isIn at h
  refine j_entry (ret := (some .boolean)) (nm := "isIn") (own := RL) pl_L rfl rfl rfl (jcats (by rfl)) (Nat.le_of_ble_eq_true rfl) ?_
  show JG (.inl false) cL_isIn 2 RL wsL_isIn (some .boolean) "isIn" 0 0 0 ws.length (.inl (some (.int rr)), ws') 0 [some (.int i0), some (.int i1)] [] ws 0 0
  refine j_iload_n (pc := 0) dL_isIn_0 rfl ?_
  refine j_if_lt (pc := 1) (tgt := 24) dL_isIn_1 (by decide) (fun c1 => ?_) (fun c1 => ?_)
  · rw [if_pos c1] at h
    refine j_iconst (pc := 24) dL_isIn_24 (v := 0) (by decide) ?_
    obtain ⟨rfl, rfl⟩ := jretS h
    exact j_zretL (pc := 25) (by decide) rfl dL_isIn_25 (by decide) (by decide) rfl
  · rw [if_neg c1] at h
    refine j_iload_n (pc := 4) dL_isIn_4 rfl ?_
    refine j_if_lt (pc := 5) (tgt := 24) dL_isIn_5 (by decide) (fun c2 => ?_) (fun c2 => ?_)
    · rw [if_pos c2] at h
      refine j_iconst (pc := 24) dL_isIn_24 (v := 0) (by decide) ?_
      obtain ⟨rfl, rfl⟩ := jretS h
      exact j_zretL (pc := 25) (by decide) rfl dL_isIn_25 (by decide) (by decide) rfl
    · rw [if_neg c2] at h
      refine j_iload_n (pc := 8) dL_isIn_8 rfl ?_
      refine j_bipush (pc := 9) dL_isIn_9 (v := 20) (by decide) ?_
      refine j_icmp_ge (pc := 11) (tgt := 24) dL_isIn_11 (by decide) (fun c3 => ?_) (fun c3 => ?_)
      · rw [if_pos c3] at h
        refine j_iconst (pc := 24) dL_isIn_24 (v := 0) (by decide) ?_
        obtain ⟨rfl, rfl⟩ := jretS h
        exact j_zretL (pc := 25) (by decide) rfl dL_isIn_25 (by decide) (by decide) rfl
      · rw [if_neg c3] at h
        refine j_iload_n (pc := 14) dL_isIn_14 rfl ?_
        refine j_bipush (pc := 15) dL_isIn_15 (v := 20) (by decide) ?_
        refine j_icmp_ge (pc := 17) (tgt := 24) dL_isIn_17 (by decide) (fun c4 => ?_) (fun c4 => ?_)
        · rw [if_pos c4] at h
          refine j_iconst (pc := 24) dL_isIn_24 (v := 0) (by decide) ?_
          obtain ⟨rfl, rfl⟩ := jretS h
          exact j_zretL (pc := 25) (by decide) rfl dL_isIn_25 (by decide) (by decide) rfl
        · rw [if_neg c4] at h
          refine j_iconst (pc := 20) dL_isIn_20 (v := 1) (by decide) ?_
          refine j_goto (pc := 21) (tgt := 25) dL_isIn_21 (by decide) ?_
          obtain ⟨rfl, rfl⟩ := jretS h
          exact j_zretL (pc := 25) (by decide) rfl dL_isIn_25 (by decide) (by decide) rfl
def wsL_isNear : List Cond := Cond.code yL_isNear cL_isNear 7 (some .boolean) :: jW
def m_L_isNear (a0 : Nat) (a1 : Nat) (i2 : Int32) (i3 : Int32) (i4 : Int32) (ws : LWd) : Option (Int32 × LWd) :=
  bn2 (calSR ws (m_L_hipX a0 a1 i2 ws)) fun x3 w1 =>
  bn2 (calSR w1 (m_L_hipY a0 a1 i2 w1)) fun x6 w4 =>
  (aI w4 a0 i2).bind fun x7 =>
  (aI w4 a0 i2).bind fun x9 =>
  if ((x7 / 121) * (x9 / 121)) < (((i3 - x3) * (i3 - x3)) + ((i4 - x6) * (i4 - x6))) then
    some (0, w4)
  else
    some (1, w4)
set_option maxRecDepth 100000 in
set_option maxHeartbeats 4000000 in
theorem s_L_isNear {a0 : Nat} {a1 : Nat} {i2 : Int32} {i3 : Int32} {i4 : Int32} {ws : LWd} {rr : Int32} {ws' : LWd} (h : m_L_isNear a0 a1 i2 i3 i4 ws = some (rr, ws')) : jSp yL_isNear wsL_isNear 1 0 0 [.ref a0, .ref a1, .int i2, .int i3, .int i4] ws (.inl (some (.int rr)), ws') := by
  unfold m_L_isNear at h
  refine j_entry (ret := (some .boolean)) (nm := "isNear") (own := RL) pl_L rfl rfl rfl (jcats (by rfl)) (Nat.le_of_ble_eq_true rfl) ?_
  show JG (.inl false) cL_isNear 7 RL wsL_isNear (some .boolean) "isNear" 1 0 0 ws.length (.inl (some (.int rr)), ws') 0 [some (.ref a0), some (.ref a1), some (.int i2), some (.int i3), some (.int i4), none, none] [] ws 0 0
  refine j_iload_n (pc := 0) dL_isNear_0 rfl ?_
  refine j_aload_n (pc := 1) dL_isNear_1 rfl ?_
  refine j_aload_n (pc := 2) dL_isNear_2 rfl ?_
  refine j_iload_n (pc := 3) dL_isNear_3 rfl ?_
  obtain ⟨x3, w1, e2, h⟩ := obS2 h
  have ge2 := calSR_of e2
  refine j_callS_g (pc := 4) (As := [.ref a0, .ref a1, .int i2]) (k' := 0) (n' := 0) dL_isNear_4 (s_L_hipX ge2.1) (jgS lw_595 lw_596 lw_597 lw_594) rfl hy_L_hipX rfl (by decide) (by decide) (Nat.le_of_ble_eq_true rfl) (by decide) (by decide) (by decide) (by decide) (Or.inl ge2.2) ?_
  refine j_isub (pc := 7) dL_isNear_7 ?_
  refine j_istore_5 (pc := 8) dL_isNear_8 (by decide) rfl ?_
  refine j_iload (pc := 10) dL_isNear_10 rfl ?_
  refine j_aload_n (pc := 12) dL_isNear_12 rfl ?_
  refine j_aload_n (pc := 13) dL_isNear_13 rfl ?_
  refine j_iload_n (pc := 14) dL_isNear_14 rfl ?_
  obtain ⟨x6, w4, e5, h⟩ := obS2 h
  have ge5 := calSR_of e5
  refine j_callS_g (pc := 15) (As := [.ref a0, .ref a1, .int i2]) (k' := 0) (n' := 0) dL_isNear_15 (s_L_hipY ge5.1) (jgS lw_599 lw_600 lw_597 lw_598) rfl hy_L_hipY rfl (by decide) (by decide) (Nat.le_of_ble_eq_true rfl) (by decide) (by decide) (by decide) (by decide) (Or.inl ge5.2) ?_
  refine j_isub (pc := 18) dL_isNear_18 ?_
  refine j_istore_6 (pc := 19) dL_isNear_19 (by decide) rfl ?_
  refine j_iload (pc := 21) dL_isNear_21 rfl ?_
  refine j_iload (pc := 23) dL_isNear_23 rfl ?_
  refine j_imul (pc := 25) dL_isNear_25 ?_
  refine j_iload (pc := 26) dL_isNear_26 rfl ?_
  refine j_iload (pc := 28) dL_isNear_28 rfl ?_
  refine j_imul (pc := 30) dL_isNear_30 ?_
  refine j_iadd (pc := 31) dL_isNear_31 ?_
  refine j_aload_n (pc := 32) dL_isNear_32 rfl ?_
  refine j_iload_n (pc := 33) dL_isNear_33 rfl ?_
  obtain ⟨x7, e8, h⟩ := obS h
  refine j_iald (pc := 34) dL_isNear_34 e8 ?_
  refine j_bipush (pc := 35) dL_isNear_35 (v := 121) (by decide) ?_
  refine j_idiv (pc := 37) dL_isNear_37 (by decide) ?_
  refine j_aload_n (pc := 38) dL_isNear_38 rfl ?_
  refine j_iload_n (pc := 39) dL_isNear_39 rfl ?_
  obtain ⟨x9, e10, h⟩ := obS h
  refine j_iald (pc := 40) dL_isNear_40 e10 ?_
  refine j_bipush (pc := 41) dL_isNear_41 (v := 121) (by decide) ?_
  refine j_idiv (pc := 43) dL_isNear_43 (by decide) ?_
  refine j_imul (pc := 44) dL_isNear_44 ?_
  refine j_icmp_gt (pc := 45) (tgt := 52) dL_isNear_45 (by decide) (fun c11 => ?_) (fun c11 => ?_)
  · rw [if_pos c11] at h
    refine j_iconst (pc := 52) dL_isNear_52 (v := 0) (by decide) ?_
    obtain ⟨rfl, rfl⟩ := jretS h
    exact j_zretL (pc := 53) (by decide) rfl dL_isNear_53 (by decide) (by decide) rfl
  · rw [if_neg c11] at h
    refine j_iconst (pc := 48) dL_isNear_48 (v := 1) (by decide) ?_
    refine j_goto (pc := 49) (tgt := 53) dL_isNear_49 (by decide) ?_
    obtain ⟨rfl, rfl⟩ := jretS h
    exact j_zretL (pc := 53) (by decide) rfl dL_isNear_53 (by decide) (by decide) rfl
def wsL_far : List Cond := Cond.code yL_far cL_far 7 (some .int) :: jW
def m_L_far_b34 (i6 : Int32) (s0 : Int32) (ws : LWd) : Option (Int32 × LWd) :=
  if 0 ≤ i6 then
    some (s0 + i6, ws)
  else
    some (s0 + (-i6), ws)
set_option maxRecDepth 100000 in
set_option maxHeartbeats 4000000 in
theorem jm_L_far_b34 {n0 : Nat} {rr : Int32} {ws' : LWd} (i6 : Int32) (s0 : Int32) (ws : LWd) (h : m_L_far_b34 i6 s0 ws = some (rr, ws')) : JG (.inl false) cL_far 7 RL wsL_far (some .int) "far" 1 0 0 n0 (.inl (some (.int rr)), ws') 34 [none, none, none, none, none, none, some (.int i6)] [.int s0] ws 0 0 := by
  unfold m_L_far_b34 at h
  refine j_iload (pc := 34) dL_far_34 rfl ?_
  refine j_if_ge (pc := 36) (tgt := 45) dL_far_36 (by decide) (fun c1 => ?_) (fun c1 => ?_)
  · rw [if_pos c1] at h
    refine j_iload (pc := 45) dL_far_45 rfl ?_
    refine j_iadd (pc := 47) dL_far_47 ?_
    obtain ⟨rfl, rfl⟩ := jretS h
    exact j_iret (pc := 48) rfl dL_far_48 (by decide) (by decide) rfl
  · rw [if_neg c1] at h
    refine j_iload (pc := 39) dL_far_39 rfl ?_
    refine j_ineg (pc := 41) dL_far_41 ?_
    refine j_goto (pc := 42) (tgt := 47) dL_far_42 (by decide) ?_
    refine j_iadd (pc := 47) dL_far_47 ?_
    obtain ⟨rfl, rfl⟩ := jretS h
    exact j_iret (pc := 48) rfl dL_far_48 (by decide) (by decide) rfl
def m_L_far (a0 : Nat) (a1 : Nat) (i2 : Int32) (i3 : Int32) (i4 : Int32) (ws : LWd) : Option (Int32 × LWd) :=
  bn2 (calSR ws (m_L_hipX a0 a1 i2 ws)) fun x3 w1 =>
  bn2 (calSR w1 (m_L_hipY a0 a1 i2 w1)) fun x6 w4 =>
  if 0 ≤ (i3 - x3) then
    m_L_far_b34 (i4 - x6) (i3 - x3) w4
  else
    m_L_far_b34 (i4 - x6) (-(i3 - x3)) w4
set_option maxRecDepth 100000 in
set_option maxHeartbeats 4000000 in
theorem s_L_far {a0 : Nat} {a1 : Nat} {i2 : Int32} {i3 : Int32} {i4 : Int32} {ws : LWd} {rr : Int32} {ws' : LWd} (h : m_L_far a0 a1 i2 i3 i4 ws = some (rr, ws')) : jSp yL_far wsL_far 1 0 0 [.ref a0, .ref a1, .int i2, .int i3, .int i4] ws (.inl (some (.int rr)), ws') := by
  unfold m_L_far at h
  refine j_entry (ret := (some .int)) (nm := "far") (own := RL) pl_L rfl rfl rfl (jcats (by rfl)) (Nat.le_of_ble_eq_true rfl) ?_
  show JG (.inl false) cL_far 7 RL wsL_far (some .int) "far" 1 0 0 ws.length (.inl (some (.int rr)), ws') 0 [some (.ref a0), some (.ref a1), some (.int i2), some (.int i3), some (.int i4), none, none] [] ws 0 0
  refine j_iload_n (pc := 0) dL_far_0 rfl ?_
  refine j_aload_n (pc := 1) dL_far_1 rfl ?_
  refine j_aload_n (pc := 2) dL_far_2 rfl ?_
  refine j_iload_n (pc := 3) dL_far_3 rfl ?_
  obtain ⟨x3, w1, e2, h⟩ := obS2 h
  have ge2 := calSR_of e2
  refine j_callS_g (pc := 4) (As := [.ref a0, .ref a1, .int i2]) (k' := 0) (n' := 0) dL_far_4 (s_L_hipX ge2.1) (jgS lw_595 lw_596 lw_597 lw_594) rfl hy_L_hipX rfl (by decide) (by decide) (Nat.le_of_ble_eq_true rfl) (by decide) (by decide) (by decide) (by decide) (Or.inl ge2.2) ?_
  refine j_isub (pc := 7) dL_far_7 ?_
  refine j_istore_5 (pc := 8) dL_far_8 (by decide) rfl ?_
  refine j_iload (pc := 10) dL_far_10 rfl ?_
  refine j_aload_n (pc := 12) dL_far_12 rfl ?_
  refine j_aload_n (pc := 13) dL_far_13 rfl ?_
  refine j_iload_n (pc := 14) dL_far_14 rfl ?_
  obtain ⟨x6, w4, e5, h⟩ := obS2 h
  have ge5 := calSR_of e5
  refine j_callS_g (pc := 15) (As := [.ref a0, .ref a1, .int i2]) (k' := 0) (n' := 0) dL_far_15 (s_L_hipY ge5.1) (jgS lw_599 lw_600 lw_597 lw_598) rfl hy_L_hipY rfl (by decide) (by decide) (Nat.le_of_ble_eq_true rfl) (by decide) (by decide) (by decide) (by decide) (Or.inl ge5.2) ?_
  refine j_isub (pc := 18) dL_far_18 ?_
  refine j_istore_6 (pc := 19) dL_far_19 (by decide) rfl ?_
  refine j_iload (pc := 21) dL_far_21 rfl ?_
  refine j_if_ge (pc := 23) (tgt := 32) dL_far_23 (by decide) (fun c7 => ?_) (fun c7 => ?_)
  · rw [if_pos c7] at h
    refine j_iload (pc := 32) dL_far_32 rfl ?_
    refine j_mask [false, false, false, false, false, false, true] ?_
    exact jm_L_far_b34 _ _ w4 h
  · rw [if_neg c7] at h
    refine j_iload (pc := 26) dL_far_26 rfl ?_
    refine j_ineg (pc := 28) dL_far_28 ?_
    refine j_goto (pc := 29) (tgt := 34) dL_far_29 (by decide) ?_
    refine j_mask [false, false, false, false, false, false, true] ?_
    exact jm_L_far_b34 _ _ w4 h
def wsL_isTaken : List Cond := Cond.code yL_isTaken cL_isTaken 7 (some .boolean) :: jW
def m_L_isTaken_b50 (k6 : Nat → Nat → Int32 → Int32 → Int32 → Int32 → Int32 → LWd → Option (Int32 × LWd)) (a0 : Nat) (a1 : Nat) (i2 : Int32) (i3 : Int32) (i4 : Int32) (i6 : Int32) (s0 : Int32) (ws : LWd) : Option (Int32 × LWd) :=
  k6 a0 a1 i2 i3 i4 s0 (i6 + 1) ws
set_option maxRecDepth 100000 in
set_option maxHeartbeats 4000000 in
theorem jm_L_isTaken_b50 {n0 : Nat} {rr : Int32} {ws' : LWd} {k6 : Nat → Nat → Int32 → Int32 → Int32 → Int32 → Int32 → LWd → Option (Int32 × LWd)} (hk6 : ∀ (a0 : Nat) (a1 : Nat) (i2 : Int32) (i3 : Int32) (i4 : Int32) (i5 : Int32) (i6 : Int32) (ws : LWd), k6 a0 a1 i2 i3 i4 i5 i6 ws = some (rr, ws') → JG (.inl false) cL_isTaken 7 RL wsL_isTaken (some .boolean) "isTaken" 0 0 0 n0 (.inl (some (.int rr)), ws') 6 [some (.ref a0), some (.ref a1), some (.int i2), some (.int i3), some (.int i4), some (.int i5), some (.int i6)] [] ws 0 0) (a0 : Nat) (a1 : Nat) (i2 : Int32) (i3 : Int32) (i4 : Int32) (i6 : Int32) (s0 : Int32) (ws : LWd) (h : m_L_isTaken_b50 k6 a0 a1 i2 i3 i4 i6 s0 ws = some (rr, ws')) : JG (.inl false) cL_isTaken 7 RL wsL_isTaken (some .boolean) "isTaken" 0 0 0 n0 (.inl (some (.int rr)), ws') 50 [some (.ref a0), some (.ref a1), some (.int i2), some (.int i3), some (.int i4), none, some (.int i6)] [.int s0] ws 0 0 := by
  unfold m_L_isTaken_b50 at h
  refine j_istore_5 (pc := 50) dL_isTaken_50 (by decide) rfl ?_
  refine j_iinc_6 (pc := 52) dL_isTaken_52 (y := i6 + 1) rfl (by decide) rfl ?_
  refine j_goto (pc := 55) (tgt := 6) dL_isTaken_55 (by decide) ?_
  exact hk6 _ _ _ _ _ _ _ ws h
def m_L_isTaken_b45 (k6 : Nat → Nat → Int32 → Int32 → Int32 → Int32 → Int32 → LWd → Option (Int32 × LWd)) (a0 : Nat) (a1 : Nat) (i2 : Int32) (i3 : Int32) (i4 : Int32) (i6 : Int32) (ws : LWd) : Option (Int32 × LWd) :=
  m_L_isTaken_b50 k6 a0 a1 i2 i3 i4 i6 1 ws
set_option maxRecDepth 100000 in
set_option maxHeartbeats 4000000 in
theorem jm_L_isTaken_b45 {n0 : Nat} {rr : Int32} {ws' : LWd} {k6 : Nat → Nat → Int32 → Int32 → Int32 → Int32 → Int32 → LWd → Option (Int32 × LWd)} (hk6 : ∀ (a0 : Nat) (a1 : Nat) (i2 : Int32) (i3 : Int32) (i4 : Int32) (i5 : Int32) (i6 : Int32) (ws : LWd), k6 a0 a1 i2 i3 i4 i5 i6 ws = some (rr, ws') → JG (.inl false) cL_isTaken 7 RL wsL_isTaken (some .boolean) "isTaken" 0 0 0 n0 (.inl (some (.int rr)), ws') 6 [some (.ref a0), some (.ref a1), some (.int i2), some (.int i3), some (.int i4), some (.int i5), some (.int i6)] [] ws 0 0) (a0 : Nat) (a1 : Nat) (i2 : Int32) (i3 : Int32) (i4 : Int32) (i6 : Int32) (ws : LWd) (h : m_L_isTaken_b45 k6 a0 a1 i2 i3 i4 i6 ws = some (rr, ws')) : JG (.inl false) cL_isTaken 7 RL wsL_isTaken (some .boolean) "isTaken" 0 0 0 n0 (.inl (some (.int rr)), ws') 45 [some (.ref a0), some (.ref a1), some (.int i2), some (.int i3), some (.int i4), none, some (.int i6)] [] ws 0 0 := by
  unfold m_L_isTaken_b45 at h
  refine j_iconst (pc := 45) dL_isTaken_45 (v := 1) (by decide) ?_
  refine j_goto (pc := 46) (tgt := 50) dL_isTaken_46 (by decide) ?_
  exact jm_L_isTaken_b50 (hk6 := hk6) _ _ _ _ _ _ _ ws h
def m_L_isTaken_b49 (k6 : Nat → Nat → Int32 → Int32 → Int32 → Int32 → Int32 → LWd → Option (Int32 × LWd)) (a0 : Nat) (a1 : Nat) (i2 : Int32) (i3 : Int32) (i4 : Int32) (i6 : Int32) (ws : LWd) : Option (Int32 × LWd) :=
  m_L_isTaken_b50 k6 a0 a1 i2 i3 i4 i6 0 ws
set_option maxRecDepth 100000 in
set_option maxHeartbeats 4000000 in
theorem jm_L_isTaken_b49 {n0 : Nat} {rr : Int32} {ws' : LWd} {k6 : Nat → Nat → Int32 → Int32 → Int32 → Int32 → Int32 → LWd → Option (Int32 × LWd)} (hk6 : ∀ (a0 : Nat) (a1 : Nat) (i2 : Int32) (i3 : Int32) (i4 : Int32) (i5 : Int32) (i6 : Int32) (ws : LWd), k6 a0 a1 i2 i3 i4 i5 i6 ws = some (rr, ws') → JG (.inl false) cL_isTaken 7 RL wsL_isTaken (some .boolean) "isTaken" 0 0 0 n0 (.inl (some (.int rr)), ws') 6 [some (.ref a0), some (.ref a1), some (.int i2), some (.int i3), some (.int i4), some (.int i5), some (.int i6)] [] ws 0 0) (a0 : Nat) (a1 : Nat) (i2 : Int32) (i3 : Int32) (i4 : Int32) (i6 : Int32) (ws : LWd) (h : m_L_isTaken_b49 k6 a0 a1 i2 i3 i4 i6 ws = some (rr, ws')) : JG (.inl false) cL_isTaken 7 RL wsL_isTaken (some .boolean) "isTaken" 0 0 0 n0 (.inl (some (.int rr)), ws') 49 [some (.ref a0), some (.ref a1), some (.int i2), some (.int i3), some (.int i4), none, some (.int i6)] [] ws 0 0 := by
  unfold m_L_isTaken_b49 at h
  refine j_iconst (pc := 49) dL_isTaken_49 (v := 0) (by decide) ?_
  exact jm_L_isTaken_b50 (hk6 := hk6) _ _ _ _ _ _ _ ws h
def m_L_isTaken_l6 : Nat → Nat → Nat → Int32 → Int32 → Int32 → Int32 → Int32 → LWd → Option (Int32 × LWd)
  | 0, _, _, _, _, _, _, _, _ => none
  | fu + 1, a0, a1, i2, i3, i4, i5, i6, ws =>
    if 6 ≤ i6 then
      retZ i5 ws
    else
      if i5 = 0 then
        if ((i2 >>> (i6 &&& 31)) &&& 1) = 1 then
          (aI ws a0 i6).bind fun x4 =>
          if x4 = i3 then
            (aI ws a1 i6).bind fun x7 =>
            if x7 = i4 then
              m_L_isTaken_b45 (fun z0 z1 z2 z3 z4 z5 z6 w => m_L_isTaken_l6 fu z0 z1 z2 z3 z4 z5 z6 w) a0 a1 i2 i3 i4 i6 ws
            else
              m_L_isTaken_b49 (fun z0 z1 z2 z3 z4 z5 z6 w => m_L_isTaken_l6 fu z0 z1 z2 z3 z4 z5 z6 w) a0 a1 i2 i3 i4 i6 ws
          else
            m_L_isTaken_b49 (fun z0 z1 z2 z3 z4 z5 z6 w => m_L_isTaken_l6 fu z0 z1 z2 z3 z4 z5 z6 w) a0 a1 i2 i3 i4 i6 ws
        else
          m_L_isTaken_b49 (fun z0 z1 z2 z3 z4 z5 z6 w => m_L_isTaken_l6 fu z0 z1 z2 z3 z4 z5 z6 w) a0 a1 i2 i3 i4 i6 ws
      else
        m_L_isTaken_b45 (fun z0 z1 z2 z3 z4 z5 z6 w => m_L_isTaken_l6 fu z0 z1 z2 z3 z4 z5 z6 w) a0 a1 i2 i3 i4 i6 ws
set_option maxRecDepth 100000 in
set_option maxHeartbeats 4000000 in
theorem jm_L_isTaken_l6 {n0 : Nat} {rr : Int32} {ws' : LWd} : ∀ (fu : Nat) (a0 : Nat) (a1 : Nat) (i2 : Int32) (i3 : Int32) (i4 : Int32) (i5 : Int32) (i6 : Int32) (ws : LWd), m_L_isTaken_l6 fu a0 a1 i2 i3 i4 i5 i6 ws = some (rr, ws') → JG (.inl false) cL_isTaken 7 RL wsL_isTaken (some .boolean) "isTaken" 0 0 0 n0 (.inl (some (.int rr)), ws') 6 [some (.ref a0), some (.ref a1), some (.int i2), some (.int i3), some (.int i4), some (.int i5), some (.int i6)] [] ws 0 0 := by
  intro fu
  induction fu with
  | zero => intro a0 a1 i2 i3 i4 i5 i6 ws h; first | (cases h; done) | (rw [m_L_isTaken_l6] at h; cases h)
  | succ fu ih =>
    intro a0 a1 i2 i3 i4 i5 i6 ws h
    rw [m_L_isTaken_l6] at h
    refine j_iload (pc := 6) dL_isTaken_6 rfl ?_
    refine j_bipush (pc := 8) dL_isTaken_8 (v := 6) (by decide) ?_
    refine j_icmp_ge (pc := 10) (tgt := 58) dL_isTaken_10 (by decide) (fun c1 => ?_) (fun c1 => ?_)
    · rw [if_pos c1] at h
      refine j_iload (pc := 58) dL_isTaken_58 rfl ?_
      exact j_zret (pc := 60) rfl dL_isTaken_60 (by decide) (by decide) h rfl rfl
    · rw [if_neg c1] at h
      refine j_iload (pc := 13) dL_isTaken_13 rfl ?_
      refine j_if_ne (pc := 15) (tgt := 45) dL_isTaken_15 (by decide) (fun c2 => ?_) (fun c2 => ?_)
      · rw [if_neg c2] at h
        refine j_mask [true, true, true, true, true, false, true] ?_
        exact jm_L_isTaken_b45 (hk6 := ih) _ _ _ _ _ _ ws h
      · rw [if_pos c2] at h
        refine j_iload_n (pc := 18) dL_isTaken_18 rfl ?_
        refine j_iload (pc := 19) dL_isTaken_19 rfl ?_
        refine j_ishr (pc := 21) dL_isTaken_21 ?_
        refine j_iconst (pc := 22) dL_isTaken_22 (v := 1) (by decide) ?_
        refine j_iand (pc := 23) dL_isTaken_23 ?_
        refine j_iconst (pc := 24) dL_isTaken_24 (v := 1) (by decide) ?_
        refine j_icmp_ne (pc := 25) (tgt := 49) dL_isTaken_25 (by decide) (fun c3 => ?_) (fun c3 => ?_)
        · rw [if_neg c3] at h
          refine j_mask [true, true, true, true, true, false, true] ?_
          exact jm_L_isTaken_b49 (hk6 := ih) _ _ _ _ _ _ ws h
        · rw [if_pos c3] at h
          refine j_aload_n (pc := 28) dL_isTaken_28 rfl ?_
          refine j_iload (pc := 29) dL_isTaken_29 rfl ?_
          obtain ⟨x4, e5, h⟩ := obS h
          refine j_iald (pc := 31) dL_isTaken_31 e5 ?_
          refine j_iload_n (pc := 32) dL_isTaken_32 rfl ?_
          refine j_icmp_ne (pc := 33) (tgt := 49) dL_isTaken_33 (by decide) (fun c6 => ?_) (fun c6 => ?_)
          · rw [if_neg c6] at h
            refine j_mask [true, true, true, true, true, false, true] ?_
            exact jm_L_isTaken_b49 (hk6 := ih) _ _ _ _ _ _ ws h
          · rw [if_pos c6] at h
            refine j_aload_n (pc := 36) dL_isTaken_36 rfl ?_
            refine j_iload (pc := 37) dL_isTaken_37 rfl ?_
            obtain ⟨x7, e8, h⟩ := obS h
            refine j_iald (pc := 39) dL_isTaken_39 e8 ?_
            refine j_iload (pc := 40) dL_isTaken_40 rfl ?_
            refine j_icmp_ne (pc := 42) (tgt := 49) dL_isTaken_42 (by decide) (fun c9 => ?_) (fun c9 => ?_)
            · rw [if_neg c9] at h
              refine j_mask [true, true, true, true, true, false, true] ?_
              exact jm_L_isTaken_b49 (hk6 := ih) _ _ _ _ _ _ ws h
            · rw [if_pos c9] at h
              refine j_mask [true, true, true, true, true, false, true] ?_
              exact jm_L_isTaken_b45 (hk6 := ih) _ _ _ _ _ _ ws h
def m_L_isTaken (a0 : Nat) (a1 : Nat) (i2 : Int32) (i3 : Int32) (i4 : Int32) (ws : LWd) : Option (Int32 × LWd) :=
  m_L_isTaken_l6 FU a0 a1 i2 i3 i4 0 0 ws
set_option maxRecDepth 100000 in
set_option maxHeartbeats 4000000 in
theorem s_L_isTaken {a0 : Nat} {a1 : Nat} {i2 : Int32} {i3 : Int32} {i4 : Int32} {ws : LWd} {rr : Int32} {ws' : LWd} (h : m_L_isTaken a0 a1 i2 i3 i4 ws = some (rr, ws')) : jSp yL_isTaken wsL_isTaken 0 0 0 [.ref a0, .ref a1, .int i2, .int i3, .int i4] ws (.inl (some (.int rr)), ws') := by
  unfold m_L_isTaken at h
  refine j_entry (ret := (some .boolean)) (nm := "isTaken") (own := RL) pl_L rfl rfl rfl (jcats (by rfl)) (Nat.le_of_ble_eq_true rfl) ?_
  show JG (.inl false) cL_isTaken 7 RL wsL_isTaken (some .boolean) "isTaken" 0 0 0 ws.length (.inl (some (.int rr)), ws') 0 [some (.ref a0), some (.ref a1), some (.int i2), some (.int i3), some (.int i4), none, none] [] ws 0 0
  refine j_iconst (pc := 0) dL_isTaken_0 (v := 0) (by decide) ?_
  refine j_istore_5 (pc := 1) dL_isTaken_1 (by decide) rfl ?_
  refine j_iconst (pc := 3) dL_isTaken_3 (v := 0) (by decide) ?_
  refine j_istore_6 (pc := 4) dL_isTaken_4 (by decide) rfl ?_
  exact jm_L_isTaken_l6 FU _ _ _ _ _ _ _ ws h
def wsL_holds : List Cond := Cond.code yL_holds cL_holds 22 (some .boolean) :: jW
def m_L_holds_b329 (k44 : Nat → Nat → Int32 → Int32 → Int32 → Int32 → Int32 → LWd → Option (Int32 × LWd)) (k55 : Nat → Nat → Int32 → Int32 → Int32 → Int32 → Int32 → Int32 → LWd → Option (Int32 × LWd)) (k66 : Nat → Nat → Int32 → Int32 → Int32 → Int32 → Int32 → Int32 → Int32 → LWd → Option (Int32 × LWd)) (a0 : Nat) (a1 : Nat) (i3 : Int32) (i4 : Int32) (i5 : Int32) (i6 : Int32) (i7 : Int32) (i8 : Int32) (i9 : Int32) (ws : LWd) : Option (Int32 × LWd) :=
  k66 a0 a1 i3 i4 i5 i6 i7 i8 (i9 + 1) ws
set_option maxRecDepth 100000 in
set_option maxHeartbeats 4000000 in
theorem jm_L_holds_b329 {n0 : Nat} {rr : Int32} {ws' : LWd} {k44 : Nat → Nat → Int32 → Int32 → Int32 → Int32 → Int32 → LWd → Option (Int32 × LWd)} {k55 : Nat → Nat → Int32 → Int32 → Int32 → Int32 → Int32 → Int32 → LWd → Option (Int32 × LWd)} {k66 : Nat → Nat → Int32 → Int32 → Int32 → Int32 → Int32 → Int32 → Int32 → LWd → Option (Int32 × LWd)} (hk44 : ∀ (a0 : Nat) (a1 : Nat) (i3 : Int32) (i4 : Int32) (i5 : Int32) (i6 : Int32) (i7 : Int32) (ws : LWd), k44 a0 a1 i3 i4 i5 i6 i7 ws = some (rr, ws') → JG (.inl false) cL_holds 22 RL wsL_holds (some .boolean) "holds" 0 0 0 n0 (.inl (some (.int rr)), ws') 44 [some (.ref a0), some (.ref a1), none, some (.int i3), some (.int i4), some (.int i5), some (.int i6), some (.int i7), none, none, none, none, none, none, none, none, none, none, none, none, none, none] [] ws 0 0) (hk55 : ∀ (a0 : Nat) (a1 : Nat) (i3 : Int32) (i4 : Int32) (i5 : Int32) (i6 : Int32) (i7 : Int32) (i8 : Int32) (ws : LWd), k55 a0 a1 i3 i4 i5 i6 i7 i8 ws = some (rr, ws') → JG (.inl false) cL_holds 22 RL wsL_holds (some .boolean) "holds" 0 0 0 n0 (.inl (some (.int rr)), ws') 55 [some (.ref a0), some (.ref a1), none, some (.int i3), some (.int i4), some (.int i5), some (.int i6), some (.int i7), some (.int i8), none, none, none, none, none, none, none, none, none, none, none, none, none] [] ws 0 0) (hk66 : ∀ (a0 : Nat) (a1 : Nat) (i3 : Int32) (i4 : Int32) (i5 : Int32) (i6 : Int32) (i7 : Int32) (i8 : Int32) (i9 : Int32) (ws : LWd), k66 a0 a1 i3 i4 i5 i6 i7 i8 i9 ws = some (rr, ws') → JG (.inl false) cL_holds 22 RL wsL_holds (some .boolean) "holds" 0 0 0 n0 (.inl (some (.int rr)), ws') 66 [some (.ref a0), some (.ref a1), none, some (.int i3), some (.int i4), some (.int i5), some (.int i6), some (.int i7), some (.int i8), some (.int i9), none, none, none, none, none, none, none, none, none, none, none, none] [] ws 0 0) (a0 : Nat) (a1 : Nat) (i3 : Int32) (i4 : Int32) (i5 : Int32) (i6 : Int32) (i7 : Int32) (i8 : Int32) (i9 : Int32) (ws : LWd) (h : m_L_holds_b329 k44 k55 k66 a0 a1 i3 i4 i5 i6 i7 i8 i9 ws = some (rr, ws')) : JG (.inl false) cL_holds 22 RL wsL_holds (some .boolean) "holds" 0 0 0 n0 (.inl (some (.int rr)), ws') 329 [some (.ref a0), some (.ref a1), none, some (.int i3), some (.int i4), some (.int i5), some (.int i6), some (.int i7), some (.int i8), some (.int i9), none, none, none, none, none, none, none, none, none, none, none, none] [] ws 0 0 := by
  unfold m_L_holds_b329 at h
  refine j_iinc_9 (pc := 329) dL_holds_329 (y := i9 + 1) rfl (by decide) rfl ?_
  refine j_goto (pc := 332) (tgt := 66) dL_holds_332 (by decide) ?_
  exact hk66 _ _ _ _ _ _ _ _ _ ws h
def m_L_holds_b310 (k44 : Nat → Nat → Int32 → Int32 → Int32 → Int32 → Int32 → LWd → Option (Int32 × LWd)) (k55 : Nat → Nat → Int32 → Int32 → Int32 → Int32 → Int32 → Int32 → LWd → Option (Int32 × LWd)) (k66 : Nat → Nat → Int32 → Int32 → Int32 → Int32 → Int32 → Int32 → Int32 → LWd → Option (Int32 × LWd)) (a0 : Nat) (a1 : Nat) (i3 : Int32) (i4 : Int32) (i5 : Int32) (i6 : Int32) (i7 : Int32) (i8 : Int32) (i9 : Int32) (i19 : Int32) (i20 : Int32) (s0 : Int32) (ws : LWd) : Option (Int32 × LWd) :=
  if i19 = 0 then
    m_L_holds_b329 k44 k55 k66 a0 a1 i3 i4 i5 i6 i7 i8 i9 ws
  else
    if i20 = 0 then
      some (1, ws)
    else
      if s0 = 0 then
        m_L_holds_b329 k44 k55 k66 a0 a1 i3 i4 i5 i6 i7 i8 i9 ws
      else
        some (1, ws)
set_option maxRecDepth 100000 in
set_option maxHeartbeats 4000000 in
theorem jm_L_holds_b310 {n0 : Nat} {rr : Int32} {ws' : LWd} {k44 : Nat → Nat → Int32 → Int32 → Int32 → Int32 → Int32 → LWd → Option (Int32 × LWd)} {k55 : Nat → Nat → Int32 → Int32 → Int32 → Int32 → Int32 → Int32 → LWd → Option (Int32 × LWd)} {k66 : Nat → Nat → Int32 → Int32 → Int32 → Int32 → Int32 → Int32 → Int32 → LWd → Option (Int32 × LWd)} (hk44 : ∀ (a0 : Nat) (a1 : Nat) (i3 : Int32) (i4 : Int32) (i5 : Int32) (i6 : Int32) (i7 : Int32) (ws : LWd), k44 a0 a1 i3 i4 i5 i6 i7 ws = some (rr, ws') → JG (.inl false) cL_holds 22 RL wsL_holds (some .boolean) "holds" 0 0 0 n0 (.inl (some (.int rr)), ws') 44 [some (.ref a0), some (.ref a1), none, some (.int i3), some (.int i4), some (.int i5), some (.int i6), some (.int i7), none, none, none, none, none, none, none, none, none, none, none, none, none, none] [] ws 0 0) (hk55 : ∀ (a0 : Nat) (a1 : Nat) (i3 : Int32) (i4 : Int32) (i5 : Int32) (i6 : Int32) (i7 : Int32) (i8 : Int32) (ws : LWd), k55 a0 a1 i3 i4 i5 i6 i7 i8 ws = some (rr, ws') → JG (.inl false) cL_holds 22 RL wsL_holds (some .boolean) "holds" 0 0 0 n0 (.inl (some (.int rr)), ws') 55 [some (.ref a0), some (.ref a1), none, some (.int i3), some (.int i4), some (.int i5), some (.int i6), some (.int i7), some (.int i8), none, none, none, none, none, none, none, none, none, none, none, none, none] [] ws 0 0) (hk66 : ∀ (a0 : Nat) (a1 : Nat) (i3 : Int32) (i4 : Int32) (i5 : Int32) (i6 : Int32) (i7 : Int32) (i8 : Int32) (i9 : Int32) (ws : LWd), k66 a0 a1 i3 i4 i5 i6 i7 i8 i9 ws = some (rr, ws') → JG (.inl false) cL_holds 22 RL wsL_holds (some .boolean) "holds" 0 0 0 n0 (.inl (some (.int rr)), ws') 66 [some (.ref a0), some (.ref a1), none, some (.int i3), some (.int i4), some (.int i5), some (.int i6), some (.int i7), some (.int i8), some (.int i9), none, none, none, none, none, none, none, none, none, none, none, none] [] ws 0 0) (a0 : Nat) (a1 : Nat) (i3 : Int32) (i4 : Int32) (i5 : Int32) (i6 : Int32) (i7 : Int32) (i8 : Int32) (i9 : Int32) (i19 : Int32) (i20 : Int32) (s0 : Int32) (ws : LWd) (h : m_L_holds_b310 k44 k55 k66 a0 a1 i3 i4 i5 i6 i7 i8 i9 i19 i20 s0 ws = some (rr, ws')) : JG (.inl false) cL_holds 22 RL wsL_holds (some .boolean) "holds" 0 0 0 n0 (.inl (some (.int rr)), ws') 310 [some (.ref a0), some (.ref a1), none, some (.int i3), some (.int i4), some (.int i5), some (.int i6), some (.int i7), some (.int i8), some (.int i9), none, none, none, none, none, none, none, none, none, some (.int i19), some (.int i20), none] [.int s0] ws 0 0 := by
  unfold m_L_holds_b310 at h
  refine j_istore_21 (pc := 310) dL_holds_310 (by decide) rfl ?_
  refine j_iload (pc := 312) dL_holds_312 rfl ?_
  refine j_if_eq (pc := 314) (tgt := 329) dL_holds_314 (by decide) (fun c1 => ?_) (fun c1 => ?_)
  · rw [if_pos c1] at h
    refine j_mask [true, true, false, true, true, true, true, true, true, true, false, false, false, false, false, false, false, false, false, false, false, false] ?_
    exact jm_L_holds_b329 (hk44 := hk44) (hk55 := hk55) (hk66 := hk66) _ _ _ _ _ _ _ _ _ ws h
  · rw [if_neg c1] at h
    refine j_iload (pc := 317) dL_holds_317 rfl ?_
    refine j_if_eq (pc := 319) (tgt := 327) dL_holds_319 (by decide) (fun c2 => ?_) (fun c2 => ?_)
    · rw [if_pos c2] at h
      refine j_iconst (pc := 327) dL_holds_327 (v := 1) (by decide) ?_
      obtain ⟨rfl, rfl⟩ := jretS h
      exact j_zretL (pc := 328) (by decide) rfl dL_holds_328 (by decide) (by decide) rfl
    · rw [if_neg c2] at h
      refine j_iload (pc := 322) dL_holds_322 rfl ?_
      refine j_if_eq (pc := 324) (tgt := 329) dL_holds_324 (by decide) (fun c3 => ?_) (fun c3 => ?_)
      · rw [if_pos c3] at h
        refine j_mask [true, true, false, true, true, true, true, true, true, true, false, false, false, false, false, false, false, false, false, false, false, false] ?_
        exact jm_L_holds_b329 (hk44 := hk44) (hk55 := hk55) (hk66 := hk66) _ _ _ _ _ _ _ _ _ ws h
      · rw [if_neg c3] at h
        refine j_iconst (pc := 327) dL_holds_327 (v := 1) (by decide) ?_
        obtain ⟨rfl, rfl⟩ := jretS h
        exact j_zretL (pc := 328) (by decide) rfl dL_holds_328 (by decide) (by decide) rfl
def m_L_holds_b305 (k44 : Nat → Nat → Int32 → Int32 → Int32 → Int32 → Int32 → LWd → Option (Int32 × LWd)) (k55 : Nat → Nat → Int32 → Int32 → Int32 → Int32 → Int32 → Int32 → LWd → Option (Int32 × LWd)) (k66 : Nat → Nat → Int32 → Int32 → Int32 → Int32 → Int32 → Int32 → Int32 → LWd → Option (Int32 × LWd)) (a0 : Nat) (a1 : Nat) (i3 : Int32) (i4 : Int32) (i5 : Int32) (i6 : Int32) (i7 : Int32) (i8 : Int32) (i9 : Int32) (i19 : Int32) (i20 : Int32) (ws : LWd) : Option (Int32 × LWd) :=
  m_L_holds_b310 k44 k55 k66 a0 a1 i3 i4 i5 i6 i7 i8 i9 i19 i20 1 ws
set_option maxRecDepth 100000 in
set_option maxHeartbeats 4000000 in
theorem jm_L_holds_b305 {n0 : Nat} {rr : Int32} {ws' : LWd} {k44 : Nat → Nat → Int32 → Int32 → Int32 → Int32 → Int32 → LWd → Option (Int32 × LWd)} {k55 : Nat → Nat → Int32 → Int32 → Int32 → Int32 → Int32 → Int32 → LWd → Option (Int32 × LWd)} {k66 : Nat → Nat → Int32 → Int32 → Int32 → Int32 → Int32 → Int32 → Int32 → LWd → Option (Int32 × LWd)} (hk44 : ∀ (a0 : Nat) (a1 : Nat) (i3 : Int32) (i4 : Int32) (i5 : Int32) (i6 : Int32) (i7 : Int32) (ws : LWd), k44 a0 a1 i3 i4 i5 i6 i7 ws = some (rr, ws') → JG (.inl false) cL_holds 22 RL wsL_holds (some .boolean) "holds" 0 0 0 n0 (.inl (some (.int rr)), ws') 44 [some (.ref a0), some (.ref a1), none, some (.int i3), some (.int i4), some (.int i5), some (.int i6), some (.int i7), none, none, none, none, none, none, none, none, none, none, none, none, none, none] [] ws 0 0) (hk55 : ∀ (a0 : Nat) (a1 : Nat) (i3 : Int32) (i4 : Int32) (i5 : Int32) (i6 : Int32) (i7 : Int32) (i8 : Int32) (ws : LWd), k55 a0 a1 i3 i4 i5 i6 i7 i8 ws = some (rr, ws') → JG (.inl false) cL_holds 22 RL wsL_holds (some .boolean) "holds" 0 0 0 n0 (.inl (some (.int rr)), ws') 55 [some (.ref a0), some (.ref a1), none, some (.int i3), some (.int i4), some (.int i5), some (.int i6), some (.int i7), some (.int i8), none, none, none, none, none, none, none, none, none, none, none, none, none] [] ws 0 0) (hk66 : ∀ (a0 : Nat) (a1 : Nat) (i3 : Int32) (i4 : Int32) (i5 : Int32) (i6 : Int32) (i7 : Int32) (i8 : Int32) (i9 : Int32) (ws : LWd), k66 a0 a1 i3 i4 i5 i6 i7 i8 i9 ws = some (rr, ws') → JG (.inl false) cL_holds 22 RL wsL_holds (some .boolean) "holds" 0 0 0 n0 (.inl (some (.int rr)), ws') 66 [some (.ref a0), some (.ref a1), none, some (.int i3), some (.int i4), some (.int i5), some (.int i6), some (.int i7), some (.int i8), some (.int i9), none, none, none, none, none, none, none, none, none, none, none, none] [] ws 0 0) (a0 : Nat) (a1 : Nat) (i3 : Int32) (i4 : Int32) (i5 : Int32) (i6 : Int32) (i7 : Int32) (i8 : Int32) (i9 : Int32) (i19 : Int32) (i20 : Int32) (ws : LWd) (h : m_L_holds_b305 k44 k55 k66 a0 a1 i3 i4 i5 i6 i7 i8 i9 i19 i20 ws = some (rr, ws')) : JG (.inl false) cL_holds 22 RL wsL_holds (some .boolean) "holds" 0 0 0 n0 (.inl (some (.int rr)), ws') 305 [some (.ref a0), some (.ref a1), none, some (.int i3), some (.int i4), some (.int i5), some (.int i6), some (.int i7), some (.int i8), some (.int i9), none, none, none, none, none, none, none, none, none, some (.int i19), some (.int i20), none] [] ws 0 0 := by
  unfold m_L_holds_b305 at h
  refine j_iconst (pc := 305) dL_holds_305 (v := 1) (by decide) ?_
  refine j_goto (pc := 306) (tgt := 310) dL_holds_306 (by decide) ?_
  exact jm_L_holds_b310 (hk44 := hk44) (hk55 := hk55) (hk66 := hk66) _ _ _ _ _ _ _ _ _ _ _ _ ws h
def m_L_holds_b261 (k44 : Nat → Nat → Int32 → Int32 → Int32 → Int32 → Int32 → LWd → Option (Int32 × LWd)) (k55 : Nat → Nat → Int32 → Int32 → Int32 → Int32 → Int32 → Int32 → LWd → Option (Int32 × LWd)) (k66 : Nat → Nat → Int32 → Int32 → Int32 → Int32 → Int32 → Int32 → Int32 → LWd → Option (Int32 × LWd)) (a0 : Nat) (a1 : Nat) (i3 : Int32) (i4 : Int32) (i5 : Int32) (i6 : Int32) (i7 : Int32) (i8 : Int32) (i9 : Int32) (i10 : Int32) (i11 : Int32) (i12 : Int32) (i13 : Int32) (i14 : Int32) (i15 : Int32) (i19 : Int32) (s0 : Int32) (ws : LWd) : Option (Int32 × LWd) :=
  if ((i10 * i12) + (i11 * i13)) ≤ 0 then
    m_L_holds_b305 k44 k55 k66 a0 a1 i3 i4 i5 i6 i7 i8 i9 i19 s0 ws
  else
    if ((i12 * i14) + (i13 * i15)) ≤ 0 then
      m_L_holds_b305 k44 k55 k66 a0 a1 i3 i4 i5 i6 i7 i8 i9 i19 s0 ws
    else
      if 0 < ((i10 * i14) + (i11 * i15)) then
        m_L_holds_b310 k44 k55 k66 a0 a1 i3 i4 i5 i6 i7 i8 i9 i19 s0 0 ws
      else
        m_L_holds_b305 k44 k55 k66 a0 a1 i3 i4 i5 i6 i7 i8 i9 i19 s0 ws
set_option maxRecDepth 100000 in
set_option maxHeartbeats 4000000 in
theorem jm_L_holds_b261 {n0 : Nat} {rr : Int32} {ws' : LWd} {k44 : Nat → Nat → Int32 → Int32 → Int32 → Int32 → Int32 → LWd → Option (Int32 × LWd)} {k55 : Nat → Nat → Int32 → Int32 → Int32 → Int32 → Int32 → Int32 → LWd → Option (Int32 × LWd)} {k66 : Nat → Nat → Int32 → Int32 → Int32 → Int32 → Int32 → Int32 → Int32 → LWd → Option (Int32 × LWd)} (hk44 : ∀ (a0 : Nat) (a1 : Nat) (i3 : Int32) (i4 : Int32) (i5 : Int32) (i6 : Int32) (i7 : Int32) (ws : LWd), k44 a0 a1 i3 i4 i5 i6 i7 ws = some (rr, ws') → JG (.inl false) cL_holds 22 RL wsL_holds (some .boolean) "holds" 0 0 0 n0 (.inl (some (.int rr)), ws') 44 [some (.ref a0), some (.ref a1), none, some (.int i3), some (.int i4), some (.int i5), some (.int i6), some (.int i7), none, none, none, none, none, none, none, none, none, none, none, none, none, none] [] ws 0 0) (hk55 : ∀ (a0 : Nat) (a1 : Nat) (i3 : Int32) (i4 : Int32) (i5 : Int32) (i6 : Int32) (i7 : Int32) (i8 : Int32) (ws : LWd), k55 a0 a1 i3 i4 i5 i6 i7 i8 ws = some (rr, ws') → JG (.inl false) cL_holds 22 RL wsL_holds (some .boolean) "holds" 0 0 0 n0 (.inl (some (.int rr)), ws') 55 [some (.ref a0), some (.ref a1), none, some (.int i3), some (.int i4), some (.int i5), some (.int i6), some (.int i7), some (.int i8), none, none, none, none, none, none, none, none, none, none, none, none, none] [] ws 0 0) (hk66 : ∀ (a0 : Nat) (a1 : Nat) (i3 : Int32) (i4 : Int32) (i5 : Int32) (i6 : Int32) (i7 : Int32) (i8 : Int32) (i9 : Int32) (ws : LWd), k66 a0 a1 i3 i4 i5 i6 i7 i8 i9 ws = some (rr, ws') → JG (.inl false) cL_holds 22 RL wsL_holds (some .boolean) "holds" 0 0 0 n0 (.inl (some (.int rr)), ws') 66 [some (.ref a0), some (.ref a1), none, some (.int i3), some (.int i4), some (.int i5), some (.int i6), some (.int i7), some (.int i8), some (.int i9), none, none, none, none, none, none, none, none, none, none, none, none] [] ws 0 0) (a0 : Nat) (a1 : Nat) (i3 : Int32) (i4 : Int32) (i5 : Int32) (i6 : Int32) (i7 : Int32) (i8 : Int32) (i9 : Int32) (i10 : Int32) (i11 : Int32) (i12 : Int32) (i13 : Int32) (i14 : Int32) (i15 : Int32) (i19 : Int32) (s0 : Int32) (ws : LWd) (h : m_L_holds_b261 k44 k55 k66 a0 a1 i3 i4 i5 i6 i7 i8 i9 i10 i11 i12 i13 i14 i15 i19 s0 ws = some (rr, ws')) : JG (.inl false) cL_holds 22 RL wsL_holds (some .boolean) "holds" 0 0 0 n0 (.inl (some (.int rr)), ws') 261 [some (.ref a0), some (.ref a1), none, some (.int i3), some (.int i4), some (.int i5), some (.int i6), some (.int i7), some (.int i8), some (.int i9), some (.int i10), some (.int i11), some (.int i12), some (.int i13), some (.int i14), some (.int i15), none, none, none, some (.int i19), none, none] [.int s0] ws 0 0 := by
  unfold m_L_holds_b261 at h
  refine j_istore_20 (pc := 261) dL_holds_261 (by decide) rfl ?_
  refine j_iload (pc := 263) dL_holds_263 rfl ?_
  refine j_iload (pc := 265) dL_holds_265 rfl ?_
  refine j_imul (pc := 267) dL_holds_267 ?_
  refine j_iload (pc := 268) dL_holds_268 rfl ?_
  refine j_iload (pc := 270) dL_holds_270 rfl ?_
  refine j_imul (pc := 272) dL_holds_272 ?_
  refine j_iadd (pc := 273) dL_holds_273 ?_
  refine j_if_le (pc := 274) (tgt := 305) dL_holds_274 (by decide) (fun c1 => ?_) (fun c1 => ?_)
  · rw [if_pos c1] at h
    refine j_mask [true, true, false, true, true, true, true, true, true, true, false, false, false, false, false, false, false, false, false, true, true, false] ?_
    exact jm_L_holds_b305 (hk44 := hk44) (hk55 := hk55) (hk66 := hk66) _ _ _ _ _ _ _ _ _ _ _ ws h
  · rw [if_neg c1] at h
    refine j_iload (pc := 277) dL_holds_277 rfl ?_
    refine j_iload (pc := 279) dL_holds_279 rfl ?_
    refine j_imul (pc := 281) dL_holds_281 ?_
    refine j_iload (pc := 282) dL_holds_282 rfl ?_
    refine j_iload (pc := 284) dL_holds_284 rfl ?_
    refine j_imul (pc := 286) dL_holds_286 ?_
    refine j_iadd (pc := 287) dL_holds_287 ?_
    refine j_if_le (pc := 288) (tgt := 305) dL_holds_288 (by decide) (fun c2 => ?_) (fun c2 => ?_)
    · rw [if_pos c2] at h
      refine j_mask [true, true, false, true, true, true, true, true, true, true, false, false, false, false, false, false, false, false, false, true, true, false] ?_
      exact jm_L_holds_b305 (hk44 := hk44) (hk55 := hk55) (hk66 := hk66) _ _ _ _ _ _ _ _ _ _ _ ws h
    · rw [if_neg c2] at h
      refine j_iload (pc := 291) dL_holds_291 rfl ?_
      refine j_iload (pc := 293) dL_holds_293 rfl ?_
      refine j_imul (pc := 295) dL_holds_295 ?_
      refine j_iload (pc := 296) dL_holds_296 rfl ?_
      refine j_iload (pc := 298) dL_holds_298 rfl ?_
      refine j_imul (pc := 300) dL_holds_300 ?_
      refine j_iadd (pc := 301) dL_holds_301 ?_
      refine j_if_gt (pc := 302) (tgt := 309) dL_holds_302 (by decide) (fun c3 => ?_) (fun c3 => ?_)
      · rw [if_pos c3] at h
        refine j_iconst (pc := 309) dL_holds_309 (v := 0) (by decide) ?_
        refine j_mask [true, true, false, true, true, true, true, true, true, true, false, false, false, false, false, false, false, false, false, true, true, false] ?_
        exact jm_L_holds_b310 (hk44 := hk44) (hk55 := hk55) (hk66 := hk66) _ _ _ _ _ _ _ _ _ _ _ _ ws h
      · rw [if_neg c3] at h
        refine j_mask [true, true, false, true, true, true, true, true, true, true, false, false, false, false, false, false, false, false, false, true, true, false] ?_
        exact jm_L_holds_b305 (hk44 := hk44) (hk55 := hk55) (hk66 := hk66) _ _ _ _ _ _ _ _ _ _ _ ws h
def m_L_holds_b260 (k44 : Nat → Nat → Int32 → Int32 → Int32 → Int32 → Int32 → LWd → Option (Int32 × LWd)) (k55 : Nat → Nat → Int32 → Int32 → Int32 → Int32 → Int32 → Int32 → LWd → Option (Int32 × LWd)) (k66 : Nat → Nat → Int32 → Int32 → Int32 → Int32 → Int32 → Int32 → Int32 → LWd → Option (Int32 × LWd)) (a0 : Nat) (a1 : Nat) (i3 : Int32) (i4 : Int32) (i5 : Int32) (i6 : Int32) (i7 : Int32) (i8 : Int32) (i9 : Int32) (i10 : Int32) (i11 : Int32) (i12 : Int32) (i13 : Int32) (i14 : Int32) (i15 : Int32) (i19 : Int32) (ws : LWd) : Option (Int32 × LWd) :=
  m_L_holds_b261 k44 k55 k66 a0 a1 i3 i4 i5 i6 i7 i8 i9 i10 i11 i12 i13 i14 i15 i19 0 ws
set_option maxRecDepth 100000 in
set_option maxHeartbeats 4000000 in
theorem jm_L_holds_b260 {n0 : Nat} {rr : Int32} {ws' : LWd} {k44 : Nat → Nat → Int32 → Int32 → Int32 → Int32 → Int32 → LWd → Option (Int32 × LWd)} {k55 : Nat → Nat → Int32 → Int32 → Int32 → Int32 → Int32 → Int32 → LWd → Option (Int32 × LWd)} {k66 : Nat → Nat → Int32 → Int32 → Int32 → Int32 → Int32 → Int32 → Int32 → LWd → Option (Int32 × LWd)} (hk44 : ∀ (a0 : Nat) (a1 : Nat) (i3 : Int32) (i4 : Int32) (i5 : Int32) (i6 : Int32) (i7 : Int32) (ws : LWd), k44 a0 a1 i3 i4 i5 i6 i7 ws = some (rr, ws') → JG (.inl false) cL_holds 22 RL wsL_holds (some .boolean) "holds" 0 0 0 n0 (.inl (some (.int rr)), ws') 44 [some (.ref a0), some (.ref a1), none, some (.int i3), some (.int i4), some (.int i5), some (.int i6), some (.int i7), none, none, none, none, none, none, none, none, none, none, none, none, none, none] [] ws 0 0) (hk55 : ∀ (a0 : Nat) (a1 : Nat) (i3 : Int32) (i4 : Int32) (i5 : Int32) (i6 : Int32) (i7 : Int32) (i8 : Int32) (ws : LWd), k55 a0 a1 i3 i4 i5 i6 i7 i8 ws = some (rr, ws') → JG (.inl false) cL_holds 22 RL wsL_holds (some .boolean) "holds" 0 0 0 n0 (.inl (some (.int rr)), ws') 55 [some (.ref a0), some (.ref a1), none, some (.int i3), some (.int i4), some (.int i5), some (.int i6), some (.int i7), some (.int i8), none, none, none, none, none, none, none, none, none, none, none, none, none] [] ws 0 0) (hk66 : ∀ (a0 : Nat) (a1 : Nat) (i3 : Int32) (i4 : Int32) (i5 : Int32) (i6 : Int32) (i7 : Int32) (i8 : Int32) (i9 : Int32) (ws : LWd), k66 a0 a1 i3 i4 i5 i6 i7 i8 i9 ws = some (rr, ws') → JG (.inl false) cL_holds 22 RL wsL_holds (some .boolean) "holds" 0 0 0 n0 (.inl (some (.int rr)), ws') 66 [some (.ref a0), some (.ref a1), none, some (.int i3), some (.int i4), some (.int i5), some (.int i6), some (.int i7), some (.int i8), some (.int i9), none, none, none, none, none, none, none, none, none, none, none, none] [] ws 0 0) (a0 : Nat) (a1 : Nat) (i3 : Int32) (i4 : Int32) (i5 : Int32) (i6 : Int32) (i7 : Int32) (i8 : Int32) (i9 : Int32) (i10 : Int32) (i11 : Int32) (i12 : Int32) (i13 : Int32) (i14 : Int32) (i15 : Int32) (i19 : Int32) (ws : LWd) (h : m_L_holds_b260 k44 k55 k66 a0 a1 i3 i4 i5 i6 i7 i8 i9 i10 i11 i12 i13 i14 i15 i19 ws = some (rr, ws')) : JG (.inl false) cL_holds 22 RL wsL_holds (some .boolean) "holds" 0 0 0 n0 (.inl (some (.int rr)), ws') 260 [some (.ref a0), some (.ref a1), none, some (.int i3), some (.int i4), some (.int i5), some (.int i6), some (.int i7), some (.int i8), some (.int i9), some (.int i10), some (.int i11), some (.int i12), some (.int i13), some (.int i14), some (.int i15), none, none, none, some (.int i19), none, none] [] ws 0 0 := by
  unfold m_L_holds_b260 at h
  refine j_iconst (pc := 260) dL_holds_260 (v := 0) (by decide) ?_
  exact jm_L_holds_b261 (hk44 := hk44) (hk55 := hk55) (hk66 := hk66) _ _ _ _ _ _ _ _ _ _ _ _ _ _ _ _ _ ws h
def m_L_holds_b239 (k44 : Nat → Nat → Int32 → Int32 → Int32 → Int32 → Int32 → LWd → Option (Int32 × LWd)) (k55 : Nat → Nat → Int32 → Int32 → Int32 → Int32 → Int32 → Int32 → LWd → Option (Int32 × LWd)) (k66 : Nat → Nat → Int32 → Int32 → Int32 → Int32 → Int32 → Int32 → Int32 → LWd → Option (Int32 × LWd)) (a0 : Nat) (a1 : Nat) (i3 : Int32) (i4 : Int32) (i5 : Int32) (i6 : Int32) (i7 : Int32) (i8 : Int32) (i9 : Int32) (i10 : Int32) (i11 : Int32) (i12 : Int32) (i13 : Int32) (i14 : Int32) (i15 : Int32) (i16 : Int32) (i17 : Int32) (i18 : Int32) (s0 : Int32) (ws : LWd) : Option (Int32 × LWd) :=
  if i16 = 0 then
    if i17 = 0 then
      if i18 = 0 then
        m_L_holds_b261 k44 k55 k66 a0 a1 i3 i4 i5 i6 i7 i8 i9 i10 i11 i12 i13 i14 i15 s0 1 ws
      else
        m_L_holds_b260 k44 k55 k66 a0 a1 i3 i4 i5 i6 i7 i8 i9 i10 i11 i12 i13 i14 i15 s0 ws
    else
      m_L_holds_b260 k44 k55 k66 a0 a1 i3 i4 i5 i6 i7 i8 i9 i10 i11 i12 i13 i14 i15 s0 ws
  else
    m_L_holds_b260 k44 k55 k66 a0 a1 i3 i4 i5 i6 i7 i8 i9 i10 i11 i12 i13 i14 i15 s0 ws
set_option maxRecDepth 100000 in
set_option maxHeartbeats 4000000 in
theorem jm_L_holds_b239 {n0 : Nat} {rr : Int32} {ws' : LWd} {k44 : Nat → Nat → Int32 → Int32 → Int32 → Int32 → Int32 → LWd → Option (Int32 × LWd)} {k55 : Nat → Nat → Int32 → Int32 → Int32 → Int32 → Int32 → Int32 → LWd → Option (Int32 × LWd)} {k66 : Nat → Nat → Int32 → Int32 → Int32 → Int32 → Int32 → Int32 → Int32 → LWd → Option (Int32 × LWd)} (hk44 : ∀ (a0 : Nat) (a1 : Nat) (i3 : Int32) (i4 : Int32) (i5 : Int32) (i6 : Int32) (i7 : Int32) (ws : LWd), k44 a0 a1 i3 i4 i5 i6 i7 ws = some (rr, ws') → JG (.inl false) cL_holds 22 RL wsL_holds (some .boolean) "holds" 0 0 0 n0 (.inl (some (.int rr)), ws') 44 [some (.ref a0), some (.ref a1), none, some (.int i3), some (.int i4), some (.int i5), some (.int i6), some (.int i7), none, none, none, none, none, none, none, none, none, none, none, none, none, none] [] ws 0 0) (hk55 : ∀ (a0 : Nat) (a1 : Nat) (i3 : Int32) (i4 : Int32) (i5 : Int32) (i6 : Int32) (i7 : Int32) (i8 : Int32) (ws : LWd), k55 a0 a1 i3 i4 i5 i6 i7 i8 ws = some (rr, ws') → JG (.inl false) cL_holds 22 RL wsL_holds (some .boolean) "holds" 0 0 0 n0 (.inl (some (.int rr)), ws') 55 [some (.ref a0), some (.ref a1), none, some (.int i3), some (.int i4), some (.int i5), some (.int i6), some (.int i7), some (.int i8), none, none, none, none, none, none, none, none, none, none, none, none, none] [] ws 0 0) (hk66 : ∀ (a0 : Nat) (a1 : Nat) (i3 : Int32) (i4 : Int32) (i5 : Int32) (i6 : Int32) (i7 : Int32) (i8 : Int32) (i9 : Int32) (ws : LWd), k66 a0 a1 i3 i4 i5 i6 i7 i8 i9 ws = some (rr, ws') → JG (.inl false) cL_holds 22 RL wsL_holds (some .boolean) "holds" 0 0 0 n0 (.inl (some (.int rr)), ws') 66 [some (.ref a0), some (.ref a1), none, some (.int i3), some (.int i4), some (.int i5), some (.int i6), some (.int i7), some (.int i8), some (.int i9), none, none, none, none, none, none, none, none, none, none, none, none] [] ws 0 0) (a0 : Nat) (a1 : Nat) (i3 : Int32) (i4 : Int32) (i5 : Int32) (i6 : Int32) (i7 : Int32) (i8 : Int32) (i9 : Int32) (i10 : Int32) (i11 : Int32) (i12 : Int32) (i13 : Int32) (i14 : Int32) (i15 : Int32) (i16 : Int32) (i17 : Int32) (i18 : Int32) (s0 : Int32) (ws : LWd) (h : m_L_holds_b239 k44 k55 k66 a0 a1 i3 i4 i5 i6 i7 i8 i9 i10 i11 i12 i13 i14 i15 i16 i17 i18 s0 ws = some (rr, ws')) : JG (.inl false) cL_holds 22 RL wsL_holds (some .boolean) "holds" 0 0 0 n0 (.inl (some (.int rr)), ws') 239 [some (.ref a0), some (.ref a1), none, some (.int i3), some (.int i4), some (.int i5), some (.int i6), some (.int i7), some (.int i8), some (.int i9), some (.int i10), some (.int i11), some (.int i12), some (.int i13), some (.int i14), some (.int i15), some (.int i16), some (.int i17), some (.int i18), none, none, none] [.int s0] ws 0 0 := by
  unfold m_L_holds_b239 at h
  refine j_istore_19 (pc := 239) dL_holds_239 (by decide) rfl ?_
  refine j_iload (pc := 241) dL_holds_241 rfl ?_
  refine j_if_ne (pc := 243) (tgt := 260) dL_holds_243 (by decide) (fun c1 => ?_) (fun c1 => ?_)
  · rw [if_neg c1] at h
    refine j_mask [true, true, false, true, true, true, true, true, true, true, true, true, true, true, true, true, false, false, false, true, false, false] ?_
    exact jm_L_holds_b260 (hk44 := hk44) (hk55 := hk55) (hk66 := hk66) _ _ _ _ _ _ _ _ _ _ _ _ _ _ _ _ ws h
  · rw [if_pos c1] at h
    refine j_iload (pc := 246) dL_holds_246 rfl ?_
    refine j_if_ne (pc := 248) (tgt := 260) dL_holds_248 (by decide) (fun c2 => ?_) (fun c2 => ?_)
    · rw [if_neg c2] at h
      refine j_mask [true, true, false, true, true, true, true, true, true, true, true, true, true, true, true, true, false, false, false, true, false, false] ?_
      exact jm_L_holds_b260 (hk44 := hk44) (hk55 := hk55) (hk66 := hk66) _ _ _ _ _ _ _ _ _ _ _ _ _ _ _ _ ws h
    · rw [if_pos c2] at h
      refine j_iload (pc := 251) dL_holds_251 rfl ?_
      refine j_if_ne (pc := 253) (tgt := 260) dL_holds_253 (by decide) (fun c3 => ?_) (fun c3 => ?_)
      · rw [if_neg c3] at h
        refine j_mask [true, true, false, true, true, true, true, true, true, true, true, true, true, true, true, true, false, false, false, true, false, false] ?_
        exact jm_L_holds_b260 (hk44 := hk44) (hk55 := hk55) (hk66 := hk66) _ _ _ _ _ _ _ _ _ _ _ _ _ _ _ _ ws h
      · rw [if_pos c3] at h
        refine j_iconst (pc := 256) dL_holds_256 (v := 1) (by decide) ?_
        refine j_goto (pc := 257) (tgt := 261) dL_holds_257 (by decide) ?_
        refine j_mask [true, true, false, true, true, true, true, true, true, true, true, true, true, true, true, true, false, false, false, true, false, false] ?_
        exact jm_L_holds_b261 (hk44 := hk44) (hk55 := hk55) (hk66 := hk66) _ _ _ _ _ _ _ _ _ _ _ _ _ _ _ _ _ ws h
def m_L_holds_b238 (k44 : Nat → Nat → Int32 → Int32 → Int32 → Int32 → Int32 → LWd → Option (Int32 × LWd)) (k55 : Nat → Nat → Int32 → Int32 → Int32 → Int32 → Int32 → Int32 → LWd → Option (Int32 × LWd)) (k66 : Nat → Nat → Int32 → Int32 → Int32 → Int32 → Int32 → Int32 → Int32 → LWd → Option (Int32 × LWd)) (a0 : Nat) (a1 : Nat) (i3 : Int32) (i4 : Int32) (i5 : Int32) (i6 : Int32) (i7 : Int32) (i8 : Int32) (i9 : Int32) (i10 : Int32) (i11 : Int32) (i12 : Int32) (i13 : Int32) (i14 : Int32) (i15 : Int32) (i16 : Int32) (i17 : Int32) (i18 : Int32) (ws : LWd) : Option (Int32 × LWd) :=
  m_L_holds_b239 k44 k55 k66 a0 a1 i3 i4 i5 i6 i7 i8 i9 i10 i11 i12 i13 i14 i15 i16 i17 i18 0 ws
set_option maxRecDepth 100000 in
set_option maxHeartbeats 4000000 in
theorem jm_L_holds_b238 {n0 : Nat} {rr : Int32} {ws' : LWd} {k44 : Nat → Nat → Int32 → Int32 → Int32 → Int32 → Int32 → LWd → Option (Int32 × LWd)} {k55 : Nat → Nat → Int32 → Int32 → Int32 → Int32 → Int32 → Int32 → LWd → Option (Int32 × LWd)} {k66 : Nat → Nat → Int32 → Int32 → Int32 → Int32 → Int32 → Int32 → Int32 → LWd → Option (Int32 × LWd)} (hk44 : ∀ (a0 : Nat) (a1 : Nat) (i3 : Int32) (i4 : Int32) (i5 : Int32) (i6 : Int32) (i7 : Int32) (ws : LWd), k44 a0 a1 i3 i4 i5 i6 i7 ws = some (rr, ws') → JG (.inl false) cL_holds 22 RL wsL_holds (some .boolean) "holds" 0 0 0 n0 (.inl (some (.int rr)), ws') 44 [some (.ref a0), some (.ref a1), none, some (.int i3), some (.int i4), some (.int i5), some (.int i6), some (.int i7), none, none, none, none, none, none, none, none, none, none, none, none, none, none] [] ws 0 0) (hk55 : ∀ (a0 : Nat) (a1 : Nat) (i3 : Int32) (i4 : Int32) (i5 : Int32) (i6 : Int32) (i7 : Int32) (i8 : Int32) (ws : LWd), k55 a0 a1 i3 i4 i5 i6 i7 i8 ws = some (rr, ws') → JG (.inl false) cL_holds 22 RL wsL_holds (some .boolean) "holds" 0 0 0 n0 (.inl (some (.int rr)), ws') 55 [some (.ref a0), some (.ref a1), none, some (.int i3), some (.int i4), some (.int i5), some (.int i6), some (.int i7), some (.int i8), none, none, none, none, none, none, none, none, none, none, none, none, none] [] ws 0 0) (hk66 : ∀ (a0 : Nat) (a1 : Nat) (i3 : Int32) (i4 : Int32) (i5 : Int32) (i6 : Int32) (i7 : Int32) (i8 : Int32) (i9 : Int32) (ws : LWd), k66 a0 a1 i3 i4 i5 i6 i7 i8 i9 ws = some (rr, ws') → JG (.inl false) cL_holds 22 RL wsL_holds (some .boolean) "holds" 0 0 0 n0 (.inl (some (.int rr)), ws') 66 [some (.ref a0), some (.ref a1), none, some (.int i3), some (.int i4), some (.int i5), some (.int i6), some (.int i7), some (.int i8), some (.int i9), none, none, none, none, none, none, none, none, none, none, none, none] [] ws 0 0) (a0 : Nat) (a1 : Nat) (i3 : Int32) (i4 : Int32) (i5 : Int32) (i6 : Int32) (i7 : Int32) (i8 : Int32) (i9 : Int32) (i10 : Int32) (i11 : Int32) (i12 : Int32) (i13 : Int32) (i14 : Int32) (i15 : Int32) (i16 : Int32) (i17 : Int32) (i18 : Int32) (ws : LWd) (h : m_L_holds_b238 k44 k55 k66 a0 a1 i3 i4 i5 i6 i7 i8 i9 i10 i11 i12 i13 i14 i15 i16 i17 i18 ws = some (rr, ws')) : JG (.inl false) cL_holds 22 RL wsL_holds (some .boolean) "holds" 0 0 0 n0 (.inl (some (.int rr)), ws') 238 [some (.ref a0), some (.ref a1), none, some (.int i3), some (.int i4), some (.int i5), some (.int i6), some (.int i7), some (.int i8), some (.int i9), some (.int i10), some (.int i11), some (.int i12), some (.int i13), some (.int i14), some (.int i15), some (.int i16), some (.int i17), some (.int i18), none, none, none] [] ws 0 0 := by
  unfold m_L_holds_b238 at h
  refine j_iconst (pc := 238) dL_holds_238 (v := 0) (by decide) ?_
  exact jm_L_holds_b239 (hk44 := hk44) (hk55 := hk55) (hk66 := hk66) _ _ _ _ _ _ _ _ _ _ _ _ _ _ _ _ _ _ _ ws h
def m_L_holds_b234 (k44 : Nat → Nat → Int32 → Int32 → Int32 → Int32 → Int32 → LWd → Option (Int32 × LWd)) (k55 : Nat → Nat → Int32 → Int32 → Int32 → Int32 → Int32 → Int32 → LWd → Option (Int32 × LWd)) (k66 : Nat → Nat → Int32 → Int32 → Int32 → Int32 → Int32 → Int32 → Int32 → LWd → Option (Int32 × LWd)) (a0 : Nat) (a1 : Nat) (i3 : Int32) (i4 : Int32) (i5 : Int32) (i6 : Int32) (i7 : Int32) (i8 : Int32) (i9 : Int32) (i10 : Int32) (i11 : Int32) (i12 : Int32) (i13 : Int32) (i14 : Int32) (i15 : Int32) (i16 : Int32) (i17 : Int32) (i18 : Int32) (ws : LWd) : Option (Int32 × LWd) :=
  m_L_holds_b239 k44 k55 k66 a0 a1 i3 i4 i5 i6 i7 i8 i9 i10 i11 i12 i13 i14 i15 i16 i17 i18 1 ws
set_option maxRecDepth 100000 in
set_option maxHeartbeats 4000000 in
theorem jm_L_holds_b234 {n0 : Nat} {rr : Int32} {ws' : LWd} {k44 : Nat → Nat → Int32 → Int32 → Int32 → Int32 → Int32 → LWd → Option (Int32 × LWd)} {k55 : Nat → Nat → Int32 → Int32 → Int32 → Int32 → Int32 → Int32 → LWd → Option (Int32 × LWd)} {k66 : Nat → Nat → Int32 → Int32 → Int32 → Int32 → Int32 → Int32 → Int32 → LWd → Option (Int32 × LWd)} (hk44 : ∀ (a0 : Nat) (a1 : Nat) (i3 : Int32) (i4 : Int32) (i5 : Int32) (i6 : Int32) (i7 : Int32) (ws : LWd), k44 a0 a1 i3 i4 i5 i6 i7 ws = some (rr, ws') → JG (.inl false) cL_holds 22 RL wsL_holds (some .boolean) "holds" 0 0 0 n0 (.inl (some (.int rr)), ws') 44 [some (.ref a0), some (.ref a1), none, some (.int i3), some (.int i4), some (.int i5), some (.int i6), some (.int i7), none, none, none, none, none, none, none, none, none, none, none, none, none, none] [] ws 0 0) (hk55 : ∀ (a0 : Nat) (a1 : Nat) (i3 : Int32) (i4 : Int32) (i5 : Int32) (i6 : Int32) (i7 : Int32) (i8 : Int32) (ws : LWd), k55 a0 a1 i3 i4 i5 i6 i7 i8 ws = some (rr, ws') → JG (.inl false) cL_holds 22 RL wsL_holds (some .boolean) "holds" 0 0 0 n0 (.inl (some (.int rr)), ws') 55 [some (.ref a0), some (.ref a1), none, some (.int i3), some (.int i4), some (.int i5), some (.int i6), some (.int i7), some (.int i8), none, none, none, none, none, none, none, none, none, none, none, none, none] [] ws 0 0) (hk66 : ∀ (a0 : Nat) (a1 : Nat) (i3 : Int32) (i4 : Int32) (i5 : Int32) (i6 : Int32) (i7 : Int32) (i8 : Int32) (i9 : Int32) (ws : LWd), k66 a0 a1 i3 i4 i5 i6 i7 i8 i9 ws = some (rr, ws') → JG (.inl false) cL_holds 22 RL wsL_holds (some .boolean) "holds" 0 0 0 n0 (.inl (some (.int rr)), ws') 66 [some (.ref a0), some (.ref a1), none, some (.int i3), some (.int i4), some (.int i5), some (.int i6), some (.int i7), some (.int i8), some (.int i9), none, none, none, none, none, none, none, none, none, none, none, none] [] ws 0 0) (a0 : Nat) (a1 : Nat) (i3 : Int32) (i4 : Int32) (i5 : Int32) (i6 : Int32) (i7 : Int32) (i8 : Int32) (i9 : Int32) (i10 : Int32) (i11 : Int32) (i12 : Int32) (i13 : Int32) (i14 : Int32) (i15 : Int32) (i16 : Int32) (i17 : Int32) (i18 : Int32) (ws : LWd) (h : m_L_holds_b234 k44 k55 k66 a0 a1 i3 i4 i5 i6 i7 i8 i9 i10 i11 i12 i13 i14 i15 i16 i17 i18 ws = some (rr, ws')) : JG (.inl false) cL_holds 22 RL wsL_holds (some .boolean) "holds" 0 0 0 n0 (.inl (some (.int rr)), ws') 234 [some (.ref a0), some (.ref a1), none, some (.int i3), some (.int i4), some (.int i5), some (.int i6), some (.int i7), some (.int i8), some (.int i9), some (.int i10), some (.int i11), some (.int i12), some (.int i13), some (.int i14), some (.int i15), some (.int i16), some (.int i17), some (.int i18), none, none, none] [] ws 0 0 := by
  unfold m_L_holds_b234 at h
  refine j_iconst (pc := 234) dL_holds_234 (v := 1) (by decide) ?_
  refine j_goto (pc := 235) (tgt := 239) dL_holds_235 (by decide) ?_
  exact jm_L_holds_b239 (hk44 := hk44) (hk55 := hk55) (hk66 := hk66) _ _ _ _ _ _ _ _ _ _ _ _ _ _ _ _ _ _ _ ws h
def m_L_holds_b219 (k44 : Nat → Nat → Int32 → Int32 → Int32 → Int32 → Int32 → LWd → Option (Int32 × LWd)) (k55 : Nat → Nat → Int32 → Int32 → Int32 → Int32 → Int32 → Int32 → LWd → Option (Int32 × LWd)) (k66 : Nat → Nat → Int32 → Int32 → Int32 → Int32 → Int32 → Int32 → Int32 → LWd → Option (Int32 × LWd)) (a0 : Nat) (a1 : Nat) (i3 : Int32) (i4 : Int32) (i5 : Int32) (i6 : Int32) (i7 : Int32) (i8 : Int32) (i9 : Int32) (i10 : Int32) (i11 : Int32) (i12 : Int32) (i13 : Int32) (i14 : Int32) (i15 : Int32) (i16 : Int32) (i17 : Int32) (i18 : Int32) (ws : LWd) : Option (Int32 × LWd) :=
  if 0 < i16 then
    m_L_holds_b238 k44 k55 k66 a0 a1 i3 i4 i5 i6 i7 i8 i9 i10 i11 i12 i13 i14 i15 i16 i17 i18 ws
  else
    if 0 < i17 then
      m_L_holds_b238 k44 k55 k66 a0 a1 i3 i4 i5 i6 i7 i8 i9 i10 i11 i12 i13 i14 i15 i16 i17 i18 ws
    else
      if 0 < i18 then
        m_L_holds_b238 k44 k55 k66 a0 a1 i3 i4 i5 i6 i7 i8 i9 i10 i11 i12 i13 i14 i15 i16 i17 i18 ws
      else
        m_L_holds_b234 k44 k55 k66 a0 a1 i3 i4 i5 i6 i7 i8 i9 i10 i11 i12 i13 i14 i15 i16 i17 i18 ws
set_option maxRecDepth 100000 in
set_option maxHeartbeats 4000000 in
theorem jm_L_holds_b219 {n0 : Nat} {rr : Int32} {ws' : LWd} {k44 : Nat → Nat → Int32 → Int32 → Int32 → Int32 → Int32 → LWd → Option (Int32 × LWd)} {k55 : Nat → Nat → Int32 → Int32 → Int32 → Int32 → Int32 → Int32 → LWd → Option (Int32 × LWd)} {k66 : Nat → Nat → Int32 → Int32 → Int32 → Int32 → Int32 → Int32 → Int32 → LWd → Option (Int32 × LWd)} (hk44 : ∀ (a0 : Nat) (a1 : Nat) (i3 : Int32) (i4 : Int32) (i5 : Int32) (i6 : Int32) (i7 : Int32) (ws : LWd), k44 a0 a1 i3 i4 i5 i6 i7 ws = some (rr, ws') → JG (.inl false) cL_holds 22 RL wsL_holds (some .boolean) "holds" 0 0 0 n0 (.inl (some (.int rr)), ws') 44 [some (.ref a0), some (.ref a1), none, some (.int i3), some (.int i4), some (.int i5), some (.int i6), some (.int i7), none, none, none, none, none, none, none, none, none, none, none, none, none, none] [] ws 0 0) (hk55 : ∀ (a0 : Nat) (a1 : Nat) (i3 : Int32) (i4 : Int32) (i5 : Int32) (i6 : Int32) (i7 : Int32) (i8 : Int32) (ws : LWd), k55 a0 a1 i3 i4 i5 i6 i7 i8 ws = some (rr, ws') → JG (.inl false) cL_holds 22 RL wsL_holds (some .boolean) "holds" 0 0 0 n0 (.inl (some (.int rr)), ws') 55 [some (.ref a0), some (.ref a1), none, some (.int i3), some (.int i4), some (.int i5), some (.int i6), some (.int i7), some (.int i8), none, none, none, none, none, none, none, none, none, none, none, none, none] [] ws 0 0) (hk66 : ∀ (a0 : Nat) (a1 : Nat) (i3 : Int32) (i4 : Int32) (i5 : Int32) (i6 : Int32) (i7 : Int32) (i8 : Int32) (i9 : Int32) (ws : LWd), k66 a0 a1 i3 i4 i5 i6 i7 i8 i9 ws = some (rr, ws') → JG (.inl false) cL_holds 22 RL wsL_holds (some .boolean) "holds" 0 0 0 n0 (.inl (some (.int rr)), ws') 66 [some (.ref a0), some (.ref a1), none, some (.int i3), some (.int i4), some (.int i5), some (.int i6), some (.int i7), some (.int i8), some (.int i9), none, none, none, none, none, none, none, none, none, none, none, none] [] ws 0 0) (a0 : Nat) (a1 : Nat) (i3 : Int32) (i4 : Int32) (i5 : Int32) (i6 : Int32) (i7 : Int32) (i8 : Int32) (i9 : Int32) (i10 : Int32) (i11 : Int32) (i12 : Int32) (i13 : Int32) (i14 : Int32) (i15 : Int32) (i16 : Int32) (i17 : Int32) (i18 : Int32) (ws : LWd) (h : m_L_holds_b219 k44 k55 k66 a0 a1 i3 i4 i5 i6 i7 i8 i9 i10 i11 i12 i13 i14 i15 i16 i17 i18 ws = some (rr, ws')) : JG (.inl false) cL_holds 22 RL wsL_holds (some .boolean) "holds" 0 0 0 n0 (.inl (some (.int rr)), ws') 219 [some (.ref a0), some (.ref a1), none, some (.int i3), some (.int i4), some (.int i5), some (.int i6), some (.int i7), some (.int i8), some (.int i9), some (.int i10), some (.int i11), some (.int i12), some (.int i13), some (.int i14), some (.int i15), some (.int i16), some (.int i17), some (.int i18), none, none, none] [] ws 0 0 := by
  unfold m_L_holds_b219 at h
  refine j_iload (pc := 219) dL_holds_219 rfl ?_
  refine j_if_gt (pc := 221) (tgt := 238) dL_holds_221 (by decide) (fun c1 => ?_) (fun c1 => ?_)
  · rw [if_pos c1] at h
    exact jm_L_holds_b238 (hk44 := hk44) (hk55 := hk55) (hk66 := hk66) _ _ _ _ _ _ _ _ _ _ _ _ _ _ _ _ _ _ ws h
  · rw [if_neg c1] at h
    refine j_iload (pc := 224) dL_holds_224 rfl ?_
    refine j_if_gt (pc := 226) (tgt := 238) dL_holds_226 (by decide) (fun c2 => ?_) (fun c2 => ?_)
    · rw [if_pos c2] at h
      exact jm_L_holds_b238 (hk44 := hk44) (hk55 := hk55) (hk66 := hk66) _ _ _ _ _ _ _ _ _ _ _ _ _ _ _ _ _ _ ws h
    · rw [if_neg c2] at h
      refine j_iload (pc := 229) dL_holds_229 rfl ?_
      refine j_if_gt (pc := 231) (tgt := 238) dL_holds_231 (by decide) (fun c3 => ?_) (fun c3 => ?_)
      · rw [if_pos c3] at h
        exact jm_L_holds_b238 (hk44 := hk44) (hk55 := hk55) (hk66 := hk66) _ _ _ _ _ _ _ _ _ _ _ _ _ _ _ _ _ _ ws h
      · rw [if_neg c3] at h
        exact jm_L_holds_b234 (hk44 := hk44) (hk55 := hk55) (hk66 := hk66) _ _ _ _ _ _ _ _ _ _ _ _ _ _ _ _ _ _ ws h
def m_L_holds_l66 (k44 : Nat → Nat → Int32 → Int32 → Int32 → Int32 → Int32 → LWd → Option (Int32 × LWd)) (k55 : Nat → Nat → Int32 → Int32 → Int32 → Int32 → Int32 → Int32 → LWd → Option (Int32 × LWd)) : Nat → Nat → Nat → Int32 → Int32 → Int32 → Int32 → Int32 → Int32 → Int32 → LWd → Option (Int32 × LWd)
  | 0, _, _, _, _, _, _, _, _, _, _ => none
  | fu + 1, a0, a1, i3, i4, i5, i6, i7, i8, i9, ws =>
    if 6 ≤ i9 then
      k55 a0 a1 i3 i4 i5 i6 i7 (i8 + 1) ws
    else
      if ((((i3 >>> (i7 &&& 31)) &&& (i3 >>> (i8 &&& 31))) &&& (i3 >>> (i9 &&& 31))) &&& 1) = 1 then
        (aI ws a0 i7).bind fun x3 =>
        (aI ws a1 i7).bind fun x5 =>
        (aI ws a0 i8).bind fun x7 =>
        (aI ws a1 i8).bind fun x9 =>
        (aI ws a0 i9).bind fun x11 =>
        (aI ws a1 i9).bind fun x13 =>
        if (((i5 - (i4 * x3)) * (i6 - (i4 * x9))) - ((i6 - (i4 * x5)) * (i5 - (i4 * x7)))) < 0 then
          m_L_holds_b219 k44 k55 (fun z0 z1 z2 z3 z4 z5 z6 z7 z8 w => m_L_holds_l66 k44 k55 fu z0 z1 z2 z3 z4 z5 z6 z7 z8 w) a0 a1 i3 i4 i5 i6 i7 i8 i9 (i5 - (i4 * x3)) (i6 - (i4 * x5)) (i5 - (i4 * x7)) (i6 - (i4 * x9)) (i5 - (i4 * x11)) (i6 - (i4 * x13)) (((i5 - (i4 * x3)) * (i6 - (i4 * x9))) - ((i6 - (i4 * x5)) * (i5 - (i4 * x7)))) (((i5 - (i4 * x7)) * (i6 - (i4 * x13))) - ((i6 - (i4 * x9)) * (i5 - (i4 * x11)))) (((i5 - (i4 * x11)) * (i6 - (i4 * x5))) - ((i6 - (i4 * x13)) * (i5 - (i4 * x3)))) ws
        else
          if (((i5 - (i4 * x7)) * (i6 - (i4 * x13))) - ((i6 - (i4 * x9)) * (i5 - (i4 * x11)))) < 0 then
            m_L_holds_b219 k44 k55 (fun z0 z1 z2 z3 z4 z5 z6 z7 z8 w => m_L_holds_l66 k44 k55 fu z0 z1 z2 z3 z4 z5 z6 z7 z8 w) a0 a1 i3 i4 i5 i6 i7 i8 i9 (i5 - (i4 * x3)) (i6 - (i4 * x5)) (i5 - (i4 * x7)) (i6 - (i4 * x9)) (i5 - (i4 * x11)) (i6 - (i4 * x13)) (((i5 - (i4 * x3)) * (i6 - (i4 * x9))) - ((i6 - (i4 * x5)) * (i5 - (i4 * x7)))) (((i5 - (i4 * x7)) * (i6 - (i4 * x13))) - ((i6 - (i4 * x9)) * (i5 - (i4 * x11)))) (((i5 - (i4 * x11)) * (i6 - (i4 * x5))) - ((i6 - (i4 * x13)) * (i5 - (i4 * x3)))) ws
          else
            if 0 ≤ (((i5 - (i4 * x11)) * (i6 - (i4 * x5))) - ((i6 - (i4 * x13)) * (i5 - (i4 * x3)))) then
              m_L_holds_b234 k44 k55 (fun z0 z1 z2 z3 z4 z5 z6 z7 z8 w => m_L_holds_l66 k44 k55 fu z0 z1 z2 z3 z4 z5 z6 z7 z8 w) a0 a1 i3 i4 i5 i6 i7 i8 i9 (i5 - (i4 * x3)) (i6 - (i4 * x5)) (i5 - (i4 * x7)) (i6 - (i4 * x9)) (i5 - (i4 * x11)) (i6 - (i4 * x13)) (((i5 - (i4 * x3)) * (i6 - (i4 * x9))) - ((i6 - (i4 * x5)) * (i5 - (i4 * x7)))) (((i5 - (i4 * x7)) * (i6 - (i4 * x13))) - ((i6 - (i4 * x9)) * (i5 - (i4 * x11)))) (((i5 - (i4 * x11)) * (i6 - (i4 * x5))) - ((i6 - (i4 * x13)) * (i5 - (i4 * x3)))) ws
            else
              m_L_holds_b219 k44 k55 (fun z0 z1 z2 z3 z4 z5 z6 z7 z8 w => m_L_holds_l66 k44 k55 fu z0 z1 z2 z3 z4 z5 z6 z7 z8 w) a0 a1 i3 i4 i5 i6 i7 i8 i9 (i5 - (i4 * x3)) (i6 - (i4 * x5)) (i5 - (i4 * x7)) (i6 - (i4 * x9)) (i5 - (i4 * x11)) (i6 - (i4 * x13)) (((i5 - (i4 * x3)) * (i6 - (i4 * x9))) - ((i6 - (i4 * x5)) * (i5 - (i4 * x7)))) (((i5 - (i4 * x7)) * (i6 - (i4 * x13))) - ((i6 - (i4 * x9)) * (i5 - (i4 * x11)))) (((i5 - (i4 * x11)) * (i6 - (i4 * x5))) - ((i6 - (i4 * x13)) * (i5 - (i4 * x3)))) ws
      else
        m_L_holds_b329 k44 k55 (fun z0 z1 z2 z3 z4 z5 z6 z7 z8 w => m_L_holds_l66 k44 k55 fu z0 z1 z2 z3 z4 z5 z6 z7 z8 w) a0 a1 i3 i4 i5 i6 i7 i8 i9 ws
set_option maxRecDepth 100000 in
set_option maxHeartbeats 4000000 in
theorem jm_L_holds_l66 {n0 : Nat} {rr : Int32} {ws' : LWd} {k44 : Nat → Nat → Int32 → Int32 → Int32 → Int32 → Int32 → LWd → Option (Int32 × LWd)} {k55 : Nat → Nat → Int32 → Int32 → Int32 → Int32 → Int32 → Int32 → LWd → Option (Int32 × LWd)} (hk44 : ∀ (a0 : Nat) (a1 : Nat) (i3 : Int32) (i4 : Int32) (i5 : Int32) (i6 : Int32) (i7 : Int32) (ws : LWd), k44 a0 a1 i3 i4 i5 i6 i7 ws = some (rr, ws') → JG (.inl false) cL_holds 22 RL wsL_holds (some .boolean) "holds" 0 0 0 n0 (.inl (some (.int rr)), ws') 44 [some (.ref a0), some (.ref a1), none, some (.int i3), some (.int i4), some (.int i5), some (.int i6), some (.int i7), none, none, none, none, none, none, none, none, none, none, none, none, none, none] [] ws 0 0) (hk55 : ∀ (a0 : Nat) (a1 : Nat) (i3 : Int32) (i4 : Int32) (i5 : Int32) (i6 : Int32) (i7 : Int32) (i8 : Int32) (ws : LWd), k55 a0 a1 i3 i4 i5 i6 i7 i8 ws = some (rr, ws') → JG (.inl false) cL_holds 22 RL wsL_holds (some .boolean) "holds" 0 0 0 n0 (.inl (some (.int rr)), ws') 55 [some (.ref a0), some (.ref a1), none, some (.int i3), some (.int i4), some (.int i5), some (.int i6), some (.int i7), some (.int i8), none, none, none, none, none, none, none, none, none, none, none, none, none] [] ws 0 0) : ∀ (fu : Nat) (a0 : Nat) (a1 : Nat) (i3 : Int32) (i4 : Int32) (i5 : Int32) (i6 : Int32) (i7 : Int32) (i8 : Int32) (i9 : Int32) (ws : LWd), m_L_holds_l66 k44 k55 fu a0 a1 i3 i4 i5 i6 i7 i8 i9 ws = some (rr, ws') → JG (.inl false) cL_holds 22 RL wsL_holds (some .boolean) "holds" 0 0 0 n0 (.inl (some (.int rr)), ws') 66 [some (.ref a0), some (.ref a1), none, some (.int i3), some (.int i4), some (.int i5), some (.int i6), some (.int i7), some (.int i8), some (.int i9), none, none, none, none, none, none, none, none, none, none, none, none] [] ws 0 0 := by
  intro fu
  induction fu with
  | zero => intro a0 a1 i3 i4 i5 i6 i7 i8 i9 ws h; first | (cases h; done) | (rw [m_L_holds_l66] at h; cases h)
  | succ fu ih =>
    intro a0 a1 i3 i4 i5 i6 i7 i8 i9 ws h
    rw [m_L_holds_l66] at h
    refine j_iload (pc := 66) dL_holds_66 rfl ?_
    refine j_bipush (pc := 68) dL_holds_68 (v := 6) (by decide) ?_
    refine j_icmp_ge (pc := 70) (tgt := 335) dL_holds_70 (by decide) (fun c1 => ?_) (fun c1 => ?_)
    · rw [if_pos c1] at h
      refine j_iinc_8 (pc := 335) dL_holds_335 (y := i8 + 1) rfl (by decide) rfl ?_
      refine j_goto (pc := 338) (tgt := 55) dL_holds_338 (by decide) ?_
      refine j_mask [true, true, false, true, true, true, true, true, true, false, false, false, false, false, false, false, false, false, false, false, false, false] ?_
      exact hk55 _ _ _ _ _ _ _ _ ws h
    · rw [if_neg c1] at h
      refine j_iload_n (pc := 73) dL_holds_73 rfl ?_
      refine j_iload (pc := 74) dL_holds_74 rfl ?_
      refine j_ishr (pc := 76) dL_holds_76 ?_
      refine j_iload_n (pc := 77) dL_holds_77 rfl ?_
      refine j_iload (pc := 78) dL_holds_78 rfl ?_
      refine j_ishr (pc := 80) dL_holds_80 ?_
      refine j_iand (pc := 81) dL_holds_81 ?_
      refine j_iload_n (pc := 82) dL_holds_82 rfl ?_
      refine j_iload (pc := 83) dL_holds_83 rfl ?_
      refine j_ishr (pc := 85) dL_holds_85 ?_
      refine j_iand (pc := 86) dL_holds_86 ?_
      refine j_iconst (pc := 87) dL_holds_87 (v := 1) (by decide) ?_
      refine j_iand (pc := 88) dL_holds_88 ?_
      refine j_iconst (pc := 89) dL_holds_89 (v := 1) (by decide) ?_
      refine j_icmp_ne (pc := 90) (tgt := 329) dL_holds_90 (by decide) (fun c2 => ?_) (fun c2 => ?_)
      · rw [if_neg c2] at h
        exact jm_L_holds_b329 (hk44 := hk44) (hk55 := hk55) (hk66 := ih) _ _ _ _ _ _ _ _ _ ws h
      · rw [if_pos c2] at h
        refine j_iload (pc := 93) dL_holds_93 rfl ?_
        refine j_iload (pc := 95) dL_holds_95 rfl ?_
        refine j_aload_n (pc := 97) dL_holds_97 rfl ?_
        refine j_iload (pc := 98) dL_holds_98 rfl ?_
        obtain ⟨x3, e4, h⟩ := obS h
        refine j_iald (pc := 100) dL_holds_100 e4 ?_
        refine j_imul (pc := 101) dL_holds_101 ?_
        refine j_isub (pc := 102) dL_holds_102 ?_
        refine j_istore_10 (pc := 103) dL_holds_103 (by decide) rfl ?_
        refine j_iload (pc := 105) dL_holds_105 rfl ?_
        refine j_iload (pc := 107) dL_holds_107 rfl ?_
        refine j_aload_n (pc := 109) dL_holds_109 rfl ?_
        refine j_iload (pc := 110) dL_holds_110 rfl ?_
        obtain ⟨x5, e6, h⟩ := obS h
        refine j_iald (pc := 112) dL_holds_112 e6 ?_
        refine j_imul (pc := 113) dL_holds_113 ?_
        refine j_isub (pc := 114) dL_holds_114 ?_
        refine j_istore_11 (pc := 115) dL_holds_115 (by decide) rfl ?_
        refine j_iload (pc := 117) dL_holds_117 rfl ?_
        refine j_iload (pc := 119) dL_holds_119 rfl ?_
        refine j_aload_n (pc := 121) dL_holds_121 rfl ?_
        refine j_iload (pc := 122) dL_holds_122 rfl ?_
        obtain ⟨x7, e8, h⟩ := obS h
        refine j_iald (pc := 124) dL_holds_124 e8 ?_
        refine j_imul (pc := 125) dL_holds_125 ?_
        refine j_isub (pc := 126) dL_holds_126 ?_
        refine j_istore_12 (pc := 127) dL_holds_127 (by decide) rfl ?_
        refine j_iload (pc := 129) dL_holds_129 rfl ?_
        refine j_iload (pc := 131) dL_holds_131 rfl ?_
        refine j_aload_n (pc := 133) dL_holds_133 rfl ?_
        refine j_iload (pc := 134) dL_holds_134 rfl ?_
        obtain ⟨x9, e10, h⟩ := obS h
        refine j_iald (pc := 136) dL_holds_136 e10 ?_
        refine j_imul (pc := 137) dL_holds_137 ?_
        refine j_isub (pc := 138) dL_holds_138 ?_
        refine j_istore_13 (pc := 139) dL_holds_139 (by decide) rfl ?_
        refine j_iload (pc := 141) dL_holds_141 rfl ?_
        refine j_iload (pc := 143) dL_holds_143 rfl ?_
        refine j_aload_n (pc := 145) dL_holds_145 rfl ?_
        refine j_iload (pc := 146) dL_holds_146 rfl ?_
        obtain ⟨x11, e12, h⟩ := obS h
        refine j_iald (pc := 148) dL_holds_148 e12 ?_
        refine j_imul (pc := 149) dL_holds_149 ?_
        refine j_isub (pc := 150) dL_holds_150 ?_
        refine j_istore_14 (pc := 151) dL_holds_151 (by decide) rfl ?_
        refine j_iload (pc := 153) dL_holds_153 rfl ?_
        refine j_iload (pc := 155) dL_holds_155 rfl ?_
        refine j_aload_n (pc := 157) dL_holds_157 rfl ?_
        refine j_iload (pc := 158) dL_holds_158 rfl ?_
        obtain ⟨x13, e14, h⟩ := obS h
        refine j_iald (pc := 160) dL_holds_160 e14 ?_
        refine j_imul (pc := 161) dL_holds_161 ?_
        refine j_isub (pc := 162) dL_holds_162 ?_
        refine j_istore_15 (pc := 163) dL_holds_163 (by decide) rfl ?_
        refine j_iload (pc := 165) dL_holds_165 rfl ?_
        refine j_iload (pc := 167) dL_holds_167 rfl ?_
        refine j_imul (pc := 169) dL_holds_169 ?_
        refine j_iload (pc := 170) dL_holds_170 rfl ?_
        refine j_iload (pc := 172) dL_holds_172 rfl ?_
        refine j_imul (pc := 174) dL_holds_174 ?_
        refine j_isub (pc := 175) dL_holds_175 ?_
        refine j_istore_16 (pc := 176) dL_holds_176 (by decide) rfl ?_
        refine j_iload (pc := 178) dL_holds_178 rfl ?_
        refine j_iload (pc := 180) dL_holds_180 rfl ?_
        refine j_imul (pc := 182) dL_holds_182 ?_
        refine j_iload (pc := 183) dL_holds_183 rfl ?_
        refine j_iload (pc := 185) dL_holds_185 rfl ?_
        refine j_imul (pc := 187) dL_holds_187 ?_
        refine j_isub (pc := 188) dL_holds_188 ?_
        refine j_istore_17 (pc := 189) dL_holds_189 (by decide) rfl ?_
        refine j_iload (pc := 191) dL_holds_191 rfl ?_
        refine j_iload (pc := 193) dL_holds_193 rfl ?_
        refine j_imul (pc := 195) dL_holds_195 ?_
        refine j_iload (pc := 196) dL_holds_196 rfl ?_
        refine j_iload (pc := 198) dL_holds_198 rfl ?_
        refine j_imul (pc := 200) dL_holds_200 ?_
        refine j_isub (pc := 201) dL_holds_201 ?_
        refine j_istore_18 (pc := 202) dL_holds_202 (by decide) rfl ?_
        refine j_iload (pc := 204) dL_holds_204 rfl ?_
        refine j_if_lt (pc := 206) (tgt := 219) dL_holds_206 (by decide) (fun c15 => ?_) (fun c15 => ?_)
        · rw [if_pos c15] at h
          exact jm_L_holds_b219 (hk44 := hk44) (hk55 := hk55) (hk66 := ih) _ _ _ _ _ _ _ _ _ _ _ _ _ _ _ _ _ _ ws h
        · rw [if_neg c15] at h
          refine j_iload (pc := 209) dL_holds_209 rfl ?_
          refine j_if_lt (pc := 211) (tgt := 219) dL_holds_211 (by decide) (fun c16 => ?_) (fun c16 => ?_)
          · rw [if_pos c16] at h
            exact jm_L_holds_b219 (hk44 := hk44) (hk55 := hk55) (hk66 := ih) _ _ _ _ _ _ _ _ _ _ _ _ _ _ _ _ _ _ ws h
          · rw [if_neg c16] at h
            refine j_iload (pc := 214) dL_holds_214 rfl ?_
            refine j_if_ge (pc := 216) (tgt := 234) dL_holds_216 (by decide) (fun c17 => ?_) (fun c17 => ?_)
            · rw [if_pos c17] at h
              exact jm_L_holds_b234 (hk44 := hk44) (hk55 := hk55) (hk66 := ih) _ _ _ _ _ _ _ _ _ _ _ _ _ _ _ _ _ _ ws h
            · rw [if_neg c17] at h
              exact jm_L_holds_b219 (hk44 := hk44) (hk55 := hk55) (hk66 := ih) _ _ _ _ _ _ _ _ _ _ _ _ _ _ _ _ _ _ ws h
def m_L_holds_l55 (k44 : Nat → Nat → Int32 → Int32 → Int32 → Int32 → Int32 → LWd → Option (Int32 × LWd)) : Nat → Nat → Nat → Int32 → Int32 → Int32 → Int32 → Int32 → Int32 → LWd → Option (Int32 × LWd)
  | 0, _, _, _, _, _, _, _, _, _ => none
  | fu + 1, a0, a1, i3, i4, i5, i6, i7, i8, ws =>
    if 6 ≤ i8 then
      k44 a0 a1 i3 i4 i5 i6 (i7 + 1) ws
    else
      m_L_holds_l66 k44 (fun z0 z1 z2 z3 z4 z5 z6 z7 w => m_L_holds_l55 k44 fu z0 z1 z2 z3 z4 z5 z6 z7 w) FU a0 a1 i3 i4 i5 i6 i7 i8 i8 ws
set_option maxRecDepth 100000 in
set_option maxHeartbeats 4000000 in
theorem jm_L_holds_l55 {n0 : Nat} {rr : Int32} {ws' : LWd} {k44 : Nat → Nat → Int32 → Int32 → Int32 → Int32 → Int32 → LWd → Option (Int32 × LWd)} (hk44 : ∀ (a0 : Nat) (a1 : Nat) (i3 : Int32) (i4 : Int32) (i5 : Int32) (i6 : Int32) (i7 : Int32) (ws : LWd), k44 a0 a1 i3 i4 i5 i6 i7 ws = some (rr, ws') → JG (.inl false) cL_holds 22 RL wsL_holds (some .boolean) "holds" 0 0 0 n0 (.inl (some (.int rr)), ws') 44 [some (.ref a0), some (.ref a1), none, some (.int i3), some (.int i4), some (.int i5), some (.int i6), some (.int i7), none, none, none, none, none, none, none, none, none, none, none, none, none, none] [] ws 0 0) : ∀ (fu : Nat) (a0 : Nat) (a1 : Nat) (i3 : Int32) (i4 : Int32) (i5 : Int32) (i6 : Int32) (i7 : Int32) (i8 : Int32) (ws : LWd), m_L_holds_l55 k44 fu a0 a1 i3 i4 i5 i6 i7 i8 ws = some (rr, ws') → JG (.inl false) cL_holds 22 RL wsL_holds (some .boolean) "holds" 0 0 0 n0 (.inl (some (.int rr)), ws') 55 [some (.ref a0), some (.ref a1), none, some (.int i3), some (.int i4), some (.int i5), some (.int i6), some (.int i7), some (.int i8), none, none, none, none, none, none, none, none, none, none, none, none, none] [] ws 0 0 := by
  intro fu
  induction fu with
  | zero => intro a0 a1 i3 i4 i5 i6 i7 i8 ws h; first | (cases h; done) | (rw [m_L_holds_l55] at h; cases h)
  | succ fu ih =>
    intro a0 a1 i3 i4 i5 i6 i7 i8 ws h
    rw [m_L_holds_l55] at h
    refine j_iload (pc := 55) dL_holds_55 rfl ?_
    refine j_bipush (pc := 57) dL_holds_57 (v := 6) (by decide) ?_
    refine j_icmp_ge (pc := 59) (tgt := 341) dL_holds_59 (by decide) (fun c1 => ?_) (fun c1 => ?_)
    · rw [if_pos c1] at h
      refine j_iinc_7 (pc := 341) dL_holds_341 (y := i7 + 1) rfl (by decide) rfl ?_
      refine j_goto (pc := 344) (tgt := 44) dL_holds_344 (by decide) ?_
      refine j_mask [true, true, false, true, true, true, true, true, false, false, false, false, false, false, false, false, false, false, false, false, false, false] ?_
      exact hk44 _ _ _ _ _ _ _ ws h
    · rw [if_neg c1] at h
      refine j_iload (pc := 62) dL_holds_62 rfl ?_
      refine j_istore_9 (pc := 64) dL_holds_64 (by decide) rfl ?_
      exact jm_L_holds_l66 (hk44 := hk44) (hk55 := ih) FU _ _ _ _ _ _ _ _ _ ws h
def m_L_holds_l44 : Nat → Nat → Nat → Int32 → Int32 → Int32 → Int32 → Int32 → LWd → Option (Int32 × LWd)
  | 0, _, _, _, _, _, _, _, _ => none
  | fu + 1, a0, a1, i3, i4, i5, i6, i7, ws =>
    if 6 ≤ i7 then
      some (0, ws)
    else
      m_L_holds_l55 (fun z0 z1 z2 z3 z4 z5 z6 w => m_L_holds_l44 fu z0 z1 z2 z3 z4 z5 z6 w) FU a0 a1 i3 i4 i5 i6 i7 i7 ws
set_option maxRecDepth 100000 in
set_option maxHeartbeats 4000000 in
theorem jm_L_holds_l44 {n0 : Nat} {rr : Int32} {ws' : LWd} : ∀ (fu : Nat) (a0 : Nat) (a1 : Nat) (i3 : Int32) (i4 : Int32) (i5 : Int32) (i6 : Int32) (i7 : Int32) (ws : LWd), m_L_holds_l44 fu a0 a1 i3 i4 i5 i6 i7 ws = some (rr, ws') → JG (.inl false) cL_holds 22 RL wsL_holds (some .boolean) "holds" 0 0 0 n0 (.inl (some (.int rr)), ws') 44 [some (.ref a0), some (.ref a1), none, some (.int i3), some (.int i4), some (.int i5), some (.int i6), some (.int i7), none, none, none, none, none, none, none, none, none, none, none, none, none, none] [] ws 0 0 := by
  intro fu
  induction fu with
  | zero => intro a0 a1 i3 i4 i5 i6 i7 ws h; first | (cases h; done) | (rw [m_L_holds_l44] at h; cases h)
  | succ fu ih =>
    intro a0 a1 i3 i4 i5 i6 i7 ws h
    rw [m_L_holds_l44] at h
    refine j_iload (pc := 44) dL_holds_44 rfl ?_
    refine j_bipush (pc := 46) dL_holds_46 (v := 6) (by decide) ?_
    refine j_icmp_ge (pc := 48) (tgt := 347) dL_holds_48 (by decide) (fun c1 => ?_) (fun c1 => ?_)
    · rw [if_pos c1] at h
      refine j_iconst (pc := 347) dL_holds_347 (v := 0) (by decide) ?_
      obtain ⟨rfl, rfl⟩ := jretS h
      exact j_zretL (pc := 348) (by decide) rfl dL_holds_348 (by decide) (by decide) rfl
    · rw [if_neg c1] at h
      refine j_iload (pc := 51) dL_holds_51 rfl ?_
      refine j_istore_8 (pc := 53) dL_holds_53 (by decide) rfl ?_
      exact jm_L_holds_l55 (hk44 := ih) FU _ _ _ _ _ _ _ _ ws h
def m_L_holds (a0 : Nat) (a1 : Nat) (a2 : Nat) (i3 : Int32) (ws : LWd) : Option (Int32 × LWd) :=
  (aI ws a2 4).bind fun x1 =>
  (aI ws a2 1).bind fun x3 =>
  (aI ws a2 4).bind fun x5 =>
  (aI ws a2 5).bind fun x7 =>
  (aI ws a2 2).bind fun x9 =>
  (aI ws a2 4).bind fun x11 =>
  (aI ws a2 6).bind fun x13 =>
  m_L_holds_l44 FU a0 a1 i3 (10 + x1) (((10 + x1) * x3) + (x5 * x7)) (((10 + x1) * x9) + (x11 * x13)) 0 ws
set_option maxRecDepth 100000 in
set_option maxHeartbeats 4000000 in
theorem s_L_holds {a0 : Nat} {a1 : Nat} {a2 : Nat} {i3 : Int32} {ws : LWd} {rr : Int32} {ws' : LWd} (h : m_L_holds a0 a1 a2 i3 ws = some (rr, ws')) : jSp yL_holds wsL_holds 0 0 0 [.ref a0, .ref a1, .ref a2, .int i3] ws (.inl (some (.int rr)), ws') := by
  unfold m_L_holds at h
  refine j_entry (ret := (some .boolean)) (nm := "holds") (own := RL) pl_L rfl rfl rfl (jcats (by rfl)) (Nat.le_of_ble_eq_true rfl) ?_
  show JG (.inl false) cL_holds 22 RL wsL_holds (some .boolean) "holds" 0 0 0 ws.length (.inl (some (.int rr)), ws') 0 [some (.ref a0), some (.ref a1), some (.ref a2), some (.int i3), none, none, none, none, none, none, none, none, none, none, none, none, none, none, none, none, none, none] [] ws 0 0
  refine j_bipush (pc := 0) dL_holds_0 (v := 10) (by decide) ?_
  refine j_aload_n (pc := 2) dL_holds_2 rfl ?_
  refine j_iconst (pc := 3) dL_holds_3 (v := 4) (by decide) ?_
  obtain ⟨x1, e2, h⟩ := obS h
  refine j_iald (pc := 4) dL_holds_4 e2 ?_
  refine j_iadd (pc := 5) dL_holds_5 ?_
  refine j_istore_4 (pc := 6) dL_holds_6 (by decide) rfl ?_
  refine j_iload (pc := 8) dL_holds_8 rfl ?_
  refine j_aload_n (pc := 10) dL_holds_10 rfl ?_
  refine j_iconst (pc := 11) dL_holds_11 (v := 1) (by decide) ?_
  obtain ⟨x3, e4, h⟩ := obS h
  refine j_iald (pc := 12) dL_holds_12 e4 ?_
  refine j_imul (pc := 13) dL_holds_13 ?_
  refine j_aload_n (pc := 14) dL_holds_14 rfl ?_
  refine j_iconst (pc := 15) dL_holds_15 (v := 4) (by decide) ?_
  obtain ⟨x5, e6, h⟩ := obS h
  refine j_iald (pc := 16) dL_holds_16 e6 ?_
  refine j_aload_n (pc := 17) dL_holds_17 rfl ?_
  refine j_iconst (pc := 18) dL_holds_18 (v := 5) (by decide) ?_
  obtain ⟨x7, e8, h⟩ := obS h
  refine j_iald (pc := 19) dL_holds_19 e8 ?_
  refine j_imul (pc := 20) dL_holds_20 ?_
  refine j_iadd (pc := 21) dL_holds_21 ?_
  refine j_istore_5 (pc := 22) dL_holds_22 (by decide) rfl ?_
  refine j_iload (pc := 24) dL_holds_24 rfl ?_
  refine j_aload_n (pc := 26) dL_holds_26 rfl ?_
  refine j_iconst (pc := 27) dL_holds_27 (v := 2) (by decide) ?_
  obtain ⟨x9, e10, h⟩ := obS h
  refine j_iald (pc := 28) dL_holds_28 e10 ?_
  refine j_imul (pc := 29) dL_holds_29 ?_
  refine j_aload_n (pc := 30) dL_holds_30 rfl ?_
  refine j_iconst (pc := 31) dL_holds_31 (v := 4) (by decide) ?_
  obtain ⟨x11, e12, h⟩ := obS h
  refine j_iald (pc := 32) dL_holds_32 e12 ?_
  refine j_aload_n (pc := 33) dL_holds_33 rfl ?_
  refine j_bipush (pc := 34) dL_holds_34 (v := 6) (by decide) ?_
  obtain ⟨x13, e14, h⟩ := obS h
  refine j_iald (pc := 36) dL_holds_36 e14 ?_
  refine j_imul (pc := 37) dL_holds_37 ?_
  refine j_iadd (pc := 38) dL_holds_38 ?_
  refine j_istore_6 (pc := 39) dL_holds_39 (by decide) rfl ?_
  refine j_iconst (pc := 41) dL_holds_41 (v := 0) (by decide) ?_
  refine j_istore_7 (pc := 42) dL_holds_42 (by decide) rfl ?_
  refine j_mask [true, true, false, true, true, true, true, true, false, false, false, false, false, false, false, false, false, false, false, false, false, false] ?_
  exact jm_L_holds_l44 FU _ _ _ _ _ _ _ ws h
def wsL_many : List Cond := Cond.code yL_many cL_many 3 (some .int) :: jW
def m_L_many_l4 : Nat → Int32 → Int32 → Int32 → LWd → Option (Int32 × LWd)
  | 0, _, _, _, _ => none
  | fu + 1, i0, i1, i2, ws =>
    if 6 ≤ i2 then
      some (i1, ws)
    else
      m_L_many_l4 fu i0 (i1 + ((i0 >>> (i2 &&& 31)) &&& 1)) (i2 + 1) ws
set_option maxRecDepth 100000 in
set_option maxHeartbeats 4000000 in
theorem jm_L_many_l4 {n0 : Nat} {rr : Int32} {ws' : LWd} : ∀ (fu : Nat) (i0 : Int32) (i1 : Int32) (i2 : Int32) (ws : LWd), m_L_many_l4 fu i0 i1 i2 ws = some (rr, ws') → JG (.inl false) cL_many 3 RL wsL_many (some .int) "many" 0 0 0 n0 (.inl (some (.int rr)), ws') 4 [some (.int i0), some (.int i1), some (.int i2)] [] ws 0 0 := by
  intro fu
  induction fu with
  | zero => intro i0 i1 i2 ws h; first | (cases h; done) | (rw [m_L_many_l4] at h; cases h)
  | succ fu ih =>
    intro i0 i1 i2 ws h
    rw [m_L_many_l4] at h
    refine j_iload_n (pc := 4) dL_many_4 rfl ?_
    refine j_bipush (pc := 5) dL_many_5 (v := 6) (by decide) ?_
    refine j_icmp_ge (pc := 7) (tgt := 24) dL_many_7 (by decide) (fun c1 => ?_) (fun c1 => ?_)
    · rw [if_pos c1] at h
      refine j_iload_n (pc := 24) dL_many_24 rfl ?_
      obtain ⟨rfl, rfl⟩ := jretS h
      exact j_iret (pc := 25) rfl dL_many_25 (by decide) (by decide) rfl
    · rw [if_neg c1] at h
      refine j_iload_n (pc := 10) dL_many_10 rfl ?_
      refine j_iload_n (pc := 11) dL_many_11 rfl ?_
      refine j_iload_n (pc := 12) dL_many_12 rfl ?_
      refine j_ishr (pc := 13) dL_many_13 ?_
      refine j_iconst (pc := 14) dL_many_14 (v := 1) (by decide) ?_
      refine j_iand (pc := 15) dL_many_15 ?_
      refine j_iadd (pc := 16) dL_many_16 ?_
      refine j_istore_n_1 (pc := 17) dL_many_17 (by decide) rfl ?_
      refine j_iinc_2 (pc := 18) dL_many_18 (y := i2 + 1) rfl (by decide) rfl ?_
      refine j_goto (pc := 21) (tgt := 4) dL_many_21 (by decide) ?_
      exact ih _ _ _ ws h
def m_L_many (i0 : Int32) (ws : LWd) : Option (Int32 × LWd) :=
  m_L_many_l4 FU i0 0 0 ws
set_option maxRecDepth 100000 in
set_option maxHeartbeats 4000000 in
theorem s_L_many {i0 : Int32} {ws : LWd} {rr : Int32} {ws' : LWd} (h : m_L_many i0 ws = some (rr, ws')) : jSp yL_many wsL_many 0 0 0 [.int i0] ws (.inl (some (.int rr)), ws') := by
  unfold m_L_many at h
  refine j_entry (ret := (some .int)) (nm := "many") (own := RL) pl_L rfl rfl rfl (jcats (by rfl)) (Nat.le_of_ble_eq_true rfl) ?_
  show JG (.inl false) cL_many 3 RL wsL_many (some .int) "many" 0 0 0 ws.length (.inl (some (.int rr)), ws') 0 [some (.int i0), none, none] [] ws 0 0
  refine j_iconst (pc := 0) dL_many_0 (v := 0) (by decide) ?_
  refine j_istore_n_1 (pc := 1) dL_many_1 (by decide) rfl ?_
  refine j_iconst (pc := 2) dL_many_2 (v := 0) (by decide) ?_
  refine j_istore_n_2 (pc := 3) dL_many_3 (by decide) rfl ?_
  exact jm_L_many_l4 FU _ _ _ ws h
def wsL_pressure : List Cond := Cond.code yL_pressure cL_pressure 3 (some .int) :: jW
def m_L_pressure (a0 : Nat) (i1 : Int32) (ws : LWd) : Option (Int32 × LWd) :=
  bn2 (calSR ws (m_L_many i1 ws)) fun x3 w1 =>
  if x3 = 0 then
    some (0, w1)
  else
    (aI w1 a0 4).bind fun x5 =>
    if x3 = 0 then none else
    (aI w1 a0 4).bind fun x8 =>
    if x3 = 0 then none else
    if (jrem (10 + x8) x3) ≤ 0 then
      some (((10 + x5) / x3) + 0, w1)
    else
      some (((10 + x5) / x3) + 1, w1)
set_option maxRecDepth 100000 in
set_option maxHeartbeats 4000000 in
theorem s_L_pressure {a0 : Nat} {i1 : Int32} {ws : LWd} {rr : Int32} {ws' : LWd} (h : m_L_pressure a0 i1 ws = some (rr, ws')) : jSp yL_pressure wsL_pressure 1 0 0 [.ref a0, .int i1] ws (.inl (some (.int rr)), ws') := by
  unfold m_L_pressure at h
  refine j_entry (ret := (some .int)) (nm := "pressure") (own := RL) pl_L rfl rfl rfl (jcats (by rfl)) (Nat.le_of_ble_eq_true rfl) ?_
  show JG (.inl false) cL_pressure 3 RL wsL_pressure (some .int) "pressure" 1 0 0 ws.length (.inl (some (.int rr)), ws') 0 [some (.ref a0), some (.int i1), none] [] ws 0 0
  refine j_iload_n (pc := 0) dL_pressure_0 rfl ?_
  obtain ⟨x3, w1, e2, h⟩ := obS2 h
  have ge2 := calSR_of e2
  refine j_callS_g (pc := 1) (As := [.int i1]) (k' := 0) (n' := 0) dL_pressure_1 (s_L_many ge2.1) (jgS lw_602 lw_603 lw_597 lw_601) rfl hy_L_many rfl (by decide) (by decide) (Nat.le_of_ble_eq_true rfl) (by decide) (by decide) (by decide) (by decide) (Or.inl ge2.2) ?_
  refine j_istore_n_2 (pc := 4) dL_pressure_4 (by decide) rfl ?_
  refine j_iload_n (pc := 5) dL_pressure_5 rfl ?_
  refine j_if_ne (pc := 6) (tgt := 13) dL_pressure_6 (by decide) (fun c4 => ?_) (fun c4 => ?_)
  · rw [if_neg c4] at h
    refine j_bipush (pc := 13) dL_pressure_13 (v := 10) (by decide) ?_
    refine j_aload_n (pc := 15) dL_pressure_15 rfl ?_
    refine j_iconst (pc := 16) dL_pressure_16 (v := 4) (by decide) ?_
    obtain ⟨x5, e6, h⟩ := obS h
    refine j_iald (pc := 17) dL_pressure_17 e6 ?_
    refine j_iadd (pc := 18) dL_pressure_18 ?_
    refine j_iload_n (pc := 19) dL_pressure_19 rfl ?_
    have c7 := jneS h
    rw [if_neg c7] at h
    refine j_idiv (pc := 20) dL_pressure_20 c7 ?_
    refine j_bipush (pc := 21) dL_pressure_21 (v := 10) (by decide) ?_
    refine j_aload_n (pc := 23) dL_pressure_23 rfl ?_
    refine j_iconst (pc := 24) dL_pressure_24 (v := 4) (by decide) ?_
    obtain ⟨x8, e9, h⟩ := obS h
    refine j_iald (pc := 25) dL_pressure_25 e9 ?_
    refine j_iadd (pc := 26) dL_pressure_26 ?_
    refine j_iload_n (pc := 27) dL_pressure_27 rfl ?_
    have c10 := jneS h
    rw [if_neg c10] at h
    refine j_irem (pc := 28) dL_pressure_28 c10 ?_
    refine j_if_le (pc := 29) (tgt := 36) dL_pressure_29 (by decide) (fun c11 => ?_) (fun c11 => ?_)
    · rw [if_pos c11] at h
      refine j_iconst (pc := 36) dL_pressure_36 (v := 0) (by decide) ?_
      refine j_iadd (pc := 37) dL_pressure_37 ?_
      obtain ⟨rfl, rfl⟩ := jretS h
      exact j_iret (pc := 38) rfl dL_pressure_38 (by decide) (by decide) rfl
    · rw [if_neg c11] at h
      refine j_iconst (pc := 32) dL_pressure_32 (v := 1) (by decide) ?_
      refine j_goto (pc := 33) (tgt := 37) dL_pressure_33 (by decide) ?_
      refine j_iadd (pc := 37) dL_pressure_37 ?_
      obtain ⟨rfl, rfl⟩ := jretS h
      exact j_iret (pc := 38) rfl dL_pressure_38 (by decide) (by decide) rfl
  · rw [if_pos c4] at h
    refine j_iconst (pc := 9) dL_pressure_9 (v := 0) (by decide) ?_
    refine j_goto (pc := 10) (tgt := 38) dL_pressure_10 (by decide) ?_
    obtain ⟨rfl, rfl⟩ := jretS h
    exact j_iret (pc := 38) rfl dL_pressure_38 (by decide) (by decide) rfl
def wsL_level : List Cond := Cond.code yL_level cL_level 7 (some .int) :: jW
def m_L_level_b63 (k6 : Nat → Nat → Nat → Int32 → Int32 → Int32 → LWd → Option (Int32 × LWd)) (a0 : Nat) (a1 : Nat) (a2 : Nat) (i3 : Int32) (i5 : Int32) (s0 : Int32) (ws : LWd) : Option (Int32 × LWd) :=
  k6 a0 a1 a2 i3 s0 (i5 + 1) ws
set_option maxRecDepth 100000 in
set_option maxHeartbeats 4000000 in
theorem jm_L_level_b63 {n0 : Nat} {rr : Int32} {ws' : LWd} {k6 : Nat → Nat → Nat → Int32 → Int32 → Int32 → LWd → Option (Int32 × LWd)} (hk6 : ∀ (a0 : Nat) (a1 : Nat) (a2 : Nat) (i3 : Int32) (i4 : Int32) (i5 : Int32) (ws : LWd), k6 a0 a1 a2 i3 i4 i5 ws = some (rr, ws') → JG (.inl false) cL_level 7 RL wsL_level (some .int) "level" 1 0 0 n0 (.inl (some (.int rr)), ws') 6 [some (.ref a0), some (.ref a1), some (.ref a2), some (.int i3), some (.int i4), some (.int i5), none] [] ws 0 0) (a0 : Nat) (a1 : Nat) (a2 : Nat) (i3 : Int32) (i5 : Int32) (s0 : Int32) (ws : LWd) (h : m_L_level_b63 k6 a0 a1 a2 i3 i5 s0 ws = some (rr, ws')) : JG (.inl false) cL_level 7 RL wsL_level (some .int) "level" 1 0 0 n0 (.inl (some (.int rr)), ws') 63 [some (.ref a0), some (.ref a1), some (.ref a2), some (.int i3), none, some (.int i5), none] [.int s0] ws 0 0 := by
  unfold m_L_level_b63 at h
  refine j_istore_4 (pc := 63) dL_level_63 (by decide) rfl ?_
  refine j_iinc_5 (pc := 65) dL_level_65 (y := i5 + 1) rfl (by decide) rfl ?_
  refine j_goto (pc := 68) (tgt := 6) dL_level_68 (by decide) ?_
  exact hk6 _ _ _ _ _ _ ws h
def m_L_level_b47 (k6 : Nat → Nat → Nat → Int32 → Int32 → Int32 → LWd → Option (Int32 × LWd)) (a0 : Nat) (a1 : Nat) (a2 : Nat) (i3 : Int32) (i4 : Int32) (i5 : Int32) (s0 : Int32) (ws : LWd) : Option (Int32 × LWd) :=
  if s0 ≤ i4 then
    m_L_level_b63 k6 a0 a1 a2 i3 i5 i4 ws
  else
    m_L_level_b63 k6 a0 a1 a2 i3 i5 s0 ws
set_option maxRecDepth 100000 in
set_option maxHeartbeats 4000000 in
theorem jm_L_level_b47 {n0 : Nat} {rr : Int32} {ws' : LWd} {k6 : Nat → Nat → Nat → Int32 → Int32 → Int32 → LWd → Option (Int32 × LWd)} (hk6 : ∀ (a0 : Nat) (a1 : Nat) (a2 : Nat) (i3 : Int32) (i4 : Int32) (i5 : Int32) (ws : LWd), k6 a0 a1 a2 i3 i4 i5 ws = some (rr, ws') → JG (.inl false) cL_level 7 RL wsL_level (some .int) "level" 1 0 0 n0 (.inl (some (.int rr)), ws') 6 [some (.ref a0), some (.ref a1), some (.ref a2), some (.int i3), some (.int i4), some (.int i5), none] [] ws 0 0) (a0 : Nat) (a1 : Nat) (a2 : Nat) (i3 : Int32) (i4 : Int32) (i5 : Int32) (s0 : Int32) (ws : LWd) (h : m_L_level_b47 k6 a0 a1 a2 i3 i4 i5 s0 ws = some (rr, ws')) : JG (.inl false) cL_level 7 RL wsL_level (some .int) "level" 1 0 0 n0 (.inl (some (.int rr)), ws') 47 [some (.ref a0), some (.ref a1), some (.ref a2), some (.int i3), some (.int i4), some (.int i5), none] [.int s0] ws 0 0 := by
  unfold m_L_level_b47 at h
  refine j_istore_6 (pc := 47) dL_level_47 (by decide) rfl ?_
  refine j_iload (pc := 49) dL_level_49 rfl ?_
  refine j_iload (pc := 51) dL_level_51 rfl ?_
  refine j_icmp_le (pc := 53) (tgt := 61) dL_level_53 (by decide) (fun c1 => ?_) (fun c1 => ?_)
  · rw [if_pos c1] at h
    refine j_iload (pc := 61) dL_level_61 rfl ?_
    refine j_mask [true, true, true, true, false, true, false] ?_
    exact jm_L_level_b63 (hk6 := hk6) _ _ _ _ _ _ ws h
  · rw [if_neg c1] at h
    refine j_iload (pc := 56) dL_level_56 rfl ?_
    refine j_goto (pc := 58) (tgt := 63) dL_level_58 (by decide) ?_
    refine j_mask [true, true, true, true, false, true, false] ?_
    exact jm_L_level_b63 (hk6 := hk6) _ _ _ _ _ _ ws h
def m_L_level_l6 : Nat → Nat → Nat → Nat → Int32 → Int32 → Int32 → LWd → Option (Int32 × LWd)
  | 0, _, _, _, _, _, _, _ => none
  | fu + 1, a0, a1, a2, i3, i4, i5, ws =>
    if 6 ≤ i5 then
      some (i4, ws)
    else
      if ((i3 >>> (i5 &&& 31)) &&& 1) = 1 then
        (aI ws a2 i5).bind fun x3 =>
        (aI ws a1 i5).bind fun x5 =>
        bn2 (calSR ws (m_L_four a0 ((400 + (20 * x3)) + x5) ws)) fun x9 w7 =>
        m_L_level_b47 (fun z0 z1 z2 z3 z4 z5 w => m_L_level_l6 fu z0 z1 z2 z3 z4 z5 w) a0 a1 a2 i3 i4 i5 x9 w7
      else
        m_L_level_b47 (fun z0 z1 z2 z3 z4 z5 w => m_L_level_l6 fu z0 z1 z2 z3 z4 z5 w) a0 a1 a2 i3 i4 i5 0 ws
set_option maxRecDepth 100000 in
set_option maxHeartbeats 4000000 in
theorem jm_L_level_l6 {n0 : Nat} {rr : Int32} {ws' : LWd} : ∀ (fu : Nat) (a0 : Nat) (a1 : Nat) (a2 : Nat) (i3 : Int32) (i4 : Int32) (i5 : Int32) (ws : LWd), m_L_level_l6 fu a0 a1 a2 i3 i4 i5 ws = some (rr, ws') → JG (.inl false) cL_level 7 RL wsL_level (some .int) "level" 1 0 0 n0 (.inl (some (.int rr)), ws') 6 [some (.ref a0), some (.ref a1), some (.ref a2), some (.int i3), some (.int i4), some (.int i5), none] [] ws 0 0 := by
  intro fu
  induction fu with
  | zero => intro a0 a1 a2 i3 i4 i5 ws h; first | (cases h; done) | (rw [m_L_level_l6] at h; cases h)
  | succ fu ih =>
    intro a0 a1 a2 i3 i4 i5 ws h
    rw [m_L_level_l6] at h
    refine j_iload (pc := 6) dL_level_6 rfl ?_
    refine j_bipush (pc := 8) dL_level_8 (v := 6) (by decide) ?_
    refine j_icmp_ge (pc := 10) (tgt := 71) dL_level_10 (by decide) (fun c1 => ?_) (fun c1 => ?_)
    · rw [if_pos c1] at h
      refine j_iload (pc := 71) dL_level_71 rfl ?_
      obtain ⟨rfl, rfl⟩ := jretS h
      exact j_iret (pc := 73) rfl dL_level_73 (by decide) (by decide) rfl
    · rw [if_neg c1] at h
      refine j_iload_n (pc := 13) dL_level_13 rfl ?_
      refine j_iload (pc := 14) dL_level_14 rfl ?_
      refine j_ishr (pc := 16) dL_level_16 ?_
      refine j_iconst (pc := 17) dL_level_17 (v := 1) (by decide) ?_
      refine j_iand (pc := 18) dL_level_18 ?_
      refine j_iconst (pc := 19) dL_level_19 (v := 1) (by decide) ?_
      refine j_icmp_ne (pc := 20) (tgt := 46) dL_level_20 (by decide) (fun c2 => ?_) (fun c2 => ?_)
      · rw [if_neg c2] at h
        refine j_iconst (pc := 46) dL_level_46 (v := 0) (by decide) ?_
        exact jm_L_level_b47 (hk6 := ih) _ _ _ _ _ _ _ ws h
      · rw [if_pos c2] at h
        refine j_aload_n (pc := 23) dL_level_23 rfl ?_
        refine j_sipush (pc := 24) dL_level_24 (v := 400) (by decide) ?_
        refine j_bipush (pc := 27) dL_level_27 (v := 20) (by decide) ?_
        refine j_aload_n (pc := 29) dL_level_29 rfl ?_
        refine j_iload (pc := 30) dL_level_30 rfl ?_
        obtain ⟨x3, e4, h⟩ := obS h
        refine j_iald (pc := 32) dL_level_32 e4 ?_
        refine j_imul (pc := 33) dL_level_33 ?_
        refine j_iadd (pc := 34) dL_level_34 ?_
        refine j_aload_n (pc := 35) dL_level_35 rfl ?_
        refine j_iload (pc := 36) dL_level_36 rfl ?_
        obtain ⟨x5, e6, h⟩ := obS h
        refine j_iald (pc := 38) dL_level_38 e6 ?_
        refine j_iadd (pc := 39) dL_level_39 ?_
        obtain ⟨x9, w7, e8, h⟩ := obS2 h
        have ge8 := calSR_of e8
        refine j_callS_g (pc := 40) (As := [.ref a0, .int ((400 + (20 * x3)) + x5)]) (k' := 0) (n' := 0) dL_level_40 (s_L_four ge8.1) (jgS lw_605 lw_606 lw_597 lw_604) rfl hy_L_four rfl (by decide) (by decide) (Nat.le_of_ble_eq_true rfl) (by decide) (by decide) (by decide) (by decide) (Or.inl ge8.2) ?_
        refine j_goto (pc := 43) (tgt := 47) dL_level_43 (by decide) ?_
        exact jm_L_level_b47 (hk6 := ih) _ _ _ _ _ _ _ w7 h
def m_L_level (a0 : Nat) (a1 : Nat) (a2 : Nat) (i3 : Int32) (ws : LWd) : Option (Int32 × LWd) :=
  m_L_level_l6 FU a0 a1 a2 i3 0 0 ws
set_option maxRecDepth 100000 in
set_option maxHeartbeats 4000000 in
theorem s_L_level {a0 : Nat} {a1 : Nat} {a2 : Nat} {i3 : Int32} {ws : LWd} {rr : Int32} {ws' : LWd} (h : m_L_level a0 a1 a2 i3 ws = some (rr, ws')) : jSp yL_level wsL_level 1 0 0 [.ref a0, .ref a1, .ref a2, .int i3] ws (.inl (some (.int rr)), ws') := by
  unfold m_L_level at h
  refine j_entry (ret := (some .int)) (nm := "level") (own := RL) pl_L rfl rfl rfl (jcats (by rfl)) (Nat.le_of_ble_eq_true rfl) ?_
  show JG (.inl false) cL_level 7 RL wsL_level (some .int) "level" 1 0 0 ws.length (.inl (some (.int rr)), ws') 0 [some (.ref a0), some (.ref a1), some (.ref a2), some (.int i3), none, none, none] [] ws 0 0
  refine j_iconst (pc := 0) dL_level_0 (v := 0) (by decide) ?_
  refine j_istore_4 (pc := 1) dL_level_1 (by decide) rfl ?_
  refine j_iconst (pc := 3) dL_level_3 (v := 0) (by decide) ?_
  refine j_istore_5 (pc := 4) dL_level_4 (by decide) rfl ?_
  exact jm_L_level_l6 FU _ _ _ _ _ _ ws h
def wsL_breaks : List Cond := Cond.code yL_breaks cL_breaks 3 none :: jW
def m_L_breaks_b41 (a0 : Nat) (s0 : Nat) (s1 : Int32) (s2 : Int32) (ws : LWd) : Option LWd :=
  (sI ws s0 s1 s2).bind fun w1 =>
  (aI w1 a0 9).bind fun x3 =>
  (sI w1 a0 9 (x3 + 1)).bind fun w5 =>
  some w5
set_option maxRecDepth 100000 in
set_option maxHeartbeats 4000000 in
theorem jm_L_breaks_b41 {n0 : Nat} {ws' : LWd} (a0 : Nat) (s0 : Nat) (s1 : Int32) (s2 : Int32) (ws : LWd) (h : m_L_breaks_b41 a0 s0 s1 s2 ws = some ws') : JG (.inl false) cL_breaks 3 RL wsL_breaks none "breaks" 0 0 0 n0 (.inl none, ws') 41 [some (.ref a0), none, none] [.int s2, .int s1, .ref s0] ws 0 0 := by
  unfold m_L_breaks_b41 at h
  obtain ⟨w1, e2, h⟩ := obS h
  refine j_iast (pc := 41) dL_breaks_41 e2 ?_
  refine j_aload_n (pc := 42) dL_breaks_42 rfl ?_
  refine j_bipush (pc := 43) dL_breaks_43 (v := 9) (by decide) ?_
  refine j_dup2 (pc := 45) dL_breaks_45 rfl rfl ?_
  obtain ⟨x3, e4, h⟩ := obS h
  refine j_iald (pc := 46) dL_breaks_46 e4 ?_
  refine j_iconst (pc := 47) dL_breaks_47 (v := 1) (by decide) ?_
  refine j_iadd (pc := 48) dL_breaks_48 ?_
  obtain ⟨w5, e6, h⟩ := obS h
  refine j_iast (pc := 49) dL_breaks_49 e6 ?_
  cases h
  exact j_vret (pc := 50) rfl dL_breaks_50 (by decide) (by decide) rfl
def m_L_breaks_b22 (a0 : Nat) (i1 : Int32) (s0 : Nat) (s1 : Int32) (s2 : Int32) (ws : LWd) : Option LWd :=
  (sI ws s0 s1 s2).bind fun w1 =>
  (aI w1 a0 14).bind fun x3 =>
  if x3 = 0 then
    m_L_breaks_b41 a0 a0 14 i1 w1
  else
    (aI w1 a0 14).bind fun x6 =>
    m_L_breaks_b41 a0 a0 14 x6 w1
set_option maxRecDepth 100000 in
set_option maxHeartbeats 4000000 in
theorem jm_L_breaks_b22 {n0 : Nat} {ws' : LWd} (a0 : Nat) (i1 : Int32) (s0 : Nat) (s1 : Int32) (s2 : Int32) (ws : LWd) (h : m_L_breaks_b22 a0 i1 s0 s1 s2 ws = some ws') : JG (.inl false) cL_breaks 3 RL wsL_breaks none "breaks" 0 0 0 n0 (.inl none, ws') 22 [some (.ref a0), some (.int i1), none] [.int s2, .int s1, .ref s0] ws 0 0 := by
  unfold m_L_breaks_b22 at h
  obtain ⟨w1, e2, h⟩ := obS h
  refine j_iast (pc := 22) dL_breaks_22 e2 ?_
  refine j_aload_n (pc := 23) dL_breaks_23 rfl ?_
  refine j_bipush (pc := 24) dL_breaks_24 (v := 14) (by decide) ?_
  refine j_aload_n (pc := 26) dL_breaks_26 rfl ?_
  refine j_bipush (pc := 27) dL_breaks_27 (v := 14) (by decide) ?_
  obtain ⟨x3, e4, h⟩ := obS h
  refine j_iald (pc := 29) dL_breaks_29 e4 ?_
  refine j_if_ne (pc := 30) (tgt := 37) dL_breaks_30 (by decide) (fun c5 => ?_) (fun c5 => ?_)
  · rw [if_neg c5] at h
    refine j_aload_n (pc := 37) dL_breaks_37 rfl ?_
    refine j_bipush (pc := 38) dL_breaks_38 (v := 14) (by decide) ?_
    obtain ⟨x6, e7, h⟩ := obS h
    refine j_iald (pc := 40) dL_breaks_40 e7 ?_
    refine j_mask [true, false, false] ?_
    exact jm_L_breaks_b41 _ _ _ _ w1 h
  · rw [if_pos c5] at h
    refine j_iload_n (pc := 33) dL_breaks_33 rfl ?_
    refine j_goto (pc := 34) (tgt := 41) dL_breaks_34 (by decide) ?_
    refine j_mask [true, false, false] ?_
    exact jm_L_breaks_b41 _ _ _ _ w1 h
def m_L_breaks (a0 : Nat) (i1 : Int32) (i2 : Int32) (ws : LWd) : Option LWd :=
  (aI ws a0 9).bind fun x1 =>
  if x1 = 0 then
    m_L_breaks_b22 a0 i1 a0 10 (i1 + (4 * i2)) ws
  else
    (aI ws a0 10).bind fun x4 =>
    m_L_breaks_b22 a0 i1 a0 10 x4 ws
set_option maxRecDepth 100000 in
set_option maxHeartbeats 4000000 in
theorem s_L_breaks {a0 : Nat} {i1 : Int32} {i2 : Int32} {ws : LWd} {ws' : LWd} (h : m_L_breaks a0 i1 i2 ws = some ws') : jSp yL_breaks wsL_breaks 0 0 0 [.ref a0, .int i1, .int i2] ws (.inl none, ws') := by
  unfold m_L_breaks at h
  refine j_entry (ret := none) (nm := "breaks") (own := RL) pl_L rfl rfl rfl (jcats (by rfl)) (Nat.le_of_ble_eq_true rfl) ?_
  show JG (.inl false) cL_breaks 3 RL wsL_breaks none "breaks" 0 0 0 ws.length (.inl none, ws') 0 [some (.ref a0), some (.int i1), some (.int i2)] [] ws 0 0
  refine j_aload_n (pc := 0) dL_breaks_0 rfl ?_
  refine j_bipush (pc := 1) dL_breaks_1 (v := 10) (by decide) ?_
  refine j_aload_n (pc := 3) dL_breaks_3 rfl ?_
  refine j_bipush (pc := 4) dL_breaks_4 (v := 9) (by decide) ?_
  obtain ⟨x1, e2, h⟩ := obS h
  refine j_iald (pc := 6) dL_breaks_6 e2 ?_
  refine j_if_ne (pc := 7) (tgt := 18) dL_breaks_7 (by decide) (fun c3 => ?_) (fun c3 => ?_)
  · rw [if_neg c3] at h
    refine j_aload_n (pc := 18) dL_breaks_18 rfl ?_
    refine j_bipush (pc := 19) dL_breaks_19 (v := 10) (by decide) ?_
    obtain ⟨x4, e5, h⟩ := obS h
    refine j_iald (pc := 21) dL_breaks_21 e5 ?_
    refine j_mask [true, true, false] ?_
    exact jm_L_breaks_b22 _ _ _ _ _ ws h
  · rw [if_pos c3] at h
    refine j_iload_n (pc := 10) dL_breaks_10 rfl ?_
    refine j_iconst (pc := 11) dL_breaks_11 (v := 4) (by decide) ?_
    refine j_iload_n (pc := 12) dL_breaks_12 rfl ?_
    refine j_imul (pc := 13) dL_breaks_13 ?_
    refine j_iadd (pc := 14) dL_breaks_14 ?_
    refine j_goto (pc := 15) (tgt := 22) dL_breaks_15 (by decide) ?_
    refine j_mask [true, true, false] ?_
    exact jm_L_breaks_b22 _ _ _ _ _ ws h
def wsL_sinking : List Cond := Cond.code yL_sinking cL_sinking 7 (some .int) :: jW
def m_L_sinking_b59 (k6 : Nat → Nat → Nat → Nat → Int32 → Int32 → Int32 → LWd → Option (Int32 × LWd)) (a0 : Nat) (a1 : Nat) (a2 : Nat) (a3 : Nat) (i4 : Int32) (i6 : Int32) (s0 : Int32) (s1 : Int32) (ws : LWd) : Option (Int32 × LWd) :=
  k6 a0 a1 a2 a3 i4 (s0 + s1) (i6 + 1) ws
set_option maxRecDepth 100000 in
set_option maxHeartbeats 4000000 in
theorem jm_L_sinking_b59 {n0 : Nat} {rr : Int32} {ws' : LWd} {k6 : Nat → Nat → Nat → Nat → Int32 → Int32 → Int32 → LWd → Option (Int32 × LWd)} (hk6 : ∀ (a0 : Nat) (a1 : Nat) (a2 : Nat) (a3 : Nat) (i4 : Int32) (i5 : Int32) (i6 : Int32) (ws : LWd), k6 a0 a1 a2 a3 i4 i5 i6 ws = some (rr, ws') → JG (.inl false) cL_sinking 7 RL wsL_sinking (some .int) "sinking" 2 0 0 n0 (.inl (some (.int rr)), ws') 6 [some (.ref a0), some (.ref a1), some (.ref a2), some (.ref a3), some (.int i4), some (.int i5), some (.int i6)] [] ws 0 0) (a0 : Nat) (a1 : Nat) (a2 : Nat) (a3 : Nat) (i4 : Int32) (i6 : Int32) (s0 : Int32) (s1 : Int32) (ws : LWd) (h : m_L_sinking_b59 k6 a0 a1 a2 a3 i4 i6 s0 s1 ws = some (rr, ws')) : JG (.inl false) cL_sinking 7 RL wsL_sinking (some .int) "sinking" 2 0 0 n0 (.inl (some (.int rr)), ws') 59 [some (.ref a0), some (.ref a1), some (.ref a2), some (.ref a3), some (.int i4), none, some (.int i6)] [.int s1, .int s0] ws 0 0 := by
  unfold m_L_sinking_b59 at h
  refine j_iadd (pc := 59) dL_sinking_59 ?_
  refine j_istore_5 (pc := 60) dL_sinking_60 (by decide) rfl ?_
  refine j_iinc_6 (pc := 62) dL_sinking_62 (y := i6 + 1) rfl (by decide) rfl ?_
  refine j_goto (pc := 65) (tgt := 6) dL_sinking_65 (by decide) ?_
  exact hk6 _ _ _ _ _ _ _ ws h
def m_L_sinking_b58 (k6 : Nat → Nat → Nat → Nat → Int32 → Int32 → Int32 → LWd → Option (Int32 × LWd)) (a0 : Nat) (a1 : Nat) (a2 : Nat) (a3 : Nat) (i4 : Int32) (i6 : Int32) (s0 : Int32) (ws : LWd) : Option (Int32 × LWd) :=
  m_L_sinking_b59 k6 a0 a1 a2 a3 i4 i6 s0 0 ws
set_option maxRecDepth 100000 in
set_option maxHeartbeats 4000000 in
theorem jm_L_sinking_b58 {n0 : Nat} {rr : Int32} {ws' : LWd} {k6 : Nat → Nat → Nat → Nat → Int32 → Int32 → Int32 → LWd → Option (Int32 × LWd)} (hk6 : ∀ (a0 : Nat) (a1 : Nat) (a2 : Nat) (a3 : Nat) (i4 : Int32) (i5 : Int32) (i6 : Int32) (ws : LWd), k6 a0 a1 a2 a3 i4 i5 i6 ws = some (rr, ws') → JG (.inl false) cL_sinking 7 RL wsL_sinking (some .int) "sinking" 2 0 0 n0 (.inl (some (.int rr)), ws') 6 [some (.ref a0), some (.ref a1), some (.ref a2), some (.ref a3), some (.int i4), some (.int i5), some (.int i6)] [] ws 0 0) (a0 : Nat) (a1 : Nat) (a2 : Nat) (a3 : Nat) (i4 : Int32) (i6 : Int32) (s0 : Int32) (ws : LWd) (h : m_L_sinking_b58 k6 a0 a1 a2 a3 i4 i6 s0 ws = some (rr, ws')) : JG (.inl false) cL_sinking 7 RL wsL_sinking (some .int) "sinking" 2 0 0 n0 (.inl (some (.int rr)), ws') 58 [some (.ref a0), some (.ref a1), some (.ref a2), some (.ref a3), some (.int i4), none, some (.int i6)] [.int s0] ws 0 0 := by
  unfold m_L_sinking_b58 at h
  refine j_iconst (pc := 58) dL_sinking_58 (v := 0) (by decide) ?_
  exact jm_L_sinking_b59 (hk6 := hk6) _ _ _ _ _ _ _ _ ws h
def m_L_sinking_l6 : Nat → Nat → Nat → Nat → Nat → Int32 → Int32 → Int32 → LWd → Option (Int32 × LWd)
  | 0, _, _, _, _, _, _, _, _ => none
  | fu + 1, a0, a1, a2, a3, i4, i5, i6, ws =>
    if 6 ≤ i6 then
      some (i5, ws)
    else
      if ((i4 >>> (i6 &&& 31)) &&& 1) = 1 then
        (aI ws a2 i6).bind fun x3 =>
        (aI ws a1 i6).bind fun x5 =>
        bn2 (calSR ws (m_L_firm a0 ((20 * x3) + x5) ws)) fun x9 w7 =>
        bn2 (calSR w7 (m_L_pressure a3 i4 w7)) fun x12 w10 =>
        if x12 ≤ x9 then
          m_L_sinking_b58 (fun z0 z1 z2 z3 z4 z5 z6 w => m_L_sinking_l6 fu z0 z1 z2 z3 z4 z5 z6 w) a0 a1 a2 a3 i4 i6 i5 w10
        else
          m_L_sinking_b59 (fun z0 z1 z2 z3 z4 z5 z6 w => m_L_sinking_l6 fu z0 z1 z2 z3 z4 z5 z6 w) a0 a1 a2 a3 i4 i6 i5 (1 <<< (i6 &&& 31)) w10
      else
        m_L_sinking_b58 (fun z0 z1 z2 z3 z4 z5 z6 w => m_L_sinking_l6 fu z0 z1 z2 z3 z4 z5 z6 w) a0 a1 a2 a3 i4 i6 i5 ws
set_option maxRecDepth 100000 in
set_option maxHeartbeats 4000000 in
theorem jm_L_sinking_l6 {n0 : Nat} {rr : Int32} {ws' : LWd} : ∀ (fu : Nat) (a0 : Nat) (a1 : Nat) (a2 : Nat) (a3 : Nat) (i4 : Int32) (i5 : Int32) (i6 : Int32) (ws : LWd), m_L_sinking_l6 fu a0 a1 a2 a3 i4 i5 i6 ws = some (rr, ws') → JG (.inl false) cL_sinking 7 RL wsL_sinking (some .int) "sinking" 2 0 0 n0 (.inl (some (.int rr)), ws') 6 [some (.ref a0), some (.ref a1), some (.ref a2), some (.ref a3), some (.int i4), some (.int i5), some (.int i6)] [] ws 0 0 := by
  intro fu
  induction fu with
  | zero => intro a0 a1 a2 a3 i4 i5 i6 ws h; first | (cases h; done) | (rw [m_L_sinking_l6] at h; cases h)
  | succ fu ih =>
    intro a0 a1 a2 a3 i4 i5 i6 ws h
    rw [m_L_sinking_l6] at h
    refine j_iload (pc := 6) dL_sinking_6 rfl ?_
    refine j_bipush (pc := 8) dL_sinking_8 (v := 6) (by decide) ?_
    refine j_icmp_ge (pc := 10) (tgt := 68) dL_sinking_10 (by decide) (fun c1 => ?_) (fun c1 => ?_)
    · rw [if_pos c1] at h
      refine j_iload (pc := 68) dL_sinking_68 rfl ?_
      obtain ⟨rfl, rfl⟩ := jretS h
      exact j_iret (pc := 70) rfl dL_sinking_70 (by decide) (by decide) rfl
    · rw [if_neg c1] at h
      refine j_iload (pc := 13) dL_sinking_13 rfl ?_
      refine j_iload (pc := 15) dL_sinking_15 rfl ?_
      refine j_iload (pc := 17) dL_sinking_17 rfl ?_
      refine j_ishr (pc := 19) dL_sinking_19 ?_
      refine j_iconst (pc := 20) dL_sinking_20 (v := 1) (by decide) ?_
      refine j_iand (pc := 21) dL_sinking_21 ?_
      refine j_iconst (pc := 22) dL_sinking_22 (v := 1) (by decide) ?_
      refine j_icmp_ne (pc := 23) (tgt := 58) dL_sinking_23 (by decide) (fun c2 => ?_) (fun c2 => ?_)
      · rw [if_neg c2] at h
        refine j_mask [true, true, true, true, true, false, true] ?_
        exact jm_L_sinking_b58 (hk6 := ih) _ _ _ _ _ _ _ ws h
      · rw [if_pos c2] at h
        refine j_aload_n (pc := 26) dL_sinking_26 rfl ?_
        refine j_bipush (pc := 27) dL_sinking_27 (v := 20) (by decide) ?_
        refine j_aload_n (pc := 29) dL_sinking_29 rfl ?_
        refine j_iload (pc := 30) dL_sinking_30 rfl ?_
        obtain ⟨x3, e4, h⟩ := obS h
        refine j_iald (pc := 32) dL_sinking_32 e4 ?_
        refine j_imul (pc := 33) dL_sinking_33 ?_
        refine j_aload_n (pc := 34) dL_sinking_34 rfl ?_
        refine j_iload (pc := 35) dL_sinking_35 rfl ?_
        obtain ⟨x5, e6, h⟩ := obS h
        refine j_iald (pc := 37) dL_sinking_37 e6 ?_
        refine j_iadd (pc := 38) dL_sinking_38 ?_
        obtain ⟨x9, w7, e8, h⟩ := obS2 h
        have ge8 := calSR_of e8
        refine j_callS_g (pc := 39) (As := [.ref a0, .int ((20 * x3) + x5)]) (k' := 0) (n' := 0) dL_sinking_39 (s_L_firm ge8.1) (jgS lw_608 lw_609 lw_597 lw_607) rfl hy_L_firm rfl (by decide) (by decide) (Nat.le_of_ble_eq_true rfl) (by decide) (by decide) (by decide) (by decide) (Or.inl ge8.2) ?_
        refine j_aload_n (pc := 42) dL_sinking_42 rfl ?_
        refine j_iload (pc := 43) dL_sinking_43 rfl ?_
        obtain ⟨x12, w10, e11, h⟩ := obS2 h
        have ge11 := calSR_of e11
        refine j_callS_g (pc := 45) (As := [.ref a3, .int i4]) (k' := 0) (n' := 0) dL_sinking_45 (s_L_pressure ge11.1) (jgS lw_611 lw_612 lw_597 lw_610) rfl hy_L_pressure rfl (by decide) (by decide) (Nat.le_of_ble_eq_true rfl) (by decide) (by decide) (by decide) (by decide) (Or.inl ge11.2) ?_
        refine j_icmp_ge (pc := 48) (tgt := 58) dL_sinking_48 (by decide) (fun c13 => ?_) (fun c13 => ?_)
        · rw [if_pos c13] at h
          refine j_mask [true, true, true, true, true, false, true] ?_
          exact jm_L_sinking_b58 (hk6 := ih) _ _ _ _ _ _ _ w10 h
        · rw [if_neg c13] at h
          refine j_iconst (pc := 51) dL_sinking_51 (v := 1) (by decide) ?_
          refine j_iload (pc := 52) dL_sinking_52 rfl ?_
          refine j_ishl (pc := 54) dL_sinking_54 ?_
          refine j_goto (pc := 55) (tgt := 59) dL_sinking_55 (by decide) ?_
          refine j_mask [true, true, true, true, true, false, true] ?_
          exact jm_L_sinking_b59 (hk6 := ih) _ _ _ _ _ _ _ _ w10 h
def m_L_sinking (a0 : Nat) (a1 : Nat) (a2 : Nat) (a3 : Nat) (i4 : Int32) (ws : LWd) : Option (Int32 × LWd) :=
  m_L_sinking_l6 FU a0 a1 a2 a3 i4 0 0 ws
set_option maxRecDepth 100000 in
set_option maxHeartbeats 4000000 in
theorem s_L_sinking {a0 : Nat} {a1 : Nat} {a2 : Nat} {a3 : Nat} {i4 : Int32} {ws : LWd} {rr : Int32} {ws' : LWd} (h : m_L_sinking a0 a1 a2 a3 i4 ws = some (rr, ws')) : jSp yL_sinking wsL_sinking 2 0 0 [.ref a0, .ref a1, .ref a2, .ref a3, .int i4] ws (.inl (some (.int rr)), ws') := by
  unfold m_L_sinking at h
  refine j_entry (ret := (some .int)) (nm := "sinking") (own := RL) pl_L rfl rfl rfl (jcats (by rfl)) (Nat.le_of_ble_eq_true rfl) ?_
  show JG (.inl false) cL_sinking 7 RL wsL_sinking (some .int) "sinking" 2 0 0 ws.length (.inl (some (.int rr)), ws') 0 [some (.ref a0), some (.ref a1), some (.ref a2), some (.ref a3), some (.int i4), none, none] [] ws 0 0
  refine j_iconst (pc := 0) dL_sinking_0 (v := 0) (by decide) ?_
  refine j_istore_5 (pc := 1) dL_sinking_1 (by decide) rfl ?_
  refine j_iconst (pc := 3) dL_sinking_3 (v := 0) (by decide) ?_
  refine j_istore_6 (pc := 4) dL_sinking_4 (by decide) rfl ?_
  exact jm_L_sinking_l6 FU _ _ _ _ _ _ _ ws h
def wsL_settles : List Cond := Cond.code yL_settles cL_settles 11 none :: jW
def m_L_settles_b376 (a5 : Nat) (i10 : Int32) (s0 : Nat) (s1 : Int32) (ws : LWd) : Option LWd :=
  (aI ws a5 10).bind fun x1 =>
  (sI ws s0 s1 (i10 + (9 * x1))).bind fun w3 =>
  (aI w3 a5 11).bind fun x5 =>
  (sI w3 a5 11 (x5 + 1)).bind fun w7 =>
  (sI w7 a5 0 0).bind fun w9 =>
  (sI w9 a5 8 0).bind fun w11 =>
  some w11
set_option maxRecDepth 100000 in
set_option maxHeartbeats 4000000 in
theorem jm_L_settles_b376 {n0 : Nat} {ws' : LWd} (a5 : Nat) (i10 : Int32) (s0 : Nat) (s1 : Int32) (ws : LWd) (h : m_L_settles_b376 a5 i10 s0 s1 ws = some ws') : JG (.inl false) cL_settles 11 RL wsL_settles none "settles" 3 0 0 n0 (.inl none, ws') 376 [none, none, none, none, none, some (.ref a5), none, none, none, none, some (.int i10)] [.int s1, .ref s0] ws 0 0 := by
  unfold m_L_settles_b376 at h
  refine j_iload (pc := 376) dL_settles_376 rfl ?_
  refine j_bipush (pc := 378) dL_settles_378 (v := 9) (by decide) ?_
  refine j_aload (pc := 380) dL_settles_380 rfl ?_
  refine j_bipush (pc := 382) dL_settles_382 (v := 10) (by decide) ?_
  obtain ⟨x1, e2, h⟩ := obS h
  refine j_iald (pc := 384) dL_settles_384 e2 ?_
  refine j_imul (pc := 385) dL_settles_385 ?_
  refine j_iadd (pc := 386) dL_settles_386 ?_
  obtain ⟨w3, e4, h⟩ := obS h
  refine j_iast (pc := 387) dL_settles_387 e4 ?_
  refine j_aload (pc := 388) dL_settles_388 rfl ?_
  refine j_bipush (pc := 390) dL_settles_390 (v := 11) (by decide) ?_
  refine j_dup2 (pc := 392) dL_settles_392 rfl rfl ?_
  obtain ⟨x5, e6, h⟩ := obS h
  refine j_iald (pc := 393) dL_settles_393 e6 ?_
  refine j_iconst (pc := 394) dL_settles_394 (v := 1) (by decide) ?_
  refine j_iadd (pc := 395) dL_settles_395 ?_
  obtain ⟨w7, e8, h⟩ := obS h
  refine j_iast (pc := 396) dL_settles_396 e8 ?_
  refine j_aload (pc := 397) dL_settles_397 rfl ?_
  refine j_iconst (pc := 399) dL_settles_399 (v := 0) (by decide) ?_
  refine j_iconst (pc := 400) dL_settles_400 (v := 0) (by decide) ?_
  obtain ⟨w9, e10, h⟩ := obS h
  refine j_iast (pc := 401) dL_settles_401 e10 ?_
  refine j_aload (pc := 402) dL_settles_402 rfl ?_
  refine j_bipush (pc := 404) dL_settles_404 (v := 8) (by decide) ?_
  refine j_iconst (pc := 406) dL_settles_406 (v := 0) (by decide) ?_
  obtain ⟨w11, e12, h⟩ := obS h
  refine j_iast (pc := 407) dL_settles_407 e12 ?_
  cases h
  exact j_vret (pc := 408) rfl dL_settles_408 (by decide) (by decide) rfl
def m_L_settles_b351 (a4 : Nat) (a5 : Nat) (s0 : Int32) (s1 : Int32) (ws : LWd) : Option LWd :=
  (aI ws a5 11).bind fun x1 =>
  if 40 ≤ x1 then
    m_L_settles_b376 a5 (s0 + s1) a4 40 ws
  else
    (aI ws a5 11).bind fun x4 =>
    m_L_settles_b376 a5 (s0 + s1) a4 x4 ws
set_option maxRecDepth 100000 in
set_option maxHeartbeats 4000000 in
theorem jm_L_settles_b351 {n0 : Nat} {ws' : LWd} (a4 : Nat) (a5 : Nat) (s0 : Int32) (s1 : Int32) (ws : LWd) (h : m_L_settles_b351 a4 a5 s0 s1 ws = some ws') : JG (.inl false) cL_settles 11 RL wsL_settles none "settles" 3 0 0 n0 (.inl none, ws') 351 [none, none, none, none, some (.ref a4), some (.ref a5), none, none, none, none, none] [.int s1, .int s0] ws 0 0 := by
  unfold m_L_settles_b351 at h
  refine j_iadd (pc := 351) dL_settles_351 ?_
  refine j_istore_10 (pc := 352) dL_settles_352 (by decide) rfl ?_
  refine j_aload (pc := 354) dL_settles_354 rfl ?_
  refine j_aload (pc := 356) dL_settles_356 rfl ?_
  refine j_bipush (pc := 358) dL_settles_358 (v := 11) (by decide) ?_
  obtain ⟨x1, e2, h⟩ := obS h
  refine j_iald (pc := 360) dL_settles_360 e2 ?_
  refine j_bipush (pc := 361) dL_settles_361 (v := 40) (by decide) ?_
  refine j_icmp_ge (pc := 363) (tgt := 374) dL_settles_363 (by decide) (fun c3 => ?_) (fun c3 => ?_)
  · rw [if_pos c3] at h
    refine j_bipush (pc := 374) dL_settles_374 (v := 40) (by decide) ?_
    refine j_mask [false, false, false, false, false, true, false, false, false, false, true] ?_
    exact jm_L_settles_b376 _ _ _ _ ws h
  · rw [if_neg c3] at h
    refine j_aload (pc := 366) dL_settles_366 rfl ?_
    refine j_bipush (pc := 368) dL_settles_368 (v := 11) (by decide) ?_
    obtain ⟨x4, e5, h⟩ := obS h
    refine j_iald (pc := 370) dL_settles_370 e5 ?_
    refine j_goto (pc := 371) (tgt := 376) dL_settles_371 (by decide) ?_
    refine j_mask [false, false, false, false, false, true, false, false, false, false, true] ?_
    exact jm_L_settles_b376 _ _ _ _ ws h
def m_L_settles_b332 (a4 : Nat) (a5 : Nat) (i9 : Int32) (s0 : Int32) (ws : LWd) : Option LWd :=
  if i9 ≤ 0 then
    if 0 ≤ i9 then
      m_L_settles_b351 a4 a5 s0 1 ws
    else
      m_L_settles_b351 a4 a5 s0 0 ws
  else
    m_L_settles_b351 a4 a5 s0 2 ws
set_option maxRecDepth 100000 in
set_option maxHeartbeats 4000000 in
theorem jm_L_settles_b332 {n0 : Nat} {ws' : LWd} (a4 : Nat) (a5 : Nat) (i9 : Int32) (s0 : Int32) (ws : LWd) (h : m_L_settles_b332 a4 a5 i9 s0 ws = some ws') : JG (.inl false) cL_settles 11 RL wsL_settles none "settles" 3 0 0 n0 (.inl none, ws') 332 [none, none, none, none, some (.ref a4), some (.ref a5), none, none, none, some (.int i9), none] [.int s0] ws 0 0 := by
  unfold m_L_settles_b332 at h
  refine j_iload (pc := 332) dL_settles_332 rfl ?_
  refine j_if_le (pc := 334) (tgt := 341) dL_settles_334 (by decide) (fun c1 => ?_) (fun c1 => ?_)
  · rw [if_pos c1] at h
    refine j_iload (pc := 341) dL_settles_341 rfl ?_
    refine j_if_ge (pc := 343) (tgt := 350) dL_settles_343 (by decide) (fun c2 => ?_) (fun c2 => ?_)
    · rw [if_pos c2] at h
      refine j_iconst (pc := 350) dL_settles_350 (v := 1) (by decide) ?_
      refine j_mask [false, false, false, false, true, true, false, false, false, false, false] ?_
      exact jm_L_settles_b351 _ _ _ _ ws h
    · rw [if_neg c2] at h
      refine j_iconst (pc := 346) dL_settles_346 (v := 0) (by decide) ?_
      refine j_goto (pc := 347) (tgt := 351) dL_settles_347 (by decide) ?_
      refine j_mask [false, false, false, false, true, true, false, false, false, false, false] ?_
      exact jm_L_settles_b351 _ _ _ _ ws h
  · rw [if_neg c1] at h
    refine j_iconst (pc := 337) dL_settles_337 (v := 2) (by decide) ?_
    refine j_goto (pc := 338) (tgt := 351) dL_settles_338 (by decide) ?_
    refine j_mask [false, false, false, false, true, true, false, false, false, false, false] ?_
    exact jm_L_settles_b351 _ _ _ _ ws h
def m_L_settles_l243 : Nat → Nat → Nat → Nat → Nat → Int32 → Int32 → Int32 → LWd → Option LWd
  | 0, _, _, _, _, _, _, _, _ => none
  | fu + 1, a2, a3, a4, a5, i8, i9, i10, ws =>
    if 6 ≤ i10 then
      if i8 ≤ 0 then
        if 0 ≤ i8 then
          m_L_settles_b332 a4 a5 i9 3 ws
        else
          m_L_settles_b332 a4 a5 i9 0 ws
      else
        m_L_settles_b332 a4 a5 i9 6 ws
    else
      (aI ws a5 8).bind fun x4 =>
      (aI ws a5 4).bind fun x6 =>
      (aI ws a2 i10).bind fun x8 =>
      (aI ws a5 8).bind fun x10 =>
      (aI ws a5 4).bind fun x12 =>
      (aI ws a3 i10).bind fun x14 =>
      m_L_settles_l243 fu a2 a3 a4 a5 (i8 - ((((x4 >>> (i10 &&& 31)) &&& 1) * (10 + x6)) * x8)) (i9 - ((((x10 >>> (i10 &&& 31)) &&& 1) * (10 + x12)) * x14)) (i10 + 1) ws
set_option maxRecDepth 100000 in
set_option maxHeartbeats 4000000 in
theorem jm_L_settles_l243 {n0 : Nat} {ws' : LWd} : ∀ (fu : Nat) (a2 : Nat) (a3 : Nat) (a4 : Nat) (a5 : Nat) (i8 : Int32) (i9 : Int32) (i10 : Int32) (ws : LWd), m_L_settles_l243 fu a2 a3 a4 a5 i8 i9 i10 ws = some ws' → JG (.inl false) cL_settles 11 RL wsL_settles none "settles" 3 0 0 n0 (.inl none, ws') 243 [none, none, some (.ref a2), some (.ref a3), some (.ref a4), some (.ref a5), none, none, some (.int i8), some (.int i9), some (.int i10)] [] ws 0 0 := by
  intro fu
  induction fu with
  | zero => intro a2 a3 a4 a5 i8 i9 i10 ws h; first | (cases h; done) | (rw [m_L_settles_l243] at h; cases h)
  | succ fu ih =>
    intro a2 a3 a4 a5 i8 i9 i10 ws h
    rw [m_L_settles_l243] at h
    refine j_iload (pc := 243) dL_settles_243 rfl ?_
    refine j_bipush (pc := 245) dL_settles_245 (v := 6) (by decide) ?_
    refine j_icmp_ge (pc := 247) (tgt := 312) dL_settles_247 (by decide) (fun c1 => ?_) (fun c1 => ?_)
    · rw [if_pos c1] at h
      refine j_iload (pc := 312) dL_settles_312 rfl ?_
      refine j_if_le (pc := 314) (tgt := 322) dL_settles_314 (by decide) (fun c2 => ?_) (fun c2 => ?_)
      · rw [if_pos c2] at h
        refine j_iload (pc := 322) dL_settles_322 rfl ?_
        refine j_if_ge (pc := 324) (tgt := 331) dL_settles_324 (by decide) (fun c3 => ?_) (fun c3 => ?_)
        · rw [if_pos c3] at h
          refine j_iconst (pc := 331) dL_settles_331 (v := 3) (by decide) ?_
          refine j_mask [false, false, false, false, true, true, false, false, false, true, false] ?_
          exact jm_L_settles_b332 _ _ _ _ ws h
        · rw [if_neg c3] at h
          refine j_iconst (pc := 327) dL_settles_327 (v := 0) (by decide) ?_
          refine j_goto (pc := 328) (tgt := 332) dL_settles_328 (by decide) ?_
          refine j_mask [false, false, false, false, true, true, false, false, false, true, false] ?_
          exact jm_L_settles_b332 _ _ _ _ ws h
      · rw [if_neg c2] at h
        refine j_bipush (pc := 317) dL_settles_317 (v := 6) (by decide) ?_
        refine j_goto (pc := 319) (tgt := 332) dL_settles_319 (by decide) ?_
        refine j_mask [false, false, false, false, true, true, false, false, false, true, false] ?_
        exact jm_L_settles_b332 _ _ _ _ ws h
    · rw [if_neg c1] at h
      refine j_iload (pc := 250) dL_settles_250 rfl ?_
      refine j_aload (pc := 252) dL_settles_252 rfl ?_
      refine j_bipush (pc := 254) dL_settles_254 (v := 8) (by decide) ?_
      obtain ⟨x4, e5, h⟩ := obS h
      refine j_iald (pc := 256) dL_settles_256 e5 ?_
      refine j_iload (pc := 257) dL_settles_257 rfl ?_
      refine j_ishr (pc := 259) dL_settles_259 ?_
      refine j_iconst (pc := 260) dL_settles_260 (v := 1) (by decide) ?_
      refine j_iand (pc := 261) dL_settles_261 ?_
      refine j_bipush (pc := 262) dL_settles_262 (v := 10) (by decide) ?_
      refine j_aload (pc := 264) dL_settles_264 rfl ?_
      refine j_iconst (pc := 266) dL_settles_266 (v := 4) (by decide) ?_
      obtain ⟨x6, e7, h⟩ := obS h
      refine j_iald (pc := 267) dL_settles_267 e7 ?_
      refine j_iadd (pc := 268) dL_settles_268 ?_
      refine j_imul (pc := 269) dL_settles_269 ?_
      refine j_aload_n (pc := 270) dL_settles_270 rfl ?_
      refine j_iload (pc := 271) dL_settles_271 rfl ?_
      obtain ⟨x8, e9, h⟩ := obS h
      refine j_iald (pc := 273) dL_settles_273 e9 ?_
      refine j_imul (pc := 274) dL_settles_274 ?_
      refine j_isub (pc := 275) dL_settles_275 ?_
      refine j_istore_8 (pc := 276) dL_settles_276 (by decide) rfl ?_
      refine j_iload (pc := 278) dL_settles_278 rfl ?_
      refine j_aload (pc := 280) dL_settles_280 rfl ?_
      refine j_bipush (pc := 282) dL_settles_282 (v := 8) (by decide) ?_
      obtain ⟨x10, e11, h⟩ := obS h
      refine j_iald (pc := 284) dL_settles_284 e11 ?_
      refine j_iload (pc := 285) dL_settles_285 rfl ?_
      refine j_ishr (pc := 287) dL_settles_287 ?_
      refine j_iconst (pc := 288) dL_settles_288 (v := 1) (by decide) ?_
      refine j_iand (pc := 289) dL_settles_289 ?_
      refine j_bipush (pc := 290) dL_settles_290 (v := 10) (by decide) ?_
      refine j_aload (pc := 292) dL_settles_292 rfl ?_
      refine j_iconst (pc := 294) dL_settles_294 (v := 4) (by decide) ?_
      obtain ⟨x12, e13, h⟩ := obS h
      refine j_iald (pc := 295) dL_settles_295 e13 ?_
      refine j_iadd (pc := 296) dL_settles_296 ?_
      refine j_imul (pc := 297) dL_settles_297 ?_
      refine j_aload_n (pc := 298) dL_settles_298 rfl ?_
      refine j_iload (pc := 299) dL_settles_299 rfl ?_
      obtain ⟨x14, e15, h⟩ := obS h
      refine j_iald (pc := 301) dL_settles_301 e15 ?_
      refine j_imul (pc := 302) dL_settles_302 ?_
      refine j_isub (pc := 303) dL_settles_303 ?_
      refine j_istore_9 (pc := 304) dL_settles_304 (by decide) rfl ?_
      refine j_iinc_10 (pc := 306) dL_settles_306 (y := i10 + 1) rfl (by decide) rfl ?_
      refine j_goto (pc := 309) (tgt := 243) dL_settles_309 (by decide) ?_
      exact ih _ _ _ _ _ _ _ ws h
def m_L_settles_b118 (k27 : Nat → Nat → Nat → Nat → Nat → Nat → Int32 → LWd → Option LWd) (k35 : Nat → Nat → Nat → Nat → Nat → Nat → Int32 → Int32 → LWd → Option LWd) (a0 : Nat) (a1 : Nat) (a2 : Nat) (a3 : Nat) (a4 : Nat) (a5 : Nat) (i6 : Int32) (i7 : Int32) (ws : LWd) : Option LWd :=
  k35 a0 a1 a2 a3 a4 a5 i6 (i7 + 1) ws
set_option maxRecDepth 100000 in
set_option maxHeartbeats 4000000 in
theorem jm_L_settles_b118 {n0 : Nat} {ws' : LWd} {k27 : Nat → Nat → Nat → Nat → Nat → Nat → Int32 → LWd → Option LWd} {k35 : Nat → Nat → Nat → Nat → Nat → Nat → Int32 → Int32 → LWd → Option LWd} (hk27 : ∀ (a0 : Nat) (a1 : Nat) (a2 : Nat) (a3 : Nat) (a4 : Nat) (a5 : Nat) (i6 : Int32) (ws : LWd), k27 a0 a1 a2 a3 a4 a5 i6 ws = some ws' → JG (.inl false) cL_settles 11 RL wsL_settles none "settles" 3 0 0 n0 (.inl none, ws') 27 [some (.ref a0), some (.ref a1), some (.ref a2), some (.ref a3), some (.ref a4), some (.ref a5), some (.int i6), none, none, none, none] [] ws 0 0) (hk35 : ∀ (a0 : Nat) (a1 : Nat) (a2 : Nat) (a3 : Nat) (a4 : Nat) (a5 : Nat) (i6 : Int32) (i7 : Int32) (ws : LWd), k35 a0 a1 a2 a3 a4 a5 i6 i7 ws = some ws' → JG (.inl false) cL_settles 11 RL wsL_settles none "settles" 3 0 0 n0 (.inl none, ws') 35 [some (.ref a0), some (.ref a1), some (.ref a2), some (.ref a3), some (.ref a4), some (.ref a5), some (.int i6), some (.int i7), none, none, none] [] ws 0 0) (a0 : Nat) (a1 : Nat) (a2 : Nat) (a3 : Nat) (a4 : Nat) (a5 : Nat) (i6 : Int32) (i7 : Int32) (ws : LWd) (h : m_L_settles_b118 k27 k35 a0 a1 a2 a3 a4 a5 i6 i7 ws = some ws') : JG (.inl false) cL_settles 11 RL wsL_settles none "settles" 3 0 0 n0 (.inl none, ws') 118 [some (.ref a0), some (.ref a1), some (.ref a2), some (.ref a3), some (.ref a4), some (.ref a5), some (.int i6), some (.int i7), none, none, none] [] ws 0 0 := by
  unfold m_L_settles_b118 at h
  refine j_iinc_7 (pc := 118) dL_settles_118 (y := i7 + 1) rfl (by decide) rfl ?_
  refine j_goto (pc := 121) (tgt := 35) dL_settles_121 (by decide) ?_
  exact hk35 _ _ _ _ _ _ _ _ ws h
def m_L_settles_b88 (k27 : Nat → Nat → Nat → Nat → Nat → Nat → Int32 → LWd → Option LWd) (k35 : Nat → Nat → Nat → Nat → Nat → Nat → Int32 → Int32 → LWd → Option LWd) (a0 : Nat) (a1 : Nat) (a2 : Nat) (a3 : Nat) (a4 : Nat) (a5 : Nat) (i6 : Int32) (i7 : Int32) (i8 : Int32) (s0 : Int32) (ws : LWd) : Option LWd :=
  (calSV ws (m_L_sets a0 i8 s0 ws)).bind fun w1 =>
  (calSV w1 (m_L_sets a0 (400 + i8) s0 w1)).bind fun w3 =>
  (calSV w3 (m_L_breaks a5 2 i8 w3)).bind fun w5 =>
  m_L_settles_b118 k27 k35 a0 a1 a2 a3 a4 a5 i6 i7 w5
set_option maxRecDepth 100000 in
set_option maxHeartbeats 4000000 in
theorem jm_L_settles_b88 {n0 : Nat} {ws' : LWd} {k27 : Nat → Nat → Nat → Nat → Nat → Nat → Int32 → LWd → Option LWd} {k35 : Nat → Nat → Nat → Nat → Nat → Nat → Int32 → Int32 → LWd → Option LWd} (hk27 : ∀ (a0 : Nat) (a1 : Nat) (a2 : Nat) (a3 : Nat) (a4 : Nat) (a5 : Nat) (i6 : Int32) (ws : LWd), k27 a0 a1 a2 a3 a4 a5 i6 ws = some ws' → JG (.inl false) cL_settles 11 RL wsL_settles none "settles" 3 0 0 n0 (.inl none, ws') 27 [some (.ref a0), some (.ref a1), some (.ref a2), some (.ref a3), some (.ref a4), some (.ref a5), some (.int i6), none, none, none, none] [] ws 0 0) (hk35 : ∀ (a0 : Nat) (a1 : Nat) (a2 : Nat) (a3 : Nat) (a4 : Nat) (a5 : Nat) (i6 : Int32) (i7 : Int32) (ws : LWd), k35 a0 a1 a2 a3 a4 a5 i6 i7 ws = some ws' → JG (.inl false) cL_settles 11 RL wsL_settles none "settles" 3 0 0 n0 (.inl none, ws') 35 [some (.ref a0), some (.ref a1), some (.ref a2), some (.ref a3), some (.ref a4), some (.ref a5), some (.int i6), some (.int i7), none, none, none] [] ws 0 0) (a0 : Nat) (a1 : Nat) (a2 : Nat) (a3 : Nat) (a4 : Nat) (a5 : Nat) (i6 : Int32) (i7 : Int32) (i8 : Int32) (s0 : Int32) (ws : LWd) (h : m_L_settles_b88 k27 k35 a0 a1 a2 a3 a4 a5 i6 i7 i8 s0 ws = some ws') : JG (.inl false) cL_settles 11 RL wsL_settles none "settles" 3 0 0 n0 (.inl none, ws') 88 [some (.ref a0), some (.ref a1), some (.ref a2), some (.ref a3), some (.ref a4), some (.ref a5), some (.int i6), some (.int i7), some (.int i8), none, none] [.int s0] ws 0 0 := by
  unfold m_L_settles_b88 at h
  refine j_istore_9 (pc := 88) dL_settles_88 (by decide) rfl ?_
  refine j_aload_n (pc := 90) dL_settles_90 rfl ?_
  refine j_iload (pc := 91) dL_settles_91 rfl ?_
  refine j_iload (pc := 93) dL_settles_93 rfl ?_
  obtain ⟨w1, e2, h⟩ := obS h
  have ge2 := calSV_of e2
  refine j_callS_g (pc := 95) (As := [.ref a0, .int i8, .int s0]) (k' := 0) (n' := 0) dL_settles_95 (s_L_sets ge2.1) (jgS lw_614 lw_615 lw_597 lw_613) rfl hy_L_sets rfl (by decide) (by decide) (Nat.le_of_ble_eq_true rfl) (by decide) (by decide) (by decide) (by decide) (Or.inl ge2.2) ?_
  refine j_aload_n (pc := 98) dL_settles_98 rfl ?_
  refine j_sipush (pc := 99) dL_settles_99 (v := 400) (by decide) ?_
  refine j_iload (pc := 102) dL_settles_102 rfl ?_
  refine j_iadd (pc := 104) dL_settles_104 ?_
  refine j_iload (pc := 105) dL_settles_105 rfl ?_
  obtain ⟨w3, e4, h⟩ := obS h
  have ge4 := calSV_of e4
  refine j_callS_g (pc := 107) (As := [.ref a0, .int (400 + i8), .int s0]) (k' := 0) (n' := 0) dL_settles_107 (s_L_sets ge4.1) (jgS lw_614 lw_615 lw_597 lw_613) rfl hy_L_sets rfl (by decide) (by decide) (Nat.le_of_ble_eq_true rfl) (by decide) (by decide) (by decide) (by decide) (Or.inl ge4.2) ?_
  refine j_aload (pc := 110) dL_settles_110 rfl ?_
  refine j_iconst (pc := 112) dL_settles_112 (v := 2) (by decide) ?_
  refine j_iload (pc := 113) dL_settles_113 rfl ?_
  obtain ⟨w5, e6, h⟩ := obS h
  have ge6 := calSV_of e6
  refine j_callS_g (pc := 115) (As := [.ref a5, .int 2, .int i8]) (k' := 0) (n' := 0) dL_settles_115 (s_L_breaks ge6.1) (jgS lw_617 lw_618 lw_597 lw_616) rfl hy_L_breaks rfl (by decide) (by decide) (Nat.le_of_ble_eq_true rfl) (by decide) (by decide) (by decide) (by decide) (Or.inl ge6.2) ?_
  refine j_mask [true, true, true, true, true, true, true, true, false, false, false] ?_
  exact jm_L_settles_b118 (hk27 := hk27) (hk35 := hk35) _ _ _ _ _ _ _ _ w5 h
def m_L_settles_l35 (k27 : Nat → Nat → Nat → Nat → Nat → Nat → Int32 → LWd → Option LWd) : Nat → Nat → Nat → Nat → Nat → Nat → Nat → Int32 → Int32 → LWd → Option LWd
  | 0, _, _, _, _, _, _, _, _, _ => none
  | fu + 1, a0, a1, a2, a3, a4, a5, i6, i7, ws =>
    if 6 ≤ i7 then
      (aI ws a5 8).bind fun x2 =>
      (sI ws a5 8 (x2 - i6)).bind fun w4 =>
      (aI w4 a5 8).bind fun x6 =>
      bn2 (calSR w4 (m_L_sinking a1 a2 a3 a5 x6 w4)) fun x10 w8 =>
      k27 a0 a1 a2 a3 a4 a5 x10 w8
    else
      if ((i6 >>> (i7 &&& 31)) &&& 1) = 1 then
        (aI ws a3 i7).bind fun x12 =>
        (aI ws a2 i7).bind fun x14 =>
        bn2 (calSR ws (m_L_four a0 ((20 * x12) + x14) ws)) fun x18 w16 =>
        if x18 = 0 then
          m_L_settles_b88 k27 (fun z0 z1 z2 z3 z4 z5 z6 z7 w => m_L_settles_l35 k27 fu z0 z1 z2 z3 z4 z5 z6 z7 w) a0 a1 a2 a3 a4 a5 i6 i7 ((20 * x12) + x14) 0 w16
        else
          bn2 (calSR w16 (m_L_four a0 ((20 * x12) + x14) w16)) fun x22 w20 =>
          m_L_settles_b88 k27 (fun z0 z1 z2 z3 z4 z5 z6 z7 w => m_L_settles_l35 k27 fu z0 z1 z2 z3 z4 z5 z6 z7 w) a0 a1 a2 a3 a4 a5 i6 i7 ((20 * x12) + x14) (x22 - 1) w20
      else
        m_L_settles_b118 k27 (fun z0 z1 z2 z3 z4 z5 z6 z7 w => m_L_settles_l35 k27 fu z0 z1 z2 z3 z4 z5 z6 z7 w) a0 a1 a2 a3 a4 a5 i6 i7 ws
set_option maxRecDepth 100000 in
set_option maxHeartbeats 4000000 in
theorem jm_L_settles_l35 {n0 : Nat} {ws' : LWd} {k27 : Nat → Nat → Nat → Nat → Nat → Nat → Int32 → LWd → Option LWd} (hk27 : ∀ (a0 : Nat) (a1 : Nat) (a2 : Nat) (a3 : Nat) (a4 : Nat) (a5 : Nat) (i6 : Int32) (ws : LWd), k27 a0 a1 a2 a3 a4 a5 i6 ws = some ws' → JG (.inl false) cL_settles 11 RL wsL_settles none "settles" 3 0 0 n0 (.inl none, ws') 27 [some (.ref a0), some (.ref a1), some (.ref a2), some (.ref a3), some (.ref a4), some (.ref a5), some (.int i6), none, none, none, none] [] ws 0 0) : ∀ (fu : Nat) (a0 : Nat) (a1 : Nat) (a2 : Nat) (a3 : Nat) (a4 : Nat) (a5 : Nat) (i6 : Int32) (i7 : Int32) (ws : LWd), m_L_settles_l35 k27 fu a0 a1 a2 a3 a4 a5 i6 i7 ws = some ws' → JG (.inl false) cL_settles 11 RL wsL_settles none "settles" 3 0 0 n0 (.inl none, ws') 35 [some (.ref a0), some (.ref a1), some (.ref a2), some (.ref a3), some (.ref a4), some (.ref a5), some (.int i6), some (.int i7), none, none, none] [] ws 0 0 := by
  intro fu
  induction fu with
  | zero => intro a0 a1 a2 a3 a4 a5 i6 i7 ws h; first | (cases h; done) | (rw [m_L_settles_l35] at h; cases h)
  | succ fu ih =>
    intro a0 a1 a2 a3 a4 a5 i6 i7 ws h
    rw [m_L_settles_l35] at h
    refine j_iload (pc := 35) dL_settles_35 rfl ?_
    refine j_bipush (pc := 37) dL_settles_37 (v := 6) (by decide) ?_
    refine j_icmp_ge (pc := 39) (tgt := 124) dL_settles_39 (by decide) (fun c1 => ?_) (fun c1 => ?_)
    · rw [if_pos c1] at h
      refine j_aload (pc := 124) dL_settles_124 rfl ?_
      refine j_bipush (pc := 126) dL_settles_126 (v := 8) (by decide) ?_
      refine j_dup2 (pc := 128) dL_settles_128 rfl rfl ?_
      obtain ⟨x2, e3, h⟩ := obS h
      refine j_iald (pc := 129) dL_settles_129 e3 ?_
      refine j_iload (pc := 130) dL_settles_130 rfl ?_
      refine j_isub (pc := 132) dL_settles_132 ?_
      obtain ⟨w4, e5, h⟩ := obS h
      refine j_iast (pc := 133) dL_settles_133 e5 ?_
      refine j_aload_n (pc := 134) dL_settles_134 rfl ?_
      refine j_aload_n (pc := 135) dL_settles_135 rfl ?_
      refine j_aload_n (pc := 136) dL_settles_136 rfl ?_
      refine j_aload (pc := 137) dL_settles_137 rfl ?_
      refine j_aload (pc := 139) dL_settles_139 rfl ?_
      refine j_bipush (pc := 141) dL_settles_141 (v := 8) (by decide) ?_
      obtain ⟨x6, e7, h⟩ := obS h
      refine j_iald (pc := 143) dL_settles_143 e7 ?_
      obtain ⟨x10, w8, e9, h⟩ := obS2 h
      have ge9 := calSR_of e9
      refine j_callS_g (pc := 144) (As := [.ref a1, .ref a2, .ref a3, .ref a5, .int x6]) (k' := 0) (n' := 0) dL_settles_144 (s_L_sinking ge9.1) (jgS lw_620 lw_621 lw_597 lw_619) rfl hy_L_sinking rfl (by decide) (by decide) (Nat.le_of_ble_eq_true rfl) (by decide) (by decide) (by decide) (by decide) (Or.inl ge9.2) ?_
      refine j_istore_6 (pc := 147) dL_settles_147 (by decide) rfl ?_
      refine j_goto (pc := 149) (tgt := 27) dL_settles_149 (by decide) ?_
      refine j_mask [true, true, true, true, true, true, true, false, false, false, false] ?_
      exact hk27 _ _ _ _ _ _ _ w8 h
    · rw [if_neg c1] at h
      refine j_iload (pc := 42) dL_settles_42 rfl ?_
      refine j_iload (pc := 44) dL_settles_44 rfl ?_
      refine j_ishr (pc := 46) dL_settles_46 ?_
      refine j_iconst (pc := 47) dL_settles_47 (v := 1) (by decide) ?_
      refine j_iand (pc := 48) dL_settles_48 ?_
      refine j_iconst (pc := 49) dL_settles_49 (v := 1) (by decide) ?_
      refine j_icmp_ne (pc := 50) (tgt := 118) dL_settles_50 (by decide) (fun c11 => ?_) (fun c11 => ?_)
      · rw [if_neg c11] at h
        exact jm_L_settles_b118 (hk27 := hk27) (hk35 := ih) _ _ _ _ _ _ _ _ ws h
      · rw [if_pos c11] at h
        refine j_bipush (pc := 53) dL_settles_53 (v := 20) (by decide) ?_
        refine j_aload_n (pc := 55) dL_settles_55 rfl ?_
        refine j_iload (pc := 56) dL_settles_56 rfl ?_
        obtain ⟨x12, e13, h⟩ := obS h
        refine j_iald (pc := 58) dL_settles_58 e13 ?_
        refine j_imul (pc := 59) dL_settles_59 ?_
        refine j_aload_n (pc := 60) dL_settles_60 rfl ?_
        refine j_iload (pc := 61) dL_settles_61 rfl ?_
        obtain ⟨x14, e15, h⟩ := obS h
        refine j_iald (pc := 63) dL_settles_63 e15 ?_
        refine j_iadd (pc := 64) dL_settles_64 ?_
        refine j_istore_8 (pc := 65) dL_settles_65 (by decide) rfl ?_
        refine j_aload_n (pc := 67) dL_settles_67 rfl ?_
        refine j_iload (pc := 68) dL_settles_68 rfl ?_
        obtain ⟨x18, w16, e17, h⟩ := obS2 h
        have ge17 := calSR_of e17
        refine j_callS_g (pc := 70) (As := [.ref a0, .int ((20 * x12) + x14)]) (k' := 0) (n' := 0) dL_settles_70 (s_L_four ge17.1) (jgS lw_605 lw_606 lw_597 lw_604) rfl hy_L_four rfl (by decide) (by decide) (Nat.le_of_ble_eq_true rfl) (by decide) (by decide) (by decide) (by decide) (Or.inl ge17.2) ?_
        refine j_if_ne (pc := 73) (tgt := 80) dL_settles_73 (by decide) (fun c19 => ?_) (fun c19 => ?_)
        · rw [if_neg c19] at h
          refine j_aload_n (pc := 80) dL_settles_80 rfl ?_
          refine j_iload (pc := 81) dL_settles_81 rfl ?_
          obtain ⟨x22, w20, e21, h⟩ := obS2 h
          have ge21 := calSR_of e21
          refine j_callS_g (pc := 83) (As := [.ref a0, .int ((20 * x12) + x14)]) (k' := 0) (n' := 0) dL_settles_83 (s_L_four ge21.1) (jgS lw_605 lw_606 lw_597 lw_604) rfl hy_L_four rfl (by decide) (by decide) (Nat.le_of_ble_eq_true rfl) (by decide) (by decide) (by decide) (by decide) (Or.inl ge21.2) ?_
          refine j_iconst (pc := 86) dL_settles_86 (v := 1) (by decide) ?_
          refine j_isub (pc := 87) dL_settles_87 ?_
          exact jm_L_settles_b88 (hk27 := hk27) (hk35 := ih) _ _ _ _ _ _ _ _ _ _ w20 h
        · rw [if_pos c19] at h
          refine j_iconst (pc := 76) dL_settles_76 (v := 0) (by decide) ?_
          refine j_goto (pc := 77) (tgt := 88) dL_settles_77 (by decide) ?_
          exact jm_L_settles_b88 (hk27 := hk27) (hk35 := ih) _ _ _ _ _ _ _ _ _ _ w16 h
def m_L_settles_l27 : Nat → Nat → Nat → Nat → Nat → Nat → Nat → Int32 → LWd → Option LWd
  | 0, _, _, _, _, _, _, _, _ => none
  | fu + 1, a0, a1, a2, a3, a4, a5, i6, ws =>
    if i6 ≤ 0 then
      (aI ws a5 0).bind fun x2 =>
      if x2 = 1 then
        (aI ws a5 8).bind fun x5 =>
        bn2 (calSR ws (m_L_holds a2 a3 a5 x5 ws)) fun x9 w7 =>
        if x9 = 0 then
          (aI w7 a5 8).bind fun x11 =>
          bn2 (calSR w7 (m_L_many x11 w7)) fun x15 w13 =>
          (aI w13 a5 4).bind fun x16 =>
          (aI w13 a5 1).bind fun x18 =>
          (aI w13 a5 4).bind fun x20 =>
          (aI w13 a5 5).bind fun x22 =>
          (aI w13 a5 4).bind fun x24 =>
          (aI w13 a5 2).bind fun x26 =>
          (aI w13 a5 4).bind fun x28 =>
          (aI w13 a5 6).bind fun x30 =>
          m_L_settles_l243 FU a2 a3 a4 a5 (x15 * (((10 + x16) * x18) + (x20 * x22))) (x15 * (((10 + x24) * x26) + (x28 * x30))) 0 w13
        else
          some w7
      else
        some ws
    else
      m_L_settles_l35 (fun z0 z1 z2 z3 z4 z5 z6 w => m_L_settles_l27 fu z0 z1 z2 z3 z4 z5 z6 w) FU a0 a1 a2 a3 a4 a5 i6 0 ws
set_option maxRecDepth 100000 in
set_option maxHeartbeats 4000000 in
theorem jm_L_settles_l27 {n0 : Nat} {ws' : LWd} : ∀ (fu : Nat) (a0 : Nat) (a1 : Nat) (a2 : Nat) (a3 : Nat) (a4 : Nat) (a5 : Nat) (i6 : Int32) (ws : LWd), m_L_settles_l27 fu a0 a1 a2 a3 a4 a5 i6 ws = some ws' → JG (.inl false) cL_settles 11 RL wsL_settles none "settles" 3 0 0 n0 (.inl none, ws') 27 [some (.ref a0), some (.ref a1), some (.ref a2), some (.ref a3), some (.ref a4), some (.ref a5), some (.int i6), none, none, none, none] [] ws 0 0 := by
  intro fu
  induction fu with
  | zero => intro a0 a1 a2 a3 a4 a5 i6 ws h; first | (cases h; done) | (rw [m_L_settles_l27] at h; cases h)
  | succ fu ih =>
    intro a0 a1 a2 a3 a4 a5 i6 ws h
    rw [m_L_settles_l27] at h
    refine j_iload (pc := 27) dL_settles_27 rfl ?_
    refine j_if_le (pc := 29) (tgt := 152) dL_settles_29 (by decide) (fun c1 => ?_) (fun c1 => ?_)
    · rw [if_pos c1] at h
      refine j_aload (pc := 152) dL_settles_152 rfl ?_
      refine j_iconst (pc := 154) dL_settles_154 (v := 0) (by decide) ?_
      obtain ⟨x2, e3, h⟩ := obS h
      refine j_iald (pc := 155) dL_settles_155 e3 ?_
      refine j_iconst (pc := 156) dL_settles_156 (v := 1) (by decide) ?_
      refine j_icmp_ne (pc := 157) (tgt := 408) dL_settles_157 (by decide) (fun c4 => ?_) (fun c4 => ?_)
      · rw [if_neg c4] at h
        cases h
        exact j_vret (pc := 408) rfl dL_settles_408 (by decide) (by decide) rfl
      · rw [if_pos c4] at h
        refine j_aload_n (pc := 160) dL_settles_160 rfl ?_
        refine j_aload_n (pc := 161) dL_settles_161 rfl ?_
        refine j_aload (pc := 162) dL_settles_162 rfl ?_
        refine j_aload (pc := 164) dL_settles_164 rfl ?_
        refine j_bipush (pc := 166) dL_settles_166 (v := 8) (by decide) ?_
        obtain ⟨x5, e6, h⟩ := obS h
        refine j_iald (pc := 168) dL_settles_168 e6 ?_
        obtain ⟨x9, w7, e8, h⟩ := obS2 h
        have ge8 := calSR_of e8
        refine j_callS_g (pc := 169) (As := [.ref a2, .ref a3, .ref a5, .int x5]) (k' := 0) (n' := 0) dL_settles_169 (s_L_holds ge8.1) (jgS lw_623 lw_624 lw_597 lw_622) rfl hy_L_holds rfl (by decide) (by decide) (Nat.le_of_ble_eq_true rfl) (by decide) (by decide) (by decide) (by decide) (Or.inl ge8.2) ?_
        refine j_if_ne (pc := 172) (tgt := 408) dL_settles_172 (by decide) (fun c10 => ?_) (fun c10 => ?_)
        · rw [if_neg c10] at h
          cases h
          exact j_vret (pc := 408) rfl dL_settles_408 (by decide) (by decide) rfl
        · rw [if_pos c10] at h
          refine j_aload (pc := 175) dL_settles_175 rfl ?_
          refine j_bipush (pc := 177) dL_settles_177 (v := 8) (by decide) ?_
          obtain ⟨x11, e12, h⟩ := obS h
          refine j_iald (pc := 179) dL_settles_179 e12 ?_
          obtain ⟨x15, w13, e14, h⟩ := obS2 h
          have ge14 := calSR_of e14
          refine j_callS_g (pc := 180) (As := [.int x11]) (k' := 0) (n' := 0) dL_settles_180 (s_L_many ge14.1) (jgS lw_602 lw_603 lw_597 lw_601) rfl hy_L_many rfl (by decide) (by decide) (Nat.le_of_ble_eq_true rfl) (by decide) (by decide) (by decide) (by decide) (Or.inl ge14.2) ?_
          refine j_istore_7 (pc := 183) dL_settles_183 (by decide) rfl ?_
          refine j_iload (pc := 185) dL_settles_185 rfl ?_
          refine j_bipush (pc := 187) dL_settles_187 (v := 10) (by decide) ?_
          refine j_aload (pc := 189) dL_settles_189 rfl ?_
          refine j_iconst (pc := 191) dL_settles_191 (v := 4) (by decide) ?_
          obtain ⟨x16, e17, h⟩ := obS h
          refine j_iald (pc := 192) dL_settles_192 e17 ?_
          refine j_iadd (pc := 193) dL_settles_193 ?_
          refine j_aload (pc := 194) dL_settles_194 rfl ?_
          refine j_iconst (pc := 196) dL_settles_196 (v := 1) (by decide) ?_
          obtain ⟨x18, e19, h⟩ := obS h
          refine j_iald (pc := 197) dL_settles_197 e19 ?_
          refine j_imul (pc := 198) dL_settles_198 ?_
          refine j_aload (pc := 199) dL_settles_199 rfl ?_
          refine j_iconst (pc := 201) dL_settles_201 (v := 4) (by decide) ?_
          obtain ⟨x20, e21, h⟩ := obS h
          refine j_iald (pc := 202) dL_settles_202 e21 ?_
          refine j_aload (pc := 203) dL_settles_203 rfl ?_
          refine j_iconst (pc := 205) dL_settles_205 (v := 5) (by decide) ?_
          obtain ⟨x22, e23, h⟩ := obS h
          refine j_iald (pc := 206) dL_settles_206 e23 ?_
          refine j_imul (pc := 207) dL_settles_207 ?_
          refine j_iadd (pc := 208) dL_settles_208 ?_
          refine j_imul (pc := 209) dL_settles_209 ?_
          refine j_istore_8 (pc := 210) dL_settles_210 (by decide) rfl ?_
          refine j_iload (pc := 212) dL_settles_212 rfl ?_
          refine j_bipush (pc := 214) dL_settles_214 (v := 10) (by decide) ?_
          refine j_aload (pc := 216) dL_settles_216 rfl ?_
          refine j_iconst (pc := 218) dL_settles_218 (v := 4) (by decide) ?_
          obtain ⟨x24, e25, h⟩ := obS h
          refine j_iald (pc := 219) dL_settles_219 e25 ?_
          refine j_iadd (pc := 220) dL_settles_220 ?_
          refine j_aload (pc := 221) dL_settles_221 rfl ?_
          refine j_iconst (pc := 223) dL_settles_223 (v := 2) (by decide) ?_
          obtain ⟨x26, e27, h⟩ := obS h
          refine j_iald (pc := 224) dL_settles_224 e27 ?_
          refine j_imul (pc := 225) dL_settles_225 ?_
          refine j_aload (pc := 226) dL_settles_226 rfl ?_
          refine j_iconst (pc := 228) dL_settles_228 (v := 4) (by decide) ?_
          obtain ⟨x28, e29, h⟩ := obS h
          refine j_iald (pc := 229) dL_settles_229 e29 ?_
          refine j_aload (pc := 230) dL_settles_230 rfl ?_
          refine j_bipush (pc := 232) dL_settles_232 (v := 6) (by decide) ?_
          obtain ⟨x30, e31, h⟩ := obS h
          refine j_iald (pc := 234) dL_settles_234 e31 ?_
          refine j_imul (pc := 235) dL_settles_235 ?_
          refine j_iadd (pc := 236) dL_settles_236 ?_
          refine j_imul (pc := 237) dL_settles_237 ?_
          refine j_istore_9 (pc := 238) dL_settles_238 (by decide) rfl ?_
          refine j_iconst (pc := 240) dL_settles_240 (v := 0) (by decide) ?_
          refine j_istore_10 (pc := 241) dL_settles_241 (by decide) rfl ?_
          refine j_mask [false, false, true, true, true, true, false, false, true, true, true] ?_
          exact jm_L_settles_l243 FU _ _ _ _ _ _ _ w13 h
    · rw [if_neg c1] at h
      refine j_iconst (pc := 32) dL_settles_32 (v := 0) (by decide) ?_
      refine j_istore_7 (pc := 33) dL_settles_33 (by decide) rfl ?_
      exact jm_L_settles_l35 (hk27 := ih) FU _ _ _ _ _ _ _ _ ws h
def m_L_settles_b25 (a0 : Nat) (a1 : Nat) (a2 : Nat) (a3 : Nat) (a4 : Nat) (a5 : Nat) (s0 : Int32) (ws : LWd) : Option LWd :=
  m_L_settles_l27 FU a0 a1 a2 a3 a4 a5 s0 ws
set_option maxRecDepth 100000 in
set_option maxHeartbeats 4000000 in
theorem jm_L_settles_b25 {n0 : Nat} {ws' : LWd} (a0 : Nat) (a1 : Nat) (a2 : Nat) (a3 : Nat) (a4 : Nat) (a5 : Nat) (s0 : Int32) (ws : LWd) (h : m_L_settles_b25 a0 a1 a2 a3 a4 a5 s0 ws = some ws') : JG (.inl false) cL_settles 11 RL wsL_settles none "settles" 3 0 0 n0 (.inl none, ws') 25 [some (.ref a0), some (.ref a1), some (.ref a2), some (.ref a3), some (.ref a4), some (.ref a5), none, none, none, none, none] [.int s0] ws 0 0 := by
  unfold m_L_settles_b25 at h
  refine j_istore_6 (pc := 25) dL_settles_25 (by decide) rfl ?_
  exact jm_L_settles_l27 FU _ _ _ _ _ _ _ ws h
def m_L_settles (a0 : Nat) (a1 : Nat) (a2 : Nat) (a3 : Nat) (a4 : Nat) (a5 : Nat) (ws : LWd) : Option LWd :=
  (aI ws a5 0).bind fun x1 =>
  if x1 = 1 then
    (aI ws a5 8).bind fun x4 =>
    bn2 (calSR ws (m_L_sinking a1 a2 a3 a5 x4 ws)) fun x8 w6 =>
    m_L_settles_b25 a0 a1 a2 a3 a4 a5 x8 w6
  else
    m_L_settles_b25 a0 a1 a2 a3 a4 a5 0 ws
set_option maxRecDepth 100000 in
set_option maxHeartbeats 4000000 in
theorem s_L_settles {a0 : Nat} {a1 : Nat} {a2 : Nat} {a3 : Nat} {a4 : Nat} {a5 : Nat} {ws : LWd} {ws' : LWd} (h : m_L_settles a0 a1 a2 a3 a4 a5 ws = some ws') : jSp yL_settles wsL_settles 3 0 0 [.ref a0, .ref a1, .ref a2, .ref a3, .ref a4, .ref a5] ws (.inl none, ws') := by
  unfold m_L_settles at h
  refine j_entry (ret := none) (nm := "settles") (own := RL) pl_L rfl rfl rfl (jcats (by rfl)) (Nat.le_of_ble_eq_true rfl) ?_
  show JG (.inl false) cL_settles 11 RL wsL_settles none "settles" 3 0 0 ws.length (.inl none, ws') 0 [some (.ref a0), some (.ref a1), some (.ref a2), some (.ref a3), some (.ref a4), some (.ref a5), none, none, none, none, none] [] ws 0 0
  refine j_aload (pc := 0) dL_settles_0 rfl ?_
  refine j_iconst (pc := 2) dL_settles_2 (v := 0) (by decide) ?_
  obtain ⟨x1, e2, h⟩ := obS h
  refine j_iald (pc := 3) dL_settles_3 e2 ?_
  refine j_iconst (pc := 4) dL_settles_4 (v := 1) (by decide) ?_
  refine j_icmp_ne (pc := 5) (tgt := 24) dL_settles_5 (by decide) (fun c3 => ?_) (fun c3 => ?_)
  · rw [if_neg c3] at h
    refine j_iconst (pc := 24) dL_settles_24 (v := 0) (by decide) ?_
    exact jm_L_settles_b25 _ _ _ _ _ _ _ ws h
  · rw [if_pos c3] at h
    refine j_aload_n (pc := 8) dL_settles_8 rfl ?_
    refine j_aload_n (pc := 9) dL_settles_9 rfl ?_
    refine j_aload_n (pc := 10) dL_settles_10 rfl ?_
    refine j_aload (pc := 11) dL_settles_11 rfl ?_
    refine j_aload (pc := 13) dL_settles_13 rfl ?_
    refine j_bipush (pc := 15) dL_settles_15 (v := 8) (by decide) ?_
    obtain ⟨x4, e5, h⟩ := obS h
    refine j_iald (pc := 17) dL_settles_17 e5 ?_
    obtain ⟨x8, w6, e7, h⟩ := obS2 h
    have ge7 := calSR_of e7
    refine j_callS_g (pc := 18) (As := [.ref a1, .ref a2, .ref a3, .ref a5, .int x4]) (k' := 0) (n' := 0) dL_settles_18 (s_L_sinking ge7.1) (jgS lw_620 lw_621 lw_597 lw_619) rfl hy_L_sinking rfl (by decide) (by decide) (Nat.le_of_ble_eq_true rfl) (by decide) (by decide) (by decide) (by decide) (Or.inl ge7.2) ?_
    refine j_goto (pc := 21) (tgt := 25) dL_settles_21 (by decide) ?_
    exact jm_L_settles_b25 _ _ _ _ _ _ _ w6 h
