/-! methods: written by wip/p27/make.py -/
def wsX10_foot : List Cond := Cond.code yX10_foot cX10_foot 4 (some .int) :: jW
def m_X10_foot (a0 : Nat) (i1 : Int32) (i2 : Int32) (ws : LWd) : Option ((Int32 ⊕ String) × LWd) :=
  (rcv ws a0 10).bind fun _ =>
  bn2 (calSR ws (m_X10_isLeg a0 i1 ws)) fun x3 w1 =>
  if x3 = 0 then
    some (.inr "java/lang/IndexOutOfBoundsException", w1)
  else
    (fR w1 a0 10 2).bind fun x5 =>
    (fR w1 x5 9 3).bind fun x7 =>
    bn2 (calSR w1 (m_X8_at x7 i1 w1)) fun x11 w9 =>
    if i2 = 0 then
      if x11 = ((-1)) then
        some (.inl 0, w9)
      else
        some (.inl 1, w9)
    else
      if i2 = 1 then
        if x11 = ((-1)) then
          some (.inl ((-1)), w9)
        else
          bn2 (calSR w9 (m_X10_xOf x11 w9)) fun x18 w16 =>
          some (.inl x18, w16)
      else
        if i2 = 2 then
          if x11 = ((-1)) then
            some (.inl ((-1)), w9)
          else
            bn2 (calSR w9 (m_X10_yOf x11 w9)) fun x23 w21 =>
            some (.inl x23, w21)
        else
          some (.inr "java/lang/IllegalArgumentException", w9)
set_option maxRecDepth 100000 in
set_option maxHeartbeats 4000000 in
theorem s_X10_foot {a0 : Nat} {i1 : Int32} {i2 : Int32} {ws : LWd} {rr : Int32 ⊕ String} {ws' : LWd} (h : m_X10_foot a0 i1 i2 ws = some (rr, ws')) : jSX yX10_foot wsX10_foot 6 1 6 [.ref a0, .int i1, .int i2] ws (jthr rr, ws') := by
  unfold m_X10_foot at h
  refine j_entryX (ret := (some .int)) (nm := "foot") (own := RX10) pl_X10 rfl rfl rfl (jcats (by rfl)) (Nat.le_of_ble_eq_true rfl) ?_
  show JG (.inl true) cX10_foot 4 RX10 wsX10_foot (some .int) "foot" 6 1 6 ws.length (jthr rr, ws') 0 [some (.ref a0), some (.int i1), some (.int i2), none] [] ws 0 0
  obtain ⟨_, _, h⟩ := obS h
  refine j_aload_n (pc := 0) dX10_foot_0 rfl ?_
  refine j_iload_n (pc := 1) dX10_foot_1 rfl ?_
  obtain ⟨x3, w1, e2, h⟩ := obS2 h
  have ge2 := calSR_of e2
  have le2 := ge2.2
  refine j_callV_g (pc := 2) (As := [.int i1]) (k' := 0) (n' := 0) dX10_foot_2 (s_X10_isLeg ge2.1) (jgV lw_181 lw_182 lw_183 lw_147 lw_180) rfl hv_X10_isLeg rfl (r_X10_isLeg ge2.1) rfl (by decide) (by decide) (Nat.le_of_ble_eq_true rfl) (by decide) (by decide) (by decide) (by decide) (Or.inl ge2.2) ?_
  refine j_if_ne (pc := 5) (tgt := 18) dX10_foot_5 (by decide) (fun c4 => ?_) (fun c4 => ?_)
  · rw [if_neg c4] at h
    refine j_aload_n (pc := 18) dX10_foot_18 rfl ?_
    obtain ⟨x5, e6, h⟩ := obS h
    refine j_getR (pc := 19) dX10_foot_19 (ci := 10) (kf := 2) rfl (jwi hw_X10) (by decide) (jwm lw_103) e6 ?_
    obtain ⟨x7, e8, h⟩ := obS h
    refine j_getR (pc := 22) dX10_foot_22 (ci := 9) (kf := 3) rfl (jwi hw_X9) (by decide) (jwm lw_265) e8 ?_
    refine j_iload_n (pc := 25) dX10_foot_25 rfl ?_
    obtain ⟨x11, w9, e10, h⟩ := obS2 h
    have ge10 := calSR_of e10
    have le10 := ge10.2
    refine j_callV_g (pc := 26) (As := [.int i1]) (k' := 0) (n' := 0) dX10_foot_26 (s_X8_at ge10.1) (jgV lw_156 lw_140 lw_141 lw_12 lw_138) rfl hv_X8_at rfl (r_X8_at ge10.1) rfl (by decide) (by decide) (Nat.le_of_ble_eq_true rfl) (by decide) (by decide) (by decide) (by decide) (Or.inl ge10.2) ?_
    refine j_istore_n_3 (pc := 29) dX10_foot_29 (by decide) rfl ?_
    refine j_iload_n (pc := 30) dX10_foot_30 rfl ?_
    by_cases c12 : i2 = 0
    · rw [if_pos c12] at h
      refine j_tabEq (pc := 31) (tgt := 56) (a := 0) dX10_foot_31 c12 rfl (by decide) (by decide) rfl (by decide) ?_
      refine j_iload_n (pc := 56) dX10_foot_56 rfl ?_
      refine j_iconst (pc := 57) dX10_foot_57 (v := (-1)) (by decide) ?_
      refine j_icmp_ne (pc := 58) (tgt := 65) dX10_foot_58 (by decide) (fun c13 => ?_) (fun c13 => ?_)
      · rw [if_neg c13] at h
        refine j_iconst (pc := 65) dX10_foot_65 (v := 1) (by decide) ?_
        obtain ⟨rfl, rfl⟩ := jretS h
        exact j_iret (pc := 66) rfl dX10_foot_66 (by decide) (by decide) rfl
      · rw [if_pos c13] at h
        refine j_iconst (pc := 61) dX10_foot_61 (v := 0) (by decide) ?_
        refine j_goto (pc := 62) (tgt := 66) dX10_foot_62 (by decide) ?_
        obtain ⟨rfl, rfl⟩ := jretS h
        exact j_iret (pc := 66) rfl dX10_foot_66 (by decide) (by decide) rfl
    · rw [if_neg c12] at h
      by_cases c14 : i2 = 1
      · rw [if_pos c14] at h
        refine j_tabEq (pc := 31) (tgt := 67) (a := 1) dX10_foot_31 c14 rfl (by decide) (by decide) rfl (by decide) ?_
        refine j_iload_n (pc := 67) dX10_foot_67 rfl ?_
        refine j_iconst (pc := 68) dX10_foot_68 (v := (-1)) (by decide) ?_
        refine j_icmp_ne (pc := 69) (tgt := 76) dX10_foot_69 (by decide) (fun c15 => ?_) (fun c15 => ?_)
        · rw [if_neg c15] at h
          refine j_iload_n (pc := 76) dX10_foot_76 rfl ?_
          obtain ⟨x18, w16, e17, h⟩ := obS2 h
          have ge17 := calSR_of e17
          have le17 := ge17.2
          refine j_callS_g (pc := 77) (As := [.int x11]) (k' := 0) (n' := 0) dX10_foot_77 (s_X10_xOf ge17.1) (jgS lw_414 lw_280 lw_147 lw_279) rfl hy_X10_xOf rfl (by decide) (by decide) (Nat.le_of_ble_eq_true rfl) (by decide) (by decide) (by decide) (by decide) (Or.inl ge17.2) ?_
          obtain ⟨rfl, rfl⟩ := jretS h
          exact j_iret (pc := 80) rfl dX10_foot_80 (by decide) (by decide) rfl
        · rw [if_pos c15] at h
          refine j_iconst (pc := 72) dX10_foot_72 (v := (-1)) (by decide) ?_
          refine j_goto (pc := 73) (tgt := 80) dX10_foot_73 (by decide) ?_
          obtain ⟨rfl, rfl⟩ := jretS h
          exact j_iret (pc := 80) rfl dX10_foot_80 (by decide) (by decide) rfl
      · rw [if_neg c14] at h
        by_cases c19 : i2 = 2
        · rw [if_pos c19] at h
          refine j_tabEq (pc := 31) (tgt := 81) (a := 2) dX10_foot_31 c19 rfl (by decide) (by decide) rfl (by decide) ?_
          refine j_iload_n (pc := 81) dX10_foot_81 rfl ?_
          refine j_iconst (pc := 82) dX10_foot_82 (v := (-1)) (by decide) ?_
          refine j_icmp_ne (pc := 83) (tgt := 90) dX10_foot_83 (by decide) (fun c20 => ?_) (fun c20 => ?_)
          · rw [if_neg c20] at h
            refine j_iload_n (pc := 90) dX10_foot_90 rfl ?_
            obtain ⟨x23, w21, e22, h⟩ := obS2 h
            have ge22 := calSR_of e22
            have le22 := ge22.2
            refine j_callS_g (pc := 91) (As := [.int x11]) (k' := 0) (n' := 0) dX10_foot_91 (s_X10_yOf ge22.1) (jgS lw_416 lw_282 lw_147 lw_281) rfl hy_X10_yOf rfl (by decide) (by decide) (Nat.le_of_ble_eq_true rfl) (by decide) (by decide) (by decide) (by decide) (Or.inl ge22.2) ?_
            obtain ⟨rfl, rfl⟩ := jretS h
            exact j_iret (pc := 94) rfl dX10_foot_94 (by decide) (by decide) rfl
          · rw [if_pos c20] at h
            refine j_iconst (pc := 86) dX10_foot_86 (v := (-1)) (by decide) ?_
            refine j_goto (pc := 87) (tgt := 94) dX10_foot_87 (by decide) ?_
            obtain ⟨rfl, rfl⟩ := jretS h
            exact j_iret (pc := 94) rfl dX10_foot_94 (by decide) (by decide) rfl
        · rw [if_neg c19] at h
          refine j_tabOut (pc := 31) (tgt := 95) dX10_foot_31 (jout3 c12 c14 c19) (by decide) ?_
          obtain ⟨rfl, rfl⟩ := jretS h
          exact j_throw (pc := 95) (text := "no such thing to tell") rfl rfl dX10_foot_95 dX10_foot_98 dX10_foot_99 dX10_foot_101 dX10_foot_104 (List.mem_of_getElem? (i := 14) rfl) (List.mem_of_getElem? (i := 0) rfl) (jfit _ (List.mem_of_getElem? (i := 0) rfl)) (jwm lw_142) (jwm lw_143) (jwi hwx_93) jgo_93 (by decide) (Nat.le_of_ble_eq_true rfl) (by decide) (by decide) (by omega) rfl
  · rw [if_pos c4] at h
    obtain ⟨rfl, rfl⟩ := jretS h
    exact j_throw (pc := 8) (text := "no such leg") rfl rfl dX10_foot_8 dX10_foot_11 dX10_foot_12 dX10_foot_14 dX10_foot_17 (List.mem_of_getElem? (i := 6) rfl) (List.mem_of_getElem? (i := 2) rfl) (jfit _ (List.mem_of_getElem? (i := 2) rfl)) (jwm lw_189) (jwm lw_190) (jwi hwx_159) jgo_159 (by decide) (Nat.le_of_ble_eq_true rfl) (by decide) (by decide) (by omega) rfl
theorem r_X10_foot {a0 : Nat} {i1 : Int32} {i2 : Int32} {ws : LWd} {o : ((Int32 ⊕ String) × LWd)} (h : m_X10_foot a0 i1 i2 ws = some o) : ∃ fs, ws[a0]? = some (.inr (10, fs)) := rcv_in h
set_option maxRecDepth 100000 in
set_option maxHeartbeats 4000000 in
theorem sn_X10_foot {a0 : Nat} {i1 : Int32} {i2 : Int32} {ws : LWd} {rr : Int32} {ws' : LWd} (h : m_X10_foot a0 i1 i2 ws = some (.inl rr, ws')) : jSp yX10_foot wsX10_foot 6 0 0 [.ref a0, .int i1, .int i2] ws (.inl (some (.int rr)), ws') := by
  unfold m_X10_foot at h
  refine j_entry (ret := (some .int)) (nm := "foot") (own := RX10) pl_X10 rfl rfl rfl (jcats (by rfl)) (Nat.le_of_ble_eq_true rfl) ?_
  show JG (.inl false) cX10_foot 4 RX10 wsX10_foot (some .int) "foot" 6 0 0 ws.length (.inl (some (.int rr)), ws') 0 [some (.ref a0), some (.int i1), some (.int i2), none] [] ws 0 0
  obtain ⟨_, _, h⟩ := obS h
  refine j_aload_n (pc := 0) dX10_foot_0 rfl ?_
  refine j_iload_n (pc := 1) dX10_foot_1 rfl ?_
  obtain ⟨x3, w1, e2, h⟩ := obS2 h
  have ge2 := calSR_of e2
  have le2 := ge2.2
  refine j_callV_g (pc := 2) (As := [.int i1]) (k' := 0) (n' := 0) dX10_foot_2 (s_X10_isLeg ge2.1) (jgV lw_181 lw_182 lw_183 lw_147 lw_180) rfl hv_X10_isLeg rfl (r_X10_isLeg ge2.1) rfl (by decide) (by decide) (Nat.le_of_ble_eq_true rfl) (by decide) (by decide) (by decide) (by decide) (Or.inl ge2.2) ?_
  refine j_if_ne (pc := 5) (tgt := 18) dX10_foot_5 (by decide) (fun c4 => ?_) (fun c4 => ?_)
  · rw [if_neg c4] at h
    refine j_aload_n (pc := 18) dX10_foot_18 rfl ?_
    obtain ⟨x5, e6, h⟩ := obS h
    refine j_getR (pc := 19) dX10_foot_19 (ci := 10) (kf := 2) rfl (jwi hw_X10) (by decide) (jwm lw_103) e6 ?_
    obtain ⟨x7, e8, h⟩ := obS h
    refine j_getR (pc := 22) dX10_foot_22 (ci := 9) (kf := 3) rfl (jwi hw_X9) (by decide) (jwm lw_265) e8 ?_
    refine j_iload_n (pc := 25) dX10_foot_25 rfl ?_
    obtain ⟨x11, w9, e10, h⟩ := obS2 h
    have ge10 := calSR_of e10
    have le10 := ge10.2
    refine j_callV_g (pc := 26) (As := [.int i1]) (k' := 0) (n' := 0) dX10_foot_26 (s_X8_at ge10.1) (jgV lw_156 lw_140 lw_141 lw_12 lw_138) rfl hv_X8_at rfl (r_X8_at ge10.1) rfl (by decide) (by decide) (Nat.le_of_ble_eq_true rfl) (by decide) (by decide) (by decide) (by decide) (Or.inl ge10.2) ?_
    refine j_istore_n_3 (pc := 29) dX10_foot_29 (by decide) rfl ?_
    refine j_iload_n (pc := 30) dX10_foot_30 rfl ?_
    by_cases c12 : i2 = 0
    · rw [if_pos c12] at h
      refine j_tabEq (pc := 31) (tgt := 56) (a := 0) dX10_foot_31 c12 rfl (by decide) (by decide) rfl (by decide) ?_
      refine j_iload_n (pc := 56) dX10_foot_56 rfl ?_
      refine j_iconst (pc := 57) dX10_foot_57 (v := (-1)) (by decide) ?_
      refine j_icmp_ne (pc := 58) (tgt := 65) dX10_foot_58 (by decide) (fun c13 => ?_) (fun c13 => ?_)
      · rw [if_neg c13] at h
        refine j_iconst (pc := 65) dX10_foot_65 (v := 1) (by decide) ?_
        cases h
        exact j_iret (pc := 66) rfl dX10_foot_66 (by decide) (by decide) rfl
      · rw [if_pos c13] at h
        refine j_iconst (pc := 61) dX10_foot_61 (v := 0) (by decide) ?_
        refine j_goto (pc := 62) (tgt := 66) dX10_foot_62 (by decide) ?_
        cases h
        exact j_iret (pc := 66) rfl dX10_foot_66 (by decide) (by decide) rfl
    · rw [if_neg c12] at h
      by_cases c14 : i2 = 1
      · rw [if_pos c14] at h
        refine j_tabEq (pc := 31) (tgt := 67) (a := 1) dX10_foot_31 c14 rfl (by decide) (by decide) rfl (by decide) ?_
        refine j_iload_n (pc := 67) dX10_foot_67 rfl ?_
        refine j_iconst (pc := 68) dX10_foot_68 (v := (-1)) (by decide) ?_
        refine j_icmp_ne (pc := 69) (tgt := 76) dX10_foot_69 (by decide) (fun c15 => ?_) (fun c15 => ?_)
        · rw [if_neg c15] at h
          refine j_iload_n (pc := 76) dX10_foot_76 rfl ?_
          obtain ⟨x18, w16, e17, h⟩ := obS2 h
          have ge17 := calSR_of e17
          have le17 := ge17.2
          refine j_callS_g (pc := 77) (As := [.int x11]) (k' := 0) (n' := 0) dX10_foot_77 (s_X10_xOf ge17.1) (jgS lw_414 lw_280 lw_147 lw_279) rfl hy_X10_xOf rfl (by decide) (by decide) (Nat.le_of_ble_eq_true rfl) (by decide) (by decide) (by decide) (by decide) (Or.inl ge17.2) ?_
          cases h
          exact j_iret (pc := 80) rfl dX10_foot_80 (by decide) (by decide) rfl
        · rw [if_pos c15] at h
          refine j_iconst (pc := 72) dX10_foot_72 (v := (-1)) (by decide) ?_
          refine j_goto (pc := 73) (tgt := 80) dX10_foot_73 (by decide) ?_
          cases h
          exact j_iret (pc := 80) rfl dX10_foot_80 (by decide) (by decide) rfl
      · rw [if_neg c14] at h
        by_cases c19 : i2 = 2
        · rw [if_pos c19] at h
          refine j_tabEq (pc := 31) (tgt := 81) (a := 2) dX10_foot_31 c19 rfl (by decide) (by decide) rfl (by decide) ?_
          refine j_iload_n (pc := 81) dX10_foot_81 rfl ?_
          refine j_iconst (pc := 82) dX10_foot_82 (v := (-1)) (by decide) ?_
          refine j_icmp_ne (pc := 83) (tgt := 90) dX10_foot_83 (by decide) (fun c20 => ?_) (fun c20 => ?_)
          · rw [if_neg c20] at h
            refine j_iload_n (pc := 90) dX10_foot_90 rfl ?_
            obtain ⟨x23, w21, e22, h⟩ := obS2 h
            have ge22 := calSR_of e22
            have le22 := ge22.2
            refine j_callS_g (pc := 91) (As := [.int x11]) (k' := 0) (n' := 0) dX10_foot_91 (s_X10_yOf ge22.1) (jgS lw_416 lw_282 lw_147 lw_281) rfl hy_X10_yOf rfl (by decide) (by decide) (Nat.le_of_ble_eq_true rfl) (by decide) (by decide) (by decide) (by decide) (Or.inl ge22.2) ?_
            cases h
            exact j_iret (pc := 94) rfl dX10_foot_94 (by decide) (by decide) rfl
          · rw [if_pos c20] at h
            refine j_iconst (pc := 86) dX10_foot_86 (v := (-1)) (by decide) ?_
            refine j_goto (pc := 87) (tgt := 94) dX10_foot_87 (by decide) ?_
            cases h
            exact j_iret (pc := 94) rfl dX10_foot_94 (by decide) (by decide) rfl
        · rw [if_neg c19] at h
          refine j_tabOut (pc := 31) (tgt := 95) dX10_foot_31 (jout3 c12 c14 c19) (by decide) ?_
          cases h
  · rw [if_pos c4] at h
    cases h
def wsX10_point : List Cond := Cond.code yX10_point cX10_point 5 (some .int) :: jW
def m_X10_point (a0 : Nat) (i1 : Int32) (i2 : Int32) (i3 : Int32) (ws : LWd) : Option ((Int32 ⊕ String) × LWd) :=
  (rcv ws a0 10).bind fun _ =>
  bn2 (calSR ws (m_X10_pointAt i1 i2 ws)) fun x3 w1 =>
  if x3 = ((-1)) then
    some (.inr "java/lang/IllegalArgumentException", w1)
  else
    if i3 = 0 then
      (fR w1 a0 10 0).bind fun x6 =>
      (fR w1 x6 5 0).bind fun x8 =>
      bn2 (calSR w1 (m_X8_at x8 x3 w1)) fun x12 w10 =>
      some (.inl x12, w10)
    else
      if i3 = 1 then
        (fR w1 a0 10 0).bind fun x14 =>
        (fR w1 x14 5 1).bind fun x16 =>
        bn2 (calSR w1 (m_X8_at x16 x3 w1)) fun x20 w18 =>
        some (.inl x20, w18)
      else
        if i3 = 2 then
          (fR w1 a0 10 0).bind fun x22 =>
          (fR w1 x22 5 2).bind fun x24 =>
          bn2 (calSR w1 (m_X8_at x24 x3 w1)) fun x28 w26 =>
          some (.inl x28, w26)
        else
          if i3 = 3 then
            (fR w1 a0 10 0).bind fun x30 =>
            (fR w1 x30 5 3).bind fun x32 =>
            bn2 (calSR w1 (m_X8_at x32 x3 w1)) fun x36 w34 =>
            some (.inl x36, w34)
          else
            some (.inr "java/lang/IllegalArgumentException", w1)
set_option maxRecDepth 100000 in
set_option maxHeartbeats 4000000 in
theorem s_X10_point {a0 : Nat} {i1 : Int32} {i2 : Int32} {i3 : Int32} {ws : LWd} {rr : Int32 ⊕ String} {ws' : LWd} (h : m_X10_point a0 i1 i2 i3 ws = some (rr, ws')) : jSX yX10_point wsX10_point 6 1 6 [.ref a0, .int i1, .int i2, .int i3] ws (jthr rr, ws') := by
  unfold m_X10_point at h
  refine j_entryX (ret := (some .int)) (nm := "point") (own := RX10) pl_X10 rfl rfl rfl (jcats (by rfl)) (Nat.le_of_ble_eq_true rfl) ?_
  show JG (.inl true) cX10_point 5 RX10 wsX10_point (some .int) "point" 6 1 6 ws.length (jthr rr, ws') 0 [some (.ref a0), some (.int i1), some (.int i2), some (.int i3), none] [] ws 0 0
  obtain ⟨_, _, h⟩ := obS h
  refine j_iload_n (pc := 0) dX10_point_0 rfl ?_
  refine j_iload_n (pc := 1) dX10_point_1 rfl ?_
  obtain ⟨x3, w1, e2, h⟩ := obS2 h
  have ge2 := calSR_of e2
  have le2 := ge2.2
  refine j_callS_g (pc := 2) (As := [.int i1, .int i2]) (k' := 0) (n' := 0) dX10_point_2 (s_X10_pointAt ge2.1) (jgS lw_145 lw_146 lw_147 lw_144) rfl hy_X10_pointAt rfl (by decide) (by decide) (Nat.le_of_ble_eq_true rfl) (by decide) (by decide) (by decide) (by decide) (Or.inl ge2.2) ?_
  refine j_istore_4 (pc := 5) dX10_point_5 (by decide) rfl ?_
  refine j_iload (pc := 7) dX10_point_7 rfl ?_
  refine j_iconst (pc := 9) dX10_point_9 (v := (-1)) (by decide) ?_
  refine j_icmp_ne (pc := 10) (tgt := 23) dX10_point_10 (by decide) (fun c4 => ?_) (fun c4 => ?_)
  · rw [if_neg c4] at h
    refine j_iload_n (pc := 23) dX10_point_23 rfl ?_
    by_cases c5 : i3 = 0
    · rw [if_pos c5] at h
      refine j_tabEq (pc := 24) (tgt := 56) (a := 0) dX10_point_24 c5 rfl (by decide) (by decide) rfl (by decide) ?_
      refine j_aload_n (pc := 56) dX10_point_56 rfl ?_
      obtain ⟨x6, e7, h⟩ := obS h
      refine j_getR (pc := 57) dX10_point_57 (ci := 10) (kf := 0) rfl (jwi hw_X10) (by decide) (jwm lw_94) e7 ?_
      obtain ⟨x8, e9, h⟩ := obS h
      refine j_getR (pc := 60) dX10_point_60 (ci := 5) (kf := 0) rfl (jwi hw_X5) (by decide) (jwm lw_155) e9 ?_
      refine j_iload (pc := 63) dX10_point_63 rfl ?_
      obtain ⟨x12, w10, e11, h⟩ := obS2 h
      have ge11 := calSR_of e11
      have le11 := ge11.2
      refine j_callV_g (pc := 65) (As := [.int x3]) (k' := 0) (n' := 0) dX10_point_65 (s_X8_at ge11.1) (jgV lw_156 lw_140 lw_141 lw_12 lw_138) rfl hv_X8_at rfl (r_X8_at ge11.1) rfl (by decide) (by decide) (Nat.le_of_ble_eq_true rfl) (by decide) (by decide) (by decide) (by decide) (Or.inl ge11.2) ?_
      obtain ⟨rfl, rfl⟩ := jretS h
      exact j_iret (pc := 68) rfl dX10_point_68 (by decide) (by decide) rfl
    · rw [if_neg c5] at h
      by_cases c13 : i3 = 1
      · rw [if_pos c13] at h
        refine j_tabEq (pc := 24) (tgt := 69) (a := 1) dX10_point_24 c13 rfl (by decide) (by decide) rfl (by decide) ?_
        refine j_aload_n (pc := 69) dX10_point_69 rfl ?_
        obtain ⟨x14, e15, h⟩ := obS h
        refine j_getR (pc := 70) dX10_point_70 (ci := 10) (kf := 0) rfl (jwi hw_X10) (by decide) (jwm lw_94) e15 ?_
        obtain ⟨x16, e17, h⟩ := obS h
        refine j_getR (pc := 73) dX10_point_73 (ci := 5) (kf := 1) rfl (jwi hw_X5) (by decide) (jwm lw_161) e17 ?_
        refine j_iload (pc := 76) dX10_point_76 rfl ?_
        obtain ⟨x20, w18, e19, h⟩ := obS2 h
        have ge19 := calSR_of e19
        have le19 := ge19.2
        refine j_callV_g (pc := 78) (As := [.int x3]) (k' := 0) (n' := 0) dX10_point_78 (s_X8_at ge19.1) (jgV lw_156 lw_140 lw_141 lw_12 lw_138) rfl hv_X8_at rfl (r_X8_at ge19.1) rfl (by decide) (by decide) (Nat.le_of_ble_eq_true rfl) (by decide) (by decide) (by decide) (by decide) (Or.inl ge19.2) ?_
        obtain ⟨rfl, rfl⟩ := jretS h
        exact j_iret (pc := 81) rfl dX10_point_81 (by decide) (by decide) rfl
      · rw [if_neg c13] at h
        by_cases c21 : i3 = 2
        · rw [if_pos c21] at h
          refine j_tabEq (pc := 24) (tgt := 82) (a := 2) dX10_point_24 c21 rfl (by decide) (by decide) rfl (by decide) ?_
          refine j_aload_n (pc := 82) dX10_point_82 rfl ?_
          obtain ⟨x22, e23, h⟩ := obS h
          refine j_getR (pc := 83) dX10_point_83 (ci := 10) (kf := 0) rfl (jwi hw_X10) (by decide) (jwm lw_94) e23 ?_
          obtain ⟨x24, e25, h⟩ := obS h
          refine j_getR (pc := 86) dX10_point_86 (ci := 5) (kf := 2) rfl (jwi hw_X5) (by decide) (jwm lw_162) e25 ?_
          refine j_iload (pc := 89) dX10_point_89 rfl ?_
          obtain ⟨x28, w26, e27, h⟩ := obS2 h
          have ge27 := calSR_of e27
          have le27 := ge27.2
          refine j_callV_g (pc := 91) (As := [.int x3]) (k' := 0) (n' := 0) dX10_point_91 (s_X8_at ge27.1) (jgV lw_156 lw_140 lw_141 lw_12 lw_138) rfl hv_X8_at rfl (r_X8_at ge27.1) rfl (by decide) (by decide) (Nat.le_of_ble_eq_true rfl) (by decide) (by decide) (by decide) (by decide) (Or.inl ge27.2) ?_
          obtain ⟨rfl, rfl⟩ := jretS h
          exact j_iret (pc := 94) rfl dX10_point_94 (by decide) (by decide) rfl
        · rw [if_neg c21] at h
          by_cases c29 : i3 = 3
          · rw [if_pos c29] at h
            refine j_tabEq (pc := 24) (tgt := 95) (a := 3) dX10_point_24 c29 rfl (by decide) (by decide) rfl (by decide) ?_
            refine j_aload_n (pc := 95) dX10_point_95 rfl ?_
            obtain ⟨x30, e31, h⟩ := obS h
            refine j_getR (pc := 96) dX10_point_96 (ci := 10) (kf := 0) rfl (jwi hw_X10) (by decide) (jwm lw_94) e31 ?_
            obtain ⟨x32, e33, h⟩ := obS h
            refine j_getR (pc := 99) dX10_point_99 (ci := 5) (kf := 3) rfl (jwi hw_X5) (by decide) (jwm lw_165) e33 ?_
            refine j_iload (pc := 102) dX10_point_102 rfl ?_
            obtain ⟨x36, w34, e35, h⟩ := obS2 h
            have ge35 := calSR_of e35
            have le35 := ge35.2
            refine j_callV_g (pc := 104) (As := [.int x3]) (k' := 0) (n' := 0) dX10_point_104 (s_X8_at ge35.1) (jgV lw_156 lw_140 lw_141 lw_12 lw_138) rfl hv_X8_at rfl (r_X8_at ge35.1) rfl (by decide) (by decide) (Nat.le_of_ble_eq_true rfl) (by decide) (by decide) (by decide) (by decide) (Or.inl ge35.2) ?_
            obtain ⟨rfl, rfl⟩ := jretS h
            exact j_iret (pc := 107) rfl dX10_point_107 (by decide) (by decide) rfl
          · rw [if_neg c29] at h
            refine j_tabOut (pc := 24) (tgt := 108) dX10_point_24 (jout4 c5 c13 c21 c29) (by decide) ?_
            obtain ⟨rfl, rfl⟩ := jretS h
            exact j_throw (pc := 108) (text := "no such thing to tell") rfl rfl dX10_point_108 dX10_point_111 dX10_point_112 dX10_point_114 dX10_point_117 (List.mem_of_getElem? (i := 14) rfl) (List.mem_of_getElem? (i := 0) rfl) (jfit _ (List.mem_of_getElem? (i := 0) rfl)) (jwm lw_142) (jwm lw_143) (jwi hwx_93) jgo_93 (by decide) (Nat.le_of_ble_eq_true rfl) (by decide) (by decide) (by omega) rfl
  · rw [if_pos c4] at h
    obtain ⟨rfl, rfl⟩ := jretS h
    exact j_throw (pc := 13) (text := "no such point") rfl rfl dX10_point_13 dX10_point_16 dX10_point_17 dX10_point_19 dX10_point_22 (List.mem_of_getElem? (i := 11) rfl) (List.mem_of_getElem? (i := 0) rfl) (jfit _ (List.mem_of_getElem? (i := 0) rfl)) (jwm lw_142) (jwm lw_143) (jwi hwx_93) jgo_93 (by decide) (Nat.le_of_ble_eq_true rfl) (by decide) (by decide) (by omega) rfl
theorem r_X10_point {a0 : Nat} {i1 : Int32} {i2 : Int32} {i3 : Int32} {ws : LWd} {o : ((Int32 ⊕ String) × LWd)} (h : m_X10_point a0 i1 i2 i3 ws = some o) : ∃ fs, ws[a0]? = some (.inr (10, fs)) := rcv_in h
set_option maxRecDepth 100000 in
set_option maxHeartbeats 4000000 in
theorem sn_X10_point {a0 : Nat} {i1 : Int32} {i2 : Int32} {i3 : Int32} {ws : LWd} {rr : Int32} {ws' : LWd} (h : m_X10_point a0 i1 i2 i3 ws = some (.inl rr, ws')) : jSp yX10_point wsX10_point 6 0 0 [.ref a0, .int i1, .int i2, .int i3] ws (.inl (some (.int rr)), ws') := by
  unfold m_X10_point at h
  refine j_entry (ret := (some .int)) (nm := "point") (own := RX10) pl_X10 rfl rfl rfl (jcats (by rfl)) (Nat.le_of_ble_eq_true rfl) ?_
  show JG (.inl false) cX10_point 5 RX10 wsX10_point (some .int) "point" 6 0 0 ws.length (.inl (some (.int rr)), ws') 0 [some (.ref a0), some (.int i1), some (.int i2), some (.int i3), none] [] ws 0 0
  obtain ⟨_, _, h⟩ := obS h
  refine j_iload_n (pc := 0) dX10_point_0 rfl ?_
  refine j_iload_n (pc := 1) dX10_point_1 rfl ?_
  obtain ⟨x3, w1, e2, h⟩ := obS2 h
  have ge2 := calSR_of e2
  have le2 := ge2.2
  refine j_callS_g (pc := 2) (As := [.int i1, .int i2]) (k' := 0) (n' := 0) dX10_point_2 (s_X10_pointAt ge2.1) (jgS lw_145 lw_146 lw_147 lw_144) rfl hy_X10_pointAt rfl (by decide) (by decide) (Nat.le_of_ble_eq_true rfl) (by decide) (by decide) (by decide) (by decide) (Or.inl ge2.2) ?_
  refine j_istore_4 (pc := 5) dX10_point_5 (by decide) rfl ?_
  refine j_iload (pc := 7) dX10_point_7 rfl ?_
  refine j_iconst (pc := 9) dX10_point_9 (v := (-1)) (by decide) ?_
  refine j_icmp_ne (pc := 10) (tgt := 23) dX10_point_10 (by decide) (fun c4 => ?_) (fun c4 => ?_)
  · rw [if_neg c4] at h
    refine j_iload_n (pc := 23) dX10_point_23 rfl ?_
    by_cases c5 : i3 = 0
    · rw [if_pos c5] at h
      refine j_tabEq (pc := 24) (tgt := 56) (a := 0) dX10_point_24 c5 rfl (by decide) (by decide) rfl (by decide) ?_
      refine j_aload_n (pc := 56) dX10_point_56 rfl ?_
      obtain ⟨x6, e7, h⟩ := obS h
      refine j_getR (pc := 57) dX10_point_57 (ci := 10) (kf := 0) rfl (jwi hw_X10) (by decide) (jwm lw_94) e7 ?_
      obtain ⟨x8, e9, h⟩ := obS h
      refine j_getR (pc := 60) dX10_point_60 (ci := 5) (kf := 0) rfl (jwi hw_X5) (by decide) (jwm lw_155) e9 ?_
      refine j_iload (pc := 63) dX10_point_63 rfl ?_
      obtain ⟨x12, w10, e11, h⟩ := obS2 h
      have ge11 := calSR_of e11
      have le11 := ge11.2
      refine j_callV_g (pc := 65) (As := [.int x3]) (k' := 0) (n' := 0) dX10_point_65 (s_X8_at ge11.1) (jgV lw_156 lw_140 lw_141 lw_12 lw_138) rfl hv_X8_at rfl (r_X8_at ge11.1) rfl (by decide) (by decide) (Nat.le_of_ble_eq_true rfl) (by decide) (by decide) (by decide) (by decide) (Or.inl ge11.2) ?_
      cases h
      exact j_iret (pc := 68) rfl dX10_point_68 (by decide) (by decide) rfl
    · rw [if_neg c5] at h
      by_cases c13 : i3 = 1
      · rw [if_pos c13] at h
        refine j_tabEq (pc := 24) (tgt := 69) (a := 1) dX10_point_24 c13 rfl (by decide) (by decide) rfl (by decide) ?_
        refine j_aload_n (pc := 69) dX10_point_69 rfl ?_
        obtain ⟨x14, e15, h⟩ := obS h
        refine j_getR (pc := 70) dX10_point_70 (ci := 10) (kf := 0) rfl (jwi hw_X10) (by decide) (jwm lw_94) e15 ?_
        obtain ⟨x16, e17, h⟩ := obS h
        refine j_getR (pc := 73) dX10_point_73 (ci := 5) (kf := 1) rfl (jwi hw_X5) (by decide) (jwm lw_161) e17 ?_
        refine j_iload (pc := 76) dX10_point_76 rfl ?_
        obtain ⟨x20, w18, e19, h⟩ := obS2 h
        have ge19 := calSR_of e19
        have le19 := ge19.2
        refine j_callV_g (pc := 78) (As := [.int x3]) (k' := 0) (n' := 0) dX10_point_78 (s_X8_at ge19.1) (jgV lw_156 lw_140 lw_141 lw_12 lw_138) rfl hv_X8_at rfl (r_X8_at ge19.1) rfl (by decide) (by decide) (Nat.le_of_ble_eq_true rfl) (by decide) (by decide) (by decide) (by decide) (Or.inl ge19.2) ?_
        cases h
        exact j_iret (pc := 81) rfl dX10_point_81 (by decide) (by decide) rfl
      · rw [if_neg c13] at h
        by_cases c21 : i3 = 2
        · rw [if_pos c21] at h
          refine j_tabEq (pc := 24) (tgt := 82) (a := 2) dX10_point_24 c21 rfl (by decide) (by decide) rfl (by decide) ?_
          refine j_aload_n (pc := 82) dX10_point_82 rfl ?_
          obtain ⟨x22, e23, h⟩ := obS h
          refine j_getR (pc := 83) dX10_point_83 (ci := 10) (kf := 0) rfl (jwi hw_X10) (by decide) (jwm lw_94) e23 ?_
          obtain ⟨x24, e25, h⟩ := obS h
          refine j_getR (pc := 86) dX10_point_86 (ci := 5) (kf := 2) rfl (jwi hw_X5) (by decide) (jwm lw_162) e25 ?_
          refine j_iload (pc := 89) dX10_point_89 rfl ?_
          obtain ⟨x28, w26, e27, h⟩ := obS2 h
          have ge27 := calSR_of e27
          have le27 := ge27.2
          refine j_callV_g (pc := 91) (As := [.int x3]) (k' := 0) (n' := 0) dX10_point_91 (s_X8_at ge27.1) (jgV lw_156 lw_140 lw_141 lw_12 lw_138) rfl hv_X8_at rfl (r_X8_at ge27.1) rfl (by decide) (by decide) (Nat.le_of_ble_eq_true rfl) (by decide) (by decide) (by decide) (by decide) (Or.inl ge27.2) ?_
          cases h
          exact j_iret (pc := 94) rfl dX10_point_94 (by decide) (by decide) rfl
        · rw [if_neg c21] at h
          by_cases c29 : i3 = 3
          · rw [if_pos c29] at h
            refine j_tabEq (pc := 24) (tgt := 95) (a := 3) dX10_point_24 c29 rfl (by decide) (by decide) rfl (by decide) ?_
            refine j_aload_n (pc := 95) dX10_point_95 rfl ?_
            obtain ⟨x30, e31, h⟩ := obS h
            refine j_getR (pc := 96) dX10_point_96 (ci := 10) (kf := 0) rfl (jwi hw_X10) (by decide) (jwm lw_94) e31 ?_
            obtain ⟨x32, e33, h⟩ := obS h
            refine j_getR (pc := 99) dX10_point_99 (ci := 5) (kf := 3) rfl (jwi hw_X5) (by decide) (jwm lw_165) e33 ?_
            refine j_iload (pc := 102) dX10_point_102 rfl ?_
            obtain ⟨x36, w34, e35, h⟩ := obS2 h
            have ge35 := calSR_of e35
            have le35 := ge35.2
            refine j_callV_g (pc := 104) (As := [.int x3]) (k' := 0) (n' := 0) dX10_point_104 (s_X8_at ge35.1) (jgV lw_156 lw_140 lw_141 lw_12 lw_138) rfl hv_X8_at rfl (r_X8_at ge35.1) rfl (by decide) (by decide) (Nat.le_of_ble_eq_true rfl) (by decide) (by decide) (by decide) (by decide) (Or.inl ge35.2) ?_
            cases h
            exact j_iret (pc := 107) rfl dX10_point_107 (by decide) (by decide) rfl
          · rw [if_neg c29] at h
            refine j_tabOut (pc := 24) (tgt := 108) dX10_point_24 (jout4 c5 c13 c21 c29) (by decide) ?_
            cases h
  · rw [if_pos c4] at h
    cases h
def wsX10_isStable : List Cond := Cond.code yX10_isStable cX10_isStable 1 (some .boolean) :: jW
def m_X10_isStable (a0 : Nat) (ws : LWd) : Option (Int32 × LWd) :=
  (rcv ws a0 10).bind fun _ =>
  (fR ws a0 10 2).bind fun x1 =>
  bn2 (calSR ws (m_X9_holdsWithout x1 ((-1)) ws)) fun x5 w3 =>
  retZ x5 w3
set_option maxRecDepth 100000 in
set_option maxHeartbeats 4000000 in
theorem s_X10_isStable {a0 : Nat} {ws : LWd} {rr : Int32} {ws' : LWd} (h : m_X10_isStable a0 ws = some (rr, ws')) : jSp yX10_isStable wsX10_isStable 3 0 0 [.ref a0] ws (.inl (some (.int rr)), ws') := by
  unfold m_X10_isStable at h
  refine j_entry (ret := (some .boolean)) (nm := "isStable") (own := RX10) pl_X10 rfl rfl rfl (jcats (by rfl)) (Nat.le_of_ble_eq_true rfl) ?_
  show JG (.inl false) cX10_isStable 1 RX10 wsX10_isStable (some .boolean) "isStable" 3 0 0 ws.length (.inl (some (.int rr)), ws') 0 [some (.ref a0)] [] ws 0 0
  obtain ⟨_, _, h⟩ := obS h
  refine j_aload_n (pc := 0) dX10_isStable_0 rfl ?_
  obtain ⟨x1, e2, h⟩ := obS h
  refine j_getR (pc := 1) dX10_isStable_1 (ci := 10) (kf := 2) rfl (jwi hw_X10) (by decide) (jwm lw_103) e2 ?_
  refine j_iconst (pc := 4) dX10_isStable_4 (v := (-1)) (by decide) ?_
  obtain ⟨x5, w3, e4, h⟩ := obS2 h
  have ge4 := calSR_of e4
  refine j_callV_g (pc := 5) (As := [.int ((-1))]) (k' := 0) (n' := 0) dX10_isStable_5 (s_X9_holdsWithout ge4.1) (jgV lw_244 lw_245 lw_246 lw_76 lw_243) rfl hv_X9_holdsWithout rfl (r_X9_holdsWithout ge4.1) rfl (by decide) (by decide) (Nat.le_of_ble_eq_true rfl) (by decide) (by decide) (by decide) (by decide) (Or.inl ge4.2) ?_
  exact j_zret (pc := 8) rfl dX10_isStable_8 (by decide) (by decide) h rfl rfl
theorem r_X10_isStable {a0 : Nat} {ws : LWd} {o : (Int32 × LWd)} (h : m_X10_isStable a0 ws = some o) : ∃ fs, ws[a0]? = some (.inr (10, fs)) := rcv_in h
def wsX6_gather : List Cond := Cond.code yX6_gather cX6_gather 7 none :: jW
def m_X6_gather_b81 (k8 : Nat → Nat → Int32 → Int32 → Int32 → Int32 → LWd → Option LWd) (a0 : Nat) (a1 : Nat) (i2 : Int32) (i3 : Int32) (i4 : Int32) (i5 : Int32) (ws : LWd) : Option LWd :=
  k8 a0 a1 i2 i3 i4 (i5 + 1) ws
set_option maxRecDepth 100000 in
set_option maxHeartbeats 4000000 in
theorem jm_X6_gather_b81 {n0 : Nat} {ws' : LWd} {k8 : Nat → Nat → Int32 → Int32 → Int32 → Int32 → LWd → Option LWd} (hk8 : ∀ (a0 : Nat) (a1 : Nat) (i2 : Int32) (i3 : Int32) (i4 : Int32) (i5 : Int32) (ws : LWd), k8 a0 a1 i2 i3 i4 i5 ws = some ws' → JG (.inl false) cX6_gather 7 RX6 wsX6_gather none "gather" 1 0 0 n0 (.inl none, ws') 8 [some (.ref a0), some (.ref a1), some (.int i2), some (.int i3), some (.int i4), some (.int i5), none] [] ws 0 0) (a0 : Nat) (a1 : Nat) (i2 : Int32) (i3 : Int32) (i4 : Int32) (i5 : Int32) (ws : LWd) (h : m_X6_gather_b81 k8 a0 a1 i2 i3 i4 i5 ws = some ws') : JG (.inl false) cX6_gather 7 RX6 wsX6_gather none "gather" 1 0 0 n0 (.inl none, ws') 81 [some (.ref a0), some (.ref a1), some (.int i2), some (.int i3), some (.int i4), some (.int i5), none] [] ws 0 0 := by
  unfold m_X6_gather_b81 at h
  refine j_iinc_5 (pc := 81) dX6_gather_81 (y := i5 + 1) rfl (by decide) rfl ?_
  refine j_goto (pc := 84) (tgt := 8) dX6_gather_84 (by decide) ?_
  exact hk8 _ _ _ _ _ _ ws h
def m_X6_gather_l8 : Nat → Nat → Nat → Int32 → Int32 → Int32 → Int32 → LWd → Option LWd
  | 0, _, _, _, _, _, _, _ => none
  | fu + 1, a0, a1, i2, i3, i4, i5, ws =>
    if 6 ≤ i5 then
      some ws
    else
      bn2 (calSR ws (m_X8_at a1 i5 ws)) fun x4 w2 =>
      if x4 = ((-1)) then
        m_X6_gather_b81 (fun z0 z1 z2 z3 z4 z5 w => m_X6_gather_l8 fu z0 z1 z2 z3 z4 z5 w) a0 a1 i2 i3 i4 i5 w2
      else
        (fR w2 a0 6 0).bind fun x6 =>
        (fI w2 a0 6 2).bind fun x8 =>
        bn2 (calSR w2 (m_X10_xOf x4 w2)) fun x12 w10 =>
        (calSV w10 (m_X8_put x6 x8 ((i4 * x12) - i2) w10)).bind fun w13 =>
        (fR w13 a0 6 1).bind fun x15 =>
        (fI w13 a0 6 2).bind fun x17 =>
        bn2 (calSR w13 (m_X10_yOf x4 w13)) fun x21 w19 =>
        (calSV w19 (m_X8_put x15 x17 ((i4 * x21) - i3) w19)).bind fun w22 =>
        (fI w22 a0 6 2).bind fun x24 =>
        (pV w22 a0 6 2 (.int (x24 + 1))).bind fun w26 =>
        m_X6_gather_b81 (fun z0 z1 z2 z3 z4 z5 w => m_X6_gather_l8 fu z0 z1 z2 z3 z4 z5 w) a0 a1 i2 i3 i4 i5 w26
set_option maxRecDepth 100000 in
set_option maxHeartbeats 4000000 in
theorem jm_X6_gather_l8 {n0 : Nat} {ws' : LWd} : ∀ (fu : Nat) (a0 : Nat) (a1 : Nat) (i2 : Int32) (i3 : Int32) (i4 : Int32) (i5 : Int32) (ws : LWd), m_X6_gather_l8 fu a0 a1 i2 i3 i4 i5 ws = some ws' → JG (.inl false) cX6_gather 7 RX6 wsX6_gather none "gather" 1 0 0 n0 (.inl none, ws') 8 [some (.ref a0), some (.ref a1), some (.int i2), some (.int i3), some (.int i4), some (.int i5), none] [] ws 0 0 := by
  intro fu
  induction fu with
  | zero => intro a0 a1 i2 i3 i4 i5 ws h; first | (cases h; done) | (rw [m_X6_gather_l8] at h; cases h)
  | succ fu ih =>
    intro a0 a1 i2 i3 i4 i5 ws h
    rw [m_X6_gather_l8] at h
    refine j_iload (pc := 8) dX6_gather_8 rfl ?_
    refine j_bipush (pc := 10) dX6_gather_10 (v := 6) (by decide) ?_
    refine j_icmp_ge (pc := 12) (tgt := 87) dX6_gather_12 (by decide) (fun c1 => ?_) (fun c1 => ?_)
    · rw [if_pos c1] at h
      cases h
      exact j_vret (pc := 87) rfl dX6_gather_87 (by decide) (by decide) rfl
    · rw [if_neg c1] at h
      refine j_aload_n (pc := 15) dX6_gather_15 rfl ?_
      refine j_iload (pc := 16) dX6_gather_16 rfl ?_
      obtain ⟨x4, w2, e3, h⟩ := obS2 h
      have ge3 := calSR_of e3
      refine j_callV_g (pc := 18) (As := [.int i5]) (k' := 0) (n' := 0) dX6_gather_18 (s_X8_at ge3.1) (jgV lw_434 lw_140 lw_141 lw_12 lw_138) rfl hv_X8_at rfl (r_X8_at ge3.1) rfl (by decide) (by decide) (Nat.le_of_ble_eq_true rfl) (by decide) (by decide) (by decide) (by decide) (Or.inl ge3.2) ?_
      refine j_istore_6 (pc := 21) dX6_gather_21 (by decide) rfl ?_
      refine j_iload (pc := 23) dX6_gather_23 rfl ?_
      refine j_iconst (pc := 25) dX6_gather_25 (v := (-1)) (by decide) ?_
      refine j_icmp_eq (pc := 26) (tgt := 81) dX6_gather_26 (by decide) (fun c5 => ?_) (fun c5 => ?_)
      · rw [if_pos c5] at h
        refine j_mask [true, true, true, true, true, true, false] ?_
        exact jm_X6_gather_b81 (hk8 := ih) _ _ _ _ _ _ w2 h
      · rw [if_neg c5] at h
        refine j_aload_n (pc := 29) dX6_gather_29 rfl ?_
        obtain ⟨x6, e7, h⟩ := obS h
        refine j_getR (pc := 30) dX6_gather_30 (ci := 6) (kf := 0) rfl (jwi hw_X6) (by decide) (jwm lw_48) e7 ?_
        refine j_aload_n (pc := 33) dX6_gather_33 rfl ?_
        obtain ⟨x8, e9, h⟩ := obS h
        refine j_getI (pc := 34) dX6_gather_34 (ci := 6) (kf := 2) rfl (jwi hw_X6) (by decide) (jwm lw_50) e9 ?_
        refine j_iload (pc := 37) dX6_gather_37 rfl ?_
        refine j_iload (pc := 39) dX6_gather_39 rfl ?_
        obtain ⟨x12, w10, e11, h⟩ := obS2 h
        have ge11 := calSR_of e11
        refine j_callSN_g (pc := 41) (As := [.int x4]) (k' := 0) (n' := 0) dX6_gather_41 (s_X10_xOf ge11.1) (jgP lw_279) nst_X6_31 (jwm lw_147) (jwm lw_280) rfl hy_X10_xOf rfl (by decide) (by decide) (Nat.le_of_ble_eq_true rfl) (by decide) (by decide) (by decide) (by decide) (Or.inl ge11.2) ?_
        refine j_imul (pc := 44) dX6_gather_44 ?_
        refine j_iload_n (pc := 45) dX6_gather_45 rfl ?_
        refine j_isub (pc := 46) dX6_gather_46 ?_
        obtain ⟨w13, e14, h⟩ := obS h
        have ge14 := calSV_of e14
        refine j_callV_g (pc := 47) (As := [.int x8, .int ((i4 * x12) - i2)]) (k' := 0) (n' := 0) dX6_gather_47 (s_X8_put ge14.1) (jgV lw_435 lw_159 lw_160 lw_12 lw_157) rfl hv_X8_put rfl (r_X8_put ge14.1) rfl (by decide) (by decide) (Nat.le_of_ble_eq_true rfl) (by decide) (by decide) (by decide) (by decide) (Or.inl ge14.2) ?_
        refine j_aload_n (pc := 50) dX6_gather_50 rfl ?_
        obtain ⟨x15, e16, h⟩ := obS h
        refine j_getR (pc := 51) dX6_gather_51 (ci := 6) (kf := 1) rfl (jwi hw_X6) (by decide) (jwm lw_49) e16 ?_
        refine j_aload_n (pc := 54) dX6_gather_54 rfl ?_
        obtain ⟨x17, e18, h⟩ := obS h
        refine j_getI (pc := 55) dX6_gather_55 (ci := 6) (kf := 2) rfl (jwi hw_X6) (by decide) (jwm lw_50) e18 ?_
        refine j_iload (pc := 58) dX6_gather_58 rfl ?_
        refine j_iload (pc := 60) dX6_gather_60 rfl ?_
        obtain ⟨x21, w19, e20, h⟩ := obS2 h
        have ge20 := calSR_of e20
        refine j_callSN_g (pc := 62) (As := [.int x4]) (k' := 0) (n' := 0) dX6_gather_62 (s_X10_yOf ge20.1) (jgP lw_281) nst_X6_37 (jwm lw_147) (jwm lw_282) rfl hy_X10_yOf rfl (by decide) (by decide) (Nat.le_of_ble_eq_true rfl) (by decide) (by decide) (by decide) (by decide) (Or.inl ge20.2) ?_
        refine j_imul (pc := 65) dX6_gather_65 ?_
        refine j_iload_n (pc := 66) dX6_gather_66 rfl ?_
        refine j_isub (pc := 67) dX6_gather_67 ?_
        obtain ⟨w22, e23, h⟩ := obS h
        have ge23 := calSV_of e23
        refine j_callV_g (pc := 68) (As := [.int x17, .int ((i4 * x21) - i3)]) (k' := 0) (n' := 0) dX6_gather_68 (s_X8_put ge23.1) (jgV lw_435 lw_159 lw_160 lw_12 lw_157) rfl hv_X8_put rfl (r_X8_put ge23.1) rfl (by decide) (by decide) (Nat.le_of_ble_eq_true rfl) (by decide) (by decide) (by decide) (by decide) (Or.inl ge23.2) ?_
        refine j_aload_n (pc := 71) dX6_gather_71 rfl ?_
        refine j_dup (pc := 72) dX6_gather_72 rfl ?_
        obtain ⟨x24, e25, h⟩ := obS h
        refine j_getI (pc := 73) dX6_gather_73 (ci := 6) (kf := 2) rfl (jwi hw_X6) (by decide) (jwm lw_50) e25 ?_
        refine j_iconst (pc := 76) dX6_gather_76 (v := 1) (by decide) ?_
        refine j_iadd (pc := 77) dX6_gather_77 ?_
        obtain ⟨w26, e27, h⟩ := obS h
        refine j_putV (pc := 78) (ci := 6) (kf := 2) tyX6 tyX6_ok nmX6 dX6_gather_78 rfl (jwi hw_X6) (by decide) (jwm lw_50) rfl (fun _ => rfl) (fun _ => rfl) e27 ?_
        refine j_mask [true, true, true, true, true, true, false] ?_
        exact jm_X6_gather_b81 (hk8 := ih) _ _ _ _ _ _ w26 h
def m_X6_gather (a0 : Nat) (a1 : Nat) (i2 : Int32) (i3 : Int32) (i4 : Int32) (ws : LWd) : Option LWd :=
  (rcv ws a0 6).bind fun _ =>
  (pV ws a0 6 2 (.int 0)).bind fun w1 =>
  m_X6_gather_l8 FU a0 a1 i2 i3 i4 0 w1
set_option maxRecDepth 100000 in
set_option maxHeartbeats 4000000 in
theorem s_X6_gather {a0 : Nat} {a1 : Nat} {i2 : Int32} {i3 : Int32} {i4 : Int32} {ws : LWd} {ws' : LWd} (h : m_X6_gather a0 a1 i2 i3 i4 ws = some ws') : jSp yX6_gather wsX6_gather 1 0 0 [.ref a0, .ref a1, .int i2, .int i3, .int i4] ws (.inl none, ws') := by
  unfold m_X6_gather at h
  refine j_entry (ret := none) (nm := "gather") (own := RX6) pl_X6 rfl rfl rfl (jcats (by rfl)) (Nat.le_of_ble_eq_true rfl) ?_
  show JG (.inl false) cX6_gather 7 RX6 wsX6_gather none "gather" 1 0 0 ws.length (.inl none, ws') 0 [some (.ref a0), some (.ref a1), some (.int i2), some (.int i3), some (.int i4), none, none] [] ws 0 0
  obtain ⟨_, _, h⟩ := obS h
  refine j_aload_n (pc := 0) dX6_gather_0 rfl ?_
  refine j_iconst (pc := 1) dX6_gather_1 (v := 0) (by decide) ?_
  obtain ⟨w1, e2, h⟩ := obS h
  refine j_putV (pc := 2) (ci := 6) (kf := 2) tyX6 tyX6_ok nmX6 dX6_gather_2 rfl (jwi hw_X6) (by decide) (jwm lw_50) rfl (fun _ => rfl) (fun _ => rfl) e2 ?_
  refine j_iconst (pc := 5) dX6_gather_5 (v := 0) (by decide) ?_
  refine j_istore_5 (pc := 6) dX6_gather_6 (by decide) rfl ?_
  exact jm_X6_gather_l8 FU _ _ _ _ _ _ w1 h
theorem r_X6_gather {a0 : Nat} {a1 : Nat} {i2 : Int32} {i3 : Int32} {i4 : Int32} {ws : LWd} {o : LWd} (h : m_X6_gather a0 a1 i2 i3 i4 ws = some o) : ∃ fs, ws[a0]? = some (.inr (6, fs)) := rcv_in h
def wsX6_turn : List Cond := Cond.code yX6_turn cX6_turn 3 (some .int) :: jW
def m_X6_turn (a0 : Nat) (i1 : Int32) (i2 : Int32) (ws : LWd) : Option (Int32 × LWd) :=
  (rcv ws a0 6).bind fun _ =>
  (fR ws a0 6 0).bind fun x1 =>
  bn2 (calSR ws (m_X8_at x1 i1 ws)) fun x5 w3 =>
  (fR w3 a0 6 1).bind fun x6 =>
  bn2 (calSR w3 (m_X8_at x6 i2 w3)) fun x10 w8 =>
  (fR w8 a0 6 1).bind fun x11 =>
  bn2 (calSR w8 (m_X8_at x11 i1 w8)) fun x15 w13 =>
  (fR w13 a0 6 0).bind fun x16 =>
  bn2 (calSR w13 (m_X8_at x16 i2 w13)) fun x20 w18 =>
  some ((x5 * x10) - (x15 * x20), w18)
set_option maxRecDepth 100000 in
set_option maxHeartbeats 4000000 in
theorem s_X6_turn {a0 : Nat} {i1 : Int32} {i2 : Int32} {ws : LWd} {rr : Int32} {ws' : LWd} (h : m_X6_turn a0 i1 i2 ws = some (rr, ws')) : jSp yX6_turn wsX6_turn 1 0 0 [.ref a0, .int i1, .int i2] ws (.inl (some (.int rr)), ws') := by
  unfold m_X6_turn at h
  refine j_entry (ret := (some .int)) (nm := "turn") (own := RX6) pl_X6 rfl rfl rfl (jcats (by rfl)) (Nat.le_of_ble_eq_true rfl) ?_
  show JG (.inl false) cX6_turn 3 RX6 wsX6_turn (some .int) "turn" 1 0 0 ws.length (.inl (some (.int rr)), ws') 0 [some (.ref a0), some (.int i1), some (.int i2)] [] ws 0 0
  obtain ⟨_, _, h⟩ := obS h
  refine j_aload_n (pc := 0) dX6_turn_0 rfl ?_
  obtain ⟨x1, e2, h⟩ := obS h
  refine j_getR (pc := 1) dX6_turn_1 (ci := 6) (kf := 0) rfl (jwi hw_X6) (by decide) (jwm lw_48) e2 ?_
  refine j_iload_n (pc := 4) dX6_turn_4 rfl ?_
  obtain ⟨x5, w3, e4, h⟩ := obS2 h
  have ge4 := calSR_of e4
  refine j_callV_g (pc := 5) (As := [.int i1]) (k' := 0) (n' := 0) dX6_turn_5 (s_X8_at ge4.1) (jgV lw_434 lw_140 lw_141 lw_12 lw_138) rfl hv_X8_at rfl (r_X8_at ge4.1) rfl (by decide) (by decide) (Nat.le_of_ble_eq_true rfl) (by decide) (by decide) (by decide) (by decide) (Or.inl ge4.2) ?_
  refine j_aload_n (pc := 8) dX6_turn_8 rfl ?_
  obtain ⟨x6, e7, h⟩ := obS h
  refine j_getR (pc := 9) dX6_turn_9 (ci := 6) (kf := 1) rfl (jwi hw_X6) (by decide) (jwm lw_49) e7 ?_
  refine j_iload_n (pc := 12) dX6_turn_12 rfl ?_
  obtain ⟨x10, w8, e9, h⟩ := obS2 h
  have ge9 := calSR_of e9
  refine j_callV_g (pc := 13) (As := [.int i2]) (k' := 0) (n' := 0) dX6_turn_13 (s_X8_at ge9.1) (jgV lw_434 lw_140 lw_141 lw_12 lw_138) rfl hv_X8_at rfl (r_X8_at ge9.1) rfl (by decide) (by decide) (Nat.le_of_ble_eq_true rfl) (by decide) (by decide) (by decide) (by decide) (Or.inl ge9.2) ?_
  refine j_imul (pc := 16) dX6_turn_16 ?_
  refine j_aload_n (pc := 17) dX6_turn_17 rfl ?_
  obtain ⟨x11, e12, h⟩ := obS h
  refine j_getR (pc := 18) dX6_turn_18 (ci := 6) (kf := 1) rfl (jwi hw_X6) (by decide) (jwm lw_49) e12 ?_
  refine j_iload_n (pc := 21) dX6_turn_21 rfl ?_
  obtain ⟨x15, w13, e14, h⟩ := obS2 h
  have ge14 := calSR_of e14
  refine j_callV_g (pc := 22) (As := [.int i1]) (k' := 0) (n' := 0) dX6_turn_22 (s_X8_at ge14.1) (jgV lw_434 lw_140 lw_141 lw_12 lw_138) rfl hv_X8_at rfl (r_X8_at ge14.1) rfl (by decide) (by decide) (Nat.le_of_ble_eq_true rfl) (by decide) (by decide) (by decide) (by decide) (Or.inl ge14.2) ?_
  refine j_aload_n (pc := 25) dX6_turn_25 rfl ?_
  obtain ⟨x16, e17, h⟩ := obS h
  refine j_getR (pc := 26) dX6_turn_26 (ci := 6) (kf := 0) rfl (jwi hw_X6) (by decide) (jwm lw_48) e17 ?_
  refine j_iload_n (pc := 29) dX6_turn_29 rfl ?_
  obtain ⟨x20, w18, e19, h⟩ := obS2 h
  have ge19 := calSR_of e19
  refine j_callV_g (pc := 30) (As := [.int i2]) (k' := 0) (n' := 0) dX6_turn_30 (s_X8_at ge19.1) (jgV lw_434 lw_140 lw_141 lw_12 lw_138) rfl hv_X8_at rfl (r_X8_at ge19.1) rfl (by decide) (by decide) (Nat.le_of_ble_eq_true rfl) (by decide) (by decide) (by decide) (by decide) (Or.inl ge19.2) ?_
  refine j_imul (pc := 33) dX6_turn_33 ?_
  refine j_isub (pc := 34) dX6_turn_34 ?_
  obtain ⟨rfl, rfl⟩ := jretS h
  exact j_iret (pc := 35) rfl dX6_turn_35 (by decide) (by decide) rfl
theorem r_X6_turn {a0 : Nat} {i1 : Int32} {i2 : Int32} {ws : LWd} {o : (Int32 × LWd)} (h : m_X6_turn a0 i1 i2 ws = some o) : ∃ fs, ws[a0]? = some (.inr (6, fs)) := rcv_in h
def wsX6_isOnLine : List Cond := Cond.code yX6_isOnLine cX6_isOnLine 3 (some .boolean) :: jW
def m_X6_isOnLine (a0 : Nat) (i1 : Int32) (i2 : Int32) (ws : LWd) : Option (Int32 × LWd) :=
  (rcv ws a0 6).bind fun _ =>
  bn2 (calSR ws (m_X6_turn a0 i1 i2 ws)) fun x3 w1 =>
  if x3 = 0 then
    (fR w1 a0 6 0).bind fun x5 =>
    bn2 (calSR w1 (m_X8_at x5 i1 w1)) fun x9 w7 =>
    (fR w7 a0 6 0).bind fun x10 =>
    bn2 (calSR w7 (m_X8_at x10 i2 w7)) fun x14 w12 =>
    (fR w12 a0 6 1).bind fun x15 =>
    bn2 (calSR w12 (m_X8_at x15 i1 w12)) fun x19 w17 =>
    (fR w17 a0 6 1).bind fun x20 =>
    bn2 (calSR w17 (m_X8_at x20 i2 w17)) fun x24 w22 =>
    if 0 < ((x9 * x14) + (x19 * x24)) then
      some (0, w22)
    else
      some (1, w22)
  else
    some (0, w1)
set_option maxRecDepth 100000 in
set_option maxHeartbeats 4000000 in
theorem s_X6_isOnLine {a0 : Nat} {i1 : Int32} {i2 : Int32} {ws : LWd} {rr : Int32} {ws' : LWd} (h : m_X6_isOnLine a0 i1 i2 ws = some (rr, ws')) : jSp yX6_isOnLine wsX6_isOnLine 2 0 0 [.ref a0, .int i1, .int i2] ws (.inl (some (.int rr)), ws') := by
  unfold m_X6_isOnLine at h
  refine j_entry (ret := (some .boolean)) (nm := "isOnLine") (own := RX6) pl_X6 rfl rfl rfl (jcats (by rfl)) (Nat.le_of_ble_eq_true rfl) ?_
  show JG (.inl false) cX6_isOnLine 3 RX6 wsX6_isOnLine (some .boolean) "isOnLine" 2 0 0 ws.length (.inl (some (.int rr)), ws') 0 [some (.ref a0), some (.int i1), some (.int i2)] [] ws 0 0
  obtain ⟨_, _, h⟩ := obS h
  refine j_aload_n (pc := 0) dX6_isOnLine_0 rfl ?_
  refine j_iload_n (pc := 1) dX6_isOnLine_1 rfl ?_
  refine j_iload_n (pc := 2) dX6_isOnLine_2 rfl ?_
  obtain ⟨x3, w1, e2, h⟩ := obS2 h
  have ge2 := calSR_of e2
  refine j_callV_g (pc := 3) (As := [.int i1, .int i2]) (k' := 0) (n' := 0) dX6_isOnLine_3 (s_X6_turn ge2.1) (jgV lw_437 lw_438 lw_439 lw_107 lw_436) rfl hv_X6_turn rfl (r_X6_turn ge2.1) rfl (by decide) (by decide) (Nat.le_of_ble_eq_true rfl) (by decide) (by decide) (by decide) (by decide) (Or.inl ge2.2) ?_
  refine j_if_ne (pc := 6) (tgt := 51) dX6_isOnLine_6 (by decide) (fun c4 => ?_) (fun c4 => ?_)
  · rw [if_neg c4] at h
    refine j_iconst (pc := 51) dX6_isOnLine_51 (v := 0) (by decide) ?_
    obtain ⟨rfl, rfl⟩ := jretS h
    exact j_zretL (pc := 52) (by decide) rfl dX6_isOnLine_52 (by decide) (by decide) rfl
  · rw [if_pos c4] at h
    refine j_aload_n (pc := 9) dX6_isOnLine_9 rfl ?_
    obtain ⟨x5, e6, h⟩ := obS h
    refine j_getR (pc := 10) dX6_isOnLine_10 (ci := 6) (kf := 0) rfl (jwi hw_X6) (by decide) (jwm lw_48) e6 ?_
    refine j_iload_n (pc := 13) dX6_isOnLine_13 rfl ?_
    obtain ⟨x9, w7, e8, h⟩ := obS2 h
    have ge8 := calSR_of e8
    refine j_callV_g (pc := 14) (As := [.int i1]) (k' := 0) (n' := 0) dX6_isOnLine_14 (s_X8_at ge8.1) (jgV lw_434 lw_140 lw_141 lw_12 lw_138) rfl hv_X8_at rfl (r_X8_at ge8.1) rfl (by decide) (by decide) (Nat.le_of_ble_eq_true rfl) (by decide) (by decide) (by decide) (by decide) (Or.inl ge8.2) ?_
    refine j_aload_n (pc := 17) dX6_isOnLine_17 rfl ?_
    obtain ⟨x10, e11, h⟩ := obS h
    refine j_getR (pc := 18) dX6_isOnLine_18 (ci := 6) (kf := 0) rfl (jwi hw_X6) (by decide) (jwm lw_48) e11 ?_
    refine j_iload_n (pc := 21) dX6_isOnLine_21 rfl ?_
    obtain ⟨x14, w12, e13, h⟩ := obS2 h
    have ge13 := calSR_of e13
    refine j_callV_g (pc := 22) (As := [.int i2]) (k' := 0) (n' := 0) dX6_isOnLine_22 (s_X8_at ge13.1) (jgV lw_434 lw_140 lw_141 lw_12 lw_138) rfl hv_X8_at rfl (r_X8_at ge13.1) rfl (by decide) (by decide) (Nat.le_of_ble_eq_true rfl) (by decide) (by decide) (by decide) (by decide) (Or.inl ge13.2) ?_
    refine j_imul (pc := 25) dX6_isOnLine_25 ?_
    refine j_aload_n (pc := 26) dX6_isOnLine_26 rfl ?_
    obtain ⟨x15, e16, h⟩ := obS h
    refine j_getR (pc := 27) dX6_isOnLine_27 (ci := 6) (kf := 1) rfl (jwi hw_X6) (by decide) (jwm lw_49) e16 ?_
    refine j_iload_n (pc := 30) dX6_isOnLine_30 rfl ?_
    obtain ⟨x19, w17, e18, h⟩ := obS2 h
    have ge18 := calSR_of e18
    refine j_callV_g (pc := 31) (As := [.int i1]) (k' := 0) (n' := 0) dX6_isOnLine_31 (s_X8_at ge18.1) (jgV lw_434 lw_140 lw_141 lw_12 lw_138) rfl hv_X8_at rfl (r_X8_at ge18.1) rfl (by decide) (by decide) (Nat.le_of_ble_eq_true rfl) (by decide) (by decide) (by decide) (by decide) (Or.inl ge18.2) ?_
    refine j_aload_n (pc := 34) dX6_isOnLine_34 rfl ?_
    obtain ⟨x20, e21, h⟩ := obS h
    refine j_getR (pc := 35) dX6_isOnLine_35 (ci := 6) (kf := 1) rfl (jwi hw_X6) (by decide) (jwm lw_49) e21 ?_
    refine j_iload_n (pc := 38) dX6_isOnLine_38 rfl ?_
    obtain ⟨x24, w22, e23, h⟩ := obS2 h
    have ge23 := calSR_of e23
    refine j_callV_g (pc := 39) (As := [.int i2]) (k' := 0) (n' := 0) dX6_isOnLine_39 (s_X8_at ge23.1) (jgV lw_434 lw_140 lw_141 lw_12 lw_138) rfl hv_X8_at rfl (r_X8_at ge23.1) rfl (by decide) (by decide) (Nat.le_of_ble_eq_true rfl) (by decide) (by decide) (by decide) (by decide) (Or.inl ge23.2) ?_
    refine j_imul (pc := 42) dX6_isOnLine_42 ?_
    refine j_iadd (pc := 43) dX6_isOnLine_43 ?_
    refine j_if_gt (pc := 44) (tgt := 51) dX6_isOnLine_44 (by decide) (fun c25 => ?_) (fun c25 => ?_)
    · rw [if_pos c25] at h
      refine j_iconst (pc := 51) dX6_isOnLine_51 (v := 0) (by decide) ?_
      obtain ⟨rfl, rfl⟩ := jretS h
      exact j_zretL (pc := 52) (by decide) rfl dX6_isOnLine_52 (by decide) (by decide) rfl
    · rw [if_neg c25] at h
      refine j_iconst (pc := 47) dX6_isOnLine_47 (v := 1) (by decide) ?_
      refine j_goto (pc := 48) (tgt := 52) dX6_isOnLine_48 (by decide) ?_
      obtain ⟨rfl, rfl⟩ := jretS h
      exact j_zretL (pc := 52) (by decide) rfl dX6_isOnLine_52 (by decide) (by decide) rfl
theorem r_X6_isOnLine {a0 : Nat} {i1 : Int32} {i2 : Int32} {ws : LWd} {o : (Int32 × LWd)} (h : m_X6_isOnLine a0 i1 i2 ws = some o) : ∃ fs, ws[a0]? = some (.inr (6, fs)) := rcv_in h
def wsX6_isInTriangle : List Cond := Cond.code yX6_isInTriangle cX6_isInTriangle 7 (some .boolean) :: jW
def m_X6_isInTriangle_b52 (i4 : Int32) (i5 : Int32) (i6 : Int32) (ws : LWd) : Option (Int32 × LWd) :=
  if 0 < i4 then
    some (0, ws)
  else
    if 0 < i5 then
      some (0, ws)
    else
      if 0 < i6 then
        some (0, ws)
      else
        some (1, ws)
set_option maxRecDepth 100000 in
set_option maxHeartbeats 4000000 in
theorem jm_X6_isInTriangle_b52 {n0 : Nat} {rr : Int32} {ws' : LWd} (i4 : Int32) (i5 : Int32) (i6 : Int32) (ws : LWd) (h : m_X6_isInTriangle_b52 i4 i5 i6 ws = some (rr, ws')) : JG (.inl false) cX6_isInTriangle 7 RX6 wsX6_isInTriangle (some .boolean) "isInTriangle" 2 0 0 n0 (.inl (some (.int rr)), ws') 52 [none, none, none, none, some (.int i4), some (.int i5), some (.int i6)] [] ws 0 0 := by
  unfold m_X6_isInTriangle_b52 at h
  refine j_iload (pc := 52) dX6_isInTriangle_52 rfl ?_
  refine j_if_gt (pc := 54) (tgt := 71) dX6_isInTriangle_54 (by decide) (fun c1 => ?_) (fun c1 => ?_)
  · rw [if_pos c1] at h
    refine j_iconst (pc := 71) dX6_isInTriangle_71 (v := 0) (by decide) ?_
    obtain ⟨rfl, rfl⟩ := jretS h
    exact j_zretL (pc := 72) (by decide) rfl dX6_isInTriangle_72 (by decide) (by decide) rfl
  · rw [if_neg c1] at h
    refine j_iload (pc := 57) dX6_isInTriangle_57 rfl ?_
    refine j_if_gt (pc := 59) (tgt := 71) dX6_isInTriangle_59 (by decide) (fun c2 => ?_) (fun c2 => ?_)
    · rw [if_pos c2] at h
      refine j_iconst (pc := 71) dX6_isInTriangle_71 (v := 0) (by decide) ?_
      obtain ⟨rfl, rfl⟩ := jretS h
      exact j_zretL (pc := 72) (by decide) rfl dX6_isInTriangle_72 (by decide) (by decide) rfl
    · rw [if_neg c2] at h
      refine j_iload (pc := 62) dX6_isInTriangle_62 rfl ?_
      refine j_if_gt (pc := 64) (tgt := 71) dX6_isInTriangle_64 (by decide) (fun c3 => ?_) (fun c3 => ?_)
      · rw [if_pos c3] at h
        refine j_iconst (pc := 71) dX6_isInTriangle_71 (v := 0) (by decide) ?_
        obtain ⟨rfl, rfl⟩ := jretS h
        exact j_zretL (pc := 72) (by decide) rfl dX6_isInTriangle_72 (by decide) (by decide) rfl
      · rw [if_neg c3] at h
        refine j_iconst (pc := 67) dX6_isInTriangle_67 (v := 1) (by decide) ?_
        refine j_goto (pc := 68) (tgt := 72) dX6_isInTriangle_68 (by decide) ?_
        obtain ⟨rfl, rfl⟩ := jretS h
        exact j_zretL (pc := 72) (by decide) rfl dX6_isInTriangle_72 (by decide) (by decide) rfl
def m_X6_isInTriangle (a0 : Nat) (i1 : Int32) (i2 : Int32) (i3 : Int32) (ws : LWd) : Option (Int32 × LWd) :=
  (rcv ws a0 6).bind fun _ =>
  bn2 (calSR ws (m_X6_turn a0 i1 i2 ws)) fun x3 w1 =>
  bn2 (calSR w1 (m_X6_turn a0 i2 i3 w1)) fun x6 w4 =>
  bn2 (calSR w4 (m_X6_turn a0 i3 i1 w4)) fun x9 w7 =>
  if ((x3 + x6) + x9) = 0 then
    some (0, w7)
  else
    if x3 < 0 then
      m_X6_isInTriangle_b52 x3 x6 x9 w7
    else
      if x6 < 0 then
        m_X6_isInTriangle_b52 x3 x6 x9 w7
      else
        if 0 ≤ x9 then
          some (1, w7)
        else
          m_X6_isInTriangle_b52 x3 x6 x9 w7
set_option maxRecDepth 100000 in
set_option maxHeartbeats 4000000 in
theorem s_X6_isInTriangle {a0 : Nat} {i1 : Int32} {i2 : Int32} {i3 : Int32} {ws : LWd} {rr : Int32} {ws' : LWd} (h : m_X6_isInTriangle a0 i1 i2 i3 ws = some (rr, ws')) : jSp yX6_isInTriangle wsX6_isInTriangle 2 0 0 [.ref a0, .int i1, .int i2, .int i3] ws (.inl (some (.int rr)), ws') := by
  unfold m_X6_isInTriangle at h
  refine j_entry (ret := (some .boolean)) (nm := "isInTriangle") (own := RX6) pl_X6 rfl rfl rfl (jcats (by rfl)) (Nat.le_of_ble_eq_true rfl) ?_
  show JG (.inl false) cX6_isInTriangle 7 RX6 wsX6_isInTriangle (some .boolean) "isInTriangle" 2 0 0 ws.length (.inl (some (.int rr)), ws') 0 [some (.ref a0), some (.int i1), some (.int i2), some (.int i3), none, none, none] [] ws 0 0
  obtain ⟨_, _, h⟩ := obS h
  refine j_aload_n (pc := 0) dX6_isInTriangle_0 rfl ?_
  refine j_iload_n (pc := 1) dX6_isInTriangle_1 rfl ?_
  refine j_iload_n (pc := 2) dX6_isInTriangle_2 rfl ?_
  obtain ⟨x3, w1, e2, h⟩ := obS2 h
  have ge2 := calSR_of e2
  refine j_callV_g (pc := 3) (As := [.int i1, .int i2]) (k' := 0) (n' := 0) dX6_isInTriangle_3 (s_X6_turn ge2.1) (jgV lw_437 lw_438 lw_439 lw_107 lw_436) rfl hv_X6_turn rfl (r_X6_turn ge2.1) rfl (by decide) (by decide) (Nat.le_of_ble_eq_true rfl) (by decide) (by decide) (by decide) (by decide) (Or.inl ge2.2) ?_
  refine j_istore_4 (pc := 6) dX6_isInTriangle_6 (by decide) rfl ?_
  refine j_aload_n (pc := 8) dX6_isInTriangle_8 rfl ?_
  refine j_iload_n (pc := 9) dX6_isInTriangle_9 rfl ?_
  refine j_iload_n (pc := 10) dX6_isInTriangle_10 rfl ?_
  obtain ⟨x6, w4, e5, h⟩ := obS2 h
  have ge5 := calSR_of e5
  refine j_callV_g (pc := 11) (As := [.int i2, .int i3]) (k' := 0) (n' := 0) dX6_isInTriangle_11 (s_X6_turn ge5.1) (jgV lw_437 lw_438 lw_439 lw_107 lw_436) rfl hv_X6_turn rfl (r_X6_turn ge5.1) rfl (by decide) (by decide) (Nat.le_of_ble_eq_true rfl) (by decide) (by decide) (by decide) (by decide) (Or.inl ge5.2) ?_
  refine j_istore_5 (pc := 14) dX6_isInTriangle_14 (by decide) rfl ?_
  refine j_aload_n (pc := 16) dX6_isInTriangle_16 rfl ?_
  refine j_iload_n (pc := 17) dX6_isInTriangle_17 rfl ?_
  refine j_iload_n (pc := 18) dX6_isInTriangle_18 rfl ?_
  obtain ⟨x9, w7, e8, h⟩ := obS2 h
  have ge8 := calSR_of e8
  refine j_callV_g (pc := 19) (As := [.int i3, .int i1]) (k' := 0) (n' := 0) dX6_isInTriangle_19 (s_X6_turn ge8.1) (jgV lw_437 lw_438 lw_439 lw_107 lw_436) rfl hv_X6_turn rfl (r_X6_turn ge8.1) rfl (by decide) (by decide) (Nat.le_of_ble_eq_true rfl) (by decide) (by decide) (by decide) (by decide) (Or.inl ge8.2) ?_
  refine j_istore_6 (pc := 22) dX6_isInTriangle_22 (by decide) rfl ?_
  refine j_iload (pc := 24) dX6_isInTriangle_24 rfl ?_
  refine j_iload (pc := 26) dX6_isInTriangle_26 rfl ?_
  refine j_iadd (pc := 28) dX6_isInTriangle_28 ?_
  refine j_iload (pc := 29) dX6_isInTriangle_29 rfl ?_
  refine j_iadd (pc := 31) dX6_isInTriangle_31 ?_
  refine j_if_ne (pc := 32) (tgt := 37) dX6_isInTriangle_32 (by decide) (fun c10 => ?_) (fun c10 => ?_)
  · rw [if_neg c10] at h
    refine j_iload (pc := 37) dX6_isInTriangle_37 rfl ?_
    refine j_if_lt (pc := 39) (tgt := 52) dX6_isInTriangle_39 (by decide) (fun c11 => ?_) (fun c11 => ?_)
    · rw [if_pos c11] at h
      refine j_mask [false, false, false, false, true, true, true] ?_
      exact jm_X6_isInTriangle_b52 _ _ _ w7 h
    · rw [if_neg c11] at h
      refine j_iload (pc := 42) dX6_isInTriangle_42 rfl ?_
      refine j_if_lt (pc := 44) (tgt := 52) dX6_isInTriangle_44 (by decide) (fun c12 => ?_) (fun c12 => ?_)
      · rw [if_pos c12] at h
        refine j_mask [false, false, false, false, true, true, true] ?_
        exact jm_X6_isInTriangle_b52 _ _ _ w7 h
      · rw [if_neg c12] at h
        refine j_iload (pc := 47) dX6_isInTriangle_47 rfl ?_
        refine j_if_ge (pc := 49) (tgt := 67) dX6_isInTriangle_49 (by decide) (fun c13 => ?_) (fun c13 => ?_)
        · rw [if_pos c13] at h
          refine j_iconst (pc := 67) dX6_isInTriangle_67 (v := 1) (by decide) ?_
          refine j_goto (pc := 68) (tgt := 72) dX6_isInTriangle_68 (by decide) ?_
          obtain ⟨rfl, rfl⟩ := jretS h
          exact j_zretL (pc := 72) (by decide) rfl dX6_isInTriangle_72 (by decide) (by decide) rfl
        · rw [if_neg c13] at h
          refine j_mask [false, false, false, false, true, true, true] ?_
          exact jm_X6_isInTriangle_b52 _ _ _ w7 h
  · rw [if_pos c10] at h
    refine j_iconst (pc := 35) dX6_isInTriangle_35 (v := 0) (by decide) ?_
    obtain ⟨rfl, rfl⟩ := jretS h
    exact j_zretL (pc := 36) (by decide) rfl dX6_isInTriangle_36 (by decide) (by decide) rfl
theorem r_X6_isInTriangle {a0 : Nat} {i1 : Int32} {i2 : Int32} {i3 : Int32} {ws : LWd} {o : (Int32 × LWd)} (h : m_X6_isInTriangle a0 i1 i2 i3 ws = some o) : ∃ fs, ws[a0]? = some (.inr (6, fs)) := rcv_in h
def wsX6_holdMoment : List Cond := Cond.code yX6_holdMoment cX6_holdMoment 4 (some .boolean) :: jW
def m_X6_holdMoment_l61 (k2 : Nat → Int32 → LWd → Option (Int32 × LWd)) (k38 : Nat → Int32 → Int32 → LWd → Option (Int32 × LWd)) : Nat → Nat → Int32 → Int32 → Int32 → LWd → Option (Int32 × LWd)
  | 0, _, _, _, _, _ => none
  | fu + 1, a0, i1, i2, i3, ws =>
    (fI ws a0 6 2).bind fun x1 =>
    if x1 ≤ i3 then
      k38 a0 i1 (i2 + 1) ws
    else
      bn2 (calSR ws (m_X6_isInTriangle a0 i1 i2 i3 ws)) fun x6 w4 =>
      if x6 = 0 then
        m_X6_holdMoment_l61 k2 k38 fu a0 i1 i2 (i3 + 1) w4
      else
        some (1, w4)
set_option maxRecDepth 100000 in
set_option maxHeartbeats 4000000 in
theorem jm_X6_holdMoment_l61 {n0 : Nat} {rr : Int32} {ws' : LWd} {k2 : Nat → Int32 → LWd → Option (Int32 × LWd)} {k38 : Nat → Int32 → Int32 → LWd → Option (Int32 × LWd)} (hk2 : ∀ (a0 : Nat) (i1 : Int32) (ws : LWd), k2 a0 i1 ws = some (rr, ws') → JG (.inl false) cX6_holdMoment 4 RX6 wsX6_holdMoment (some .boolean) "holdMoment" 3 0 0 n0 (.inl (some (.int rr)), ws') 2 [some (.ref a0), some (.int i1), none, none] [] ws 0 0) (hk38 : ∀ (a0 : Nat) (i1 : Int32) (i2 : Int32) (ws : LWd), k38 a0 i1 i2 ws = some (rr, ws') → JG (.inl false) cX6_holdMoment 4 RX6 wsX6_holdMoment (some .boolean) "holdMoment" 3 0 0 n0 (.inl (some (.int rr)), ws') 38 [some (.ref a0), some (.int i1), some (.int i2), none] [] ws 0 0) : ∀ (fu : Nat) (a0 : Nat) (i1 : Int32) (i2 : Int32) (i3 : Int32) (ws : LWd), m_X6_holdMoment_l61 k2 k38 fu a0 i1 i2 i3 ws = some (rr, ws') → JG (.inl false) cX6_holdMoment 4 RX6 wsX6_holdMoment (some .boolean) "holdMoment" 3 0 0 n0 (.inl (some (.int rr)), ws') 61 [some (.ref a0), some (.int i1), some (.int i2), some (.int i3)] [] ws 0 0 := by
  intro fu
  induction fu with
  | zero => intro a0 i1 i2 i3 ws h; first | (cases h; done) | (rw [m_X6_holdMoment_l61] at h; cases h)
  | succ fu ih =>
    intro a0 i1 i2 i3 ws h
    rw [m_X6_holdMoment_l61] at h
    refine j_iload_n (pc := 61) dX6_holdMoment_61 rfl ?_
    refine j_aload_n (pc := 62) dX6_holdMoment_62 rfl ?_
    obtain ⟨x1, e2, h⟩ := obS h
    refine j_getI (pc := 63) dX6_holdMoment_63 (ci := 6) (kf := 2) rfl (jwi hw_X6) (by decide) (jwm lw_50) e2 ?_
    refine j_icmp_ge (pc := 66) (tgt := 87) dX6_holdMoment_66 (by decide) (fun c3 => ?_) (fun c3 => ?_)
    · rw [if_pos c3] at h
      refine j_iinc_2 (pc := 87) dX6_holdMoment_87 (y := i2 + 1) rfl (by decide) rfl ?_
      refine j_goto (pc := 90) (tgt := 38) dX6_holdMoment_90 (by decide) ?_
      refine j_mask [true, true, true, false] ?_
      exact hk38 _ _ _ ws h
    · rw [if_neg c3] at h
      refine j_aload_n (pc := 69) dX6_holdMoment_69 rfl ?_
      refine j_iload_n (pc := 70) dX6_holdMoment_70 rfl ?_
      refine j_iload_n (pc := 71) dX6_holdMoment_71 rfl ?_
      refine j_iload_n (pc := 72) dX6_holdMoment_72 rfl ?_
      obtain ⟨x6, w4, e5, h⟩ := obS2 h
      have ge5 := calSR_of e5
      refine j_callV_g (pc := 73) (As := [.int i1, .int i2, .int i3]) (k' := 0) (n' := 0) dX6_holdMoment_73 (s_X6_isInTriangle ge5.1) (jgV lw_441 lw_442 lw_443 lw_107 lw_440) rfl hv_X6_isInTriangle rfl (r_X6_isInTriangle ge5.1) rfl (by decide) (by decide) (Nat.le_of_ble_eq_true rfl) (by decide) (by decide) (by decide) (by decide) (Or.inl ge5.2) ?_
      refine j_if_eq (pc := 76) (tgt := 81) dX6_holdMoment_76 (by decide) (fun c7 => ?_) (fun c7 => ?_)
      · rw [if_pos c7] at h
        refine j_iinc_3 (pc := 81) dX6_holdMoment_81 (y := i3 + 1) rfl (by decide) rfl ?_
        refine j_goto (pc := 84) (tgt := 61) dX6_holdMoment_84 (by decide) ?_
        exact ih _ _ _ _ w4 h
      · rw [if_neg c7] at h
        refine j_iconst (pc := 79) dX6_holdMoment_79 (v := 1) (by decide) ?_
        obtain ⟨rfl, rfl⟩ := jretS h
        exact j_zretL (pc := 80) (by decide) rfl dX6_holdMoment_80 (by decide) (by decide) rfl
def m_X6_holdMoment_l38 (k2 : Nat → Int32 → LWd → Option (Int32 × LWd)) : Nat → Nat → Int32 → Int32 → LWd → Option (Int32 × LWd)
  | 0, _, _, _, _ => none
  | fu + 1, a0, i1, i2, ws =>
    (fI ws a0 6 2).bind fun x1 =>
    if x1 ≤ i2 then
      k2 a0 (i1 + 1) ws
    else
      bn2 (calSR ws (m_X6_isOnLine a0 i1 i2 ws)) fun x6 w4 =>
      if x6 = 0 then
        m_X6_holdMoment_l61 k2 (fun z0 z1 z2 w => m_X6_holdMoment_l38 k2 fu z0 z1 z2 w) FU a0 i1 i2 (i2 + 1) w4
      else
        some (1, w4)
set_option maxRecDepth 100000 in
set_option maxHeartbeats 4000000 in
theorem jm_X6_holdMoment_l38 {n0 : Nat} {rr : Int32} {ws' : LWd} {k2 : Nat → Int32 → LWd → Option (Int32 × LWd)} (hk2 : ∀ (a0 : Nat) (i1 : Int32) (ws : LWd), k2 a0 i1 ws = some (rr, ws') → JG (.inl false) cX6_holdMoment 4 RX6 wsX6_holdMoment (some .boolean) "holdMoment" 3 0 0 n0 (.inl (some (.int rr)), ws') 2 [some (.ref a0), some (.int i1), none, none] [] ws 0 0) : ∀ (fu : Nat) (a0 : Nat) (i1 : Int32) (i2 : Int32) (ws : LWd), m_X6_holdMoment_l38 k2 fu a0 i1 i2 ws = some (rr, ws') → JG (.inl false) cX6_holdMoment 4 RX6 wsX6_holdMoment (some .boolean) "holdMoment" 3 0 0 n0 (.inl (some (.int rr)), ws') 38 [some (.ref a0), some (.int i1), some (.int i2), none] [] ws 0 0 := by
  intro fu
  induction fu with
  | zero => intro a0 i1 i2 ws h; first | (cases h; done) | (rw [m_X6_holdMoment_l38] at h; cases h)
  | succ fu ih =>
    intro a0 i1 i2 ws h
    rw [m_X6_holdMoment_l38] at h
    refine j_iload_n (pc := 38) dX6_holdMoment_38 rfl ?_
    refine j_aload_n (pc := 39) dX6_holdMoment_39 rfl ?_
    obtain ⟨x1, e2, h⟩ := obS h
    refine j_getI (pc := 40) dX6_holdMoment_40 (ci := 6) (kf := 2) rfl (jwi hw_X6) (by decide) (jwm lw_50) e2 ?_
    refine j_icmp_ge (pc := 43) (tgt := 93) dX6_holdMoment_43 (by decide) (fun c3 => ?_) (fun c3 => ?_)
    · rw [if_pos c3] at h
      refine j_iinc_1 (pc := 93) dX6_holdMoment_93 (y := i1 + 1) rfl (by decide) rfl ?_
      refine j_goto (pc := 96) (tgt := 2) dX6_holdMoment_96 (by decide) ?_
      refine j_mask [true, true, false, false] ?_
      exact hk2 _ _ ws h
    · rw [if_neg c3] at h
      refine j_aload_n (pc := 46) dX6_holdMoment_46 rfl ?_
      refine j_iload_n (pc := 47) dX6_holdMoment_47 rfl ?_
      refine j_iload_n (pc := 48) dX6_holdMoment_48 rfl ?_
      obtain ⟨x6, w4, e5, h⟩ := obS2 h
      have ge5 := calSR_of e5
      refine j_callV_g (pc := 49) (As := [.int i1, .int i2]) (k' := 0) (n' := 0) dX6_holdMoment_49 (s_X6_isOnLine ge5.1) (jgV lw_445 lw_446 lw_447 lw_107 lw_444) rfl hv_X6_isOnLine rfl (r_X6_isOnLine ge5.1) rfl (by decide) (by decide) (Nat.le_of_ble_eq_true rfl) (by decide) (by decide) (by decide) (by decide) (Or.inl ge5.2) ?_
      refine j_if_eq (pc := 52) (tgt := 57) dX6_holdMoment_52 (by decide) (fun c7 => ?_) (fun c7 => ?_)
      · rw [if_pos c7] at h
        refine j_iload_n (pc := 57) dX6_holdMoment_57 rfl ?_
        refine j_iconst (pc := 58) dX6_holdMoment_58 (v := 1) (by decide) ?_
        refine j_iadd (pc := 59) dX6_holdMoment_59 ?_
        refine j_istore_n_3 (pc := 60) dX6_holdMoment_60 (by decide) rfl ?_
        exact jm_X6_holdMoment_l61 (hk2 := hk2) (hk38 := ih) FU _ _ _ _ w4 h
      · rw [if_neg c7] at h
        refine j_iconst (pc := 55) dX6_holdMoment_55 (v := 1) (by decide) ?_
        obtain ⟨rfl, rfl⟩ := jretS h
        exact j_zretL (pc := 56) (by decide) rfl dX6_holdMoment_56 (by decide) (by decide) rfl
def m_X6_holdMoment_b34 (k2 : Nat → Int32 → LWd → Option (Int32 × LWd)) (a0 : Nat) (i1 : Int32) (ws : LWd) : Option (Int32 × LWd) :=
  m_X6_holdMoment_l38 k2 FU a0 i1 (i1 + 1) ws
set_option maxRecDepth 100000 in
set_option maxHeartbeats 4000000 in
theorem jm_X6_holdMoment_b34 {n0 : Nat} {rr : Int32} {ws' : LWd} {k2 : Nat → Int32 → LWd → Option (Int32 × LWd)} (hk2 : ∀ (a0 : Nat) (i1 : Int32) (ws : LWd), k2 a0 i1 ws = some (rr, ws') → JG (.inl false) cX6_holdMoment 4 RX6 wsX6_holdMoment (some .boolean) "holdMoment" 3 0 0 n0 (.inl (some (.int rr)), ws') 2 [some (.ref a0), some (.int i1), none, none] [] ws 0 0) (a0 : Nat) (i1 : Int32) (ws : LWd) (h : m_X6_holdMoment_b34 k2 a0 i1 ws = some (rr, ws')) : JG (.inl false) cX6_holdMoment 4 RX6 wsX6_holdMoment (some .boolean) "holdMoment" 3 0 0 n0 (.inl (some (.int rr)), ws') 34 [some (.ref a0), some (.int i1), none, none] [] ws 0 0 := by
  unfold m_X6_holdMoment_b34 at h
  refine j_iload_n (pc := 34) dX6_holdMoment_34 rfl ?_
  refine j_iconst (pc := 35) dX6_holdMoment_35 (v := 1) (by decide) ?_
  refine j_iadd (pc := 36) dX6_holdMoment_36 ?_
  refine j_istore_n_2 (pc := 37) dX6_holdMoment_37 (by decide) rfl ?_
  exact jm_X6_holdMoment_l38 (hk2 := hk2) FU _ _ _ ws h
def m_X6_holdMoment_l2 : Nat → Nat → Int32 → LWd → Option (Int32 × LWd)
  | 0, _, _, _ => none
  | fu + 1, a0, i1, ws =>
    (fI ws a0 6 2).bind fun x1 =>
    if x1 ≤ i1 then
      some (0, ws)
    else
      (fR ws a0 6 0).bind fun x4 =>
      bn2 (calSR ws (m_X8_at x4 i1 ws)) fun x8 w6 =>
      if x8 = 0 then
        (fR w6 a0 6 1).bind fun x10 =>
        bn2 (calSR w6 (m_X8_at x10 i1 w6)) fun x14 w12 =>
        if x14 = 0 then
          some (1, w12)
        else
          m_X6_holdMoment_b34 (fun z0 z1 w => m_X6_holdMoment_l2 fu z0 z1 w) a0 i1 w12
      else
        m_X6_holdMoment_b34 (fun z0 z1 w => m_X6_holdMoment_l2 fu z0 z1 w) a0 i1 w6
set_option maxRecDepth 100000 in
set_option maxHeartbeats 4000000 in
theorem jm_X6_holdMoment_l2 {n0 : Nat} {rr : Int32} {ws' : LWd} : ∀ (fu : Nat) (a0 : Nat) (i1 : Int32) (ws : LWd), m_X6_holdMoment_l2 fu a0 i1 ws = some (rr, ws') → JG (.inl false) cX6_holdMoment 4 RX6 wsX6_holdMoment (some .boolean) "holdMoment" 3 0 0 n0 (.inl (some (.int rr)), ws') 2 [some (.ref a0), some (.int i1), none, none] [] ws 0 0 := by
  intro fu
  induction fu with
  | zero => intro a0 i1 ws h; first | (cases h; done) | (rw [m_X6_holdMoment_l2] at h; cases h)
  | succ fu ih =>
    intro a0 i1 ws h
    rw [m_X6_holdMoment_l2] at h
    refine j_iload_n (pc := 2) dX6_holdMoment_2 rfl ?_
    refine j_aload_n (pc := 3) dX6_holdMoment_3 rfl ?_
    obtain ⟨x1, e2, h⟩ := obS h
    refine j_getI (pc := 4) dX6_holdMoment_4 (ci := 6) (kf := 2) rfl (jwi hw_X6) (by decide) (jwm lw_50) e2 ?_
    refine j_icmp_ge (pc := 7) (tgt := 99) dX6_holdMoment_7 (by decide) (fun c3 => ?_) (fun c3 => ?_)
    · rw [if_pos c3] at h
      refine j_iconst (pc := 99) dX6_holdMoment_99 (v := 0) (by decide) ?_
      obtain ⟨rfl, rfl⟩ := jretS h
      exact j_zretL (pc := 100) (by decide) rfl dX6_holdMoment_100 (by decide) (by decide) rfl
    · rw [if_neg c3] at h
      refine j_aload_n (pc := 10) dX6_holdMoment_10 rfl ?_
      obtain ⟨x4, e5, h⟩ := obS h
      refine j_getR (pc := 11) dX6_holdMoment_11 (ci := 6) (kf := 0) rfl (jwi hw_X6) (by decide) (jwm lw_48) e5 ?_
      refine j_iload_n (pc := 14) dX6_holdMoment_14 rfl ?_
      obtain ⟨x8, w6, e7, h⟩ := obS2 h
      have ge7 := calSR_of e7
      refine j_callV_g (pc := 15) (As := [.int i1]) (k' := 0) (n' := 0) dX6_holdMoment_15 (s_X8_at ge7.1) (jgV lw_434 lw_140 lw_141 lw_12 lw_138) rfl hv_X8_at rfl (r_X8_at ge7.1) rfl (by decide) (by decide) (Nat.le_of_ble_eq_true rfl) (by decide) (by decide) (by decide) (by decide) (Or.inl ge7.2) ?_
      refine j_if_ne (pc := 18) (tgt := 34) dX6_holdMoment_18 (by decide) (fun c9 => ?_) (fun c9 => ?_)
      · rw [if_neg c9] at h
        exact jm_X6_holdMoment_b34 (hk2 := ih) _ _ w6 h
      · rw [if_pos c9] at h
        refine j_aload_n (pc := 21) dX6_holdMoment_21 rfl ?_
        obtain ⟨x10, e11, h⟩ := obS h
        refine j_getR (pc := 22) dX6_holdMoment_22 (ci := 6) (kf := 1) rfl (jwi hw_X6) (by decide) (jwm lw_49) e11 ?_
        refine j_iload_n (pc := 25) dX6_holdMoment_25 rfl ?_
        obtain ⟨x14, w12, e13, h⟩ := obS2 h
        have ge13 := calSR_of e13
        refine j_callV_g (pc := 26) (As := [.int i1]) (k' := 0) (n' := 0) dX6_holdMoment_26 (s_X8_at ge13.1) (jgV lw_434 lw_140 lw_141 lw_12 lw_138) rfl hv_X8_at rfl (r_X8_at ge13.1) rfl (by decide) (by decide) (Nat.le_of_ble_eq_true rfl) (by decide) (by decide) (by decide) (by decide) (Or.inl ge13.2) ?_
        refine j_if_ne (pc := 29) (tgt := 34) dX6_holdMoment_29 (by decide) (fun c15 => ?_) (fun c15 => ?_)
        · rw [if_neg c15] at h
          exact jm_X6_holdMoment_b34 (hk2 := ih) _ _ w12 h
        · rw [if_pos c15] at h
          refine j_iconst (pc := 32) dX6_holdMoment_32 (v := 1) (by decide) ?_
          obtain ⟨rfl, rfl⟩ := jretS h
          exact j_zretL (pc := 33) (by decide) rfl dX6_holdMoment_33 (by decide) (by decide) rfl
def m_X6_holdMoment (a0 : Nat) (ws : LWd) : Option (Int32 × LWd) :=
  (rcv ws a0 6).bind fun _ =>
  m_X6_holdMoment_l2 FU a0 0 ws
set_option maxRecDepth 100000 in
set_option maxHeartbeats 4000000 in
theorem s_X6_holdMoment {a0 : Nat} {ws : LWd} {rr : Int32} {ws' : LWd} (h : m_X6_holdMoment a0 ws = some (rr, ws')) : jSp yX6_holdMoment wsX6_holdMoment 3 0 0 [.ref a0] ws (.inl (some (.int rr)), ws') := by
  unfold m_X6_holdMoment at h
  refine j_entry (ret := (some .boolean)) (nm := "holdMoment") (own := RX6) pl_X6 rfl rfl rfl (jcats (by rfl)) (Nat.le_of_ble_eq_true rfl) ?_
  show JG (.inl false) cX6_holdMoment 4 RX6 wsX6_holdMoment (some .boolean) "holdMoment" 3 0 0 ws.length (.inl (some (.int rr)), ws') 0 [some (.ref a0), none, none, none] [] ws 0 0
  obtain ⟨_, _, h⟩ := obS h
  refine j_iconst (pc := 0) dX6_holdMoment_0 (v := 0) (by decide) ?_
  refine j_istore_n_1 (pc := 1) dX6_holdMoment_1 (by decide) rfl ?_
  exact jm_X6_holdMoment_l2 FU _ _ ws h
theorem r_X6_holdMoment {a0 : Nat} {ws : LWd} {o : (Int32 × LWd)} (h : m_X6_holdMoment a0 ws = some o) : ∃ fs, ws[a0]? = some (.inr (6, fs)) := rcv_in h
def wsX10_isStableAnew : List Cond := Cond.code yX10_isStableAnew cX10_isStableAnew 1 (some .boolean) :: jW
def m_X10_isStableAnew (a0 : Nat) (ws : LWd) : Option (Int32 × LWd) :=
  (rcv ws a0 10).bind fun _ =>
  (fR ws a0 10 4).bind fun x1 =>
  (fR ws a0 10 2).bind fun x3 =>
  (fR ws x3 9 3).bind fun x5 =>
  (fR ws a0 10 2).bind fun x7 =>
  bn2 (calSR ws (m_X9_momentX x7 ws)) fun x11 w9 =>
  (fR w9 a0 10 2).bind fun x12 =>
  bn2 (calSR w9 (m_X9_momentY x12 w9)) fun x16 w14 =>
  (fR w14 a0 10 1).bind fun x17 =>
  bn2 (calSR w14 (m_X2_weight x17 w14)) fun x21 w19 =>
  (calSV w19 (m_X6_gather x1 x5 x11 x16 x21 w19)).bind fun w22 =>
  (fR w22 a0 10 4).bind fun x24 =>
  bn2 (calSR w22 (m_X6_holdMoment x24 w22)) fun x28 w26 =>
  retZ x28 w26
set_option maxRecDepth 100000 in
set_option maxHeartbeats 4000000 in
theorem s_X10_isStableAnew {a0 : Nat} {ws : LWd} {rr : Int32} {ws' : LWd} (h : m_X10_isStableAnew a0 ws = some (rr, ws')) : jSp yX10_isStableAnew wsX10_isStableAnew 4 0 0 [.ref a0] ws (.inl (some (.int rr)), ws') := by
  unfold m_X10_isStableAnew at h
  refine j_entry (ret := (some .boolean)) (nm := "isStableAnew") (own := RX10) pl_X10 rfl rfl rfl (jcats (by rfl)) (Nat.le_of_ble_eq_true rfl) ?_
  show JG (.inl false) cX10_isStableAnew 1 RX10 wsX10_isStableAnew (some .boolean) "isStableAnew" 4 0 0 ws.length (.inl (some (.int rr)), ws') 0 [some (.ref a0)] [] ws 0 0
  obtain ⟨_, _, h⟩ := obS h
  refine j_aload_n (pc := 0) dX10_isStableAnew_0 rfl ?_
  obtain ⟨x1, e2, h⟩ := obS h
  refine j_getR (pc := 1) dX10_isStableAnew_1 (ci := 10) (kf := 4) rfl (jwi hw_X10) (by decide) (jwm lw_110) e2 ?_
  refine j_aload_n (pc := 4) dX10_isStableAnew_4 rfl ?_
  obtain ⟨x3, e4, h⟩ := obS h
  refine j_getR (pc := 5) dX10_isStableAnew_5 (ci := 10) (kf := 2) rfl (jwi hw_X10) (by decide) (jwm lw_103) e4 ?_
  obtain ⟨x5, e6, h⟩ := obS h
  refine j_getR (pc := 8) dX10_isStableAnew_8 (ci := 9) (kf := 3) rfl (jwi hw_X9) (by decide) (jwm lw_265) e6 ?_
  refine j_aload_n (pc := 11) dX10_isStableAnew_11 rfl ?_
  obtain ⟨x7, e8, h⟩ := obS h
  refine j_getR (pc := 12) dX10_isStableAnew_12 (ci := 10) (kf := 2) rfl (jwi hw_X10) (by decide) (jwm lw_103) e8 ?_
  obtain ⟨x11, w9, e10, h⟩ := obS2 h
  have ge10 := calSR_of e10
  refine j_callV_g (pc := 15) (As := []) (k' := 0) (n' := 0) dX10_isStableAnew_15 (s_X9_momentX ge10.1) (jgV lw_448 lw_218 lw_219 lw_76 lw_216) rfl hv_X9_momentX rfl (r_X9_momentX ge10.1) rfl (by decide) (by decide) (Nat.le_of_ble_eq_true rfl) (by decide) (by decide) (by decide) (by decide) (Or.inl ge10.2) ?_
  refine j_aload_n (pc := 18) dX10_isStableAnew_18 rfl ?_
  obtain ⟨x12, e13, h⟩ := obS h
  refine j_getR (pc := 19) dX10_isStableAnew_19 (ci := 10) (kf := 2) rfl (jwi hw_X10) (by decide) (jwm lw_103) e13 ?_
  obtain ⟨x16, w14, e15, h⟩ := obS2 h
  have ge15 := calSR_of e15
  refine j_callV_g (pc := 22) (As := []) (k' := 0) (n' := 0) dX10_isStableAnew_22 (s_X9_momentY ge15.1) (jgV lw_449 lw_222 lw_223 lw_76 lw_220) rfl hv_X9_momentY rfl (r_X9_momentY ge15.1) rfl (by decide) (by decide) (Nat.le_of_ble_eq_true rfl) (by decide) (by decide) (by decide) (by decide) (Or.inl ge15.2) ?_
  refine j_aload_n (pc := 25) dX10_isStableAnew_25 rfl ?_
  obtain ⟨x17, e18, h⟩ := obS h
  refine j_getR (pc := 26) dX10_isStableAnew_26 (ci := 10) (kf := 1) rfl (jwi hw_X10) (by decide) (jwm lw_100) e18 ?_
  obtain ⟨x21, w19, e20, h⟩ := obS2 h
  have ge20 := calSR_of e20
  refine j_callV_g (pc := 29) (As := []) (k' := 0) (n' := 0) dX10_isStableAnew_29 (s_X2_weight ge20.1) (jgV lw_403 lw_226 lw_227 lw_97 lw_224) rfl hv_X2_weight rfl (r_X2_weight ge20.1) rfl (by decide) (by decide) (Nat.le_of_ble_eq_true rfl) (by decide) (by decide) (by decide) (by decide) (Or.inl ge20.2) ?_
  obtain ⟨w22, e23, h⟩ := obS h
  have ge23 := calSV_of e23
  refine j_callV_g (pc := 32) (As := [.ref x5, .int x11, .int x16, .int x21]) (k' := 0) (n' := 0) dX10_isStableAnew_32 (s_X6_gather ge23.1) (jgV lw_451 lw_452 lw_453 lw_107 lw_450) rfl hv_X6_gather rfl (r_X6_gather ge23.1) rfl (by decide) (by decide) (Nat.le_of_ble_eq_true rfl) (by decide) (by decide) (by decide) (by decide) (Or.inl ge23.2) ?_
  refine j_aload_n (pc := 35) dX10_isStableAnew_35 rfl ?_
  obtain ⟨x24, e25, h⟩ := obS h
  refine j_getR (pc := 36) dX10_isStableAnew_36 (ci := 10) (kf := 4) rfl (jwi hw_X10) (by decide) (jwm lw_110) e25 ?_
  obtain ⟨x28, w26, e27, h⟩ := obS2 h
  have ge27 := calSR_of e27
  refine j_callV_g (pc := 39) (As := []) (k' := 0) (n' := 0) dX10_isStableAnew_39 (s_X6_holdMoment ge27.1) (jgV lw_455 lw_456 lw_457 lw_107 lw_454) rfl hv_X6_holdMoment rfl (r_X6_holdMoment ge27.1) rfl (by decide) (by decide) (Nat.le_of_ble_eq_true rfl) (by decide) (by decide) (by decide) (by decide) (Or.inl ge27.2) ?_
  exact j_zret (pc := 42) rfl dX10_isStableAnew_42 (by decide) (by decide) h rfl rfl
theorem r_X10_isStableAnew {a0 : Nat} {ws : LWd} {o : (Int32 × LWd)} (h : m_X10_isStableAnew a0 ws = some o) : ∃ fs, ws[a0]? = some (.inr (10, fs)) := rcv_in h
def wsX4_squareOfEdge : List Cond := Cond.code yX4_squareOfEdge cX4_squareOfEdge 4 (some .int) :: jW
def m_X4_squareOfEdge (i0 : Int32) (i1 : Int32) (ws : LWd) : Option (Int32 × LWd) :=
  some ((((jrem i1 20) - (jrem i0 20)) * ((jrem i1 20) - (jrem i0 20))) + (((i1 / 20) - (i0 / 20)) * ((i1 / 20) - (i0 / 20))), ws)
set_option maxRecDepth 100000 in
set_option maxHeartbeats 4000000 in
theorem s_X4_squareOfEdge {i0 : Int32} {i1 : Int32} {ws : LWd} {rr : Int32} {ws' : LWd} (h : m_X4_squareOfEdge i0 i1 ws = some (rr, ws')) : jSp yX4_squareOfEdge wsX4_squareOfEdge 0 0 0 [.int i0, .int i1] ws (.inl (some (.int rr)), ws') := by
  unfold m_X4_squareOfEdge at h
  refine j_entry (ret := (some .int)) (nm := "squareOfEdge") (own := RX4) pl_X4 rfl rfl rfl (jcats (by rfl)) (Nat.le_of_ble_eq_true rfl) ?_
  show JG (.inl false) cX4_squareOfEdge 4 RX4 wsX4_squareOfEdge (some .int) "squareOfEdge" 0 0 0 ws.length (.inl (some (.int rr)), ws') 0 [some (.int i0), some (.int i1), none, none] [] ws 0 0
  refine j_iload_n (pc := 0) dX4_squareOfEdge_0 rfl ?_
  refine j_bipush (pc := 1) dX4_squareOfEdge_1 (v := 20) (by decide) ?_
  refine j_irem (pc := 3) dX4_squareOfEdge_3 (by decide) ?_
  refine j_iload_n (pc := 4) dX4_squareOfEdge_4 rfl ?_
  refine j_bipush (pc := 5) dX4_squareOfEdge_5 (v := 20) (by decide) ?_
  refine j_irem (pc := 7) dX4_squareOfEdge_7 (by decide) ?_
  refine j_isub (pc := 8) dX4_squareOfEdge_8 ?_
  refine j_istore_n_2 (pc := 9) dX4_squareOfEdge_9 (by decide) rfl ?_
  refine j_iload_n (pc := 10) dX4_squareOfEdge_10 rfl ?_
  refine j_bipush (pc := 11) dX4_squareOfEdge_11 (v := 20) (by decide) ?_
  refine j_idiv (pc := 13) dX4_squareOfEdge_13 (by decide) ?_
  refine j_iload_n (pc := 14) dX4_squareOfEdge_14 rfl ?_
  refine j_bipush (pc := 15) dX4_squareOfEdge_15 (v := 20) (by decide) ?_
  refine j_idiv (pc := 17) dX4_squareOfEdge_17 (by decide) ?_
  refine j_isub (pc := 18) dX4_squareOfEdge_18 ?_
  refine j_istore_n_3 (pc := 19) dX4_squareOfEdge_19 (by decide) rfl ?_
  refine j_iload_n (pc := 20) dX4_squareOfEdge_20 rfl ?_
  refine j_iload_n (pc := 21) dX4_squareOfEdge_21 rfl ?_
  refine j_imul (pc := 22) dX4_squareOfEdge_22 ?_
  refine j_iload_n (pc := 23) dX4_squareOfEdge_23 rfl ?_
  refine j_iload_n (pc := 24) dX4_squareOfEdge_24 rfl ?_
  refine j_imul (pc := 25) dX4_squareOfEdge_25 ?_
  refine j_iadd (pc := 26) dX4_squareOfEdge_26 ?_
  obtain ⟨rfl, rfl⟩ := jretS h
  exact j_iret (pc := 27) rfl dX4_squareOfEdge_27 (by decide) (by decide) rfl
def wsX4_leastSquare : List Cond := Cond.code yX4_leastSquare cX4_leastSquare 13 (some .float) :: jW
def m_X4_leastSquare_b108 (k6 : Nat → Int32 → Int32 → Int32 → UInt32 → Int32 → LWd → Option (UInt32 × LWd)) (a0 : Nat) (i1 : Int32) (i2 : Int32) (i3 : Int32) (f4 : UInt32) (i5 : Int32) (ws : LWd) : Option (UInt32 × LWd) :=
  k6 a0 i1 i2 i3 f4 (i5 + 1) ws
set_option maxRecDepth 100000 in
set_option maxHeartbeats 4000000 in
theorem jm_X4_leastSquare_b108 {n0 : Nat} {rr : UInt32} {ws' : LWd} {k6 : Nat → Int32 → Int32 → Int32 → UInt32 → Int32 → LWd → Option (UInt32 × LWd)} (hk6 : ∀ (a0 : Nat) (i1 : Int32) (i2 : Int32) (i3 : Int32) (f4 : UInt32) (i5 : Int32) (ws : LWd), k6 a0 i1 i2 i3 f4 i5 ws = some (rr, ws') → JG (.inl false) cX4_leastSquare 13 RX4 wsX4_leastSquare (some .float) "leastSquare" 1 0 0 n0 (.inl (some (.float rr)), ws') 6 [some (.ref a0), some (.int i1), some (.int i2), some (.int i3), some (.float f4), some (.int i5), none, none, none, none, none, none, none] [] ws 0 0) (a0 : Nat) (i1 : Int32) (i2 : Int32) (i3 : Int32) (f4 : UInt32) (i5 : Int32) (ws : LWd) (h : m_X4_leastSquare_b108 k6 a0 i1 i2 i3 f4 i5 ws = some (rr, ws')) : JG (.inl false) cX4_leastSquare 13 RX4 wsX4_leastSquare (some .float) "leastSquare" 1 0 0 n0 (.inl (some (.float rr)), ws') 108 [some (.ref a0), some (.int i1), some (.int i2), some (.int i3), some (.float f4), some (.int i5), none, none, none, none, none, none, none] [] ws 0 0 := by
  unfold m_X4_leastSquare_b108 at h
  refine j_iinc_5 (pc := 108) dX4_leastSquare_108 (y := i5 + 1) rfl (by decide) rfl ?_
  refine j_goto (pc := 111) (tgt := 6) dX4_leastSquare_111 (by decide) ?_
  exact hk6 _ _ _ _ _ _ ws h
def m_X4_leastSquare_b104 (k6 : Nat → Int32 → Int32 → Int32 → UInt32 → Int32 → LWd → Option (UInt32 × LWd)) (a0 : Nat) (i1 : Int32) (i2 : Int32) (i3 : Int32) (i5 : Int32) (f12 : UInt32) (ws : LWd) : Option (UInt32 × LWd) :=
  m_X4_leastSquare_b108 k6 a0 i1 i2 i3 f12 i5 ws
set_option maxRecDepth 100000 in
set_option maxHeartbeats 4000000 in
theorem jm_X4_leastSquare_b104 {n0 : Nat} {rr : UInt32} {ws' : LWd} {k6 : Nat → Int32 → Int32 → Int32 → UInt32 → Int32 → LWd → Option (UInt32 × LWd)} (hk6 : ∀ (a0 : Nat) (i1 : Int32) (i2 : Int32) (i3 : Int32) (f4 : UInt32) (i5 : Int32) (ws : LWd), k6 a0 i1 i2 i3 f4 i5 ws = some (rr, ws') → JG (.inl false) cX4_leastSquare 13 RX4 wsX4_leastSquare (some .float) "leastSquare" 1 0 0 n0 (.inl (some (.float rr)), ws') 6 [some (.ref a0), some (.int i1), some (.int i2), some (.int i3), some (.float f4), some (.int i5), none, none, none, none, none, none, none] [] ws 0 0) (a0 : Nat) (i1 : Int32) (i2 : Int32) (i3 : Int32) (i5 : Int32) (f12 : UInt32) (ws : LWd) (h : m_X4_leastSquare_b104 k6 a0 i1 i2 i3 i5 f12 ws = some (rr, ws')) : JG (.inl false) cX4_leastSquare 13 RX4 wsX4_leastSquare (some .float) "leastSquare" 1 0 0 n0 (.inl (some (.float rr)), ws') 104 [some (.ref a0), some (.int i1), some (.int i2), some (.int i3), none, some (.int i5), none, none, none, none, none, none, some (.float f12)] [] ws 0 0 := by
  unfold m_X4_leastSquare_b104 at h
  refine j_fload (pc := 104) dX4_leastSquare_104 rfl ?_
  refine j_fstore_4 (pc := 106) dX4_leastSquare_106 (by decide) rfl ?_
  refine j_mask [true, true, true, true, true, true, false, false, false, false, false, false, false] ?_
  exact jm_X4_leastSquare_b108 (hk6 := hk6) _ _ _ _ _ _ ws h
def m_X4_leastSquare_b89 (k6 : Nat → Int32 → Int32 → Int32 → UInt32 → Int32 → LWd → Option (UInt32 × LWd)) (a0 : Nat) (i1 : Int32) (i2 : Int32) (i3 : Int32) (f4 : UInt32) (i5 : Int32) (s0 : UInt32) (ws : LWd) : Option (UInt32 × LWd) :=
  if i5 = 0 then
    m_X4_leastSquare_b104 k6 a0 i1 i2 i3 i5 s0 ws
  else
    if 0 ≤ (Op.cmpValue (FP.fcmp s0 f4) .g) then
      m_X4_leastSquare_b108 k6 a0 i1 i2 i3 f4 i5 ws
    else
      m_X4_leastSquare_b104 k6 a0 i1 i2 i3 i5 s0 ws
set_option maxRecDepth 100000 in
set_option maxHeartbeats 4000000 in
theorem jm_X4_leastSquare_b89 {n0 : Nat} {rr : UInt32} {ws' : LWd} {k6 : Nat → Int32 → Int32 → Int32 → UInt32 → Int32 → LWd → Option (UInt32 × LWd)} (hk6 : ∀ (a0 : Nat) (i1 : Int32) (i2 : Int32) (i3 : Int32) (f4 : UInt32) (i5 : Int32) (ws : LWd), k6 a0 i1 i2 i3 f4 i5 ws = some (rr, ws') → JG (.inl false) cX4_leastSquare 13 RX4 wsX4_leastSquare (some .float) "leastSquare" 1 0 0 n0 (.inl (some (.float rr)), ws') 6 [some (.ref a0), some (.int i1), some (.int i2), some (.int i3), some (.float f4), some (.int i5), none, none, none, none, none, none, none] [] ws 0 0) (a0 : Nat) (i1 : Int32) (i2 : Int32) (i3 : Int32) (f4 : UInt32) (i5 : Int32) (s0 : UInt32) (ws : LWd) (h : m_X4_leastSquare_b89 k6 a0 i1 i2 i3 f4 i5 s0 ws = some (rr, ws')) : JG (.inl false) cX4_leastSquare 13 RX4 wsX4_leastSquare (some .float) "leastSquare" 1 0 0 n0 (.inl (some (.float rr)), ws') 89 [some (.ref a0), some (.int i1), some (.int i2), some (.int i3), some (.float f4), some (.int i5), none, none, none, none, none, none, none] [.float s0] ws 0 0 := by
  unfold m_X4_leastSquare_b89 at h
  refine j_fstore_12 (pc := 89) dX4_leastSquare_89 (by decide) rfl ?_
  refine j_iload (pc := 91) dX4_leastSquare_91 rfl ?_
  refine j_if_eq (pc := 93) (tgt := 104) dX4_leastSquare_93 (by decide) (fun c1 => ?_) (fun c1 => ?_)
  · rw [if_pos c1] at h
    refine j_mask [true, true, true, true, false, true, false, false, false, false, false, false, true] ?_
    exact jm_X4_leastSquare_b104 (hk6 := hk6) _ _ _ _ _ _ ws h
  · rw [if_neg c1] at h
    refine j_fload (pc := 96) dX4_leastSquare_96 rfl ?_
    refine j_fload (pc := 98) dX4_leastSquare_98 rfl ?_
    refine j_fcmp (pc := 100) dX4_leastSquare_100 ?_
    refine j_if_ge (pc := 101) (tgt := 108) dX4_leastSquare_101 (by decide) (fun c2 => ?_) (fun c2 => ?_)
    · rw [if_pos c2] at h
      refine j_mask [true, true, true, true, true, true, false, false, false, false, false, false, false] ?_
      exact jm_X4_leastSquare_b108 (hk6 := hk6) _ _ _ _ _ _ ws h
    · rw [if_neg c2] at h
      refine j_mask [true, true, true, true, false, true, false, false, false, false, false, false, true] ?_
      exact jm_X4_leastSquare_b104 (hk6 := hk6) _ _ _ _ _ _ ws h
def m_X4_leastSquare_l6 : Nat → Nat → Int32 → Int32 → Int32 → UInt32 → Int32 → LWd → Option (UInt32 × LWd)
  | 0, _, _, _, _, _, _, _ => none
  | fu + 1, a0, i1, i2, i3, f4, i5, ws =>
    (fI ws a0 4 2).bind fun x1 =>
    if x1 ≤ i5 then
      some (f4, ws)
    else
      (fR ws a0 4 0).bind fun x4 =>
      bn2 (calSR ws (m_X8_at x4 i5 ws)) fun x8 w6 =>
      (fR w6 a0 4 0).bind fun x9 =>
      bn2 (calSR w6 (m_X8_at x9 (i5 + 1) w6)) fun x13 w11 =>
      bn2 (calSR w11 (m_X4_edgeByWay x8 x13 i1 i2 i3 w11)) fun x16 w14 =>
      bn2 (calSR w14 (m_X4_squareOfEdge x8 x13 w14)) fun x19 w17 =>
      if 0 < (lg_cmp (((Int32.toInt64 x19) * (Int32.toInt64 i3)) * (Int32.toInt64 i3)) 0) then
        (jnn (FP.fdiv (FP.l2f ((Int32.toInt64 x16) * (Int32.toInt64 x16))) (FP.l2f (((Int32.toInt64 x19) * (Int32.toInt64 i3)) * (Int32.toInt64 i3))))).bind fun x21 =>
        m_X4_leastSquare_b89 (fun z0 z1 z2 z3 z4 z5 w => m_X4_leastSquare_l6 fu z0 z1 z2 z3 z4 z5 w) a0 i1 i2 i3 f4 i5 x21 w17
      else
        m_X4_leastSquare_b89 (fun z0 z1 z2 z3 z4 z5 w => m_X4_leastSquare_l6 fu z0 z1 z2 z3 z4 z5 w) a0 i1 i2 i3 f4 i5 FP.fconst0 w17
set_option maxRecDepth 100000 in
set_option maxHeartbeats 4000000 in
theorem jm_X4_leastSquare_l6 {n0 : Nat} {rr : UInt32} {ws' : LWd} : ∀ (fu : Nat) (a0 : Nat) (i1 : Int32) (i2 : Int32) (i3 : Int32) (f4 : UInt32) (i5 : Int32) (ws : LWd), m_X4_leastSquare_l6 fu a0 i1 i2 i3 f4 i5 ws = some (rr, ws') → JG (.inl false) cX4_leastSquare 13 RX4 wsX4_leastSquare (some .float) "leastSquare" 1 0 0 n0 (.inl (some (.float rr)), ws') 6 [some (.ref a0), some (.int i1), some (.int i2), some (.int i3), some (.float f4), some (.int i5), none, none, none, none, none, none, none] [] ws 0 0 := by
  intro fu
  induction fu with
  | zero => intro a0 i1 i2 i3 f4 i5 ws h; first | (cases h; done) | (rw [m_X4_leastSquare_l6] at h; cases h)
  | succ fu ih =>
    intro a0 i1 i2 i3 f4 i5 ws h
    rw [m_X4_leastSquare_l6] at h
    refine j_iload (pc := 6) dX4_leastSquare_6 rfl ?_
    refine j_aload_n (pc := 8) dX4_leastSquare_8 rfl ?_
    obtain ⟨x1, e2, h⟩ := obS h
    refine j_getI (pc := 9) dX4_leastSquare_9 (ci := 4) (kf := 2) rfl (jwi hw_X4) (by decide) (jwm lw_18) e2 ?_
    refine j_icmp_ge (pc := 12) (tgt := 114) dX4_leastSquare_12 (by decide) (fun c3 => ?_) (fun c3 => ?_)
    · rw [if_pos c3] at h
      refine j_fload (pc := 114) dX4_leastSquare_114 rfl ?_
      obtain ⟨rfl, rfl⟩ := jretS h
      exact j_fret (pc := 116) rfl dX4_leastSquare_116 (by decide) (by decide) rfl
    · rw [if_neg c3] at h
      refine j_aload_n (pc := 15) dX4_leastSquare_15 rfl ?_
      obtain ⟨x4, e5, h⟩ := obS h
      refine j_getR (pc := 16) dX4_leastSquare_16 (ci := 4) (kf := 0) rfl (jwi hw_X4) (by decide) (jwm lw_16) e5 ?_
      refine j_iload (pc := 19) dX4_leastSquare_19 rfl ?_
      obtain ⟨x8, w6, e7, h⟩ := obS2 h
      have ge7 := calSR_of e7
      refine j_callV_g (pc := 21) (As := [.int i5]) (k' := 0) (n' := 0) dX4_leastSquare_21 (s_X8_at ge7.1) (jgV lw_196 lw_140 lw_141 lw_12 lw_138) rfl hv_X8_at rfl (r_X8_at ge7.1) rfl (by decide) (by decide) (Nat.le_of_ble_eq_true rfl) (by decide) (by decide) (by decide) (by decide) (Or.inl ge7.2) ?_
      refine j_istore_6 (pc := 24) dX4_leastSquare_24 (by decide) rfl ?_
      refine j_aload_n (pc := 26) dX4_leastSquare_26 rfl ?_
      obtain ⟨x9, e10, h⟩ := obS h
      refine j_getR (pc := 27) dX4_leastSquare_27 (ci := 4) (kf := 0) rfl (jwi hw_X4) (by decide) (jwm lw_16) e10 ?_
      refine j_iload (pc := 30) dX4_leastSquare_30 rfl ?_
      refine j_iconst (pc := 32) dX4_leastSquare_32 (v := 1) (by decide) ?_
      refine j_iadd (pc := 33) dX4_leastSquare_33 ?_
      obtain ⟨x13, w11, e12, h⟩ := obS2 h
      have ge12 := calSR_of e12
      refine j_callV_g (pc := 34) (As := [.int (i5 + 1)]) (k' := 0) (n' := 0) dX4_leastSquare_34 (s_X8_at ge12.1) (jgV lw_196 lw_140 lw_141 lw_12 lw_138) rfl hv_X8_at rfl (r_X8_at ge12.1) rfl (by decide) (by decide) (Nat.le_of_ble_eq_true rfl) (by decide) (by decide) (by decide) (by decide) (Or.inl ge12.2) ?_
      refine j_istore_7 (pc := 37) dX4_leastSquare_37 (by decide) rfl ?_
      refine j_iload (pc := 39) dX4_leastSquare_39 rfl ?_
      refine j_iload (pc := 41) dX4_leastSquare_41 rfl ?_
      refine j_iload_n (pc := 43) dX4_leastSquare_43 rfl ?_
      refine j_iload_n (pc := 44) dX4_leastSquare_44 rfl ?_
      refine j_iload_n (pc := 45) dX4_leastSquare_45 rfl ?_
      obtain ⟨x16, w14, e15, h⟩ := obS2 h
      have ge15 := calSR_of e15
      refine j_callS_g (pc := 46) (As := [.int x8, .int x13, .int i1, .int i2, .int i3]) (k' := 0) (n' := 0) dX4_leastSquare_46 (s_X4_edgeByWay ge15.1) (jgS lw_205 lw_206 lw_86 lw_204) rfl hy_X4_edgeByWay rfl (by decide) (by decide) (Nat.le_of_ble_eq_true rfl) (by decide) (by decide) (by decide) (by decide) (Or.inl ge15.2) ?_
      refine j_i2l (pc := 49) dX4_leastSquare_49 ?_
      refine j_lstore_8 (pc := 50) dX4_leastSquare_50 (by decide) rfl ?_
      refine j_iload (pc := 52) dX4_leastSquare_52 rfl ?_
      refine j_iload (pc := 54) dX4_leastSquare_54 rfl ?_
      obtain ⟨x19, w17, e18, h⟩ := obS2 h
      have ge18 := calSR_of e18
      refine j_callS_g (pc := 56) (As := [.int x8, .int x13]) (k' := 0) (n' := 0) dX4_leastSquare_56 (s_X4_squareOfEdge ge18.1) (jgS lw_459 lw_460 lw_86 lw_458) rfl hy_X4_squareOfEdge rfl (by decide) (by decide) (Nat.le_of_ble_eq_true rfl) (by decide) (by decide) (by decide) (by decide) (Or.inl ge18.2) ?_
      refine j_i2l (pc := 59) dX4_leastSquare_59 ?_
      refine j_iload_n (pc := 60) dX4_leastSquare_60 rfl ?_
      refine j_i2l (pc := 61) dX4_leastSquare_61 ?_
      refine j_lmul (pc := 62) dX4_leastSquare_62 ?_
      refine j_iload_n (pc := 63) dX4_leastSquare_63 rfl ?_
      refine j_i2l (pc := 64) dX4_leastSquare_64 ?_
      refine j_lmul (pc := 65) dX4_leastSquare_65 ?_
      refine j_lstore_10 (pc := 66) dX4_leastSquare_66 (by decide) rfl ?_
      refine j_lload (pc := 68) dX4_leastSquare_68 rfl ?_
      refine j_lconst (pc := 70) dX4_leastSquare_70 (v := 0) (by decide) ?_
      refine j_lcmp (pc := 71) dX4_leastSquare_71 ?_
      refine j_if_gt (pc := 72) (tgt := 79) dX4_leastSquare_72 (by decide) (fun c20 => ?_) (fun c20 => ?_)
      · rw [if_pos c20] at h
        refine j_lload (pc := 79) dX4_leastSquare_79 rfl ?_
        refine j_lload (pc := 81) dX4_leastSquare_81 rfl ?_
        refine j_lmul (pc := 83) dX4_leastSquare_83 ?_
        refine j_l2f (pc := 84) dX4_leastSquare_84 ?_
        refine j_lload (pc := 85) dX4_leastSquare_85 rfl ?_
        refine j_l2f (pc := 87) dX4_leastSquare_87 ?_
        obtain ⟨x21, e22, h⟩ := obS h
        obtain ⟨e22n, rfl⟩ := jnn_of e22
        refine j_fdiv (pc := 88) dX4_leastSquare_88 e22n ?_
        refine j_mask [true, true, true, true, true, true, false, false, false, false, false, false, false] ?_
        exact jm_X4_leastSquare_b89 (hk6 := ih) _ _ _ _ _ _ _ w17 h
      · rw [if_neg c20] at h
        refine j_fconst0 (pc := 75) dX4_leastSquare_75 ?_
        refine j_goto (pc := 76) (tgt := 89) dX4_leastSquare_76 (by decide) ?_
        refine j_mask [true, true, true, true, true, true, false, false, false, false, false, false, false] ?_
        exact jm_X4_leastSquare_b89 (hk6 := ih) _ _ _ _ _ _ _ w17 h
def m_X4_leastSquare (a0 : Nat) (i1 : Int32) (i2 : Int32) (i3 : Int32) (ws : LWd) : Option (UInt32 × LWd) :=
  (rcv ws a0 4).bind fun _ =>
  m_X4_leastSquare_l6 FU a0 i1 i2 i3 FP.fconst0 0 ws
set_option maxRecDepth 100000 in
set_option maxHeartbeats 4000000 in
theorem s_X4_leastSquare {a0 : Nat} {i1 : Int32} {i2 : Int32} {i3 : Int32} {ws : LWd} {rr : UInt32} {ws' : LWd} (h : m_X4_leastSquare a0 i1 i2 i3 ws = some (rr, ws')) : jSp yX4_leastSquare wsX4_leastSquare 1 0 0 [.ref a0, .int i1, .int i2, .int i3] ws (.inl (some (.float rr)), ws') := by
  unfold m_X4_leastSquare at h
  refine j_entry (ret := (some .float)) (nm := "leastSquare") (own := RX4) pl_X4 rfl rfl rfl (jcats (by rfl)) (Nat.le_of_ble_eq_true rfl) ?_
  show JG (.inl false) cX4_leastSquare 13 RX4 wsX4_leastSquare (some .float) "leastSquare" 1 0 0 ws.length (.inl (some (.float rr)), ws') 0 [some (.ref a0), some (.int i1), some (.int i2), some (.int i3), none, none, none, none, none, none, none, none, none] [] ws 0 0
  obtain ⟨_, _, h⟩ := obS h
  refine j_fconst0 (pc := 0) dX4_leastSquare_0 ?_
  refine j_fstore_4 (pc := 1) dX4_leastSquare_1 (by decide) rfl ?_
  refine j_iconst (pc := 3) dX4_leastSquare_3 (v := 0) (by decide) ?_
  refine j_istore_5 (pc := 4) dX4_leastSquare_4 (by decide) rfl ?_
  exact jm_X4_leastSquare_l6 FU _ _ _ _ _ _ ws h
theorem r_X4_leastSquare {a0 : Nat} {i1 : Int32} {i2 : Int32} {i3 : Int32} {ws : LWd} {o : (UInt32 × LWd)} (h : m_X4_leastSquare a0 i1 i2 i3 ws = some o) : ∃ fs, ws[a0]? = some (.inr (4, fs)) := rcv_in h
def wsX10_bitsOf : List Cond := Cond.code yX10_bitsOf cX10_bitsOf 4 (some .int) :: jW
def m_X10_bitsOf_b67 (i1 : Int32) (f2 : UInt32) (ws : LWd) : Option (Int32 × LWd) :=
  (jnn (FP.fsub f2 FP.fconst1)).bind fun x1 =>
  (jnn (FP.fmul x1 1258291200)).bind fun x3 =>
  some ((i1 <<< (23 &&& 31)) ||| (FP.f2i x3), ws)
set_option maxRecDepth 100000 in
set_option maxHeartbeats 4000000 in
theorem jm_X10_bitsOf_b67 {n0 : Nat} {rr : Int32} {ws' : LWd} (i1 : Int32) (f2 : UInt32) (ws : LWd) (h : m_X10_bitsOf_b67 i1 f2 ws = some (rr, ws')) : JG (.inl false) cX10_bitsOf 4 RX10 wsX10_bitsOf (some .int) "bitsOf" 0 0 0 n0 (.inl (some (.int rr)), ws') 67 [none, some (.int i1), some (.float f2), none] [] ws 0 0 := by
  unfold m_X10_bitsOf_b67 at h
  refine j_iload_n (pc := 67) dX10_bitsOf_67 rfl ?_
  refine j_bipush (pc := 68) dX10_bitsOf_68 (v := 23) (by decide) ?_
  refine j_ishl (pc := 70) dX10_bitsOf_70 ?_
  refine j_fload_n (pc := 71) dX10_bitsOf_71 rfl ?_
  refine j_fconst1 (pc := 72) dX10_bitsOf_72 ?_
  obtain ⟨x1, e2, h⟩ := obS h
  obtain ⟨e2n, rfl⟩ := jnn_of e2
  refine j_fsub (pc := 73) dX10_bitsOf_73 e2n ?_
  refine j_ldcfw (pc := 74) dX10_bitsOf_74 (v := 1258291200) (jwm lw_461) ?_
  obtain ⟨x3, e4, h⟩ := obS h
  obtain ⟨e4n, rfl⟩ := jnn_of e4
  refine j_fmul (pc := 77) dX10_bitsOf_77 e4n ?_
  refine j_f2i (pc := 78) dX10_bitsOf_78 ?_
  refine j_ior (pc := 79) dX10_bitsOf_79 ?_
  obtain ⟨rfl, rfl⟩ := jretS h
  exact j_iret (pc := 80) rfl dX10_bitsOf_80 (by decide) (by decide) rfl
def m_X10_bitsOf_l42 : Nat → Int32 → UInt32 → Int32 → LWd → Option (Int32 × LWd)
  | 0, _, _, _, _ => none
  | fu + 1, i1, f2, i3, ws =>
    if 126 ≤ i3 then
      m_X10_bitsOf_b67 i1 f2 ws
    else
      if 0 ≤ (Op.cmpValue (FP.fcmp f2 FP.fconst1) .g) then
        m_X10_bitsOf_b67 i1 f2 ws
      else
        (jnn (FP.fmul f2 FP.fconst2)).bind fun x3 =>
        m_X10_bitsOf_l42 fu (i1 + (-1)) x3 (i3 + 1) ws
set_option maxRecDepth 100000 in
set_option maxHeartbeats 4000000 in
theorem jm_X10_bitsOf_l42 {n0 : Nat} {rr : Int32} {ws' : LWd} : ∀ (fu : Nat) (i1 : Int32) (f2 : UInt32) (i3 : Int32) (ws : LWd), m_X10_bitsOf_l42 fu i1 f2 i3 ws = some (rr, ws') → JG (.inl false) cX10_bitsOf 4 RX10 wsX10_bitsOf (some .int) "bitsOf" 0 0 0 n0 (.inl (some (.int rr)), ws') 42 [none, some (.int i1), some (.float f2), some (.int i3)] [] ws 0 0 := by
  intro fu
  induction fu with
  | zero => intro i1 f2 i3 ws h; first | (cases h; done) | (rw [m_X10_bitsOf_l42] at h; cases h)
  | succ fu ih =>
    intro i1 f2 i3 ws h
    rw [m_X10_bitsOf_l42] at h
    refine j_iload_n (pc := 42) dX10_bitsOf_42 rfl ?_
    refine j_bipush (pc := 43) dX10_bitsOf_43 (v := 126) (by decide) ?_
    refine j_icmp_ge (pc := 45) (tgt := 67) dX10_bitsOf_45 (by decide) (fun c1 => ?_) (fun c1 => ?_)
    · rw [if_pos c1] at h
      refine j_mask [false, true, true, false] ?_
      exact jm_X10_bitsOf_b67 _ _ ws h
    · rw [if_neg c1] at h
      refine j_fload_n (pc := 48) dX10_bitsOf_48 rfl ?_
      refine j_fconst1 (pc := 49) dX10_bitsOf_49 ?_
      refine j_fcmp (pc := 50) dX10_bitsOf_50 ?_
      refine j_if_ge (pc := 51) (tgt := 67) dX10_bitsOf_51 (by decide) (fun c2 => ?_) (fun c2 => ?_)
      · rw [if_pos c2] at h
        refine j_mask [false, true, true, false] ?_
        exact jm_X10_bitsOf_b67 _ _ ws h
      · rw [if_neg c2] at h
        refine j_fload_n (pc := 54) dX10_bitsOf_54 rfl ?_
        refine j_fconst2 (pc := 55) dX10_bitsOf_55 ?_
        obtain ⟨x3, e4, h⟩ := obS h
        obtain ⟨e4n, rfl⟩ := jnn_of e4
        refine j_fmul (pc := 56) dX10_bitsOf_56 e4n ?_
        refine j_fstore_n_2 (pc := 57) dX10_bitsOf_57 (by decide) rfl ?_
        refine j_iinc_1 (pc := 58) dX10_bitsOf_58 (y := i1 + (-1)) rfl (by decide) rfl ?_
        refine j_iinc_3 (pc := 61) dX10_bitsOf_61 (y := i3 + 1) rfl (by decide) rfl ?_
        refine j_goto (pc := 64) (tgt := 42) dX10_bitsOf_64 (by decide) ?_
        exact ih _ _ _ ws h
def m_X10_bitsOf_b40 (i1 : Int32) (f2 : UInt32) (ws : LWd) : Option (Int32 × LWd) :=
  m_X10_bitsOf_l42 FU i1 f2 0 ws
set_option maxRecDepth 100000 in
set_option maxHeartbeats 4000000 in
theorem jm_X10_bitsOf_b40 {n0 : Nat} {rr : Int32} {ws' : LWd} (i1 : Int32) (f2 : UInt32) (ws : LWd) (h : m_X10_bitsOf_b40 i1 f2 ws = some (rr, ws')) : JG (.inl false) cX10_bitsOf 4 RX10 wsX10_bitsOf (some .int) "bitsOf" 0 0 0 n0 (.inl (some (.int rr)), ws') 40 [none, some (.int i1), some (.float f2), none] [] ws 0 0 := by
  unfold m_X10_bitsOf_b40 at h
  refine j_iconst (pc := 40) dX10_bitsOf_40 (v := 0) (by decide) ?_
  refine j_istore_n_3 (pc := 41) dX10_bitsOf_41 (by decide) rfl ?_
  exact jm_X10_bitsOf_l42 FU _ _ _ ws h
def m_X10_bitsOf_l15 : Nat → Int32 → UInt32 → Int32 → LWd → Option (Int32 × LWd)
  | 0, _, _, _, _ => none
  | fu + 1, i1, f2, i3, ws =>
    if 126 ≤ i3 then
      m_X10_bitsOf_b40 i1 f2 ws
    else
      if (Op.cmpValue (FP.fcmp f2 FP.fconst2) .l) < 0 then
        m_X10_bitsOf_b40 i1 f2 ws
      else
        (jnn (FP.fdiv f2 FP.fconst2)).bind fun x3 =>
        m_X10_bitsOf_l15 fu (i1 + 1) x3 (i3 + 1) ws
set_option maxRecDepth 100000 in
set_option maxHeartbeats 4000000 in
theorem jm_X10_bitsOf_l15 {n0 : Nat} {rr : Int32} {ws' : LWd} : ∀ (fu : Nat) (i1 : Int32) (f2 : UInt32) (i3 : Int32) (ws : LWd), m_X10_bitsOf_l15 fu i1 f2 i3 ws = some (rr, ws') → JG (.inl false) cX10_bitsOf 4 RX10 wsX10_bitsOf (some .int) "bitsOf" 0 0 0 n0 (.inl (some (.int rr)), ws') 15 [none, some (.int i1), some (.float f2), some (.int i3)] [] ws 0 0 := by
  intro fu
  induction fu with
  | zero => intro i1 f2 i3 ws h; first | (cases h; done) | (rw [m_X10_bitsOf_l15] at h; cases h)
  | succ fu ih =>
    intro i1 f2 i3 ws h
    rw [m_X10_bitsOf_l15] at h
    refine j_iload_n (pc := 15) dX10_bitsOf_15 rfl ?_
    refine j_bipush (pc := 16) dX10_bitsOf_16 (v := 126) (by decide) ?_
    refine j_icmp_ge (pc := 18) (tgt := 40) dX10_bitsOf_18 (by decide) (fun c1 => ?_) (fun c1 => ?_)
    · rw [if_pos c1] at h
      refine j_mask [false, true, true, false] ?_
      exact jm_X10_bitsOf_b40 _ _ ws h
    · rw [if_neg c1] at h
      refine j_fload_n (pc := 21) dX10_bitsOf_21 rfl ?_
      refine j_fconst2 (pc := 22) dX10_bitsOf_22 ?_
      refine j_fcmp (pc := 23) dX10_bitsOf_23 ?_
      refine j_if_lt (pc := 24) (tgt := 40) dX10_bitsOf_24 (by decide) (fun c2 => ?_) (fun c2 => ?_)
      · rw [if_pos c2] at h
        refine j_mask [false, true, true, false] ?_
        exact jm_X10_bitsOf_b40 _ _ ws h
      · rw [if_neg c2] at h
        refine j_fload_n (pc := 27) dX10_bitsOf_27 rfl ?_
        refine j_fconst2 (pc := 28) dX10_bitsOf_28 ?_
        obtain ⟨x3, e4, h⟩ := obS h
        obtain ⟨e4n, rfl⟩ := jnn_of e4
        refine j_fdiv (pc := 29) dX10_bitsOf_29 e4n ?_
        refine j_fstore_n_2 (pc := 30) dX10_bitsOf_30 (by decide) rfl ?_
        refine j_iinc_1 (pc := 31) dX10_bitsOf_31 (y := i1 + 1) rfl (by decide) rfl ?_
        refine j_iinc_3 (pc := 34) dX10_bitsOf_34 (y := i3 + 1) rfl (by decide) rfl ?_
        refine j_goto (pc := 37) (tgt := 15) dX10_bitsOf_37 (by decide) ?_
        exact ih _ _ _ ws h
def m_X10_bitsOf (f0 : UInt32) (ws : LWd) : Option (Int32 × LWd) :=
  if 0 < (Op.cmpValue (FP.fcmp f0 FP.fconst0) .g) then
    m_X10_bitsOf_l15 FU 127 f0 0 ws
  else
    some (0, ws)
set_option maxRecDepth 100000 in
set_option maxHeartbeats 4000000 in
theorem s_X10_bitsOf {f0 : UInt32} {ws : LWd} {rr : Int32} {ws' : LWd} (h : m_X10_bitsOf f0 ws = some (rr, ws')) : jSp yX10_bitsOf wsX10_bitsOf 0 0 0 [.float f0] ws (.inl (some (.int rr)), ws') := by
  unfold m_X10_bitsOf at h
  refine j_entry (ret := (some .int)) (nm := "bitsOf") (own := RX10) pl_X10 rfl rfl rfl (jcats (by rfl)) (Nat.le_of_ble_eq_true rfl) ?_
  show JG (.inl false) cX10_bitsOf 4 RX10 wsX10_bitsOf (some .int) "bitsOf" 0 0 0 ws.length (.inl (some (.int rr)), ws') 0 [some (.float f0), none, none, none] [] ws 0 0
  refine j_fload_n (pc := 0) dX10_bitsOf_0 rfl ?_
  refine j_fconst0 (pc := 1) dX10_bitsOf_1 ?_
  refine j_fcmp (pc := 2) dX10_bitsOf_2 ?_
  refine j_if_gt (pc := 3) (tgt := 8) dX10_bitsOf_3 (by decide) (fun c1 => ?_) (fun c1 => ?_)
  · rw [if_pos c1] at h
    refine j_bipush (pc := 8) dX10_bitsOf_8 (v := 127) (by decide) ?_
    refine j_istore_n_1 (pc := 10) dX10_bitsOf_10 (by decide) rfl ?_
    refine j_fload_n (pc := 11) dX10_bitsOf_11 rfl ?_
    refine j_fstore_n_2 (pc := 12) dX10_bitsOf_12 (by decide) rfl ?_
    refine j_iconst (pc := 13) dX10_bitsOf_13 (v := 0) (by decide) ?_
    refine j_istore_n_3 (pc := 14) dX10_bitsOf_14 (by decide) rfl ?_
    refine j_mask [false, true, true, true] ?_
    exact jm_X10_bitsOf_l15 FU _ _ _ ws h
  · rw [if_neg c1] at h
    refine j_iconst (pc := 6) dX10_bitsOf_6 (v := 0) (by decide) ?_
    obtain ⟨rfl, rfl⟩ := jretS h
    exact j_iret (pc := 7) rfl dX10_bitsOf_7 (by decide) (by decide) rfl
def wsX10_margin : List Cond := Cond.code yX10_margin cX10_margin 2 (some .int) :: jW
def m_X10_margin (a0 : Nat) (ws : LWd) : Option (Int32 × LWd) :=
  (rcv ws a0 10).bind fun _ =>
  (fR ws a0 10 2).bind fun x1 =>
  bn2 (calSR ws (m_X9_holdsWithout x1 ((-1)) ws)) fun x5 w3 =>
  if x5 = 0 then
    some ((-1082130432), w3)
  else
    (fR w3 a0 10 2).bind fun x7 =>
    (fR w3 x7 9 2).bind fun x9 =>
    (fI w3 x9 4 2).bind fun x11 =>
    if 3 ≤ x11 then
      (fR w3 a0 10 2).bind fun x14 =>
      bn2 (calSR w3 (m_X9_momentX x14 w3)) fun x18 w16 =>
      (fR w16 a0 10 2).bind fun x19 =>
      bn2 (calSR w16 (m_X9_momentY x19 w16)) fun x23 w21 =>
      (fR w21 a0 10 1).bind fun x24 =>
      bn2 (calSR w21 (m_X2_weight x24 w21)) fun x28 w26 =>
      bn2 (calSR w26 (m_X4_leastSquare x9 x18 x23 x28 w26)) fun x31 w29 =>
      bn2 (calSR w29 (m_X10_bitsOf x31 w29)) fun x34 w32 =>
      some (x34, w32)
    else
      some (0, w3)
set_option maxRecDepth 100000 in
set_option maxHeartbeats 4000000 in
theorem s_X10_margin {a0 : Nat} {ws : LWd} {rr : Int32} {ws' : LWd} (h : m_X10_margin a0 ws = some (rr, ws')) : jSp yX10_margin wsX10_margin 3 0 0 [.ref a0] ws (.inl (some (.int rr)), ws') := by
  unfold m_X10_margin at h
  refine j_entry (ret := (some .int)) (nm := "margin") (own := RX10) pl_X10 rfl rfl rfl (jcats (by rfl)) (Nat.le_of_ble_eq_true rfl) ?_
  show JG (.inl false) cX10_margin 2 RX10 wsX10_margin (some .int) "margin" 3 0 0 ws.length (.inl (some (.int rr)), ws') 0 [some (.ref a0), none] [] ws 0 0
  obtain ⟨_, _, h⟩ := obS h
  refine j_aload_n (pc := 0) dX10_margin_0 rfl ?_
  obtain ⟨x1, e2, h⟩ := obS h
  refine j_getR (pc := 1) dX10_margin_1 (ci := 10) (kf := 2) rfl (jwi hw_X10) (by decide) (jwm lw_103) e2 ?_
  refine j_iconst (pc := 4) dX10_margin_4 (v := (-1)) (by decide) ?_
  obtain ⟨x5, w3, e4, h⟩ := obS2 h
  have ge4 := calSR_of e4
  refine j_callV_g (pc := 5) (As := [.int ((-1))]) (k' := 0) (n' := 0) dX10_margin_5 (s_X9_holdsWithout ge4.1) (jgV lw_244 lw_245 lw_246 lw_76 lw_243) rfl hv_X9_holdsWithout rfl (r_X9_holdsWithout ge4.1) rfl (by decide) (by decide) (Nat.le_of_ble_eq_true rfl) (by decide) (by decide) (by decide) (by decide) (Or.inl ge4.2) ?_
  refine j_if_ne (pc := 8) (tgt := 15) dX10_margin_8 (by decide) (fun c6 => ?_) (fun c6 => ?_)
  · rw [if_neg c6] at h
    refine j_aload_n (pc := 15) dX10_margin_15 rfl ?_
    obtain ⟨x7, e8, h⟩ := obS h
    refine j_getR (pc := 16) dX10_margin_16 (ci := 10) (kf := 2) rfl (jwi hw_X10) (by decide) (jwm lw_103) e8 ?_
    obtain ⟨x9, e10, h⟩ := obS h
    refine j_getR (pc := 19) dX10_margin_19 (ci := 9) (kf := 2) rfl (jwi hw_X9) (by decide) (jwm lw_462) e10 ?_
    refine j_astore_n_1 (pc := 22) dX10_margin_22 (by decide) rfl ?_
    refine j_aload_n (pc := 23) dX10_margin_23 rfl ?_
    obtain ⟨x11, e12, h⟩ := obS h
    refine j_getI (pc := 24) dX10_margin_24 (ci := 4) (kf := 2) rfl (jwi hw_X4) (by decide) (jwm lw_463) e12 ?_
    refine j_iconst (pc := 27) dX10_margin_27 (v := 3) (by decide) ?_
    refine j_icmp_ge (pc := 28) (tgt := 35) dX10_margin_28 (by decide) (fun c13 => ?_) (fun c13 => ?_)
    · rw [if_pos c13] at h
      refine j_aload_n (pc := 35) dX10_margin_35 rfl ?_
      refine j_aload_n (pc := 36) dX10_margin_36 rfl ?_
      obtain ⟨x14, e15, h⟩ := obS h
      refine j_getR (pc := 37) dX10_margin_37 (ci := 10) (kf := 2) rfl (jwi hw_X10) (by decide) (jwm lw_103) e15 ?_
      obtain ⟨x18, w16, e17, h⟩ := obS2 h
      have ge17 := calSR_of e17
      refine j_callV_g (pc := 40) (As := []) (k' := 0) (n' := 0) dX10_margin_40 (s_X9_momentX ge17.1) (jgV lw_448 lw_218 lw_219 lw_76 lw_216) rfl hv_X9_momentX rfl (r_X9_momentX ge17.1) rfl (by decide) (by decide) (Nat.le_of_ble_eq_true rfl) (by decide) (by decide) (by decide) (by decide) (Or.inl ge17.2) ?_
      refine j_aload_n (pc := 43) dX10_margin_43 rfl ?_
      obtain ⟨x19, e20, h⟩ := obS h
      refine j_getR (pc := 44) dX10_margin_44 (ci := 10) (kf := 2) rfl (jwi hw_X10) (by decide) (jwm lw_103) e20 ?_
      obtain ⟨x23, w21, e22, h⟩ := obS2 h
      have ge22 := calSR_of e22
      refine j_callV_g (pc := 47) (As := []) (k' := 0) (n' := 0) dX10_margin_47 (s_X9_momentY ge22.1) (jgV lw_449 lw_222 lw_223 lw_76 lw_220) rfl hv_X9_momentY rfl (r_X9_momentY ge22.1) rfl (by decide) (by decide) (Nat.le_of_ble_eq_true rfl) (by decide) (by decide) (by decide) (by decide) (Or.inl ge22.2) ?_
      refine j_aload_n (pc := 50) dX10_margin_50 rfl ?_
      obtain ⟨x24, e25, h⟩ := obS h
      refine j_getR (pc := 51) dX10_margin_51 (ci := 10) (kf := 1) rfl (jwi hw_X10) (by decide) (jwm lw_100) e25 ?_
      obtain ⟨x28, w26, e27, h⟩ := obS2 h
      have ge27 := calSR_of e27
      refine j_callV_g (pc := 54) (As := []) (k' := 0) (n' := 0) dX10_margin_54 (s_X2_weight ge27.1) (jgV lw_403 lw_226 lw_227 lw_97 lw_224) rfl hv_X2_weight rfl (r_X2_weight ge27.1) rfl (by decide) (by decide) (Nat.le_of_ble_eq_true rfl) (by decide) (by decide) (by decide) (by decide) (Or.inl ge27.2) ?_
      obtain ⟨x31, w29, e30, h⟩ := obS2 h
      have ge30 := calSR_of e30
      refine j_callV_g (pc := 57) (As := [.int x18, .int x23, .int x28]) (k' := 0) (n' := 0) dX10_margin_57 (s_X4_leastSquare ge30.1) (jgV lw_465 lw_466 lw_467 lw_86 lw_464) rfl hv_X4_leastSquare rfl (r_X4_leastSquare ge30.1) rfl (by decide) (by decide) (Nat.le_of_ble_eq_true rfl) (by decide) (by decide) (by decide) (by decide) (Or.inl ge30.2) ?_
      obtain ⟨x34, w32, e33, h⟩ := obS2 h
      have ge33 := calSR_of e33
      refine j_callS_g (pc := 60) (As := [.float x31]) (k' := 0) (n' := 0) dX10_margin_60 (s_X10_bitsOf ge33.1) (jgS lw_469 lw_470 lw_147 lw_468) rfl hy_X10_bitsOf rfl (by decide) (by decide) (Nat.le_of_ble_eq_true rfl) (by decide) (by decide) (by decide) (by decide) (Or.inl ge33.2) ?_
      obtain ⟨rfl, rfl⟩ := jretS h
      exact j_iret (pc := 63) rfl dX10_margin_63 (by decide) (by decide) rfl
    · rw [if_neg c13] at h
      refine j_iconst (pc := 31) dX10_margin_31 (v := 0) (by decide) ?_
      refine j_goto (pc := 32) (tgt := 63) dX10_margin_32 (by decide) ?_
      obtain ⟨rfl, rfl⟩ := jretS h
      exact j_iret (pc := 63) rfl dX10_margin_63 (by decide) (by decide) rfl
  · rw [if_pos c6] at h
    refine j_ldcw (pc := 11) dX10_margin_11 (v := (-1082130432)) (jwm lw_471) ?_
    obtain ⟨rfl, rfl⟩ := jretS h
    exact j_iret (pc := 14) rfl dX10_margin_14 (by decide) (by decide) rfl
theorem r_X10_margin {a0 : Nat} {ws : LWd} {o : (Int32 × LWd)} (h : m_X10_margin a0 ws = some o) : ∃ fs, ws[a0]? = some (.inr (10, fs)) := rcv_in h
def wsX10_corner : List Cond := Cond.code yX10_corner cX10_corner 2 (some .int) :: jW
def m_X10_corner (a0 : Nat) (i1 : Int32) (ws : LWd) : Option ((Int32 ⊕ String) × LWd) :=
  (rcv ws a0 10).bind fun _ =>
  if 0 ≤ i1 then
    (fR ws a0 10 2).bind fun x2 =>
    (fR ws x2 9 2).bind fun x4 =>
    (fR ws a0 10 2).bind fun x6 =>
    (fR ws x6 9 3).bind fun x8 =>
    (calSV ws (m_X4_wrap x4 x8 ((-1)) ws)).bind fun w10 =>
    (fR w10 a0 10 2).bind fun x12 =>
    (fR w10 x12 9 2).bind fun x14 =>
    (fI w10 x14 4 2).bind fun x16 =>
    if x16 ≤ i1 then
      some (.inl ((-1)), w10)
    else
      (fR w10 a0 10 2).bind fun x19 =>
      (fR w10 x19 9 2).bind fun x21 =>
      (fR w10 x21 4 0).bind fun x23 =>
      bn2 (calSR w10 (m_X8_at x23 i1 w10)) fun x27 w25 =>
      some (.inl x27, w25)
  else
    some (.inr "java/lang/IllegalArgumentException", ws)
set_option maxRecDepth 100000 in
set_option maxHeartbeats 4000000 in
theorem s_X10_corner {a0 : Nat} {i1 : Int32} {ws : LWd} {rr : Int32 ⊕ String} {ws' : LWd} (h : m_X10_corner a0 i1 ws = some (rr, ws')) : jSX yX10_corner wsX10_corner 6 1 6 [.ref a0, .int i1] ws (jthr rr, ws') := by
  unfold m_X10_corner at h
  refine j_entryX (ret := (some .int)) (nm := "corner") (own := RX10) pl_X10 rfl rfl rfl (jcats (by rfl)) (Nat.le_of_ble_eq_true rfl) ?_
  show JG (.inl true) cX10_corner 2 RX10 wsX10_corner (some .int) "corner" 6 1 6 ws.length (jthr rr, ws') 0 [some (.ref a0), some (.int i1)] [] ws 0 0
  obtain ⟨_, _, h⟩ := obS h
  refine j_iload_n (pc := 0) dX10_corner_0 rfl ?_
  refine j_if_ge (pc := 1) (tgt := 15) dX10_corner_1 (by decide) (fun c1 => ?_) (fun c1 => ?_)
  · rw [if_pos c1] at h
    refine j_aload_n (pc := 15) dX10_corner_15 rfl ?_
    obtain ⟨x2, e3, h⟩ := obS h
    refine j_getR (pc := 16) dX10_corner_16 (ci := 10) (kf := 2) rfl (jwi hw_X10) (by decide) (jwm lw_103) e3 ?_
    obtain ⟨x4, e5, h⟩ := obS h
    refine j_getR (pc := 19) dX10_corner_19 (ci := 9) (kf := 2) rfl (jwi hw_X9) (by decide) (jwm lw_462) e5 ?_
    refine j_aload_n (pc := 22) dX10_corner_22 rfl ?_
    obtain ⟨x6, e7, h⟩ := obS h
    refine j_getR (pc := 23) dX10_corner_23 (ci := 10) (kf := 2) rfl (jwi hw_X10) (by decide) (jwm lw_103) e7 ?_
    obtain ⟨x8, e9, h⟩ := obS h
    refine j_getR (pc := 26) dX10_corner_26 (ci := 9) (kf := 3) rfl (jwi hw_X9) (by decide) (jwm lw_265) e9 ?_
    refine j_iconst (pc := 29) dX10_corner_29 (v := (-1)) (by decide) ?_
    obtain ⟨w10, e11, h⟩ := obS h
    have ge11 := calSV_of e11
    have le11 := ge11.2
    refine j_callV_g (pc := 30) (As := [.ref x8, .int ((-1))]) (k' := 0) (n' := 0) dX10_corner_30 (s_X4_wrap ge11.1) (jgV lw_472 lw_214 lw_215 lw_86 lw_212) rfl hv_X4_wrap rfl (r_X4_wrap ge11.1) rfl (by decide) (by decide) (Nat.le_of_ble_eq_true rfl) (by decide) (by decide) (by decide) (by decide) (Or.inl ge11.2) ?_
    refine j_iload_n (pc := 33) dX10_corner_33 rfl ?_
    refine j_aload_n (pc := 34) dX10_corner_34 rfl ?_
    obtain ⟨x12, e13, h⟩ := obS h
    refine j_getR (pc := 35) dX10_corner_35 (ci := 10) (kf := 2) rfl (jwi hw_X10) (by decide) (jwm lw_103) e13 ?_
    obtain ⟨x14, e15, h⟩ := obS h
    refine j_getR (pc := 38) dX10_corner_38 (ci := 9) (kf := 2) rfl (jwi hw_X9) (by decide) (jwm lw_462) e15 ?_
    obtain ⟨x16, e17, h⟩ := obS h
    refine j_getI (pc := 41) dX10_corner_41 (ci := 4) (kf := 2) rfl (jwi hw_X4) (by decide) (jwm lw_463) e17 ?_
    refine j_icmp_ge (pc := 44) (tgt := 64) dX10_corner_44 (by decide) (fun c18 => ?_) (fun c18 => ?_)
    · rw [if_pos c18] at h
      refine j_iconst (pc := 64) dX10_corner_64 (v := (-1)) (by decide) ?_
      obtain ⟨rfl, rfl⟩ := jretS h
      exact j_iret (pc := 65) rfl dX10_corner_65 (by decide) (by decide) rfl
    · rw [if_neg c18] at h
      refine j_aload_n (pc := 47) dX10_corner_47 rfl ?_
      obtain ⟨x19, e20, h⟩ := obS h
      refine j_getR (pc := 48) dX10_corner_48 (ci := 10) (kf := 2) rfl (jwi hw_X10) (by decide) (jwm lw_103) e20 ?_
      obtain ⟨x21, e22, h⟩ := obS h
      refine j_getR (pc := 51) dX10_corner_51 (ci := 9) (kf := 2) rfl (jwi hw_X9) (by decide) (jwm lw_462) e22 ?_
      obtain ⟨x23, e24, h⟩ := obS h
      refine j_getR (pc := 54) dX10_corner_54 (ci := 4) (kf := 0) rfl (jwi hw_X4) (by decide) (jwm lw_473) e24 ?_
      refine j_iload_n (pc := 57) dX10_corner_57 rfl ?_
      obtain ⟨x27, w25, e26, h⟩ := obS2 h
      have ge26 := calSR_of e26
      have le26 := ge26.2
      refine j_callV_g (pc := 58) (As := [.int i1]) (k' := 0) (n' := 0) dX10_corner_58 (s_X8_at ge26.1) (jgV lw_156 lw_140 lw_141 lw_12 lw_138) rfl hv_X8_at rfl (r_X8_at ge26.1) rfl (by decide) (by decide) (Nat.le_of_ble_eq_true rfl) (by decide) (by decide) (by decide) (by decide) (Or.inl ge26.2) ?_
      refine j_goto (pc := 61) (tgt := 65) dX10_corner_61 (by decide) ?_
      obtain ⟨rfl, rfl⟩ := jretS h
      exact j_iret (pc := 65) rfl dX10_corner_65 (by decide) (by decide) rfl
  · rw [if_neg c1] at h
    obtain ⟨rfl, rfl⟩ := jretS h
    exact j_throwW (pc := 4) (text := "no such corner") rfl rfl dX10_corner_4 dX10_corner_7 dX10_corner_8 dX10_corner_11 dX10_corner_14 (List.mem_of_getElem? (i := 15) rfl) (List.mem_of_getElem? (i := 0) rfl) (jfit _ (List.mem_of_getElem? (i := 0) rfl)) (jwm lw_142) (jwm lw_143) (jwi hwx_93) jgo_93 (by decide) (Nat.le_of_ble_eq_true rfl) (by decide) (by decide) (by omega) rfl
theorem r_X10_corner {a0 : Nat} {i1 : Int32} {ws : LWd} {o : ((Int32 ⊕ String) × LWd)} (h : m_X10_corner a0 i1 ws = some o) : ∃ fs, ws[a0]? = some (.inr (10, fs)) := rcv_in h
set_option maxRecDepth 100000 in
set_option maxHeartbeats 4000000 in
theorem sn_X10_corner {a0 : Nat} {i1 : Int32} {ws : LWd} {rr : Int32} {ws' : LWd} (h : m_X10_corner a0 i1 ws = some (.inl rr, ws')) : jSp yX10_corner wsX10_corner 6 0 0 [.ref a0, .int i1] ws (.inl (some (.int rr)), ws') := by
  unfold m_X10_corner at h
  refine j_entry (ret := (some .int)) (nm := "corner") (own := RX10) pl_X10 rfl rfl rfl (jcats (by rfl)) (Nat.le_of_ble_eq_true rfl) ?_
  show JG (.inl false) cX10_corner 2 RX10 wsX10_corner (some .int) "corner" 6 0 0 ws.length (.inl (some (.int rr)), ws') 0 [some (.ref a0), some (.int i1)] [] ws 0 0
  obtain ⟨_, _, h⟩ := obS h
  refine j_iload_n (pc := 0) dX10_corner_0 rfl ?_
  refine j_if_ge (pc := 1) (tgt := 15) dX10_corner_1 (by decide) (fun c1 => ?_) (fun c1 => ?_)
  · rw [if_pos c1] at h
    refine j_aload_n (pc := 15) dX10_corner_15 rfl ?_
    obtain ⟨x2, e3, h⟩ := obS h
    refine j_getR (pc := 16) dX10_corner_16 (ci := 10) (kf := 2) rfl (jwi hw_X10) (by decide) (jwm lw_103) e3 ?_
    obtain ⟨x4, e5, h⟩ := obS h
    refine j_getR (pc := 19) dX10_corner_19 (ci := 9) (kf := 2) rfl (jwi hw_X9) (by decide) (jwm lw_462) e5 ?_
    refine j_aload_n (pc := 22) dX10_corner_22 rfl ?_
    obtain ⟨x6, e7, h⟩ := obS h
    refine j_getR (pc := 23) dX10_corner_23 (ci := 10) (kf := 2) rfl (jwi hw_X10) (by decide) (jwm lw_103) e7 ?_
    obtain ⟨x8, e9, h⟩ := obS h
    refine j_getR (pc := 26) dX10_corner_26 (ci := 9) (kf := 3) rfl (jwi hw_X9) (by decide) (jwm lw_265) e9 ?_
    refine j_iconst (pc := 29) dX10_corner_29 (v := (-1)) (by decide) ?_
    obtain ⟨w10, e11, h⟩ := obS h
    have ge11 := calSV_of e11
    have le11 := ge11.2
    refine j_callV_g (pc := 30) (As := [.ref x8, .int ((-1))]) (k' := 0) (n' := 0) dX10_corner_30 (s_X4_wrap ge11.1) (jgV lw_472 lw_214 lw_215 lw_86 lw_212) rfl hv_X4_wrap rfl (r_X4_wrap ge11.1) rfl (by decide) (by decide) (Nat.le_of_ble_eq_true rfl) (by decide) (by decide) (by decide) (by decide) (Or.inl ge11.2) ?_
    refine j_iload_n (pc := 33) dX10_corner_33 rfl ?_
    refine j_aload_n (pc := 34) dX10_corner_34 rfl ?_
    obtain ⟨x12, e13, h⟩ := obS h
    refine j_getR (pc := 35) dX10_corner_35 (ci := 10) (kf := 2) rfl (jwi hw_X10) (by decide) (jwm lw_103) e13 ?_
    obtain ⟨x14, e15, h⟩ := obS h
    refine j_getR (pc := 38) dX10_corner_38 (ci := 9) (kf := 2) rfl (jwi hw_X9) (by decide) (jwm lw_462) e15 ?_
    obtain ⟨x16, e17, h⟩ := obS h
    refine j_getI (pc := 41) dX10_corner_41 (ci := 4) (kf := 2) rfl (jwi hw_X4) (by decide) (jwm lw_463) e17 ?_
    refine j_icmp_ge (pc := 44) (tgt := 64) dX10_corner_44 (by decide) (fun c18 => ?_) (fun c18 => ?_)
    · rw [if_pos c18] at h
      refine j_iconst (pc := 64) dX10_corner_64 (v := (-1)) (by decide) ?_
      cases h
      exact j_iret (pc := 65) rfl dX10_corner_65 (by decide) (by decide) rfl
    · rw [if_neg c18] at h
      refine j_aload_n (pc := 47) dX10_corner_47 rfl ?_
      obtain ⟨x19, e20, h⟩ := obS h
      refine j_getR (pc := 48) dX10_corner_48 (ci := 10) (kf := 2) rfl (jwi hw_X10) (by decide) (jwm lw_103) e20 ?_
      obtain ⟨x21, e22, h⟩ := obS h
      refine j_getR (pc := 51) dX10_corner_51 (ci := 9) (kf := 2) rfl (jwi hw_X9) (by decide) (jwm lw_462) e22 ?_
      obtain ⟨x23, e24, h⟩ := obS h
      refine j_getR (pc := 54) dX10_corner_54 (ci := 4) (kf := 0) rfl (jwi hw_X4) (by decide) (jwm lw_473) e24 ?_
      refine j_iload_n (pc := 57) dX10_corner_57 rfl ?_
      obtain ⟨x27, w25, e26, h⟩ := obS2 h
      have ge26 := calSR_of e26
      have le26 := ge26.2
      refine j_callV_g (pc := 58) (As := [.int i1]) (k' := 0) (n' := 0) dX10_corner_58 (s_X8_at ge26.1) (jgV lw_156 lw_140 lw_141 lw_12 lw_138) rfl hv_X8_at rfl (r_X8_at ge26.1) rfl (by decide) (by decide) (Nat.le_of_ble_eq_true rfl) (by decide) (by decide) (by decide) (by decide) (Or.inl ge26.2) ?_
      refine j_goto (pc := 61) (tgt := 65) dX10_corner_61 (by decide) ?_
      cases h
      exact j_iret (pc := 65) rfl dX10_corner_65 (by decide) (by decide) rfl
  · rw [if_neg c1] at h
    cases h
def wsX9_bestPoint : List Cond := Cond.code yX9_bestPoint cX9_bestPoint 14 (some .int) :: jW
def m_X9_bestPoint_b191 (k42 : Nat → Int32 → Int32 → Int32 → Int32 → Int32 → Int32 → Int32 → Int32 → LWd → Option (Int32 × LWd)) (k61 : Nat → Int32 → Int32 → Int32 → Int32 → Int32 → Int32 → Int32 → Int32 → Int32 → LWd → Option (Int32 × LWd)) (k81 : Nat → Int32 → Int32 → Int32 → Int32 → Int32 → Int32 → Int32 → Int32 → Int32 → Int32 → Int32 → LWd → Option (Int32 × LWd)) (a0 : Nat) (i1 : Int32) (i2 : Int32) (i3 : Int32) (i4 : Int32) (i5 : Int32) (i6 : Int32) (i7 : Int32) (i8 : Int32) (i9 : Int32) (i10 : Int32) (i11 : Int32) (ws : LWd) : Option (Int32 × LWd) :=
  k81 a0 i1 i2 i3 i4 i5 i6 i7 i8 i9 i10 (i11 + 2) ws
set_option maxRecDepth 100000 in
set_option maxHeartbeats 4000000 in
theorem jm_X9_bestPoint_b191 {n0 : Nat} {rr : Int32} {ws' : LWd} {k42 : Nat → Int32 → Int32 → Int32 → Int32 → Int32 → Int32 → Int32 → Int32 → LWd → Option (Int32 × LWd)} {k61 : Nat → Int32 → Int32 → Int32 → Int32 → Int32 → Int32 → Int32 → Int32 → Int32 → LWd → Option (Int32 × LWd)} {k81 : Nat → Int32 → Int32 → Int32 → Int32 → Int32 → Int32 → Int32 → Int32 → Int32 → Int32 → Int32 → LWd → Option (Int32 × LWd)} (hk42 : ∀ (a0 : Nat) (i1 : Int32) (i2 : Int32) (i3 : Int32) (i4 : Int32) (i5 : Int32) (i6 : Int32) (i7 : Int32) (i8 : Int32) (ws : LWd), k42 a0 i1 i2 i3 i4 i5 i6 i7 i8 ws = some (rr, ws') → JG (.inl false) cX9_bestPoint 14 RX9 wsX9_bestPoint (some .int) "bestPoint" 2 0 0 n0 (.inl (some (.int rr)), ws') 42 [some (.ref a0), some (.int i1), some (.int i2), some (.int i3), some (.int i4), some (.int i5), some (.int i6), some (.int i7), some (.int i8), none, none, none, none, none] [] ws 0 0) (hk61 : ∀ (a0 : Nat) (i1 : Int32) (i2 : Int32) (i3 : Int32) (i4 : Int32) (i5 : Int32) (i6 : Int32) (i7 : Int32) (i8 : Int32) (i9 : Int32) (ws : LWd), k61 a0 i1 i2 i3 i4 i5 i6 i7 i8 i9 ws = some (rr, ws') → JG (.inl false) cX9_bestPoint 14 RX9 wsX9_bestPoint (some .int) "bestPoint" 2 0 0 n0 (.inl (some (.int rr)), ws') 61 [some (.ref a0), some (.int i1), some (.int i2), some (.int i3), some (.int i4), some (.int i5), some (.int i6), some (.int i7), some (.int i8), some (.int i9), none, none, none, none] [] ws 0 0) (hk81 : ∀ (a0 : Nat) (i1 : Int32) (i2 : Int32) (i3 : Int32) (i4 : Int32) (i5 : Int32) (i6 : Int32) (i7 : Int32) (i8 : Int32) (i9 : Int32) (i10 : Int32) (i11 : Int32) (ws : LWd), k81 a0 i1 i2 i3 i4 i5 i6 i7 i8 i9 i10 i11 ws = some (rr, ws') → JG (.inl false) cX9_bestPoint 14 RX9 wsX9_bestPoint (some .int) "bestPoint" 2 0 0 n0 (.inl (some (.int rr)), ws') 81 [some (.ref a0), some (.int i1), some (.int i2), some (.int i3), some (.int i4), some (.int i5), some (.int i6), some (.int i7), some (.int i8), some (.int i9), some (.int i10), some (.int i11), none, none] [] ws 0 0) (a0 : Nat) (i1 : Int32) (i2 : Int32) (i3 : Int32) (i4 : Int32) (i5 : Int32) (i6 : Int32) (i7 : Int32) (i8 : Int32) (i9 : Int32) (i10 : Int32) (i11 : Int32) (ws : LWd) (h : m_X9_bestPoint_b191 k42 k61 k81 a0 i1 i2 i3 i4 i5 i6 i7 i8 i9 i10 i11 ws = some (rr, ws')) : JG (.inl false) cX9_bestPoint 14 RX9 wsX9_bestPoint (some .int) "bestPoint" 2 0 0 n0 (.inl (some (.int rr)), ws') 191 [some (.ref a0), some (.int i1), some (.int i2), some (.int i3), some (.int i4), some (.int i5), some (.int i6), some (.int i7), some (.int i8), some (.int i9), some (.int i10), some (.int i11), none, none] [] ws 0 0 := by
  unfold m_X9_bestPoint_b191 at h
  refine j_iinc_11 (pc := 191) dX9_bestPoint_191 (y := i11 + 2) rfl (by decide) rfl ?_
  refine j_goto (pc := 194) (tgt := 81) dX9_bestPoint_194 (by decide) ?_
  exact hk81 _ _ _ _ _ _ _ _ _ _ _ _ ws h
def m_X9_bestPoint_l81 (k42 : Nat → Int32 → Int32 → Int32 → Int32 → Int32 → Int32 → Int32 → Int32 → LWd → Option (Int32 × LWd)) (k61 : Nat → Int32 → Int32 → Int32 → Int32 → Int32 → Int32 → Int32 → Int32 → Int32 → LWd → Option (Int32 × LWd)) : Nat → Nat → Int32 → Int32 → Int32 → Int32 → Int32 → Int32 → Int32 → Int32 → Int32 → Int32 → Int32 → LWd → Option (Int32 × LWd)
  | 0, _, _, _, _, _, _, _, _, _, _, _, _, _ => none
  | fu + 1, a0, i1, i2, i3, i4, i5, i6, i7, i8, i9, i10, i11, ws =>
    if 1 < i11 then
      k61 a0 i1 i2 i3 i4 i5 i6 i7 i8 (i9 + 1) ws
    else
      bn2 (calSR ws (m_X10_pointAt (i3 + (i11 * i10)) (i4 + i9) ws)) fun x4 w2 =>
      (fR w2 a0 9 0).bind fun x5 =>
      (fR w2 x5 5 3).bind fun x7 =>
      bn2 (calSR w2 (m_X8_at x7 x4 w2)) fun x11 w9 =>
      if x4 = ((-1)) then
        m_X9_bestPoint_b191 k42 k61 (fun z0 z1 z2 z3 z4 z5 z6 z7 z8 z9 z10 z11 w => m_X9_bestPoint_l81 k42 k61 fu z0 z1 z2 z3 z4 z5 z6 z7 z8 z9 z10 z11 w) a0 i1 i2 i3 i4 i5 i6 i7 i8 i9 i10 i11 w9
      else
        if (i5 * i5) < ((i10 * i10) + (i9 * i9)) then
          m_X9_bestPoint_b191 k42 k61 (fun z0 z1 z2 z3 z4 z5 z6 z7 z8 z9 z10 z11 w => m_X9_bestPoint_l81 k42 k61 fu z0 z1 z2 z3 z4 z5 z6 z7 z8 z9 z10 z11 w) a0 i1 i2 i3 i4 i5 i6 i7 i8 i9 i10 i11 w9
        else
          if 2 < (jabs (x11 - i2)) then
            m_X9_bestPoint_b191 k42 k61 (fun z0 z1 z2 z3 z4 z5 z6 z7 z8 z9 z10 z11 w => m_X9_bestPoint_l81 k42 k61 fu z0 z1 z2 z3 z4 z5 z6 z7 z8 z9 z10 z11 w) a0 i1 i2 i3 i4 i5 i6 i7 i8 i9 i10 i11 w9
          else
            if i7 ≤ ((10 * (jabs (x11 - i2))) + i8) then
              m_X9_bestPoint_b191 k42 k61 (fun z0 z1 z2 z3 z4 z5 z6 z7 z8 z9 z10 z11 w => m_X9_bestPoint_l81 k42 k61 fu z0 z1 z2 z3 z4 z5 z6 z7 z8 z9 z10 z11 w) a0 i1 i2 i3 i4 i5 i6 i7 i8 i9 i10 i11 w9
            else
              bn2 (calSR w9 (m_X9_isTaken a0 x4 i1 w9)) fun x18 w16 =>
              if x18 = 0 then
                m_X9_bestPoint_b191 k42 k61 (fun z0 z1 z2 z3 z4 z5 z6 z7 z8 z9 z10 z11 w => m_X9_bestPoint_l81 k42 k61 fu z0 z1 z2 z3 z4 z5 z6 z7 z8 z9 z10 z11 w) a0 i1 i2 i3 i4 i5 x4 ((10 * (jabs (x11 - i2))) + i8) i8 i9 i10 i11 w16
              else
                m_X9_bestPoint_b191 k42 k61 (fun z0 z1 z2 z3 z4 z5 z6 z7 z8 z9 z10 z11 w => m_X9_bestPoint_l81 k42 k61 fu z0 z1 z2 z3 z4 z5 z6 z7 z8 z9 z10 z11 w) a0 i1 i2 i3 i4 i5 i6 i7 i8 i9 i10 i11 w16
set_option maxRecDepth 100000 in
set_option maxHeartbeats 4000000 in
theorem jm_X9_bestPoint_l81 {n0 : Nat} {rr : Int32} {ws' : LWd} {k42 : Nat → Int32 → Int32 → Int32 → Int32 → Int32 → Int32 → Int32 → Int32 → LWd → Option (Int32 × LWd)} {k61 : Nat → Int32 → Int32 → Int32 → Int32 → Int32 → Int32 → Int32 → Int32 → Int32 → LWd → Option (Int32 × LWd)} (hk42 : ∀ (a0 : Nat) (i1 : Int32) (i2 : Int32) (i3 : Int32) (i4 : Int32) (i5 : Int32) (i6 : Int32) (i7 : Int32) (i8 : Int32) (ws : LWd), k42 a0 i1 i2 i3 i4 i5 i6 i7 i8 ws = some (rr, ws') → JG (.inl false) cX9_bestPoint 14 RX9 wsX9_bestPoint (some .int) "bestPoint" 2 0 0 n0 (.inl (some (.int rr)), ws') 42 [some (.ref a0), some (.int i1), some (.int i2), some (.int i3), some (.int i4), some (.int i5), some (.int i6), some (.int i7), some (.int i8), none, none, none, none, none] [] ws 0 0) (hk61 : ∀ (a0 : Nat) (i1 : Int32) (i2 : Int32) (i3 : Int32) (i4 : Int32) (i5 : Int32) (i6 : Int32) (i7 : Int32) (i8 : Int32) (i9 : Int32) (ws : LWd), k61 a0 i1 i2 i3 i4 i5 i6 i7 i8 i9 ws = some (rr, ws') → JG (.inl false) cX9_bestPoint 14 RX9 wsX9_bestPoint (some .int) "bestPoint" 2 0 0 n0 (.inl (some (.int rr)), ws') 61 [some (.ref a0), some (.int i1), some (.int i2), some (.int i3), some (.int i4), some (.int i5), some (.int i6), some (.int i7), some (.int i8), some (.int i9), none, none, none, none] [] ws 0 0) : ∀ (fu : Nat) (a0 : Nat) (i1 : Int32) (i2 : Int32) (i3 : Int32) (i4 : Int32) (i5 : Int32) (i6 : Int32) (i7 : Int32) (i8 : Int32) (i9 : Int32) (i10 : Int32) (i11 : Int32) (ws : LWd), m_X9_bestPoint_l81 k42 k61 fu a0 i1 i2 i3 i4 i5 i6 i7 i8 i9 i10 i11 ws = some (rr, ws') → JG (.inl false) cX9_bestPoint 14 RX9 wsX9_bestPoint (some .int) "bestPoint" 2 0 0 n0 (.inl (some (.int rr)), ws') 81 [some (.ref a0), some (.int i1), some (.int i2), some (.int i3), some (.int i4), some (.int i5), some (.int i6), some (.int i7), some (.int i8), some (.int i9), some (.int i10), some (.int i11), none, none] [] ws 0 0 := by
  intro fu
  induction fu with
  | zero => intro a0 i1 i2 i3 i4 i5 i6 i7 i8 i9 i10 i11 ws h; first | (cases h; done) | (rw [m_X9_bestPoint_l81] at h; cases h)
  | succ fu ih =>
    intro a0 i1 i2 i3 i4 i5 i6 i7 i8 i9 i10 i11 ws h
    rw [m_X9_bestPoint_l81] at h
    refine j_iload (pc := 81) dX9_bestPoint_81 rfl ?_
    refine j_iconst (pc := 83) dX9_bestPoint_83 (v := 1) (by decide) ?_
    refine j_icmp_gt (pc := 84) (tgt := 197) dX9_bestPoint_84 (by decide) (fun c1 => ?_) (fun c1 => ?_)
    · rw [if_pos c1] at h
      refine j_iinc_9 (pc := 197) dX9_bestPoint_197 (y := i9 + 1) rfl (by decide) rfl ?_
      refine j_goto (pc := 200) (tgt := 61) dX9_bestPoint_200 (by decide) ?_
      refine j_mask [true, true, true, true, true, true, true, true, true, true, false, false, false, false] ?_
      exact hk61 _ _ _ _ _ _ _ _ _ _ ws h
    · rw [if_neg c1] at h
      refine j_iload_n (pc := 87) dX9_bestPoint_87 rfl ?_
      refine j_iload (pc := 88) dX9_bestPoint_88 rfl ?_
      refine j_iload (pc := 90) dX9_bestPoint_90 rfl ?_
      refine j_imul (pc := 92) dX9_bestPoint_92 ?_
      refine j_iadd (pc := 93) dX9_bestPoint_93 ?_
      refine j_iload (pc := 94) dX9_bestPoint_94 rfl ?_
      refine j_iload (pc := 96) dX9_bestPoint_96 rfl ?_
      refine j_iadd (pc := 98) dX9_bestPoint_98 ?_
      obtain ⟨x4, w2, e3, h⟩ := obS2 h
      have ge3 := calSR_of e3
      refine j_callSN_g (pc := 99) (As := [.int (i3 + (i11 * i10)), .int (i4 + i9)]) (k' := 0) (n' := 0) dX9_bestPoint_99 (s_X10_pointAt ge3.1) (jgP lw_144) nst_X9_138 (jwm lw_147) (jwm lw_146) rfl hy_X10_pointAt rfl (by decide) (by decide) (Nat.le_of_ble_eq_true rfl) (by decide) (by decide) (by decide) (by decide) (Or.inl ge3.2) ?_
      refine j_istore_12 (pc := 102) dX9_bestPoint_102 (by decide) rfl ?_
      refine j_aload_n (pc := 104) dX9_bestPoint_104 rfl ?_
      obtain ⟨x5, e6, h⟩ := obS h
      refine j_getR (pc := 105) dX9_bestPoint_105 (ci := 9) (kf := 0) rfl (jwi hw_X9) (by decide) (jwm lw_42) e6 ?_
      obtain ⟨x7, e8, h⟩ := obS h
      refine j_getR (pc := 108) dX9_bestPoint_108 (ci := 5) (kf := 3) rfl (jwi hw_X5) (by decide) (jwm lw_387) e8 ?_
      refine j_iload (pc := 111) dX9_bestPoint_111 rfl ?_
      obtain ⟨x11, w9, e10, h⟩ := obS2 h
      have ge10 := calSR_of e10
      refine j_callV_g (pc := 113) (As := [.int x4]) (k' := 0) (n' := 0) dX9_bestPoint_113 (s_X8_at ge10.1) (jgV lw_139 lw_140 lw_141 lw_12 lw_138) rfl hv_X8_at rfl (r_X8_at ge10.1) rfl (by decide) (by decide) (Nat.le_of_ble_eq_true rfl) (by decide) (by decide) (by decide) (by decide) (Or.inl ge10.2) ?_
      refine j_iload_n (pc := 116) dX9_bestPoint_116 rfl ?_
      refine j_isub (pc := 117) dX9_bestPoint_117 ?_
      refine j_mabs (pc := 118) dX9_bestPoint_118 (jwm lw_386) (jwm lw_359) (jwm lw_177) (jwm lw_360) (Nat.le_of_ble_eq_true rfl) (Nat.le_of_ble_eq_true rfl) (by decide) (by decide) ?_
      refine j_istore_13 (pc := 121) dX9_bestPoint_121 (by decide) rfl ?_
      refine j_iload (pc := 123) dX9_bestPoint_123 rfl ?_
      refine j_iconst (pc := 125) dX9_bestPoint_125 (v := (-1)) (by decide) ?_
      refine j_icmp_eq (pc := 126) (tgt := 191) dX9_bestPoint_126 (by decide) (fun c12 => ?_) (fun c12 => ?_)
      · rw [if_pos c12] at h
        refine j_mask [true, true, true, true, true, true, true, true, true, true, true, true, false, false] ?_
        exact jm_X9_bestPoint_b191 (hk42 := hk42) (hk61 := hk61) (hk81 := ih) _ _ _ _ _ _ _ _ _ _ _ _ w9 h
      · rw [if_neg c12] at h
        refine j_iload (pc := 129) dX9_bestPoint_129 rfl ?_
        refine j_iload (pc := 131) dX9_bestPoint_131 rfl ?_
        refine j_imul (pc := 133) dX9_bestPoint_133 ?_
        refine j_iload (pc := 134) dX9_bestPoint_134 rfl ?_
        refine j_iload (pc := 136) dX9_bestPoint_136 rfl ?_
        refine j_imul (pc := 138) dX9_bestPoint_138 ?_
        refine j_iadd (pc := 139) dX9_bestPoint_139 ?_
        refine j_iload (pc := 140) dX9_bestPoint_140 rfl ?_
        refine j_iload (pc := 142) dX9_bestPoint_142 rfl ?_
        refine j_imul (pc := 144) dX9_bestPoint_144 ?_
        refine j_icmp_gt (pc := 145) (tgt := 191) dX9_bestPoint_145 (by decide) (fun c13 => ?_) (fun c13 => ?_)
        · rw [if_pos c13] at h
          refine j_mask [true, true, true, true, true, true, true, true, true, true, true, true, false, false] ?_
          exact jm_X9_bestPoint_b191 (hk42 := hk42) (hk61 := hk61) (hk81 := ih) _ _ _ _ _ _ _ _ _ _ _ _ w9 h
        · rw [if_neg c13] at h
          refine j_iload (pc := 148) dX9_bestPoint_148 rfl ?_
          refine j_iconst (pc := 150) dX9_bestPoint_150 (v := 2) (by decide) ?_
          refine j_icmp_gt (pc := 151) (tgt := 191) dX9_bestPoint_151 (by decide) (fun c14 => ?_) (fun c14 => ?_)
          · rw [if_pos c14] at h
            refine j_mask [true, true, true, true, true, true, true, true, true, true, true, true, false, false] ?_
            exact jm_X9_bestPoint_b191 (hk42 := hk42) (hk61 := hk61) (hk81 := ih) _ _ _ _ _ _ _ _ _ _ _ _ w9 h
          · rw [if_neg c14] at h
            refine j_bipush (pc := 154) dX9_bestPoint_154 (v := 10) (by decide) ?_
            refine j_iload (pc := 156) dX9_bestPoint_156 rfl ?_
            refine j_imul (pc := 158) dX9_bestPoint_158 ?_
            refine j_iload (pc := 159) dX9_bestPoint_159 rfl ?_
            refine j_iadd (pc := 161) dX9_bestPoint_161 ?_
            refine j_iload (pc := 162) dX9_bestPoint_162 rfl ?_
            refine j_icmp_ge (pc := 164) (tgt := 191) dX9_bestPoint_164 (by decide) (fun c15 => ?_) (fun c15 => ?_)
            · rw [if_pos c15] at h
              refine j_mask [true, true, true, true, true, true, true, true, true, true, true, true, false, false] ?_
              exact jm_X9_bestPoint_b191 (hk42 := hk42) (hk61 := hk61) (hk81 := ih) _ _ _ _ _ _ _ _ _ _ _ _ w9 h
            · rw [if_neg c15] at h
              refine j_aload_n (pc := 167) dX9_bestPoint_167 rfl ?_
              refine j_iload (pc := 168) dX9_bestPoint_168 rfl ?_
              refine j_iload_n (pc := 170) dX9_bestPoint_170 rfl ?_
              obtain ⟨x18, w16, e17, h⟩ := obS2 h
              have ge17 := calSR_of e17
              refine j_callV_g (pc := 171) (As := [.int x4, .int i1]) (k' := 0) (n' := 0) dX9_bestPoint_171 (s_X9_isTaken ge17.1) (jgV lw_474 lw_153 lw_154 lw_76 lw_151) rfl hv_X9_isTaken rfl (r_X9_isTaken ge17.1) rfl (by decide) (by decide) (Nat.le_of_ble_eq_true rfl) (by decide) (by decide) (by decide) (by decide) (Or.inl ge17.2) ?_
              refine j_if_ne (pc := 174) (tgt := 191) dX9_bestPoint_174 (by decide) (fun c19 => ?_) (fun c19 => ?_)
              · rw [if_neg c19] at h
                refine j_mask [true, true, true, true, true, true, true, true, true, true, true, true, false, false] ?_
                exact jm_X9_bestPoint_b191 (hk42 := hk42) (hk61 := hk61) (hk81 := ih) _ _ _ _ _ _ _ _ _ _ _ _ w16 h
              · rw [if_pos c19] at h
                refine j_bipush (pc := 177) dX9_bestPoint_177 (v := 10) (by decide) ?_
                refine j_iload (pc := 179) dX9_bestPoint_179 rfl ?_
                refine j_imul (pc := 181) dX9_bestPoint_181 ?_
                refine j_iload (pc := 182) dX9_bestPoint_182 rfl ?_
                refine j_iadd (pc := 184) dX9_bestPoint_184 ?_
                refine j_istore_7 (pc := 185) dX9_bestPoint_185 (by decide) rfl ?_
                refine j_iload (pc := 187) dX9_bestPoint_187 rfl ?_
                refine j_istore_6 (pc := 189) dX9_bestPoint_189 (by decide) rfl ?_
                refine j_mask [true, true, true, true, true, true, true, true, true, true, true, true, false, false] ?_
                exact jm_X9_bestPoint_b191 (hk42 := hk42) (hk61 := hk61) (hk81 := ih) _ _ _ _ _ _ _ _ _ _ _ _ w16 h
def m_X9_bestPoint_l61 (k42 : Nat → Int32 → Int32 → Int32 → Int32 → Int32 → Int32 → Int32 → Int32 → LWd → Option (Int32 × LWd)) : Nat → Nat → Int32 → Int32 → Int32 → Int32 → Int32 → Int32 → Int32 → Int32 → Int32 → LWd → Option (Int32 × LWd)
  | 0, _, _, _, _, _, _, _, _, _, _, _ => none
  | fu + 1, a0, i1, i2, i3, i4, i5, i6, i7, i8, i9, ws =>
    if i8 < i9 then
      k42 a0 i1 i2 i3 i4 i5 i6 i7 (i8 + 1) ws
    else
      m_X9_bestPoint_l81 k42 (fun z0 z1 z2 z3 z4 z5 z6 z7 z8 z9 w => m_X9_bestPoint_l61 k42 fu z0 z1 z2 z3 z4 z5 z6 z7 z8 z9 w) FU a0 i1 i2 i3 i4 i5 i6 i7 i8 i9 (i8 - (jabs i9)) ((-1)) ws
set_option maxRecDepth 100000 in
set_option maxHeartbeats 4000000 in
theorem jm_X9_bestPoint_l61 {n0 : Nat} {rr : Int32} {ws' : LWd} {k42 : Nat → Int32 → Int32 → Int32 → Int32 → Int32 → Int32 → Int32 → Int32 → LWd → Option (Int32 × LWd)} (hk42 : ∀ (a0 : Nat) (i1 : Int32) (i2 : Int32) (i3 : Int32) (i4 : Int32) (i5 : Int32) (i6 : Int32) (i7 : Int32) (i8 : Int32) (ws : LWd), k42 a0 i1 i2 i3 i4 i5 i6 i7 i8 ws = some (rr, ws') → JG (.inl false) cX9_bestPoint 14 RX9 wsX9_bestPoint (some .int) "bestPoint" 2 0 0 n0 (.inl (some (.int rr)), ws') 42 [some (.ref a0), some (.int i1), some (.int i2), some (.int i3), some (.int i4), some (.int i5), some (.int i6), some (.int i7), some (.int i8), none, none, none, none, none] [] ws 0 0) : ∀ (fu : Nat) (a0 : Nat) (i1 : Int32) (i2 : Int32) (i3 : Int32) (i4 : Int32) (i5 : Int32) (i6 : Int32) (i7 : Int32) (i8 : Int32) (i9 : Int32) (ws : LWd), m_X9_bestPoint_l61 k42 fu a0 i1 i2 i3 i4 i5 i6 i7 i8 i9 ws = some (rr, ws') → JG (.inl false) cX9_bestPoint 14 RX9 wsX9_bestPoint (some .int) "bestPoint" 2 0 0 n0 (.inl (some (.int rr)), ws') 61 [some (.ref a0), some (.int i1), some (.int i2), some (.int i3), some (.int i4), some (.int i5), some (.int i6), some (.int i7), some (.int i8), some (.int i9), none, none, none, none] [] ws 0 0 := by
  intro fu
  induction fu with
  | zero => intro a0 i1 i2 i3 i4 i5 i6 i7 i8 i9 ws h; first | (cases h; done) | (rw [m_X9_bestPoint_l61] at h; cases h)
  | succ fu ih =>
    intro a0 i1 i2 i3 i4 i5 i6 i7 i8 i9 ws h
    rw [m_X9_bestPoint_l61] at h
    refine j_iload (pc := 61) dX9_bestPoint_61 rfl ?_
    refine j_iload (pc := 63) dX9_bestPoint_63 rfl ?_
    refine j_icmp_gt (pc := 65) (tgt := 203) dX9_bestPoint_65 (by decide) (fun c1 => ?_) (fun c1 => ?_)
    · rw [if_pos c1] at h
      refine j_iinc_8 (pc := 203) dX9_bestPoint_203 (y := i8 + 1) rfl (by decide) rfl ?_
      refine j_goto (pc := 206) (tgt := 42) dX9_bestPoint_206 (by decide) ?_
      refine j_mask [true, true, true, true, true, true, true, true, true, false, false, false, false, false] ?_
      exact hk42 _ _ _ _ _ _ _ _ _ ws h
    · rw [if_neg c1] at h
      refine j_iload (pc := 68) dX9_bestPoint_68 rfl ?_
      refine j_iload (pc := 70) dX9_bestPoint_70 rfl ?_
      refine j_mabs (pc := 72) dX9_bestPoint_72 (jwm lw_386) (jwm lw_359) (jwm lw_177) (jwm lw_360) (Nat.le_of_ble_eq_true rfl) (Nat.le_of_ble_eq_true rfl) (by decide) (by decide) ?_
      refine j_isub (pc := 75) dX9_bestPoint_75 ?_
      refine j_istore_10 (pc := 76) dX9_bestPoint_76 (by decide) rfl ?_
      refine j_iconst (pc := 78) dX9_bestPoint_78 (v := (-1)) (by decide) ?_
      refine j_istore_11 (pc := 79) dX9_bestPoint_79 (by decide) rfl ?_
      exact jm_X9_bestPoint_l81 (hk42 := hk42) (hk61 := ih) FU _ _ _ _ _ _ _ _ _ _ _ _ ws h
def m_X9_bestPoint_l42 : Nat → Nat → Int32 → Int32 → Int32 → Int32 → Int32 → Int32 → Int32 → Int32 → LWd → Option (Int32 × LWd)
  | 0, _, _, _, _, _, _, _, _, _, _ => none
  | fu + 1, a0, i1, i2, i3, i4, i5, i6, i7, i8, ws =>
    if 8 < i8 then
      some (i6, ws)
    else
      if i7 ≤ i8 then
        some (i6, ws)
      else
        m_X9_bestPoint_l61 (fun z0 z1 z2 z3 z4 z5 z6 z7 z8 w => m_X9_bestPoint_l42 fu z0 z1 z2 z3 z4 z5 z6 z7 z8 w) FU a0 i1 i2 i3 i4 i5 i6 i7 i8 (-i8) ws
set_option maxRecDepth 100000 in
set_option maxHeartbeats 4000000 in
theorem jm_X9_bestPoint_l42 {n0 : Nat} {rr : Int32} {ws' : LWd} : ∀ (fu : Nat) (a0 : Nat) (i1 : Int32) (i2 : Int32) (i3 : Int32) (i4 : Int32) (i5 : Int32) (i6 : Int32) (i7 : Int32) (i8 : Int32) (ws : LWd), m_X9_bestPoint_l42 fu a0 i1 i2 i3 i4 i5 i6 i7 i8 ws = some (rr, ws') → JG (.inl false) cX9_bestPoint 14 RX9 wsX9_bestPoint (some .int) "bestPoint" 2 0 0 n0 (.inl (some (.int rr)), ws') 42 [some (.ref a0), some (.int i1), some (.int i2), some (.int i3), some (.int i4), some (.int i5), some (.int i6), some (.int i7), some (.int i8), none, none, none, none, none] [] ws 0 0 := by
  intro fu
  induction fu with
  | zero => intro a0 i1 i2 i3 i4 i5 i6 i7 i8 ws h; first | (cases h; done) | (rw [m_X9_bestPoint_l42] at h; cases h)
  | succ fu ih =>
    intro a0 i1 i2 i3 i4 i5 i6 i7 i8 ws h
    rw [m_X9_bestPoint_l42] at h
    refine j_iload (pc := 42) dX9_bestPoint_42 rfl ?_
    refine j_bipush (pc := 44) dX9_bestPoint_44 (v := 8) (by decide) ?_
    refine j_icmp_gt (pc := 46) (tgt := 209) dX9_bestPoint_46 (by decide) (fun c1 => ?_) (fun c1 => ?_)
    · rw [if_pos c1] at h
      refine j_iload (pc := 209) dX9_bestPoint_209 rfl ?_
      obtain ⟨rfl, rfl⟩ := jretS h
      exact j_iret (pc := 211) rfl dX9_bestPoint_211 (by decide) (by decide) rfl
    · rw [if_neg c1] at h
      refine j_iload (pc := 49) dX9_bestPoint_49 rfl ?_
      refine j_iload (pc := 51) dX9_bestPoint_51 rfl ?_
      refine j_icmp_ge (pc := 53) (tgt := 209) dX9_bestPoint_53 (by decide) (fun c2 => ?_) (fun c2 => ?_)
      · rw [if_pos c2] at h
        refine j_iload (pc := 209) dX9_bestPoint_209 rfl ?_
        obtain ⟨rfl, rfl⟩ := jretS h
        exact j_iret (pc := 211) rfl dX9_bestPoint_211 (by decide) (by decide) rfl
      · rw [if_neg c2] at h
        refine j_iload (pc := 56) dX9_bestPoint_56 rfl ?_
        refine j_ineg (pc := 58) dX9_bestPoint_58 ?_
        refine j_istore_9 (pc := 59) dX9_bestPoint_59 (by decide) rfl ?_
        exact jm_X9_bestPoint_l61 (hk42 := ih) FU _ _ _ _ _ _ _ _ _ _ ws h
def m_X9_bestPoint (a0 : Nat) (i1 : Int32) (ws : LWd) : Option (Int32 × LWd) :=
  (rcv ws a0 9).bind fun _ =>
  bn2 (calSR ws (m_X9_level a0 i1 ws)) fun x3 w1 =>
  bn2 (calSR w1 (m_X9_hipX a0 i1 w1)) fun x6 w4 =>
  bn2 (calSR w4 (m_X9_hipY a0 i1 w4)) fun x9 w7 =>
  (fR w7 a0 9 1).bind fun x10 =>
  (fR w7 x10 2 2).bind fun x12 =>
  bn2 (calSR w7 (m_X8_at x12 i1 w7)) fun x16 w14 =>
  m_X9_bestPoint_l42 FU a0 i1 x3 x6 x9 x16 ((-1)) 2147483647 0 w14
set_option maxRecDepth 100000 in
set_option maxHeartbeats 4000000 in
theorem s_X9_bestPoint {a0 : Nat} {i1 : Int32} {ws : LWd} {rr : Int32} {ws' : LWd} (h : m_X9_bestPoint a0 i1 ws = some (rr, ws')) : jSp yX9_bestPoint wsX9_bestPoint 2 0 0 [.ref a0, .int i1] ws (.inl (some (.int rr)), ws') := by
  unfold m_X9_bestPoint at h
  refine j_entry (ret := (some .int)) (nm := "bestPoint") (own := RX9) pl_X9 rfl rfl rfl (jcats (by rfl)) (Nat.le_of_ble_eq_true rfl) ?_
  show JG (.inl false) cX9_bestPoint 14 RX9 wsX9_bestPoint (some .int) "bestPoint" 2 0 0 ws.length (.inl (some (.int rr)), ws') 0 [some (.ref a0), some (.int i1), none, none, none, none, none, none, none, none, none, none, none, none] [] ws 0 0
  obtain ⟨_, _, h⟩ := obS h
  refine j_aload_n (pc := 0) dX9_bestPoint_0 rfl ?_
  refine j_iload_n (pc := 1) dX9_bestPoint_1 rfl ?_
  obtain ⟨x3, w1, e2, h⟩ := obS2 h
  have ge2 := calSR_of e2
  refine j_callV_g (pc := 2) (As := [.int i1]) (k' := 0) (n' := 0) dX9_bestPoint_2 (s_X9_level ge2.1) (jgV lw_475 lw_395 lw_396 lw_76 lw_393) rfl hv_X9_level rfl (r_X9_level ge2.1) rfl (by decide) (by decide) (Nat.le_of_ble_eq_true rfl) (by decide) (by decide) (by decide) (by decide) (Or.inl ge2.2) ?_
  refine j_istore_n_2 (pc := 5) dX9_bestPoint_5 (by decide) rfl ?_
  refine j_aload_n (pc := 6) dX9_bestPoint_6 rfl ?_
  refine j_iload_n (pc := 7) dX9_bestPoint_7 rfl ?_
  obtain ⟨x6, w4, e5, h⟩ := obS2 h
  have ge5 := calSR_of e5
  refine j_callV_g (pc := 8) (As := [.int i1]) (k' := 0) (n' := 0) dX9_bestPoint_8 (s_X9_hipX ge5.1) (jgV lw_346 lw_332 lw_333 lw_76 lw_330) rfl hv_X9_hipX rfl (r_X9_hipX ge5.1) rfl (by decide) (by decide) (Nat.le_of_ble_eq_true rfl) (by decide) (by decide) (by decide) (by decide) (Or.inl ge5.2) ?_
  refine j_istore_n_3 (pc := 11) dX9_bestPoint_11 (by decide) rfl ?_
  refine j_aload_n (pc := 12) dX9_bestPoint_12 rfl ?_
  refine j_iload_n (pc := 13) dX9_bestPoint_13 rfl ?_
  obtain ⟨x9, w7, e8, h⟩ := obS2 h
  have ge8 := calSR_of e8
  refine j_callV_g (pc := 14) (As := [.int i1]) (k' := 0) (n' := 0) dX9_bestPoint_14 (s_X9_hipY ge8.1) (jgV lw_347 lw_336 lw_337 lw_76 lw_334) rfl hv_X9_hipY rfl (r_X9_hipY ge8.1) rfl (by decide) (by decide) (Nat.le_of_ble_eq_true rfl) (by decide) (by decide) (by decide) (by decide) (Or.inl ge8.2) ?_
  refine j_istore_4 (pc := 17) dX9_bestPoint_17 (by decide) rfl ?_
  refine j_aload_n (pc := 19) dX9_bestPoint_19 rfl ?_
  obtain ⟨x10, e11, h⟩ := obS h
  refine j_getR (pc := 20) dX9_bestPoint_20 (ci := 9) (kf := 1) rfl (jwi hw_X9) (by decide) (jwm lw_43) e11 ?_
  obtain ⟨x12, e13, h⟩ := obS h
  refine j_getR (pc := 23) dX9_bestPoint_23 (ci := 2) (kf := 2) rfl (jwi hw_X2) (by decide) (jwm lw_348) e13 ?_
  refine j_iload_n (pc := 26) dX9_bestPoint_26 rfl ?_
  obtain ⟨x16, w14, e15, h⟩ := obS2 h
  have ge15 := calSR_of e15
  refine j_callV_g (pc := 27) (As := [.int i1]) (k' := 0) (n' := 0) dX9_bestPoint_27 (s_X8_at ge15.1) (jgV lw_139 lw_140 lw_141 lw_12 lw_138) rfl hv_X8_at rfl (r_X8_at ge15.1) rfl (by decide) (by decide) (Nat.le_of_ble_eq_true rfl) (by decide) (by decide) (by decide) (by decide) (Or.inl ge15.2) ?_
  refine j_istore_5 (pc := 30) dX9_bestPoint_30 (by decide) rfl ?_
  refine j_iconst (pc := 32) dX9_bestPoint_32 (v := (-1)) (by decide) ?_
  refine j_istore_6 (pc := 33) dX9_bestPoint_33 (by decide) rfl ?_
  refine j_ldc (pc := 35) dX9_bestPoint_35 (v := 2147483647) (jwm lw_476) ?_
  refine j_istore_7 (pc := 37) dX9_bestPoint_37 (by decide) rfl ?_
  refine j_iconst (pc := 39) dX9_bestPoint_39 (v := 0) (by decide) ?_
  refine j_istore_8 (pc := 40) dX9_bestPoint_40 (by decide) rfl ?_
  exact jm_X9_bestPoint_l42 FU _ _ _ _ _ _ _ _ _ w14 h
theorem r_X9_bestPoint {a0 : Nat} {i1 : Int32} {ws : LWd} {o : (Int32 × LWd)} (h : m_X9_bestPoint a0 i1 ws = some o) : ∃ fs, ws[a0]? = some (.inr (9, fs)) := rcv_in h
