/-! methods: written by wip/p27/make.py -/
def wsX10_isLeg : List Cond := Cond.code yX10_isLeg cX10_isLeg 2 (some .boolean) :: jW
def m_X10_isLeg (a0 : Nat) (i1 : Int32) (ws : LWd) : Option (Int32 × LWd) :=
  (rcv ws a0 10).bind fun _ =>
  if i1 < 0 then
    some (0, ws)
  else
    (fR ws a0 10 1).bind fun x2 =>
    (fI ws x2 2 3).bind fun x4 =>
    if x4 ≤ i1 then
      some (0, ws)
    else
      some (1, ws)
set_option maxRecDepth 100000 in
set_option maxHeartbeats 4000000 in
theorem s_X10_isLeg {a0 : Nat} {i1 : Int32} {ws : LWd} {rr : Int32} {ws' : LWd} (h : m_X10_isLeg a0 i1 ws = some (rr, ws')) : jSp yX10_isLeg wsX10_isLeg 0 0 0 [.ref a0, .int i1] ws (.inl (some (.int rr)), ws') := by
  unfold m_X10_isLeg at h
  refine j_entry (ret := (some .boolean)) (nm := "isLeg") (own := RX10) pl_X10 rfl rfl rfl (jcats (by rfl)) (Nat.le_of_ble_eq_true rfl) ?_
  show JG (.inl false) cX10_isLeg 2 RX10 wsX10_isLeg (some .boolean) "isLeg" 0 0 0 ws.length (.inl (some (.int rr)), ws') 0 [some (.ref a0), some (.int i1)] [] ws 0 0
  obtain ⟨_, _, h⟩ := obS h
  refine j_iload_n (pc := 0) dX10_isLeg_0 rfl ?_
  refine j_if_lt (pc := 1) (tgt := 19) dX10_isLeg_1 (by decide) (fun c1 => ?_) (fun c1 => ?_)
  · rw [if_pos c1] at h
    refine j_iconst (pc := 19) dX10_isLeg_19 (v := 0) (by decide) ?_
    obtain ⟨rfl, rfl⟩ := jretS h
    exact j_zretL (pc := 20) (by decide) rfl dX10_isLeg_20 (by decide) (by decide) rfl
  · rw [if_neg c1] at h
    refine j_iload_n (pc := 4) dX10_isLeg_4 rfl ?_
    refine j_aload_n (pc := 5) dX10_isLeg_5 rfl ?_
    obtain ⟨x2, e3, h⟩ := obS h
    refine j_getR (pc := 6) dX10_isLeg_6 (ci := 10) (kf := 1) rfl (jwi hw_X10) (by decide) (jwm lw_100) e3 ?_
    obtain ⟨x4, e5, h⟩ := obS h
    refine j_getI (pc := 9) dX10_isLeg_9 (ci := 2) (kf := 3) rfl (jwi hw_X2) (by decide) (jwm lw_170) e5 ?_
    refine j_icmp_ge (pc := 12) (tgt := 19) dX10_isLeg_12 (by decide) (fun c6 => ?_) (fun c6 => ?_)
    · rw [if_pos c6] at h
      refine j_iconst (pc := 19) dX10_isLeg_19 (v := 0) (by decide) ?_
      obtain ⟨rfl, rfl⟩ := jretS h
      exact j_zretL (pc := 20) (by decide) rfl dX10_isLeg_20 (by decide) (by decide) rfl
    · rw [if_neg c6] at h
      refine j_iconst (pc := 15) dX10_isLeg_15 (v := 1) (by decide) ?_
      refine j_goto (pc := 16) (tgt := 20) dX10_isLeg_16 (by decide) ?_
      obtain ⟨rfl, rfl⟩ := jretS h
      exact j_zretL (pc := 20) (by decide) rfl dX10_isLeg_20 (by decide) (by decide) rfl
theorem r_X10_isLeg {a0 : Nat} {i1 : Int32} {ws : LWd} {o : (Int32 × LWd)} (h : m_X10_isLeg a0 i1 ws = some o) : ∃ fs, ws[a0]? = some (.inr (10, fs)) := rcv_in h
def wsX3_add : List Cond := Cond.code yX3_add cX3_add 6 (some .int) :: jW
def m_X3_add (a0 : Nat) (i1 : Int32) (i2 : Int32) (i3 : Int32) (i4 : Int32) (i5 : Int32) (ws : LWd) : Option (Int32 × LWd) :=
  (rcv ws a0 3).bind fun _ =>
  (fR ws a0 3 0).bind fun x1 =>
  (fI ws a0 3 5).bind fun x3 =>
  (calSV ws (m_X8_put x1 x3 i1 ws)).bind fun w5 =>
  (fR w5 a0 3 1).bind fun x7 =>
  (fI w5 a0 3 5).bind fun x9 =>
  (calSV w5 (m_X8_put x7 x9 i2 w5)).bind fun w11 =>
  (fR w11 a0 3 2).bind fun x13 =>
  (fI w11 a0 3 5).bind fun x15 =>
  (calSV w11 (m_X8_put x13 x15 i3 w11)).bind fun w17 =>
  (fR w17 a0 3 3).bind fun x19 =>
  (fI w17 a0 3 5).bind fun x21 =>
  (calSV w17 (m_X8_put x19 x21 i4 w17)).bind fun w23 =>
  (fR w23 a0 3 4).bind fun x25 =>
  (fI w23 a0 3 5).bind fun x27 =>
  (calSV w23 (m_X8_put x25 x27 i5 w23)).bind fun w29 =>
  (fI w29 a0 3 5).bind fun x31 =>
  (pV w29 a0 3 5 (.int (x31 + 1))).bind fun w33 =>
  (fI w33 a0 3 5).bind fun x35 =>
  some (x35, w33)
set_option maxRecDepth 100000 in
set_option maxHeartbeats 4000000 in
theorem s_X3_add {a0 : Nat} {i1 : Int32} {i2 : Int32} {i3 : Int32} {i4 : Int32} {i5 : Int32} {ws : LWd} {rr : Int32} {ws' : LWd} (h : m_X3_add a0 i1 i2 i3 i4 i5 ws = some (rr, ws')) : jSp yX3_add wsX3_add 1 0 0 [.ref a0, .int i1, .int i2, .int i3, .int i4, .int i5] ws (.inl (some (.int rr)), ws') := by
  unfold m_X3_add at h
  refine j_entry (ret := (some .int)) (nm := "add") (own := RX3) pl_X3 rfl rfl rfl (jcats (by rfl)) (Nat.le_of_ble_eq_true rfl) ?_
  show JG (.inl false) cX3_add 6 RX3 wsX3_add (some .int) "add" 1 0 0 ws.length (.inl (some (.int rr)), ws') 0 [some (.ref a0), some (.int i1), some (.int i2), some (.int i3), some (.int i4), some (.int i5)] [] ws 0 0
  obtain ⟨_, _, h⟩ := obS h
  refine j_aload_n (pc := 0) dX3_add_0 rfl ?_
  obtain ⟨x1, e2, h⟩ := obS h
  refine j_getR (pc := 1) dX3_add_1 (ci := 3) (kf := 0) rfl (jwi hw_X3) (by decide) (jwm lw_66) e2 ?_
  refine j_aload_n (pc := 4) dX3_add_4 rfl ?_
  obtain ⟨x3, e4, h⟩ := obS h
  refine j_getI (pc := 5) dX3_add_5 (ci := 3) (kf := 5) rfl (jwi hw_X3) (by decide) (jwm lw_71) e4 ?_
  refine j_iload_n (pc := 8) dX3_add_8 rfl ?_
  obtain ⟨w5, e6, h⟩ := obS h
  have ge6 := calSV_of e6
  refine j_callV_g (pc := 9) (As := [.int x3, .int i1]) (k' := 0) (n' := 0) dX3_add_9 (s_X8_put ge6.1) (jgV lw_179 lw_159 lw_160 lw_12 lw_157) rfl hv_X8_put rfl (r_X8_put ge6.1) rfl (by decide) (by decide) (Nat.le_of_ble_eq_true rfl) (by decide) (by decide) (by decide) (by decide) (Or.inl ge6.2) ?_
  refine j_aload_n (pc := 12) dX3_add_12 rfl ?_
  obtain ⟨x7, e8, h⟩ := obS h
  refine j_getR (pc := 13) dX3_add_13 (ci := 3) (kf := 1) rfl (jwi hw_X3) (by decide) (jwm lw_67) e8 ?_
  refine j_aload_n (pc := 16) dX3_add_16 rfl ?_
  obtain ⟨x9, e10, h⟩ := obS h
  refine j_getI (pc := 17) dX3_add_17 (ci := 3) (kf := 5) rfl (jwi hw_X3) (by decide) (jwm lw_71) e10 ?_
  refine j_iload_n (pc := 20) dX3_add_20 rfl ?_
  obtain ⟨w11, e12, h⟩ := obS h
  have ge12 := calSV_of e12
  refine j_callV_g (pc := 21) (As := [.int x9, .int i2]) (k' := 0) (n' := 0) dX3_add_21 (s_X8_put ge12.1) (jgV lw_179 lw_159 lw_160 lw_12 lw_157) rfl hv_X8_put rfl (r_X8_put ge12.1) rfl (by decide) (by decide) (Nat.le_of_ble_eq_true rfl) (by decide) (by decide) (by decide) (by decide) (Or.inl ge12.2) ?_
  refine j_aload_n (pc := 24) dX3_add_24 rfl ?_
  obtain ⟨x13, e14, h⟩ := obS h
  refine j_getR (pc := 25) dX3_add_25 (ci := 3) (kf := 2) rfl (jwi hw_X3) (by decide) (jwm lw_68) e14 ?_
  refine j_aload_n (pc := 28) dX3_add_28 rfl ?_
  obtain ⟨x15, e16, h⟩ := obS h
  refine j_getI (pc := 29) dX3_add_29 (ci := 3) (kf := 5) rfl (jwi hw_X3) (by decide) (jwm lw_71) e16 ?_
  refine j_iload_n (pc := 32) dX3_add_32 rfl ?_
  obtain ⟨w17, e18, h⟩ := obS h
  have ge18 := calSV_of e18
  refine j_callV_g (pc := 33) (As := [.int x15, .int i3]) (k' := 0) (n' := 0) dX3_add_33 (s_X8_put ge18.1) (jgV lw_179 lw_159 lw_160 lw_12 lw_157) rfl hv_X8_put rfl (r_X8_put ge18.1) rfl (by decide) (by decide) (Nat.le_of_ble_eq_true rfl) (by decide) (by decide) (by decide) (by decide) (Or.inl ge18.2) ?_
  refine j_aload_n (pc := 36) dX3_add_36 rfl ?_
  obtain ⟨x19, e20, h⟩ := obS h
  refine j_getR (pc := 37) dX3_add_37 (ci := 3) (kf := 3) rfl (jwi hw_X3) (by decide) (jwm lw_69) e20 ?_
  refine j_aload_n (pc := 40) dX3_add_40 rfl ?_
  obtain ⟨x21, e22, h⟩ := obS h
  refine j_getI (pc := 41) dX3_add_41 (ci := 3) (kf := 5) rfl (jwi hw_X3) (by decide) (jwm lw_71) e22 ?_
  refine j_iload (pc := 44) dX3_add_44 rfl ?_
  obtain ⟨w23, e24, h⟩ := obS h
  have ge24 := calSV_of e24
  refine j_callV_g (pc := 46) (As := [.int x21, .int i4]) (k' := 0) (n' := 0) dX3_add_46 (s_X8_put ge24.1) (jgV lw_179 lw_159 lw_160 lw_12 lw_157) rfl hv_X8_put rfl (r_X8_put ge24.1) rfl (by decide) (by decide) (Nat.le_of_ble_eq_true rfl) (by decide) (by decide) (by decide) (by decide) (Or.inl ge24.2) ?_
  refine j_aload_n (pc := 49) dX3_add_49 rfl ?_
  obtain ⟨x25, e26, h⟩ := obS h
  refine j_getR (pc := 50) dX3_add_50 (ci := 3) (kf := 4) rfl (jwi hw_X3) (by decide) (jwm lw_70) e26 ?_
  refine j_aload_n (pc := 53) dX3_add_53 rfl ?_
  obtain ⟨x27, e28, h⟩ := obS h
  refine j_getI (pc := 54) dX3_add_54 (ci := 3) (kf := 5) rfl (jwi hw_X3) (by decide) (jwm lw_71) e28 ?_
  refine j_iload (pc := 57) dX3_add_57 rfl ?_
  obtain ⟨w29, e30, h⟩ := obS h
  have ge30 := calSV_of e30
  refine j_callV_g (pc := 59) (As := [.int x27, .int i5]) (k' := 0) (n' := 0) dX3_add_59 (s_X8_put ge30.1) (jgV lw_179 lw_159 lw_160 lw_12 lw_157) rfl hv_X8_put rfl (r_X8_put ge30.1) rfl (by decide) (by decide) (Nat.le_of_ble_eq_true rfl) (by decide) (by decide) (by decide) (by decide) (Or.inl ge30.2) ?_
  refine j_aload_n (pc := 62) dX3_add_62 rfl ?_
  refine j_dup (pc := 63) dX3_add_63 rfl ?_
  obtain ⟨x31, e32, h⟩ := obS h
  refine j_getI (pc := 64) dX3_add_64 (ci := 3) (kf := 5) rfl (jwi hw_X3) (by decide) (jwm lw_71) e32 ?_
  refine j_iconst (pc := 67) dX3_add_67 (v := 1) (by decide) ?_
  refine j_iadd (pc := 68) dX3_add_68 ?_
  obtain ⟨w33, e34, h⟩ := obS h
  refine j_putV (pc := 69) (ci := 3) (kf := 5) tyX3 tyX3_ok nmX3 dX3_add_69 rfl (jwi hw_X3) (by decide) (jwm lw_71) rfl (fun _ => rfl) (fun _ => rfl) e34 ?_
  refine j_aload_n (pc := 72) dX3_add_72 rfl ?_
  obtain ⟨x35, e36, h⟩ := obS h
  refine j_getI (pc := 73) dX3_add_73 (ci := 3) (kf := 5) rfl (jwi hw_X3) (by decide) (jwm lw_71) e36 ?_
  obtain ⟨rfl, rfl⟩ := jretS h
  exact j_iret (pc := 76) rfl dX3_add_76 (by decide) (by decide) rfl
theorem r_X3_add {a0 : Nat} {i1 : Int32} {i2 : Int32} {i3 : Int32} {i4 : Int32} {i5 : Int32} {ws : LWd} {o : (Int32 × LWd)} (h : m_X3_add a0 i1 i2 i3 i4 i5 ws = some o) : ∃ fs, ws[a0]? = some (.inr (3, fs)) := rcv_in h
def wsX10_phase : List Cond := Cond.code yX10_phase cX10_phase 6 (some .int) :: jW
def m_X10_phase_b60 (ws : LWd) : Option ((Int32 ⊕ String) × LWd) :=
  some (.inr "java/lang/IllegalArgumentException", ws)
set_option maxRecDepth 100000 in
set_option maxHeartbeats 4000000 in
theorem jm_X10_phase_b60 {n0 : Nat} {rr : Int32 ⊕ String} {ws' : LWd} (ws : LWd) (hn0 : ws.length = n0) (h : m_X10_phase_b60 ws = some (rr, ws')) : JG (.inl true) cX10_phase 6 RX10 wsX10_phase (some .int) "phase" 6 1 6 n0 (jthr rr, ws') 60 [none, none, none, none, none, none] [] ws 0 0 := by
  unfold m_X10_phase_b60 at h
  obtain ⟨rfl, rfl⟩ := jretS h
  exact j_throw (pc := 60) (text := "no such way") rfl rfl dX10_phase_60 dX10_phase_63 dX10_phase_64 dX10_phase_66 dX10_phase_69 (List.mem_of_getElem? (i := 7) rfl) (List.mem_of_getElem? (i := 0) rfl) (jfit _ (List.mem_of_getElem? (i := 0) rfl)) (jwm lw_142) (jwm lw_143) (jwi hwx_93) jgo_93 (by decide) (Nat.le_of_ble_eq_true rfl) (by decide) (by decide) (by omega) rfl
def m_X10_phase (a0 : Nat) (i1 : Int32) (i2 : Int32) (i3 : Int32) (i4 : Int32) (i5 : Int32) (ws : LWd) : Option ((Int32 ⊕ String) × LWd) :=
  (rcv ws a0 10).bind fun _ =>
  bn2 (calSR ws (m_X10_isLeg a0 i1 ws)) fun x3 w1 =>
  if x3 = 0 then
    some (.inr "java/lang/IndexOutOfBoundsException", w1)
  else
    bn2 (calSR w1 (m_X10_isWithin i2 ((-6)) 6 w1)) fun x7 w5 =>
    if x7 = 0 then
      m_X10_phase_b60  w5
    else
      bn2 (calSR w5 (m_X10_isWithin i3 ((-6)) 6 w5)) fun x11 w9 =>
      if x11 = 0 then
        m_X10_phase_b60  w9
      else
        bn2 (calSR w9 (m_X10_isWithin i4 ((-1)) 1 w9)) fun x15 w13 =>
        if x15 = 0 then
          m_X10_phase_b60  w13
        else
          bn2 (calSR w13 (m_X10_isWithin i5 ((-1)) 1 w13)) fun x19 w17 =>
          if x19 = 0 then
            m_X10_phase_b60  w17
          else
            (fR w17 a0 10 7).bind fun x21 =>
            (fI w17 x21 3 5).bind fun x23 =>
            if x23 < 8 then
              (fR w17 a0 10 7).bind fun x26 =>
              bn2 (calSR w17 (m_X3_add x26 i1 i2 i3 i4 i5 w17)) fun x30 w28 =>
              some (.inl x30, w28)
            else
              some (.inr "java/lang/IllegalStateException", w17)
set_option maxRecDepth 100000 in
set_option maxHeartbeats 4000000 in
theorem s_X10_phase {a0 : Nat} {i1 : Int32} {i2 : Int32} {i3 : Int32} {i4 : Int32} {i5 : Int32} {ws : LWd} {rr : Int32 ⊕ String} {ws' : LWd} (h : m_X10_phase a0 i1 i2 i3 i4 i5 ws = some (rr, ws')) : jSX yX10_phase wsX10_phase 6 1 6 [.ref a0, .int i1, .int i2, .int i3, .int i4, .int i5] ws (jthr rr, ws') := by
  unfold m_X10_phase at h
  refine j_entryX (ret := (some .int)) (nm := "phase") (own := RX10) pl_X10 rfl rfl rfl (jcats (by rfl)) (Nat.le_of_ble_eq_true rfl) ?_
  show JG (.inl true) cX10_phase 6 RX10 wsX10_phase (some .int) "phase" 6 1 6 ws.length (jthr rr, ws') 0 [some (.ref a0), some (.int i1), some (.int i2), some (.int i3), some (.int i4), some (.int i5)] [] ws 0 0
  obtain ⟨_, _, h⟩ := obS h
  refine j_aload_n (pc := 0) dX10_phase_0 rfl ?_
  refine j_iload_n (pc := 1) dX10_phase_1 rfl ?_
  obtain ⟨x3, w1, e2, h⟩ := obS2 h
  have ge2 := calSR_of e2
  have le2 := ge2.2
  refine j_callV_g (pc := 2) (As := [.int i1]) (k' := 0) (n' := 0) dX10_phase_2 (s_X10_isLeg ge2.1) (jgV lw_181 lw_182 lw_183 lw_147 lw_180) rfl hv_X10_isLeg rfl (r_X10_isLeg ge2.1) rfl (by decide) (by decide) (Nat.le_of_ble_eq_true rfl) (by decide) (by decide) (by decide) (by decide) (Or.inl ge2.2) ?_
  refine j_if_ne (pc := 5) (tgt := 18) dX10_phase_5 (by decide) (fun c4 => ?_) (fun c4 => ?_)
  · rw [if_neg c4] at h
    refine j_iload_n (pc := 18) dX10_phase_18 rfl ?_
    refine j_bipush (pc := 19) dX10_phase_19 (v := (-6)) (by decide) ?_
    refine j_bipush (pc := 21) dX10_phase_21 (v := 6) (by decide) ?_
    obtain ⟨x7, w5, e6, h⟩ := obS2 h
    have ge6 := calSR_of e6
    have le6 := ge6.2
    refine j_callS_g (pc := 23) (As := [.int i2, .int ((-6)), .int 6]) (k' := 0) (n' := 0) dX10_phase_23 (s_X10_isWithin ge6.1) (jgS lw_149 lw_150 lw_147 lw_148) rfl hy_X10_isWithin rfl (by decide) (by decide) (Nat.le_of_ble_eq_true rfl) (by decide) (by decide) (by decide) (by decide) (Or.inl ge6.2) ?_
    refine j_if_eq (pc := 26) (tgt := 60) dX10_phase_26 (by decide) (fun c8 => ?_) (fun c8 => ?_)
    · rw [if_pos c8] at h
      refine j_mask [false, false, false, false, false, false] ?_
      exact jm_X10_phase_b60 w5 (by omega) h
    · rw [if_neg c8] at h
      refine j_iload_n (pc := 29) dX10_phase_29 rfl ?_
      refine j_bipush (pc := 30) dX10_phase_30 (v := (-6)) (by decide) ?_
      refine j_bipush (pc := 32) dX10_phase_32 (v := 6) (by decide) ?_
      obtain ⟨x11, w9, e10, h⟩ := obS2 h
      have ge10 := calSR_of e10
      have le10 := ge10.2
      refine j_callS_g (pc := 34) (As := [.int i3, .int ((-6)), .int 6]) (k' := 0) (n' := 0) dX10_phase_34 (s_X10_isWithin ge10.1) (jgS lw_149 lw_150 lw_147 lw_148) rfl hy_X10_isWithin rfl (by decide) (by decide) (Nat.le_of_ble_eq_true rfl) (by decide) (by decide) (by decide) (by decide) (Or.inl ge10.2) ?_
      refine j_if_eq (pc := 37) (tgt := 60) dX10_phase_37 (by decide) (fun c12 => ?_) (fun c12 => ?_)
      · rw [if_pos c12] at h
        refine j_mask [false, false, false, false, false, false] ?_
        exact jm_X10_phase_b60 w9 (by omega) h
      · rw [if_neg c12] at h
        refine j_iload (pc := 40) dX10_phase_40 rfl ?_
        refine j_iconst (pc := 42) dX10_phase_42 (v := (-1)) (by decide) ?_
        refine j_iconst (pc := 43) dX10_phase_43 (v := 1) (by decide) ?_
        obtain ⟨x15, w13, e14, h⟩ := obS2 h
        have ge14 := calSR_of e14
        have le14 := ge14.2
        refine j_callS_g (pc := 44) (As := [.int i4, .int ((-1)), .int 1]) (k' := 0) (n' := 0) dX10_phase_44 (s_X10_isWithin ge14.1) (jgS lw_149 lw_150 lw_147 lw_148) rfl hy_X10_isWithin rfl (by decide) (by decide) (Nat.le_of_ble_eq_true rfl) (by decide) (by decide) (by decide) (by decide) (Or.inl ge14.2) ?_
        refine j_if_eq (pc := 47) (tgt := 60) dX10_phase_47 (by decide) (fun c16 => ?_) (fun c16 => ?_)
        · rw [if_pos c16] at h
          refine j_mask [false, false, false, false, false, false] ?_
          exact jm_X10_phase_b60 w13 (by omega) h
        · rw [if_neg c16] at h
          refine j_iload (pc := 50) dX10_phase_50 rfl ?_
          refine j_iconst (pc := 52) dX10_phase_52 (v := (-1)) (by decide) ?_
          refine j_iconst (pc := 53) dX10_phase_53 (v := 1) (by decide) ?_
          obtain ⟨x19, w17, e18, h⟩ := obS2 h
          have ge18 := calSR_of e18
          have le18 := ge18.2
          refine j_callS_g (pc := 54) (As := [.int i5, .int ((-1)), .int 1]) (k' := 0) (n' := 0) dX10_phase_54 (s_X10_isWithin ge18.1) (jgS lw_149 lw_150 lw_147 lw_148) rfl hy_X10_isWithin rfl (by decide) (by decide) (Nat.le_of_ble_eq_true rfl) (by decide) (by decide) (by decide) (by decide) (Or.inl ge18.2) ?_
          refine j_if_ne (pc := 57) (tgt := 70) dX10_phase_57 (by decide) (fun c20 => ?_) (fun c20 => ?_)
          · rw [if_neg c20] at h
            refine j_aload_n (pc := 70) dX10_phase_70 rfl ?_
            obtain ⟨x21, e22, h⟩ := obS h
            refine j_getR (pc := 71) dX10_phase_71 (ci := 10) (kf := 7) rfl (jwi hw_X10) (by decide) (jwm lw_128) e22 ?_
            obtain ⟨x23, e24, h⟩ := obS h
            refine j_getI (pc := 74) dX10_phase_74 (ci := 3) (kf := 5) rfl (jwi hw_X3) (by decide) (jwm lw_184) e24 ?_
            refine j_bipush (pc := 77) dX10_phase_77 (v := 8) (by decide) ?_
            refine j_icmp_lt (pc := 79) (tgt := 92) dX10_phase_79 (by decide) (fun c25 => ?_) (fun c25 => ?_)
            · rw [if_pos c25] at h
              refine j_aload_n (pc := 92) dX10_phase_92 rfl ?_
              obtain ⟨x26, e27, h⟩ := obS h
              refine j_getR (pc := 93) dX10_phase_93 (ci := 10) (kf := 7) rfl (jwi hw_X10) (by decide) (jwm lw_128) e27 ?_
              refine j_iload_n (pc := 96) dX10_phase_96 rfl ?_
              refine j_iload_n (pc := 97) dX10_phase_97 rfl ?_
              refine j_iload_n (pc := 98) dX10_phase_98 rfl ?_
              refine j_iload (pc := 99) dX10_phase_99 rfl ?_
              refine j_iload (pc := 101) dX10_phase_101 rfl ?_
              obtain ⟨x30, w28, e29, h⟩ := obS2 h
              have ge29 := calSR_of e29
              have le29 := ge29.2
              refine j_callV_g (pc := 103) (As := [.int i1, .int i2, .int i3, .int i4, .int i5]) (k' := 0) (n' := 0) dX10_phase_103 (s_X3_add ge29.1) (jgV lw_186 lw_187 lw_188 lw_125 lw_185) rfl hv_X3_add rfl (r_X3_add ge29.1) rfl (by decide) (by decide) (Nat.le_of_ble_eq_true rfl) (by decide) (by decide) (by decide) (by decide) (Or.inl ge29.2) ?_
              obtain ⟨rfl, rfl⟩ := jretS h
              exact j_iret (pc := 106) rfl dX10_phase_106 (by decide) (by decide) rfl
            · rw [if_neg c25] at h
              obtain ⟨rfl, rfl⟩ := jretS h
              exact j_throw (pc := 82) (text := "no phase can be added") rfl rfl dX10_phase_82 dX10_phase_85 dX10_phase_86 dX10_phase_88 dX10_phase_91 (List.mem_of_getElem? (i := 8) rfl) (List.mem_of_getElem? (i := 1) rfl) (jfit _ (List.mem_of_getElem? (i := 1) rfl)) (jwm lw_163) (jwm lw_164) (jwi hwx_104) jgo_104 (by decide) (Nat.le_of_ble_eq_true rfl) (by decide) (by decide) (by omega) rfl
          · rw [if_pos c20] at h
            refine j_mask [false, false, false, false, false, false] ?_
            exact jm_X10_phase_b60 w17 (by omega) h
  · rw [if_pos c4] at h
    obtain ⟨rfl, rfl⟩ := jretS h
    exact j_throw (pc := 8) (text := "no such leg") rfl rfl dX10_phase_8 dX10_phase_11 dX10_phase_12 dX10_phase_14 dX10_phase_17 (List.mem_of_getElem? (i := 6) rfl) (List.mem_of_getElem? (i := 2) rfl) (jfit _ (List.mem_of_getElem? (i := 2) rfl)) (jwm lw_189) (jwm lw_190) (jwi hwx_159) jgo_159 (by decide) (Nat.le_of_ble_eq_true rfl) (by decide) (by decide) (by omega) rfl
theorem r_X10_phase {a0 : Nat} {i1 : Int32} {i2 : Int32} {i3 : Int32} {i4 : Int32} {i5 : Int32} {ws : LWd} {o : ((Int32 ⊕ String) × LWd)} (h : m_X10_phase a0 i1 i2 i3 i4 i5 ws = some o) : ∃ fs, ws[a0]? = some (.inr (10, fs)) := rcv_in h
def wsX3_clear : List Cond := Cond.code yX3_clear cX3_clear 1 none :: jW
def m_X3_clear (a0 : Nat) (ws : LWd) : Option LWd :=
  (rcv ws a0 3).bind fun _ =>
  (pV ws a0 3 5 (.int 0)).bind fun w1 =>
  (pV w1 a0 3 6 (.int 0)).bind fun w3 =>
  some w3
set_option maxRecDepth 100000 in
set_option maxHeartbeats 4000000 in
theorem s_X3_clear {a0 : Nat} {ws : LWd} {ws' : LWd} (h : m_X3_clear a0 ws = some ws') : jSp yX3_clear wsX3_clear 0 0 0 [.ref a0] ws (.inl none, ws') := by
  unfold m_X3_clear at h
  refine j_entry (ret := none) (nm := "clear") (own := RX3) pl_X3 rfl rfl rfl (jcats (by rfl)) (Nat.le_of_ble_eq_true rfl) ?_
  show JG (.inl false) cX3_clear 1 RX3 wsX3_clear none "clear" 0 0 0 ws.length (.inl none, ws') 0 [some (.ref a0)] [] ws 0 0
  obtain ⟨_, _, h⟩ := obS h
  refine j_aload_n (pc := 0) dX3_clear_0 rfl ?_
  refine j_iconst (pc := 1) dX3_clear_1 (v := 0) (by decide) ?_
  obtain ⟨w1, e2, h⟩ := obS h
  refine j_putV (pc := 2) (ci := 3) (kf := 5) tyX3 tyX3_ok nmX3 dX3_clear_2 rfl (jwi hw_X3) (by decide) (jwm lw_71) rfl (fun _ => rfl) (fun _ => rfl) e2 ?_
  refine j_aload_n (pc := 5) dX3_clear_5 rfl ?_
  refine j_iconst (pc := 6) dX3_clear_6 (v := 0) (by decide) ?_
  obtain ⟨w3, e4, h⟩ := obS h
  refine j_putV (pc := 7) (ci := 3) (kf := 6) tyX3 tyX3_ok nmX3 dX3_clear_7 rfl (jwi hw_X3) (by decide) (jwm lw_72) rfl (fun _ => rfl) (fun _ => rfl) e4 ?_
  cases h
  exact j_vret (pc := 10) rfl dX3_clear_10 (by decide) (by decide) rfl
theorem r_X3_clear {a0 : Nat} {ws : LWd} {o : LWd} (h : m_X3_clear a0 ws = some o) : ∃ fs, ws[a0]? = some (.inr (3, fs)) := rcv_in h
def wsX10_halt : List Cond := Cond.code yX10_halt cX10_halt 2 (some .int) :: jW
def m_X10_halt (a0 : Nat) (ws : LWd) : Option (Int32 × LWd) :=
  (rcv ws a0 10).bind fun _ =>
  (fR ws a0 10 7).bind fun x1 =>
  (fI ws x1 3 5).bind fun x3 =>
  (fR ws a0 10 7).bind fun x5 =>
  (calSV ws (m_X3_clear x5 ws)).bind fun w7 =>
  some (x3, w7)
set_option maxRecDepth 100000 in
set_option maxHeartbeats 4000000 in
theorem s_X10_halt {a0 : Nat} {ws : LWd} {rr : Int32} {ws' : LWd} (h : m_X10_halt a0 ws = some (rr, ws')) : jSp yX10_halt wsX10_halt 1 0 0 [.ref a0] ws (.inl (some (.int rr)), ws') := by
  unfold m_X10_halt at h
  refine j_entry (ret := (some .int)) (nm := "halt") (own := RX10) pl_X10 rfl rfl rfl (jcats (by rfl)) (Nat.le_of_ble_eq_true rfl) ?_
  show JG (.inl false) cX10_halt 2 RX10 wsX10_halt (some .int) "halt" 1 0 0 ws.length (.inl (some (.int rr)), ws') 0 [some (.ref a0), none] [] ws 0 0
  obtain ⟨_, _, h⟩ := obS h
  refine j_aload_n (pc := 0) dX10_halt_0 rfl ?_
  obtain ⟨x1, e2, h⟩ := obS h
  refine j_getR (pc := 1) dX10_halt_1 (ci := 10) (kf := 7) rfl (jwi hw_X10) (by decide) (jwm lw_128) e2 ?_
  obtain ⟨x3, e4, h⟩ := obS h
  refine j_getI (pc := 4) dX10_halt_4 (ci := 3) (kf := 5) rfl (jwi hw_X3) (by decide) (jwm lw_184) e4 ?_
  refine j_istore_n_1 (pc := 7) dX10_halt_7 (by decide) rfl ?_
  refine j_aload_n (pc := 8) dX10_halt_8 rfl ?_
  obtain ⟨x5, e6, h⟩ := obS h
  refine j_getR (pc := 9) dX10_halt_9 (ci := 10) (kf := 7) rfl (jwi hw_X10) (by decide) (jwm lw_128) e6 ?_
  obtain ⟨w7, e8, h⟩ := obS h
  have ge8 := calSV_of e8
  refine j_callV_g (pc := 12) (As := []) (k' := 0) (n' := 0) dX10_halt_12 (s_X3_clear ge8.1) (jgV lw_192 lw_193 lw_194 lw_125 lw_191) rfl hv_X3_clear rfl (r_X3_clear ge8.1) rfl (by decide) (by decide) (Nat.le_of_ble_eq_true rfl) (by decide) (by decide) (by decide) (by decide) (Or.inl ge8.2) ?_
  refine j_iload_n (pc := 15) dX10_halt_15 rfl ?_
  obtain ⟨rfl, rfl⟩ := jretS h
  exact j_iret (pc := 16) rfl dX10_halt_16 (by decide) (by decide) rfl
theorem r_X10_halt {a0 : Nat} {ws : LWd} {o : (Int32 × LWd)} (h : m_X10_halt a0 ws = some o) : ∃ fs, ws[a0]? = some (.inr (10, fs)) := rcv_in h
def wsX2_carry : List Cond := Cond.code yX2_carry cX2_carry 4 none :: jW
def m_X2_carry (a0 : Nat) (i1 : Int32) (i2 : Int32) (i3 : Int32) (ws : LWd) : Option LWd :=
  (rcv ws a0 2).bind fun _ =>
  (pV ws a0 2 4 (.int i1)).bind fun w1 =>
  (pV w1 a0 2 5 (.int i2)).bind fun w3 =>
  (pV w3 a0 2 6 (.int i3)).bind fun w5 =>
  some w5
set_option maxRecDepth 100000 in
set_option maxHeartbeats 4000000 in
theorem s_X2_carry {a0 : Nat} {i1 : Int32} {i2 : Int32} {i3 : Int32} {ws : LWd} {ws' : LWd} (h : m_X2_carry a0 i1 i2 i3 ws = some ws') : jSp yX2_carry wsX2_carry 0 0 0 [.ref a0, .int i1, .int i2, .int i3] ws (.inl none, ws') := by
  unfold m_X2_carry at h
  refine j_entry (ret := none) (nm := "carry") (own := RX2) pl_X2 rfl rfl rfl (jcats (by rfl)) (Nat.le_of_ble_eq_true rfl) ?_
  show JG (.inl false) cX2_carry 4 RX2 wsX2_carry none "carry" 0 0 0 ws.length (.inl none, ws') 0 [some (.ref a0), some (.int i1), some (.int i2), some (.int i3)] [] ws 0 0
  obtain ⟨_, _, h⟩ := obS h
  refine j_aload_n (pc := 0) dX2_carry_0 rfl ?_
  refine j_iload_n (pc := 1) dX2_carry_1 rfl ?_
  obtain ⟨w1, e2, h⟩ := obS h
  refine j_putV (pc := 2) (ci := 2) (kf := 4) tyX2 tyX2_ok nmX2 dX2_carry_2 rfl (jwi hw_X2) (by decide) (jwm lw_33) rfl (fun _ => rfl) (fun _ => rfl) e2 ?_
  refine j_aload_n (pc := 5) dX2_carry_5 rfl ?_
  refine j_iload_n (pc := 6) dX2_carry_6 rfl ?_
  obtain ⟨w3, e4, h⟩ := obS h
  refine j_putV (pc := 7) (ci := 2) (kf := 5) tyX2 tyX2_ok nmX2 dX2_carry_7 rfl (jwi hw_X2) (by decide) (jwm lw_34) rfl (fun _ => rfl) (fun _ => rfl) e4 ?_
  refine j_aload_n (pc := 10) dX2_carry_10 rfl ?_
  refine j_iload_n (pc := 11) dX2_carry_11 rfl ?_
  obtain ⟨w5, e6, h⟩ := obS h
  refine j_putV (pc := 12) (ci := 2) (kf := 6) tyX2 tyX2_ok nmX2 dX2_carry_12 rfl (jwi hw_X2) (by decide) (jwm lw_35) rfl (fun _ => rfl) (fun _ => rfl) e6 ?_
  cases h
  exact j_vret (pc := 15) rfl dX2_carry_15 (by decide) (by decide) rfl
theorem r_X2_carry {a0 : Nat} {i1 : Int32} {i2 : Int32} {i3 : Int32} {ws : LWd} {o : LWd} (h : m_X2_carry a0 i1 i2 i3 ws = some o) : ∃ fs, ws[a0]? = some (.inr (2, fs)) := rcv_in h
def wsX4_isFurtherOut : List Cond := Cond.code yX4_isFurtherOut cX4_isFurtherOut 8 (some .boolean) :: jW
def m_X4_isFurtherOut (i0 : Int32) (i1 : Int32) (i2 : Int32) (ws : LWd) : Option (Int32 × LWd) :=
  if ((((jrem i1 20) - (jrem i0 20)) * ((i2 / 20) - (i0 / 20))) - (((i1 / 20) - (i0 / 20)) * ((jrem i2 20) - (jrem i0 20)))) < 0 then
    some (1, ws)
  else
    if ((((jrem i1 20) - (jrem i0 20)) * ((i2 / 20) - (i0 / 20))) - (((i1 / 20) - (i0 / 20)) * ((jrem i2 20) - (jrem i0 20)))) = 0 then
      if ((((jrem i2 20) - (jrem i0 20)) * ((jrem i2 20) - (jrem i0 20))) + (((i2 / 20) - (i0 / 20)) * ((i2 / 20) - (i0 / 20)))) ≤ ((((jrem i1 20) - (jrem i0 20)) * ((jrem i1 20) - (jrem i0 20))) + (((i1 / 20) - (i0 / 20)) * ((i1 / 20) - (i0 / 20)))) then
        some (0, ws)
      else
        some (1, ws)
    else
      some (0, ws)
set_option maxRecDepth 100000 in
set_option maxHeartbeats 4000000 in
theorem s_X4_isFurtherOut {i0 : Int32} {i1 : Int32} {i2 : Int32} {ws : LWd} {rr : Int32} {ws' : LWd} (h : m_X4_isFurtherOut i0 i1 i2 ws = some (rr, ws')) : jSp yX4_isFurtherOut wsX4_isFurtherOut 0 0 0 [.int i0, .int i1, .int i2] ws (.inl (some (.int rr)), ws') := by
  unfold m_X4_isFurtherOut at h
  refine j_entry (ret := (some .boolean)) (nm := "isFurtherOut") (own := RX4) pl_X4 rfl rfl rfl (jcats (by rfl)) (Nat.le_of_ble_eq_true rfl) ?_
  show JG (.inl false) cX4_isFurtherOut 8 RX4 wsX4_isFurtherOut (some .boolean) "isFurtherOut" 0 0 0 ws.length (.inl (some (.int rr)), ws') 0 [some (.int i0), some (.int i1), some (.int i2), none, none, none, none, none] [] ws 0 0
  refine j_iload_n (pc := 0) dX4_isFurtherOut_0 rfl ?_
  refine j_bipush (pc := 1) dX4_isFurtherOut_1 (v := 20) (by decide) ?_
  refine j_irem (pc := 3) dX4_isFurtherOut_3 (by decide) ?_
  refine j_iload_n (pc := 4) dX4_isFurtherOut_4 rfl ?_
  refine j_bipush (pc := 5) dX4_isFurtherOut_5 (v := 20) (by decide) ?_
  refine j_irem (pc := 7) dX4_isFurtherOut_7 (by decide) ?_
  refine j_isub (pc := 8) dX4_isFurtherOut_8 ?_
  refine j_istore_n_3 (pc := 9) dX4_isFurtherOut_9 (by decide) rfl ?_
  refine j_iload_n (pc := 10) dX4_isFurtherOut_10 rfl ?_
  refine j_bipush (pc := 11) dX4_isFurtherOut_11 (v := 20) (by decide) ?_
  refine j_idiv (pc := 13) dX4_isFurtherOut_13 (by decide) ?_
  refine j_iload_n (pc := 14) dX4_isFurtherOut_14 rfl ?_
  refine j_bipush (pc := 15) dX4_isFurtherOut_15 (v := 20) (by decide) ?_
  refine j_idiv (pc := 17) dX4_isFurtherOut_17 (by decide) ?_
  refine j_isub (pc := 18) dX4_isFurtherOut_18 ?_
  refine j_istore_4 (pc := 19) dX4_isFurtherOut_19 (by decide) rfl ?_
  refine j_iload_n (pc := 21) dX4_isFurtherOut_21 rfl ?_
  refine j_bipush (pc := 22) dX4_isFurtherOut_22 (v := 20) (by decide) ?_
  refine j_irem (pc := 24) dX4_isFurtherOut_24 (by decide) ?_
  refine j_iload_n (pc := 25) dX4_isFurtherOut_25 rfl ?_
  refine j_bipush (pc := 26) dX4_isFurtherOut_26 (v := 20) (by decide) ?_
  refine j_irem (pc := 28) dX4_isFurtherOut_28 (by decide) ?_
  refine j_isub (pc := 29) dX4_isFurtherOut_29 ?_
  refine j_istore_5 (pc := 30) dX4_isFurtherOut_30 (by decide) rfl ?_
  refine j_iload_n (pc := 32) dX4_isFurtherOut_32 rfl ?_
  refine j_bipush (pc := 33) dX4_isFurtherOut_33 (v := 20) (by decide) ?_
  refine j_idiv (pc := 35) dX4_isFurtherOut_35 (by decide) ?_
  refine j_iload_n (pc := 36) dX4_isFurtherOut_36 rfl ?_
  refine j_bipush (pc := 37) dX4_isFurtherOut_37 (v := 20) (by decide) ?_
  refine j_idiv (pc := 39) dX4_isFurtherOut_39 (by decide) ?_
  refine j_isub (pc := 40) dX4_isFurtherOut_40 ?_
  refine j_istore_6 (pc := 41) dX4_isFurtherOut_41 (by decide) rfl ?_
  refine j_iload_n (pc := 43) dX4_isFurtherOut_43 rfl ?_
  refine j_iload (pc := 44) dX4_isFurtherOut_44 rfl ?_
  refine j_imul (pc := 46) dX4_isFurtherOut_46 ?_
  refine j_iload (pc := 47) dX4_isFurtherOut_47 rfl ?_
  refine j_iload (pc := 49) dX4_isFurtherOut_49 rfl ?_
  refine j_imul (pc := 51) dX4_isFurtherOut_51 ?_
  refine j_isub (pc := 52) dX4_isFurtherOut_52 ?_
  refine j_istore_7 (pc := 53) dX4_isFurtherOut_53 (by decide) rfl ?_
  refine j_iload (pc := 55) dX4_isFurtherOut_55 rfl ?_
  refine j_if_lt (pc := 57) (tgt := 88) dX4_isFurtherOut_57 (by decide) (fun c1 => ?_) (fun c1 => ?_)
  · rw [if_pos c1] at h
    refine j_iconst (pc := 88) dX4_isFurtherOut_88 (v := 1) (by decide) ?_
    refine j_goto (pc := 89) (tgt := 93) dX4_isFurtherOut_89 (by decide) ?_
    obtain ⟨rfl, rfl⟩ := jretS h
    exact j_zretL (pc := 93) (by decide) rfl dX4_isFurtherOut_93 (by decide) (by decide) rfl
  · rw [if_neg c1] at h
    refine j_iload (pc := 60) dX4_isFurtherOut_60 rfl ?_
    refine j_if_ne (pc := 62) (tgt := 92) dX4_isFurtherOut_62 (by decide) (fun c2 => ?_) (fun c2 => ?_)
    · rw [if_neg c2] at h
      refine j_iconst (pc := 92) dX4_isFurtherOut_92 (v := 0) (by decide) ?_
      obtain ⟨rfl, rfl⟩ := jretS h
      exact j_zretL (pc := 93) (by decide) rfl dX4_isFurtherOut_93 (by decide) (by decide) rfl
    · rw [if_pos c2] at h
      refine j_iload (pc := 65) dX4_isFurtherOut_65 rfl ?_
      refine j_iload (pc := 67) dX4_isFurtherOut_67 rfl ?_
      refine j_imul (pc := 69) dX4_isFurtherOut_69 ?_
      refine j_iload (pc := 70) dX4_isFurtherOut_70 rfl ?_
      refine j_iload (pc := 72) dX4_isFurtherOut_72 rfl ?_
      refine j_imul (pc := 74) dX4_isFurtherOut_74 ?_
      refine j_iadd (pc := 75) dX4_isFurtherOut_75 ?_
      refine j_iload_n (pc := 76) dX4_isFurtherOut_76 rfl ?_
      refine j_iload_n (pc := 77) dX4_isFurtherOut_77 rfl ?_
      refine j_imul (pc := 78) dX4_isFurtherOut_78 ?_
      refine j_iload (pc := 79) dX4_isFurtherOut_79 rfl ?_
      refine j_iload (pc := 81) dX4_isFurtherOut_81 rfl ?_
      refine j_imul (pc := 83) dX4_isFurtherOut_83 ?_
      refine j_iadd (pc := 84) dX4_isFurtherOut_84 ?_
      refine j_icmp_le (pc := 85) (tgt := 92) dX4_isFurtherOut_85 (by decide) (fun c3 => ?_) (fun c3 => ?_)
      · rw [if_pos c3] at h
        refine j_iconst (pc := 92) dX4_isFurtherOut_92 (v := 0) (by decide) ?_
        obtain ⟨rfl, rfl⟩ := jretS h
        exact j_zretL (pc := 93) (by decide) rfl dX4_isFurtherOut_93 (by decide) (by decide) rfl
      · rw [if_neg c3] at h
        refine j_iconst (pc := 88) dX4_isFurtherOut_88 (v := 1) (by decide) ?_
        refine j_goto (pc := 89) (tgt := 93) dX4_isFurtherOut_89 (by decide) ?_
        obtain ⟨rfl, rfl⟩ := jretS h
        exact j_zretL (pc := 93) (by decide) rfl dX4_isFurtherOut_93 (by decide) (by decide) rfl
def wsX4_wrap : List Cond := Cond.code yX4_wrap cX4_wrap 8 none :: jW
def m_X4_wrap_b175 (a0 : Nat) (i4 : Int32) (ws : LWd) : Option LWd :=
  (fR ws a0 4 0).bind fun x1 =>
  (fI ws a0 4 2).bind fun x3 =>
  (calSV ws (m_X8_put x1 x3 i4 ws)).bind fun w5 =>
  some w5
set_option maxRecDepth 100000 in
set_option maxHeartbeats 4000000 in
theorem jm_X4_wrap_b175 {n0 : Nat} {ws' : LWd} (a0 : Nat) (i4 : Int32) (ws : LWd) (h : m_X4_wrap_b175 a0 i4 ws = some ws') : JG (.inl false) cX4_wrap 8 RX4 wsX4_wrap none "wrap" 1 0 0 n0 (.inl none, ws') 175 [some (.ref a0), none, none, none, some (.int i4), none, none, none] [] ws 0 0 := by
  unfold m_X4_wrap_b175 at h
  refine j_aload_n (pc := 175) dX4_wrap_175 rfl ?_
  obtain ⟨x1, e2, h⟩ := obS h
  refine j_getR (pc := 176) dX4_wrap_176 (ci := 4) (kf := 0) rfl (jwi hw_X4) (by decide) (jwm lw_16) e2 ?_
  refine j_aload_n (pc := 179) dX4_wrap_179 rfl ?_
  obtain ⟨x3, e4, h⟩ := obS h
  refine j_getI (pc := 180) dX4_wrap_180 (ci := 4) (kf := 2) rfl (jwi hw_X4) (by decide) (jwm lw_18) e4 ?_
  refine j_iload (pc := 183) dX4_wrap_183 rfl ?_
  obtain ⟨w5, e6, h⟩ := obS h
  have ge6 := calSV_of e6
  refine j_callV_g (pc := 185) (As := [.int x3, .int i4]) (k' := 0) (n' := 0) dX4_wrap_185 (s_X8_put ge6.1) (jgV lw_195 lw_159 lw_160 lw_12 lw_157) rfl hv_X8_put rfl (r_X8_put ge6.1) rfl (by decide) (by decide) (Nat.le_of_ble_eq_true rfl) (by decide) (by decide) (by decide) (by decide) (Or.inl ge6.2) ?_
  cases h
  exact j_vret (pc := 188) rfl dX4_wrap_188 (by decide) (by decide) rfl
def m_X4_wrap_b152 (k74 : Nat → Int32 → Int32 → Int32 → LWd → Option LWd) (k116 : Nat → Int32 → Int32 → Int32 → Int32 → Int32 → LWd → Option LWd) (a0 : Nat) (i3 : Int32) (i4 : Int32) (i5 : Int32) (i6 : Int32) (i7 : Int32) (ws : LWd) : Option LWd :=
  k116 a0 i3 i4 i5 i6 (i7 + 1) ws
set_option maxRecDepth 100000 in
set_option maxHeartbeats 4000000 in
theorem jm_X4_wrap_b152 {n0 : Nat} {ws' : LWd} {k74 : Nat → Int32 → Int32 → Int32 → LWd → Option LWd} {k116 : Nat → Int32 → Int32 → Int32 → Int32 → Int32 → LWd → Option LWd} (hk74 : ∀ (a0 : Nat) (i3 : Int32) (i4 : Int32) (i5 : Int32) (ws : LWd), k74 a0 i3 i4 i5 ws = some ws' → JG (.inl false) cX4_wrap 8 RX4 wsX4_wrap none "wrap" 1 0 0 n0 (.inl none, ws') 74 [some (.ref a0), none, none, some (.int i3), some (.int i4), some (.int i5), none, none] [] ws 0 0) (hk116 : ∀ (a0 : Nat) (i3 : Int32) (i4 : Int32) (i5 : Int32) (i6 : Int32) (i7 : Int32) (ws : LWd), k116 a0 i3 i4 i5 i6 i7 ws = some ws' → JG (.inl false) cX4_wrap 8 RX4 wsX4_wrap none "wrap" 1 0 0 n0 (.inl none, ws') 116 [some (.ref a0), none, none, some (.int i3), some (.int i4), some (.int i5), some (.int i6), some (.int i7)] [] ws 0 0) (a0 : Nat) (i3 : Int32) (i4 : Int32) (i5 : Int32) (i6 : Int32) (i7 : Int32) (ws : LWd) (h : m_X4_wrap_b152 k74 k116 a0 i3 i4 i5 i6 i7 ws = some ws') : JG (.inl false) cX4_wrap 8 RX4 wsX4_wrap none "wrap" 1 0 0 n0 (.inl none, ws') 152 [some (.ref a0), none, none, some (.int i3), some (.int i4), some (.int i5), some (.int i6), some (.int i7)] [] ws 0 0 := by
  unfold m_X4_wrap_b152 at h
  refine j_iinc_7 (pc := 152) dX4_wrap_152 (y := i7 + 1) rfl (by decide) rfl ?_
  refine j_goto (pc := 155) (tgt := 116) dX4_wrap_155 (by decide) ?_
  exact hk116 _ _ _ _ _ _ ws h
def m_X4_wrap_l116 (k74 : Nat → Int32 → Int32 → Int32 → LWd → Option LWd) : Nat → Nat → Int32 → Int32 → Int32 → Int32 → Int32 → LWd → Option LWd
  | 0, _, _, _, _, _, _, _ => none
  | fu + 1, a0, i3, i4, i5, i6, i7, ws =>
    if i3 ≤ i7 then
      (fI ws a0 4 2).bind fun x2 =>
      (pV ws a0 4 2 (.int (x2 + 1))).bind fun w4 =>
      k74 a0 i3 i4 i6 w4
    else
      (fR ws a0 4 1).bind fun x6 =>
      bn2 (calSR ws (m_X8_at x6 i7 ws)) fun x10 w8 =>
      bn2 (calSR w8 (m_X4_isFurtherOut i5 i6 x10 w8)) fun x13 w11 =>
      if x13 = 0 then
        m_X4_wrap_b152 k74 (fun z0 z1 z2 z3 z4 z5 w => m_X4_wrap_l116 k74 fu z0 z1 z2 z3 z4 z5 w) a0 i3 i4 i5 i6 i7 w11
      else
        (fR w11 a0 4 1).bind fun x15 =>
        bn2 (calSR w11 (m_X8_at x15 i7 w11)) fun x19 w17 =>
        m_X4_wrap_b152 k74 (fun z0 z1 z2 z3 z4 z5 w => m_X4_wrap_l116 k74 fu z0 z1 z2 z3 z4 z5 w) a0 i3 i4 i5 x19 i7 w17
set_option maxRecDepth 100000 in
set_option maxHeartbeats 4000000 in
theorem jm_X4_wrap_l116 {n0 : Nat} {ws' : LWd} {k74 : Nat → Int32 → Int32 → Int32 → LWd → Option LWd} (hk74 : ∀ (a0 : Nat) (i3 : Int32) (i4 : Int32) (i5 : Int32) (ws : LWd), k74 a0 i3 i4 i5 ws = some ws' → JG (.inl false) cX4_wrap 8 RX4 wsX4_wrap none "wrap" 1 0 0 n0 (.inl none, ws') 74 [some (.ref a0), none, none, some (.int i3), some (.int i4), some (.int i5), none, none] [] ws 0 0) : ∀ (fu : Nat) (a0 : Nat) (i3 : Int32) (i4 : Int32) (i5 : Int32) (i6 : Int32) (i7 : Int32) (ws : LWd), m_X4_wrap_l116 k74 fu a0 i3 i4 i5 i6 i7 ws = some ws' → JG (.inl false) cX4_wrap 8 RX4 wsX4_wrap none "wrap" 1 0 0 n0 (.inl none, ws') 116 [some (.ref a0), none, none, some (.int i3), some (.int i4), some (.int i5), some (.int i6), some (.int i7)] [] ws 0 0 := by
  intro fu
  induction fu with
  | zero => intro a0 i3 i4 i5 i6 i7 ws h; first | (cases h; done) | (rw [m_X4_wrap_l116] at h; cases h)
  | succ fu ih =>
    intro a0 i3 i4 i5 i6 i7 ws h
    rw [m_X4_wrap_l116] at h
    refine j_iload (pc := 116) dX4_wrap_116 rfl ?_
    refine j_iload_n (pc := 118) dX4_wrap_118 rfl ?_
    refine j_icmp_ge (pc := 119) (tgt := 158) dX4_wrap_119 (by decide) (fun c1 => ?_) (fun c1 => ?_)
    · rw [if_pos c1] at h
      refine j_iload (pc := 158) dX4_wrap_158 rfl ?_
      refine j_istore_5 (pc := 160) dX4_wrap_160 (by decide) rfl ?_
      refine j_aload_n (pc := 162) dX4_wrap_162 rfl ?_
      refine j_dup (pc := 163) dX4_wrap_163 rfl ?_
      obtain ⟨x2, e3, h⟩ := obS h
      refine j_getI (pc := 164) dX4_wrap_164 (ci := 4) (kf := 2) rfl (jwi hw_X4) (by decide) (jwm lw_18) e3 ?_
      refine j_iconst (pc := 167) dX4_wrap_167 (v := 1) (by decide) ?_
      refine j_iadd (pc := 168) dX4_wrap_168 ?_
      obtain ⟨w4, e5, h⟩ := obS h
      refine j_putV (pc := 169) (ci := 4) (kf := 2) tyX4 tyX4_ok nmX4 dX4_wrap_169 rfl (jwi hw_X4) (by decide) (jwm lw_18) rfl (fun _ => rfl) (fun _ => rfl) e5 ?_
      refine j_goto (pc := 172) (tgt := 74) dX4_wrap_172 (by decide) ?_
      refine j_mask [true, false, false, true, true, true, false, false] ?_
      exact hk74 _ _ _ _ w4 h
    · rw [if_neg c1] at h
      refine j_iload (pc := 122) dX4_wrap_122 rfl ?_
      refine j_iload (pc := 124) dX4_wrap_124 rfl ?_
      refine j_aload_n (pc := 126) dX4_wrap_126 rfl ?_
      obtain ⟨x6, e7, h⟩ := obS h
      refine j_getR (pc := 127) dX4_wrap_127 (ci := 4) (kf := 1) rfl (jwi hw_X4) (by decide) (jwm lw_17) e7 ?_
      refine j_iload (pc := 130) dX4_wrap_130 rfl ?_
      obtain ⟨x10, w8, e9, h⟩ := obS2 h
      have ge9 := calSR_of e9
      refine j_callV_g (pc := 132) (As := [.int i7]) (k' := 0) (n' := 0) dX4_wrap_132 (s_X8_at ge9.1) (jgV lw_196 lw_140 lw_141 lw_12 lw_138) rfl hv_X8_at rfl (r_X8_at ge9.1) rfl (by decide) (by decide) (Nat.le_of_ble_eq_true rfl) (by decide) (by decide) (by decide) (by decide) (Or.inl ge9.2) ?_
      obtain ⟨x13, w11, e12, h⟩ := obS2 h
      have ge12 := calSR_of e12
      refine j_callS_g (pc := 135) (As := [.int i5, .int i6, .int x10]) (k' := 0) (n' := 0) dX4_wrap_135 (s_X4_isFurtherOut ge12.1) (jgS lw_198 lw_199 lw_86 lw_197) rfl hy_X4_isFurtherOut rfl (by decide) (by decide) (Nat.le_of_ble_eq_true rfl) (by decide) (by decide) (by decide) (by decide) (Or.inl ge12.2) ?_
      refine j_if_eq (pc := 138) (tgt := 152) dX4_wrap_138 (by decide) (fun c14 => ?_) (fun c14 => ?_)
      · rw [if_pos c14] at h
        exact jm_X4_wrap_b152 (hk74 := hk74) (hk116 := ih) _ _ _ _ _ _ w11 h
      · rw [if_neg c14] at h
        refine j_aload_n (pc := 141) dX4_wrap_141 rfl ?_
        obtain ⟨x15, e16, h⟩ := obS h
        refine j_getR (pc := 142) dX4_wrap_142 (ci := 4) (kf := 1) rfl (jwi hw_X4) (by decide) (jwm lw_17) e16 ?_
        refine j_iload (pc := 145) dX4_wrap_145 rfl ?_
        obtain ⟨x19, w17, e18, h⟩ := obS2 h
        have ge18 := calSR_of e18
        refine j_callV_g (pc := 147) (As := [.int i7]) (k' := 0) (n' := 0) dX4_wrap_147 (s_X8_at ge18.1) (jgV lw_196 lw_140 lw_141 lw_12 lw_138) rfl hv_X8_at rfl (r_X8_at ge18.1) rfl (by decide) (by decide) (Nat.le_of_ble_eq_true rfl) (by decide) (by decide) (by decide) (by decide) (Or.inl ge18.2) ?_
        refine j_istore_6 (pc := 150) dX4_wrap_150 (by decide) rfl ?_
        exact jm_X4_wrap_b152 (hk74 := hk74) (hk116 := ih) _ _ _ _ _ _ w17 h
def m_X4_wrap_b96 (k74 : Nat → Int32 → Int32 → Int32 → LWd → Option LWd) (a0 : Nat) (i3 : Int32) (i4 : Int32) (i5 : Int32) (ws : LWd) : Option LWd :=
  (fR ws a0 4 0).bind fun x1 =>
  (fI ws a0 4 2).bind fun x3 =>
  (calSV ws (m_X8_put x1 x3 i5 ws)).bind fun w5 =>
  m_X4_wrap_l116 k74 FU a0 i3 i4 i5 i5 0 w5
set_option maxRecDepth 100000 in
set_option maxHeartbeats 4000000 in
theorem jm_X4_wrap_b96 {n0 : Nat} {ws' : LWd} {k74 : Nat → Int32 → Int32 → Int32 → LWd → Option LWd} (hk74 : ∀ (a0 : Nat) (i3 : Int32) (i4 : Int32) (i5 : Int32) (ws : LWd), k74 a0 i3 i4 i5 ws = some ws' → JG (.inl false) cX4_wrap 8 RX4 wsX4_wrap none "wrap" 1 0 0 n0 (.inl none, ws') 74 [some (.ref a0), none, none, some (.int i3), some (.int i4), some (.int i5), none, none] [] ws 0 0) (a0 : Nat) (i3 : Int32) (i4 : Int32) (i5 : Int32) (ws : LWd) (h : m_X4_wrap_b96 k74 a0 i3 i4 i5 ws = some ws') : JG (.inl false) cX4_wrap 8 RX4 wsX4_wrap none "wrap" 1 0 0 n0 (.inl none, ws') 96 [some (.ref a0), none, none, some (.int i3), some (.int i4), some (.int i5), none, none] [] ws 0 0 := by
  unfold m_X4_wrap_b96 at h
  refine j_aload_n (pc := 96) dX4_wrap_96 rfl ?_
  obtain ⟨x1, e2, h⟩ := obS h
  refine j_getR (pc := 97) dX4_wrap_97 (ci := 4) (kf := 0) rfl (jwi hw_X4) (by decide) (jwm lw_16) e2 ?_
  refine j_aload_n (pc := 100) dX4_wrap_100 rfl ?_
  obtain ⟨x3, e4, h⟩ := obS h
  refine j_getI (pc := 101) dX4_wrap_101 (ci := 4) (kf := 2) rfl (jwi hw_X4) (by decide) (jwm lw_18) e4 ?_
  refine j_iload (pc := 104) dX4_wrap_104 rfl ?_
  obtain ⟨w5, e6, h⟩ := obS h
  have ge6 := calSV_of e6
  refine j_callV_g (pc := 106) (As := [.int x3, .int i5]) (k' := 0) (n' := 0) dX4_wrap_106 (s_X8_put ge6.1) (jgV lw_195 lw_159 lw_160 lw_12 lw_157) rfl hv_X8_put rfl (r_X8_put ge6.1) rfl (by decide) (by decide) (Nat.le_of_ble_eq_true rfl) (by decide) (by decide) (by decide) (by decide) (Or.inl ge6.2) ?_
  refine j_iload (pc := 109) dX4_wrap_109 rfl ?_
  refine j_istore_6 (pc := 111) dX4_wrap_111 (by decide) rfl ?_
  refine j_iconst (pc := 113) dX4_wrap_113 (v := 0) (by decide) ?_
  refine j_istore_7 (pc := 114) dX4_wrap_114 (by decide) rfl ?_
  exact jm_X4_wrap_l116 (hk74 := hk74) FU _ _ _ _ _ _ w5 h
def m_X4_wrap_l74 : Nat → Nat → Int32 → Int32 → Int32 → LWd → Option LWd
  | 0, _, _, _, _, _ => none
  | fu + 1, a0, i3, i4, i5, ws =>
    (fI ws a0 4 2).bind fun x1 =>
    if i3 ≤ x1 then
      m_X4_wrap_b175 a0 i4 ws
    else
      (fI ws a0 4 2).bind fun x4 =>
      if x4 = 0 then
        m_X4_wrap_b96 (fun z0 z1 z2 z3 w => m_X4_wrap_l74 fu z0 z1 z2 z3 w) a0 i3 i4 i5 ws
      else
        if i5 = i4 then
          m_X4_wrap_b175 a0 i4 ws
        else
          m_X4_wrap_b96 (fun z0 z1 z2 z3 w => m_X4_wrap_l74 fu z0 z1 z2 z3 w) a0 i3 i4 i5 ws
set_option maxRecDepth 100000 in
set_option maxHeartbeats 4000000 in
theorem jm_X4_wrap_l74 {n0 : Nat} {ws' : LWd} : ∀ (fu : Nat) (a0 : Nat) (i3 : Int32) (i4 : Int32) (i5 : Int32) (ws : LWd), m_X4_wrap_l74 fu a0 i3 i4 i5 ws = some ws' → JG (.inl false) cX4_wrap 8 RX4 wsX4_wrap none "wrap" 1 0 0 n0 (.inl none, ws') 74 [some (.ref a0), none, none, some (.int i3), some (.int i4), some (.int i5), none, none] [] ws 0 0 := by
  intro fu
  induction fu with
  | zero => intro a0 i3 i4 i5 ws h; first | (cases h; done) | (rw [m_X4_wrap_l74] at h; cases h)
  | succ fu ih =>
    intro a0 i3 i4 i5 ws h
    rw [m_X4_wrap_l74] at h
    refine j_aload_n (pc := 74) dX4_wrap_74 rfl ?_
    obtain ⟨x1, e2, h⟩ := obS h
    refine j_getI (pc := 75) dX4_wrap_75 (ci := 4) (kf := 2) rfl (jwi hw_X4) (by decide) (jwm lw_18) e2 ?_
    refine j_iload_n (pc := 78) dX4_wrap_78 rfl ?_
    refine j_icmp_ge (pc := 79) (tgt := 175) dX4_wrap_79 (by decide) (fun c3 => ?_) (fun c3 => ?_)
    · rw [if_pos c3] at h
      refine j_mask [true, false, false, false, true, false, false, false] ?_
      exact jm_X4_wrap_b175 _ _ ws h
    · rw [if_neg c3] at h
      refine j_aload_n (pc := 82) dX4_wrap_82 rfl ?_
      obtain ⟨x4, e5, h⟩ := obS h
      refine j_getI (pc := 83) dX4_wrap_83 (ci := 4) (kf := 2) rfl (jwi hw_X4) (by decide) (jwm lw_18) e5 ?_
      refine j_if_eq (pc := 86) (tgt := 96) dX4_wrap_86 (by decide) (fun c6 => ?_) (fun c6 => ?_)
      · rw [if_pos c6] at h
        exact jm_X4_wrap_b96 (hk74 := ih) _ _ _ _ ws h
      · rw [if_neg c6] at h
        refine j_iload (pc := 89) dX4_wrap_89 rfl ?_
        refine j_iload (pc := 91) dX4_wrap_91 rfl ?_
        refine j_icmp_eq (pc := 93) (tgt := 175) dX4_wrap_93 (by decide) (fun c7 => ?_) (fun c7 => ?_)
        · rw [if_pos c7] at h
          refine j_mask [true, false, false, false, true, false, false, false] ?_
          exact jm_X4_wrap_b175 _ _ ws h
        · rw [if_neg c7] at h
          exact jm_X4_wrap_b96 (hk74 := ih) _ _ _ _ ws h
def m_X4_wrap_b59 (k10 : Nat → Nat → Int32 → Int32 → Int32 → Int32 → LWd → Option LWd) (a0 : Nat) (a1 : Nat) (i2 : Int32) (i3 : Int32) (i4 : Int32) (i5 : Int32) (ws : LWd) : Option LWd :=
  k10 a0 a1 i2 i3 i4 (i5 + 1) ws
set_option maxRecDepth 100000 in
set_option maxHeartbeats 4000000 in
theorem jm_X4_wrap_b59 {n0 : Nat} {ws' : LWd} {k10 : Nat → Nat → Int32 → Int32 → Int32 → Int32 → LWd → Option LWd} (hk10 : ∀ (a0 : Nat) (a1 : Nat) (i2 : Int32) (i3 : Int32) (i4 : Int32) (i5 : Int32) (ws : LWd), k10 a0 a1 i2 i3 i4 i5 ws = some ws' → JG (.inl false) cX4_wrap 8 RX4 wsX4_wrap none "wrap" 1 0 0 n0 (.inl none, ws') 10 [some (.ref a0), some (.ref a1), some (.int i2), some (.int i3), some (.int i4), some (.int i5), none, none] [] ws 0 0) (a0 : Nat) (a1 : Nat) (i2 : Int32) (i3 : Int32) (i4 : Int32) (i5 : Int32) (ws : LWd) (h : m_X4_wrap_b59 k10 a0 a1 i2 i3 i4 i5 ws = some ws') : JG (.inl false) cX4_wrap 8 RX4 wsX4_wrap none "wrap" 1 0 0 n0 (.inl none, ws') 59 [some (.ref a0), some (.ref a1), some (.int i2), some (.int i3), some (.int i4), some (.int i5), none, none] [] ws 0 0 := by
  unfold m_X4_wrap_b59 at h
  refine j_iinc_5 (pc := 59) dX4_wrap_59 (y := i5 + 1) rfl (by decide) rfl ?_
  refine j_goto (pc := 62) (tgt := 10) dX4_wrap_62 (by decide) ?_
  exact hk10 _ _ _ _ _ _ ws h
def m_X4_wrap_l10 : Nat → Nat → Nat → Int32 → Int32 → Int32 → Int32 → LWd → Option LWd
  | 0, _, _, _, _, _, _, _ => none
  | fu + 1, a0, a1, i2, i3, i4, i5, ws =>
    if 6 ≤ i5 then
      (pV ws a0 4 2 (.int 0)).bind fun w2 =>
      m_X4_wrap_l74 FU a0 i3 i4 i4 w2
    else
      bn2 (calSR ws (m_X8_at a1 i5 ws)) fun x6 w4 =>
      if i5 = i2 then
        m_X4_wrap_b59 (fun z0 z1 z2 z3 z4 z5 w => m_X4_wrap_l10 fu z0 z1 z2 z3 z4 z5 w) a0 a1 i2 i3 i4 i5 w4
      else
        if x6 = ((-1)) then
          m_X4_wrap_b59 (fun z0 z1 z2 z3 z4 z5 w => m_X4_wrap_l10 fu z0 z1 z2 z3 z4 z5 w) a0 a1 i2 i3 i4 i5 w4
        else
          (fR w4 a0 4 1).bind fun x9 =>
          (calSV w4 (m_X8_put x9 i3 x6 w4)).bind fun w11 =>
          m_X4_wrap_b59 (fun z0 z1 z2 z3 z4 z5 w => m_X4_wrap_l10 fu z0 z1 z2 z3 z4 z5 w) a0 a1 i2 (i3 + 1) (jmin i4 x6) i5 w11
set_option maxRecDepth 100000 in
set_option maxHeartbeats 4000000 in
theorem jm_X4_wrap_l10 {n0 : Nat} {ws' : LWd} : ∀ (fu : Nat) (a0 : Nat) (a1 : Nat) (i2 : Int32) (i3 : Int32) (i4 : Int32) (i5 : Int32) (ws : LWd), m_X4_wrap_l10 fu a0 a1 i2 i3 i4 i5 ws = some ws' → JG (.inl false) cX4_wrap 8 RX4 wsX4_wrap none "wrap" 1 0 0 n0 (.inl none, ws') 10 [some (.ref a0), some (.ref a1), some (.int i2), some (.int i3), some (.int i4), some (.int i5), none, none] [] ws 0 0 := by
  intro fu
  induction fu with
  | zero => intro a0 a1 i2 i3 i4 i5 ws h; first | (cases h; done) | (rw [m_X4_wrap_l10] at h; cases h)
  | succ fu ih =>
    intro a0 a1 i2 i3 i4 i5 ws h
    rw [m_X4_wrap_l10] at h
    refine j_iload (pc := 10) dX4_wrap_10 rfl ?_
    refine j_bipush (pc := 12) dX4_wrap_12 (v := 6) (by decide) ?_
    refine j_icmp_ge (pc := 14) (tgt := 65) dX4_wrap_14 (by decide) (fun c1 => ?_) (fun c1 => ?_)
    · rw [if_pos c1] at h
      refine j_iload (pc := 65) dX4_wrap_65 rfl ?_
      refine j_istore_5 (pc := 67) dX4_wrap_67 (by decide) rfl ?_
      refine j_aload_n (pc := 69) dX4_wrap_69 rfl ?_
      refine j_iconst (pc := 70) dX4_wrap_70 (v := 0) (by decide) ?_
      obtain ⟨w2, e3, h⟩ := obS h
      refine j_putV (pc := 71) (ci := 4) (kf := 2) tyX4 tyX4_ok nmX4 dX4_wrap_71 rfl (jwi hw_X4) (by decide) (jwm lw_18) rfl (fun _ => rfl) (fun _ => rfl) e3 ?_
      refine j_mask [true, false, false, true, true, true, false, false] ?_
      exact jm_X4_wrap_l74 FU _ _ _ _ w2 h
    · rw [if_neg c1] at h
      refine j_aload_n (pc := 17) dX4_wrap_17 rfl ?_
      refine j_iload (pc := 18) dX4_wrap_18 rfl ?_
      obtain ⟨x6, w4, e5, h⟩ := obS2 h
      have ge5 := calSR_of e5
      refine j_callV_g (pc := 20) (As := [.int i5]) (k' := 0) (n' := 0) dX4_wrap_20 (s_X8_at ge5.1) (jgV lw_196 lw_140 lw_141 lw_12 lw_138) rfl hv_X8_at rfl (r_X8_at ge5.1) rfl (by decide) (by decide) (Nat.le_of_ble_eq_true rfl) (by decide) (by decide) (by decide) (by decide) (Or.inl ge5.2) ?_
      refine j_istore_6 (pc := 23) dX4_wrap_23 (by decide) rfl ?_
      refine j_iload (pc := 25) dX4_wrap_25 rfl ?_
      refine j_iload_n (pc := 27) dX4_wrap_27 rfl ?_
      refine j_icmp_eq (pc := 28) (tgt := 59) dX4_wrap_28 (by decide) (fun c7 => ?_) (fun c7 => ?_)
      · rw [if_pos c7] at h
        refine j_mask [true, true, true, true, true, true, false, false] ?_
        exact jm_X4_wrap_b59 (hk10 := ih) _ _ _ _ _ _ w4 h
      · rw [if_neg c7] at h
        refine j_iload (pc := 31) dX4_wrap_31 rfl ?_
        refine j_iconst (pc := 33) dX4_wrap_33 (v := (-1)) (by decide) ?_
        refine j_icmp_eq (pc := 34) (tgt := 59) dX4_wrap_34 (by decide) (fun c8 => ?_) (fun c8 => ?_)
        · rw [if_pos c8] at h
          refine j_mask [true, true, true, true, true, true, false, false] ?_
          exact jm_X4_wrap_b59 (hk10 := ih) _ _ _ _ _ _ w4 h
        · rw [if_neg c8] at h
          refine j_aload_n (pc := 37) dX4_wrap_37 rfl ?_
          obtain ⟨x9, e10, h⟩ := obS h
          refine j_getR (pc := 38) dX4_wrap_38 (ci := 4) (kf := 1) rfl (jwi hw_X4) (by decide) (jwm lw_17) e10 ?_
          refine j_iload_n (pc := 41) dX4_wrap_41 rfl ?_
          refine j_iload (pc := 42) dX4_wrap_42 rfl ?_
          obtain ⟨w11, e12, h⟩ := obS h
          have ge12 := calSV_of e12
          refine j_callV_g (pc := 44) (As := [.int i3, .int x6]) (k' := 0) (n' := 0) dX4_wrap_44 (s_X8_put ge12.1) (jgV lw_195 lw_159 lw_160 lw_12 lw_157) rfl hv_X8_put rfl (r_X8_put ge12.1) rfl (by decide) (by decide) (Nat.le_of_ble_eq_true rfl) (by decide) (by decide) (by decide) (by decide) (Or.inl ge12.2) ?_
          refine j_iinc_3 (pc := 47) dX4_wrap_47 (y := i3 + 1) rfl (by decide) rfl ?_
          refine j_iload (pc := 50) dX4_wrap_50 rfl ?_
          refine j_iload (pc := 52) dX4_wrap_52 rfl ?_
          refine j_mmin (pc := 54) dX4_wrap_54 (jwm lw_200) (jwm lw_176) (jwm lw_177) (jwm lw_178) (Nat.le_of_ble_eq_true rfl) (Nat.le_of_ble_eq_true rfl) (by decide) (by decide) ?_
          refine j_istore_4 (pc := 57) dX4_wrap_57 (by decide) rfl ?_
          refine j_mask [true, true, true, true, true, true, false, false] ?_
          exact jm_X4_wrap_b59 (hk10 := ih) _ _ _ _ _ _ w11 h
def m_X4_wrap (a0 : Nat) (a1 : Nat) (i2 : Int32) (ws : LWd) : Option LWd :=
  (rcv ws a0 4).bind fun _ =>
  m_X4_wrap_l10 FU a0 a1 i2 0 400 0 ws
set_option maxRecDepth 100000 in
set_option maxHeartbeats 4000000 in
theorem s_X4_wrap {a0 : Nat} {a1 : Nat} {i2 : Int32} {ws : LWd} {ws' : LWd} (h : m_X4_wrap a0 a1 i2 ws = some ws') : jSp yX4_wrap wsX4_wrap 1 0 0 [.ref a0, .ref a1, .int i2] ws (.inl none, ws') := by
  unfold m_X4_wrap at h
  refine j_entry (ret := none) (nm := "wrap") (own := RX4) pl_X4 rfl rfl rfl (jcats (by rfl)) (Nat.le_of_ble_eq_true rfl) ?_
  show JG (.inl false) cX4_wrap 8 RX4 wsX4_wrap none "wrap" 1 0 0 ws.length (.inl none, ws') 0 [some (.ref a0), some (.ref a1), some (.int i2), none, none, none, none, none] [] ws 0 0
  obtain ⟨_, _, h⟩ := obS h
  refine j_iconst (pc := 0) dX4_wrap_0 (v := 0) (by decide) ?_
  refine j_istore_n_3 (pc := 1) dX4_wrap_1 (by decide) rfl ?_
  refine j_sipush (pc := 2) dX4_wrap_2 (v := 400) (by decide) ?_
  refine j_istore_4 (pc := 5) dX4_wrap_5 (by decide) rfl ?_
  refine j_iconst (pc := 7) dX4_wrap_7 (v := 0) (by decide) ?_
  refine j_istore_5 (pc := 8) dX4_wrap_8 (by decide) rfl ?_
  exact jm_X4_wrap_l10 FU _ _ _ _ _ _ ws h
theorem r_X4_wrap {a0 : Nat} {a1 : Nat} {i2 : Int32} {ws : LWd} {o : LWd} (h : m_X4_wrap a0 a1 i2 ws = some o) : ∃ fs, ws[a0]? = some (.inr (4, fs)) := rcv_in h
def wsX9_momentX : List Cond := Cond.code yX9_momentX cX9_momentX 1 (some .int) :: jW
def m_X9_momentX (a0 : Nat) (ws : LWd) : Option (Int32 × LWd) :=
  (rcv ws a0 9).bind fun _ =>
  (fI ws a0 9 4).bind fun x1 =>
  (fR ws a0 9 1).bind fun x3 =>
  (fI ws x3 2 4).bind fun x5 =>
  (fI ws a0 9 4).bind fun x7 =>
  (fR ws a0 9 1).bind fun x9 =>
  (fI ws x9 2 5).bind fun x11 =>
  some ((10 * x1) + (x5 * (x7 + x11)), ws)
set_option maxRecDepth 100000 in
set_option maxHeartbeats 4000000 in
theorem s_X9_momentX {a0 : Nat} {ws : LWd} {rr : Int32} {ws' : LWd} (h : m_X9_momentX a0 ws = some (rr, ws')) : jSp yX9_momentX wsX9_momentX 0 0 0 [.ref a0] ws (.inl (some (.int rr)), ws') := by
  unfold m_X9_momentX at h
  refine j_entry (ret := (some .int)) (nm := "momentX") (own := RX9) pl_X9 rfl rfl rfl (jcats (by rfl)) (Nat.le_of_ble_eq_true rfl) ?_
  show JG (.inl false) cX9_momentX 1 RX9 wsX9_momentX (some .int) "momentX" 0 0 0 ws.length (.inl (some (.int rr)), ws') 0 [some (.ref a0)] [] ws 0 0
  obtain ⟨_, _, h⟩ := obS h
  refine j_bipush (pc := 0) dX9_momentX_0 (v := 10) (by decide) ?_
  refine j_aload_n (pc := 2) dX9_momentX_2 rfl ?_
  obtain ⟨x1, e2, h⟩ := obS h
  refine j_getI (pc := 3) dX9_momentX_3 (ci := 9) (kf := 4) rfl (jwi hw_X9) (by decide) (jwm lw_40) e2 ?_
  refine j_imul (pc := 6) dX9_momentX_6 ?_
  refine j_aload_n (pc := 7) dX9_momentX_7 rfl ?_
  obtain ⟨x3, e4, h⟩ := obS h
  refine j_getR (pc := 8) dX9_momentX_8 (ci := 9) (kf := 1) rfl (jwi hw_X9) (by decide) (jwm lw_43) e4 ?_
  obtain ⟨x5, e6, h⟩ := obS h
  refine j_getI (pc := 11) dX9_momentX_11 (ci := 2) (kf := 4) rfl (jwi hw_X2) (by decide) (jwm lw_201) e6 ?_
  refine j_aload_n (pc := 14) dX9_momentX_14 rfl ?_
  obtain ⟨x7, e8, h⟩ := obS h
  refine j_getI (pc := 15) dX9_momentX_15 (ci := 9) (kf := 4) rfl (jwi hw_X9) (by decide) (jwm lw_40) e8 ?_
  refine j_aload_n (pc := 18) dX9_momentX_18 rfl ?_
  obtain ⟨x9, e10, h⟩ := obS h
  refine j_getR (pc := 19) dX9_momentX_19 (ci := 9) (kf := 1) rfl (jwi hw_X9) (by decide) (jwm lw_43) e10 ?_
  obtain ⟨x11, e12, h⟩ := obS h
  refine j_getI (pc := 22) dX9_momentX_22 (ci := 2) (kf := 5) rfl (jwi hw_X2) (by decide) (jwm lw_202) e12 ?_
  refine j_iadd (pc := 25) dX9_momentX_25 ?_
  refine j_imul (pc := 26) dX9_momentX_26 ?_
  refine j_iadd (pc := 27) dX9_momentX_27 ?_
  obtain ⟨rfl, rfl⟩ := jretS h
  exact j_iret (pc := 28) rfl dX9_momentX_28 (by decide) (by decide) rfl
theorem r_X9_momentX {a0 : Nat} {ws : LWd} {o : (Int32 × LWd)} (h : m_X9_momentX a0 ws = some o) : ∃ fs, ws[a0]? = some (.inr (9, fs)) := rcv_in h
def wsX9_momentY : List Cond := Cond.code yX9_momentY cX9_momentY 1 (some .int) :: jW
def m_X9_momentY (a0 : Nat) (ws : LWd) : Option (Int32 × LWd) :=
  (rcv ws a0 9).bind fun _ =>
  (fI ws a0 9 5).bind fun x1 =>
  (fR ws a0 9 1).bind fun x3 =>
  (fI ws x3 2 4).bind fun x5 =>
  (fI ws a0 9 5).bind fun x7 =>
  (fR ws a0 9 1).bind fun x9 =>
  (fI ws x9 2 6).bind fun x11 =>
  some ((10 * x1) + (x5 * (x7 + x11)), ws)
set_option maxRecDepth 100000 in
set_option maxHeartbeats 4000000 in
theorem s_X9_momentY {a0 : Nat} {ws : LWd} {rr : Int32} {ws' : LWd} (h : m_X9_momentY a0 ws = some (rr, ws')) : jSp yX9_momentY wsX9_momentY 0 0 0 [.ref a0] ws (.inl (some (.int rr)), ws') := by
  unfold m_X9_momentY at h
  refine j_entry (ret := (some .int)) (nm := "momentY") (own := RX9) pl_X9 rfl rfl rfl (jcats (by rfl)) (Nat.le_of_ble_eq_true rfl) ?_
  show JG (.inl false) cX9_momentY 1 RX9 wsX9_momentY (some .int) "momentY" 0 0 0 ws.length (.inl (some (.int rr)), ws') 0 [some (.ref a0)] [] ws 0 0
  obtain ⟨_, _, h⟩ := obS h
  refine j_bipush (pc := 0) dX9_momentY_0 (v := 10) (by decide) ?_
  refine j_aload_n (pc := 2) dX9_momentY_2 rfl ?_
  obtain ⟨x1, e2, h⟩ := obS h
  refine j_getI (pc := 3) dX9_momentY_3 (ci := 9) (kf := 5) rfl (jwi hw_X9) (by decide) (jwm lw_41) e2 ?_
  refine j_imul (pc := 6) dX9_momentY_6 ?_
  refine j_aload_n (pc := 7) dX9_momentY_7 rfl ?_
  obtain ⟨x3, e4, h⟩ := obS h
  refine j_getR (pc := 8) dX9_momentY_8 (ci := 9) (kf := 1) rfl (jwi hw_X9) (by decide) (jwm lw_43) e4 ?_
  obtain ⟨x5, e6, h⟩ := obS h
  refine j_getI (pc := 11) dX9_momentY_11 (ci := 2) (kf := 4) rfl (jwi hw_X2) (by decide) (jwm lw_201) e6 ?_
  refine j_aload_n (pc := 14) dX9_momentY_14 rfl ?_
  obtain ⟨x7, e8, h⟩ := obS h
  refine j_getI (pc := 15) dX9_momentY_15 (ci := 9) (kf := 5) rfl (jwi hw_X9) (by decide) (jwm lw_41) e8 ?_
  refine j_aload_n (pc := 18) dX9_momentY_18 rfl ?_
  obtain ⟨x9, e10, h⟩ := obS h
  refine j_getR (pc := 19) dX9_momentY_19 (ci := 9) (kf := 1) rfl (jwi hw_X9) (by decide) (jwm lw_43) e10 ?_
  obtain ⟨x11, e12, h⟩ := obS h
  refine j_getI (pc := 22) dX9_momentY_22 (ci := 2) (kf := 6) rfl (jwi hw_X2) (by decide) (jwm lw_203) e12 ?_
  refine j_iadd (pc := 25) dX9_momentY_25 ?_
  refine j_imul (pc := 26) dX9_momentY_26 ?_
  refine j_iadd (pc := 27) dX9_momentY_27 ?_
  obtain ⟨rfl, rfl⟩ := jretS h
  exact j_iret (pc := 28) rfl dX9_momentY_28 (by decide) (by decide) rfl
theorem r_X9_momentY {a0 : Nat} {ws : LWd} {o : (Int32 × LWd)} (h : m_X9_momentY a0 ws = some o) : ∃ fs, ws[a0]? = some (.inr (9, fs)) := rcv_in h
def wsX2_weight : List Cond := Cond.code yX2_weight cX2_weight 1 (some .int) :: jW
def m_X2_weight (a0 : Nat) (ws : LWd) : Option (Int32 × LWd) :=
  (rcv ws a0 2).bind fun _ =>
  (fI ws a0 2 4).bind fun x1 =>
  some (10 + x1, ws)
set_option maxRecDepth 100000 in
set_option maxHeartbeats 4000000 in
theorem s_X2_weight {a0 : Nat} {ws : LWd} {rr : Int32} {ws' : LWd} (h : m_X2_weight a0 ws = some (rr, ws')) : jSp yX2_weight wsX2_weight 0 0 0 [.ref a0] ws (.inl (some (.int rr)), ws') := by
  unfold m_X2_weight at h
  refine j_entry (ret := (some .int)) (nm := "weight") (own := RX2) pl_X2 rfl rfl rfl (jcats (by rfl)) (Nat.le_of_ble_eq_true rfl) ?_
  show JG (.inl false) cX2_weight 1 RX2 wsX2_weight (some .int) "weight" 0 0 0 ws.length (.inl (some (.int rr)), ws') 0 [some (.ref a0)] [] ws 0 0
  obtain ⟨_, _, h⟩ := obS h
  refine j_bipush (pc := 0) dX2_weight_0 (v := 10) (by decide) ?_
  refine j_aload_n (pc := 2) dX2_weight_2 rfl ?_
  obtain ⟨x1, e2, h⟩ := obS h
  refine j_getI (pc := 3) dX2_weight_3 (ci := 2) (kf := 4) rfl (jwi hw_X2) (by decide) (jwm lw_33) e2 ?_
  refine j_iadd (pc := 6) dX2_weight_6 ?_
  obtain ⟨rfl, rfl⟩ := jretS h
  exact j_iret (pc := 7) rfl dX2_weight_7 (by decide) (by decide) rfl
theorem r_X2_weight {a0 : Nat} {ws : LWd} {o : (Int32 × LWd)} (h : m_X2_weight a0 ws = some o) : ∃ fs, ws[a0]? = some (.inr (2, fs)) := rcv_in h
def wsX4_edgeByWay : List Cond := Cond.code yX4_edgeByWay cX4_edgeByWay 5 (some .int) :: jW
def m_X4_edgeByWay (i0 : Int32) (i1 : Int32) (i2 : Int32) (i3 : Int32) (i4 : Int32) (ws : LWd) : Option (Int32 × LWd) :=
  some ((((jrem i1 20) - (jrem i0 20)) * (i3 - (i4 * (i0 / 20)))) - (((i1 / 20) - (i0 / 20)) * (i2 - (i4 * (jrem i0 20)))), ws)
set_option maxRecDepth 100000 in
set_option maxHeartbeats 4000000 in
theorem s_X4_edgeByWay {i0 : Int32} {i1 : Int32} {i2 : Int32} {i3 : Int32} {i4 : Int32} {ws : LWd} {rr : Int32} {ws' : LWd} (h : m_X4_edgeByWay i0 i1 i2 i3 i4 ws = some (rr, ws')) : jSp yX4_edgeByWay wsX4_edgeByWay 0 0 0 [.int i0, .int i1, .int i2, .int i3, .int i4] ws (.inl (some (.int rr)), ws') := by
  unfold m_X4_edgeByWay at h
  refine j_entry (ret := (some .int)) (nm := "edgeByWay") (own := RX4) pl_X4 rfl rfl rfl (jcats (by rfl)) (Nat.le_of_ble_eq_true rfl) ?_
  show JG (.inl false) cX4_edgeByWay 5 RX4 wsX4_edgeByWay (some .int) "edgeByWay" 0 0 0 ws.length (.inl (some (.int rr)), ws') 0 [some (.int i0), some (.int i1), some (.int i2), some (.int i3), some (.int i4)] [] ws 0 0
  refine j_iload_n (pc := 0) dX4_edgeByWay_0 rfl ?_
  refine j_bipush (pc := 1) dX4_edgeByWay_1 (v := 20) (by decide) ?_
  refine j_irem (pc := 3) dX4_edgeByWay_3 (by decide) ?_
  refine j_iload_n (pc := 4) dX4_edgeByWay_4 rfl ?_
  refine j_bipush (pc := 5) dX4_edgeByWay_5 (v := 20) (by decide) ?_
  refine j_irem (pc := 7) dX4_edgeByWay_7 (by decide) ?_
  refine j_isub (pc := 8) dX4_edgeByWay_8 ?_
  refine j_iload_n (pc := 9) dX4_edgeByWay_9 rfl ?_
  refine j_iload (pc := 10) dX4_edgeByWay_10 rfl ?_
  refine j_iload_n (pc := 12) dX4_edgeByWay_12 rfl ?_
  refine j_bipush (pc := 13) dX4_edgeByWay_13 (v := 20) (by decide) ?_
  refine j_idiv (pc := 15) dX4_edgeByWay_15 (by decide) ?_
  refine j_imul (pc := 16) dX4_edgeByWay_16 ?_
  refine j_isub (pc := 17) dX4_edgeByWay_17 ?_
  refine j_imul (pc := 18) dX4_edgeByWay_18 ?_
  refine j_iload_n (pc := 19) dX4_edgeByWay_19 rfl ?_
  refine j_bipush (pc := 20) dX4_edgeByWay_20 (v := 20) (by decide) ?_
  refine j_idiv (pc := 22) dX4_edgeByWay_22 (by decide) ?_
  refine j_iload_n (pc := 23) dX4_edgeByWay_23 rfl ?_
  refine j_bipush (pc := 24) dX4_edgeByWay_24 (v := 20) (by decide) ?_
  refine j_idiv (pc := 26) dX4_edgeByWay_26 (by decide) ?_
  refine j_isub (pc := 27) dX4_edgeByWay_27 ?_
  refine j_iload_n (pc := 28) dX4_edgeByWay_28 rfl ?_
  refine j_iload (pc := 29) dX4_edgeByWay_29 rfl ?_
  refine j_iload_n (pc := 31) dX4_edgeByWay_31 rfl ?_
  refine j_bipush (pc := 32) dX4_edgeByWay_32 (v := 20) (by decide) ?_
  refine j_irem (pc := 34) dX4_edgeByWay_34 (by decide) ?_
  refine j_imul (pc := 35) dX4_edgeByWay_35 ?_
  refine j_isub (pc := 36) dX4_edgeByWay_36 ?_
  refine j_imul (pc := 37) dX4_edgeByWay_37 ?_
  refine j_isub (pc := 38) dX4_edgeByWay_38 ?_
  obtain ⟨rfl, rfl⟩ := jretS h
  exact j_iret (pc := 39) rfl dX4_edgeByWay_39 (by decide) (by decide) rfl
def wsX4_holds : List Cond := Cond.code yX4_holds cX4_holds 10 (some .boolean) :: jW
def m_X4_holds_l19 : Nat → Nat → Int32 → Int32 → Int32 → Int32 → Int32 → Int32 → Int32 → Int32 → LWd → Option (Int32 × LWd)
  | 0, _, _, _, _, _, _, _, _, _, _ => none
  | fu + 1, a0, i1, i2, i3, i4, i5, i6, i7, i8, ws =>
    (fI ws a0 4 2).bind fun x1 =>
    if x1 ≤ i8 then
      bn2 (calSR ws (m_X10_isWithin i1 i4 i5 ws)) fun x6 w4 =>
      if x6 = 0 then
        some (0, w4)
      else
        bn2 (calSR w4 (m_X10_isWithin i2 i6 i7 w4)) fun x10 w8 =>
        if x10 = 0 then
          some (0, w8)
        else
          some (1, w8)
    else
      (fR ws a0 4 0).bind fun x12 =>
      bn2 (calSR ws (m_X8_at x12 i8 ws)) fun x16 w14 =>
      (fR w14 a0 4 0).bind fun x17 =>
      bn2 (calSR w14 (m_X8_at x17 (i8 + 1) w14)) fun x21 w19 =>
      bn2 (calSR w19 (m_X4_edgeByWay x16 x21 i1 i2 i3 w19)) fun x24 w22 =>
      if 0 ≤ x24 then
        m_X4_holds_l19 fu a0 i1 i2 i3 (jmin i4 (i3 * (jrem x16 20))) (jmax i5 (i3 * (jrem x16 20))) (jmin i6 (i3 * (x16 / 20))) (jmax i7 (i3 * (x16 / 20))) (i8 + 1) w22
      else
        some (0, w22)
set_option maxRecDepth 100000 in
set_option maxHeartbeats 4000000 in
theorem jm_X4_holds_l19 {n0 : Nat} {rr : Int32} {ws' : LWd} : ∀ (fu : Nat) (a0 : Nat) (i1 : Int32) (i2 : Int32) (i3 : Int32) (i4 : Int32) (i5 : Int32) (i6 : Int32) (i7 : Int32) (i8 : Int32) (ws : LWd), m_X4_holds_l19 fu a0 i1 i2 i3 i4 i5 i6 i7 i8 ws = some (rr, ws') → JG (.inl false) cX4_holds 10 RX4 wsX4_holds (some .boolean) "holds" 1 0 0 n0 (.inl (some (.int rr)), ws') 19 [some (.ref a0), some (.int i1), some (.int i2), some (.int i3), some (.int i4), some (.int i5), some (.int i6), some (.int i7), some (.int i8), none] [] ws 0 0 := by
  intro fu
  induction fu with
  | zero => intro a0 i1 i2 i3 i4 i5 i6 i7 i8 ws h; first | (cases h; done) | (rw [m_X4_holds_l19] at h; cases h)
  | succ fu ih =>
    intro a0 i1 i2 i3 i4 i5 i6 i7 i8 ws h
    rw [m_X4_holds_l19] at h
    refine j_iload (pc := 19) dX4_holds_19 rfl ?_
    refine j_aload_n (pc := 21) dX4_holds_21 rfl ?_
    obtain ⟨x1, e2, h⟩ := obS h
    refine j_getI (pc := 22) dX4_holds_22 (ci := 4) (kf := 2) rfl (jwi hw_X4) (by decide) (jwm lw_18) e2 ?_
    refine j_icmp_ge (pc := 25) (tgt := 125) dX4_holds_25 (by decide) (fun c3 => ?_) (fun c3 => ?_)
    · rw [if_pos c3] at h
      refine j_iload_n (pc := 125) dX4_holds_125 rfl ?_
      refine j_iload (pc := 126) dX4_holds_126 rfl ?_
      refine j_iload (pc := 128) dX4_holds_128 rfl ?_
      obtain ⟨x6, w4, e5, h⟩ := obS2 h
      have ge5 := calSR_of e5
      refine j_callSN_g (pc := 130) (As := [.int i1, .int i4, .int i5]) (k' := 0) (n' := 0) dX4_holds_130 (s_X10_isWithin ge5.1) (jgP lw_148) nst_X4_55 (jwm lw_147) (jwm lw_150) rfl hy_X10_isWithin rfl (by decide) (by decide) (Nat.le_of_ble_eq_true rfl) (by decide) (by decide) (by decide) (by decide) (Or.inl ge5.2) ?_
      refine j_if_eq (pc := 133) (tgt := 151) dX4_holds_133 (by decide) (fun c7 => ?_) (fun c7 => ?_)
      · rw [if_pos c7] at h
        refine j_iconst (pc := 151) dX4_holds_151 (v := 0) (by decide) ?_
        obtain ⟨rfl, rfl⟩ := jretS h
        exact j_zretL (pc := 152) (by decide) rfl dX4_holds_152 (by decide) (by decide) rfl
      · rw [if_neg c7] at h
        refine j_iload_n (pc := 136) dX4_holds_136 rfl ?_
        refine j_iload (pc := 137) dX4_holds_137 rfl ?_
        refine j_iload (pc := 139) dX4_holds_139 rfl ?_
        obtain ⟨x10, w8, e9, h⟩ := obS2 h
        have ge9 := calSR_of e9
        refine j_callSN_g (pc := 141) (As := [.int i2, .int i6, .int i7]) (k' := 0) (n' := 0) dX4_holds_141 (s_X10_isWithin ge9.1) (jgP lw_148) nst_X4_55 (jwm lw_147) (jwm lw_150) rfl hy_X10_isWithin rfl (by decide) (by decide) (Nat.le_of_ble_eq_true rfl) (by decide) (by decide) (by decide) (by decide) (Or.inl ge9.2) ?_
        refine j_if_eq (pc := 144) (tgt := 151) dX4_holds_144 (by decide) (fun c11 => ?_) (fun c11 => ?_)
        · rw [if_pos c11] at h
          refine j_iconst (pc := 151) dX4_holds_151 (v := 0) (by decide) ?_
          obtain ⟨rfl, rfl⟩ := jretS h
          exact j_zretL (pc := 152) (by decide) rfl dX4_holds_152 (by decide) (by decide) rfl
        · rw [if_neg c11] at h
          refine j_iconst (pc := 147) dX4_holds_147 (v := 1) (by decide) ?_
          refine j_goto (pc := 148) (tgt := 152) dX4_holds_148 (by decide) ?_
          obtain ⟨rfl, rfl⟩ := jretS h
          exact j_zretL (pc := 152) (by decide) rfl dX4_holds_152 (by decide) (by decide) rfl
    · rw [if_neg c3] at h
      refine j_aload_n (pc := 28) dX4_holds_28 rfl ?_
      obtain ⟨x12, e13, h⟩ := obS h
      refine j_getR (pc := 29) dX4_holds_29 (ci := 4) (kf := 0) rfl (jwi hw_X4) (by decide) (jwm lw_16) e13 ?_
      refine j_iload (pc := 32) dX4_holds_32 rfl ?_
      obtain ⟨x16, w14, e15, h⟩ := obS2 h
      have ge15 := calSR_of e15
      refine j_callV_g (pc := 34) (As := [.int i8]) (k' := 0) (n' := 0) dX4_holds_34 (s_X8_at ge15.1) (jgV lw_196 lw_140 lw_141 lw_12 lw_138) rfl hv_X8_at rfl (r_X8_at ge15.1) rfl (by decide) (by decide) (Nat.le_of_ble_eq_true rfl) (by decide) (by decide) (by decide) (by decide) (Or.inl ge15.2) ?_
      refine j_istore_9 (pc := 37) dX4_holds_37 (by decide) rfl ?_
      refine j_iload (pc := 39) dX4_holds_39 rfl ?_
      refine j_aload_n (pc := 41) dX4_holds_41 rfl ?_
      obtain ⟨x17, e18, h⟩ := obS h
      refine j_getR (pc := 42) dX4_holds_42 (ci := 4) (kf := 0) rfl (jwi hw_X4) (by decide) (jwm lw_16) e18 ?_
      refine j_iload (pc := 45) dX4_holds_45 rfl ?_
      refine j_iconst (pc := 47) dX4_holds_47 (v := 1) (by decide) ?_
      refine j_iadd (pc := 48) dX4_holds_48 ?_
      obtain ⟨x21, w19, e20, h⟩ := obS2 h
      have ge20 := calSR_of e20
      refine j_callV_g (pc := 49) (As := [.int (i8 + 1)]) (k' := 0) (n' := 0) dX4_holds_49 (s_X8_at ge20.1) (jgV lw_196 lw_140 lw_141 lw_12 lw_138) rfl hv_X8_at rfl (r_X8_at ge20.1) rfl (by decide) (by decide) (Nat.le_of_ble_eq_true rfl) (by decide) (by decide) (by decide) (by decide) (Or.inl ge20.2) ?_
      refine j_iload_n (pc := 52) dX4_holds_52 rfl ?_
      refine j_iload_n (pc := 53) dX4_holds_53 rfl ?_
      refine j_iload_n (pc := 54) dX4_holds_54 rfl ?_
      obtain ⟨x24, w22, e23, h⟩ := obS2 h
      have ge23 := calSR_of e23
      refine j_callS_g (pc := 55) (As := [.int x16, .int x21, .int i1, .int i2, .int i3]) (k' := 0) (n' := 0) dX4_holds_55 (s_X4_edgeByWay ge23.1) (jgS lw_205 lw_206 lw_86 lw_204) rfl hy_X4_edgeByWay rfl (by decide) (by decide) (Nat.le_of_ble_eq_true rfl) (by decide) (by decide) (by decide) (by decide) (Or.inl ge23.2) ?_
      refine j_if_ge (pc := 58) (tgt := 63) dX4_holds_58 (by decide) (fun c25 => ?_) (fun c25 => ?_)
      · rw [if_pos c25] at h
        refine j_iload (pc := 63) dX4_holds_63 rfl ?_
        refine j_iload_n (pc := 65) dX4_holds_65 rfl ?_
        refine j_iload (pc := 66) dX4_holds_66 rfl ?_
        refine j_bipush (pc := 68) dX4_holds_68 (v := 20) (by decide) ?_
        refine j_irem (pc := 70) dX4_holds_70 (by decide) ?_
        refine j_imul (pc := 71) dX4_holds_71 ?_
        refine j_mmin (pc := 72) dX4_holds_72 (jwm lw_200) (jwm lw_176) (jwm lw_177) (jwm lw_178) (Nat.le_of_ble_eq_true rfl) (Nat.le_of_ble_eq_true rfl) (by decide) (by decide) ?_
        refine j_istore_4 (pc := 75) dX4_holds_75 (by decide) rfl ?_
        refine j_iload (pc := 77) dX4_holds_77 rfl ?_
        refine j_iload_n (pc := 79) dX4_holds_79 rfl ?_
        refine j_iload (pc := 80) dX4_holds_80 rfl ?_
        refine j_bipush (pc := 82) dX4_holds_82 (v := 20) (by decide) ?_
        refine j_irem (pc := 84) dX4_holds_84 (by decide) ?_
        refine j_imul (pc := 85) dX4_holds_85 ?_
        refine j_mmax (pc := 86) dX4_holds_86 (jwm lw_207) (jwm lw_208) (jwm lw_177) (jwm lw_209) (Nat.le_of_ble_eq_true rfl) (Nat.le_of_ble_eq_true rfl) (by decide) (by decide) ?_
        refine j_istore_5 (pc := 89) dX4_holds_89 (by decide) rfl ?_
        refine j_iload (pc := 91) dX4_holds_91 rfl ?_
        refine j_iload_n (pc := 93) dX4_holds_93 rfl ?_
        refine j_iload (pc := 94) dX4_holds_94 rfl ?_
        refine j_bipush (pc := 96) dX4_holds_96 (v := 20) (by decide) ?_
        refine j_idiv (pc := 98) dX4_holds_98 (by decide) ?_
        refine j_imul (pc := 99) dX4_holds_99 ?_
        refine j_mmin (pc := 100) dX4_holds_100 (jwm lw_200) (jwm lw_176) (jwm lw_177) (jwm lw_178) (Nat.le_of_ble_eq_true rfl) (Nat.le_of_ble_eq_true rfl) (by decide) (by decide) ?_
        refine j_istore_6 (pc := 103) dX4_holds_103 (by decide) rfl ?_
        refine j_iload (pc := 105) dX4_holds_105 rfl ?_
        refine j_iload_n (pc := 107) dX4_holds_107 rfl ?_
        refine j_iload (pc := 108) dX4_holds_108 rfl ?_
        refine j_bipush (pc := 110) dX4_holds_110 (v := 20) (by decide) ?_
        refine j_idiv (pc := 112) dX4_holds_112 (by decide) ?_
        refine j_imul (pc := 113) dX4_holds_113 ?_
        refine j_mmax (pc := 114) dX4_holds_114 (jwm lw_207) (jwm lw_208) (jwm lw_177) (jwm lw_209) (Nat.le_of_ble_eq_true rfl) (Nat.le_of_ble_eq_true rfl) (by decide) (by decide) ?_
        refine j_istore_7 (pc := 117) dX4_holds_117 (by decide) rfl ?_
        refine j_iinc_8 (pc := 119) dX4_holds_119 (y := i8 + 1) rfl (by decide) rfl ?_
        refine j_goto (pc := 122) (tgt := 19) dX4_holds_122 (by decide) ?_
        refine j_mask [true, true, true, true, true, true, true, true, true, false] ?_
        exact ih _ _ _ _ _ _ _ _ _ w22 h
      · rw [if_neg c25] at h
        refine j_iconst (pc := 61) dX4_holds_61 (v := 0) (by decide) ?_
        obtain ⟨rfl, rfl⟩ := jretS h
        exact j_zretL (pc := 62) (by decide) rfl dX4_holds_62 (by decide) (by decide) rfl
def m_X4_holds (a0 : Nat) (i1 : Int32) (i2 : Int32) (i3 : Int32) (ws : LWd) : Option (Int32 × LWd) :=
  (rcv ws a0 4).bind fun _ =>
  m_X4_holds_l19 FU a0 i1 i2 i3 2147483647 ((-2147483648)) 2147483647 ((-2147483648)) 0 ws
set_option maxRecDepth 100000 in
set_option maxHeartbeats 4000000 in
theorem s_X4_holds {a0 : Nat} {i1 : Int32} {i2 : Int32} {i3 : Int32} {ws : LWd} {rr : Int32} {ws' : LWd} (h : m_X4_holds a0 i1 i2 i3 ws = some (rr, ws')) : jSp yX4_holds wsX4_holds 1 0 0 [.ref a0, .int i1, .int i2, .int i3] ws (.inl (some (.int rr)), ws') := by
  unfold m_X4_holds at h
  refine j_entry (ret := (some .boolean)) (nm := "holds") (own := RX4) pl_X4 rfl rfl rfl (jcats (by rfl)) (Nat.le_of_ble_eq_true rfl) ?_
  show JG (.inl false) cX4_holds 10 RX4 wsX4_holds (some .boolean) "holds" 1 0 0 ws.length (.inl (some (.int rr)), ws') 0 [some (.ref a0), some (.int i1), some (.int i2), some (.int i3), none, none, none, none, none, none] [] ws 0 0
  obtain ⟨_, _, h⟩ := obS h
  refine j_ldc (pc := 0) dX4_holds_0 (v := 2147483647) (jwm lw_210) ?_
  refine j_istore_4 (pc := 2) dX4_holds_2 (by decide) rfl ?_
  refine j_ldc (pc := 4) dX4_holds_4 (v := (-2147483648)) (jwm lw_211) ?_
  refine j_istore_5 (pc := 6) dX4_holds_6 (by decide) rfl ?_
  refine j_ldc (pc := 8) dX4_holds_8 (v := 2147483647) (jwm lw_210) ?_
  refine j_istore_6 (pc := 10) dX4_holds_10 (by decide) rfl ?_
  refine j_ldc (pc := 12) dX4_holds_12 (v := (-2147483648)) (jwm lw_211) ?_
  refine j_istore_7 (pc := 14) dX4_holds_14 (by decide) rfl ?_
  refine j_iconst (pc := 16) dX4_holds_16 (v := 0) (by decide) ?_
  refine j_istore_8 (pc := 17) dX4_holds_17 (by decide) rfl ?_
  exact jm_X4_holds_l19 FU _ _ _ _ _ _ _ _ _ ws h
theorem r_X4_holds {a0 : Nat} {i1 : Int32} {i2 : Int32} {i3 : Int32} {ws : LWd} {o : (Int32 × LWd)} (h : m_X4_holds a0 i1 i2 i3 ws = some o) : ∃ fs, ws[a0]? = some (.inr (4, fs)) := rcv_in h
def wsX9_holdsWithout : List Cond := Cond.code yX9_holdsWithout cX9_holdsWithout 2 (some .boolean) :: jW
def m_X9_holdsWithout (a0 : Nat) (i1 : Int32) (ws : LWd) : Option (Int32 × LWd) :=
  (rcv ws a0 9).bind fun _ =>
  (fR ws a0 9 2).bind fun x1 =>
  (fR ws a0 9 3).bind fun x3 =>
  (calSV ws (m_X4_wrap x1 x3 i1 ws)).bind fun w5 =>
  (fR w5 a0 9 2).bind fun x7 =>
  bn2 (calSR w5 (m_X9_momentX a0 w5)) fun x11 w9 =>
  bn2 (calSR w9 (m_X9_momentY a0 w9)) fun x14 w12 =>
  (fR w12 a0 9 1).bind fun x15 =>
  bn2 (calSR w12 (m_X2_weight x15 w12)) fun x19 w17 =>
  bn2 (calSR w17 (m_X4_holds x7 x11 x14 x19 w17)) fun x22 w20 =>
  retZ x22 w20
set_option maxRecDepth 100000 in
set_option maxHeartbeats 4000000 in
theorem s_X9_holdsWithout {a0 : Nat} {i1 : Int32} {ws : LWd} {rr : Int32} {ws' : LWd} (h : m_X9_holdsWithout a0 i1 ws = some (rr, ws')) : jSp yX9_holdsWithout wsX9_holdsWithout 2 0 0 [.ref a0, .int i1] ws (.inl (some (.int rr)), ws') := by
  unfold m_X9_holdsWithout at h
  refine j_entry (ret := (some .boolean)) (nm := "holdsWithout") (own := RX9) pl_X9 rfl rfl rfl (jcats (by rfl)) (Nat.le_of_ble_eq_true rfl) ?_
  show JG (.inl false) cX9_holdsWithout 2 RX9 wsX9_holdsWithout (some .boolean) "holdsWithout" 2 0 0 ws.length (.inl (some (.int rr)), ws') 0 [some (.ref a0), some (.int i1)] [] ws 0 0
  obtain ⟨_, _, h⟩ := obS h
  refine j_aload_n (pc := 0) dX9_holdsWithout_0 rfl ?_
  obtain ⟨x1, e2, h⟩ := obS h
  refine j_getR (pc := 1) dX9_holdsWithout_1 (ci := 9) (kf := 2) rfl (jwi hw_X9) (by decide) (jwm lw_44) e2 ?_
  refine j_aload_n (pc := 4) dX9_holdsWithout_4 rfl ?_
  obtain ⟨x3, e4, h⟩ := obS h
  refine j_getR (pc := 5) dX9_holdsWithout_5 (ci := 9) (kf := 3) rfl (jwi hw_X9) (by decide) (jwm lw_39) e4 ?_
  refine j_iload_n (pc := 8) dX9_holdsWithout_8 rfl ?_
  obtain ⟨w5, e6, h⟩ := obS h
  have ge6 := calSV_of e6
  refine j_callV_g (pc := 9) (As := [.ref x3, .int i1]) (k' := 0) (n' := 0) dX9_holdsWithout_9 (s_X4_wrap ge6.1) (jgV lw_213 lw_214 lw_215 lw_86 lw_212) rfl hv_X4_wrap rfl (r_X4_wrap ge6.1) rfl (by decide) (by decide) (Nat.le_of_ble_eq_true rfl) (by decide) (by decide) (by decide) (by decide) (Or.inl ge6.2) ?_
  refine j_aload_n (pc := 12) dX9_holdsWithout_12 rfl ?_
  obtain ⟨x7, e8, h⟩ := obS h
  refine j_getR (pc := 13) dX9_holdsWithout_13 (ci := 9) (kf := 2) rfl (jwi hw_X9) (by decide) (jwm lw_44) e8 ?_
  refine j_aload_n (pc := 16) dX9_holdsWithout_16 rfl ?_
  obtain ⟨x11, w9, e10, h⟩ := obS2 h
  have ge10 := calSR_of e10
  refine j_callV_g (pc := 17) (As := []) (k' := 0) (n' := 0) dX9_holdsWithout_17 (s_X9_momentX ge10.1) (jgV lw_217 lw_218 lw_219 lw_76 lw_216) rfl hv_X9_momentX rfl (r_X9_momentX ge10.1) rfl (by decide) (by decide) (Nat.le_of_ble_eq_true rfl) (by decide) (by decide) (by decide) (by decide) (Or.inl ge10.2) ?_
  refine j_aload_n (pc := 20) dX9_holdsWithout_20 rfl ?_
  obtain ⟨x14, w12, e13, h⟩ := obS2 h
  have ge13 := calSR_of e13
  refine j_callV_g (pc := 21) (As := []) (k' := 0) (n' := 0) dX9_holdsWithout_21 (s_X9_momentY ge13.1) (jgV lw_221 lw_222 lw_223 lw_76 lw_220) rfl hv_X9_momentY rfl (r_X9_momentY ge13.1) rfl (by decide) (by decide) (Nat.le_of_ble_eq_true rfl) (by decide) (by decide) (by decide) (by decide) (Or.inl ge13.2) ?_
  refine j_aload_n (pc := 24) dX9_holdsWithout_24 rfl ?_
  obtain ⟨x15, e16, h⟩ := obS h
  refine j_getR (pc := 25) dX9_holdsWithout_25 (ci := 9) (kf := 1) rfl (jwi hw_X9) (by decide) (jwm lw_43) e16 ?_
  obtain ⟨x19, w17, e18, h⟩ := obS2 h
  have ge18 := calSR_of e18
  refine j_callV_g (pc := 28) (As := []) (k' := 0) (n' := 0) dX9_holdsWithout_28 (s_X2_weight ge18.1) (jgV lw_225 lw_226 lw_227 lw_97 lw_224) rfl hv_X2_weight rfl (r_X2_weight ge18.1) rfl (by decide) (by decide) (Nat.le_of_ble_eq_true rfl) (by decide) (by decide) (by decide) (by decide) (Or.inl ge18.2) ?_
  obtain ⟨x22, w20, e21, h⟩ := obS2 h
  have ge21 := calSR_of e21
  refine j_callV_g (pc := 31) (As := [.int x11, .int x14, .int x19]) (k' := 0) (n' := 0) dX9_holdsWithout_31 (s_X4_holds ge21.1) (jgV lw_229 lw_230 lw_231 lw_86 lw_228) rfl hv_X4_holds rfl (r_X4_holds ge21.1) rfl (by decide) (by decide) (Nat.le_of_ble_eq_true rfl) (by decide) (by decide) (by decide) (by decide) (Or.inl ge21.2) ?_
  exact j_zret (pc := 34) rfl dX9_holdsWithout_34 (by decide) (by decide) h rfl rfl
theorem r_X9_holdsWithout {a0 : Nat} {i1 : Int32} {ws : LWd} {o : (Int32 × LWd)} (h : m_X9_holdsWithout a0 i1 ws = some o) : ∃ fs, ws[a0]? = some (.inr (9, fs)) := rcv_in h
def wsX0_beginAct : List Cond := Cond.code yX0_beginAct cX0_beginAct 1 none :: jW
def m_X0_beginAct (a0 : Nat) (ws : LWd) : Option LWd :=
  (rcv ws a0 0).bind fun _ =>
  (pV ws a0 0 3 (.int 0)).bind fun w1 =>
  some w1
set_option maxRecDepth 100000 in
set_option maxHeartbeats 4000000 in
theorem s_X0_beginAct {a0 : Nat} {ws : LWd} {ws' : LWd} (h : m_X0_beginAct a0 ws = some ws') : jSp yX0_beginAct wsX0_beginAct 0 0 0 [.ref a0] ws (.inl none, ws') := by
  unfold m_X0_beginAct at h
  refine j_entry (ret := none) (nm := "beginAct") (own := RX0) pl_X0 rfl rfl rfl (jcats (by rfl)) (Nat.le_of_ble_eq_true rfl) ?_
  show JG (.inl false) cX0_beginAct 1 RX0 wsX0_beginAct none "beginAct" 0 0 0 ws.length (.inl none, ws') 0 [some (.ref a0)] [] ws 0 0
  obtain ⟨_, _, h⟩ := obS h
  refine j_aload_n (pc := 0) dX0_beginAct_0 rfl ?_
  refine j_iconst (pc := 1) dX0_beginAct_1 (v := 0) (by decide) ?_
  obtain ⟨w1, e2, h⟩ := obS h
  refine j_putV (pc := 2) (ci := 0) (kf := 3) tyX0 tyX0_ok nmX0 dX0_beginAct_2 rfl (jwi hw_X0) (by decide) (jwm lw_55) rfl (fun _ => rfl) (fun _ => rfl) e2 ?_
  cases h
  exact j_vret (pc := 5) rfl dX0_beginAct_5 (by decide) (by decide) rfl
theorem r_X0_beginAct {a0 : Nat} {ws : LWd} {o : LWd} (h : m_X0_beginAct a0 ws = some o) : ∃ fs, ws[a0]? = some (.inr (0, fs)) := rcv_in h
def wsX10_takeLoad : List Cond := Cond.code yX10_takeLoad cX10_takeLoad 7 (some .boolean) :: jW
def m_X10_takeLoad_b70 (a0 : Nat) (ws : LWd) : Option (Int32 × LWd) :=
  (fR ws a0 10 5).bind fun x1 =>
  (calSV ws (m_X0_beginAct x1 ws)).bind fun w3 =>
  some (1, w3)
set_option maxRecDepth 100000 in
set_option maxHeartbeats 4000000 in
theorem jm_X10_takeLoad_b70 {n0 : Nat} {rr : Int32} {ws' : LWd} (a0 : Nat) (ws : LWd) (h : m_X10_takeLoad_b70 a0 ws = some (rr, ws')) : JG (.inl false) cX10_takeLoad 7 RX10 wsX10_takeLoad (some .boolean) "takeLoad" 3 0 0 n0 (.inl (some (.int rr)), ws') 70 [some (.ref a0), none, none, none, none, none, none] [] ws 0 0 := by
  unfold m_X10_takeLoad_b70 at h
  refine j_aload_n (pc := 70) dX10_takeLoad_70 rfl ?_
  obtain ⟨x1, e2, h⟩ := obS h
  refine j_getR (pc := 71) dX10_takeLoad_71 (ci := 10) (kf := 5) rfl (jwi hw_X10) (by decide) (jwm lw_116) e2 ?_
  obtain ⟨w3, e4, h⟩ := obS h
  have ge4 := calSV_of e4
  refine j_callV_g (pc := 74) (As := []) (k' := 0) (n' := 0) dX10_takeLoad_74 (s_X0_beginAct ge4.1) (jgV lw_233 lw_234 lw_235 lw_113 lw_232) rfl hv_X0_beginAct rfl (r_X0_beginAct ge4.1) rfl (by decide) (by decide) (Nat.le_of_ble_eq_true rfl) (by decide) (by decide) (by decide) (by decide) (Or.inl ge4.2) ?_
  refine j_iconst (pc := 77) dX10_takeLoad_77 (v := 1) (by decide) ?_
  obtain ⟨rfl, rfl⟩ := jretS h
  exact j_zretL (pc := 78) (by decide) rfl dX10_takeLoad_78 (by decide) (by decide) rfl
def m_X10_takeLoad (a0 : Nat) (i1 : Int32) (i2 : Int32) (i3 : Int32) (ws : LWd) : Option (Int32 × LWd) :=
  (rcv ws a0 10).bind fun _ =>
  (fR ws a0 10 1).bind fun x1 =>
  (fI ws x1 2 4).bind fun x3 =>
  (fR ws a0 10 1).bind fun x5 =>
  (fI ws x5 2 5).bind fun x7 =>
  (fR ws a0 10 1).bind fun x9 =>
  (fI ws x9 2 6).bind fun x11 =>
  (fR ws a0 10 1).bind fun x13 =>
  (calSV ws (m_X2_carry x13 i1 i2 i3 ws)).bind fun w15 =>
  (fI w15 a0 10 9).bind fun x17 =>
  if x17 = 0 then
    m_X10_takeLoad_b70 a0 w15
  else
    (fR w15 a0 10 2).bind fun x20 =>
    bn2 (calSR w15 (m_X9_holdsWithout x20 ((-1)) w15)) fun x24 w22 =>
    if x24 = 0 then
      (fR w22 a0 10 1).bind fun x26 =>
      (calSV w22 (m_X2_carry x26 x3 x7 x11 w22)).bind fun w28 =>
      some (0, w28)
    else
      m_X10_takeLoad_b70 a0 w22
set_option maxRecDepth 100000 in
set_option maxHeartbeats 4000000 in
theorem s_X10_takeLoad {a0 : Nat} {i1 : Int32} {i2 : Int32} {i3 : Int32} {ws : LWd} {rr : Int32} {ws' : LWd} (h : m_X10_takeLoad a0 i1 i2 i3 ws = some (rr, ws')) : jSp yX10_takeLoad wsX10_takeLoad 3 0 0 [.ref a0, .int i1, .int i2, .int i3] ws (.inl (some (.int rr)), ws') := by
  unfold m_X10_takeLoad at h
  refine j_entry (ret := (some .boolean)) (nm := "takeLoad") (own := RX10) pl_X10 rfl rfl rfl (jcats (by rfl)) (Nat.le_of_ble_eq_true rfl) ?_
  show JG (.inl false) cX10_takeLoad 7 RX10 wsX10_takeLoad (some .boolean) "takeLoad" 3 0 0 ws.length (.inl (some (.int rr)), ws') 0 [some (.ref a0), some (.int i1), some (.int i2), some (.int i3), none, none, none] [] ws 0 0
  obtain ⟨_, _, h⟩ := obS h
  refine j_aload_n (pc := 0) dX10_takeLoad_0 rfl ?_
  obtain ⟨x1, e2, h⟩ := obS h
  refine j_getR (pc := 1) dX10_takeLoad_1 (ci := 10) (kf := 1) rfl (jwi hw_X10) (by decide) (jwm lw_100) e2 ?_
  obtain ⟨x3, e4, h⟩ := obS h
  refine j_getI (pc := 4) dX10_takeLoad_4 (ci := 2) (kf := 4) rfl (jwi hw_X2) (by decide) (jwm lw_236) e4 ?_
  refine j_istore_4 (pc := 7) dX10_takeLoad_7 (by decide) rfl ?_
  refine j_aload_n (pc := 9) dX10_takeLoad_9 rfl ?_
  obtain ⟨x5, e6, h⟩ := obS h
  refine j_getR (pc := 10) dX10_takeLoad_10 (ci := 10) (kf := 1) rfl (jwi hw_X10) (by decide) (jwm lw_100) e6 ?_
  obtain ⟨x7, e8, h⟩ := obS h
  refine j_getI (pc := 13) dX10_takeLoad_13 (ci := 2) (kf := 5) rfl (jwi hw_X2) (by decide) (jwm lw_237) e8 ?_
  refine j_istore_5 (pc := 16) dX10_takeLoad_16 (by decide) rfl ?_
  refine j_aload_n (pc := 18) dX10_takeLoad_18 rfl ?_
  obtain ⟨x9, e10, h⟩ := obS h
  refine j_getR (pc := 19) dX10_takeLoad_19 (ci := 10) (kf := 1) rfl (jwi hw_X10) (by decide) (jwm lw_100) e10 ?_
  obtain ⟨x11, e12, h⟩ := obS h
  refine j_getI (pc := 22) dX10_takeLoad_22 (ci := 2) (kf := 6) rfl (jwi hw_X2) (by decide) (jwm lw_238) e12 ?_
  refine j_istore_6 (pc := 25) dX10_takeLoad_25 (by decide) rfl ?_
  refine j_aload_n (pc := 27) dX10_takeLoad_27 rfl ?_
  obtain ⟨x13, e14, h⟩ := obS h
  refine j_getR (pc := 28) dX10_takeLoad_28 (ci := 10) (kf := 1) rfl (jwi hw_X10) (by decide) (jwm lw_100) e14 ?_
  refine j_iload_n (pc := 31) dX10_takeLoad_31 rfl ?_
  refine j_iload_n (pc := 32) dX10_takeLoad_32 rfl ?_
  refine j_iload_n (pc := 33) dX10_takeLoad_33 rfl ?_
  obtain ⟨w15, e16, h⟩ := obS h
  have ge16 := calSV_of e16
  refine j_callV_g (pc := 34) (As := [.int i1, .int i2, .int i3]) (k' := 0) (n' := 0) dX10_takeLoad_34 (s_X2_carry ge16.1) (jgV lw_240 lw_241 lw_242 lw_97 lw_239) rfl hv_X2_carry rfl (r_X2_carry ge16.1) rfl (by decide) (by decide) (Nat.le_of_ble_eq_true rfl) (by decide) (by decide) (by decide) (by decide) (Or.inl ge16.2) ?_
  refine j_aload_n (pc := 37) dX10_takeLoad_37 rfl ?_
  obtain ⟨x17, e18, h⟩ := obS h
  refine j_getI (pc := 38) dX10_takeLoad_38 (ci := 10) (kf := 9) rfl (jwi hw_X10) (by decide) (jwm lw_136) e18 ?_
  refine j_if_eq (pc := 41) (tgt := 70) dX10_takeLoad_41 (by decide) (fun c19 => ?_) (fun c19 => ?_)
  · rw [if_pos c19] at h
    refine j_mask [true, false, false, false, false, false, false] ?_
    exact jm_X10_takeLoad_b70 _ w15 h
  · rw [if_neg c19] at h
    refine j_aload_n (pc := 44) dX10_takeLoad_44 rfl ?_
    obtain ⟨x20, e21, h⟩ := obS h
    refine j_getR (pc := 45) dX10_takeLoad_45 (ci := 10) (kf := 2) rfl (jwi hw_X10) (by decide) (jwm lw_103) e21 ?_
    refine j_iconst (pc := 48) dX10_takeLoad_48 (v := (-1)) (by decide) ?_
    obtain ⟨x24, w22, e23, h⟩ := obS2 h
    have ge23 := calSR_of e23
    refine j_callV_g (pc := 49) (As := [.int ((-1))]) (k' := 0) (n' := 0) dX10_takeLoad_49 (s_X9_holdsWithout ge23.1) (jgV lw_244 lw_245 lw_246 lw_76 lw_243) rfl hv_X9_holdsWithout rfl (r_X9_holdsWithout ge23.1) rfl (by decide) (by decide) (Nat.le_of_ble_eq_true rfl) (by decide) (by decide) (by decide) (by decide) (Or.inl ge23.2) ?_
    refine j_if_ne (pc := 52) (tgt := 70) dX10_takeLoad_52 (by decide) (fun c25 => ?_) (fun c25 => ?_)
    · rw [if_neg c25] at h
      refine j_mask [true, false, false, false, false, false, false] ?_
      exact jm_X10_takeLoad_b70 _ w22 h
    · rw [if_pos c25] at h
      refine j_aload_n (pc := 55) dX10_takeLoad_55 rfl ?_
      obtain ⟨x26, e27, h⟩ := obS h
      refine j_getR (pc := 56) dX10_takeLoad_56 (ci := 10) (kf := 1) rfl (jwi hw_X10) (by decide) (jwm lw_100) e27 ?_
      refine j_iload (pc := 59) dX10_takeLoad_59 rfl ?_
      refine j_iload (pc := 61) dX10_takeLoad_61 rfl ?_
      refine j_iload (pc := 63) dX10_takeLoad_63 rfl ?_
      obtain ⟨w28, e29, h⟩ := obS h
      have ge29 := calSV_of e29
      refine j_callV_g (pc := 65) (As := [.int x3, .int x7, .int x11]) (k' := 0) (n' := 0) dX10_takeLoad_65 (s_X2_carry ge29.1) (jgV lw_240 lw_241 lw_242 lw_97 lw_239) rfl hv_X2_carry rfl (r_X2_carry ge29.1) rfl (by decide) (by decide) (Nat.le_of_ble_eq_true rfl) (by decide) (by decide) (by decide) (by decide) (Or.inl ge29.2) ?_
      refine j_iconst (pc := 68) dX10_takeLoad_68 (v := 0) (by decide) ?_
      obtain ⟨rfl, rfl⟩ := jretS h
      exact j_zretL (pc := 69) (by decide) rfl dX10_takeLoad_69 (by decide) (by decide) rfl
theorem r_X10_takeLoad {a0 : Nat} {i1 : Int32} {i2 : Int32} {i3 : Int32} {ws : LWd} {o : (Int32 × LWd)} (h : m_X10_takeLoad a0 i1 i2 i3 ws = some o) : ∃ fs, ws[a0]? = some (.inr (10, fs)) := rcv_in h
def wsX9_down : List Cond := Cond.code yX9_down cX9_down 3 (some .int) :: jW
def m_X9_down_b25 (k4 : Nat → Int32 → Int32 → LWd → Option (Int32 × LWd)) (a0 : Nat) (i1 : Int32) (i2 : Int32) (ws : LWd) : Option (Int32 × LWd) :=
  k4 a0 i1 (i2 + 1) ws
set_option maxRecDepth 100000 in
set_option maxHeartbeats 4000000 in
theorem jm_X9_down_b25 {n0 : Nat} {rr : Int32} {ws' : LWd} {k4 : Nat → Int32 → Int32 → LWd → Option (Int32 × LWd)} (hk4 : ∀ (a0 : Nat) (i1 : Int32) (i2 : Int32) (ws : LWd), k4 a0 i1 i2 ws = some (rr, ws') → JG (.inl false) cX9_down 3 RX9 wsX9_down (some .int) "down" 1 0 0 n0 (.inl (some (.int rr)), ws') 4 [some (.ref a0), some (.int i1), some (.int i2)] [] ws 0 0) (a0 : Nat) (i1 : Int32) (i2 : Int32) (ws : LWd) (h : m_X9_down_b25 k4 a0 i1 i2 ws = some (rr, ws')) : JG (.inl false) cX9_down 3 RX9 wsX9_down (some .int) "down" 1 0 0 n0 (.inl (some (.int rr)), ws') 25 [some (.ref a0), some (.int i1), some (.int i2)] [] ws 0 0 := by
  unfold m_X9_down_b25 at h
  refine j_iinc_2 (pc := 25) dX9_down_25 (y := i2 + 1) rfl (by decide) rfl ?_
  refine j_goto (pc := 28) (tgt := 4) dX9_down_28 (by decide) ?_
  exact hk4 _ _ _ ws h
def m_X9_down_l4 : Nat → Nat → Int32 → Int32 → LWd → Option (Int32 × LWd)
  | 0, _, _, _, _ => none
  | fu + 1, a0, i1, i2, ws =>
    if 6 ≤ i2 then
      some (i1, ws)
    else
      (fR ws a0 9 3).bind fun x2 =>
      bn2 (calSR ws (m_X8_at x2 i2 ws)) fun x6 w4 =>
      if x6 = ((-1)) then
        m_X9_down_b25 (fun z0 z1 z2 w => m_X9_down_l4 fu z0 z1 z2 w) a0 i1 i2 w4
      else
        m_X9_down_b25 (fun z0 z1 z2 w => m_X9_down_l4 fu z0 z1 z2 w) a0 (i1 + 1) i2 w4
set_option maxRecDepth 100000 in
set_option maxHeartbeats 4000000 in
theorem jm_X9_down_l4 {n0 : Nat} {rr : Int32} {ws' : LWd} : ∀ (fu : Nat) (a0 : Nat) (i1 : Int32) (i2 : Int32) (ws : LWd), m_X9_down_l4 fu a0 i1 i2 ws = some (rr, ws') → JG (.inl false) cX9_down 3 RX9 wsX9_down (some .int) "down" 1 0 0 n0 (.inl (some (.int rr)), ws') 4 [some (.ref a0), some (.int i1), some (.int i2)] [] ws 0 0 := by
  intro fu
  induction fu with
  | zero => intro a0 i1 i2 ws h; first | (cases h; done) | (rw [m_X9_down_l4] at h; cases h)
  | succ fu ih =>
    intro a0 i1 i2 ws h
    rw [m_X9_down_l4] at h
    refine j_iload_n (pc := 4) dX9_down_4 rfl ?_
    refine j_bipush (pc := 5) dX9_down_5 (v := 6) (by decide) ?_
    refine j_icmp_ge (pc := 7) (tgt := 31) dX9_down_7 (by decide) (fun c1 => ?_) (fun c1 => ?_)
    · rw [if_pos c1] at h
      refine j_iload_n (pc := 31) dX9_down_31 rfl ?_
      obtain ⟨rfl, rfl⟩ := jretS h
      exact j_iret (pc := 32) rfl dX9_down_32 (by decide) (by decide) rfl
    · rw [if_neg c1] at h
      refine j_aload_n (pc := 10) dX9_down_10 rfl ?_
      obtain ⟨x2, e3, h⟩ := obS h
      refine j_getR (pc := 11) dX9_down_11 (ci := 9) (kf := 3) rfl (jwi hw_X9) (by decide) (jwm lw_39) e3 ?_
      refine j_iload_n (pc := 14) dX9_down_14 rfl ?_
      obtain ⟨x6, w4, e5, h⟩ := obS2 h
      have ge5 := calSR_of e5
      refine j_callV_g (pc := 15) (As := [.int i2]) (k' := 0) (n' := 0) dX9_down_15 (s_X8_at ge5.1) (jgV lw_139 lw_140 lw_141 lw_12 lw_138) rfl hv_X8_at rfl (r_X8_at ge5.1) rfl (by decide) (by decide) (Nat.le_of_ble_eq_true rfl) (by decide) (by decide) (by decide) (by decide) (Or.inl ge5.2) ?_
      refine j_iconst (pc := 18) dX9_down_18 (v := (-1)) (by decide) ?_
      refine j_icmp_eq (pc := 19) (tgt := 25) dX9_down_19 (by decide) (fun c7 => ?_) (fun c7 => ?_)
      · rw [if_pos c7] at h
        exact jm_X9_down_b25 (hk4 := ih) _ _ _ w4 h
      · rw [if_neg c7] at h
        refine j_iinc_1 (pc := 22) dX9_down_22 (y := i1 + 1) rfl (by decide) rfl ?_
        exact jm_X9_down_b25 (hk4 := ih) _ _ _ w4 h
def m_X9_down (a0 : Nat) (ws : LWd) : Option (Int32 × LWd) :=
  (rcv ws a0 9).bind fun _ =>
  m_X9_down_l4 FU a0 0 0 ws
set_option maxRecDepth 100000 in
set_option maxHeartbeats 4000000 in
theorem s_X9_down {a0 : Nat} {ws : LWd} {rr : Int32} {ws' : LWd} (h : m_X9_down a0 ws = some (rr, ws')) : jSp yX9_down wsX9_down 1 0 0 [.ref a0] ws (.inl (some (.int rr)), ws') := by
  unfold m_X9_down at h
  refine j_entry (ret := (some .int)) (nm := "down") (own := RX9) pl_X9 rfl rfl rfl (jcats (by rfl)) (Nat.le_of_ble_eq_true rfl) ?_
  show JG (.inl false) cX9_down 3 RX9 wsX9_down (some .int) "down" 1 0 0 ws.length (.inl (some (.int rr)), ws') 0 [some (.ref a0), none, none] [] ws 0 0
  obtain ⟨_, _, h⟩ := obS h
  refine j_iconst (pc := 0) dX9_down_0 (v := 0) (by decide) ?_
  refine j_istore_n_1 (pc := 1) dX9_down_1 (by decide) rfl ?_
  refine j_iconst (pc := 2) dX9_down_2 (v := 0) (by decide) ?_
  refine j_istore_n_2 (pc := 3) dX9_down_3 (by decide) rfl ?_
  exact jm_X9_down_l4 FU _ _ _ ws h
theorem r_X9_down {a0 : Nat} {ws : LWd} {o : (Int32 × LWd)} (h : m_X9_down a0 ws = some o) : ∃ fs, ws[a0]? = some (.inr (9, fs)) := rcv_in h
def wsX10_roundedUp : List Cond := Cond.code yX10_roundedUp cX10_roundedUp 2 (some .int) :: jW
def m_X10_roundedUp (i0 : Int32) (i1 : Int32) (ws : LWd) : Option (Int32 × LWd) :=
  if 0 < i1 then
    if i1 = 0 then none else
    some (((i0 + i1) - 1) / i1, ws)
  else
    some (0, ws)
set_option maxRecDepth 100000 in
set_option maxHeartbeats 4000000 in
theorem s_X10_roundedUp {i0 : Int32} {i1 : Int32} {ws : LWd} {rr : Int32} {ws' : LWd} (h : m_X10_roundedUp i0 i1 ws = some (rr, ws')) : jSp yX10_roundedUp wsX10_roundedUp 0 0 0 [.int i0, .int i1] ws (.inl (some (.int rr)), ws') := by
  unfold m_X10_roundedUp at h
  refine j_entry (ret := (some .int)) (nm := "roundedUp") (own := RX10) pl_X10 rfl rfl rfl (jcats (by rfl)) (Nat.le_of_ble_eq_true rfl) ?_
  show JG (.inl false) cX10_roundedUp 2 RX10 wsX10_roundedUp (some .int) "roundedUp" 0 0 0 ws.length (.inl (some (.int rr)), ws') 0 [some (.int i0), some (.int i1)] [] ws 0 0
  refine j_iload_n (pc := 0) dX10_roundedUp_0 rfl ?_
  refine j_if_gt (pc := 1) (tgt := 8) dX10_roundedUp_1 (by decide) (fun c1 => ?_) (fun c1 => ?_)
  · rw [if_pos c1] at h
    refine j_iload_n (pc := 8) dX10_roundedUp_8 rfl ?_
    refine j_iload_n (pc := 9) dX10_roundedUp_9 rfl ?_
    refine j_iadd (pc := 10) dX10_roundedUp_10 ?_
    refine j_iconst (pc := 11) dX10_roundedUp_11 (v := 1) (by decide) ?_
    refine j_isub (pc := 12) dX10_roundedUp_12 ?_
    refine j_iload_n (pc := 13) dX10_roundedUp_13 rfl ?_
    have c2 := jneS h
    rw [if_neg c2] at h
    refine j_idiv (pc := 14) dX10_roundedUp_14 c2 ?_
    obtain ⟨rfl, rfl⟩ := jretS h
    exact j_iret (pc := 15) rfl dX10_roundedUp_15 (by decide) (by decide) rfl
  · rw [if_neg c1] at h
    refine j_iconst (pc := 4) dX10_roundedUp_4 (v := 0) (by decide) ?_
    refine j_goto (pc := 5) (tgt := 15) dX10_roundedUp_5 (by decide) ?_
    obtain ⟨rfl, rfl⟩ := jretS h
    exact j_iret (pc := 15) rfl dX10_roundedUp_15 (by decide) (by decide) rfl
def wsX9_pressure : List Cond := Cond.code yX9_pressure cX9_pressure 1 (some .int) :: jW
def m_X9_pressure (a0 : Nat) (ws : LWd) : Option (Int32 × LWd) :=
  (rcv ws a0 9).bind fun _ =>
  (fR ws a0 9 1).bind fun x1 =>
  bn2 (calSR ws (m_X2_weight x1 ws)) fun x5 w3 =>
  bn2 (calSR w3 (m_X9_down a0 w3)) fun x8 w6 =>
  bn2 (calSR w6 (m_X10_roundedUp x5 x8 w6)) fun x11 w9 =>
  some (x11, w9)
set_option maxRecDepth 100000 in
set_option maxHeartbeats 4000000 in
theorem s_X9_pressure {a0 : Nat} {ws : LWd} {rr : Int32} {ws' : LWd} (h : m_X9_pressure a0 ws = some (rr, ws')) : jSp yX9_pressure wsX9_pressure 2 0 0 [.ref a0] ws (.inl (some (.int rr)), ws') := by
  unfold m_X9_pressure at h
  refine j_entry (ret := (some .int)) (nm := "pressure") (own := RX9) pl_X9 rfl rfl rfl (jcats (by rfl)) (Nat.le_of_ble_eq_true rfl) ?_
  show JG (.inl false) cX9_pressure 1 RX9 wsX9_pressure (some .int) "pressure" 2 0 0 ws.length (.inl (some (.int rr)), ws') 0 [some (.ref a0)] [] ws 0 0
  obtain ⟨_, _, h⟩ := obS h
  refine j_aload_n (pc := 0) dX9_pressure_0 rfl ?_
  obtain ⟨x1, e2, h⟩ := obS h
  refine j_getR (pc := 1) dX9_pressure_1 (ci := 9) (kf := 1) rfl (jwi hw_X9) (by decide) (jwm lw_43) e2 ?_
  obtain ⟨x5, w3, e4, h⟩ := obS2 h
  have ge4 := calSR_of e4
  refine j_callV_g (pc := 4) (As := []) (k' := 0) (n' := 0) dX9_pressure_4 (s_X2_weight ge4.1) (jgV lw_225 lw_226 lw_227 lw_97 lw_224) rfl hv_X2_weight rfl (r_X2_weight ge4.1) rfl (by decide) (by decide) (Nat.le_of_ble_eq_true rfl) (by decide) (by decide) (by decide) (by decide) (Or.inl ge4.2) ?_
  refine j_aload_n (pc := 7) dX9_pressure_7 rfl ?_
  obtain ⟨x8, w6, e7, h⟩ := obS2 h
  have ge7 := calSR_of e7
  refine j_callV_g (pc := 8) (As := []) (k' := 0) (n' := 0) dX9_pressure_8 (s_X9_down ge7.1) (jgV lw_248 lw_249 lw_250 lw_76 lw_247) rfl hv_X9_down rfl (r_X9_down ge7.1) rfl (by decide) (by decide) (Nat.le_of_ble_eq_true rfl) (by decide) (by decide) (by decide) (by decide) (Or.inl ge7.2) ?_
  obtain ⟨x11, w9, e10, h⟩ := obS2 h
  have ge10 := calSR_of e10
  refine j_callSN_g (pc := 11) (As := [.int x5, .int x8]) (k' := 0) (n' := 0) dX9_pressure_11 (s_X10_roundedUp ge10.1) (jgP lw_251) nst_X9_89 (jwm lw_147) (jwm lw_252) rfl hy_X10_roundedUp rfl (by decide) (by decide) (Nat.le_of_ble_eq_true rfl) (by decide) (by decide) (by decide) (by decide) (Or.inl ge10.2) ?_
  obtain ⟨rfl, rfl⟩ := jretS h
  exact j_iret (pc := 14) rfl dX9_pressure_14 (by decide) (by decide) rfl
theorem r_X9_pressure {a0 : Nat} {ws : LWd} {o : (Int32 × LWd)} (h : m_X9_pressure a0 ws = some o) : ∃ fs, ws[a0]? = some (.inr (9, fs)) := rcv_in h
def wsX9_sinking : List Cond := Cond.code yX9_sinking cX9_sinking 5 (some .int) :: jW
def m_X9_sinking_b53 (k9 : Nat → Int32 → Int32 → Int32 → LWd → Option (Int32 × LWd)) (a0 : Nat) (i1 : Int32) (i2 : Int32) (i3 : Int32) (ws : LWd) : Option (Int32 × LWd) :=
  k9 a0 i1 i2 (i3 + 1) ws
set_option maxRecDepth 100000 in
set_option maxHeartbeats 4000000 in
theorem jm_X9_sinking_b53 {n0 : Nat} {rr : Int32} {ws' : LWd} {k9 : Nat → Int32 → Int32 → Int32 → LWd → Option (Int32 × LWd)} (hk9 : ∀ (a0 : Nat) (i1 : Int32) (i2 : Int32) (i3 : Int32) (ws : LWd), k9 a0 i1 i2 i3 ws = some (rr, ws') → JG (.inl false) cX9_sinking 5 RX9 wsX9_sinking (some .int) "sinking" 3 0 0 n0 (.inl (some (.int rr)), ws') 9 [some (.ref a0), some (.int i1), some (.int i2), some (.int i3), none] [] ws 0 0) (a0 : Nat) (i1 : Int32) (i2 : Int32) (i3 : Int32) (ws : LWd) (h : m_X9_sinking_b53 k9 a0 i1 i2 i3 ws = some (rr, ws')) : JG (.inl false) cX9_sinking 5 RX9 wsX9_sinking (some .int) "sinking" 3 0 0 n0 (.inl (some (.int rr)), ws') 53 [some (.ref a0), some (.int i1), some (.int i2), some (.int i3), none] [] ws 0 0 := by
  unfold m_X9_sinking_b53 at h
  refine j_iinc_3 (pc := 53) dX9_sinking_53 (y := i3 + 1) rfl (by decide) rfl ?_
  refine j_goto (pc := 56) (tgt := 9) dX9_sinking_56 (by decide) ?_
  exact hk9 _ _ _ _ ws h
def m_X9_sinking_l9 : Nat → Nat → Int32 → Int32 → Int32 → LWd → Option (Int32 × LWd)
  | 0, _, _, _, _, _ => none
  | fu + 1, a0, i1, i2, i3, ws =>
    if 6 ≤ i3 then
      some (i2, ws)
    else
      (fR ws a0 9 3).bind fun x2 =>
      bn2 (calSR ws (m_X8_at x2 i3 ws)) fun x6 w4 =>
      if x6 = ((-1)) then
        m_X9_sinking_b53 (fun z0 z1 z2 z3 w => m_X9_sinking_l9 fu z0 z1 z2 z3 w) a0 i1 i2 i3 w4
      else
        (fR w4 a0 9 0).bind fun x8 =>
        (fR w4 x8 5 1).bind fun x10 =>
        bn2 (calSR w4 (m_X8_at x10 x6 w4)) fun x14 w12 =>
        if i1 ≤ x14 then
          m_X9_sinking_b53 (fun z0 z1 z2 z3 w => m_X9_sinking_l9 fu z0 z1 z2 z3 w) a0 i1 i2 i3 w12
        else
          m_X9_sinking_b53 (fun z0 z1 z2 z3 w => m_X9_sinking_l9 fu z0 z1 z2 z3 w) a0 i1 (i2 ||| (1 <<< (i3 &&& 31))) i3 w12
set_option maxRecDepth 100000 in
set_option maxHeartbeats 4000000 in
theorem jm_X9_sinking_l9 {n0 : Nat} {rr : Int32} {ws' : LWd} : ∀ (fu : Nat) (a0 : Nat) (i1 : Int32) (i2 : Int32) (i3 : Int32) (ws : LWd), m_X9_sinking_l9 fu a0 i1 i2 i3 ws = some (rr, ws') → JG (.inl false) cX9_sinking 5 RX9 wsX9_sinking (some .int) "sinking" 3 0 0 n0 (.inl (some (.int rr)), ws') 9 [some (.ref a0), some (.int i1), some (.int i2), some (.int i3), none] [] ws 0 0 := by
  intro fu
  induction fu with
  | zero => intro a0 i1 i2 i3 ws h; first | (cases h; done) | (rw [m_X9_sinking_l9] at h; cases h)
  | succ fu ih =>
    intro a0 i1 i2 i3 ws h
    rw [m_X9_sinking_l9] at h
    refine j_iload_n (pc := 9) dX9_sinking_9 rfl ?_
    refine j_bipush (pc := 10) dX9_sinking_10 (v := 6) (by decide) ?_
    refine j_icmp_ge (pc := 12) (tgt := 59) dX9_sinking_12 (by decide) (fun c1 => ?_) (fun c1 => ?_)
    · rw [if_pos c1] at h
      refine j_iload_n (pc := 59) dX9_sinking_59 rfl ?_
      obtain ⟨rfl, rfl⟩ := jretS h
      exact j_iret (pc := 60) rfl dX9_sinking_60 (by decide) (by decide) rfl
    · rw [if_neg c1] at h
      refine j_aload_n (pc := 15) dX9_sinking_15 rfl ?_
      obtain ⟨x2, e3, h⟩ := obS h
      refine j_getR (pc := 16) dX9_sinking_16 (ci := 9) (kf := 3) rfl (jwi hw_X9) (by decide) (jwm lw_39) e3 ?_
      refine j_iload_n (pc := 19) dX9_sinking_19 rfl ?_
      obtain ⟨x6, w4, e5, h⟩ := obS2 h
      have ge5 := calSR_of e5
      refine j_callV_g (pc := 20) (As := [.int i3]) (k' := 0) (n' := 0) dX9_sinking_20 (s_X8_at ge5.1) (jgV lw_139 lw_140 lw_141 lw_12 lw_138) rfl hv_X8_at rfl (r_X8_at ge5.1) rfl (by decide) (by decide) (Nat.le_of_ble_eq_true rfl) (by decide) (by decide) (by decide) (by decide) (Or.inl ge5.2) ?_
      refine j_istore_4 (pc := 23) dX9_sinking_23 (by decide) rfl ?_
      refine j_iload (pc := 25) dX9_sinking_25 rfl ?_
      refine j_iconst (pc := 27) dX9_sinking_27 (v := (-1)) (by decide) ?_
      refine j_icmp_eq (pc := 28) (tgt := 53) dX9_sinking_28 (by decide) (fun c7 => ?_) (fun c7 => ?_)
      · rw [if_pos c7] at h
        refine j_mask [true, true, true, true, false] ?_
        exact jm_X9_sinking_b53 (hk9 := ih) _ _ _ _ w4 h
      · rw [if_neg c7] at h
        refine j_aload_n (pc := 31) dX9_sinking_31 rfl ?_
        obtain ⟨x8, e9, h⟩ := obS h
        refine j_getR (pc := 32) dX9_sinking_32 (ci := 9) (kf := 0) rfl (jwi hw_X9) (by decide) (jwm lw_42) e9 ?_
        obtain ⟨x10, e11, h⟩ := obS h
        refine j_getR (pc := 35) dX9_sinking_35 (ci := 5) (kf := 1) rfl (jwi hw_X5) (by decide) (jwm lw_253) e11 ?_
        refine j_iload (pc := 38) dX9_sinking_38 rfl ?_
        obtain ⟨x14, w12, e13, h⟩ := obS2 h
        have ge13 := calSR_of e13
        refine j_callV_g (pc := 40) (As := [.int x6]) (k' := 0) (n' := 0) dX9_sinking_40 (s_X8_at ge13.1) (jgV lw_139 lw_140 lw_141 lw_12 lw_138) rfl hv_X8_at rfl (r_X8_at ge13.1) rfl (by decide) (by decide) (Nat.le_of_ble_eq_true rfl) (by decide) (by decide) (by decide) (by decide) (Or.inl ge13.2) ?_
        refine j_iload_n (pc := 43) dX9_sinking_43 rfl ?_
        refine j_icmp_ge (pc := 44) (tgt := 53) dX9_sinking_44 (by decide) (fun c15 => ?_) (fun c15 => ?_)
        · rw [if_pos c15] at h
          refine j_mask [true, true, true, true, false] ?_
          exact jm_X9_sinking_b53 (hk9 := ih) _ _ _ _ w12 h
        · rw [if_neg c15] at h
          refine j_iload_n (pc := 47) dX9_sinking_47 rfl ?_
          refine j_iconst (pc := 48) dX9_sinking_48 (v := 1) (by decide) ?_
          refine j_iload_n (pc := 49) dX9_sinking_49 rfl ?_
          refine j_ishl (pc := 50) dX9_sinking_50 ?_
          refine j_ior (pc := 51) dX9_sinking_51 ?_
          refine j_istore_n_2 (pc := 52) dX9_sinking_52 (by decide) rfl ?_
          refine j_mask [true, true, true, true, false] ?_
          exact jm_X9_sinking_b53 (hk9 := ih) _ _ _ _ w12 h
def m_X9_sinking (a0 : Nat) (ws : LWd) : Option (Int32 × LWd) :=
  (rcv ws a0 9).bind fun _ =>
  bn2 (calSR ws (m_X9_pressure a0 ws)) fun x3 w1 =>
  m_X9_sinking_l9 FU a0 x3 0 0 w1
set_option maxRecDepth 100000 in
set_option maxHeartbeats 4000000 in
theorem s_X9_sinking {a0 : Nat} {ws : LWd} {rr : Int32} {ws' : LWd} (h : m_X9_sinking a0 ws = some (rr, ws')) : jSp yX9_sinking wsX9_sinking 3 0 0 [.ref a0] ws (.inl (some (.int rr)), ws') := by
  unfold m_X9_sinking at h
  refine j_entry (ret := (some .int)) (nm := "sinking") (own := RX9) pl_X9 rfl rfl rfl (jcats (by rfl)) (Nat.le_of_ble_eq_true rfl) ?_
  show JG (.inl false) cX9_sinking 5 RX9 wsX9_sinking (some .int) "sinking" 3 0 0 ws.length (.inl (some (.int rr)), ws') 0 [some (.ref a0), none, none, none, none] [] ws 0 0
  obtain ⟨_, _, h⟩ := obS h
  refine j_aload_n (pc := 0) dX9_sinking_0 rfl ?_
  obtain ⟨x3, w1, e2, h⟩ := obS2 h
  have ge2 := calSR_of e2
  refine j_callV_g (pc := 1) (As := []) (k' := 0) (n' := 0) dX9_sinking_1 (s_X9_pressure ge2.1) (jgV lw_255 lw_256 lw_257 lw_76 lw_254) rfl hv_X9_pressure rfl (r_X9_pressure ge2.1) rfl (by decide) (by decide) (Nat.le_of_ble_eq_true rfl) (by decide) (by decide) (by decide) (by decide) (Or.inl ge2.2) ?_
  refine j_istore_n_1 (pc := 4) dX9_sinking_4 (by decide) rfl ?_
  refine j_iconst (pc := 5) dX9_sinking_5 (v := 0) (by decide) ?_
  refine j_istore_n_2 (pc := 6) dX9_sinking_6 (by decide) rfl ?_
  refine j_iconst (pc := 7) dX9_sinking_7 (v := 0) (by decide) ?_
  refine j_istore_n_3 (pc := 8) dX9_sinking_8 (by decide) rfl ?_
  exact jm_X9_sinking_l9 FU _ _ _ _ w1 h
theorem r_X9_sinking {a0 : Nat} {ws : LWd} {o : (Int32 × LWd)} (h : m_X9_sinking a0 ws = some o) : ∃ fs, ws[a0]? = some (.inr (9, fs)) := rcv_in h
def wsX5_learn : List Cond := Cond.code yX5_learn cX5_learn 2 none :: jW
def m_X5_learn (a0 : Nat) (i1 : Int32) (ws : LWd) : Option LWd :=
  (rcv ws a0 5).bind fun _ =>
  (fR ws a0 5 3).bind fun x1 =>
  (fR ws a0 5 0).bind fun x3 =>
  bn2 (calSR ws (m_X8_at x3 i1 ws)) fun x7 w5 =>
  (calSV w5 (m_X8_put x1 i1 x7 w5)).bind fun w8 =>
  some w8
set_option maxRecDepth 100000 in
set_option maxHeartbeats 4000000 in
theorem s_X5_learn {a0 : Nat} {i1 : Int32} {ws : LWd} {ws' : LWd} (h : m_X5_learn a0 i1 ws = some ws') : jSp yX5_learn wsX5_learn 1 0 0 [.ref a0, .int i1] ws (.inl none, ws') := by
  unfold m_X5_learn at h
  refine j_entry (ret := none) (nm := "learn") (own := RX5) pl_X5 rfl rfl rfl (jcats (by rfl)) (Nat.le_of_ble_eq_true rfl) ?_
  show JG (.inl false) cX5_learn 2 RX5 wsX5_learn none "learn" 1 0 0 ws.length (.inl none, ws') 0 [some (.ref a0), some (.int i1)] [] ws 0 0
  obtain ⟨_, _, h⟩ := obS h
  refine j_aload_n (pc := 0) dX5_learn_0 rfl ?_
  obtain ⟨x1, e2, h⟩ := obS h
  refine j_getR (pc := 1) dX5_learn_1 (ci := 5) (kf := 3) rfl (jwi hw_X5) (by decide) (jwm lw_25) e2 ?_
  refine j_iload_n (pc := 4) dX5_learn_4 rfl ?_
  refine j_aload_n (pc := 5) dX5_learn_5 rfl ?_
  obtain ⟨x3, e4, h⟩ := obS h
  refine j_getR (pc := 6) dX5_learn_6 (ci := 5) (kf := 0) rfl (jwi hw_X5) (by decide) (jwm lw_22) e4 ?_
  refine j_iload_n (pc := 9) dX5_learn_9 rfl ?_
  obtain ⟨x7, w5, e6, h⟩ := obS2 h
  have ge6 := calSR_of e6
  refine j_callV_g (pc := 10) (As := [.int i1]) (k' := 0) (n' := 0) dX5_learn_10 (s_X8_at ge6.1) (jgV lw_258 lw_140 lw_141 lw_12 lw_138) rfl hv_X8_at rfl (r_X8_at ge6.1) rfl (by decide) (by decide) (Nat.le_of_ble_eq_true rfl) (by decide) (by decide) (by decide) (by decide) (Or.inl ge6.2) ?_
  obtain ⟨w8, e9, h⟩ := obS h
  have ge9 := calSV_of e9
  refine j_callV_g (pc := 13) (As := [.int i1, .int x7]) (k' := 0) (n' := 0) dX5_learn_13 (s_X8_put ge9.1) (jgV lw_259 lw_159 lw_160 lw_12 lw_157) rfl hv_X8_put rfl (r_X8_put ge9.1) rfl (by decide) (by decide) (Nat.le_of_ble_eq_true rfl) (by decide) (by decide) (by decide) (by decide) (Or.inl ge9.2) ?_
  cases h
  exact j_vret (pc := 16) rfl dX5_learn_16 (by decide) (by decide) rfl
theorem r_X5_learn {a0 : Nat} {i1 : Int32} {ws : LWd} {o : LWd} (h : m_X5_learn a0 i1 ws = some o) : ∃ fs, ws[a0]? = some (.inr (5, fs)) := rcv_in h
def wsX5_sag : List Cond := Cond.code yX5_sag cX5_sag 2 none :: jW
def m_X5_sag (a0 : Nat) (i1 : Int32) (ws : LWd) : Option LWd :=
  (rcv ws a0 5).bind fun _ =>
  (fR ws a0 5 0).bind fun x1 =>
  (fR ws a0 5 0).bind fun x3 =>
  bn2 (calSR ws (m_X8_at x3 i1 ws)) fun x7 w5 =>
  (calSV w5 (m_X8_put x1 i1 (jmax 0 (x7 - 1)) w5)).bind fun w8 =>
  (calSV w8 (m_X5_learn a0 i1 w8)).bind fun w10 =>
  some w10
set_option maxRecDepth 100000 in
set_option maxHeartbeats 4000000 in
theorem s_X5_sag {a0 : Nat} {i1 : Int32} {ws : LWd} {ws' : LWd} (h : m_X5_sag a0 i1 ws = some ws') : jSp yX5_sag wsX5_sag 2 0 0 [.ref a0, .int i1] ws (.inl none, ws') := by
  unfold m_X5_sag at h
  refine j_entry (ret := none) (nm := "sag") (own := RX5) pl_X5 rfl rfl rfl (jcats (by rfl)) (Nat.le_of_ble_eq_true rfl) ?_
  show JG (.inl false) cX5_sag 2 RX5 wsX5_sag none "sag" 2 0 0 ws.length (.inl none, ws') 0 [some (.ref a0), some (.int i1)] [] ws 0 0
  obtain ⟨_, _, h⟩ := obS h
  refine j_aload_n (pc := 0) dX5_sag_0 rfl ?_
  obtain ⟨x1, e2, h⟩ := obS h
  refine j_getR (pc := 1) dX5_sag_1 (ci := 5) (kf := 0) rfl (jwi hw_X5) (by decide) (jwm lw_22) e2 ?_
  refine j_iload_n (pc := 4) dX5_sag_4 rfl ?_
  refine j_iconst (pc := 5) dX5_sag_5 (v := 0) (by decide) ?_
  refine j_aload_n (pc := 6) dX5_sag_6 rfl ?_
  obtain ⟨x3, e4, h⟩ := obS h
  refine j_getR (pc := 7) dX5_sag_7 (ci := 5) (kf := 0) rfl (jwi hw_X5) (by decide) (jwm lw_22) e4 ?_
  refine j_iload_n (pc := 10) dX5_sag_10 rfl ?_
  obtain ⟨x7, w5, e6, h⟩ := obS2 h
  have ge6 := calSR_of e6
  refine j_callV_g (pc := 11) (As := [.int i1]) (k' := 0) (n' := 0) dX5_sag_11 (s_X8_at ge6.1) (jgV lw_258 lw_140 lw_141 lw_12 lw_138) rfl hv_X8_at rfl (r_X8_at ge6.1) rfl (by decide) (by decide) (Nat.le_of_ble_eq_true rfl) (by decide) (by decide) (by decide) (by decide) (Or.inl ge6.2) ?_
  refine j_iconst (pc := 14) dX5_sag_14 (v := 1) (by decide) ?_
  refine j_isub (pc := 15) dX5_sag_15 ?_
  refine j_mmax (pc := 16) dX5_sag_16 (jwm lw_260) (jwm lw_208) (jwm lw_177) (jwm lw_209) (Nat.le_of_ble_eq_true rfl) (Nat.le_of_ble_eq_true rfl) (by decide) (by decide) ?_
  obtain ⟨w8, e9, h⟩ := obS h
  have ge9 := calSV_of e9
  refine j_callV_g (pc := 19) (As := [.int i1, .int (jmax 0 (x7 - 1))]) (k' := 0) (n' := 0) dX5_sag_19 (s_X8_put ge9.1) (jgV lw_259 lw_159 lw_160 lw_12 lw_157) rfl hv_X8_put rfl (r_X8_put ge9.1) rfl (by decide) (by decide) (Nat.le_of_ble_eq_true rfl) (by decide) (by decide) (by decide) (by decide) (Or.inl ge9.2) ?_
  refine j_aload_n (pc := 22) dX5_sag_22 rfl ?_
  refine j_iload_n (pc := 23) dX5_sag_23 rfl ?_
  obtain ⟨w10, e11, h⟩ := obS h
  have ge11 := calSV_of e11
  refine j_callV_g (pc := 24) (As := [.int i1]) (k' := 0) (n' := 0) dX5_sag_24 (s_X5_learn ge11.1) (jgV lw_262 lw_263 lw_264 lw_91 lw_261) rfl hv_X5_learn rfl (r_X5_learn ge11.1) rfl (by decide) (by decide) (Nat.le_of_ble_eq_true rfl) (by decide) (by decide) (by decide) (by decide) (Or.inl ge11.2) ?_
  cases h
  exact j_vret (pc := 27) rfl dX5_sag_27 (by decide) (by decide) rfl
theorem r_X5_sag {a0 : Nat} {i1 : Int32} {ws : LWd} {o : LWd} (h : m_X5_sag a0 i1 ws = some o) : ∃ fs, ws[a0]? = some (.inr (5, fs)) := rcv_in h
def wsX0_tell : List Cond := Cond.code yX0_tell cX0_tell 3 none :: jW
def m_X0_tell_b29 (a0 : Nat) (ws : LWd) : Option LWd :=
  (fI ws a0 0 0).bind fun x1 =>
  (pV ws a0 0 0 (.int (x1 + 1))).bind fun w3 =>
  some w3
set_option maxRecDepth 100000 in
set_option maxHeartbeats 4000000 in
theorem jm_X0_tell_b29 {n0 : Nat} {ws' : LWd} (a0 : Nat) (ws : LWd) (h : m_X0_tell_b29 a0 ws = some ws') : JG (.inl false) cX0_tell 3 RX0 wsX0_tell none "tell" 0 0 0 n0 (.inl none, ws') 29 [some (.ref a0), none, none] [] ws 0 0 := by
  unfold m_X0_tell_b29 at h
  refine j_aload_n (pc := 29) dX0_tell_29 rfl ?_
  refine j_dup (pc := 30) dX0_tell_30 rfl ?_
  obtain ⟨x1, e2, h⟩ := obS h
  refine j_getI (pc := 31) dX0_tell_31 (ci := 0) (kf := 0) rfl (jwi hw_X0) (by decide) (jwm lw_52) e2 ?_
  refine j_iconst (pc := 34) dX0_tell_34 (v := 1) (by decide) ?_
  refine j_iadd (pc := 35) dX0_tell_35 ?_
  obtain ⟨w3, e4, h⟩ := obS h
  refine j_putV (pc := 36) (ci := 0) (kf := 0) tyX0 tyX0_ok nmX0 dX0_tell_36 rfl (jwi hw_X0) (by decide) (jwm lw_52) rfl (fun _ => rfl) (fun _ => rfl) e4 ?_
  cases h
  exact j_vret (pc := 39) rfl dX0_tell_39 (by decide) (by decide) rfl
def m_X0_tell_b17 (a0 : Nat) (i1 : Int32) (ws : LWd) : Option LWd :=
  (fI ws a0 0 3).bind fun x1 =>
  if x1 = 0 then
    (pV ws a0 0 3 (.int i1)).bind fun w4 =>
    m_X0_tell_b29 a0 w4
  else
    m_X0_tell_b29 a0 ws
set_option maxRecDepth 100000 in
set_option maxHeartbeats 4000000 in
theorem jm_X0_tell_b17 {n0 : Nat} {ws' : LWd} (a0 : Nat) (i1 : Int32) (ws : LWd) (h : m_X0_tell_b17 a0 i1 ws = some ws') : JG (.inl false) cX0_tell 3 RX0 wsX0_tell none "tell" 0 0 0 n0 (.inl none, ws') 17 [some (.ref a0), some (.int i1), none] [] ws 0 0 := by
  unfold m_X0_tell_b17 at h
  refine j_aload_n (pc := 17) dX0_tell_17 rfl ?_
  obtain ⟨x1, e2, h⟩ := obS h
  refine j_getI (pc := 18) dX0_tell_18 (ci := 0) (kf := 3) rfl (jwi hw_X0) (by decide) (jwm lw_55) e2 ?_
  refine j_if_ne (pc := 21) (tgt := 29) dX0_tell_21 (by decide) (fun c3 => ?_) (fun c3 => ?_)
  · rw [if_neg c3] at h
    refine j_mask [true, false, false] ?_
    exact jm_X0_tell_b29 _ ws h
  · rw [if_pos c3] at h
    refine j_aload_n (pc := 24) dX0_tell_24 rfl ?_
    refine j_iload_n (pc := 25) dX0_tell_25 rfl ?_
    obtain ⟨w4, e5, h⟩ := obS h
    refine j_putV (pc := 26) (ci := 0) (kf := 3) tyX0 tyX0_ok nmX0 dX0_tell_26 rfl (jwi hw_X0) (by decide) (jwm lw_55) rfl (fun _ => rfl) (fun _ => rfl) e5 ?_
    refine j_mask [true, false, false] ?_
    exact jm_X0_tell_b29 _ w4 h
def m_X0_tell (a0 : Nat) (i1 : Int32) (i2 : Int32) (ws : LWd) : Option LWd :=
  (rcv ws a0 0).bind fun _ =>
  (fI ws a0 0 0).bind fun x1 =>
  if x1 = 0 then
    (pV ws a0 0 1 (.int i1)).bind fun w4 =>
    (pV w4 a0 0 2 (.int i2)).bind fun w6 =>
    m_X0_tell_b17 a0 i1 w6
  else
    m_X0_tell_b17 a0 i1 ws
set_option maxRecDepth 100000 in
set_option maxHeartbeats 4000000 in
theorem s_X0_tell {a0 : Nat} {i1 : Int32} {i2 : Int32} {ws : LWd} {ws' : LWd} (h : m_X0_tell a0 i1 i2 ws = some ws') : jSp yX0_tell wsX0_tell 0 0 0 [.ref a0, .int i1, .int i2] ws (.inl none, ws') := by
  unfold m_X0_tell at h
  refine j_entry (ret := none) (nm := "tell") (own := RX0) pl_X0 rfl rfl rfl (jcats (by rfl)) (Nat.le_of_ble_eq_true rfl) ?_
  show JG (.inl false) cX0_tell 3 RX0 wsX0_tell none "tell" 0 0 0 ws.length (.inl none, ws') 0 [some (.ref a0), some (.int i1), some (.int i2)] [] ws 0 0
  obtain ⟨_, _, h⟩ := obS h
  refine j_aload_n (pc := 0) dX0_tell_0 rfl ?_
  obtain ⟨x1, e2, h⟩ := obS h
  refine j_getI (pc := 1) dX0_tell_1 (ci := 0) (kf := 0) rfl (jwi hw_X0) (by decide) (jwm lw_52) e2 ?_
  refine j_if_ne (pc := 4) (tgt := 17) dX0_tell_4 (by decide) (fun c3 => ?_) (fun c3 => ?_)
  · rw [if_neg c3] at h
    refine j_mask [true, true, false] ?_
    exact jm_X0_tell_b17 _ _ ws h
  · rw [if_pos c3] at h
    refine j_aload_n (pc := 7) dX0_tell_7 rfl ?_
    refine j_iload_n (pc := 8) dX0_tell_8 rfl ?_
    obtain ⟨w4, e5, h⟩ := obS h
    refine j_putV (pc := 9) (ci := 0) (kf := 1) tyX0 tyX0_ok nmX0 dX0_tell_9 rfl (jwi hw_X0) (by decide) (jwm lw_53) rfl (fun _ => rfl) (fun _ => rfl) e5 ?_
    refine j_aload_n (pc := 12) dX0_tell_12 rfl ?_
    refine j_iload_n (pc := 13) dX0_tell_13 rfl ?_
    obtain ⟨w6, e7, h⟩ := obS h
    refine j_putV (pc := 14) (ci := 0) (kf := 2) tyX0 tyX0_ok nmX0 dX0_tell_14 rfl (jwi hw_X0) (by decide) (jwm lw_54) rfl (fun _ => rfl) (fun _ => rfl) e7 ?_
    refine j_mask [true, true, false] ?_
    exact jm_X0_tell_b17 _ _ w6 h
theorem r_X0_tell {a0 : Nat} {i1 : Int32} {i2 : Int32} {ws : LWd} {o : LWd} (h : m_X0_tell a0 i1 i2 ws = some o) : ∃ fs, ws[a0]? = some (.inr (0, fs)) := rcv_in h
def wsX10_breakGround : List Cond := Cond.code yX10_breakGround cX10_breakGround 4 none :: jW
def m_X10_breakGround_b45 (k2 : Nat → Int32 → Int32 → LWd → Option LWd) (a0 : Nat) (i1 : Int32) (i2 : Int32) (ws : LWd) : Option LWd :=
  k2 a0 i1 (i2 + 1) ws
set_option maxRecDepth 100000 in
set_option maxHeartbeats 4000000 in
theorem jm_X10_breakGround_b45 {n0 : Nat} {ws' : LWd} {k2 : Nat → Int32 → Int32 → LWd → Option LWd} (hk2 : ∀ (a0 : Nat) (i1 : Int32) (i2 : Int32) (ws : LWd), k2 a0 i1 i2 ws = some ws' → JG (.inl false) cX10_breakGround 4 RX10 wsX10_breakGround none "breakGround" 3 0 0 n0 (.inl none, ws') 2 [some (.ref a0), some (.int i1), some (.int i2), none] [] ws 0 0) (a0 : Nat) (i1 : Int32) (i2 : Int32) (ws : LWd) (h : m_X10_breakGround_b45 k2 a0 i1 i2 ws = some ws') : JG (.inl false) cX10_breakGround 4 RX10 wsX10_breakGround none "breakGround" 3 0 0 n0 (.inl none, ws') 45 [some (.ref a0), some (.int i1), some (.int i2), none] [] ws 0 0 := by
  unfold m_X10_breakGround_b45 at h
  refine j_iinc_2 (pc := 45) dX10_breakGround_45 (y := i2 + 1) rfl (by decide) rfl ?_
  refine j_goto (pc := 48) (tgt := 2) dX10_breakGround_48 (by decide) ?_
  exact hk2 _ _ _ ws h
def m_X10_breakGround_l2 : Nat → Nat → Int32 → Int32 → LWd → Option LWd
  | 0, _, _, _, _ => none
  | fu + 1, a0, i1, i2, ws =>
    if 6 ≤ i2 then
      some ws
    else
      if ((i1 >>> (i2 &&& 31)) &&& 1) = 0 then
        m_X10_breakGround_b45 (fun z0 z1 z2 w => m_X10_breakGround_l2 fu z0 z1 z2 w) a0 i1 i2 ws
      else
        (fR ws a0 10 2).bind fun x3 =>
        (fR ws x3 9 3).bind fun x5 =>
        bn2 (calSR ws (m_X8_at x5 i2 ws)) fun x9 w7 =>
        (fR w7 a0 10 0).bind fun x10 =>
        (calSV w7 (m_X5_sag x10 x9 w7)).bind fun w12 =>
        (fR w12 a0 10 5).bind fun x14 =>
        (calSV w12 (m_X0_tell x14 2 x9 w12)).bind fun w16 =>
        m_X10_breakGround_b45 (fun z0 z1 z2 w => m_X10_breakGround_l2 fu z0 z1 z2 w) a0 i1 i2 w16
set_option maxRecDepth 100000 in
set_option maxHeartbeats 4000000 in
theorem jm_X10_breakGround_l2 {n0 : Nat} {ws' : LWd} : ∀ (fu : Nat) (a0 : Nat) (i1 : Int32) (i2 : Int32) (ws : LWd), m_X10_breakGround_l2 fu a0 i1 i2 ws = some ws' → JG (.inl false) cX10_breakGround 4 RX10 wsX10_breakGround none "breakGround" 3 0 0 n0 (.inl none, ws') 2 [some (.ref a0), some (.int i1), some (.int i2), none] [] ws 0 0 := by
  intro fu
  induction fu with
  | zero => intro a0 i1 i2 ws h; first | (cases h; done) | (rw [m_X10_breakGround_l2] at h; cases h)
  | succ fu ih =>
    intro a0 i1 i2 ws h
    rw [m_X10_breakGround_l2] at h
    refine j_iload_n (pc := 2) dX10_breakGround_2 rfl ?_
    refine j_bipush (pc := 3) dX10_breakGround_3 (v := 6) (by decide) ?_
    refine j_icmp_ge (pc := 5) (tgt := 51) dX10_breakGround_5 (by decide) (fun c1 => ?_) (fun c1 => ?_)
    · rw [if_pos c1] at h
      cases h
      exact j_vret (pc := 51) rfl dX10_breakGround_51 (by decide) (by decide) rfl
    · rw [if_neg c1] at h
      refine j_iload_n (pc := 8) dX10_breakGround_8 rfl ?_
      refine j_iload_n (pc := 9) dX10_breakGround_9 rfl ?_
      refine j_ishr (pc := 10) dX10_breakGround_10 ?_
      refine j_iconst (pc := 11) dX10_breakGround_11 (v := 1) (by decide) ?_
      refine j_iand (pc := 12) dX10_breakGround_12 ?_
      refine j_if_eq (pc := 13) (tgt := 45) dX10_breakGround_13 (by decide) (fun c2 => ?_) (fun c2 => ?_)
      · rw [if_pos c2] at h
        exact jm_X10_breakGround_b45 (hk2 := ih) _ _ _ ws h
      · rw [if_neg c2] at h
        refine j_aload_n (pc := 16) dX10_breakGround_16 rfl ?_
        obtain ⟨x3, e4, h⟩ := obS h
        refine j_getR (pc := 17) dX10_breakGround_17 (ci := 10) (kf := 2) rfl (jwi hw_X10) (by decide) (jwm lw_103) e4 ?_
        obtain ⟨x5, e6, h⟩ := obS h
        refine j_getR (pc := 20) dX10_breakGround_20 (ci := 9) (kf := 3) rfl (jwi hw_X9) (by decide) (jwm lw_265) e6 ?_
        refine j_iload_n (pc := 23) dX10_breakGround_23 rfl ?_
        obtain ⟨x9, w7, e8, h⟩ := obS2 h
        have ge8 := calSR_of e8
        refine j_callV_g (pc := 24) (As := [.int i2]) (k' := 0) (n' := 0) dX10_breakGround_24 (s_X8_at ge8.1) (jgV lw_156 lw_140 lw_141 lw_12 lw_138) rfl hv_X8_at rfl (r_X8_at ge8.1) rfl (by decide) (by decide) (Nat.le_of_ble_eq_true rfl) (by decide) (by decide) (by decide) (by decide) (Or.inl ge8.2) ?_
        refine j_istore_n_3 (pc := 27) dX10_breakGround_27 (by decide) rfl ?_
        refine j_aload_n (pc := 28) dX10_breakGround_28 rfl ?_
        obtain ⟨x10, e11, h⟩ := obS h
        refine j_getR (pc := 29) dX10_breakGround_29 (ci := 10) (kf := 0) rfl (jwi hw_X10) (by decide) (jwm lw_94) e11 ?_
        refine j_iload_n (pc := 32) dX10_breakGround_32 rfl ?_
        obtain ⟨w12, e13, h⟩ := obS h
        have ge13 := calSV_of e13
        refine j_callV_g (pc := 33) (As := [.int x9]) (k' := 0) (n' := 0) dX10_breakGround_33 (s_X5_sag ge13.1) (jgV lw_267 lw_268 lw_269 lw_91 lw_266) rfl hv_X5_sag rfl (r_X5_sag ge13.1) rfl (by decide) (by decide) (Nat.le_of_ble_eq_true rfl) (by decide) (by decide) (by decide) (by decide) (Or.inl ge13.2) ?_
        refine j_aload_n (pc := 36) dX10_breakGround_36 rfl ?_
        obtain ⟨x14, e15, h⟩ := obS h
        refine j_getR (pc := 37) dX10_breakGround_37 (ci := 10) (kf := 5) rfl (jwi hw_X10) (by decide) (jwm lw_116) e15 ?_
        refine j_iconst (pc := 40) dX10_breakGround_40 (v := 2) (by decide) ?_
        refine j_iload_n (pc := 41) dX10_breakGround_41 rfl ?_
        obtain ⟨w16, e17, h⟩ := obS h
        have ge17 := calSV_of e17
        refine j_callV_g (pc := 42) (As := [.int 2, .int x9]) (k' := 0) (n' := 0) dX10_breakGround_42 (s_X0_tell ge17.1) (jgV lw_271 lw_272 lw_273 lw_113 lw_270) rfl hv_X0_tell rfl (r_X0_tell ge17.1) rfl (by decide) (by decide) (Nat.le_of_ble_eq_true rfl) (by decide) (by decide) (by decide) (by decide) (Or.inl ge17.2) ?_
        refine j_mask [true, true, true, false] ?_
        exact jm_X10_breakGround_b45 (hk2 := ih) _ _ _ w16 h
def m_X10_breakGround (a0 : Nat) (i1 : Int32) (ws : LWd) : Option LWd :=
  (rcv ws a0 10).bind fun _ =>
  m_X10_breakGround_l2 FU a0 i1 0 ws
set_option maxRecDepth 100000 in
set_option maxHeartbeats 4000000 in
theorem s_X10_breakGround {a0 : Nat} {i1 : Int32} {ws : LWd} {ws' : LWd} (h : m_X10_breakGround a0 i1 ws = some ws') : jSp yX10_breakGround wsX10_breakGround 3 0 0 [.ref a0, .int i1] ws (.inl none, ws') := by
  unfold m_X10_breakGround at h
  refine j_entry (ret := none) (nm := "breakGround") (own := RX10) pl_X10 rfl rfl rfl (jcats (by rfl)) (Nat.le_of_ble_eq_true rfl) ?_
  show JG (.inl false) cX10_breakGround 4 RX10 wsX10_breakGround none "breakGround" 3 0 0 ws.length (.inl none, ws') 0 [some (.ref a0), some (.int i1), none, none] [] ws 0 0
  obtain ⟨_, _, h⟩ := obS h
  refine j_iconst (pc := 0) dX10_breakGround_0 (v := 0) (by decide) ?_
  refine j_istore_n_2 (pc := 1) dX10_breakGround_1 (by decide) rfl ?_
  exact jm_X10_breakGround_l2 FU _ _ _ ws h
theorem r_X10_breakGround {a0 : Nat} {i1 : Int32} {ws : LWd} {o : LWd} (h : m_X10_breakGround a0 i1 ws = some o) : ∃ fs, ws[a0]? = some (.inr (10, fs)) := rcv_in h
