/-! methods: written by wip/p27/make.py -/
def wsX10_mayLift : List Cond := Cond.code yX10_mayLift cX10_mayLift 2 (some .boolean) :: jW
def m_X10_mayLift (a0 : Nat) (i1 : Int32) (ws : LWd) : Option (Int32 × LWd) :=
  (rcv ws a0 10).bind fun _ =>
  (fI ws a0 10 9).bind fun x1 =>
  if x1 = 0 then
    some (0, ws)
  else
    (fI ws a0 10 10).bind fun x4 =>
    if x4 < 1 then
      some (0, ws)
    else
      (fR ws a0 10 2).bind fun x7 =>
      (fR ws x7 9 3).bind fun x9 =>
      bn2 (calSR ws (m_X8_at x9 i1 ws)) fun x13 w11 =>
      if x13 = ((-1)) then
        some (0, w11)
      else
        (fR w11 a0 10 2).bind fun x15 =>
        bn2 (calSR w11 (m_X9_holdsWithout x15 i1 w11)) fun x19 w17 =>
        if x19 = 0 then
          some (0, w17)
        else
          some (1, w17)
set_option maxRecDepth 100000 in
set_option maxHeartbeats 4000000 in
theorem s_X10_mayLift {a0 : Nat} {i1 : Int32} {ws : LWd} {rr : Int32} {ws' : LWd} (h : m_X10_mayLift a0 i1 ws = some (rr, ws')) : jSp yX10_mayLift wsX10_mayLift 3 0 0 [.ref a0, .int i1] ws (.inl (some (.int rr)), ws') := by
  unfold m_X10_mayLift at h
  refine j_entry (ret := (some .boolean)) (nm := "mayLift") (own := RX10) pl_X10 rfl rfl rfl (jcats (by rfl)) (Nat.le_of_ble_eq_true rfl) ?_
  show JG (.inl false) cX10_mayLift 2 RX10 wsX10_mayLift (some .boolean) "mayLift" 3 0 0 ws.length (.inl (some (.int rr)), ws') 0 [some (.ref a0), some (.int i1)] [] ws 0 0
  obtain ⟨_, _, h⟩ := obS h
  refine j_aload_n (pc := 0) dX10_mayLift_0 rfl ?_
  obtain ⟨x1, e2, h⟩ := obS h
  refine j_getI (pc := 1) dX10_mayLift_1 (ci := 10) (kf := 9) rfl (jwi hw_X10) (by decide) (jwm lw_136) e2 ?_
  refine j_if_eq (pc := 4) (tgt := 45) dX10_mayLift_4 (by decide) (fun c3 => ?_) (fun c3 => ?_)
  · rw [if_pos c3] at h
    refine j_iconst (pc := 45) dX10_mayLift_45 (v := 0) (by decide) ?_
    obtain ⟨rfl, rfl⟩ := jretS h
    exact j_zretL (pc := 46) (by decide) rfl dX10_mayLift_46 (by decide) (by decide) rfl
  · rw [if_neg c3] at h
    refine j_aload_n (pc := 7) dX10_mayLift_7 rfl ?_
    obtain ⟨x4, e5, h⟩ := obS h
    refine j_getI (pc := 8) dX10_mayLift_8 (ci := 10) (kf := 10) rfl (jwi hw_X10) (by decide) (jwm lw_137) e5 ?_
    refine j_iconst (pc := 11) dX10_mayLift_11 (v := 1) (by decide) ?_
    refine j_icmp_lt (pc := 12) (tgt := 45) dX10_mayLift_12 (by decide) (fun c6 => ?_) (fun c6 => ?_)
    · rw [if_pos c6] at h
      refine j_iconst (pc := 45) dX10_mayLift_45 (v := 0) (by decide) ?_
      obtain ⟨rfl, rfl⟩ := jretS h
      exact j_zretL (pc := 46) (by decide) rfl dX10_mayLift_46 (by decide) (by decide) rfl
    · rw [if_neg c6] at h
      refine j_aload_n (pc := 15) dX10_mayLift_15 rfl ?_
      obtain ⟨x7, e8, h⟩ := obS h
      refine j_getR (pc := 16) dX10_mayLift_16 (ci := 10) (kf := 2) rfl (jwi hw_X10) (by decide) (jwm lw_103) e8 ?_
      obtain ⟨x9, e10, h⟩ := obS h
      refine j_getR (pc := 19) dX10_mayLift_19 (ci := 9) (kf := 3) rfl (jwi hw_X9) (by decide) (jwm lw_265) e10 ?_
      refine j_iload_n (pc := 22) dX10_mayLift_22 rfl ?_
      obtain ⟨x13, w11, e12, h⟩ := obS2 h
      have ge12 := calSR_of e12
      refine j_callV_g (pc := 23) (As := [.int i1]) (k' := 0) (n' := 0) dX10_mayLift_23 (s_X8_at ge12.1) (jgV lw_156 lw_140 lw_141 lw_12 lw_138) rfl hv_X8_at rfl (r_X8_at ge12.1) rfl (by decide) (by decide) (Nat.le_of_ble_eq_true rfl) (by decide) (by decide) (by decide) (by decide) (Or.inl ge12.2) ?_
      refine j_iconst (pc := 26) dX10_mayLift_26 (v := (-1)) (by decide) ?_
      refine j_icmp_eq (pc := 27) (tgt := 45) dX10_mayLift_27 (by decide) (fun c14 => ?_) (fun c14 => ?_)
      · rw [if_pos c14] at h
        refine j_iconst (pc := 45) dX10_mayLift_45 (v := 0) (by decide) ?_
        obtain ⟨rfl, rfl⟩ := jretS h
        exact j_zretL (pc := 46) (by decide) rfl dX10_mayLift_46 (by decide) (by decide) rfl
      · rw [if_neg c14] at h
        refine j_aload_n (pc := 30) dX10_mayLift_30 rfl ?_
        obtain ⟨x15, e16, h⟩ := obS h
        refine j_getR (pc := 31) dX10_mayLift_31 (ci := 10) (kf := 2) rfl (jwi hw_X10) (by decide) (jwm lw_103) e16 ?_
        refine j_iload_n (pc := 34) dX10_mayLift_34 rfl ?_
        obtain ⟨x19, w17, e18, h⟩ := obS2 h
        have ge18 := calSR_of e18
        refine j_callV_g (pc := 35) (As := [.int i1]) (k' := 0) (n' := 0) dX10_mayLift_35 (s_X9_holdsWithout ge18.1) (jgV lw_244 lw_245 lw_246 lw_76 lw_243) rfl hv_X9_holdsWithout rfl (r_X9_holdsWithout ge18.1) rfl (by decide) (by decide) (Nat.le_of_ble_eq_true rfl) (by decide) (by decide) (by decide) (by decide) (Or.inl ge18.2) ?_
        refine j_if_eq (pc := 38) (tgt := 45) dX10_mayLift_38 (by decide) (fun c20 => ?_) (fun c20 => ?_)
        · rw [if_pos c20] at h
          refine j_iconst (pc := 45) dX10_mayLift_45 (v := 0) (by decide) ?_
          obtain ⟨rfl, rfl⟩ := jretS h
          exact j_zretL (pc := 46) (by decide) rfl dX10_mayLift_46 (by decide) (by decide) rfl
        · rw [if_neg c20] at h
          refine j_iconst (pc := 41) dX10_mayLift_41 (v := 1) (by decide) ?_
          refine j_goto (pc := 42) (tgt := 46) dX10_mayLift_42 (by decide) ?_
          obtain ⟨rfl, rfl⟩ := jretS h
          exact j_zretL (pc := 46) (by decide) rfl dX10_mayLift_46 (by decide) (by decide) rfl
theorem r_X10_mayLift {a0 : Nat} {i1 : Int32} {ws : LWd} {o : (Int32 × LWd)} (h : m_X10_mayLift a0 i1 ws = some o) : ∃ fs, ws[a0]? = some (.inr (10, fs)) := rcv_in h
def wsX10_liftFoot : List Cond := Cond.code yX10_liftFoot cX10_liftFoot 2 (some .boolean) :: jW
def m_X10_liftFoot (a0 : Nat) (i1 : Int32) (ws : LWd) : Option (Int32 × LWd) :=
  (rcv ws a0 10).bind fun _ =>
  bn2 (calSR ws (m_X10_mayLift a0 i1 ws)) fun x3 w1 =>
  if x3 = 0 then
    some (0, w1)
  else
    (fI w1 a0 10 10).bind fun x5 =>
    (pV w1 a0 10 10 (.int (x5 - 1))).bind fun w7 =>
    (fR w7 a0 10 5).bind fun x9 =>
    (calSV w7 (m_X0_beginAct x9 w7)).bind fun w11 =>
    (fR w11 a0 10 2).bind fun x13 =>
    (fR w11 x13 9 3).bind fun x15 =>
    (calSV w11 (m_X8_put x15 i1 ((-1)) w11)).bind fun w17 =>
    some (1, w17)
set_option maxRecDepth 100000 in
set_option maxHeartbeats 4000000 in
theorem s_X10_liftFoot {a0 : Nat} {i1 : Int32} {ws : LWd} {rr : Int32} {ws' : LWd} (h : m_X10_liftFoot a0 i1 ws = some (rr, ws')) : jSp yX10_liftFoot wsX10_liftFoot 4 0 0 [.ref a0, .int i1] ws (.inl (some (.int rr)), ws') := by
  unfold m_X10_liftFoot at h
  refine j_entry (ret := (some .boolean)) (nm := "liftFoot") (own := RX10) pl_X10 rfl rfl rfl (jcats (by rfl)) (Nat.le_of_ble_eq_true rfl) ?_
  show JG (.inl false) cX10_liftFoot 2 RX10 wsX10_liftFoot (some .boolean) "liftFoot" 4 0 0 ws.length (.inl (some (.int rr)), ws') 0 [some (.ref a0), some (.int i1)] [] ws 0 0
  obtain ⟨_, _, h⟩ := obS h
  refine j_aload_n (pc := 0) dX10_liftFoot_0 rfl ?_
  refine j_iload_n (pc := 1) dX10_liftFoot_1 rfl ?_
  obtain ⟨x3, w1, e2, h⟩ := obS2 h
  have ge2 := calSR_of e2
  refine j_callV_g (pc := 2) (As := [.int i1]) (k' := 0) (n' := 0) dX10_liftFoot_2 (s_X10_mayLift ge2.1) (jgV lw_379 lw_380 lw_381 lw_147 lw_378) rfl hv_X10_mayLift rfl (r_X10_mayLift ge2.1) rfl (by decide) (by decide) (Nat.le_of_ble_eq_true rfl) (by decide) (by decide) (by decide) (by decide) (Or.inl ge2.2) ?_
  refine j_if_ne (pc := 5) (tgt := 10) dX10_liftFoot_5 (by decide) (fun c4 => ?_) (fun c4 => ?_)
  · rw [if_neg c4] at h
    refine j_aload_n (pc := 10) dX10_liftFoot_10 rfl ?_
    refine j_dup (pc := 11) dX10_liftFoot_11 rfl ?_
    obtain ⟨x5, e6, h⟩ := obS h
    refine j_getI (pc := 12) dX10_liftFoot_12 (ci := 10) (kf := 10) rfl (jwi hw_X10) (by decide) (jwm lw_137) e6 ?_
    refine j_iconst (pc := 15) dX10_liftFoot_15 (v := 1) (by decide) ?_
    refine j_isub (pc := 16) dX10_liftFoot_16 ?_
    obtain ⟨w7, e8, h⟩ := obS h
    refine j_putV (pc := 17) (ci := 10) (kf := 10) tyX10 tyX10_ok nmX10 dX10_liftFoot_17 rfl (jwi hw_X10) (by decide) (jwm lw_137) rfl (fun _ => rfl) (fun _ => rfl) e8 ?_
    refine j_aload_n (pc := 20) dX10_liftFoot_20 rfl ?_
    obtain ⟨x9, e10, h⟩ := obS h
    refine j_getR (pc := 21) dX10_liftFoot_21 (ci := 10) (kf := 5) rfl (jwi hw_X10) (by decide) (jwm lw_116) e10 ?_
    obtain ⟨w11, e12, h⟩ := obS h
    have ge12 := calSV_of e12
    refine j_callV_g (pc := 24) (As := []) (k' := 0) (n' := 0) dX10_liftFoot_24 (s_X0_beginAct ge12.1) (jgV lw_233 lw_234 lw_235 lw_113 lw_232) rfl hv_X0_beginAct rfl (r_X0_beginAct ge12.1) rfl (by decide) (by decide) (Nat.le_of_ble_eq_true rfl) (by decide) (by decide) (by decide) (by decide) (Or.inl ge12.2) ?_
    refine j_aload_n (pc := 27) dX10_liftFoot_27 rfl ?_
    obtain ⟨x13, e14, h⟩ := obS h
    refine j_getR (pc := 28) dX10_liftFoot_28 (ci := 10) (kf := 2) rfl (jwi hw_X10) (by decide) (jwm lw_103) e14 ?_
    obtain ⟨x15, e16, h⟩ := obS h
    refine j_getR (pc := 31) dX10_liftFoot_31 (ci := 9) (kf := 3) rfl (jwi hw_X9) (by decide) (jwm lw_265) e16 ?_
    refine j_iload_n (pc := 34) dX10_liftFoot_34 rfl ?_
    refine j_iconst (pc := 35) dX10_liftFoot_35 (v := (-1)) (by decide) ?_
    obtain ⟨w17, e18, h⟩ := obS h
    have ge18 := calSV_of e18
    refine j_callV_g (pc := 36) (As := [.int i1, .int ((-1))]) (k' := 0) (n' := 0) dX10_liftFoot_36 (s_X8_put ge18.1) (jgV lw_158 lw_159 lw_160 lw_12 lw_157) rfl hv_X8_put rfl (r_X8_put ge18.1) rfl (by decide) (by decide) (Nat.le_of_ble_eq_true rfl) (by decide) (by decide) (by decide) (by decide) (Or.inl ge18.2) ?_
    refine j_iconst (pc := 39) dX10_liftFoot_39 (v := 1) (by decide) ?_
    obtain ⟨rfl, rfl⟩ := jretS h
    exact j_zretL (pc := 40) (by decide) rfl dX10_liftFoot_40 (by decide) (by decide) rfl
  · rw [if_pos c4] at h
    refine j_iconst (pc := 8) dX10_liftFoot_8 (v := 0) (by decide) ?_
    obtain ⟨rfl, rfl⟩ := jretS h
    exact j_zretL (pc := 9) (by decide) rfl dX10_liftFoot_9 (by decide) (by decide) rfl
theorem r_X10_liftFoot {a0 : Nat} {i1 : Int32} {ws : LWd} {o : (Int32 × LWd)} (h : m_X10_liftFoot a0 i1 ws = some o) : ∃ fs, ws[a0]? = some (.inr (10, fs)) := rcv_in h
def wsX10_lift : List Cond := Cond.code yX10_lift cX10_lift 2 (some .int) :: jW
def m_X10_lift (a0 : Nat) (i1 : Int32) (ws : LWd) : Option ((Int32 ⊕ String) × LWd) :=
  (rcv ws a0 10).bind fun _ =>
  bn2 (calSR ws (m_X10_isLeg a0 i1 ws)) fun x3 w1 =>
  if x3 = 0 then
    some (.inr "java/lang/IndexOutOfBoundsException", w1)
  else
    bn2 (calSR w1 (m_X10_liftFoot a0 i1 w1)) fun x7 w5 =>
    if x7 = 0 then
      some (.inr "java/lang/IllegalStateException", w5)
    else
      bn2 (calSR w5 (m_X10_settled a0 w5)) fun x11 w9 =>
      some (.inl x11, w9)
set_option maxRecDepth 100000 in
set_option maxHeartbeats 4000000 in
theorem s_X10_lift {a0 : Nat} {i1 : Int32} {ws : LWd} {rr : Int32 ⊕ String} {ws' : LWd} (h : m_X10_lift a0 i1 ws = some (rr, ws')) : jSX yX10_lift wsX10_lift 6 1 6 [.ref a0, .int i1] ws (jthr rr, ws') := by
  unfold m_X10_lift at h
  refine j_entryX (ret := (some .int)) (nm := "lift") (own := RX10) pl_X10 rfl rfl rfl (jcats (by rfl)) (Nat.le_of_ble_eq_true rfl) ?_
  show JG (.inl true) cX10_lift 2 RX10 wsX10_lift (some .int) "lift" 6 1 6 ws.length (jthr rr, ws') 0 [some (.ref a0), some (.int i1)] [] ws 0 0
  obtain ⟨_, _, h⟩ := obS h
  refine j_aload_n (pc := 0) dX10_lift_0 rfl ?_
  refine j_iload_n (pc := 1) dX10_lift_1 rfl ?_
  obtain ⟨x3, w1, e2, h⟩ := obS2 h
  have ge2 := calSR_of e2
  have le2 := ge2.2
  refine j_callV_g (pc := 2) (As := [.int i1]) (k' := 0) (n' := 0) dX10_lift_2 (s_X10_isLeg ge2.1) (jgV lw_181 lw_182 lw_183 lw_147 lw_180) rfl hv_X10_isLeg rfl (r_X10_isLeg ge2.1) rfl (by decide) (by decide) (Nat.le_of_ble_eq_true rfl) (by decide) (by decide) (by decide) (by decide) (Or.inl ge2.2) ?_
  refine j_if_ne (pc := 5) (tgt := 18) dX10_lift_5 (by decide) (fun c4 => ?_) (fun c4 => ?_)
  · rw [if_neg c4] at h
    refine j_aload_n (pc := 18) dX10_lift_18 rfl ?_
    refine j_iload_n (pc := 19) dX10_lift_19 rfl ?_
    obtain ⟨x7, w5, e6, h⟩ := obS2 h
    have ge6 := calSR_of e6
    have le6 := ge6.2
    refine j_callV_g (pc := 20) (As := [.int i1]) (k' := 0) (n' := 0) dX10_lift_20 (s_X10_liftFoot ge6.1) (jgV lw_383 lw_384 lw_385 lw_147 lw_382) rfl hv_X10_liftFoot rfl (r_X10_liftFoot ge6.1) rfl (by decide) (by decide) (Nat.le_of_ble_eq_true rfl) (by decide) (by decide) (by decide) (by decide) (Or.inl ge6.2) ?_
    refine j_if_ne (pc := 23) (tgt := 36) dX10_lift_23 (by decide) (fun c8 => ?_) (fun c8 => ?_)
    · rw [if_neg c8] at h
      refine j_aload_n (pc := 36) dX10_lift_36 rfl ?_
      obtain ⟨x11, w9, e10, h⟩ := obS2 h
      have ge10 := calSR_of e10
      have le10 := ge10.2
      refine j_callV_g (pc := 37) (As := []) (k' := 0) (n' := 0) dX10_lift_37 (s_X10_settled ge10.1) (jgV lw_320 lw_321 lw_322 lw_147 lw_319) rfl hv_X10_settled rfl (r_X10_settled ge10.1) rfl (by decide) (by decide) (Nat.le_of_ble_eq_true rfl) (by decide) (by decide) (by decide) (by decide) (Or.inl ge10.2) ?_
      obtain ⟨rfl, rfl⟩ := jretS h
      exact j_iret (pc := 40) rfl dX10_lift_40 (by decide) (by decide) rfl
    · rw [if_pos c8] at h
      obtain ⟨rfl, rfl⟩ := jretS h
      exact j_throw (pc := 26) (text := "refused") rfl rfl dX10_lift_26 dX10_lift_29 dX10_lift_30 dX10_lift_32 dX10_lift_35 (List.mem_of_getElem? (i := 10) rfl) (List.mem_of_getElem? (i := 1) rfl) (jfit _ (List.mem_of_getElem? (i := 1) rfl)) (jwm lw_163) (jwm lw_164) (jwi hwx_104) jgo_104 (by decide) (Nat.le_of_ble_eq_true rfl) (by decide) (by decide) (by omega) rfl
  · rw [if_pos c4] at h
    obtain ⟨rfl, rfl⟩ := jretS h
    exact j_throw (pc := 8) (text := "no such leg") rfl rfl dX10_lift_8 dX10_lift_11 dX10_lift_12 dX10_lift_14 dX10_lift_17 (List.mem_of_getElem? (i := 6) rfl) (List.mem_of_getElem? (i := 2) rfl) (jfit _ (List.mem_of_getElem? (i := 2) rfl)) (jwm lw_189) (jwm lw_190) (jwi hwx_159) jgo_159 (by decide) (Nat.le_of_ble_eq_true rfl) (by decide) (by decide) (by omega) rfl
theorem r_X10_lift {a0 : Nat} {i1 : Int32} {ws : LWd} {o : ((Int32 ⊕ String) × LWd)} (h : m_X10_lift a0 i1 ws = some o) : ∃ fs, ws[a0]? = some (.inr (10, fs)) := rcv_in h
def wsX9_far : List Cond := Cond.code yX9_far cX9_far 3 (some .int) :: jW
def m_X9_far (a0 : Nat) (i1 : Int32) (i2 : Int32) (ws : LWd) : Option (Int32 × LWd) :=
  (rcv ws a0 9).bind fun _ =>
  bn2 (calSR ws (m_X10_xOf i2 ws)) fun x3 w1 =>
  bn2 (calSR w1 (m_X9_hipX a0 i1 w1)) fun x6 w4 =>
  bn2 (calSR w4 (m_X10_yOf i2 w4)) fun x9 w7 =>
  bn2 (calSR w7 (m_X9_hipY a0 i1 w7)) fun x12 w10 =>
  some ((jabs (x3 - x6)) + (jabs (x9 - x12)), w10)
set_option maxRecDepth 100000 in
set_option maxHeartbeats 4000000 in
theorem s_X9_far {a0 : Nat} {i1 : Int32} {i2 : Int32} {ws : LWd} {rr : Int32} {ws' : LWd} (h : m_X9_far a0 i1 i2 ws = some (rr, ws')) : jSp yX9_far wsX9_far 2 0 0 [.ref a0, .int i1, .int i2] ws (.inl (some (.int rr)), ws') := by
  unfold m_X9_far at h
  refine j_entry (ret := (some .int)) (nm := "far") (own := RX9) pl_X9 rfl rfl rfl (jcats (by rfl)) (Nat.le_of_ble_eq_true rfl) ?_
  show JG (.inl false) cX9_far 3 RX9 wsX9_far (some .int) "far" 2 0 0 ws.length (.inl (some (.int rr)), ws') 0 [some (.ref a0), some (.int i1), some (.int i2)] [] ws 0 0
  obtain ⟨_, _, h⟩ := obS h
  refine j_iload_n (pc := 0) dX9_far_0 rfl ?_
  obtain ⟨x3, w1, e2, h⟩ := obS2 h
  have ge2 := calSR_of e2
  refine j_callSN_g (pc := 1) (As := [.int i2]) (k' := 0) (n' := 0) dX9_far_1 (s_X10_xOf ge2.1) (jgP lw_279) nst_X9_55 (jwm lw_147) (jwm lw_280) rfl hy_X10_xOf rfl (by decide) (by decide) (Nat.le_of_ble_eq_true rfl) (by decide) (by decide) (by decide) (by decide) (Or.inl ge2.2) ?_
  refine j_aload_n (pc := 4) dX9_far_4 rfl ?_
  refine j_iload_n (pc := 5) dX9_far_5 rfl ?_
  obtain ⟨x6, w4, e5, h⟩ := obS2 h
  have ge5 := calSR_of e5
  refine j_callV_g (pc := 6) (As := [.int i1]) (k' := 0) (n' := 0) dX9_far_6 (s_X9_hipX ge5.1) (jgV lw_346 lw_332 lw_333 lw_76 lw_330) rfl hv_X9_hipX rfl (r_X9_hipX ge5.1) rfl (by decide) (by decide) (Nat.le_of_ble_eq_true rfl) (by decide) (by decide) (by decide) (by decide) (Or.inl ge5.2) ?_
  refine j_isub (pc := 9) dX9_far_9 ?_
  refine j_mabs (pc := 10) dX9_far_10 (jwm lw_386) (jwm lw_359) (jwm lw_177) (jwm lw_360) (Nat.le_of_ble_eq_true rfl) (Nat.le_of_ble_eq_true rfl) (by decide) (by decide) ?_
  refine j_iload_n (pc := 13) dX9_far_13 rfl ?_
  obtain ⟨x9, w7, e8, h⟩ := obS2 h
  have ge8 := calSR_of e8
  refine j_callSN_g (pc := 14) (As := [.int i2]) (k' := 0) (n' := 0) dX9_far_14 (s_X10_yOf ge8.1) (jgP lw_281) nst_X9_60 (jwm lw_147) (jwm lw_282) rfl hy_X10_yOf rfl (by decide) (by decide) (Nat.le_of_ble_eq_true rfl) (by decide) (by decide) (by decide) (by decide) (Or.inl ge8.2) ?_
  refine j_aload_n (pc := 17) dX9_far_17 rfl ?_
  refine j_iload_n (pc := 18) dX9_far_18 rfl ?_
  obtain ⟨x12, w10, e11, h⟩ := obS2 h
  have ge11 := calSR_of e11
  refine j_callV_g (pc := 19) (As := [.int i1]) (k' := 0) (n' := 0) dX9_far_19 (s_X9_hipY ge11.1) (jgV lw_347 lw_336 lw_337 lw_76 lw_334) rfl hv_X9_hipY rfl (r_X9_hipY ge11.1) rfl (by decide) (by decide) (Nat.le_of_ble_eq_true rfl) (by decide) (by decide) (by decide) (by decide) (Or.inl ge11.2) ?_
  refine j_isub (pc := 22) dX9_far_22 ?_
  refine j_mabs (pc := 23) dX9_far_23 (jwm lw_386) (jwm lw_359) (jwm lw_177) (jwm lw_360) (Nat.le_of_ble_eq_true rfl) (Nat.le_of_ble_eq_true rfl) (by decide) (by decide) ?_
  refine j_iadd (pc := 26) dX9_far_26 ?_
  obtain ⟨rfl, rfl⟩ := jretS h
  exact j_iret (pc := 27) rfl dX9_far_27 (by decide) (by decide) rfl
theorem r_X9_far {a0 : Nat} {i1 : Int32} {i2 : Int32} {ws : LWd} {o : (Int32 × LWd)} (h : m_X9_far a0 i1 i2 ws = some o) : ∃ fs, ws[a0]? = some (.inr (9, fs)) := rcv_in h
def wsX9_level : List Cond := Cond.code yX9_level cX9_level 5 (some .int) :: jW
def m_X9_level_b48 (k4 : Nat → Int32 → Int32 → Int32 → LWd → Option (Int32 × LWd)) (a0 : Nat) (i1 : Int32) (i2 : Int32) (i3 : Int32) (ws : LWd) : Option (Int32 × LWd) :=
  k4 a0 i1 i2 (i3 + 1) ws
set_option maxRecDepth 100000 in
set_option maxHeartbeats 4000000 in
theorem jm_X9_level_b48 {n0 : Nat} {rr : Int32} {ws' : LWd} {k4 : Nat → Int32 → Int32 → Int32 → LWd → Option (Int32 × LWd)} (hk4 : ∀ (a0 : Nat) (i1 : Int32) (i2 : Int32) (i3 : Int32) (ws : LWd), k4 a0 i1 i2 i3 ws = some (rr, ws') → JG (.inl false) cX9_level 5 RX9 wsX9_level (some .int) "level" 1 0 0 n0 (.inl (some (.int rr)), ws') 4 [some (.ref a0), some (.int i1), some (.int i2), some (.int i3), none] [] ws 0 0) (a0 : Nat) (i1 : Int32) (i2 : Int32) (i3 : Int32) (ws : LWd) (h : m_X9_level_b48 k4 a0 i1 i2 i3 ws = some (rr, ws')) : JG (.inl false) cX9_level 5 RX9 wsX9_level (some .int) "level" 1 0 0 n0 (.inl (some (.int rr)), ws') 48 [some (.ref a0), some (.int i1), some (.int i2), some (.int i3), none] [] ws 0 0 := by
  unfold m_X9_level_b48 at h
  refine j_iinc_3 (pc := 48) dX9_level_48 (y := i3 + 1) rfl (by decide) rfl ?_
  refine j_goto (pc := 51) (tgt := 4) dX9_level_51 (by decide) ?_
  exact hk4 _ _ _ _ ws h
def m_X9_level_l4 : Nat → Nat → Int32 → Int32 → Int32 → LWd → Option (Int32 × LWd)
  | 0, _, _, _, _, _ => none
  | fu + 1, a0, i1, i2, i3, ws =>
    if 6 ≤ i3 then
      some (i2, ws)
    else
      (fR ws a0 9 3).bind fun x2 =>
      bn2 (calSR ws (m_X8_at x2 i3 ws)) fun x6 w4 =>
      if i3 = i1 then
        m_X9_level_b48 (fun z0 z1 z2 z3 w => m_X9_level_l4 fu z0 z1 z2 z3 w) a0 i1 i2 i3 w4
      else
        if x6 = ((-1)) then
          m_X9_level_b48 (fun z0 z1 z2 z3 w => m_X9_level_l4 fu z0 z1 z2 z3 w) a0 i1 i2 i3 w4
        else
          (fR w4 a0 9 0).bind fun x9 =>
          (fR w4 x9 5 3).bind fun x11 =>
          bn2 (calSR w4 (m_X8_at x11 x6 w4)) fun x15 w13 =>
          m_X9_level_b48 (fun z0 z1 z2 z3 w => m_X9_level_l4 fu z0 z1 z2 z3 w) a0 i1 (jmax i2 x15) i3 w13
set_option maxRecDepth 100000 in
set_option maxHeartbeats 4000000 in
theorem jm_X9_level_l4 {n0 : Nat} {rr : Int32} {ws' : LWd} : ∀ (fu : Nat) (a0 : Nat) (i1 : Int32) (i2 : Int32) (i3 : Int32) (ws : LWd), m_X9_level_l4 fu a0 i1 i2 i3 ws = some (rr, ws') → JG (.inl false) cX9_level 5 RX9 wsX9_level (some .int) "level" 1 0 0 n0 (.inl (some (.int rr)), ws') 4 [some (.ref a0), some (.int i1), some (.int i2), some (.int i3), none] [] ws 0 0 := by
  intro fu
  induction fu with
  | zero => intro a0 i1 i2 i3 ws h; first | (cases h; done) | (rw [m_X9_level_l4] at h; cases h)
  | succ fu ih =>
    intro a0 i1 i2 i3 ws h
    rw [m_X9_level_l4] at h
    refine j_iload_n (pc := 4) dX9_level_4 rfl ?_
    refine j_bipush (pc := 5) dX9_level_5 (v := 6) (by decide) ?_
    refine j_icmp_ge (pc := 7) (tgt := 54) dX9_level_7 (by decide) (fun c1 => ?_) (fun c1 => ?_)
    · rw [if_pos c1] at h
      refine j_iload_n (pc := 54) dX9_level_54 rfl ?_
      obtain ⟨rfl, rfl⟩ := jretS h
      exact j_iret (pc := 55) rfl dX9_level_55 (by decide) (by decide) rfl
    · rw [if_neg c1] at h
      refine j_aload_n (pc := 10) dX9_level_10 rfl ?_
      obtain ⟨x2, e3, h⟩ := obS h
      refine j_getR (pc := 11) dX9_level_11 (ci := 9) (kf := 3) rfl (jwi hw_X9) (by decide) (jwm lw_39) e3 ?_
      refine j_iload_n (pc := 14) dX9_level_14 rfl ?_
      obtain ⟨x6, w4, e5, h⟩ := obS2 h
      have ge5 := calSR_of e5
      refine j_callV_g (pc := 15) (As := [.int i3]) (k' := 0) (n' := 0) dX9_level_15 (s_X8_at ge5.1) (jgV lw_139 lw_140 lw_141 lw_12 lw_138) rfl hv_X8_at rfl (r_X8_at ge5.1) rfl (by decide) (by decide) (Nat.le_of_ble_eq_true rfl) (by decide) (by decide) (by decide) (by decide) (Or.inl ge5.2) ?_
      refine j_istore_4 (pc := 18) dX9_level_18 (by decide) rfl ?_
      refine j_iload_n (pc := 20) dX9_level_20 rfl ?_
      refine j_iload_n (pc := 21) dX9_level_21 rfl ?_
      refine j_icmp_eq (pc := 22) (tgt := 48) dX9_level_22 (by decide) (fun c7 => ?_) (fun c7 => ?_)
      · rw [if_pos c7] at h
        refine j_mask [true, true, true, true, false] ?_
        exact jm_X9_level_b48 (hk4 := ih) _ _ _ _ w4 h
      · rw [if_neg c7] at h
        refine j_iload (pc := 25) dX9_level_25 rfl ?_
        refine j_iconst (pc := 27) dX9_level_27 (v := (-1)) (by decide) ?_
        refine j_icmp_eq (pc := 28) (tgt := 48) dX9_level_28 (by decide) (fun c8 => ?_) (fun c8 => ?_)
        · rw [if_pos c8] at h
          refine j_mask [true, true, true, true, false] ?_
          exact jm_X9_level_b48 (hk4 := ih) _ _ _ _ w4 h
        · rw [if_neg c8] at h
          refine j_iload_n (pc := 31) dX9_level_31 rfl ?_
          refine j_aload_n (pc := 32) dX9_level_32 rfl ?_
          obtain ⟨x9, e10, h⟩ := obS h
          refine j_getR (pc := 33) dX9_level_33 (ci := 9) (kf := 0) rfl (jwi hw_X9) (by decide) (jwm lw_42) e10 ?_
          obtain ⟨x11, e12, h⟩ := obS h
          refine j_getR (pc := 36) dX9_level_36 (ci := 5) (kf := 3) rfl (jwi hw_X5) (by decide) (jwm lw_387) e12 ?_
          refine j_iload (pc := 39) dX9_level_39 rfl ?_
          obtain ⟨x15, w13, e14, h⟩ := obS2 h
          have ge14 := calSR_of e14
          refine j_callV_g (pc := 41) (As := [.int x6]) (k' := 0) (n' := 0) dX9_level_41 (s_X8_at ge14.1) (jgV lw_139 lw_140 lw_141 lw_12 lw_138) rfl hv_X8_at rfl (r_X8_at ge14.1) rfl (by decide) (by decide) (Nat.le_of_ble_eq_true rfl) (by decide) (by decide) (by decide) (by decide) (Or.inl ge14.2) ?_
          refine j_mmax (pc := 44) dX9_level_44 (jwm lw_388) (jwm lw_208) (jwm lw_177) (jwm lw_209) (Nat.le_of_ble_eq_true rfl) (Nat.le_of_ble_eq_true rfl) (by decide) (by decide) ?_
          refine j_istore_n_2 (pc := 47) dX9_level_47 (by decide) rfl ?_
          refine j_mask [true, true, true, true, false] ?_
          exact jm_X9_level_b48 (hk4 := ih) _ _ _ _ w13 h
def m_X9_level (a0 : Nat) (i1 : Int32) (ws : LWd) : Option (Int32 × LWd) :=
  (rcv ws a0 9).bind fun _ =>
  m_X9_level_l4 FU a0 i1 0 0 ws
set_option maxRecDepth 100000 in
set_option maxHeartbeats 4000000 in
theorem s_X9_level {a0 : Nat} {i1 : Int32} {ws : LWd} {rr : Int32} {ws' : LWd} (h : m_X9_level a0 i1 ws = some (rr, ws')) : jSp yX9_level wsX9_level 1 0 0 [.ref a0, .int i1] ws (.inl (some (.int rr)), ws') := by
  unfold m_X9_level at h
  refine j_entry (ret := (some .int)) (nm := "level") (own := RX9) pl_X9 rfl rfl rfl (jcats (by rfl)) (Nat.le_of_ble_eq_true rfl) ?_
  show JG (.inl false) cX9_level 5 RX9 wsX9_level (some .int) "level" 1 0 0 ws.length (.inl (some (.int rr)), ws') 0 [some (.ref a0), some (.int i1), none, none, none] [] ws 0 0
  obtain ⟨_, _, h⟩ := obS h
  refine j_iconst (pc := 0) dX9_level_0 (v := 0) (by decide) ?_
  refine j_istore_n_2 (pc := 1) dX9_level_1 (by decide) rfl ?_
  refine j_iconst (pc := 2) dX9_level_2 (v := 0) (by decide) ?_
  refine j_istore_n_3 (pc := 3) dX9_level_3 (by decide) rfl ?_
  exact jm_X9_level_l4 FU _ _ _ _ ws h
theorem r_X9_level {a0 : Nat} {i1 : Int32} {ws : LWd} {o : (Int32 × LWd)} (h : m_X9_level a0 i1 ws = some o) : ∃ fs, ws[a0]? = some (.inr (9, fs)) := rcv_in h
def wsX10_placeFoot : List Cond := Cond.code yX10_placeFoot cX10_placeFoot 5 (some .boolean) :: jW
def m_X10_placeFoot (a0 : Nat) (i1 : Int32) (i2 : Int32) (ws : LWd) : Option (Int32 × LWd) :=
  (rcv ws a0 10).bind fun _ =>
  (fR ws a0 10 2).bind fun x1 =>
  bn2 (calSR ws (m_X9_far x1 i1 i2 ws)) fun x5 w3 =>
  (fR w3 a0 10 0).bind fun x6 =>
  (fR w3 x6 5 3).bind fun x8 =>
  bn2 (calSR w3 (m_X8_at x8 i2 w3)) fun x12 w10 =>
  (fR w10 a0 10 2).bind fun x13 =>
  bn2 (calSR w10 (m_X9_level x13 ((-1)) w10)) fun x17 w15 =>
  (fI w15 a0 10 9).bind fun x18 =>
  if x18 = 0 then
    some (0, w15)
  else
    (fI w15 a0 10 10).bind fun x21 =>
    if x21 < (1 + x5) then
      some (0, w15)
    else
      (fR w15 a0 10 2).bind fun x24 =>
      (fR w15 x24 9 3).bind fun x26 =>
      bn2 (calSR w15 (m_X8_at x26 i1 w15)) fun x30 w28 =>
      if x30 = ((-1)) then
        if 2 < (jabs (x12 - x17)) then
          some (0, w28)
        else
          (fR w28 a0 10 2).bind fun x33 =>
          bn2 (calSR w28 (m_X9_isInReach x33 i1 i2 w28)) fun x37 w35 =>
          if x37 = 0 then
            some (0, w35)
          else
            (fR w35 a0 10 2).bind fun x39 =>
            bn2 (calSR w35 (m_X9_isTaken x39 i2 ((-1)) w35)) fun x43 w41 =>
            if x43 = 0 then
              (fI w41 a0 10 10).bind fun x45 =>
              (pV w41 a0 10 10 (.int (x45 - (1 + x5)))).bind fun w47 =>
              (fR w47 a0 10 5).bind fun x49 =>
              (calSV w47 (m_X0_beginAct x49 w47)).bind fun w51 =>
              (calSV w51 (m_X10_setFoot a0 i1 i2 w51)).bind fun w53 =>
              some (1, w53)
            else
              some (0, w41)
      else
        some (0, w28)
set_option maxRecDepth 100000 in
set_option maxHeartbeats 4000000 in
theorem s_X10_placeFoot {a0 : Nat} {i1 : Int32} {i2 : Int32} {ws : LWd} {rr : Int32} {ws' : LWd} (h : m_X10_placeFoot a0 i1 i2 ws = some (rr, ws')) : jSp yX10_placeFoot wsX10_placeFoot 4 0 0 [.ref a0, .int i1, .int i2] ws (.inl (some (.int rr)), ws') := by
  unfold m_X10_placeFoot at h
  refine j_entry (ret := (some .boolean)) (nm := "placeFoot") (own := RX10) pl_X10 rfl rfl rfl (jcats (by rfl)) (Nat.le_of_ble_eq_true rfl) ?_
  show JG (.inl false) cX10_placeFoot 5 RX10 wsX10_placeFoot (some .boolean) "placeFoot" 4 0 0 ws.length (.inl (some (.int rr)), ws') 0 [some (.ref a0), some (.int i1), some (.int i2), none, none] [] ws 0 0
  obtain ⟨_, _, h⟩ := obS h
  refine j_iconst (pc := 0) dX10_placeFoot_0 (v := 1) (by decide) ?_
  refine j_aload_n (pc := 1) dX10_placeFoot_1 rfl ?_
  obtain ⟨x1, e2, h⟩ := obS h
  refine j_getR (pc := 2) dX10_placeFoot_2 (ci := 10) (kf := 2) rfl (jwi hw_X10) (by decide) (jwm lw_103) e2 ?_
  refine j_iload_n (pc := 5) dX10_placeFoot_5 rfl ?_
  refine j_iload_n (pc := 6) dX10_placeFoot_6 rfl ?_
  obtain ⟨x5, w3, e4, h⟩ := obS2 h
  have ge4 := calSR_of e4
  refine j_callV_g (pc := 7) (As := [.int i1, .int i2]) (k' := 0) (n' := 0) dX10_placeFoot_7 (s_X9_far ge4.1) (jgV lw_390 lw_391 lw_392 lw_76 lw_389) rfl hv_X9_far rfl (r_X9_far ge4.1) rfl (by decide) (by decide) (Nat.le_of_ble_eq_true rfl) (by decide) (by decide) (by decide) (by decide) (Or.inl ge4.2) ?_
  refine j_iadd (pc := 10) dX10_placeFoot_10 ?_
  refine j_istore_n_3 (pc := 11) dX10_placeFoot_11 (by decide) rfl ?_
  refine j_aload_n (pc := 12) dX10_placeFoot_12 rfl ?_
  obtain ⟨x6, e7, h⟩ := obS h
  refine j_getR (pc := 13) dX10_placeFoot_13 (ci := 10) (kf := 0) rfl (jwi hw_X10) (by decide) (jwm lw_94) e7 ?_
  obtain ⟨x8, e9, h⟩ := obS h
  refine j_getR (pc := 16) dX10_placeFoot_16 (ci := 5) (kf := 3) rfl (jwi hw_X5) (by decide) (jwm lw_165) e9 ?_
  refine j_iload_n (pc := 19) dX10_placeFoot_19 rfl ?_
  obtain ⟨x12, w10, e11, h⟩ := obS2 h
  have ge11 := calSR_of e11
  refine j_callV_g (pc := 20) (As := [.int i2]) (k' := 0) (n' := 0) dX10_placeFoot_20 (s_X8_at ge11.1) (jgV lw_156 lw_140 lw_141 lw_12 lw_138) rfl hv_X8_at rfl (r_X8_at ge11.1) rfl (by decide) (by decide) (Nat.le_of_ble_eq_true rfl) (by decide) (by decide) (by decide) (by decide) (Or.inl ge11.2) ?_
  refine j_aload_n (pc := 23) dX10_placeFoot_23 rfl ?_
  obtain ⟨x13, e14, h⟩ := obS h
  refine j_getR (pc := 24) dX10_placeFoot_24 (ci := 10) (kf := 2) rfl (jwi hw_X10) (by decide) (jwm lw_103) e14 ?_
  refine j_iconst (pc := 27) dX10_placeFoot_27 (v := (-1)) (by decide) ?_
  obtain ⟨x17, w15, e16, h⟩ := obS2 h
  have ge16 := calSR_of e16
  refine j_callV_g (pc := 28) (As := [.int ((-1))]) (k' := 0) (n' := 0) dX10_placeFoot_28 (s_X9_level ge16.1) (jgV lw_394 lw_395 lw_396 lw_76 lw_393) rfl hv_X9_level rfl (r_X9_level ge16.1) rfl (by decide) (by decide) (Nat.le_of_ble_eq_true rfl) (by decide) (by decide) (by decide) (by decide) (Or.inl ge16.2) ?_
  refine j_isub (pc := 31) dX10_placeFoot_31 ?_
  refine j_mabs (pc := 32) dX10_placeFoot_32 (jwm lw_358) (jwm lw_359) (jwm lw_177) (jwm lw_360) (Nat.le_of_ble_eq_true rfl) (Nat.le_of_ble_eq_true rfl) (by decide) (by decide) ?_
  refine j_istore_4 (pc := 35) dX10_placeFoot_35 (by decide) rfl ?_
  refine j_aload_n (pc := 37) dX10_placeFoot_37 rfl ?_
  obtain ⟨x18, e19, h⟩ := obS h
  refine j_getI (pc := 38) dX10_placeFoot_38 (ci := 10) (kf := 9) rfl (jwi hw_X10) (by decide) (jwm lw_136) e19 ?_
  refine j_if_eq (pc := 41) (tgt := 97) dX10_placeFoot_41 (by decide) (fun c20 => ?_) (fun c20 => ?_)
  · rw [if_pos c20] at h
    refine j_iconst (pc := 97) dX10_placeFoot_97 (v := 0) (by decide) ?_
    obtain ⟨rfl, rfl⟩ := jretS h
    exact j_zretL (pc := 98) (by decide) rfl dX10_placeFoot_98 (by decide) (by decide) rfl
  · rw [if_neg c20] at h
    refine j_aload_n (pc := 44) dX10_placeFoot_44 rfl ?_
    obtain ⟨x21, e22, h⟩ := obS h
    refine j_getI (pc := 45) dX10_placeFoot_45 (ci := 10) (kf := 10) rfl (jwi hw_X10) (by decide) (jwm lw_137) e22 ?_
    refine j_iload_n (pc := 48) dX10_placeFoot_48 rfl ?_
    refine j_icmp_lt (pc := 49) (tgt := 97) dX10_placeFoot_49 (by decide) (fun c23 => ?_) (fun c23 => ?_)
    · rw [if_pos c23] at h
      refine j_iconst (pc := 97) dX10_placeFoot_97 (v := 0) (by decide) ?_
      obtain ⟨rfl, rfl⟩ := jretS h
      exact j_zretL (pc := 98) (by decide) rfl dX10_placeFoot_98 (by decide) (by decide) rfl
    · rw [if_neg c23] at h
      refine j_aload_n (pc := 52) dX10_placeFoot_52 rfl ?_
      obtain ⟨x24, e25, h⟩ := obS h
      refine j_getR (pc := 53) dX10_placeFoot_53 (ci := 10) (kf := 2) rfl (jwi hw_X10) (by decide) (jwm lw_103) e25 ?_
      obtain ⟨x26, e27, h⟩ := obS h
      refine j_getR (pc := 56) dX10_placeFoot_56 (ci := 9) (kf := 3) rfl (jwi hw_X9) (by decide) (jwm lw_265) e27 ?_
      refine j_iload_n (pc := 59) dX10_placeFoot_59 rfl ?_
      obtain ⟨x30, w28, e29, h⟩ := obS2 h
      have ge29 := calSR_of e29
      refine j_callV_g (pc := 60) (As := [.int i1]) (k' := 0) (n' := 0) dX10_placeFoot_60 (s_X8_at ge29.1) (jgV lw_156 lw_140 lw_141 lw_12 lw_138) rfl hv_X8_at rfl (r_X8_at ge29.1) rfl (by decide) (by decide) (Nat.le_of_ble_eq_true rfl) (by decide) (by decide) (by decide) (by decide) (Or.inl ge29.2) ?_
      refine j_iconst (pc := 63) dX10_placeFoot_63 (v := (-1)) (by decide) ?_
      refine j_icmp_ne (pc := 64) (tgt := 97) dX10_placeFoot_64 (by decide) (fun c31 => ?_) (fun c31 => ?_)
      · rw [if_neg c31] at h
        refine j_iconst (pc := 97) dX10_placeFoot_97 (v := 0) (by decide) ?_
        obtain ⟨rfl, rfl⟩ := jretS h
        exact j_zretL (pc := 98) (by decide) rfl dX10_placeFoot_98 (by decide) (by decide) rfl
      · rw [if_pos c31] at h
        refine j_iload (pc := 67) dX10_placeFoot_67 rfl ?_
        refine j_iconst (pc := 69) dX10_placeFoot_69 (v := 2) (by decide) ?_
        refine j_icmp_gt (pc := 70) (tgt := 97) dX10_placeFoot_70 (by decide) (fun c32 => ?_) (fun c32 => ?_)
        · rw [if_pos c32] at h
          refine j_iconst (pc := 97) dX10_placeFoot_97 (v := 0) (by decide) ?_
          obtain ⟨rfl, rfl⟩ := jretS h
          exact j_zretL (pc := 98) (by decide) rfl dX10_placeFoot_98 (by decide) (by decide) rfl
        · rw [if_neg c32] at h
          refine j_aload_n (pc := 73) dX10_placeFoot_73 rfl ?_
          obtain ⟨x33, e34, h⟩ := obS h
          refine j_getR (pc := 74) dX10_placeFoot_74 (ci := 10) (kf := 2) rfl (jwi hw_X10) (by decide) (jwm lw_103) e34 ?_
          refine j_iload_n (pc := 77) dX10_placeFoot_77 rfl ?_
          refine j_iload_n (pc := 78) dX10_placeFoot_78 rfl ?_
          obtain ⟨x37, w35, e36, h⟩ := obS2 h
          have ge36 := calSR_of e36
          refine j_callV_g (pc := 79) (As := [.int i1, .int i2]) (k' := 0) (n' := 0) dX10_placeFoot_79 (s_X9_isInReach ge36.1) (jgV lw_355 lw_356 lw_357 lw_76 lw_354) rfl hv_X9_isInReach rfl (r_X9_isInReach ge36.1) rfl (by decide) (by decide) (Nat.le_of_ble_eq_true rfl) (by decide) (by decide) (by decide) (by decide) (Or.inl ge36.2) ?_
          refine j_if_eq (pc := 82) (tgt := 97) dX10_placeFoot_82 (by decide) (fun c38 => ?_) (fun c38 => ?_)
          · rw [if_pos c38] at h
            refine j_iconst (pc := 97) dX10_placeFoot_97 (v := 0) (by decide) ?_
            obtain ⟨rfl, rfl⟩ := jretS h
            exact j_zretL (pc := 98) (by decide) rfl dX10_placeFoot_98 (by decide) (by decide) rfl
          · rw [if_neg c38] at h
            refine j_aload_n (pc := 85) dX10_placeFoot_85 rfl ?_
            obtain ⟨x39, e40, h⟩ := obS h
            refine j_getR (pc := 86) dX10_placeFoot_86 (ci := 10) (kf := 2) rfl (jwi hw_X10) (by decide) (jwm lw_103) e40 ?_
            refine j_iload_n (pc := 89) dX10_placeFoot_89 rfl ?_
            refine j_iconst (pc := 90) dX10_placeFoot_90 (v := (-1)) (by decide) ?_
            obtain ⟨x43, w41, e42, h⟩ := obS2 h
            have ge42 := calSR_of e42
            refine j_callV_g (pc := 91) (As := [.int i2, .int ((-1))]) (k' := 0) (n' := 0) dX10_placeFoot_91 (s_X9_isTaken ge42.1) (jgV lw_152 lw_153 lw_154 lw_76 lw_151) rfl hv_X9_isTaken rfl (r_X9_isTaken ge42.1) rfl (by decide) (by decide) (Nat.le_of_ble_eq_true rfl) (by decide) (by decide) (by decide) (by decide) (Or.inl ge42.2) ?_
            refine j_if_eq (pc := 94) (tgt := 99) dX10_placeFoot_94 (by decide) (fun c44 => ?_) (fun c44 => ?_)
            · rw [if_pos c44] at h
              refine j_aload_n (pc := 99) dX10_placeFoot_99 rfl ?_
              refine j_dup (pc := 100) dX10_placeFoot_100 rfl ?_
              obtain ⟨x45, e46, h⟩ := obS h
              refine j_getI (pc := 101) dX10_placeFoot_101 (ci := 10) (kf := 10) rfl (jwi hw_X10) (by decide) (jwm lw_137) e46 ?_
              refine j_iload_n (pc := 104) dX10_placeFoot_104 rfl ?_
              refine j_isub (pc := 105) dX10_placeFoot_105 ?_
              obtain ⟨w47, e48, h⟩ := obS h
              refine j_putV (pc := 106) (ci := 10) (kf := 10) tyX10 tyX10_ok nmX10 dX10_placeFoot_106 rfl (jwi hw_X10) (by decide) (jwm lw_137) rfl (fun _ => rfl) (fun _ => rfl) e48 ?_
              refine j_aload_n (pc := 109) dX10_placeFoot_109 rfl ?_
              obtain ⟨x49, e50, h⟩ := obS h
              refine j_getR (pc := 110) dX10_placeFoot_110 (ci := 10) (kf := 5) rfl (jwi hw_X10) (by decide) (jwm lw_116) e50 ?_
              obtain ⟨w51, e52, h⟩ := obS h
              have ge52 := calSV_of e52
              refine j_callV_g (pc := 113) (As := []) (k' := 0) (n' := 0) dX10_placeFoot_113 (s_X0_beginAct ge52.1) (jgV lw_233 lw_234 lw_235 lw_113 lw_232) rfl hv_X0_beginAct rfl (r_X0_beginAct ge52.1) rfl (by decide) (by decide) (Nat.le_of_ble_eq_true rfl) (by decide) (by decide) (by decide) (by decide) (Or.inl ge52.2) ?_
              refine j_aload_n (pc := 116) dX10_placeFoot_116 rfl ?_
              refine j_iload_n (pc := 117) dX10_placeFoot_117 rfl ?_
              refine j_iload_n (pc := 118) dX10_placeFoot_118 rfl ?_
              obtain ⟨w53, e54, h⟩ := obS h
              have ge54 := calSV_of e54
              refine j_callV_g (pc := 119) (As := [.int i1, .int i2]) (k' := 0) (n' := 0) dX10_placeFoot_119 (s_X10_setFoot ge54.1) (jgV lw_362 lw_363 lw_364 lw_147 lw_361) rfl hv_X10_setFoot rfl (r_X10_setFoot ge54.1) rfl (by decide) (by decide) (Nat.le_of_ble_eq_true rfl) (by decide) (by decide) (by decide) (by decide) (Or.inl ge54.2) ?_
              refine j_iconst (pc := 122) dX10_placeFoot_122 (v := 1) (by decide) ?_
              obtain ⟨rfl, rfl⟩ := jretS h
              exact j_zretL (pc := 123) (by decide) rfl dX10_placeFoot_123 (by decide) (by decide) rfl
            · rw [if_neg c44] at h
              refine j_iconst (pc := 97) dX10_placeFoot_97 (v := 0) (by decide) ?_
              obtain ⟨rfl, rfl⟩ := jretS h
              exact j_zretL (pc := 98) (by decide) rfl dX10_placeFoot_98 (by decide) (by decide) rfl
theorem r_X10_placeFoot {a0 : Nat} {i1 : Int32} {i2 : Int32} {ws : LWd} {o : (Int32 × LWd)} (h : m_X10_placeFoot a0 i1 i2 ws = some o) : ∃ fs, ws[a0]? = some (.inr (10, fs)) := rcv_in h
def wsX10_place : List Cond := Cond.code yX10_place cX10_place 5 (some .int) :: jW
def m_X10_place (a0 : Nat) (i1 : Int32) (i2 : Int32) (i3 : Int32) (ws : LWd) : Option ((Int32 ⊕ String) × LWd) :=
  (rcv ws a0 10).bind fun _ =>
  bn2 (calSR ws (m_X10_isLeg a0 i1 ws)) fun x3 w1 =>
  if x3 = 0 then
    some (.inr "java/lang/IndexOutOfBoundsException", w1)
  else
    bn2 (calSR w1 (m_X10_pointAt i2 i3 w1)) fun x7 w5 =>
    if x7 = ((-1)) then
      some (.inr "java/lang/IllegalArgumentException", w5)
    else
      bn2 (calSR w5 (m_X10_placeFoot a0 i1 x7 w5)) fun x11 w9 =>
      if x11 = 0 then
        some (.inr "java/lang/IllegalStateException", w9)
      else
        bn2 (calSR w9 (m_X10_settled a0 w9)) fun x15 w13 =>
        some (.inl x15, w13)
set_option maxRecDepth 100000 in
set_option maxHeartbeats 4000000 in
theorem s_X10_place {a0 : Nat} {i1 : Int32} {i2 : Int32} {i3 : Int32} {ws : LWd} {rr : Int32 ⊕ String} {ws' : LWd} (h : m_X10_place a0 i1 i2 i3 ws = some (rr, ws')) : jSX yX10_place wsX10_place 6 1 6 [.ref a0, .int i1, .int i2, .int i3] ws (jthr rr, ws') := by
  unfold m_X10_place at h
  refine j_entryX (ret := (some .int)) (nm := "place") (own := RX10) pl_X10 rfl rfl rfl (jcats (by rfl)) (Nat.le_of_ble_eq_true rfl) ?_
  show JG (.inl true) cX10_place 5 RX10 wsX10_place (some .int) "place" 6 1 6 ws.length (jthr rr, ws') 0 [some (.ref a0), some (.int i1), some (.int i2), some (.int i3), none] [] ws 0 0
  obtain ⟨_, _, h⟩ := obS h
  refine j_aload_n (pc := 0) dX10_place_0 rfl ?_
  refine j_iload_n (pc := 1) dX10_place_1 rfl ?_
  obtain ⟨x3, w1, e2, h⟩ := obS2 h
  have ge2 := calSR_of e2
  have le2 := ge2.2
  refine j_callV_g (pc := 2) (As := [.int i1]) (k' := 0) (n' := 0) dX10_place_2 (s_X10_isLeg ge2.1) (jgV lw_181 lw_182 lw_183 lw_147 lw_180) rfl hv_X10_isLeg rfl (r_X10_isLeg ge2.1) rfl (by decide) (by decide) (Nat.le_of_ble_eq_true rfl) (by decide) (by decide) (by decide) (by decide) (Or.inl ge2.2) ?_
  refine j_if_ne (pc := 5) (tgt := 18) dX10_place_5 (by decide) (fun c4 => ?_) (fun c4 => ?_)
  · rw [if_neg c4] at h
    refine j_iload_n (pc := 18) dX10_place_18 rfl ?_
    refine j_iload_n (pc := 19) dX10_place_19 rfl ?_
    obtain ⟨x7, w5, e6, h⟩ := obS2 h
    have ge6 := calSR_of e6
    have le6 := ge6.2
    refine j_callS_g (pc := 20) (As := [.int i2, .int i3]) (k' := 0) (n' := 0) dX10_place_20 (s_X10_pointAt ge6.1) (jgS lw_145 lw_146 lw_147 lw_144) rfl hy_X10_pointAt rfl (by decide) (by decide) (Nat.le_of_ble_eq_true rfl) (by decide) (by decide) (by decide) (by decide) (Or.inl ge6.2) ?_
    refine j_istore_4 (pc := 23) dX10_place_23 (by decide) rfl ?_
    refine j_iload (pc := 25) dX10_place_25 rfl ?_
    refine j_iconst (pc := 27) dX10_place_27 (v := (-1)) (by decide) ?_
    refine j_icmp_ne (pc := 28) (tgt := 41) dX10_place_28 (by decide) (fun c8 => ?_) (fun c8 => ?_)
    · rw [if_neg c8] at h
      refine j_aload_n (pc := 41) dX10_place_41 rfl ?_
      refine j_iload_n (pc := 42) dX10_place_42 rfl ?_
      refine j_iload (pc := 43) dX10_place_43 rfl ?_
      obtain ⟨x11, w9, e10, h⟩ := obS2 h
      have ge10 := calSR_of e10
      have le10 := ge10.2
      refine j_callV_g (pc := 45) (As := [.int i1, .int x7]) (k' := 0) (n' := 0) dX10_place_45 (s_X10_placeFoot ge10.1) (jgV lw_398 lw_399 lw_400 lw_147 lw_397) rfl hv_X10_placeFoot rfl (r_X10_placeFoot ge10.1) rfl (by decide) (by decide) (Nat.le_of_ble_eq_true rfl) (by decide) (by decide) (by decide) (by decide) (Or.inl ge10.2) ?_
      refine j_if_ne (pc := 48) (tgt := 61) dX10_place_48 (by decide) (fun c12 => ?_) (fun c12 => ?_)
      · rw [if_neg c12] at h
        refine j_aload_n (pc := 61) dX10_place_61 rfl ?_
        obtain ⟨x15, w13, e14, h⟩ := obS2 h
        have ge14 := calSR_of e14
        have le14 := ge14.2
        refine j_callV_g (pc := 62) (As := []) (k' := 0) (n' := 0) dX10_place_62 (s_X10_settled ge14.1) (jgV lw_320 lw_321 lw_322 lw_147 lw_319) rfl hv_X10_settled rfl (r_X10_settled ge14.1) rfl (by decide) (by decide) (Nat.le_of_ble_eq_true rfl) (by decide) (by decide) (by decide) (by decide) (Or.inl ge14.2) ?_
        obtain ⟨rfl, rfl⟩ := jretS h
        exact j_iret (pc := 65) rfl dX10_place_65 (by decide) (by decide) rfl
      · rw [if_pos c12] at h
        obtain ⟨rfl, rfl⟩ := jretS h
        exact j_throw (pc := 51) (text := "refused") rfl rfl dX10_place_51 dX10_place_54 dX10_place_55 dX10_place_57 dX10_place_60 (List.mem_of_getElem? (i := 10) rfl) (List.mem_of_getElem? (i := 1) rfl) (jfit _ (List.mem_of_getElem? (i := 1) rfl)) (jwm lw_163) (jwm lw_164) (jwi hwx_104) jgo_104 (by decide) (Nat.le_of_ble_eq_true rfl) (by decide) (by decide) (by omega) rfl
    · rw [if_pos c8] at h
      obtain ⟨rfl, rfl⟩ := jretS h
      exact j_throw (pc := 31) (text := "no such point") rfl rfl dX10_place_31 dX10_place_34 dX10_place_35 dX10_place_37 dX10_place_40 (List.mem_of_getElem? (i := 11) rfl) (List.mem_of_getElem? (i := 0) rfl) (jfit _ (List.mem_of_getElem? (i := 0) rfl)) (jwm lw_142) (jwm lw_143) (jwi hwx_93) jgo_93 (by decide) (Nat.le_of_ble_eq_true rfl) (by decide) (by decide) (by omega) rfl
  · rw [if_pos c4] at h
    obtain ⟨rfl, rfl⟩ := jretS h
    exact j_throw (pc := 8) (text := "no such leg") rfl rfl dX10_place_8 dX10_place_11 dX10_place_12 dX10_place_14 dX10_place_17 (List.mem_of_getElem? (i := 6) rfl) (List.mem_of_getElem? (i := 2) rfl) (jfit _ (List.mem_of_getElem? (i := 2) rfl)) (jwm lw_189) (jwm lw_190) (jwi hwx_159) jgo_159 (by decide) (Nat.le_of_ble_eq_true rfl) (by decide) (by decide) (by omega) rfl
theorem r_X10_place {a0 : Nat} {i1 : Int32} {i2 : Int32} {i3 : Int32} {ws : LWd} {o : ((Int32 ⊕ String) × LWd)} (h : m_X10_place a0 i1 i2 i3 ws = some o) : ∃ fs, ws[a0]? = some (.inr (10, fs)) := rcv_in h
def wsX9_moveBody : List Cond := Cond.code yX9_moveBody cX9_moveBody 5 (some .boolean) :: jW
def m_X9_moveBody_b73 (k39 : Nat → Int32 → LWd → Option (Int32 × LWd)) (a0 : Nat) (i3 : Int32) (ws : LWd) : Option (Int32 × LWd) :=
  k39 a0 (i3 + 1) ws
set_option maxRecDepth 100000 in
set_option maxHeartbeats 4000000 in
theorem jm_X9_moveBody_b73 {n0 : Nat} {rr : Int32} {ws' : LWd} {k39 : Nat → Int32 → LWd → Option (Int32 × LWd)} (hk39 : ∀ (a0 : Nat) (i3 : Int32) (ws : LWd), k39 a0 i3 ws = some (rr, ws') → JG (.inl false) cX9_moveBody 5 RX9 wsX9_moveBody (some .boolean) "moveBody" 3 0 0 n0 (.inl (some (.int rr)), ws') 39 [some (.ref a0), none, none, some (.int i3), none] [] ws 0 0) (a0 : Nat) (i3 : Int32) (ws : LWd) (h : m_X9_moveBody_b73 k39 a0 i3 ws = some (rr, ws')) : JG (.inl false) cX9_moveBody 5 RX9 wsX9_moveBody (some .boolean) "moveBody" 3 0 0 n0 (.inl (some (.int rr)), ws') 73 [some (.ref a0), none, none, some (.int i3), none] [] ws 0 0 := by
  unfold m_X9_moveBody_b73 at h
  refine j_iinc_3 (pc := 73) dX9_moveBody_73 (y := i3 + 1) rfl (by decide) rfl ?_
  refine j_goto (pc := 76) (tgt := 39) dX9_moveBody_76 (by decide) ?_
  exact hk39 _ _ ws h
def m_X9_moveBody_l39 : Nat → Nat → Int32 → LWd → Option (Int32 × LWd)
  | 0, _, _, _ => none
  | fu + 1, a0, i3, ws =>
    if 6 ≤ i3 then
      bn2 (calSR ws (m_X9_holdsWithout a0 ((-1)) ws)) fun x4 w2 =>
      retZ x4 w2
    else
      (fR ws a0 9 3).bind fun x5 =>
      bn2 (calSR ws (m_X8_at x5 i3 ws)) fun x9 w7 =>
      if x9 = ((-1)) then
        m_X9_moveBody_b73 (fun z0 z1 w => m_X9_moveBody_l39 fu z0 z1 w) a0 i3 w7
      else
        bn2 (calSR w7 (m_X9_isInReach a0 i3 x9 w7)) fun x13 w11 =>
        if x13 = 0 then
          some (0, w11)
        else
          m_X9_moveBody_b73 (fun z0 z1 w => m_X9_moveBody_l39 fu z0 z1 w) a0 i3 w11
set_option maxRecDepth 100000 in
set_option maxHeartbeats 4000000 in
theorem jm_X9_moveBody_l39 {n0 : Nat} {rr : Int32} {ws' : LWd} : ∀ (fu : Nat) (a0 : Nat) (i3 : Int32) (ws : LWd), m_X9_moveBody_l39 fu a0 i3 ws = some (rr, ws') → JG (.inl false) cX9_moveBody 5 RX9 wsX9_moveBody (some .boolean) "moveBody" 3 0 0 n0 (.inl (some (.int rr)), ws') 39 [some (.ref a0), none, none, some (.int i3), none] [] ws 0 0 := by
  intro fu
  induction fu with
  | zero => intro a0 i3 ws h; first | (cases h; done) | (rw [m_X9_moveBody_l39] at h; cases h)
  | succ fu ih =>
    intro a0 i3 ws h
    rw [m_X9_moveBody_l39] at h
    refine j_iload_n (pc := 39) dX9_moveBody_39 rfl ?_
    refine j_bipush (pc := 40) dX9_moveBody_40 (v := 6) (by decide) ?_
    refine j_icmp_ge (pc := 42) (tgt := 79) dX9_moveBody_42 (by decide) (fun c1 => ?_) (fun c1 => ?_)
    · rw [if_pos c1] at h
      refine j_aload_n (pc := 79) dX9_moveBody_79 rfl ?_
      refine j_iconst (pc := 80) dX9_moveBody_80 (v := (-1)) (by decide) ?_
      obtain ⟨x4, w2, e3, h⟩ := obS2 h
      have ge3 := calSR_of e3
      refine j_callV_g (pc := 81) (As := [.int ((-1))]) (k' := 0) (n' := 0) dX9_moveBody_81 (s_X9_holdsWithout ge3.1) (jgV lw_401 lw_245 lw_246 lw_76 lw_243) rfl hv_X9_holdsWithout rfl (r_X9_holdsWithout ge3.1) rfl (by decide) (by decide) (Nat.le_of_ble_eq_true rfl) (by decide) (by decide) (by decide) (by decide) (Or.inl ge3.2) ?_
      exact j_zret (pc := 84) rfl dX9_moveBody_84 (by decide) (by decide) h rfl rfl
    · rw [if_neg c1] at h
      refine j_aload_n (pc := 45) dX9_moveBody_45 rfl ?_
      obtain ⟨x5, e6, h⟩ := obS h
      refine j_getR (pc := 46) dX9_moveBody_46 (ci := 9) (kf := 3) rfl (jwi hw_X9) (by decide) (jwm lw_39) e6 ?_
      refine j_iload_n (pc := 49) dX9_moveBody_49 rfl ?_
      obtain ⟨x9, w7, e8, h⟩ := obS2 h
      have ge8 := calSR_of e8
      refine j_callV_g (pc := 50) (As := [.int i3]) (k' := 0) (n' := 0) dX9_moveBody_50 (s_X8_at ge8.1) (jgV lw_139 lw_140 lw_141 lw_12 lw_138) rfl hv_X8_at rfl (r_X8_at ge8.1) rfl (by decide) (by decide) (Nat.le_of_ble_eq_true rfl) (by decide) (by decide) (by decide) (by decide) (Or.inl ge8.2) ?_
      refine j_istore_4 (pc := 53) dX9_moveBody_53 (by decide) rfl ?_
      refine j_iload (pc := 55) dX9_moveBody_55 rfl ?_
      refine j_iconst (pc := 57) dX9_moveBody_57 (v := (-1)) (by decide) ?_
      refine j_icmp_eq (pc := 58) (tgt := 73) dX9_moveBody_58 (by decide) (fun c10 => ?_) (fun c10 => ?_)
      · rw [if_pos c10] at h
        refine j_mask [true, false, false, true, false] ?_
        exact jm_X9_moveBody_b73 (hk39 := ih) _ _ w7 h
      · rw [if_neg c10] at h
        refine j_aload_n (pc := 61) dX9_moveBody_61 rfl ?_
        refine j_iload_n (pc := 62) dX9_moveBody_62 rfl ?_
        refine j_iload (pc := 63) dX9_moveBody_63 rfl ?_
        obtain ⟨x13, w11, e12, h⟩ := obS2 h
        have ge12 := calSR_of e12
        refine j_callV_g (pc := 65) (As := [.int i3, .int x9]) (k' := 0) (n' := 0) dX9_moveBody_65 (s_X9_isInReach ge12.1) (jgV lw_402 lw_356 lw_357 lw_76 lw_354) rfl hv_X9_isInReach rfl (r_X9_isInReach ge12.1) rfl (by decide) (by decide) (Nat.le_of_ble_eq_true rfl) (by decide) (by decide) (by decide) (by decide) (Or.inl ge12.2) ?_
        refine j_if_ne (pc := 68) (tgt := 73) dX9_moveBody_68 (by decide) (fun c14 => ?_) (fun c14 => ?_)
        · rw [if_neg c14] at h
          refine j_mask [true, false, false, true, false] ?_
          exact jm_X9_moveBody_b73 (hk39 := ih) _ _ w11 h
        · rw [if_pos c14] at h
          refine j_iconst (pc := 71) dX9_moveBody_71 (v := 0) (by decide) ?_
          obtain ⟨rfl, rfl⟩ := jretS h
          exact j_zretL (pc := 72) (by decide) rfl dX9_moveBody_72 (by decide) (by decide) rfl
def m_X9_moveBody (a0 : Nat) (i1 : Int32) (i2 : Int32) (ws : LWd) : Option (Int32 × LWd) :=
  (rcv ws a0 9).bind fun _ =>
  (fI ws a0 9 4).bind fun x1 =>
  (pV ws a0 9 4 (.int (x1 + i1))).bind fun w3 =>
  (fI w3 a0 9 5).bind fun x5 =>
  (pV w3 a0 9 5 (.int (x5 + i2))).bind fun w7 =>
  (fI w7 a0 9 4).bind fun x9 =>
  (fI w7 a0 9 5).bind fun x11 =>
  bn2 (calSR w7 (m_X10_pointAt x9 x11 w7)) fun x15 w13 =>
  if x15 = ((-1)) then
    some (0, w13)
  else
    m_X9_moveBody_l39 FU a0 0 w13
set_option maxRecDepth 100000 in
set_option maxHeartbeats 4000000 in
theorem s_X9_moveBody {a0 : Nat} {i1 : Int32} {i2 : Int32} {ws : LWd} {rr : Int32} {ws' : LWd} (h : m_X9_moveBody a0 i1 i2 ws = some (rr, ws')) : jSp yX9_moveBody wsX9_moveBody 3 0 0 [.ref a0, .int i1, .int i2] ws (.inl (some (.int rr)), ws') := by
  unfold m_X9_moveBody at h
  refine j_entry (ret := (some .boolean)) (nm := "moveBody") (own := RX9) pl_X9 rfl rfl rfl (jcats (by rfl)) (Nat.le_of_ble_eq_true rfl) ?_
  show JG (.inl false) cX9_moveBody 5 RX9 wsX9_moveBody (some .boolean) "moveBody" 3 0 0 ws.length (.inl (some (.int rr)), ws') 0 [some (.ref a0), some (.int i1), some (.int i2), none, none] [] ws 0 0
  obtain ⟨_, _, h⟩ := obS h
  refine j_aload_n (pc := 0) dX9_moveBody_0 rfl ?_
  refine j_dup (pc := 1) dX9_moveBody_1 rfl ?_
  obtain ⟨x1, e2, h⟩ := obS h
  refine j_getI (pc := 2) dX9_moveBody_2 (ci := 9) (kf := 4) rfl (jwi hw_X9) (by decide) (jwm lw_40) e2 ?_
  refine j_iload_n (pc := 5) dX9_moveBody_5 rfl ?_
  refine j_iadd (pc := 6) dX9_moveBody_6 ?_
  obtain ⟨w3, e4, h⟩ := obS h
  refine j_putV (pc := 7) (ci := 9) (kf := 4) tyX9 tyX9_ok nmX9 dX9_moveBody_7 rfl (jwi hw_X9) (by decide) (jwm lw_40) rfl (fun _ => rfl) (fun _ => rfl) e4 ?_
  refine j_aload_n (pc := 10) dX9_moveBody_10 rfl ?_
  refine j_dup (pc := 11) dX9_moveBody_11 rfl ?_
  obtain ⟨x5, e6, h⟩ := obS h
  refine j_getI (pc := 12) dX9_moveBody_12 (ci := 9) (kf := 5) rfl (jwi hw_X9) (by decide) (jwm lw_41) e6 ?_
  refine j_iload_n (pc := 15) dX9_moveBody_15 rfl ?_
  refine j_iadd (pc := 16) dX9_moveBody_16 ?_
  obtain ⟨w7, e8, h⟩ := obS h
  refine j_putV (pc := 17) (ci := 9) (kf := 5) tyX9 tyX9_ok nmX9 dX9_moveBody_17 rfl (jwi hw_X9) (by decide) (jwm lw_41) rfl (fun _ => rfl) (fun _ => rfl) e8 ?_
  refine j_aload_n (pc := 20) dX9_moveBody_20 rfl ?_
  obtain ⟨x9, e10, h⟩ := obS h
  refine j_getI (pc := 21) dX9_moveBody_21 (ci := 9) (kf := 4) rfl (jwi hw_X9) (by decide) (jwm lw_40) e10 ?_
  refine j_aload_n (pc := 24) dX9_moveBody_24 rfl ?_
  obtain ⟨x11, e12, h⟩ := obS h
  refine j_getI (pc := 25) dX9_moveBody_25 (ci := 9) (kf := 5) rfl (jwi hw_X9) (by decide) (jwm lw_41) e12 ?_
  obtain ⟨x15, w13, e14, h⟩ := obS2 h
  have ge14 := calSR_of e14
  refine j_callSN_g (pc := 28) (As := [.int x9, .int x11]) (k' := 0) (n' := 0) dX9_moveBody_28 (s_X10_pointAt ge14.1) (jgP lw_144) nst_X9_138 (jwm lw_147) (jwm lw_146) rfl hy_X10_pointAt rfl (by decide) (by decide) (Nat.le_of_ble_eq_true rfl) (by decide) (by decide) (by decide) (by decide) (Or.inl ge14.2) ?_
  refine j_iconst (pc := 31) dX9_moveBody_31 (v := (-1)) (by decide) ?_
  refine j_icmp_ne (pc := 32) (tgt := 37) dX9_moveBody_32 (by decide) (fun c16 => ?_) (fun c16 => ?_)
  · rw [if_neg c16] at h
    refine j_iconst (pc := 37) dX9_moveBody_37 (v := 0) (by decide) ?_
    refine j_istore_n_3 (pc := 38) dX9_moveBody_38 (by decide) rfl ?_
    refine j_mask [true, false, false, true, false] ?_
    exact jm_X9_moveBody_l39 FU _ _ w13 h
  · rw [if_pos c16] at h
    refine j_iconst (pc := 35) dX9_moveBody_35 (v := 0) (by decide) ?_
    obtain ⟨rfl, rfl⟩ := jretS h
    exact j_zretL (pc := 36) (by decide) rfl dX9_moveBody_36 (by decide) (by decide) rfl
theorem r_X9_moveBody {a0 : Nat} {i1 : Int32} {i2 : Int32} {ws : LWd} {o : (Int32 × LWd)} (h : m_X9_moveBody a0 i1 i2 ws = some o) : ∃ fs, ws[a0]? = some (.inr (9, fs)) := rcv_in h
def wsX10_shiftBody : List Cond := Cond.code yX10_shiftBody cX10_shiftBody 4 (some .boolean) :: jW
def m_X10_shiftBody (a0 : Nat) (i1 : Int32) (i2 : Int32) (ws : LWd) : Option (Int32 × LWd) :=
  (rcv ws a0 10).bind fun _ =>
  (fR ws a0 10 1).bind fun x1 =>
  bn2 (calSR ws (m_X2_weight x1 ws)) fun x5 w3 =>
  bn2 (calSR w3 (m_X10_roundedUp x5 10 w3)) fun x8 w6 =>
  (fR w6 a0 10 3).bind fun x9 =>
  (fR w6 a0 10 2).bind fun x11 =>
  (calSV w6 (m_X9_copy x9 x11 w6)).bind fun w13 =>
  (fI w13 a0 10 9).bind fun x15 =>
  if x15 = 0 then
    some (0, w13)
  else
    (fI w13 a0 10 10).bind fun x18 =>
    if x18 < x8 then
      some (0, w13)
    else
      (fR w13 a0 10 3).bind fun x21 =>
      bn2 (calSR w13 (m_X9_moveBody x21 i1 i2 w13)) fun x25 w23 =>
      if x25 = 0 then
        some (0, w23)
      else
        (fI w23 a0 10 10).bind fun x27 =>
        (pV w23 a0 10 10 (.int (x27 - x8))).bind fun w29 =>
        (fR w29 a0 10 5).bind fun x31 =>
        (calSV w29 (m_X0_beginAct x31 w29)).bind fun w33 =>
        (fR w33 a0 10 2).bind fun x35 =>
        (fR w33 a0 10 3).bind fun x37 =>
        (calSV w33 (m_X9_copy x35 x37 w33)).bind fun w39 =>
        some (1, w39)
set_option maxRecDepth 100000 in
set_option maxHeartbeats 4000000 in
theorem s_X10_shiftBody {a0 : Nat} {i1 : Int32} {i2 : Int32} {ws : LWd} {rr : Int32} {ws' : LWd} (h : m_X10_shiftBody a0 i1 i2 ws = some (rr, ws')) : jSp yX10_shiftBody wsX10_shiftBody 4 0 0 [.ref a0, .int i1, .int i2] ws (.inl (some (.int rr)), ws') := by
  unfold m_X10_shiftBody at h
  refine j_entry (ret := (some .boolean)) (nm := "shiftBody") (own := RX10) pl_X10 rfl rfl rfl (jcats (by rfl)) (Nat.le_of_ble_eq_true rfl) ?_
  show JG (.inl false) cX10_shiftBody 4 RX10 wsX10_shiftBody (some .boolean) "shiftBody" 4 0 0 ws.length (.inl (some (.int rr)), ws') 0 [some (.ref a0), some (.int i1), some (.int i2), none] [] ws 0 0
  obtain ⟨_, _, h⟩ := obS h
  refine j_aload_n (pc := 0) dX10_shiftBody_0 rfl ?_
  obtain ⟨x1, e2, h⟩ := obS h
  refine j_getR (pc := 1) dX10_shiftBody_1 (ci := 10) (kf := 1) rfl (jwi hw_X10) (by decide) (jwm lw_100) e2 ?_
  obtain ⟨x5, w3, e4, h⟩ := obS2 h
  have ge4 := calSR_of e4
  refine j_callV_g (pc := 4) (As := []) (k' := 0) (n' := 0) dX10_shiftBody_4 (s_X2_weight ge4.1) (jgV lw_403 lw_226 lw_227 lw_97 lw_224) rfl hv_X2_weight rfl (r_X2_weight ge4.1) rfl (by decide) (by decide) (Nat.le_of_ble_eq_true rfl) (by decide) (by decide) (by decide) (by decide) (Or.inl ge4.2) ?_
  refine j_bipush (pc := 7) dX10_shiftBody_7 (v := 10) (by decide) ?_
  obtain ⟨x8, w6, e7, h⟩ := obS2 h
  have ge7 := calSR_of e7
  refine j_callS_g (pc := 9) (As := [.int x5, .int 10]) (k' := 0) (n' := 0) dX10_shiftBody_9 (s_X10_roundedUp ge7.1) (jgS lw_404 lw_252 lw_147 lw_251) rfl hy_X10_roundedUp rfl (by decide) (by decide) (Nat.le_of_ble_eq_true rfl) (by decide) (by decide) (by decide) (by decide) (Or.inl ge7.2) ?_
  refine j_istore_n_3 (pc := 12) dX10_shiftBody_12 (by decide) rfl ?_
  refine j_aload_n (pc := 13) dX10_shiftBody_13 rfl ?_
  obtain ⟨x9, e10, h⟩ := obS h
  refine j_getR (pc := 14) dX10_shiftBody_14 (ci := 10) (kf := 3) rfl (jwi hw_X10) (by decide) (jwm lw_104) e10 ?_
  refine j_aload_n (pc := 17) dX10_shiftBody_17 rfl ?_
  obtain ⟨x11, e12, h⟩ := obS h
  refine j_getR (pc := 18) dX10_shiftBody_18 (ci := 10) (kf := 2) rfl (jwi hw_X10) (by decide) (jwm lw_103) e12 ?_
  obtain ⟨w13, e14, h⟩ := obS h
  have ge14 := calSV_of e14
  refine j_callV_g (pc := 21) (As := [.ref x11]) (k' := 0) (n' := 0) dX10_shiftBody_21 (s_X9_copy ge14.1) (jgV lw_340 lw_341 lw_342 lw_76 lw_339) rfl hv_X9_copy rfl (r_X9_copy ge14.1) rfl (by decide) (by decide) (Nat.le_of_ble_eq_true rfl) (by decide) (by decide) (by decide) (by decide) (Or.inl ge14.2) ?_
  refine j_aload_n (pc := 24) dX10_shiftBody_24 rfl ?_
  obtain ⟨x15, e16, h⟩ := obS h
  refine j_getI (pc := 25) dX10_shiftBody_25 (ci := 10) (kf := 9) rfl (jwi hw_X10) (by decide) (jwm lw_136) e16 ?_
  refine j_if_eq (pc := 28) (tgt := 51) dX10_shiftBody_28 (by decide) (fun c17 => ?_) (fun c17 => ?_)
  · rw [if_pos c17] at h
    refine j_iconst (pc := 51) dX10_shiftBody_51 (v := 0) (by decide) ?_
    obtain ⟨rfl, rfl⟩ := jretS h
    exact j_zretL (pc := 52) (by decide) rfl dX10_shiftBody_52 (by decide) (by decide) rfl
  · rw [if_neg c17] at h
    refine j_aload_n (pc := 31) dX10_shiftBody_31 rfl ?_
    obtain ⟨x18, e19, h⟩ := obS h
    refine j_getI (pc := 32) dX10_shiftBody_32 (ci := 10) (kf := 10) rfl (jwi hw_X10) (by decide) (jwm lw_137) e19 ?_
    refine j_iload_n (pc := 35) dX10_shiftBody_35 rfl ?_
    refine j_icmp_lt (pc := 36) (tgt := 51) dX10_shiftBody_36 (by decide) (fun c20 => ?_) (fun c20 => ?_)
    · rw [if_pos c20] at h
      refine j_iconst (pc := 51) dX10_shiftBody_51 (v := 0) (by decide) ?_
      obtain ⟨rfl, rfl⟩ := jretS h
      exact j_zretL (pc := 52) (by decide) rfl dX10_shiftBody_52 (by decide) (by decide) rfl
    · rw [if_neg c20] at h
      refine j_aload_n (pc := 39) dX10_shiftBody_39 rfl ?_
      obtain ⟨x21, e22, h⟩ := obS h
      refine j_getR (pc := 40) dX10_shiftBody_40 (ci := 10) (kf := 3) rfl (jwi hw_X10) (by decide) (jwm lw_104) e22 ?_
      refine j_iload_n (pc := 43) dX10_shiftBody_43 rfl ?_
      refine j_iload_n (pc := 44) dX10_shiftBody_44 rfl ?_
      obtain ⟨x25, w23, e24, h⟩ := obS2 h
      have ge24 := calSR_of e24
      refine j_callV_g (pc := 45) (As := [.int i1, .int i2]) (k' := 0) (n' := 0) dX10_shiftBody_45 (s_X9_moveBody ge24.1) (jgV lw_406 lw_407 lw_408 lw_76 lw_405) rfl hv_X9_moveBody rfl (r_X9_moveBody ge24.1) rfl (by decide) (by decide) (Nat.le_of_ble_eq_true rfl) (by decide) (by decide) (by decide) (by decide) (Or.inl ge24.2) ?_
      refine j_if_ne (pc := 48) (tgt := 53) dX10_shiftBody_48 (by decide) (fun c26 => ?_) (fun c26 => ?_)
      · rw [if_neg c26] at h
        refine j_aload_n (pc := 53) dX10_shiftBody_53 rfl ?_
        refine j_dup (pc := 54) dX10_shiftBody_54 rfl ?_
        obtain ⟨x27, e28, h⟩ := obS h
        refine j_getI (pc := 55) dX10_shiftBody_55 (ci := 10) (kf := 10) rfl (jwi hw_X10) (by decide) (jwm lw_137) e28 ?_
        refine j_iload_n (pc := 58) dX10_shiftBody_58 rfl ?_
        refine j_isub (pc := 59) dX10_shiftBody_59 ?_
        obtain ⟨w29, e30, h⟩ := obS h
        refine j_putV (pc := 60) (ci := 10) (kf := 10) tyX10 tyX10_ok nmX10 dX10_shiftBody_60 rfl (jwi hw_X10) (by decide) (jwm lw_137) rfl (fun _ => rfl) (fun _ => rfl) e30 ?_
        refine j_aload_n (pc := 63) dX10_shiftBody_63 rfl ?_
        obtain ⟨x31, e32, h⟩ := obS h
        refine j_getR (pc := 64) dX10_shiftBody_64 (ci := 10) (kf := 5) rfl (jwi hw_X10) (by decide) (jwm lw_116) e32 ?_
        obtain ⟨w33, e34, h⟩ := obS h
        have ge34 := calSV_of e34
        refine j_callV_g (pc := 67) (As := []) (k' := 0) (n' := 0) dX10_shiftBody_67 (s_X0_beginAct ge34.1) (jgV lw_233 lw_234 lw_235 lw_113 lw_232) rfl hv_X0_beginAct rfl (r_X0_beginAct ge34.1) rfl (by decide) (by decide) (Nat.le_of_ble_eq_true rfl) (by decide) (by decide) (by decide) (by decide) (Or.inl ge34.2) ?_
        refine j_aload_n (pc := 70) dX10_shiftBody_70 rfl ?_
        obtain ⟨x35, e36, h⟩ := obS h
        refine j_getR (pc := 71) dX10_shiftBody_71 (ci := 10) (kf := 2) rfl (jwi hw_X10) (by decide) (jwm lw_103) e36 ?_
        refine j_aload_n (pc := 74) dX10_shiftBody_74 rfl ?_
        obtain ⟨x37, e38, h⟩ := obS h
        refine j_getR (pc := 75) dX10_shiftBody_75 (ci := 10) (kf := 3) rfl (jwi hw_X10) (by decide) (jwm lw_104) e38 ?_
        obtain ⟨w39, e40, h⟩ := obS h
        have ge40 := calSV_of e40
        refine j_callV_g (pc := 78) (As := [.ref x37]) (k' := 0) (n' := 0) dX10_shiftBody_78 (s_X9_copy ge40.1) (jgV lw_340 lw_341 lw_342 lw_76 lw_339) rfl hv_X9_copy rfl (r_X9_copy ge40.1) rfl (by decide) (by decide) (Nat.le_of_ble_eq_true rfl) (by decide) (by decide) (by decide) (by decide) (Or.inl ge40.2) ?_
        refine j_iconst (pc := 81) dX10_shiftBody_81 (v := 1) (by decide) ?_
        obtain ⟨rfl, rfl⟩ := jretS h
        exact j_zretL (pc := 82) (by decide) rfl dX10_shiftBody_82 (by decide) (by decide) rfl
      · rw [if_pos c26] at h
        refine j_iconst (pc := 51) dX10_shiftBody_51 (v := 0) (by decide) ?_
        obtain ⟨rfl, rfl⟩ := jretS h
        exact j_zretL (pc := 52) (by decide) rfl dX10_shiftBody_52 (by decide) (by decide) rfl
theorem r_X10_shiftBody {a0 : Nat} {i1 : Int32} {i2 : Int32} {ws : LWd} {o : (Int32 × LWd)} (h : m_X10_shiftBody a0 i1 i2 ws = some o) : ∃ fs, ws[a0]? = some (.inr (10, fs)) := rcv_in h
def wsX10_shift : List Cond := Cond.code yX10_shift cX10_shift 3 (some .int) :: jW
def m_X10_shift_b26 (ws : LWd) : Option ((Int32 ⊕ String) × LWd) :=
  some (.inr "java/lang/IllegalArgumentException", ws)
set_option maxRecDepth 100000 in
set_option maxHeartbeats 4000000 in
theorem jm_X10_shift_b26 {n0 : Nat} {rr : Int32 ⊕ String} {ws' : LWd} (ws : LWd) (hn0 : ws.length = n0) (h : m_X10_shift_b26 ws = some (rr, ws')) : JG (.inl true) cX10_shift 3 RX10 wsX10_shift (some .int) "shift" 6 1 6 n0 (jthr rr, ws') 26 [none, none, none] [] ws 0 0 := by
  unfold m_X10_shift_b26 at h
  obtain ⟨rfl, rfl⟩ := jretS h
  exact j_throw (pc := 26) (text := "no such way") rfl rfl dX10_shift_26 dX10_shift_29 dX10_shift_30 dX10_shift_32 dX10_shift_35 (List.mem_of_getElem? (i := 7) rfl) (List.mem_of_getElem? (i := 0) rfl) (jfit _ (List.mem_of_getElem? (i := 0) rfl)) (jwm lw_142) (jwm lw_143) (jwi hwx_93) jgo_93 (by decide) (Nat.le_of_ble_eq_true rfl) (by decide) (by decide) (by omega) rfl
def m_X10_shift_b36 (a0 : Nat) (i1 : Int32) (i2 : Int32) (ws : LWd) : Option ((Int32 ⊕ String) × LWd) :=
  bn2 (calSR ws (m_X10_shiftBody a0 i1 i2 ws)) fun x3 w1 =>
  if x3 = 0 then
    some (.inr "java/lang/IllegalStateException", w1)
  else
    bn2 (calSR w1 (m_X10_settled a0 w1)) fun x7 w5 =>
    some (.inl x7, w5)
set_option maxRecDepth 100000 in
set_option maxHeartbeats 4000000 in
theorem jm_X10_shift_b36 {n0 : Nat} {rr : Int32 ⊕ String} {ws' : LWd} (a0 : Nat) (i1 : Int32) (i2 : Int32) (ws : LWd) (hn0 : ws.length = n0) (h : m_X10_shift_b36 a0 i1 i2 ws = some (rr, ws')) : JG (.inl true) cX10_shift 3 RX10 wsX10_shift (some .int) "shift" 6 1 6 n0 (jthr rr, ws') 36 [some (.ref a0), some (.int i1), some (.int i2)] [] ws 0 0 := by
  unfold m_X10_shift_b36 at h
  refine j_aload_n (pc := 36) dX10_shift_36 rfl ?_
  refine j_iload_n (pc := 37) dX10_shift_37 rfl ?_
  refine j_iload_n (pc := 38) dX10_shift_38 rfl ?_
  obtain ⟨x3, w1, e2, h⟩ := obS2 h
  have ge2 := calSR_of e2
  have le2 := ge2.2
  refine j_callV_g (pc := 39) (As := [.int i1, .int i2]) (k' := 0) (n' := 0) dX10_shift_39 (s_X10_shiftBody ge2.1) (jgV lw_410 lw_411 lw_412 lw_147 lw_409) rfl hv_X10_shiftBody rfl (r_X10_shiftBody ge2.1) rfl (by decide) (by decide) (Nat.le_of_ble_eq_true rfl) (by decide) (by decide) (by decide) (by decide) (Or.inl ge2.2) ?_
  refine j_if_ne (pc := 42) (tgt := 55) dX10_shift_42 (by decide) (fun c4 => ?_) (fun c4 => ?_)
  · rw [if_neg c4] at h
    refine j_aload_n (pc := 55) dX10_shift_55 rfl ?_
    obtain ⟨x7, w5, e6, h⟩ := obS2 h
    have ge6 := calSR_of e6
    have le6 := ge6.2
    refine j_callV_g (pc := 56) (As := []) (k' := 0) (n' := 0) dX10_shift_56 (s_X10_settled ge6.1) (jgV lw_320 lw_321 lw_322 lw_147 lw_319) rfl hv_X10_settled rfl (r_X10_settled ge6.1) rfl (by decide) (by decide) (Nat.le_of_ble_eq_true rfl) (by decide) (by decide) (by decide) (by decide) (Or.inl ge6.2) ?_
    obtain ⟨rfl, rfl⟩ := jretS h
    exact j_iret (pc := 59) rfl dX10_shift_59 (by decide) (by decide) rfl
  · rw [if_pos c4] at h
    obtain ⟨rfl, rfl⟩ := jretS h
    exact j_throw (pc := 45) (text := "refused") rfl rfl dX10_shift_45 dX10_shift_48 dX10_shift_49 dX10_shift_51 dX10_shift_54 (List.mem_of_getElem? (i := 10) rfl) (List.mem_of_getElem? (i := 1) rfl) (jfit _ (List.mem_of_getElem? (i := 1) rfl)) (jwm lw_163) (jwm lw_164) (jwi hwx_104) jgo_104 (by decide) (Nat.le_of_ble_eq_true rfl) (by decide) (by decide) (by omega) rfl
def m_X10_shift (a0 : Nat) (i1 : Int32) (i2 : Int32) (ws : LWd) : Option ((Int32 ⊕ String) × LWd) :=
  (rcv ws a0 10).bind fun _ =>
  bn2 (calSR ws (m_X10_isWithin i1 ((-1)) 1 ws)) fun x3 w1 =>
  if x3 = 0 then
    m_X10_shift_b26  w1
  else
    bn2 (calSR w1 (m_X10_isWithin i2 ((-1)) 1 w1)) fun x7 w5 =>
    if x7 = 0 then
      m_X10_shift_b26  w5
    else
      if i1 = 0 then
        if i2 = 0 then
          m_X10_shift_b26  w5
        else
          m_X10_shift_b36 a0 i1 i2 w5
      else
        m_X10_shift_b36 a0 i1 i2 w5
set_option maxRecDepth 100000 in
set_option maxHeartbeats 4000000 in
theorem s_X10_shift {a0 : Nat} {i1 : Int32} {i2 : Int32} {ws : LWd} {rr : Int32 ⊕ String} {ws' : LWd} (h : m_X10_shift a0 i1 i2 ws = some (rr, ws')) : jSX yX10_shift wsX10_shift 6 1 6 [.ref a0, .int i1, .int i2] ws (jthr rr, ws') := by
  unfold m_X10_shift at h
  refine j_entryX (ret := (some .int)) (nm := "shift") (own := RX10) pl_X10 rfl rfl rfl (jcats (by rfl)) (Nat.le_of_ble_eq_true rfl) ?_
  show JG (.inl true) cX10_shift 3 RX10 wsX10_shift (some .int) "shift" 6 1 6 ws.length (jthr rr, ws') 0 [some (.ref a0), some (.int i1), some (.int i2)] [] ws 0 0
  obtain ⟨_, _, h⟩ := obS h
  refine j_iload_n (pc := 0) dX10_shift_0 rfl ?_
  refine j_iconst (pc := 1) dX10_shift_1 (v := (-1)) (by decide) ?_
  refine j_iconst (pc := 2) dX10_shift_2 (v := 1) (by decide) ?_
  obtain ⟨x3, w1, e2, h⟩ := obS2 h
  have ge2 := calSR_of e2
  have le2 := ge2.2
  refine j_callS_g (pc := 3) (As := [.int i1, .int ((-1)), .int 1]) (k' := 0) (n' := 0) dX10_shift_3 (s_X10_isWithin ge2.1) (jgS lw_149 lw_150 lw_147 lw_148) rfl hy_X10_isWithin rfl (by decide) (by decide) (Nat.le_of_ble_eq_true rfl) (by decide) (by decide) (by decide) (by decide) (Or.inl ge2.2) ?_
  refine j_if_eq (pc := 6) (tgt := 26) dX10_shift_6 (by decide) (fun c4 => ?_) (fun c4 => ?_)
  · rw [if_pos c4] at h
    refine j_mask [false, false, false] ?_
    exact jm_X10_shift_b26 w1 (by omega) h
  · rw [if_neg c4] at h
    refine j_iload_n (pc := 9) dX10_shift_9 rfl ?_
    refine j_iconst (pc := 10) dX10_shift_10 (v := (-1)) (by decide) ?_
    refine j_iconst (pc := 11) dX10_shift_11 (v := 1) (by decide) ?_
    obtain ⟨x7, w5, e6, h⟩ := obS2 h
    have ge6 := calSR_of e6
    have le6 := ge6.2
    refine j_callS_g (pc := 12) (As := [.int i2, .int ((-1)), .int 1]) (k' := 0) (n' := 0) dX10_shift_12 (s_X10_isWithin ge6.1) (jgS lw_149 lw_150 lw_147 lw_148) rfl hy_X10_isWithin rfl (by decide) (by decide) (Nat.le_of_ble_eq_true rfl) (by decide) (by decide) (by decide) (by decide) (Or.inl ge6.2) ?_
    refine j_if_eq (pc := 15) (tgt := 26) dX10_shift_15 (by decide) (fun c8 => ?_) (fun c8 => ?_)
    · rw [if_pos c8] at h
      refine j_mask [false, false, false] ?_
      exact jm_X10_shift_b26 w5 (by omega) h
    · rw [if_neg c8] at h
      refine j_iload_n (pc := 18) dX10_shift_18 rfl ?_
      refine j_if_ne (pc := 19) (tgt := 36) dX10_shift_19 (by decide) (fun c9 => ?_) (fun c9 => ?_)
      · rw [if_neg c9] at h
        exact jm_X10_shift_b36 _ _ _ w5 (by omega) h
      · rw [if_pos c9] at h
        refine j_iload_n (pc := 22) dX10_shift_22 rfl ?_
        refine j_if_ne (pc := 23) (tgt := 36) dX10_shift_23 (by decide) (fun c10 => ?_) (fun c10 => ?_)
        · rw [if_neg c10] at h
          exact jm_X10_shift_b36 _ _ _ w5 (by omega) h
        · rw [if_pos c10] at h
          refine j_mask [false, false, false] ?_
          exact jm_X10_shift_b26 w5 (by omega) h
theorem r_X10_shift {a0 : Nat} {i1 : Int32} {i2 : Int32} {ws : LWd} {o : ((Int32 ⊕ String) × LWd)} (h : m_X10_shift a0 i1 i2 ws = some o) : ∃ fs, ws[a0]? = some (.inr (10, fs)) := rcv_in h
def wsX10_isPhaseDone : List Cond := Cond.code yX10_isPhaseDone cX10_isPhaseDone 7 (some .boolean) :: jW
def m_X10_isPhaseDone_b139 (a0 : Nat) (i5 : Int32) (i6 : Int32) (ws : LWd) : Option (Int32 × LWd) :=
  bn2 (calSR ws (m_X10_shiftBody a0 i5 i6 ws)) fun x3 w1 =>
  if x3 = 0 then
    some (0, w1)
  else
    bn2 (calSR w1 (m_X10_settled a0 w1)) fun x7 w5 =>
    if x7 = 0 then
      some (1, w5)
    else
      some (0, w5)
set_option maxRecDepth 100000 in
set_option maxHeartbeats 4000000 in
theorem jm_X10_isPhaseDone_b139 {n0 : Nat} {rr : Int32} {ws' : LWd} (a0 : Nat) (i5 : Int32) (i6 : Int32) (ws : LWd) (h : m_X10_isPhaseDone_b139 a0 i5 i6 ws = some (rr, ws')) : JG (.inl false) cX10_isPhaseDone 7 RX10 wsX10_isPhaseDone (some .boolean) "isPhaseDone" 5 0 0 n0 (.inl (some (.int rr)), ws') 139 [some (.ref a0), none, none, none, none, some (.int i5), some (.int i6)] [] ws 0 0 := by
  unfold m_X10_isPhaseDone_b139 at h
  refine j_aload_n (pc := 139) dX10_isPhaseDone_139 rfl ?_
  refine j_iload (pc := 140) dX10_isPhaseDone_140 rfl ?_
  refine j_iload (pc := 142) dX10_isPhaseDone_142 rfl ?_
  obtain ⟨x3, w1, e2, h⟩ := obS2 h
  have ge2 := calSR_of e2
  refine j_callV_g (pc := 144) (As := [.int i5, .int i6]) (k' := 0) (n' := 0) dX10_isPhaseDone_144 (s_X10_shiftBody ge2.1) (jgV lw_410 lw_411 lw_412 lw_147 lw_409) rfl hv_X10_shiftBody rfl (r_X10_shiftBody ge2.1) rfl (by decide) (by decide) (Nat.le_of_ble_eq_true rfl) (by decide) (by decide) (by decide) (by decide) (Or.inl ge2.2) ?_
  refine j_if_eq (pc := 147) (tgt := 161) dX10_isPhaseDone_147 (by decide) (fun c4 => ?_) (fun c4 => ?_)
  · rw [if_pos c4] at h
    refine j_iconst (pc := 161) dX10_isPhaseDone_161 (v := 0) (by decide) ?_
    obtain ⟨rfl, rfl⟩ := jretS h
    exact j_zretL (pc := 162) (by decide) rfl dX10_isPhaseDone_162 (by decide) (by decide) rfl
  · rw [if_neg c4] at h
    refine j_aload_n (pc := 150) dX10_isPhaseDone_150 rfl ?_
    obtain ⟨x7, w5, e6, h⟩ := obS2 h
    have ge6 := calSR_of e6
    refine j_callV_g (pc := 151) (As := []) (k' := 0) (n' := 0) dX10_isPhaseDone_151 (s_X10_settled ge6.1) (jgV lw_320 lw_321 lw_322 lw_147 lw_319) rfl hv_X10_settled rfl (r_X10_settled ge6.1) rfl (by decide) (by decide) (Nat.le_of_ble_eq_true rfl) (by decide) (by decide) (by decide) (by decide) (Or.inl ge6.2) ?_
    refine j_if_ne (pc := 154) (tgt := 161) dX10_isPhaseDone_154 (by decide) (fun c8 => ?_) (fun c8 => ?_)
    · rw [if_neg c8] at h
      refine j_iconst (pc := 161) dX10_isPhaseDone_161 (v := 0) (by decide) ?_
      obtain ⟨rfl, rfl⟩ := jretS h
      exact j_zretL (pc := 162) (by decide) rfl dX10_isPhaseDone_162 (by decide) (by decide) rfl
    · rw [if_pos c8] at h
      refine j_iconst (pc := 157) dX10_isPhaseDone_157 (v := 1) (by decide) ?_
      refine j_goto (pc := 158) (tgt := 162) dX10_isPhaseDone_158 (by decide) ?_
      obtain ⟨rfl, rfl⟩ := jretS h
      exact j_zretL (pc := 162) (by decide) rfl dX10_isPhaseDone_162 (by decide) (by decide) rfl
def m_X10_isPhaseDone (a0 : Nat) (i1 : Int32) (ws : LWd) : Option (Int32 × LWd) :=
  (rcv ws a0 10).bind fun _ =>
  (fR ws a0 10 7).bind fun x1 =>
  (fR ws x1 3 0).bind fun x3 =>
  bn2 (calSR ws (m_X8_at x3 i1 ws)) fun x7 w5 =>
  (fR w5 a0 10 2).bind fun x8 =>
  (fR w5 x8 9 3).bind fun x10 =>
  bn2 (calSR w5 (m_X8_at x10 x7 w5)) fun x14 w12 =>
  bn2 (calSR w12 (m_X10_liftFoot a0 x7 w12)) fun x17 w15 =>
  if x17 = 0 then
    some (0, w15)
  else
    bn2 (calSR w15 (m_X10_settled a0 w15)) fun x21 w19 =>
    if x21 = 0 then
      bn2 (calSR w19 (m_X10_xOf x14 w19)) fun x25 w23 =>
      (fR w23 a0 10 7).bind fun x26 =>
      (fR w23 x26 3 1).bind fun x28 =>
      bn2 (calSR w23 (m_X8_at x28 i1 w23)) fun x32 w30 =>
      bn2 (calSR w30 (m_X10_yOf x14 w30)) fun x35 w33 =>
      (fR w33 a0 10 7).bind fun x36 =>
      (fR w33 x36 3 2).bind fun x38 =>
      bn2 (calSR w33 (m_X8_at x38 i1 w33)) fun x42 w40 =>
      bn2 (calSR w40 (m_X10_pointAt (x25 + x32) (x35 + x42) w40)) fun x45 w43 =>
      if x45 = ((-1)) then
        some (0, w43)
      else
        bn2 (calSR w43 (m_X10_placeFoot a0 x7 x45 w43)) fun x49 w47 =>
        if x49 = 0 then
          some (0, w47)
        else
          bn2 (calSR w47 (m_X10_settled a0 w47)) fun x53 w51 =>
          if x53 = 0 then
            (fR w51 a0 10 7).bind fun x55 =>
            (fR w51 x55 3 3).bind fun x57 =>
            bn2 (calSR w51 (m_X8_at x57 i1 w51)) fun x61 w59 =>
            (fR w59 a0 10 7).bind fun x62 =>
            (fR w59 x62 3 4).bind fun x64 =>
            bn2 (calSR w59 (m_X8_at x64 i1 w59)) fun x68 w66 =>
            if x61 = 0 then
              if x68 = 0 then
                some (1, w66)
              else
                m_X10_isPhaseDone_b139 a0 x61 x68 w66
            else
              m_X10_isPhaseDone_b139 a0 x61 x68 w66
          else
            some (0, w51)
    else
      some (0, w19)
set_option maxRecDepth 100000 in
set_option maxHeartbeats 4000000 in
theorem s_X10_isPhaseDone {a0 : Nat} {i1 : Int32} {ws : LWd} {rr : Int32} {ws' : LWd} (h : m_X10_isPhaseDone a0 i1 ws = some (rr, ws')) : jSp yX10_isPhaseDone wsX10_isPhaseDone 5 0 0 [.ref a0, .int i1] ws (.inl (some (.int rr)), ws') := by
  unfold m_X10_isPhaseDone at h
  refine j_entry (ret := (some .boolean)) (nm := "isPhaseDone") (own := RX10) pl_X10 rfl rfl rfl (jcats (by rfl)) (Nat.le_of_ble_eq_true rfl) ?_
  show JG (.inl false) cX10_isPhaseDone 7 RX10 wsX10_isPhaseDone (some .boolean) "isPhaseDone" 5 0 0 ws.length (.inl (some (.int rr)), ws') 0 [some (.ref a0), some (.int i1), none, none, none, none, none] [] ws 0 0
  obtain ⟨_, _, h⟩ := obS h
  refine j_aload_n (pc := 0) dX10_isPhaseDone_0 rfl ?_
  obtain ⟨x1, e2, h⟩ := obS h
  refine j_getR (pc := 1) dX10_isPhaseDone_1 (ci := 10) (kf := 7) rfl (jwi hw_X10) (by decide) (jwm lw_128) e2 ?_
  obtain ⟨x3, e4, h⟩ := obS h
  refine j_getR (pc := 4) dX10_isPhaseDone_4 (ci := 3) (kf := 0) rfl (jwi hw_X3) (by decide) (jwm lw_413) e4 ?_
  refine j_iload_n (pc := 7) dX10_isPhaseDone_7 rfl ?_
  obtain ⟨x7, w5, e6, h⟩ := obS2 h
  have ge6 := calSR_of e6
  refine j_callV_g (pc := 8) (As := [.int i1]) (k' := 0) (n' := 0) dX10_isPhaseDone_8 (s_X8_at ge6.1) (jgV lw_156 lw_140 lw_141 lw_12 lw_138) rfl hv_X8_at rfl (r_X8_at ge6.1) rfl (by decide) (by decide) (Nat.le_of_ble_eq_true rfl) (by decide) (by decide) (by decide) (by decide) (Or.inl ge6.2) ?_
  refine j_istore_n_2 (pc := 11) dX10_isPhaseDone_11 (by decide) rfl ?_
  refine j_aload_n (pc := 12) dX10_isPhaseDone_12 rfl ?_
  obtain ⟨x8, e9, h⟩ := obS h
  refine j_getR (pc := 13) dX10_isPhaseDone_13 (ci := 10) (kf := 2) rfl (jwi hw_X10) (by decide) (jwm lw_103) e9 ?_
  obtain ⟨x10, e11, h⟩ := obS h
  refine j_getR (pc := 16) dX10_isPhaseDone_16 (ci := 9) (kf := 3) rfl (jwi hw_X9) (by decide) (jwm lw_265) e11 ?_
  refine j_iload_n (pc := 19) dX10_isPhaseDone_19 rfl ?_
  obtain ⟨x14, w12, e13, h⟩ := obS2 h
  have ge13 := calSR_of e13
  refine j_callV_g (pc := 20) (As := [.int x7]) (k' := 0) (n' := 0) dX10_isPhaseDone_20 (s_X8_at ge13.1) (jgV lw_156 lw_140 lw_141 lw_12 lw_138) rfl hv_X8_at rfl (r_X8_at ge13.1) rfl (by decide) (by decide) (Nat.le_of_ble_eq_true rfl) (by decide) (by decide) (by decide) (by decide) (Or.inl ge13.2) ?_
  refine j_istore_n_3 (pc := 23) dX10_isPhaseDone_23 (by decide) rfl ?_
  refine j_aload_n (pc := 24) dX10_isPhaseDone_24 rfl ?_
  refine j_iload_n (pc := 25) dX10_isPhaseDone_25 rfl ?_
  obtain ⟨x17, w15, e16, h⟩ := obS2 h
  have ge16 := calSR_of e16
  refine j_callV_g (pc := 26) (As := [.int x7]) (k' := 0) (n' := 0) dX10_isPhaseDone_26 (s_X10_liftFoot ge16.1) (jgV lw_383 lw_384 lw_385 lw_147 lw_382) rfl hv_X10_liftFoot rfl (r_X10_liftFoot ge16.1) rfl (by decide) (by decide) (Nat.le_of_ble_eq_true rfl) (by decide) (by decide) (by decide) (by decide) (Or.inl ge16.2) ?_
  refine j_if_eq (pc := 29) (tgt := 39) dX10_isPhaseDone_29 (by decide) (fun c18 => ?_) (fun c18 => ?_)
  · rw [if_pos c18] at h
    refine j_iconst (pc := 39) dX10_isPhaseDone_39 (v := 0) (by decide) ?_
    obtain ⟨rfl, rfl⟩ := jretS h
    exact j_zretL (pc := 40) (by decide) rfl dX10_isPhaseDone_40 (by decide) (by decide) rfl
  · rw [if_neg c18] at h
    refine j_aload_n (pc := 32) dX10_isPhaseDone_32 rfl ?_
    obtain ⟨x21, w19, e20, h⟩ := obS2 h
    have ge20 := calSR_of e20
    refine j_callV_g (pc := 33) (As := []) (k' := 0) (n' := 0) dX10_isPhaseDone_33 (s_X10_settled ge20.1) (jgV lw_320 lw_321 lw_322 lw_147 lw_319) rfl hv_X10_settled rfl (r_X10_settled ge20.1) rfl (by decide) (by decide) (Nat.le_of_ble_eq_true rfl) (by decide) (by decide) (by decide) (by decide) (Or.inl ge20.2) ?_
    refine j_if_eq (pc := 36) (tgt := 41) dX10_isPhaseDone_36 (by decide) (fun c22 => ?_) (fun c22 => ?_)
    · rw [if_pos c22] at h
      refine j_iload_n (pc := 41) dX10_isPhaseDone_41 rfl ?_
      obtain ⟨x25, w23, e24, h⟩ := obS2 h
      have ge24 := calSR_of e24
      refine j_callS_g (pc := 42) (As := [.int x14]) (k' := 0) (n' := 0) dX10_isPhaseDone_42 (s_X10_xOf ge24.1) (jgS lw_414 lw_280 lw_147 lw_279) rfl hy_X10_xOf rfl (by decide) (by decide) (Nat.le_of_ble_eq_true rfl) (by decide) (by decide) (by decide) (by decide) (Or.inl ge24.2) ?_
      refine j_aload_n (pc := 45) dX10_isPhaseDone_45 rfl ?_
      obtain ⟨x26, e27, h⟩ := obS h
      refine j_getR (pc := 46) dX10_isPhaseDone_46 (ci := 10) (kf := 7) rfl (jwi hw_X10) (by decide) (jwm lw_128) e27 ?_
      obtain ⟨x28, e29, h⟩ := obS h
      refine j_getR (pc := 49) dX10_isPhaseDone_49 (ci := 3) (kf := 1) rfl (jwi hw_X3) (by decide) (jwm lw_415) e29 ?_
      refine j_iload_n (pc := 52) dX10_isPhaseDone_52 rfl ?_
      obtain ⟨x32, w30, e31, h⟩ := obS2 h
      have ge31 := calSR_of e31
      refine j_callV_g (pc := 53) (As := [.int i1]) (k' := 0) (n' := 0) dX10_isPhaseDone_53 (s_X8_at ge31.1) (jgV lw_156 lw_140 lw_141 lw_12 lw_138) rfl hv_X8_at rfl (r_X8_at ge31.1) rfl (by decide) (by decide) (Nat.le_of_ble_eq_true rfl) (by decide) (by decide) (by decide) (by decide) (Or.inl ge31.2) ?_
      refine j_iadd (pc := 56) dX10_isPhaseDone_56 ?_
      refine j_iload_n (pc := 57) dX10_isPhaseDone_57 rfl ?_
      obtain ⟨x35, w33, e34, h⟩ := obS2 h
      have ge34 := calSR_of e34
      refine j_callS_g (pc := 58) (As := [.int x14]) (k' := 0) (n' := 0) dX10_isPhaseDone_58 (s_X10_yOf ge34.1) (jgS lw_416 lw_282 lw_147 lw_281) rfl hy_X10_yOf rfl (by decide) (by decide) (Nat.le_of_ble_eq_true rfl) (by decide) (by decide) (by decide) (by decide) (Or.inl ge34.2) ?_
      refine j_aload_n (pc := 61) dX10_isPhaseDone_61 rfl ?_
      obtain ⟨x36, e37, h⟩ := obS h
      refine j_getR (pc := 62) dX10_isPhaseDone_62 (ci := 10) (kf := 7) rfl (jwi hw_X10) (by decide) (jwm lw_128) e37 ?_
      obtain ⟨x38, e39, h⟩ := obS h
      refine j_getR (pc := 65) dX10_isPhaseDone_65 (ci := 3) (kf := 2) rfl (jwi hw_X3) (by decide) (jwm lw_417) e39 ?_
      refine j_iload_n (pc := 68) dX10_isPhaseDone_68 rfl ?_
      obtain ⟨x42, w40, e41, h⟩ := obS2 h
      have ge41 := calSR_of e41
      refine j_callV_g (pc := 69) (As := [.int i1]) (k' := 0) (n' := 0) dX10_isPhaseDone_69 (s_X8_at ge41.1) (jgV lw_156 lw_140 lw_141 lw_12 lw_138) rfl hv_X8_at rfl (r_X8_at ge41.1) rfl (by decide) (by decide) (Nat.le_of_ble_eq_true rfl) (by decide) (by decide) (by decide) (by decide) (Or.inl ge41.2) ?_
      refine j_iadd (pc := 72) dX10_isPhaseDone_72 ?_
      obtain ⟨x45, w43, e44, h⟩ := obS2 h
      have ge44 := calSR_of e44
      refine j_callS_g (pc := 73) (As := [.int (x25 + x32), .int (x35 + x42)]) (k' := 0) (n' := 0) dX10_isPhaseDone_73 (s_X10_pointAt ge44.1) (jgS lw_145 lw_146 lw_147 lw_144) rfl hy_X10_pointAt rfl (by decide) (by decide) (Nat.le_of_ble_eq_true rfl) (by decide) (by decide) (by decide) (by decide) (Or.inl ge44.2) ?_
      refine j_istore_4 (pc := 76) dX10_isPhaseDone_76 (by decide) rfl ?_
      refine j_iload (pc := 78) dX10_isPhaseDone_78 rfl ?_
      refine j_iconst (pc := 80) dX10_isPhaseDone_80 (v := (-1)) (by decide) ?_
      refine j_icmp_eq (pc := 81) (tgt := 101) dX10_isPhaseDone_81 (by decide) (fun c46 => ?_) (fun c46 => ?_)
      · rw [if_pos c46] at h
        refine j_iconst (pc := 101) dX10_isPhaseDone_101 (v := 0) (by decide) ?_
        obtain ⟨rfl, rfl⟩ := jretS h
        exact j_zretL (pc := 102) (by decide) rfl dX10_isPhaseDone_102 (by decide) (by decide) rfl
      · rw [if_neg c46] at h
        refine j_aload_n (pc := 84) dX10_isPhaseDone_84 rfl ?_
        refine j_iload_n (pc := 85) dX10_isPhaseDone_85 rfl ?_
        refine j_iload (pc := 86) dX10_isPhaseDone_86 rfl ?_
        obtain ⟨x49, w47, e48, h⟩ := obS2 h
        have ge48 := calSR_of e48
        refine j_callV_g (pc := 88) (As := [.int x7, .int x45]) (k' := 0) (n' := 0) dX10_isPhaseDone_88 (s_X10_placeFoot ge48.1) (jgV lw_398 lw_399 lw_400 lw_147 lw_397) rfl hv_X10_placeFoot rfl (r_X10_placeFoot ge48.1) rfl (by decide) (by decide) (Nat.le_of_ble_eq_true rfl) (by decide) (by decide) (by decide) (by decide) (Or.inl ge48.2) ?_
        refine j_if_eq (pc := 91) (tgt := 101) dX10_isPhaseDone_91 (by decide) (fun c50 => ?_) (fun c50 => ?_)
        · rw [if_pos c50] at h
          refine j_iconst (pc := 101) dX10_isPhaseDone_101 (v := 0) (by decide) ?_
          obtain ⟨rfl, rfl⟩ := jretS h
          exact j_zretL (pc := 102) (by decide) rfl dX10_isPhaseDone_102 (by decide) (by decide) rfl
        · rw [if_neg c50] at h
          refine j_aload_n (pc := 94) dX10_isPhaseDone_94 rfl ?_
          obtain ⟨x53, w51, e52, h⟩ := obS2 h
          have ge52 := calSR_of e52
          refine j_callV_g (pc := 95) (As := []) (k' := 0) (n' := 0) dX10_isPhaseDone_95 (s_X10_settled ge52.1) (jgV lw_320 lw_321 lw_322 lw_147 lw_319) rfl hv_X10_settled rfl (r_X10_settled ge52.1) rfl (by decide) (by decide) (Nat.le_of_ble_eq_true rfl) (by decide) (by decide) (by decide) (by decide) (Or.inl ge52.2) ?_
          refine j_if_eq (pc := 98) (tgt := 103) dX10_isPhaseDone_98 (by decide) (fun c54 => ?_) (fun c54 => ?_)
          · rw [if_pos c54] at h
            refine j_aload_n (pc := 103) dX10_isPhaseDone_103 rfl ?_
            obtain ⟨x55, e56, h⟩ := obS h
            refine j_getR (pc := 104) dX10_isPhaseDone_104 (ci := 10) (kf := 7) rfl (jwi hw_X10) (by decide) (jwm lw_128) e56 ?_
            obtain ⟨x57, e58, h⟩ := obS h
            refine j_getR (pc := 107) dX10_isPhaseDone_107 (ci := 3) (kf := 3) rfl (jwi hw_X3) (by decide) (jwm lw_418) e58 ?_
            refine j_iload_n (pc := 110) dX10_isPhaseDone_110 rfl ?_
            obtain ⟨x61, w59, e60, h⟩ := obS2 h
            have ge60 := calSR_of e60
            refine j_callV_g (pc := 111) (As := [.int i1]) (k' := 0) (n' := 0) dX10_isPhaseDone_111 (s_X8_at ge60.1) (jgV lw_156 lw_140 lw_141 lw_12 lw_138) rfl hv_X8_at rfl (r_X8_at ge60.1) rfl (by decide) (by decide) (Nat.le_of_ble_eq_true rfl) (by decide) (by decide) (by decide) (by decide) (Or.inl ge60.2) ?_
            refine j_istore_5 (pc := 114) dX10_isPhaseDone_114 (by decide) rfl ?_
            refine j_aload_n (pc := 116) dX10_isPhaseDone_116 rfl ?_
            obtain ⟨x62, e63, h⟩ := obS h
            refine j_getR (pc := 117) dX10_isPhaseDone_117 (ci := 10) (kf := 7) rfl (jwi hw_X10) (by decide) (jwm lw_128) e63 ?_
            obtain ⟨x64, e65, h⟩ := obS h
            refine j_getR (pc := 120) dX10_isPhaseDone_120 (ci := 3) (kf := 4) rfl (jwi hw_X3) (by decide) (jwm lw_419) e65 ?_
            refine j_iload_n (pc := 123) dX10_isPhaseDone_123 rfl ?_
            obtain ⟨x68, w66, e67, h⟩ := obS2 h
            have ge67 := calSR_of e67
            refine j_callV_g (pc := 124) (As := [.int i1]) (k' := 0) (n' := 0) dX10_isPhaseDone_124 (s_X8_at ge67.1) (jgV lw_156 lw_140 lw_141 lw_12 lw_138) rfl hv_X8_at rfl (r_X8_at ge67.1) rfl (by decide) (by decide) (Nat.le_of_ble_eq_true rfl) (by decide) (by decide) (by decide) (by decide) (Or.inl ge67.2) ?_
            refine j_istore_6 (pc := 127) dX10_isPhaseDone_127 (by decide) rfl ?_
            refine j_iload (pc := 129) dX10_isPhaseDone_129 rfl ?_
            refine j_if_ne (pc := 131) (tgt := 139) dX10_isPhaseDone_131 (by decide) (fun c69 => ?_) (fun c69 => ?_)
            · rw [if_neg c69] at h
              refine j_mask [true, false, false, false, false, true, true] ?_
              exact jm_X10_isPhaseDone_b139 _ _ _ w66 h
            · rw [if_pos c69] at h
              refine j_iload (pc := 134) dX10_isPhaseDone_134 rfl ?_
              refine j_if_eq (pc := 136) (tgt := 157) dX10_isPhaseDone_136 (by decide) (fun c70 => ?_) (fun c70 => ?_)
              · rw [if_pos c70] at h
                refine j_iconst (pc := 157) dX10_isPhaseDone_157 (v := 1) (by decide) ?_
                refine j_goto (pc := 158) (tgt := 162) dX10_isPhaseDone_158 (by decide) ?_
                obtain ⟨rfl, rfl⟩ := jretS h
                exact j_zretL (pc := 162) (by decide) rfl dX10_isPhaseDone_162 (by decide) (by decide) rfl
              · rw [if_neg c70] at h
                refine j_mask [true, false, false, false, false, true, true] ?_
                exact jm_X10_isPhaseDone_b139 _ _ _ w66 h
          · rw [if_neg c54] at h
            refine j_iconst (pc := 101) dX10_isPhaseDone_101 (v := 0) (by decide) ?_
            obtain ⟨rfl, rfl⟩ := jretS h
            exact j_zretL (pc := 102) (by decide) rfl dX10_isPhaseDone_102 (by decide) (by decide) rfl
    · rw [if_neg c22] at h
      refine j_iconst (pc := 39) dX10_isPhaseDone_39 (v := 0) (by decide) ?_
      obtain ⟨rfl, rfl⟩ := jretS h
      exact j_zretL (pc := 40) (by decide) rfl dX10_isPhaseDone_40 (by decide) (by decide) rfl
theorem r_X10_isPhaseDone {a0 : Nat} {i1 : Int32} {ws : LWd} {o : (Int32 × LWd)} (h : m_X10_isPhaseDone a0 i1 ws = some o) : ∃ fs, ws[a0]? = some (.inr (10, fs)) := rcv_in h
def wsX3_goOn : List Cond := Cond.code yX3_goOn cX3_goOn 1 none :: jW
def m_X3_goOn_b24 (s0 : Nat) (s1 : Int32) (ws : LWd) : Option LWd :=
  (pV ws s0 3 6 (.int s1)).bind fun w1 =>
  some w1
set_option maxRecDepth 100000 in
set_option maxHeartbeats 4000000 in
theorem jm_X3_goOn_b24 {n0 : Nat} {ws' : LWd} (s0 : Nat) (s1 : Int32) (ws : LWd) (h : m_X3_goOn_b24 s0 s1 ws = some ws') : JG (.inl false) cX3_goOn 1 RX3 wsX3_goOn none "goOn" 0 0 0 n0 (.inl none, ws') 24 [none] [.int s1, .ref s0] ws 0 0 := by
  unfold m_X3_goOn_b24 at h
  obtain ⟨w1, e2, h⟩ := obS h
  refine j_putV (pc := 24) (ci := 3) (kf := 6) tyX3 tyX3_ok nmX3 dX3_goOn_24 rfl (jwi hw_X3) (by decide) (jwm lw_72) rfl (fun _ => rfl) (fun _ => rfl) e2 ?_
  cases h
  exact j_vret (pc := 27) rfl dX3_goOn_27 (by decide) (by decide) rfl
def m_X3_goOn (a0 : Nat) (ws : LWd) : Option LWd :=
  (rcv ws a0 3).bind fun _ =>
  (fI ws a0 3 6).bind fun x1 =>
  (fI ws a0 3 5).bind fun x3 =>
  if x3 ≤ (x1 + 1) then
    m_X3_goOn_b24 a0 0 ws
  else
    (fI ws a0 3 6).bind fun x6 =>
    m_X3_goOn_b24 a0 (x6 + 1) ws
set_option maxRecDepth 100000 in
set_option maxHeartbeats 4000000 in
theorem s_X3_goOn {a0 : Nat} {ws : LWd} {ws' : LWd} (h : m_X3_goOn a0 ws = some ws') : jSp yX3_goOn wsX3_goOn 0 0 0 [.ref a0] ws (.inl none, ws') := by
  unfold m_X3_goOn at h
  refine j_entry (ret := none) (nm := "goOn") (own := RX3) pl_X3 rfl rfl rfl (jcats (by rfl)) (Nat.le_of_ble_eq_true rfl) ?_
  show JG (.inl false) cX3_goOn 1 RX3 wsX3_goOn none "goOn" 0 0 0 ws.length (.inl none, ws') 0 [some (.ref a0)] [] ws 0 0
  obtain ⟨_, _, h⟩ := obS h
  refine j_aload_n (pc := 0) dX3_goOn_0 rfl ?_
  refine j_aload_n (pc := 1) dX3_goOn_1 rfl ?_
  obtain ⟨x1, e2, h⟩ := obS h
  refine j_getI (pc := 2) dX3_goOn_2 (ci := 3) (kf := 6) rfl (jwi hw_X3) (by decide) (jwm lw_72) e2 ?_
  refine j_iconst (pc := 5) dX3_goOn_5 (v := 1) (by decide) ?_
  refine j_iadd (pc := 6) dX3_goOn_6 ?_
  refine j_aload_n (pc := 7) dX3_goOn_7 rfl ?_
  obtain ⟨x3, e4, h⟩ := obS h
  refine j_getI (pc := 8) dX3_goOn_8 (ci := 3) (kf := 5) rfl (jwi hw_X3) (by decide) (jwm lw_71) e4 ?_
  refine j_icmp_ge (pc := 11) (tgt := 23) dX3_goOn_11 (by decide) (fun c5 => ?_) (fun c5 => ?_)
  · rw [if_pos c5] at h
    refine j_iconst (pc := 23) dX3_goOn_23 (v := 0) (by decide) ?_
    refine j_mask [false] ?_
    exact jm_X3_goOn_b24 _ _ ws h
  · rw [if_neg c5] at h
    refine j_aload_n (pc := 14) dX3_goOn_14 rfl ?_
    obtain ⟨x6, e7, h⟩ := obS h
    refine j_getI (pc := 15) dX3_goOn_15 (ci := 3) (kf := 6) rfl (jwi hw_X3) (by decide) (jwm lw_72) e7 ?_
    refine j_iconst (pc := 18) dX3_goOn_18 (v := 1) (by decide) ?_
    refine j_iadd (pc := 19) dX3_goOn_19 ?_
    refine j_goto (pc := 20) (tgt := 24) dX3_goOn_20 (by decide) ?_
    refine j_mask [false] ?_
    exact jm_X3_goOn_b24 _ _ ws h
theorem r_X3_goOn {a0 : Nat} {ws : LWd} {o : LWd} (h : m_X3_goOn a0 ws = some o) : ∃ fs, ws[a0]? = some (.inr (3, fs)) := rcv_in h
def wsX10_walk : List Cond := Cond.code yX10_walk cX10_walk 3 (some .int) :: jW
def m_X10_walk_l42 : Nat → Nat → Int32 → Int32 → LWd → Option ((Int32 ⊕ String) × LWd)
  | 0, _, _, _, _ => none
  | fu + 1, a0, i1, i2, ws =>
    if i1 ≤ i2 then
      some (.inl i2, ws)
    else
      (fR ws a0 10 7).bind fun x2 =>
      (fI ws x2 3 6).bind fun x4 =>
      bn2 (calSR ws (m_X10_isPhaseDone a0 x4 ws)) fun x8 w6 =>
      if x8 = 0 then
        some (.inl i2, w6)
      else
        (fR w6 a0 10 7).bind fun x10 =>
        (calSV w6 (m_X3_goOn x10 w6)).bind fun w12 =>
        m_X10_walk_l42 fu a0 i1 (i2 + 1) w12
set_option maxRecDepth 100000 in
set_option maxHeartbeats 4000000 in
theorem jm_X10_walk_l42 {n0 : Nat} {rr : Int32 ⊕ String} {ws' : LWd} : ∀ (fu : Nat) (a0 : Nat) (i1 : Int32) (i2 : Int32) (ws : LWd) (hn0 : ws.length = n0), m_X10_walk_l42 fu a0 i1 i2 ws = some (rr, ws') → JG (.inl true) cX10_walk 3 RX10 wsX10_walk (some .int) "walk" 6 1 6 n0 (jthr rr, ws') 42 [some (.ref a0), some (.int i1), some (.int i2)] [] ws 0 0 := by
  intro fu
  induction fu with
  | zero => intro a0 i1 i2 ws hn0 h; first | (cases h; done) | (rw [m_X10_walk_l42] at h; cases h)
  | succ fu ih =>
    intro a0 i1 i2 ws hn0 h
    rw [m_X10_walk_l42] at h
    refine j_iload_n (pc := 42) dX10_walk_42 rfl ?_
    refine j_iload_n (pc := 43) dX10_walk_43 rfl ?_
    refine j_icmp_ge (pc := 44) (tgt := 74) dX10_walk_44 (by decide) (fun c1 => ?_) (fun c1 => ?_)
    · rw [if_pos c1] at h
      refine j_iload_n (pc := 74) dX10_walk_74 rfl ?_
      obtain ⟨rfl, rfl⟩ := jretS h
      exact j_iret (pc := 75) rfl dX10_walk_75 (by decide) (by decide) rfl
    · rw [if_neg c1] at h
      refine j_aload_n (pc := 47) dX10_walk_47 rfl ?_
      refine j_aload_n (pc := 48) dX10_walk_48 rfl ?_
      obtain ⟨x2, e3, h⟩ := obS h
      refine j_getR (pc := 49) dX10_walk_49 (ci := 10) (kf := 7) rfl (jwi hw_X10) (by decide) (jwm lw_128) e3 ?_
      obtain ⟨x4, e5, h⟩ := obS h
      refine j_getI (pc := 52) dX10_walk_52 (ci := 3) (kf := 6) rfl (jwi hw_X3) (by decide) (jwm lw_420) e5 ?_
      obtain ⟨x8, w6, e7, h⟩ := obS2 h
      have ge7 := calSR_of e7
      have le7 := ge7.2
      refine j_callV_g (pc := 55) (As := [.int x4]) (k' := 0) (n' := 0) dX10_walk_55 (s_X10_isPhaseDone ge7.1) (jgV lw_422 lw_423 lw_424 lw_147 lw_421) rfl hv_X10_isPhaseDone rfl (r_X10_isPhaseDone ge7.1) rfl (by decide) (by decide) (Nat.le_of_ble_eq_true rfl) (by decide) (by decide) (by decide) (by decide) (Or.inl ge7.2) ?_
      refine j_if_eq (pc := 58) (tgt := 74) dX10_walk_58 (by decide) (fun c9 => ?_) (fun c9 => ?_)
      · rw [if_pos c9] at h
        refine j_iload_n (pc := 74) dX10_walk_74 rfl ?_
        obtain ⟨rfl, rfl⟩ := jretS h
        exact j_iret (pc := 75) rfl dX10_walk_75 (by decide) (by decide) rfl
      · rw [if_neg c9] at h
        refine j_aload_n (pc := 61) dX10_walk_61 rfl ?_
        obtain ⟨x10, e11, h⟩ := obS h
        refine j_getR (pc := 62) dX10_walk_62 (ci := 10) (kf := 7) rfl (jwi hw_X10) (by decide) (jwm lw_128) e11 ?_
        obtain ⟨w12, e13, h⟩ := obS h
        have ge13 := calSV_of e13
        have le13 := ge13.2
        refine j_callV_g (pc := 65) (As := []) (k' := 0) (n' := 0) dX10_walk_65 (s_X3_goOn ge13.1) (jgV lw_426 lw_427 lw_428 lw_125 lw_425) rfl hv_X3_goOn rfl (r_X3_goOn ge13.1) rfl (by decide) (by decide) (Nat.le_of_ble_eq_true rfl) (by decide) (by decide) (by decide) (by decide) (Or.inl ge13.2) ?_
        refine j_iinc_2 (pc := 68) dX10_walk_68 (y := i2 + 1) rfl (by decide) rfl ?_
        refine j_goto (pc := 71) (tgt := 42) dX10_walk_71 (by decide) ?_
        exact ih _ _ _ w12 (by omega) h
def m_X10_walk (a0 : Nat) (i1 : Int32) (ws : LWd) : Option ((Int32 ⊕ String) × LWd) :=
  (rcv ws a0 10).bind fun _ =>
  bn2 (calSR ws (m_X10_isWithin i1 1 20 ws)) fun x3 w1 =>
  if x3 = 0 then
    some (.inr "java/lang/IllegalArgumentException", w1)
  else
    (fR w1 a0 10 7).bind fun x5 =>
    (fI w1 x5 3 5).bind fun x7 =>
    if x7 = 0 then
      some (.inr "java/lang/IllegalStateException", w1)
    else
      m_X10_walk_l42 FU a0 i1 0 w1
set_option maxRecDepth 100000 in
set_option maxHeartbeats 4000000 in
theorem s_X10_walk {a0 : Nat} {i1 : Int32} {ws : LWd} {rr : Int32 ⊕ String} {ws' : LWd} (h : m_X10_walk a0 i1 ws = some (rr, ws')) : jSX yX10_walk wsX10_walk 6 1 6 [.ref a0, .int i1] ws (jthr rr, ws') := by
  unfold m_X10_walk at h
  refine j_entryX (ret := (some .int)) (nm := "walk") (own := RX10) pl_X10 rfl rfl rfl (jcats (by rfl)) (Nat.le_of_ble_eq_true rfl) ?_
  show JG (.inl true) cX10_walk 3 RX10 wsX10_walk (some .int) "walk" 6 1 6 ws.length (jthr rr, ws') 0 [some (.ref a0), some (.int i1), none] [] ws 0 0
  obtain ⟨_, _, h⟩ := obS h
  refine j_iload_n (pc := 0) dX10_walk_0 rfl ?_
  refine j_iconst (pc := 1) dX10_walk_1 (v := 1) (by decide) ?_
  refine j_bipush (pc := 2) dX10_walk_2 (v := 20) (by decide) ?_
  obtain ⟨x3, w1, e2, h⟩ := obS2 h
  have ge2 := calSR_of e2
  have le2 := ge2.2
  refine j_callS_g (pc := 4) (As := [.int i1, .int 1, .int 20]) (k' := 0) (n' := 0) dX10_walk_4 (s_X10_isWithin ge2.1) (jgS lw_149 lw_150 lw_147 lw_148) rfl hy_X10_isWithin rfl (by decide) (by decide) (Nat.le_of_ble_eq_true rfl) (by decide) (by decide) (by decide) (by decide) (Or.inl ge2.2) ?_
  refine j_if_ne (pc := 7) (tgt := 20) dX10_walk_7 (by decide) (fun c4 => ?_) (fun c4 => ?_)
  · rw [if_neg c4] at h
    refine j_aload_n (pc := 20) dX10_walk_20 rfl ?_
    obtain ⟨x5, e6, h⟩ := obS h
    refine j_getR (pc := 21) dX10_walk_21 (ci := 10) (kf := 7) rfl (jwi hw_X10) (by decide) (jwm lw_128) e6 ?_
    obtain ⟨x7, e8, h⟩ := obS h
    refine j_getI (pc := 24) dX10_walk_24 (ci := 3) (kf := 5) rfl (jwi hw_X3) (by decide) (jwm lw_184) e8 ?_
    refine j_if_ne (pc := 27) (tgt := 40) dX10_walk_27 (by decide) (fun c9 => ?_) (fun c9 => ?_)
    · rw [if_neg c9] at h
      refine j_iconst (pc := 40) dX10_walk_40 (v := 0) (by decide) ?_
      refine j_istore_n_2 (pc := 41) dX10_walk_41 (by decide) rfl ?_
      exact jm_X10_walk_l42 FU _ _ _ w1 (by omega) h
    · rw [if_pos c9] at h
      obtain ⟨rfl, rfl⟩ := jretS h
      exact j_throw (pc := 30) (text := "no phases") rfl rfl dX10_walk_30 dX10_walk_33 dX10_walk_34 dX10_walk_36 dX10_walk_39 (List.mem_of_getElem? (i := 13) rfl) (List.mem_of_getElem? (i := 1) rfl) (jfit _ (List.mem_of_getElem? (i := 1) rfl)) (jwm lw_163) (jwm lw_164) (jwi hwx_104) jgo_104 (by decide) (Nat.le_of_ble_eq_true rfl) (by decide) (by decide) (by omega) rfl
  · rw [if_pos c4] at h
    obtain ⟨rfl, rfl⟩ := jretS h
    exact j_throw (pc := 10) (text := "no such number of phases") rfl rfl dX10_walk_10 dX10_walk_13 dX10_walk_14 dX10_walk_16 dX10_walk_19 (List.mem_of_getElem? (i := 12) rfl) (List.mem_of_getElem? (i := 0) rfl) (jfit _ (List.mem_of_getElem? (i := 0) rfl)) (jwm lw_142) (jwm lw_143) (jwi hwx_93) jgo_93 (by decide) (Nat.le_of_ble_eq_true rfl) (by decide) (by decide) (by omega) rfl
theorem r_X10_walk {a0 : Nat} {i1 : Int32} {ws : LWd} {o : ((Int32 ⊕ String) × LWd)} (h : m_X10_walk a0 i1 ws = some o) : ∃ fs, ws[a0]? = some (.inr (10, fs)) := rcv_in h
def wsX10_machine : List Cond := Cond.code yX10_machine cX10_machine 2 (some .int) :: jW
def m_X10_machine (a0 : Nat) (i1 : Int32) (ws : LWd) : Option ((Int32 ⊕ String) × LWd) :=
  (rcv ws a0 10).bind fun _ =>
  if i1 = 0 then
    (fR ws a0 10 2).bind fun x2 =>
    (fI ws x2 9 4).bind fun x4 =>
    some (.inl x4, ws)
  else
    if i1 = 1 then
      (fR ws a0 10 2).bind fun x7 =>
      (fI ws x7 9 5).bind fun x9 =>
      some (.inl x9, ws)
    else
      if i1 = 2 then
        (fI ws a0 10 9).bind fun x12 =>
        if x12 = 0 then
          some (.inl 0, ws)
        else
          some (.inl 1, ws)
      else
        if i1 = 3 then
          (fI ws a0 10 10).bind fun x16 =>
          some (.inl x16, ws)
        else
          if i1 = 4 then
            (fR ws a0 10 1).bind fun x19 =>
            (fI ws x19 2 4).bind fun x21 =>
            some (.inl x21, ws)
          else
            if i1 = 5 then
              (fR ws a0 10 2).bind fun x24 =>
              bn2 (calSR ws (m_X9_level x24 ((-1)) ws)) fun x28 w26 =>
              some (.inl x28, w26)
            else
              if i1 = 6 then
                (fR ws a0 10 2).bind fun x30 =>
                bn2 (calSR ws (m_X9_pressure x30 ws)) fun x34 w32 =>
                some (.inl x34, w32)
              else
                if i1 = 7 then
                  (fR ws a0 10 2).bind fun x36 =>
                  bn2 (calSR ws (m_X9_down x36 ws)) fun x40 w38 =>
                  some (.inl x40, w38)
                else
                  if i1 = 8 then
                    (fR ws a0 10 5).bind fun x42 =>
                    (fI ws x42 0 0).bind fun x44 =>
                    some (.inl x44, ws)
                  else
                    if i1 = 9 then
                      (fR ws a0 10 6).bind fun x47 =>
                      (fI ws x47 1 3).bind fun x49 =>
                      some (.inl x49, ws)
                    else
                      if i1 = 10 then
                        (fR ws a0 10 1).bind fun x52 =>
                        (fI ws x52 2 3).bind fun x54 =>
                        some (.inl x54, ws)
                      else
                        if i1 = 11 then
                          (fR ws a0 10 7).bind fun x57 =>
                          (fI ws x57 3 5).bind fun x59 =>
                          if x59 = 0 then
                            some (.inl ((-1)), ws)
                          else
                            (fR ws a0 10 7).bind fun x62 =>
                            (fI ws x62 3 6).bind fun x64 =>
                            some (.inl x64, ws)
                        else
                          some (.inr "java/lang/IllegalArgumentException", ws)
set_option maxRecDepth 100000 in
set_option maxHeartbeats 4000000 in
theorem s_X10_machine {a0 : Nat} {i1 : Int32} {ws : LWd} {rr : Int32 ⊕ String} {ws' : LWd} (h : m_X10_machine a0 i1 ws = some (rr, ws')) : jSX yX10_machine wsX10_machine 6 1 6 [.ref a0, .int i1] ws (jthr rr, ws') := by
  unfold m_X10_machine at h
  refine j_entryX (ret := (some .int)) (nm := "machine") (own := RX10) pl_X10 rfl rfl rfl (jcats (by rfl)) (Nat.le_of_ble_eq_true rfl) ?_
  show JG (.inl true) cX10_machine 2 RX10 wsX10_machine (some .int) "machine" 6 1 6 ws.length (jthr rr, ws') 0 [some (.ref a0), some (.int i1)] [] ws 0 0
  obtain ⟨_, _, h⟩ := obS h
  refine j_iload_n (pc := 0) dX10_machine_0 rfl ?_
  by_cases c1 : i1 = 0
  · rw [if_pos c1] at h
    refine j_tabEq (pc := 1) (tgt := 64) (a := 0) dX10_machine_1 c1 rfl (by decide) (by decide) rfl (by decide) ?_
    refine j_aload_n (pc := 64) dX10_machine_64 rfl ?_
    obtain ⟨x2, e3, h⟩ := obS h
    refine j_getR (pc := 65) dX10_machine_65 (ci := 10) (kf := 2) rfl (jwi hw_X10) (by decide) (jwm lw_103) e3 ?_
    obtain ⟨x4, e5, h⟩ := obS h
    refine j_getI (pc := 68) dX10_machine_68 (ci := 9) (kf := 4) rfl (jwi hw_X9) (by decide) (jwm lw_429) e5 ?_
    obtain ⟨rfl, rfl⟩ := jretS h
    exact j_iret (pc := 71) rfl dX10_machine_71 (by decide) (by decide) rfl
  · rw [if_neg c1] at h
    by_cases c6 : i1 = 1
    · rw [if_pos c6] at h
      refine j_tabEq (pc := 1) (tgt := 72) (a := 1) dX10_machine_1 c6 rfl (by decide) (by decide) rfl (by decide) ?_
      refine j_aload_n (pc := 72) dX10_machine_72 rfl ?_
      obtain ⟨x7, e8, h⟩ := obS h
      refine j_getR (pc := 73) dX10_machine_73 (ci := 10) (kf := 2) rfl (jwi hw_X10) (by decide) (jwm lw_103) e8 ?_
      obtain ⟨x9, e10, h⟩ := obS h
      refine j_getI (pc := 76) dX10_machine_76 (ci := 9) (kf := 5) rfl (jwi hw_X9) (by decide) (jwm lw_430) e10 ?_
      obtain ⟨rfl, rfl⟩ := jretS h
      exact j_iret (pc := 79) rfl dX10_machine_79 (by decide) (by decide) rfl
    · rw [if_neg c6] at h
      by_cases c11 : i1 = 2
      · rw [if_pos c11] at h
        refine j_tabEq (pc := 1) (tgt := 80) (a := 2) dX10_machine_1 c11 rfl (by decide) (by decide) rfl (by decide) ?_
        refine j_aload_n (pc := 80) dX10_machine_80 rfl ?_
        obtain ⟨x12, e13, h⟩ := obS h
        refine j_getI (pc := 81) dX10_machine_81 (ci := 10) (kf := 9) rfl (jwi hw_X10) (by decide) (jwm lw_136) e13 ?_
        refine j_if_eq (pc := 84) (tgt := 91) dX10_machine_84 (by decide) (fun c14 => ?_) (fun c14 => ?_)
        · rw [if_pos c14] at h
          refine j_iconst (pc := 91) dX10_machine_91 (v := 0) (by decide) ?_
          obtain ⟨rfl, rfl⟩ := jretS h
          exact j_iret (pc := 92) rfl dX10_machine_92 (by decide) (by decide) rfl
        · rw [if_neg c14] at h
          refine j_iconst (pc := 87) dX10_machine_87 (v := 1) (by decide) ?_
          refine j_goto (pc := 88) (tgt := 92) dX10_machine_88 (by decide) ?_
          obtain ⟨rfl, rfl⟩ := jretS h
          exact j_iret (pc := 92) rfl dX10_machine_92 (by decide) (by decide) rfl
      · rw [if_neg c11] at h
        by_cases c15 : i1 = 3
        · rw [if_pos c15] at h
          refine j_tabEq (pc := 1) (tgt := 93) (a := 3) dX10_machine_1 c15 rfl (by decide) (by decide) rfl (by decide) ?_
          refine j_aload_n (pc := 93) dX10_machine_93 rfl ?_
          obtain ⟨x16, e17, h⟩ := obS h
          refine j_getI (pc := 94) dX10_machine_94 (ci := 10) (kf := 10) rfl (jwi hw_X10) (by decide) (jwm lw_137) e17 ?_
          obtain ⟨rfl, rfl⟩ := jretS h
          exact j_iret (pc := 97) rfl dX10_machine_97 (by decide) (by decide) rfl
        · rw [if_neg c15] at h
          by_cases c18 : i1 = 4
          · rw [if_pos c18] at h
            refine j_tabEq (pc := 1) (tgt := 98) (a := 4) dX10_machine_1 c18 rfl (by decide) (by decide) rfl (by decide) ?_
            refine j_aload_n (pc := 98) dX10_machine_98 rfl ?_
            obtain ⟨x19, e20, h⟩ := obS h
            refine j_getR (pc := 99) dX10_machine_99 (ci := 10) (kf := 1) rfl (jwi hw_X10) (by decide) (jwm lw_100) e20 ?_
            obtain ⟨x21, e22, h⟩ := obS h
            refine j_getI (pc := 102) dX10_machine_102 (ci := 2) (kf := 4) rfl (jwi hw_X2) (by decide) (jwm lw_236) e22 ?_
            obtain ⟨rfl, rfl⟩ := jretS h
            exact j_iret (pc := 105) rfl dX10_machine_105 (by decide) (by decide) rfl
          · rw [if_neg c18] at h
            by_cases c23 : i1 = 5
            · rw [if_pos c23] at h
              refine j_tabEq (pc := 1) (tgt := 106) (a := 5) dX10_machine_1 c23 rfl (by decide) (by decide) rfl (by decide) ?_
              refine j_aload_n (pc := 106) dX10_machine_106 rfl ?_
              obtain ⟨x24, e25, h⟩ := obS h
              refine j_getR (pc := 107) dX10_machine_107 (ci := 10) (kf := 2) rfl (jwi hw_X10) (by decide) (jwm lw_103) e25 ?_
              refine j_iconst (pc := 110) dX10_machine_110 (v := (-1)) (by decide) ?_
              obtain ⟨x28, w26, e27, h⟩ := obS2 h
              have ge27 := calSR_of e27
              have le27 := ge27.2
              refine j_callV_g (pc := 111) (As := [.int ((-1))]) (k' := 0) (n' := 0) dX10_machine_111 (s_X9_level ge27.1) (jgV lw_394 lw_395 lw_396 lw_76 lw_393) rfl hv_X9_level rfl (r_X9_level ge27.1) rfl (by decide) (by decide) (Nat.le_of_ble_eq_true rfl) (by decide) (by decide) (by decide) (by decide) (Or.inl ge27.2) ?_
              obtain ⟨rfl, rfl⟩ := jretS h
              exact j_iret (pc := 114) rfl dX10_machine_114 (by decide) (by decide) rfl
            · rw [if_neg c23] at h
              by_cases c29 : i1 = 6
              · rw [if_pos c29] at h
                refine j_tabEq (pc := 1) (tgt := 115) (a := 6) dX10_machine_1 c29 rfl (by decide) (by decide) rfl (by decide) ?_
                refine j_aload_n (pc := 115) dX10_machine_115 rfl ?_
                obtain ⟨x30, e31, h⟩ := obS h
                refine j_getR (pc := 116) dX10_machine_116 (ci := 10) (kf := 2) rfl (jwi hw_X10) (by decide) (jwm lw_103) e31 ?_
                obtain ⟨x34, w32, e33, h⟩ := obS2 h
                have ge33 := calSR_of e33
                have le33 := ge33.2
                refine j_callV_g (pc := 119) (As := []) (k' := 0) (n' := 0) dX10_machine_119 (s_X9_pressure ge33.1) (jgV lw_431 lw_256 lw_257 lw_76 lw_254) rfl hv_X9_pressure rfl (r_X9_pressure ge33.1) rfl (by decide) (by decide) (Nat.le_of_ble_eq_true rfl) (by decide) (by decide) (by decide) (by decide) (Or.inl ge33.2) ?_
                obtain ⟨rfl, rfl⟩ := jretS h
                exact j_iret (pc := 122) rfl dX10_machine_122 (by decide) (by decide) rfl
              · rw [if_neg c29] at h
                by_cases c35 : i1 = 7
                · rw [if_pos c35] at h
                  refine j_tabEq (pc := 1) (tgt := 123) (a := 7) dX10_machine_1 c35 rfl (by decide) (by decide) rfl (by decide) ?_
                  refine j_aload_n (pc := 123) dX10_machine_123 rfl ?_
                  obtain ⟨x36, e37, h⟩ := obS h
                  refine j_getR (pc := 124) dX10_machine_124 (ci := 10) (kf := 2) rfl (jwi hw_X10) (by decide) (jwm lw_103) e37 ?_
                  obtain ⟨x40, w38, e39, h⟩ := obS2 h
                  have ge39 := calSR_of e39
                  have le39 := ge39.2
                  refine j_callV_g (pc := 127) (As := []) (k' := 0) (n' := 0) dX10_machine_127 (s_X9_down ge39.1) (jgV lw_377 lw_249 lw_250 lw_76 lw_247) rfl hv_X9_down rfl (r_X9_down ge39.1) rfl (by decide) (by decide) (Nat.le_of_ble_eq_true rfl) (by decide) (by decide) (by decide) (by decide) (Or.inl ge39.2) ?_
                  obtain ⟨rfl, rfl⟩ := jretS h
                  exact j_iret (pc := 130) rfl dX10_machine_130 (by decide) (by decide) rfl
                · rw [if_neg c35] at h
                  by_cases c41 : i1 = 8
                  · rw [if_pos c41] at h
                    refine j_tabEq (pc := 1) (tgt := 131) (a := 8) dX10_machine_1 c41 rfl (by decide) (by decide) rfl (by decide) ?_
                    refine j_aload_n (pc := 131) dX10_machine_131 rfl ?_
                    obtain ⟨x42, e43, h⟩ := obS h
                    refine j_getR (pc := 132) dX10_machine_132 (ci := 10) (kf := 5) rfl (jwi hw_X10) (by decide) (jwm lw_116) e43 ?_
                    obtain ⟨x44, e45, h⟩ := obS h
                    refine j_getI (pc := 135) dX10_machine_135 (ci := 0) (kf := 0) rfl (jwi hw_X0) (by decide) (jwm lw_432) e45 ?_
                    obtain ⟨rfl, rfl⟩ := jretS h
                    exact j_iret (pc := 138) rfl dX10_machine_138 (by decide) (by decide) rfl
                  · rw [if_neg c41] at h
                    by_cases c46 : i1 = 9
                    · rw [if_pos c46] at h
                      refine j_tabEq (pc := 1) (tgt := 139) (a := 9) dX10_machine_1 c46 rfl (by decide) (by decide) rfl (by decide) ?_
                      refine j_aload_n (pc := 139) dX10_machine_139 rfl ?_
                      obtain ⟨x47, e48, h⟩ := obS h
                      refine j_getR (pc := 140) dX10_machine_140 (ci := 10) (kf := 6) rfl (jwi hw_X10) (by decide) (jwm lw_122) e48 ?_
                      obtain ⟨x49, e50, h⟩ := obS h
                      refine j_getI (pc := 143) dX10_machine_143 (ci := 1) (kf := 3) rfl (jwi hw_X1) (by decide) (jwm lw_433) e50 ?_
                      obtain ⟨rfl, rfl⟩ := jretS h
                      exact j_iret (pc := 146) rfl dX10_machine_146 (by decide) (by decide) rfl
                    · rw [if_neg c46] at h
                      by_cases c51 : i1 = 10
                      · rw [if_pos c51] at h
                        refine j_tabEq (pc := 1) (tgt := 147) (a := 10) dX10_machine_1 c51 rfl (by decide) (by decide) rfl (by decide) ?_
                        refine j_aload_n (pc := 147) dX10_machine_147 rfl ?_
                        obtain ⟨x52, e53, h⟩ := obS h
                        refine j_getR (pc := 148) dX10_machine_148 (ci := 10) (kf := 1) rfl (jwi hw_X10) (by decide) (jwm lw_100) e53 ?_
                        obtain ⟨x54, e55, h⟩ := obS h
                        refine j_getI (pc := 151) dX10_machine_151 (ci := 2) (kf := 3) rfl (jwi hw_X2) (by decide) (jwm lw_170) e55 ?_
                        obtain ⟨rfl, rfl⟩ := jretS h
                        exact j_iret (pc := 154) rfl dX10_machine_154 (by decide) (by decide) rfl
                      · rw [if_neg c51] at h
                        by_cases c56 : i1 = 11
                        · rw [if_pos c56] at h
                          refine j_tabEq (pc := 1) (tgt := 155) (a := 11) dX10_machine_1 c56 rfl (by decide) (by decide) rfl (by decide) ?_
                          refine j_aload_n (pc := 155) dX10_machine_155 rfl ?_
                          obtain ⟨x57, e58, h⟩ := obS h
                          refine j_getR (pc := 156) dX10_machine_156 (ci := 10) (kf := 7) rfl (jwi hw_X10) (by decide) (jwm lw_128) e58 ?_
                          obtain ⟨x59, e60, h⟩ := obS h
                          refine j_getI (pc := 159) dX10_machine_159 (ci := 3) (kf := 5) rfl (jwi hw_X3) (by decide) (jwm lw_184) e60 ?_
                          refine j_if_ne (pc := 162) (tgt := 169) dX10_machine_162 (by decide) (fun c61 => ?_) (fun c61 => ?_)
                          · rw [if_neg c61] at h
                            refine j_aload_n (pc := 169) dX10_machine_169 rfl ?_
                            obtain ⟨x62, e63, h⟩ := obS h
                            refine j_getR (pc := 170) dX10_machine_170 (ci := 10) (kf := 7) rfl (jwi hw_X10) (by decide) (jwm lw_128) e63 ?_
                            obtain ⟨x64, e65, h⟩ := obS h
                            refine j_getI (pc := 173) dX10_machine_173 (ci := 3) (kf := 6) rfl (jwi hw_X3) (by decide) (jwm lw_420) e65 ?_
                            obtain ⟨rfl, rfl⟩ := jretS h
                            exact j_iret (pc := 176) rfl dX10_machine_176 (by decide) (by decide) rfl
                          · rw [if_pos c61] at h
                            refine j_iconst (pc := 165) dX10_machine_165 (v := (-1)) (by decide) ?_
                            refine j_goto (pc := 166) (tgt := 176) dX10_machine_166 (by decide) ?_
                            obtain ⟨rfl, rfl⟩ := jretS h
                            exact j_iret (pc := 176) rfl dX10_machine_176 (by decide) (by decide) rfl
                        · rw [if_neg c56] at h
                          refine j_tabOut (pc := 1) (tgt := 177) dX10_machine_1 (jout12 c1 c6 c11 c15 c18 c23 c29 c35 c41 c46 c51 c56) (by decide) ?_
                          obtain ⟨rfl, rfl⟩ := jretS h
                          exact j_throw (pc := 177) (text := "no such thing to tell") rfl rfl dX10_machine_177 dX10_machine_180 dX10_machine_181 dX10_machine_183 dX10_machine_186 (List.mem_of_getElem? (i := 14) rfl) (List.mem_of_getElem? (i := 0) rfl) (jfit _ (List.mem_of_getElem? (i := 0) rfl)) (jwm lw_142) (jwm lw_143) (jwi hwx_93) jgo_93 (by decide) (Nat.le_of_ble_eq_true rfl) (by decide) (by decide) (by omega) rfl
theorem r_X10_machine {a0 : Nat} {i1 : Int32} {ws : LWd} {o : ((Int32 ⊕ String) × LWd)} (h : m_X10_machine a0 i1 ws = some o) : ∃ fs, ws[a0]? = some (.inr (10, fs)) := rcv_in h
set_option maxRecDepth 100000 in
set_option maxHeartbeats 4000000 in
theorem sn_X10_machine {a0 : Nat} {i1 : Int32} {ws : LWd} {rr : Int32} {ws' : LWd} (h : m_X10_machine a0 i1 ws = some (.inl rr, ws')) : jSp yX10_machine wsX10_machine 6 0 0 [.ref a0, .int i1] ws (.inl (some (.int rr)), ws') := by
  unfold m_X10_machine at h
  refine j_entry (ret := (some .int)) (nm := "machine") (own := RX10) pl_X10 rfl rfl rfl (jcats (by rfl)) (Nat.le_of_ble_eq_true rfl) ?_
  show JG (.inl false) cX10_machine 2 RX10 wsX10_machine (some .int) "machine" 6 0 0 ws.length (.inl (some (.int rr)), ws') 0 [some (.ref a0), some (.int i1)] [] ws 0 0
  obtain ⟨_, _, h⟩ := obS h
  refine j_iload_n (pc := 0) dX10_machine_0 rfl ?_
  by_cases c1 : i1 = 0
  · rw [if_pos c1] at h
    refine j_tabEq (pc := 1) (tgt := 64) (a := 0) dX10_machine_1 c1 rfl (by decide) (by decide) rfl (by decide) ?_
    refine j_aload_n (pc := 64) dX10_machine_64 rfl ?_
    obtain ⟨x2, e3, h⟩ := obS h
    refine j_getR (pc := 65) dX10_machine_65 (ci := 10) (kf := 2) rfl (jwi hw_X10) (by decide) (jwm lw_103) e3 ?_
    obtain ⟨x4, e5, h⟩ := obS h
    refine j_getI (pc := 68) dX10_machine_68 (ci := 9) (kf := 4) rfl (jwi hw_X9) (by decide) (jwm lw_429) e5 ?_
    cases h
    exact j_iret (pc := 71) rfl dX10_machine_71 (by decide) (by decide) rfl
  · rw [if_neg c1] at h
    by_cases c6 : i1 = 1
    · rw [if_pos c6] at h
      refine j_tabEq (pc := 1) (tgt := 72) (a := 1) dX10_machine_1 c6 rfl (by decide) (by decide) rfl (by decide) ?_
      refine j_aload_n (pc := 72) dX10_machine_72 rfl ?_
      obtain ⟨x7, e8, h⟩ := obS h
      refine j_getR (pc := 73) dX10_machine_73 (ci := 10) (kf := 2) rfl (jwi hw_X10) (by decide) (jwm lw_103) e8 ?_
      obtain ⟨x9, e10, h⟩ := obS h
      refine j_getI (pc := 76) dX10_machine_76 (ci := 9) (kf := 5) rfl (jwi hw_X9) (by decide) (jwm lw_430) e10 ?_
      cases h
      exact j_iret (pc := 79) rfl dX10_machine_79 (by decide) (by decide) rfl
    · rw [if_neg c6] at h
      by_cases c11 : i1 = 2
      · rw [if_pos c11] at h
        refine j_tabEq (pc := 1) (tgt := 80) (a := 2) dX10_machine_1 c11 rfl (by decide) (by decide) rfl (by decide) ?_
        refine j_aload_n (pc := 80) dX10_machine_80 rfl ?_
        obtain ⟨x12, e13, h⟩ := obS h
        refine j_getI (pc := 81) dX10_machine_81 (ci := 10) (kf := 9) rfl (jwi hw_X10) (by decide) (jwm lw_136) e13 ?_
        refine j_if_eq (pc := 84) (tgt := 91) dX10_machine_84 (by decide) (fun c14 => ?_) (fun c14 => ?_)
        · rw [if_pos c14] at h
          refine j_iconst (pc := 91) dX10_machine_91 (v := 0) (by decide) ?_
          cases h
          exact j_iret (pc := 92) rfl dX10_machine_92 (by decide) (by decide) rfl
        · rw [if_neg c14] at h
          refine j_iconst (pc := 87) dX10_machine_87 (v := 1) (by decide) ?_
          refine j_goto (pc := 88) (tgt := 92) dX10_machine_88 (by decide) ?_
          cases h
          exact j_iret (pc := 92) rfl dX10_machine_92 (by decide) (by decide) rfl
      · rw [if_neg c11] at h
        by_cases c15 : i1 = 3
        · rw [if_pos c15] at h
          refine j_tabEq (pc := 1) (tgt := 93) (a := 3) dX10_machine_1 c15 rfl (by decide) (by decide) rfl (by decide) ?_
          refine j_aload_n (pc := 93) dX10_machine_93 rfl ?_
          obtain ⟨x16, e17, h⟩ := obS h
          refine j_getI (pc := 94) dX10_machine_94 (ci := 10) (kf := 10) rfl (jwi hw_X10) (by decide) (jwm lw_137) e17 ?_
          cases h
          exact j_iret (pc := 97) rfl dX10_machine_97 (by decide) (by decide) rfl
        · rw [if_neg c15] at h
          by_cases c18 : i1 = 4
          · rw [if_pos c18] at h
            refine j_tabEq (pc := 1) (tgt := 98) (a := 4) dX10_machine_1 c18 rfl (by decide) (by decide) rfl (by decide) ?_
            refine j_aload_n (pc := 98) dX10_machine_98 rfl ?_
            obtain ⟨x19, e20, h⟩ := obS h
            refine j_getR (pc := 99) dX10_machine_99 (ci := 10) (kf := 1) rfl (jwi hw_X10) (by decide) (jwm lw_100) e20 ?_
            obtain ⟨x21, e22, h⟩ := obS h
            refine j_getI (pc := 102) dX10_machine_102 (ci := 2) (kf := 4) rfl (jwi hw_X2) (by decide) (jwm lw_236) e22 ?_
            cases h
            exact j_iret (pc := 105) rfl dX10_machine_105 (by decide) (by decide) rfl
          · rw [if_neg c18] at h
            by_cases c23 : i1 = 5
            · rw [if_pos c23] at h
              refine j_tabEq (pc := 1) (tgt := 106) (a := 5) dX10_machine_1 c23 rfl (by decide) (by decide) rfl (by decide) ?_
              refine j_aload_n (pc := 106) dX10_machine_106 rfl ?_
              obtain ⟨x24, e25, h⟩ := obS h
              refine j_getR (pc := 107) dX10_machine_107 (ci := 10) (kf := 2) rfl (jwi hw_X10) (by decide) (jwm lw_103) e25 ?_
              refine j_iconst (pc := 110) dX10_machine_110 (v := (-1)) (by decide) ?_
              obtain ⟨x28, w26, e27, h⟩ := obS2 h
              have ge27 := calSR_of e27
              have le27 := ge27.2
              refine j_callV_g (pc := 111) (As := [.int ((-1))]) (k' := 0) (n' := 0) dX10_machine_111 (s_X9_level ge27.1) (jgV lw_394 lw_395 lw_396 lw_76 lw_393) rfl hv_X9_level rfl (r_X9_level ge27.1) rfl (by decide) (by decide) (Nat.le_of_ble_eq_true rfl) (by decide) (by decide) (by decide) (by decide) (Or.inl ge27.2) ?_
              cases h
              exact j_iret (pc := 114) rfl dX10_machine_114 (by decide) (by decide) rfl
            · rw [if_neg c23] at h
              by_cases c29 : i1 = 6
              · rw [if_pos c29] at h
                refine j_tabEq (pc := 1) (tgt := 115) (a := 6) dX10_machine_1 c29 rfl (by decide) (by decide) rfl (by decide) ?_
                refine j_aload_n (pc := 115) dX10_machine_115 rfl ?_
                obtain ⟨x30, e31, h⟩ := obS h
                refine j_getR (pc := 116) dX10_machine_116 (ci := 10) (kf := 2) rfl (jwi hw_X10) (by decide) (jwm lw_103) e31 ?_
                obtain ⟨x34, w32, e33, h⟩ := obS2 h
                have ge33 := calSR_of e33
                have le33 := ge33.2
                refine j_callV_g (pc := 119) (As := []) (k' := 0) (n' := 0) dX10_machine_119 (s_X9_pressure ge33.1) (jgV lw_431 lw_256 lw_257 lw_76 lw_254) rfl hv_X9_pressure rfl (r_X9_pressure ge33.1) rfl (by decide) (by decide) (Nat.le_of_ble_eq_true rfl) (by decide) (by decide) (by decide) (by decide) (Or.inl ge33.2) ?_
                cases h
                exact j_iret (pc := 122) rfl dX10_machine_122 (by decide) (by decide) rfl
              · rw [if_neg c29] at h
                by_cases c35 : i1 = 7
                · rw [if_pos c35] at h
                  refine j_tabEq (pc := 1) (tgt := 123) (a := 7) dX10_machine_1 c35 rfl (by decide) (by decide) rfl (by decide) ?_
                  refine j_aload_n (pc := 123) dX10_machine_123 rfl ?_
                  obtain ⟨x36, e37, h⟩ := obS h
                  refine j_getR (pc := 124) dX10_machine_124 (ci := 10) (kf := 2) rfl (jwi hw_X10) (by decide) (jwm lw_103) e37 ?_
                  obtain ⟨x40, w38, e39, h⟩ := obS2 h
                  have ge39 := calSR_of e39
                  have le39 := ge39.2
                  refine j_callV_g (pc := 127) (As := []) (k' := 0) (n' := 0) dX10_machine_127 (s_X9_down ge39.1) (jgV lw_377 lw_249 lw_250 lw_76 lw_247) rfl hv_X9_down rfl (r_X9_down ge39.1) rfl (by decide) (by decide) (Nat.le_of_ble_eq_true rfl) (by decide) (by decide) (by decide) (by decide) (Or.inl ge39.2) ?_
                  cases h
                  exact j_iret (pc := 130) rfl dX10_machine_130 (by decide) (by decide) rfl
                · rw [if_neg c35] at h
                  by_cases c41 : i1 = 8
                  · rw [if_pos c41] at h
                    refine j_tabEq (pc := 1) (tgt := 131) (a := 8) dX10_machine_1 c41 rfl (by decide) (by decide) rfl (by decide) ?_
                    refine j_aload_n (pc := 131) dX10_machine_131 rfl ?_
                    obtain ⟨x42, e43, h⟩ := obS h
                    refine j_getR (pc := 132) dX10_machine_132 (ci := 10) (kf := 5) rfl (jwi hw_X10) (by decide) (jwm lw_116) e43 ?_
                    obtain ⟨x44, e45, h⟩ := obS h
                    refine j_getI (pc := 135) dX10_machine_135 (ci := 0) (kf := 0) rfl (jwi hw_X0) (by decide) (jwm lw_432) e45 ?_
                    cases h
                    exact j_iret (pc := 138) rfl dX10_machine_138 (by decide) (by decide) rfl
                  · rw [if_neg c41] at h
                    by_cases c46 : i1 = 9
                    · rw [if_pos c46] at h
                      refine j_tabEq (pc := 1) (tgt := 139) (a := 9) dX10_machine_1 c46 rfl (by decide) (by decide) rfl (by decide) ?_
                      refine j_aload_n (pc := 139) dX10_machine_139 rfl ?_
                      obtain ⟨x47, e48, h⟩ := obS h
                      refine j_getR (pc := 140) dX10_machine_140 (ci := 10) (kf := 6) rfl (jwi hw_X10) (by decide) (jwm lw_122) e48 ?_
                      obtain ⟨x49, e50, h⟩ := obS h
                      refine j_getI (pc := 143) dX10_machine_143 (ci := 1) (kf := 3) rfl (jwi hw_X1) (by decide) (jwm lw_433) e50 ?_
                      cases h
                      exact j_iret (pc := 146) rfl dX10_machine_146 (by decide) (by decide) rfl
                    · rw [if_neg c46] at h
                      by_cases c51 : i1 = 10
                      · rw [if_pos c51] at h
                        refine j_tabEq (pc := 1) (tgt := 147) (a := 10) dX10_machine_1 c51 rfl (by decide) (by decide) rfl (by decide) ?_
                        refine j_aload_n (pc := 147) dX10_machine_147 rfl ?_
                        obtain ⟨x52, e53, h⟩ := obS h
                        refine j_getR (pc := 148) dX10_machine_148 (ci := 10) (kf := 1) rfl (jwi hw_X10) (by decide) (jwm lw_100) e53 ?_
                        obtain ⟨x54, e55, h⟩ := obS h
                        refine j_getI (pc := 151) dX10_machine_151 (ci := 2) (kf := 3) rfl (jwi hw_X2) (by decide) (jwm lw_170) e55 ?_
                        cases h
                        exact j_iret (pc := 154) rfl dX10_machine_154 (by decide) (by decide) rfl
                      · rw [if_neg c51] at h
                        by_cases c56 : i1 = 11
                        · rw [if_pos c56] at h
                          refine j_tabEq (pc := 1) (tgt := 155) (a := 11) dX10_machine_1 c56 rfl (by decide) (by decide) rfl (by decide) ?_
                          refine j_aload_n (pc := 155) dX10_machine_155 rfl ?_
                          obtain ⟨x57, e58, h⟩ := obS h
                          refine j_getR (pc := 156) dX10_machine_156 (ci := 10) (kf := 7) rfl (jwi hw_X10) (by decide) (jwm lw_128) e58 ?_
                          obtain ⟨x59, e60, h⟩ := obS h
                          refine j_getI (pc := 159) dX10_machine_159 (ci := 3) (kf := 5) rfl (jwi hw_X3) (by decide) (jwm lw_184) e60 ?_
                          refine j_if_ne (pc := 162) (tgt := 169) dX10_machine_162 (by decide) (fun c61 => ?_) (fun c61 => ?_)
                          · rw [if_neg c61] at h
                            refine j_aload_n (pc := 169) dX10_machine_169 rfl ?_
                            obtain ⟨x62, e63, h⟩ := obS h
                            refine j_getR (pc := 170) dX10_machine_170 (ci := 10) (kf := 7) rfl (jwi hw_X10) (by decide) (jwm lw_128) e63 ?_
                            obtain ⟨x64, e65, h⟩ := obS h
                            refine j_getI (pc := 173) dX10_machine_173 (ci := 3) (kf := 6) rfl (jwi hw_X3) (by decide) (jwm lw_420) e65 ?_
                            cases h
                            exact j_iret (pc := 176) rfl dX10_machine_176 (by decide) (by decide) rfl
                          · rw [if_pos c61] at h
                            refine j_iconst (pc := 165) dX10_machine_165 (v := (-1)) (by decide) ?_
                            refine j_goto (pc := 166) (tgt := 176) dX10_machine_166 (by decide) ?_
                            cases h
                            exact j_iret (pc := 176) rfl dX10_machine_176 (by decide) (by decide) rfl
                        · rw [if_neg c56] at h
                          refine j_tabOut (pc := 1) (tgt := 177) dX10_machine_1 (jout12 c1 c6 c11 c15 c18 c23 c29 c35 c41 c46 c51 c56) (by decide) ?_
                          cases h
