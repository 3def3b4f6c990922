/-! methods: written by wip/whole/make.py -/
def wsX7_start : List Cond := Cond.code yX7_start cX7_start 3 none :: jW
def m_X7_start (a0 : Nat) (a1 : Nat) (i2 : Int32) (ws : LWd) : Option LWd :=
  (rcv ws a0 7).bind fun _ =>
  (pV ws a0 7 2 (.int i2)).bind fun w1 =>
  (fR w1 a0 7 1).bind fun x3 =>
  (aL w1 x3).bind fun x5 =>
  if x5 ≤ 0 then
    some w1
  else
    (fR w1 a0 7 1).bind fun x8 =>
    (aR w1 x8 0).bind fun x10 =>
    (calSV w1 (m_X9_copy x10 a1 w1)).bind fun w12 =>
    some w12
set_option maxRecDepth 100000 in
set_option maxHeartbeats 4000000 in
theorem s_X7_start {a0 : Nat} {a1 : Nat} {i2 : Int32} {ws : LWd} {ws' : LWd} (h : m_X7_start a0 a1 i2 ws = some ws') : jSp yX7_start wsX7_start 3 0 0 [.ref a0, .ref a1, .int i2] ws (.inl none, ws') := by
  unfold m_X7_start at h
  refine j_entry (ret := none) (nm := "start") (own := RX7) pl_X7 rfl rfl rfl (jcats (by rfl)) (Nat.le_of_ble_eq_true rfl) ?_
  show JG (.inl false) cX7_start 3 RX7 wsX7_start none "start" 3 0 0 ws.length (.inl none, ws') 0 [some (.ref a0), some (.ref a1), some (.int i2)] [] ws 0 0
  obtain ⟨_, _, h⟩ := obS h
  refine j_aload_n (pc := 0) dX7_start_0 rfl ?_
  refine j_iload_n (pc := 1) dX7_start_1 rfl ?_
  obtain ⟨w1, e2, h⟩ := obS h
  refine j_putV (pc := 2) (ci := 7) (kf := 2) tyX7 tyX7_ok nmX7 dX7_start_2 rfl (jwi hw_X7) (by decide) (jwm lw_81) rfl (fun _ => rfl) (fun _ => rfl) e2 ?_
  refine j_aload_n (pc := 5) dX7_start_5 rfl ?_
  obtain ⟨x3, e4, h⟩ := obS h
  refine j_getR (pc := 6) dX7_start_6 (ci := 7) (kf := 1) rfl (jwi hw_X7) (by decide) (jwm lw_73) e4 ?_
  obtain ⟨x5, e6, h⟩ := obS h
  refine j_alen (pc := 9) dX7_start_9 e6 ?_
  refine j_if_le (pc := 10) (tgt := 23) dX7_start_10 (by decide) (fun c7 => ?_) (fun c7 => ?_)
  · rw [if_pos c7] at h
    cases h
    exact j_vret (pc := 23) rfl dX7_start_23 (by decide) (by decide) rfl
  · rw [if_neg c7] at h
    refine j_aload_n (pc := 13) dX7_start_13 rfl ?_
    obtain ⟨x8, e9, h⟩ := obS h
    refine j_getR (pc := 14) dX7_start_14 (ci := 7) (kf := 1) rfl (jwi hw_X7) (by decide) (jwm lw_73) e9 ?_
    refine j_iconst (pc := 17) dX7_start_17 (v := 0) (by decide) ?_
    obtain ⟨x10, e11, h⟩ := obS h
    refine j_aald (pc := 18) dX7_start_18 e11 ?_
    refine j_aload_n (pc := 19) dX7_start_19 rfl ?_
    obtain ⟨w12, e13, h⟩ := obS h
    have ge13 := calSV_of e13
    refine j_callV_g (pc := 20) (As := [.ref a1]) (k' := 0) (n' := 0) dX7_start_20 (s_X9_copy ge13.1) (jgV lw_487 lw_341 lw_342 lw_76 lw_339) rfl hv_X9_copy rfl (r_X9_copy ge13.1) rfl (by decide) (by decide) (Nat.le_of_ble_eq_true rfl) (by decide) (by decide) (by decide) (by decide) (Or.inl ge13.2) ?_
    cases h
    exact j_vret (pc := 23) rfl dX7_start_23 (by decide) (by decide) rfl
theorem r_X7_start {a0 : Nat} {a1 : Nat} {i2 : Int32} {ws : LWd} {o : LWd} (h : m_X7_start a0 a1 i2 ws = some o) : ∃ fs, ws[a0]? = some (.inr (7, fs)) := rcv_in h
def wsX7_away : List Cond := Cond.code yX7_away cX7_away 2 (some .int) :: jW
def m_X7_away (a0 : Nat) (i1 : Int32) (ws : LWd) : Option (Int32 × LWd) :=
  (rcv ws a0 7).bind fun _ =>
  if i1 < 0 then
    some (400, ws)
  else
    (fR ws a0 7 1).bind fun x2 =>
    (aL ws x2).bind fun x4 =>
    if i1 < x4 then
      (fR ws a0 7 1).bind fun x7 =>
      (aR ws x7 i1).bind fun x9 =>
      (fI ws x9 9 4).bind fun x11 =>
      (fI ws a0 7 2).bind fun x13 =>
      bn2 (calSR ws (m_X10_xOf x13 ws)) fun x17 w15 =>
      (fR w15 a0 7 1).bind fun x18 =>
      (aR w15 x18 i1).bind fun x20 =>
      (fI w15 x20 9 5).bind fun x22 =>
      (fI w15 a0 7 2).bind fun x24 =>
      bn2 (calSR w15 (m_X10_yOf x24 w15)) fun x28 w26 =>
      some ((jabs (x11 - x17)) + (jabs (x22 - x28)), w26)
    else
      some (400, ws)
set_option maxRecDepth 100000 in
set_option maxHeartbeats 4000000 in
theorem s_X7_away {a0 : Nat} {i1 : Int32} {ws : LWd} {rr : Int32} {ws' : LWd} (h : m_X7_away a0 i1 ws = some (rr, ws')) : jSp yX7_away wsX7_away 1 0 0 [.ref a0, .int i1] ws (.inl (some (.int rr)), ws') := by
  unfold m_X7_away at h
  refine j_entry (ret := (some .int)) (nm := "away") (own := RX7) pl_X7 rfl rfl rfl (jcats (by rfl)) (Nat.le_of_ble_eq_true rfl) ?_
  show JG (.inl false) cX7_away 2 RX7 wsX7_away (some .int) "away" 1 0 0 ws.length (.inl (some (.int rr)), ws') 0 [some (.ref a0), some (.int i1)] [] ws 0 0
  obtain ⟨_, _, h⟩ := obS h
  refine j_iload_n (pc := 0) dX7_away_0 rfl ?_
  refine j_if_lt (pc := 1) (tgt := 13) dX7_away_1 (by decide) (fun c1 => ?_) (fun c1 => ?_)
  · rw [if_pos c1] at h
    refine j_sipush (pc := 13) dX7_away_13 (v := 400) (by decide) ?_
    obtain ⟨rfl, rfl⟩ := jretS h
    exact j_iret (pc := 16) rfl dX7_away_16 (by decide) (by decide) rfl
  · rw [if_neg c1] at h
    refine j_iload_n (pc := 4) dX7_away_4 rfl ?_
    refine j_aload_n (pc := 5) dX7_away_5 rfl ?_
    obtain ⟨x2, e3, h⟩ := obS h
    refine j_getR (pc := 6) dX7_away_6 (ci := 7) (kf := 1) rfl (jwi hw_X7) (by decide) (jwm lw_73) e3 ?_
    obtain ⟨x4, e5, h⟩ := obS h
    refine j_alen (pc := 9) dX7_away_9 e5 ?_
    refine j_icmp_lt (pc := 10) (tgt := 17) dX7_away_10 (by decide) (fun c6 => ?_) (fun c6 => ?_)
    · rw [if_pos c6] at h
      refine j_aload_n (pc := 17) dX7_away_17 rfl ?_
      obtain ⟨x7, e8, h⟩ := obS h
      refine j_getR (pc := 18) dX7_away_18 (ci := 7) (kf := 1) rfl (jwi hw_X7) (by decide) (jwm lw_73) e8 ?_
      refine j_iload_n (pc := 21) dX7_away_21 rfl ?_
      obtain ⟨x9, e10, h⟩ := obS h
      refine j_aald (pc := 22) dX7_away_22 e10 ?_
      obtain ⟨x11, e12, h⟩ := obS h
      refine j_getI (pc := 23) dX7_away_23 (ci := 9) (kf := 4) rfl (jwi hw_X9) (by decide) (jwm lw_488) e12 ?_
      refine j_aload_n (pc := 26) dX7_away_26 rfl ?_
      obtain ⟨x13, e14, h⟩ := obS h
      refine j_getI (pc := 27) dX7_away_27 (ci := 7) (kf := 2) rfl (jwi hw_X7) (by decide) (jwm lw_81) e14 ?_
      obtain ⟨x17, w15, e16, h⟩ := obS2 h
      have ge16 := calSR_of e16
      refine j_callSN_g (pc := 30) (As := [.int x13]) (k' := 0) (n' := 0) dX7_away_30 (s_X10_xOf ge16.1) (jgP lw_279) nst_X7_35 (jwm lw_147) (jwm lw_280) rfl hy_X10_xOf rfl (by decide) (by decide) (Nat.le_of_ble_eq_true rfl) (by decide) (by decide) (by decide) (by decide) (Or.inl ge16.2) ?_
      refine j_isub (pc := 33) dX7_away_33 ?_
      refine j_mabs (pc := 34) dX7_away_34 (jwm lw_489) (jwm lw_359) (jwm lw_177) (jwm lw_360) (Nat.le_of_ble_eq_true rfl) (Nat.le_of_ble_eq_true rfl) (by decide) (by decide) ?_
      refine j_aload_n (pc := 37) dX7_away_37 rfl ?_
      obtain ⟨x18, e19, h⟩ := obS h
      refine j_getR (pc := 38) dX7_away_38 (ci := 7) (kf := 1) rfl (jwi hw_X7) (by decide) (jwm lw_73) e19 ?_
      refine j_iload_n (pc := 41) dX7_away_41 rfl ?_
      obtain ⟨x20, e21, h⟩ := obS h
      refine j_aald (pc := 42) dX7_away_42 e21 ?_
      obtain ⟨x22, e23, h⟩ := obS h
      refine j_getI (pc := 43) dX7_away_43 (ci := 9) (kf := 5) rfl (jwi hw_X9) (by decide) (jwm lw_490) e23 ?_
      refine j_aload_n (pc := 46) dX7_away_46 rfl ?_
      obtain ⟨x24, e25, h⟩ := obS h
      refine j_getI (pc := 47) dX7_away_47 (ci := 7) (kf := 2) rfl (jwi hw_X7) (by decide) (jwm lw_81) e25 ?_
      obtain ⟨x28, w26, e27, h⟩ := obS2 h
      have ge27 := calSR_of e27
      refine j_callSN_g (pc := 50) (As := [.int x24]) (k' := 0) (n' := 0) dX7_away_50 (s_X10_yOf ge27.1) (jgP lw_281) nst_X7_47 (jwm lw_147) (jwm lw_282) rfl hy_X10_yOf rfl (by decide) (by decide) (Nat.le_of_ble_eq_true rfl) (by decide) (by decide) (by decide) (by decide) (Or.inl ge27.2) ?_
      refine j_isub (pc := 53) dX7_away_53 ?_
      refine j_mabs (pc := 54) dX7_away_54 (jwm lw_489) (jwm lw_359) (jwm lw_177) (jwm lw_360) (Nat.le_of_ble_eq_true rfl) (Nat.le_of_ble_eq_true rfl) (by decide) (by decide) ?_
      refine j_iadd (pc := 57) dX7_away_57 ?_
      obtain ⟨rfl, rfl⟩ := jretS h
      exact j_iret (pc := 58) rfl dX7_away_58 (by decide) (by decide) rfl
    · rw [if_neg c6] at h
      refine j_sipush (pc := 13) dX7_away_13 (v := 400) (by decide) ?_
      obtain ⟨rfl, rfl⟩ := jretS h
      exact j_iret (pc := 16) rfl dX7_away_16 (by decide) (by decide) rfl
theorem r_X7_away {a0 : Nat} {i1 : Int32} {ws : LWd} {o : (Int32 × LWd)} (h : m_X7_away a0 i1 ws = some o) : ∃ fs, ws[a0]? = some (.inr (7, fs)) := rcv_in h
def wsX9_step : List Cond := Cond.code yX9_step cX9_step 3 (some .boolean) :: jW
def m_X9_step_b22 (a0 : Nat) (i1 : Int32) (ws : LWd) : Option (Int32 × LWd) :=
  bn2 (calSR ws (m_X9_bestPoint a0 i1 ws)) fun x3 w1 =>
  if x3 = ((-1)) then
    some (0, w1)
  else
    (fR w1 a0 9 3).bind fun x5 =>
    (calSV w1 (m_X8_put x5 i1 x3 w1)).bind fun w7 =>
    some (1, w7)
set_option maxRecDepth 100000 in
set_option maxHeartbeats 4000000 in
theorem jm_X9_step_b22 {n0 : Nat} {rr : Int32} {ws' : LWd} (a0 : Nat) (i1 : Int32) (ws : LWd) (h : m_X9_step_b22 a0 i1 ws = some (rr, ws')) : JG (.inl false) cX9_step 3 RX9 wsX9_step (some .boolean) "step" 3 0 0 n0 (.inl (some (.int rr)), ws') 22 [some (.ref a0), some (.int i1), none] [] ws 0 0 := by
  unfold m_X9_step_b22 at h
  refine j_aload_n (pc := 22) dX9_step_22 rfl ?_
  refine j_iload_n (pc := 23) dX9_step_23 rfl ?_
  obtain ⟨x3, w1, e2, h⟩ := obS2 h
  have ge2 := calSR_of e2
  refine j_callV_g (pc := 24) (As := [.int i1]) (k' := 0) (n' := 0) dX9_step_24 (s_X9_bestPoint ge2.1) (jgV lw_491 lw_479 lw_480 lw_76 lw_477) rfl hv_X9_bestPoint rfl (r_X9_bestPoint ge2.1) rfl (by decide) (by decide) (Nat.le_of_ble_eq_true rfl) (by decide) (by decide) (by decide) (by decide) (Or.inl ge2.2) ?_
  refine j_istore_n_2 (pc := 27) dX9_step_27 (by decide) rfl ?_
  refine j_iload_n (pc := 28) dX9_step_28 rfl ?_
  refine j_iconst (pc := 29) dX9_step_29 (v := (-1)) (by decide) ?_
  refine j_icmp_ne (pc := 30) (tgt := 35) dX9_step_30 (by decide) (fun c4 => ?_) (fun c4 => ?_)
  · rw [if_neg c4] at h
    refine j_aload_n (pc := 35) dX9_step_35 rfl ?_
    obtain ⟨x5, e6, h⟩ := obS h
    refine j_getR (pc := 36) dX9_step_36 (ci := 9) (kf := 3) rfl (jwi hw_X9) (by decide) (jwm lw_39) e6 ?_
    refine j_iload_n (pc := 39) dX9_step_39 rfl ?_
    refine j_iload_n (pc := 40) dX9_step_40 rfl ?_
    obtain ⟨w7, e8, h⟩ := obS h
    have ge8 := calSV_of e8
    refine j_callV_g (pc := 41) (As := [.int i1, .int x3]) (k' := 0) (n' := 0) dX9_step_41 (s_X8_put ge8.1) (jgV lw_274 lw_159 lw_160 lw_12 lw_157) rfl hv_X8_put rfl (r_X8_put ge8.1) rfl (by decide) (by decide) (Nat.le_of_ble_eq_true rfl) (by decide) (by decide) (by decide) (by decide) (Or.inl ge8.2) ?_
    refine j_iconst (pc := 44) dX9_step_44 (v := 1) (by decide) ?_
    obtain ⟨rfl, rfl⟩ := jretS h
    exact j_zretL (pc := 45) (by decide) rfl dX9_step_45 (by decide) (by decide) rfl
  · rw [if_pos c4] at h
    refine j_iconst (pc := 33) dX9_step_33 (v := 0) (by decide) ?_
    obtain ⟨rfl, rfl⟩ := jretS h
    exact j_zretL (pc := 34) (by decide) rfl dX9_step_34 (by decide) (by decide) rfl
def m_X9_step (a0 : Nat) (i1 : Int32) (ws : LWd) : Option (Int32 × LWd) :=
  (rcv ws a0 9).bind fun _ =>
  (fR ws a0 9 3).bind fun x1 =>
  bn2 (calSR ws (m_X8_at x1 i1 ws)) fun x5 w3 =>
  if x5 = ((-1)) then
    m_X9_step_b22 a0 i1 w3
  else
    bn2 (calSR w3 (m_X9_holdsWithout a0 i1 w3)) fun x9 w7 =>
    if x9 = 0 then
      some (0, w7)
    else
      m_X9_step_b22 a0 i1 w7
set_option maxRecDepth 100000 in
set_option maxHeartbeats 4000000 in
theorem s_X9_step {a0 : Nat} {i1 : Int32} {ws : LWd} {rr : Int32} {ws' : LWd} (h : m_X9_step a0 i1 ws = some (rr, ws')) : jSp yX9_step wsX9_step 3 0 0 [.ref a0, .int i1] ws (.inl (some (.int rr)), ws') := by
  unfold m_X9_step at h
  refine j_entry (ret := (some .boolean)) (nm := "step") (own := RX9) pl_X9 rfl rfl rfl (jcats (by rfl)) (Nat.le_of_ble_eq_true rfl) ?_
  show JG (.inl false) cX9_step 3 RX9 wsX9_step (some .boolean) "step" 3 0 0 ws.length (.inl (some (.int rr)), ws') 0 [some (.ref a0), some (.int i1), none] [] ws 0 0
  obtain ⟨_, _, h⟩ := obS h
  refine j_aload_n (pc := 0) dX9_step_0 rfl ?_
  obtain ⟨x1, e2, h⟩ := obS h
  refine j_getR (pc := 1) dX9_step_1 (ci := 9) (kf := 3) rfl (jwi hw_X9) (by decide) (jwm lw_39) e2 ?_
  refine j_iload_n (pc := 4) dX9_step_4 rfl ?_
  obtain ⟨x5, w3, e4, h⟩ := obS2 h
  have ge4 := calSR_of e4
  refine j_callV_g (pc := 5) (As := [.int i1]) (k' := 0) (n' := 0) dX9_step_5 (s_X8_at ge4.1) (jgV lw_139 lw_140 lw_141 lw_12 lw_138) rfl hv_X8_at rfl (r_X8_at ge4.1) rfl (by decide) (by decide) (Nat.le_of_ble_eq_true rfl) (by decide) (by decide) (by decide) (by decide) (Or.inl ge4.2) ?_
  refine j_iconst (pc := 8) dX9_step_8 (v := (-1)) (by decide) ?_
  refine j_icmp_eq (pc := 9) (tgt := 22) dX9_step_9 (by decide) (fun c6 => ?_) (fun c6 => ?_)
  · rw [if_pos c6] at h
    exact jm_X9_step_b22 _ _ w3 h
  · rw [if_neg c6] at h
    refine j_aload_n (pc := 12) dX9_step_12 rfl ?_
    refine j_iload_n (pc := 13) dX9_step_13 rfl ?_
    obtain ⟨x9, w7, e8, h⟩ := obS2 h
    have ge8 := calSR_of e8
    refine j_callV_g (pc := 14) (As := [.int i1]) (k' := 0) (n' := 0) dX9_step_14 (s_X9_holdsWithout ge8.1) (jgV lw_401 lw_245 lw_246 lw_76 lw_243) rfl hv_X9_holdsWithout rfl (r_X9_holdsWithout ge8.1) rfl (by decide) (by decide) (Nat.le_of_ble_eq_true rfl) (by decide) (by decide) (by decide) (by decide) (Or.inl ge8.2) ?_
    refine j_if_ne (pc := 17) (tgt := 22) dX9_step_17 (by decide) (fun c10 => ?_) (fun c10 => ?_)
    · rw [if_neg c10] at h
      exact jm_X9_step_b22 _ _ w7 h
    · rw [if_pos c10] at h
      refine j_iconst (pc := 20) dX9_step_20 (v := 0) (by decide) ?_
      obtain ⟨rfl, rfl⟩ := jretS h
      exact j_zretL (pc := 21) (by decide) rfl dX9_step_21 (by decide) (by decide) rfl
theorem r_X9_step {a0 : Nat} {i1 : Int32} {ws : LWd} {o : (Int32 × LWd)} (h : m_X9_step a0 i1 ws = some o) : ∃ fs, ws[a0]? = some (.inr (9, fs)) := rcv_in h
def wsX7_isMade : List Cond := Cond.code yX7_isMade cX7_isMade 4 (some .boolean) :: jW
def m_X7_isMade (a0 : Nat) (i1 : Int32) (i2 : Int32) (ws : LWd) : Option (Int32 × LWd) :=
  (rcv ws a0 7).bind fun _ =>
  if i1 < 0 then
    some (0, ws)
  else
    (fR ws a0 7 1).bind fun x2 =>
    (aL ws x2).bind fun x4 =>
    if (i1 + 1) < x4 then
      (fR ws a0 7 1).bind fun x7 =>
      (aR ws x7 (i1 + 1)).bind fun x9 =>
      (fR ws a0 7 1).bind fun x11 =>
      (aR ws x11 i1).bind fun x13 =>
      (calSV ws (m_X9_copy x9 x13 ws)).bind fun w15 =>
      if (i2 - 6) = 0 then
        bn2 (calSR w15 (m_X9_moveBody x9 ((-1)) 0 w15)) fun x20 w18 =>
        retZ x20 w18
      else
        if (i2 - 6) = 1 then
          bn2 (calSR w15 (m_X9_moveBody x9 1 0 w15)) fun x24 w22 =>
          retZ x24 w22
        else
          if (i2 - 6) = 2 then
            bn2 (calSR w15 (m_X9_moveBody x9 0 ((-1)) w15)) fun x28 w26 =>
            retZ x28 w26
          else
            if (i2 - 6) = 3 then
              bn2 (calSR w15 (m_X9_moveBody x9 0 1 w15)) fun x32 w30 =>
              retZ x32 w30
            else
              (fR w15 a0 7 0).bind fun x33 =>
              (fI w15 x33 2 3).bind fun x35 =>
              if x35 ≤ i2 then
                some (0, w15)
              else
                bn2 (calSR w15 (m_X9_step x9 i2 w15)) fun x40 w38 =>
                if x40 = 0 then
                  some (0, w38)
                else
                  some (1, w38)
    else
      some (0, ws)
set_option maxRecDepth 100000 in
set_option maxHeartbeats 4000000 in
theorem s_X7_isMade {a0 : Nat} {i1 : Int32} {i2 : Int32} {ws : LWd} {rr : Int32} {ws' : LWd} (h : m_X7_isMade a0 i1 i2 ws = some (rr, ws')) : jSp yX7_isMade wsX7_isMade 4 0 0 [.ref a0, .int i1, .int i2] ws (.inl (some (.int rr)), ws') := by
  unfold m_X7_isMade at h
  refine j_entry (ret := (some .boolean)) (nm := "isMade") (own := RX7) pl_X7 rfl rfl rfl (jcats (by rfl)) (Nat.le_of_ble_eq_true rfl) ?_
  show JG (.inl false) cX7_isMade 4 RX7 wsX7_isMade (some .boolean) "isMade" 4 0 0 ws.length (.inl (some (.int rr)), ws') 0 [some (.ref a0), some (.int i1), some (.int i2), none] [] ws 0 0
  obtain ⟨_, _, h⟩ := obS h
  refine j_iload_n (pc := 0) dX7_isMade_0 rfl ?_
  refine j_if_lt (pc := 1) (tgt := 15) dX7_isMade_1 (by decide) (fun c1 => ?_) (fun c1 => ?_)
  · rw [if_pos c1] at h
    refine j_iconst (pc := 15) dX7_isMade_15 (v := 0) (by decide) ?_
    obtain ⟨rfl, rfl⟩ := jretS h
    exact j_zretL (pc := 16) (by decide) rfl dX7_isMade_16 (by decide) (by decide) rfl
  · rw [if_neg c1] at h
    refine j_iload_n (pc := 4) dX7_isMade_4 rfl ?_
    refine j_iconst (pc := 5) dX7_isMade_5 (v := 1) (by decide) ?_
    refine j_iadd (pc := 6) dX7_isMade_6 ?_
    refine j_aload_n (pc := 7) dX7_isMade_7 rfl ?_
    obtain ⟨x2, e3, h⟩ := obS h
    refine j_getR (pc := 8) dX7_isMade_8 (ci := 7) (kf := 1) rfl (jwi hw_X7) (by decide) (jwm lw_73) e3 ?_
    obtain ⟨x4, e5, h⟩ := obS h
    refine j_alen (pc := 11) dX7_isMade_11 e5 ?_
    refine j_icmp_lt (pc := 12) (tgt := 17) dX7_isMade_12 (by decide) (fun c6 => ?_) (fun c6 => ?_)
    · rw [if_pos c6] at h
      refine j_aload_n (pc := 17) dX7_isMade_17 rfl ?_
      obtain ⟨x7, e8, h⟩ := obS h
      refine j_getR (pc := 18) dX7_isMade_18 (ci := 7) (kf := 1) rfl (jwi hw_X7) (by decide) (jwm lw_73) e8 ?_
      refine j_iload_n (pc := 21) dX7_isMade_21 rfl ?_
      refine j_iconst (pc := 22) dX7_isMade_22 (v := 1) (by decide) ?_
      refine j_iadd (pc := 23) dX7_isMade_23 ?_
      obtain ⟨x9, e10, h⟩ := obS h
      refine j_aald (pc := 24) dX7_isMade_24 e10 ?_
      refine j_astore_n_3 (pc := 25) dX7_isMade_25 (by decide) rfl ?_
      refine j_aload_n (pc := 26) dX7_isMade_26 rfl ?_
      refine j_aload_n (pc := 27) dX7_isMade_27 rfl ?_
      obtain ⟨x11, e12, h⟩ := obS h
      refine j_getR (pc := 28) dX7_isMade_28 (ci := 7) (kf := 1) rfl (jwi hw_X7) (by decide) (jwm lw_73) e12 ?_
      refine j_iload_n (pc := 31) dX7_isMade_31 rfl ?_
      obtain ⟨x13, e14, h⟩ := obS h
      refine j_aald (pc := 32) dX7_isMade_32 e14 ?_
      obtain ⟨w15, e16, h⟩ := obS h
      have ge16 := calSV_of e16
      refine j_callV_g (pc := 33) (As := [.ref x13]) (k' := 0) (n' := 0) dX7_isMade_33 (s_X9_copy ge16.1) (jgV lw_487 lw_341 lw_342 lw_76 lw_339) rfl hv_X9_copy rfl (r_X9_copy ge16.1) rfl (by decide) (by decide) (Nat.le_of_ble_eq_true rfl) (by decide) (by decide) (by decide) (by decide) (Or.inl ge16.2) ?_
      refine j_iload_n (pc := 36) dX7_isMade_36 rfl ?_
      refine j_bipush (pc := 37) dX7_isMade_37 (v := 6) (by decide) ?_
      refine j_isub (pc := 39) dX7_isMade_39 ?_
      by_cases c17 : (i2 - 6) = 0
      · rw [if_pos c17] at h
        refine j_tabEq (pc := 40) (tgt := 72) (a := 0) dX7_isMade_40 c17 rfl (by decide) (by decide) rfl (by decide) ?_
        refine j_aload_n (pc := 72) dX7_isMade_72 rfl ?_
        refine j_iconst (pc := 73) dX7_isMade_73 (v := (-1)) (by decide) ?_
        refine j_iconst (pc := 74) dX7_isMade_74 (v := 0) (by decide) ?_
        obtain ⟨x20, w18, e19, h⟩ := obS2 h
        have ge19 := calSR_of e19
        refine j_callV_g (pc := 75) (As := [.int ((-1)), .int 0]) (k' := 0) (n' := 0) dX7_isMade_75 (s_X9_moveBody ge19.1) (jgV lw_492 lw_407 lw_408 lw_76 lw_405) rfl hv_X9_moveBody rfl (r_X9_moveBody ge19.1) rfl (by decide) (by decide) (Nat.le_of_ble_eq_true rfl) (by decide) (by decide) (by decide) (by decide) (Or.inl ge19.2) ?_
        exact j_zret (pc := 78) rfl dX7_isMade_78 (by decide) (by decide) h rfl rfl
      · rw [if_neg c17] at h
        by_cases c21 : (i2 - 6) = 1
        · rw [if_pos c21] at h
          refine j_tabEq (pc := 40) (tgt := 79) (a := 1) dX7_isMade_40 c21 rfl (by decide) (by decide) rfl (by decide) ?_
          refine j_aload_n (pc := 79) dX7_isMade_79 rfl ?_
          refine j_iconst (pc := 80) dX7_isMade_80 (v := 1) (by decide) ?_
          refine j_iconst (pc := 81) dX7_isMade_81 (v := 0) (by decide) ?_
          obtain ⟨x24, w22, e23, h⟩ := obS2 h
          have ge23 := calSR_of e23
          refine j_callV_g (pc := 82) (As := [.int 1, .int 0]) (k' := 0) (n' := 0) dX7_isMade_82 (s_X9_moveBody ge23.1) (jgV lw_492 lw_407 lw_408 lw_76 lw_405) rfl hv_X9_moveBody rfl (r_X9_moveBody ge23.1) rfl (by decide) (by decide) (Nat.le_of_ble_eq_true rfl) (by decide) (by decide) (by decide) (by decide) (Or.inl ge23.2) ?_
          exact j_zret (pc := 85) rfl dX7_isMade_85 (by decide) (by decide) h rfl rfl
        · rw [if_neg c21] at h
          by_cases c25 : (i2 - 6) = 2
          · rw [if_pos c25] at h
            refine j_tabEq (pc := 40) (tgt := 86) (a := 2) dX7_isMade_40 c25 rfl (by decide) (by decide) rfl (by decide) ?_
            refine j_aload_n (pc := 86) dX7_isMade_86 rfl ?_
            refine j_iconst (pc := 87) dX7_isMade_87 (v := 0) (by decide) ?_
            refine j_iconst (pc := 88) dX7_isMade_88 (v := (-1)) (by decide) ?_
            obtain ⟨x28, w26, e27, h⟩ := obS2 h
            have ge27 := calSR_of e27
            refine j_callV_g (pc := 89) (As := [.int 0, .int ((-1))]) (k' := 0) (n' := 0) dX7_isMade_89 (s_X9_moveBody ge27.1) (jgV lw_492 lw_407 lw_408 lw_76 lw_405) rfl hv_X9_moveBody rfl (r_X9_moveBody ge27.1) rfl (by decide) (by decide) (Nat.le_of_ble_eq_true rfl) (by decide) (by decide) (by decide) (by decide) (Or.inl ge27.2) ?_
            exact j_zret (pc := 92) rfl dX7_isMade_92 (by decide) (by decide) h rfl rfl
          · rw [if_neg c25] at h
            by_cases c29 : (i2 - 6) = 3
            · rw [if_pos c29] at h
              refine j_tabEq (pc := 40) (tgt := 93) (a := 3) dX7_isMade_40 c29 rfl (by decide) (by decide) rfl (by decide) ?_
              refine j_aload_n (pc := 93) dX7_isMade_93 rfl ?_
              refine j_iconst (pc := 94) dX7_isMade_94 (v := 0) (by decide) ?_
              refine j_iconst (pc := 95) dX7_isMade_95 (v := 1) (by decide) ?_
              obtain ⟨x32, w30, e31, h⟩ := obS2 h
              have ge31 := calSR_of e31
              refine j_callV_g (pc := 96) (As := [.int 0, .int 1]) (k' := 0) (n' := 0) dX7_isMade_96 (s_X9_moveBody ge31.1) (jgV lw_492 lw_407 lw_408 lw_76 lw_405) rfl hv_X9_moveBody rfl (r_X9_moveBody ge31.1) rfl (by decide) (by decide) (Nat.le_of_ble_eq_true rfl) (by decide) (by decide) (by decide) (by decide) (Or.inl ge31.2) ?_
              exact j_zret (pc := 99) rfl dX7_isMade_99 (by decide) (by decide) h rfl rfl
            · rw [if_neg c29] at h
              refine j_tabOut (pc := 40) (tgt := 100) dX7_isMade_40 (jout4 c17 c21 c25 c29) (by decide) ?_
              refine j_iload_n (pc := 100) dX7_isMade_100 rfl ?_
              refine j_aload_n (pc := 101) dX7_isMade_101 rfl ?_
              obtain ⟨x33, e34, h⟩ := obS h
              refine j_getR (pc := 102) dX7_isMade_102 (ci := 7) (kf := 0) rfl (jwi hw_X7) (by decide) (jwm lw_82) e34 ?_
              obtain ⟨x35, e36, h⟩ := obS h
              refine j_getI (pc := 105) dX7_isMade_105 (ci := 2) (kf := 3) rfl (jwi hw_X2) (by decide) (jwm lw_493) e36 ?_
              refine j_icmp_ge (pc := 108) (tgt := 123) dX7_isMade_108 (by decide) (fun c37 => ?_) (fun c37 => ?_)
              · rw [if_pos c37] at h
                refine j_iconst (pc := 123) dX7_isMade_123 (v := 0) (by decide) ?_
                obtain ⟨rfl, rfl⟩ := jretS h
                exact j_zretL (pc := 124) (by decide) rfl dX7_isMade_124 (by decide) (by decide) rfl
              · rw [if_neg c37] at h
                refine j_aload_n (pc := 111) dX7_isMade_111 rfl ?_
                refine j_iload_n (pc := 112) dX7_isMade_112 rfl ?_
                obtain ⟨x40, w38, e39, h⟩ := obS2 h
                have ge39 := calSR_of e39
                refine j_callV_g (pc := 113) (As := [.int i2]) (k' := 0) (n' := 0) dX7_isMade_113 (s_X9_step ge39.1) (jgV lw_495 lw_496 lw_497 lw_76 lw_494) rfl hv_X9_step rfl (r_X9_step ge39.1) rfl (by decide) (by decide) (Nat.le_of_ble_eq_true rfl) (by decide) (by decide) (by decide) (by decide) (Or.inl ge39.2) ?_
                refine j_if_eq (pc := 116) (tgt := 123) dX7_isMade_116 (by decide) (fun c41 => ?_) (fun c41 => ?_)
                · rw [if_pos c41] at h
                  refine j_iconst (pc := 123) dX7_isMade_123 (v := 0) (by decide) ?_
                  obtain ⟨rfl, rfl⟩ := jretS h
                  exact j_zretL (pc := 124) (by decide) rfl dX7_isMade_124 (by decide) (by decide) rfl
                · rw [if_neg c41] at h
                  refine j_iconst (pc := 119) dX7_isMade_119 (v := 1) (by decide) ?_
                  refine j_goto (pc := 120) (tgt := 124) dX7_isMade_120 (by decide) ?_
                  obtain ⟨rfl, rfl⟩ := jretS h
                  exact j_zretL (pc := 124) (by decide) rfl dX7_isMade_124 (by decide) (by decide) rfl
    · rw [if_neg c6] at h
      refine j_iconst (pc := 15) dX7_isMade_15 (v := 0) (by decide) ?_
      obtain ⟨rfl, rfl⟩ := jretS h
      exact j_zretL (pc := 16) (by decide) rfl dX7_isMade_16 (by decide) (by decide) rfl
theorem r_X7_isMade {a0 : Nat} {i1 : Int32} {i2 : Int32} {ws : LWd} {o : (Int32 × LWd)} (h : m_X7_isMade a0 i1 i2 ws = some o) : ∃ fs, ws[a0]? = some (.inr (7, fs)) := rcv_in h
def wsX10_isReachedBy : List Cond := Cond.code yX10_isReachedBy cX10_isReachedBy 5 (some .boolean) :: jW
def m_X10_isReachedBy_b59 (self : Nat → Int32 → Int32 → LWd → Option (Int32 × LWd)) (k27 : Nat → Int32 → Int32 → Int32 → LWd → Option (Int32 × LWd)) (a0 : Nat) (i1 : Int32) (i2 : Int32) (i4 : Int32) (ws : LWd) : Option (Int32 × LWd) :=
  k27 a0 i1 i2 (i4 + 1) ws
set_option maxRecDepth 100000 in
set_option maxHeartbeats 4000000 in
theorem jm_X10_isReachedBy_b59 {dd : Nat} {self : Nat → Int32 → Int32 → LWd → Option (Int32 × LWd)} {n0 : Nat} {rr : Int32} {ws' : LWd} (hself : ∀ (a0 : Nat) (i1 : Int32) (i2 : Int32) (ws : LWd) (rr : Int32) (ws' : LWd), self a0 i1 i2 ws = some (rr, ws') → jSp yX10_isReachedBy wsX10_isReachedBy (5 + dd - 1) 0 0 [.ref a0, .int i1, .int i2] ws (.inl (some (.int rr)), ws')) {k27 : Nat → Int32 → Int32 → Int32 → LWd → Option (Int32 × LWd)} (hk27 : ∀ (a0 : Nat) (i1 : Int32) (i2 : Int32) (i4 : Int32) (ws : LWd), k27 a0 i1 i2 i4 ws = some (rr, ws') → JG (.inl false) cX10_isReachedBy 5 RX10 wsX10_isReachedBy (some .boolean) "isReachedBy" (5 + dd) 0 0 n0 (.inl (some (.int rr)), ws') 27 [some (.ref a0), some (.int i1), some (.int i2), none, some (.int i4)] [] ws 0 0) (a0 : Nat) (i1 : Int32) (i2 : Int32) (i4 : Int32) (ws : LWd) (h : m_X10_isReachedBy_b59 self k27 a0 i1 i2 i4 ws = some (rr, ws')) : JG (.inl false) cX10_isReachedBy 5 RX10 wsX10_isReachedBy (some .boolean) "isReachedBy" (5 + dd) 0 0 n0 (.inl (some (.int rr)), ws') 59 [some (.ref a0), some (.int i1), some (.int i2), none, some (.int i4)] [] ws 0 0 := by
  unfold m_X10_isReachedBy_b59 at h
  refine j_iinc_4 (pc := 59) dX10_isReachedBy_59 (y := i4 + 1) rfl (by decide) rfl ?_
  refine j_goto (pc := 62) (tgt := 27) dX10_isReachedBy_62 (by decide) ?_
  exact hk27 _ _ _ _ ws h
def m_X10_isReachedBy_l27 (self : Nat → Int32 → Int32 → LWd → Option (Int32 × LWd)) : Nat → Nat → Int32 → Int32 → Int32 → LWd → Option (Int32 × LWd)
  | 0, _, _, _, _, _ => none
  | fu + 1, a0, i1, i2, i4, ws =>
    if 10 ≤ i4 then
      some (0, ws)
    else
      bn2 (calSR ws (m_X7_isMade a0 i1 i4 ws)) fun x4 w2 =>
      if x4 = 0 then
        m_X10_isReachedBy_b59 self (fun z0 z1 z2 z3 w => m_X10_isReachedBy_l27 self fu z0 z1 z2 z3 w) a0 i1 i2 i4 w2
      else
        bn2 (calSR w2 (self a0 (i1 + 1) (i2 - 1) w2)) fun x8 w6 =>
        if x8 = 0 then
          m_X10_isReachedBy_b59 self (fun z0 z1 z2 z3 w => m_X10_isReachedBy_l27 self fu z0 z1 z2 z3 w) a0 i1 i2 i4 w6
        else
          some (1, w6)
set_option maxRecDepth 100000 in
set_option maxHeartbeats 4000000 in
theorem jm_X10_isReachedBy_l27 {dd : Nat} {self : Nat → Int32 → Int32 → LWd → Option (Int32 × LWd)} {n0 : Nat} {rr : Int32} {ws' : LWd} (hself : ∀ (a0 : Nat) (i1 : Int32) (i2 : Int32) (ws : LWd) (rr : Int32) (ws' : LWd), self a0 i1 i2 ws = some (rr, ws') → jSp yX10_isReachedBy wsX10_isReachedBy (5 + dd - 1) 0 0 [.ref a0, .int i1, .int i2] ws (.inl (some (.int rr)), ws')) : ∀ (fu : Nat) (a0 : Nat) (i1 : Int32) (i2 : Int32) (i4 : Int32) (ws : LWd), m_X10_isReachedBy_l27 self fu a0 i1 i2 i4 ws = some (rr, ws') → JG (.inl false) cX10_isReachedBy 5 RX10 wsX10_isReachedBy (some .boolean) "isReachedBy" (5 + dd) 0 0 n0 (.inl (some (.int rr)), ws') 27 [some (.ref a0), some (.int i1), some (.int i2), none, some (.int i4)] [] ws 0 0 := by
  intro fu
  induction fu with
  | zero => intro a0 i1 i2 i4 ws h; cases h
  | succ fu ih =>
    intro a0 i1 i2 i4 ws h
    rw [m_X10_isReachedBy_l27] at h
    refine j_iload (pc := 27) dX10_isReachedBy_27 rfl ?_
    refine j_bipush (pc := 29) dX10_isReachedBy_29 (v := 10) (by decide) ?_
    refine j_icmp_ge (pc := 31) (tgt := 65) dX10_isReachedBy_31 (by decide) (fun c1 => ?_) (fun c1 => ?_)
    · rw [if_pos c1] at h
      refine j_iconst (pc := 65) dX10_isReachedBy_65 (v := 0) (by decide) ?_
      obtain ⟨rfl, rfl⟩ := jretS h
      exact j_zretL (pc := 66) (by decide) rfl dX10_isReachedBy_66 (by decide) (by decide) rfl
    · rw [if_neg c1] at h
      refine j_aload_n (pc := 34) dX10_isReachedBy_34 rfl ?_
      refine j_iload_n (pc := 35) dX10_isReachedBy_35 rfl ?_
      refine j_iload (pc := 36) dX10_isReachedBy_36 rfl ?_
      obtain ⟨x4, w2, e3, h⟩ := obS2 h
      have ge3 := calSR_of e3
      refine j_callV_g (pc := 38) (As := [.int i1, .int i4]) (k' := 0) (n' := 0) dX10_isReachedBy_38 (s_X7_isMade ge3.1) (jgV lw_499 lw_500 lw_501 lw_131 lw_498) rfl hv_X7_isMade rfl (r_X7_isMade ge3.1) rfl (by omega) (by decide) (Nat.le_of_ble_eq_true rfl) (by decide) (by decide) (by decide) (by decide) (Or.inl ge3.2) ?_
      refine j_if_eq (pc := 41) (tgt := 59) dX10_isReachedBy_41 (by decide) (fun c5 => ?_) (fun c5 => ?_)
      · rw [if_pos c5] at h
        exact jm_X10_isReachedBy_b59 (hself := hself) (hk27 := ih) _ _ _ _ w2 h
      · rw [if_neg c5] at h
        refine j_aload_n (pc := 44) dX10_isReachedBy_44 rfl ?_
        refine j_iload_n (pc := 45) dX10_isReachedBy_45 rfl ?_
        refine j_iconst (pc := 46) dX10_isReachedBy_46 (v := 1) (by decide) ?_
        refine j_iadd (pc := 47) dX10_isReachedBy_47 ?_
        refine j_iload_n (pc := 48) dX10_isReachedBy_48 rfl ?_
        refine j_iconst (pc := 49) dX10_isReachedBy_49 (v := 1) (by decide) ?_
        refine j_isub (pc := 50) dX10_isReachedBy_50 ?_
        obtain ⟨x8, w6, e7, h⟩ := obS2 h
        have ge7 := calSR_of e7
        refine j_callS_g (pc := 51) (As := [.ref a0, .int (i1 + 1), .int (i2 - 1)]) (k' := 0) (n' := 0) dX10_isReachedBy_51 (hself _ _ _ w2 _ _ ge7.1) (jgS lw_503 lw_504 lw_147 lw_502) rfl hy_X10_isReachedBy rfl (by omega) (by decide) (Nat.le_of_ble_eq_true rfl) (by decide) (by decide) (by decide) (by decide) (Or.inl ge7.2) ?_
        refine j_if_eq (pc := 54) (tgt := 59) dX10_isReachedBy_54 (by decide) (fun c9 => ?_) (fun c9 => ?_)
        · rw [if_pos c9] at h
          exact jm_X10_isReachedBy_b59 (hself := hself) (hk27 := ih) _ _ _ _ w6 h
        · rw [if_neg c9] at h
          refine j_iconst (pc := 57) dX10_isReachedBy_57 (v := 1) (by decide) ?_
          obtain ⟨rfl, rfl⟩ := jretS h
          exact j_zretL (pc := 58) (by decide) rfl dX10_isReachedBy_58 (by decide) (by decide) rfl
def m_X10_isReachedBy_o (self : Nat → Int32 → Int32 → LWd → Option (Int32 × LWd)) (a0 : Nat) (i1 : Int32) (i2 : Int32) (ws : LWd) : Option (Int32 × LWd) :=
  bn2 (calSR ws (m_X7_away a0 i1 ws)) fun x3 w1 =>
  if x3 = 0 then
    some (1, w1)
  else
    if i2 < x3 then
      some (0, w1)
    else
      if i1 < 3 then
        m_X10_isReachedBy_l27 self FU a0 i1 i2 0 w1
      else
        some (0, w1)
def m_X10_isReachedBy : Nat → Nat → Int32 → Int32 → LWd → Option (Int32 × LWd)
  | 0, _, _, _, _ => none
  | dd + 1, a0, i1, i2, ws => m_X10_isReachedBy_o (m_X10_isReachedBy dd) a0 i1 i2 ws
set_option maxRecDepth 100000 in
set_option maxHeartbeats 4000000 in
theorem s_X10_isReachedBy : ∀ (dd : Nat) (a0 : Nat) (i1 : Int32) (i2 : Int32) (ws : LWd) (rr : Int32) (ws' : LWd), m_X10_isReachedBy dd a0 i1 i2 ws = some (rr, ws') → jSp yX10_isReachedBy wsX10_isReachedBy (5 + dd) 0 0 [.ref a0, .int i1, .int i2] ws (.inl (some (.int rr)), ws') := by
  intro dd
  induction dd with
  | zero => intro a0 i1 i2 ws rr ws' h; cases h
  | succ dd ih =>
    intro a0 i1 i2 ws rr ws' h
    have hself := ih
    rw [m_X10_isReachedBy] at h
    generalize m_X10_isReachedBy dd = self at h hself
    unfold m_X10_isReachedBy_o at h
    refine j_entry (ret := (some .boolean)) (nm := "isReachedBy") (own := RX10) pl_X10 rfl rfl rfl (jcats (by rfl)) (Nat.le_of_ble_eq_true rfl) ?_
    show JG (.inl false) cX10_isReachedBy 5 RX10 wsX10_isReachedBy (some .boolean) "isReachedBy" (5 + (dd + 1)) 0 0 ws.length (.inl (some (.int rr)), ws') 0 [some (.ref a0), some (.int i1), some (.int i2), none, none] [] ws 0 0
    have hself : ∀ (a0 : Nat) (i1 : Int32) (i2 : Int32) (ws : LWd) (rr : Int32) (ws' : LWd), self a0 i1 i2 ws = some (rr, ws') → jSp yX10_isReachedBy wsX10_isReachedBy (5 + (dd + 1) - 1) 0 0 [.ref a0, .int i1, .int i2] ws (.inl (some (.int rr)), ws') := hself
    refine j_aload_n (pc := 0) dX10_isReachedBy_0 rfl ?_
    refine j_iload_n (pc := 1) dX10_isReachedBy_1 rfl ?_
    obtain ⟨x3, w1, e2, h⟩ := obS2 h
    have ge2 := calSR_of e2
    refine j_callV_g (pc := 2) (As := [.int i1]) (k' := 0) (n' := 0) dX10_isReachedBy_2 (s_X7_away ge2.1) (jgV lw_506 lw_507 lw_508 lw_131 lw_505) rfl hv_X7_away rfl (r_X7_away ge2.1) rfl (by omega) (by decide) (Nat.le_of_ble_eq_true rfl) (by decide) (by decide) (by decide) (by decide) (Or.inl ge2.2) ?_
    refine j_istore_n_3 (pc := 5) dX10_isReachedBy_5 (by decide) rfl ?_
    refine j_iload_n (pc := 6) dX10_isReachedBy_6 rfl ?_
    refine j_if_ne (pc := 7) (tgt := 12) dX10_isReachedBy_7 (by decide) (fun c4 => ?_) (fun c4 => ?_)
    · rw [if_neg c4] at h
      refine j_iload_n (pc := 12) dX10_isReachedBy_12 rfl ?_
      refine j_iload_n (pc := 13) dX10_isReachedBy_13 rfl ?_
      refine j_icmp_gt (pc := 14) (tgt := 22) dX10_isReachedBy_14 (by decide) (fun c5 => ?_) (fun c5 => ?_)
      · rw [if_pos c5] at h
        refine j_iconst (pc := 22) dX10_isReachedBy_22 (v := 0) (by decide) ?_
        obtain ⟨rfl, rfl⟩ := jretS h
        exact j_zretL (pc := 23) (by decide) rfl dX10_isReachedBy_23 (by decide) (by decide) rfl
      · rw [if_neg c5] at h
        refine j_iload_n (pc := 17) dX10_isReachedBy_17 rfl ?_
        refine j_iconst (pc := 18) dX10_isReachedBy_18 (v := 3) (by decide) ?_
        refine j_icmp_lt (pc := 19) (tgt := 24) dX10_isReachedBy_19 (by decide) (fun c6 => ?_) (fun c6 => ?_)
        · rw [if_pos c6] at h
          refine j_iconst (pc := 24) dX10_isReachedBy_24 (v := 0) (by decide) ?_
          refine j_istore_4 (pc := 25) dX10_isReachedBy_25 (by decide) rfl ?_
          refine j_mask [true, true, true, false, true] ?_
          exact jm_X10_isReachedBy_l27 (hself := hself) FU _ _ _ _ w1 h
        · rw [if_neg c6] at h
          refine j_iconst (pc := 22) dX10_isReachedBy_22 (v := 0) (by decide) ?_
          obtain ⟨rfl, rfl⟩ := jretS h
          exact j_zretL (pc := 23) (by decide) rfl dX10_isReachedBy_23 (by decide) (by decide) rfl
    · rw [if_pos c4] at h
      refine j_iconst (pc := 10) dX10_isReachedBy_10 (v := 1) (by decide) ?_
      obtain ⟨rfl, rfl⟩ := jretS h
      exact j_zretL (pc := 11) (by decide) rfl dX10_isReachedBy_11 (by decide) (by decide) rfl
def wsX10_fewest : List Cond := Cond.code yX10_fewest cX10_fewest 5 (some .int) :: jW
def m_X10_fewest_l52 : Nat → Nat → Int32 → LWd → Option ((Int32 ⊕ String) × LWd)
  | 0, _, _, _ => none
  | fu + 1, a0, i4, ws =>
    if 3 < i4 then
      some (.inl ((-1)), ws)
    else
      (fR ws a0 10 8).bind fun x2 =>
      bn2 (calSR ws (m_X10_isReachedBy 4 x2 0 i4 ws)) fun x6 w4 =>
      if x6 = 0 then
        m_X10_fewest_l52 fu a0 (i4 + 1) w4
      else
        some (.inl i4, w4)
set_option maxRecDepth 100000 in
set_option maxHeartbeats 4000000 in
theorem jm_X10_fewest_l52 {n0 : Nat} {rr : Int32 ⊕ String} {ws' : LWd} : ∀ (fu : Nat) (a0 : Nat) (i4 : Int32) (ws : LWd) (hn0 : ws.length = n0), m_X10_fewest_l52 fu a0 i4 ws = some (rr, ws') → JG (.inl true) cX10_fewest 5 RX10 wsX10_fewest (some .int) "fewest" 10 1 6 n0 (jthr rr, ws') 52 [some (.ref a0), none, none, none, some (.int i4)] [] ws 0 0 := by
  intro fu
  induction fu with
  | zero => intro a0 i4 ws hn0 h; cases h
  | succ fu ih =>
    intro a0 i4 ws hn0 h
    rw [m_X10_fewest_l52] at h
    refine j_iload (pc := 52) dX10_fewest_52 rfl ?_
    refine j_iconst (pc := 54) dX10_fewest_54 (v := 3) (by decide) ?_
    refine j_icmp_gt (pc := 55) (tgt := 80) dX10_fewest_55 (by decide) (fun c1 => ?_) (fun c1 => ?_)
    · rw [if_pos c1] at h
      refine j_iconst (pc := 80) dX10_fewest_80 (v := (-1)) (by decide) ?_
      obtain ⟨rfl, rfl⟩ := jretS h
      exact j_iret (pc := 81) rfl dX10_fewest_81 (by decide) (by decide) rfl
    · rw [if_neg c1] at h
      refine j_aload_n (pc := 58) dX10_fewest_58 rfl ?_
      obtain ⟨x2, e3, h⟩ := obS h
      refine j_getR (pc := 59) dX10_fewest_59 (ci := 10) (kf := 8) rfl (jwi hw_X10) (by decide) (jwm lw_135) e3 ?_
      refine j_iconst (pc := 62) dX10_fewest_62 (v := 0) (by decide) ?_
      refine j_iload (pc := 63) dX10_fewest_63 rfl ?_
      obtain ⟨x6, w4, e5, h⟩ := obS2 h
      have ge5 := calSR_of e5
      have le5 := ge5.2
      refine j_callS_g (pc := 65) (As := [.ref x2, .int 0, .int i4]) (k' := 0) (n' := 0) dX10_fewest_65 (s_X10_isReachedBy 4 _ _ _ ws _ _ ge5.1) (jgS lw_503 lw_504 lw_147 lw_502) rfl hy_X10_isReachedBy rfl (by decide) (by decide) (Nat.le_of_ble_eq_true rfl) (by decide) (by decide) (by decide) (by decide) (Or.inl ge5.2) ?_
      refine j_if_eq (pc := 68) (tgt := 74) dX10_fewest_68 (by decide) (fun c7 => ?_) (fun c7 => ?_)
      · rw [if_pos c7] at h
        refine j_iinc_4 (pc := 74) dX10_fewest_74 (y := i4 + 1) rfl (by decide) rfl ?_
        refine j_goto (pc := 77) (tgt := 52) dX10_fewest_77 (by decide) ?_
        exact ih _ _ w4 (by omega) h
      · rw [if_neg c7] at h
        refine j_iload (pc := 71) dX10_fewest_71 rfl ?_
        obtain ⟨rfl, rfl⟩ := jretS h
        exact j_iret (pc := 73) rfl dX10_fewest_73 (by decide) (by decide) rfl
def m_X10_fewest (a0 : Nat) (i1 : Int32) (i2 : Int32) (ws : LWd) : Option ((Int32 ⊕ String) × LWd) :=
  (rcv ws a0 10).bind fun _ =>
  bn2 (calSR ws (m_X10_pointAt i1 i2 ws)) fun x3 w1 =>
  if x3 = ((-1)) then
    some (.inr "java/lang/IllegalArgumentException", w1)
  else
    (fI w1 a0 10 9).bind fun x5 =>
    if x5 = 0 then
      some (.inl ((-1)), w1)
    else
      (fR w1 a0 10 8).bind fun x8 =>
      (fR w1 a0 10 2).bind fun x10 =>
      (calSV w1 (m_X7_start x8 x10 x3 w1)).bind fun w12 =>
      (fR w12 a0 10 8).bind fun x14 =>
      bn2 (calSR w12 (m_X7_away x14 0 w12)) fun x18 w16 =>
      m_X10_fewest_l52 FU a0 x18 w16
set_option maxRecDepth 100000 in
set_option maxHeartbeats 4000000 in
theorem s_X10_fewest {a0 : Nat} {i1 : Int32} {i2 : Int32} {ws : LWd} {rr : Int32 ⊕ String} {ws' : LWd} (h : m_X10_fewest a0 i1 i2 ws = some (rr, ws')) : jSX yX10_fewest wsX10_fewest 10 1 6 [.ref a0, .int i1, .int i2] ws (jthr rr, ws') := by
  unfold m_X10_fewest at h
  refine j_entryX (ret := (some .int)) (nm := "fewest") (own := RX10) pl_X10 rfl rfl rfl (jcats (by rfl)) (Nat.le_of_ble_eq_true rfl) ?_
  show JG (.inl true) cX10_fewest 5 RX10 wsX10_fewest (some .int) "fewest" 10 1 6 ws.length (jthr rr, ws') 0 [some (.ref a0), some (.int i1), some (.int i2), none, none] [] ws 0 0
  obtain ⟨_, _, h⟩ := obS h
  refine j_iload_n (pc := 0) dX10_fewest_0 rfl ?_
  refine j_iload_n (pc := 1) dX10_fewest_1 rfl ?_
  obtain ⟨x3, w1, e2, h⟩ := obS2 h
  have ge2 := calSR_of e2
  have le2 := ge2.2
  refine j_callS_g (pc := 2) (As := [.int i1, .int i2]) (k' := 0) (n' := 0) dX10_fewest_2 (s_X10_pointAt ge2.1) (jgS lw_145 lw_146 lw_147 lw_144) rfl hy_X10_pointAt rfl (by decide) (by decide) (Nat.le_of_ble_eq_true rfl) (by decide) (by decide) (by decide) (by decide) (Or.inl ge2.2) ?_
  refine j_istore_n_3 (pc := 5) dX10_fewest_5 (by decide) rfl ?_
  refine j_iload_n (pc := 6) dX10_fewest_6 rfl ?_
  refine j_iconst (pc := 7) dX10_fewest_7 (v := (-1)) (by decide) ?_
  refine j_icmp_ne (pc := 8) (tgt := 21) dX10_fewest_8 (by decide) (fun c4 => ?_) (fun c4 => ?_)
  · rw [if_neg c4] at h
    refine j_aload_n (pc := 21) dX10_fewest_21 rfl ?_
    obtain ⟨x5, e6, h⟩ := obS h
    refine j_getI (pc := 22) dX10_fewest_22 (ci := 10) (kf := 9) rfl (jwi hw_X10) (by decide) (jwm lw_136) e6 ?_
    refine j_if_ne (pc := 25) (tgt := 30) dX10_fewest_25 (by decide) (fun c7 => ?_) (fun c7 => ?_)
    · rw [if_neg c7] at h
      refine j_aload_n (pc := 30) dX10_fewest_30 rfl ?_
      obtain ⟨x8, e9, h⟩ := obS h
      refine j_getR (pc := 31) dX10_fewest_31 (ci := 10) (kf := 8) rfl (jwi hw_X10) (by decide) (jwm lw_135) e9 ?_
      refine j_aload_n (pc := 34) dX10_fewest_34 rfl ?_
      obtain ⟨x10, e11, h⟩ := obS h
      refine j_getR (pc := 35) dX10_fewest_35 (ci := 10) (kf := 2) rfl (jwi hw_X10) (by decide) (jwm lw_103) e11 ?_
      refine j_iload_n (pc := 38) dX10_fewest_38 rfl ?_
      obtain ⟨w12, e13, h⟩ := obS h
      have ge13 := calSV_of e13
      have le13 := ge13.2
      refine j_callV_g (pc := 39) (As := [.ref x10, .int x3]) (k' := 0) (n' := 0) dX10_fewest_39 (s_X7_start ge13.1) (jgV lw_510 lw_511 lw_512 lw_131 lw_509) rfl hv_X7_start rfl (r_X7_start ge13.1) rfl (by decide) (by decide) (Nat.le_of_ble_eq_true rfl) (by decide) (by decide) (by decide) (by decide) (Or.inl ge13.2) ?_
      refine j_aload_n (pc := 42) dX10_fewest_42 rfl ?_
      obtain ⟨x14, e15, h⟩ := obS h
      refine j_getR (pc := 43) dX10_fewest_43 (ci := 10) (kf := 8) rfl (jwi hw_X10) (by decide) (jwm lw_135) e15 ?_
      refine j_iconst (pc := 46) dX10_fewest_46 (v := 0) (by decide) ?_
      obtain ⟨x18, w16, e17, h⟩ := obS2 h
      have ge17 := calSR_of e17
      have le17 := ge17.2
      refine j_callV_g (pc := 47) (As := [.int 0]) (k' := 0) (n' := 0) dX10_fewest_47 (s_X7_away ge17.1) (jgV lw_506 lw_507 lw_508 lw_131 lw_505) rfl hv_X7_away rfl (r_X7_away ge17.1) rfl (by decide) (by decide) (Nat.le_of_ble_eq_true rfl) (by decide) (by decide) (by decide) (by decide) (Or.inl ge17.2) ?_
      refine j_istore_4 (pc := 50) dX10_fewest_50 (by decide) rfl ?_
      refine j_mask [true, false, false, false, true] ?_
      exact jm_X10_fewest_l52 FU _ _ w16 (by omega) h
    · rw [if_pos c7] at h
      refine j_iconst (pc := 28) dX10_fewest_28 (v := (-1)) (by decide) ?_
      obtain ⟨rfl, rfl⟩ := jretS h
      exact j_iret (pc := 29) rfl dX10_fewest_29 (by decide) (by decide) rfl
  · rw [if_pos c4] at h
    obtain ⟨rfl, rfl⟩ := jretS h
    exact j_throw (pc := 11) (text := "no such point") rfl rfl dX10_fewest_11 dX10_fewest_14 dX10_fewest_15 dX10_fewest_17 dX10_fewest_20 (List.mem_of_getElem? (i := 11) rfl) (List.mem_of_getElem? (i := 0) rfl) (jfit _ (List.mem_of_getElem? (i := 0) rfl)) (jwm lw_142) (jwm lw_143) (jwi hwx_93) jgo_93 (by decide) (Nat.le_of_ble_eq_true rfl) (by decide) (by decide) (by omega) rfl
theorem r_X10_fewest {a0 : Nat} {i1 : Int32} {i2 : Int32} {ws : LWd} {o : ((Int32 ⊕ String) × LWd)} (h : m_X10_fewest a0 i1 i2 ws = some o) : ∃ fs, ws[a0]? = some (.inr (10, fs)) := rcv_in h
def wsX10_shortestRow : List Cond := Cond.code yX10_shortestRow cX10_shortestRow 4 (some .int) :: jW
def m_X10_shortestRow_b50 (self : Nat → Int32 → LWd → Option (Int32 × LWd)) (k23 : Nat → Int32 → Int32 → Int32 → LWd → Option (Int32 × LWd)) (a0 : Nat) (i1 : Int32) (i2 : Int32) (i3 : Int32) (ws : LWd) : Option (Int32 × LWd) :=
  k23 a0 i1 i2 (i3 + 1) ws
set_option maxRecDepth 100000 in
set_option maxHeartbeats 4000000 in
theorem jm_X10_shortestRow_b50 {dd : Nat} {self : Nat → Int32 → LWd → Option (Int32 × LWd)} {n0 : Nat} {rr : Int32} {ws' : LWd} (hself : ∀ (a0 : Nat) (i1 : Int32) (ws : LWd) (rr : Int32) (ws' : LWd), self a0 i1 ws = some (rr, ws') → jSp yX10_shortestRow wsX10_shortestRow (5 + dd - 1) 0 0 [.ref a0, .int i1] ws (.inl (some (.int rr)), ws')) {k23 : Nat → Int32 → Int32 → Int32 → LWd → Option (Int32 × LWd)} (hk23 : ∀ (a0 : Nat) (i1 : Int32) (i2 : Int32) (i3 : Int32) (ws : LWd), k23 a0 i1 i2 i3 ws = some (rr, ws') → JG (.inl false) cX10_shortestRow 4 RX10 wsX10_shortestRow (some .int) "shortestRow" (5 + dd) 0 0 n0 (.inl (some (.int rr)), ws') 23 [some (.ref a0), some (.int i1), some (.int i2), some (.int i3)] [] ws 0 0) (a0 : Nat) (i1 : Int32) (i2 : Int32) (i3 : Int32) (ws : LWd) (h : m_X10_shortestRow_b50 self k23 a0 i1 i2 i3 ws = some (rr, ws')) : JG (.inl false) cX10_shortestRow 4 RX10 wsX10_shortestRow (some .int) "shortestRow" (5 + dd) 0 0 n0 (.inl (some (.int rr)), ws') 50 [some (.ref a0), some (.int i1), some (.int i2), some (.int i3)] [] ws 0 0 := by
  unfold m_X10_shortestRow_b50 at h
  refine j_iinc_3 (pc := 50) dX10_shortestRow_50 (y := i3 + 1) rfl (by decide) rfl ?_
  refine j_goto (pc := 53) (tgt := 23) dX10_shortestRow_53 (by decide) ?_
  exact hk23 _ _ _ _ ws h
def m_X10_shortestRow_l23 (self : Nat → Int32 → LWd → Option (Int32 × LWd)) : Nat → Nat → Int32 → Int32 → Int32 → LWd → Option (Int32 × LWd)
  | 0, _, _, _, _, _ => none
  | fu + 1, a0, i1, i2, i3, ws =>
    if 10 ≤ i3 then
      some (i2, ws)
    else
      bn2 (calSR ws (m_X7_isMade a0 i1 i3 ws)) fun x4 w2 =>
      if x4 = 0 then
        m_X10_shortestRow_b50 self (fun z0 z1 z2 z3 w => m_X10_shortestRow_l23 self fu z0 z1 z2 z3 w) a0 i1 i2 i3 w2
      else
        bn2 (calSR w2 (self a0 (i1 + 1) w2)) fun x8 w6 =>
        m_X10_shortestRow_b50 self (fun z0 z1 z2 z3 w => m_X10_shortestRow_l23 self fu z0 z1 z2 z3 w) a0 i1 (jmin i2 x8) i3 w6
set_option maxRecDepth 100000 in
set_option maxHeartbeats 4000000 in
theorem jm_X10_shortestRow_l23 {dd : Nat} {self : Nat → Int32 → LWd → Option (Int32 × LWd)} {n0 : Nat} {rr : Int32} {ws' : LWd} (hself : ∀ (a0 : Nat) (i1 : Int32) (ws : LWd) (rr : Int32) (ws' : LWd), self a0 i1 ws = some (rr, ws') → jSp yX10_shortestRow wsX10_shortestRow (5 + dd - 1) 0 0 [.ref a0, .int i1] ws (.inl (some (.int rr)), ws')) : ∀ (fu : Nat) (a0 : Nat) (i1 : Int32) (i2 : Int32) (i3 : Int32) (ws : LWd), m_X10_shortestRow_l23 self fu a0 i1 i2 i3 ws = some (rr, ws') → JG (.inl false) cX10_shortestRow 4 RX10 wsX10_shortestRow (some .int) "shortestRow" (5 + dd) 0 0 n0 (.inl (some (.int rr)), ws') 23 [some (.ref a0), some (.int i1), some (.int i2), some (.int i3)] [] ws 0 0 := by
  intro fu
  induction fu with
  | zero => intro a0 i1 i2 i3 ws h; cases h
  | succ fu ih =>
    intro a0 i1 i2 i3 ws h
    rw [m_X10_shortestRow_l23] at h
    refine j_iload_n (pc := 23) dX10_shortestRow_23 rfl ?_
    refine j_bipush (pc := 24) dX10_shortestRow_24 (v := 10) (by decide) ?_
    refine j_icmp_ge (pc := 26) (tgt := 56) dX10_shortestRow_26 (by decide) (fun c1 => ?_) (fun c1 => ?_)
    · rw [if_pos c1] at h
      refine j_iload_n (pc := 56) dX10_shortestRow_56 rfl ?_
      obtain ⟨rfl, rfl⟩ := jretS h
      exact j_iret (pc := 57) rfl dX10_shortestRow_57 (by decide) (by decide) rfl
    · rw [if_neg c1] at h
      refine j_aload_n (pc := 29) dX10_shortestRow_29 rfl ?_
      refine j_iload_n (pc := 30) dX10_shortestRow_30 rfl ?_
      refine j_iload_n (pc := 31) dX10_shortestRow_31 rfl ?_
      obtain ⟨x4, w2, e3, h⟩ := obS2 h
      have ge3 := calSR_of e3
      refine j_callV_g (pc := 32) (As := [.int i1, .int i3]) (k' := 0) (n' := 0) dX10_shortestRow_32 (s_X7_isMade ge3.1) (jgV lw_499 lw_500 lw_501 lw_131 lw_498) rfl hv_X7_isMade rfl (r_X7_isMade ge3.1) rfl (by omega) (by decide) (Nat.le_of_ble_eq_true rfl) (by decide) (by decide) (by decide) (by decide) (Or.inl ge3.2) ?_
      refine j_if_eq (pc := 35) (tgt := 50) dX10_shortestRow_35 (by decide) (fun c5 => ?_) (fun c5 => ?_)
      · rw [if_pos c5] at h
        exact jm_X10_shortestRow_b50 (hself := hself) (hk23 := ih) _ _ _ _ w2 h
      · rw [if_neg c5] at h
        refine j_iload_n (pc := 38) dX10_shortestRow_38 rfl ?_
        refine j_aload_n (pc := 39) dX10_shortestRow_39 rfl ?_
        refine j_iload_n (pc := 40) dX10_shortestRow_40 rfl ?_
        refine j_iconst (pc := 41) dX10_shortestRow_41 (v := 1) (by decide) ?_
        refine j_iadd (pc := 42) dX10_shortestRow_42 ?_
        obtain ⟨x8, w6, e7, h⟩ := obS2 h
        have ge7 := calSR_of e7
        refine j_callS_g (pc := 43) (As := [.ref a0, .int (i1 + 1)]) (k' := 0) (n' := 0) dX10_shortestRow_43 (hself _ _ w2 _ _ ge7.1) (jgS lw_514 lw_515 lw_147 lw_513) rfl hy_X10_shortestRow rfl (by omega) (by decide) (Nat.le_of_ble_eq_true rfl) (by decide) (by decide) (by decide) (by decide) (Or.inl ge7.2) ?_
        refine j_mmin (pc := 46) dX10_shortestRow_46 (jwm lw_175) (jwm lw_176) (jwm lw_177) (jwm lw_178) (by omega) (Nat.le_trans (m := 40 * 5) (Nat.le_of_ble_eq_true rfl) (by omega)) (by decide) (by decide) ?_
        refine j_istore_n_2 (pc := 49) dX10_shortestRow_49 (by decide) rfl ?_
        exact jm_X10_shortestRow_b50 (hself := hself) (hk23 := ih) _ _ _ _ w6 h
def m_X10_shortestRow_b13 (self : Nat → Int32 → LWd → Option (Int32 × LWd)) (a0 : Nat) (i1 : Int32) (s0 : Int32) (ws : LWd) : Option (Int32 × LWd) :=
  if i1 < 3 then
    m_X10_shortestRow_l23 self FU a0 i1 s0 0 ws
  else
    some (s0, ws)
set_option maxRecDepth 100000 in
set_option maxHeartbeats 4000000 in
theorem jm_X10_shortestRow_b13 {dd : Nat} {self : Nat → Int32 → LWd → Option (Int32 × LWd)} {n0 : Nat} {rr : Int32} {ws' : LWd} (hself : ∀ (a0 : Nat) (i1 : Int32) (ws : LWd) (rr : Int32) (ws' : LWd), self a0 i1 ws = some (rr, ws') → jSp yX10_shortestRow wsX10_shortestRow (5 + dd - 1) 0 0 [.ref a0, .int i1] ws (.inl (some (.int rr)), ws')) (a0 : Nat) (i1 : Int32) (s0 : Int32) (ws : LWd) (h : m_X10_shortestRow_b13 self a0 i1 s0 ws = some (rr, ws')) : JG (.inl false) cX10_shortestRow 4 RX10 wsX10_shortestRow (some .int) "shortestRow" (5 + dd) 0 0 n0 (.inl (some (.int rr)), ws') 13 [some (.ref a0), some (.int i1), none, none] [.int s0] ws 0 0 := by
  unfold m_X10_shortestRow_b13 at h
  refine j_istore_n_2 (pc := 13) dX10_shortestRow_13 (by decide) rfl ?_
  refine j_iload_n (pc := 14) dX10_shortestRow_14 rfl ?_
  refine j_iconst (pc := 15) dX10_shortestRow_15 (v := 3) (by decide) ?_
  refine j_icmp_lt (pc := 16) (tgt := 21) dX10_shortestRow_16 (by decide) (fun c1 => ?_) (fun c1 => ?_)
  · rw [if_pos c1] at h
    refine j_iconst (pc := 21) dX10_shortestRow_21 (v := 0) (by decide) ?_
    refine j_istore_n_3 (pc := 22) dX10_shortestRow_22 (by decide) rfl ?_
    exact jm_X10_shortestRow_l23 (hself := hself) FU _ _ _ _ ws h
  · rw [if_neg c1] at h
    refine j_iload_n (pc := 19) dX10_shortestRow_19 rfl ?_
    obtain ⟨rfl, rfl⟩ := jretS h
    exact j_iret (pc := 20) rfl dX10_shortestRow_20 (by decide) (by decide) rfl
def m_X10_shortestRow_o (self : Nat → Int32 → LWd → Option (Int32 × LWd)) (a0 : Nat) (i1 : Int32) (ws : LWd) : Option (Int32 × LWd) :=
  bn2 (calSR ws (m_X7_away a0 i1 ws)) fun x3 w1 =>
  if x3 = 0 then
    m_X10_shortestRow_b13 self a0 i1 i1 w1
  else
    m_X10_shortestRow_b13 self a0 i1 4 w1
def m_X10_shortestRow : Nat → Nat → Int32 → LWd → Option (Int32 × LWd)
  | 0, _, _, _ => none
  | dd + 1, a0, i1, ws => m_X10_shortestRow_o (m_X10_shortestRow dd) a0 i1 ws
set_option maxRecDepth 100000 in
set_option maxHeartbeats 4000000 in
theorem s_X10_shortestRow : ∀ (dd : Nat) (a0 : Nat) (i1 : Int32) (ws : LWd) (rr : Int32) (ws' : LWd), m_X10_shortestRow dd a0 i1 ws = some (rr, ws') → jSp yX10_shortestRow wsX10_shortestRow (5 + dd) 0 0 [.ref a0, .int i1] ws (.inl (some (.int rr)), ws') := by
  intro dd
  induction dd with
  | zero => intro a0 i1 ws rr ws' h; cases h
  | succ dd ih =>
    intro a0 i1 ws rr ws' h
    have hself := ih
    rw [m_X10_shortestRow] at h
    generalize m_X10_shortestRow dd = self at h hself
    unfold m_X10_shortestRow_o at h
    refine j_entry (ret := (some .int)) (nm := "shortestRow") (own := RX10) pl_X10 rfl rfl rfl (jcats (by rfl)) (Nat.le_of_ble_eq_true rfl) ?_
    show JG (.inl false) cX10_shortestRow 4 RX10 wsX10_shortestRow (some .int) "shortestRow" (5 + (dd + 1)) 0 0 ws.length (.inl (some (.int rr)), ws') 0 [some (.ref a0), some (.int i1), none, none] [] ws 0 0
    have hself : ∀ (a0 : Nat) (i1 : Int32) (ws : LWd) (rr : Int32) (ws' : LWd), self a0 i1 ws = some (rr, ws') → jSp yX10_shortestRow wsX10_shortestRow (5 + (dd + 1) - 1) 0 0 [.ref a0, .int i1] ws (.inl (some (.int rr)), ws') := hself
    refine j_aload_n (pc := 0) dX10_shortestRow_0 rfl ?_
    refine j_iload_n (pc := 1) dX10_shortestRow_1 rfl ?_
    obtain ⟨x3, w1, e2, h⟩ := obS2 h
    have ge2 := calSR_of e2
    refine j_callV_g (pc := 2) (As := [.int i1]) (k' := 0) (n' := 0) dX10_shortestRow_2 (s_X7_away ge2.1) (jgV lw_506 lw_507 lw_508 lw_131 lw_505) rfl hv_X7_away rfl (r_X7_away ge2.1) rfl (by omega) (by decide) (Nat.le_of_ble_eq_true rfl) (by decide) (by decide) (by decide) (by decide) (Or.inl ge2.2) ?_
    refine j_if_ne (pc := 5) (tgt := 12) dX10_shortestRow_5 (by decide) (fun c4 => ?_) (fun c4 => ?_)
    · rw [if_neg c4] at h
      refine j_iconst (pc := 12) dX10_shortestRow_12 (v := 4) (by decide) ?_
      exact jm_X10_shortestRow_b13 (hself := hself) _ _ _ w1 h
    · rw [if_pos c4] at h
      refine j_iload_n (pc := 8) dX10_shortestRow_8 rfl ?_
      refine j_goto (pc := 9) (tgt := 13) dX10_shortestRow_9 (by decide) ?_
      exact jm_X10_shortestRow_b13 (hself := hself) _ _ _ w1 h
def wsX10_fewestAnew : List Cond := Cond.code yX10_fewestAnew cX10_fewestAnew 5 (some .int) :: jW
def m_X10_fewestAnew (a0 : Nat) (i1 : Int32) (i2 : Int32) (ws : LWd) : Option ((Int32 ⊕ String) × LWd) :=
  (rcv ws a0 10).bind fun _ =>
  bn2 (calSR ws (m_X10_pointAt i1 i2 ws)) fun x3 w1 =>
  if x3 = ((-1)) then
    some (.inr "java/lang/IllegalArgumentException", w1)
  else
    (fI w1 a0 10 9).bind fun x5 =>
    if x5 = 0 then
      some (.inl ((-1)), w1)
    else
      (fR w1 a0 10 8).bind fun x8 =>
      (fR w1 a0 10 2).bind fun x10 =>
      (calSV w1 (m_X7_start x8 x10 x3 w1)).bind fun w12 =>
      (fR w12 a0 10 8).bind fun x14 =>
      bn2 (calSR w12 (m_X10_shortestRow 4 x14 0 w12)) fun x18 w16 =>
      if x18 ≤ 3 then
        some (.inl x18, w16)
      else
        some (.inl ((-1)), w16)
set_option maxRecDepth 100000 in
set_option maxHeartbeats 4000000 in
theorem s_X10_fewestAnew {a0 : Nat} {i1 : Int32} {i2 : Int32} {ws : LWd} {rr : Int32 ⊕ String} {ws' : LWd} (h : m_X10_fewestAnew a0 i1 i2 ws = some (rr, ws')) : jSX yX10_fewestAnew wsX10_fewestAnew 10 1 6 [.ref a0, .int i1, .int i2] ws (jthr rr, ws') := by
  unfold m_X10_fewestAnew at h
  refine j_entryX (ret := (some .int)) (nm := "fewestAnew") (own := RX10) pl_X10 rfl rfl rfl (jcats (by rfl)) (Nat.le_of_ble_eq_true rfl) ?_
  show JG (.inl true) cX10_fewestAnew 5 RX10 wsX10_fewestAnew (some .int) "fewestAnew" 10 1 6 ws.length (jthr rr, ws') 0 [some (.ref a0), some (.int i1), some (.int i2), none, none] [] ws 0 0
  obtain ⟨_, _, h⟩ := obS h
  refine j_iload_n (pc := 0) dX10_fewestAnew_0 rfl ?_
  refine j_iload_n (pc := 1) dX10_fewestAnew_1 rfl ?_
  obtain ⟨x3, w1, e2, h⟩ := obS2 h
  have ge2 := calSR_of e2
  have le2 := ge2.2
  refine j_callS_g (pc := 2) (As := [.int i1, .int i2]) (k' := 0) (n' := 0) dX10_fewestAnew_2 (s_X10_pointAt ge2.1) (jgS lw_145 lw_146 lw_147 lw_144) rfl hy_X10_pointAt rfl (by decide) (by decide) (Nat.le_of_ble_eq_true rfl) (by decide) (by decide) (by decide) (by decide) (Or.inl ge2.2) ?_
  refine j_istore_n_3 (pc := 5) dX10_fewestAnew_5 (by decide) rfl ?_
  refine j_iload_n (pc := 6) dX10_fewestAnew_6 rfl ?_
  refine j_iconst (pc := 7) dX10_fewestAnew_7 (v := (-1)) (by decide) ?_
  refine j_icmp_ne (pc := 8) (tgt := 21) dX10_fewestAnew_8 (by decide) (fun c4 => ?_) (fun c4 => ?_)
  · rw [if_neg c4] at h
    refine j_aload_n (pc := 21) dX10_fewestAnew_21 rfl ?_
    obtain ⟨x5, e6, h⟩ := obS h
    refine j_getI (pc := 22) dX10_fewestAnew_22 (ci := 10) (kf := 9) rfl (jwi hw_X10) (by decide) (jwm lw_136) e6 ?_
    refine j_if_ne (pc := 25) (tgt := 30) dX10_fewestAnew_25 (by decide) (fun c7 => ?_) (fun c7 => ?_)
    · rw [if_neg c7] at h
      refine j_aload_n (pc := 30) dX10_fewestAnew_30 rfl ?_
      obtain ⟨x8, e9, h⟩ := obS h
      refine j_getR (pc := 31) dX10_fewestAnew_31 (ci := 10) (kf := 8) rfl (jwi hw_X10) (by decide) (jwm lw_135) e9 ?_
      refine j_aload_n (pc := 34) dX10_fewestAnew_34 rfl ?_
      obtain ⟨x10, e11, h⟩ := obS h
      refine j_getR (pc := 35) dX10_fewestAnew_35 (ci := 10) (kf := 2) rfl (jwi hw_X10) (by decide) (jwm lw_103) e11 ?_
      refine j_iload_n (pc := 38) dX10_fewestAnew_38 rfl ?_
      obtain ⟨w12, e13, h⟩ := obS h
      have ge13 := calSV_of e13
      have le13 := ge13.2
      refine j_callV_g (pc := 39) (As := [.ref x10, .int x3]) (k' := 0) (n' := 0) dX10_fewestAnew_39 (s_X7_start ge13.1) (jgV lw_510 lw_511 lw_512 lw_131 lw_509) rfl hv_X7_start rfl (r_X7_start ge13.1) rfl (by decide) (by decide) (Nat.le_of_ble_eq_true rfl) (by decide) (by decide) (by decide) (by decide) (Or.inl ge13.2) ?_
      refine j_aload_n (pc := 42) dX10_fewestAnew_42 rfl ?_
      obtain ⟨x14, e15, h⟩ := obS h
      refine j_getR (pc := 43) dX10_fewestAnew_43 (ci := 10) (kf := 8) rfl (jwi hw_X10) (by decide) (jwm lw_135) e15 ?_
      refine j_iconst (pc := 46) dX10_fewestAnew_46 (v := 0) (by decide) ?_
      obtain ⟨x18, w16, e17, h⟩ := obS2 h
      have ge17 := calSR_of e17
      have le17 := ge17.2
      refine j_callS_g (pc := 47) (As := [.ref x14, .int 0]) (k' := 0) (n' := 0) dX10_fewestAnew_47 (s_X10_shortestRow 4 _ _ w12 _ _ ge17.1) (jgS lw_514 lw_515 lw_147 lw_513) rfl hy_X10_shortestRow rfl (by decide) (by decide) (Nat.le_of_ble_eq_true rfl) (by decide) (by decide) (by decide) (by decide) (Or.inl ge17.2) ?_
      refine j_istore_4 (pc := 50) dX10_fewestAnew_50 (by decide) rfl ?_
      refine j_iload (pc := 52) dX10_fewestAnew_52 rfl ?_
      refine j_iconst (pc := 54) dX10_fewestAnew_54 (v := 3) (by decide) ?_
      refine j_icmp_le (pc := 55) (tgt := 62) dX10_fewestAnew_55 (by decide) (fun c19 => ?_) (fun c19 => ?_)
      · rw [if_pos c19] at h
        refine j_iload (pc := 62) dX10_fewestAnew_62 rfl ?_
        obtain ⟨rfl, rfl⟩ := jretS h
        exact j_iret (pc := 64) rfl dX10_fewestAnew_64 (by decide) (by decide) rfl
      · rw [if_neg c19] at h
        refine j_iconst (pc := 58) dX10_fewestAnew_58 (v := (-1)) (by decide) ?_
        refine j_goto (pc := 59) (tgt := 64) dX10_fewestAnew_59 (by decide) ?_
        obtain ⟨rfl, rfl⟩ := jretS h
        exact j_iret (pc := 64) rfl dX10_fewestAnew_64 (by decide) (by decide) rfl
    · rw [if_pos c7] at h
      refine j_iconst (pc := 28) dX10_fewestAnew_28 (v := (-1)) (by decide) ?_
      obtain ⟨rfl, rfl⟩ := jretS h
      exact j_iret (pc := 29) rfl dX10_fewestAnew_29 (by decide) (by decide) rfl
  · rw [if_pos c4] at h
    obtain ⟨rfl, rfl⟩ := jretS h
    exact j_throw (pc := 11) (text := "no such point") rfl rfl dX10_fewestAnew_11 dX10_fewestAnew_14 dX10_fewestAnew_15 dX10_fewestAnew_17 dX10_fewestAnew_20 (List.mem_of_getElem? (i := 11) rfl) (List.mem_of_getElem? (i := 0) rfl) (jfit _ (List.mem_of_getElem? (i := 0) rfl)) (jwm lw_142) (jwm lw_143) (jwi hwx_93) jgo_93 (by decide) (Nat.le_of_ble_eq_true rfl) (by decide) (by decide) (by omega) rfl
theorem r_X10_fewestAnew {a0 : Nat} {i1 : Int32} {i2 : Int32} {ws : LWd} {o : ((Int32 ⊕ String) × LWd)} (h : m_X10_fewestAnew a0 i1 i2 ws = some o) : ∃ fs, ws[a0]? = some (.inr (10, fs)) := rcv_in h
def wsX1_kept : List Cond := Cond.code yX1_kept cX1_kept 1 (some .int) :: jW
def m_X1_kept (a0 : Nat) (ws : LWd) : Option (Int32 × LWd) :=
  (rcv ws a0 1).bind fun _ =>
  (fI ws a0 1 3).bind fun x1 =>
  some (jmin x1 40, ws)
set_option maxRecDepth 100000 in
set_option maxHeartbeats 4000000 in
theorem s_X1_kept {a0 : Nat} {ws : LWd} {rr : Int32} {ws' : LWd} (h : m_X1_kept a0 ws = some (rr, ws')) : jSp yX1_kept wsX1_kept 1 0 0 [.ref a0] ws (.inl (some (.int rr)), ws') := by
  unfold m_X1_kept at h
  refine j_entry (ret := (some .int)) (nm := "kept") (own := RX1) pl_X1 rfl rfl rfl (jcats (by rfl)) (Nat.le_of_ble_eq_true rfl) ?_
  show JG (.inl false) cX1_kept 1 RX1 wsX1_kept (some .int) "kept" 1 0 0 ws.length (.inl (some (.int rr)), ws') 0 [some (.ref a0)] [] ws 0 0
  obtain ⟨_, _, h⟩ := obS h
  refine j_aload_n (pc := 0) dX1_kept_0 rfl ?_
  obtain ⟨x1, e2, h⟩ := obS h
  refine j_getI (pc := 1) dX1_kept_1 (ci := 1) (kf := 3) rfl (jwi hw_X1) (by decide) (jwm lw_62) e2 ?_
  refine j_bipush (pc := 4) dX1_kept_4 (v := 40) (by decide) ?_
  refine j_mmin (pc := 6) dX1_kept_6 (jwm lw_516) (jwm lw_176) (jwm lw_177) (jwm lw_178) (Nat.le_of_ble_eq_true rfl) (Nat.le_of_ble_eq_true rfl) (by decide) (by decide) ?_
  obtain ⟨rfl, rfl⟩ := jretS h
  exact j_iret (pc := 9) rfl dX1_kept_9 (by decide) (by decide) rfl
theorem r_X1_kept {a0 : Nat} {ws : LWd} {o : (Int32 × LWd)} (h : m_X1_kept a0 ws = some o) : ∃ fs, ws[a0]? = some (.inr (1, fs)) := rcv_in h
def wsX10_fall : List Cond := Cond.code yX10_fall cX10_fall 3 (some .int) :: jW
def m_X10_fall_b15 (ws : LWd) : Option ((Int32 ⊕ String) × LWd) :=
  some (.inr "java/lang/IndexOutOfBoundsException", ws)
set_option maxRecDepth 100000 in
set_option maxHeartbeats 4000000 in
theorem jm_X10_fall_b15 {n0 : Nat} {rr : Int32 ⊕ String} {ws' : LWd} (ws : LWd) (hn0 : ws.length = n0) (h : m_X10_fall_b15 ws = some (rr, ws')) : JG (.inl true) cX10_fall 3 RX10 wsX10_fall (some .int) "fall" 6 1 6 n0 (jthr rr, ws') 15 [none, none, none] [] ws 0 0 := by
  unfold m_X10_fall_b15 at h
  obtain ⟨rfl, rfl⟩ := jretS h
  exact j_throwW (pc := 15) (text := "no such fall") rfl rfl dX10_fall_15 dX10_fall_18 dX10_fall_19 dX10_fall_22 dX10_fall_25 (List.mem_of_getElem? (i := 16) rfl) (List.mem_of_getElem? (i := 2) rfl) (jfit _ (List.mem_of_getElem? (i := 2) rfl)) (jwm lw_189) (jwm lw_190) (jwi hwx_159) jgo_159 (by decide) (Nat.le_of_ble_eq_true rfl) (by decide) (by decide) (by omega) rfl
def m_X10_fall (a0 : Nat) (i1 : Int32) (i2 : Int32) (ws : LWd) : Option ((Int32 ⊕ String) × LWd) :=
  (rcv ws a0 10).bind fun _ =>
  if i1 < 0 then
    m_X10_fall_b15  ws
  else
    (fR ws a0 10 6).bind fun x2 =>
    bn2 (calSR ws (m_X1_kept x2 ws)) fun x6 w4 =>
    if i1 < x6 then
      if i2 = 0 then
        (fR w4 a0 10 6).bind fun x9 =>
        (fR w4 x9 1 0).bind fun x11 =>
        bn2 (calSR w4 (m_X8_at x11 i1 w4)) fun x15 w13 =>
        some (.inl x15, w13)
      else
        if i2 = 1 then
          (fR w4 a0 10 6).bind fun x17 =>
          (fR w4 x17 1 1).bind fun x19 =>
          bn2 (calSR w4 (m_X8_at x19 i1 w4)) fun x23 w21 =>
          some (.inl x23, w21)
        else
          if i2 = 2 then
            (fR w4 a0 10 6).bind fun x25 =>
            (fR w4 x25 1 2).bind fun x27 =>
            bn2 (calSR w4 (m_X8_at x27 i1 w4)) fun x31 w29 =>
            bn2 (calSR w29 (m_X10_xOf x31 w29)) fun x34 w32 =>
            some (.inl x34, w32)
          else
            if i2 = 3 then
              (fR w4 a0 10 6).bind fun x36 =>
              (fR w4 x36 1 2).bind fun x38 =>
              bn2 (calSR w4 (m_X8_at x38 i1 w4)) fun x42 w40 =>
              bn2 (calSR w40 (m_X10_yOf x42 w40)) fun x45 w43 =>
              some (.inl x45, w43)
            else
              some (.inr "java/lang/IllegalArgumentException", w4)
    else
      m_X10_fall_b15  w4
set_option maxRecDepth 100000 in
set_option maxHeartbeats 4000000 in
theorem s_X10_fall {a0 : Nat} {i1 : Int32} {i2 : Int32} {ws : LWd} {rr : Int32 ⊕ String} {ws' : LWd} (h : m_X10_fall a0 i1 i2 ws = some (rr, ws')) : jSX yX10_fall wsX10_fall 6 1 6 [.ref a0, .int i1, .int i2] ws (jthr rr, ws') := by
  unfold m_X10_fall at h
  refine j_entryX (ret := (some .int)) (nm := "fall") (own := RX10) pl_X10 rfl rfl rfl (jcats (by rfl)) (Nat.le_of_ble_eq_true rfl) ?_
  show JG (.inl true) cX10_fall 3 RX10 wsX10_fall (some .int) "fall" 6 1 6 ws.length (jthr rr, ws') 0 [some (.ref a0), some (.int i1), some (.int i2)] [] ws 0 0
  obtain ⟨_, _, h⟩ := obS h
  refine j_iload_n (pc := 0) dX10_fall_0 rfl ?_
  refine j_if_lt (pc := 1) (tgt := 15) dX10_fall_1 (by decide) (fun c1 => ?_) (fun c1 => ?_)
  · rw [if_pos c1] at h
    refine j_mask [false, false, false] ?_
    exact jm_X10_fall_b15 ws (by omega) h
  · rw [if_neg c1] at h
    refine j_iload_n (pc := 4) dX10_fall_4 rfl ?_
    refine j_aload_n (pc := 5) dX10_fall_5 rfl ?_
    obtain ⟨x2, e3, h⟩ := obS h
    refine j_getR (pc := 6) dX10_fall_6 (ci := 10) (kf := 6) rfl (jwi hw_X10) (by decide) (jwm lw_122) e3 ?_
    obtain ⟨x6, w4, e5, h⟩ := obS2 h
    have ge5 := calSR_of e5
    have le5 := ge5.2
    refine j_callV_g (pc := 9) (As := []) (k' := 0) (n' := 0) dX10_fall_9 (s_X1_kept ge5.1) (jgV lw_518 lw_519 lw_520 lw_119 lw_517) rfl hv_X1_kept rfl (r_X1_kept ge5.1) rfl (by decide) (by decide) (Nat.le_of_ble_eq_true rfl) (by decide) (by decide) (by decide) (by decide) (Or.inl ge5.2) ?_
    refine j_icmp_lt (pc := 12) (tgt := 26) dX10_fall_12 (by decide) (fun c7 => ?_) (fun c7 => ?_)
    · rw [if_pos c7] at h
      refine j_iload_n (pc := 26) dX10_fall_26 rfl ?_
      by_cases c8 : i2 = 0
      · rw [if_pos c8] at h
        refine j_tabEq (pc := 27) (tgt := 56) (a := 0) dX10_fall_27 c8 rfl (by decide) (by decide) rfl (by decide) ?_
        refine j_aload_n (pc := 56) dX10_fall_56 rfl ?_
        obtain ⟨x9, e10, h⟩ := obS h
        refine j_getR (pc := 57) dX10_fall_57 (ci := 10) (kf := 6) rfl (jwi hw_X10) (by decide) (jwm lw_122) e10 ?_
        obtain ⟨x11, e12, h⟩ := obS h
        refine j_getR (pc := 60) dX10_fall_60 (ci := 1) (kf := 0) rfl (jwi hw_X1) (by decide) (jwm lw_521) e12 ?_
        refine j_iload_n (pc := 63) dX10_fall_63 rfl ?_
        obtain ⟨x15, w13, e14, h⟩ := obS2 h
        have ge14 := calSR_of e14
        have le14 := ge14.2
        refine j_callV_g (pc := 64) (As := [.int i1]) (k' := 0) (n' := 0) dX10_fall_64 (s_X8_at ge14.1) (jgV lw_156 lw_140 lw_141 lw_12 lw_138) rfl hv_X8_at rfl (r_X8_at ge14.1) rfl (by decide) (by decide) (Nat.le_of_ble_eq_true rfl) (by decide) (by decide) (by decide) (by decide) (Or.inl ge14.2) ?_
        obtain ⟨rfl, rfl⟩ := jretS h
        exact j_iret (pc := 67) rfl dX10_fall_67 (by decide) (by decide) rfl
      · rw [if_neg c8] at h
        by_cases c16 : i2 = 1
        · rw [if_pos c16] at h
          refine j_tabEq (pc := 27) (tgt := 68) (a := 1) dX10_fall_27 c16 rfl (by decide) (by decide) rfl (by decide) ?_
          refine j_aload_n (pc := 68) dX10_fall_68 rfl ?_
          obtain ⟨x17, e18, h⟩ := obS h
          refine j_getR (pc := 69) dX10_fall_69 (ci := 10) (kf := 6) rfl (jwi hw_X10) (by decide) (jwm lw_122) e18 ?_
          obtain ⟨x19, e20, h⟩ := obS h
          refine j_getR (pc := 72) dX10_fall_72 (ci := 1) (kf := 1) rfl (jwi hw_X1) (by decide) (jwm lw_522) e20 ?_
          refine j_iload_n (pc := 75) dX10_fall_75 rfl ?_
          obtain ⟨x23, w21, e22, h⟩ := obS2 h
          have ge22 := calSR_of e22
          have le22 := ge22.2
          refine j_callV_g (pc := 76) (As := [.int i1]) (k' := 0) (n' := 0) dX10_fall_76 (s_X8_at ge22.1) (jgV lw_156 lw_140 lw_141 lw_12 lw_138) rfl hv_X8_at rfl (r_X8_at ge22.1) rfl (by decide) (by decide) (Nat.le_of_ble_eq_true rfl) (by decide) (by decide) (by decide) (by decide) (Or.inl ge22.2) ?_
          obtain ⟨rfl, rfl⟩ := jretS h
          exact j_iret (pc := 79) rfl dX10_fall_79 (by decide) (by decide) rfl
        · rw [if_neg c16] at h
          by_cases c24 : i2 = 2
          · rw [if_pos c24] at h
            refine j_tabEq (pc := 27) (tgt := 80) (a := 2) dX10_fall_27 c24 rfl (by decide) (by decide) rfl (by decide) ?_
            refine j_aload_n (pc := 80) dX10_fall_80 rfl ?_
            obtain ⟨x25, e26, h⟩ := obS h
            refine j_getR (pc := 81) dX10_fall_81 (ci := 10) (kf := 6) rfl (jwi hw_X10) (by decide) (jwm lw_122) e26 ?_
            obtain ⟨x27, e28, h⟩ := obS h
            refine j_getR (pc := 84) dX10_fall_84 (ci := 1) (kf := 2) rfl (jwi hw_X1) (by decide) (jwm lw_523) e28 ?_
            refine j_iload_n (pc := 87) dX10_fall_87 rfl ?_
            obtain ⟨x31, w29, e30, h⟩ := obS2 h
            have ge30 := calSR_of e30
            have le30 := ge30.2
            refine j_callV_g (pc := 88) (As := [.int i1]) (k' := 0) (n' := 0) dX10_fall_88 (s_X8_at ge30.1) (jgV lw_156 lw_140 lw_141 lw_12 lw_138) rfl hv_X8_at rfl (r_X8_at ge30.1) rfl (by decide) (by decide) (Nat.le_of_ble_eq_true rfl) (by decide) (by decide) (by decide) (by decide) (Or.inl ge30.2) ?_
            obtain ⟨x34, w32, e33, h⟩ := obS2 h
            have ge33 := calSR_of e33
            have le33 := ge33.2
            refine j_callS_g (pc := 91) (As := [.int x31]) (k' := 0) (n' := 0) dX10_fall_91 (s_X10_xOf ge33.1) (jgS lw_414 lw_280 lw_147 lw_279) rfl hy_X10_xOf rfl (by decide) (by decide) (Nat.le_of_ble_eq_true rfl) (by decide) (by decide) (by decide) (by decide) (Or.inl ge33.2) ?_
            obtain ⟨rfl, rfl⟩ := jretS h
            exact j_iret (pc := 94) rfl dX10_fall_94 (by decide) (by decide) rfl
          · rw [if_neg c24] at h
            by_cases c35 : i2 = 3
            · rw [if_pos c35] at h
              refine j_tabEq (pc := 27) (tgt := 95) (a := 3) dX10_fall_27 c35 rfl (by decide) (by decide) rfl (by decide) ?_
              refine j_aload_n (pc := 95) dX10_fall_95 rfl ?_
              obtain ⟨x36, e37, h⟩ := obS h
              refine j_getR (pc := 96) dX10_fall_96 (ci := 10) (kf := 6) rfl (jwi hw_X10) (by decide) (jwm lw_122) e37 ?_
              obtain ⟨x38, e39, h⟩ := obS h
              refine j_getR (pc := 99) dX10_fall_99 (ci := 1) (kf := 2) rfl (jwi hw_X1) (by decide) (jwm lw_523) e39 ?_
              refine j_iload_n (pc := 102) dX10_fall_102 rfl ?_
              obtain ⟨x42, w40, e41, h⟩ := obS2 h
              have ge41 := calSR_of e41
              have le41 := ge41.2
              refine j_callV_g (pc := 103) (As := [.int i1]) (k' := 0) (n' := 0) dX10_fall_103 (s_X8_at ge41.1) (jgV lw_156 lw_140 lw_141 lw_12 lw_138) rfl hv_X8_at rfl (r_X8_at ge41.1) rfl (by decide) (by decide) (Nat.le_of_ble_eq_true rfl) (by decide) (by decide) (by decide) (by decide) (Or.inl ge41.2) ?_
              obtain ⟨x45, w43, e44, h⟩ := obS2 h
              have ge44 := calSR_of e44
              have le44 := ge44.2
              refine j_callS_g (pc := 106) (As := [.int x42]) (k' := 0) (n' := 0) dX10_fall_106 (s_X10_yOf ge44.1) (jgS lw_416 lw_282 lw_147 lw_281) rfl hy_X10_yOf rfl (by decide) (by decide) (Nat.le_of_ble_eq_true rfl) (by decide) (by decide) (by decide) (by decide) (Or.inl ge44.2) ?_
              obtain ⟨rfl, rfl⟩ := jretS h
              exact j_iret (pc := 109) rfl dX10_fall_109 (by decide) (by decide) rfl
            · rw [if_neg c35] at h
              refine j_tabOut (pc := 27) (tgt := 110) dX10_fall_27 (jout4 c8 c16 c24 c35) (by decide) ?_
              obtain ⟨rfl, rfl⟩ := jretS h
              exact j_throw (pc := 110) (text := "no such thing to tell") rfl rfl dX10_fall_110 dX10_fall_113 dX10_fall_114 dX10_fall_116 dX10_fall_119 (List.mem_of_getElem? (i := 14) rfl) (List.mem_of_getElem? (i := 0) rfl) (jfit _ (List.mem_of_getElem? (i := 0) rfl)) (jwm lw_142) (jwm lw_143) (jwi hwx_93) jgo_93 (by decide) (Nat.le_of_ble_eq_true rfl) (by decide) (by decide) (by omega) rfl
    · rw [if_neg c7] at h
      refine j_mask [false, false, false] ?_
      exact jm_X10_fall_b15 w4 (by omega) h
theorem r_X10_fall {a0 : Nat} {i1 : Int32} {i2 : Int32} {ws : LWd} {o : ((Int32 ⊕ String) × LWd)} (h : m_X10_fall a0 i1 i2 ws = some o) : ∃ fs, ws[a0]? = some (.inr (10, fs)) := rcv_in h
def wsX11_init : List Cond := Cond.code yX11_init cX11_init 2 none :: jW
def m_X11_init_l126 : Nat → Nat → Int32 → LWd → Option LWd
  | 0, _, _, _ => none
  | fu + 1, a0, i1, ws =>
    if 400 ≤ i1 then
      some ws
    else
      (fR ws a0 11 1).bind fun x2 =>
      (sI ws x2 i1 99).bind fun w4 =>
      (fR w4 a0 11 2).bind fun x6 =>
      (sI w4 x6 i1 9).bind fun w8 =>
      m_X11_init_l126 fu a0 (i1 + 1) w8
set_option maxRecDepth 100000 in
set_option maxHeartbeats 4000000 in
theorem jm_X11_init_l126 {n0 : Nat} {ws' : LWd} : ∀ (fu : Nat) (a0 : Nat) (i1 : Int32) (ws : LWd), m_X11_init_l126 fu a0 i1 ws = some ws' → JG (.inl false) cX11_init 2 RX11 wsX11_init none "<init>" 1 12 4800 n0 (.inl none, ws') 126 [some (.ref a0), some (.int i1)] [] ws 12 4800 := by
  intro fu
  induction fu with
  | zero => intro a0 i1 ws h; cases h
  | succ fu ih =>
    intro a0 i1 ws h
    rw [m_X11_init_l126] at h
    refine j_iload_n (pc := 126) dX11_init_126 rfl ?_
    refine j_sipush (pc := 127) dX11_init_127 (v := 400) (by decide) ?_
    refine j_icmp_ge (pc := 130) (tgt := 155) dX11_init_130 (by decide) (fun c1 => ?_) (fun c1 => ?_)
    · rw [if_pos c1] at h
      cases h
      exact j_vret (pc := 155) rfl dX11_init_155 (by decide) (by decide) rfl
    · rw [if_neg c1] at h
      refine j_aload_n (pc := 133) dX11_init_133 rfl ?_
      obtain ⟨x2, e3, h⟩ := obS h
      refine j_getR (pc := 134) dX11_init_134 (ci := 11) (kf := 1) rfl (jwi hw_X11) (by decide) (jwm lw_524) e3 ?_
      refine j_iload_n (pc := 137) dX11_init_137 rfl ?_
      refine j_bipush (pc := 138) dX11_init_138 (v := 99) (by decide) ?_
      obtain ⟨w4, e5, h⟩ := obS h
      refine j_iast (pc := 140) dX11_init_140 e5 ?_
      refine j_aload_n (pc := 141) dX11_init_141 rfl ?_
      obtain ⟨x6, e7, h⟩ := obS h
      refine j_getR (pc := 142) dX11_init_142 (ci := 11) (kf := 2) rfl (jwi hw_X11) (by decide) (jwm lw_525) e7 ?_
      refine j_iload_n (pc := 145) dX11_init_145 rfl ?_
      refine j_bipush (pc := 146) dX11_init_146 (v := 9) (by decide) ?_
      obtain ⟨w8, e9, h⟩ := obS h
      refine j_iast (pc := 148) dX11_init_148 e9 ?_
      refine j_iinc_1 (pc := 149) dX11_init_149 (y := i1 + 1) rfl (by decide) rfl ?_
      refine j_goto (pc := 152) (tgt := 126) dX11_init_152 (by decide) ?_
      exact ih _ _ w8 h
def m_X11_init (a0 : Nat) (ws : LWd) : Option LWd :=
  (rcv ws a0 11).bind fun _ =>
  bn2 (nA ws [some (.ref a0), none] [.ref a0] 400 400) fun q1 w2 =>
  (pV w2 a0 11 0 (.ref q1)).bind fun w4 =>
  bn2 (nA w4 [some (.ref a0), none] [.ref a0] 400 400) fun q6 w7 =>
  (pV w7 a0 11 1 (.ref q6)).bind fun w9 =>
  bn2 (nA w9 [some (.ref a0), none] [.ref a0] 400 400) fun q11 w12 =>
  (pV w12 a0 11 2 (.ref q11)).bind fun w14 =>
  bn2 (nA w14 [some (.ref a0), none] [.ref a0] 400 400) fun q16 w17 =>
  (pV w17 a0 11 3 (.ref q16)).bind fun w19 =>
  (pV w19 a0 11 5 (.int 10)).bind fun w21 =>
  (pV w21 a0 11 6 (.int 10)).bind fun w23 =>
  (pV w23 a0 11 7 (.int 1000)).bind fun w25 =>
  bn2 (nA w25 [some (.ref a0), none] [.ref a0] 400 6) fun q27 w28 =>
  (pV w28 a0 11 12 (.ref q27)).bind fun w30 =>
  bn2 (nA w30 [some (.ref a0), none] [.ref a0] 400 6) fun q32 w33 =>
  (pV w33 a0 11 13 (.ref q32)).bind fun w35 =>
  bn2 (nA w35 [some (.ref a0), none] [.ref a0] 400 6) fun q37 w38 =>
  (pV w38 a0 11 14 (.ref q37)).bind fun w40 =>
  bn2 (nA w40 [some (.ref a0), none] [.ref a0] 400 6) fun q42 w43 =>
  (pV w43 a0 11 15 (.ref q42)).bind fun w45 =>
  bn2 (nA w45 [some (.ref a0), none] [.ref a0] 400 6) fun q47 w48 =>
  (pV w48 a0 11 16 (.ref q47)).bind fun w50 =>
  bn2 (nA w50 [some (.ref a0), none] [.ref a0] 400 160) fun q52 w53 =>
  (pV w53 a0 11 24 (.ref q52)).bind fun w55 =>
  bn2 (nA w55 [some (.ref a0), none] [.ref a0] 400 40) fun q57 w58 =>
  (pV w58 a0 11 27 (.ref q57)).bind fun w60 =>
  bn2 (nA w60 [some (.ref a0), none] [.ref a0] 400 7) fun q62 w63 =>
  (pV w63 a0 11 29 (.ref q62)).bind fun w65 =>
  m_X11_init_l126 FU a0 0 w65
set_option maxRecDepth 100000 in
set_option maxHeartbeats 4000000 in
theorem s_X11_init {a0 : Nat} {ws : LWd} {ws' : LWd} (h : m_X11_init a0 ws = some ws') : jSp yX11_init wsX11_init 1 12 4800 [.ref a0] ws (.inl none, ws') := by
  unfold m_X11_init at h
  refine j_entry (ret := none) (nm := "<init>") (own := RX11) pl_X11 rfl rfl rfl (jcats (by rfl)) (Nat.le_of_ble_eq_true rfl) ?_
  show JG (.inl false) cX11_init 2 RX11 wsX11_init none "<init>" 1 12 4800 ws.length (.inl none, ws') 0 [some (.ref a0), none] [] ws 0 0
  obtain ⟨_, _, h⟩ := obS h
  refine j_aload_n (pc := 0) dX11_init_0 rfl ?_
  refine j_objInit (pc := 1) dX11_init_1 (jwm lw_526) (jwm lw_7) (jwm lw_8) (by decide) (Nat.le_of_ble_eq_true rfl) ?_
  refine j_aload_n (pc := 4) dX11_init_4 rfl ?_
  refine j_sipush (pc := 5) dX11_init_5 (v := 400) (by decide) ?_
  obtain ⟨q1, w2, e3, h⟩ := obS2 h
  refine j_newA (pc := 8) (B := 400) (jwm lw_0) dX11_init_8 (by decide) (by decide) (by decide) e3 ?_
  obtain ⟨w4, e5, h⟩ := obS h
  refine j_putF (pc := 10) (ci := 11) (kf := 0) tyX11 tyX11_ok nmX11 dX11_init_10 rfl (jwi hw_X11) (by decide) (jwm lw_527) rfl rfl rfl (fun _ => rfl) (fun _ => rfl) e5 ?_
  refine j_aload_n (pc := 13) dX11_init_13 rfl ?_
  refine j_sipush (pc := 14) dX11_init_14 (v := 400) (by decide) ?_
  obtain ⟨q6, w7, e8, h⟩ := obS2 h
  refine j_newA (pc := 17) (B := 400) (jwm lw_0) dX11_init_17 (by decide) (by decide) (by decide) e8 ?_
  obtain ⟨w9, e10, h⟩ := obS h
  refine j_putF (pc := 19) (ci := 11) (kf := 1) tyX11 tyX11_ok nmX11 dX11_init_19 rfl (jwi hw_X11) (by decide) (jwm lw_524) rfl rfl rfl (fun _ => rfl) (fun _ => rfl) e10 ?_
  refine j_aload_n (pc := 22) dX11_init_22 rfl ?_
  refine j_sipush (pc := 23) dX11_init_23 (v := 400) (by decide) ?_
  obtain ⟨q11, w12, e13, h⟩ := obS2 h
  refine j_newA (pc := 26) (B := 400) (jwm lw_0) dX11_init_26 (by decide) (by decide) (by decide) e13 ?_
  obtain ⟨w14, e15, h⟩ := obS h
  refine j_putF (pc := 28) (ci := 11) (kf := 2) tyX11 tyX11_ok nmX11 dX11_init_28 rfl (jwi hw_X11) (by decide) (jwm lw_525) rfl rfl rfl (fun _ => rfl) (fun _ => rfl) e15 ?_
  refine j_aload_n (pc := 31) dX11_init_31 rfl ?_
  refine j_sipush (pc := 32) dX11_init_32 (v := 400) (by decide) ?_
  obtain ⟨q16, w17, e18, h⟩ := obS2 h
  refine j_newA (pc := 35) (B := 400) (jwm lw_0) dX11_init_35 (by decide) (by decide) (by decide) e18 ?_
  obtain ⟨w19, e20, h⟩ := obS h
  refine j_putF (pc := 37) (ci := 11) (kf := 3) tyX11 tyX11_ok nmX11 dX11_init_37 rfl (jwi hw_X11) (by decide) (jwm lw_528) rfl rfl rfl (fun _ => rfl) (fun _ => rfl) e20 ?_
  refine j_aload_n (pc := 40) dX11_init_40 rfl ?_
  refine j_bipush (pc := 41) dX11_init_41 (v := 10) (by decide) ?_
  obtain ⟨w21, e22, h⟩ := obS h
  refine j_putV (pc := 43) (ci := 11) (kf := 5) tyX11 tyX11_ok nmX11 dX11_init_43 rfl (jwi hw_X11) (by decide) (jwm lw_529) rfl (fun _ => rfl) (fun _ => rfl) e22 ?_
  refine j_aload_n (pc := 46) dX11_init_46 rfl ?_
  refine j_bipush (pc := 47) dX11_init_47 (v := 10) (by decide) ?_
  obtain ⟨w23, e24, h⟩ := obS h
  refine j_putV (pc := 49) (ci := 11) (kf := 6) tyX11 tyX11_ok nmX11 dX11_init_49 rfl (jwi hw_X11) (by decide) (jwm lw_530) rfl (fun _ => rfl) (fun _ => rfl) e24 ?_
  refine j_aload_n (pc := 52) dX11_init_52 rfl ?_
  refine j_sipush (pc := 53) dX11_init_53 (v := 1000) (by decide) ?_
  obtain ⟨w25, e26, h⟩ := obS h
  refine j_putV (pc := 56) (ci := 11) (kf := 7) tyX11 tyX11_ok nmX11 dX11_init_56 rfl (jwi hw_X11) (by decide) (jwm lw_531) rfl (fun _ => rfl) (fun _ => rfl) e26 ?_
  refine j_aload_n (pc := 59) dX11_init_59 rfl ?_
  refine j_bipush (pc := 60) dX11_init_60 (v := 6) (by decide) ?_
  obtain ⟨q27, w28, e29, h⟩ := obS2 h
  refine j_newA (pc := 62) (B := 400) (jwm lw_0) dX11_init_62 (by decide) (by decide) (by decide) e29 ?_
  obtain ⟨w30, e31, h⟩ := obS h
  refine j_putF (pc := 64) (ci := 11) (kf := 12) tyX11 tyX11_ok nmX11 dX11_init_64 rfl (jwi hw_X11) (by decide) (jwm lw_532) rfl rfl rfl (fun _ => rfl) (fun _ => rfl) e31 ?_
  refine j_aload_n (pc := 67) dX11_init_67 rfl ?_
  refine j_bipush (pc := 68) dX11_init_68 (v := 6) (by decide) ?_
  obtain ⟨q32, w33, e34, h⟩ := obS2 h
  refine j_newA (pc := 70) (B := 400) (jwm lw_0) dX11_init_70 (by decide) (by decide) (by decide) e34 ?_
  obtain ⟨w35, e36, h⟩ := obS h
  refine j_putF (pc := 72) (ci := 11) (kf := 13) tyX11 tyX11_ok nmX11 dX11_init_72 rfl (jwi hw_X11) (by decide) (jwm lw_533) rfl rfl rfl (fun _ => rfl) (fun _ => rfl) e36 ?_
  refine j_aload_n (pc := 75) dX11_init_75 rfl ?_
  refine j_bipush (pc := 76) dX11_init_76 (v := 6) (by decide) ?_
  obtain ⟨q37, w38, e39, h⟩ := obS2 h
  refine j_newA (pc := 78) (B := 400) (jwm lw_0) dX11_init_78 (by decide) (by decide) (by decide) e39 ?_
  obtain ⟨w40, e41, h⟩ := obS h
  refine j_putF (pc := 80) (ci := 11) (kf := 14) tyX11 tyX11_ok nmX11 dX11_init_80 rfl (jwi hw_X11) (by decide) (jwm lw_534) rfl rfl rfl (fun _ => rfl) (fun _ => rfl) e41 ?_
  refine j_aload_n (pc := 83) dX11_init_83 rfl ?_
  refine j_bipush (pc := 84) dX11_init_84 (v := 6) (by decide) ?_
  obtain ⟨q42, w43, e44, h⟩ := obS2 h
  refine j_newA (pc := 86) (B := 400) (jwm lw_0) dX11_init_86 (by decide) (by decide) (by decide) e44 ?_
  obtain ⟨w45, e46, h⟩ := obS h
  refine j_putF (pc := 88) (ci := 11) (kf := 15) tyX11 tyX11_ok nmX11 dX11_init_88 rfl (jwi hw_X11) (by decide) (jwm lw_535) rfl rfl rfl (fun _ => rfl) (fun _ => rfl) e46 ?_
  refine j_aload_n (pc := 91) dX11_init_91 rfl ?_
  refine j_bipush (pc := 92) dX11_init_92 (v := 6) (by decide) ?_
  obtain ⟨q47, w48, e49, h⟩ := obS2 h
  refine j_newA (pc := 94) (B := 400) (jwm lw_0) dX11_init_94 (by decide) (by decide) (by decide) e49 ?_
  obtain ⟨w50, e51, h⟩ := obS h
  refine j_putF (pc := 96) (ci := 11) (kf := 16) tyX11 tyX11_ok nmX11 dX11_init_96 rfl (jwi hw_X11) (by decide) (jwm lw_536) rfl rfl rfl (fun _ => rfl) (fun _ => rfl) e51 ?_
  refine j_aload_n (pc := 99) dX11_init_99 rfl ?_
  refine j_sipush (pc := 100) dX11_init_100 (v := 160) (by decide) ?_
  obtain ⟨q52, w53, e54, h⟩ := obS2 h
  refine j_newA (pc := 103) (B := 400) (jwm lw_0) dX11_init_103 (by decide) (by decide) (by decide) e54 ?_
  obtain ⟨w55, e56, h⟩ := obS h
  refine j_putF (pc := 105) (ci := 11) (kf := 24) tyX11 tyX11_ok nmX11 dX11_init_105 rfl (jwi hw_X11) (by decide) (jwm lw_537) rfl rfl rfl (fun _ => rfl) (fun _ => rfl) e56 ?_
  refine j_aload_n (pc := 108) dX11_init_108 rfl ?_
  refine j_bipush (pc := 109) dX11_init_109 (v := 40) (by decide) ?_
  obtain ⟨q57, w58, e59, h⟩ := obS2 h
  refine j_newA (pc := 111) (B := 400) (jwm lw_0) dX11_init_111 (by decide) (by decide) (by decide) e59 ?_
  obtain ⟨w60, e61, h⟩ := obS h
  refine j_putF (pc := 113) (ci := 11) (kf := 27) tyX11 tyX11_ok nmX11 dX11_init_113 rfl (jwi hw_X11) (by decide) (jwm lw_538) rfl rfl rfl (fun _ => rfl) (fun _ => rfl) e61 ?_
  refine j_aload_n (pc := 116) dX11_init_116 rfl ?_
  refine j_bipush (pc := 117) dX11_init_117 (v := 7) (by decide) ?_
  obtain ⟨q62, w63, e64, h⟩ := obS2 h
  refine j_newA (pc := 119) (B := 400) (jwm lw_0) dX11_init_119 (by decide) (by decide) (by decide) e64 ?_
  obtain ⟨w65, e66, h⟩ := obS h
  refine j_putF (pc := 121) (ci := 11) (kf := 29) tyX11 tyX11_ok nmX11 dX11_init_121 rfl (jwi hw_X11) (by decide) (jwm lw_539) rfl rfl rfl (fun _ => rfl) (fun _ => rfl) e66 ?_
  refine j_iconst (pc := 124) dX11_init_124 (v := 0) (by decide) ?_
  refine j_istore_n_1 (pc := 125) dX11_init_125 (by decide) rfl ?_
  exact jm_X11_init_l126 FU _ _ w65 h
theorem r_X11_init {a0 : Nat} {ws : LWd} {o : LWd} (h : m_X11_init a0 ws = some o) : ∃ fs, ws[a0]? = some (.inr (11, fs)) := rcv_in h
def wsX11_thrown : List Cond := Cond.code yX11_thrown cX11_thrown 1 (some .int) :: jW
def m_X11_thrown (a0 : Nat) (ws : LWd) : Option (Int32 × LWd) :=
  (rcv ws a0 11).bind fun _ =>
  (fI ws a0 11 30).bind fun x1 =>
  some (x1, ws)
set_option maxRecDepth 100000 in
set_option maxHeartbeats 4000000 in
theorem s_X11_thrown {a0 : Nat} {ws : LWd} {rr : Int32} {ws' : LWd} (h : m_X11_thrown a0 ws = some (rr, ws')) : jSp yX11_thrown wsX11_thrown 0 0 0 [.ref a0] ws (.inl (some (.int rr)), ws') := by
  unfold m_X11_thrown at h
  refine j_entry (ret := (some .int)) (nm := "thrown") (own := RX11) pl_X11 rfl rfl rfl (jcats (by rfl)) (Nat.le_of_ble_eq_true rfl) ?_
  show JG (.inl false) cX11_thrown 1 RX11 wsX11_thrown (some .int) "thrown" 0 0 0 ws.length (.inl (some (.int rr)), ws') 0 [some (.ref a0)] [] ws 0 0
  obtain ⟨_, _, h⟩ := obS h
  refine j_aload_n (pc := 0) dX11_thrown_0 rfl ?_
  obtain ⟨x1, e2, h⟩ := obS h
  refine j_getI (pc := 1) dX11_thrown_1 (ci := 11) (kf := 30) rfl (jwi hw_X11) (by decide) (jwm lw_540) e2 ?_
  obtain ⟨rfl, rfl⟩ := jretS h
  exact j_iret (pc := 4) rfl dX11_thrown_4 (by decide) (by decide) rfl
theorem r_X11_thrown {a0 : Nat} {ws : LWd} {o : (Int32 × LWd)} (h : m_X11_thrown a0 ws = some o) : ∃ fs, ws[a0]? = some (.inr (11, fs)) := rcv_in h
def wsX11_fails : List Cond := Cond.code yX11_fails cX11_fails 2 (some .boolean) :: jW
def m_X11_fails (a0 : Nat) (i1 : Int32) (ws : LWd) : Option (Int32 × LWd) :=
  (rcv ws a0 11).bind fun _ =>
  (pV ws a0 11 30 (.int i1)).bind fun w1 =>
  if i1 ≤ 0 then
    some (0, w1)
  else
    some (1, w1)
set_option maxRecDepth 100000 in
set_option maxHeartbeats 4000000 in
theorem s_X11_fails {a0 : Nat} {i1 : Int32} {ws : LWd} {rr : Int32} {ws' : LWd} (h : m_X11_fails a0 i1 ws = some (rr, ws')) : jSp yX11_fails wsX11_fails 0 0 0 [.ref a0, .int i1] ws (.inl (some (.int rr)), ws') := by
  unfold m_X11_fails at h
  refine j_entry (ret := (some .boolean)) (nm := "fails") (own := RX11) pl_X11 rfl rfl rfl (jcats (by rfl)) (Nat.le_of_ble_eq_true rfl) ?_
  show JG (.inl false) cX11_fails 2 RX11 wsX11_fails (some .boolean) "fails" 0 0 0 ws.length (.inl (some (.int rr)), ws') 0 [some (.ref a0), some (.int i1)] [] ws 0 0
  obtain ⟨_, _, h⟩ := obS h
  refine j_aload_n (pc := 0) dX11_fails_0 rfl ?_
  refine j_iload_n (pc := 1) dX11_fails_1 rfl ?_
  obtain ⟨w1, e2, h⟩ := obS h
  refine j_putV (pc := 2) (ci := 11) (kf := 30) tyX11 tyX11_ok nmX11 dX11_fails_2 rfl (jwi hw_X11) (by decide) (jwm lw_540) rfl (fun _ => rfl) (fun _ => rfl) e2 ?_
  refine j_iload_n (pc := 5) dX11_fails_5 rfl ?_
  refine j_if_le (pc := 6) (tgt := 13) dX11_fails_6 (by decide) (fun c3 => ?_) (fun c3 => ?_)
  · rw [if_pos c3] at h
    refine j_iconst (pc := 13) dX11_fails_13 (v := 0) (by decide) ?_
    obtain ⟨rfl, rfl⟩ := jretS h
    exact j_zretL (pc := 14) (by decide) rfl dX11_fails_14 (by decide) (by decide) rfl
  · rw [if_neg c3] at h
    refine j_iconst (pc := 9) dX11_fails_9 (v := 1) (by decide) ?_
    refine j_goto (pc := 10) (tgt := 14) dX11_fails_10 (by decide) ?_
    obtain ⟨rfl, rfl⟩ := jretS h
    exact j_zretL (pc := 14) (by decide) rfl dX11_fails_14 (by decide) (by decide) rfl
theorem r_X11_fails {a0 : Nat} {i1 : Int32} {ws : LWd} {o : (Int32 × LWd)} (h : m_X11_fails a0 i1 ws = some o) : ∃ fs, ws[a0]? = some (.inr (11, fs)) := rcv_in h
def wsX11_isIn : List Cond := Cond.code yX11_isIn cX11_isIn 3 (some .boolean) :: jW
def m_X11_isIn (i0 : Int32) (i1 : Int32) (i2 : Int32) (ws : LWd) : Option (Int32 × LWd) :=
  if i0 < i1 then
    some (0, ws)
  else
    if i2 < i0 then
      some (0, ws)
    else
      some (1, ws)
set_option maxRecDepth 100000 in
set_option maxHeartbeats 4000000 in
theorem s_X11_isIn {i0 : Int32} {i1 : Int32} {i2 : Int32} {ws : LWd} {rr : Int32} {ws' : LWd} (h : m_X11_isIn i0 i1 i2 ws = some (rr, ws')) : jSp yX11_isIn wsX11_isIn 0 0 0 [.int i0, .int i1, .int i2] ws (.inl (some (.int rr)), ws') := by
  unfold m_X11_isIn at h
  refine j_entry (ret := (some .boolean)) (nm := "isIn") (own := RX11) pl_X11 rfl rfl rfl (jcats (by rfl)) (Nat.le_of_ble_eq_true rfl) ?_
  show JG (.inl false) cX11_isIn 3 RX11 wsX11_isIn (some .boolean) "isIn" 0 0 0 ws.length (.inl (some (.int rr)), ws') 0 [some (.int i0), some (.int i1), some (.int i2)] [] ws 0 0
  refine j_iload_n (pc := 0) dX11_isIn_0 rfl ?_
  refine j_iload_n (pc := 1) dX11_isIn_1 rfl ?_
  refine j_icmp_lt (pc := 2) (tgt := 14) dX11_isIn_2 (by decide) (fun c1 => ?_) (fun c1 => ?_)
  · rw [if_pos c1] at h
    refine j_iconst (pc := 14) dX11_isIn_14 (v := 0) (by decide) ?_
    obtain ⟨rfl, rfl⟩ := jretS h
    exact j_zretL (pc := 15) (by decide) rfl dX11_isIn_15 (by decide) (by decide) rfl
  · rw [if_neg c1] at h
    refine j_iload_n (pc := 5) dX11_isIn_5 rfl ?_
    refine j_iload_n (pc := 6) dX11_isIn_6 rfl ?_
    refine j_icmp_gt (pc := 7) (tgt := 14) dX11_isIn_7 (by decide) (fun c2 => ?_) (fun c2 => ?_)
    · rw [if_pos c2] at h
      refine j_iconst (pc := 14) dX11_isIn_14 (v := 0) (by decide) ?_
      obtain ⟨rfl, rfl⟩ := jretS h
      exact j_zretL (pc := 15) (by decide) rfl dX11_isIn_15 (by decide) (by decide) rfl
    · rw [if_neg c2] at h
      refine j_iconst (pc := 10) dX11_isIn_10 (v := 1) (by decide) ?_
      refine j_goto (pc := 11) (tgt := 15) dX11_isIn_11 (by decide) ?_
      obtain ⟨rfl, rfl⟩ := jretS h
      exact j_zretL (pc := 15) (by decide) rfl dX11_isIn_15 (by decide) (by decide) rfl
def wsX11_isPoint : List Cond := Cond.code yX11_isPoint cX11_isPoint 2 (some .boolean) :: jW
def m_X11_isPoint (i0 : Int32) (i1 : Int32) (ws : LWd) : Option (Int32 × LWd) :=
  bn2 (calSR ws (m_X11_isIn i0 0 19 ws)) fun x3 w1 =>
  if x3 = 0 then
    some (0, w1)
  else
    bn2 (calSR w1 (m_X11_isIn i1 0 19 w1)) fun x7 w5 =>
    if x7 = 0 then
      some (0, w5)
    else
      some (1, w5)
set_option maxRecDepth 100000 in
set_option maxHeartbeats 4000000 in
theorem s_X11_isPoint {i0 : Int32} {i1 : Int32} {ws : LWd} {rr : Int32} {ws' : LWd} (h : m_X11_isPoint i0 i1 ws = some (rr, ws')) : jSp yX11_isPoint wsX11_isPoint 1 0 0 [.int i0, .int i1] ws (.inl (some (.int rr)), ws') := by
  unfold m_X11_isPoint at h
  refine j_entry (ret := (some .boolean)) (nm := "isPoint") (own := RX11) pl_X11 rfl rfl rfl (jcats (by rfl)) (Nat.le_of_ble_eq_true rfl) ?_
  show JG (.inl false) cX11_isPoint 2 RX11 wsX11_isPoint (some .boolean) "isPoint" 1 0 0 ws.length (.inl (some (.int rr)), ws') 0 [some (.int i0), some (.int i1)] [] ws 0 0
  refine j_iload_n (pc := 0) dX11_isPoint_0 rfl ?_
  refine j_iconst (pc := 1) dX11_isPoint_1 (v := 0) (by decide) ?_
  refine j_bipush (pc := 2) dX11_isPoint_2 (v := 19) (by decide) ?_
  obtain ⟨x3, w1, e2, h⟩ := obS2 h
  have ge2 := calSR_of e2
  refine j_callS_g (pc := 4) (As := [.int i0, .int 0, .int 19]) (k' := 0) (n' := 0) dX11_isPoint_4 (s_X11_isIn ge2.1) (jgS lw_542 lw_543 lw_544 lw_541) rfl hy_X11_isIn rfl (by decide) (by decide) (Nat.le_of_ble_eq_true rfl) (by decide) (by decide) (by decide) (by decide) (Or.inl ge2.2) ?_
  refine j_if_eq (pc := 7) (tgt := 24) dX11_isPoint_7 (by decide) (fun c4 => ?_) (fun c4 => ?_)
  · rw [if_pos c4] at h
    refine j_iconst (pc := 24) dX11_isPoint_24 (v := 0) (by decide) ?_
    obtain ⟨rfl, rfl⟩ := jretS h
    exact j_zretL (pc := 25) (by decide) rfl dX11_isPoint_25 (by decide) (by decide) rfl
  · rw [if_neg c4] at h
    refine j_iload_n (pc := 10) dX11_isPoint_10 rfl ?_
    refine j_iconst (pc := 11) dX11_isPoint_11 (v := 0) (by decide) ?_
    refine j_bipush (pc := 12) dX11_isPoint_12 (v := 19) (by decide) ?_
    obtain ⟨x7, w5, e6, h⟩ := obS2 h
    have ge6 := calSR_of e6
    refine j_callS_g (pc := 14) (As := [.int i1, .int 0, .int 19]) (k' := 0) (n' := 0) dX11_isPoint_14 (s_X11_isIn ge6.1) (jgS lw_542 lw_543 lw_544 lw_541) rfl hy_X11_isIn rfl (by decide) (by decide) (Nat.le_of_ble_eq_true rfl) (by decide) (by decide) (by decide) (by decide) (Or.inl ge6.2) ?_
    refine j_if_eq (pc := 17) (tgt := 24) dX11_isPoint_17 (by decide) (fun c8 => ?_) (fun c8 => ?_)
    · rw [if_pos c8] at h
      refine j_iconst (pc := 24) dX11_isPoint_24 (v := 0) (by decide) ?_
      obtain ⟨rfl, rfl⟩ := jretS h
      exact j_zretL (pc := 25) (by decide) rfl dX11_isPoint_25 (by decide) (by decide) rfl
    · rw [if_neg c8] at h
      refine j_iconst (pc := 20) dX11_isPoint_20 (v := 1) (by decide) ?_
      refine j_goto (pc := 21) (tgt := 25) dX11_isPoint_21 (by decide) ?_
      obtain ⟨rfl, rfl⟩ := jretS h
      exact j_zretL (pc := 25) (by decide) rfl dX11_isPoint_25 (by decide) (by decide) rfl
def wsX11_at : List Cond := Cond.code yX11_at cX11_at 2 (some .int) :: jW
def m_X11_at (i0 : Int32) (i1 : Int32) (ws : LWd) : Option (Int32 × LWd) :=
  some ((20 * i1) + i0, ws)
set_option maxRecDepth 100000 in
set_option maxHeartbeats 4000000 in
theorem s_X11_at {i0 : Int32} {i1 : Int32} {ws : LWd} {rr : Int32} {ws' : LWd} (h : m_X11_at i0 i1 ws = some (rr, ws')) : jSp yX11_at wsX11_at 0 0 0 [.int i0, .int i1] ws (.inl (some (.int rr)), ws') := by
  unfold m_X11_at at h
  refine j_entry (ret := (some .int)) (nm := "at") (own := RX11) pl_X11 rfl rfl rfl (jcats (by rfl)) (Nat.le_of_ble_eq_true rfl) ?_
  show JG (.inl false) cX11_at 2 RX11 wsX11_at (some .int) "at" 0 0 0 ws.length (.inl (some (.int rr)), ws') 0 [some (.int i0), some (.int i1)] [] ws 0 0
  refine j_bipush (pc := 0) dX11_at_0 (v := 20) (by decide) ?_
  refine j_iload_n (pc := 2) dX11_at_2 rfl ?_
  refine j_imul (pc := 3) dX11_at_3 ?_
  refine j_iload_n (pc := 4) dX11_at_4 rfl ?_
  refine j_iadd (pc := 5) dX11_at_5 ?_
  obtain ⟨rfl, rfl⟩ := jretS h
  exact j_iret (pc := 6) rfl dX11_at_6 (by decide) (by decide) rfl
def wsX11_isLeg : List Cond := Cond.code yX11_isLeg cX11_isLeg 2 (some .boolean) :: jW
def m_X11_isLeg (a0 : Nat) (i1 : Int32) (ws : LWd) : Option (Int32 × LWd) :=
  (rcv ws a0 11).bind fun _ =>
  (fI ws a0 11 11).bind fun x1 =>
  bn2 (calSR ws (m_X11_isIn i1 0 (x1 - 1) ws)) fun x5 w3 =>
  retZ x5 w3
set_option maxRecDepth 100000 in
set_option maxHeartbeats 4000000 in
theorem s_X11_isLeg {a0 : Nat} {i1 : Int32} {ws : LWd} {rr : Int32} {ws' : LWd} (h : m_X11_isLeg a0 i1 ws = some (rr, ws')) : jSp yX11_isLeg wsX11_isLeg 1 0 0 [.ref a0, .int i1] ws (.inl (some (.int rr)), ws') := by
  unfold m_X11_isLeg at h
  refine j_entry (ret := (some .boolean)) (nm := "isLeg") (own := RX11) pl_X11 rfl rfl rfl (jcats (by rfl)) (Nat.le_of_ble_eq_true rfl) ?_
  show JG (.inl false) cX11_isLeg 2 RX11 wsX11_isLeg (some .boolean) "isLeg" 1 0 0 ws.length (.inl (some (.int rr)), ws') 0 [some (.ref a0), some (.int i1)] [] ws 0 0
  obtain ⟨_, _, h⟩ := obS h
  refine j_iload_n (pc := 0) dX11_isLeg_0 rfl ?_
  refine j_iconst (pc := 1) dX11_isLeg_1 (v := 0) (by decide) ?_
  refine j_aload_n (pc := 2) dX11_isLeg_2 rfl ?_
  obtain ⟨x1, e2, h⟩ := obS h
  refine j_getI (pc := 3) dX11_isLeg_3 (ci := 11) (kf := 11) rfl (jwi hw_X11) (by decide) (jwm lw_545) e2 ?_
  refine j_iconst (pc := 6) dX11_isLeg_6 (v := 1) (by decide) ?_
  refine j_isub (pc := 7) dX11_isLeg_7 ?_
  obtain ⟨x5, w3, e4, h⟩ := obS2 h
  have ge4 := calSR_of e4
  refine j_callS_g (pc := 8) (As := [.int i1, .int 0, .int (x1 - 1)]) (k' := 0) (n' := 0) dX11_isLeg_8 (s_X11_isIn ge4.1) (jgS lw_542 lw_543 lw_544 lw_541) rfl hy_X11_isIn rfl (by decide) (by decide) (Nat.le_of_ble_eq_true rfl) (by decide) (by decide) (by decide) (by decide) (Or.inl ge4.2) ?_
  exact j_zret (pc := 11) rfl dX11_isLeg_11 (by decide) (by decide) h rfl rfl
theorem r_X11_isLeg {a0 : Nat} {i1 : Int32} {ws : LWd} {o : (Int32 × LWd)} (h : m_X11_isLeg a0 i1 ws = some o) : ∃ fs, ws[a0]? = some (.inr (11, fs)) := rcv_in h
def wsX11_isDown : List Cond := Cond.code yX11_isDown cX11_isDown 2 (some .boolean) :: jW
def m_X11_isDown (a0 : Nat) (i1 : Int32) (ws : LWd) : Option (Int32 × LWd) :=
  (rcv ws a0 11).bind fun _ =>
  (fI ws a0 11 17).bind fun x1 =>
  if ((x1 >>> (i1 &&& 31)) &&& 1) = 1 then
    some (1, ws)
  else
    some (0, ws)
set_option maxRecDepth 100000 in
set_option maxHeartbeats 4000000 in
theorem s_X11_isDown {a0 : Nat} {i1 : Int32} {ws : LWd} {rr : Int32} {ws' : LWd} (h : m_X11_isDown a0 i1 ws = some (rr, ws')) : jSp yX11_isDown wsX11_isDown 0 0 0 [.ref a0, .int i1] ws (.inl (some (.int rr)), ws') := by
  unfold m_X11_isDown at h
  refine j_entry (ret := (some .boolean)) (nm := "isDown") (own := RX11) pl_X11 rfl rfl rfl (jcats (by rfl)) (Nat.le_of_ble_eq_true rfl) ?_
  show JG (.inl false) cX11_isDown 2 RX11 wsX11_isDown (some .boolean) "isDown" 0 0 0 ws.length (.inl (some (.int rr)), ws') 0 [some (.ref a0), some (.int i1)] [] ws 0 0
  obtain ⟨_, _, h⟩ := obS h
  refine j_aload_n (pc := 0) dX11_isDown_0 rfl ?_
  obtain ⟨x1, e2, h⟩ := obS h
  refine j_getI (pc := 1) dX11_isDown_1 (ci := 11) (kf := 17) rfl (jwi hw_X11) (by decide) (jwm lw_546) e2 ?_
  refine j_iload_n (pc := 4) dX11_isDown_4 rfl ?_
  refine j_ishr (pc := 5) dX11_isDown_5 ?_
  refine j_iconst (pc := 6) dX11_isDown_6 (v := 1) (by decide) ?_
  refine j_iand (pc := 7) dX11_isDown_7 ?_
  refine j_iconst (pc := 8) dX11_isDown_8 (v := 1) (by decide) ?_
  refine j_icmp_ne (pc := 9) (tgt := 16) dX11_isDown_9 (by decide) (fun c3 => ?_) (fun c3 => ?_)
  · rw [if_neg c3] at h
    refine j_iconst (pc := 16) dX11_isDown_16 (v := 0) (by decide) ?_
    obtain ⟨rfl, rfl⟩ := jretS h
    exact j_zretL (pc := 17) (by decide) rfl dX11_isDown_17 (by decide) (by decide) rfl
  · rw [if_pos c3] at h
    refine j_iconst (pc := 12) dX11_isDown_12 (v := 1) (by decide) ?_
    refine j_goto (pc := 13) (tgt := 17) dX11_isDown_13 (by decide) ?_
    obtain ⟨rfl, rfl⟩ := jretS h
    exact j_zretL (pc := 17) (by decide) rfl dX11_isDown_17 (by decide) (by decide) rfl
theorem r_X11_isDown {a0 : Nat} {i1 : Int32} {ws : LWd} {o : (Int32 × LWd)} (h : m_X11_isDown a0 i1 ws = some o) : ∃ fs, ws[a0]? = some (.inr (11, fs)) := rcv_in h
def wsX11_count : List Cond := Cond.code yX11_count cX11_count 3 (some .int) :: jW
def m_X11_count_l4 : Nat → Int32 → Int32 → Int32 → LWd → Option (Int32 × LWd)
  | 0, _, _, _, _ => none
  | fu + 1, i0, i1, i2, ws =>
    if 6 ≤ i2 then
      some (i1, ws)
    else
      m_X11_count_l4 fu i0 (i1 + ((i0 >>> (i2 &&& 31)) &&& 1)) (i2 + 1) ws
set_option maxRecDepth 100000 in
set_option maxHeartbeats 4000000 in
theorem jm_X11_count_l4 {n0 : Nat} {rr : Int32} {ws' : LWd} : ∀ (fu : Nat) (i0 : Int32) (i1 : Int32) (i2 : Int32) (ws : LWd), m_X11_count_l4 fu i0 i1 i2 ws = some (rr, ws') → JG (.inl false) cX11_count 3 RX11 wsX11_count (some .int) "count" 0 0 0 n0 (.inl (some (.int rr)), ws') 4 [some (.int i0), some (.int i1), some (.int i2)] [] ws 0 0 := by
  intro fu
  induction fu with
  | zero => intro i0 i1 i2 ws h; cases h
  | succ fu ih =>
    intro i0 i1 i2 ws h
    rw [m_X11_count_l4] at h
    refine j_iload_n (pc := 4) dX11_count_4 rfl ?_
    refine j_bipush (pc := 5) dX11_count_5 (v := 6) (by decide) ?_
    refine j_icmp_ge (pc := 7) (tgt := 24) dX11_count_7 (by decide) (fun c1 => ?_) (fun c1 => ?_)
    · rw [if_pos c1] at h
      refine j_iload_n (pc := 24) dX11_count_24 rfl ?_
      obtain ⟨rfl, rfl⟩ := jretS h
      exact j_iret (pc := 25) rfl dX11_count_25 (by decide) (by decide) rfl
    · rw [if_neg c1] at h
      refine j_iload_n (pc := 10) dX11_count_10 rfl ?_
      refine j_iload_n (pc := 11) dX11_count_11 rfl ?_
      refine j_iload_n (pc := 12) dX11_count_12 rfl ?_
      refine j_ishr (pc := 13) dX11_count_13 ?_
      refine j_iconst (pc := 14) dX11_count_14 (v := 1) (by decide) ?_
      refine j_iand (pc := 15) dX11_count_15 ?_
      refine j_iadd (pc := 16) dX11_count_16 ?_
      refine j_istore_n_1 (pc := 17) dX11_count_17 (by decide) rfl ?_
      refine j_iinc_2 (pc := 18) dX11_count_18 (y := i2 + 1) rfl (by decide) rfl ?_
      refine j_goto (pc := 21) (tgt := 4) dX11_count_21 (by decide) ?_
      exact ih _ _ _ ws h
def m_X11_count (i0 : Int32) (ws : LWd) : Option (Int32 × LWd) :=
  m_X11_count_l4 FU i0 0 0 ws
set_option maxRecDepth 100000 in
set_option maxHeartbeats 4000000 in
theorem s_X11_count {i0 : Int32} {ws : LWd} {rr : Int32} {ws' : LWd} (h : m_X11_count i0 ws = some (rr, ws')) : jSp yX11_count wsX11_count 0 0 0 [.int i0] ws (.inl (some (.int rr)), ws') := by
  unfold m_X11_count at h
  refine j_entry (ret := (some .int)) (nm := "count") (own := RX11) pl_X11 rfl rfl rfl (jcats (by rfl)) (Nat.le_of_ble_eq_true rfl) ?_
  show JG (.inl false) cX11_count 3 RX11 wsX11_count (some .int) "count" 0 0 0 ws.length (.inl (some (.int rr)), ws') 0 [some (.int i0), none, none] [] ws 0 0
  refine j_iconst (pc := 0) dX11_count_0 (v := 0) (by decide) ?_
  refine j_istore_n_1 (pc := 1) dX11_count_1 (by decide) rfl ?_
  refine j_iconst (pc := 2) dX11_count_2 (v := 0) (by decide) ?_
  refine j_istore_n_2 (pc := 3) dX11_count_3 (by decide) rfl ?_
  exact jm_X11_count_l4 FU _ _ _ ws h
def wsX11_footAt : List Cond := Cond.code yX11_footAt cX11_footAt 5 (some .int) :: jW
def m_X11_footAt_b51 (k5 : Nat → Int32 → Int32 → Int32 → Int32 → LWd → Option (Int32 × LWd)) (a0 : Nat) (i1 : Int32) (i2 : Int32) (i4 : Int32) (s0 : Int32) (ws : LWd) : Option (Int32 × LWd) :=
  k5 a0 i1 i2 s0 (i4 + 1) ws
set_option maxRecDepth 100000 in
set_option maxHeartbeats 4000000 in
theorem jm_X11_footAt_b51 {n0 : Nat} {rr : Int32} {ws' : LWd} {k5 : Nat → Int32 → Int32 → Int32 → Int32 → LWd → Option (Int32 × LWd)} (hk5 : ∀ (a0 : Nat) (i1 : Int32) (i2 : Int32) (i3 : Int32) (i4 : Int32) (ws : LWd), k5 a0 i1 i2 i3 i4 ws = some (rr, ws') → JG (.inl false) cX11_footAt 5 RX11 wsX11_footAt (some .int) "footAt" 1 0 0 n0 (.inl (some (.int rr)), ws') 5 [some (.ref a0), some (.int i1), some (.int i2), some (.int i3), some (.int i4)] [] ws 0 0) (a0 : Nat) (i1 : Int32) (i2 : Int32) (i4 : Int32) (s0 : Int32) (ws : LWd) (h : m_X11_footAt_b51 k5 a0 i1 i2 i4 s0 ws = some (rr, ws')) : JG (.inl false) cX11_footAt 5 RX11 wsX11_footAt (some .int) "footAt" 1 0 0 n0 (.inl (some (.int rr)), ws') 51 [some (.ref a0), some (.int i1), some (.int i2), none, some (.int i4)] [.int s0] ws 0 0 := by
  unfold m_X11_footAt_b51 at h
  refine j_istore_n_3 (pc := 51) dX11_footAt_51 (by decide) rfl ?_
  refine j_iinc_4 (pc := 52) dX11_footAt_52 (y := i4 + 1) rfl (by decide) rfl ?_
  refine j_goto (pc := 55) (tgt := 5) dX11_footAt_55 (by decide) ?_
  exact hk5 _ _ _ _ _ ws h
def m_X11_footAt_b50 (k5 : Nat → Int32 → Int32 → Int32 → Int32 → LWd → Option (Int32 × LWd)) (a0 : Nat) (i1 : Int32) (i2 : Int32) (i3 : Int32) (i4 : Int32) (ws : LWd) : Option (Int32 × LWd) :=
  m_X11_footAt_b51 k5 a0 i1 i2 i4 i3 ws
set_option maxRecDepth 100000 in
set_option maxHeartbeats 4000000 in
theorem jm_X11_footAt_b50 {n0 : Nat} {rr : Int32} {ws' : LWd} {k5 : Nat → Int32 → Int32 → Int32 → Int32 → LWd → Option (Int32 × LWd)} (hk5 : ∀ (a0 : Nat) (i1 : Int32) (i2 : Int32) (i3 : Int32) (i4 : Int32) (ws : LWd), k5 a0 i1 i2 i3 i4 ws = some (rr, ws') → JG (.inl false) cX11_footAt 5 RX11 wsX11_footAt (some .int) "footAt" 1 0 0 n0 (.inl (some (.int rr)), ws') 5 [some (.ref a0), some (.int i1), some (.int i2), some (.int i3), some (.int i4)] [] ws 0 0) (a0 : Nat) (i1 : Int32) (i2 : Int32) (i3 : Int32) (i4 : Int32) (ws : LWd) (h : m_X11_footAt_b50 k5 a0 i1 i2 i3 i4 ws = some (rr, ws')) : JG (.inl false) cX11_footAt 5 RX11 wsX11_footAt (some .int) "footAt" 1 0 0 n0 (.inl (some (.int rr)), ws') 50 [some (.ref a0), some (.int i1), some (.int i2), some (.int i3), some (.int i4)] [] ws 0 0 := by
  unfold m_X11_footAt_b50 at h
  refine j_iload_n (pc := 50) dX11_footAt_50 rfl ?_
  refine j_mask [true, true, true, false, true] ?_
  exact jm_X11_footAt_b51 (hk5 := hk5) _ _ _ _ _ ws h
def m_X11_footAt_l5 : Nat → Nat → Int32 → Int32 → Int32 → Int32 → LWd → Option (Int32 × LWd)
  | 0, _, _, _, _, _, _ => none
  | fu + 1, a0, i1, i2, i3, i4, ws =>
    (fI ws a0 11 11).bind fun x1 =>
    if x1 ≤ i4 then
      some (i3, ws)
    else
      bn2 (calSR ws (m_X11_isDown a0 i4 ws)) fun x6 w4 =>
      if x6 = 0 then
        m_X11_footAt_b50 (fun z0 z1 z2 z3 z4 w => m_X11_footAt_l5 fu z0 z1 z2 z3 z4 w) a0 i1 i2 i3 i4 w4
      else
        (fR w4 a0 11 15).bind fun x8 =>
        (aI w4 x8 i4).bind fun x10 =>
        if x10 = i1 then
          (fR w4 a0 11 16).bind fun x13 =>
          (aI w4 x13 i4).bind fun x15 =>
          if x15 = i2 then
            m_X11_footAt_b51 (fun z0 z1 z2 z3 z4 w => m_X11_footAt_l5 fu z0 z1 z2 z3 z4 w) a0 i1 i2 i4 i4 w4
          else
            m_X11_footAt_b50 (fun z0 z1 z2 z3 z4 w => m_X11_footAt_l5 fu z0 z1 z2 z3 z4 w) a0 i1 i2 i3 i4 w4
        else
          m_X11_footAt_b50 (fun z0 z1 z2 z3 z4 w => m_X11_footAt_l5 fu z0 z1 z2 z3 z4 w) a0 i1 i2 i3 i4 w4
set_option maxRecDepth 100000 in
set_option maxHeartbeats 4000000 in
theorem jm_X11_footAt_l5 {n0 : Nat} {rr : Int32} {ws' : LWd} : ∀ (fu : Nat) (a0 : Nat) (i1 : Int32) (i2 : Int32) (i3 : Int32) (i4 : Int32) (ws : LWd), m_X11_footAt_l5 fu a0 i1 i2 i3 i4 ws = some (rr, ws') → JG (.inl false) cX11_footAt 5 RX11 wsX11_footAt (some .int) "footAt" 1 0 0 n0 (.inl (some (.int rr)), ws') 5 [some (.ref a0), some (.int i1), some (.int i2), some (.int i3), some (.int i4)] [] ws 0 0 := by
  intro fu
  induction fu with
  | zero => intro a0 i1 i2 i3 i4 ws h; cases h
  | succ fu ih =>
    intro a0 i1 i2 i3 i4 ws h
    rw [m_X11_footAt_l5] at h
    refine j_iload (pc := 5) dX11_footAt_5 rfl ?_
    refine j_aload_n (pc := 7) dX11_footAt_7 rfl ?_
    obtain ⟨x1, e2, h⟩ := obS h
    refine j_getI (pc := 8) dX11_footAt_8 (ci := 11) (kf := 11) rfl (jwi hw_X11) (by decide) (jwm lw_545) e2 ?_
    refine j_icmp_ge (pc := 11) (tgt := 58) dX11_footAt_11 (by decide) (fun c3 => ?_) (fun c3 => ?_)
    · rw [if_pos c3] at h
      refine j_iload_n (pc := 58) dX11_footAt_58 rfl ?_
      obtain ⟨rfl, rfl⟩ := jretS h
      exact j_iret (pc := 59) rfl dX11_footAt_59 (by decide) (by decide) rfl
    · rw [if_neg c3] at h
      refine j_aload_n (pc := 14) dX11_footAt_14 rfl ?_
      refine j_iload (pc := 15) dX11_footAt_15 rfl ?_
      obtain ⟨x6, w4, e5, h⟩ := obS2 h
      have ge5 := calSR_of e5
      refine j_callV_g (pc := 17) (As := [.int i4]) (k' := 0) (n' := 0) dX11_footAt_17 (s_X11_isDown ge5.1) (jgV lw_548 lw_549 lw_550 lw_544 lw_547) rfl hv_X11_isDown rfl (r_X11_isDown ge5.1) rfl (by decide) (by decide) (Nat.le_of_ble_eq_true rfl) (by decide) (by decide) (by decide) (by decide) (Or.inl ge5.2) ?_
      refine j_if_eq (pc := 20) (tgt := 50) dX11_footAt_20 (by decide) (fun c7 => ?_) (fun c7 => ?_)
      · rw [if_pos c7] at h
        exact jm_X11_footAt_b50 (hk5 := ih) _ _ _ _ _ w4 h
      · rw [if_neg c7] at h
        refine j_aload_n (pc := 23) dX11_footAt_23 rfl ?_
        obtain ⟨x8, e9, h⟩ := obS h
        refine j_getR (pc := 24) dX11_footAt_24 (ci := 11) (kf := 15) rfl (jwi hw_X11) (by decide) (jwm lw_535) e9 ?_
        refine j_iload (pc := 27) dX11_footAt_27 rfl ?_
        obtain ⟨x10, e11, h⟩ := obS h
        refine j_iald (pc := 29) dX11_footAt_29 e11 ?_
        refine j_iload_n (pc := 30) dX11_footAt_30 rfl ?_
        refine j_icmp_ne (pc := 31) (tgt := 50) dX11_footAt_31 (by decide) (fun c12 => ?_) (fun c12 => ?_)
        · rw [if_neg c12] at h
          exact jm_X11_footAt_b50 (hk5 := ih) _ _ _ _ _ w4 h
        · rw [if_pos c12] at h
          refine j_aload_n (pc := 34) dX11_footAt_34 rfl ?_
          obtain ⟨x13, e14, h⟩ := obS h
          refine j_getR (pc := 35) dX11_footAt_35 (ci := 11) (kf := 16) rfl (jwi hw_X11) (by decide) (jwm lw_536) e14 ?_
          refine j_iload (pc := 38) dX11_footAt_38 rfl ?_
          obtain ⟨x15, e16, h⟩ := obS h
          refine j_iald (pc := 40) dX11_footAt_40 e16 ?_
          refine j_iload_n (pc := 41) dX11_footAt_41 rfl ?_
          refine j_icmp_ne (pc := 42) (tgt := 50) dX11_footAt_42 (by decide) (fun c17 => ?_) (fun c17 => ?_)
          · rw [if_neg c17] at h
            exact jm_X11_footAt_b50 (hk5 := ih) _ _ _ _ _ w4 h
          · rw [if_pos c17] at h
            refine j_iload (pc := 45) dX11_footAt_45 rfl ?_
            refine j_goto (pc := 47) (tgt := 51) dX11_footAt_47 (by decide) ?_
            refine j_mask [true, true, true, false, true] ?_
            exact jm_X11_footAt_b51 (hk5 := ih) _ _ _ _ _ w4 h
def m_X11_footAt (a0 : Nat) (i1 : Int32) (i2 : Int32) (ws : LWd) : Option (Int32 × LWd) :=
  (rcv ws a0 11).bind fun _ =>
  m_X11_footAt_l5 FU a0 i1 i2 ((-1)) 0 ws
set_option maxRecDepth 100000 in
set_option maxHeartbeats 4000000 in
theorem s_X11_footAt {a0 : Nat} {i1 : Int32} {i2 : Int32} {ws : LWd} {rr : Int32} {ws' : LWd} (h : m_X11_footAt a0 i1 i2 ws = some (rr, ws')) : jSp yX11_footAt wsX11_footAt 1 0 0 [.ref a0, .int i1, .int i2] ws (.inl (some (.int rr)), ws') := by
  unfold m_X11_footAt at h
  refine j_entry (ret := (some .int)) (nm := "footAt") (own := RX11) pl_X11 rfl rfl rfl (jcats (by rfl)) (Nat.le_of_ble_eq_true rfl) ?_
  show JG (.inl false) cX11_footAt 5 RX11 wsX11_footAt (some .int) "footAt" 1 0 0 ws.length (.inl (some (.int rr)), ws') 0 [some (.ref a0), some (.int i1), some (.int i2), none, none] [] ws 0 0
  obtain ⟨_, _, h⟩ := obS h
  refine j_iconst (pc := 0) dX11_footAt_0 (v := (-1)) (by decide) ?_
  refine j_istore_n_3 (pc := 1) dX11_footAt_1 (by decide) rfl ?_
  refine j_iconst (pc := 2) dX11_footAt_2 (v := 0) (by decide) ?_
  refine j_istore_4 (pc := 3) dX11_footAt_3 (by decide) rfl ?_
  exact jm_X11_footAt_l5 FU _ _ _ _ _ ws h
theorem r_X11_footAt {a0 : Nat} {i1 : Int32} {i2 : Int32} {ws : LWd} {o : (Int32 × LWd)} (h : m_X11_footAt a0 i1 i2 ws = some o) : ∃ fs, ws[a0]? = some (.inr (11, fs)) := rcv_in h
def wsX11_ground : List Cond := Cond.code yX11_ground cX11_ground 8 (some .int) :: jW
def m_X11_ground_b72 (a0 : Nat) (i1 : Int32) (i2 : Int32) (i3 : Int32) (i4 : Int32) (i5 : Int32) (s0 : Nat) (s1 : Int32) (ws : LWd) : Option (Int32 × LWd) :=
  bn2 (calSR ws (m_X11_fails s0 s1 ws)) fun x3 w1 =>
  if x3 = 0 then
    (fR w1 a0 11 0).bind fun x5 =>
    bn2 (calSR w1 (m_X11_at i1 i2 w1)) fun x9 w7 =>
    (aI w7 x5 x9).bind fun x10 =>
    (fR w7 a0 11 0).bind fun x12 =>
    bn2 (calSR w7 (m_X11_at i1 i2 w7)) fun x16 w14 =>
    (sI w14 x12 x16 i3).bind fun w17 =>
    (fR w17 a0 11 1).bind fun x19 =>
    bn2 (calSR w17 (m_X11_at i1 i2 w17)) fun x23 w21 =>
    (sI w21 x19 x23 i4).bind fun w24 =>
    (fR w24 a0 11 2).bind fun x26 =>
    bn2 (calSR w24 (m_X11_at i1 i2 w24)) fun x30 w28 =>
    (sI w28 x26 x30 i5).bind fun w31 =>
    some (x10, w31)
  else
    some (0, w1)
set_option maxRecDepth 100000 in
set_option maxHeartbeats 4000000 in
theorem jm_X11_ground_b72 {n0 : Nat} {rr : Int32} {ws' : LWd} (a0 : Nat) (i1 : Int32) (i2 : Int32) (i3 : Int32) (i4 : Int32) (i5 : Int32) (s0 : Nat) (s1 : Int32) (ws : LWd) (h : m_X11_ground_b72 a0 i1 i2 i3 i4 i5 s0 s1 ws = some (rr, ws')) : JG (.inl false) cX11_ground 8 RX11 wsX11_ground (some .int) "ground" 2 0 0 n0 (.inl (some (.int rr)), ws') 72 [some (.ref a0), some (.int i1), some (.int i2), some (.int i3), some (.int i4), some (.int i5), none, none] [.int s1, .ref s0] ws 0 0 := by
  unfold m_X11_ground_b72 at h
  obtain ⟨x3, w1, e2, h⟩ := obS2 h
  have ge2 := calSR_of e2
  refine j_callV_g (pc := 72) (As := [.int s1]) (k' := 0) (n' := 0) dX11_ground_72 (s_X11_fails ge2.1) (jgV lw_552 lw_553 lw_554 lw_544 lw_551) rfl hv_X11_fails rfl (r_X11_fails ge2.1) rfl (by decide) (by decide) (Nat.le_of_ble_eq_true rfl) (by decide) (by decide) (by decide) (by decide) (Or.inl ge2.2) ?_
  refine j_if_eq (pc := 75) (tgt := 80) dX11_ground_75 (by decide) (fun c4 => ?_) (fun c4 => ?_)
  · rw [if_pos c4] at h
    refine j_aload_n (pc := 80) dX11_ground_80 rfl ?_
    obtain ⟨x5, e6, h⟩ := obS h
    refine j_getR (pc := 81) dX11_ground_81 (ci := 11) (kf := 0) rfl (jwi hw_X11) (by decide) (jwm lw_527) e6 ?_
    refine j_iload_n (pc := 84) dX11_ground_84 rfl ?_
    refine j_iload_n (pc := 85) dX11_ground_85 rfl ?_
    obtain ⟨x9, w7, e8, h⟩ := obS2 h
    have ge8 := calSR_of e8
    refine j_callS_g (pc := 86) (As := [.int i1, .int i2]) (k' := 0) (n' := 0) dX11_ground_86 (s_X11_at ge8.1) (jgS lw_556 lw_557 lw_544 lw_555) rfl hy_X11_at rfl (by decide) (by decide) (Nat.le_of_ble_eq_true rfl) (by decide) (by decide) (by decide) (by decide) (Or.inl ge8.2) ?_
    obtain ⟨x10, e11, h⟩ := obS h
    refine j_iald (pc := 89) dX11_ground_89 e11 ?_
    refine j_istore_7 (pc := 90) dX11_ground_90 (by decide) rfl ?_
    refine j_aload_n (pc := 92) dX11_ground_92 rfl ?_
    obtain ⟨x12, e13, h⟩ := obS h
    refine j_getR (pc := 93) dX11_ground_93 (ci := 11) (kf := 0) rfl (jwi hw_X11) (by decide) (jwm lw_527) e13 ?_
    refine j_iload_n (pc := 96) dX11_ground_96 rfl ?_
    refine j_iload_n (pc := 97) dX11_ground_97 rfl ?_
    obtain ⟨x16, w14, e15, h⟩ := obS2 h
    have ge15 := calSR_of e15
    refine j_callS_g (pc := 98) (As := [.int i1, .int i2]) (k' := 0) (n' := 0) dX11_ground_98 (s_X11_at ge15.1) (jgS lw_556 lw_557 lw_544 lw_555) rfl hy_X11_at rfl (by decide) (by decide) (Nat.le_of_ble_eq_true rfl) (by decide) (by decide) (by decide) (by decide) (Or.inl ge15.2) ?_
    refine j_iload_n (pc := 101) dX11_ground_101 rfl ?_
    obtain ⟨w17, e18, h⟩ := obS h
    refine j_iast (pc := 102) dX11_ground_102 e18 ?_
    refine j_aload_n (pc := 103) dX11_ground_103 rfl ?_
    obtain ⟨x19, e20, h⟩ := obS h
    refine j_getR (pc := 104) dX11_ground_104 (ci := 11) (kf := 1) rfl (jwi hw_X11) (by decide) (jwm lw_524) e20 ?_
    refine j_iload_n (pc := 107) dX11_ground_107 rfl ?_
    refine j_iload_n (pc := 108) dX11_ground_108 rfl ?_
    obtain ⟨x23, w21, e22, h⟩ := obS2 h
    have ge22 := calSR_of e22
    refine j_callS_g (pc := 109) (As := [.int i1, .int i2]) (k' := 0) (n' := 0) dX11_ground_109 (s_X11_at ge22.1) (jgS lw_556 lw_557 lw_544 lw_555) rfl hy_X11_at rfl (by decide) (by decide) (Nat.le_of_ble_eq_true rfl) (by decide) (by decide) (by decide) (by decide) (Or.inl ge22.2) ?_
    refine j_iload (pc := 112) dX11_ground_112 rfl ?_
    obtain ⟨w24, e25, h⟩ := obS h
    refine j_iast (pc := 114) dX11_ground_114 e25 ?_
    refine j_aload_n (pc := 115) dX11_ground_115 rfl ?_
    obtain ⟨x26, e27, h⟩ := obS h
    refine j_getR (pc := 116) dX11_ground_116 (ci := 11) (kf := 2) rfl (jwi hw_X11) (by decide) (jwm lw_525) e27 ?_
    refine j_iload_n (pc := 119) dX11_ground_119 rfl ?_
    refine j_iload_n (pc := 120) dX11_ground_120 rfl ?_
    obtain ⟨x30, w28, e29, h⟩ := obS2 h
    have ge29 := calSR_of e29
    refine j_callS_g (pc := 121) (As := [.int i1, .int i2]) (k' := 0) (n' := 0) dX11_ground_121 (s_X11_at ge29.1) (jgS lw_556 lw_557 lw_544 lw_555) rfl hy_X11_at rfl (by decide) (by decide) (Nat.le_of_ble_eq_true rfl) (by decide) (by decide) (by decide) (by decide) (Or.inl ge29.2) ?_
    refine j_iload (pc := 124) dX11_ground_124 rfl ?_
    obtain ⟨w31, e32, h⟩ := obS h
    refine j_iast (pc := 126) dX11_ground_126 e32 ?_
    refine j_iload (pc := 127) dX11_ground_127 rfl ?_
    obtain ⟨rfl, rfl⟩ := jretS h
    exact j_iret (pc := 129) rfl dX11_ground_129 (by decide) (by decide) rfl
  · rw [if_neg c4] at h
    refine j_iconst (pc := 78) dX11_ground_78 (v := 0) (by decide) ?_
    obtain ⟨rfl, rfl⟩ := jretS h
    exact j_iret (pc := 79) rfl dX11_ground_79 (by decide) (by decide) rfl
def m_X11_ground_b45 (a0 : Nat) (i1 : Int32) (i2 : Int32) (i3 : Int32) (i4 : Int32) (i5 : Int32) (s0 : Int32) (ws : LWd) : Option (Int32 × LWd) :=
  if s0 = 0 then
    m_X11_ground_b72 a0 i1 i2 i3 i4 i5 a0 1 ws
  else
    bn2 (calSR ws (m_X11_footAt a0 i1 i2 ws)) fun x4 w2 =>
    if x4 = ((-1)) then
      m_X11_ground_b72 a0 i1 i2 i3 i4 i5 a0 0 w2
    else
      m_X11_ground_b72 a0 i1 i2 i3 i4 i5 a0 2 w2
set_option maxRecDepth 100000 in
set_option maxHeartbeats 4000000 in
theorem jm_X11_ground_b45 {n0 : Nat} {rr : Int32} {ws' : LWd} (a0 : Nat) (i1 : Int32) (i2 : Int32) (i3 : Int32) (i4 : Int32) (i5 : Int32) (s0 : Int32) (ws : LWd) (h : m_X11_ground_b45 a0 i1 i2 i3 i4 i5 s0 ws = some (rr, ws')) : JG (.inl false) cX11_ground 8 RX11 wsX11_ground (some .int) "ground" 2 0 0 n0 (.inl (some (.int rr)), ws') 45 [some (.ref a0), some (.int i1), some (.int i2), some (.int i3), some (.int i4), some (.int i5), none, none] [.int s0] ws 0 0 := by
  unfold m_X11_ground_b45 at h
  refine j_istore_6 (pc := 45) dX11_ground_45 (by decide) rfl ?_
  refine j_aload_n (pc := 47) dX11_ground_47 rfl ?_
  refine j_iload (pc := 48) dX11_ground_48 rfl ?_
  refine j_if_ne (pc := 50) (tgt := 57) dX11_ground_50 (by decide) (fun c1 => ?_) (fun c1 => ?_)
  · rw [if_neg c1] at h
    refine j_aload_n (pc := 57) dX11_ground_57 rfl ?_
    refine j_iload_n (pc := 58) dX11_ground_58 rfl ?_
    refine j_iload_n (pc := 59) dX11_ground_59 rfl ?_
    obtain ⟨x4, w2, e3, h⟩ := obS2 h
    have ge3 := calSR_of e3
    refine j_callV_g (pc := 60) (As := [.int i1, .int i2]) (k' := 0) (n' := 0) dX11_ground_60 (s_X11_footAt ge3.1) (jgV lw_559 lw_560 lw_561 lw_544 lw_558) rfl hv_X11_footAt rfl (r_X11_footAt ge3.1) rfl (by decide) (by decide) (Nat.le_of_ble_eq_true rfl) (by decide) (by decide) (by decide) (by decide) (Or.inl ge3.2) ?_
    refine j_iconst (pc := 63) dX11_ground_63 (v := (-1)) (by decide) ?_
    refine j_icmp_eq (pc := 64) (tgt := 71) dX11_ground_64 (by decide) (fun c5 => ?_) (fun c5 => ?_)
    · rw [if_pos c5] at h
      refine j_iconst (pc := 71) dX11_ground_71 (v := 0) (by decide) ?_
      refine j_mask [true, true, true, true, true, true, false, false] ?_
      exact jm_X11_ground_b72 _ _ _ _ _ _ _ _ w2 h
    · rw [if_neg c5] at h
      refine j_iconst (pc := 67) dX11_ground_67 (v := 2) (by decide) ?_
      refine j_goto (pc := 68) (tgt := 72) dX11_ground_68 (by decide) ?_
      refine j_mask [true, true, true, true, true, true, false, false] ?_
      exact jm_X11_ground_b72 _ _ _ _ _ _ _ _ w2 h
  · rw [if_pos c1] at h
    refine j_iconst (pc := 53) dX11_ground_53 (v := 1) (by decide) ?_
    refine j_goto (pc := 54) (tgt := 72) dX11_ground_54 (by decide) ?_
    refine j_mask [true, true, true, true, true, true, false, false] ?_
    exact jm_X11_ground_b72 _ _ _ _ _ _ _ _ ws h
def m_X11_ground_b44 (a0 : Nat) (i1 : Int32) (i2 : Int32) (i3 : Int32) (i4 : Int32) (i5 : Int32) (ws : LWd) : Option (Int32 × LWd) :=
  m_X11_ground_b45 a0 i1 i2 i3 i4 i5 0 ws
set_option maxRecDepth 100000 in
set_option maxHeartbeats 4000000 in
theorem jm_X11_ground_b44 {n0 : Nat} {rr : Int32} {ws' : LWd} (a0 : Nat) (i1 : Int32) (i2 : Int32) (i3 : Int32) (i4 : Int32) (i5 : Int32) (ws : LWd) (h : m_X11_ground_b44 a0 i1 i2 i3 i4 i5 ws = some (rr, ws')) : JG (.inl false) cX11_ground 8 RX11 wsX11_ground (some .int) "ground" 2 0 0 n0 (.inl (some (.int rr)), ws') 44 [some (.ref a0), some (.int i1), some (.int i2), some (.int i3), some (.int i4), some (.int i5), none, none] [] ws 0 0 := by
  unfold m_X11_ground_b44 at h
  refine j_iconst (pc := 44) dX11_ground_44 (v := 0) (by decide) ?_
  exact jm_X11_ground_b45 _ _ _ _ _ _ _ ws h
def m_X11_ground (a0 : Nat) (i1 : Int32) (i2 : Int32) (i3 : Int32) (i4 : Int32) (i5 : Int32) (ws : LWd) : Option (Int32 × LWd) :=
  (rcv ws a0 11).bind fun _ =>
  bn2 (calSR ws (m_X11_isPoint i1 i2 ws)) fun x3 w1 =>
  if x3 = 0 then
    m_X11_ground_b44 a0 i1 i2 i3 i4 i5 w1
  else
    bn2 (calSR w1 (m_X11_isIn i3 0 9 w1)) fun x7 w5 =>
    if x7 = 0 then
      m_X11_ground_b44 a0 i1 i2 i3 i4 i5 w5
    else
      bn2 (calSR w5 (m_X11_isIn i4 0 99 w5)) fun x11 w9 =>
      if x11 = 0 then
        m_X11_ground_b44 a0 i1 i2 i3 i4 i5 w9
      else
        bn2 (calSR w9 (m_X11_isIn i5 0 9 w9)) fun x15 w13 =>
        if x15 = 0 then
          m_X11_ground_b44 a0 i1 i2 i3 i4 i5 w13
        else
          m_X11_ground_b45 a0 i1 i2 i3 i4 i5 1 w13
set_option maxRecDepth 100000 in
set_option maxHeartbeats 4000000 in
theorem s_X11_ground {a0 : Nat} {i1 : Int32} {i2 : Int32} {i3 : Int32} {i4 : Int32} {i5 : Int32} {ws : LWd} {rr : Int32} {ws' : LWd} (h : m_X11_ground a0 i1 i2 i3 i4 i5 ws = some (rr, ws')) : jSp yX11_ground wsX11_ground 2 0 0 [.ref a0, .int i1, .int i2, .int i3, .int i4, .int i5] ws (.inl (some (.int rr)), ws') := by
  unfold m_X11_ground at h
  refine j_entry (ret := (some .int)) (nm := "ground") (own := RX11) pl_X11 rfl rfl rfl (jcats (by rfl)) (Nat.le_of_ble_eq_true rfl) ?_
  show JG (.inl false) cX11_ground 8 RX11 wsX11_ground (some .int) "ground" 2 0 0 ws.length (.inl (some (.int rr)), ws') 0 [some (.ref a0), some (.int i1), some (.int i2), some (.int i3), some (.int i4), some (.int i5), none, none] [] ws 0 0
  obtain ⟨_, _, h⟩ := obS h
  refine j_iload_n (pc := 0) dX11_ground_0 rfl ?_
  refine j_iload_n (pc := 1) dX11_ground_1 rfl ?_
  obtain ⟨x3, w1, e2, h⟩ := obS2 h
  have ge2 := calSR_of e2
  refine j_callS_g (pc := 2) (As := [.int i1, .int i2]) (k' := 0) (n' := 0) dX11_ground_2 (s_X11_isPoint ge2.1) (jgS lw_563 lw_564 lw_544 lw_562) rfl hy_X11_isPoint rfl (by decide) (by decide) (Nat.le_of_ble_eq_true rfl) (by decide) (by decide) (by decide) (by decide) (Or.inl ge2.2) ?_
  refine j_if_eq (pc := 5) (tgt := 44) dX11_ground_5 (by decide) (fun c4 => ?_) (fun c4 => ?_)
  · rw [if_pos c4] at h
    exact jm_X11_ground_b44 _ _ _ _ _ _ w1 h
  · rw [if_neg c4] at h
    refine j_iload_n (pc := 8) dX11_ground_8 rfl ?_
    refine j_iconst (pc := 9) dX11_ground_9 (v := 0) (by decide) ?_
    refine j_bipush (pc := 10) dX11_ground_10 (v := 9) (by decide) ?_
    obtain ⟨x7, w5, e6, h⟩ := obS2 h
    have ge6 := calSR_of e6
    refine j_callS_g (pc := 12) (As := [.int i3, .int 0, .int 9]) (k' := 0) (n' := 0) dX11_ground_12 (s_X11_isIn ge6.1) (jgS lw_542 lw_543 lw_544 lw_541) rfl hy_X11_isIn rfl (by decide) (by decide) (Nat.le_of_ble_eq_true rfl) (by decide) (by decide) (by decide) (by decide) (Or.inl ge6.2) ?_
    refine j_if_eq (pc := 15) (tgt := 44) dX11_ground_15 (by decide) (fun c8 => ?_) (fun c8 => ?_)
    · rw [if_pos c8] at h
      exact jm_X11_ground_b44 _ _ _ _ _ _ w5 h
    · rw [if_neg c8] at h
      refine j_iload (pc := 18) dX11_ground_18 rfl ?_
      refine j_iconst (pc := 20) dX11_ground_20 (v := 0) (by decide) ?_
      refine j_bipush (pc := 21) dX11_ground_21 (v := 99) (by decide) ?_
      obtain ⟨x11, w9, e10, h⟩ := obS2 h
      have ge10 := calSR_of e10
      refine j_callS_g (pc := 23) (As := [.int i4, .int 0, .int 99]) (k' := 0) (n' := 0) dX11_ground_23 (s_X11_isIn ge10.1) (jgS lw_542 lw_543 lw_544 lw_541) rfl hy_X11_isIn rfl (by decide) (by decide) (Nat.le_of_ble_eq_true rfl) (by decide) (by decide) (by decide) (by decide) (Or.inl ge10.2) ?_
      refine j_if_eq (pc := 26) (tgt := 44) dX11_ground_26 (by decide) (fun c12 => ?_) (fun c12 => ?_)
      · rw [if_pos c12] at h
        exact jm_X11_ground_b44 _ _ _ _ _ _ w9 h
      · rw [if_neg c12] at h
        refine j_iload (pc := 29) dX11_ground_29 rfl ?_
        refine j_iconst (pc := 31) dX11_ground_31 (v := 0) (by decide) ?_
        refine j_bipush (pc := 32) dX11_ground_32 (v := 9) (by decide) ?_
        obtain ⟨x15, w13, e14, h⟩ := obS2 h
        have ge14 := calSR_of e14
        refine j_callS_g (pc := 34) (As := [.int i5, .int 0, .int 9]) (k' := 0) (n' := 0) dX11_ground_34 (s_X11_isIn ge14.1) (jgS lw_542 lw_543 lw_544 lw_541) rfl hy_X11_isIn rfl (by decide) (by decide) (Nat.le_of_ble_eq_true rfl) (by decide) (by decide) (by decide) (by decide) (Or.inl ge14.2) ?_
        refine j_if_eq (pc := 37) (tgt := 44) dX11_ground_37 (by decide) (fun c16 => ?_) (fun c16 => ?_)
        · rw [if_pos c16] at h
          exact jm_X11_ground_b44 _ _ _ _ _ _ w13 h
        · rw [if_neg c16] at h
          refine j_iconst (pc := 40) dX11_ground_40 (v := 1) (by decide) ?_
          refine j_goto (pc := 41) (tgt := 45) dX11_ground_41 (by decide) ?_
          exact jm_X11_ground_b45 _ _ _ _ _ _ _ w13 h
theorem r_X11_ground {a0 : Nat} {i1 : Int32} {i2 : Int32} {i3 : Int32} {i4 : Int32} {i5 : Int32} {ws : LWd} {o : (Int32 × LWd)} (h : m_X11_ground a0 i1 i2 i3 i4 i5 ws = some o) : ∃ fs, ws[a0]? = some (.inr (11, fs)) := rcv_in h
