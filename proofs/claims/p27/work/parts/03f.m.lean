/-! methods: written by wip/p27/make.py -/
def wsX10_foothold : List Cond := Cond.code yX10_foothold cX10_foothold 2 (some .int) :: jW
def m_X10_foothold (a0 : Nat) (i1 : Int32) (ws : LWd) : Option ((Int32 ⊕ String) × LWd) :=
  (rcv ws a0 10).bind fun _ =>
  bn2 (calSR ws (m_X10_isLeg a0 i1 ws)) fun x3 w1 =>
  if x3 = 0 then
    some (.inr "java/lang/IndexOutOfBoundsException", w1)
  else
    (fR w1 a0 10 2).bind fun x5 =>
    bn2 (calSR w1 (m_X9_bestPoint x5 i1 w1)) fun x9 w7 =>
    some (.inl x9, w7)
set_option maxRecDepth 100000 in
set_option maxHeartbeats 4000000 in
theorem s_X10_foothold {a0 : Nat} {i1 : Int32} {ws : LWd} {rr : Int32 ⊕ String} {ws' : LWd} (h : m_X10_foothold a0 i1 ws = some (rr, ws')) : jSX yX10_foothold wsX10_foothold 6 1 6 [.ref a0, .int i1] ws (jthr rr, ws') := by
  unfold m_X10_foothold at h
  refine j_entryX (ret := (some .int)) (nm := "foothold") (own := RX10) pl_X10 rfl rfl rfl (jcats (by rfl)) (Nat.le_of_ble_eq_true rfl) ?_
  show JG (.inl true) cX10_foothold 2 RX10 wsX10_foothold (some .int) "foothold" 6 1 6 ws.length (jthr rr, ws') 0 [some (.ref a0), some (.int i1)] [] ws 0 0
  obtain ⟨_, _, h⟩ := obS h
  refine j_aload_n (pc := 0) dX10_foothold_0 rfl ?_
  refine j_iload_n (pc := 1) dX10_foothold_1 rfl ?_
  obtain ⟨x3, w1, e2, h⟩ := obS2 h
  have ge2 := calSR_of e2
  have le2 := ge2.2
  refine j_callV_g (pc := 2) (As := [.int i1]) (k' := 0) (n' := 0) dX10_foothold_2 (s_X10_isLeg ge2.1) (jgV lw_181 lw_182 lw_183 lw_147 lw_180) rfl hv_X10_isLeg rfl (r_X10_isLeg ge2.1) rfl (by decide) (by decide) (Nat.le_of_ble_eq_true rfl) (by decide) (by decide) (by decide) (by decide) (Or.inl ge2.2) ?_
  refine j_if_ne (pc := 5) (tgt := 18) dX10_foothold_5 (by decide) (fun c4 => ?_) (fun c4 => ?_)
  · rw [if_neg c4] at h
    refine j_aload_n (pc := 18) dX10_foothold_18 rfl ?_
    obtain ⟨x5, e6, h⟩ := obS h
    refine j_getR (pc := 19) dX10_foothold_19 (ci := 10) (kf := 2) rfl (jwi hw_X10) (by decide) (jwm lw_103) e6 ?_
    refine j_iload_n (pc := 22) dX10_foothold_22 rfl ?_
    obtain ⟨x9, w7, e8, h⟩ := obS2 h
    have ge8 := calSR_of e8
    have le8 := ge8.2
    refine j_callV_g (pc := 23) (As := [.int i1]) (k' := 0) (n' := 0) dX10_foothold_23 (s_X9_bestPoint ge8.1) (jgV lw_478 lw_479 lw_480 lw_76 lw_477) rfl hv_X9_bestPoint rfl (r_X9_bestPoint ge8.1) rfl (by decide) (by decide) (Nat.le_of_ble_eq_true rfl) (by decide) (by decide) (by decide) (by decide) (Or.inl ge8.2) ?_
    obtain ⟨rfl, rfl⟩ := jretS h
    exact j_iret (pc := 26) rfl dX10_foothold_26 (by decide) (by decide) rfl
  · rw [if_pos c4] at h
    obtain ⟨rfl, rfl⟩ := jretS h
    exact j_throw (pc := 8) (text := "no such leg") rfl rfl dX10_foothold_8 dX10_foothold_11 dX10_foothold_12 dX10_foothold_14 dX10_foothold_17 (List.mem_of_getElem? (i := 6) rfl) (List.mem_of_getElem? (i := 2) rfl) (jfit _ (List.mem_of_getElem? (i := 2) rfl)) (jwm lw_189) (jwm lw_190) (jwi hwx_159) jgo_159 (by decide) (Nat.le_of_ble_eq_true rfl) (by decide) (by decide) (by omega) rfl
theorem r_X10_foothold {a0 : Nat} {i1 : Int32} {ws : LWd} {o : ((Int32 ⊕ String) × LWd)} (h : m_X10_foothold a0 i1 ws = some o) : ∃ fs, ws[a0]? = some (.inr (10, fs)) := rcv_in h
set_option maxRecDepth 100000 in
set_option maxHeartbeats 4000000 in
theorem sn_X10_foothold {a0 : Nat} {i1 : Int32} {ws : LWd} {rr : Int32} {ws' : LWd} (h : m_X10_foothold a0 i1 ws = some (.inl rr, ws')) : jSp yX10_foothold wsX10_foothold 6 0 0 [.ref a0, .int i1] ws (.inl (some (.int rr)), ws') := by
  unfold m_X10_foothold at h
  refine j_entry (ret := (some .int)) (nm := "foothold") (own := RX10) pl_X10 rfl rfl rfl (jcats (by rfl)) (Nat.le_of_ble_eq_true rfl) ?_
  show JG (.inl false) cX10_foothold 2 RX10 wsX10_foothold (some .int) "foothold" 6 0 0 ws.length (.inl (some (.int rr)), ws') 0 [some (.ref a0), some (.int i1)] [] ws 0 0
  obtain ⟨_, _, h⟩ := obS h
  refine j_aload_n (pc := 0) dX10_foothold_0 rfl ?_
  refine j_iload_n (pc := 1) dX10_foothold_1 rfl ?_
  obtain ⟨x3, w1, e2, h⟩ := obS2 h
  have ge2 := calSR_of e2
  have le2 := ge2.2
  refine j_callV_g (pc := 2) (As := [.int i1]) (k' := 0) (n' := 0) dX10_foothold_2 (s_X10_isLeg ge2.1) (jgV lw_181 lw_182 lw_183 lw_147 lw_180) rfl hv_X10_isLeg rfl (r_X10_isLeg ge2.1) rfl (by decide) (by decide) (Nat.le_of_ble_eq_true rfl) (by decide) (by decide) (by decide) (by decide) (Or.inl ge2.2) ?_
  refine j_if_ne (pc := 5) (tgt := 18) dX10_foothold_5 (by decide) (fun c4 => ?_) (fun c4 => ?_)
  · rw [if_neg c4] at h
    refine j_aload_n (pc := 18) dX10_foothold_18 rfl ?_
    obtain ⟨x5, e6, h⟩ := obS h
    refine j_getR (pc := 19) dX10_foothold_19 (ci := 10) (kf := 2) rfl (jwi hw_X10) (by decide) (jwm lw_103) e6 ?_
    refine j_iload_n (pc := 22) dX10_foothold_22 rfl ?_
    obtain ⟨x9, w7, e8, h⟩ := obS2 h
    have ge8 := calSR_of e8
    have le8 := ge8.2
    refine j_callV_g (pc := 23) (As := [.int i1]) (k' := 0) (n' := 0) dX10_foothold_23 (s_X9_bestPoint ge8.1) (jgV lw_478 lw_479 lw_480 lw_76 lw_477) rfl hv_X9_bestPoint rfl (r_X9_bestPoint ge8.1) rfl (by decide) (by decide) (Nat.le_of_ble_eq_true rfl) (by decide) (by decide) (by decide) (by decide) (Or.inl ge8.2) ?_
    cases h
    exact j_iret (pc := 26) rfl dX10_foothold_26 (by decide) (by decide) rfl
  · rw [if_pos c4] at h
    cases h
def wsX9_sinkAway : List Cond := Cond.code yX9_sinkAway cX9_sinkAway 4 (some .boolean) :: jW
def m_X9_sinkAway_b35 (i1 : Int32) (ws : LWd) : Option (Int32 × LWd) :=
  if i1 = 0 then
    some (0, ws)
  else
    some (1, ws)
set_option maxRecDepth 100000 in
set_option maxHeartbeats 4000000 in
theorem jm_X9_sinkAway_b35 {n0 : Nat} {rr : Int32} {ws' : LWd} (i1 : Int32) (ws : LWd) (h : m_X9_sinkAway_b35 i1 ws = some (rr, ws')) : JG (.inl false) cX9_sinkAway 4 RX9 wsX9_sinkAway (some .boolean) "sinkAway" 4 0 0 n0 (.inl (some (.int rr)), ws') 35 [none, some (.int i1), none, none] [] ws 0 0 := by
  unfold m_X9_sinkAway_b35 at h
  refine j_iload_n (pc := 35) dX9_sinkAway_35 rfl ?_
  refine j_if_eq (pc := 36) (tgt := 43) dX9_sinkAway_36 (by decide) (fun c1 => ?_) (fun c1 => ?_)
  · rw [if_pos c1] at h
    refine j_iconst (pc := 43) dX9_sinkAway_43 (v := 0) (by decide) ?_
    obtain ⟨rfl, rfl⟩ := jretS h
    exact j_zretL (pc := 44) (by decide) rfl dX9_sinkAway_44 (by decide) (by decide) rfl
  · rw [if_neg c1] at h
    refine j_iconst (pc := 39) dX9_sinkAway_39 (v := 1) (by decide) ?_
    refine j_goto (pc := 40) (tgt := 44) dX9_sinkAway_40 (by decide) ?_
    obtain ⟨rfl, rfl⟩ := jretS h
    exact j_zretL (pc := 44) (by decide) rfl dX9_sinkAway_44 (by decide) (by decide) rfl
def m_X9_sinkAway_l9 : Nat → Nat → Int32 → Int32 → Int32 → LWd → Option (Int32 × LWd)
  | 0, _, _, _, _, _ => none
  | fu + 1, a0, i1, i2, i3, ws =>
    if i2 = 0 then
      m_X9_sinkAway_b35 i1 ws
    else
      if 6 ≤ i3 then
        m_X9_sinkAway_b35 i1 ws
      else
        (calSV ws (m_X9_raise a0 i2 ws)).bind fun w3 =>
        bn2 (calSR w3 (m_X9_sinking a0 w3)) fun x7 w5 =>
        m_X9_sinkAway_l9 fu a0 i1 x7 (i3 + 1) w5
set_option maxRecDepth 100000 in
set_option maxHeartbeats 4000000 in
theorem jm_X9_sinkAway_l9 {n0 : Nat} {rr : Int32} {ws' : LWd} : ∀ (fu : Nat) (a0 : Nat) (i1 : Int32) (i2 : Int32) (i3 : Int32) (ws : LWd), m_X9_sinkAway_l9 fu a0 i1 i2 i3 ws = some (rr, ws') → JG (.inl false) cX9_sinkAway 4 RX9 wsX9_sinkAway (some .boolean) "sinkAway" 4 0 0 n0 (.inl (some (.int rr)), ws') 9 [some (.ref a0), some (.int i1), some (.int i2), some (.int i3)] [] ws 0 0 := by
  intro fu
  induction fu with
  | zero => intro a0 i1 i2 i3 ws h; first | (cases h; done) | (rw [m_X9_sinkAway_l9] at h; cases h)
  | succ fu ih =>
    intro a0 i1 i2 i3 ws h
    rw [m_X9_sinkAway_l9] at h
    refine j_iload_n (pc := 9) dX9_sinkAway_9 rfl ?_
    refine j_if_eq (pc := 10) (tgt := 35) dX9_sinkAway_10 (by decide) (fun c1 => ?_) (fun c1 => ?_)
    · rw [if_pos c1] at h
      refine j_mask [false, true, false, false] ?_
      exact jm_X9_sinkAway_b35 _ ws h
    · rw [if_neg c1] at h
      refine j_iload_n (pc := 13) dX9_sinkAway_13 rfl ?_
      refine j_bipush (pc := 14) dX9_sinkAway_14 (v := 6) (by decide) ?_
      refine j_icmp_ge (pc := 16) (tgt := 35) dX9_sinkAway_16 (by decide) (fun c2 => ?_) (fun c2 => ?_)
      · rw [if_pos c2] at h
        refine j_mask [false, true, false, false] ?_
        exact jm_X9_sinkAway_b35 _ ws h
      · rw [if_neg c2] at h
        refine j_aload_n (pc := 19) dX9_sinkAway_19 rfl ?_
        refine j_iload_n (pc := 20) dX9_sinkAway_20 rfl ?_
        obtain ⟨w3, e4, h⟩ := obS h
        have ge4 := calSV_of e4
        refine j_callV_g (pc := 21) (As := [.int i2]) (k' := 0) (n' := 0) dX9_sinkAway_21 (s_X9_raise ge4.1) (jgV lw_481 lw_309 lw_310 lw_76 lw_307) rfl hv_X9_raise rfl (r_X9_raise ge4.1) rfl (by decide) (by decide) (Nat.le_of_ble_eq_true rfl) (by decide) (by decide) (by decide) (by decide) (Or.inl ge4.2) ?_
        refine j_aload_n (pc := 24) dX9_sinkAway_24 rfl ?_
        obtain ⟨x7, w5, e6, h⟩ := obS2 h
        have ge6 := calSR_of e6
        refine j_callV_g (pc := 25) (As := []) (k' := 0) (n' := 0) dX9_sinkAway_25 (s_X9_sinking ge6.1) (jgV lw_482 lw_313 lw_314 lw_76 lw_311) rfl hv_X9_sinking rfl (r_X9_sinking ge6.1) rfl (by decide) (by decide) (Nat.le_of_ble_eq_true rfl) (by decide) (by decide) (by decide) (by decide) (Or.inl ge6.2) ?_
        refine j_istore_n_2 (pc := 28) dX9_sinkAway_28 (by decide) rfl ?_
        refine j_iinc_3 (pc := 29) dX9_sinkAway_29 (y := i3 + 1) rfl (by decide) rfl ?_
        refine j_goto (pc := 32) (tgt := 9) dX9_sinkAway_32 (by decide) ?_
        exact ih _ _ _ _ w5 h
def m_X9_sinkAway (a0 : Nat) (ws : LWd) : Option (Int32 × LWd) :=
  (rcv ws a0 9).bind fun _ =>
  bn2 (calSR ws (m_X9_sinking a0 ws)) fun x3 w1 =>
  m_X9_sinkAway_l9 FU a0 x3 x3 0 w1
set_option maxRecDepth 100000 in
set_option maxHeartbeats 4000000 in
theorem s_X9_sinkAway {a0 : Nat} {ws : LWd} {rr : Int32} {ws' : LWd} (h : m_X9_sinkAway a0 ws = some (rr, ws')) : jSp yX9_sinkAway wsX9_sinkAway 4 0 0 [.ref a0] ws (.inl (some (.int rr)), ws') := by
  unfold m_X9_sinkAway at h
  refine j_entry (ret := (some .boolean)) (nm := "sinkAway") (own := RX9) pl_X9 rfl rfl rfl (jcats (by rfl)) (Nat.le_of_ble_eq_true rfl) ?_
  show JG (.inl false) cX9_sinkAway 4 RX9 wsX9_sinkAway (some .boolean) "sinkAway" 4 0 0 ws.length (.inl (some (.int rr)), ws') 0 [some (.ref a0), none, none, none] [] ws 0 0
  obtain ⟨_, _, h⟩ := obS h
  refine j_aload_n (pc := 0) dX9_sinkAway_0 rfl ?_
  obtain ⟨x3, w1, e2, h⟩ := obS2 h
  have ge2 := calSR_of e2
  refine j_callV_g (pc := 1) (As := []) (k' := 0) (n' := 0) dX9_sinkAway_1 (s_X9_sinking ge2.1) (jgV lw_482 lw_313 lw_314 lw_76 lw_311) rfl hv_X9_sinking rfl (r_X9_sinking ge2.1) rfl (by decide) (by decide) (Nat.le_of_ble_eq_true rfl) (by decide) (by decide) (by decide) (by decide) (Or.inl ge2.2) ?_
  refine j_istore_n_1 (pc := 4) dX9_sinkAway_4 (by decide) rfl ?_
  refine j_iload_n (pc := 5) dX9_sinkAway_5 rfl ?_
  refine j_istore_n_2 (pc := 6) dX9_sinkAway_6 (by decide) rfl ?_
  refine j_iconst (pc := 7) dX9_sinkAway_7 (v := 0) (by decide) ?_
  refine j_istore_n_3 (pc := 8) dX9_sinkAway_8 (by decide) rfl ?_
  exact jm_X9_sinkAway_l9 FU _ _ _ _ w1 h
theorem r_X9_sinkAway {a0 : Nat} {ws : LWd} {o : (Int32 × LWd)} (h : m_X9_sinkAway a0 ws = some o) : ∃ fs, ws[a0]? = some (.inr (9, fs)) := rcv_in h
def wsX10_wouldLift : List Cond := Cond.code yX10_wouldLift cX10_wouldLift 2 (some .int) :: jW
def m_X10_wouldLift (a0 : Nat) (i1 : Int32) (ws : LWd) : Option ((Int32 ⊕ String) × LWd) :=
  (rcv ws a0 10).bind fun _ =>
  bn2 (calSR ws (m_X10_isLeg a0 i1 ws)) fun x3 w1 =>
  if x3 = 0 then
    some (.inr "java/lang/IndexOutOfBoundsException", w1)
  else
    bn2 (calSR w1 (m_X10_mayLift a0 i1 w1)) fun x7 w5 =>
    if x7 = 0 then
      some (.inl ((-1)), w5)
    else
      (fR w5 a0 10 3).bind fun x9 =>
      (fR w5 a0 10 2).bind fun x11 =>
      (calSV w5 (m_X9_copy x9 x11 w5)).bind fun w13 =>
      (fR w13 a0 10 3).bind fun x15 =>
      (fR w13 x15 9 3).bind fun x17 =>
      (calSV w13 (m_X8_put x17 i1 ((-1)) w13)).bind fun w19 =>
      (fR w19 a0 10 3).bind fun x21 =>
      bn2 (calSR w19 (m_X9_sinkAway x21 w19)) fun x25 w23 =>
      if x25 = 0 then
        some (.inl 0, w23)
      else
        (fR w23 a0 10 3).bind fun x27 =>
        bn2 (calSR w23 (m_X9_holdsWithout x27 ((-1)) w23)) fun x31 w29 =>
        if x31 = 0 then
          some (.inl 2, w29)
        else
          some (.inl 1, w29)
set_option maxRecDepth 100000 in
set_option maxHeartbeats 4000000 in
theorem s_X10_wouldLift {a0 : Nat} {i1 : Int32} {ws : LWd} {rr : Int32 ⊕ String} {ws' : LWd} (h : m_X10_wouldLift a0 i1 ws = some (rr, ws')) : jSX yX10_wouldLift wsX10_wouldLift 6 1 6 [.ref a0, .int i1] ws (jthr rr, ws') := by
  unfold m_X10_wouldLift at h
  refine j_entryX (ret := (some .int)) (nm := "wouldLift") (own := RX10) pl_X10 rfl rfl rfl (jcats (by rfl)) (Nat.le_of_ble_eq_true rfl) ?_
  show JG (.inl true) cX10_wouldLift 2 RX10 wsX10_wouldLift (some .int) "wouldLift" 6 1 6 ws.length (jthr rr, ws') 0 [some (.ref a0), some (.int i1)] [] ws 0 0
  obtain ⟨_, _, h⟩ := obS h
  refine j_aload_n (pc := 0) dX10_wouldLift_0 rfl ?_
  refine j_iload_n (pc := 1) dX10_wouldLift_1 rfl ?_
  obtain ⟨x3, w1, e2, h⟩ := obS2 h
  have ge2 := calSR_of e2
  have le2 := ge2.2
  refine j_callV_g (pc := 2) (As := [.int i1]) (k' := 0) (n' := 0) dX10_wouldLift_2 (s_X10_isLeg ge2.1) (jgV lw_181 lw_182 lw_183 lw_147 lw_180) rfl hv_X10_isLeg rfl (r_X10_isLeg ge2.1) rfl (by decide) (by decide) (Nat.le_of_ble_eq_true rfl) (by decide) (by decide) (by decide) (by decide) (Or.inl ge2.2) ?_
  refine j_if_ne (pc := 5) (tgt := 18) dX10_wouldLift_5 (by decide) (fun c4 => ?_) (fun c4 => ?_)
  · rw [if_neg c4] at h
    refine j_aload_n (pc := 18) dX10_wouldLift_18 rfl ?_
    refine j_iload_n (pc := 19) dX10_wouldLift_19 rfl ?_
    obtain ⟨x7, w5, e6, h⟩ := obS2 h
    have ge6 := calSR_of e6
    have le6 := ge6.2
    refine j_callV_g (pc := 20) (As := [.int i1]) (k' := 0) (n' := 0) dX10_wouldLift_20 (s_X10_mayLift ge6.1) (jgV lw_379 lw_380 lw_381 lw_147 lw_378) rfl hv_X10_mayLift rfl (r_X10_mayLift ge6.1) rfl (by decide) (by decide) (Nat.le_of_ble_eq_true rfl) (by decide) (by decide) (by decide) (by decide) (Or.inl ge6.2) ?_
    refine j_if_ne (pc := 23) (tgt := 28) dX10_wouldLift_23 (by decide) (fun c8 => ?_) (fun c8 => ?_)
    · rw [if_neg c8] at h
      refine j_aload_n (pc := 28) dX10_wouldLift_28 rfl ?_
      obtain ⟨x9, e10, h⟩ := obS h
      refine j_getR (pc := 29) dX10_wouldLift_29 (ci := 10) (kf := 3) rfl (jwi hw_X10) (by decide) (jwm lw_104) e10 ?_
      refine j_aload_n (pc := 32) dX10_wouldLift_32 rfl ?_
      obtain ⟨x11, e12, h⟩ := obS h
      refine j_getR (pc := 33) dX10_wouldLift_33 (ci := 10) (kf := 2) rfl (jwi hw_X10) (by decide) (jwm lw_103) e12 ?_
      obtain ⟨w13, e14, h⟩ := obS h
      have ge14 := calSV_of e14
      have le14 := ge14.2
      refine j_callV_g (pc := 36) (As := [.ref x11]) (k' := 0) (n' := 0) dX10_wouldLift_36 (s_X9_copy ge14.1) (jgV lw_340 lw_341 lw_342 lw_76 lw_339) rfl hv_X9_copy rfl (r_X9_copy ge14.1) rfl (by decide) (by decide) (Nat.le_of_ble_eq_true rfl) (by decide) (by decide) (by decide) (by decide) (Or.inl ge14.2) ?_
      refine j_aload_n (pc := 39) dX10_wouldLift_39 rfl ?_
      obtain ⟨x15, e16, h⟩ := obS h
      refine j_getR (pc := 40) dX10_wouldLift_40 (ci := 10) (kf := 3) rfl (jwi hw_X10) (by decide) (jwm lw_104) e16 ?_
      obtain ⟨x17, e18, h⟩ := obS h
      refine j_getR (pc := 43) dX10_wouldLift_43 (ci := 9) (kf := 3) rfl (jwi hw_X9) (by decide) (jwm lw_265) e18 ?_
      refine j_iload_n (pc := 46) dX10_wouldLift_46 rfl ?_
      refine j_iconst (pc := 47) dX10_wouldLift_47 (v := (-1)) (by decide) ?_
      obtain ⟨w19, e20, h⟩ := obS h
      have ge20 := calSV_of e20
      have le20 := ge20.2
      refine j_callV_g (pc := 48) (As := [.int i1, .int ((-1))]) (k' := 0) (n' := 0) dX10_wouldLift_48 (s_X8_put ge20.1) (jgV lw_158 lw_159 lw_160 lw_12 lw_157) rfl hv_X8_put rfl (r_X8_put ge20.1) rfl (by decide) (by decide) (Nat.le_of_ble_eq_true rfl) (by decide) (by decide) (by decide) (by decide) (Or.inl ge20.2) ?_
      refine j_aload_n (pc := 51) dX10_wouldLift_51 rfl ?_
      obtain ⟨x21, e22, h⟩ := obS h
      refine j_getR (pc := 52) dX10_wouldLift_52 (ci := 10) (kf := 3) rfl (jwi hw_X10) (by decide) (jwm lw_104) e22 ?_
      obtain ⟨x25, w23, e24, h⟩ := obS2 h
      have ge24 := calSR_of e24
      have le24 := ge24.2
      refine j_callV_g (pc := 55) (As := []) (k' := 0) (n' := 0) dX10_wouldLift_55 (s_X9_sinkAway ge24.1) (jgV lw_484 lw_485 lw_486 lw_76 lw_483) rfl hv_X9_sinkAway rfl (r_X9_sinkAway ge24.1) rfl (by decide) (by decide) (Nat.le_of_ble_eq_true rfl) (by decide) (by decide) (by decide) (by decide) (Or.inl ge24.2) ?_
      refine j_if_ne (pc := 58) (tgt := 63) dX10_wouldLift_58 (by decide) (fun c26 => ?_) (fun c26 => ?_)
      · rw [if_neg c26] at h
        refine j_aload_n (pc := 63) dX10_wouldLift_63 rfl ?_
        obtain ⟨x27, e28, h⟩ := obS h
        refine j_getR (pc := 64) dX10_wouldLift_64 (ci := 10) (kf := 3) rfl (jwi hw_X10) (by decide) (jwm lw_104) e28 ?_
        refine j_iconst (pc := 67) dX10_wouldLift_67 (v := (-1)) (by decide) ?_
        obtain ⟨x31, w29, e30, h⟩ := obS2 h
        have ge30 := calSR_of e30
        have le30 := ge30.2
        refine j_callV_g (pc := 68) (As := [.int ((-1))]) (k' := 0) (n' := 0) dX10_wouldLift_68 (s_X9_holdsWithout ge30.1) (jgV lw_244 lw_245 lw_246 lw_76 lw_243) rfl hv_X9_holdsWithout rfl (r_X9_holdsWithout ge30.1) rfl (by decide) (by decide) (Nat.le_of_ble_eq_true rfl) (by decide) (by decide) (by decide) (by decide) (Or.inl ge30.2) ?_
        refine j_if_eq (pc := 71) (tgt := 78) dX10_wouldLift_71 (by decide) (fun c32 => ?_) (fun c32 => ?_)
        · rw [if_pos c32] at h
          refine j_iconst (pc := 78) dX10_wouldLift_78 (v := 2) (by decide) ?_
          obtain ⟨rfl, rfl⟩ := jretS h
          exact j_iret (pc := 79) rfl dX10_wouldLift_79 (by decide) (by decide) rfl
        · rw [if_neg c32] at h
          refine j_iconst (pc := 74) dX10_wouldLift_74 (v := 1) (by decide) ?_
          refine j_goto (pc := 75) (tgt := 79) dX10_wouldLift_75 (by decide) ?_
          obtain ⟨rfl, rfl⟩ := jretS h
          exact j_iret (pc := 79) rfl dX10_wouldLift_79 (by decide) (by decide) rfl
      · rw [if_pos c26] at h
        refine j_iconst (pc := 61) dX10_wouldLift_61 (v := 0) (by decide) ?_
        obtain ⟨rfl, rfl⟩ := jretS h
        exact j_iret (pc := 62) rfl dX10_wouldLift_62 (by decide) (by decide) rfl
    · rw [if_pos c8] at h
      refine j_iconst (pc := 26) dX10_wouldLift_26 (v := (-1)) (by decide) ?_
      obtain ⟨rfl, rfl⟩ := jretS h
      exact j_iret (pc := 27) rfl dX10_wouldLift_27 (by decide) (by decide) rfl
  · rw [if_pos c4] at h
    obtain ⟨rfl, rfl⟩ := jretS h
    exact j_throw (pc := 8) (text := "no such leg") rfl rfl dX10_wouldLift_8 dX10_wouldLift_11 dX10_wouldLift_12 dX10_wouldLift_14 dX10_wouldLift_17 (List.mem_of_getElem? (i := 6) rfl) (List.mem_of_getElem? (i := 2) rfl) (jfit _ (List.mem_of_getElem? (i := 2) rfl)) (jwm lw_189) (jwm lw_190) (jwi hwx_159) jgo_159 (by decide) (Nat.le_of_ble_eq_true rfl) (by decide) (by decide) (by omega) rfl
theorem r_X10_wouldLift {a0 : Nat} {i1 : Int32} {ws : LWd} {o : ((Int32 ⊕ String) × LWd)} (h : m_X10_wouldLift a0 i1 ws = some o) : ∃ fs, ws[a0]? = some (.inr (10, fs)) := rcv_in h
set_option maxRecDepth 100000 in
set_option maxHeartbeats 4000000 in
theorem sn_X10_wouldLift {a0 : Nat} {i1 : Int32} {ws : LWd} {rr : Int32} {ws' : LWd} (h : m_X10_wouldLift a0 i1 ws = some (.inl rr, ws')) : jSp yX10_wouldLift wsX10_wouldLift 6 0 0 [.ref a0, .int i1] ws (.inl (some (.int rr)), ws') := by
  unfold m_X10_wouldLift at h
  refine j_entry (ret := (some .int)) (nm := "wouldLift") (own := RX10) pl_X10 rfl rfl rfl (jcats (by rfl)) (Nat.le_of_ble_eq_true rfl) ?_
  show JG (.inl false) cX10_wouldLift 2 RX10 wsX10_wouldLift (some .int) "wouldLift" 6 0 0 ws.length (.inl (some (.int rr)), ws') 0 [some (.ref a0), some (.int i1)] [] ws 0 0
  obtain ⟨_, _, h⟩ := obS h
  refine j_aload_n (pc := 0) dX10_wouldLift_0 rfl ?_
  refine j_iload_n (pc := 1) dX10_wouldLift_1 rfl ?_
  obtain ⟨x3, w1, e2, h⟩ := obS2 h
  have ge2 := calSR_of e2
  have le2 := ge2.2
  refine j_callV_g (pc := 2) (As := [.int i1]) (k' := 0) (n' := 0) dX10_wouldLift_2 (s_X10_isLeg ge2.1) (jgV lw_181 lw_182 lw_183 lw_147 lw_180) rfl hv_X10_isLeg rfl (r_X10_isLeg ge2.1) rfl (by decide) (by decide) (Nat.le_of_ble_eq_true rfl) (by decide) (by decide) (by decide) (by decide) (Or.inl ge2.2) ?_
  refine j_if_ne (pc := 5) (tgt := 18) dX10_wouldLift_5 (by decide) (fun c4 => ?_) (fun c4 => ?_)
  · rw [if_neg c4] at h
    refine j_aload_n (pc := 18) dX10_wouldLift_18 rfl ?_
    refine j_iload_n (pc := 19) dX10_wouldLift_19 rfl ?_
    obtain ⟨x7, w5, e6, h⟩ := obS2 h
    have ge6 := calSR_of e6
    have le6 := ge6.2
    refine j_callV_g (pc := 20) (As := [.int i1]) (k' := 0) (n' := 0) dX10_wouldLift_20 (s_X10_mayLift ge6.1) (jgV lw_379 lw_380 lw_381 lw_147 lw_378) rfl hv_X10_mayLift rfl (r_X10_mayLift ge6.1) rfl (by decide) (by decide) (Nat.le_of_ble_eq_true rfl) (by decide) (by decide) (by decide) (by decide) (Or.inl ge6.2) ?_
    refine j_if_ne (pc := 23) (tgt := 28) dX10_wouldLift_23 (by decide) (fun c8 => ?_) (fun c8 => ?_)
    · rw [if_neg c8] at h
      refine j_aload_n (pc := 28) dX10_wouldLift_28 rfl ?_
      obtain ⟨x9, e10, h⟩ := obS h
      refine j_getR (pc := 29) dX10_wouldLift_29 (ci := 10) (kf := 3) rfl (jwi hw_X10) (by decide) (jwm lw_104) e10 ?_
      refine j_aload_n (pc := 32) dX10_wouldLift_32 rfl ?_
      obtain ⟨x11, e12, h⟩ := obS h
      refine j_getR (pc := 33) dX10_wouldLift_33 (ci := 10) (kf := 2) rfl (jwi hw_X10) (by decide) (jwm lw_103) e12 ?_
      obtain ⟨w13, e14, h⟩ := obS h
      have ge14 := calSV_of e14
      have le14 := ge14.2
      refine j_callV_g (pc := 36) (As := [.ref x11]) (k' := 0) (n' := 0) dX10_wouldLift_36 (s_X9_copy ge14.1) (jgV lw_340 lw_341 lw_342 lw_76 lw_339) rfl hv_X9_copy rfl (r_X9_copy ge14.1) rfl (by decide) (by decide) (Nat.le_of_ble_eq_true rfl) (by decide) (by decide) (by decide) (by decide) (Or.inl ge14.2) ?_
      refine j_aload_n (pc := 39) dX10_wouldLift_39 rfl ?_
      obtain ⟨x15, e16, h⟩ := obS h
      refine j_getR (pc := 40) dX10_wouldLift_40 (ci := 10) (kf := 3) rfl (jwi hw_X10) (by decide) (jwm lw_104) e16 ?_
      obtain ⟨x17, e18, h⟩ := obS h
      refine j_getR (pc := 43) dX10_wouldLift_43 (ci := 9) (kf := 3) rfl (jwi hw_X9) (by decide) (jwm lw_265) e18 ?_
      refine j_iload_n (pc := 46) dX10_wouldLift_46 rfl ?_
      refine j_iconst (pc := 47) dX10_wouldLift_47 (v := (-1)) (by decide) ?_
      obtain ⟨w19, e20, h⟩ := obS h
      have ge20 := calSV_of e20
      have le20 := ge20.2
      refine j_callV_g (pc := 48) (As := [.int i1, .int ((-1))]) (k' := 0) (n' := 0) dX10_wouldLift_48 (s_X8_put ge20.1) (jgV lw_158 lw_159 lw_160 lw_12 lw_157) rfl hv_X8_put rfl (r_X8_put ge20.1) rfl (by decide) (by decide) (Nat.le_of_ble_eq_true rfl) (by decide) (by decide) (by decide) (by decide) (Or.inl ge20.2) ?_
      refine j_aload_n (pc := 51) dX10_wouldLift_51 rfl ?_
      obtain ⟨x21, e22, h⟩ := obS h
      refine j_getR (pc := 52) dX10_wouldLift_52 (ci := 10) (kf := 3) rfl (jwi hw_X10) (by decide) (jwm lw_104) e22 ?_
      obtain ⟨x25, w23, e24, h⟩ := obS2 h
      have ge24 := calSR_of e24
      have le24 := ge24.2
      refine j_callV_g (pc := 55) (As := []) (k' := 0) (n' := 0) dX10_wouldLift_55 (s_X9_sinkAway ge24.1) (jgV lw_484 lw_485 lw_486 lw_76 lw_483) rfl hv_X9_sinkAway rfl (r_X9_sinkAway ge24.1) rfl (by decide) (by decide) (Nat.le_of_ble_eq_true rfl) (by decide) (by decide) (by decide) (by decide) (Or.inl ge24.2) ?_
      refine j_if_ne (pc := 58) (tgt := 63) dX10_wouldLift_58 (by decide) (fun c26 => ?_) (fun c26 => ?_)
      · rw [if_neg c26] at h
        refine j_aload_n (pc := 63) dX10_wouldLift_63 rfl ?_
        obtain ⟨x27, e28, h⟩ := obS h
        refine j_getR (pc := 64) dX10_wouldLift_64 (ci := 10) (kf := 3) rfl (jwi hw_X10) (by decide) (jwm lw_104) e28 ?_
        refine j_iconst (pc := 67) dX10_wouldLift_67 (v := (-1)) (by decide) ?_
        obtain ⟨x31, w29, e30, h⟩ := obS2 h
        have ge30 := calSR_of e30
        have le30 := ge30.2
        refine j_callV_g (pc := 68) (As := [.int ((-1))]) (k' := 0) (n' := 0) dX10_wouldLift_68 (s_X9_holdsWithout ge30.1) (jgV lw_244 lw_245 lw_246 lw_76 lw_243) rfl hv_X9_holdsWithout rfl (r_X9_holdsWithout ge30.1) rfl (by decide) (by decide) (Nat.le_of_ble_eq_true rfl) (by decide) (by decide) (by decide) (by decide) (Or.inl ge30.2) ?_
        refine j_if_eq (pc := 71) (tgt := 78) dX10_wouldLift_71 (by decide) (fun c32 => ?_) (fun c32 => ?_)
        · rw [if_pos c32] at h
          refine j_iconst (pc := 78) dX10_wouldLift_78 (v := 2) (by decide) ?_
          cases h
          exact j_iret (pc := 79) rfl dX10_wouldLift_79 (by decide) (by decide) rfl
        · rw [if_neg c32] at h
          refine j_iconst (pc := 74) dX10_wouldLift_74 (v := 1) (by decide) ?_
          refine j_goto (pc := 75) (tgt := 79) dX10_wouldLift_75 (by decide) ?_
          cases h
          exact j_iret (pc := 79) rfl dX10_wouldLift_79 (by decide) (by decide) rfl
      · rw [if_pos c26] at h
        refine j_iconst (pc := 61) dX10_wouldLift_61 (v := 0) (by decide) ?_
        cases h
        exact j_iret (pc := 62) rfl dX10_wouldLift_62 (by decide) (by decide) rfl
    · rw [if_pos c8] at h
      refine j_iconst (pc := 26) dX10_wouldLift_26 (v := (-1)) (by decide) ?_
      cases h
      exact j_iret (pc := 27) rfl dX10_wouldLift_27 (by decide) (by decide) rfl
  · rw [if_pos c4] at h
    cases h
def wsX7_start : List Cond := Cond.code yX7_start cX7_start 3 none :: jW
def m_X7_start (a0 : Nat) (a1 : Nat) (i2 : Int32) (ws : LWd) : Option LWd :=
  (rcv ws a0 7).bind fun _ =>
  (pV ws a0 7 2 (.int i2)).bind fun w1 =>
  (fR w1 a0 7 1).bind fun x3 =>
  (aL w1 x3).bind fun x5 =>
  if x5 ≤ 0 then
    some w1
  else
    (fR w1 a0 7 1).bind fun x8 =>
    (aR w1 x8 0).bind fun x10 =>
    (calSV w1 (m_X9_copy x10 a1 w1)).bind fun w12 =>
    some w12
set_option maxRecDepth 100000 in
set_option maxHeartbeats 4000000 in
theorem s_X7_start {a0 : Nat} {a1 : Nat} {i2 : Int32} {ws : LWd} {ws' : LWd} (h : m_X7_start a0 a1 i2 ws = some ws') : jSp yX7_start wsX7_start 3 0 0 [.ref a0, .ref a1, .int i2] ws (.inl none, ws') := by
  unfold m_X7_start at h
  refine j_entry (ret := none) (nm := "start") (own := RX7) pl_X7 rfl rfl rfl (jcats (by rfl)) (Nat.le_of_ble_eq_true rfl) ?_
  show JG (.inl false) cX7_start 3 RX7 wsX7_start none "start" 3 0 0 ws.length (.inl none, ws') 0 [some (.ref a0), some (.ref a1), some (.int i2)] [] ws 0 0
  obtain ⟨_, _, h⟩ := obS h
  refine j_aload_n (pc := 0) dX7_start_0 rfl ?_
  refine j_iload_n (pc := 1) dX7_start_1 rfl ?_
  obtain ⟨w1, e2, h⟩ := obS h
  refine j_putV (pc := 2) (ci := 7) (kf := 2) tyX7 tyX7_ok nmX7 dX7_start_2 rfl (jwi hw_X7) (by decide) (jwm lw_81) rfl (fun _ => rfl) (fun _ => rfl) e2 ?_
  refine j_aload_n (pc := 5) dX7_start_5 rfl ?_
  obtain ⟨x3, e4, h⟩ := obS h
  refine j_getR (pc := 6) dX7_start_6 (ci := 7) (kf := 1) rfl (jwi hw_X7) (by decide) (jwm lw_73) e4 ?_
  obtain ⟨x5, e6, h⟩ := obS h
  refine j_alen (pc := 9) dX7_start_9 e6 ?_
  refine j_if_le (pc := 10) (tgt := 23) dX7_start_10 (by decide) (fun c7 => ?_) (fun c7 => ?_)
  · rw [if_pos c7] at h
    cases h
    exact j_vret (pc := 23) rfl dX7_start_23 (by decide) (by decide) rfl
  · rw [if_neg c7] at h
    refine j_aload_n (pc := 13) dX7_start_13 rfl ?_
    obtain ⟨x8, e9, h⟩ := obS h
    refine j_getR (pc := 14) dX7_start_14 (ci := 7) (kf := 1) rfl (jwi hw_X7) (by decide) (jwm lw_73) e9 ?_
    refine j_iconst (pc := 17) dX7_start_17 (v := 0) (by decide) ?_
    obtain ⟨x10, e11, h⟩ := obS h
    refine j_aald (pc := 18) dX7_start_18 e11 ?_
    refine j_aload_n (pc := 19) dX7_start_19 rfl ?_
    obtain ⟨w12, e13, h⟩ := obS h
    have ge13 := calSV_of e13
    refine j_callV_g (pc := 20) (As := [.ref a1]) (k' := 0) (n' := 0) dX7_start_20 (s_X9_copy ge13.1) (jgV lw_487 lw_341 lw_342 lw_76 lw_339) rfl hv_X9_copy rfl (r_X9_copy ge13.1) rfl (by decide) (by decide) (Nat.le_of_ble_eq_true rfl) (by decide) (by decide) (by decide) (by decide) (Or.inl ge13.2) ?_
    cases h
    exact j_vret (pc := 23) rfl dX7_start_23 (by decide) (by decide) rfl
theorem r_X7_start {a0 : Nat} {a1 : Nat} {i2 : Int32} {ws : LWd} {o : LWd} (h : m_X7_start a0 a1 i2 ws = some o) : ∃ fs, ws[a0]? = some (.inr (7, fs)) := rcv_in h
def wsX7_away : List Cond := Cond.code yX7_away cX7_away 2 (some .int) :: jW
def m_X7_away (a0 : Nat) (i1 : Int32) (ws : LWd) : Option (Int32 × LWd) :=
  (rcv ws a0 7).bind fun _ =>
  if i1 < 0 then
    some (400, ws)
  else
    (fR ws a0 7 1).bind fun x2 =>
    (aL ws x2).bind fun x4 =>
    if i1 < x4 then
      (fR ws a0 7 1).bind fun x7 =>
      (aR ws x7 i1).bind fun x9 =>
      (fI ws x9 9 4).bind fun x11 =>
      (fI ws a0 7 2).bind fun x13 =>
      bn2 (calSR ws (m_X10_xOf x13 ws)) fun x17 w15 =>
      (fR w15 a0 7 1).bind fun x18 =>
      (aR w15 x18 i1).bind fun x20 =>
      (fI w15 x20 9 5).bind fun x22 =>
      (fI w15 a0 7 2).bind fun x24 =>
      bn2 (calSR w15 (m_X10_yOf x24 w15)) fun x28 w26 =>
      some ((jabs (x11 - x17)) + (jabs (x22 - x28)), w26)
    else
      some (400, ws)
set_option maxRecDepth 100000 in
set_option maxHeartbeats 4000000 in
theorem s_X7_away {a0 : Nat} {i1 : Int32} {ws : LWd} {rr : Int32} {ws' : LWd} (h : m_X7_away a0 i1 ws = some (rr, ws')) : jSp yX7_away wsX7_away 1 0 0 [.ref a0, .int i1] ws (.inl (some (.int rr)), ws') := by
  unfold m_X7_away at h
  refine j_entry (ret := (some .int)) (nm := "away") (own := RX7) pl_X7 rfl rfl rfl (jcats (by rfl)) (Nat.le_of_ble_eq_true rfl) ?_
  show JG (.inl false) cX7_away 2 RX7 wsX7_away (some .int) "away" 1 0 0 ws.length (.inl (some (.int rr)), ws') 0 [some (.ref a0), some (.int i1)] [] ws 0 0
  obtain ⟨_, _, h⟩ := obS h
  refine j_iload_n (pc := 0) dX7_away_0 rfl ?_
  refine j_if_lt (pc := 1) (tgt := 13) dX7_away_1 (by decide) (fun c1 => ?_) (fun c1 => ?_)
  · rw [if_pos c1] at h
    refine j_sipush (pc := 13) dX7_away_13 (v := 400) (by decide) ?_
    obtain ⟨rfl, rfl⟩ := jretS h
    exact j_iret (pc := 16) rfl dX7_away_16 (by decide) (by decide) rfl
  · rw [if_neg c1] at h
    refine j_iload_n (pc := 4) dX7_away_4 rfl ?_
    refine j_aload_n (pc := 5) dX7_away_5 rfl ?_
    obtain ⟨x2, e3, h⟩ := obS h
    refine j_getR (pc := 6) dX7_away_6 (ci := 7) (kf := 1) rfl (jwi hw_X7) (by decide) (jwm lw_73) e3 ?_
    obtain ⟨x4, e5, h⟩ := obS h
    refine j_alen (pc := 9) dX7_away_9 e5 ?_
    refine j_icmp_lt (pc := 10) (tgt := 17) dX7_away_10 (by decide) (fun c6 => ?_) (fun c6 => ?_)
    · rw [if_pos c6] at h
      refine j_aload_n (pc := 17) dX7_away_17 rfl ?_
      obtain ⟨x7, e8, h⟩ := obS h
      refine j_getR (pc := 18) dX7_away_18 (ci := 7) (kf := 1) rfl (jwi hw_X7) (by decide) (jwm lw_73) e8 ?_
      refine j_iload_n (pc := 21) dX7_away_21 rfl ?_
      obtain ⟨x9, e10, h⟩ := obS h
      refine j_aald (pc := 22) dX7_away_22 e10 ?_
      obtain ⟨x11, e12, h⟩ := obS h
      refine j_getI (pc := 23) dX7_away_23 (ci := 9) (kf := 4) rfl (jwi hw_X9) (by decide) (jwm lw_488) e12 ?_
      refine j_aload_n (pc := 26) dX7_away_26 rfl ?_
      obtain ⟨x13, e14, h⟩ := obS h
      refine j_getI (pc := 27) dX7_away_27 (ci := 7) (kf := 2) rfl (jwi hw_X7) (by decide) (jwm lw_81) e14 ?_
      obtain ⟨x17, w15, e16, h⟩ := obS2 h
      have ge16 := calSR_of e16
      refine j_callSN_g (pc := 30) (As := [.int x13]) (k' := 0) (n' := 0) dX7_away_30 (s_X10_xOf ge16.1) (jgP lw_279) nst_X7_35 (jwm lw_147) (jwm lw_280) rfl hy_X10_xOf rfl (by decide) (by decide) (Nat.le_of_ble_eq_true rfl) (by decide) (by decide) (by decide) (by decide) (Or.inl ge16.2) ?_
      refine j_isub (pc := 33) dX7_away_33 ?_
      refine j_mabs (pc := 34) dX7_away_34 (jwm lw_489) (jwm lw_359) (jwm lw_177) (jwm lw_360) (Nat.le_of_ble_eq_true rfl) (Nat.le_of_ble_eq_true rfl) (by decide) (by decide) ?_
      refine j_aload_n (pc := 37) dX7_away_37 rfl ?_
      obtain ⟨x18, e19, h⟩ := obS h
      refine j_getR (pc := 38) dX7_away_38 (ci := 7) (kf := 1) rfl (jwi hw_X7) (by decide) (jwm lw_73) e19 ?_
      refine j_iload_n (pc := 41) dX7_away_41 rfl ?_
      obtain ⟨x20, e21, h⟩ := obS h
      refine j_aald (pc := 42) dX7_away_42 e21 ?_
      obtain ⟨x22, e23, h⟩ := obS h
      refine j_getI (pc := 43) dX7_away_43 (ci := 9) (kf := 5) rfl (jwi hw_X9) (by decide) (jwm lw_490) e23 ?_
      refine j_aload_n (pc := 46) dX7_away_46 rfl ?_
      obtain ⟨x24, e25, h⟩ := obS h
      refine j_getI (pc := 47) dX7_away_47 (ci := 7) (kf := 2) rfl (jwi hw_X7) (by decide) (jwm lw_81) e25 ?_
      obtain ⟨x28, w26, e27, h⟩ := obS2 h
      have ge27 := calSR_of e27
      refine j_callSN_g (pc := 50) (As := [.int x24]) (k' := 0) (n' := 0) dX7_away_50 (s_X10_yOf ge27.1) (jgP lw_281) nst_X7_47 (jwm lw_147) (jwm lw_282) rfl hy_X10_yOf rfl (by decide) (by decide) (Nat.le_of_ble_eq_true rfl) (by decide) (by decide) (by decide) (by decide) (Or.inl ge27.2) ?_
      refine j_isub (pc := 53) dX7_away_53 ?_
      refine j_mabs (pc := 54) dX7_away_54 (jwm lw_489) (jwm lw_359) (jwm lw_177) (jwm lw_360) (Nat.le_of_ble_eq_true rfl) (Nat.le_of_ble_eq_true rfl) (by decide) (by decide) ?_
      refine j_iadd (pc := 57) dX7_away_57 ?_
      obtain ⟨rfl, rfl⟩ := jretS h
      exact j_iret (pc := 58) rfl dX7_away_58 (by decide) (by decide) rfl
    · rw [if_neg c6] at h
      refine j_sipush (pc := 13) dX7_away_13 (v := 400) (by decide) ?_
      obtain ⟨rfl, rfl⟩ := jretS h
      exact j_iret (pc := 16) rfl dX7_away_16 (by decide) (by decide) rfl
theorem r_X7_away {a0 : Nat} {i1 : Int32} {ws : LWd} {o : (Int32 × LWd)} (h : m_X7_away a0 i1 ws = some o) : ∃ fs, ws[a0]? = some (.inr (7, fs)) := rcv_in h
def wsX9_step : List Cond := Cond.code yX9_step cX9_step 3 (some .boolean) :: jW
def m_X9_step_b22 (a0 : Nat) (i1 : Int32) (ws : LWd) : Option (Int32 × LWd) :=
  bn2 (calSR ws (m_X9_bestPoint a0 i1 ws)) fun x3 w1 =>
  if x3 = ((-1)) then
    some (0, w1)
  else
    (fR w1 a0 9 3).bind fun x5 =>
    (calSV w1 (m_X8_put x5 i1 x3 w1)).bind fun w7 =>
    some (1, w7)
set_option maxRecDepth 100000 in
set_option maxHeartbeats 4000000 in
theorem jm_X9_step_b22 {n0 : Nat} {rr : Int32} {ws' : LWd} (a0 : Nat) (i1 : Int32) (ws : LWd) (h : m_X9_step_b22 a0 i1 ws = some (rr, ws')) : JG (.inl false) cX9_step 3 RX9 wsX9_step (some .boolean) "step" 3 0 0 n0 (.inl (some (.int rr)), ws') 22 [some (.ref a0), some (.int i1), none] [] ws 0 0 := by
  unfold m_X9_step_b22 at h
  refine j_aload_n (pc := 22) dX9_step_22 rfl ?_
  refine j_iload_n (pc := 23) dX9_step_23 rfl ?_
  obtain ⟨x3, w1, e2, h⟩ := obS2 h
  have ge2 := calSR_of e2
  refine j_callV_g (pc := 24) (As := [.int i1]) (k' := 0) (n' := 0) dX9_step_24 (s_X9_bestPoint ge2.1) (jgV lw_491 lw_479 lw_480 lw_76 lw_477) rfl hv_X9_bestPoint rfl (r_X9_bestPoint ge2.1) rfl (by decide) (by decide) (Nat.le_of_ble_eq_true rfl) (by decide) (by decide) (by decide) (by decide) (Or.inl ge2.2) ?_
  refine j_istore_n_2 (pc := 27) dX9_step_27 (by decide) rfl ?_
  refine j_iload_n (pc := 28) dX9_step_28 rfl ?_
  refine j_iconst (pc := 29) dX9_step_29 (v := (-1)) (by decide) ?_
  refine j_icmp_ne (pc := 30) (tgt := 35) dX9_step_30 (by decide) (fun c4 => ?_) (fun c4 => ?_)
  · rw [if_neg c4] at h
    refine j_aload_n (pc := 35) dX9_step_35 rfl ?_
    obtain ⟨x5, e6, h⟩ := obS h
    refine j_getR (pc := 36) dX9_step_36 (ci := 9) (kf := 3) rfl (jwi hw_X9) (by decide) (jwm lw_39) e6 ?_
    refine j_iload_n (pc := 39) dX9_step_39 rfl ?_
    refine j_iload_n (pc := 40) dX9_step_40 rfl ?_
    obtain ⟨w7, e8, h⟩ := obS h
    have ge8 := calSV_of e8
    refine j_callV_g (pc := 41) (As := [.int i1, .int x3]) (k' := 0) (n' := 0) dX9_step_41 (s_X8_put ge8.1) (jgV lw_274 lw_159 lw_160 lw_12 lw_157) rfl hv_X8_put rfl (r_X8_put ge8.1) rfl (by decide) (by decide) (Nat.le_of_ble_eq_true rfl) (by decide) (by decide) (by decide) (by decide) (Or.inl ge8.2) ?_
    refine j_iconst (pc := 44) dX9_step_44 (v := 1) (by decide) ?_
    obtain ⟨rfl, rfl⟩ := jretS h
    exact j_zretL (pc := 45) (by decide) rfl dX9_step_45 (by decide) (by decide) rfl
  · rw [if_pos c4] at h
    refine j_iconst (pc := 33) dX9_step_33 (v := 0) (by decide) ?_
    obtain ⟨rfl, rfl⟩ := jretS h
    exact j_zretL (pc := 34) (by decide) rfl dX9_step_34 (by decide) (by decide) rfl
def m_X9_step (a0 : Nat) (i1 : Int32) (ws : LWd) : Option (Int32 × LWd) :=
  (rcv ws a0 9).bind fun _ =>
  (fR ws a0 9 3).bind fun x1 =>
  bn2 (calSR ws (m_X8_at x1 i1 ws)) fun x5 w3 =>
  if x5 = ((-1)) then
    m_X9_step_b22 a0 i1 w3
  else
    bn2 (calSR w3 (m_X9_holdsWithout a0 i1 w3)) fun x9 w7 =>
    if x9 = 0 then
      some (0, w7)
    else
      m_X9_step_b22 a0 i1 w7
set_option maxRecDepth 100000 in
set_option maxHeartbeats 4000000 in
theorem s_X9_step {a0 : Nat} {i1 : Int32} {ws : LWd} {rr : Int32} {ws' : LWd} (h : m_X9_step a0 i1 ws = some (rr, ws')) : jSp yX9_step wsX9_step 3 0 0 [.ref a0, .int i1] ws (.inl (some (.int rr)), ws') := by
  unfold m_X9_step at h
  refine j_entry (ret := (some .boolean)) (nm := "step") (own := RX9) pl_X9 rfl rfl rfl (jcats (by rfl)) (Nat.le_of_ble_eq_true rfl) ?_
  show JG (.inl false) cX9_step 3 RX9 wsX9_step (some .boolean) "step" 3 0 0 ws.length (.inl (some (.int rr)), ws') 0 [some (.ref a0), some (.int i1), none] [] ws 0 0
  obtain ⟨_, _, h⟩ := obS h
  refine j_aload_n (pc := 0) dX9_step_0 rfl ?_
  obtain ⟨x1, e2, h⟩ := obS h
  refine j_getR (pc := 1) dX9_step_1 (ci := 9) (kf := 3) rfl (jwi hw_X9) (by decide) (jwm lw_39) e2 ?_
  refine j_iload_n (pc := 4) dX9_step_4 rfl ?_
  obtain ⟨x5, w3, e4, h⟩ := obS2 h
  have ge4 := calSR_of e4
  refine j_callV_g (pc := 5) (As := [.int i1]) (k' := 0) (n' := 0) dX9_step_5 (s_X8_at ge4.1) (jgV lw_139 lw_140 lw_141 lw_12 lw_138) rfl hv_X8_at rfl (r_X8_at ge4.1) rfl (by decide) (by decide) (Nat.le_of_ble_eq_true rfl) (by decide) (by decide) (by decide) (by decide) (Or.inl ge4.2) ?_
  refine j_iconst (pc := 8) dX9_step_8 (v := (-1)) (by decide) ?_
  refine j_icmp_eq (pc := 9) (tgt := 22) dX9_step_9 (by decide) (fun c6 => ?_) (fun c6 => ?_)
  · rw [if_pos c6] at h
    exact jm_X9_step_b22 _ _ w3 h
  · rw [if_neg c6] at h
    refine j_aload_n (pc := 12) dX9_step_12 rfl ?_
    refine j_iload_n (pc := 13) dX9_step_13 rfl ?_
    obtain ⟨x9, w7, e8, h⟩ := obS2 h
    have ge8 := calSR_of e8
    refine j_callV_g (pc := 14) (As := [.int i1]) (k' := 0) (n' := 0) dX9_step_14 (s_X9_holdsWithout ge8.1) (jgV lw_401 lw_245 lw_246 lw_76 lw_243) rfl hv_X9_holdsWithout rfl (r_X9_holdsWithout ge8.1) rfl (by decide) (by decide) (Nat.le_of_ble_eq_true rfl) (by decide) (by decide) (by decide) (by decide) (Or.inl ge8.2) ?_
    refine j_if_ne (pc := 17) (tgt := 22) dX9_step_17 (by decide) (fun c10 => ?_) (fun c10 => ?_)
    · rw [if_neg c10] at h
      exact jm_X9_step_b22 _ _ w7 h
    · rw [if_pos c10] at h
      refine j_iconst (pc := 20) dX9_step_20 (v := 0) (by decide) ?_
      obtain ⟨rfl, rfl⟩ := jretS h
      exact j_zretL (pc := 21) (by decide) rfl dX9_step_21 (by decide) (by decide) rfl
theorem r_X9_step {a0 : Nat} {i1 : Int32} {ws : LWd} {o : (Int32 × LWd)} (h : m_X9_step a0 i1 ws = some o) : ∃ fs, ws[a0]? = some (.inr (9, fs)) := rcv_in h
def wsX7_isMade : List Cond := Cond.code yX7_isMade cX7_isMade 4 (some .boolean) :: jW
def m_X7_isMade (a0 : Nat) (i1 : Int32) (i2 : Int32) (ws : LWd) : Option (Int32 × LWd) :=
  (rcv ws a0 7).bind fun _ =>
  if i1 < 0 then
    some (0, ws)
  else
    (fR ws a0 7 1).bind fun x2 =>
    (aL ws x2).bind fun x4 =>
    if (i1 + 1) < x4 then
      (fR ws a0 7 1).bind fun x7 =>
      (aR ws x7 (i1 + 1)).bind fun x9 =>
      (fR ws a0 7 1).bind fun x11 =>
      (aR ws x11 i1).bind fun x13 =>
      (calSV ws (m_X9_copy x9 x13 ws)).bind fun w15 =>
      if (i2 - 6) = 0 then
        bn2 (calSR w15 (m_X9_moveBody x9 ((-1)) 0 w15)) fun x20 w18 =>
        retZ x20 w18
      else
        if (i2 - 6) = 1 then
          bn2 (calSR w15 (m_X9_moveBody x9 1 0 w15)) fun x24 w22 =>
          retZ x24 w22
        else
          if (i2 - 6) = 2 then
            bn2 (calSR w15 (m_X9_moveBody x9 0 ((-1)) w15)) fun x28 w26 =>
            retZ x28 w26
          else
            if (i2 - 6) = 3 then
              bn2 (calSR w15 (m_X9_moveBody x9 0 1 w15)) fun x32 w30 =>
              retZ x32 w30
            else
              (fR w15 a0 7 0).bind fun x33 =>
              (fI w15 x33 2 3).bind fun x35 =>
              if x35 ≤ i2 then
                some (0, w15)
              else
                bn2 (calSR w15 (m_X9_step x9 i2 w15)) fun x40 w38 =>
                if x40 = 0 then
                  some (0, w38)
                else
                  some (1, w38)
    else
      some (0, ws)
set_option maxRecDepth 100000 in
set_option maxHeartbeats 4000000 in
theorem s_X7_isMade {a0 : Nat} {i1 : Int32} {i2 : Int32} {ws : LWd} {rr : Int32} {ws' : LWd} (h : m_X7_isMade a0 i1 i2 ws = some (rr, ws')) : jSp yX7_isMade wsX7_isMade 4 0 0 [.ref a0, .int i1, .int i2] ws (.inl (some (.int rr)), ws') := by
  unfold m_X7_isMade at h
  refine j_entry (ret := (some .boolean)) (nm := "isMade") (own := RX7) pl_X7 rfl rfl rfl (jcats (by rfl)) (Nat.le_of_ble_eq_true rfl) ?_
  show JG (.inl false) cX7_isMade 4 RX7 wsX7_isMade (some .boolean) "isMade" 4 0 0 ws.length (.inl (some (.int rr)), ws') 0 [some (.ref a0), some (.int i1), some (.int i2), none] [] ws 0 0
  obtain ⟨_, _, h⟩ := obS h
  refine j_iload_n (pc := 0) dX7_isMade_0 rfl ?_
  refine j_if_lt (pc := 1) (tgt := 15) dX7_isMade_1 (by decide) (fun c1 => ?_) (fun c1 => ?_)
  · rw [if_pos c1] at h
    refine j_iconst (pc := 15) dX7_isMade_15 (v := 0) (by decide) ?_
    obtain ⟨rfl, rfl⟩ := jretS h
    exact j_zretL (pc := 16) (by decide) rfl dX7_isMade_16 (by decide) (by decide) rfl
  · rw [if_neg c1] at h
    refine j_iload_n (pc := 4) dX7_isMade_4 rfl ?_
    refine j_iconst (pc := 5) dX7_isMade_5 (v := 1) (by decide) ?_
    refine j_iadd (pc := 6) dX7_isMade_6 ?_
    refine j_aload_n (pc := 7) dX7_isMade_7 rfl ?_
    obtain ⟨x2, e3, h⟩ := obS h
    refine j_getR (pc := 8) dX7_isMade_8 (ci := 7) (kf := 1) rfl (jwi hw_X7) (by decide) (jwm lw_73) e3 ?_
    obtain ⟨x4, e5, h⟩ := obS h
    refine j_alen (pc := 11) dX7_isMade_11 e5 ?_
    refine j_icmp_lt (pc := 12) (tgt := 17) dX7_isMade_12 (by decide) (fun c6 => ?_) (fun c6 => ?_)
    · rw [if_pos c6] at h
      refine j_aload_n (pc := 17) dX7_isMade_17 rfl ?_
      obtain ⟨x7, e8, h⟩ := obS h
      refine j_getR (pc := 18) dX7_isMade_18 (ci := 7) (kf := 1) rfl (jwi hw_X7) (by decide) (jwm lw_73) e8 ?_
      refine j_iload_n (pc := 21) dX7_isMade_21 rfl ?_
      refine j_iconst (pc := 22) dX7_isMade_22 (v := 1) (by decide) ?_
      refine j_iadd (pc := 23) dX7_isMade_23 ?_
      obtain ⟨x9, e10, h⟩ := obS h
      refine j_aald (pc := 24) dX7_isMade_24 e10 ?_
      refine j_astore_n_3 (pc := 25) dX7_isMade_25 (by decide) rfl ?_
      refine j_aload_n (pc := 26) dX7_isMade_26 rfl ?_
      refine j_aload_n (pc := 27) dX7_isMade_27 rfl ?_
      obtain ⟨x11, e12, h⟩ := obS h
      refine j_getR (pc := 28) dX7_isMade_28 (ci := 7) (kf := 1) rfl (jwi hw_X7) (by decide) (jwm lw_73) e12 ?_
      refine j_iload_n (pc := 31) dX7_isMade_31 rfl ?_
      obtain ⟨x13, e14, h⟩ := obS h
      refine j_aald (pc := 32) dX7_isMade_32 e14 ?_
      obtain ⟨w15, e16, h⟩ := obS h
      have ge16 := calSV_of e16
      refine j_callV_g (pc := 33) (As := [.ref x13]) (k' := 0) (n' := 0) dX7_isMade_33 (s_X9_copy ge16.1) (jgV lw_487 lw_341 lw_342 lw_76 lw_339) rfl hv_X9_copy rfl (r_X9_copy ge16.1) rfl (by decide) (by decide) (Nat.le_of_ble_eq_true rfl) (by decide) (by decide) (by decide) (by decide) (Or.inl ge16.2) ?_
      refine j_iload_n (pc := 36) dX7_isMade_36 rfl ?_
      refine j_bipush (pc := 37) dX7_isMade_37 (v := 6) (by decide) ?_
      refine j_isub (pc := 39) dX7_isMade_39 ?_
      by_cases c17 : (i2 - 6) = 0
      · rw [if_pos c17] at h
        refine j_tabEq (pc := 40) (tgt := 72) (a := 0) dX7_isMade_40 c17 rfl (by decide) (by decide) rfl (by decide) ?_
        refine j_aload_n (pc := 72) dX7_isMade_72 rfl ?_
        refine j_iconst (pc := 73) dX7_isMade_73 (v := (-1)) (by decide) ?_
        refine j_iconst (pc := 74) dX7_isMade_74 (v := 0) (by decide) ?_
        obtain ⟨x20, w18, e19, h⟩ := obS2 h
        have ge19 := calSR_of e19
        refine j_callV_g (pc := 75) (As := [.int ((-1)), .int 0]) (k' := 0) (n' := 0) dX7_isMade_75 (s_X9_moveBody ge19.1) (jgV lw_492 lw_407 lw_408 lw_76 lw_405) rfl hv_X9_moveBody rfl (r_X9_moveBody ge19.1) rfl (by decide) (by decide) (Nat.le_of_ble_eq_true rfl) (by decide) (by decide) (by decide) (by decide) (Or.inl ge19.2) ?_
        exact j_zret (pc := 78) rfl dX7_isMade_78 (by decide) (by decide) h rfl rfl
      · rw [if_neg c17] at h
        by_cases c21 : (i2 - 6) = 1
        · rw [if_pos c21] at h
          refine j_tabEq (pc := 40) (tgt := 79) (a := 1) dX7_isMade_40 c21 rfl (by decide) (by decide) rfl (by decide) ?_
          refine j_aload_n (pc := 79) dX7_isMade_79 rfl ?_
          refine j_iconst (pc := 80) dX7_isMade_80 (v := 1) (by decide) ?_
          refine j_iconst (pc := 81) dX7_isMade_81 (v := 0) (by decide) ?_
          obtain ⟨x24, w22, e23, h⟩ := obS2 h
          have ge23 := calSR_of e23
          refine j_callV_g (pc := 82) (As := [.int 1, .int 0]) (k' := 0) (n' := 0) dX7_isMade_82 (s_X9_moveBody ge23.1) (jgV lw_492 lw_407 lw_408 lw_76 lw_405) rfl hv_X9_moveBody rfl (r_X9_moveBody ge23.1) rfl (by decide) (by decide) (Nat.le_of_ble_eq_true rfl) (by decide) (by decide) (by decide) (by decide) (Or.inl ge23.2) ?_
          exact j_zret (pc := 85) rfl dX7_isMade_85 (by decide) (by decide) h rfl rfl
        · rw [if_neg c21] at h
          by_cases c25 : (i2 - 6) = 2
          · rw [if_pos c25] at h
            refine j_tabEq (pc := 40) (tgt := 86) (a := 2) dX7_isMade_40 c25 rfl (by decide) (by decide) rfl (by decide) ?_
            refine j_aload_n (pc := 86) dX7_isMade_86 rfl ?_
            refine j_iconst (pc := 87) dX7_isMade_87 (v := 0) (by decide) ?_
            refine j_iconst (pc := 88) dX7_isMade_88 (v := (-1)) (by decide) ?_
            obtain ⟨x28, w26, e27, h⟩ := obS2 h
            have ge27 := calSR_of e27
            refine j_callV_g (pc := 89) (As := [.int 0, .int ((-1))]) (k' := 0) (n' := 0) dX7_isMade_89 (s_X9_moveBody ge27.1) (jgV lw_492 lw_407 lw_408 lw_76 lw_405) rfl hv_X9_moveBody rfl (r_X9_moveBody ge27.1) rfl (by decide) (by decide) (Nat.le_of_ble_eq_true rfl) (by decide) (by decide) (by decide) (by decide) (Or.inl ge27.2) ?_
            exact j_zret (pc := 92) rfl dX7_isMade_92 (by decide) (by decide) h rfl rfl
          · rw [if_neg c25] at h
            by_cases c29 : (i2 - 6) = 3
            · rw [if_pos c29] at h
              refine j_tabEq (pc := 40) (tgt := 93) (a := 3) dX7_isMade_40 c29 rfl (by decide) (by decide) rfl (by decide) ?_
              refine j_aload_n (pc := 93) dX7_isMade_93 rfl ?_
              refine j_iconst (pc := 94) dX7_isMade_94 (v := 0) (by decide) ?_
              refine j_iconst (pc := 95) dX7_isMade_95 (v := 1) (by decide) ?_
              obtain ⟨x32, w30, e31, h⟩ := obS2 h
              have ge31 := calSR_of e31
              refine j_callV_g (pc := 96) (As := [.int 0, .int 1]) (k' := 0) (n' := 0) dX7_isMade_96 (s_X9_moveBody ge31.1) (jgV lw_492 lw_407 lw_408 lw_76 lw_405) rfl hv_X9_moveBody rfl (r_X9_moveBody ge31.1) rfl (by decide) (by decide) (Nat.le_of_ble_eq_true rfl) (by decide) (by decide) (by decide) (by decide) (Or.inl ge31.2) ?_
              exact j_zret (pc := 99) rfl dX7_isMade_99 (by decide) (by decide) h rfl rfl
            · rw [if_neg c29] at h
              refine j_tabOut (pc := 40) (tgt := 100) dX7_isMade_40 (jout4 c17 c21 c25 c29) (by decide) ?_
              refine j_iload_n (pc := 100) dX7_isMade_100 rfl ?_
              refine j_aload_n (pc := 101) dX7_isMade_101 rfl ?_
              obtain ⟨x33, e34, h⟩ := obS h
              refine j_getR (pc := 102) dX7_isMade_102 (ci := 7) (kf := 0) rfl (jwi hw_X7) (by decide) (jwm lw_82) e34 ?_
              obtain ⟨x35, e36, h⟩ := obS h
              refine j_getI (pc := 105) dX7_isMade_105 (ci := 2) (kf := 3) rfl (jwi hw_X2) (by decide) (jwm lw_493) e36 ?_
              refine j_icmp_ge (pc := 108) (tgt := 123) dX7_isMade_108 (by decide) (fun c37 => ?_) (fun c37 => ?_)
              · rw [if_pos c37] at h
                refine j_iconst (pc := 123) dX7_isMade_123 (v := 0) (by decide) ?_
                obtain ⟨rfl, rfl⟩ := jretS h
                exact j_zretL (pc := 124) (by decide) rfl dX7_isMade_124 (by decide) (by decide) rfl
              · rw [if_neg c37] at h
                refine j_aload_n (pc := 111) dX7_isMade_111 rfl ?_
                refine j_iload_n (pc := 112) dX7_isMade_112 rfl ?_
                obtain ⟨x40, w38, e39, h⟩ := obS2 h
                have ge39 := calSR_of e39
                refine j_callV_g (pc := 113) (As := [.int i2]) (k' := 0) (n' := 0) dX7_isMade_113 (s_X9_step ge39.1) (jgV lw_495 lw_496 lw_497 lw_76 lw_494) rfl hv_X9_step rfl (r_X9_step ge39.1) rfl (by decide) (by decide) (Nat.le_of_ble_eq_true rfl) (by decide) (by decide) (by decide) (by decide) (Or.inl ge39.2) ?_
                refine j_if_eq (pc := 116) (tgt := 123) dX7_isMade_116 (by decide) (fun c41 => ?_) (fun c41 => ?_)
                · rw [if_pos c41] at h
                  refine j_iconst (pc := 123) dX7_isMade_123 (v := 0) (by decide) ?_
                  obtain ⟨rfl, rfl⟩ := jretS h
                  exact j_zretL (pc := 124) (by decide) rfl dX7_isMade_124 (by decide) (by decide) rfl
                · rw [if_neg c41] at h
                  refine j_iconst (pc := 119) dX7_isMade_119 (v := 1) (by decide) ?_
                  refine j_goto (pc := 120) (tgt := 124) dX7_isMade_120 (by decide) ?_
                  obtain ⟨rfl, rfl⟩ := jretS h
                  exact j_zretL (pc := 124) (by decide) rfl dX7_isMade_124 (by decide) (by decide) rfl
    · rw [if_neg c6] at h
      refine j_iconst (pc := 15) dX7_isMade_15 (v := 0) (by decide) ?_
      obtain ⟨rfl, rfl⟩ := jretS h
      exact j_zretL (pc := 16) (by decide) rfl dX7_isMade_16 (by decide) (by decide) rfl
theorem r_X7_isMade {a0 : Nat} {i1 : Int32} {i2 : Int32} {ws : LWd} {o : (Int32 × LWd)} (h : m_X7_isMade a0 i1 i2 ws = some o) : ∃ fs, ws[a0]? = some (.inr (7, fs)) := rcv_in h
def wsX10_isReachedBy : List Cond := Cond.code yX10_isReachedBy cX10_isReachedBy 5 (some .boolean) :: jW
def m_X10_isReachedBy_b59 (self : Nat → Int32 → Int32 → LWd → Option (Int32 × LWd)) (k27 : Nat → Int32 → Int32 → Int32 → LWd → Option (Int32 × LWd)) (a0 : Nat) (i1 : Int32) (i2 : Int32) (i4 : Int32) (ws : LWd) : Option (Int32 × LWd) :=
  k27 a0 i1 i2 (i4 + 1) ws
set_option maxRecDepth 100000 in
set_option maxHeartbeats 4000000 in
theorem jm_X10_isReachedBy_b59 {dd : Nat} {self : Nat → Int32 → Int32 → LWd → Option (Int32 × LWd)} {n0 : Nat} {rr : Int32} {ws' : LWd} (hself : ∀ (a0 : Nat) (i1 : Int32) (i2 : Int32) (ws : LWd) (rr : Int32) (ws' : LWd), self a0 i1 i2 ws = some (rr, ws') → jSp yX10_isReachedBy wsX10_isReachedBy (5 + dd - 1) 0 0 [.ref a0, .int i1, .int i2] ws (.inl (some (.int rr)), ws')) {k27 : Nat → Int32 → Int32 → Int32 → LWd → Option (Int32 × LWd)} (hk27 : ∀ (a0 : Nat) (i1 : Int32) (i2 : Int32) (i4 : Int32) (ws : LWd), k27 a0 i1 i2 i4 ws = some (rr, ws') → JG (.inl false) cX10_isReachedBy 5 RX10 wsX10_isReachedBy (some .boolean) "isReachedBy" (5 + dd) 0 0 n0 (.inl (some (.int rr)), ws') 27 [some (.ref a0), some (.int i1), some (.int i2), none, some (.int i4)] [] ws 0 0) (a0 : Nat) (i1 : Int32) (i2 : Int32) (i4 : Int32) (ws : LWd) (h : m_X10_isReachedBy_b59 self k27 a0 i1 i2 i4 ws = some (rr, ws')) : JG (.inl false) cX10_isReachedBy 5 RX10 wsX10_isReachedBy (some .boolean) "isReachedBy" (5 + dd) 0 0 n0 (.inl (some (.int rr)), ws') 59 [some (.ref a0), some (.int i1), some (.int i2), none, some (.int i4)] [] ws 0 0 := by
  unfold m_X10_isReachedBy_b59 at h
  refine j_iinc_4 (pc := 59) dX10_isReachedBy_59 (y := i4 + 1) rfl (by decide) rfl ?_
  refine j_goto (pc := 62) (tgt := 27) dX10_isReachedBy_62 (by decide) ?_
  exact hk27 _ _ _ _ ws h
def m_X10_isReachedBy_l27 (self : Nat → Int32 → Int32 → LWd → Option (Int32 × LWd)) : Nat → Nat → Int32 → Int32 → Int32 → LWd → Option (Int32 × LWd)
  | 0, _, _, _, _, _ => none
  | fu + 1, a0, i1, i2, i4, ws =>
    if 10 ≤ i4 then
      some (0, ws)
    else
      bn2 (calSR ws (m_X7_isMade a0 i1 i4 ws)) fun x4 w2 =>
      if x4 = 0 then
        m_X10_isReachedBy_b59 self (fun z0 z1 z2 z3 w => m_X10_isReachedBy_l27 self fu z0 z1 z2 z3 w) a0 i1 i2 i4 w2
      else
        bn2 (calSR w2 (self a0 (i1 + 1) (i2 - 1) w2)) fun x8 w6 =>
        if x8 = 0 then
          m_X10_isReachedBy_b59 self (fun z0 z1 z2 z3 w => m_X10_isReachedBy_l27 self fu z0 z1 z2 z3 w) a0 i1 i2 i4 w6
        else
          some (1, w6)
set_option maxRecDepth 100000 in
set_option maxHeartbeats 4000000 in
theorem jm_X10_isReachedBy_l27 {dd : Nat} {self : Nat → Int32 → Int32 → LWd → Option (Int32 × LWd)} {n0 : Nat} {rr : Int32} {ws' : LWd} (hself : ∀ (a0 : Nat) (i1 : Int32) (i2 : Int32) (ws : LWd) (rr : Int32) (ws' : LWd), self a0 i1 i2 ws = some (rr, ws') → jSp yX10_isReachedBy wsX10_isReachedBy (5 + dd - 1) 0 0 [.ref a0, .int i1, .int i2] ws (.inl (some (.int rr)), ws')) : ∀ (fu : Nat) (a0 : Nat) (i1 : Int32) (i2 : Int32) (i4 : Int32) (ws : LWd), m_X10_isReachedBy_l27 self fu a0 i1 i2 i4 ws = some (rr, ws') → JG (.inl false) cX10_isReachedBy 5 RX10 wsX10_isReachedBy (some .boolean) "isReachedBy" (5 + dd) 0 0 n0 (.inl (some (.int rr)), ws') 27 [some (.ref a0), some (.int i1), some (.int i2), none, some (.int i4)] [] ws 0 0 := by
  intro fu
  induction fu with
  | zero => intro a0 i1 i2 i4 ws h; first | (cases h; done) | (rw [m_X10_isReachedBy_l27] at h; cases h)
  | succ fu ih =>
    intro a0 i1 i2 i4 ws h
    rw [m_X10_isReachedBy_l27] at h
    refine j_iload (pc := 27) dX10_isReachedBy_27 rfl ?_
    refine j_bipush (pc := 29) dX10_isReachedBy_29 (v := 10) (by decide) ?_
    refine j_icmp_ge (pc := 31) (tgt := 65) dX10_isReachedBy_31 (by decide) (fun c1 => ?_) (fun c1 => ?_)
    · rw [if_pos c1] at h
      refine j_iconst (pc := 65) dX10_isReachedBy_65 (v := 0) (by decide) ?_
      obtain ⟨rfl, rfl⟩ := jretS h
      exact j_zretL (pc := 66) (by decide) rfl dX10_isReachedBy_66 (by decide) (by decide) rfl
    · rw [if_neg c1] at h
      refine j_aload_n (pc := 34) dX10_isReachedBy_34 rfl ?_
      refine j_iload_n (pc := 35) dX10_isReachedBy_35 rfl ?_
      refine j_iload (pc := 36) dX10_isReachedBy_36 rfl ?_
      obtain ⟨x4, w2, e3, h⟩ := obS2 h
      have ge3 := calSR_of e3
      refine j_callV_g (pc := 38) (As := [.int i1, .int i4]) (k' := 0) (n' := 0) dX10_isReachedBy_38 (s_X7_isMade ge3.1) (jgV lw_499 lw_500 lw_501 lw_131 lw_498) rfl hv_X7_isMade rfl (r_X7_isMade ge3.1) rfl (by omega) (by omega) (Nat.le_of_ble_eq_true rfl) (by decide) (by decide) (by decide) (by decide) (Or.inl ge3.2) ?_
      refine j_if_eq (pc := 41) (tgt := 59) dX10_isReachedBy_41 (by decide) (fun c5 => ?_) (fun c5 => ?_)
      · rw [if_pos c5] at h
        exact jm_X10_isReachedBy_b59 (hself := hself) (hk27 := ih) _ _ _ _ w2 h
      · rw [if_neg c5] at h
        refine j_aload_n (pc := 44) dX10_isReachedBy_44 rfl ?_
        refine j_iload_n (pc := 45) dX10_isReachedBy_45 rfl ?_
        refine j_iconst (pc := 46) dX10_isReachedBy_46 (v := 1) (by decide) ?_
        refine j_iadd (pc := 47) dX10_isReachedBy_47 ?_
        refine j_iload_n (pc := 48) dX10_isReachedBy_48 rfl ?_
        refine j_iconst (pc := 49) dX10_isReachedBy_49 (v := 1) (by decide) ?_
        refine j_isub (pc := 50) dX10_isReachedBy_50 ?_
        obtain ⟨x8, w6, e7, h⟩ := obS2 h
        have ge7 := calSR_of e7
        refine j_callS_g (pc := 51) (As := [.ref a0, .int (i1 + 1), .int (i2 - 1)]) (k' := 0) (n' := 0) dX10_isReachedBy_51 (hself _ _ _ w2 _ _ ge7.1) (jgS lw_503 lw_504 lw_147 lw_502) rfl hy_X10_isReachedBy rfl (by omega) (by omega) (Nat.le_of_ble_eq_true rfl) (by decide) (by decide) (by decide) (by decide) (Or.inl ge7.2) ?_
        refine j_if_eq (pc := 54) (tgt := 59) dX10_isReachedBy_54 (by decide) (fun c9 => ?_) (fun c9 => ?_)
        · rw [if_pos c9] at h
          exact jm_X10_isReachedBy_b59 (hself := hself) (hk27 := ih) _ _ _ _ w6 h
        · rw [if_neg c9] at h
          refine j_iconst (pc := 57) dX10_isReachedBy_57 (v := 1) (by decide) ?_
          obtain ⟨rfl, rfl⟩ := jretS h
          exact j_zretL (pc := 58) (by decide) rfl dX10_isReachedBy_58 (by decide) (by decide) rfl
def m_X10_isReachedBy_o (self : Nat → Int32 → Int32 → LWd → Option (Int32 × LWd)) (a0 : Nat) (i1 : Int32) (i2 : Int32) (ws : LWd) : Option (Int32 × LWd) :=
  bn2 (calSR ws (m_X7_away a0 i1 ws)) fun x3 w1 =>
  if x3 = 0 then
    some (1, w1)
  else
    if i2 < x3 then
      some (0, w1)
    else
      if i1 < 3 then
        m_X10_isReachedBy_l27 self FU a0 i1 i2 0 w1
      else
        some (0, w1)
def m_X10_isReachedBy : Nat → Nat → Int32 → Int32 → LWd → Option (Int32 × LWd)
  | 0, _, _, _, _ => none
  | dd + 1, a0, i1, i2, ws => m_X10_isReachedBy_o (m_X10_isReachedBy dd) a0 i1 i2 ws
set_option maxRecDepth 100000 in
set_option maxHeartbeats 4000000 in
theorem s_X10_isReachedBy : ∀ (dd : Nat) (a0 : Nat) (i1 : Int32) (i2 : Int32) (ws : LWd) (rr : Int32) (ws' : LWd), m_X10_isReachedBy dd a0 i1 i2 ws = some (rr, ws') → jSp yX10_isReachedBy wsX10_isReachedBy (5 + dd) 0 0 [.ref a0, .int i1, .int i2] ws (.inl (some (.int rr)), ws') := by
  intro dd
  induction dd with
  | zero => intro a0 i1 i2 ws rr ws' h; cases h
  | succ dd ih =>
    intro a0 i1 i2 ws rr ws' h
    have hself := ih
    rw [m_X10_isReachedBy] at h
    generalize m_X10_isReachedBy dd = self at h hself
    unfold m_X10_isReachedBy_o at h
    refine j_entry (ret := (some .boolean)) (nm := "isReachedBy") (own := RX10) pl_X10 rfl rfl rfl (jcats (by rfl)) (Nat.le_of_ble_eq_true rfl) ?_
    show JG (.inl false) cX10_isReachedBy 5 RX10 wsX10_isReachedBy (some .boolean) "isReachedBy" (5 + (dd + 1)) 0 0 ws.length (.inl (some (.int rr)), ws') 0 [some (.ref a0), some (.int i1), some (.int i2), none, none] [] ws 0 0
    have hself : ∀ (a0 : Nat) (i1 : Int32) (i2 : Int32) (ws : LWd) (rr : Int32) (ws' : LWd), self a0 i1 i2 ws = some (rr, ws') → jSp yX10_isReachedBy wsX10_isReachedBy (5 + (dd + 1) - 1) 0 0 [.ref a0, .int i1, .int i2] ws (.inl (some (.int rr)), ws') := hself
    refine j_aload_n (pc := 0) dX10_isReachedBy_0 rfl ?_
    refine j_iload_n (pc := 1) dX10_isReachedBy_1 rfl ?_
    obtain ⟨x3, w1, e2, h⟩ := obS2 h
    have ge2 := calSR_of e2
    refine j_callV_g (pc := 2) (As := [.int i1]) (k' := 0) (n' := 0) dX10_isReachedBy_2 (s_X7_away ge2.1) (jgV lw_506 lw_507 lw_508 lw_131 lw_505) rfl hv_X7_away rfl (r_X7_away ge2.1) rfl (by omega) (by omega) (Nat.le_of_ble_eq_true rfl) (by decide) (by decide) (by decide) (by decide) (Or.inl ge2.2) ?_
    refine j_istore_n_3 (pc := 5) dX10_isReachedBy_5 (by decide) rfl ?_
    refine j_iload_n (pc := 6) dX10_isReachedBy_6 rfl ?_
    refine j_if_ne (pc := 7) (tgt := 12) dX10_isReachedBy_7 (by decide) (fun c4 => ?_) (fun c4 => ?_)
    · rw [if_neg c4] at h
      refine j_iload_n (pc := 12) dX10_isReachedBy_12 rfl ?_
      refine j_iload_n (pc := 13) dX10_isReachedBy_13 rfl ?_
      refine j_icmp_gt (pc := 14) (tgt := 22) dX10_isReachedBy_14 (by decide) (fun c5 => ?_) (fun c5 => ?_)
      · rw [if_pos c5] at h
        refine j_iconst (pc := 22) dX10_isReachedBy_22 (v := 0) (by decide) ?_
        obtain ⟨rfl, rfl⟩ := jretS h
        exact j_zretL (pc := 23) (by decide) rfl dX10_isReachedBy_23 (by decide) (by decide) rfl
      · rw [if_neg c5] at h
        refine j_iload_n (pc := 17) dX10_isReachedBy_17 rfl ?_
        refine j_iconst (pc := 18) dX10_isReachedBy_18 (v := 3) (by decide) ?_
        refine j_icmp_lt (pc := 19) (tgt := 24) dX10_isReachedBy_19 (by decide) (fun c6 => ?_) (fun c6 => ?_)
        · rw [if_pos c6] at h
          refine j_iconst (pc := 24) dX10_isReachedBy_24 (v := 0) (by decide) ?_
          refine j_istore_4 (pc := 25) dX10_isReachedBy_25 (by decide) rfl ?_
          refine j_mask [true, true, true, false, true] ?_
          exact jm_X10_isReachedBy_l27 (hself := hself) FU _ _ _ _ w1 h
        · rw [if_neg c6] at h
          refine j_iconst (pc := 22) dX10_isReachedBy_22 (v := 0) (by decide) ?_
          obtain ⟨rfl, rfl⟩ := jretS h
          exact j_zretL (pc := 23) (by decide) rfl dX10_isReachedBy_23 (by decide) (by decide) rfl
    · rw [if_pos c4] at h
      refine j_iconst (pc := 10) dX10_isReachedBy_10 (v := 1) (by decide) ?_
      obtain ⟨rfl, rfl⟩ := jretS h
      exact j_zretL (pc := 11) (by decide) rfl dX10_isReachedBy_11 (by decide) (by decide) rfl
def wsX10_fewest : List Cond := Cond.code yX10_fewest cX10_fewest 5 (some .int) :: jW
def m_X10_fewest_l52 : Nat → Nat → Int32 → LWd → Option ((Int32 ⊕ String) × LWd)
  | 0, _, _, _ => none
  | fu + 1, a0, i4, ws =>
    if 3 < i4 then
      some (.inl ((-1)), ws)
    else
      (fR ws a0 10 8).bind fun x2 =>
      bn2 (calSR ws (m_X10_isReachedBy 4 x2 0 i4 ws)) fun x6 w4 =>
      if x6 = 0 then
        m_X10_fewest_l52 fu a0 (i4 + 1) w4
      else
        some (.inl i4, w4)
set_option maxRecDepth 100000 in
set_option maxHeartbeats 4000000 in
theorem jm_X10_fewest_l52 {n0 : Nat} {rr : Int32 ⊕ String} {ws' : LWd} : ∀ (fu : Nat) (a0 : Nat) (i4 : Int32) (ws : LWd) (hn0 : ws.length = n0), m_X10_fewest_l52 fu a0 i4 ws = some (rr, ws') → JG (.inl true) cX10_fewest 5 RX10 wsX10_fewest (some .int) "fewest" 10 1 6 n0 (jthr rr, ws') 52 [some (.ref a0), none, none, none, some (.int i4)] [] ws 0 0 := by
  intro fu
  induction fu with
  | zero => intro a0 i4 ws hn0 h; first | (cases h; done) | (rw [m_X10_fewest_l52] at h; cases h)
  | succ fu ih =>
    intro a0 i4 ws hn0 h
    rw [m_X10_fewest_l52] at h
    refine j_iload (pc := 52) dX10_fewest_52 rfl ?_
    refine j_iconst (pc := 54) dX10_fewest_54 (v := 3) (by decide) ?_
    refine j_icmp_gt (pc := 55) (tgt := 80) dX10_fewest_55 (by decide) (fun c1 => ?_) (fun c1 => ?_)
    · rw [if_pos c1] at h
      refine j_iconst (pc := 80) dX10_fewest_80 (v := (-1)) (by decide) ?_
      obtain ⟨rfl, rfl⟩ := jretS h
      exact j_iret (pc := 81) rfl dX10_fewest_81 (by decide) (by decide) rfl
    · rw [if_neg c1] at h
      refine j_aload_n (pc := 58) dX10_fewest_58 rfl ?_
      obtain ⟨x2, e3, h⟩ := obS h
      refine j_getR (pc := 59) dX10_fewest_59 (ci := 10) (kf := 8) rfl (jwi hw_X10) (by decide) (jwm lw_135) e3 ?_
      refine j_iconst (pc := 62) dX10_fewest_62 (v := 0) (by decide) ?_
      refine j_iload (pc := 63) dX10_fewest_63 rfl ?_
      obtain ⟨x6, w4, e5, h⟩ := obS2 h
      have ge5 := calSR_of e5
      have le5 := ge5.2
      refine j_callS_g (pc := 65) (As := [.ref x2, .int 0, .int i4]) (k' := 0) (n' := 0) dX10_fewest_65 (s_X10_isReachedBy 4 _ _ _ ws _ _ ge5.1) (jgS lw_503 lw_504 lw_147 lw_502) rfl hy_X10_isReachedBy rfl (by decide) (by decide) (Nat.le_of_ble_eq_true rfl) (by decide) (by decide) (by decide) (by decide) (Or.inl ge5.2) ?_
      refine j_if_eq (pc := 68) (tgt := 74) dX10_fewest_68 (by decide) (fun c7 => ?_) (fun c7 => ?_)
      · rw [if_pos c7] at h
        refine j_iinc_4 (pc := 74) dX10_fewest_74 (y := i4 + 1) rfl (by decide) rfl ?_
        refine j_goto (pc := 77) (tgt := 52) dX10_fewest_77 (by decide) ?_
        exact ih _ _ w4 (by omega) h
      · rw [if_neg c7] at h
        refine j_iload (pc := 71) dX10_fewest_71 rfl ?_
        obtain ⟨rfl, rfl⟩ := jretS h
        exact j_iret (pc := 73) rfl dX10_fewest_73 (by decide) (by decide) rfl
def m_X10_fewest (a0 : Nat) (i1 : Int32) (i2 : Int32) (ws : LWd) : Option ((Int32 ⊕ String) × LWd) :=
  (rcv ws a0 10).bind fun _ =>
  bn2 (calSR ws (m_X10_pointAt i1 i2 ws)) fun x3 w1 =>
  if x3 = ((-1)) then
    some (.inr "java/lang/IllegalArgumentException", w1)
  else
    (fI w1 a0 10 9).bind fun x5 =>
    if x5 = 0 then
      some (.inl ((-1)), w1)
    else
      (fR w1 a0 10 8).bind fun x8 =>
      (fR w1 a0 10 2).bind fun x10 =>
      (calSV w1 (m_X7_start x8 x10 x3 w1)).bind fun w12 =>
      (fR w12 a0 10 8).bind fun x14 =>
      bn2 (calSR w12 (m_X7_away x14 0 w12)) fun x18 w16 =>
      m_X10_fewest_l52 FU a0 x18 w16
set_option maxRecDepth 100000 in
set_option maxHeartbeats 4000000 in
theorem s_X10_fewest {a0 : Nat} {i1 : Int32} {i2 : Int32} {ws : LWd} {rr : Int32 ⊕ String} {ws' : LWd} (h : m_X10_fewest a0 i1 i2 ws = some (rr, ws')) : jSX yX10_fewest wsX10_fewest 10 1 6 [.ref a0, .int i1, .int i2] ws (jthr rr, ws') := by
  unfold m_X10_fewest at h
  refine j_entryX (ret := (some .int)) (nm := "fewest") (own := RX10) pl_X10 rfl rfl rfl (jcats (by rfl)) (Nat.le_of_ble_eq_true rfl) ?_
  show JG (.inl true) cX10_fewest 5 RX10 wsX10_fewest (some .int) "fewest" 10 1 6 ws.length (jthr rr, ws') 0 [some (.ref a0), some (.int i1), some (.int i2), none, none] [] ws 0 0
  obtain ⟨_, _, h⟩ := obS h
  refine j_iload_n (pc := 0) dX10_fewest_0 rfl ?_
  refine j_iload_n (pc := 1) dX10_fewest_1 rfl ?_
  obtain ⟨x3, w1, e2, h⟩ := obS2 h
  have ge2 := calSR_of e2
  have le2 := ge2.2
  refine j_callS_g (pc := 2) (As := [.int i1, .int i2]) (k' := 0) (n' := 0) dX10_fewest_2 (s_X10_pointAt ge2.1) (jgS lw_145 lw_146 lw_147 lw_144) rfl hy_X10_pointAt rfl (by decide) (by decide) (Nat.le_of_ble_eq_true rfl) (by decide) (by decide) (by decide) (by decide) (Or.inl ge2.2) ?_
  refine j_istore_n_3 (pc := 5) dX10_fewest_5 (by decide) rfl ?_
  refine j_iload_n (pc := 6) dX10_fewest_6 rfl ?_
  refine j_iconst (pc := 7) dX10_fewest_7 (v := (-1)) (by decide) ?_
  refine j_icmp_ne (pc := 8) (tgt := 21) dX10_fewest_8 (by decide) (fun c4 => ?_) (fun c4 => ?_)
  · rw [if_neg c4] at h
    refine j_aload_n (pc := 21) dX10_fewest_21 rfl ?_
    obtain ⟨x5, e6, h⟩ := obS h
    refine j_getI (pc := 22) dX10_fewest_22 (ci := 10) (kf := 9) rfl (jwi hw_X10) (by decide) (jwm lw_136) e6 ?_
    refine j_if_ne (pc := 25) (tgt := 30) dX10_fewest_25 (by decide) (fun c7 => ?_) (fun c7 => ?_)
    · rw [if_neg c7] at h
      refine j_aload_n (pc := 30) dX10_fewest_30 rfl ?_
      obtain ⟨x8, e9, h⟩ := obS h
      refine j_getR (pc := 31) dX10_fewest_31 (ci := 10) (kf := 8) rfl (jwi hw_X10) (by decide) (jwm lw_135) e9 ?_
      refine j_aload_n (pc := 34) dX10_fewest_34 rfl ?_
      obtain ⟨x10, e11, h⟩ := obS h
      refine j_getR (pc := 35) dX10_fewest_35 (ci := 10) (kf := 2) rfl (jwi hw_X10) (by decide) (jwm lw_103) e11 ?_
      refine j_iload_n (pc := 38) dX10_fewest_38 rfl ?_
      obtain ⟨w12, e13, h⟩ := obS h
      have ge13 := calSV_of e13
      have le13 := ge13.2
      refine j_callV_g (pc := 39) (As := [.ref x10, .int x3]) (k' := 0) (n' := 0) dX10_fewest_39 (s_X7_start ge13.1) (jgV lw_510 lw_511 lw_512 lw_131 lw_509) rfl hv_X7_start rfl (r_X7_start ge13.1) rfl (by decide) (by decide) (Nat.le_of_ble_eq_true rfl) (by decide) (by decide) (by decide) (by decide) (Or.inl ge13.2) ?_
      refine j_aload_n (pc := 42) dX10_fewest_42 rfl ?_
      obtain ⟨x14, e15, h⟩ := obS h
      refine j_getR (pc := 43) dX10_fewest_43 (ci := 10) (kf := 8) rfl (jwi hw_X10) (by decide) (jwm lw_135) e15 ?_
      refine j_iconst (pc := 46) dX10_fewest_46 (v := 0) (by decide) ?_
      obtain ⟨x18, w16, e17, h⟩ := obS2 h
      have ge17 := calSR_of e17
      have le17 := ge17.2
      refine j_callV_g (pc := 47) (As := [.int 0]) (k' := 0) (n' := 0) dX10_fewest_47 (s_X7_away ge17.1) (jgV lw_506 lw_507 lw_508 lw_131 lw_505) rfl hv_X7_away rfl (r_X7_away ge17.1) rfl (by decide) (by decide) (Nat.le_of_ble_eq_true rfl) (by decide) (by decide) (by decide) (by decide) (Or.inl ge17.2) ?_
      refine j_istore_4 (pc := 50) dX10_fewest_50 (by decide) rfl ?_
      refine j_mask [true, false, false, false, true] ?_
      exact jm_X10_fewest_l52 FU _ _ w16 (by omega) h
    · rw [if_pos c7] at h
      refine j_iconst (pc := 28) dX10_fewest_28 (v := (-1)) (by decide) ?_
      obtain ⟨rfl, rfl⟩ := jretS h
      exact j_iret (pc := 29) rfl dX10_fewest_29 (by decide) (by decide) rfl
  · rw [if_pos c4] at h
    obtain ⟨rfl, rfl⟩ := jretS h
    exact j_throw (pc := 11) (text := "no such point") rfl rfl dX10_fewest_11 dX10_fewest_14 dX10_fewest_15 dX10_fewest_17 dX10_fewest_20 (List.mem_of_getElem? (i := 11) rfl) (List.mem_of_getElem? (i := 0) rfl) (jfit _ (List.mem_of_getElem? (i := 0) rfl)) (jwm lw_142) (jwm lw_143) (jwi hwx_93) jgo_93 (by decide) (Nat.le_of_ble_eq_true rfl) (by decide) (by decide) (by omega) rfl
theorem r_X10_fewest {a0 : Nat} {i1 : Int32} {i2 : Int32} {ws : LWd} {o : ((Int32 ⊕ String) × LWd)} (h : m_X10_fewest a0 i1 i2 ws = some o) : ∃ fs, ws[a0]? = some (.inr (10, fs)) := rcv_in h
set_option maxRecDepth 100000 in
set_option maxHeartbeats 4000000 in
theorem jnm_X10_fewest_l52 {n0 : Nat} {rr : Int32} {ws' : LWd} : ∀ (fu : Nat) (a0 : Nat) (i4 : Int32) (ws : LWd) (hn0 : ws.length = n0), m_X10_fewest_l52 fu a0 i4 ws = some (.inl rr, ws') → JG (.inl false) cX10_fewest 5 RX10 wsX10_fewest (some .int) "fewest" 10 0 0 n0 (.inl (some (.int rr)), ws') 52 [some (.ref a0), none, none, none, some (.int i4)] [] ws 0 0 := by
  intro fu
  induction fu with
  | zero => intro a0 i4 ws hn0 h; first | (cases h; done) | (rw [m_X10_fewest_l52] at h; cases h)
  | succ fu ih =>
    intro a0 i4 ws hn0 h
    rw [m_X10_fewest_l52] at h
    refine j_iload (pc := 52) dX10_fewest_52 rfl ?_
    refine j_iconst (pc := 54) dX10_fewest_54 (v := 3) (by decide) ?_
    refine j_icmp_gt (pc := 55) (tgt := 80) dX10_fewest_55 (by decide) (fun c1 => ?_) (fun c1 => ?_)
    · rw [if_pos c1] at h
      refine j_iconst (pc := 80) dX10_fewest_80 (v := (-1)) (by decide) ?_
      cases h
      exact j_iret (pc := 81) rfl dX10_fewest_81 (by decide) (by decide) rfl
    · rw [if_neg c1] at h
      refine j_aload_n (pc := 58) dX10_fewest_58 rfl ?_
      obtain ⟨x2, e3, h⟩ := obS h
      refine j_getR (pc := 59) dX10_fewest_59 (ci := 10) (kf := 8) rfl (jwi hw_X10) (by decide) (jwm lw_135) e3 ?_
      refine j_iconst (pc := 62) dX10_fewest_62 (v := 0) (by decide) ?_
      refine j_iload (pc := 63) dX10_fewest_63 rfl ?_
      obtain ⟨x6, w4, e5, h⟩ := obS2 h
      have ge5 := calSR_of e5
      have le5 := ge5.2
      refine j_callS_g (pc := 65) (As := [.ref x2, .int 0, .int i4]) (k' := 0) (n' := 0) dX10_fewest_65 (s_X10_isReachedBy 4 _ _ _ ws _ _ ge5.1) (jgS lw_503 lw_504 lw_147 lw_502) rfl hy_X10_isReachedBy rfl (by decide) (by decide) (Nat.le_of_ble_eq_true rfl) (by decide) (by decide) (by decide) (by decide) (Or.inl ge5.2) ?_
      refine j_if_eq (pc := 68) (tgt := 74) dX10_fewest_68 (by decide) (fun c7 => ?_) (fun c7 => ?_)
      · rw [if_pos c7] at h
        refine j_iinc_4 (pc := 74) dX10_fewest_74 (y := i4 + 1) rfl (by decide) rfl ?_
        refine j_goto (pc := 77) (tgt := 52) dX10_fewest_77 (by decide) ?_
        exact ih _ _ w4 (by omega) h
      · rw [if_neg c7] at h
        refine j_iload (pc := 71) dX10_fewest_71 rfl ?_
        cases h
        exact j_iret (pc := 73) rfl dX10_fewest_73 (by decide) (by decide) rfl
set_option maxRecDepth 100000 in
set_option maxHeartbeats 4000000 in
theorem sn_X10_fewest {a0 : Nat} {i1 : Int32} {i2 : Int32} {ws : LWd} {rr : Int32} {ws' : LWd} (h : m_X10_fewest a0 i1 i2 ws = some (.inl rr, ws')) : jSp yX10_fewest wsX10_fewest 10 0 0 [.ref a0, .int i1, .int i2] ws (.inl (some (.int rr)), ws') := by
  unfold m_X10_fewest at h
  refine j_entry (ret := (some .int)) (nm := "fewest") (own := RX10) pl_X10 rfl rfl rfl (jcats (by rfl)) (Nat.le_of_ble_eq_true rfl) ?_
  show JG (.inl false) cX10_fewest 5 RX10 wsX10_fewest (some .int) "fewest" 10 0 0 ws.length (.inl (some (.int rr)), ws') 0 [some (.ref a0), some (.int i1), some (.int i2), none, none] [] ws 0 0
  obtain ⟨_, _, h⟩ := obS h
  refine j_iload_n (pc := 0) dX10_fewest_0 rfl ?_
  refine j_iload_n (pc := 1) dX10_fewest_1 rfl ?_
  obtain ⟨x3, w1, e2, h⟩ := obS2 h
  have ge2 := calSR_of e2
  have le2 := ge2.2
  refine j_callS_g (pc := 2) (As := [.int i1, .int i2]) (k' := 0) (n' := 0) dX10_fewest_2 (s_X10_pointAt ge2.1) (jgS lw_145 lw_146 lw_147 lw_144) rfl hy_X10_pointAt rfl (by decide) (by decide) (Nat.le_of_ble_eq_true rfl) (by decide) (by decide) (by decide) (by decide) (Or.inl ge2.2) ?_
  refine j_istore_n_3 (pc := 5) dX10_fewest_5 (by decide) rfl ?_
  refine j_iload_n (pc := 6) dX10_fewest_6 rfl ?_
  refine j_iconst (pc := 7) dX10_fewest_7 (v := (-1)) (by decide) ?_
  refine j_icmp_ne (pc := 8) (tgt := 21) dX10_fewest_8 (by decide) (fun c4 => ?_) (fun c4 => ?_)
  · rw [if_neg c4] at h
    refine j_aload_n (pc := 21) dX10_fewest_21 rfl ?_
    obtain ⟨x5, e6, h⟩ := obS h
    refine j_getI (pc := 22) dX10_fewest_22 (ci := 10) (kf := 9) rfl (jwi hw_X10) (by decide) (jwm lw_136) e6 ?_
    refine j_if_ne (pc := 25) (tgt := 30) dX10_fewest_25 (by decide) (fun c7 => ?_) (fun c7 => ?_)
    · rw [if_neg c7] at h
      refine j_aload_n (pc := 30) dX10_fewest_30 rfl ?_
      obtain ⟨x8, e9, h⟩ := obS h
      refine j_getR (pc := 31) dX10_fewest_31 (ci := 10) (kf := 8) rfl (jwi hw_X10) (by decide) (jwm lw_135) e9 ?_
      refine j_aload_n (pc := 34) dX10_fewest_34 rfl ?_
      obtain ⟨x10, e11, h⟩ := obS h
      refine j_getR (pc := 35) dX10_fewest_35 (ci := 10) (kf := 2) rfl (jwi hw_X10) (by decide) (jwm lw_103) e11 ?_
      refine j_iload_n (pc := 38) dX10_fewest_38 rfl ?_
      obtain ⟨w12, e13, h⟩ := obS h
      have ge13 := calSV_of e13
      have le13 := ge13.2
      refine j_callV_g (pc := 39) (As := [.ref x10, .int x3]) (k' := 0) (n' := 0) dX10_fewest_39 (s_X7_start ge13.1) (jgV lw_510 lw_511 lw_512 lw_131 lw_509) rfl hv_X7_start rfl (r_X7_start ge13.1) rfl (by decide) (by decide) (Nat.le_of_ble_eq_true rfl) (by decide) (by decide) (by decide) (by decide) (Or.inl ge13.2) ?_
      refine j_aload_n (pc := 42) dX10_fewest_42 rfl ?_
      obtain ⟨x14, e15, h⟩ := obS h
      refine j_getR (pc := 43) dX10_fewest_43 (ci := 10) (kf := 8) rfl (jwi hw_X10) (by decide) (jwm lw_135) e15 ?_
      refine j_iconst (pc := 46) dX10_fewest_46 (v := 0) (by decide) ?_
      obtain ⟨x18, w16, e17, h⟩ := obS2 h
      have ge17 := calSR_of e17
      have le17 := ge17.2
      refine j_callV_g (pc := 47) (As := [.int 0]) (k' := 0) (n' := 0) dX10_fewest_47 (s_X7_away ge17.1) (jgV lw_506 lw_507 lw_508 lw_131 lw_505) rfl hv_X7_away rfl (r_X7_away ge17.1) rfl (by decide) (by decide) (Nat.le_of_ble_eq_true rfl) (by decide) (by decide) (by decide) (by decide) (Or.inl ge17.2) ?_
      refine j_istore_4 (pc := 50) dX10_fewest_50 (by decide) rfl ?_
      refine j_mask [true, false, false, false, true] ?_
      exact jnm_X10_fewest_l52 FU _ _ w16 (by omega) h
    · rw [if_pos c7] at h
      refine j_iconst (pc := 28) dX10_fewest_28 (v := (-1)) (by decide) ?_
      cases h
      exact j_iret (pc := 29) rfl dX10_fewest_29 (by decide) (by decide) rfl
  · rw [if_pos c4] at h
    cases h
def wsX10_shortestRow : List Cond := Cond.code yX10_shortestRow cX10_shortestRow 4 (some .int) :: jW
def m_X10_shortestRow_b50 (self : Nat → Int32 → LWd → Option (Int32 × LWd)) (k23 : Nat → Int32 → Int32 → Int32 → LWd → Option (Int32 × LWd)) (a0 : Nat) (i1 : Int32) (i2 : Int32) (i3 : Int32) (ws : LWd) : Option (Int32 × LWd) :=
  k23 a0 i1 i2 (i3 + 1) ws
set_option maxRecDepth 100000 in
set_option maxHeartbeats 4000000 in
theorem jm_X10_shortestRow_b50 {dd : Nat} {self : Nat → Int32 → LWd → Option (Int32 × LWd)} {n0 : Nat} {rr : Int32} {ws' : LWd} (hself : ∀ (a0 : Nat) (i1 : Int32) (ws : LWd) (rr : Int32) (ws' : LWd), self a0 i1 ws = some (rr, ws') → jSp yX10_shortestRow wsX10_shortestRow (5 + dd - 1) 0 0 [.ref a0, .int i1] ws (.inl (some (.int rr)), ws')) {k23 : Nat → Int32 → Int32 → Int32 → LWd → Option (Int32 × LWd)} (hk23 : ∀ (a0 : Nat) (i1 : Int32) (i2 : Int32) (i3 : Int32) (ws : LWd), k23 a0 i1 i2 i3 ws = some (rr, ws') → JG (.inl false) cX10_shortestRow 4 RX10 wsX10_shortestRow (some .int) "shortestRow" (5 + dd) 0 0 n0 (.inl (some (.int rr)), ws') 23 [some (.ref a0), some (.int i1), some (.int i2), some (.int i3)] [] ws 0 0) (a0 : Nat) (i1 : Int32) (i2 : Int32) (i3 : Int32) (ws : LWd) (h : m_X10_shortestRow_b50 self k23 a0 i1 i2 i3 ws = some (rr, ws')) : JG (.inl false) cX10_shortestRow 4 RX10 wsX10_shortestRow (some .int) "shortestRow" (5 + dd) 0 0 n0 (.inl (some (.int rr)), ws') 50 [some (.ref a0), some (.int i1), some (.int i2), some (.int i3)] [] ws 0 0 := by
  unfold m_X10_shortestRow_b50 at h
  refine j_iinc_3 (pc := 50) dX10_shortestRow_50 (y := i3 + 1) rfl (by decide) rfl ?_
  refine j_goto (pc := 53) (tgt := 23) dX10_shortestRow_53 (by decide) ?_
  exact hk23 _ _ _ _ ws h
def m_X10_shortestRow_l23 (self : Nat → Int32 → LWd → Option (Int32 × LWd)) : Nat → Nat → Int32 → Int32 → Int32 → LWd → Option (Int32 × LWd)
  | 0, _, _, _, _, _ => none
  | fu + 1, a0, i1, i2, i3, ws =>
    if 10 ≤ i3 then
      some (i2, ws)
    else
      bn2 (calSR ws (m_X7_isMade a0 i1 i3 ws)) fun x4 w2 =>
      if x4 = 0 then
        m_X10_shortestRow_b50 self (fun z0 z1 z2 z3 w => m_X10_shortestRow_l23 self fu z0 z1 z2 z3 w) a0 i1 i2 i3 w2
      else
        bn2 (calSR w2 (self a0 (i1 + 1) w2)) fun x8 w6 =>
        m_X10_shortestRow_b50 self (fun z0 z1 z2 z3 w => m_X10_shortestRow_l23 self fu z0 z1 z2 z3 w) a0 i1 (jmin i2 x8) i3 w6
set_option maxRecDepth 100000 in
set_option maxHeartbeats 4000000 in
theorem jm_X10_shortestRow_l23 {dd : Nat} {self : Nat → Int32 → LWd → Option (Int32 × LWd)} {n0 : Nat} {rr : Int32} {ws' : LWd} (hself : ∀ (a0 : Nat) (i1 : Int32) (ws : LWd) (rr : Int32) (ws' : LWd), self a0 i1 ws = some (rr, ws') → jSp yX10_shortestRow wsX10_shortestRow (5 + dd - 1) 0 0 [.ref a0, .int i1] ws (.inl (some (.int rr)), ws')) : ∀ (fu : Nat) (a0 : Nat) (i1 : Int32) (i2 : Int32) (i3 : Int32) (ws : LWd), m_X10_shortestRow_l23 self fu a0 i1 i2 i3 ws = some (rr, ws') → JG (.inl false) cX10_shortestRow 4 RX10 wsX10_shortestRow (some .int) "shortestRow" (5 + dd) 0 0 n0 (.inl (some (.int rr)), ws') 23 [some (.ref a0), some (.int i1), some (.int i2), some (.int i3)] [] ws 0 0 := by
  intro fu
  induction fu with
  | zero => intro a0 i1 i2 i3 ws h; first | (cases h; done) | (rw [m_X10_shortestRow_l23] at h; cases h)
  | succ fu ih =>
    intro a0 i1 i2 i3 ws h
    rw [m_X10_shortestRow_l23] at h
    refine j_iload_n (pc := 23) dX10_shortestRow_23 rfl ?_
    refine j_bipush (pc := 24) dX10_shortestRow_24 (v := 10) (by decide) ?_
    refine j_icmp_ge (pc := 26) (tgt := 56) dX10_shortestRow_26 (by decide) (fun c1 => ?_) (fun c1 => ?_)
    · rw [if_pos c1] at h
      refine j_iload_n (pc := 56) dX10_shortestRow_56 rfl ?_
      obtain ⟨rfl, rfl⟩ := jretS h
      exact j_iret (pc := 57) rfl dX10_shortestRow_57 (by decide) (by decide) rfl
    · rw [if_neg c1] at h
      refine j_aload_n (pc := 29) dX10_shortestRow_29 rfl ?_
      refine j_iload_n (pc := 30) dX10_shortestRow_30 rfl ?_
      refine j_iload_n (pc := 31) dX10_shortestRow_31 rfl ?_
      obtain ⟨x4, w2, e3, h⟩ := obS2 h
      have ge3 := calSR_of e3
      refine j_callV_g (pc := 32) (As := [.int i1, .int i3]) (k' := 0) (n' := 0) dX10_shortestRow_32 (s_X7_isMade ge3.1) (jgV lw_499 lw_500 lw_501 lw_131 lw_498) rfl hv_X7_isMade rfl (r_X7_isMade ge3.1) rfl (by omega) (by omega) (Nat.le_of_ble_eq_true rfl) (by decide) (by decide) (by decide) (by decide) (Or.inl ge3.2) ?_
      refine j_if_eq (pc := 35) (tgt := 50) dX10_shortestRow_35 (by decide) (fun c5 => ?_) (fun c5 => ?_)
      · rw [if_pos c5] at h
        exact jm_X10_shortestRow_b50 (hself := hself) (hk23 := ih) _ _ _ _ w2 h
      · rw [if_neg c5] at h
        refine j_iload_n (pc := 38) dX10_shortestRow_38 rfl ?_
        refine j_aload_n (pc := 39) dX10_shortestRow_39 rfl ?_
        refine j_iload_n (pc := 40) dX10_shortestRow_40 rfl ?_
        refine j_iconst (pc := 41) dX10_shortestRow_41 (v := 1) (by decide) ?_
        refine j_iadd (pc := 42) dX10_shortestRow_42 ?_
        obtain ⟨x8, w6, e7, h⟩ := obS2 h
        have ge7 := calSR_of e7
        refine j_callS_g (pc := 43) (As := [.ref a0, .int (i1 + 1)]) (k' := 0) (n' := 0) dX10_shortestRow_43 (hself _ _ w2 _ _ ge7.1) (jgS lw_514 lw_515 lw_147 lw_513) rfl hy_X10_shortestRow rfl (by omega) (by omega) (Nat.le_of_ble_eq_true rfl) (by decide) (by decide) (by decide) (by decide) (Or.inl ge7.2) ?_
        refine j_mmin (pc := 46) dX10_shortestRow_46 (jwm lw_175) (jwm lw_176) (jwm lw_177) (jwm lw_178) (by omega) (Nat.le_trans (m := 40 * 5) (Nat.le_of_ble_eq_true rfl) (by omega)) (by decide) (by decide) ?_
        refine j_istore_n_2 (pc := 49) dX10_shortestRow_49 (by decide) rfl ?_
        exact jm_X10_shortestRow_b50 (hself := hself) (hk23 := ih) _ _ _ _ w6 h
def m_X10_shortestRow_b13 (self : Nat → Int32 → LWd → Option (Int32 × LWd)) (a0 : Nat) (i1 : Int32) (s0 : Int32) (ws : LWd) : Option (Int32 × LWd) :=
  if i1 < 3 then
    m_X10_shortestRow_l23 self FU a0 i1 s0 0 ws
  else
    some (s0, ws)
set_option maxRecDepth 100000 in
set_option maxHeartbeats 4000000 in
theorem jm_X10_shortestRow_b13 {dd : Nat} {self : Nat → Int32 → LWd → Option (Int32 × LWd)} {n0 : Nat} {rr : Int32} {ws' : LWd} (hself : ∀ (a0 : Nat) (i1 : Int32) (ws : LWd) (rr : Int32) (ws' : LWd), self a0 i1 ws = some (rr, ws') → jSp yX10_shortestRow wsX10_shortestRow (5 + dd - 1) 0 0 [.ref a0, .int i1] ws (.inl (some (.int rr)), ws')) (a0 : Nat) (i1 : Int32) (s0 : Int32) (ws : LWd) (h : m_X10_shortestRow_b13 self a0 i1 s0 ws = some (rr, ws')) : JG (.inl false) cX10_shortestRow 4 RX10 wsX10_shortestRow (some .int) "shortestRow" (5 + dd) 0 0 n0 (.inl (some (.int rr)), ws') 13 [some (.ref a0), some (.int i1), none, none] [.int s0] ws 0 0 := by
  unfold m_X10_shortestRow_b13 at h
  refine j_istore_n_2 (pc := 13) dX10_shortestRow_13 (by decide) rfl ?_
  refine j_iload_n (pc := 14) dX10_shortestRow_14 rfl ?_
  refine j_iconst (pc := 15) dX10_shortestRow_15 (v := 3) (by decide) ?_
  refine j_icmp_lt (pc := 16) (tgt := 21) dX10_shortestRow_16 (by decide) (fun c1 => ?_) (fun c1 => ?_)
  · rw [if_pos c1] at h
    refine j_iconst (pc := 21) dX10_shortestRow_21 (v := 0) (by decide) ?_
    refine j_istore_n_3 (pc := 22) dX10_shortestRow_22 (by decide) rfl ?_
    exact jm_X10_shortestRow_l23 (hself := hself) FU _ _ _ _ ws h
  · rw [if_neg c1] at h
    refine j_iload_n (pc := 19) dX10_shortestRow_19 rfl ?_
    obtain ⟨rfl, rfl⟩ := jretS h
    exact j_iret (pc := 20) rfl dX10_shortestRow_20 (by decide) (by decide) rfl
def m_X10_shortestRow_o (self : Nat → Int32 → LWd → Option (Int32 × LWd)) (a0 : Nat) (i1 : Int32) (ws : LWd) : Option (Int32 × LWd) :=
  bn2 (calSR ws (m_X7_away a0 i1 ws)) fun x3 w1 =>
  if x3 = 0 then
    m_X10_shortestRow_b13 self a0 i1 i1 w1
  else
    m_X10_shortestRow_b13 self a0 i1 4 w1
def m_X10_shortestRow : Nat → Nat → Int32 → LWd → Option (Int32 × LWd)
  | 0, _, _, _ => none
  | dd + 1, a0, i1, ws => m_X10_shortestRow_o (m_X10_shortestRow dd) a0 i1 ws
set_option maxRecDepth 100000 in
set_option maxHeartbeats 4000000 in
theorem s_X10_shortestRow : ∀ (dd : Nat) (a0 : Nat) (i1 : Int32) (ws : LWd) (rr : Int32) (ws' : LWd), m_X10_shortestRow dd a0 i1 ws = some (rr, ws') → jSp yX10_shortestRow wsX10_shortestRow (5 + dd) 0 0 [.ref a0, .int i1] ws (.inl (some (.int rr)), ws') := by
  intro dd
  induction dd with
  | zero => intro a0 i1 ws rr ws' h; cases h
  | succ dd ih =>
    intro a0 i1 ws rr ws' h
    have hself := ih
    rw [m_X10_shortestRow] at h
    generalize m_X10_shortestRow dd = self at h hself
    unfold m_X10_shortestRow_o at h
    refine j_entry (ret := (some .int)) (nm := "shortestRow") (own := RX10) pl_X10 rfl rfl rfl (jcats (by rfl)) (Nat.le_of_ble_eq_true rfl) ?_
    show JG (.inl false) cX10_shortestRow 4 RX10 wsX10_shortestRow (some .int) "shortestRow" (5 + (dd + 1)) 0 0 ws.length (.inl (some (.int rr)), ws') 0 [some (.ref a0), some (.int i1), none, none] [] ws 0 0
    have hself : ∀ (a0 : Nat) (i1 : Int32) (ws : LWd) (rr : Int32) (ws' : LWd), self a0 i1 ws = some (rr, ws') → jSp yX10_shortestRow wsX10_shortestRow (5 + (dd + 1) - 1) 0 0 [.ref a0, .int i1] ws (.inl (some (.int rr)), ws') := hself
    refine j_aload_n (pc := 0) dX10_shortestRow_0 rfl ?_
    refine j_iload_n (pc := 1) dX10_shortestRow_1 rfl ?_
    obtain ⟨x3, w1, e2, h⟩ := obS2 h
    have ge2 := calSR_of e2
    refine j_callV_g (pc := 2) (As := [.int i1]) (k' := 0) (n' := 0) dX10_shortestRow_2 (s_X7_away ge2.1) (jgV lw_506 lw_507 lw_508 lw_131 lw_505) rfl hv_X7_away rfl (r_X7_away ge2.1) rfl (by omega) (by omega) (Nat.le_of_ble_eq_true rfl) (by decide) (by decide) (by decide) (by decide) (Or.inl ge2.2) ?_
    refine j_if_ne (pc := 5) (tgt := 12) dX10_shortestRow_5 (by decide) (fun c4 => ?_) (fun c4 => ?_)
    · rw [if_neg c4] at h
      refine j_iconst (pc := 12) dX10_shortestRow_12 (v := 4) (by decide) ?_
      exact jm_X10_shortestRow_b13 (hself := hself) _ _ _ w1 h
    · rw [if_pos c4] at h
      refine j_iload_n (pc := 8) dX10_shortestRow_8 rfl ?_
      refine j_goto (pc := 9) (tgt := 13) dX10_shortestRow_9 (by decide) ?_
      exact jm_X10_shortestRow_b13 (hself := hself) _ _ _ w1 h
def wsX10_fewestAnew : List Cond := Cond.code yX10_fewestAnew cX10_fewestAnew 5 (some .int) :: jW
def m_X10_fewestAnew (a0 : Nat) (i1 : Int32) (i2 : Int32) (ws : LWd) : Option ((Int32 ⊕ String) × LWd) :=
  (rcv ws a0 10).bind fun _ =>
  bn2 (calSR ws (m_X10_pointAt i1 i2 ws)) fun x3 w1 =>
  if x3 = ((-1)) then
    some (.inr "java/lang/IllegalArgumentException", w1)
  else
    (fI w1 a0 10 9).bind fun x5 =>
    if x5 = 0 then
      some (.inl ((-1)), w1)
    else
      (fR w1 a0 10 8).bind fun x8 =>
      (fR w1 a0 10 2).bind fun x10 =>
      (calSV w1 (m_X7_start x8 x10 x3 w1)).bind fun w12 =>
      (fR w12 a0 10 8).bind fun x14 =>
      bn2 (calSR w12 (m_X10_shortestRow 4 x14 0 w12)) fun x18 w16 =>
      if x18 ≤ 3 then
        some (.inl x18, w16)
      else
        some (.inl ((-1)), w16)
set_option maxRecDepth 100000 in
set_option maxHeartbeats 4000000 in
theorem s_X10_fewestAnew {a0 : Nat} {i1 : Int32} {i2 : Int32} {ws : LWd} {rr : Int32 ⊕ String} {ws' : LWd} (h : m_X10_fewestAnew a0 i1 i2 ws = some (rr, ws')) : jSX yX10_fewestAnew wsX10_fewestAnew 10 1 6 [.ref a0, .int i1, .int i2] ws (jthr rr, ws') := by
  unfold m_X10_fewestAnew at h
  refine j_entryX (ret := (some .int)) (nm := "fewestAnew") (own := RX10) pl_X10 rfl rfl rfl (jcats (by rfl)) (Nat.le_of_ble_eq_true rfl) ?_
  show JG (.inl true) cX10_fewestAnew 5 RX10 wsX10_fewestAnew (some .int) "fewestAnew" 10 1 6 ws.length (jthr rr, ws') 0 [some (.ref a0), some (.int i1), some (.int i2), none, none] [] ws 0 0
  obtain ⟨_, _, h⟩ := obS h
  refine j_iload_n (pc := 0) dX10_fewestAnew_0 rfl ?_
  refine j_iload_n (pc := 1) dX10_fewestAnew_1 rfl ?_
  obtain ⟨x3, w1, e2, h⟩ := obS2 h
  have ge2 := calSR_of e2
  have le2 := ge2.2
  refine j_callS_g (pc := 2) (As := [.int i1, .int i2]) (k' := 0) (n' := 0) dX10_fewestAnew_2 (s_X10_pointAt ge2.1) (jgS lw_145 lw_146 lw_147 lw_144) rfl hy_X10_pointAt rfl (by decide) (by decide) (Nat.le_of_ble_eq_true rfl) (by decide) (by decide) (by decide) (by decide) (Or.inl ge2.2) ?_
  refine j_istore_n_3 (pc := 5) dX10_fewestAnew_5 (by decide) rfl ?_
  refine j_iload_n (pc := 6) dX10_fewestAnew_6 rfl ?_
  refine j_iconst (pc := 7) dX10_fewestAnew_7 (v := (-1)) (by decide) ?_
  refine j_icmp_ne (pc := 8) (tgt := 21) dX10_fewestAnew_8 (by decide) (fun c4 => ?_) (fun c4 => ?_)
  · rw [if_neg c4] at h
    refine j_aload_n (pc := 21) dX10_fewestAnew_21 rfl ?_
    obtain ⟨x5, e6, h⟩ := obS h
    refine j_getI (pc := 22) dX10_fewestAnew_22 (ci := 10) (kf := 9) rfl (jwi hw_X10) (by decide) (jwm lw_136) e6 ?_
    refine j_if_ne (pc := 25) (tgt := 30) dX10_fewestAnew_25 (by decide) (fun c7 => ?_) (fun c7 => ?_)
    · rw [if_neg c7] at h
      refine j_aload_n (pc := 30) dX10_fewestAnew_30 rfl ?_
      obtain ⟨x8, e9, h⟩ := obS h
      refine j_getR (pc := 31) dX10_fewestAnew_31 (ci := 10) (kf := 8) rfl (jwi hw_X10) (by decide) (jwm lw_135) e9 ?_
      refine j_aload_n (pc := 34) dX10_fewestAnew_34 rfl ?_
      obtain ⟨x10, e11, h⟩ := obS h
      refine j_getR (pc := 35) dX10_fewestAnew_35 (ci := 10) (kf := 2) rfl (jwi hw_X10) (by decide) (jwm lw_103) e11 ?_
      refine j_iload_n (pc := 38) dX10_fewestAnew_38 rfl ?_
      obtain ⟨w12, e13, h⟩ := obS h
      have ge13 := calSV_of e13
      have le13 := ge13.2
      refine j_callV_g (pc := 39) (As := [.ref x10, .int x3]) (k' := 0) (n' := 0) dX10_fewestAnew_39 (s_X7_start ge13.1) (jgV lw_510 lw_511 lw_512 lw_131 lw_509) rfl hv_X7_start rfl (r_X7_start ge13.1) rfl (by decide) (by decide) (Nat.le_of_ble_eq_true rfl) (by decide) (by decide) (by decide) (by decide) (Or.inl ge13.2) ?_
      refine j_aload_n (pc := 42) dX10_fewestAnew_42 rfl ?_
      obtain ⟨x14, e15, h⟩ := obS h
      refine j_getR (pc := 43) dX10_fewestAnew_43 (ci := 10) (kf := 8) rfl (jwi hw_X10) (by decide) (jwm lw_135) e15 ?_
      refine j_iconst (pc := 46) dX10_fewestAnew_46 (v := 0) (by decide) ?_
      obtain ⟨x18, w16, e17, h⟩ := obS2 h
      have ge17 := calSR_of e17
      have le17 := ge17.2
      refine j_callS_g (pc := 47) (As := [.ref x14, .int 0]) (k' := 0) (n' := 0) dX10_fewestAnew_47 (s_X10_shortestRow 4 _ _ w12 _ _ ge17.1) (jgS lw_514 lw_515 lw_147 lw_513) rfl hy_X10_shortestRow rfl (by decide) (by decide) (Nat.le_of_ble_eq_true rfl) (by decide) (by decide) (by decide) (by decide) (Or.inl ge17.2) ?_
      refine j_istore_4 (pc := 50) dX10_fewestAnew_50 (by decide) rfl ?_
      refine j_iload (pc := 52) dX10_fewestAnew_52 rfl ?_
      refine j_iconst (pc := 54) dX10_fewestAnew_54 (v := 3) (by decide) ?_
      refine j_icmp_le (pc := 55) (tgt := 62) dX10_fewestAnew_55 (by decide) (fun c19 => ?_) (fun c19 => ?_)
      · rw [if_pos c19] at h
        refine j_iload (pc := 62) dX10_fewestAnew_62 rfl ?_
        obtain ⟨rfl, rfl⟩ := jretS h
        exact j_iret (pc := 64) rfl dX10_fewestAnew_64 (by decide) (by decide) rfl
      · rw [if_neg c19] at h
        refine j_iconst (pc := 58) dX10_fewestAnew_58 (v := (-1)) (by decide) ?_
        refine j_goto (pc := 59) (tgt := 64) dX10_fewestAnew_59 (by decide) ?_
        obtain ⟨rfl, rfl⟩ := jretS h
        exact j_iret (pc := 64) rfl dX10_fewestAnew_64 (by decide) (by decide) rfl
    · rw [if_pos c7] at h
      refine j_iconst (pc := 28) dX10_fewestAnew_28 (v := (-1)) (by decide) ?_
      obtain ⟨rfl, rfl⟩ := jretS h
      exact j_iret (pc := 29) rfl dX10_fewestAnew_29 (by decide) (by decide) rfl
  · rw [if_pos c4] at h
    obtain ⟨rfl, rfl⟩ := jretS h
    exact j_throw (pc := 11) (text := "no such point") rfl rfl dX10_fewestAnew_11 dX10_fewestAnew_14 dX10_fewestAnew_15 dX10_fewestAnew_17 dX10_fewestAnew_20 (List.mem_of_getElem? (i := 11) rfl) (List.mem_of_getElem? (i := 0) rfl) (jfit _ (List.mem_of_getElem? (i := 0) rfl)) (jwm lw_142) (jwm lw_143) (jwi hwx_93) jgo_93 (by decide) (Nat.le_of_ble_eq_true rfl) (by decide) (by decide) (by omega) rfl
theorem r_X10_fewestAnew {a0 : Nat} {i1 : Int32} {i2 : Int32} {ws : LWd} {o : ((Int32 ⊕ String) × LWd)} (h : m_X10_fewestAnew a0 i1 i2 ws = some o) : ∃ fs, ws[a0]? = some (.inr (10, fs)) := rcv_in h
set_option maxRecDepth 100000 in
set_option maxHeartbeats 4000000 in
theorem sn_X10_fewestAnew {a0 : Nat} {i1 : Int32} {i2 : Int32} {ws : LWd} {rr : Int32} {ws' : LWd} (h : m_X10_fewestAnew a0 i1 i2 ws = some (.inl rr, ws')) : jSp yX10_fewestAnew wsX10_fewestAnew 10 0 0 [.ref a0, .int i1, .int i2] ws (.inl (some (.int rr)), ws') := by
  unfold m_X10_fewestAnew at h
  refine j_entry (ret := (some .int)) (nm := "fewestAnew") (own := RX10) pl_X10 rfl rfl rfl (jcats (by rfl)) (Nat.le_of_ble_eq_true rfl) ?_
  show JG (.inl false) cX10_fewestAnew 5 RX10 wsX10_fewestAnew (some .int) "fewestAnew" 10 0 0 ws.length (.inl (some (.int rr)), ws') 0 [some (.ref a0), some (.int i1), some (.int i2), none, none] [] ws 0 0
  obtain ⟨_, _, h⟩ := obS h
  refine j_iload_n (pc := 0) dX10_fewestAnew_0 rfl ?_
  refine j_iload_n (pc := 1) dX10_fewestAnew_1 rfl ?_
  obtain ⟨x3, w1, e2, h⟩ := obS2 h
  have ge2 := calSR_of e2
  have le2 := ge2.2
  refine j_callS_g (pc := 2) (As := [.int i1, .int i2]) (k' := 0) (n' := 0) dX10_fewestAnew_2 (s_X10_pointAt ge2.1) (jgS lw_145 lw_146 lw_147 lw_144) rfl hy_X10_pointAt rfl (by decide) (by decide) (Nat.le_of_ble_eq_true rfl) (by decide) (by decide) (by decide) (by decide) (Or.inl ge2.2) ?_
  refine j_istore_n_3 (pc := 5) dX10_fewestAnew_5 (by decide) rfl ?_
  refine j_iload_n (pc := 6) dX10_fewestAnew_6 rfl ?_
  refine j_iconst (pc := 7) dX10_fewestAnew_7 (v := (-1)) (by decide) ?_
  refine j_icmp_ne (pc := 8) (tgt := 21) dX10_fewestAnew_8 (by decide) (fun c4 => ?_) (fun c4 => ?_)
  · rw [if_neg c4] at h
    refine j_aload_n (pc := 21) dX10_fewestAnew_21 rfl ?_
    obtain ⟨x5, e6, h⟩ := obS h
    refine j_getI (pc := 22) dX10_fewestAnew_22 (ci := 10) (kf := 9) rfl (jwi hw_X10) (by decide) (jwm lw_136) e6 ?_
    refine j_if_ne (pc := 25) (tgt := 30) dX10_fewestAnew_25 (by decide) (fun c7 => ?_) (fun c7 => ?_)
    · rw [if_neg c7] at h
      refine j_aload_n (pc := 30) dX10_fewestAnew_30 rfl ?_
      obtain ⟨x8, e9, h⟩ := obS h
      refine j_getR (pc := 31) dX10_fewestAnew_31 (ci := 10) (kf := 8) rfl (jwi hw_X10) (by decide) (jwm lw_135) e9 ?_
      refine j_aload_n (pc := 34) dX10_fewestAnew_34 rfl ?_
      obtain ⟨x10, e11, h⟩ := obS h
      refine j_getR (pc := 35) dX10_fewestAnew_35 (ci := 10) (kf := 2) rfl (jwi hw_X10) (by decide) (jwm lw_103) e11 ?_
      refine j_iload_n (pc := 38) dX10_fewestAnew_38 rfl ?_
      obtain ⟨w12, e13, h⟩ := obS h
      have ge13 := calSV_of e13
      have le13 := ge13.2
      refine j_callV_g (pc := 39) (As := [.ref x10, .int x3]) (k' := 0) (n' := 0) dX10_fewestAnew_39 (s_X7_start ge13.1) (jgV lw_510 lw_511 lw_512 lw_131 lw_509) rfl hv_X7_start rfl (r_X7_start ge13.1) rfl (by decide) (by decide) (Nat.le_of_ble_eq_true rfl) (by decide) (by decide) (by decide) (by decide) (Or.inl ge13.2) ?_
      refine j_aload_n (pc := 42) dX10_fewestAnew_42 rfl ?_
      obtain ⟨x14, e15, h⟩ := obS h
      refine j_getR (pc := 43) dX10_fewestAnew_43 (ci := 10) (kf := 8) rfl (jwi hw_X10) (by decide) (jwm lw_135) e15 ?_
      refine j_iconst (pc := 46) dX10_fewestAnew_46 (v := 0) (by decide) ?_
      obtain ⟨x18, w16, e17, h⟩ := obS2 h
      have ge17 := calSR_of e17
      have le17 := ge17.2
      refine j_callS_g (pc := 47) (As := [.ref x14, .int 0]) (k' := 0) (n' := 0) dX10_fewestAnew_47 (s_X10_shortestRow 4 _ _ w12 _ _ ge17.1) (jgS lw_514 lw_515 lw_147 lw_513) rfl hy_X10_shortestRow rfl (by decide) (by decide) (Nat.le_of_ble_eq_true rfl) (by decide) (by decide) (by decide) (by decide) (Or.inl ge17.2) ?_
      refine j_istore_4 (pc := 50) dX10_fewestAnew_50 (by decide) rfl ?_
      refine j_iload (pc := 52) dX10_fewestAnew_52 rfl ?_
      refine j_iconst (pc := 54) dX10_fewestAnew_54 (v := 3) (by decide) ?_
      refine j_icmp_le (pc := 55) (tgt := 62) dX10_fewestAnew_55 (by decide) (fun c19 => ?_) (fun c19 => ?_)
      · rw [if_pos c19] at h
        refine j_iload (pc := 62) dX10_fewestAnew_62 rfl ?_
        cases h
        exact j_iret (pc := 64) rfl dX10_fewestAnew_64 (by decide) (by decide) rfl
      · rw [if_neg c19] at h
        refine j_iconst (pc := 58) dX10_fewestAnew_58 (v := (-1)) (by decide) ?_
        refine j_goto (pc := 59) (tgt := 64) dX10_fewestAnew_59 (by decide) ?_
        cases h
        exact j_iret (pc := 64) rfl dX10_fewestAnew_64 (by decide) (by decide) rfl
    · rw [if_pos c7] at h
      refine j_iconst (pc := 28) dX10_fewestAnew_28 (v := (-1)) (by decide) ?_
      cases h
      exact j_iret (pc := 29) rfl dX10_fewestAnew_29 (by decide) (by decide) rfl
  · rw [if_pos c4] at h
    cases h
def wsX1_kept : List Cond := Cond.code yX1_kept cX1_kept 1 (some .int) :: jW
def m_X1_kept (a0 : Nat) (ws : LWd) : Option (Int32 × LWd) :=
  (rcv ws a0 1).bind fun _ =>
  (fI ws a0 1 3).bind fun x1 =>
  some (jmin x1 40, ws)
set_option maxRecDepth 100000 in
set_option maxHeartbeats 4000000 in
theorem s_X1_kept {a0 : Nat} {ws : LWd} {rr : Int32} {ws' : LWd} (h : m_X1_kept a0 ws = some (rr, ws')) : jSp yX1_kept wsX1_kept 1 0 0 [.ref a0] ws (.inl (some (.int rr)), ws') := by
  unfold m_X1_kept at h
  refine j_entry (ret := (some .int)) (nm := "kept") (own := RX1) pl_X1 rfl rfl rfl (jcats (by rfl)) (Nat.le_of_ble_eq_true rfl) ?_
  show JG (.inl false) cX1_kept 1 RX1 wsX1_kept (some .int) "kept" 1 0 0 ws.length (.inl (some (.int rr)), ws') 0 [some (.ref a0)] [] ws 0 0
  obtain ⟨_, _, h⟩ := obS h
  refine j_aload_n (pc := 0) dX1_kept_0 rfl ?_
  obtain ⟨x1, e2, h⟩ := obS h
  refine j_getI (pc := 1) dX1_kept_1 (ci := 1) (kf := 3) rfl (jwi hw_X1) (by decide) (jwm lw_62) e2 ?_
  refine j_bipush (pc := 4) dX1_kept_4 (v := 40) (by decide) ?_
  refine j_mmin (pc := 6) dX1_kept_6 (jwm lw_516) (jwm lw_176) (jwm lw_177) (jwm lw_178) (Nat.le_of_ble_eq_true rfl) (Nat.le_of_ble_eq_true rfl) (by decide) (by decide) ?_
  obtain ⟨rfl, rfl⟩ := jretS h
  exact j_iret (pc := 9) rfl dX1_kept_9 (by decide) (by decide) rfl
theorem r_X1_kept {a0 : Nat} {ws : LWd} {o : (Int32 × LWd)} (h : m_X1_kept a0 ws = some o) : ∃ fs, ws[a0]? = some (.inr (1, fs)) := rcv_in h
def wsX10_fall : List Cond := Cond.code yX10_fall cX10_fall 3 (some .int) :: jW
def m_X10_fall_b15 (ws : LWd) : Option ((Int32 ⊕ String) × LWd) :=
  some (.inr "java/lang/IndexOutOfBoundsException", ws)
set_option maxRecDepth 100000 in
set_option maxHeartbeats 4000000 in
theorem jm_X10_fall_b15 {n0 : Nat} {rr : Int32 ⊕ String} {ws' : LWd} (ws : LWd) (hn0 : ws.length = n0) (h : m_X10_fall_b15 ws = some (rr, ws')) : JG (.inl true) cX10_fall 3 RX10 wsX10_fall (some .int) "fall" 6 1 6 n0 (jthr rr, ws') 15 [none, none, none] [] ws 0 0 := by
  unfold m_X10_fall_b15 at h
  obtain ⟨rfl, rfl⟩ := jretS h
  exact j_throwW (pc := 15) (text := "no such fall") rfl rfl dX10_fall_15 dX10_fall_18 dX10_fall_19 dX10_fall_22 dX10_fall_25 (List.mem_of_getElem? (i := 16) rfl) (List.mem_of_getElem? (i := 2) rfl) (jfit _ (List.mem_of_getElem? (i := 2) rfl)) (jwm lw_189) (jwm lw_190) (jwi hwx_159) jgo_159 (by decide) (Nat.le_of_ble_eq_true rfl) (by decide) (by decide) (by omega) rfl
def m_X10_fall (a0 : Nat) (i1 : Int32) (i2 : Int32) (ws : LWd) : Option ((Int32 ⊕ String) × LWd) :=
  (rcv ws a0 10).bind fun _ =>
  if i1 < 0 then
    m_X10_fall_b15  ws
  else
    (fR ws a0 10 6).bind fun x2 =>
    bn2 (calSR ws (m_X1_kept x2 ws)) fun x6 w4 =>
    if i1 < x6 then
      if i2 = 0 then
        (fR w4 a0 10 6).bind fun x9 =>
        (fR w4 x9 1 0).bind fun x11 =>
        bn2 (calSR w4 (m_X8_at x11 i1 w4)) fun x15 w13 =>
        some (.inl x15, w13)
      else
        if i2 = 1 then
          (fR w4 a0 10 6).bind fun x17 =>
          (fR w4 x17 1 1).bind fun x19 =>
          bn2 (calSR w4 (m_X8_at x19 i1 w4)) fun x23 w21 =>
          some (.inl x23, w21)
        else
          if i2 = 2 then
            (fR w4 a0 10 6).bind fun x25 =>
            (fR w4 x25 1 2).bind fun x27 =>
            bn2 (calSR w4 (m_X8_at x27 i1 w4)) fun x31 w29 =>
            bn2 (calSR w29 (m_X10_xOf x31 w29)) fun x34 w32 =>
            some (.inl x34, w32)
          else
            if i2 = 3 then
              (fR w4 a0 10 6).bind fun x36 =>
              (fR w4 x36 1 2).bind fun x38 =>
              bn2 (calSR w4 (m_X8_at x38 i1 w4)) fun x42 w40 =>
              bn2 (calSR w40 (m_X10_yOf x42 w40)) fun x45 w43 =>
              some (.inl x45, w43)
            else
              some (.inr "java/lang/IllegalArgumentException", w4)
    else
      m_X10_fall_b15  w4
set_option maxRecDepth 100000 in
set_option maxHeartbeats 4000000 in
theorem s_X10_fall {a0 : Nat} {i1 : Int32} {i2 : Int32} {ws : LWd} {rr : Int32 ⊕ String} {ws' : LWd} (h : m_X10_fall a0 i1 i2 ws = some (rr, ws')) : jSX yX10_fall wsX10_fall 6 1 6 [.ref a0, .int i1, .int i2] ws (jthr rr, ws') := by
  unfold m_X10_fall at h
  refine j_entryX (ret := (some .int)) (nm := "fall") (own := RX10) pl_X10 rfl rfl rfl (jcats (by rfl)) (Nat.le_of_ble_eq_true rfl) ?_
  show JG (.inl true) cX10_fall 3 RX10 wsX10_fall (some .int) "fall" 6 1 6 ws.length (jthr rr, ws') 0 [some (.ref a0), some (.int i1), some (.int i2)] [] ws 0 0
  obtain ⟨_, _, h⟩ := obS h
  refine j_iload_n (pc := 0) dX10_fall_0 rfl ?_
  refine j_if_lt (pc := 1) (tgt := 15) dX10_fall_1 (by decide) (fun c1 => ?_) (fun c1 => ?_)
  · rw [if_pos c1] at h
    refine j_mask [false, false, false] ?_
    exact jm_X10_fall_b15 ws (by omega) h
  · rw [if_neg c1] at h
    refine j_iload_n (pc := 4) dX10_fall_4 rfl ?_
    refine j_aload_n (pc := 5) dX10_fall_5 rfl ?_
    obtain ⟨x2, e3, h⟩ := obS h
    refine j_getR (pc := 6) dX10_fall_6 (ci := 10) (kf := 6) rfl (jwi hw_X10) (by decide) (jwm lw_122) e3 ?_
    obtain ⟨x6, w4, e5, h⟩ := obS2 h
    have ge5 := calSR_of e5
    have le5 := ge5.2
    refine j_callV_g (pc := 9) (As := []) (k' := 0) (n' := 0) dX10_fall_9 (s_X1_kept ge5.1) (jgV lw_518 lw_519 lw_520 lw_119 lw_517) rfl hv_X1_kept rfl (r_X1_kept ge5.1) rfl (by decide) (by decide) (Nat.le_of_ble_eq_true rfl) (by decide) (by decide) (by decide) (by decide) (Or.inl ge5.2) ?_
    refine j_icmp_lt (pc := 12) (tgt := 26) dX10_fall_12 (by decide) (fun c7 => ?_) (fun c7 => ?_)
    · rw [if_pos c7] at h
      refine j_iload_n (pc := 26) dX10_fall_26 rfl ?_
      by_cases c8 : i2 = 0
      · rw [if_pos c8] at h
        refine j_tabEq (pc := 27) (tgt := 56) (a := 0) dX10_fall_27 c8 rfl (by decide) (by decide) rfl (by decide) ?_
        refine j_aload_n (pc := 56) dX10_fall_56 rfl ?_
        obtain ⟨x9, e10, h⟩ := obS h
        refine j_getR (pc := 57) dX10_fall_57 (ci := 10) (kf := 6) rfl (jwi hw_X10) (by decide) (jwm lw_122) e10 ?_
        obtain ⟨x11, e12, h⟩ := obS h
        refine j_getR (pc := 60) dX10_fall_60 (ci := 1) (kf := 0) rfl (jwi hw_X1) (by decide) (jwm lw_521) e12 ?_
        refine j_iload_n (pc := 63) dX10_fall_63 rfl ?_
        obtain ⟨x15, w13, e14, h⟩ := obS2 h
        have ge14 := calSR_of e14
        have le14 := ge14.2
        refine j_callV_g (pc := 64) (As := [.int i1]) (k' := 0) (n' := 0) dX10_fall_64 (s_X8_at ge14.1) (jgV lw_156 lw_140 lw_141 lw_12 lw_138) rfl hv_X8_at rfl (r_X8_at ge14.1) rfl (by decide) (by decide) (Nat.le_of_ble_eq_true rfl) (by decide) (by decide) (by decide) (by decide) (Or.inl ge14.2) ?_
        obtain ⟨rfl, rfl⟩ := jretS h
        exact j_iret (pc := 67) rfl dX10_fall_67 (by decide) (by decide) rfl
      · rw [if_neg c8] at h
        by_cases c16 : i2 = 1
        · rw [if_pos c16] at h
          refine j_tabEq (pc := 27) (tgt := 68) (a := 1) dX10_fall_27 c16 rfl (by decide) (by decide) rfl (by decide) ?_
          refine j_aload_n (pc := 68) dX10_fall_68 rfl ?_
          obtain ⟨x17, e18, h⟩ := obS h
          refine j_getR (pc := 69) dX10_fall_69 (ci := 10) (kf := 6) rfl (jwi hw_X10) (by decide) (jwm lw_122) e18 ?_
          obtain ⟨x19, e20, h⟩ := obS h
          refine j_getR (pc := 72) dX10_fall_72 (ci := 1) (kf := 1) rfl (jwi hw_X1) (by decide) (jwm lw_522) e20 ?_
          refine j_iload_n (pc := 75) dX10_fall_75 rfl ?_
          obtain ⟨x23, w21, e22, h⟩ := obS2 h
          have ge22 := calSR_of e22
          have le22 := ge22.2
          refine j_callV_g (pc := 76) (As := [.int i1]) (k' := 0) (n' := 0) dX10_fall_76 (s_X8_at ge22.1) (jgV lw_156 lw_140 lw_141 lw_12 lw_138) rfl hv_X8_at rfl (r_X8_at ge22.1) rfl (by decide) (by decide) (Nat.le_of_ble_eq_true rfl) (by decide) (by decide) (by decide) (by decide) (Or.inl ge22.2) ?_
          obtain ⟨rfl, rfl⟩ := jretS h
          exact j_iret (pc := 79) rfl dX10_fall_79 (by decide) (by decide) rfl
        · rw [if_neg c16] at h
          by_cases c24 : i2 = 2
          · rw [if_pos c24] at h
            refine j_tabEq (pc := 27) (tgt := 80) (a := 2) dX10_fall_27 c24 rfl (by decide) (by decide) rfl (by decide) ?_
            refine j_aload_n (pc := 80) dX10_fall_80 rfl ?_
            obtain ⟨x25, e26, h⟩ := obS h
            refine j_getR (pc := 81) dX10_fall_81 (ci := 10) (kf := 6) rfl (jwi hw_X10) (by decide) (jwm lw_122) e26 ?_
            obtain ⟨x27, e28, h⟩ := obS h
            refine j_getR (pc := 84) dX10_fall_84 (ci := 1) (kf := 2) rfl (jwi hw_X1) (by decide) (jwm lw_523) e28 ?_
            refine j_iload_n (pc := 87) dX10_fall_87 rfl ?_
            obtain ⟨x31, w29, e30, h⟩ := obS2 h
            have ge30 := calSR_of e30
            have le30 := ge30.2
            refine j_callV_g (pc := 88) (As := [.int i1]) (k' := 0) (n' := 0) dX10_fall_88 (s_X8_at ge30.1) (jgV lw_156 lw_140 lw_141 lw_12 lw_138) rfl hv_X8_at rfl (r_X8_at ge30.1) rfl (by decide) (by decide) (Nat.le_of_ble_eq_true rfl) (by decide) (by decide) (by decide) (by decide) (Or.inl ge30.2) ?_
            obtain ⟨x34, w32, e33, h⟩ := obS2 h
            have ge33 := calSR_of e33
            have le33 := ge33.2
            refine j_callS_g (pc := 91) (As := [.int x31]) (k' := 0) (n' := 0) dX10_fall_91 (s_X10_xOf ge33.1) (jgS lw_414 lw_280 lw_147 lw_279) rfl hy_X10_xOf rfl (by decide) (by decide) (Nat.le_of_ble_eq_true rfl) (by decide) (by decide) (by decide) (by decide) (Or.inl ge33.2) ?_
            obtain ⟨rfl, rfl⟩ := jretS h
            exact j_iret (pc := 94) rfl dX10_fall_94 (by decide) (by decide) rfl
          · rw [if_neg c24] at h
            by_cases c35 : i2 = 3
            · rw [if_pos c35] at h
              refine j_tabEq (pc := 27) (tgt := 95) (a := 3) dX10_fall_27 c35 rfl (by decide) (by decide) rfl (by decide) ?_
              refine j_aload_n (pc := 95) dX10_fall_95 rfl ?_
              obtain ⟨x36, e37, h⟩ := obS h
              refine j_getR (pc := 96) dX10_fall_96 (ci := 10) (kf := 6) rfl (jwi hw_X10) (by decide) (jwm lw_122) e37 ?_
              obtain ⟨x38, e39, h⟩ := obS h
              refine j_getR (pc := 99) dX10_fall_99 (ci := 1) (kf := 2) rfl (jwi hw_X1) (by decide) (jwm lw_523) e39 ?_
              refine j_iload_n (pc := 102) dX10_fall_102 rfl ?_
              obtain ⟨x42, w40, e41, h⟩ := obS2 h
              have ge41 := calSR_of e41
              have le41 := ge41.2
              refine j_callV_g (pc := 103) (As := [.int i1]) (k' := 0) (n' := 0) dX10_fall_103 (s_X8_at ge41.1) (jgV lw_156 lw_140 lw_141 lw_12 lw_138) rfl hv_X8_at rfl (r_X8_at ge41.1) rfl (by decide) (by decide) (Nat.le_of_ble_eq_true rfl) (by decide) (by decide) (by decide) (by decide) (Or.inl ge41.2) ?_
              obtain ⟨x45, w43, e44, h⟩ := obS2 h
              have ge44 := calSR_of e44
              have le44 := ge44.2
              refine j_callS_g (pc := 106) (As := [.int x42]) (k' := 0) (n' := 0) dX10_fall_106 (s_X10_yOf ge44.1) (jgS lw_416 lw_282 lw_147 lw_281) rfl hy_X10_yOf rfl (by decide) (by decide) (Nat.le_of_ble_eq_true rfl) (by decide) (by decide) (by decide) (by decide) (Or.inl ge44.2) ?_
              obtain ⟨rfl, rfl⟩ := jretS h
              exact j_iret (pc := 109) rfl dX10_fall_109 (by decide) (by decide) rfl
            · rw [if_neg c35] at h
              refine j_tabOut (pc := 27) (tgt := 110) dX10_fall_27 (jout4 c8 c16 c24 c35) (by decide) ?_
              obtain ⟨rfl, rfl⟩ := jretS h
              exact j_throw (pc := 110) (text := "no such thing to tell") rfl rfl dX10_fall_110 dX10_fall_113 dX10_fall_114 dX10_fall_116 dX10_fall_119 (List.mem_of_getElem? (i := 14) rfl) (List.mem_of_getElem? (i := 0) rfl) (jfit _ (List.mem_of_getElem? (i := 0) rfl)) (jwm lw_142) (jwm lw_143) (jwi hwx_93) jgo_93 (by decide) (Nat.le_of_ble_eq_true rfl) (by decide) (by decide) (by omega) rfl
    · rw [if_neg c7] at h
      refine j_mask [false, false, false] ?_
      exact jm_X10_fall_b15 w4 (by omega) h
theorem r_X10_fall {a0 : Nat} {i1 : Int32} {i2 : Int32} {ws : LWd} {o : ((Int32 ⊕ String) × LWd)} (h : m_X10_fall a0 i1 i2 ws = some o) : ∃ fs, ws[a0]? = some (.inr (10, fs)) := rcv_in h
set_option maxRecDepth 100000 in
set_option maxHeartbeats 4000000 in
theorem jnm_X10_fall_b15 {n0 : Nat} {rr : Int32} {ws' : LWd} (ws : LWd) (hn0 : ws.length = n0) (h : m_X10_fall_b15 ws = some (.inl rr, ws')) : JG (.inl false) cX10_fall 3 RX10 wsX10_fall (some .int) "fall" 6 0 0 n0 (.inl (some (.int rr)), ws') 15 [none, none, none] [] ws 0 0 := by
  unfold m_X10_fall_b15 at h
  cases h
set_option maxRecDepth 100000 in
set_option maxHeartbeats 4000000 in
theorem sn_X10_fall {a0 : Nat} {i1 : Int32} {i2 : Int32} {ws : LWd} {rr : Int32} {ws' : LWd} (h : m_X10_fall a0 i1 i2 ws = some (.inl rr, ws')) : jSp yX10_fall wsX10_fall 6 0 0 [.ref a0, .int i1, .int i2] ws (.inl (some (.int rr)), ws') := by
  unfold m_X10_fall at h
  refine j_entry (ret := (some .int)) (nm := "fall") (own := RX10) pl_X10 rfl rfl rfl (jcats (by rfl)) (Nat.le_of_ble_eq_true rfl) ?_
  show JG (.inl false) cX10_fall 3 RX10 wsX10_fall (some .int) "fall" 6 0 0 ws.length (.inl (some (.int rr)), ws') 0 [some (.ref a0), some (.int i1), some (.int i2)] [] ws 0 0
  obtain ⟨_, _, h⟩ := obS h
  refine j_iload_n (pc := 0) dX10_fall_0 rfl ?_
  refine j_if_lt (pc := 1) (tgt := 15) dX10_fall_1 (by decide) (fun c1 => ?_) (fun c1 => ?_)
  · rw [if_pos c1] at h
    refine j_mask [false, false, false] ?_
    exact jnm_X10_fall_b15 ws (by omega) h
  · rw [if_neg c1] at h
    refine j_iload_n (pc := 4) dX10_fall_4 rfl ?_
    refine j_aload_n (pc := 5) dX10_fall_5 rfl ?_
    obtain ⟨x2, e3, h⟩ := obS h
    refine j_getR (pc := 6) dX10_fall_6 (ci := 10) (kf := 6) rfl (jwi hw_X10) (by decide) (jwm lw_122) e3 ?_
    obtain ⟨x6, w4, e5, h⟩ := obS2 h
    have ge5 := calSR_of e5
    have le5 := ge5.2
    refine j_callV_g (pc := 9) (As := []) (k' := 0) (n' := 0) dX10_fall_9 (s_X1_kept ge5.1) (jgV lw_518 lw_519 lw_520 lw_119 lw_517) rfl hv_X1_kept rfl (r_X1_kept ge5.1) rfl (by decide) (by decide) (Nat.le_of_ble_eq_true rfl) (by decide) (by decide) (by decide) (by decide) (Or.inl ge5.2) ?_
    refine j_icmp_lt (pc := 12) (tgt := 26) dX10_fall_12 (by decide) (fun c7 => ?_) (fun c7 => ?_)
    · rw [if_pos c7] at h
      refine j_iload_n (pc := 26) dX10_fall_26 rfl ?_
      by_cases c8 : i2 = 0
      · rw [if_pos c8] at h
        refine j_tabEq (pc := 27) (tgt := 56) (a := 0) dX10_fall_27 c8 rfl (by decide) (by decide) rfl (by decide) ?_
        refine j_aload_n (pc := 56) dX10_fall_56 rfl ?_
        obtain ⟨x9, e10, h⟩ := obS h
        refine j_getR (pc := 57) dX10_fall_57 (ci := 10) (kf := 6) rfl (jwi hw_X10) (by decide) (jwm lw_122) e10 ?_
        obtain ⟨x11, e12, h⟩ := obS h
        refine j_getR (pc := 60) dX10_fall_60 (ci := 1) (kf := 0) rfl (jwi hw_X1) (by decide) (jwm lw_521) e12 ?_
        refine j_iload_n (pc := 63) dX10_fall_63 rfl ?_
        obtain ⟨x15, w13, e14, h⟩ := obS2 h
        have ge14 := calSR_of e14
        have le14 := ge14.2
        refine j_callV_g (pc := 64) (As := [.int i1]) (k' := 0) (n' := 0) dX10_fall_64 (s_X8_at ge14.1) (jgV lw_156 lw_140 lw_141 lw_12 lw_138) rfl hv_X8_at rfl (r_X8_at ge14.1) rfl (by decide) (by decide) (Nat.le_of_ble_eq_true rfl) (by decide) (by decide) (by decide) (by decide) (Or.inl ge14.2) ?_
        cases h
        exact j_iret (pc := 67) rfl dX10_fall_67 (by decide) (by decide) rfl
      · rw [if_neg c8] at h
        by_cases c16 : i2 = 1
        · rw [if_pos c16] at h
          refine j_tabEq (pc := 27) (tgt := 68) (a := 1) dX10_fall_27 c16 rfl (by decide) (by decide) rfl (by decide) ?_
          refine j_aload_n (pc := 68) dX10_fall_68 rfl ?_
          obtain ⟨x17, e18, h⟩ := obS h
          refine j_getR (pc := 69) dX10_fall_69 (ci := 10) (kf := 6) rfl (jwi hw_X10) (by decide) (jwm lw_122) e18 ?_
          obtain ⟨x19, e20, h⟩ := obS h
          refine j_getR (pc := 72) dX10_fall_72 (ci := 1) (kf := 1) rfl (jwi hw_X1) (by decide) (jwm lw_522) e20 ?_
          refine j_iload_n (pc := 75) dX10_fall_75 rfl ?_
          obtain ⟨x23, w21, e22, h⟩ := obS2 h
          have ge22 := calSR_of e22
          have le22 := ge22.2
          refine j_callV_g (pc := 76) (As := [.int i1]) (k' := 0) (n' := 0) dX10_fall_76 (s_X8_at ge22.1) (jgV lw_156 lw_140 lw_141 lw_12 lw_138) rfl hv_X8_at rfl (r_X8_at ge22.1) rfl (by decide) (by decide) (Nat.le_of_ble_eq_true rfl) (by decide) (by decide) (by decide) (by decide) (Or.inl ge22.2) ?_
          cases h
          exact j_iret (pc := 79) rfl dX10_fall_79 (by decide) (by decide) rfl
        · rw [if_neg c16] at h
          by_cases c24 : i2 = 2
          · rw [if_pos c24] at h
            refine j_tabEq (pc := 27) (tgt := 80) (a := 2) dX10_fall_27 c24 rfl (by decide) (by decide) rfl (by decide) ?_
            refine j_aload_n (pc := 80) dX10_fall_80 rfl ?_
            obtain ⟨x25, e26, h⟩ := obS h
            refine j_getR (pc := 81) dX10_fall_81 (ci := 10) (kf := 6) rfl (jwi hw_X10) (by decide) (jwm lw_122) e26 ?_
            obtain ⟨x27, e28, h⟩ := obS h
            refine j_getR (pc := 84) dX10_fall_84 (ci := 1) (kf := 2) rfl (jwi hw_X1) (by decide) (jwm lw_523) e28 ?_
            refine j_iload_n (pc := 87) dX10_fall_87 rfl ?_
            obtain ⟨x31, w29, e30, h⟩ := obS2 h
            have ge30 := calSR_of e30
            have le30 := ge30.2
            refine j_callV_g (pc := 88) (As := [.int i1]) (k' := 0) (n' := 0) dX10_fall_88 (s_X8_at ge30.1) (jgV lw_156 lw_140 lw_141 lw_12 lw_138) rfl hv_X8_at rfl (r_X8_at ge30.1) rfl (by decide) (by decide) (Nat.le_of_ble_eq_true rfl) (by decide) (by decide) (by decide) (by decide) (Or.inl ge30.2) ?_
            obtain ⟨x34, w32, e33, h⟩ := obS2 h
            have ge33 := calSR_of e33
            have le33 := ge33.2
            refine j_callS_g (pc := 91) (As := [.int x31]) (k' := 0) (n' := 0) dX10_fall_91 (s_X10_xOf ge33.1) (jgS lw_414 lw_280 lw_147 lw_279) rfl hy_X10_xOf rfl (by decide) (by decide) (Nat.le_of_ble_eq_true rfl) (by decide) (by decide) (by decide) (by decide) (Or.inl ge33.2) ?_
            cases h
            exact j_iret (pc := 94) rfl dX10_fall_94 (by decide) (by decide) rfl
          · rw [if_neg c24] at h
            by_cases c35 : i2 = 3
            · rw [if_pos c35] at h
              refine j_tabEq (pc := 27) (tgt := 95) (a := 3) dX10_fall_27 c35 rfl (by decide) (by decide) rfl (by decide) ?_
              refine j_aload_n (pc := 95) dX10_fall_95 rfl ?_
              obtain ⟨x36, e37, h⟩ := obS h
              refine j_getR (pc := 96) dX10_fall_96 (ci := 10) (kf := 6) rfl (jwi hw_X10) (by decide) (jwm lw_122) e37 ?_
              obtain ⟨x38, e39, h⟩ := obS h
              refine j_getR (pc := 99) dX10_fall_99 (ci := 1) (kf := 2) rfl (jwi hw_X1) (by decide) (jwm lw_523) e39 ?_
              refine j_iload_n (pc := 102) dX10_fall_102 rfl ?_
              obtain ⟨x42, w40, e41, h⟩ := obS2 h
              have ge41 := calSR_of e41
              have le41 := ge41.2
              refine j_callV_g (pc := 103) (As := [.int i1]) (k' := 0) (n' := 0) dX10_fall_103 (s_X8_at ge41.1) (jgV lw_156 lw_140 lw_141 lw_12 lw_138) rfl hv_X8_at rfl (r_X8_at ge41.1) rfl (by decide) (by decide) (Nat.le_of_ble_eq_true rfl) (by decide) (by decide) (by decide) (by decide) (Or.inl ge41.2) ?_
              obtain ⟨x45, w43, e44, h⟩ := obS2 h
              have ge44 := calSR_of e44
              have le44 := ge44.2
              refine j_callS_g (pc := 106) (As := [.int x42]) (k' := 0) (n' := 0) dX10_fall_106 (s_X10_yOf ge44.1) (jgS lw_416 lw_282 lw_147 lw_281) rfl hy_X10_yOf rfl (by decide) (by decide) (Nat.le_of_ble_eq_true rfl) (by decide) (by decide) (by decide) (by decide) (Or.inl ge44.2) ?_
              cases h
              exact j_iret (pc := 109) rfl dX10_fall_109 (by decide) (by decide) rfl
            · rw [if_neg c35] at h
              refine j_tabOut (pc := 27) (tgt := 110) dX10_fall_27 (jout4 c8 c16 c24 c35) (by decide) ?_
              cases h
    · rw [if_neg c7] at h
      refine j_mask [false, false, false] ?_
      exact jnm_X10_fall_b15 w4 (by omega) h
def wsL_part : List Cond := Cond.code yL_part cL_part 4 (some .int) :: jW
def prV (L : Nat) (xs : Nat → Int32) (k : Int32) : Option Int32 := if Int32.ofNat L ≤ k then some (1061 * k + 947 * k * k) else if k < 0 ∨ L ≤ k.toNatClampNeg then none else some (xs k.toNatClampNeg)
def m_L_part (L : Nat) (xs : Nat → Int32) (i1 i2 : Int32) (ws : LWd) : Option (Int32 × LWd) := (prV L xs i1).bind fun v => if i2 = 0 then none else some (jrem (v &&& 2147483647) i2, ws)
set_option maxRecDepth 100000 in
set_option maxHeartbeats 4000000 in
theorem jm_L_part_b25 {bb L : Nat} {xs : Nat → Int32} {i1 i2 v rr : Int32} {ws ws' : LWd} (h : (if i2 = 0 then none else some (jrem (v &&& 2147483647) i2, ws)) = some (rr, ws')) : JG (.inr (some (bb, L, xs))) cL_part 4 RL wsL_part (some .int) "part" 0 0 0 ws.length (.inl (some (.int rr)), ws') 25 [some (.ref 1000000), some (.int i1), some (.int i2), none] [.int v] ws 0 0 := by
  refine j_istore_n_3 (pc := 25) dL_part_25 (by decide) rfl ?_
  refine j_iload_n (pc := 26) dL_part_26 rfl ?_
  refine j_ldc (pc := 27) dL_part_27 (v := 2147483647) (jwm lw_524) ?_
  refine j_iand (pc := 29) dL_part_29 ?_
  refine j_iload_n (pc := 30) dL_part_30 rfl ?_
  have c := jneS h
  rw [if_neg c] at h
  refine j_irem (pc := 31) dL_part_31 c ?_
  obtain ⟨rfl, rfl⟩ := jretS h
  exact j_iret (pc := 32) rfl dL_part_32 (by decide) (by decide) rfl
set_option maxRecDepth 100000 in
set_option maxHeartbeats 4000000 in
theorem s_L_part {bb L : Nat} {xs : Nat → Int32} {i1 i2 rr : Int32} {ws ws' : LWd} (h : m_L_part L xs i1 i2 ws = some (rr, ws')) : jSW (some (bb, L, xs)) yL_part wsL_part 0 0 0 [.ref 1000000, .int i1, .int i2] ws (.inl (some (.int rr)), ws') := by
  unfold m_L_part prV at h
  refine j_entryW (ret := (some .int)) (nm := "part") (own := RL) pl_L rfl rfl rfl (jcats (by rfl)) (Nat.le_of_ble_eq_true rfl) ?_
  show JG (.inr (some (bb, L, xs))) cL_part 4 RL wsL_part (some .int) "part" 0 0 0 ws.length (.inl (some (.int rr)), ws') 0 [some (.ref 1000000), some (.int i1), some (.int i2), none] [] ws 0 0
  refine j_iload_n (pc := 0) dL_part_0 rfl ?_
  refine j_aload_n (pc := 1) dL_part_1 rfl ?_
  refine j_slen (pc := 2) rfl dL_part_2 ?_
  refine j_icmp_ge (pc := 3) (tgt := 12) dL_part_3 (by decide) (fun c => ?_) (fun c => ?_)
  · rw [if_pos c, Option.bind_some] at h
    refine j_sipush (pc := 12) dL_part_12 (v := 1061) (by decide) ?_
    refine j_iload_n (pc := 15) dL_part_15 rfl ?_
    refine j_imul (pc := 16) dL_part_16 ?_
    refine j_sipush (pc := 17) dL_part_17 (v := 947) (by decide) ?_
    refine j_iload_n (pc := 20) dL_part_20 rfl ?_
    refine j_imul (pc := 21) dL_part_21 ?_
    refine j_iload_n (pc := 22) dL_part_22 rfl ?_
    refine j_imul (pc := 23) dL_part_23 ?_
    refine j_iadd (pc := 24) dL_part_24 ?_
    exact jm_L_part_b25 h
  · rw [if_neg c] at h
    obtain ⟨v, e1, h⟩ := obS h
    split at e1
    · cases e1
    · rename_i hi
      cases e1
      refine j_aload_n (pc := 6) dL_part_6 rfl ?_
      refine j_iload_n (pc := 7) dL_part_7 rfl ?_
      refine j_sld (pc := 8) rfl dL_part_8 hi ?_
      refine j_goto (pc := 9) (tgt := 25) dL_part_9 (by decide) ?_
      exact jm_L_part_b25 h
def wrD (ws : LWd) (x : Option ((Int32 ⊕ String) × LWd)) : Option (Int32 × LWd) := bn2 x fun r w => if w.length = ws.length then (match r with
  | .inl v => some (v, w)
  | .inr E => if E = nIOB then some (-3000000, w) else if E = nIAE then some (-2000000, w) else if E = nISE then some (-1000000, w) else none) else none
def wsL_does : List Cond := Cond.codeWith yL_does cL_does 8 (some .int) [(0, 225, 226, 60), (0, 225, 231, 63), (0, 225, 236, 66)] :: jW
def m_L_does (a0 : Nat) (i1 i2 i3 i4 i5 i6 : Int32) (ws : LWd) : Option (Int32 × LWd) :=
  if i1 = 0 then wrD ws (m_X10_ground a0 i2 i3 i4 i5 i6 ws) else
  if i1 = 1 then wrD ws (m_X10_chart a0 i2 i3 i4 ws) else
  if i1 = 2 then wrD ws (m_X10_leg a0 i2 i3 i4 ws) else
  if i1 = 3 then wrD ws (m_X10_charge a0 i2 ws) else
  if i1 = 4 then wrD ws (m_X10_phase a0 i2 i3 i4 i5 i6 ws) else
  if i1 = 5 then wrD ws (m_X10_load a0 i2 i3 i4 ws) else
  if i1 = 6 then wrD ws (m_X10_rise a0  ws) else
  if i1 = 7 then wrD ws (m_X10_lift a0 i2 ws) else
  if i1 = 8 then wrD ws (m_X10_place a0 i2 i3 i4 ws) else
  if i1 = 9 then wrD ws (m_X10_shift a0 i2 i3 ws) else
  if i1 = 10 then wrD ws (m_X10_walk a0 i2 ws) else
  if i1 = 11 then wrD ws (m_X10_corner a0 i2 ws) else
  if i1 = 12 then wrD ws (m_X10_fall a0 i2 i3 ws) else
  if i1 = 13 then wrD ws (m_X10_point a0 i2 i3 i4 ws) else
  wrD ws (m_X10_foot a0 i2 i3 ws)
theorem jp_IAE_ISE : (nIAE, "java/lang/IllegalStateException") ∈ jpr := by decide +kernel
theorem jp_IAE_IOB : (nIAE, "java/lang/IndexOutOfBoundsException") ∈ jpr := by decide +kernel
theorem jp_ISE_IAE : (nISE, "java/lang/IllegalArgumentException") ∈ jpr := by decide +kernel
theorem jp_ISE_IOB : (nISE, "java/lang/IndexOutOfBoundsException") ∈ jpr := by decide +kernel
theorem jp_IOB_IAE : (nIOB, "java/lang/IllegalArgumentException") ∈ jpr := by decide +kernel
theorem jp_IOB_ISE : (nIOB, "java/lang/IllegalStateException") ∈ jpr := by decide +kernel
theorem e_IAE : nIAE ∈ [nIAE, nISE, nIOB] := by decide
theorem e_ISE : nISE ∈ [nIAE, nISE, nIOB] := by decide
theorem e_IOB : nIOB ∈ [nIAE, nISE, nIOB] := by decide
theorem jd_cov {pc : Nat} {h c : Nat} (hc : pc < 225) : covers (jEnt (0, 225, h, c)) pc = true := by
  unfold covers jEnt
  simp [hc]
set_option maxRecDepth 100000 in
set_option maxHeartbeats 4000000 in
theorem jd_x {n0 : Nat} {a0 : Nat} {i1 i2 i3 i4 i5 i6 v : Int32} {w ws' : LWd} {E : String} {pc : Nat} (hc : pc < 225) (h : (if E = nIOB then some ((-3000000 : Int32), w) else if E = nIAE then some (-2000000, w) else if E = nISE then some (-1000000, w) else none) = some (v, ws')) : ∃ hpc, jTk [(0, 225, 226, 60), (0, 225, 231, 63), (0, 225, 236, 66)] RL wsL_does pc E hpc ∧ JR cL_does 8 RL wsL_does (some .int) "does" 7 1 6 n0 (.inl (some (.int v)), ws') hpc [some (.ref a0), some (.int i1), some (.int i2), some (.int i3), some (.int i4), some (.int i5), some (.int i6), none] w 1 6 := by
  by_cases c0 : E = nIOB
  · rw [if_pos c0] at h
    cases h
    subst c0
    refine ⟨226, ⟨[], (0, 225, 226, 60), [(0, 225, 231, 63), (0, 225, 236, 66)], rfl, fun z hz => absurd hz List.not_mem_nil, jd_cov hc, by decide, (jwm lw_525), e_IOB, rfl⟩, ?_⟩
    refine jr_astore (pc := 226) [some (.ref a0), some (.int i1), some (.int i2), some (.int i3), some (.int i4), some (.int i5), some (.int i6)] dL_does_226 rfl (Nat.le_of_ble_eq_true rfl) rfl ?_
    refine j_ldc (pc := 228) dL_does_228 (v := (-3000000)) (jwm lw_526) ?_
    exact j_iret (pc := 230) rfl dL_does_230 (by decide) (by decide) rfl
  rw [if_neg c0] at h
  by_cases c1 : E = nIAE
  · rw [if_pos c1] at h
    cases h
    subst c1
    refine ⟨231, ⟨[(0, 225, 226, 60)], (0, 225, 231, 63), [(0, 225, 236, 66)], rfl, List.forall_mem_cons.mpr ⟨⟨by decide, _, (jwm lw_525), jp_IAE_IOB⟩, fun z hz => absurd hz List.not_mem_nil⟩, jd_cov hc, by decide, (jwm lw_527), e_IAE, rfl⟩, ?_⟩
    refine jr_astore (pc := 231) [some (.ref a0), some (.int i1), some (.int i2), some (.int i3), some (.int i4), some (.int i5), some (.int i6)] dL_does_231 rfl (Nat.le_of_ble_eq_true rfl) rfl ?_
    refine j_ldc (pc := 233) dL_does_233 (v := (-2000000)) (jwm lw_528) ?_
    exact j_iret (pc := 235) rfl dL_does_235 (by decide) (by decide) rfl
  rw [if_neg c1] at h
  by_cases c2 : E = nISE
  · rw [if_pos c2] at h
    cases h
    subst c2
    refine ⟨236, ⟨[(0, 225, 226, 60), (0, 225, 231, 63)], (0, 225, 236, 66), [], rfl, List.forall_mem_cons.mpr ⟨⟨by decide, _, (jwm lw_525), jp_ISE_IOB⟩, List.forall_mem_cons.mpr ⟨⟨by decide, _, (jwm lw_527), jp_ISE_IAE⟩, fun z hz => absurd hz List.not_mem_nil⟩⟩, jd_cov hc, by decide, (jwm lw_529), e_ISE, rfl⟩, ?_⟩
    refine jr_astore (pc := 236) [some (.ref a0), some (.int i1), some (.int i2), some (.int i3), some (.int i4), some (.int i5), some (.int i6)] dL_does_236 rfl (Nat.le_of_ble_eq_true rfl) rfl ?_
    refine j_ldc (pc := 238) dL_does_238 (v := (-1000000)) (jwm lw_530) ?_
    exact j_iret (pc := 240) rfl dL_does_240 (by decide) (by decide) rfl
  rw [if_neg c2] at h
  cases h
set_option maxRecDepth 100000 in
set_option maxHeartbeats 4000000 in
theorem s_L_does {a0 : Nat} {i1 i2 i3 i4 i5 i6 v : Int32} {ws ws' : LWd} (h : m_L_does a0 i1 i2 i3 i4 i5 i6 ws = some (v, ws')) : jSW none yL_does wsL_does 7 1 6 [.ref a0, .int i1, .int i2, .int i3, .int i4, .int i5, .int i6] ws (.inl (some (.int v)), ws') := by
  unfold m_L_does at h
  refine jh_entry (hh := [(0, 225, 226, 60), (0, 225, 231, 63), (0, 225, 236, 66)]) (ret := (some .int)) (nm := "does") (own := RL) pl_L rfl rfl rfl (jcats (by rfl)) (Nat.le_of_ble_eq_true rfl) ?_
  show JH [(0, 225, 226, 60), (0, 225, 231, 63), (0, 225, 236, 66)] cL_does 8 RL wsL_does (some .int) "does" 7 1 6 ws.length (.inl (some (.int v)), ws') 0 [some (.ref a0), some (.int i1), some (.int i2), some (.int i3), some (.int i4), some (.int i5), some (.int i6), none] [] ws 0 0
  refine jh_iload_n (pc := 0) dL_does_0 rfl ?_
  refine jh_if_ne (pc := 1) (tgt := 19) dL_does_1 (by decide) (fun c => ?_) (fun c => ?_)
  · rw [if_neg c] at h
    refine jh_iload_n (pc := 19) dL_does_19 rfl ?_
    refine jh_iconst (pc := 20) dL_does_20 (v := 1) (by decide) ?_
    refine jh_icmp_ne (pc := 21) (tgt := 35) dL_does_21 (by decide) (fun c => ?_) (fun c => ?_)
    · rw [if_neg c] at h
      refine jh_iload_n (pc := 35) dL_does_35 rfl ?_
      refine jh_iconst (pc := 36) dL_does_36 (v := 2) (by decide) ?_
      refine jh_icmp_ne (pc := 37) (tgt := 51) dL_does_37 (by decide) (fun c => ?_) (fun c => ?_)
      · rw [if_neg c] at h
        refine jh_iload_n (pc := 51) dL_does_51 rfl ?_
        refine jh_iconst (pc := 52) dL_does_52 (v := 3) (by decide) ?_
        refine jh_icmp_ne (pc := 53) (tgt := 64) dL_does_53 (by decide) (fun c => ?_) (fun c => ?_)
        · rw [if_neg c] at h
          refine jh_iload_n (pc := 64) dL_does_64 rfl ?_
          refine jh_iconst (pc := 65) dL_does_65 (v := 4) (by decide) ?_
          refine jh_icmp_ne (pc := 66) (tgt := 84) dL_does_66 (by decide) (fun c => ?_) (fun c => ?_)
          · rw [if_neg c] at h
            refine jh_iload_n (pc := 84) dL_does_84 rfl ?_
            refine jh_iconst (pc := 85) dL_does_85 (v := 5) (by decide) ?_
            refine jh_icmp_ne (pc := 86) (tgt := 100) dL_does_86 (by decide) (fun c => ?_) (fun c => ?_)
            · rw [if_neg c] at h
              refine jh_iload_n (pc := 100) dL_does_100 rfl ?_
              refine jh_bipush (pc := 101) dL_does_101 (v := 6) (by decide) ?_
              refine jh_icmp_ne (pc := 103) (tgt := 113) dL_does_103 (by decide) (fun c => ?_) (fun c => ?_)
              · rw [if_neg c] at h
                refine jh_iload_n (pc := 113) dL_does_113 rfl ?_
                refine jh_bipush (pc := 114) dL_does_114 (v := 7) (by decide) ?_
                refine jh_icmp_ne (pc := 116) (tgt := 127) dL_does_116 (by decide) (fun c => ?_) (fun c => ?_)
                · rw [if_neg c] at h
                  refine jh_iload_n (pc := 127) dL_does_127 rfl ?_
                  refine jh_bipush (pc := 128) dL_does_128 (v := 8) (by decide) ?_
                  refine jh_icmp_ne (pc := 130) (tgt := 144) dL_does_130 (by decide) (fun c => ?_) (fun c => ?_)
                  · rw [if_neg c] at h
                    refine jh_iload_n (pc := 144) dL_does_144 rfl ?_
                    refine jh_bipush (pc := 145) dL_does_145 (v := 9) (by decide) ?_
                    refine jh_icmp_ne (pc := 147) (tgt := 159) dL_does_147 (by decide) (fun c => ?_) (fun c => ?_)
                    · rw [if_neg c] at h
                      refine jh_iload_n (pc := 159) dL_does_159 rfl ?_
                      refine jh_bipush (pc := 160) dL_does_160 (v := 10) (by decide) ?_
                      refine jh_icmp_ne (pc := 162) (tgt := 173) dL_does_162 (by decide) (fun c => ?_) (fun c => ?_)
                      · rw [if_neg c] at h
                        refine jh_iload_n (pc := 173) dL_does_173 rfl ?_
                        refine jh_bipush (pc := 174) dL_does_174 (v := 11) (by decide) ?_
                        refine jh_icmp_ne (pc := 176) (tgt := 187) dL_does_176 (by decide) (fun c => ?_) (fun c => ?_)
                        · rw [if_neg c] at h
                          refine jh_iload_n (pc := 187) dL_does_187 rfl ?_
                          refine jh_bipush (pc := 188) dL_does_188 (v := 12) (by decide) ?_
                          refine jh_icmp_ne (pc := 190) (tgt := 202) dL_does_190 (by decide) (fun c => ?_) (fun c => ?_)
                          · rw [if_neg c] at h
                            refine jh_iload_n (pc := 202) dL_does_202 rfl ?_
                            refine jh_bipush (pc := 203) dL_does_203 (v := 13) (by decide) ?_
                            refine jh_icmp_ne (pc := 205) (tgt := 219) dL_does_205 (by decide) (fun c => ?_) (fun c => ?_)
                            · rw [if_neg c] at h
                              refine jh_aload_n (pc := 219) dL_does_219 rfl ?_
                              refine jh_iload_n (pc := 220) dL_does_220 rfl ?_
                              refine jh_iload_n (pc := 221) dL_does_221 rfl ?_
                              unfold wrD at h
                              obtain ⟨r, w1, e1, h⟩ := obS2 h
                              split at h
                              · rename_i hl
                                refine jh_callVX (pc := 222) (As := [.int i2, .int i3]) (st := []) (k' := 1) (n' := 6) dL_does_222 (s_X10_foot e1) (jgV lw_532 lw_533 lw_534 lw_147 lw_531) rfl hv_X10_foot rfl (r_X10_foot e1) rfl (by decide) (by decide) (Nat.le_of_ble_eq_true rfl) (by decide) (by decide) (by decide) (by decide) hl (fun u hu => ?_) (fun E hE => ?_)
                                · cases r with
                                  | inr E => cases hu
                                  | inl x =>
                                    cases hu
                                    cases h
                                    exact j_iret (pc := 225) rfl dL_does_225 (by decide) (by decide) rfl
                                · cases r with
                                  | inl x => cases hE
                                  | inr E1 =>
                                    cases hE
                                    exact jd_x (by decide) h
                              · cases h
                            · rw [if_pos c] at h
                              refine jh_aload_n (pc := 208) dL_does_208 rfl ?_
                              refine jh_iload_n (pc := 209) dL_does_209 rfl ?_
                              refine jh_iload_n (pc := 210) dL_does_210 rfl ?_
                              refine jh_iload (pc := 211) dL_does_211 rfl ?_
                              unfold wrD at h
                              obtain ⟨r, w1, e1, h⟩ := obS2 h
                              split at h
                              · rename_i hl
                                refine jh_callVX (pc := 213) (As := [.int i2, .int i3, .int i4]) (st := []) (k' := 1) (n' := 6) dL_does_213 (s_X10_point e1) (jgV lw_536 lw_537 lw_538 lw_147 lw_535) rfl hv_X10_point rfl (r_X10_point e1) rfl (by decide) (by decide) (Nat.le_of_ble_eq_true rfl) (by decide) (by decide) (by decide) (by decide) hl (fun u hu => ?_) (fun E hE => ?_)
                                · cases r with
                                  | inr E => cases hu
                                  | inl x =>
                                    cases hu
                                    cases h
                                    refine j_goto (pc := 216) (tgt := 225) dL_does_216 (by decide) ?_
                                    exact j_iret (pc := 225) rfl dL_does_225 (by decide) (by decide) rfl
                                · cases r with
                                  | inl x => cases hE
                                  | inr E1 =>
                                    cases hE
                                    exact jd_x (by decide) h
                              · cases h
                          · rw [if_pos c] at h
                            refine jh_aload_n (pc := 193) dL_does_193 rfl ?_
                            refine jh_iload_n (pc := 194) dL_does_194 rfl ?_
                            refine jh_iload_n (pc := 195) dL_does_195 rfl ?_
                            unfold wrD at h
                            obtain ⟨r, w1, e1, h⟩ := obS2 h
                            split at h
                            · rename_i hl
                              refine jh_callVX (pc := 196) (As := [.int i2, .int i3]) (st := []) (k' := 1) (n' := 6) dL_does_196 (s_X10_fall e1) (jgV lw_540 lw_541 lw_542 lw_147 lw_539) rfl hv_X10_fall rfl (r_X10_fall e1) rfl (by decide) (by decide) (Nat.le_of_ble_eq_true rfl) (by decide) (by decide) (by decide) (by decide) hl (fun u hu => ?_) (fun E hE => ?_)
                              · cases r with
                                | inr E => cases hu
                                | inl x =>
                                  cases hu
                                  cases h
                                  refine j_goto (pc := 199) (tgt := 225) dL_does_199 (by decide) ?_
                                  exact j_iret (pc := 225) rfl dL_does_225 (by decide) (by decide) rfl
                              · cases r with
                                | inl x => cases hE
                                | inr E1 =>
                                  cases hE
                                  exact jd_x (by decide) h
                            · cases h
                        · rw [if_pos c] at h
                          refine jh_aload_n (pc := 179) dL_does_179 rfl ?_
                          refine jh_iload_n (pc := 180) dL_does_180 rfl ?_
                          unfold wrD at h
                          obtain ⟨r, w1, e1, h⟩ := obS2 h
                          split at h
                          · rename_i hl
                            refine jh_callVX (pc := 181) (As := [.int i2]) (st := []) (k' := 1) (n' := 6) dL_does_181 (s_X10_corner e1) (jgV lw_544 lw_545 lw_546 lw_147 lw_543) rfl hv_X10_corner rfl (r_X10_corner e1) rfl (by decide) (by decide) (Nat.le_of_ble_eq_true rfl) (by decide) (by decide) (by decide) (by decide) hl (fun u hu => ?_) (fun E hE => ?_)
                            · cases r with
                              | inr E => cases hu
                              | inl x =>
                                cases hu
                                cases h
                                refine j_goto (pc := 184) (tgt := 225) dL_does_184 (by decide) ?_
                                exact j_iret (pc := 225) rfl dL_does_225 (by decide) (by decide) rfl
                            · cases r with
                              | inl x => cases hE
                              | inr E1 =>
                                cases hE
                                exact jd_x (by decide) h
                          · cases h
                      · rw [if_pos c] at h
                        refine jh_aload_n (pc := 165) dL_does_165 rfl ?_
                        refine jh_iload_n (pc := 166) dL_does_166 rfl ?_
                        unfold wrD at h
                        obtain ⟨r, w1, e1, h⟩ := obS2 h
                        split at h
                        · rename_i hl
                          refine jh_callVX (pc := 167) (As := [.int i2]) (st := []) (k' := 1) (n' := 6) dL_does_167 (s_X10_walk e1) (jgV lw_548 lw_549 lw_550 lw_147 lw_547) rfl hv_X10_walk rfl (r_X10_walk e1) rfl (by decide) (by decide) (Nat.le_of_ble_eq_true rfl) (by decide) (by decide) (by decide) (by decide) hl (fun u hu => ?_) (fun E hE => ?_)
                          · cases r with
                            | inr E => cases hu
                            | inl x =>
                              cases hu
                              cases h
                              refine j_goto (pc := 170) (tgt := 225) dL_does_170 (by decide) ?_
                              exact j_iret (pc := 225) rfl dL_does_225 (by decide) (by decide) rfl
                          · cases r with
                            | inl x => cases hE
                            | inr E1 =>
                              cases hE
                              exact jd_x (by decide) h
                        · cases h
                    · rw [if_pos c] at h
                      refine jh_aload_n (pc := 150) dL_does_150 rfl ?_
                      refine jh_iload_n (pc := 151) dL_does_151 rfl ?_
                      refine jh_iload_n (pc := 152) dL_does_152 rfl ?_
                      unfold wrD at h
                      obtain ⟨r, w1, e1, h⟩ := obS2 h
                      split at h
                      · rename_i hl
                        refine jh_callVX (pc := 153) (As := [.int i2, .int i3]) (st := []) (k' := 1) (n' := 6) dL_does_153 (s_X10_shift e1) (jgV lw_552 lw_553 lw_554 lw_147 lw_551) rfl hv_X10_shift rfl (r_X10_shift e1) rfl (by decide) (by decide) (Nat.le_of_ble_eq_true rfl) (by decide) (by decide) (by decide) (by decide) hl (fun u hu => ?_) (fun E hE => ?_)
                        · cases r with
                          | inr E => cases hu
                          | inl x =>
                            cases hu
                            cases h
                            refine j_goto (pc := 156) (tgt := 225) dL_does_156 (by decide) ?_
                            exact j_iret (pc := 225) rfl dL_does_225 (by decide) (by decide) rfl
                        · cases r with
                          | inl x => cases hE
                          | inr E1 =>
                            cases hE
                            exact jd_x (by decide) h
                      · cases h
                  · rw [if_pos c] at h
                    refine jh_aload_n (pc := 133) dL_does_133 rfl ?_
                    refine jh_iload_n (pc := 134) dL_does_134 rfl ?_
                    refine jh_iload_n (pc := 135) dL_does_135 rfl ?_
                    refine jh_iload (pc := 136) dL_does_136 rfl ?_
                    unfold wrD at h
                    obtain ⟨r, w1, e1, h⟩ := obS2 h
                    split at h
                    · rename_i hl
                      refine jh_callVX (pc := 138) (As := [.int i2, .int i3, .int i4]) (st := []) (k' := 1) (n' := 6) dL_does_138 (s_X10_place e1) (jgV lw_556 lw_557 lw_558 lw_147 lw_555) rfl hv_X10_place rfl (r_X10_place e1) rfl (by decide) (by decide) (Nat.le_of_ble_eq_true rfl) (by decide) (by decide) (by decide) (by decide) hl (fun u hu => ?_) (fun E hE => ?_)
                      · cases r with
                        | inr E => cases hu
                        | inl x =>
                          cases hu
                          cases h
                          refine j_goto (pc := 141) (tgt := 225) dL_does_141 (by decide) ?_
                          exact j_iret (pc := 225) rfl dL_does_225 (by decide) (by decide) rfl
                      · cases r with
                        | inl x => cases hE
                        | inr E1 =>
                          cases hE
                          exact jd_x (by decide) h
                    · cases h
                · rw [if_pos c] at h
                  refine jh_aload_n (pc := 119) dL_does_119 rfl ?_
                  refine jh_iload_n (pc := 120) dL_does_120 rfl ?_
                  unfold wrD at h
                  obtain ⟨r, w1, e1, h⟩ := obS2 h
                  split at h
                  · rename_i hl
                    refine jh_callVX (pc := 121) (As := [.int i2]) (st := []) (k' := 1) (n' := 6) dL_does_121 (s_X10_lift e1) (jgV lw_560 lw_561 lw_562 lw_147 lw_559) rfl hv_X10_lift rfl (r_X10_lift e1) rfl (by decide) (by decide) (Nat.le_of_ble_eq_true rfl) (by decide) (by decide) (by decide) (by decide) hl (fun u hu => ?_) (fun E hE => ?_)
                    · cases r with
                      | inr E => cases hu
                      | inl x =>
                        cases hu
                        cases h
                        refine j_goto (pc := 124) (tgt := 225) dL_does_124 (by decide) ?_
                        exact j_iret (pc := 225) rfl dL_does_225 (by decide) (by decide) rfl
                    · cases r with
                      | inl x => cases hE
                      | inr E1 =>
                        cases hE
                        exact jd_x (by decide) h
                  · cases h
              · rw [if_pos c] at h
                refine jh_aload_n (pc := 106) dL_does_106 rfl ?_
                unfold wrD at h
                obtain ⟨r, w1, e1, h⟩ := obS2 h
                split at h
                · rename_i hl
                  refine jh_callVX (pc := 107) (As := []) (st := []) (k' := 1) (n' := 6) dL_does_107 (s_X10_rise e1) (jgV lw_564 lw_565 lw_566 lw_147 lw_563) rfl hv_X10_rise rfl (r_X10_rise e1) rfl (by decide) (by decide) (Nat.le_of_ble_eq_true rfl) (by decide) (by decide) (by decide) (by decide) hl (fun u hu => ?_) (fun E hE => ?_)
                  · cases r with
                    | inr E => cases hu
                    | inl x =>
                      cases hu
                      cases h
                      refine j_goto (pc := 110) (tgt := 225) dL_does_110 (by decide) ?_
                      exact j_iret (pc := 225) rfl dL_does_225 (by decide) (by decide) rfl
                  · cases r with
                    | inl x => cases hE
                    | inr E1 =>
                      cases hE
                      exact jd_x (by decide) h
                · cases h
            · rw [if_pos c] at h
              refine jh_aload_n (pc := 89) dL_does_89 rfl ?_
              refine jh_iload_n (pc := 90) dL_does_90 rfl ?_
              refine jh_iload_n (pc := 91) dL_does_91 rfl ?_
              refine jh_iload (pc := 92) dL_does_92 rfl ?_
              unfold wrD at h
              obtain ⟨r, w1, e1, h⟩ := obS2 h
              split at h
              · rename_i hl
                refine jh_callVX (pc := 94) (As := [.int i2, .int i3, .int i4]) (st := []) (k' := 1) (n' := 6) dL_does_94 (s_X10_load e1) (jgV lw_568 lw_569 lw_570 lw_147 lw_567) rfl hv_X10_load rfl (r_X10_load e1) rfl (by decide) (by decide) (Nat.le_of_ble_eq_true rfl) (by decide) (by decide) (by decide) (by decide) hl (fun u hu => ?_) (fun E hE => ?_)
                · cases r with
                  | inr E => cases hu
                  | inl x =>
                    cases hu
                    cases h
                    refine j_goto (pc := 97) (tgt := 225) dL_does_97 (by decide) ?_
                    exact j_iret (pc := 225) rfl dL_does_225 (by decide) (by decide) rfl
                · cases r with
                  | inl x => cases hE
                  | inr E1 =>
                    cases hE
                    exact jd_x (by decide) h
              · cases h
          · rw [if_pos c] at h
            refine jh_aload_n (pc := 69) dL_does_69 rfl ?_
            refine jh_iload_n (pc := 70) dL_does_70 rfl ?_
            refine jh_iload_n (pc := 71) dL_does_71 rfl ?_
            refine jh_iload (pc := 72) dL_does_72 rfl ?_
            refine jh_iload (pc := 74) dL_does_74 rfl ?_
            refine jh_iload (pc := 76) dL_does_76 rfl ?_
            unfold wrD at h
            obtain ⟨r, w1, e1, h⟩ := obS2 h
            split at h
            · rename_i hl
              refine jh_callVX (pc := 78) (As := [.int i2, .int i3, .int i4, .int i5, .int i6]) (st := []) (k' := 1) (n' := 6) dL_does_78 (s_X10_phase e1) (jgV lw_572 lw_573 lw_574 lw_147 lw_571) rfl hv_X10_phase rfl (r_X10_phase e1) rfl (by decide) (by decide) (Nat.le_of_ble_eq_true rfl) (by decide) (by decide) (by decide) (by decide) hl (fun u hu => ?_) (fun E hE => ?_)
              · cases r with
                | inr E => cases hu
                | inl x =>
                  cases hu
                  cases h
                  refine j_goto (pc := 81) (tgt := 225) dL_does_81 (by decide) ?_
                  exact j_iret (pc := 225) rfl dL_does_225 (by decide) (by decide) rfl
              · cases r with
                | inl x => cases hE
                | inr E1 =>
                  cases hE
                  exact jd_x (by decide) h
            · cases h
        · rw [if_pos c] at h
          refine jh_aload_n (pc := 56) dL_does_56 rfl ?_
          refine jh_iload_n (pc := 57) dL_does_57 rfl ?_
          unfold wrD at h
          obtain ⟨r, w1, e1, h⟩ := obS2 h
          split at h
          · rename_i hl
            refine jh_callVX (pc := 58) (As := [.int i2]) (st := []) (k' := 1) (n' := 6) dL_does_58 (s_X10_charge e1) (jgV lw_576 lw_577 lw_578 lw_147 lw_575) rfl hv_X10_charge rfl (r_X10_charge e1) rfl (by decide) (by decide) (Nat.le_of_ble_eq_true rfl) (by decide) (by decide) (by decide) (by decide) hl (fun u hu => ?_) (fun E hE => ?_)
            · cases r with
              | inr E => cases hu
              | inl x =>
                cases hu
                cases h
                refine j_goto (pc := 61) (tgt := 225) dL_does_61 (by decide) ?_
                exact j_iret (pc := 225) rfl dL_does_225 (by decide) (by decide) rfl
            · cases r with
              | inl x => cases hE
              | inr E1 =>
                cases hE
                exact jd_x (by decide) h
          · cases h
      · rw [if_pos c] at h
        refine jh_aload_n (pc := 40) dL_does_40 rfl ?_
        refine jh_iload_n (pc := 41) dL_does_41 rfl ?_
        refine jh_iload_n (pc := 42) dL_does_42 rfl ?_
        refine jh_iload (pc := 43) dL_does_43 rfl ?_
        unfold wrD at h
        obtain ⟨r, w1, e1, h⟩ := obS2 h
        split at h
        · rename_i hl
          refine jh_callVX (pc := 45) (As := [.int i2, .int i3, .int i4]) (st := []) (k' := 1) (n' := 6) dL_does_45 (s_X10_leg e1) (jgV lw_580 lw_581 lw_582 lw_147 lw_579) rfl hv_X10_leg rfl (r_X10_leg e1) rfl (by decide) (by decide) (Nat.le_of_ble_eq_true rfl) (by decide) (by decide) (by decide) (by decide) hl (fun u hu => ?_) (fun E hE => ?_)
          · cases r with
            | inr E => cases hu
            | inl x =>
              cases hu
              cases h
              refine j_goto (pc := 48) (tgt := 225) dL_does_48 (by decide) ?_
              exact j_iret (pc := 225) rfl dL_does_225 (by decide) (by decide) rfl
          · cases r with
            | inl x => cases hE
            | inr E1 =>
              cases hE
              exact jd_x (by decide) h
        · cases h
    · rw [if_pos c] at h
      refine jh_aload_n (pc := 24) dL_does_24 rfl ?_
      refine jh_iload_n (pc := 25) dL_does_25 rfl ?_
      refine jh_iload_n (pc := 26) dL_does_26 rfl ?_
      refine jh_iload (pc := 27) dL_does_27 rfl ?_
      unfold wrD at h
      obtain ⟨r, w1, e1, h⟩ := obS2 h
      split at h
      · rename_i hl
        refine jh_callVX (pc := 29) (As := [.int i2, .int i3, .int i4]) (st := []) (k' := 1) (n' := 6) dL_does_29 (s_X10_chart e1) (jgV lw_584 lw_585 lw_586 lw_147 lw_583) rfl hv_X10_chart rfl (r_X10_chart e1) rfl (by decide) (by decide) (Nat.le_of_ble_eq_true rfl) (by decide) (by decide) (by decide) (by decide) hl (fun u hu => ?_) (fun E hE => ?_)
        · cases r with
          | inr E => cases hu
          | inl x =>
            cases hu
            cases h
            refine j_goto (pc := 32) (tgt := 225) dL_does_32 (by decide) ?_
            exact j_iret (pc := 225) rfl dL_does_225 (by decide) (by decide) rfl
        · cases r with
          | inl x => cases hE
          | inr E1 =>
            cases hE
            exact jd_x (by decide) h
      · cases h
  · rw [if_pos c] at h
    refine jh_aload_n (pc := 4) dL_does_4 rfl ?_
    refine jh_iload_n (pc := 5) dL_does_5 rfl ?_
    refine jh_iload_n (pc := 6) dL_does_6 rfl ?_
    refine jh_iload (pc := 7) dL_does_7 rfl ?_
    refine jh_iload (pc := 9) dL_does_9 rfl ?_
    refine jh_iload (pc := 11) dL_does_11 rfl ?_
    unfold wrD at h
    obtain ⟨r, w1, e1, h⟩ := obS2 h
    split at h
    · rename_i hl
      refine jh_callVX (pc := 13) (As := [.int i2, .int i3, .int i4, .int i5, .int i6]) (st := []) (k' := 1) (n' := 6) dL_does_13 (s_X10_ground e1) (jgV lw_588 lw_589 lw_590 lw_147 lw_587) rfl hv_X10_ground rfl (r_X10_ground e1) rfl (by decide) (by decide) (Nat.le_of_ble_eq_true rfl) (by decide) (by decide) (by decide) (by decide) hl (fun u hu => ?_) (fun E hE => ?_)
      · cases r with
        | inr E => cases hu
        | inl x =>
          cases hu
          cases h
          refine j_goto (pc := 16) (tgt := 225) dL_does_16 (by decide) ?_
          exact j_iret (pc := 225) rfl dL_does_225 (by decide) (by decide) rfl
      · cases r with
        | inl x => cases hE
        | inr E1 =>
          cases hE
          exact jd_x (by decide) h
    · cases h
