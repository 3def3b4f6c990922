/-! methods: written by wip/whole/make.py -/
def wsX11_lifts : List Cond := Cond.code yX11_lifts cX11_lifts 2 (some .boolean) :: jW
def m_X11_lifts (a0 : Nat) (i1 : Int32) (ws : LWd) : Option (Int32 × LWd) :=
  (rcv ws a0 11).bind fun _ =>
  (fI ws a0 11 4).bind fun x1 =>
  if x1 = 0 then
    some (0, ws)
  else
    (fI ws a0 11 7).bind fun x4 =>
    if x4 < 1 then
      some (0, ws)
    else
      bn2 (calSR ws (m_X11_isDown a0 i1 ws)) fun x9 w7 =>
      if x9 = 0 then
        some (0, w7)
      else
        (fI w7 a0 11 17).bind fun x11 =>
        bn2 (calSR w7 (m_X11_holds a0 (x11 &&& ((1 <<< (i1 &&& 31)) ^^^ ((-1)))) w7)) fun x15 w13 =>
        if x15 = 0 then
          some (0, w13)
        else
          (fI w13 a0 11 7).bind fun x17 =>
          (pV w13 a0 11 7 (.int (x17 - 1))).bind fun w19 =>
          (pV w19 a0 11 22 (.int 0)).bind fun w21 =>
          (fI w21 a0 11 17).bind fun x23 =>
          (pV w21 a0 11 17 (.int (x23 &&& ((1 <<< (i1 &&& 31)) ^^^ ((-1)))))).bind fun w25 =>
          (calSV w25 (m_X11_settles a0 w25)).bind fun w27 =>
          some (1, w27)
set_option maxRecDepth 100000 in
set_option maxHeartbeats 4000000 in
theorem s_X11_lifts {a0 : Nat} {i1 : Int32} {ws : LWd} {rr : Int32} {ws' : LWd} (h : m_X11_lifts a0 i1 ws = some (rr, ws')) : jSp yX11_lifts wsX11_lifts 5 0 0 [.ref a0, .int i1] ws (.inl (some (.int rr)), ws') := by
  unfold m_X11_lifts at h
  refine j_entry (ret := (some .boolean)) (nm := "lifts") (own := RX11) pl_X11 rfl rfl rfl (jcats (by rfl)) (Nat.le_of_ble_eq_true rfl) ?_
  show JG (.inl false) cX11_lifts 2 RX11 wsX11_lifts (some .boolean) "lifts" 5 0 0 ws.length (.inl (some (.int rr)), ws') 0 [some (.ref a0), some (.int i1)] [] ws 0 0
  obtain ⟨_, _, h⟩ := obS h
  refine j_aload_n (pc := 0) dX11_lifts_0 rfl ?_
  obtain ⟨x1, e2, h⟩ := obS h
  refine j_getI (pc := 1) dX11_lifts_1 (ci := 11) (kf := 4) rfl (jwi hw_X11) (by decide) (jwm lw_565) e2 ?_
  refine j_if_eq (pc := 4) (tgt := 40) dX11_lifts_4 (by decide) (fun c3 => ?_) (fun c3 => ?_)
  · rw [if_pos c3] at h
    refine j_iconst (pc := 40) dX11_lifts_40 (v := 0) (by decide) ?_
    obtain ⟨rfl, rfl⟩ := jretS h
    exact j_zretL (pc := 41) (by decide) rfl dX11_lifts_41 (by decide) (by decide) rfl
  · rw [if_neg c3] at h
    refine j_aload_n (pc := 7) dX11_lifts_7 rfl ?_
    obtain ⟨x4, e5, h⟩ := obS h
    refine j_getI (pc := 8) dX11_lifts_8 (ci := 11) (kf := 7) rfl (jwi hw_X11) (by decide) (jwm lw_531) e5 ?_
    refine j_iconst (pc := 11) dX11_lifts_11 (v := 1) (by decide) ?_
    refine j_icmp_lt (pc := 12) (tgt := 40) dX11_lifts_12 (by decide) (fun c6 => ?_) (fun c6 => ?_)
    · rw [if_pos c6] at h
      refine j_iconst (pc := 40) dX11_lifts_40 (v := 0) (by decide) ?_
      obtain ⟨rfl, rfl⟩ := jretS h
      exact j_zretL (pc := 41) (by decide) rfl dX11_lifts_41 (by decide) (by decide) rfl
    · rw [if_neg c6] at h
      refine j_aload_n (pc := 15) dX11_lifts_15 rfl ?_
      refine j_iload_n (pc := 16) dX11_lifts_16 rfl ?_
      obtain ⟨x9, w7, e8, h⟩ := obS2 h
      have ge8 := calSR_of e8
      refine j_callV_g (pc := 17) (As := [.int i1]) (k' := 0) (n' := 0) dX11_lifts_17 (s_X11_isDown ge8.1) (jgV lw_548 lw_549 lw_550 lw_544 lw_547) rfl hv_X11_isDown rfl (r_X11_isDown ge8.1) rfl (by decide) (by decide) (Nat.le_of_ble_eq_true rfl) (by decide) (by decide) (by decide) (by decide) (Or.inl ge8.2) ?_
      refine j_if_eq (pc := 20) (tgt := 40) dX11_lifts_20 (by decide) (fun c10 => ?_) (fun c10 => ?_)
      · rw [if_pos c10] at h
        refine j_iconst (pc := 40) dX11_lifts_40 (v := 0) (by decide) ?_
        obtain ⟨rfl, rfl⟩ := jretS h
        exact j_zretL (pc := 41) (by decide) rfl dX11_lifts_41 (by decide) (by decide) rfl
      · rw [if_neg c10] at h
        refine j_aload_n (pc := 23) dX11_lifts_23 rfl ?_
        refine j_aload_n (pc := 24) dX11_lifts_24 rfl ?_
        obtain ⟨x11, e12, h⟩ := obS h
        refine j_getI (pc := 25) dX11_lifts_25 (ci := 11) (kf := 17) rfl (jwi hw_X11) (by decide) (jwm lw_546) e12 ?_
        refine j_iconst (pc := 28) dX11_lifts_28 (v := 1) (by decide) ?_
        refine j_iload_n (pc := 29) dX11_lifts_29 rfl ?_
        refine j_ishl (pc := 30) dX11_lifts_30 ?_
        refine j_iconst (pc := 31) dX11_lifts_31 (v := (-1)) (by decide) ?_
        refine j_ixor (pc := 32) dX11_lifts_32 ?_
        refine j_iand (pc := 33) dX11_lifts_33 ?_
        obtain ⟨x15, w13, e14, h⟩ := obS2 h
        have ge14 := calSR_of e14
        refine j_callV_g (pc := 34) (As := [.int (x11 &&& ((1 <<< (i1 &&& 31)) ^^^ ((-1))))]) (k' := 0) (n' := 0) dX11_lifts_34 (s_X11_holds ge14.1) (jgV lw_645 lw_646 lw_647 lw_544 lw_644) rfl hv_X11_holds rfl (r_X11_holds ge14.1) rfl (by decide) (by decide) (Nat.le_of_ble_eq_true rfl) (by decide) (by decide) (by decide) (by decide) (Or.inl ge14.2) ?_
        refine j_if_ne (pc := 37) (tgt := 42) dX11_lifts_37 (by decide) (fun c16 => ?_) (fun c16 => ?_)
        · rw [if_neg c16] at h
          refine j_aload_n (pc := 42) dX11_lifts_42 rfl ?_
          refine j_dup (pc := 43) dX11_lifts_43 rfl ?_
          obtain ⟨x17, e18, h⟩ := obS h
          refine j_getI (pc := 44) dX11_lifts_44 (ci := 11) (kf := 7) rfl (jwi hw_X11) (by decide) (jwm lw_531) e18 ?_
          refine j_iconst (pc := 47) dX11_lifts_47 (v := 1) (by decide) ?_
          refine j_isub (pc := 48) dX11_lifts_48 ?_
          obtain ⟨w19, e20, h⟩ := obS h
          refine j_putV (pc := 49) (ci := 11) (kf := 7) tyX11 tyX11_ok nmX11 dX11_lifts_49 rfl (jwi hw_X11) (by decide) (jwm lw_531) rfl (fun _ => rfl) (fun _ => rfl) e20 ?_
          refine j_aload_n (pc := 52) dX11_lifts_52 rfl ?_
          refine j_iconst (pc := 53) dX11_lifts_53 (v := 0) (by decide) ?_
          obtain ⟨w21, e22, h⟩ := obS h
          refine j_putV (pc := 54) (ci := 11) (kf := 22) tyX11 tyX11_ok nmX11 dX11_lifts_54 rfl (jwi hw_X11) (by decide) (jwm lw_607) rfl (fun _ => rfl) (fun _ => rfl) e22 ?_
          refine j_aload_n (pc := 57) dX11_lifts_57 rfl ?_
          refine j_dup (pc := 58) dX11_lifts_58 rfl ?_
          obtain ⟨x23, e24, h⟩ := obS h
          refine j_getI (pc := 59) dX11_lifts_59 (ci := 11) (kf := 17) rfl (jwi hw_X11) (by decide) (jwm lw_546) e24 ?_
          refine j_iconst (pc := 62) dX11_lifts_62 (v := 1) (by decide) ?_
          refine j_iload_n (pc := 63) dX11_lifts_63 rfl ?_
          refine j_ishl (pc := 64) dX11_lifts_64 ?_
          refine j_iconst (pc := 65) dX11_lifts_65 (v := (-1)) (by decide) ?_
          refine j_ixor (pc := 66) dX11_lifts_66 ?_
          refine j_iand (pc := 67) dX11_lifts_67 ?_
          obtain ⟨w25, e26, h⟩ := obS h
          refine j_putV (pc := 68) (ci := 11) (kf := 17) tyX11 tyX11_ok nmX11 dX11_lifts_68 rfl (jwi hw_X11) (by decide) (jwm lw_546) rfl (fun _ => rfl) (fun _ => rfl) e26 ?_
          refine j_aload_n (pc := 71) dX11_lifts_71 rfl ?_
          obtain ⟨w27, e28, h⟩ := obS h
          have ge28 := calSV_of e28
          refine j_callV_g (pc := 72) (As := []) (k' := 0) (n' := 0) dX11_lifts_72 (s_X11_settles ge28.1) (jgV lw_653 lw_654 lw_655 lw_544 lw_652) rfl hv_X11_settles rfl (r_X11_settles ge28.1) rfl (by decide) (by decide) (Nat.le_of_ble_eq_true rfl) (by decide) (by decide) (by decide) (by decide) (Or.inl ge28.2) ?_
          refine j_iconst (pc := 75) dX11_lifts_75 (v := 1) (by decide) ?_
          obtain ⟨rfl, rfl⟩ := jretS h
          exact j_zretL (pc := 76) (by decide) rfl dX11_lifts_76 (by decide) (by decide) rfl
        · rw [if_pos c16] at h
          refine j_iconst (pc := 40) dX11_lifts_40 (v := 0) (by decide) ?_
          obtain ⟨rfl, rfl⟩ := jretS h
          exact j_zretL (pc := 41) (by decide) rfl dX11_lifts_41 (by decide) (by decide) rfl
theorem r_X11_lifts {a0 : Nat} {i1 : Int32} {ws : LWd} {o : (Int32 × LWd)} (h : m_X11_lifts a0 i1 ws = some o) : ∃ fs, ws[a0]? = some (.inr (11, fs)) := rcv_in h
def wsX11_canPlace : List Cond := Cond.code yX11_canPlace cX11_canPlace 5 (some .boolean) :: jW
def m_X11_canPlace (a0 : Nat) (i1 : Int32) (i2 : Int32) (i3 : Int32) (ws : LWd) : Option (Int32 × LWd) :=
  (rcv ws a0 11).bind fun _ =>
  (fR ws a0 11 3).bind fun x1 =>
  bn2 (calSR ws (m_X11_at i2 i3 ws)) fun x5 w3 =>
  (aI w3 x1 x5).bind fun x6 =>
  (fI w3 a0 11 17).bind fun x8 =>
  bn2 (calSR w3 (m_X11_level a0 x8 w3)) fun x12 w10 =>
  bn2 (calSR w10 (m_X11_isDown a0 i1 w10)) fun x15 w13 =>
  if x15 = 0 then
    bn2 (calSR w13 (m_X11_isInReach a0 i1 i2 i3 w13)) fun x19 w17 =>
    if x19 = 0 then
      some (0, w17)
    else
      bn2 (calSR w17 (m_X11_footAt a0 i2 i3 w17)) fun x23 w21 =>
      if x23 = ((-1)) then
        bn2 (calSR w21 (m_X11_isIn (x6 - x12) ((-2)) 2 w21)) fun x27 w25 =>
        if x27 = 0 then
          some (0, w25)
        else
          some (1, w25)
      else
        some (0, w21)
  else
    some (0, w13)
set_option maxRecDepth 100000 in
set_option maxHeartbeats 4000000 in
theorem s_X11_canPlace {a0 : Nat} {i1 : Int32} {i2 : Int32} {i3 : Int32} {ws : LWd} {rr : Int32} {ws' : LWd} (h : m_X11_canPlace a0 i1 i2 i3 ws = some (rr, ws')) : jSp yX11_canPlace wsX11_canPlace 2 0 0 [.ref a0, .int i1, .int i2, .int i3] ws (.inl (some (.int rr)), ws') := by
  unfold m_X11_canPlace at h
  refine j_entry (ret := (some .boolean)) (nm := "canPlace") (own := RX11) pl_X11 rfl rfl rfl (jcats (by rfl)) (Nat.le_of_ble_eq_true rfl) ?_
  show JG (.inl false) cX11_canPlace 5 RX11 wsX11_canPlace (some .boolean) "canPlace" 2 0 0 ws.length (.inl (some (.int rr)), ws') 0 [some (.ref a0), some (.int i1), some (.int i2), some (.int i3), none] [] ws 0 0
  obtain ⟨_, _, h⟩ := obS h
  refine j_aload_n (pc := 0) dX11_canPlace_0 rfl ?_
  obtain ⟨x1, e2, h⟩ := obS h
  refine j_getR (pc := 1) dX11_canPlace_1 (ci := 11) (kf := 3) rfl (jwi hw_X11) (by decide) (jwm lw_528) e2 ?_
  refine j_iload_n (pc := 4) dX11_canPlace_4 rfl ?_
  refine j_iload_n (pc := 5) dX11_canPlace_5 rfl ?_
  obtain ⟨x5, w3, e4, h⟩ := obS2 h
  have ge4 := calSR_of e4
  refine j_callS_g (pc := 6) (As := [.int i2, .int i3]) (k' := 0) (n' := 0) dX11_canPlace_6 (s_X11_at ge4.1) (jgS lw_556 lw_557 lw_544 lw_555) rfl hy_X11_at rfl (by decide) (by decide) (Nat.le_of_ble_eq_true rfl) (by decide) (by decide) (by decide) (by decide) (Or.inl ge4.2) ?_
  obtain ⟨x6, e7, h⟩ := obS h
  refine j_iald (pc := 9) dX11_canPlace_9 e7 ?_
  refine j_aload_n (pc := 10) dX11_canPlace_10 rfl ?_
  refine j_aload_n (pc := 11) dX11_canPlace_11 rfl ?_
  obtain ⟨x8, e9, h⟩ := obS h
  refine j_getI (pc := 12) dX11_canPlace_12 (ci := 11) (kf := 17) rfl (jwi hw_X11) (by decide) (jwm lw_546) e9 ?_
  obtain ⟨x12, w10, e11, h⟩ := obS2 h
  have ge11 := calSR_of e11
  refine j_callV_g (pc := 15) (As := [.int x8]) (k' := 0) (n' := 0) dX11_canPlace_15 (s_X11_level ge11.1) (jgV lw_657 lw_658 lw_659 lw_544 lw_656) rfl hv_X11_level rfl (r_X11_level ge11.1) rfl (by decide) (by decide) (Nat.le_of_ble_eq_true rfl) (by decide) (by decide) (by decide) (by decide) (Or.inl ge11.2) ?_
  refine j_isub (pc := 18) dX11_canPlace_18 ?_
  refine j_istore_4 (pc := 19) dX11_canPlace_19 (by decide) rfl ?_
  refine j_aload_n (pc := 21) dX11_canPlace_21 rfl ?_
  refine j_iload_n (pc := 22) dX11_canPlace_22 rfl ?_
  obtain ⟨x15, w13, e14, h⟩ := obS2 h
  have ge14 := calSR_of e14
  refine j_callV_g (pc := 23) (As := [.int i1]) (k' := 0) (n' := 0) dX11_canPlace_23 (s_X11_isDown ge14.1) (jgV lw_548 lw_549 lw_550 lw_544 lw_547) rfl hv_X11_isDown rfl (r_X11_isDown ge14.1) rfl (by decide) (by decide) (Nat.le_of_ble_eq_true rfl) (by decide) (by decide) (by decide) (by decide) (Or.inl ge14.2) ?_
  refine j_if_ne (pc := 26) (tgt := 64) dX11_canPlace_26 (by decide) (fun c16 => ?_) (fun c16 => ?_)
  · rw [if_neg c16] at h
    refine j_iconst (pc := 64) dX11_canPlace_64 (v := 0) (by decide) ?_
    obtain ⟨rfl, rfl⟩ := jretS h
    exact j_zretL (pc := 65) (by decide) rfl dX11_canPlace_65 (by decide) (by decide) rfl
  · rw [if_pos c16] at h
    refine j_aload_n (pc := 29) dX11_canPlace_29 rfl ?_
    refine j_iload_n (pc := 30) dX11_canPlace_30 rfl ?_
    refine j_iload_n (pc := 31) dX11_canPlace_31 rfl ?_
    refine j_iload_n (pc := 32) dX11_canPlace_32 rfl ?_
    obtain ⟨x19, w17, e18, h⟩ := obS2 h
    have ge18 := calSR_of e18
    refine j_callV_g (pc := 33) (As := [.int i1, .int i2, .int i3]) (k' := 0) (n' := 0) dX11_canPlace_33 (s_X11_isInReach ge18.1) (jgV lw_625 lw_626 lw_627 lw_544 lw_624) rfl hv_X11_isInReach rfl (r_X11_isInReach ge18.1) rfl (by decide) (by decide) (Nat.le_of_ble_eq_true rfl) (by decide) (by decide) (by decide) (by decide) (Or.inl ge18.2) ?_
    refine j_if_eq (pc := 36) (tgt := 64) dX11_canPlace_36 (by decide) (fun c20 => ?_) (fun c20 => ?_)
    · rw [if_pos c20] at h
      refine j_iconst (pc := 64) dX11_canPlace_64 (v := 0) (by decide) ?_
      obtain ⟨rfl, rfl⟩ := jretS h
      exact j_zretL (pc := 65) (by decide) rfl dX11_canPlace_65 (by decide) (by decide) rfl
    · rw [if_neg c20] at h
      refine j_aload_n (pc := 39) dX11_canPlace_39 rfl ?_
      refine j_iload_n (pc := 40) dX11_canPlace_40 rfl ?_
      refine j_iload_n (pc := 41) dX11_canPlace_41 rfl ?_
      obtain ⟨x23, w21, e22, h⟩ := obS2 h
      have ge22 := calSR_of e22
      refine j_callV_g (pc := 42) (As := [.int i2, .int i3]) (k' := 0) (n' := 0) dX11_canPlace_42 (s_X11_footAt ge22.1) (jgV lw_559 lw_560 lw_561 lw_544 lw_558) rfl hv_X11_footAt rfl (r_X11_footAt ge22.1) rfl (by decide) (by decide) (Nat.le_of_ble_eq_true rfl) (by decide) (by decide) (by decide) (by decide) (Or.inl ge22.2) ?_
      refine j_iconst (pc := 45) dX11_canPlace_45 (v := (-1)) (by decide) ?_
      refine j_icmp_ne (pc := 46) (tgt := 64) dX11_canPlace_46 (by decide) (fun c24 => ?_) (fun c24 => ?_)
      · rw [if_neg c24] at h
        refine j_iconst (pc := 64) dX11_canPlace_64 (v := 0) (by decide) ?_
        obtain ⟨rfl, rfl⟩ := jretS h
        exact j_zretL (pc := 65) (by decide) rfl dX11_canPlace_65 (by decide) (by decide) rfl
      · rw [if_pos c24] at h
        refine j_iload (pc := 49) dX11_canPlace_49 rfl ?_
        refine j_bipush (pc := 51) dX11_canPlace_51 (v := (-2)) (by decide) ?_
        refine j_iconst (pc := 53) dX11_canPlace_53 (v := 2) (by decide) ?_
        obtain ⟨x27, w25, e26, h⟩ := obS2 h
        have ge26 := calSR_of e26
        refine j_callS_g (pc := 54) (As := [.int (x6 - x12), .int ((-2)), .int 2]) (k' := 0) (n' := 0) dX11_canPlace_54 (s_X11_isIn ge26.1) (jgS lw_542 lw_543 lw_544 lw_541) rfl hy_X11_isIn rfl (by decide) (by decide) (Nat.le_of_ble_eq_true rfl) (by decide) (by decide) (by decide) (by decide) (Or.inl ge26.2) ?_
        refine j_if_eq (pc := 57) (tgt := 64) dX11_canPlace_57 (by decide) (fun c28 => ?_) (fun c28 => ?_)
        · rw [if_pos c28] at h
          refine j_iconst (pc := 64) dX11_canPlace_64 (v := 0) (by decide) ?_
          obtain ⟨rfl, rfl⟩ := jretS h
          exact j_zretL (pc := 65) (by decide) rfl dX11_canPlace_65 (by decide) (by decide) rfl
        · rw [if_neg c28] at h
          refine j_iconst (pc := 60) dX11_canPlace_60 (v := 1) (by decide) ?_
          refine j_goto (pc := 61) (tgt := 65) dX11_canPlace_61 (by decide) ?_
          obtain ⟨rfl, rfl⟩ := jretS h
          exact j_zretL (pc := 65) (by decide) rfl dX11_canPlace_65 (by decide) (by decide) rfl
theorem r_X11_canPlace {a0 : Nat} {i1 : Int32} {i2 : Int32} {i3 : Int32} {ws : LWd} {o : (Int32 × LWd)} (h : m_X11_canPlace a0 i1 i2 i3 ws = some o) : ∃ fs, ws[a0]? = some (.inr (11, fs)) := rcv_in h
def wsX11_places : List Cond := Cond.code yX11_places cX11_places 4 (some .boolean) :: jW
def m_X11_places (a0 : Nat) (i1 : Int32) (i2 : Int32) (i3 : Int32) (ws : LWd) : Option (Int32 × LWd) :=
  (rcv ws a0 11).bind fun _ =>
  (fI ws a0 11 4).bind fun x1 =>
  if x1 = 0 then
    some (0, ws)
  else
    (fI ws a0 11 7).bind fun x4 =>
    bn2 (calSR ws (m_X11_far a0 i1 i2 i3 ws)) fun x8 w6 =>
    if x4 < (1 + x8) then
      some (0, w6)
    else
      bn2 (calSR w6 (m_X11_canPlace a0 i1 i2 i3 w6)) fun x12 w10 =>
      if x12 = 0 then
        some (0, w10)
      else
        (fI w10 a0 11 7).bind fun x14 =>
        bn2 (calSR w10 (m_X11_far a0 i1 i2 i3 w10)) fun x18 w16 =>
        (pV w16 a0 11 7 (.int (x14 - (1 + x18)))).bind fun w19 =>
        (pV w19 a0 11 22 (.int 0)).bind fun w21 =>
        (calSV w21 (m_X11_sets a0 i1 i2 i3 w21)).bind fun w23 =>
        (calSV w23 (m_X11_settles a0 w23)).bind fun w25 =>
        some (1, w25)
set_option maxRecDepth 100000 in
set_option maxHeartbeats 4000000 in
theorem s_X11_places {a0 : Nat} {i1 : Int32} {i2 : Int32} {i3 : Int32} {ws : LWd} {rr : Int32} {ws' : LWd} (h : m_X11_places a0 i1 i2 i3 ws = some (rr, ws')) : jSp yX11_places wsX11_places 5 0 0 [.ref a0, .int i1, .int i2, .int i3] ws (.inl (some (.int rr)), ws') := by
  unfold m_X11_places at h
  refine j_entry (ret := (some .boolean)) (nm := "places") (own := RX11) pl_X11 rfl rfl rfl (jcats (by rfl)) (Nat.le_of_ble_eq_true rfl) ?_
  show JG (.inl false) cX11_places 4 RX11 wsX11_places (some .boolean) "places" 5 0 0 ws.length (.inl (some (.int rr)), ws') 0 [some (.ref a0), some (.int i1), some (.int i2), some (.int i3)] [] ws 0 0
  obtain ⟨_, _, h⟩ := obS h
  refine j_aload_n (pc := 0) dX11_places_0 rfl ?_
  obtain ⟨x1, e2, h⟩ := obS h
  refine j_getI (pc := 1) dX11_places_1 (ci := 11) (kf := 4) rfl (jwi hw_X11) (by decide) (jwm lw_565) e2 ?_
  refine j_if_eq (pc := 4) (tgt := 33) dX11_places_4 (by decide) (fun c3 => ?_) (fun c3 => ?_)
  · rw [if_pos c3] at h
    refine j_iconst (pc := 33) dX11_places_33 (v := 0) (by decide) ?_
    obtain ⟨rfl, rfl⟩ := jretS h
    exact j_zretL (pc := 34) (by decide) rfl dX11_places_34 (by decide) (by decide) rfl
  · rw [if_neg c3] at h
    refine j_aload_n (pc := 7) dX11_places_7 rfl ?_
    obtain ⟨x4, e5, h⟩ := obS h
    refine j_getI (pc := 8) dX11_places_8 (ci := 11) (kf := 7) rfl (jwi hw_X11) (by decide) (jwm lw_531) e5 ?_
    refine j_iconst (pc := 11) dX11_places_11 (v := 1) (by decide) ?_
    refine j_aload_n (pc := 12) dX11_places_12 rfl ?_
    refine j_iload_n (pc := 13) dX11_places_13 rfl ?_
    refine j_iload_n (pc := 14) dX11_places_14 rfl ?_
    refine j_iload_n (pc := 15) dX11_places_15 rfl ?_
    obtain ⟨x8, w6, e7, h⟩ := obS2 h
    have ge7 := calSR_of e7
    refine j_callV_g (pc := 16) (As := [.int i1, .int i2, .int i3]) (k' := 0) (n' := 0) dX11_places_16 (s_X11_far ge7.1) (jgV lw_661 lw_662 lw_663 lw_544 lw_660) rfl hv_X11_far rfl (r_X11_far ge7.1) rfl (by decide) (by decide) (Nat.le_of_ble_eq_true rfl) (by decide) (by decide) (by decide) (by decide) (Or.inl ge7.2) ?_
    refine j_iadd (pc := 19) dX11_places_19 ?_
    refine j_icmp_lt (pc := 20) (tgt := 33) dX11_places_20 (by decide) (fun c9 => ?_) (fun c9 => ?_)
    · rw [if_pos c9] at h
      refine j_iconst (pc := 33) dX11_places_33 (v := 0) (by decide) ?_
      obtain ⟨rfl, rfl⟩ := jretS h
      exact j_zretL (pc := 34) (by decide) rfl dX11_places_34 (by decide) (by decide) rfl
    · rw [if_neg c9] at h
      refine j_aload_n (pc := 23) dX11_places_23 rfl ?_
      refine j_iload_n (pc := 24) dX11_places_24 rfl ?_
      refine j_iload_n (pc := 25) dX11_places_25 rfl ?_
      refine j_iload_n (pc := 26) dX11_places_26 rfl ?_
      obtain ⟨x12, w10, e11, h⟩ := obS2 h
      have ge11 := calSR_of e11
      refine j_callV_g (pc := 27) (As := [.int i1, .int i2, .int i3]) (k' := 0) (n' := 0) dX11_places_27 (s_X11_canPlace ge11.1) (jgV lw_665 lw_666 lw_667 lw_544 lw_664) rfl hv_X11_canPlace rfl (r_X11_canPlace ge11.1) rfl (by decide) (by decide) (Nat.le_of_ble_eq_true rfl) (by decide) (by decide) (by decide) (by decide) (Or.inl ge11.2) ?_
      refine j_if_ne (pc := 30) (tgt := 35) dX11_places_30 (by decide) (fun c13 => ?_) (fun c13 => ?_)
      · rw [if_neg c13] at h
        refine j_aload_n (pc := 35) dX11_places_35 rfl ?_
        refine j_dup (pc := 36) dX11_places_36 rfl ?_
        obtain ⟨x14, e15, h⟩ := obS h
        refine j_getI (pc := 37) dX11_places_37 (ci := 11) (kf := 7) rfl (jwi hw_X11) (by decide) (jwm lw_531) e15 ?_
        refine j_iconst (pc := 40) dX11_places_40 (v := 1) (by decide) ?_
        refine j_aload_n (pc := 41) dX11_places_41 rfl ?_
        refine j_iload_n (pc := 42) dX11_places_42 rfl ?_
        refine j_iload_n (pc := 43) dX11_places_43 rfl ?_
        refine j_iload_n (pc := 44) dX11_places_44 rfl ?_
        obtain ⟨x18, w16, e17, h⟩ := obS2 h
        have ge17 := calSR_of e17
        refine j_callV_g (pc := 45) (As := [.int i1, .int i2, .int i3]) (k' := 0) (n' := 0) dX11_places_45 (s_X11_far ge17.1) (jgV lw_661 lw_662 lw_663 lw_544 lw_660) rfl hv_X11_far rfl (r_X11_far ge17.1) rfl (by decide) (by decide) (Nat.le_of_ble_eq_true rfl) (by decide) (by decide) (by decide) (by decide) (Or.inl ge17.2) ?_
        refine j_iadd (pc := 48) dX11_places_48 ?_
        refine j_isub (pc := 49) dX11_places_49 ?_
        obtain ⟨w19, e20, h⟩ := obS h
        refine j_putV (pc := 50) (ci := 11) (kf := 7) tyX11 tyX11_ok nmX11 dX11_places_50 rfl (jwi hw_X11) (by decide) (jwm lw_531) rfl (fun _ => rfl) (fun _ => rfl) e20 ?_
        refine j_aload_n (pc := 53) dX11_places_53 rfl ?_
        refine j_iconst (pc := 54) dX11_places_54 (v := 0) (by decide) ?_
        obtain ⟨w21, e22, h⟩ := obS h
        refine j_putV (pc := 55) (ci := 11) (kf := 22) tyX11 tyX11_ok nmX11 dX11_places_55 rfl (jwi hw_X11) (by decide) (jwm lw_607) rfl (fun _ => rfl) (fun _ => rfl) e22 ?_
        refine j_aload_n (pc := 58) dX11_places_58 rfl ?_
        refine j_iload_n (pc := 59) dX11_places_59 rfl ?_
        refine j_iload_n (pc := 60) dX11_places_60 rfl ?_
        refine j_iload_n (pc := 61) dX11_places_61 rfl ?_
        obtain ⟨w23, e24, h⟩ := obS h
        have ge24 := calSV_of e24
        refine j_callV_g (pc := 62) (As := [.int i1, .int i2, .int i3]) (k' := 0) (n' := 0) dX11_places_62 (s_X11_sets ge24.1) (jgV lw_669 lw_670 lw_671 lw_544 lw_668) rfl hv_X11_sets rfl (r_X11_sets ge24.1) rfl (by decide) (by decide) (Nat.le_of_ble_eq_true rfl) (by decide) (by decide) (by decide) (by decide) (Or.inl ge24.2) ?_
        refine j_aload_n (pc := 65) dX11_places_65 rfl ?_
        obtain ⟨w25, e26, h⟩ := obS h
        have ge26 := calSV_of e26
        refine j_callV_g (pc := 66) (As := []) (k' := 0) (n' := 0) dX11_places_66 (s_X11_settles ge26.1) (jgV lw_653 lw_654 lw_655 lw_544 lw_652) rfl hv_X11_settles rfl (r_X11_settles ge26.1) rfl (by decide) (by decide) (Nat.le_of_ble_eq_true rfl) (by decide) (by decide) (by decide) (by decide) (Or.inl ge26.2) ?_
        refine j_iconst (pc := 69) dX11_places_69 (v := 1) (by decide) ?_
        obtain ⟨rfl, rfl⟩ := jretS h
        exact j_zretL (pc := 70) (by decide) rfl dX11_places_70 (by decide) (by decide) rfl
      · rw [if_pos c13] at h
        refine j_iconst (pc := 33) dX11_places_33 (v := 0) (by decide) ?_
        obtain ⟨rfl, rfl⟩ := jretS h
        exact j_zretL (pc := 34) (by decide) rfl dX11_places_34 (by decide) (by decide) rfl
theorem r_X11_places {a0 : Nat} {i1 : Int32} {i2 : Int32} {i3 : Int32} {ws : LWd} {o : (Int32 × LWd)} (h : m_X11_places a0 i1 i2 i3 ws = some o) : ∃ fs, ws[a0]? = some (.inr (11, fs)) := rcv_in h
def wsX11_moves : List Cond := Cond.code yX11_moves cX11_moves 5 (some .boolean) :: jW
def m_X11_moves_b141 (i3 : Int32) (s0 : Nat) (s1 : Int32) (s2 : Int32) (ws : LWd) : Option (Int32 × LWd) :=
  (pV ws s0 11 6 (.int (s1 - s2))).bind fun w1 =>
  retZ i3 w1
set_option maxRecDepth 100000 in
set_option maxHeartbeats 4000000 in
theorem jm_X11_moves_b141 {n0 : Nat} {rr : Int32} {ws' : LWd} (i3 : Int32) (s0 : Nat) (s1 : Int32) (s2 : Int32) (ws : LWd) (h : m_X11_moves_b141 i3 s0 s1 s2 ws = some (rr, ws')) : JG (.inl false) cX11_moves 5 RX11 wsX11_moves (some .boolean) "moves" 4 0 0 n0 (.inl (some (.int rr)), ws') 141 [none, none, none, some (.int i3), none] [.int s2, .int s1, .ref s0] ws 0 0 := by
  unfold m_X11_moves_b141 at h
  refine j_isub (pc := 141) dX11_moves_141 ?_
  obtain ⟨w1, e2, h⟩ := obS h
  refine j_putV (pc := 142) (ci := 11) (kf := 6) tyX11 tyX11_ok nmX11 dX11_moves_142 rfl (jwi hw_X11) (by decide) (jwm lw_530) rfl (fun _ => rfl) (fun _ => rfl) e2 ?_
  refine j_iload_n (pc := 145) dX11_moves_145 rfl ?_
  exact j_zret (pc := 146) rfl dX11_moves_146 (by decide) (by decide) h rfl rfl
def m_X11_moves_b123 (a0 : Nat) (i2 : Int32) (i3 : Int32) (s0 : Nat) (s1 : Int32) (s2 : Int32) (ws : LWd) : Option (Int32 × LWd) :=
  (pV ws s0 11 5 (.int (s1 - s2))).bind fun w1 =>
  (fI w1 a0 11 6).bind fun x3 =>
  if i3 = 0 then
    m_X11_moves_b141 i3 a0 x3 i2 w1
  else
    m_X11_moves_b141 i3 a0 x3 0 w1
set_option maxRecDepth 100000 in
set_option maxHeartbeats 4000000 in
theorem jm_X11_moves_b123 {n0 : Nat} {rr : Int32} {ws' : LWd} (a0 : Nat) (i2 : Int32) (i3 : Int32) (s0 : Nat) (s1 : Int32) (s2 : Int32) (ws : LWd) (h : m_X11_moves_b123 a0 i2 i3 s0 s1 s2 ws = some (rr, ws')) : JG (.inl false) cX11_moves 5 RX11 wsX11_moves (some .boolean) "moves" 4 0 0 n0 (.inl (some (.int rr)), ws') 123 [some (.ref a0), none, some (.int i2), some (.int i3), none] [.int s2, .int s1, .ref s0] ws 0 0 := by
  unfold m_X11_moves_b123 at h
  refine j_isub (pc := 123) dX11_moves_123 ?_
  obtain ⟨w1, e2, h⟩ := obS h
  refine j_putV (pc := 124) (ci := 11) (kf := 5) tyX11 tyX11_ok nmX11 dX11_moves_124 rfl (jwi hw_X11) (by decide) (jwm lw_529) rfl (fun _ => rfl) (fun _ => rfl) e2 ?_
  refine j_aload_n (pc := 127) dX11_moves_127 rfl ?_
  refine j_dup (pc := 128) dX11_moves_128 rfl ?_
  obtain ⟨x3, e4, h⟩ := obS h
  refine j_getI (pc := 129) dX11_moves_129 (ci := 11) (kf := 6) rfl (jwi hw_X11) (by decide) (jwm lw_530) e4 ?_
  refine j_iload_n (pc := 132) dX11_moves_132 rfl ?_
  refine j_if_eq (pc := 133) (tgt := 140) dX11_moves_133 (by decide) (fun c5 => ?_) (fun c5 => ?_)
  · rw [if_pos c5] at h
    refine j_iload_n (pc := 140) dX11_moves_140 rfl ?_
    refine j_mask [false, false, false, true, false] ?_
    exact jm_X11_moves_b141 _ _ _ _ w1 h
  · rw [if_neg c5] at h
    refine j_iconst (pc := 136) dX11_moves_136 (v := 0) (by decide) ?_
    refine j_goto (pc := 137) (tgt := 141) dX11_moves_137 (by decide) ?_
    refine j_mask [false, false, false, true, false] ?_
    exact jm_X11_moves_b141 _ _ _ _ w1 h
def m_X11_moves_b102 (k54 : Nat → Int32 → Int32 → Int32 → Int32 → LWd → Option (Int32 × LWd)) (a0 : Nat) (i1 : Int32) (i2 : Int32) (i4 : Int32) (s0 : Int32) (ws : LWd) : Option (Int32 × LWd) :=
  k54 a0 i1 i2 s0 (i4 + 1) ws
set_option maxRecDepth 100000 in
set_option maxHeartbeats 4000000 in
theorem jm_X11_moves_b102 {n0 : Nat} {rr : Int32} {ws' : LWd} {k54 : Nat → Int32 → Int32 → Int32 → Int32 → LWd → Option (Int32 × LWd)} (hk54 : ∀ (a0 : Nat) (i1 : Int32) (i2 : Int32) (i3 : Int32) (i4 : Int32) (ws : LWd), k54 a0 i1 i2 i3 i4 ws = some (rr, ws') → JG (.inl false) cX11_moves 5 RX11 wsX11_moves (some .boolean) "moves" 4 0 0 n0 (.inl (some (.int rr)), ws') 54 [some (.ref a0), some (.int i1), some (.int i2), some (.int i3), some (.int i4)] [] ws 0 0) (a0 : Nat) (i1 : Int32) (i2 : Int32) (i4 : Int32) (s0 : Int32) (ws : LWd) (h : m_X11_moves_b102 k54 a0 i1 i2 i4 s0 ws = some (rr, ws')) : JG (.inl false) cX11_moves 5 RX11 wsX11_moves (some .boolean) "moves" 4 0 0 n0 (.inl (some (.int rr)), ws') 102 [some (.ref a0), some (.int i1), some (.int i2), none, some (.int i4)] [.int s0] ws 0 0 := by
  unfold m_X11_moves_b102 at h
  refine j_istore_n_3 (pc := 102) dX11_moves_102 (by decide) rfl ?_
  refine j_iinc_4 (pc := 103) dX11_moves_103 (y := i4 + 1) rfl (by decide) rfl ?_
  refine j_goto (pc := 106) (tgt := 54) dX11_moves_106 (by decide) ?_
  exact hk54 _ _ _ _ _ ws h
def m_X11_moves_b101 (k54 : Nat → Int32 → Int32 → Int32 → Int32 → LWd → Option (Int32 × LWd)) (a0 : Nat) (i1 : Int32) (i2 : Int32) (i4 : Int32) (ws : LWd) : Option (Int32 × LWd) :=
  m_X11_moves_b102 k54 a0 i1 i2 i4 0 ws
set_option maxRecDepth 100000 in
set_option maxHeartbeats 4000000 in
theorem jm_X11_moves_b101 {n0 : Nat} {rr : Int32} {ws' : LWd} {k54 : Nat → Int32 → Int32 → Int32 → Int32 → LWd → Option (Int32 × LWd)} (hk54 : ∀ (a0 : Nat) (i1 : Int32) (i2 : Int32) (i3 : Int32) (i4 : Int32) (ws : LWd), k54 a0 i1 i2 i3 i4 ws = some (rr, ws') → JG (.inl false) cX11_moves 5 RX11 wsX11_moves (some .boolean) "moves" 4 0 0 n0 (.inl (some (.int rr)), ws') 54 [some (.ref a0), some (.int i1), some (.int i2), some (.int i3), some (.int i4)] [] ws 0 0) (a0 : Nat) (i1 : Int32) (i2 : Int32) (i4 : Int32) (ws : LWd) (h : m_X11_moves_b101 k54 a0 i1 i2 i4 ws = some (rr, ws')) : JG (.inl false) cX11_moves 5 RX11 wsX11_moves (some .boolean) "moves" 4 0 0 n0 (.inl (some (.int rr)), ws') 101 [some (.ref a0), some (.int i1), some (.int i2), none, some (.int i4)] [] ws 0 0 := by
  unfold m_X11_moves_b101 at h
  refine j_iconst (pc := 101) dX11_moves_101 (v := 0) (by decide) ?_
  exact jm_X11_moves_b102 (hk54 := hk54) _ _ _ _ _ ws h
def m_X11_moves_b97 (k54 : Nat → Int32 → Int32 → Int32 → Int32 → LWd → Option (Int32 × LWd)) (a0 : Nat) (i1 : Int32) (i2 : Int32) (i4 : Int32) (ws : LWd) : Option (Int32 × LWd) :=
  m_X11_moves_b102 k54 a0 i1 i2 i4 1 ws
set_option maxRecDepth 100000 in
set_option maxHeartbeats 4000000 in
theorem jm_X11_moves_b97 {n0 : Nat} {rr : Int32} {ws' : LWd} {k54 : Nat → Int32 → Int32 → Int32 → Int32 → LWd → Option (Int32 × LWd)} (hk54 : ∀ (a0 : Nat) (i1 : Int32) (i2 : Int32) (i3 : Int32) (i4 : Int32) (ws : LWd), k54 a0 i1 i2 i3 i4 ws = some (rr, ws') → JG (.inl false) cX11_moves 5 RX11 wsX11_moves (some .boolean) "moves" 4 0 0 n0 (.inl (some (.int rr)), ws') 54 [some (.ref a0), some (.int i1), some (.int i2), some (.int i3), some (.int i4)] [] ws 0 0) (a0 : Nat) (i1 : Int32) (i2 : Int32) (i4 : Int32) (ws : LWd) (h : m_X11_moves_b97 k54 a0 i1 i2 i4 ws = some (rr, ws')) : JG (.inl false) cX11_moves 5 RX11 wsX11_moves (some .boolean) "moves" 4 0 0 n0 (.inl (some (.int rr)), ws') 97 [some (.ref a0), some (.int i1), some (.int i2), none, some (.int i4)] [] ws 0 0 := by
  unfold m_X11_moves_b97 at h
  refine j_iconst (pc := 97) dX11_moves_97 (v := 1) (by decide) ?_
  refine j_goto (pc := 98) (tgt := 102) dX11_moves_98 (by decide) ?_
  exact jm_X11_moves_b102 (hk54 := hk54) _ _ _ _ _ ws h
def m_X11_moves_l54 : Nat → Nat → Int32 → Int32 → Int32 → Int32 → LWd → Option (Int32 × LWd)
  | 0, _, _, _, _, _, _ => none
  | fu + 1, a0, i1, i2, i3, i4, ws =>
    if 6 ≤ i4 then
      (fI ws a0 11 5).bind fun x2 =>
      if i3 = 0 then
        m_X11_moves_b123 a0 i2 i3 a0 x2 i1 ws
      else
        m_X11_moves_b123 a0 i2 i3 a0 x2 0 ws
    else
      if i3 = 0 then
        m_X11_moves_b101 (fun z0 z1 z2 z3 z4 w => m_X11_moves_l54 fu z0 z1 z2 z3 z4 w) a0 i1 i2 i4 ws
      else
        bn2 (calSR ws (m_X11_isDown a0 i4 ws)) fun x8 w6 =>
        if x8 = 0 then
          m_X11_moves_b97 (fun z0 z1 z2 z3 z4 w => m_X11_moves_l54 fu z0 z1 z2 z3 z4 w) a0 i1 i2 i4 w6
        else
          (fR w6 a0 11 15).bind fun x10 =>
          (aI w6 x10 i4).bind fun x12 =>
          (fR w6 a0 11 16).bind fun x14 =>
          (aI w6 x14 i4).bind fun x16 =>
          bn2 (calSR w6 (m_X11_isInReach a0 i4 x12 x16 w6)) fun x20 w18 =>
          if x20 = 0 then
            m_X11_moves_b101 (fun z0 z1 z2 z3 z4 w => m_X11_moves_l54 fu z0 z1 z2 z3 z4 w) a0 i1 i2 i4 w18
          else
            m_X11_moves_b97 (fun z0 z1 z2 z3 z4 w => m_X11_moves_l54 fu z0 z1 z2 z3 z4 w) a0 i1 i2 i4 w18
set_option maxRecDepth 100000 in
set_option maxHeartbeats 4000000 in
theorem jm_X11_moves_l54 {n0 : Nat} {rr : Int32} {ws' : LWd} : ∀ (fu : Nat) (a0 : Nat) (i1 : Int32) (i2 : Int32) (i3 : Int32) (i4 : Int32) (ws : LWd), m_X11_moves_l54 fu a0 i1 i2 i3 i4 ws = some (rr, ws') → JG (.inl false) cX11_moves 5 RX11 wsX11_moves (some .boolean) "moves" 4 0 0 n0 (.inl (some (.int rr)), ws') 54 [some (.ref a0), some (.int i1), some (.int i2), some (.int i3), some (.int i4)] [] ws 0 0 := by
  intro fu
  induction fu with
  | zero => intro a0 i1 i2 i3 i4 ws h; cases h
  | succ fu ih =>
    intro a0 i1 i2 i3 i4 ws h
    rw [m_X11_moves_l54] at h
    refine j_iload (pc := 54) dX11_moves_54 rfl ?_
    refine j_bipush (pc := 56) dX11_moves_56 (v := 6) (by decide) ?_
    refine j_icmp_ge (pc := 58) (tgt := 109) dX11_moves_58 (by decide) (fun c1 => ?_) (fun c1 => ?_)
    · rw [if_pos c1] at h
      refine j_aload_n (pc := 109) dX11_moves_109 rfl ?_
      refine j_dup (pc := 110) dX11_moves_110 rfl ?_
      obtain ⟨x2, e3, h⟩ := obS h
      refine j_getI (pc := 111) dX11_moves_111 (ci := 11) (kf := 5) rfl (jwi hw_X11) (by decide) (jwm lw_529) e3 ?_
      refine j_iload_n (pc := 114) dX11_moves_114 rfl ?_
      refine j_if_eq (pc := 115) (tgt := 122) dX11_moves_115 (by decide) (fun c4 => ?_) (fun c4 => ?_)
      · rw [if_pos c4] at h
        refine j_iload_n (pc := 122) dX11_moves_122 rfl ?_
        refine j_mask [true, false, true, true, false] ?_
        exact jm_X11_moves_b123 _ _ _ _ _ _ ws h
      · rw [if_neg c4] at h
        refine j_iconst (pc := 118) dX11_moves_118 (v := 0) (by decide) ?_
        refine j_goto (pc := 119) (tgt := 123) dX11_moves_119 (by decide) ?_
        refine j_mask [true, false, true, true, false] ?_
        exact jm_X11_moves_b123 _ _ _ _ _ _ ws h
    · rw [if_neg c1] at h
      refine j_iload_n (pc := 61) dX11_moves_61 rfl ?_
      refine j_if_eq (pc := 62) (tgt := 101) dX11_moves_62 (by decide) (fun c5 => ?_) (fun c5 => ?_)
      · rw [if_pos c5] at h
        refine j_mask [true, true, true, false, true] ?_
        exact jm_X11_moves_b101 (hk54 := ih) _ _ _ _ ws h
      · rw [if_neg c5] at h
        refine j_aload_n (pc := 65) dX11_moves_65 rfl ?_
        refine j_iload (pc := 66) dX11_moves_66 rfl ?_
        obtain ⟨x8, w6, e7, h⟩ := obS2 h
        have ge7 := calSR_of e7
        refine j_callV_g (pc := 68) (As := [.int i4]) (k' := 0) (n' := 0) dX11_moves_68 (s_X11_isDown ge7.1) (jgV lw_548 lw_549 lw_550 lw_544 lw_547) rfl hv_X11_isDown rfl (r_X11_isDown ge7.1) rfl (by decide) (by decide) (Nat.le_of_ble_eq_true rfl) (by decide) (by decide) (by decide) (by decide) (Or.inl ge7.2) ?_
        refine j_if_eq (pc := 71) (tgt := 97) dX11_moves_71 (by decide) (fun c9 => ?_) (fun c9 => ?_)
        · rw [if_pos c9] at h
          refine j_mask [true, true, true, false, true] ?_
          exact jm_X11_moves_b97 (hk54 := ih) _ _ _ _ w6 h
        · rw [if_neg c9] at h
          refine j_aload_n (pc := 74) dX11_moves_74 rfl ?_
          refine j_iload (pc := 75) dX11_moves_75 rfl ?_
          refine j_aload_n (pc := 77) dX11_moves_77 rfl ?_
          obtain ⟨x10, e11, h⟩ := obS h
          refine j_getR (pc := 78) dX11_moves_78 (ci := 11) (kf := 15) rfl (jwi hw_X11) (by decide) (jwm lw_535) e11 ?_
          refine j_iload (pc := 81) dX11_moves_81 rfl ?_
          obtain ⟨x12, e13, h⟩ := obS h
          refine j_iald (pc := 83) dX11_moves_83 e13 ?_
          refine j_aload_n (pc := 84) dX11_moves_84 rfl ?_
          obtain ⟨x14, e15, h⟩ := obS h
          refine j_getR (pc := 85) dX11_moves_85 (ci := 11) (kf := 16) rfl (jwi hw_X11) (by decide) (jwm lw_536) e15 ?_
          refine j_iload (pc := 88) dX11_moves_88 rfl ?_
          obtain ⟨x16, e17, h⟩ := obS h
          refine j_iald (pc := 90) dX11_moves_90 e17 ?_
          obtain ⟨x20, w18, e19, h⟩ := obS2 h
          have ge19 := calSR_of e19
          refine j_callV_g (pc := 91) (As := [.int i4, .int x12, .int x16]) (k' := 0) (n' := 0) dX11_moves_91 (s_X11_isInReach ge19.1) (jgV lw_625 lw_626 lw_627 lw_544 lw_624) rfl hv_X11_isInReach rfl (r_X11_isInReach ge19.1) rfl (by decide) (by decide) (Nat.le_of_ble_eq_true rfl) (by decide) (by decide) (by decide) (by decide) (Or.inl ge19.2) ?_
          refine j_if_eq (pc := 94) (tgt := 101) dX11_moves_94 (by decide) (fun c21 => ?_) (fun c21 => ?_)
          · rw [if_pos c21] at h
            refine j_mask [true, true, true, false, true] ?_
            exact jm_X11_moves_b101 (hk54 := ih) _ _ _ _ w18 h
          · rw [if_neg c21] at h
            refine j_mask [true, true, true, false, true] ?_
            exact jm_X11_moves_b97 (hk54 := ih) _ _ _ _ w18 h
def m_X11_moves_b50 (a0 : Nat) (i1 : Int32) (i2 : Int32) (s0 : Int32) (ws : LWd) : Option (Int32 × LWd) :=
  m_X11_moves_l54 FU a0 i1 i2 s0 0 ws
set_option maxRecDepth 100000 in
set_option maxHeartbeats 4000000 in
theorem jm_X11_moves_b50 {n0 : Nat} {rr : Int32} {ws' : LWd} (a0 : Nat) (i1 : Int32) (i2 : Int32) (s0 : Int32) (ws : LWd) (h : m_X11_moves_b50 a0 i1 i2 s0 ws = some (rr, ws')) : JG (.inl false) cX11_moves 5 RX11 wsX11_moves (some .boolean) "moves" 4 0 0 n0 (.inl (some (.int rr)), ws') 50 [some (.ref a0), some (.int i1), some (.int i2), none, none] [.int s0] ws 0 0 := by
  unfold m_X11_moves_b50 at h
  refine j_istore_n_3 (pc := 50) dX11_moves_50 (by decide) rfl ?_
  refine j_iconst (pc := 51) dX11_moves_51 (v := 0) (by decide) ?_
  refine j_istore_4 (pc := 52) dX11_moves_52 (by decide) rfl ?_
  exact jm_X11_moves_l54 FU _ _ _ _ _ ws h
def m_X11_moves_b49 (a0 : Nat) (i1 : Int32) (i2 : Int32) (ws : LWd) : Option (Int32 × LWd) :=
  m_X11_moves_b50 a0 i1 i2 0 ws
set_option maxRecDepth 100000 in
set_option maxHeartbeats 4000000 in
theorem jm_X11_moves_b49 {n0 : Nat} {rr : Int32} {ws' : LWd} (a0 : Nat) (i1 : Int32) (i2 : Int32) (ws : LWd) (h : m_X11_moves_b49 a0 i1 i2 ws = some (rr, ws')) : JG (.inl false) cX11_moves 5 RX11 wsX11_moves (some .boolean) "moves" 4 0 0 n0 (.inl (some (.int rr)), ws') 49 [some (.ref a0), some (.int i1), some (.int i2), none, none] [] ws 0 0 := by
  unfold m_X11_moves_b49 at h
  refine j_iconst (pc := 49) dX11_moves_49 (v := 0) (by decide) ?_
  exact jm_X11_moves_b50 _ _ _ _ ws h
def m_X11_moves (a0 : Nat) (i1 : Int32) (i2 : Int32) (ws : LWd) : Option (Int32 × LWd) :=
  (rcv ws a0 11).bind fun _ =>
  (fI ws a0 11 5).bind fun x1 =>
  (pV ws a0 11 5 (.int (x1 + i1))).bind fun w3 =>
  (fI w3 a0 11 6).bind fun x5 =>
  (pV w3 a0 11 6 (.int (x5 + i2))).bind fun w7 =>
  (fI w7 a0 11 5).bind fun x9 =>
  (fI w7 a0 11 6).bind fun x11 =>
  bn2 (calSR w7 (m_X11_isPoint x9 x11 w7)) fun x15 w13 =>
  if x15 = 0 then
    m_X11_moves_b49 a0 i1 i2 w13
  else
    (fI w13 a0 11 17).bind fun x17 =>
    bn2 (calSR w13 (m_X11_holds a0 x17 w13)) fun x21 w19 =>
    if x21 = 0 then
      m_X11_moves_b49 a0 i1 i2 w19
    else
      m_X11_moves_b50 a0 i1 i2 1 w19
set_option maxRecDepth 100000 in
set_option maxHeartbeats 4000000 in
theorem s_X11_moves {a0 : Nat} {i1 : Int32} {i2 : Int32} {ws : LWd} {rr : Int32} {ws' : LWd} (h : m_X11_moves a0 i1 i2 ws = some (rr, ws')) : jSp yX11_moves wsX11_moves 4 0 0 [.ref a0, .int i1, .int i2] ws (.inl (some (.int rr)), ws') := by
  unfold m_X11_moves at h
  refine j_entry (ret := (some .boolean)) (nm := "moves") (own := RX11) pl_X11 rfl rfl rfl (jcats (by rfl)) (Nat.le_of_ble_eq_true rfl) ?_
  show JG (.inl false) cX11_moves 5 RX11 wsX11_moves (some .boolean) "moves" 4 0 0 ws.length (.inl (some (.int rr)), ws') 0 [some (.ref a0), some (.int i1), some (.int i2), none, none] [] ws 0 0
  obtain ⟨_, _, h⟩ := obS h
  refine j_aload_n (pc := 0) dX11_moves_0 rfl ?_
  refine j_dup (pc := 1) dX11_moves_1 rfl ?_
  obtain ⟨x1, e2, h⟩ := obS h
  refine j_getI (pc := 2) dX11_moves_2 (ci := 11) (kf := 5) rfl (jwi hw_X11) (by decide) (jwm lw_529) e2 ?_
  refine j_iload_n (pc := 5) dX11_moves_5 rfl ?_
  refine j_iadd (pc := 6) dX11_moves_6 ?_
  obtain ⟨w3, e4, h⟩ := obS h
  refine j_putV (pc := 7) (ci := 11) (kf := 5) tyX11 tyX11_ok nmX11 dX11_moves_7 rfl (jwi hw_X11) (by decide) (jwm lw_529) rfl (fun _ => rfl) (fun _ => rfl) e4 ?_
  refine j_aload_n (pc := 10) dX11_moves_10 rfl ?_
  refine j_dup (pc := 11) dX11_moves_11 rfl ?_
  obtain ⟨x5, e6, h⟩ := obS h
  refine j_getI (pc := 12) dX11_moves_12 (ci := 11) (kf := 6) rfl (jwi hw_X11) (by decide) (jwm lw_530) e6 ?_
  refine j_iload_n (pc := 15) dX11_moves_15 rfl ?_
  refine j_iadd (pc := 16) dX11_moves_16 ?_
  obtain ⟨w7, e8, h⟩ := obS h
  refine j_putV (pc := 17) (ci := 11) (kf := 6) tyX11 tyX11_ok nmX11 dX11_moves_17 rfl (jwi hw_X11) (by decide) (jwm lw_530) rfl (fun _ => rfl) (fun _ => rfl) e8 ?_
  refine j_aload_n (pc := 20) dX11_moves_20 rfl ?_
  obtain ⟨x9, e10, h⟩ := obS h
  refine j_getI (pc := 21) dX11_moves_21 (ci := 11) (kf := 5) rfl (jwi hw_X11) (by decide) (jwm lw_529) e10 ?_
  refine j_aload_n (pc := 24) dX11_moves_24 rfl ?_
  obtain ⟨x11, e12, h⟩ := obS h
  refine j_getI (pc := 25) dX11_moves_25 (ci := 11) (kf := 6) rfl (jwi hw_X11) (by decide) (jwm lw_530) e12 ?_
  obtain ⟨x15, w13, e14, h⟩ := obS2 h
  have ge14 := calSR_of e14
  refine j_callS_g (pc := 28) (As := [.int x9, .int x11]) (k' := 0) (n' := 0) dX11_moves_28 (s_X11_isPoint ge14.1) (jgS lw_563 lw_564 lw_544 lw_562) rfl hy_X11_isPoint rfl (by decide) (by decide) (Nat.le_of_ble_eq_true rfl) (by decide) (by decide) (by decide) (by decide) (Or.inl ge14.2) ?_
  refine j_if_eq (pc := 31) (tgt := 49) dX11_moves_31 (by decide) (fun c16 => ?_) (fun c16 => ?_)
  · rw [if_pos c16] at h
    exact jm_X11_moves_b49 _ _ _ w13 h
  · rw [if_neg c16] at h
    refine j_aload_n (pc := 34) dX11_moves_34 rfl ?_
    refine j_aload_n (pc := 35) dX11_moves_35 rfl ?_
    obtain ⟨x17, e18, h⟩ := obS h
    refine j_getI (pc := 36) dX11_moves_36 (ci := 11) (kf := 17) rfl (jwi hw_X11) (by decide) (jwm lw_546) e18 ?_
    obtain ⟨x21, w19, e20, h⟩ := obS2 h
    have ge20 := calSR_of e20
    refine j_callV_g (pc := 39) (As := [.int x17]) (k' := 0) (n' := 0) dX11_moves_39 (s_X11_holds ge20.1) (jgV lw_645 lw_646 lw_647 lw_544 lw_644) rfl hv_X11_holds rfl (r_X11_holds ge20.1) rfl (by decide) (by decide) (Nat.le_of_ble_eq_true rfl) (by decide) (by decide) (by decide) (by decide) (Or.inl ge20.2) ?_
    refine j_if_eq (pc := 42) (tgt := 49) dX11_moves_42 (by decide) (fun c22 => ?_) (fun c22 => ?_)
    · rw [if_pos c22] at h
      exact jm_X11_moves_b49 _ _ _ w19 h
    · rw [if_neg c22] at h
      refine j_iconst (pc := 45) dX11_moves_45 (v := 1) (by decide) ?_
      refine j_goto (pc := 46) (tgt := 50) dX11_moves_46 (by decide) ?_
      exact jm_X11_moves_b50 _ _ _ _ w19 h
theorem r_X11_moves {a0 : Nat} {i1 : Int32} {i2 : Int32} {ws : LWd} {o : (Int32 × LWd)} (h : m_X11_moves a0 i1 i2 ws = some o) : ∃ fs, ws[a0]? = some (.inr (11, fs)) := rcv_in h
def wsX11_shifts : List Cond := Cond.code yX11_shifts cX11_shifts 4 (some .boolean) :: jW
def m_X11_shifts (a0 : Nat) (i1 : Int32) (i2 : Int32) (ws : LWd) : Option (Int32 × LWd) :=
  (rcv ws a0 11).bind fun _ =>
  bn2 (calSR ws (m_X11_weight a0 ws)) fun x3 w1 =>
  (fI w1 a0 11 4).bind fun x4 =>
  if x4 = 0 then
    some (0, w1)
  else
    (fI w1 a0 11 7).bind fun x7 =>
    if x7 < ((x3 + 9) / 10) then
      some (0, w1)
    else
      bn2 (calSR w1 (m_X11_moves a0 i1 i2 w1)) fun x12 w10 =>
      if x12 = 0 then
        some (0, w10)
      else
        (fI w10 a0 11 7).bind fun x14 =>
        (pV w10 a0 11 7 (.int (x14 - ((x3 + 9) / 10)))).bind fun w16 =>
        (pV w16 a0 11 22 (.int 0)).bind fun w18 =>
        (calSV w18 (m_X11_settles a0 w18)).bind fun w20 =>
        some (1, w20)
set_option maxRecDepth 100000 in
set_option maxHeartbeats 4000000 in
theorem s_X11_shifts {a0 : Nat} {i1 : Int32} {i2 : Int32} {ws : LWd} {rr : Int32} {ws' : LWd} (h : m_X11_shifts a0 i1 i2 ws = some (rr, ws')) : jSp yX11_shifts wsX11_shifts 5 0 0 [.ref a0, .int i1, .int i2] ws (.inl (some (.int rr)), ws') := by
  unfold m_X11_shifts at h
  refine j_entry (ret := (some .boolean)) (nm := "shifts") (own := RX11) pl_X11 rfl rfl rfl (jcats (by rfl)) (Nat.le_of_ble_eq_true rfl) ?_
  show JG (.inl false) cX11_shifts 4 RX11 wsX11_shifts (some .boolean) "shifts" 5 0 0 ws.length (.inl (some (.int rr)), ws') 0 [some (.ref a0), some (.int i1), some (.int i2), none] [] ws 0 0
  obtain ⟨_, _, h⟩ := obS h
  refine j_aload_n (pc := 0) dX11_shifts_0 rfl ?_
  obtain ⟨x3, w1, e2, h⟩ := obS2 h
  have ge2 := calSR_of e2
  refine j_callV_g (pc := 1) (As := []) (k' := 0) (n' := 0) dX11_shifts_1 (s_X11_weight ge2.1) (jgV lw_574 lw_575 lw_576 lw_544 lw_573) rfl hv_X11_weight rfl (r_X11_weight ge2.1) rfl (by decide) (by decide) (Nat.le_of_ble_eq_true rfl) (by decide) (by decide) (by decide) (by decide) (Or.inl ge2.2) ?_
  refine j_bipush (pc := 4) dX11_shifts_4 (v := 9) (by decide) ?_
  refine j_iadd (pc := 6) dX11_shifts_6 ?_
  refine j_bipush (pc := 7) dX11_shifts_7 (v := 10) (by decide) ?_
  refine j_idiv (pc := 9) dX11_shifts_9 (by decide) ?_
  refine j_istore_n_3 (pc := 10) dX11_shifts_10 (by decide) rfl ?_
  refine j_aload_n (pc := 11) dX11_shifts_11 rfl ?_
  obtain ⟨x4, e5, h⟩ := obS h
  refine j_getI (pc := 12) dX11_shifts_12 (ci := 11) (kf := 4) rfl (jwi hw_X11) (by decide) (jwm lw_565) e5 ?_
  refine j_if_eq (pc := 15) (tgt := 35) dX11_shifts_15 (by decide) (fun c6 => ?_) (fun c6 => ?_)
  · rw [if_pos c6] at h
    refine j_iconst (pc := 35) dX11_shifts_35 (v := 0) (by decide) ?_
    obtain ⟨rfl, rfl⟩ := jretS h
    exact j_zretL (pc := 36) (by decide) rfl dX11_shifts_36 (by decide) (by decide) rfl
  · rw [if_neg c6] at h
    refine j_aload_n (pc := 18) dX11_shifts_18 rfl ?_
    obtain ⟨x7, e8, h⟩ := obS h
    refine j_getI (pc := 19) dX11_shifts_19 (ci := 11) (kf := 7) rfl (jwi hw_X11) (by decide) (jwm lw_531) e8 ?_
    refine j_iload_n (pc := 22) dX11_shifts_22 rfl ?_
    refine j_icmp_lt (pc := 23) (tgt := 35) dX11_shifts_23 (by decide) (fun c9 => ?_) (fun c9 => ?_)
    · rw [if_pos c9] at h
      refine j_iconst (pc := 35) dX11_shifts_35 (v := 0) (by decide) ?_
      obtain ⟨rfl, rfl⟩ := jretS h
      exact j_zretL (pc := 36) (by decide) rfl dX11_shifts_36 (by decide) (by decide) rfl
    · rw [if_neg c9] at h
      refine j_aload_n (pc := 26) dX11_shifts_26 rfl ?_
      refine j_iload_n (pc := 27) dX11_shifts_27 rfl ?_
      refine j_iload_n (pc := 28) dX11_shifts_28 rfl ?_
      obtain ⟨x12, w10, e11, h⟩ := obS2 h
      have ge11 := calSR_of e11
      refine j_callV_g (pc := 29) (As := [.int i1, .int i2]) (k' := 0) (n' := 0) dX11_shifts_29 (s_X11_moves ge11.1) (jgV lw_673 lw_674 lw_675 lw_544 lw_672) rfl hv_X11_moves rfl (r_X11_moves ge11.1) rfl (by decide) (by decide) (Nat.le_of_ble_eq_true rfl) (by decide) (by decide) (by decide) (by decide) (Or.inl ge11.2) ?_
      refine j_if_ne (pc := 32) (tgt := 37) dX11_shifts_32 (by decide) (fun c13 => ?_) (fun c13 => ?_)
      · rw [if_neg c13] at h
        refine j_aload_n (pc := 37) dX11_shifts_37 rfl ?_
        refine j_dup (pc := 38) dX11_shifts_38 rfl ?_
        obtain ⟨x14, e15, h⟩ := obS h
        refine j_getI (pc := 39) dX11_shifts_39 (ci := 11) (kf := 7) rfl (jwi hw_X11) (by decide) (jwm lw_531) e15 ?_
        refine j_iload_n (pc := 42) dX11_shifts_42 rfl ?_
        refine j_isub (pc := 43) dX11_shifts_43 ?_
        obtain ⟨w16, e17, h⟩ := obS h
        refine j_putV (pc := 44) (ci := 11) (kf := 7) tyX11 tyX11_ok nmX11 dX11_shifts_44 rfl (jwi hw_X11) (by decide) (jwm lw_531) rfl (fun _ => rfl) (fun _ => rfl) e17 ?_
        refine j_aload_n (pc := 47) dX11_shifts_47 rfl ?_
        refine j_iconst (pc := 48) dX11_shifts_48 (v := 0) (by decide) ?_
        obtain ⟨w18, e19, h⟩ := obS h
        refine j_putV (pc := 49) (ci := 11) (kf := 22) tyX11 tyX11_ok nmX11 dX11_shifts_49 rfl (jwi hw_X11) (by decide) (jwm lw_607) rfl (fun _ => rfl) (fun _ => rfl) e19 ?_
        refine j_aload_n (pc := 52) dX11_shifts_52 rfl ?_
        obtain ⟨w20, e21, h⟩ := obS h
        have ge21 := calSV_of e21
        refine j_callV_g (pc := 53) (As := []) (k' := 0) (n' := 0) dX11_shifts_53 (s_X11_settles ge21.1) (jgV lw_653 lw_654 lw_655 lw_544 lw_652) rfl hv_X11_settles rfl (r_X11_settles ge21.1) rfl (by decide) (by decide) (Nat.le_of_ble_eq_true rfl) (by decide) (by decide) (by decide) (by decide) (Or.inl ge21.2) ?_
        refine j_iconst (pc := 56) dX11_shifts_56 (v := 1) (by decide) ?_
        obtain ⟨rfl, rfl⟩ := jretS h
        exact j_zretL (pc := 57) (by decide) rfl dX11_shifts_57 (by decide) (by decide) rfl
      · rw [if_pos c13] at h
        refine j_iconst (pc := 35) dX11_shifts_35 (v := 0) (by decide) ?_
        obtain ⟨rfl, rfl⟩ := jretS h
        exact j_zretL (pc := 36) (by decide) rfl dX11_shifts_36 (by decide) (by decide) rfl
theorem r_X11_shifts {a0 : Nat} {i1 : Int32} {i2 : Int32} {ws : LWd} {o : (Int32 × LWd)} (h : m_X11_shifts a0 i1 i2 ws = some o) : ∃ fs, ws[a0]? = some (.inr (11, fs)) := rcv_in h
def wsX11_load : List Cond := Cond.code yX11_load cX11_load 8 (some .int) :: jW
def m_X11_load_b108 (a0 : Nat) (i5 : Int32) (i6 : Int32) (i7 : Int32) (s0 : Nat) (s1 : Int32) (ws : LWd) : Option (Int32 × LWd) :=
  bn2 (calSR ws (m_X11_fails s0 s1 ws)) fun x3 w1 =>
  if x3 = 0 then
    (pV w1 a0 11 22 (.int 0)).bind fun w5 =>
    (calSV w5 (m_X11_settles a0 w5)).bind fun w7 =>
    (fI w7 a0 11 22).bind fun x9 =>
    some (x9, w7)
  else
    (pV w1 a0 11 8 (.int i5)).bind fun w11 =>
    (pV w11 a0 11 9 (.int i6)).bind fun w13 =>
    (pV w13 a0 11 10 (.int i7)).bind fun w15 =>
    some (0, w15)
set_option maxRecDepth 100000 in
set_option maxHeartbeats 4000000 in
theorem jm_X11_load_b108 {n0 : Nat} {rr : Int32} {ws' : LWd} (a0 : Nat) (i5 : Int32) (i6 : Int32) (i7 : Int32) (s0 : Nat) (s1 : Int32) (ws : LWd) (h : m_X11_load_b108 a0 i5 i6 i7 s0 s1 ws = some (rr, ws')) : JG (.inl false) cX11_load 8 RX11 wsX11_load (some .int) "load" 5 0 0 n0 (.inl (some (.int rr)), ws') 108 [some (.ref a0), none, none, none, none, some (.int i5), some (.int i6), some (.int i7)] [.int s1, .ref s0] ws 0 0 := by
  unfold m_X11_load_b108 at h
  obtain ⟨x3, w1, e2, h⟩ := obS2 h
  have ge2 := calSR_of e2
  refine j_callV_g (pc := 108) (As := [.int s1]) (k' := 0) (n' := 0) dX11_load_108 (s_X11_fails ge2.1) (jgV lw_552 lw_553 lw_554 lw_544 lw_551) rfl hv_X11_fails rfl (r_X11_fails ge2.1) rfl (by decide) (by decide) (Nat.le_of_ble_eq_true rfl) (by decide) (by decide) (by decide) (by decide) (Or.inl ge2.2) ?_
  refine j_if_eq (pc := 111) (tgt := 134) dX11_load_111 (by decide) (fun c4 => ?_) (fun c4 => ?_)
  · rw [if_pos c4] at h
    refine j_aload_n (pc := 134) dX11_load_134 rfl ?_
    refine j_iconst (pc := 135) dX11_load_135 (v := 0) (by decide) ?_
    obtain ⟨w5, e6, h⟩ := obS h
    refine j_putV (pc := 136) (ci := 11) (kf := 22) tyX11 tyX11_ok nmX11 dX11_load_136 rfl (jwi hw_X11) (by decide) (jwm lw_607) rfl (fun _ => rfl) (fun _ => rfl) e6 ?_
    refine j_aload_n (pc := 139) dX11_load_139 rfl ?_
    obtain ⟨w7, e8, h⟩ := obS h
    have ge8 := calSV_of e8
    refine j_callV_g (pc := 140) (As := []) (k' := 0) (n' := 0) dX11_load_140 (s_X11_settles ge8.1) (jgV lw_653 lw_654 lw_655 lw_544 lw_652) rfl hv_X11_settles rfl (r_X11_settles ge8.1) rfl (by decide) (by decide) (Nat.le_of_ble_eq_true rfl) (by decide) (by decide) (by decide) (by decide) (Or.inl ge8.2) ?_
    refine j_aload_n (pc := 143) dX11_load_143 rfl ?_
    obtain ⟨x9, e10, h⟩ := obS h
    refine j_getI (pc := 144) dX11_load_144 (ci := 11) (kf := 22) rfl (jwi hw_X11) (by decide) (jwm lw_607) e10 ?_
    obtain ⟨rfl, rfl⟩ := jretS h
    exact j_iret (pc := 147) rfl dX11_load_147 (by decide) (by decide) rfl
  · rw [if_neg c4] at h
    refine j_aload_n (pc := 114) dX11_load_114 rfl ?_
    refine j_iload (pc := 115) dX11_load_115 rfl ?_
    obtain ⟨w11, e12, h⟩ := obS h
    refine j_putV (pc := 117) (ci := 11) (kf := 8) tyX11 tyX11_ok nmX11 dX11_load_117 rfl (jwi hw_X11) (by decide) (jwm lw_572) rfl (fun _ => rfl) (fun _ => rfl) e12 ?_
    refine j_aload_n (pc := 120) dX11_load_120 rfl ?_
    refine j_iload (pc := 121) dX11_load_121 rfl ?_
    obtain ⟨w13, e14, h⟩ := obS h
    refine j_putV (pc := 123) (ci := 11) (kf := 9) tyX11 tyX11_ok nmX11 dX11_load_123 rfl (jwi hw_X11) (by decide) (jwm lw_577) rfl (fun _ => rfl) (fun _ => rfl) e14 ?_
    refine j_aload_n (pc := 126) dX11_load_126 rfl ?_
    refine j_iload (pc := 127) dX11_load_127 rfl ?_
    obtain ⟨w15, e16, h⟩ := obS h
    refine j_putV (pc := 129) (ci := 11) (kf := 10) tyX11 tyX11_ok nmX11 dX11_load_129 rfl (jwi hw_X11) (by decide) (jwm lw_578) rfl (fun _ => rfl) (fun _ => rfl) e16 ?_
    refine j_iconst (pc := 132) dX11_load_132 (v := 0) (by decide) ?_
    obtain ⟨rfl, rfl⟩ := jretS h
    exact j_iret (pc := 133) rfl dX11_load_133 (by decide) (by decide) rfl
def m_X11_load_b107 (a0 : Nat) (i5 : Int32) (i6 : Int32) (i7 : Int32) (s0 : Nat) (ws : LWd) : Option (Int32 × LWd) :=
  m_X11_load_b108 a0 i5 i6 i7 s0 0 ws
set_option maxRecDepth 100000 in
set_option maxHeartbeats 4000000 in
theorem jm_X11_load_b107 {n0 : Nat} {rr : Int32} {ws' : LWd} (a0 : Nat) (i5 : Int32) (i6 : Int32) (i7 : Int32) (s0 : Nat) (ws : LWd) (h : m_X11_load_b107 a0 i5 i6 i7 s0 ws = some (rr, ws')) : JG (.inl false) cX11_load 8 RX11 wsX11_load (some .int) "load" 5 0 0 n0 (.inl (some (.int rr)), ws') 107 [some (.ref a0), none, none, none, none, some (.int i5), some (.int i6), some (.int i7)] [.ref s0] ws 0 0 := by
  unfold m_X11_load_b107 at h
  refine j_iconst (pc := 107) dX11_load_107 (v := 0) (by decide) ?_
  exact jm_X11_load_b108 _ _ _ _ _ _ ws h
def m_X11_load_b75 (a0 : Nat) (i4 : Int32) (i5 : Int32) (i6 : Int32) (i7 : Int32) (ws : LWd) : Option (Int32 × LWd) :=
  if i4 = 0 then
    m_X11_load_b108 a0 i5 i6 i7 a0 1 ws
  else
    (fI ws a0 11 4).bind fun x2 =>
    if x2 = 0 then
      m_X11_load_b107 a0 i5 i6 i7 a0 ws
    else
      (fI ws a0 11 17).bind fun x5 =>
      bn2 (calSR ws (m_X11_holds a0 x5 ws)) fun x9 w7 =>
      if x9 = 0 then
        m_X11_load_b108 a0 i5 i6 i7 a0 2 w7
      else
        m_X11_load_b107 a0 i5 i6 i7 a0 w7
set_option maxRecDepth 100000 in
set_option maxHeartbeats 4000000 in
theorem jm_X11_load_b75 {n0 : Nat} {rr : Int32} {ws' : LWd} (a0 : Nat) (i4 : Int32) (i5 : Int32) (i6 : Int32) (i7 : Int32) (ws : LWd) (h : m_X11_load_b75 a0 i4 i5 i6 i7 ws = some (rr, ws')) : JG (.inl false) cX11_load 8 RX11 wsX11_load (some .int) "load" 5 0 0 n0 (.inl (some (.int rr)), ws') 75 [some (.ref a0), none, none, none, some (.int i4), some (.int i5), some (.int i6), some (.int i7)] [] ws 0 0 := by
  unfold m_X11_load_b75 at h
  refine j_aload_n (pc := 75) dX11_load_75 rfl ?_
  refine j_iload (pc := 76) dX11_load_76 rfl ?_
  refine j_if_ne (pc := 78) (tgt := 85) dX11_load_78 (by decide) (fun c1 => ?_) (fun c1 => ?_)
  · rw [if_neg c1] at h
    refine j_aload_n (pc := 85) dX11_load_85 rfl ?_
    obtain ⟨x2, e3, h⟩ := obS h
    refine j_getI (pc := 86) dX11_load_86 (ci := 11) (kf := 4) rfl (jwi hw_X11) (by decide) (jwm lw_565) e3 ?_
    refine j_if_eq (pc := 89) (tgt := 107) dX11_load_89 (by decide) (fun c4 => ?_) (fun c4 => ?_)
    · rw [if_pos c4] at h
      refine j_mask [true, false, false, false, false, true, true, true] ?_
      exact jm_X11_load_b107 _ _ _ _ _ ws h
    · rw [if_neg c4] at h
      refine j_aload_n (pc := 92) dX11_load_92 rfl ?_
      refine j_aload_n (pc := 93) dX11_load_93 rfl ?_
      obtain ⟨x5, e6, h⟩ := obS h
      refine j_getI (pc := 94) dX11_load_94 (ci := 11) (kf := 17) rfl (jwi hw_X11) (by decide) (jwm lw_546) e6 ?_
      obtain ⟨x9, w7, e8, h⟩ := obS2 h
      have ge8 := calSR_of e8
      refine j_callV_g (pc := 97) (As := [.int x5]) (k' := 0) (n' := 0) dX11_load_97 (s_X11_holds ge8.1) (jgV lw_645 lw_646 lw_647 lw_544 lw_644) rfl hv_X11_holds rfl (r_X11_holds ge8.1) rfl (by decide) (by decide) (Nat.le_of_ble_eq_true rfl) (by decide) (by decide) (by decide) (by decide) (Or.inl ge8.2) ?_
      refine j_if_ne (pc := 100) (tgt := 107) dX11_load_100 (by decide) (fun c10 => ?_) (fun c10 => ?_)
      · rw [if_neg c10] at h
        refine j_mask [true, false, false, false, false, true, true, true] ?_
        exact jm_X11_load_b107 _ _ _ _ _ w7 h
      · rw [if_pos c10] at h
        refine j_iconst (pc := 103) dX11_load_103 (v := 2) (by decide) ?_
        refine j_goto (pc := 104) (tgt := 108) dX11_load_104 (by decide) ?_
        refine j_mask [true, false, false, false, false, true, true, true] ?_
        exact jm_X11_load_b108 _ _ _ _ _ _ w7 h
  · rw [if_pos c1] at h
    refine j_iconst (pc := 81) dX11_load_81 (v := 1) (by decide) ?_
    refine j_goto (pc := 82) (tgt := 108) dX11_load_82 (by decide) ?_
    refine j_mask [true, false, false, false, false, true, true, true] ?_
    exact jm_X11_load_b108 _ _ _ _ _ _ ws h
def m_X11_load_b35 (a0 : Nat) (i1 : Int32) (i2 : Int32) (i3 : Int32) (s0 : Int32) (ws : LWd) : Option (Int32 × LWd) :=
  (fI ws a0 11 8).bind fun x1 =>
  (fI ws a0 11 9).bind fun x3 =>
  (fI ws a0 11 10).bind fun x5 =>
  if s0 = 0 then
    m_X11_load_b75 a0 s0 x1 x3 x5 ws
  else
    (pV ws a0 11 8 (.int i1)).bind fun w8 =>
    (pV w8 a0 11 9 (.int i2)).bind fun w10 =>
    (pV w10 a0 11 10 (.int i3)).bind fun w12 =>
    m_X11_load_b75 a0 s0 x1 x3 x5 w12
set_option maxRecDepth 100000 in
set_option maxHeartbeats 4000000 in
theorem jm_X11_load_b35 {n0 : Nat} {rr : Int32} {ws' : LWd} (a0 : Nat) (i1 : Int32) (i2 : Int32) (i3 : Int32) (s0 : Int32) (ws : LWd) (h : m_X11_load_b35 a0 i1 i2 i3 s0 ws = some (rr, ws')) : JG (.inl false) cX11_load 8 RX11 wsX11_load (some .int) "load" 5 0 0 n0 (.inl (some (.int rr)), ws') 35 [some (.ref a0), some (.int i1), some (.int i2), some (.int i3), none, none, none, none] [.int s0] ws 0 0 := by
  unfold m_X11_load_b35 at h
  refine j_istore_4 (pc := 35) dX11_load_35 (by decide) rfl ?_
  refine j_aload_n (pc := 37) dX11_load_37 rfl ?_
  obtain ⟨x1, e2, h⟩ := obS h
  refine j_getI (pc := 38) dX11_load_38 (ci := 11) (kf := 8) rfl (jwi hw_X11) (by decide) (jwm lw_572) e2 ?_
  refine j_istore_5 (pc := 41) dX11_load_41 (by decide) rfl ?_
  refine j_aload_n (pc := 43) dX11_load_43 rfl ?_
  obtain ⟨x3, e4, h⟩ := obS h
  refine j_getI (pc := 44) dX11_load_44 (ci := 11) (kf := 9) rfl (jwi hw_X11) (by decide) (jwm lw_577) e4 ?_
  refine j_istore_6 (pc := 47) dX11_load_47 (by decide) rfl ?_
  refine j_aload_n (pc := 49) dX11_load_49 rfl ?_
  obtain ⟨x5, e6, h⟩ := obS h
  refine j_getI (pc := 50) dX11_load_50 (ci := 11) (kf := 10) rfl (jwi hw_X11) (by decide) (jwm lw_578) e6 ?_
  refine j_istore_7 (pc := 53) dX11_load_53 (by decide) rfl ?_
  refine j_iload (pc := 55) dX11_load_55 rfl ?_
  refine j_if_eq (pc := 57) (tgt := 75) dX11_load_57 (by decide) (fun c7 => ?_) (fun c7 => ?_)
  · rw [if_pos c7] at h
    refine j_mask [true, false, false, false, true, true, true, true] ?_
    exact jm_X11_load_b75 _ _ _ _ _ ws h
  · rw [if_neg c7] at h
    refine j_aload_n (pc := 60) dX11_load_60 rfl ?_
    refine j_iload_n (pc := 61) dX11_load_61 rfl ?_
    obtain ⟨w8, e9, h⟩ := obS h
    refine j_putV (pc := 62) (ci := 11) (kf := 8) tyX11 tyX11_ok nmX11 dX11_load_62 rfl (jwi hw_X11) (by decide) (jwm lw_572) rfl (fun _ => rfl) (fun _ => rfl) e9 ?_
    refine j_aload_n (pc := 65) dX11_load_65 rfl ?_
    refine j_iload_n (pc := 66) dX11_load_66 rfl ?_
    obtain ⟨w10, e11, h⟩ := obS h
    refine j_putV (pc := 67) (ci := 11) (kf := 9) tyX11 tyX11_ok nmX11 dX11_load_67 rfl (jwi hw_X11) (by decide) (jwm lw_577) rfl (fun _ => rfl) (fun _ => rfl) e11 ?_
    refine j_aload_n (pc := 70) dX11_load_70 rfl ?_
    refine j_iload_n (pc := 71) dX11_load_71 rfl ?_
    obtain ⟨w12, e13, h⟩ := obS h
    refine j_putV (pc := 72) (ci := 11) (kf := 10) tyX11 tyX11_ok nmX11 dX11_load_72 rfl (jwi hw_X11) (by decide) (jwm lw_578) rfl (fun _ => rfl) (fun _ => rfl) e13 ?_
    refine j_mask [true, false, false, false, true, true, true, true] ?_
    exact jm_X11_load_b75 _ _ _ _ _ w12 h
def m_X11_load_b34 (a0 : Nat) (i1 : Int32) (i2 : Int32) (i3 : Int32) (ws : LWd) : Option (Int32 × LWd) :=
  m_X11_load_b35 a0 i1 i2 i3 0 ws
set_option maxRecDepth 100000 in
set_option maxHeartbeats 4000000 in
theorem jm_X11_load_b34 {n0 : Nat} {rr : Int32} {ws' : LWd} (a0 : Nat) (i1 : Int32) (i2 : Int32) (i3 : Int32) (ws : LWd) (h : m_X11_load_b34 a0 i1 i2 i3 ws = some (rr, ws')) : JG (.inl false) cX11_load 8 RX11 wsX11_load (some .int) "load" 5 0 0 n0 (.inl (some (.int rr)), ws') 34 [some (.ref a0), some (.int i1), some (.int i2), some (.int i3), none, none, none, none] [] ws 0 0 := by
  unfold m_X11_load_b34 at h
  refine j_iconst (pc := 34) dX11_load_34 (v := 0) (by decide) ?_
  exact jm_X11_load_b35 _ _ _ _ _ ws h
def m_X11_load (a0 : Nat) (i1 : Int32) (i2 : Int32) (i3 : Int32) (ws : LWd) : Option (Int32 × LWd) :=
  (rcv ws a0 11).bind fun _ =>
  bn2 (calSR ws (m_X11_isIn i1 0 20 ws)) fun x3 w1 =>
  if x3 = 0 then
    m_X11_load_b34 a0 i1 i2 i3 w1
  else
    bn2 (calSR w1 (m_X11_isIn i2 ((-5)) 5 w1)) fun x7 w5 =>
    if x7 = 0 then
      m_X11_load_b34 a0 i1 i2 i3 w5
    else
      bn2 (calSR w5 (m_X11_isIn i3 ((-5)) 5 w5)) fun x11 w9 =>
      if x11 = 0 then
        m_X11_load_b34 a0 i1 i2 i3 w9
      else
        m_X11_load_b35 a0 i1 i2 i3 1 w9
set_option maxRecDepth 100000 in
set_option maxHeartbeats 4000000 in
theorem s_X11_load {a0 : Nat} {i1 : Int32} {i2 : Int32} {i3 : Int32} {ws : LWd} {rr : Int32} {ws' : LWd} (h : m_X11_load a0 i1 i2 i3 ws = some (rr, ws')) : jSp yX11_load wsX11_load 5 0 0 [.ref a0, .int i1, .int i2, .int i3] ws (.inl (some (.int rr)), ws') := by
  unfold m_X11_load at h
  refine j_entry (ret := (some .int)) (nm := "load") (own := RX11) pl_X11 rfl rfl rfl (jcats (by rfl)) (Nat.le_of_ble_eq_true rfl) ?_
  show JG (.inl false) cX11_load 8 RX11 wsX11_load (some .int) "load" 5 0 0 ws.length (.inl (some (.int rr)), ws') 0 [some (.ref a0), some (.int i1), some (.int i2), some (.int i3), none, none, none, none] [] ws 0 0
  obtain ⟨_, _, h⟩ := obS h
  refine j_iload_n (pc := 0) dX11_load_0 rfl ?_
  refine j_iconst (pc := 1) dX11_load_1 (v := 0) (by decide) ?_
  refine j_bipush (pc := 2) dX11_load_2 (v := 20) (by decide) ?_
  obtain ⟨x3, w1, e2, h⟩ := obS2 h
  have ge2 := calSR_of e2
  refine j_callS_g (pc := 4) (As := [.int i1, .int 0, .int 20]) (k' := 0) (n' := 0) dX11_load_4 (s_X11_isIn ge2.1) (jgS lw_542 lw_543 lw_544 lw_541) rfl hy_X11_isIn rfl (by decide) (by decide) (Nat.le_of_ble_eq_true rfl) (by decide) (by decide) (by decide) (by decide) (Or.inl ge2.2) ?_
  refine j_if_eq (pc := 7) (tgt := 34) dX11_load_7 (by decide) (fun c4 => ?_) (fun c4 => ?_)
  · rw [if_pos c4] at h
    exact jm_X11_load_b34 _ _ _ _ w1 h
  · rw [if_neg c4] at h
    refine j_iload_n (pc := 10) dX11_load_10 rfl ?_
    refine j_bipush (pc := 11) dX11_load_11 (v := (-5)) (by decide) ?_
    refine j_iconst (pc := 13) dX11_load_13 (v := 5) (by decide) ?_
    obtain ⟨x7, w5, e6, h⟩ := obS2 h
    have ge6 := calSR_of e6
    refine j_callS_g (pc := 14) (As := [.int i2, .int ((-5)), .int 5]) (k' := 0) (n' := 0) dX11_load_14 (s_X11_isIn ge6.1) (jgS lw_542 lw_543 lw_544 lw_541) rfl hy_X11_isIn rfl (by decide) (by decide) (Nat.le_of_ble_eq_true rfl) (by decide) (by decide) (by decide) (by decide) (Or.inl ge6.2) ?_
    refine j_if_eq (pc := 17) (tgt := 34) dX11_load_17 (by decide) (fun c8 => ?_) (fun c8 => ?_)
    · rw [if_pos c8] at h
      exact jm_X11_load_b34 _ _ _ _ w5 h
    · rw [if_neg c8] at h
      refine j_iload_n (pc := 20) dX11_load_20 rfl ?_
      refine j_bipush (pc := 21) dX11_load_21 (v := (-5)) (by decide) ?_
      refine j_iconst (pc := 23) dX11_load_23 (v := 5) (by decide) ?_
      obtain ⟨x11, w9, e10, h⟩ := obS2 h
      have ge10 := calSR_of e10
      refine j_callS_g (pc := 24) (As := [.int i3, .int ((-5)), .int 5]) (k' := 0) (n' := 0) dX11_load_24 (s_X11_isIn ge10.1) (jgS lw_542 lw_543 lw_544 lw_541) rfl hy_X11_isIn rfl (by decide) (by decide) (Nat.le_of_ble_eq_true rfl) (by decide) (by decide) (by decide) (by decide) (Or.inl ge10.2) ?_
      refine j_if_eq (pc := 27) (tgt := 34) dX11_load_27 (by decide) (fun c12 => ?_) (fun c12 => ?_)
      · rw [if_pos c12] at h
        exact jm_X11_load_b34 _ _ _ _ w9 h
      · rw [if_neg c12] at h
        refine j_iconst (pc := 30) dX11_load_30 (v := 1) (by decide) ?_
        refine j_goto (pc := 31) (tgt := 35) dX11_load_31 (by decide) ?_
        exact jm_X11_load_b35 _ _ _ _ _ w9 h
theorem r_X11_load {a0 : Nat} {i1 : Int32} {i2 : Int32} {i3 : Int32} {ws : LWd} {o : (Int32 × LWd)} (h : m_X11_load a0 i1 i2 i3 ws = some o) : ∃ fs, ws[a0]? = some (.inr (11, fs)) := rcv_in h
def wsX11_canRise : List Cond := Cond.code yX11_canRise cX11_canRise 6 (some .boolean) :: jW
def m_X11_canRise_b230 (a0 : Nat) (i1 : Int32) (i2 : Int32) (i3 : Int32) (ws : LWd) : Option (Int32 × LWd) :=
  if i1 = 0 then
    some (0, ws)
  else
    if 2 < (i3 - i2) then
      some (0, ws)
    else
      (fI ws a0 11 11).bind fun x3 =>
      bn2 (calSR ws (m_X11_holds a0 ((1 <<< (x3 &&& 31)) - 1) ws)) fun x7 w5 =>
      if x7 = 0 then
        some (0, w5)
      else
        some (1, w5)
set_option maxRecDepth 100000 in
set_option maxHeartbeats 4000000 in
theorem jm_X11_canRise_b230 {n0 : Nat} {rr : Int32} {ws' : LWd} (a0 : Nat) (i1 : Int32) (i2 : Int32) (i3 : Int32) (ws : LWd) (h : m_X11_canRise_b230 a0 i1 i2 i3 ws = some (rr, ws')) : JG (.inl false) cX11_canRise 6 RX11 wsX11_canRise (some .boolean) "canRise" 4 0 0 n0 (.inl (some (.int rr)), ws') 230 [some (.ref a0), some (.int i1), some (.int i2), some (.int i3), none, none] [] ws 0 0 := by
  unfold m_X11_canRise_b230 at h
  refine j_iload_n (pc := 230) dX11_canRise_230 rfl ?_
  refine j_if_eq (pc := 231) (tgt := 260) dX11_canRise_231 (by decide) (fun c1 => ?_) (fun c1 => ?_)
  · rw [if_pos c1] at h
    refine j_iconst (pc := 260) dX11_canRise_260 (v := 0) (by decide) ?_
    obtain ⟨rfl, rfl⟩ := jretS h
    exact j_zretL (pc := 261) (by decide) rfl dX11_canRise_261 (by decide) (by decide) rfl
  · rw [if_neg c1] at h
    refine j_iload_n (pc := 234) dX11_canRise_234 rfl ?_
    refine j_iload_n (pc := 235) dX11_canRise_235 rfl ?_
    refine j_isub (pc := 236) dX11_canRise_236 ?_
    refine j_iconst (pc := 237) dX11_canRise_237 (v := 2) (by decide) ?_
    refine j_icmp_gt (pc := 238) (tgt := 260) dX11_canRise_238 (by decide) (fun c2 => ?_) (fun c2 => ?_)
    · rw [if_pos c2] at h
      refine j_iconst (pc := 260) dX11_canRise_260 (v := 0) (by decide) ?_
      obtain ⟨rfl, rfl⟩ := jretS h
      exact j_zretL (pc := 261) (by decide) rfl dX11_canRise_261 (by decide) (by decide) rfl
    · rw [if_neg c2] at h
      refine j_aload_n (pc := 241) dX11_canRise_241 rfl ?_
      refine j_iconst (pc := 242) dX11_canRise_242 (v := 1) (by decide) ?_
      refine j_aload_n (pc := 243) dX11_canRise_243 rfl ?_
      obtain ⟨x3, e4, h⟩ := obS h
      refine j_getI (pc := 244) dX11_canRise_244 (ci := 11) (kf := 11) rfl (jwi hw_X11) (by decide) (jwm lw_545) e4 ?_
      refine j_ishl (pc := 247) dX11_canRise_247 ?_
      refine j_iconst (pc := 248) dX11_canRise_248 (v := 1) (by decide) ?_
      refine j_isub (pc := 249) dX11_canRise_249 ?_
      obtain ⟨x7, w5, e6, h⟩ := obS2 h
      have ge6 := calSR_of e6
      refine j_callV_g (pc := 250) (As := [.int ((1 <<< (x3 &&& 31)) - 1)]) (k' := 0) (n' := 0) dX11_canRise_250 (s_X11_holds ge6.1) (jgV lw_645 lw_646 lw_647 lw_544 lw_644) rfl hv_X11_holds rfl (r_X11_holds ge6.1) rfl (by decide) (by decide) (Nat.le_of_ble_eq_true rfl) (by decide) (by decide) (by decide) (by decide) (Or.inl ge6.2) ?_
      refine j_if_eq (pc := 253) (tgt := 260) dX11_canRise_253 (by decide) (fun c8 => ?_) (fun c8 => ?_)
      · rw [if_pos c8] at h
        refine j_iconst (pc := 260) dX11_canRise_260 (v := 0) (by decide) ?_
        obtain ⟨rfl, rfl⟩ := jretS h
        exact j_zretL (pc := 261) (by decide) rfl dX11_canRise_261 (by decide) (by decide) rfl
      · rw [if_neg c8] at h
        refine j_iconst (pc := 256) dX11_canRise_256 (v := 1) (by decide) ?_
        refine j_goto (pc := 257) (tgt := 261) dX11_canRise_257 (by decide) ?_
        obtain ⟨rfl, rfl⟩ := jretS h
        exact j_zretL (pc := 261) (by decide) rfl dX11_canRise_261 (by decide) (by decide) rfl
def m_X11_canRise_b223 (k37 : Nat → Int32 → Int32 → Int32 → Int32 → LWd → Option (Int32 × LWd)) (a0 : Nat) (i1 : Int32) (i2 : Int32) (i4 : Int32) (s0 : Int32) (ws : LWd) : Option (Int32 × LWd) :=
  k37 a0 i1 i2 s0 (i4 + 1) ws
set_option maxRecDepth 100000 in
set_option maxHeartbeats 4000000 in
theorem jm_X11_canRise_b223 {n0 : Nat} {rr : Int32} {ws' : LWd} {k37 : Nat → Int32 → Int32 → Int32 → Int32 → LWd → Option (Int32 × LWd)} (hk37 : ∀ (a0 : Nat) (i1 : Int32) (i2 : Int32) (i3 : Int32) (i4 : Int32) (ws : LWd), k37 a0 i1 i2 i3 i4 ws = some (rr, ws') → JG (.inl false) cX11_canRise 6 RX11 wsX11_canRise (some .boolean) "canRise" 4 0 0 n0 (.inl (some (.int rr)), ws') 37 [some (.ref a0), some (.int i1), some (.int i2), some (.int i3), some (.int i4), none] [] ws 0 0) (a0 : Nat) (i1 : Int32) (i2 : Int32) (i4 : Int32) (s0 : Int32) (ws : LWd) (h : m_X11_canRise_b223 k37 a0 i1 i2 i4 s0 ws = some (rr, ws')) : JG (.inl false) cX11_canRise 6 RX11 wsX11_canRise (some .boolean) "canRise" 4 0 0 n0 (.inl (some (.int rr)), ws') 223 [some (.ref a0), some (.int i1), some (.int i2), none, some (.int i4), none] [.int s0] ws 0 0 := by
  unfold m_X11_canRise_b223 at h
  refine j_istore_n_3 (pc := 223) dX11_canRise_223 (by decide) rfl ?_
  refine j_iinc_4 (pc := 224) dX11_canRise_224 (y := i4 + 1) rfl (by decide) rfl ?_
  refine j_goto (pc := 227) (tgt := 37) dX11_canRise_227 (by decide) ?_
  exact hk37 _ _ _ _ _ ws h
def m_X11_canRise_b210 (k37 : Nat → Int32 → Int32 → Int32 → Int32 → LWd → Option (Int32 × LWd)) (a0 : Nat) (i1 : Int32) (i3 : Int32) (i4 : Int32) (i5 : Int32) (s0 : Int32) (ws : LWd) : Option (Int32 × LWd) :=
  if i5 ≤ i3 then
    m_X11_canRise_b223 k37 a0 i1 s0 i4 i3 ws
  else
    m_X11_canRise_b223 k37 a0 i1 s0 i4 i5 ws
set_option maxRecDepth 100000 in
set_option maxHeartbeats 4000000 in
theorem jm_X11_canRise_b210 {n0 : Nat} {rr : Int32} {ws' : LWd} {k37 : Nat → Int32 → Int32 → Int32 → Int32 → LWd → Option (Int32 × LWd)} (hk37 : ∀ (a0 : Nat) (i1 : Int32) (i2 : Int32) (i3 : Int32) (i4 : Int32) (ws : LWd), k37 a0 i1 i2 i3 i4 ws = some (rr, ws') → JG (.inl false) cX11_canRise 6 RX11 wsX11_canRise (some .boolean) "canRise" 4 0 0 n0 (.inl (some (.int rr)), ws') 37 [some (.ref a0), some (.int i1), some (.int i2), some (.int i3), some (.int i4), none] [] ws 0 0) (a0 : Nat) (i1 : Int32) (i3 : Int32) (i4 : Int32) (i5 : Int32) (s0 : Int32) (ws : LWd) (h : m_X11_canRise_b210 k37 a0 i1 i3 i4 i5 s0 ws = some (rr, ws')) : JG (.inl false) cX11_canRise 6 RX11 wsX11_canRise (some .boolean) "canRise" 4 0 0 n0 (.inl (some (.int rr)), ws') 210 [some (.ref a0), some (.int i1), none, some (.int i3), some (.int i4), some (.int i5)] [.int s0] ws 0 0 := by
  unfold m_X11_canRise_b210 at h
  refine j_istore_n_2 (pc := 210) dX11_canRise_210 (by decide) rfl ?_
  refine j_iload (pc := 211) dX11_canRise_211 rfl ?_
  refine j_iload_n (pc := 213) dX11_canRise_213 rfl ?_
  refine j_icmp_le (pc := 214) (tgt := 222) dX11_canRise_214 (by decide) (fun c1 => ?_) (fun c1 => ?_)
  · rw [if_pos c1] at h
    refine j_iload_n (pc := 222) dX11_canRise_222 rfl ?_
    refine j_mask [true, true, true, false, true, false] ?_
    exact jm_X11_canRise_b223 (hk37 := hk37) _ _ _ _ _ ws h
  · rw [if_neg c1] at h
    refine j_iload (pc := 217) dX11_canRise_217 rfl ?_
    refine j_goto (pc := 219) (tgt := 223) dX11_canRise_219 (by decide) ?_
    refine j_mask [true, true, true, false, true, false] ?_
    exact jm_X11_canRise_b223 (hk37 := hk37) _ _ _ _ _ ws h
def m_X11_canRise_b196 (k37 : Nat → Int32 → Int32 → Int32 → Int32 → LWd → Option (Int32 × LWd)) (a0 : Nat) (i1 : Int32) (i2 : Int32) (i3 : Int32) (i4 : Int32) (s0 : Int32) (ws : LWd) : Option (Int32 × LWd) :=
  if i2 ≤ s0 then
    m_X11_canRise_b210 k37 a0 i1 i3 i4 s0 i2 ws
  else
    m_X11_canRise_b210 k37 a0 i1 i3 i4 s0 s0 ws
set_option maxRecDepth 100000 in
set_option maxHeartbeats 4000000 in
theorem jm_X11_canRise_b196 {n0 : Nat} {rr : Int32} {ws' : LWd} {k37 : Nat → Int32 → Int32 → Int32 → Int32 → LWd → Option (Int32 × LWd)} (hk37 : ∀ (a0 : Nat) (i1 : Int32) (i2 : Int32) (i3 : Int32) (i4 : Int32) (ws : LWd), k37 a0 i1 i2 i3 i4 ws = some (rr, ws') → JG (.inl false) cX11_canRise 6 RX11 wsX11_canRise (some .boolean) "canRise" 4 0 0 n0 (.inl (some (.int rr)), ws') 37 [some (.ref a0), some (.int i1), some (.int i2), some (.int i3), some (.int i4), none] [] ws 0 0) (a0 : Nat) (i1 : Int32) (i2 : Int32) (i3 : Int32) (i4 : Int32) (s0 : Int32) (ws : LWd) (h : m_X11_canRise_b196 k37 a0 i1 i2 i3 i4 s0 ws = some (rr, ws')) : JG (.inl false) cX11_canRise 6 RX11 wsX11_canRise (some .boolean) "canRise" 4 0 0 n0 (.inl (some (.int rr)), ws') 196 [some (.ref a0), some (.int i1), some (.int i2), some (.int i3), some (.int i4), none] [.int s0] ws 0 0 := by
  unfold m_X11_canRise_b196 at h
  refine j_istore_5 (pc := 196) dX11_canRise_196 (by decide) rfl ?_
  refine j_iload (pc := 198) dX11_canRise_198 rfl ?_
  refine j_iload_n (pc := 200) dX11_canRise_200 rfl ?_
  refine j_icmp_ge (pc := 201) (tgt := 209) dX11_canRise_201 (by decide) (fun c1 => ?_) (fun c1 => ?_)
  · rw [if_pos c1] at h
    refine j_iload_n (pc := 209) dX11_canRise_209 rfl ?_
    refine j_mask [true, true, false, true, true, true] ?_
    exact jm_X11_canRise_b210 (hk37 := hk37) _ _ _ _ _ _ ws h
  · rw [if_neg c1] at h
    refine j_iload (pc := 204) dX11_canRise_204 rfl ?_
    refine j_goto (pc := 206) (tgt := 210) dX11_canRise_206 (by decide) ?_
    refine j_mask [true, true, false, true, true, true] ?_
    exact jm_X11_canRise_b210 (hk37 := hk37) _ _ _ _ _ _ ws h
def m_X11_canRise_b166 (k37 : Nat → Int32 → Int32 → Int32 → Int32 → LWd → Option (Int32 × LWd)) (a0 : Nat) (i1 : Int32) (i2 : Int32) (i3 : Int32) (i4 : Int32) (ws : LWd) : Option (Int32 × LWd) :=
  if i1 = 0 then
    m_X11_canRise_b196 k37 a0 i1 i2 i3 i4 0 ws
  else
    (fR ws a0 11 3).bind fun x2 =>
    (fR ws a0 11 15).bind fun x4 =>
    (aI ws x4 i4).bind fun x6 =>
    (fR ws a0 11 16).bind fun x8 =>
    (aI ws x8 i4).bind fun x10 =>
    bn2 (calSR ws (m_X11_at x6 x10 ws)) fun x14 w12 =>
    (aI w12 x2 x14).bind fun x15 =>
    m_X11_canRise_b196 k37 a0 i1 i2 i3 i4 x15 w12
set_option maxRecDepth 100000 in
set_option maxHeartbeats 4000000 in
theorem jm_X11_canRise_b166 {n0 : Nat} {rr : Int32} {ws' : LWd} {k37 : Nat → Int32 → Int32 → Int32 → Int32 → LWd → Option (Int32 × LWd)} (hk37 : ∀ (a0 : Nat) (i1 : Int32) (i2 : Int32) (i3 : Int32) (i4 : Int32) (ws : LWd), k37 a0 i1 i2 i3 i4 ws = some (rr, ws') → JG (.inl false) cX11_canRise 6 RX11 wsX11_canRise (some .boolean) "canRise" 4 0 0 n0 (.inl (some (.int rr)), ws') 37 [some (.ref a0), some (.int i1), some (.int i2), some (.int i3), some (.int i4), none] [] ws 0 0) (a0 : Nat) (i1 : Int32) (i2 : Int32) (i3 : Int32) (i4 : Int32) (ws : LWd) (h : m_X11_canRise_b166 k37 a0 i1 i2 i3 i4 ws = some (rr, ws')) : JG (.inl false) cX11_canRise 6 RX11 wsX11_canRise (some .boolean) "canRise" 4 0 0 n0 (.inl (some (.int rr)), ws') 166 [some (.ref a0), some (.int i1), some (.int i2), some (.int i3), some (.int i4), none] [] ws 0 0 := by
  unfold m_X11_canRise_b166 at h
  refine j_iload_n (pc := 166) dX11_canRise_166 rfl ?_
  refine j_if_eq (pc := 167) (tgt := 195) dX11_canRise_167 (by decide) (fun c1 => ?_) (fun c1 => ?_)
  · rw [if_pos c1] at h
    refine j_iconst (pc := 195) dX11_canRise_195 (v := 0) (by decide) ?_
    exact jm_X11_canRise_b196 (hk37 := hk37) _ _ _ _ _ _ ws h
  · rw [if_neg c1] at h
    refine j_aload_n (pc := 170) dX11_canRise_170 rfl ?_
    obtain ⟨x2, e3, h⟩ := obS h
    refine j_getR (pc := 171) dX11_canRise_171 (ci := 11) (kf := 3) rfl (jwi hw_X11) (by decide) (jwm lw_528) e3 ?_
    refine j_aload_n (pc := 174) dX11_canRise_174 rfl ?_
    obtain ⟨x4, e5, h⟩ := obS h
    refine j_getR (pc := 175) dX11_canRise_175 (ci := 11) (kf := 15) rfl (jwi hw_X11) (by decide) (jwm lw_535) e5 ?_
    refine j_iload (pc := 178) dX11_canRise_178 rfl ?_
    obtain ⟨x6, e7, h⟩ := obS h
    refine j_iald (pc := 180) dX11_canRise_180 e7 ?_
    refine j_aload_n (pc := 181) dX11_canRise_181 rfl ?_
    obtain ⟨x8, e9, h⟩ := obS h
    refine j_getR (pc := 182) dX11_canRise_182 (ci := 11) (kf := 16) rfl (jwi hw_X11) (by decide) (jwm lw_536) e9 ?_
    refine j_iload (pc := 185) dX11_canRise_185 rfl ?_
    obtain ⟨x10, e11, h⟩ := obS h
    refine j_iald (pc := 187) dX11_canRise_187 e11 ?_
    obtain ⟨x14, w12, e13, h⟩ := obS2 h
    have ge13 := calSR_of e13
    refine j_callS_g (pc := 188) (As := [.int x6, .int x10]) (k' := 0) (n' := 0) dX11_canRise_188 (s_X11_at ge13.1) (jgS lw_556 lw_557 lw_544 lw_555) rfl hy_X11_at rfl (by decide) (by decide) (Nat.le_of_ble_eq_true rfl) (by decide) (by decide) (by decide) (by decide) (Or.inl ge13.2) ?_
    obtain ⟨x15, e16, h⟩ := obS h
    refine j_iald (pc := 191) dX11_canRise_191 e16 ?_
    refine j_goto (pc := 192) (tgt := 196) dX11_canRise_192 (by decide) ?_
    exact jm_X11_canRise_b196 (hk37 := hk37) _ _ _ _ _ _ w12 h
def m_X11_canRise_b159 (k37 : Nat → Int32 → Int32 → Int32 → Int32 → LWd → Option (Int32 × LWd)) (k109 : Nat → Int32 → Int32 → Int32 → Int32 → Int32 → LWd → Option (Int32 × LWd)) (a0 : Nat) (i2 : Int32) (i3 : Int32) (i4 : Int32) (i5 : Int32) (s0 : Int32) (ws : LWd) : Option (Int32 × LWd) :=
  k109 a0 s0 i2 i3 i4 (i5 + 1) ws
set_option maxRecDepth 100000 in
set_option maxHeartbeats 4000000 in
theorem jm_X11_canRise_b159 {n0 : Nat} {rr : Int32} {ws' : LWd} {k37 : Nat → Int32 → Int32 → Int32 → Int32 → LWd → Option (Int32 × LWd)} {k109 : Nat → Int32 → Int32 → Int32 → Int32 → Int32 → LWd → Option (Int32 × LWd)} (hk37 : ∀ (a0 : Nat) (i1 : Int32) (i2 : Int32) (i3 : Int32) (i4 : Int32) (ws : LWd), k37 a0 i1 i2 i3 i4 ws = some (rr, ws') → JG (.inl false) cX11_canRise 6 RX11 wsX11_canRise (some .boolean) "canRise" 4 0 0 n0 (.inl (some (.int rr)), ws') 37 [some (.ref a0), some (.int i1), some (.int i2), some (.int i3), some (.int i4), none] [] ws 0 0) (hk109 : ∀ (a0 : Nat) (i1 : Int32) (i2 : Int32) (i3 : Int32) (i4 : Int32) (i5 : Int32) (ws : LWd), k109 a0 i1 i2 i3 i4 i5 ws = some (rr, ws') → JG (.inl false) cX11_canRise 6 RX11 wsX11_canRise (some .boolean) "canRise" 4 0 0 n0 (.inl (some (.int rr)), ws') 109 [some (.ref a0), some (.int i1), some (.int i2), some (.int i3), some (.int i4), some (.int i5)] [] ws 0 0) (a0 : Nat) (i2 : Int32) (i3 : Int32) (i4 : Int32) (i5 : Int32) (s0 : Int32) (ws : LWd) (h : m_X11_canRise_b159 k37 k109 a0 i2 i3 i4 i5 s0 ws = some (rr, ws')) : JG (.inl false) cX11_canRise 6 RX11 wsX11_canRise (some .boolean) "canRise" 4 0 0 n0 (.inl (some (.int rr)), ws') 159 [some (.ref a0), none, some (.int i2), some (.int i3), some (.int i4), some (.int i5)] [.int s0] ws 0 0 := by
  unfold m_X11_canRise_b159 at h
  refine j_istore_n_1 (pc := 159) dX11_canRise_159 (by decide) rfl ?_
  refine j_iinc_5 (pc := 160) dX11_canRise_160 (y := i5 + 1) rfl (by decide) rfl ?_
  refine j_goto (pc := 163) (tgt := 109) dX11_canRise_163 (by decide) ?_
  exact hk109 _ _ _ _ _ _ ws h
def m_X11_canRise_b154 (k37 : Nat → Int32 → Int32 → Int32 → Int32 → LWd → Option (Int32 × LWd)) (k109 : Nat → Int32 → Int32 → Int32 → Int32 → Int32 → LWd → Option (Int32 × LWd)) (a0 : Nat) (i2 : Int32) (i3 : Int32) (i4 : Int32) (i5 : Int32) (ws : LWd) : Option (Int32 × LWd) :=
  m_X11_canRise_b159 k37 k109 a0 i2 i3 i4 i5 1 ws
set_option maxRecDepth 100000 in
set_option maxHeartbeats 4000000 in
theorem jm_X11_canRise_b154 {n0 : Nat} {rr : Int32} {ws' : LWd} {k37 : Nat → Int32 → Int32 → Int32 → Int32 → LWd → Option (Int32 × LWd)} {k109 : Nat → Int32 → Int32 → Int32 → Int32 → Int32 → LWd → Option (Int32 × LWd)} (hk37 : ∀ (a0 : Nat) (i1 : Int32) (i2 : Int32) (i3 : Int32) (i4 : Int32) (ws : LWd), k37 a0 i1 i2 i3 i4 ws = some (rr, ws') → JG (.inl false) cX11_canRise 6 RX11 wsX11_canRise (some .boolean) "canRise" 4 0 0 n0 (.inl (some (.int rr)), ws') 37 [some (.ref a0), some (.int i1), some (.int i2), some (.int i3), some (.int i4), none] [] ws 0 0) (hk109 : ∀ (a0 : Nat) (i1 : Int32) (i2 : Int32) (i3 : Int32) (i4 : Int32) (i5 : Int32) (ws : LWd), k109 a0 i1 i2 i3 i4 i5 ws = some (rr, ws') → JG (.inl false) cX11_canRise 6 RX11 wsX11_canRise (some .boolean) "canRise" 4 0 0 n0 (.inl (some (.int rr)), ws') 109 [some (.ref a0), some (.int i1), some (.int i2), some (.int i3), some (.int i4), some (.int i5)] [] ws 0 0) (a0 : Nat) (i2 : Int32) (i3 : Int32) (i4 : Int32) (i5 : Int32) (ws : LWd) (h : m_X11_canRise_b154 k37 k109 a0 i2 i3 i4 i5 ws = some (rr, ws')) : JG (.inl false) cX11_canRise 6 RX11 wsX11_canRise (some .boolean) "canRise" 4 0 0 n0 (.inl (some (.int rr)), ws') 154 [some (.ref a0), none, some (.int i2), some (.int i3), some (.int i4), some (.int i5)] [] ws 0 0 := by
  unfold m_X11_canRise_b154 at h
  refine j_iconst (pc := 154) dX11_canRise_154 (v := 1) (by decide) ?_
  refine j_goto (pc := 155) (tgt := 159) dX11_canRise_155 (by decide) ?_
  exact jm_X11_canRise_b159 (hk37 := hk37) (hk109 := hk109) _ _ _ _ _ _ ws h
def m_X11_canRise_l109 (k37 : Nat → Int32 → Int32 → Int32 → Int32 → LWd → Option (Int32 × LWd)) : Nat → Nat → Int32 → Int32 → Int32 → Int32 → Int32 → LWd → Option (Int32 × LWd)
  | 0, _, _, _, _, _, _, _ => none
  | fu + 1, a0, i1, i2, i3, i4, i5, ws =>
    if i4 ≤ i5 then
      m_X11_canRise_b166 k37 a0 i1 i2 i3 i4 ws
    else
      if i1 = 0 then
        m_X11_canRise_b166 k37 a0 i1 i2 i3 i4 ws
      else
        (fR ws a0 11 15).bind fun x3 =>
        (aI ws x3 i5).bind fun x5 =>
        (fR ws a0 11 15).bind fun x7 =>
        (aI ws x7 i4).bind fun x9 =>
        if x5 = x9 then
          (fR ws a0 11 16).bind fun x12 =>
          (aI ws x12 i5).bind fun x14 =>
          (fR ws a0 11 16).bind fun x16 =>
          (aI ws x16 i4).bind fun x18 =>
          if x14 = x18 then
            m_X11_canRise_b159 k37 (fun z0 z1 z2 z3 z4 z5 w => m_X11_canRise_l109 k37 fu z0 z1 z2 z3 z4 z5 w) a0 i2 i3 i4 i5 0 ws
          else
            m_X11_canRise_b154 k37 (fun z0 z1 z2 z3 z4 z5 w => m_X11_canRise_l109 k37 fu z0 z1 z2 z3 z4 z5 w) a0 i2 i3 i4 i5 ws
        else
          m_X11_canRise_b154 k37 (fun z0 z1 z2 z3 z4 z5 w => m_X11_canRise_l109 k37 fu z0 z1 z2 z3 z4 z5 w) a0 i2 i3 i4 i5 ws
set_option maxRecDepth 100000 in
set_option maxHeartbeats 4000000 in
theorem jm_X11_canRise_l109 {n0 : Nat} {rr : Int32} {ws' : LWd} {k37 : Nat → Int32 → Int32 → Int32 → Int32 → LWd → Option (Int32 × LWd)} (hk37 : ∀ (a0 : Nat) (i1 : Int32) (i2 : Int32) (i3 : Int32) (i4 : Int32) (ws : LWd), k37 a0 i1 i2 i3 i4 ws = some (rr, ws') → JG (.inl false) cX11_canRise 6 RX11 wsX11_canRise (some .boolean) "canRise" 4 0 0 n0 (.inl (some (.int rr)), ws') 37 [some (.ref a0), some (.int i1), some (.int i2), some (.int i3), some (.int i4), none] [] ws 0 0) : ∀ (fu : Nat) (a0 : Nat) (i1 : Int32) (i2 : Int32) (i3 : Int32) (i4 : Int32) (i5 : Int32) (ws : LWd), m_X11_canRise_l109 k37 fu a0 i1 i2 i3 i4 i5 ws = some (rr, ws') → JG (.inl false) cX11_canRise 6 RX11 wsX11_canRise (some .boolean) "canRise" 4 0 0 n0 (.inl (some (.int rr)), ws') 109 [some (.ref a0), some (.int i1), some (.int i2), some (.int i3), some (.int i4), some (.int i5)] [] ws 0 0 := by
  intro fu
  induction fu with
  | zero => intro a0 i1 i2 i3 i4 i5 ws h; cases h
  | succ fu ih =>
    intro a0 i1 i2 i3 i4 i5 ws h
    rw [m_X11_canRise_l109] at h
    refine j_iload (pc := 109) dX11_canRise_109 rfl ?_
    refine j_iload (pc := 111) dX11_canRise_111 rfl ?_
    refine j_icmp_ge (pc := 113) (tgt := 166) dX11_canRise_113 (by decide) (fun c1 => ?_) (fun c1 => ?_)
    · rw [if_pos c1] at h
      refine j_mask [true, true, true, true, true, false] ?_
      exact jm_X11_canRise_b166 (hk37 := hk37) _ _ _ _ _ ws h
    · rw [if_neg c1] at h
      refine j_iload_n (pc := 116) dX11_canRise_116 rfl ?_
      refine j_if_eq (pc := 117) (tgt := 166) dX11_canRise_117 (by decide) (fun c2 => ?_) (fun c2 => ?_)
      · rw [if_pos c2] at h
        refine j_mask [true, true, true, true, true, false] ?_
        exact jm_X11_canRise_b166 (hk37 := hk37) _ _ _ _ _ ws h
      · rw [if_neg c2] at h
        refine j_aload_n (pc := 120) dX11_canRise_120 rfl ?_
        obtain ⟨x3, e4, h⟩ := obS h
        refine j_getR (pc := 121) dX11_canRise_121 (ci := 11) (kf := 15) rfl (jwi hw_X11) (by decide) (jwm lw_535) e4 ?_
        refine j_iload (pc := 124) dX11_canRise_124 rfl ?_
        obtain ⟨x5, e6, h⟩ := obS h
        refine j_iald (pc := 126) dX11_canRise_126 e6 ?_
        refine j_aload_n (pc := 127) dX11_canRise_127 rfl ?_
        obtain ⟨x7, e8, h⟩ := obS h
        refine j_getR (pc := 128) dX11_canRise_128 (ci := 11) (kf := 15) rfl (jwi hw_X11) (by decide) (jwm lw_535) e8 ?_
        refine j_iload (pc := 131) dX11_canRise_131 rfl ?_
        obtain ⟨x9, e10, h⟩ := obS h
        refine j_iald (pc := 133) dX11_canRise_133 e10 ?_
        refine j_icmp_ne (pc := 134) (tgt := 154) dX11_canRise_134 (by decide) (fun c11 => ?_) (fun c11 => ?_)
        · rw [if_neg c11] at h
          refine j_mask [true, false, true, true, true, true] ?_
          exact jm_X11_canRise_b154 (hk37 := hk37) (hk109 := ih) _ _ _ _ _ ws h
        · rw [if_pos c11] at h
          refine j_aload_n (pc := 137) dX11_canRise_137 rfl ?_
          obtain ⟨x12, e13, h⟩ := obS h
          refine j_getR (pc := 138) dX11_canRise_138 (ci := 11) (kf := 16) rfl (jwi hw_X11) (by decide) (jwm lw_536) e13 ?_
          refine j_iload (pc := 141) dX11_canRise_141 rfl ?_
          obtain ⟨x14, e15, h⟩ := obS h
          refine j_iald (pc := 143) dX11_canRise_143 e15 ?_
          refine j_aload_n (pc := 144) dX11_canRise_144 rfl ?_
          obtain ⟨x16, e17, h⟩ := obS h
          refine j_getR (pc := 145) dX11_canRise_145 (ci := 11) (kf := 16) rfl (jwi hw_X11) (by decide) (jwm lw_536) e17 ?_
          refine j_iload (pc := 148) dX11_canRise_148 rfl ?_
          obtain ⟨x18, e19, h⟩ := obS h
          refine j_iald (pc := 150) dX11_canRise_150 e19 ?_
          refine j_icmp_eq (pc := 151) (tgt := 158) dX11_canRise_151 (by decide) (fun c20 => ?_) (fun c20 => ?_)
          · rw [if_pos c20] at h
            refine j_iconst (pc := 158) dX11_canRise_158 (v := 0) (by decide) ?_
            refine j_mask [true, false, true, true, true, true] ?_
            exact jm_X11_canRise_b159 (hk37 := hk37) (hk109 := ih) _ _ _ _ _ _ ws h
          · rw [if_neg c20] at h
            refine j_mask [true, false, true, true, true, true] ?_
            exact jm_X11_canRise_b154 (hk37 := hk37) (hk109 := ih) _ _ _ _ _ ws h
def m_X11_canRise_l37 : Nat → Nat → Int32 → Int32 → Int32 → Int32 → LWd → Option (Int32 × LWd)
  | 0, _, _, _, _, _, _ => none
  | fu + 1, a0, i1, i2, i3, i4, ws =>
    (fI ws a0 11 11).bind fun x1 =>
    if x1 ≤ i4 then
      m_X11_canRise_b230 a0 i1 i2 i3 ws
    else
      if i1 = 0 then
        m_X11_canRise_b230 a0 i1 i2 i3 ws
      else
        (fR ws a0 11 15).bind fun x5 =>
        (fI ws a0 11 5).bind fun x7 =>
        (fR ws a0 11 12).bind fun x9 =>
        (aI ws x9 i4).bind fun x11 =>
        (sI ws x5 i4 (x7 + x11)).bind fun w13 =>
        (fR w13 a0 11 16).bind fun x15 =>
        (fI w13 a0 11 6).bind fun x17 =>
        (fR w13 a0 11 13).bind fun x19 =>
        (aI w13 x19 i4).bind fun x21 =>
        (sI w13 x15 i4 (x17 + x21)).bind fun w23 =>
        (fR w23 a0 11 15).bind fun x25 =>
        (aI w23 x25 i4).bind fun x27 =>
        (fR w23 a0 11 16).bind fun x29 =>
        (aI w23 x29 i4).bind fun x31 =>
        bn2 (calSR w23 (m_X11_isPoint x27 x31 w23)) fun x35 w33 =>
        m_X11_canRise_l109 (fun z0 z1 z2 z3 z4 w => m_X11_canRise_l37 fu z0 z1 z2 z3 z4 w) FU a0 x35 i2 i3 i4 0 w33
set_option maxRecDepth 100000 in
set_option maxHeartbeats 4000000 in
theorem jm_X11_canRise_l37 {n0 : Nat} {rr : Int32} {ws' : LWd} : ∀ (fu : Nat) (a0 : Nat) (i1 : Int32) (i2 : Int32) (i3 : Int32) (i4 : Int32) (ws : LWd), m_X11_canRise_l37 fu a0 i1 i2 i3 i4 ws = some (rr, ws') → JG (.inl false) cX11_canRise 6 RX11 wsX11_canRise (some .boolean) "canRise" 4 0 0 n0 (.inl (some (.int rr)), ws') 37 [some (.ref a0), some (.int i1), some (.int i2), some (.int i3), some (.int i4), none] [] ws 0 0 := by
  intro fu
  induction fu with
  | zero => intro a0 i1 i2 i3 i4 ws h; cases h
  | succ fu ih =>
    intro a0 i1 i2 i3 i4 ws h
    rw [m_X11_canRise_l37] at h
    refine j_iload (pc := 37) dX11_canRise_37 rfl ?_
    refine j_aload_n (pc := 39) dX11_canRise_39 rfl ?_
    obtain ⟨x1, e2, h⟩ := obS h
    refine j_getI (pc := 40) dX11_canRise_40 (ci := 11) (kf := 11) rfl (jwi hw_X11) (by decide) (jwm lw_545) e2 ?_
    refine j_icmp_ge (pc := 43) (tgt := 230) dX11_canRise_43 (by decide) (fun c3 => ?_) (fun c3 => ?_)
    · rw [if_pos c3] at h
      refine j_mask [true, true, true, true, false, false] ?_
      exact jm_X11_canRise_b230 _ _ _ _ ws h
    · rw [if_neg c3] at h
      refine j_iload_n (pc := 46) dX11_canRise_46 rfl ?_
      refine j_if_eq (pc := 47) (tgt := 230) dX11_canRise_47 (by decide) (fun c4 => ?_) (fun c4 => ?_)
      · rw [if_pos c4] at h
        refine j_mask [true, true, true, true, false, false] ?_
        exact jm_X11_canRise_b230 _ _ _ _ ws h
      · rw [if_neg c4] at h
        refine j_aload_n (pc := 50) dX11_canRise_50 rfl ?_
        obtain ⟨x5, e6, h⟩ := obS h
        refine j_getR (pc := 51) dX11_canRise_51 (ci := 11) (kf := 15) rfl (jwi hw_X11) (by decide) (jwm lw_535) e6 ?_
        refine j_iload (pc := 54) dX11_canRise_54 rfl ?_
        refine j_aload_n (pc := 56) dX11_canRise_56 rfl ?_
        obtain ⟨x7, e8, h⟩ := obS h
        refine j_getI (pc := 57) dX11_canRise_57 (ci := 11) (kf := 5) rfl (jwi hw_X11) (by decide) (jwm lw_529) e8 ?_
        refine j_aload_n (pc := 60) dX11_canRise_60 rfl ?_
        obtain ⟨x9, e10, h⟩ := obS h
        refine j_getR (pc := 61) dX11_canRise_61 (ci := 11) (kf := 12) rfl (jwi hw_X11) (by decide) (jwm lw_532) e10 ?_
        refine j_iload (pc := 64) dX11_canRise_64 rfl ?_
        obtain ⟨x11, e12, h⟩ := obS h
        refine j_iald (pc := 66) dX11_canRise_66 e12 ?_
        refine j_iadd (pc := 67) dX11_canRise_67 ?_
        obtain ⟨w13, e14, h⟩ := obS h
        refine j_iast (pc := 68) dX11_canRise_68 e14 ?_
        refine j_aload_n (pc := 69) dX11_canRise_69 rfl ?_
        obtain ⟨x15, e16, h⟩ := obS h
        refine j_getR (pc := 70) dX11_canRise_70 (ci := 11) (kf := 16) rfl (jwi hw_X11) (by decide) (jwm lw_536) e16 ?_
        refine j_iload (pc := 73) dX11_canRise_73 rfl ?_
        refine j_aload_n (pc := 75) dX11_canRise_75 rfl ?_
        obtain ⟨x17, e18, h⟩ := obS h
        refine j_getI (pc := 76) dX11_canRise_76 (ci := 11) (kf := 6) rfl (jwi hw_X11) (by decide) (jwm lw_530) e18 ?_
        refine j_aload_n (pc := 79) dX11_canRise_79 rfl ?_
        obtain ⟨x19, e20, h⟩ := obS h
        refine j_getR (pc := 80) dX11_canRise_80 (ci := 11) (kf := 13) rfl (jwi hw_X11) (by decide) (jwm lw_533) e20 ?_
        refine j_iload (pc := 83) dX11_canRise_83 rfl ?_
        obtain ⟨x21, e22, h⟩ := obS h
        refine j_iald (pc := 85) dX11_canRise_85 e22 ?_
        refine j_iadd (pc := 86) dX11_canRise_86 ?_
        obtain ⟨w23, e24, h⟩ := obS h
        refine j_iast (pc := 87) dX11_canRise_87 e24 ?_
        refine j_aload_n (pc := 88) dX11_canRise_88 rfl ?_
        obtain ⟨x25, e26, h⟩ := obS h
        refine j_getR (pc := 89) dX11_canRise_89 (ci := 11) (kf := 15) rfl (jwi hw_X11) (by decide) (jwm lw_535) e26 ?_
        refine j_iload (pc := 92) dX11_canRise_92 rfl ?_
        obtain ⟨x27, e28, h⟩ := obS h
        refine j_iald (pc := 94) dX11_canRise_94 e28 ?_
        refine j_aload_n (pc := 95) dX11_canRise_95 rfl ?_
        obtain ⟨x29, e30, h⟩ := obS h
        refine j_getR (pc := 96) dX11_canRise_96 (ci := 11) (kf := 16) rfl (jwi hw_X11) (by decide) (jwm lw_536) e30 ?_
        refine j_iload (pc := 99) dX11_canRise_99 rfl ?_
        obtain ⟨x31, e32, h⟩ := obS h
        refine j_iald (pc := 101) dX11_canRise_101 e32 ?_
        obtain ⟨x35, w33, e34, h⟩ := obS2 h
        have ge34 := calSR_of e34
        refine j_callS_g (pc := 102) (As := [.int x27, .int x31]) (k' := 0) (n' := 0) dX11_canRise_102 (s_X11_isPoint ge34.1) (jgS lw_563 lw_564 lw_544 lw_562) rfl hy_X11_isPoint rfl (by decide) (by decide) (Nat.le_of_ble_eq_true rfl) (by decide) (by decide) (by decide) (by decide) (Or.inl ge34.2) ?_
        refine j_istore_n_1 (pc := 105) dX11_canRise_105 (by decide) rfl ?_
        refine j_iconst (pc := 106) dX11_canRise_106 (v := 0) (by decide) ?_
        refine j_istore_5 (pc := 107) dX11_canRise_107 (by decide) rfl ?_
        exact jm_X11_canRise_l109 (hk37 := ih) FU _ _ _ _ _ _ w33 h
def m_X11_canRise_b28 (a0 : Nat) (s0 : Int32) (ws : LWd) : Option (Int32 × LWd) :=
  m_X11_canRise_l37 FU a0 s0 9 0 0 ws
set_option maxRecDepth 100000 in
set_option maxHeartbeats 4000000 in
theorem jm_X11_canRise_b28 {n0 : Nat} {rr : Int32} {ws' : LWd} (a0 : Nat) (s0 : Int32) (ws : LWd) (h : m_X11_canRise_b28 a0 s0 ws = some (rr, ws')) : JG (.inl false) cX11_canRise 6 RX11 wsX11_canRise (some .boolean) "canRise" 4 0 0 n0 (.inl (some (.int rr)), ws') 28 [some (.ref a0), none, none, none, none, none] [.int s0] ws 0 0 := by
  unfold m_X11_canRise_b28 at h
  refine j_istore_n_1 (pc := 28) dX11_canRise_28 (by decide) rfl ?_
  refine j_bipush (pc := 29) dX11_canRise_29 (v := 9) (by decide) ?_
  refine j_istore_n_2 (pc := 31) dX11_canRise_31 (by decide) rfl ?_
  refine j_iconst (pc := 32) dX11_canRise_32 (v := 0) (by decide) ?_
  refine j_istore_n_3 (pc := 33) dX11_canRise_33 (by decide) rfl ?_
  refine j_iconst (pc := 34) dX11_canRise_34 (v := 0) (by decide) ?_
  refine j_istore_4 (pc := 35) dX11_canRise_35 (by decide) rfl ?_
  exact jm_X11_canRise_l37 FU _ _ _ _ _ ws h
def m_X11_canRise_b27 (a0 : Nat) (ws : LWd) : Option (Int32 × LWd) :=
  m_X11_canRise_b28 a0 0 ws
set_option maxRecDepth 100000 in
set_option maxHeartbeats 4000000 in
theorem jm_X11_canRise_b27 {n0 : Nat} {rr : Int32} {ws' : LWd} (a0 : Nat) (ws : LWd) (h : m_X11_canRise_b27 a0 ws = some (rr, ws')) : JG (.inl false) cX11_canRise 6 RX11 wsX11_canRise (some .boolean) "canRise" 4 0 0 n0 (.inl (some (.int rr)), ws') 27 [some (.ref a0), none, none, none, none, none] [] ws 0 0 := by
  unfold m_X11_canRise_b27 at h
  refine j_iconst (pc := 27) dX11_canRise_27 (v := 0) (by decide) ?_
  exact jm_X11_canRise_b28 _ _ ws h
def m_X11_canRise (a0 : Nat) (ws : LWd) : Option (Int32 × LWd) :=
  (rcv ws a0 11).bind fun _ =>
  (fI ws a0 11 4).bind fun x1 =>
  if x1 = 0 then
    (fI ws a0 11 7).bind fun x4 =>
    if x4 < 20 then
      m_X11_canRise_b27 a0 ws
    else
      (fI ws a0 11 11).bind fun x7 =>
      if x7 ≤ 0 then
        m_X11_canRise_b27 a0 ws
      else
        m_X11_canRise_b28 a0 1 ws
  else
    m_X11_canRise_b27 a0 ws
set_option maxRecDepth 100000 in
set_option maxHeartbeats 4000000 in
theorem s_X11_canRise {a0 : Nat} {ws : LWd} {rr : Int32} {ws' : LWd} (h : m_X11_canRise a0 ws = some (rr, ws')) : jSp yX11_canRise wsX11_canRise 4 0 0 [.ref a0] ws (.inl (some (.int rr)), ws') := by
  unfold m_X11_canRise at h
  refine j_entry (ret := (some .boolean)) (nm := "canRise") (own := RX11) pl_X11 rfl rfl rfl (jcats (by rfl)) (Nat.le_of_ble_eq_true rfl) ?_
  show JG (.inl false) cX11_canRise 6 RX11 wsX11_canRise (some .boolean) "canRise" 4 0 0 ws.length (.inl (some (.int rr)), ws') 0 [some (.ref a0), none, none, none, none, none] [] ws 0 0
  obtain ⟨_, _, h⟩ := obS h
  refine j_aload_n (pc := 0) dX11_canRise_0 rfl ?_
  obtain ⟨x1, e2, h⟩ := obS h
  refine j_getI (pc := 1) dX11_canRise_1 (ci := 11) (kf := 4) rfl (jwi hw_X11) (by decide) (jwm lw_565) e2 ?_
  refine j_if_ne (pc := 4) (tgt := 27) dX11_canRise_4 (by decide) (fun c3 => ?_) (fun c3 => ?_)
  · rw [if_neg c3] at h
    exact jm_X11_canRise_b27 _ ws h
  · rw [if_pos c3] at h
    refine j_aload_n (pc := 7) dX11_canRise_7 rfl ?_
    obtain ⟨x4, e5, h⟩ := obS h
    refine j_getI (pc := 8) dX11_canRise_8 (ci := 11) (kf := 7) rfl (jwi hw_X11) (by decide) (jwm lw_531) e5 ?_
    refine j_bipush (pc := 11) dX11_canRise_11 (v := 20) (by decide) ?_
    refine j_icmp_lt (pc := 13) (tgt := 27) dX11_canRise_13 (by decide) (fun c6 => ?_) (fun c6 => ?_)
    · rw [if_pos c6] at h
      exact jm_X11_canRise_b27 _ ws h
    · rw [if_neg c6] at h
      refine j_aload_n (pc := 16) dX11_canRise_16 rfl ?_
      obtain ⟨x7, e8, h⟩ := obS h
      refine j_getI (pc := 17) dX11_canRise_17 (ci := 11) (kf := 11) rfl (jwi hw_X11) (by decide) (jwm lw_545) e8 ?_
      refine j_if_le (pc := 20) (tgt := 27) dX11_canRise_20 (by decide) (fun c9 => ?_) (fun c9 => ?_)
      · rw [if_pos c9] at h
        exact jm_X11_canRise_b27 _ ws h
      · rw [if_neg c9] at h
        refine j_iconst (pc := 23) dX11_canRise_23 (v := 1) (by decide) ?_
        refine j_goto (pc := 24) (tgt := 28) dX11_canRise_24 (by decide) ?_
        exact jm_X11_canRise_b28 _ _ ws h
theorem r_X11_canRise {a0 : Nat} {ws : LWd} {o : (Int32 × LWd)} (h : m_X11_canRise a0 ws = some o) : ∃ fs, ws[a0]? = some (.inr (11, fs)) := rcv_in h
def wsX11_rise : List Cond := Cond.code yX11_rise cX11_rise 4 (some .int) :: jW
def m_X11_rise_b103 (k54 : Nat → Int32 → LWd → Option (Int32 × LWd)) (a0 : Nat) (i1 : Int32) (ws : LWd) : Option (Int32 × LWd) :=
  k54 a0 (i1 + 1) ws
set_option maxRecDepth 100000 in
set_option maxHeartbeats 4000000 in
theorem jm_X11_rise_b103 {n0 : Nat} {rr : Int32} {ws' : LWd} {k54 : Nat → Int32 → LWd → Option (Int32 × LWd)} (hk54 : ∀ (a0 : Nat) (i1 : Int32) (ws : LWd), k54 a0 i1 ws = some (rr, ws') → JG (.inl false) cX11_rise 4 RX11 wsX11_rise (some .int) "rise" 5 0 0 n0 (.inl (some (.int rr)), ws') 54 [some (.ref a0), some (.int i1), none, none] [] ws 0 0) (a0 : Nat) (i1 : Int32) (ws : LWd) (h : m_X11_rise_b103 k54 a0 i1 ws = some (rr, ws')) : JG (.inl false) cX11_rise 4 RX11 wsX11_rise (some .int) "rise" 5 0 0 n0 (.inl (some (.int rr)), ws') 103 [some (.ref a0), some (.int i1), none, none] [] ws 0 0 := by
  unfold m_X11_rise_b103 at h
  refine j_iinc_1 (pc := 103) dX11_rise_103 (y := i1 + 1) rfl (by decide) rfl ?_
  refine j_goto (pc := 106) (tgt := 54) dX11_rise_106 (by decide) ?_
  exact hk54 _ _ ws h
def m_X11_rise_l54 : Nat → Nat → Int32 → LWd → Option (Int32 × LWd)
  | 0, _, _, _ => none
  | fu + 1, a0, i1, ws =>
    (fI ws a0 11 11).bind fun x1 =>
    if x1 ≤ i1 then
      (calSV ws (m_X11_settles a0 ws)).bind fun w4 =>
      (fI w4 a0 11 17).bind fun x6 =>
      bn2 (calSR w4 (m_X11_count x6 w4)) fun x10 w8 =>
      some (x10, w8)
    else
      (fI ws a0 11 5).bind fun x11 =>
      (fR ws a0 11 12).bind fun x13 =>
      (aI ws x13 i1).bind fun x15 =>
      (fI ws a0 11 6).bind fun x17 =>
      (fR ws a0 11 13).bind fun x19 =>
      (aI ws x19 i1).bind fun x21 =>
      bn2 (calSR ws (m_X11_footAt a0 (x11 + x15) (x17 + x21) ws)) fun x25 w23 =>
      if x25 = ((-1)) then
        (calSV w23 (m_X11_sets a0 i1 (x11 + x15) (x17 + x21) w23)).bind fun w27 =>
        m_X11_rise_b103 (fun z0 z1 w => m_X11_rise_l54 fu z0 z1 w) a0 i1 w27
      else
        m_X11_rise_b103 (fun z0 z1 w => m_X11_rise_l54 fu z0 z1 w) a0 i1 w23
set_option maxRecDepth 100000 in
set_option maxHeartbeats 4000000 in
theorem jm_X11_rise_l54 {n0 : Nat} {rr : Int32} {ws' : LWd} : ∀ (fu : Nat) (a0 : Nat) (i1 : Int32) (ws : LWd), m_X11_rise_l54 fu a0 i1 ws = some (rr, ws') → JG (.inl false) cX11_rise 4 RX11 wsX11_rise (some .int) "rise" 5 0 0 n0 (.inl (some (.int rr)), ws') 54 [some (.ref a0), some (.int i1), none, none] [] ws 0 0 := by
  intro fu
  induction fu with
  | zero => intro a0 i1 ws h; cases h
  | succ fu ih =>
    intro a0 i1 ws h
    rw [m_X11_rise_l54] at h
    refine j_iload_n (pc := 54) dX11_rise_54 rfl ?_
    refine j_aload_n (pc := 55) dX11_rise_55 rfl ?_
    obtain ⟨x1, e2, h⟩ := obS h
    refine j_getI (pc := 56) dX11_rise_56 (ci := 11) (kf := 11) rfl (jwi hw_X11) (by decide) (jwm lw_545) e2 ?_
    refine j_icmp_ge (pc := 59) (tgt := 109) dX11_rise_59 (by decide) (fun c3 => ?_) (fun c3 => ?_)
    · rw [if_pos c3] at h
      refine j_aload_n (pc := 109) dX11_rise_109 rfl ?_
      obtain ⟨w4, e5, h⟩ := obS h
      have ge5 := calSV_of e5
      refine j_callV_g (pc := 110) (As := []) (k' := 0) (n' := 0) dX11_rise_110 (s_X11_settles ge5.1) (jgV lw_653 lw_654 lw_655 lw_544 lw_652) rfl hv_X11_settles rfl (r_X11_settles ge5.1) rfl (by decide) (by decide) (Nat.le_of_ble_eq_true rfl) (by decide) (by decide) (by decide) (by decide) (Or.inl ge5.2) ?_
      refine j_aload_n (pc := 113) dX11_rise_113 rfl ?_
      obtain ⟨x6, e7, h⟩ := obS h
      refine j_getI (pc := 114) dX11_rise_114 (ci := 11) (kf := 17) rfl (jwi hw_X11) (by decide) (jwm lw_546) e7 ?_
      obtain ⟨x10, w8, e9, h⟩ := obS2 h
      have ge9 := calSR_of e9
      refine j_callS_g (pc := 117) (As := [.int x6]) (k' := 0) (n' := 0) dX11_rise_117 (s_X11_count ge9.1) (jgS lw_605 lw_606 lw_544 lw_604) rfl hy_X11_count rfl (by decide) (by decide) (Nat.le_of_ble_eq_true rfl) (by decide) (by decide) (by decide) (by decide) (Or.inl ge9.2) ?_
      obtain ⟨rfl, rfl⟩ := jretS h
      exact j_iret (pc := 120) rfl dX11_rise_120 (by decide) (by decide) rfl
    · rw [if_neg c3] at h
      refine j_aload_n (pc := 62) dX11_rise_62 rfl ?_
      obtain ⟨x11, e12, h⟩ := obS h
      refine j_getI (pc := 63) dX11_rise_63 (ci := 11) (kf := 5) rfl (jwi hw_X11) (by decide) (jwm lw_529) e12 ?_
      refine j_aload_n (pc := 66) dX11_rise_66 rfl ?_
      obtain ⟨x13, e14, h⟩ := obS h
      refine j_getR (pc := 67) dX11_rise_67 (ci := 11) (kf := 12) rfl (jwi hw_X11) (by decide) (jwm lw_532) e14 ?_
      refine j_iload_n (pc := 70) dX11_rise_70 rfl ?_
      obtain ⟨x15, e16, h⟩ := obS h
      refine j_iald (pc := 71) dX11_rise_71 e16 ?_
      refine j_iadd (pc := 72) dX11_rise_72 ?_
      refine j_istore_n_2 (pc := 73) dX11_rise_73 (by decide) rfl ?_
      refine j_aload_n (pc := 74) dX11_rise_74 rfl ?_
      obtain ⟨x17, e18, h⟩ := obS h
      refine j_getI (pc := 75) dX11_rise_75 (ci := 11) (kf := 6) rfl (jwi hw_X11) (by decide) (jwm lw_530) e18 ?_
      refine j_aload_n (pc := 78) dX11_rise_78 rfl ?_
      obtain ⟨x19, e20, h⟩ := obS h
      refine j_getR (pc := 79) dX11_rise_79 (ci := 11) (kf := 13) rfl (jwi hw_X11) (by decide) (jwm lw_533) e20 ?_
      refine j_iload_n (pc := 82) dX11_rise_82 rfl ?_
      obtain ⟨x21, e22, h⟩ := obS h
      refine j_iald (pc := 83) dX11_rise_83 e22 ?_
      refine j_iadd (pc := 84) dX11_rise_84 ?_
      refine j_istore_n_3 (pc := 85) dX11_rise_85 (by decide) rfl ?_
      refine j_aload_n (pc := 86) dX11_rise_86 rfl ?_
      refine j_iload_n (pc := 87) dX11_rise_87 rfl ?_
      refine j_iload_n (pc := 88) dX11_rise_88 rfl ?_
      obtain ⟨x25, w23, e24, h⟩ := obS2 h
      have ge24 := calSR_of e24
      refine j_callV_g (pc := 89) (As := [.int (x11 + x15), .int (x17 + x21)]) (k' := 0) (n' := 0) dX11_rise_89 (s_X11_footAt ge24.1) (jgV lw_559 lw_560 lw_561 lw_544 lw_558) rfl hv_X11_footAt rfl (r_X11_footAt ge24.1) rfl (by decide) (by decide) (Nat.le_of_ble_eq_true rfl) (by decide) (by decide) (by decide) (by decide) (Or.inl ge24.2) ?_
      refine j_iconst (pc := 92) dX11_rise_92 (v := (-1)) (by decide) ?_
      refine j_icmp_ne (pc := 93) (tgt := 103) dX11_rise_93 (by decide) (fun c26 => ?_) (fun c26 => ?_)
      · rw [if_neg c26] at h
        refine j_mask [true, true, false, false] ?_
        exact jm_X11_rise_b103 (hk54 := ih) _ _ w23 h
      · rw [if_pos c26] at h
        refine j_aload_n (pc := 96) dX11_rise_96 rfl ?_
        refine j_iload_n (pc := 97) dX11_rise_97 rfl ?_
        refine j_iload_n (pc := 98) dX11_rise_98 rfl ?_
        refine j_iload_n (pc := 99) dX11_rise_99 rfl ?_
        obtain ⟨w27, e28, h⟩ := obS h
        have ge28 := calSV_of e28
        refine j_callV_g (pc := 100) (As := [.int i1, .int (x11 + x15), .int (x17 + x21)]) (k' := 0) (n' := 0) dX11_rise_100 (s_X11_sets ge28.1) (jgV lw_669 lw_670 lw_671 lw_544 lw_668) rfl hv_X11_sets rfl (r_X11_sets ge28.1) rfl (by decide) (by decide) (Nat.le_of_ble_eq_true rfl) (by decide) (by decide) (by decide) (by decide) (Or.inl ge28.2) ?_
        refine j_mask [true, true, false, false] ?_
        exact jm_X11_rise_b103 (hk54 := ih) _ _ w27 h
def m_X11_rise_b13 (a0 : Nat) (s0 : Nat) (s1 : Int32) (ws : LWd) : Option (Int32 × LWd) :=
  bn2 (calSR ws (m_X11_fails s0 s1 ws)) fun x3 w1 =>
  if x3 = 0 then
    (fI w1 a0 11 7).bind fun x5 =>
    (pV w1 a0 11 7 (.int (x5 - 20))).bind fun w7 =>
    (pZ w7 a0 11 4 1).bind fun w9 =>
    (pV w9 a0 11 18 (.int 0)).bind fun w11 =>
    (pV w11 a0 11 19 (.int 0)).bind fun w13 =>
    (pV w13 a0 11 22 (.int 0)).bind fun w15 =>
    m_X11_rise_l54 FU a0 0 w15
  else
    some (0, w1)
set_option maxRecDepth 100000 in
set_option maxHeartbeats 4000000 in
theorem jm_X11_rise_b13 {n0 : Nat} {rr : Int32} {ws' : LWd} (a0 : Nat) (s0 : Nat) (s1 : Int32) (ws : LWd) (h : m_X11_rise_b13 a0 s0 s1 ws = some (rr, ws')) : JG (.inl false) cX11_rise 4 RX11 wsX11_rise (some .int) "rise" 5 0 0 n0 (.inl (some (.int rr)), ws') 13 [some (.ref a0), none, none, none] [.int s1, .ref s0] ws 0 0 := by
  unfold m_X11_rise_b13 at h
  obtain ⟨x3, w1, e2, h⟩ := obS2 h
  have ge2 := calSR_of e2
  refine j_callV_g (pc := 13) (As := [.int s1]) (k' := 0) (n' := 0) dX11_rise_13 (s_X11_fails ge2.1) (jgV lw_552 lw_553 lw_554 lw_544 lw_551) rfl hv_X11_fails rfl (r_X11_fails ge2.1) rfl (by decide) (by decide) (Nat.le_of_ble_eq_true rfl) (by decide) (by decide) (by decide) (by decide) (Or.inl ge2.2) ?_
  refine j_if_eq (pc := 16) (tgt := 21) dX11_rise_16 (by decide) (fun c4 => ?_) (fun c4 => ?_)
  · rw [if_pos c4] at h
    refine j_aload_n (pc := 21) dX11_rise_21 rfl ?_
    refine j_dup (pc := 22) dX11_rise_22 rfl ?_
    obtain ⟨x5, e6, h⟩ := obS h
    refine j_getI (pc := 23) dX11_rise_23 (ci := 11) (kf := 7) rfl (jwi hw_X11) (by decide) (jwm lw_531) e6 ?_
    refine j_bipush (pc := 26) dX11_rise_26 (v := 20) (by decide) ?_
    refine j_isub (pc := 28) dX11_rise_28 ?_
    obtain ⟨w7, e8, h⟩ := obS h
    refine j_putV (pc := 29) (ci := 11) (kf := 7) tyX11 tyX11_ok nmX11 dX11_rise_29 rfl (jwi hw_X11) (by decide) (jwm lw_531) rfl (fun _ => rfl) (fun _ => rfl) e8 ?_
    refine j_aload_n (pc := 32) dX11_rise_32 rfl ?_
    refine j_iconst (pc := 33) dX11_rise_33 (v := 1) (by decide) ?_
    obtain ⟨w9, e10, h⟩ := obS h
    refine j_putV (pc := 34) (ci := 11) (kf := 4) tyX11 tyX11_ok nmX11 dX11_rise_34 rfl (jwi hw_X11) (by decide) (jwm lw_565) rfl (pZ_n e10).2.1 (pZ_n e10).2.2 (pZ_n e10).1 ?_
    refine j_aload_n (pc := 37) dX11_rise_37 rfl ?_
    refine j_iconst (pc := 38) dX11_rise_38 (v := 0) (by decide) ?_
    obtain ⟨w11, e12, h⟩ := obS h
    refine j_putV (pc := 39) (ci := 11) (kf := 18) tyX11 tyX11_ok nmX11 dX11_rise_39 rfl (jwi hw_X11) (by decide) (jwm lw_608) rfl (fun _ => rfl) (fun _ => rfl) e12 ?_
    refine j_aload_n (pc := 42) dX11_rise_42 rfl ?_
    refine j_iconst (pc := 43) dX11_rise_43 (v := 0) (by decide) ?_
    obtain ⟨w13, e14, h⟩ := obS h
    refine j_putV (pc := 44) (ci := 11) (kf := 19) tyX11 tyX11_ok nmX11 dX11_rise_44 rfl (jwi hw_X11) (by decide) (jwm lw_609) rfl (fun _ => rfl) (fun _ => rfl) e14 ?_
    refine j_aload_n (pc := 47) dX11_rise_47 rfl ?_
    refine j_iconst (pc := 48) dX11_rise_48 (v := 0) (by decide) ?_
    obtain ⟨w15, e16, h⟩ := obS h
    refine j_putV (pc := 49) (ci := 11) (kf := 22) tyX11 tyX11_ok nmX11 dX11_rise_49 rfl (jwi hw_X11) (by decide) (jwm lw_607) rfl (fun _ => rfl) (fun _ => rfl) e16 ?_
    refine j_iconst (pc := 52) dX11_rise_52 (v := 0) (by decide) ?_
    refine j_istore_n_1 (pc := 53) dX11_rise_53 (by decide) rfl ?_
    exact jm_X11_rise_l54 FU _ _ w15 h
  · rw [if_neg c4] at h
    refine j_iconst (pc := 19) dX11_rise_19 (v := 0) (by decide) ?_
    obtain ⟨rfl, rfl⟩ := jretS h
    exact j_iret (pc := 20) rfl dX11_rise_20 (by decide) (by decide) rfl
def m_X11_rise (a0 : Nat) (ws : LWd) : Option (Int32 × LWd) :=
  (rcv ws a0 11).bind fun _ =>
  bn2 (calSR ws (m_X11_canRise a0 ws)) fun x3 w1 =>
  if x3 = 0 then
    m_X11_rise_b13 a0 a0 1 w1
  else
    m_X11_rise_b13 a0 a0 0 w1
set_option maxRecDepth 100000 in
set_option maxHeartbeats 4000000 in
theorem s_X11_rise {a0 : Nat} {ws : LWd} {rr : Int32} {ws' : LWd} (h : m_X11_rise a0 ws = some (rr, ws')) : jSp yX11_rise wsX11_rise 5 0 0 [.ref a0] ws (.inl (some (.int rr)), ws') := by
  unfold m_X11_rise at h
  refine j_entry (ret := (some .int)) (nm := "rise") (own := RX11) pl_X11 rfl rfl rfl (jcats (by rfl)) (Nat.le_of_ble_eq_true rfl) ?_
  show JG (.inl false) cX11_rise 4 RX11 wsX11_rise (some .int) "rise" 5 0 0 ws.length (.inl (some (.int rr)), ws') 0 [some (.ref a0), none, none, none] [] ws 0 0
  obtain ⟨_, _, h⟩ := obS h
  refine j_aload_n (pc := 0) dX11_rise_0 rfl ?_
  refine j_aload_n (pc := 1) dX11_rise_1 rfl ?_
  obtain ⟨x3, w1, e2, h⟩ := obS2 h
  have ge2 := calSR_of e2
  refine j_callV_g (pc := 2) (As := []) (k' := 0) (n' := 0) dX11_rise_2 (s_X11_canRise ge2.1) (jgV lw_677 lw_678 lw_679 lw_544 lw_676) rfl hv_X11_canRise rfl (r_X11_canRise ge2.1) rfl (by decide) (by decide) (Nat.le_of_ble_eq_true rfl) (by decide) (by decide) (by decide) (by decide) (Or.inl ge2.2) ?_
  refine j_if_eq (pc := 5) (tgt := 12) dX11_rise_5 (by decide) (fun c4 => ?_) (fun c4 => ?_)
  · rw [if_pos c4] at h
    refine j_iconst (pc := 12) dX11_rise_12 (v := 1) (by decide) ?_
    exact jm_X11_rise_b13 _ _ _ w1 h
  · rw [if_neg c4] at h
    refine j_iconst (pc := 8) dX11_rise_8 (v := 0) (by decide) ?_
    refine j_goto (pc := 9) (tgt := 13) dX11_rise_9 (by decide) ?_
    exact jm_X11_rise_b13 _ _ _ w1 h
theorem r_X11_rise {a0 : Nat} {ws : LWd} {o : (Int32 × LWd)} (h : m_X11_rise a0 ws = some o) : ∃ fs, ws[a0]? = some (.inr (11, fs)) := rcv_in h
def wsX11_lift : List Cond := Cond.code yX11_lift cX11_lift 2 (some .int) :: jW
def m_X11_lift_b26 (a0 : Nat) (s0 : Nat) (s1 : Int32) (ws : LWd) : Option (Int32 × LWd) :=
  bn2 (calSR ws (m_X11_fails s0 s1 ws)) fun x3 w1 =>
  if x3 = 0 then
    (fI w1 a0 11 22).bind fun x5 =>
    some (x5, w1)
  else
    some (0, w1)
set_option maxRecDepth 100000 in
set_option maxHeartbeats 4000000 in
theorem jm_X11_lift_b26 {n0 : Nat} {rr : Int32} {ws' : LWd} (a0 : Nat) (s0 : Nat) (s1 : Int32) (ws : LWd) (h : m_X11_lift_b26 a0 s0 s1 ws = some (rr, ws')) : JG (.inl false) cX11_lift 2 RX11 wsX11_lift (some .int) "lift" 6 0 0 n0 (.inl (some (.int rr)), ws') 26 [some (.ref a0), none] [.int s1, .ref s0] ws 0 0 := by
  unfold m_X11_lift_b26 at h
  obtain ⟨x3, w1, e2, h⟩ := obS2 h
  have ge2 := calSR_of e2
  refine j_callV_g (pc := 26) (As := [.int s1]) (k' := 0) (n' := 0) dX11_lift_26 (s_X11_fails ge2.1) (jgV lw_552 lw_553 lw_554 lw_544 lw_551) rfl hv_X11_fails rfl (r_X11_fails ge2.1) rfl (by decide) (by decide) (Nat.le_of_ble_eq_true rfl) (by decide) (by decide) (by decide) (by decide) (Or.inl ge2.2) ?_
  refine j_if_eq (pc := 29) (tgt := 36) dX11_lift_29 (by decide) (fun c4 => ?_) (fun c4 => ?_)
  · rw [if_pos c4] at h
    refine j_aload_n (pc := 36) dX11_lift_36 rfl ?_
    obtain ⟨x5, e6, h⟩ := obS h
    refine j_getI (pc := 37) dX11_lift_37 (ci := 11) (kf := 22) rfl (jwi hw_X11) (by decide) (jwm lw_607) e6 ?_
    obtain ⟨rfl, rfl⟩ := jretS h
    exact j_iret (pc := 40) rfl dX11_lift_40 (by decide) (by decide) rfl
  · rw [if_neg c4] at h
    refine j_iconst (pc := 32) dX11_lift_32 (v := 0) (by decide) ?_
    refine j_goto (pc := 33) (tgt := 40) dX11_lift_33 (by decide) ?_
    obtain ⟨rfl, rfl⟩ := jretS h
    exact j_iret (pc := 40) rfl dX11_lift_40 (by decide) (by decide) rfl
def m_X11_lift (a0 : Nat) (i1 : Int32) (ws : LWd) : Option (Int32 × LWd) :=
  (rcv ws a0 11).bind fun _ =>
  bn2 (calSR ws (m_X11_isLeg a0 i1 ws)) fun x3 w1 =>
  if x3 = 0 then
    m_X11_lift_b26 a0 a0 1 w1
  else
    bn2 (calSR w1 (m_X11_lifts a0 i1 w1)) fun x7 w5 =>
    if x7 = 0 then
      m_X11_lift_b26 a0 a0 2 w5
    else
      m_X11_lift_b26 a0 a0 0 w5
set_option maxRecDepth 100000 in
set_option maxHeartbeats 4000000 in
theorem s_X11_lift {a0 : Nat} {i1 : Int32} {ws : LWd} {rr : Int32} {ws' : LWd} (h : m_X11_lift a0 i1 ws = some (rr, ws')) : jSp yX11_lift wsX11_lift 6 0 0 [.ref a0, .int i1] ws (.inl (some (.int rr)), ws') := by
  unfold m_X11_lift at h
  refine j_entry (ret := (some .int)) (nm := "lift") (own := RX11) pl_X11 rfl rfl rfl (jcats (by rfl)) (Nat.le_of_ble_eq_true rfl) ?_
  show JG (.inl false) cX11_lift 2 RX11 wsX11_lift (some .int) "lift" 6 0 0 ws.length (.inl (some (.int rr)), ws') 0 [some (.ref a0), some (.int i1)] [] ws 0 0
  obtain ⟨_, _, h⟩ := obS h
  refine j_aload_n (pc := 0) dX11_lift_0 rfl ?_
  refine j_aload_n (pc := 1) dX11_lift_1 rfl ?_
  refine j_iload_n (pc := 2) dX11_lift_2 rfl ?_
  obtain ⟨x3, w1, e2, h⟩ := obS2 h
  have ge2 := calSR_of e2
  refine j_callV_g (pc := 3) (As := [.int i1]) (k' := 0) (n' := 0) dX11_lift_3 (s_X11_isLeg ge2.1) (jgV lw_568 lw_569 lw_570 lw_544 lw_567) rfl hv_X11_isLeg rfl (r_X11_isLeg ge2.1) rfl (by decide) (by decide) (Nat.le_of_ble_eq_true rfl) (by decide) (by decide) (by decide) (by decide) (Or.inl ge2.2) ?_
  refine j_if_ne (pc := 6) (tgt := 13) dX11_lift_6 (by decide) (fun c4 => ?_) (fun c4 => ?_)
  · rw [if_neg c4] at h
    refine j_aload_n (pc := 13) dX11_lift_13 rfl ?_
    refine j_iload_n (pc := 14) dX11_lift_14 rfl ?_
    obtain ⟨x7, w5, e6, h⟩ := obS2 h
    have ge6 := calSR_of e6
    refine j_callV_g (pc := 15) (As := [.int i1]) (k' := 0) (n' := 0) dX11_lift_15 (s_X11_lifts ge6.1) (jgV lw_681 lw_682 lw_683 lw_544 lw_680) rfl hv_X11_lifts rfl (r_X11_lifts ge6.1) rfl (by decide) (by decide) (Nat.le_of_ble_eq_true rfl) (by decide) (by decide) (by decide) (by decide) (Or.inl ge6.2) ?_
    refine j_if_eq (pc := 18) (tgt := 25) dX11_lift_18 (by decide) (fun c8 => ?_) (fun c8 => ?_)
    · rw [if_pos c8] at h
      refine j_iconst (pc := 25) dX11_lift_25 (v := 2) (by decide) ?_
      refine j_mask [true, false] ?_
      exact jm_X11_lift_b26 _ _ _ w5 h
    · rw [if_neg c8] at h
      refine j_iconst (pc := 21) dX11_lift_21 (v := 0) (by decide) ?_
      refine j_goto (pc := 22) (tgt := 26) dX11_lift_22 (by decide) ?_
      refine j_mask [true, false] ?_
      exact jm_X11_lift_b26 _ _ _ w5 h
  · rw [if_pos c4] at h
    refine j_iconst (pc := 9) dX11_lift_9 (v := 1) (by decide) ?_
    refine j_goto (pc := 10) (tgt := 26) dX11_lift_10 (by decide) ?_
    refine j_mask [true, false] ?_
    exact jm_X11_lift_b26 _ _ _ w1 h
theorem r_X11_lift {a0 : Nat} {i1 : Int32} {ws : LWd} {o : (Int32 × LWd)} (h : m_X11_lift a0 i1 ws = some o) : ∃ fs, ws[a0]? = some (.inr (11, fs)) := rcv_in h
def wsX11_place : List Cond := Cond.code yX11_place cX11_place 4 (some .int) :: jW
def m_X11_place_b40 (a0 : Nat) (s0 : Nat) (s1 : Int32) (ws : LWd) : Option (Int32 × LWd) :=
  bn2 (calSR ws (m_X11_fails s0 s1 ws)) fun x3 w1 =>
  if x3 = 0 then
    (fI w1 a0 11 22).bind fun x5 =>
    some (x5, w1)
  else
    some (0, w1)
set_option maxRecDepth 100000 in
set_option maxHeartbeats 4000000 in
theorem jm_X11_place_b40 {n0 : Nat} {rr : Int32} {ws' : LWd} (a0 : Nat) (s0 : Nat) (s1 : Int32) (ws : LWd) (h : m_X11_place_b40 a0 s0 s1 ws = some (rr, ws')) : JG (.inl false) cX11_place 4 RX11 wsX11_place (some .int) "place" 6 0 0 n0 (.inl (some (.int rr)), ws') 40 [some (.ref a0), none, none, none] [.int s1, .ref s0] ws 0 0 := by
  unfold m_X11_place_b40 at h
  obtain ⟨x3, w1, e2, h⟩ := obS2 h
  have ge2 := calSR_of e2
  refine j_callV_g (pc := 40) (As := [.int s1]) (k' := 0) (n' := 0) dX11_place_40 (s_X11_fails ge2.1) (jgV lw_552 lw_553 lw_554 lw_544 lw_551) rfl hv_X11_fails rfl (r_X11_fails ge2.1) rfl (by decide) (by decide) (Nat.le_of_ble_eq_true rfl) (by decide) (by decide) (by decide) (by decide) (Or.inl ge2.2) ?_
  refine j_if_eq (pc := 43) (tgt := 50) dX11_place_43 (by decide) (fun c4 => ?_) (fun c4 => ?_)
  · rw [if_pos c4] at h
    refine j_aload_n (pc := 50) dX11_place_50 rfl ?_
    obtain ⟨x5, e6, h⟩ := obS h
    refine j_getI (pc := 51) dX11_place_51 (ci := 11) (kf := 22) rfl (jwi hw_X11) (by decide) (jwm lw_607) e6 ?_
    obtain ⟨rfl, rfl⟩ := jretS h
    exact j_iret (pc := 54) rfl dX11_place_54 (by decide) (by decide) rfl
  · rw [if_neg c4] at h
    refine j_iconst (pc := 46) dX11_place_46 (v := 0) (by decide) ?_
    refine j_goto (pc := 47) (tgt := 54) dX11_place_47 (by decide) ?_
    obtain ⟨rfl, rfl⟩ := jretS h
    exact j_iret (pc := 54) rfl dX11_place_54 (by decide) (by decide) rfl
def m_X11_place (a0 : Nat) (i1 : Int32) (i2 : Int32) (i3 : Int32) (ws : LWd) : Option (Int32 × LWd) :=
  (rcv ws a0 11).bind fun _ =>
  bn2 (calSR ws (m_X11_isLeg a0 i1 ws)) fun x3 w1 =>
  if x3 = 0 then
    m_X11_place_b40 a0 a0 1 w1
  else
    bn2 (calSR w1 (m_X11_isPoint i2 i3 w1)) fun x7 w5 =>
    if x7 = 0 then
      m_X11_place_b40 a0 a0 2 w5
    else
      bn2 (calSR w5 (m_X11_places a0 i1 i2 i3 w5)) fun x11 w9 =>
      if x11 = 0 then
        m_X11_place_b40 a0 a0 3 w9
      else
        m_X11_place_b40 a0 a0 0 w9
set_option maxRecDepth 100000 in
set_option maxHeartbeats 4000000 in
theorem s_X11_place {a0 : Nat} {i1 : Int32} {i2 : Int32} {i3 : Int32} {ws : LWd} {rr : Int32} {ws' : LWd} (h : m_X11_place a0 i1 i2 i3 ws = some (rr, ws')) : jSp yX11_place wsX11_place 6 0 0 [.ref a0, .int i1, .int i2, .int i3] ws (.inl (some (.int rr)), ws') := by
  unfold m_X11_place at h
  refine j_entry (ret := (some .int)) (nm := "place") (own := RX11) pl_X11 rfl rfl rfl (jcats (by rfl)) (Nat.le_of_ble_eq_true rfl) ?_
  show JG (.inl false) cX11_place 4 RX11 wsX11_place (some .int) "place" 6 0 0 ws.length (.inl (some (.int rr)), ws') 0 [some (.ref a0), some (.int i1), some (.int i2), some (.int i3)] [] ws 0 0
  obtain ⟨_, _, h⟩ := obS h
  refine j_aload_n (pc := 0) dX11_place_0 rfl ?_
  refine j_aload_n (pc := 1) dX11_place_1 rfl ?_
  refine j_iload_n (pc := 2) dX11_place_2 rfl ?_
  obtain ⟨x3, w1, e2, h⟩ := obS2 h
  have ge2 := calSR_of e2
  refine j_callV_g (pc := 3) (As := [.int i1]) (k' := 0) (n' := 0) dX11_place_3 (s_X11_isLeg ge2.1) (jgV lw_568 lw_569 lw_570 lw_544 lw_567) rfl hv_X11_isLeg rfl (r_X11_isLeg ge2.1) rfl (by decide) (by decide) (Nat.le_of_ble_eq_true rfl) (by decide) (by decide) (by decide) (by decide) (Or.inl ge2.2) ?_
  refine j_if_ne (pc := 6) (tgt := 13) dX11_place_6 (by decide) (fun c4 => ?_) (fun c4 => ?_)
  · rw [if_neg c4] at h
    refine j_iload_n (pc := 13) dX11_place_13 rfl ?_
    refine j_iload_n (pc := 14) dX11_place_14 rfl ?_
    obtain ⟨x7, w5, e6, h⟩ := obS2 h
    have ge6 := calSR_of e6
    refine j_callS_g (pc := 15) (As := [.int i2, .int i3]) (k' := 0) (n' := 0) dX11_place_15 (s_X11_isPoint ge6.1) (jgS lw_563 lw_564 lw_544 lw_562) rfl hy_X11_isPoint rfl (by decide) (by decide) (Nat.le_of_ble_eq_true rfl) (by decide) (by decide) (by decide) (by decide) (Or.inl ge6.2) ?_
    refine j_if_ne (pc := 18) (tgt := 25) dX11_place_18 (by decide) (fun c8 => ?_) (fun c8 => ?_)
    · rw [if_neg c8] at h
      refine j_aload_n (pc := 25) dX11_place_25 rfl ?_
      refine j_iload_n (pc := 26) dX11_place_26 rfl ?_
      refine j_iload_n (pc := 27) dX11_place_27 rfl ?_
      refine j_iload_n (pc := 28) dX11_place_28 rfl ?_
      obtain ⟨x11, w9, e10, h⟩ := obS2 h
      have ge10 := calSR_of e10
      refine j_callV_g (pc := 29) (As := [.int i1, .int i2, .int i3]) (k' := 0) (n' := 0) dX11_place_29 (s_X11_places ge10.1) (jgV lw_685 lw_686 lw_687 lw_544 lw_684) rfl hv_X11_places rfl (r_X11_places ge10.1) rfl (by decide) (by decide) (Nat.le_of_ble_eq_true rfl) (by decide) (by decide) (by decide) (by decide) (Or.inl ge10.2) ?_
      refine j_if_eq (pc := 32) (tgt := 39) dX11_place_32 (by decide) (fun c12 => ?_) (fun c12 => ?_)
      · rw [if_pos c12] at h
        refine j_iconst (pc := 39) dX11_place_39 (v := 3) (by decide) ?_
        refine j_mask [true, false, false, false] ?_
        exact jm_X11_place_b40 _ _ _ w9 h
      · rw [if_neg c12] at h
        refine j_iconst (pc := 35) dX11_place_35 (v := 0) (by decide) ?_
        refine j_goto (pc := 36) (tgt := 40) dX11_place_36 (by decide) ?_
        refine j_mask [true, false, false, false] ?_
        exact jm_X11_place_b40 _ _ _ w9 h
    · rw [if_pos c8] at h
      refine j_iconst (pc := 21) dX11_place_21 (v := 2) (by decide) ?_
      refine j_goto (pc := 22) (tgt := 40) dX11_place_22 (by decide) ?_
      refine j_mask [true, false, false, false] ?_
      exact jm_X11_place_b40 _ _ _ w5 h
  · rw [if_pos c4] at h
    refine j_iconst (pc := 9) dX11_place_9 (v := 1) (by decide) ?_
    refine j_goto (pc := 10) (tgt := 40) dX11_place_10 (by decide) ?_
    refine j_mask [true, false, false, false] ?_
    exact jm_X11_place_b40 _ _ _ w1 h
theorem r_X11_place {a0 : Nat} {i1 : Int32} {i2 : Int32} {i3 : Int32} {ws : LWd} {o : (Int32 × LWd)} (h : m_X11_place a0 i1 i2 i3 ws = some o) : ∃ fs, ws[a0]? = some (.inr (11, fs)) := rcv_in h
def wsX11_shift : List Cond := Cond.code yX11_shift cX11_shift 4 (some .int) :: jW
def m_X11_shift_b55 (a0 : Nat) (s0 : Nat) (s1 : Int32) (ws : LWd) : Option (Int32 × LWd) :=
  bn2 (calSR ws (m_X11_fails s0 s1 ws)) fun x3 w1 =>
  if x3 = 0 then
    (fI w1 a0 11 22).bind fun x5 =>
    some (x5, w1)
  else
    some (0, w1)
set_option maxRecDepth 100000 in
set_option maxHeartbeats 4000000 in
theorem jm_X11_shift_b55 {n0 : Nat} {rr : Int32} {ws' : LWd} (a0 : Nat) (s0 : Nat) (s1 : Int32) (ws : LWd) (h : m_X11_shift_b55 a0 s0 s1 ws = some (rr, ws')) : JG (.inl false) cX11_shift 4 RX11 wsX11_shift (some .int) "shift" 6 0 0 n0 (.inl (some (.int rr)), ws') 55 [some (.ref a0), none, none, none] [.int s1, .ref s0] ws 0 0 := by
  unfold m_X11_shift_b55 at h
  obtain ⟨x3, w1, e2, h⟩ := obS2 h
  have ge2 := calSR_of e2
  refine j_callV_g (pc := 55) (As := [.int s1]) (k' := 0) (n' := 0) dX11_shift_55 (s_X11_fails ge2.1) (jgV lw_552 lw_553 lw_554 lw_544 lw_551) rfl hv_X11_fails rfl (r_X11_fails ge2.1) rfl (by decide) (by decide) (Nat.le_of_ble_eq_true rfl) (by decide) (by decide) (by decide) (by decide) (Or.inl ge2.2) ?_
  refine j_if_eq (pc := 58) (tgt := 65) dX11_shift_58 (by decide) (fun c4 => ?_) (fun c4 => ?_)
  · rw [if_pos c4] at h
    refine j_aload_n (pc := 65) dX11_shift_65 rfl ?_
    obtain ⟨x5, e6, h⟩ := obS h
    refine j_getI (pc := 66) dX11_shift_66 (ci := 11) (kf := 22) rfl (jwi hw_X11) (by decide) (jwm lw_607) e6 ?_
    obtain ⟨rfl, rfl⟩ := jretS h
    exact j_iret (pc := 69) rfl dX11_shift_69 (by decide) (by decide) rfl
  · rw [if_neg c4] at h
    refine j_iconst (pc := 61) dX11_shift_61 (v := 0) (by decide) ?_
    refine j_goto (pc := 62) (tgt := 69) dX11_shift_62 (by decide) ?_
    obtain ⟨rfl, rfl⟩ := jretS h
    exact j_iret (pc := 69) rfl dX11_shift_69 (by decide) (by decide) rfl
def m_X11_shift_b31 (a0 : Nat) (i1 : Int32) (i2 : Int32) (s0 : Int32) (ws : LWd) : Option (Int32 × LWd) :=
  if s0 = 0 then
    m_X11_shift_b55 a0 a0 1 ws
  else
    bn2 (calSR ws (m_X11_shifts a0 i1 i2 ws)) fun x4 w2 =>
    if x4 = 0 then
      m_X11_shift_b55 a0 a0 2 w2
    else
      m_X11_shift_b55 a0 a0 0 w2
set_option maxRecDepth 100000 in
set_option maxHeartbeats 4000000 in
theorem jm_X11_shift_b31 {n0 : Nat} {rr : Int32} {ws' : LWd} (a0 : Nat) (i1 : Int32) (i2 : Int32) (s0 : Int32) (ws : LWd) (h : m_X11_shift_b31 a0 i1 i2 s0 ws = some (rr, ws')) : JG (.inl false) cX11_shift 4 RX11 wsX11_shift (some .int) "shift" 6 0 0 n0 (.inl (some (.int rr)), ws') 31 [some (.ref a0), some (.int i1), some (.int i2), none] [.int s0] ws 0 0 := by
  unfold m_X11_shift_b31 at h
  refine j_istore_n_3 (pc := 31) dX11_shift_31 (by decide) rfl ?_
  refine j_aload_n (pc := 32) dX11_shift_32 rfl ?_
  refine j_iload_n (pc := 33) dX11_shift_33 rfl ?_
  refine j_if_ne (pc := 34) (tgt := 41) dX11_shift_34 (by decide) (fun c1 => ?_) (fun c1 => ?_)
  · rw [if_neg c1] at h
    refine j_aload_n (pc := 41) dX11_shift_41 rfl ?_
    refine j_iload_n (pc := 42) dX11_shift_42 rfl ?_
    refine j_iload_n (pc := 43) dX11_shift_43 rfl ?_
    obtain ⟨x4, w2, e3, h⟩ := obS2 h
    have ge3 := calSR_of e3
    refine j_callV_g (pc := 44) (As := [.int i1, .int i2]) (k' := 0) (n' := 0) dX11_shift_44 (s_X11_shifts ge3.1) (jgV lw_689 lw_690 lw_691 lw_544 lw_688) rfl hv_X11_shifts rfl (r_X11_shifts ge3.1) rfl (by decide) (by decide) (Nat.le_of_ble_eq_true rfl) (by decide) (by decide) (by decide) (by decide) (Or.inl ge3.2) ?_
    refine j_if_eq (pc := 47) (tgt := 54) dX11_shift_47 (by decide) (fun c5 => ?_) (fun c5 => ?_)
    · rw [if_pos c5] at h
      refine j_iconst (pc := 54) dX11_shift_54 (v := 2) (by decide) ?_
      refine j_mask [true, false, false, false] ?_
      exact jm_X11_shift_b55 _ _ _ w2 h
    · rw [if_neg c5] at h
      refine j_iconst (pc := 50) dX11_shift_50 (v := 0) (by decide) ?_
      refine j_goto (pc := 51) (tgt := 55) dX11_shift_51 (by decide) ?_
      refine j_mask [true, false, false, false] ?_
      exact jm_X11_shift_b55 _ _ _ w2 h
  · rw [if_pos c1] at h
    refine j_iconst (pc := 37) dX11_shift_37 (v := 1) (by decide) ?_
    refine j_goto (pc := 38) (tgt := 55) dX11_shift_38 (by decide) ?_
    refine j_mask [true, false, false, false] ?_
    exact jm_X11_shift_b55 _ _ _ ws h
def m_X11_shift_b30 (a0 : Nat) (i1 : Int32) (i2 : Int32) (ws : LWd) : Option (Int32 × LWd) :=
  m_X11_shift_b31 a0 i1 i2 0 ws
set_option maxRecDepth 100000 in
set_option maxHeartbeats 4000000 in
theorem jm_X11_shift_b30 {n0 : Nat} {rr : Int32} {ws' : LWd} (a0 : Nat) (i1 : Int32) (i2 : Int32) (ws : LWd) (h : m_X11_shift_b30 a0 i1 i2 ws = some (rr, ws')) : JG (.inl false) cX11_shift 4 RX11 wsX11_shift (some .int) "shift" 6 0 0 n0 (.inl (some (.int rr)), ws') 30 [some (.ref a0), some (.int i1), some (.int i2), none] [] ws 0 0 := by
  unfold m_X11_shift_b30 at h
  refine j_iconst (pc := 30) dX11_shift_30 (v := 0) (by decide) ?_
  exact jm_X11_shift_b31 _ _ _ _ ws h
def m_X11_shift_b26 (a0 : Nat) (i1 : Int32) (i2 : Int32) (ws : LWd) : Option (Int32 × LWd) :=
  m_X11_shift_b31 a0 i1 i2 1 ws
set_option maxRecDepth 100000 in
set_option maxHeartbeats 4000000 in
theorem jm_X11_shift_b26 {n0 : Nat} {rr : Int32} {ws' : LWd} (a0 : Nat) (i1 : Int32) (i2 : Int32) (ws : LWd) (h : m_X11_shift_b26 a0 i1 i2 ws = some (rr, ws')) : JG (.inl false) cX11_shift 4 RX11 wsX11_shift (some .int) "shift" 6 0 0 n0 (.inl (some (.int rr)), ws') 26 [some (.ref a0), some (.int i1), some (.int i2), none] [] ws 0 0 := by
  unfold m_X11_shift_b26 at h
  refine j_iconst (pc := 26) dX11_shift_26 (v := 1) (by decide) ?_
  refine j_goto (pc := 27) (tgt := 31) dX11_shift_27 (by decide) ?_
  exact jm_X11_shift_b31 _ _ _ _ ws h
def m_X11_shift (a0 : Nat) (i1 : Int32) (i2 : Int32) (ws : LWd) : Option (Int32 × LWd) :=
  (rcv ws a0 11).bind fun _ =>
  bn2 (calSR ws (m_X11_isIn i1 ((-1)) 1 ws)) fun x3 w1 =>
  if x3 = 0 then
    m_X11_shift_b30 a0 i1 i2 w1
  else
    bn2 (calSR w1 (m_X11_isIn i2 ((-1)) 1 w1)) fun x7 w5 =>
    if x7 = 0 then
      m_X11_shift_b30 a0 i1 i2 w5
    else
      if i1 = 0 then
        if i2 = 0 then
          m_X11_shift_b30 a0 i1 i2 w5
        else
          m_X11_shift_b26 a0 i1 i2 w5
      else
        m_X11_shift_b26 a0 i1 i2 w5
set_option maxRecDepth 100000 in
set_option maxHeartbeats 4000000 in
theorem s_X11_shift {a0 : Nat} {i1 : Int32} {i2 : Int32} {ws : LWd} {rr : Int32} {ws' : LWd} (h : m_X11_shift a0 i1 i2 ws = some (rr, ws')) : jSp yX11_shift wsX11_shift 6 0 0 [.ref a0, .int i1, .int i2] ws (.inl (some (.int rr)), ws') := by
  unfold m_X11_shift at h
  refine j_entry (ret := (some .int)) (nm := "shift") (own := RX11) pl_X11 rfl rfl rfl (jcats (by rfl)) (Nat.le_of_ble_eq_true rfl) ?_
  show JG (.inl false) cX11_shift 4 RX11 wsX11_shift (some .int) "shift" 6 0 0 ws.length (.inl (some (.int rr)), ws') 0 [some (.ref a0), some (.int i1), some (.int i2), none] [] ws 0 0
  obtain ⟨_, _, h⟩ := obS h
  refine j_iload_n (pc := 0) dX11_shift_0 rfl ?_
  refine j_iconst (pc := 1) dX11_shift_1 (v := (-1)) (by decide) ?_
  refine j_iconst (pc := 2) dX11_shift_2 (v := 1) (by decide) ?_
  obtain ⟨x3, w1, e2, h⟩ := obS2 h
  have ge2 := calSR_of e2
  refine j_callS_g (pc := 3) (As := [.int i1, .int ((-1)), .int 1]) (k' := 0) (n' := 0) dX11_shift_3 (s_X11_isIn ge2.1) (jgS lw_542 lw_543 lw_544 lw_541) rfl hy_X11_isIn rfl (by decide) (by decide) (Nat.le_of_ble_eq_true rfl) (by decide) (by decide) (by decide) (by decide) (Or.inl ge2.2) ?_
  refine j_if_eq (pc := 6) (tgt := 30) dX11_shift_6 (by decide) (fun c4 => ?_) (fun c4 => ?_)
  · rw [if_pos c4] at h
    exact jm_X11_shift_b30 _ _ _ w1 h
  · rw [if_neg c4] at h
    refine j_iload_n (pc := 9) dX11_shift_9 rfl ?_
    refine j_iconst (pc := 10) dX11_shift_10 (v := (-1)) (by decide) ?_
    refine j_iconst (pc := 11) dX11_shift_11 (v := 1) (by decide) ?_
    obtain ⟨x7, w5, e6, h⟩ := obS2 h
    have ge6 := calSR_of e6
    refine j_callS_g (pc := 12) (As := [.int i2, .int ((-1)), .int 1]) (k' := 0) (n' := 0) dX11_shift_12 (s_X11_isIn ge6.1) (jgS lw_542 lw_543 lw_544 lw_541) rfl hy_X11_isIn rfl (by decide) (by decide) (Nat.le_of_ble_eq_true rfl) (by decide) (by decide) (by decide) (by decide) (Or.inl ge6.2) ?_
    refine j_if_eq (pc := 15) (tgt := 30) dX11_shift_15 (by decide) (fun c8 => ?_) (fun c8 => ?_)
    · rw [if_pos c8] at h
      exact jm_X11_shift_b30 _ _ _ w5 h
    · rw [if_neg c8] at h
      refine j_iload_n (pc := 18) dX11_shift_18 rfl ?_
      refine j_if_ne (pc := 19) (tgt := 26) dX11_shift_19 (by decide) (fun c9 => ?_) (fun c9 => ?_)
      · rw [if_neg c9] at h
        exact jm_X11_shift_b26 _ _ _ w5 h
      · rw [if_pos c9] at h
        refine j_iload_n (pc := 22) dX11_shift_22 rfl ?_
        refine j_if_eq (pc := 23) (tgt := 30) dX11_shift_23 (by decide) (fun c10 => ?_) (fun c10 => ?_)
        · rw [if_pos c10] at h
          exact jm_X11_shift_b30 _ _ _ w5 h
        · rw [if_neg c10] at h
          exact jm_X11_shift_b26 _ _ _ w5 h
theorem r_X11_shift {a0 : Nat} {i1 : Int32} {i2 : Int32} {ws : LWd} {o : (Int32 × LWd)} (h : m_X11_shift a0 i1 i2 ws = some o) : ∃ fs, ws[a0]? = some (.inr (11, fs)) := rcv_in h
