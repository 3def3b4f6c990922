/-! methods: written by wip/whole/make.py -/
def wsX11_chart : List Cond := Cond.code yX11_chart cX11_chart 5 (some .int) :: jW
def m_X11_chart_b24 (a0 : Nat) (i1 : Int32) (i2 : Int32) (i3 : Int32) (s0 : Nat) (s1 : Int32) (ws : LWd) : Option (Int32 × LWd) :=
  bn2 (calSR ws (m_X11_fails s0 s1 ws)) fun x3 w1 =>
  if x3 = 0 then
    (fR w1 a0 11 3).bind fun x5 =>
    bn2 (calSR w1 (m_X11_at i1 i2 w1)) fun x9 w7 =>
    (aI w7 x5 x9).bind fun x10 =>
    (fR w7 a0 11 3).bind fun x12 =>
    bn2 (calSR w7 (m_X11_at i1 i2 w7)) fun x16 w14 =>
    (sI w14 x12 x16 i3).bind fun w17 =>
    some (x10, w17)
  else
    some (0, w1)
set_option maxRecDepth 100000 in
set_option maxHeartbeats 4000000 in
theorem jm_X11_chart_b24 {n0 : Nat} {rr : Int32} {ws' : LWd} (a0 : Nat) (i1 : Int32) (i2 : Int32) (i3 : Int32) (s0 : Nat) (s1 : Int32) (ws : LWd) (h : m_X11_chart_b24 a0 i1 i2 i3 s0 s1 ws = some (rr, ws')) : JG (.inl false) cX11_chart 5 RX11 wsX11_chart (some .int) "chart" 2 0 0 n0 (.inl (some (.int rr)), ws') 24 [some (.ref a0), some (.int i1), some (.int i2), some (.int i3), none] [.int s1, .ref s0] ws 0 0 := by
  unfold m_X11_chart_b24 at h
  obtain ⟨x3, w1, e2, h⟩ := obS2 h
  have ge2 := calSR_of e2
  refine j_callV_g (pc := 24) (As := [.int s1]) (k' := 0) (n' := 0) dX11_chart_24 (s_X11_fails ge2.1) (jgV lw_552 lw_553 lw_554 lw_544 lw_551) rfl hv_X11_fails rfl (r_X11_fails ge2.1) rfl (by decide) (by decide) (Nat.le_of_ble_eq_true rfl) (by decide) (by decide) (by decide) (by decide) (Or.inl ge2.2) ?_
  refine j_if_eq (pc := 27) (tgt := 32) dX11_chart_27 (by decide) (fun c4 => ?_) (fun c4 => ?_)
  · rw [if_pos c4] at h
    refine j_aload_n (pc := 32) dX11_chart_32 rfl ?_
    obtain ⟨x5, e6, h⟩ := obS h
    refine j_getR (pc := 33) dX11_chart_33 (ci := 11) (kf := 3) rfl (jwi hw_X11) (by decide) (jwm lw_528) e6 ?_
    refine j_iload_n (pc := 36) dX11_chart_36 rfl ?_
    refine j_iload_n (pc := 37) dX11_chart_37 rfl ?_
    obtain ⟨x9, w7, e8, h⟩ := obS2 h
    have ge8 := calSR_of e8
    refine j_callS_g (pc := 38) (As := [.int i1, .int i2]) (k' := 0) (n' := 0) dX11_chart_38 (s_X11_at ge8.1) (jgS lw_556 lw_557 lw_544 lw_555) rfl hy_X11_at rfl (by decide) (by decide) (Nat.le_of_ble_eq_true rfl) (by decide) (by decide) (by decide) (by decide) (Or.inl ge8.2) ?_
    obtain ⟨x10, e11, h⟩ := obS h
    refine j_iald (pc := 41) dX11_chart_41 e11 ?_
    refine j_istore_4 (pc := 42) dX11_chart_42 (by decide) rfl ?_
    refine j_aload_n (pc := 44) dX11_chart_44 rfl ?_
    obtain ⟨x12, e13, h⟩ := obS h
    refine j_getR (pc := 45) dX11_chart_45 (ci := 11) (kf := 3) rfl (jwi hw_X11) (by decide) (jwm lw_528) e13 ?_
    refine j_iload_n (pc := 48) dX11_chart_48 rfl ?_
    refine j_iload_n (pc := 49) dX11_chart_49 rfl ?_
    obtain ⟨x16, w14, e15, h⟩ := obS2 h
    have ge15 := calSR_of e15
    refine j_callS_g (pc := 50) (As := [.int i1, .int i2]) (k' := 0) (n' := 0) dX11_chart_50 (s_X11_at ge15.1) (jgS lw_556 lw_557 lw_544 lw_555) rfl hy_X11_at rfl (by decide) (by decide) (Nat.le_of_ble_eq_true rfl) (by decide) (by decide) (by decide) (by decide) (Or.inl ge15.2) ?_
    refine j_iload_n (pc := 53) dX11_chart_53 rfl ?_
    obtain ⟨w17, e18, h⟩ := obS h
    refine j_iast (pc := 54) dX11_chart_54 e18 ?_
    refine j_iload (pc := 55) dX11_chart_55 rfl ?_
    obtain ⟨rfl, rfl⟩ := jretS h
    exact j_iret (pc := 57) rfl dX11_chart_57 (by decide) (by decide) rfl
  · rw [if_neg c4] at h
    refine j_iconst (pc := 30) dX11_chart_30 (v := 0) (by decide) ?_
    obtain ⟨rfl, rfl⟩ := jretS h
    exact j_iret (pc := 31) rfl dX11_chart_31 (by decide) (by decide) rfl
def m_X11_chart_b23 (a0 : Nat) (i1 : Int32) (i2 : Int32) (i3 : Int32) (s0 : Nat) (ws : LWd) : Option (Int32 × LWd) :=
  m_X11_chart_b24 a0 i1 i2 i3 s0 1 ws
set_option maxRecDepth 100000 in
set_option maxHeartbeats 4000000 in
theorem jm_X11_chart_b23 {n0 : Nat} {rr : Int32} {ws' : LWd} (a0 : Nat) (i1 : Int32) (i2 : Int32) (i3 : Int32) (s0 : Nat) (ws : LWd) (h : m_X11_chart_b23 a0 i1 i2 i3 s0 ws = some (rr, ws')) : JG (.inl false) cX11_chart 5 RX11 wsX11_chart (some .int) "chart" 2 0 0 n0 (.inl (some (.int rr)), ws') 23 [some (.ref a0), some (.int i1), some (.int i2), some (.int i3), none] [.ref s0] ws 0 0 := by
  unfold m_X11_chart_b23 at h
  refine j_iconst (pc := 23) dX11_chart_23 (v := 1) (by decide) ?_
  exact jm_X11_chart_b24 _ _ _ _ _ _ ws h
def m_X11_chart (a0 : Nat) (i1 : Int32) (i2 : Int32) (i3 : Int32) (ws : LWd) : Option (Int32 × LWd) :=
  (rcv ws a0 11).bind fun _ =>
  bn2 (calSR ws (m_X11_isPoint i1 i2 ws)) fun x3 w1 =>
  if x3 = 0 then
    m_X11_chart_b23 a0 i1 i2 i3 a0 w1
  else
    bn2 (calSR w1 (m_X11_isIn i3 0 9 w1)) fun x7 w5 =>
    if x7 = 0 then
      m_X11_chart_b23 a0 i1 i2 i3 a0 w5
    else
      m_X11_chart_b24 a0 i1 i2 i3 a0 0 w5
set_option maxRecDepth 100000 in
set_option maxHeartbeats 4000000 in
theorem s_X11_chart {a0 : Nat} {i1 : Int32} {i2 : Int32} {i3 : Int32} {ws : LWd} {rr : Int32} {ws' : LWd} (h : m_X11_chart a0 i1 i2 i3 ws = some (rr, ws')) : jSp yX11_chart wsX11_chart 2 0 0 [.ref a0, .int i1, .int i2, .int i3] ws (.inl (some (.int rr)), ws') := by
  unfold m_X11_chart at h
  refine j_entry (ret := (some .int)) (nm := "chart") (own := RX11) pl_X11 rfl rfl rfl (jcats (by rfl)) (Nat.le_of_ble_eq_true rfl) ?_
  show JG (.inl false) cX11_chart 5 RX11 wsX11_chart (some .int) "chart" 2 0 0 ws.length (.inl (some (.int rr)), ws') 0 [some (.ref a0), some (.int i1), some (.int i2), some (.int i3), none] [] ws 0 0
  obtain ⟨_, _, h⟩ := obS h
  refine j_aload_n (pc := 0) dX11_chart_0 rfl ?_
  refine j_iload_n (pc := 1) dX11_chart_1 rfl ?_
  refine j_iload_n (pc := 2) dX11_chart_2 rfl ?_
  obtain ⟨x3, w1, e2, h⟩ := obS2 h
  have ge2 := calSR_of e2
  refine j_callS_g (pc := 3) (As := [.int i1, .int i2]) (k' := 0) (n' := 0) dX11_chart_3 (s_X11_isPoint ge2.1) (jgS lw_563 lw_564 lw_544 lw_562) rfl hy_X11_isPoint rfl (by decide) (by decide) (Nat.le_of_ble_eq_true rfl) (by decide) (by decide) (by decide) (by decide) (Or.inl ge2.2) ?_
  refine j_if_eq (pc := 6) (tgt := 23) dX11_chart_6 (by decide) (fun c4 => ?_) (fun c4 => ?_)
  · rw [if_pos c4] at h
    exact jm_X11_chart_b23 _ _ _ _ _ w1 h
  · rw [if_neg c4] at h
    refine j_iload_n (pc := 9) dX11_chart_9 rfl ?_
    refine j_iconst (pc := 10) dX11_chart_10 (v := 0) (by decide) ?_
    refine j_bipush (pc := 11) dX11_chart_11 (v := 9) (by decide) ?_
    obtain ⟨x7, w5, e6, h⟩ := obS2 h
    have ge6 := calSR_of e6
    refine j_callS_g (pc := 13) (As := [.int i3, .int 0, .int 9]) (k' := 0) (n' := 0) dX11_chart_13 (s_X11_isIn ge6.1) (jgS lw_542 lw_543 lw_544 lw_541) rfl hy_X11_isIn rfl (by decide) (by decide) (Nat.le_of_ble_eq_true rfl) (by decide) (by decide) (by decide) (by decide) (Or.inl ge6.2) ?_
    refine j_if_eq (pc := 16) (tgt := 23) dX11_chart_16 (by decide) (fun c8 => ?_) (fun c8 => ?_)
    · rw [if_pos c8] at h
      exact jm_X11_chart_b23 _ _ _ _ _ w5 h
    · rw [if_neg c8] at h
      refine j_iconst (pc := 19) dX11_chart_19 (v := 0) (by decide) ?_
      refine j_goto (pc := 20) (tgt := 24) dX11_chart_20 (by decide) ?_
      exact jm_X11_chart_b24 _ _ _ _ _ _ w5 h
theorem r_X11_chart {a0 : Nat} {i1 : Int32} {i2 : Int32} {i3 : Int32} {ws : LWd} {o : (Int32 × LWd)} (h : m_X11_chart a0 i1 i2 i3 ws = some o) : ∃ fs, ws[a0]? = some (.inr (11, fs)) := rcv_in h
def wsX11_leg : List Cond := Cond.code yX11_leg cX11_leg 5 (some .int) :: jW
def m_X11_leg_b68 (a0 : Nat) (i1 : Int32) (i2 : Int32) (i3 : Int32) (s0 : Nat) (s1 : Int32) (ws : LWd) : Option (Int32 × LWd) :=
  bn2 (calSR ws (m_X11_fails s0 s1 ws)) fun x3 w1 =>
  if x3 = 0 then
    (fR w1 a0 11 12).bind fun x5 =>
    (fI w1 a0 11 11).bind fun x7 =>
    (sI w1 x5 x7 i1).bind fun w9 =>
    (fR w9 a0 11 13).bind fun x11 =>
    (fI w9 a0 11 11).bind fun x13 =>
    (sI w9 x11 x13 i2).bind fun w15 =>
    (fR w15 a0 11 14).bind fun x17 =>
    (fI w15 a0 11 11).bind fun x19 =>
    (sI w15 x17 x19 i3).bind fun w21 =>
    (fI w21 a0 11 11).bind fun x23 =>
    (pV w21 a0 11 11 (.int (x23 + 1))).bind fun w25 =>
    (fI w25 a0 11 11).bind fun x27 =>
    some (x27 - 1, w25)
  else
    some (0, w1)
set_option maxRecDepth 100000 in
set_option maxHeartbeats 4000000 in
theorem jm_X11_leg_b68 {n0 : Nat} {rr : Int32} {ws' : LWd} (a0 : Nat) (i1 : Int32) (i2 : Int32) (i3 : Int32) (s0 : Nat) (s1 : Int32) (ws : LWd) (h : m_X11_leg_b68 a0 i1 i2 i3 s0 s1 ws = some (rr, ws')) : JG (.inl false) cX11_leg 5 RX11 wsX11_leg (some .int) "leg" 1 0 0 n0 (.inl (some (.int rr)), ws') 68 [some (.ref a0), some (.int i1), some (.int i2), some (.int i3), none] [.int s1, .ref s0] ws 0 0 := by
  unfold m_X11_leg_b68 at h
  obtain ⟨x3, w1, e2, h⟩ := obS2 h
  have ge2 := calSR_of e2
  refine j_callV_g (pc := 68) (As := [.int s1]) (k' := 0) (n' := 0) dX11_leg_68 (s_X11_fails ge2.1) (jgV lw_552 lw_553 lw_554 lw_544 lw_551) rfl hv_X11_fails rfl (r_X11_fails ge2.1) rfl (by decide) (by decide) (Nat.le_of_ble_eq_true rfl) (by decide) (by decide) (by decide) (by decide) (Or.inl ge2.2) ?_
  refine j_if_eq (pc := 71) (tgt := 76) dX11_leg_71 (by decide) (fun c4 => ?_) (fun c4 => ?_)
  · rw [if_pos c4] at h
    refine j_aload_n (pc := 76) dX11_leg_76 rfl ?_
    obtain ⟨x5, e6, h⟩ := obS h
    refine j_getR (pc := 77) dX11_leg_77 (ci := 11) (kf := 12) rfl (jwi hw_X11) (by decide) (jwm lw_532) e6 ?_
    refine j_aload_n (pc := 80) dX11_leg_80 rfl ?_
    obtain ⟨x7, e8, h⟩ := obS h
    refine j_getI (pc := 81) dX11_leg_81 (ci := 11) (kf := 11) rfl (jwi hw_X11) (by decide) (jwm lw_545) e8 ?_
    refine j_iload_n (pc := 84) dX11_leg_84 rfl ?_
    obtain ⟨w9, e10, h⟩ := obS h
    refine j_iast (pc := 85) dX11_leg_85 e10 ?_
    refine j_aload_n (pc := 86) dX11_leg_86 rfl ?_
    obtain ⟨x11, e12, h⟩ := obS h
    refine j_getR (pc := 87) dX11_leg_87 (ci := 11) (kf := 13) rfl (jwi hw_X11) (by decide) (jwm lw_533) e12 ?_
    refine j_aload_n (pc := 90) dX11_leg_90 rfl ?_
    obtain ⟨x13, e14, h⟩ := obS h
    refine j_getI (pc := 91) dX11_leg_91 (ci := 11) (kf := 11) rfl (jwi hw_X11) (by decide) (jwm lw_545) e14 ?_
    refine j_iload_n (pc := 94) dX11_leg_94 rfl ?_
    obtain ⟨w15, e16, h⟩ := obS h
    refine j_iast (pc := 95) dX11_leg_95 e16 ?_
    refine j_aload_n (pc := 96) dX11_leg_96 rfl ?_
    obtain ⟨x17, e18, h⟩ := obS h
    refine j_getR (pc := 97) dX11_leg_97 (ci := 11) (kf := 14) rfl (jwi hw_X11) (by decide) (jwm lw_534) e18 ?_
    refine j_aload_n (pc := 100) dX11_leg_100 rfl ?_
    obtain ⟨x19, e20, h⟩ := obS h
    refine j_getI (pc := 101) dX11_leg_101 (ci := 11) (kf := 11) rfl (jwi hw_X11) (by decide) (jwm lw_545) e20 ?_
    refine j_iload_n (pc := 104) dX11_leg_104 rfl ?_
    obtain ⟨w21, e22, h⟩ := obS h
    refine j_iast (pc := 105) dX11_leg_105 e22 ?_
    refine j_aload_n (pc := 106) dX11_leg_106 rfl ?_
    refine j_dup (pc := 107) dX11_leg_107 rfl ?_
    obtain ⟨x23, e24, h⟩ := obS h
    refine j_getI (pc := 108) dX11_leg_108 (ci := 11) (kf := 11) rfl (jwi hw_X11) (by decide) (jwm lw_545) e24 ?_
    refine j_iconst (pc := 111) dX11_leg_111 (v := 1) (by decide) ?_
    refine j_iadd (pc := 112) dX11_leg_112 ?_
    obtain ⟨w25, e26, h⟩ := obS h
    refine j_putV (pc := 113) (ci := 11) (kf := 11) tyX11 tyX11_ok nmX11 dX11_leg_113 rfl (jwi hw_X11) (by decide) (jwm lw_545) rfl (fun _ => rfl) (fun _ => rfl) e26 ?_
    refine j_aload_n (pc := 116) dX11_leg_116 rfl ?_
    obtain ⟨x27, e28, h⟩ := obS h
    refine j_getI (pc := 117) dX11_leg_117 (ci := 11) (kf := 11) rfl (jwi hw_X11) (by decide) (jwm lw_545) e28 ?_
    refine j_iconst (pc := 120) dX11_leg_120 (v := 1) (by decide) ?_
    refine j_isub (pc := 121) dX11_leg_121 ?_
    obtain ⟨rfl, rfl⟩ := jretS h
    exact j_iret (pc := 122) rfl dX11_leg_122 (by decide) (by decide) rfl
  · rw [if_neg c4] at h
    refine j_iconst (pc := 74) dX11_leg_74 (v := 0) (by decide) ?_
    obtain ⟨rfl, rfl⟩ := jretS h
    exact j_iret (pc := 75) rfl dX11_leg_75 (by decide) (by decide) rfl
def m_X11_leg_b63 (a0 : Nat) (i1 : Int32) (i2 : Int32) (i3 : Int32) (s0 : Nat) (ws : LWd) : Option (Int32 × LWd) :=
  m_X11_leg_b68 a0 i1 i2 i3 s0 2 ws
set_option maxRecDepth 100000 in
set_option maxHeartbeats 4000000 in
theorem jm_X11_leg_b63 {n0 : Nat} {rr : Int32} {ws' : LWd} (a0 : Nat) (i1 : Int32) (i2 : Int32) (i3 : Int32) (s0 : Nat) (ws : LWd) (h : m_X11_leg_b63 a0 i1 i2 i3 s0 ws = some (rr, ws')) : JG (.inl false) cX11_leg 5 RX11 wsX11_leg (some .int) "leg" 1 0 0 n0 (.inl (some (.int rr)), ws') 63 [some (.ref a0), some (.int i1), some (.int i2), some (.int i3), none] [.ref s0] ws 0 0 := by
  unfold m_X11_leg_b63 at h
  refine j_iconst (pc := 63) dX11_leg_63 (v := 2) (by decide) ?_
  refine j_goto (pc := 64) (tgt := 68) dX11_leg_64 (by decide) ?_
  exact jm_X11_leg_b68 _ _ _ _ _ _ ws h
def m_X11_leg_b35 (a0 : Nat) (i1 : Int32) (i2 : Int32) (i3 : Int32) (s0 : Int32) (ws : LWd) : Option (Int32 × LWd) :=
  if s0 = 0 then
    m_X11_leg_b68 a0 i1 i2 i3 a0 1 ws
  else
    (fI ws a0 11 11).bind fun x2 =>
    if x2 = 6 then
      m_X11_leg_b63 a0 i1 i2 i3 a0 ws
    else
      (fI ws a0 11 4).bind fun x5 =>
      if x5 = 0 then
        m_X11_leg_b68 a0 i1 i2 i3 a0 0 ws
      else
        m_X11_leg_b63 a0 i1 i2 i3 a0 ws
set_option maxRecDepth 100000 in
set_option maxHeartbeats 4000000 in
theorem jm_X11_leg_b35 {n0 : Nat} {rr : Int32} {ws' : LWd} (a0 : Nat) (i1 : Int32) (i2 : Int32) (i3 : Int32) (s0 : Int32) (ws : LWd) (h : m_X11_leg_b35 a0 i1 i2 i3 s0 ws = some (rr, ws')) : JG (.inl false) cX11_leg 5 RX11 wsX11_leg (some .int) "leg" 1 0 0 n0 (.inl (some (.int rr)), ws') 35 [some (.ref a0), some (.int i1), some (.int i2), some (.int i3), none] [.int s0] ws 0 0 := by
  unfold m_X11_leg_b35 at h
  refine j_istore_4 (pc := 35) dX11_leg_35 (by decide) rfl ?_
  refine j_aload_n (pc := 37) dX11_leg_37 rfl ?_
  refine j_iload (pc := 38) dX11_leg_38 rfl ?_
  refine j_if_ne (pc := 40) (tgt := 47) dX11_leg_40 (by decide) (fun c1 => ?_) (fun c1 => ?_)
  · rw [if_neg c1] at h
    refine j_aload_n (pc := 47) dX11_leg_47 rfl ?_
    obtain ⟨x2, e3, h⟩ := obS h
    refine j_getI (pc := 48) dX11_leg_48 (ci := 11) (kf := 11) rfl (jwi hw_X11) (by decide) (jwm lw_545) e3 ?_
    refine j_bipush (pc := 51) dX11_leg_51 (v := 6) (by decide) ?_
    refine j_icmp_eq (pc := 53) (tgt := 63) dX11_leg_53 (by decide) (fun c4 => ?_) (fun c4 => ?_)
    · rw [if_pos c4] at h
      refine j_mask [true, true, true, true, false] ?_
      exact jm_X11_leg_b63 _ _ _ _ _ ws h
    · rw [if_neg c4] at h
      refine j_aload_n (pc := 56) dX11_leg_56 rfl ?_
      obtain ⟨x5, e6, h⟩ := obS h
      refine j_getI (pc := 57) dX11_leg_57 (ci := 11) (kf := 4) rfl (jwi hw_X11) (by decide) (jwm lw_565) e6 ?_
      refine j_if_eq (pc := 60) (tgt := 67) dX11_leg_60 (by decide) (fun c7 => ?_) (fun c7 => ?_)
      · rw [if_pos c7] at h
        refine j_iconst (pc := 67) dX11_leg_67 (v := 0) (by decide) ?_
        refine j_mask [true, true, true, true, false] ?_
        exact jm_X11_leg_b68 _ _ _ _ _ _ ws h
      · rw [if_neg c7] at h
        refine j_mask [true, true, true, true, false] ?_
        exact jm_X11_leg_b63 _ _ _ _ _ ws h
  · rw [if_pos c1] at h
    refine j_iconst (pc := 43) dX11_leg_43 (v := 1) (by decide) ?_
    refine j_goto (pc := 44) (tgt := 68) dX11_leg_44 (by decide) ?_
    refine j_mask [true, true, true, true, false] ?_
    exact jm_X11_leg_b68 _ _ _ _ _ _ ws h
def m_X11_leg_b34 (a0 : Nat) (i1 : Int32) (i2 : Int32) (i3 : Int32) (ws : LWd) : Option (Int32 × LWd) :=
  m_X11_leg_b35 a0 i1 i2 i3 0 ws
set_option maxRecDepth 100000 in
set_option maxHeartbeats 4000000 in
theorem jm_X11_leg_b34 {n0 : Nat} {rr : Int32} {ws' : LWd} (a0 : Nat) (i1 : Int32) (i2 : Int32) (i3 : Int32) (ws : LWd) (h : m_X11_leg_b34 a0 i1 i2 i3 ws = some (rr, ws')) : JG (.inl false) cX11_leg 5 RX11 wsX11_leg (some .int) "leg" 1 0 0 n0 (.inl (some (.int rr)), ws') 34 [some (.ref a0), some (.int i1), some (.int i2), some (.int i3), none] [] ws 0 0 := by
  unfold m_X11_leg_b34 at h
  refine j_iconst (pc := 34) dX11_leg_34 (v := 0) (by decide) ?_
  exact jm_X11_leg_b35 _ _ _ _ _ ws h
def m_X11_leg (a0 : Nat) (i1 : Int32) (i2 : Int32) (i3 : Int32) (ws : LWd) : Option (Int32 × LWd) :=
  (rcv ws a0 11).bind fun _ =>
  bn2 (calSR ws (m_X11_isIn i1 ((-5)) 5 ws)) fun x3 w1 =>
  if x3 = 0 then
    m_X11_leg_b34 a0 i1 i2 i3 w1
  else
    bn2 (calSR w1 (m_X11_isIn i2 ((-5)) 5 w1)) fun x7 w5 =>
    if x7 = 0 then
      m_X11_leg_b34 a0 i1 i2 i3 w5
    else
      bn2 (calSR w5 (m_X11_isIn i3 1 6 w5)) fun x11 w9 =>
      if x11 = 0 then
        m_X11_leg_b34 a0 i1 i2 i3 w9
      else
        m_X11_leg_b35 a0 i1 i2 i3 1 w9
set_option maxRecDepth 100000 in
set_option maxHeartbeats 4000000 in
theorem s_X11_leg {a0 : Nat} {i1 : Int32} {i2 : Int32} {i3 : Int32} {ws : LWd} {rr : Int32} {ws' : LWd} (h : m_X11_leg a0 i1 i2 i3 ws = some (rr, ws')) : jSp yX11_leg wsX11_leg 1 0 0 [.ref a0, .int i1, .int i2, .int i3] ws (.inl (some (.int rr)), ws') := by
  unfold m_X11_leg at h
  refine j_entry (ret := (some .int)) (nm := "leg") (own := RX11) pl_X11 rfl rfl rfl (jcats (by rfl)) (Nat.le_of_ble_eq_true rfl) ?_
  show JG (.inl false) cX11_leg 5 RX11 wsX11_leg (some .int) "leg" 1 0 0 ws.length (.inl (some (.int rr)), ws') 0 [some (.ref a0), some (.int i1), some (.int i2), some (.int i3), none] [] ws 0 0
  obtain ⟨_, _, h⟩ := obS h
  refine j_iload_n (pc := 0) dX11_leg_0 rfl ?_
  refine j_bipush (pc := 1) dX11_leg_1 (v := (-5)) (by decide) ?_
  refine j_iconst (pc := 3) dX11_leg_3 (v := 5) (by decide) ?_
  obtain ⟨x3, w1, e2, h⟩ := obS2 h
  have ge2 := calSR_of e2
  refine j_callS_g (pc := 4) (As := [.int i1, .int ((-5)), .int 5]) (k' := 0) (n' := 0) dX11_leg_4 (s_X11_isIn ge2.1) (jgS lw_542 lw_543 lw_544 lw_541) rfl hy_X11_isIn rfl (by decide) (by decide) (Nat.le_of_ble_eq_true rfl) (by decide) (by decide) (by decide) (by decide) (Or.inl ge2.2) ?_
  refine j_if_eq (pc := 7) (tgt := 34) dX11_leg_7 (by decide) (fun c4 => ?_) (fun c4 => ?_)
  · rw [if_pos c4] at h
    exact jm_X11_leg_b34 _ _ _ _ w1 h
  · rw [if_neg c4] at h
    refine j_iload_n (pc := 10) dX11_leg_10 rfl ?_
    refine j_bipush (pc := 11) dX11_leg_11 (v := (-5)) (by decide) ?_
    refine j_iconst (pc := 13) dX11_leg_13 (v := 5) (by decide) ?_
    obtain ⟨x7, w5, e6, h⟩ := obS2 h
    have ge6 := calSR_of e6
    refine j_callS_g (pc := 14) (As := [.int i2, .int ((-5)), .int 5]) (k' := 0) (n' := 0) dX11_leg_14 (s_X11_isIn ge6.1) (jgS lw_542 lw_543 lw_544 lw_541) rfl hy_X11_isIn rfl (by decide) (by decide) (Nat.le_of_ble_eq_true rfl) (by decide) (by decide) (by decide) (by decide) (Or.inl ge6.2) ?_
    refine j_if_eq (pc := 17) (tgt := 34) dX11_leg_17 (by decide) (fun c8 => ?_) (fun c8 => ?_)
    · rw [if_pos c8] at h
      exact jm_X11_leg_b34 _ _ _ _ w5 h
    · rw [if_neg c8] at h
      refine j_iload_n (pc := 20) dX11_leg_20 rfl ?_
      refine j_iconst (pc := 21) dX11_leg_21 (v := 1) (by decide) ?_
      refine j_bipush (pc := 22) dX11_leg_22 (v := 6) (by decide) ?_
      obtain ⟨x11, w9, e10, h⟩ := obS2 h
      have ge10 := calSR_of e10
      refine j_callS_g (pc := 24) (As := [.int i3, .int 1, .int 6]) (k' := 0) (n' := 0) dX11_leg_24 (s_X11_isIn ge10.1) (jgS lw_542 lw_543 lw_544 lw_541) rfl hy_X11_isIn rfl (by decide) (by decide) (Nat.le_of_ble_eq_true rfl) (by decide) (by decide) (by decide) (by decide) (Or.inl ge10.2) ?_
      refine j_if_eq (pc := 27) (tgt := 34) dX11_leg_27 (by decide) (fun c12 => ?_) (fun c12 => ?_)
      · rw [if_pos c12] at h
        exact jm_X11_leg_b34 _ _ _ _ w9 h
      · rw [if_neg c12] at h
        refine j_iconst (pc := 30) dX11_leg_30 (v := 1) (by decide) ?_
        refine j_goto (pc := 31) (tgt := 35) dX11_leg_31 (by decide) ?_
        exact jm_X11_leg_b35 _ _ _ _ _ w9 h
theorem r_X11_leg {a0 : Nat} {i1 : Int32} {i2 : Int32} {i3 : Int32} {ws : LWd} {o : (Int32 × LWd)} (h : m_X11_leg a0 i1 i2 i3 ws = some o) : ∃ fs, ws[a0]? = some (.inr (11, fs)) := rcv_in h
def wsX11_charge : List Cond := Cond.code yX11_charge cX11_charge 2 (some .int) :: jW
def m_X11_charge_b50 (a0 : Nat) (s0 : Nat) (s1 : Int32) (ws : LWd) : Option (Int32 × LWd) :=
  (pV ws s0 11 7 (.int s1)).bind fun w1 =>
  (fI w1 a0 11 7).bind fun x3 =>
  some (x3, w1)
set_option maxRecDepth 100000 in
set_option maxHeartbeats 4000000 in
theorem jm_X11_charge_b50 {n0 : Nat} {rr : Int32} {ws' : LWd} (a0 : Nat) (s0 : Nat) (s1 : Int32) (ws : LWd) (h : m_X11_charge_b50 a0 s0 s1 ws = some (rr, ws')) : JG (.inl false) cX11_charge 2 RX11 wsX11_charge (some .int) "charge" 1 0 0 n0 (.inl (some (.int rr)), ws') 50 [some (.ref a0), none] [.int s1, .ref s0] ws 0 0 := by
  unfold m_X11_charge_b50 at h
  obtain ⟨w1, e2, h⟩ := obS h
  refine j_putV (pc := 50) (ci := 11) (kf := 7) tyX11 tyX11_ok nmX11 dX11_charge_50 rfl (jwi hw_X11) (by decide) (jwm lw_531) rfl (fun _ => rfl) (fun _ => rfl) e2 ?_
  refine j_aload_n (pc := 53) dX11_charge_53 rfl ?_
  obtain ⟨x3, e4, h⟩ := obS h
  refine j_getI (pc := 54) dX11_charge_54 (ci := 11) (kf := 7) rfl (jwi hw_X11) (by decide) (jwm lw_531) e4 ?_
  obtain ⟨rfl, rfl⟩ := jretS h
  exact j_iret (pc := 57) rfl dX11_charge_57 (by decide) (by decide) rfl
def m_X11_charge_b17 (a0 : Nat) (i1 : Int32) (s0 : Nat) (s1 : Int32) (ws : LWd) : Option (Int32 × LWd) :=
  bn2 (calSR ws (m_X11_fails s0 s1 ws)) fun x3 w1 =>
  if x3 = 0 then
    (fI w1 a0 11 7).bind fun x5 =>
    if (x5 + i1) ≤ 1000 then
      (fI w1 a0 11 7).bind fun x8 =>
      m_X11_charge_b50 a0 a0 (x8 + i1) w1
    else
      m_X11_charge_b50 a0 a0 1000 w1
  else
    some (0, w1)
set_option maxRecDepth 100000 in
set_option maxHeartbeats 4000000 in
theorem jm_X11_charge_b17 {n0 : Nat} {rr : Int32} {ws' : LWd} (a0 : Nat) (i1 : Int32) (s0 : Nat) (s1 : Int32) (ws : LWd) (h : m_X11_charge_b17 a0 i1 s0 s1 ws = some (rr, ws')) : JG (.inl false) cX11_charge 2 RX11 wsX11_charge (some .int) "charge" 1 0 0 n0 (.inl (some (.int rr)), ws') 17 [some (.ref a0), some (.int i1)] [.int s1, .ref s0] ws 0 0 := by
  unfold m_X11_charge_b17 at h
  obtain ⟨x3, w1, e2, h⟩ := obS2 h
  have ge2 := calSR_of e2
  refine j_callV_g (pc := 17) (As := [.int s1]) (k' := 0) (n' := 0) dX11_charge_17 (s_X11_fails ge2.1) (jgV lw_552 lw_553 lw_554 lw_544 lw_551) rfl hv_X11_fails rfl (r_X11_fails ge2.1) rfl (by decide) (by decide) (Nat.le_of_ble_eq_true rfl) (by decide) (by decide) (by decide) (by decide) (Or.inl ge2.2) ?_
  refine j_if_eq (pc := 20) (tgt := 25) dX11_charge_20 (by decide) (fun c4 => ?_) (fun c4 => ?_)
  · rw [if_pos c4] at h
    refine j_aload_n (pc := 25) dX11_charge_25 rfl ?_
    refine j_aload_n (pc := 26) dX11_charge_26 rfl ?_
    obtain ⟨x5, e6, h⟩ := obS h
    refine j_getI (pc := 27) dX11_charge_27 (ci := 11) (kf := 7) rfl (jwi hw_X11) (by decide) (jwm lw_531) e6 ?_
    refine j_iload_n (pc := 30) dX11_charge_30 rfl ?_
    refine j_iadd (pc := 31) dX11_charge_31 ?_
    refine j_sipush (pc := 32) dX11_charge_32 (v := 1000) (by decide) ?_
    refine j_icmp_le (pc := 35) (tgt := 44) dX11_charge_35 (by decide) (fun c7 => ?_) (fun c7 => ?_)
    · rw [if_pos c7] at h
      refine j_aload_n (pc := 44) dX11_charge_44 rfl ?_
      obtain ⟨x8, e9, h⟩ := obS h
      refine j_getI (pc := 45) dX11_charge_45 (ci := 11) (kf := 7) rfl (jwi hw_X11) (by decide) (jwm lw_531) e9 ?_
      refine j_iload_n (pc := 48) dX11_charge_48 rfl ?_
      refine j_iadd (pc := 49) dX11_charge_49 ?_
      refine j_mask [true, false] ?_
      exact jm_X11_charge_b50 _ _ _ w1 h
    · rw [if_neg c7] at h
      refine j_sipush (pc := 38) dX11_charge_38 (v := 1000) (by decide) ?_
      refine j_goto (pc := 41) (tgt := 50) dX11_charge_41 (by decide) ?_
      refine j_mask [true, false] ?_
      exact jm_X11_charge_b50 _ _ _ w1 h
  · rw [if_neg c4] at h
    refine j_iconst (pc := 23) dX11_charge_23 (v := 0) (by decide) ?_
    obtain ⟨rfl, rfl⟩ := jretS h
    exact j_iret (pc := 24) rfl dX11_charge_24 (by decide) (by decide) rfl
def m_X11_charge (a0 : Nat) (i1 : Int32) (ws : LWd) : Option (Int32 × LWd) :=
  (rcv ws a0 11).bind fun _ =>
  bn2 (calSR ws (m_X11_isIn i1 1 1000 ws)) fun x3 w1 =>
  if x3 = 0 then
    m_X11_charge_b17 a0 i1 a0 1 w1
  else
    m_X11_charge_b17 a0 i1 a0 0 w1
set_option maxRecDepth 100000 in
set_option maxHeartbeats 4000000 in
theorem s_X11_charge {a0 : Nat} {i1 : Int32} {ws : LWd} {rr : Int32} {ws' : LWd} (h : m_X11_charge a0 i1 ws = some (rr, ws')) : jSp yX11_charge wsX11_charge 1 0 0 [.ref a0, .int i1] ws (.inl (some (.int rr)), ws') := by
  unfold m_X11_charge at h
  refine j_entry (ret := (some .int)) (nm := "charge") (own := RX11) pl_X11 rfl rfl rfl (jcats (by rfl)) (Nat.le_of_ble_eq_true rfl) ?_
  show JG (.inl false) cX11_charge 2 RX11 wsX11_charge (some .int) "charge" 1 0 0 ws.length (.inl (some (.int rr)), ws') 0 [some (.ref a0), some (.int i1)] [] ws 0 0
  obtain ⟨_, _, h⟩ := obS h
  refine j_aload_n (pc := 0) dX11_charge_0 rfl ?_
  refine j_iload_n (pc := 1) dX11_charge_1 rfl ?_
  refine j_iconst (pc := 2) dX11_charge_2 (v := 1) (by decide) ?_
  refine j_sipush (pc := 3) dX11_charge_3 (v := 1000) (by decide) ?_
  obtain ⟨x3, w1, e2, h⟩ := obS2 h
  have ge2 := calSR_of e2
  refine j_callS_g (pc := 6) (As := [.int i1, .int 1, .int 1000]) (k' := 0) (n' := 0) dX11_charge_6 (s_X11_isIn ge2.1) (jgS lw_542 lw_543 lw_544 lw_541) rfl hy_X11_isIn rfl (by decide) (by decide) (Nat.le_of_ble_eq_true rfl) (by decide) (by decide) (by decide) (by decide) (Or.inl ge2.2) ?_
  refine j_if_eq (pc := 9) (tgt := 16) dX11_charge_9 (by decide) (fun c4 => ?_) (fun c4 => ?_)
  · rw [if_pos c4] at h
    refine j_iconst (pc := 16) dX11_charge_16 (v := 1) (by decide) ?_
    exact jm_X11_charge_b17 _ _ _ _ w1 h
  · rw [if_neg c4] at h
    refine j_iconst (pc := 12) dX11_charge_12 (v := 0) (by decide) ?_
    refine j_goto (pc := 13) (tgt := 17) dX11_charge_13 (by decide) ?_
    exact jm_X11_charge_b17 _ _ _ _ w1 h
theorem r_X11_charge {a0 : Nat} {i1 : Int32} {ws : LWd} {o : (Int32 × LWd)} (h : m_X11_charge a0 i1 ws = some o) : ∃ fs, ws[a0]? = some (.inr (11, fs)) := rcv_in h
def wsX11_phase : List Cond := Cond.code yX11_phase cX11_phase 8 (some .int) :: jW
def m_X11_phase_b85 (a0 : Nat) (i1 : Int32) (i2 : Int32) (i3 : Int32) (i4 : Int32) (i5 : Int32) (s0 : Nat) (s1 : Int32) (ws : LWd) : Option (Int32 × LWd) :=
  bn2 (calSR ws (m_X11_fails s0 s1 ws)) fun x3 w1 =>
  if x3 = 0 then
    (fI w1 a0 11 25).bind fun x5 =>
    (fR w1 a0 11 27).bind fun x7 =>
    (sI w1 x7 (5 * x5) i1).bind fun w9 =>
    (fR w9 a0 11 27).bind fun x11 =>
    (sI w9 x11 ((5 * x5) + 1) i2).bind fun w13 =>
    (fR w13 a0 11 27).bind fun x15 =>
    (sI w13 x15 ((5 * x5) + 2) i3).bind fun w17 =>
    (fR w17 a0 11 27).bind fun x19 =>
    (sI w17 x19 ((5 * x5) + 3) i4).bind fun w21 =>
    (fR w21 a0 11 27).bind fun x23 =>
    (sI w21 x23 ((5 * x5) + 4) i5).bind fun w25 =>
    (fI w25 a0 11 25).bind fun x27 =>
    (pV w25 a0 11 25 (.int (x27 + 1))).bind fun w29 =>
    (fI w29 a0 11 25).bind fun x31 =>
    some (x31, w29)
  else
    some (0, w1)
set_option maxRecDepth 100000 in
set_option maxHeartbeats 4000000 in
theorem jm_X11_phase_b85 {n0 : Nat} {rr : Int32} {ws' : LWd} (a0 : Nat) (i1 : Int32) (i2 : Int32) (i3 : Int32) (i4 : Int32) (i5 : Int32) (s0 : Nat) (s1 : Int32) (ws : LWd) (h : m_X11_phase_b85 a0 i1 i2 i3 i4 i5 s0 s1 ws = some (rr, ws')) : JG (.inl false) cX11_phase 8 RX11 wsX11_phase (some .int) "phase" 2 0 0 n0 (.inl (some (.int rr)), ws') 85 [some (.ref a0), some (.int i1), some (.int i2), some (.int i3), some (.int i4), some (.int i5), none, none] [.int s1, .ref s0] ws 0 0 := by
  unfold m_X11_phase_b85 at h
  obtain ⟨x3, w1, e2, h⟩ := obS2 h
  have ge2 := calSR_of e2
  refine j_callV_g (pc := 85) (As := [.int s1]) (k' := 0) (n' := 0) dX11_phase_85 (s_X11_fails ge2.1) (jgV lw_552 lw_553 lw_554 lw_544 lw_551) rfl hv_X11_fails rfl (r_X11_fails ge2.1) rfl (by decide) (by decide) (Nat.le_of_ble_eq_true rfl) (by decide) (by decide) (by decide) (by decide) (Or.inl ge2.2) ?_
  refine j_if_eq (pc := 88) (tgt := 93) dX11_phase_88 (by decide) (fun c4 => ?_) (fun c4 => ?_)
  · rw [if_pos c4] at h
    refine j_iconst (pc := 93) dX11_phase_93 (v := 5) (by decide) ?_
    refine j_aload_n (pc := 94) dX11_phase_94 rfl ?_
    obtain ⟨x5, e6, h⟩ := obS h
    refine j_getI (pc := 95) dX11_phase_95 (ci := 11) (kf := 25) rfl (jwi hw_X11) (by decide) (jwm lw_566) e6 ?_
    refine j_imul (pc := 98) dX11_phase_98 ?_
    refine j_istore_7 (pc := 99) dX11_phase_99 (by decide) rfl ?_
    refine j_aload_n (pc := 101) dX11_phase_101 rfl ?_
    obtain ⟨x7, e8, h⟩ := obS h
    refine j_getR (pc := 102) dX11_phase_102 (ci := 11) (kf := 27) rfl (jwi hw_X11) (by decide) (jwm lw_538) e8 ?_
    refine j_iload (pc := 105) dX11_phase_105 rfl ?_
    refine j_iload_n (pc := 107) dX11_phase_107 rfl ?_
    obtain ⟨w9, e10, h⟩ := obS h
    refine j_iast (pc := 108) dX11_phase_108 e10 ?_
    refine j_aload_n (pc := 109) dX11_phase_109 rfl ?_
    obtain ⟨x11, e12, h⟩ := obS h
    refine j_getR (pc := 110) dX11_phase_110 (ci := 11) (kf := 27) rfl (jwi hw_X11) (by decide) (jwm lw_538) e12 ?_
    refine j_iload (pc := 113) dX11_phase_113 rfl ?_
    refine j_iconst (pc := 115) dX11_phase_115 (v := 1) (by decide) ?_
    refine j_iadd (pc := 116) dX11_phase_116 ?_
    refine j_iload_n (pc := 117) dX11_phase_117 rfl ?_
    obtain ⟨w13, e14, h⟩ := obS h
    refine j_iast (pc := 118) dX11_phase_118 e14 ?_
    refine j_aload_n (pc := 119) dX11_phase_119 rfl ?_
    obtain ⟨x15, e16, h⟩ := obS h
    refine j_getR (pc := 120) dX11_phase_120 (ci := 11) (kf := 27) rfl (jwi hw_X11) (by decide) (jwm lw_538) e16 ?_
    refine j_iload (pc := 123) dX11_phase_123 rfl ?_
    refine j_iconst (pc := 125) dX11_phase_125 (v := 2) (by decide) ?_
    refine j_iadd (pc := 126) dX11_phase_126 ?_
    refine j_iload_n (pc := 127) dX11_phase_127 rfl ?_
    obtain ⟨w17, e18, h⟩ := obS h
    refine j_iast (pc := 128) dX11_phase_128 e18 ?_
    refine j_aload_n (pc := 129) dX11_phase_129 rfl ?_
    obtain ⟨x19, e20, h⟩ := obS h
    refine j_getR (pc := 130) dX11_phase_130 (ci := 11) (kf := 27) rfl (jwi hw_X11) (by decide) (jwm lw_538) e20 ?_
    refine j_iload (pc := 133) dX11_phase_133 rfl ?_
    refine j_iconst (pc := 135) dX11_phase_135 (v := 3) (by decide) ?_
    refine j_iadd (pc := 136) dX11_phase_136 ?_
    refine j_iload (pc := 137) dX11_phase_137 rfl ?_
    obtain ⟨w21, e22, h⟩ := obS h
    refine j_iast (pc := 139) dX11_phase_139 e22 ?_
    refine j_aload_n (pc := 140) dX11_phase_140 rfl ?_
    obtain ⟨x23, e24, h⟩ := obS h
    refine j_getR (pc := 141) dX11_phase_141 (ci := 11) (kf := 27) rfl (jwi hw_X11) (by decide) (jwm lw_538) e24 ?_
    refine j_iload (pc := 144) dX11_phase_144 rfl ?_
    refine j_iconst (pc := 146) dX11_phase_146 (v := 4) (by decide) ?_
    refine j_iadd (pc := 147) dX11_phase_147 ?_
    refine j_iload (pc := 148) dX11_phase_148 rfl ?_
    obtain ⟨w25, e26, h⟩ := obS h
    refine j_iast (pc := 150) dX11_phase_150 e26 ?_
    refine j_aload_n (pc := 151) dX11_phase_151 rfl ?_
    refine j_dup (pc := 152) dX11_phase_152 rfl ?_
    obtain ⟨x27, e28, h⟩ := obS h
    refine j_getI (pc := 153) dX11_phase_153 (ci := 11) (kf := 25) rfl (jwi hw_X11) (by decide) (jwm lw_566) e28 ?_
    refine j_iconst (pc := 156) dX11_phase_156 (v := 1) (by decide) ?_
    refine j_iadd (pc := 157) dX11_phase_157 ?_
    obtain ⟨w29, e30, h⟩ := obS h
    refine j_putV (pc := 158) (ci := 11) (kf := 25) tyX11 tyX11_ok nmX11 dX11_phase_158 rfl (jwi hw_X11) (by decide) (jwm lw_566) rfl (fun _ => rfl) (fun _ => rfl) e30 ?_
    refine j_aload_n (pc := 161) dX11_phase_161 rfl ?_
    obtain ⟨x31, e32, h⟩ := obS h
    refine j_getI (pc := 162) dX11_phase_162 (ci := 11) (kf := 25) rfl (jwi hw_X11) (by decide) (jwm lw_566) e32 ?_
    obtain ⟨rfl, rfl⟩ := jretS h
    exact j_iret (pc := 165) rfl dX11_phase_165 (by decide) (by decide) rfl
  · rw [if_neg c4] at h
    refine j_iconst (pc := 91) dX11_phase_91 (v := 0) (by decide) ?_
    obtain ⟨rfl, rfl⟩ := jretS h
    exact j_iret (pc := 92) rfl dX11_phase_92 (by decide) (by decide) rfl
def m_X11_phase_b47 (a0 : Nat) (i1 : Int32) (i2 : Int32) (i3 : Int32) (i4 : Int32) (i5 : Int32) (s0 : Int32) (ws : LWd) : Option (Int32 × LWd) :=
  bn2 (calSR ws (m_X11_isLeg a0 i1 ws)) fun x3 w1 =>
  if x3 = 0 then
    m_X11_phase_b85 a0 i1 i2 i3 i4 i5 a0 1 w1
  else
    if s0 = 0 then
      m_X11_phase_b85 a0 i1 i2 i3 i4 i5 a0 2 w1
    else
      (fI w1 a0 11 25).bind fun x6 =>
      if x6 = 8 then
        m_X11_phase_b85 a0 i1 i2 i3 i4 i5 a0 3 w1
      else
        m_X11_phase_b85 a0 i1 i2 i3 i4 i5 a0 0 w1
set_option maxRecDepth 100000 in
set_option maxHeartbeats 4000000 in
theorem jm_X11_phase_b47 {n0 : Nat} {rr : Int32} {ws' : LWd} (a0 : Nat) (i1 : Int32) (i2 : Int32) (i3 : Int32) (i4 : Int32) (i5 : Int32) (s0 : Int32) (ws : LWd) (h : m_X11_phase_b47 a0 i1 i2 i3 i4 i5 s0 ws = some (rr, ws')) : JG (.inl false) cX11_phase 8 RX11 wsX11_phase (some .int) "phase" 2 0 0 n0 (.inl (some (.int rr)), ws') 47 [some (.ref a0), some (.int i1), some (.int i2), some (.int i3), some (.int i4), some (.int i5), none, none] [.int s0] ws 0 0 := by
  unfold m_X11_phase_b47 at h
  refine j_istore_6 (pc := 47) dX11_phase_47 (by decide) rfl ?_
  refine j_aload_n (pc := 49) dX11_phase_49 rfl ?_
  refine j_aload_n (pc := 50) dX11_phase_50 rfl ?_
  refine j_iload_n (pc := 51) dX11_phase_51 rfl ?_
  obtain ⟨x3, w1, e2, h⟩ := obS2 h
  have ge2 := calSR_of e2
  refine j_callV_g (pc := 52) (As := [.int i1]) (k' := 0) (n' := 0) dX11_phase_52 (s_X11_isLeg ge2.1) (jgV lw_568 lw_569 lw_570 lw_544 lw_567) rfl hv_X11_isLeg rfl (r_X11_isLeg ge2.1) rfl (by decide) (by decide) (Nat.le_of_ble_eq_true rfl) (by decide) (by decide) (by decide) (by decide) (Or.inl ge2.2) ?_
  refine j_if_ne (pc := 55) (tgt := 62) dX11_phase_55 (by decide) (fun c4 => ?_) (fun c4 => ?_)
  · rw [if_neg c4] at h
    refine j_iload (pc := 62) dX11_phase_62 rfl ?_
    refine j_if_ne (pc := 64) (tgt := 71) dX11_phase_64 (by decide) (fun c5 => ?_) (fun c5 => ?_)
    · rw [if_neg c5] at h
      refine j_aload_n (pc := 71) dX11_phase_71 rfl ?_
      obtain ⟨x6, e7, h⟩ := obS h
      refine j_getI (pc := 72) dX11_phase_72 (ci := 11) (kf := 25) rfl (jwi hw_X11) (by decide) (jwm lw_566) e7 ?_
      refine j_bipush (pc := 75) dX11_phase_75 (v := 8) (by decide) ?_
      refine j_icmp_ne (pc := 77) (tgt := 84) dX11_phase_77 (by decide) (fun c8 => ?_) (fun c8 => ?_)
      · rw [if_neg c8] at h
        refine j_iconst (pc := 84) dX11_phase_84 (v := 0) (by decide) ?_
        refine j_mask [true, true, true, true, true, true, false, false] ?_
        exact jm_X11_phase_b85 _ _ _ _ _ _ _ _ w1 h
      · rw [if_pos c8] at h
        refine j_iconst (pc := 80) dX11_phase_80 (v := 3) (by decide) ?_
        refine j_goto (pc := 81) (tgt := 85) dX11_phase_81 (by decide) ?_
        refine j_mask [true, true, true, true, true, true, false, false] ?_
        exact jm_X11_phase_b85 _ _ _ _ _ _ _ _ w1 h
    · rw [if_pos c5] at h
      refine j_iconst (pc := 67) dX11_phase_67 (v := 2) (by decide) ?_
      refine j_goto (pc := 68) (tgt := 85) dX11_phase_68 (by decide) ?_
      refine j_mask [true, true, true, true, true, true, false, false] ?_
      exact jm_X11_phase_b85 _ _ _ _ _ _ _ _ w1 h
  · rw [if_pos c4] at h
    refine j_iconst (pc := 58) dX11_phase_58 (v := 1) (by decide) ?_
    refine j_goto (pc := 59) (tgt := 85) dX11_phase_59 (by decide) ?_
    refine j_mask [true, true, true, true, true, true, false, false] ?_
    exact jm_X11_phase_b85 _ _ _ _ _ _ _ _ w1 h
def m_X11_phase_b46 (a0 : Nat) (i1 : Int32) (i2 : Int32) (i3 : Int32) (i4 : Int32) (i5 : Int32) (ws : LWd) : Option (Int32 × LWd) :=
  m_X11_phase_b47 a0 i1 i2 i3 i4 i5 0 ws
set_option maxRecDepth 100000 in
set_option maxHeartbeats 4000000 in
theorem jm_X11_phase_b46 {n0 : Nat} {rr : Int32} {ws' : LWd} (a0 : Nat) (i1 : Int32) (i2 : Int32) (i3 : Int32) (i4 : Int32) (i5 : Int32) (ws : LWd) (h : m_X11_phase_b46 a0 i1 i2 i3 i4 i5 ws = some (rr, ws')) : JG (.inl false) cX11_phase 8 RX11 wsX11_phase (some .int) "phase" 2 0 0 n0 (.inl (some (.int rr)), ws') 46 [some (.ref a0), some (.int i1), some (.int i2), some (.int i3), some (.int i4), some (.int i5), none, none] [] ws 0 0 := by
  unfold m_X11_phase_b46 at h
  refine j_iconst (pc := 46) dX11_phase_46 (v := 0) (by decide) ?_
  exact jm_X11_phase_b47 _ _ _ _ _ _ _ ws h
def m_X11_phase (a0 : Nat) (i1 : Int32) (i2 : Int32) (i3 : Int32) (i4 : Int32) (i5 : Int32) (ws : LWd) : Option (Int32 × LWd) :=
  (rcv ws a0 11).bind fun _ =>
  bn2 (calSR ws (m_X11_isIn i2 ((-6)) 6 ws)) fun x3 w1 =>
  if x3 = 0 then
    m_X11_phase_b46 a0 i1 i2 i3 i4 i5 w1
  else
    bn2 (calSR w1 (m_X11_isIn i3 ((-6)) 6 w1)) fun x7 w5 =>
    if x7 = 0 then
      m_X11_phase_b46 a0 i1 i2 i3 i4 i5 w5
    else
      bn2 (calSR w5 (m_X11_isIn i4 ((-1)) 1 w5)) fun x11 w9 =>
      if x11 = 0 then
        m_X11_phase_b46 a0 i1 i2 i3 i4 i5 w9
      else
        bn2 (calSR w9 (m_X11_isIn i5 ((-1)) 1 w9)) fun x15 w13 =>
        if x15 = 0 then
          m_X11_phase_b46 a0 i1 i2 i3 i4 i5 w13
        else
          m_X11_phase_b47 a0 i1 i2 i3 i4 i5 1 w13
set_option maxRecDepth 100000 in
set_option maxHeartbeats 4000000 in
theorem s_X11_phase {a0 : Nat} {i1 : Int32} {i2 : Int32} {i3 : Int32} {i4 : Int32} {i5 : Int32} {ws : LWd} {rr : Int32} {ws' : LWd} (h : m_X11_phase a0 i1 i2 i3 i4 i5 ws = some (rr, ws')) : jSp yX11_phase wsX11_phase 2 0 0 [.ref a0, .int i1, .int i2, .int i3, .int i4, .int i5] ws (.inl (some (.int rr)), ws') := by
  unfold m_X11_phase at h
  refine j_entry (ret := (some .int)) (nm := "phase") (own := RX11) pl_X11 rfl rfl rfl (jcats (by rfl)) (Nat.le_of_ble_eq_true rfl) ?_
  show JG (.inl false) cX11_phase 8 RX11 wsX11_phase (some .int) "phase" 2 0 0 ws.length (.inl (some (.int rr)), ws') 0 [some (.ref a0), some (.int i1), some (.int i2), some (.int i3), some (.int i4), some (.int i5), none, none] [] ws 0 0
  obtain ⟨_, _, h⟩ := obS h
  refine j_iload_n (pc := 0) dX11_phase_0 rfl ?_
  refine j_bipush (pc := 1) dX11_phase_1 (v := (-6)) (by decide) ?_
  refine j_bipush (pc := 3) dX11_phase_3 (v := 6) (by decide) ?_
  obtain ⟨x3, w1, e2, h⟩ := obS2 h
  have ge2 := calSR_of e2
  refine j_callS_g (pc := 5) (As := [.int i2, .int ((-6)), .int 6]) (k' := 0) (n' := 0) dX11_phase_5 (s_X11_isIn ge2.1) (jgS lw_542 lw_543 lw_544 lw_541) rfl hy_X11_isIn rfl (by decide) (by decide) (Nat.le_of_ble_eq_true rfl) (by decide) (by decide) (by decide) (by decide) (Or.inl ge2.2) ?_
  refine j_if_eq (pc := 8) (tgt := 46) dX11_phase_8 (by decide) (fun c4 => ?_) (fun c4 => ?_)
  · rw [if_pos c4] at h
    exact jm_X11_phase_b46 _ _ _ _ _ _ w1 h
  · rw [if_neg c4] at h
    refine j_iload_n (pc := 11) dX11_phase_11 rfl ?_
    refine j_bipush (pc := 12) dX11_phase_12 (v := (-6)) (by decide) ?_
    refine j_bipush (pc := 14) dX11_phase_14 (v := 6) (by decide) ?_
    obtain ⟨x7, w5, e6, h⟩ := obS2 h
    have ge6 := calSR_of e6
    refine j_callS_g (pc := 16) (As := [.int i3, .int ((-6)), .int 6]) (k' := 0) (n' := 0) dX11_phase_16 (s_X11_isIn ge6.1) (jgS lw_542 lw_543 lw_544 lw_541) rfl hy_X11_isIn rfl (by decide) (by decide) (Nat.le_of_ble_eq_true rfl) (by decide) (by decide) (by decide) (by decide) (Or.inl ge6.2) ?_
    refine j_if_eq (pc := 19) (tgt := 46) dX11_phase_19 (by decide) (fun c8 => ?_) (fun c8 => ?_)
    · rw [if_pos c8] at h
      exact jm_X11_phase_b46 _ _ _ _ _ _ w5 h
    · rw [if_neg c8] at h
      refine j_iload (pc := 22) dX11_phase_22 rfl ?_
      refine j_iconst (pc := 24) dX11_phase_24 (v := (-1)) (by decide) ?_
      refine j_iconst (pc := 25) dX11_phase_25 (v := 1) (by decide) ?_
      obtain ⟨x11, w9, e10, h⟩ := obS2 h
      have ge10 := calSR_of e10
      refine j_callS_g (pc := 26) (As := [.int i4, .int ((-1)), .int 1]) (k' := 0) (n' := 0) dX11_phase_26 (s_X11_isIn ge10.1) (jgS lw_542 lw_543 lw_544 lw_541) rfl hy_X11_isIn rfl (by decide) (by decide) (Nat.le_of_ble_eq_true rfl) (by decide) (by decide) (by decide) (by decide) (Or.inl ge10.2) ?_
      refine j_if_eq (pc := 29) (tgt := 46) dX11_phase_29 (by decide) (fun c12 => ?_) (fun c12 => ?_)
      · rw [if_pos c12] at h
        exact jm_X11_phase_b46 _ _ _ _ _ _ w9 h
      · rw [if_neg c12] at h
        refine j_iload (pc := 32) dX11_phase_32 rfl ?_
        refine j_iconst (pc := 34) dX11_phase_34 (v := (-1)) (by decide) ?_
        refine j_iconst (pc := 35) dX11_phase_35 (v := 1) (by decide) ?_
        obtain ⟨x15, w13, e14, h⟩ := obS2 h
        have ge14 := calSR_of e14
        refine j_callS_g (pc := 36) (As := [.int i5, .int ((-1)), .int 1]) (k' := 0) (n' := 0) dX11_phase_36 (s_X11_isIn ge14.1) (jgS lw_542 lw_543 lw_544 lw_541) rfl hy_X11_isIn rfl (by decide) (by decide) (Nat.le_of_ble_eq_true rfl) (by decide) (by decide) (by decide) (by decide) (Or.inl ge14.2) ?_
        refine j_if_eq (pc := 39) (tgt := 46) dX11_phase_39 (by decide) (fun c16 => ?_) (fun c16 => ?_)
        · rw [if_pos c16] at h
          exact jm_X11_phase_b46 _ _ _ _ _ _ w13 h
        · rw [if_neg c16] at h
          refine j_iconst (pc := 42) dX11_phase_42 (v := 1) (by decide) ?_
          refine j_goto (pc := 43) (tgt := 47) dX11_phase_43 (by decide) ?_
          exact jm_X11_phase_b47 _ _ _ _ _ _ _ w13 h
theorem r_X11_phase {a0 : Nat} {i1 : Int32} {i2 : Int32} {i3 : Int32} {i4 : Int32} {i5 : Int32} {ws : LWd} {o : (Int32 × LWd)} (h : m_X11_phase a0 i1 i2 i3 i4 i5 ws = some o) : ∃ fs, ws[a0]? = some (.inr (11, fs)) := rcv_in h
def wsX11_halt : List Cond := Cond.code yX11_halt cX11_halt 2 (some .int) :: jW
def m_X11_halt (a0 : Nat) (ws : LWd) : Option (Int32 × LWd) :=
  (rcv ws a0 11).bind fun _ =>
  (pV ws a0 11 30 (.int 0)).bind fun w1 =>
  (fI w1 a0 11 25).bind fun x3 =>
  (pV w1 a0 11 25 (.int 0)).bind fun w5 =>
  (pV w5 a0 11 26 (.int 0)).bind fun w7 =>
  some (x3, w7)
set_option maxRecDepth 100000 in
set_option maxHeartbeats 4000000 in
theorem s_X11_halt {a0 : Nat} {ws : LWd} {rr : Int32} {ws' : LWd} (h : m_X11_halt a0 ws = some (rr, ws')) : jSp yX11_halt wsX11_halt 0 0 0 [.ref a0] ws (.inl (some (.int rr)), ws') := by
  unfold m_X11_halt at h
  refine j_entry (ret := (some .int)) (nm := "halt") (own := RX11) pl_X11 rfl rfl rfl (jcats (by rfl)) (Nat.le_of_ble_eq_true rfl) ?_
  show JG (.inl false) cX11_halt 2 RX11 wsX11_halt (some .int) "halt" 0 0 0 ws.length (.inl (some (.int rr)), ws') 0 [some (.ref a0), none] [] ws 0 0
  obtain ⟨_, _, h⟩ := obS h
  refine j_aload_n (pc := 0) dX11_halt_0 rfl ?_
  refine j_iconst (pc := 1) dX11_halt_1 (v := 0) (by decide) ?_
  obtain ⟨w1, e2, h⟩ := obS h
  refine j_putV (pc := 2) (ci := 11) (kf := 30) tyX11 tyX11_ok nmX11 dX11_halt_2 rfl (jwi hw_X11) (by decide) (jwm lw_540) rfl (fun _ => rfl) (fun _ => rfl) e2 ?_
  refine j_aload_n (pc := 5) dX11_halt_5 rfl ?_
  obtain ⟨x3, e4, h⟩ := obS h
  refine j_getI (pc := 6) dX11_halt_6 (ci := 11) (kf := 25) rfl (jwi hw_X11) (by decide) (jwm lw_566) e4 ?_
  refine j_istore_n_1 (pc := 9) dX11_halt_9 (by decide) rfl ?_
  refine j_aload_n (pc := 10) dX11_halt_10 rfl ?_
  refine j_iconst (pc := 11) dX11_halt_11 (v := 0) (by decide) ?_
  obtain ⟨w5, e6, h⟩ := obS h
  refine j_putV (pc := 12) (ci := 11) (kf := 25) tyX11 tyX11_ok nmX11 dX11_halt_12 rfl (jwi hw_X11) (by decide) (jwm lw_566) rfl (fun _ => rfl) (fun _ => rfl) e6 ?_
  refine j_aload_n (pc := 15) dX11_halt_15 rfl ?_
  refine j_iconst (pc := 16) dX11_halt_16 (v := 0) (by decide) ?_
  obtain ⟨w7, e8, h⟩ := obS h
  refine j_putV (pc := 17) (ci := 11) (kf := 26) tyX11 tyX11_ok nmX11 dX11_halt_17 rfl (jwi hw_X11) (by decide) (jwm lw_571) rfl (fun _ => rfl) (fun _ => rfl) e8 ?_
  refine j_iload_n (pc := 20) dX11_halt_20 rfl ?_
  obtain ⟨rfl, rfl⟩ := jretS h
  exact j_iret (pc := 21) rfl dX11_halt_21 (by decide) (by decide) rfl
theorem r_X11_halt {a0 : Nat} {ws : LWd} {o : (Int32 × LWd)} (h : m_X11_halt a0 ws = some o) : ∃ fs, ws[a0]? = some (.inr (11, fs)) := rcv_in h
def wsX11_weight : List Cond := Cond.code yX11_weight cX11_weight 1 (some .int) :: jW
def m_X11_weight (a0 : Nat) (ws : LWd) : Option (Int32 × LWd) :=
  (rcv ws a0 11).bind fun _ =>
  (fI ws a0 11 8).bind fun x1 =>
  some (10 + x1, ws)
set_option maxRecDepth 100000 in
set_option maxHeartbeats 4000000 in
theorem s_X11_weight {a0 : Nat} {ws : LWd} {rr : Int32} {ws' : LWd} (h : m_X11_weight a0 ws = some (rr, ws')) : jSp yX11_weight wsX11_weight 0 0 0 [.ref a0] ws (.inl (some (.int rr)), ws') := by
  unfold m_X11_weight at h
  refine j_entry (ret := (some .int)) (nm := "weight") (own := RX11) pl_X11 rfl rfl rfl (jcats (by rfl)) (Nat.le_of_ble_eq_true rfl) ?_
  show JG (.inl false) cX11_weight 1 RX11 wsX11_weight (some .int) "weight" 0 0 0 ws.length (.inl (some (.int rr)), ws') 0 [some (.ref a0)] [] ws 0 0
  obtain ⟨_, _, h⟩ := obS h
  refine j_bipush (pc := 0) dX11_weight_0 (v := 10) (by decide) ?_
  refine j_aload_n (pc := 2) dX11_weight_2 rfl ?_
  obtain ⟨x1, e2, h⟩ := obS h
  refine j_getI (pc := 3) dX11_weight_3 (ci := 11) (kf := 8) rfl (jwi hw_X11) (by decide) (jwm lw_572) e2 ?_
  refine j_iadd (pc := 6) dX11_weight_6 ?_
  obtain ⟨rfl, rfl⟩ := jretS h
  exact j_iret (pc := 7) rfl dX11_weight_7 (by decide) (by decide) rfl
theorem r_X11_weight {a0 : Nat} {ws : LWd} {o : (Int32 × LWd)} (h : m_X11_weight a0 ws = some o) : ∃ fs, ws[a0]? = some (.inr (11, fs)) := rcv_in h
def wsX11_momentX : List Cond := Cond.code yX11_momentX cX11_momentX 1 (some .int) :: jW
def m_X11_momentX (a0 : Nat) (ws : LWd) : Option (Int32 × LWd) :=
  (rcv ws a0 11).bind fun _ =>
  bn2 (calSR ws (m_X11_weight a0 ws)) fun x3 w1 =>
  (fI w1 a0 11 5).bind fun x4 =>
  (fI w1 a0 11 8).bind fun x6 =>
  (fI w1 a0 11 9).bind fun x8 =>
  some ((x3 * x4) + (x6 * x8), w1)
set_option maxRecDepth 100000 in
set_option maxHeartbeats 4000000 in
theorem s_X11_momentX {a0 : Nat} {ws : LWd} {rr : Int32} {ws' : LWd} (h : m_X11_momentX a0 ws = some (rr, ws')) : jSp yX11_momentX wsX11_momentX 1 0 0 [.ref a0] ws (.inl (some (.int rr)), ws') := by
  unfold m_X11_momentX at h
  refine j_entry (ret := (some .int)) (nm := "momentX") (own := RX11) pl_X11 rfl rfl rfl (jcats (by rfl)) (Nat.le_of_ble_eq_true rfl) ?_
  show JG (.inl false) cX11_momentX 1 RX11 wsX11_momentX (some .int) "momentX" 1 0 0 ws.length (.inl (some (.int rr)), ws') 0 [some (.ref a0)] [] ws 0 0
  obtain ⟨_, _, h⟩ := obS h
  refine j_aload_n (pc := 0) dX11_momentX_0 rfl ?_
  obtain ⟨x3, w1, e2, h⟩ := obS2 h
  have ge2 := calSR_of e2
  refine j_callV_g (pc := 1) (As := []) (k' := 0) (n' := 0) dX11_momentX_1 (s_X11_weight ge2.1) (jgV lw_574 lw_575 lw_576 lw_544 lw_573) rfl hv_X11_weight rfl (r_X11_weight ge2.1) rfl (by decide) (by decide) (Nat.le_of_ble_eq_true rfl) (by decide) (by decide) (by decide) (by decide) (Or.inl ge2.2) ?_
  refine j_aload_n (pc := 4) dX11_momentX_4 rfl ?_
  obtain ⟨x4, e5, h⟩ := obS h
  refine j_getI (pc := 5) dX11_momentX_5 (ci := 11) (kf := 5) rfl (jwi hw_X11) (by decide) (jwm lw_529) e5 ?_
  refine j_imul (pc := 8) dX11_momentX_8 ?_
  refine j_aload_n (pc := 9) dX11_momentX_9 rfl ?_
  obtain ⟨x6, e7, h⟩ := obS h
  refine j_getI (pc := 10) dX11_momentX_10 (ci := 11) (kf := 8) rfl (jwi hw_X11) (by decide) (jwm lw_572) e7 ?_
  refine j_aload_n (pc := 13) dX11_momentX_13 rfl ?_
  obtain ⟨x8, e9, h⟩ := obS h
  refine j_getI (pc := 14) dX11_momentX_14 (ci := 11) (kf := 9) rfl (jwi hw_X11) (by decide) (jwm lw_577) e9 ?_
  refine j_imul (pc := 17) dX11_momentX_17 ?_
  refine j_iadd (pc := 18) dX11_momentX_18 ?_
  obtain ⟨rfl, rfl⟩ := jretS h
  exact j_iret (pc := 19) rfl dX11_momentX_19 (by decide) (by decide) rfl
theorem r_X11_momentX {a0 : Nat} {ws : LWd} {o : (Int32 × LWd)} (h : m_X11_momentX a0 ws = some o) : ∃ fs, ws[a0]? = some (.inr (11, fs)) := rcv_in h
def wsX11_momentY : List Cond := Cond.code yX11_momentY cX11_momentY 1 (some .int) :: jW
def m_X11_momentY (a0 : Nat) (ws : LWd) : Option (Int32 × LWd) :=
  (rcv ws a0 11).bind fun _ =>
  bn2 (calSR ws (m_X11_weight a0 ws)) fun x3 w1 =>
  (fI w1 a0 11 6).bind fun x4 =>
  (fI w1 a0 11 8).bind fun x6 =>
  (fI w1 a0 11 10).bind fun x8 =>
  some ((x3 * x4) + (x6 * x8), w1)
set_option maxRecDepth 100000 in
set_option maxHeartbeats 4000000 in
theorem s_X11_momentY {a0 : Nat} {ws : LWd} {rr : Int32} {ws' : LWd} (h : m_X11_momentY a0 ws = some (rr, ws')) : jSp yX11_momentY wsX11_momentY 1 0 0 [.ref a0] ws (.inl (some (.int rr)), ws') := by
  unfold m_X11_momentY at h
  refine j_entry (ret := (some .int)) (nm := "momentY") (own := RX11) pl_X11 rfl rfl rfl (jcats (by rfl)) (Nat.le_of_ble_eq_true rfl) ?_
  show JG (.inl false) cX11_momentY 1 RX11 wsX11_momentY (some .int) "momentY" 1 0 0 ws.length (.inl (some (.int rr)), ws') 0 [some (.ref a0)] [] ws 0 0
  obtain ⟨_, _, h⟩ := obS h
  refine j_aload_n (pc := 0) dX11_momentY_0 rfl ?_
  obtain ⟨x3, w1, e2, h⟩ := obS2 h
  have ge2 := calSR_of e2
  refine j_callV_g (pc := 1) (As := []) (k' := 0) (n' := 0) dX11_momentY_1 (s_X11_weight ge2.1) (jgV lw_574 lw_575 lw_576 lw_544 lw_573) rfl hv_X11_weight rfl (r_X11_weight ge2.1) rfl (by decide) (by decide) (Nat.le_of_ble_eq_true rfl) (by decide) (by decide) (by decide) (by decide) (Or.inl ge2.2) ?_
  refine j_aload_n (pc := 4) dX11_momentY_4 rfl ?_
  obtain ⟨x4, e5, h⟩ := obS h
  refine j_getI (pc := 5) dX11_momentY_5 (ci := 11) (kf := 6) rfl (jwi hw_X11) (by decide) (jwm lw_530) e5 ?_
  refine j_imul (pc := 8) dX11_momentY_8 ?_
  refine j_aload_n (pc := 9) dX11_momentY_9 rfl ?_
  obtain ⟨x6, e7, h⟩ := obS h
  refine j_getI (pc := 10) dX11_momentY_10 (ci := 11) (kf := 8) rfl (jwi hw_X11) (by decide) (jwm lw_572) e7 ?_
  refine j_aload_n (pc := 13) dX11_momentY_13 rfl ?_
  obtain ⟨x8, e9, h⟩ := obS h
  refine j_getI (pc := 14) dX11_momentY_14 (ci := 11) (kf := 10) rfl (jwi hw_X11) (by decide) (jwm lw_578) e9 ?_
  refine j_imul (pc := 17) dX11_momentY_17 ?_
  refine j_iadd (pc := 18) dX11_momentY_18 ?_
  obtain ⟨rfl, rfl⟩ := jretS h
  exact j_iret (pc := 19) rfl dX11_momentY_19 (by decide) (by decide) rfl
theorem r_X11_momentY {a0 : Nat} {ws : LWd} {o : (Int32 × LWd)} (h : m_X11_momentY a0 ws = some o) : ∃ fs, ws[a0]? = some (.inr (11, fs)) := rcv_in h
def wsX11_turn : List Cond := Cond.code yX11_turn cX11_turn 4 (some .int) :: jW
def m_X11_turn (a0 : Nat) (i1 : Int32) (i2 : Int32) (i3 : Int32) (ws : LWd) : Option (Int32 × LWd) :=
  (rcv ws a0 11).bind fun _ =>
  (fR ws a0 11 15).bind fun x1 =>
  (aI ws x1 i2).bind fun x3 =>
  (fR ws a0 11 15).bind fun x5 =>
  (aI ws x5 i1).bind fun x7 =>
  (fR ws a0 11 16).bind fun x9 =>
  (aI ws x9 i3).bind fun x11 =>
  (fR ws a0 11 16).bind fun x13 =>
  (aI ws x13 i1).bind fun x15 =>
  (fR ws a0 11 16).bind fun x17 =>
  (aI ws x17 i2).bind fun x19 =>
  (fR ws a0 11 16).bind fun x21 =>
  (aI ws x21 i1).bind fun x23 =>
  (fR ws a0 11 15).bind fun x25 =>
  (aI ws x25 i3).bind fun x27 =>
  (fR ws a0 11 15).bind fun x29 =>
  (aI ws x29 i1).bind fun x31 =>
  some (((x3 - x7) * (x11 - x15)) - ((x19 - x23) * (x27 - x31)), ws)
set_option maxRecDepth 100000 in
set_option maxHeartbeats 4000000 in
theorem s_X11_turn {a0 : Nat} {i1 : Int32} {i2 : Int32} {i3 : Int32} {ws : LWd} {rr : Int32} {ws' : LWd} (h : m_X11_turn a0 i1 i2 i3 ws = some (rr, ws')) : jSp yX11_turn wsX11_turn 0 0 0 [.ref a0, .int i1, .int i2, .int i3] ws (.inl (some (.int rr)), ws') := by
  unfold m_X11_turn at h
  refine j_entry (ret := (some .int)) (nm := "turn") (own := RX11) pl_X11 rfl rfl rfl (jcats (by rfl)) (Nat.le_of_ble_eq_true rfl) ?_
  show JG (.inl false) cX11_turn 4 RX11 wsX11_turn (some .int) "turn" 0 0 0 ws.length (.inl (some (.int rr)), ws') 0 [some (.ref a0), some (.int i1), some (.int i2), some (.int i3)] [] ws 0 0
  obtain ⟨_, _, h⟩ := obS h
  refine j_aload_n (pc := 0) dX11_turn_0 rfl ?_
  obtain ⟨x1, e2, h⟩ := obS h
  refine j_getR (pc := 1) dX11_turn_1 (ci := 11) (kf := 15) rfl (jwi hw_X11) (by decide) (jwm lw_535) e2 ?_
  refine j_iload_n (pc := 4) dX11_turn_4 rfl ?_
  obtain ⟨x3, e4, h⟩ := obS h
  refine j_iald (pc := 5) dX11_turn_5 e4 ?_
  refine j_aload_n (pc := 6) dX11_turn_6 rfl ?_
  obtain ⟨x5, e6, h⟩ := obS h
  refine j_getR (pc := 7) dX11_turn_7 (ci := 11) (kf := 15) rfl (jwi hw_X11) (by decide) (jwm lw_535) e6 ?_
  refine j_iload_n (pc := 10) dX11_turn_10 rfl ?_
  obtain ⟨x7, e8, h⟩ := obS h
  refine j_iald (pc := 11) dX11_turn_11 e8 ?_
  refine j_isub (pc := 12) dX11_turn_12 ?_
  refine j_aload_n (pc := 13) dX11_turn_13 rfl ?_
  obtain ⟨x9, e10, h⟩ := obS h
  refine j_getR (pc := 14) dX11_turn_14 (ci := 11) (kf := 16) rfl (jwi hw_X11) (by decide) (jwm lw_536) e10 ?_
  refine j_iload_n (pc := 17) dX11_turn_17 rfl ?_
  obtain ⟨x11, e12, h⟩ := obS h
  refine j_iald (pc := 18) dX11_turn_18 e12 ?_
  refine j_aload_n (pc := 19) dX11_turn_19 rfl ?_
  obtain ⟨x13, e14, h⟩ := obS h
  refine j_getR (pc := 20) dX11_turn_20 (ci := 11) (kf := 16) rfl (jwi hw_X11) (by decide) (jwm lw_536) e14 ?_
  refine j_iload_n (pc := 23) dX11_turn_23 rfl ?_
  obtain ⟨x15, e16, h⟩ := obS h
  refine j_iald (pc := 24) dX11_turn_24 e16 ?_
  refine j_isub (pc := 25) dX11_turn_25 ?_
  refine j_imul (pc := 26) dX11_turn_26 ?_
  refine j_aload_n (pc := 27) dX11_turn_27 rfl ?_
  obtain ⟨x17, e18, h⟩ := obS h
  refine j_getR (pc := 28) dX11_turn_28 (ci := 11) (kf := 16) rfl (jwi hw_X11) (by decide) (jwm lw_536) e18 ?_
  refine j_iload_n (pc := 31) dX11_turn_31 rfl ?_
  obtain ⟨x19, e20, h⟩ := obS h
  refine j_iald (pc := 32) dX11_turn_32 e20 ?_
  refine j_aload_n (pc := 33) dX11_turn_33 rfl ?_
  obtain ⟨x21, e22, h⟩ := obS h
  refine j_getR (pc := 34) dX11_turn_34 (ci := 11) (kf := 16) rfl (jwi hw_X11) (by decide) (jwm lw_536) e22 ?_
  refine j_iload_n (pc := 37) dX11_turn_37 rfl ?_
  obtain ⟨x23, e24, h⟩ := obS h
  refine j_iald (pc := 38) dX11_turn_38 e24 ?_
  refine j_isub (pc := 39) dX11_turn_39 ?_
  refine j_aload_n (pc := 40) dX11_turn_40 rfl ?_
  obtain ⟨x25, e26, h⟩ := obS h
  refine j_getR (pc := 41) dX11_turn_41 (ci := 11) (kf := 15) rfl (jwi hw_X11) (by decide) (jwm lw_535) e26 ?_
  refine j_iload_n (pc := 44) dX11_turn_44 rfl ?_
  obtain ⟨x27, e28, h⟩ := obS h
  refine j_iald (pc := 45) dX11_turn_45 e28 ?_
  refine j_aload_n (pc := 46) dX11_turn_46 rfl ?_
  obtain ⟨x29, e30, h⟩ := obS h
  refine j_getR (pc := 47) dX11_turn_47 (ci := 11) (kf := 15) rfl (jwi hw_X11) (by decide) (jwm lw_535) e30 ?_
  refine j_iload_n (pc := 50) dX11_turn_50 rfl ?_
  obtain ⟨x31, e32, h⟩ := obS h
  refine j_iald (pc := 51) dX11_turn_51 e32 ?_
  refine j_isub (pc := 52) dX11_turn_52 ?_
  refine j_imul (pc := 53) dX11_turn_53 ?_
  refine j_isub (pc := 54) dX11_turn_54 ?_
  obtain ⟨rfl, rfl⟩ := jretS h
  exact j_iret (pc := 55) rfl dX11_turn_55 (by decide) (by decide) rfl
theorem r_X11_turn {a0 : Nat} {i1 : Int32} {i2 : Int32} {i3 : Int32} {ws : LWd} {o : (Int32 × LWd)} (h : m_X11_turn a0 i1 i2 i3 ws = some o) : ∃ fs, ws[a0]? = some (.inr (11, fs)) := rcv_in h
def wsX11_square : List Cond := Cond.code yX11_square cX11_square 5 (some .int) :: jW
def m_X11_square (a0 : Nat) (i1 : Int32) (i2 : Int32) (ws : LWd) : Option (Int32 × LWd) :=
  (rcv ws a0 11).bind fun _ =>
  (fR ws a0 11 15).bind fun x1 =>
  (aI ws x1 i2).bind fun x3 =>
  (fR ws a0 11 15).bind fun x5 =>
  (aI ws x5 i1).bind fun x7 =>
  (fR ws a0 11 16).bind fun x9 =>
  (aI ws x9 i2).bind fun x11 =>
  (fR ws a0 11 16).bind fun x13 =>
  (aI ws x13 i1).bind fun x15 =>
  some (((x3 - x7) * (x3 - x7)) + ((x11 - x15) * (x11 - x15)), ws)
set_option maxRecDepth 100000 in
set_option maxHeartbeats 4000000 in
theorem s_X11_square {a0 : Nat} {i1 : Int32} {i2 : Int32} {ws : LWd} {rr : Int32} {ws' : LWd} (h : m_X11_square a0 i1 i2 ws = some (rr, ws')) : jSp yX11_square wsX11_square 0 0 0 [.ref a0, .int i1, .int i2] ws (.inl (some (.int rr)), ws') := by
  unfold m_X11_square at h
  refine j_entry (ret := (some .int)) (nm := "square") (own := RX11) pl_X11 rfl rfl rfl (jcats (by rfl)) (Nat.le_of_ble_eq_true rfl) ?_
  show JG (.inl false) cX11_square 5 RX11 wsX11_square (some .int) "square" 0 0 0 ws.length (.inl (some (.int rr)), ws') 0 [some (.ref a0), some (.int i1), some (.int i2), none, none] [] ws 0 0
  obtain ⟨_, _, h⟩ := obS h
  refine j_aload_n (pc := 0) dX11_square_0 rfl ?_
  obtain ⟨x1, e2, h⟩ := obS h
  refine j_getR (pc := 1) dX11_square_1 (ci := 11) (kf := 15) rfl (jwi hw_X11) (by decide) (jwm lw_535) e2 ?_
  refine j_iload_n (pc := 4) dX11_square_4 rfl ?_
  obtain ⟨x3, e4, h⟩ := obS h
  refine j_iald (pc := 5) dX11_square_5 e4 ?_
  refine j_aload_n (pc := 6) dX11_square_6 rfl ?_
  obtain ⟨x5, e6, h⟩ := obS h
  refine j_getR (pc := 7) dX11_square_7 (ci := 11) (kf := 15) rfl (jwi hw_X11) (by decide) (jwm lw_535) e6 ?_
  refine j_iload_n (pc := 10) dX11_square_10 rfl ?_
  obtain ⟨x7, e8, h⟩ := obS h
  refine j_iald (pc := 11) dX11_square_11 e8 ?_
  refine j_isub (pc := 12) dX11_square_12 ?_
  refine j_istore_n_3 (pc := 13) dX11_square_13 (by decide) rfl ?_
  refine j_aload_n (pc := 14) dX11_square_14 rfl ?_
  obtain ⟨x9, e10, h⟩ := obS h
  refine j_getR (pc := 15) dX11_square_15 (ci := 11) (kf := 16) rfl (jwi hw_X11) (by decide) (jwm lw_536) e10 ?_
  refine j_iload_n (pc := 18) dX11_square_18 rfl ?_
  obtain ⟨x11, e12, h⟩ := obS h
  refine j_iald (pc := 19) dX11_square_19 e12 ?_
  refine j_aload_n (pc := 20) dX11_square_20 rfl ?_
  obtain ⟨x13, e14, h⟩ := obS h
  refine j_getR (pc := 21) dX11_square_21 (ci := 11) (kf := 16) rfl (jwi hw_X11) (by decide) (jwm lw_536) e14 ?_
  refine j_iload_n (pc := 24) dX11_square_24 rfl ?_
  obtain ⟨x15, e16, h⟩ := obS h
  refine j_iald (pc := 25) dX11_square_25 e16 ?_
  refine j_isub (pc := 26) dX11_square_26 ?_
  refine j_istore_4 (pc := 27) dX11_square_27 (by decide) rfl ?_
  refine j_iload_n (pc := 29) dX11_square_29 rfl ?_
  refine j_iload_n (pc := 30) dX11_square_30 rfl ?_
  refine j_imul (pc := 31) dX11_square_31 ?_
  refine j_iload (pc := 32) dX11_square_32 rfl ?_
  refine j_iload (pc := 34) dX11_square_34 rfl ?_
  refine j_imul (pc := 36) dX11_square_36 ?_
  refine j_iadd (pc := 37) dX11_square_37 ?_
  obtain ⟨rfl, rfl⟩ := jretS h
  exact j_iret (pc := 38) rfl dX11_square_38 (by decide) (by decide) rfl
theorem r_X11_square {a0 : Nat} {i1 : Int32} {i2 : Int32} {ws : LWd} {o : (Int32 × LWd)} (h : m_X11_square a0 i1 i2 ws = some o) : ∃ fs, ws[a0]? = some (.inr (11, fs)) := rcv_in h
def wsX11_hull : List Cond := Cond.code yX11_hull cX11_hull 9 none :: jW
def m_X11_hull_b242 (k86 : Nat → Int32 → Int32 → Int32 → LWd → Option LWd) (k129 : Nat → Int32 → Int32 → Int32 → Int32 → Int32 → LWd → Option LWd) (a0 : Nat) (i1 : Int32) (i2 : Int32) (i3 : Int32) (i5 : Int32) (s0 : Int32) (ws : LWd) : Option LWd :=
  k129 a0 i1 i2 i3 s0 (i5 + 1) ws
set_option maxRecDepth 100000 in
set_option maxHeartbeats 4000000 in
theorem jm_X11_hull_b242 {n0 : Nat} {ws' : LWd} {k86 : Nat → Int32 → Int32 → Int32 → LWd → Option LWd} {k129 : Nat → Int32 → Int32 → Int32 → Int32 → Int32 → LWd → Option LWd} (hk86 : ∀ (a0 : Nat) (i1 : Int32) (i2 : Int32) (i3 : Int32) (ws : LWd), k86 a0 i1 i2 i3 ws = some ws' → JG (.inl false) cX11_hull 9 RX11 wsX11_hull none "hull" 1 0 0 n0 (.inl none, ws') 86 [some (.ref a0), some (.int i1), some (.int i2), some (.int i3), none, none, none, none, none] [] ws 0 0) (hk129 : ∀ (a0 : Nat) (i1 : Int32) (i2 : Int32) (i3 : Int32) (i4 : Int32) (i5 : Int32) (ws : LWd), k129 a0 i1 i2 i3 i4 i5 ws = some ws' → JG (.inl false) cX11_hull 9 RX11 wsX11_hull none "hull" 1 0 0 n0 (.inl none, ws') 129 [some (.ref a0), some (.int i1), some (.int i2), some (.int i3), some (.int i4), some (.int i5), none, none, none] [] ws 0 0) (a0 : Nat) (i1 : Int32) (i2 : Int32) (i3 : Int32) (i5 : Int32) (s0 : Int32) (ws : LWd) (h : m_X11_hull_b242 k86 k129 a0 i1 i2 i3 i5 s0 ws = some ws') : JG (.inl false) cX11_hull 9 RX11 wsX11_hull none "hull" 1 0 0 n0 (.inl none, ws') 242 [some (.ref a0), some (.int i1), some (.int i2), some (.int i3), none, some (.int i5), none, none, none] [.int s0] ws 0 0 := by
  unfold m_X11_hull_b242 at h
  refine j_istore_4 (pc := 242) dX11_hull_242 (by decide) rfl ?_
  refine j_iinc_5 (pc := 244) dX11_hull_244 (y := i5 + 1) rfl (by decide) rfl ?_
  refine j_goto (pc := 247) (tgt := 129) dX11_hull_247 (by decide) ?_
  exact hk129 _ _ _ _ _ _ ws h
def m_X11_hull_b228 (k86 : Nat → Int32 → Int32 → Int32 → LWd → Option LWd) (k129 : Nat → Int32 → Int32 → Int32 → Int32 → Int32 → LWd → Option LWd) (a0 : Nat) (i1 : Int32) (i2 : Int32) (i3 : Int32) (i4 : Int32) (i5 : Int32) (s0 : Int32) (ws : LWd) : Option LWd :=
  if s0 = 0 then
    m_X11_hull_b242 k86 k129 a0 i1 i2 i3 i5 i4 ws
  else
    m_X11_hull_b242 k86 k129 a0 i1 i2 i3 i5 i5 ws
set_option maxRecDepth 100000 in
set_option maxHeartbeats 4000000 in
theorem jm_X11_hull_b228 {n0 : Nat} {ws' : LWd} {k86 : Nat → Int32 → Int32 → Int32 → LWd → Option LWd} {k129 : Nat → Int32 → Int32 → Int32 → Int32 → Int32 → LWd → Option LWd} (hk86 : ∀ (a0 : Nat) (i1 : Int32) (i2 : Int32) (i3 : Int32) (ws : LWd), k86 a0 i1 i2 i3 ws = some ws' → JG (.inl false) cX11_hull 9 RX11 wsX11_hull none "hull" 1 0 0 n0 (.inl none, ws') 86 [some (.ref a0), some (.int i1), some (.int i2), some (.int i3), none, none, none, none, none] [] ws 0 0) (hk129 : ∀ (a0 : Nat) (i1 : Int32) (i2 : Int32) (i3 : Int32) (i4 : Int32) (i5 : Int32) (ws : LWd), k129 a0 i1 i2 i3 i4 i5 ws = some ws' → JG (.inl false) cX11_hull 9 RX11 wsX11_hull none "hull" 1 0 0 n0 (.inl none, ws') 129 [some (.ref a0), some (.int i1), some (.int i2), some (.int i3), some (.int i4), some (.int i5), none, none, none] [] ws 0 0) (a0 : Nat) (i1 : Int32) (i2 : Int32) (i3 : Int32) (i4 : Int32) (i5 : Int32) (s0 : Int32) (ws : LWd) (h : m_X11_hull_b228 k86 k129 a0 i1 i2 i3 i4 i5 s0 ws = some ws') : JG (.inl false) cX11_hull 9 RX11 wsX11_hull none "hull" 1 0 0 n0 (.inl none, ws') 228 [some (.ref a0), some (.int i1), some (.int i2), some (.int i3), some (.int i4), some (.int i5), none, none, none] [.int s0] ws 0 0 := by
  unfold m_X11_hull_b228 at h
  refine j_istore_8 (pc := 228) dX11_hull_228 (by decide) rfl ?_
  refine j_iload (pc := 230) dX11_hull_230 rfl ?_
  refine j_if_eq (pc := 232) (tgt := 240) dX11_hull_232 (by decide) (fun c1 => ?_) (fun c1 => ?_)
  · rw [if_pos c1] at h
    refine j_iload (pc := 240) dX11_hull_240 rfl ?_
    refine j_mask [true, true, true, true, false, true, false, false, false] ?_
    exact jm_X11_hull_b242 (hk86 := hk86) (hk129 := hk129) _ _ _ _ _ _ ws h
  · rw [if_neg c1] at h
    refine j_iload (pc := 235) dX11_hull_235 rfl ?_
    refine j_goto (pc := 237) (tgt := 242) dX11_hull_237 (by decide) ?_
    refine j_mask [true, true, true, true, false, true, false, false, false] ?_
    exact jm_X11_hull_b242 (hk86 := hk86) (hk129 := hk129) _ _ _ _ _ _ ws h
def m_X11_hull_b227 (k86 : Nat → Int32 → Int32 → Int32 → LWd → Option LWd) (k129 : Nat → Int32 → Int32 → Int32 → Int32 → Int32 → LWd → Option LWd) (a0 : Nat) (i1 : Int32) (i2 : Int32) (i3 : Int32) (i4 : Int32) (i5 : Int32) (ws : LWd) : Option LWd :=
  m_X11_hull_b228 k86 k129 a0 i1 i2 i3 i4 i5 0 ws
set_option maxRecDepth 100000 in
set_option maxHeartbeats 4000000 in
theorem jm_X11_hull_b227 {n0 : Nat} {ws' : LWd} {k86 : Nat → Int32 → Int32 → Int32 → LWd → Option LWd} {k129 : Nat → Int32 → Int32 → Int32 → Int32 → Int32 → LWd → Option LWd} (hk86 : ∀ (a0 : Nat) (i1 : Int32) (i2 : Int32) (i3 : Int32) (ws : LWd), k86 a0 i1 i2 i3 ws = some ws' → JG (.inl false) cX11_hull 9 RX11 wsX11_hull none "hull" 1 0 0 n0 (.inl none, ws') 86 [some (.ref a0), some (.int i1), some (.int i2), some (.int i3), none, none, none, none, none] [] ws 0 0) (hk129 : ∀ (a0 : Nat) (i1 : Int32) (i2 : Int32) (i3 : Int32) (i4 : Int32) (i5 : Int32) (ws : LWd), k129 a0 i1 i2 i3 i4 i5 ws = some ws' → JG (.inl false) cX11_hull 9 RX11 wsX11_hull none "hull" 1 0 0 n0 (.inl none, ws') 129 [some (.ref a0), some (.int i1), some (.int i2), some (.int i3), some (.int i4), some (.int i5), none, none, none] [] ws 0 0) (a0 : Nat) (i1 : Int32) (i2 : Int32) (i3 : Int32) (i4 : Int32) (i5 : Int32) (ws : LWd) (h : m_X11_hull_b227 k86 k129 a0 i1 i2 i3 i4 i5 ws = some ws') : JG (.inl false) cX11_hull 9 RX11 wsX11_hull none "hull" 1 0 0 n0 (.inl none, ws') 227 [some (.ref a0), some (.int i1), some (.int i2), some (.int i3), some (.int i4), some (.int i5), none, none, none] [] ws 0 0 := by
  unfold m_X11_hull_b227 at h
  refine j_iconst (pc := 227) dX11_hull_227 (v := 0) (by decide) ?_
  exact jm_X11_hull_b228 (hk86 := hk86) (hk129 := hk129) _ _ _ _ _ _ _ ws h
def m_X11_hull_b223 (k86 : Nat → Int32 → Int32 → Int32 → LWd → Option LWd) (k129 : Nat → Int32 → Int32 → Int32 → Int32 → Int32 → LWd → Option LWd) (a0 : Nat) (i1 : Int32) (i2 : Int32) (i3 : Int32) (i4 : Int32) (i5 : Int32) (ws : LWd) : Option LWd :=
  m_X11_hull_b228 k86 k129 a0 i1 i2 i3 i4 i5 1 ws
set_option maxRecDepth 100000 in
set_option maxHeartbeats 4000000 in
theorem jm_X11_hull_b223 {n0 : Nat} {ws' : LWd} {k86 : Nat → Int32 → Int32 → Int32 → LWd → Option LWd} {k129 : Nat → Int32 → Int32 → Int32 → Int32 → Int32 → LWd → Option LWd} (hk86 : ∀ (a0 : Nat) (i1 : Int32) (i2 : Int32) (i3 : Int32) (ws : LWd), k86 a0 i1 i2 i3 ws = some ws' → JG (.inl false) cX11_hull 9 RX11 wsX11_hull none "hull" 1 0 0 n0 (.inl none, ws') 86 [some (.ref a0), some (.int i1), some (.int i2), some (.int i3), none, none, none, none, none] [] ws 0 0) (hk129 : ∀ (a0 : Nat) (i1 : Int32) (i2 : Int32) (i3 : Int32) (i4 : Int32) (i5 : Int32) (ws : LWd), k129 a0 i1 i2 i3 i4 i5 ws = some ws' → JG (.inl false) cX11_hull 9 RX11 wsX11_hull none "hull" 1 0 0 n0 (.inl none, ws') 129 [some (.ref a0), some (.int i1), some (.int i2), some (.int i3), some (.int i4), some (.int i5), none, none, none] [] ws 0 0) (a0 : Nat) (i1 : Int32) (i2 : Int32) (i3 : Int32) (i4 : Int32) (i5 : Int32) (ws : LWd) (h : m_X11_hull_b223 k86 k129 a0 i1 i2 i3 i4 i5 ws = some ws') : JG (.inl false) cX11_hull 9 RX11 wsX11_hull none "hull" 1 0 0 n0 (.inl none, ws') 223 [some (.ref a0), some (.int i1), some (.int i2), some (.int i3), some (.int i4), some (.int i5), none, none, none] [] ws 0 0 := by
  unfold m_X11_hull_b223 at h
  refine j_iconst (pc := 223) dX11_hull_223 (v := 1) (by decide) ?_
  refine j_goto (pc := 224) (tgt := 228) dX11_hull_224 (by decide) ?_
  exact jm_X11_hull_b228 (hk86 := hk86) (hk129 := hk129) _ _ _ _ _ _ _ ws h
def m_X11_hull_b183 (k86 : Nat → Int32 → Int32 → Int32 → LWd → Option LWd) (k129 : Nat → Int32 → Int32 → Int32 → Int32 → Int32 → LWd → Option LWd) (a0 : Nat) (i1 : Int32) (i2 : Int32) (i3 : Int32) (i4 : Int32) (i5 : Int32) (i6 : Int32) (s0 : Int32) (ws : LWd) : Option LWd :=
  if i6 = 0 then
    m_X11_hull_b227 k86 k129 a0 i1 i2 i3 i4 i5 ws
  else
    if i4 = ((-1)) then
      m_X11_hull_b223 k86 k129 a0 i1 i2 i3 i4 i5 ws
    else
      if s0 < 0 then
        m_X11_hull_b223 k86 k129 a0 i1 i2 i3 i4 i5 ws
      else
        if s0 = 0 then
          bn2 (calSR ws (m_X11_square a0 i3 i5 ws)) fun x7 w5 =>
          bn2 (calSR w5 (m_X11_square a0 i3 i4 w5)) fun x10 w8 =>
          if x7 ≤ x10 then
            m_X11_hull_b227 k86 k129 a0 i1 i2 i3 i4 i5 w8
          else
            m_X11_hull_b223 k86 k129 a0 i1 i2 i3 i4 i5 w8
        else
          m_X11_hull_b227 k86 k129 a0 i1 i2 i3 i4 i5 ws
set_option maxRecDepth 100000 in
set_option maxHeartbeats 4000000 in
theorem jm_X11_hull_b183 {n0 : Nat} {ws' : LWd} {k86 : Nat → Int32 → Int32 → Int32 → LWd → Option LWd} {k129 : Nat → Int32 → Int32 → Int32 → Int32 → Int32 → LWd → Option LWd} (hk86 : ∀ (a0 : Nat) (i1 : Int32) (i2 : Int32) (i3 : Int32) (ws : LWd), k86 a0 i1 i2 i3 ws = some ws' → JG (.inl false) cX11_hull 9 RX11 wsX11_hull none "hull" 1 0 0 n0 (.inl none, ws') 86 [some (.ref a0), some (.int i1), some (.int i2), some (.int i3), none, none, none, none, none] [] ws 0 0) (hk129 : ∀ (a0 : Nat) (i1 : Int32) (i2 : Int32) (i3 : Int32) (i4 : Int32) (i5 : Int32) (ws : LWd), k129 a0 i1 i2 i3 i4 i5 ws = some ws' → JG (.inl false) cX11_hull 9 RX11 wsX11_hull none "hull" 1 0 0 n0 (.inl none, ws') 129 [some (.ref a0), some (.int i1), some (.int i2), some (.int i3), some (.int i4), some (.int i5), none, none, none] [] ws 0 0) (a0 : Nat) (i1 : Int32) (i2 : Int32) (i3 : Int32) (i4 : Int32) (i5 : Int32) (i6 : Int32) (s0 : Int32) (ws : LWd) (h : m_X11_hull_b183 k86 k129 a0 i1 i2 i3 i4 i5 i6 s0 ws = some ws') : JG (.inl false) cX11_hull 9 RX11 wsX11_hull none "hull" 1 0 0 n0 (.inl none, ws') 183 [some (.ref a0), some (.int i1), some (.int i2), some (.int i3), some (.int i4), some (.int i5), some (.int i6), none, none] [.int s0] ws 0 0 := by
  unfold m_X11_hull_b183 at h
  refine j_istore_7 (pc := 183) dX11_hull_183 (by decide) rfl ?_
  refine j_iload (pc := 185) dX11_hull_185 rfl ?_
  refine j_if_eq (pc := 187) (tgt := 227) dX11_hull_187 (by decide) (fun c1 => ?_) (fun c1 => ?_)
  · rw [if_pos c1] at h
    refine j_mask [true, true, true, true, true, true, false, false, false] ?_
    exact jm_X11_hull_b227 (hk86 := hk86) (hk129 := hk129) _ _ _ _ _ _ ws h
  · rw [if_neg c1] at h
    refine j_iload (pc := 190) dX11_hull_190 rfl ?_
    refine j_iconst (pc := 192) dX11_hull_192 (v := (-1)) (by decide) ?_
    refine j_icmp_eq (pc := 193) (tgt := 223) dX11_hull_193 (by decide) (fun c2 => ?_) (fun c2 => ?_)
    · rw [if_pos c2] at h
      refine j_mask [true, true, true, true, true, true, false, false, false] ?_
      exact jm_X11_hull_b223 (hk86 := hk86) (hk129 := hk129) _ _ _ _ _ _ ws h
    · rw [if_neg c2] at h
      refine j_iload (pc := 196) dX11_hull_196 rfl ?_
      refine j_if_lt (pc := 198) (tgt := 223) dX11_hull_198 (by decide) (fun c3 => ?_) (fun c3 => ?_)
      · rw [if_pos c3] at h
        refine j_mask [true, true, true, true, true, true, false, false, false] ?_
        exact jm_X11_hull_b223 (hk86 := hk86) (hk129 := hk129) _ _ _ _ _ _ ws h
      · rw [if_neg c3] at h
        refine j_iload (pc := 201) dX11_hull_201 rfl ?_
        refine j_if_ne (pc := 203) (tgt := 227) dX11_hull_203 (by decide) (fun c4 => ?_) (fun c4 => ?_)
        · rw [if_neg c4] at h
          refine j_mask [true, true, true, true, true, true, false, false, false] ?_
          exact jm_X11_hull_b227 (hk86 := hk86) (hk129 := hk129) _ _ _ _ _ _ ws h
        · rw [if_pos c4] at h
          refine j_aload_n (pc := 206) dX11_hull_206 rfl ?_
          refine j_iload_n (pc := 207) dX11_hull_207 rfl ?_
          refine j_iload (pc := 208) dX11_hull_208 rfl ?_
          obtain ⟨x7, w5, e6, h⟩ := obS2 h
          have ge6 := calSR_of e6
          refine j_callV_g (pc := 210) (As := [.int i3, .int i5]) (k' := 0) (n' := 0) dX11_hull_210 (s_X11_square ge6.1) (jgV lw_580 lw_581 lw_582 lw_544 lw_579) rfl hv_X11_square rfl (r_X11_square ge6.1) rfl (by decide) (by decide) (Nat.le_of_ble_eq_true rfl) (by decide) (by decide) (by decide) (by decide) (Or.inl ge6.2) ?_
          refine j_aload_n (pc := 213) dX11_hull_213 rfl ?_
          refine j_iload_n (pc := 214) dX11_hull_214 rfl ?_
          refine j_iload (pc := 215) dX11_hull_215 rfl ?_
          obtain ⟨x10, w8, e9, h⟩ := obS2 h
          have ge9 := calSR_of e9
          refine j_callV_g (pc := 217) (As := [.int i3, .int i4]) (k' := 0) (n' := 0) dX11_hull_217 (s_X11_square ge9.1) (jgV lw_580 lw_581 lw_582 lw_544 lw_579) rfl hv_X11_square rfl (r_X11_square ge9.1) rfl (by decide) (by decide) (Nat.le_of_ble_eq_true rfl) (by decide) (by decide) (by decide) (by decide) (Or.inl ge9.2) ?_
          refine j_icmp_le (pc := 220) (tgt := 227) dX11_hull_220 (by decide) (fun c11 => ?_) (fun c11 => ?_)
          · rw [if_pos c11] at h
            refine j_mask [true, true, true, true, true, true, false, false, false] ?_
            exact jm_X11_hull_b227 (hk86 := hk86) (hk129 := hk129) _ _ _ _ _ _ w8 h
          · rw [if_neg c11] at h
            refine j_mask [true, true, true, true, true, true, false, false, false] ?_
            exact jm_X11_hull_b223 (hk86 := hk86) (hk129 := hk129) _ _ _ _ _ _ w8 h
def m_X11_hull_b182 (k86 : Nat → Int32 → Int32 → Int32 → LWd → Option LWd) (k129 : Nat → Int32 → Int32 → Int32 → Int32 → Int32 → LWd → Option LWd) (a0 : Nat) (i1 : Int32) (i2 : Int32) (i3 : Int32) (i4 : Int32) (i5 : Int32) (i6 : Int32) (ws : LWd) : Option LWd :=
  m_X11_hull_b183 k86 k129 a0 i1 i2 i3 i4 i5 i6 0 ws
set_option maxRecDepth 100000 in
set_option maxHeartbeats 4000000 in
theorem jm_X11_hull_b182 {n0 : Nat} {ws' : LWd} {k86 : Nat → Int32 → Int32 → Int32 → LWd → Option LWd} {k129 : Nat → Int32 → Int32 → Int32 → Int32 → Int32 → LWd → Option LWd} (hk86 : ∀ (a0 : Nat) (i1 : Int32) (i2 : Int32) (i3 : Int32) (ws : LWd), k86 a0 i1 i2 i3 ws = some ws' → JG (.inl false) cX11_hull 9 RX11 wsX11_hull none "hull" 1 0 0 n0 (.inl none, ws') 86 [some (.ref a0), some (.int i1), some (.int i2), some (.int i3), none, none, none, none, none] [] ws 0 0) (hk129 : ∀ (a0 : Nat) (i1 : Int32) (i2 : Int32) (i3 : Int32) (i4 : Int32) (i5 : Int32) (ws : LWd), k129 a0 i1 i2 i3 i4 i5 ws = some ws' → JG (.inl false) cX11_hull 9 RX11 wsX11_hull none "hull" 1 0 0 n0 (.inl none, ws') 129 [some (.ref a0), some (.int i1), some (.int i2), some (.int i3), some (.int i4), some (.int i5), none, none, none] [] ws 0 0) (a0 : Nat) (i1 : Int32) (i2 : Int32) (i3 : Int32) (i4 : Int32) (i5 : Int32) (i6 : Int32) (ws : LWd) (h : m_X11_hull_b182 k86 k129 a0 i1 i2 i3 i4 i5 i6 ws = some ws') : JG (.inl false) cX11_hull 9 RX11 wsX11_hull none "hull" 1 0 0 n0 (.inl none, ws') 182 [some (.ref a0), some (.int i1), some (.int i2), some (.int i3), some (.int i4), some (.int i5), some (.int i6), none, none] [] ws 0 0 := by
  unfold m_X11_hull_b182 at h
  refine j_iconst (pc := 182) dX11_hull_182 (v := 0) (by decide) ?_
  exact jm_X11_hull_b183 (hk86 := hk86) (hk129 := hk129) _ _ _ _ _ _ _ _ ws h
def m_X11_hull_b157 (k86 : Nat → Int32 → Int32 → Int32 → LWd → Option LWd) (k129 : Nat → Int32 → Int32 → Int32 → Int32 → Int32 → LWd → Option LWd) (a0 : Nat) (i1 : Int32) (i2 : Int32) (i3 : Int32) (i4 : Int32) (i5 : Int32) (s0 : Int32) (ws : LWd) : Option LWd :=
  if s0 = 0 then
    m_X11_hull_b182 k86 k129 a0 i1 i2 i3 i4 i5 s0 ws
  else
    if i4 = ((-1)) then
      m_X11_hull_b182 k86 k129 a0 i1 i2 i3 i4 i5 s0 ws
    else
      bn2 (calSR ws (m_X11_turn a0 i3 i4 i5 ws)) fun x5 w3 =>
      m_X11_hull_b183 k86 k129 a0 i1 i2 i3 i4 i5 s0 x5 w3
set_option maxRecDepth 100000 in
set_option maxHeartbeats 4000000 in
theorem jm_X11_hull_b157 {n0 : Nat} {ws' : LWd} {k86 : Nat → Int32 → Int32 → Int32 → LWd → Option LWd} {k129 : Nat → Int32 → Int32 → Int32 → Int32 → Int32 → LWd → Option LWd} (hk86 : ∀ (a0 : Nat) (i1 : Int32) (i2 : Int32) (i3 : Int32) (ws : LWd), k86 a0 i1 i2 i3 ws = some ws' → JG (.inl false) cX11_hull 9 RX11 wsX11_hull none "hull" 1 0 0 n0 (.inl none, ws') 86 [some (.ref a0), some (.int i1), some (.int i2), some (.int i3), none, none, none, none, none] [] ws 0 0) (hk129 : ∀ (a0 : Nat) (i1 : Int32) (i2 : Int32) (i3 : Int32) (i4 : Int32) (i5 : Int32) (ws : LWd), k129 a0 i1 i2 i3 i4 i5 ws = some ws' → JG (.inl false) cX11_hull 9 RX11 wsX11_hull none "hull" 1 0 0 n0 (.inl none, ws') 129 [some (.ref a0), some (.int i1), some (.int i2), some (.int i3), some (.int i4), some (.int i5), none, none, none] [] ws 0 0) (a0 : Nat) (i1 : Int32) (i2 : Int32) (i3 : Int32) (i4 : Int32) (i5 : Int32) (s0 : Int32) (ws : LWd) (h : m_X11_hull_b157 k86 k129 a0 i1 i2 i3 i4 i5 s0 ws = some ws') : JG (.inl false) cX11_hull 9 RX11 wsX11_hull none "hull" 1 0 0 n0 (.inl none, ws') 157 [some (.ref a0), some (.int i1), some (.int i2), some (.int i3), some (.int i4), some (.int i5), none, none, none] [.int s0] ws 0 0 := by
  unfold m_X11_hull_b157 at h
  refine j_istore_6 (pc := 157) dX11_hull_157 (by decide) rfl ?_
  refine j_iload (pc := 159) dX11_hull_159 rfl ?_
  refine j_if_eq (pc := 161) (tgt := 182) dX11_hull_161 (by decide) (fun c1 => ?_) (fun c1 => ?_)
  · rw [if_pos c1] at h
    exact jm_X11_hull_b182 (hk86 := hk86) (hk129 := hk129) _ _ _ _ _ _ _ ws h
  · rw [if_neg c1] at h
    refine j_iload (pc := 164) dX11_hull_164 rfl ?_
    refine j_iconst (pc := 166) dX11_hull_166 (v := (-1)) (by decide) ?_
    refine j_icmp_eq (pc := 167) (tgt := 182) dX11_hull_167 (by decide) (fun c2 => ?_) (fun c2 => ?_)
    · rw [if_pos c2] at h
      exact jm_X11_hull_b182 (hk86 := hk86) (hk129 := hk129) _ _ _ _ _ _ _ ws h
    · rw [if_neg c2] at h
      refine j_aload_n (pc := 170) dX11_hull_170 rfl ?_
      refine j_iload_n (pc := 171) dX11_hull_171 rfl ?_
      refine j_iload (pc := 172) dX11_hull_172 rfl ?_
      refine j_iload (pc := 174) dX11_hull_174 rfl ?_
      obtain ⟨x5, w3, e4, h⟩ := obS2 h
      have ge4 := calSR_of e4
      refine j_callV_g (pc := 176) (As := [.int i3, .int i4, .int i5]) (k' := 0) (n' := 0) dX11_hull_176 (s_X11_turn ge4.1) (jgV lw_584 lw_585 lw_586 lw_544 lw_583) rfl hv_X11_turn rfl (r_X11_turn ge4.1) rfl (by decide) (by decide) (Nat.le_of_ble_eq_true rfl) (by decide) (by decide) (by decide) (by decide) (Or.inl ge4.2) ?_
      refine j_goto (pc := 179) (tgt := 183) dX11_hull_179 (by decide) ?_
      exact jm_X11_hull_b183 (hk86 := hk86) (hk129 := hk129) _ _ _ _ _ _ _ _ w3 h
def m_X11_hull_b156 (k86 : Nat → Int32 → Int32 → Int32 → LWd → Option LWd) (k129 : Nat → Int32 → Int32 → Int32 → Int32 → Int32 → LWd → Option LWd) (a0 : Nat) (i1 : Int32) (i2 : Int32) (i3 : Int32) (i4 : Int32) (i5 : Int32) (ws : LWd) : Option LWd :=
  m_X11_hull_b157 k86 k129 a0 i1 i2 i3 i4 i5 0 ws
set_option maxRecDepth 100000 in
set_option maxHeartbeats 4000000 in
theorem jm_X11_hull_b156 {n0 : Nat} {ws' : LWd} {k86 : Nat → Int32 → Int32 → Int32 → LWd → Option LWd} {k129 : Nat → Int32 → Int32 → Int32 → Int32 → Int32 → LWd → Option LWd} (hk86 : ∀ (a0 : Nat) (i1 : Int32) (i2 : Int32) (i3 : Int32) (ws : LWd), k86 a0 i1 i2 i3 ws = some ws' → JG (.inl false) cX11_hull 9 RX11 wsX11_hull none "hull" 1 0 0 n0 (.inl none, ws') 86 [some (.ref a0), some (.int i1), some (.int i2), some (.int i3), none, none, none, none, none] [] ws 0 0) (hk129 : ∀ (a0 : Nat) (i1 : Int32) (i2 : Int32) (i3 : Int32) (i4 : Int32) (i5 : Int32) (ws : LWd), k129 a0 i1 i2 i3 i4 i5 ws = some ws' → JG (.inl false) cX11_hull 9 RX11 wsX11_hull none "hull" 1 0 0 n0 (.inl none, ws') 129 [some (.ref a0), some (.int i1), some (.int i2), some (.int i3), some (.int i4), some (.int i5), none, none, none] [] ws 0 0) (a0 : Nat) (i1 : Int32) (i2 : Int32) (i3 : Int32) (i4 : Int32) (i5 : Int32) (ws : LWd) (h : m_X11_hull_b156 k86 k129 a0 i1 i2 i3 i4 i5 ws = some ws') : JG (.inl false) cX11_hull 9 RX11 wsX11_hull none "hull" 1 0 0 n0 (.inl none, ws') 156 [some (.ref a0), some (.int i1), some (.int i2), some (.int i3), some (.int i4), some (.int i5), none, none, none] [] ws 0 0 := by
  unfold m_X11_hull_b156 at h
  refine j_iconst (pc := 156) dX11_hull_156 (v := 0) (by decide) ?_
  exact jm_X11_hull_b157 (hk86 := hk86) (hk129 := hk129) _ _ _ _ _ _ _ ws h
def m_X11_hull_l129 (k86 : Nat → Int32 → Int32 → Int32 → LWd → Option LWd) : Nat → Nat → Int32 → Int32 → Int32 → Int32 → Int32 → LWd → Option LWd
  | 0, _, _, _, _, _, _, _ => none
  | fu + 1, a0, i1, i2, i3, i4, i5, ws =>
    if 6 ≤ i5 then
      k86 a0 i1 i2 i4 ws
    else
      if ((i1 >>> (i5 &&& 31)) &&& 1) = 1 then
        if i5 = i3 then
          m_X11_hull_b156 k86 (fun z0 z1 z2 z3 z4 z5 w => m_X11_hull_l129 k86 fu z0 z1 z2 z3 z4 z5 w) a0 i1 i2 i3 i4 i5 ws
        else
          m_X11_hull_b157 k86 (fun z0 z1 z2 z3 z4 z5 w => m_X11_hull_l129 k86 fu z0 z1 z2 z3 z4 z5 w) a0 i1 i2 i3 i4 i5 1 ws
      else
        m_X11_hull_b156 k86 (fun z0 z1 z2 z3 z4 z5 w => m_X11_hull_l129 k86 fu z0 z1 z2 z3 z4 z5 w) a0 i1 i2 i3 i4 i5 ws
set_option maxRecDepth 100000 in
set_option maxHeartbeats 4000000 in
theorem jm_X11_hull_l129 {n0 : Nat} {ws' : LWd} {k86 : Nat → Int32 → Int32 → Int32 → LWd → Option LWd} (hk86 : ∀ (a0 : Nat) (i1 : Int32) (i2 : Int32) (i3 : Int32) (ws : LWd), k86 a0 i1 i2 i3 ws = some ws' → JG (.inl false) cX11_hull 9 RX11 wsX11_hull none "hull" 1 0 0 n0 (.inl none, ws') 86 [some (.ref a0), some (.int i1), some (.int i2), some (.int i3), none, none, none, none, none] [] ws 0 0) : ∀ (fu : Nat) (a0 : Nat) (i1 : Int32) (i2 : Int32) (i3 : Int32) (i4 : Int32) (i5 : Int32) (ws : LWd), m_X11_hull_l129 k86 fu a0 i1 i2 i3 i4 i5 ws = some ws' → JG (.inl false) cX11_hull 9 RX11 wsX11_hull none "hull" 1 0 0 n0 (.inl none, ws') 129 [some (.ref a0), some (.int i1), some (.int i2), some (.int i3), some (.int i4), some (.int i5), none, none, none] [] ws 0 0 := by
  intro fu
  induction fu with
  | zero => intro a0 i1 i2 i3 i4 i5 ws h; cases h
  | succ fu ih =>
    intro a0 i1 i2 i3 i4 i5 ws h
    rw [m_X11_hull_l129] at h
    refine j_iload (pc := 129) dX11_hull_129 rfl ?_
    refine j_bipush (pc := 131) dX11_hull_131 (v := 6) (by decide) ?_
    refine j_icmp_ge (pc := 133) (tgt := 250) dX11_hull_133 (by decide) (fun c1 => ?_) (fun c1 => ?_)
    · rw [if_pos c1] at h
      refine j_iload (pc := 250) dX11_hull_250 rfl ?_
      refine j_istore_n_3 (pc := 252) dX11_hull_252 (by decide) rfl ?_
      refine j_goto (pc := 253) (tgt := 86) dX11_hull_253 (by decide) ?_
      refine j_mask [true, true, true, true, false, false, false, false, false] ?_
      exact hk86 _ _ _ _ ws h
    · rw [if_neg c1] at h
      refine j_iload_n (pc := 136) dX11_hull_136 rfl ?_
      refine j_iload (pc := 137) dX11_hull_137 rfl ?_
      refine j_ishr (pc := 139) dX11_hull_139 ?_
      refine j_iconst (pc := 140) dX11_hull_140 (v := 1) (by decide) ?_
      refine j_iand (pc := 141) dX11_hull_141 ?_
      refine j_iconst (pc := 142) dX11_hull_142 (v := 1) (by decide) ?_
      refine j_icmp_ne (pc := 143) (tgt := 156) dX11_hull_143 (by decide) (fun c2 => ?_) (fun c2 => ?_)
      · rw [if_neg c2] at h
        exact jm_X11_hull_b156 (hk86 := hk86) (hk129 := ih) _ _ _ _ _ _ ws h
      · rw [if_pos c2] at h
        refine j_iload (pc := 146) dX11_hull_146 rfl ?_
        refine j_iload_n (pc := 148) dX11_hull_148 rfl ?_
        refine j_icmp_eq (pc := 149) (tgt := 156) dX11_hull_149 (by decide) (fun c3 => ?_) (fun c3 => ?_)
        · rw [if_pos c3] at h
          exact jm_X11_hull_b156 (hk86 := hk86) (hk129 := ih) _ _ _ _ _ _ ws h
        · rw [if_neg c3] at h
          refine j_iconst (pc := 152) dX11_hull_152 (v := 1) (by decide) ?_
          refine j_goto (pc := 153) (tgt := 157) dX11_hull_153 (by decide) ?_
          exact jm_X11_hull_b157 (hk86 := hk86) (hk129 := ih) _ _ _ _ _ _ _ ws h
def m_X11_hull_b103 (k86 : Nat → Int32 → Int32 → Int32 → LWd → Option LWd) (a0 : Nat) (i1 : Int32) (i2 : Int32) (i3 : Int32) (ws : LWd) : Option LWd :=
  (fR ws a0 11 29).bind fun x1 =>
  (fI ws a0 11 28).bind fun x3 =>
  (sI ws x1 x3 i3).bind fun w5 =>
  (fI w5 a0 11 28).bind fun x7 =>
  (pV w5 a0 11 28 (.int (x7 + 1))).bind fun w9 =>
  m_X11_hull_l129 k86 FU a0 i1 i2 i3 ((-1)) 0 w9
set_option maxRecDepth 100000 in
set_option maxHeartbeats 4000000 in
theorem jm_X11_hull_b103 {n0 : Nat} {ws' : LWd} {k86 : Nat → Int32 → Int32 → Int32 → LWd → Option LWd} (hk86 : ∀ (a0 : Nat) (i1 : Int32) (i2 : Int32) (i3 : Int32) (ws : LWd), k86 a0 i1 i2 i3 ws = some ws' → JG (.inl false) cX11_hull 9 RX11 wsX11_hull none "hull" 1 0 0 n0 (.inl none, ws') 86 [some (.ref a0), some (.int i1), some (.int i2), some (.int i3), none, none, none, none, none] [] ws 0 0) (a0 : Nat) (i1 : Int32) (i2 : Int32) (i3 : Int32) (ws : LWd) (h : m_X11_hull_b103 k86 a0 i1 i2 i3 ws = some ws') : JG (.inl false) cX11_hull 9 RX11 wsX11_hull none "hull" 1 0 0 n0 (.inl none, ws') 103 [some (.ref a0), some (.int i1), some (.int i2), some (.int i3), none, none, none, none, none] [] ws 0 0 := by
  unfold m_X11_hull_b103 at h
  refine j_aload_n (pc := 103) dX11_hull_103 rfl ?_
  obtain ⟨x1, e2, h⟩ := obS h
  refine j_getR (pc := 104) dX11_hull_104 (ci := 11) (kf := 29) rfl (jwi hw_X11) (by decide) (jwm lw_539) e2 ?_
  refine j_aload_n (pc := 107) dX11_hull_107 rfl ?_
  obtain ⟨x3, e4, h⟩ := obS h
  refine j_getI (pc := 108) dX11_hull_108 (ci := 11) (kf := 28) rfl (jwi hw_X11) (by decide) (jwm lw_587) e4 ?_
  refine j_iload_n (pc := 111) dX11_hull_111 rfl ?_
  obtain ⟨w5, e6, h⟩ := obS h
  refine j_iast (pc := 112) dX11_hull_112 e6 ?_
  refine j_aload_n (pc := 113) dX11_hull_113 rfl ?_
  refine j_dup (pc := 114) dX11_hull_114 rfl ?_
  obtain ⟨x7, e8, h⟩ := obS h
  refine j_getI (pc := 115) dX11_hull_115 (ci := 11) (kf := 28) rfl (jwi hw_X11) (by decide) (jwm lw_587) e8 ?_
  refine j_iconst (pc := 118) dX11_hull_118 (v := 1) (by decide) ?_
  refine j_iadd (pc := 119) dX11_hull_119 ?_
  obtain ⟨w9, e10, h⟩ := obS h
  refine j_putV (pc := 120) (ci := 11) (kf := 28) tyX11 tyX11_ok nmX11 dX11_hull_120 rfl (jwi hw_X11) (by decide) (jwm lw_587) rfl (fun _ => rfl) (fun _ => rfl) e10 ?_
  refine j_iconst (pc := 123) dX11_hull_123 (v := (-1)) (by decide) ?_
  refine j_istore_4 (pc := 124) dX11_hull_124 (by decide) rfl ?_
  refine j_iconst (pc := 126) dX11_hull_126 (v := 0) (by decide) ?_
  refine j_istore_5 (pc := 127) dX11_hull_127 (by decide) rfl ?_
  exact jm_X11_hull_l129 (hk86 := hk86) FU _ _ _ _ _ _ w9 h
def m_X11_hull_l86 : Nat → Nat → Int32 → Int32 → Int32 → LWd → Option LWd
  | 0, _, _, _, _, _ => none
  | fu + 1, a0, i1, i2, i3, ws =>
    if i3 = ((-1)) then
      some ws
    else
      (fI ws a0 11 28).bind fun x2 =>
      if x2 = 0 then
        m_X11_hull_b103 (fun z0 z1 z2 z3 w => m_X11_hull_l86 fu z0 z1 z2 z3 w) a0 i1 i2 i3 ws
      else
        if i3 = i2 then
          some ws
        else
          m_X11_hull_b103 (fun z0 z1 z2 z3 w => m_X11_hull_l86 fu z0 z1 z2 z3 w) a0 i1 i2 i3 ws
set_option maxRecDepth 100000 in
set_option maxHeartbeats 4000000 in
theorem jm_X11_hull_l86 {n0 : Nat} {ws' : LWd} : ∀ (fu : Nat) (a0 : Nat) (i1 : Int32) (i2 : Int32) (i3 : Int32) (ws : LWd), m_X11_hull_l86 fu a0 i1 i2 i3 ws = some ws' → JG (.inl false) cX11_hull 9 RX11 wsX11_hull none "hull" 1 0 0 n0 (.inl none, ws') 86 [some (.ref a0), some (.int i1), some (.int i2), some (.int i3), none, none, none, none, none] [] ws 0 0 := by
  intro fu
  induction fu with
  | zero => intro a0 i1 i2 i3 ws h; cases h
  | succ fu ih =>
    intro a0 i1 i2 i3 ws h
    rw [m_X11_hull_l86] at h
    refine j_iload_n (pc := 86) dX11_hull_86 rfl ?_
    refine j_iconst (pc := 87) dX11_hull_87 (v := (-1)) (by decide) ?_
    refine j_icmp_eq (pc := 88) (tgt := 256) dX11_hull_88 (by decide) (fun c1 => ?_) (fun c1 => ?_)
    · rw [if_pos c1] at h
      cases h
      exact j_vret (pc := 256) rfl dX11_hull_256 (by decide) (by decide) rfl
    · rw [if_neg c1] at h
      refine j_aload_n (pc := 91) dX11_hull_91 rfl ?_
      obtain ⟨x2, e3, h⟩ := obS h
      refine j_getI (pc := 92) dX11_hull_92 (ci := 11) (kf := 28) rfl (jwi hw_X11) (by decide) (jwm lw_587) e3 ?_
      refine j_if_eq (pc := 95) (tgt := 103) dX11_hull_95 (by decide) (fun c4 => ?_) (fun c4 => ?_)
      · rw [if_pos c4] at h
        exact jm_X11_hull_b103 (hk86 := ih) _ _ _ _ ws h
      · rw [if_neg c4] at h
        refine j_iload_n (pc := 98) dX11_hull_98 rfl ?_
        refine j_iload_n (pc := 99) dX11_hull_99 rfl ?_
        refine j_icmp_eq (pc := 100) (tgt := 256) dX11_hull_100 (by decide) (fun c5 => ?_) (fun c5 => ?_)
        · rw [if_pos c5] at h
          cases h
          exact j_vret (pc := 256) rfl dX11_hull_256 (by decide) (by decide) rfl
        · rw [if_neg c5] at h
          exact jm_X11_hull_b103 (hk86 := ih) _ _ _ _ ws h
def m_X11_hull_b77 (k9 : Nat → Int32 → Int32 → Int32 → LWd → Option LWd) (a0 : Nat) (i1 : Int32) (i3 : Int32) (s0 : Int32) (ws : LWd) : Option LWd :=
  k9 a0 i1 s0 (i3 + (-1)) ws
set_option maxRecDepth 100000 in
set_option maxHeartbeats 4000000 in
theorem jm_X11_hull_b77 {n0 : Nat} {ws' : LWd} {k9 : Nat → Int32 → Int32 → Int32 → LWd → Option LWd} (hk9 : ∀ (a0 : Nat) (i1 : Int32) (i2 : Int32) (i3 : Int32) (ws : LWd), k9 a0 i1 i2 i3 ws = some ws' → JG (.inl false) cX11_hull 9 RX11 wsX11_hull none "hull" 1 0 0 n0 (.inl none, ws') 9 [some (.ref a0), some (.int i1), some (.int i2), some (.int i3), none, none, none, none, none] [] ws 0 0) (a0 : Nat) (i1 : Int32) (i3 : Int32) (s0 : Int32) (ws : LWd) (h : m_X11_hull_b77 k9 a0 i1 i3 s0 ws = some ws') : JG (.inl false) cX11_hull 9 RX11 wsX11_hull none "hull" 1 0 0 n0 (.inl none, ws') 77 [some (.ref a0), some (.int i1), none, some (.int i3), none, none, none, none, none] [.int s0] ws 0 0 := by
  unfold m_X11_hull_b77 at h
  refine j_istore_n_2 (pc := 77) dX11_hull_77 (by decide) rfl ?_
  refine j_iinc_3 (pc := 78) dX11_hull_78 (y := i3 + (-1)) rfl (by decide) rfl ?_
  refine j_goto (pc := 81) (tgt := 9) dX11_hull_81 (by decide) ?_
  exact hk9 _ _ _ _ ws h
def m_X11_hull_b76 (k9 : Nat → Int32 → Int32 → Int32 → LWd → Option LWd) (a0 : Nat) (i1 : Int32) (i2 : Int32) (i3 : Int32) (ws : LWd) : Option LWd :=
  m_X11_hull_b77 k9 a0 i1 i3 i2 ws
set_option maxRecDepth 100000 in
set_option maxHeartbeats 4000000 in
theorem jm_X11_hull_b76 {n0 : Nat} {ws' : LWd} {k9 : Nat → Int32 → Int32 → Int32 → LWd → Option LWd} (hk9 : ∀ (a0 : Nat) (i1 : Int32) (i2 : Int32) (i3 : Int32) (ws : LWd), k9 a0 i1 i2 i3 ws = some ws' → JG (.inl false) cX11_hull 9 RX11 wsX11_hull none "hull" 1 0 0 n0 (.inl none, ws') 9 [some (.ref a0), some (.int i1), some (.int i2), some (.int i3), none, none, none, none, none] [] ws 0 0) (a0 : Nat) (i1 : Int32) (i2 : Int32) (i3 : Int32) (ws : LWd) (h : m_X11_hull_b76 k9 a0 i1 i2 i3 ws = some ws') : JG (.inl false) cX11_hull 9 RX11 wsX11_hull none "hull" 1 0 0 n0 (.inl none, ws') 76 [some (.ref a0), some (.int i1), some (.int i2), some (.int i3), none, none, none, none, none] [] ws 0 0 := by
  unfold m_X11_hull_b76 at h
  refine j_iload_n (pc := 76) dX11_hull_76 rfl ?_
  refine j_mask [true, true, false, true, false, false, false, false, false] ?_
  exact jm_X11_hull_b77 (hk9 := hk9) _ _ _ _ ws h
def m_X11_hull_b72 (k9 : Nat → Int32 → Int32 → Int32 → LWd → Option LWd) (a0 : Nat) (i1 : Int32) (i3 : Int32) (ws : LWd) : Option LWd :=
  m_X11_hull_b77 k9 a0 i1 i3 i3 ws
set_option maxRecDepth 100000 in
set_option maxHeartbeats 4000000 in
theorem jm_X11_hull_b72 {n0 : Nat} {ws' : LWd} {k9 : Nat → Int32 → Int32 → Int32 → LWd → Option LWd} (hk9 : ∀ (a0 : Nat) (i1 : Int32) (i2 : Int32) (i3 : Int32) (ws : LWd), k9 a0 i1 i2 i3 ws = some ws' → JG (.inl false) cX11_hull 9 RX11 wsX11_hull none "hull" 1 0 0 n0 (.inl none, ws') 9 [some (.ref a0), some (.int i1), some (.int i2), some (.int i3), none, none, none, none, none] [] ws 0 0) (a0 : Nat) (i1 : Int32) (i3 : Int32) (ws : LWd) (h : m_X11_hull_b72 k9 a0 i1 i3 ws = some ws') : JG (.inl false) cX11_hull 9 RX11 wsX11_hull none "hull" 1 0 0 n0 (.inl none, ws') 72 [some (.ref a0), some (.int i1), none, some (.int i3), none, none, none, none, none] [] ws 0 0 := by
  unfold m_X11_hull_b72 at h
  refine j_iload_n (pc := 72) dX11_hull_72 rfl ?_
  refine j_goto (pc := 73) (tgt := 77) dX11_hull_73 (by decide) ?_
  exact jm_X11_hull_b77 (hk9 := hk9) _ _ _ _ ws h
def m_X11_hull_b27 (k9 : Nat → Int32 → Int32 → Int32 → LWd → Option LWd) (a0 : Nat) (i1 : Int32) (i2 : Int32) (i3 : Int32) (s0 : Int32) (ws : LWd) : Option LWd :=
  if s0 = 0 then
    m_X11_hull_b76 k9 a0 i1 i2 i3 ws
  else
    if i2 = ((-1)) then
      m_X11_hull_b72 k9 a0 i1 i3 ws
    else
      (fR ws a0 11 15).bind fun x3 =>
      (aI ws x3 i3).bind fun x5 =>
      (fR ws a0 11 16).bind fun x7 =>
      (aI ws x7 i3).bind fun x9 =>
      bn2 (calSR ws (m_X11_at x5 x9 ws)) fun x13 w11 =>
      (fR w11 a0 11 15).bind fun x14 =>
      (aI w11 x14 i2).bind fun x16 =>
      (fR w11 a0 11 16).bind fun x18 =>
      (aI w11 x18 i2).bind fun x20 =>
      bn2 (calSR w11 (m_X11_at x16 x20 w11)) fun x24 w22 =>
      if x24 ≤ x13 then
        m_X11_hull_b76 k9 a0 i1 i2 i3 w22
      else
        m_X11_hull_b72 k9 a0 i1 i3 w22
set_option maxRecDepth 100000 in
set_option maxHeartbeats 4000000 in
theorem jm_X11_hull_b27 {n0 : Nat} {ws' : LWd} {k9 : Nat → Int32 → Int32 → Int32 → LWd → Option LWd} (hk9 : ∀ (a0 : Nat) (i1 : Int32) (i2 : Int32) (i3 : Int32) (ws : LWd), k9 a0 i1 i2 i3 ws = some ws' → JG (.inl false) cX11_hull 9 RX11 wsX11_hull none "hull" 1 0 0 n0 (.inl none, ws') 9 [some (.ref a0), some (.int i1), some (.int i2), some (.int i3), none, none, none, none, none] [] ws 0 0) (a0 : Nat) (i1 : Int32) (i2 : Int32) (i3 : Int32) (s0 : Int32) (ws : LWd) (h : m_X11_hull_b27 k9 a0 i1 i2 i3 s0 ws = some ws') : JG (.inl false) cX11_hull 9 RX11 wsX11_hull none "hull" 1 0 0 n0 (.inl none, ws') 27 [some (.ref a0), some (.int i1), some (.int i2), some (.int i3), none, none, none, none, none] [.int s0] ws 0 0 := by
  unfold m_X11_hull_b27 at h
  refine j_istore_4 (pc := 27) dX11_hull_27 (by decide) rfl ?_
  refine j_iload (pc := 29) dX11_hull_29 rfl ?_
  refine j_if_eq (pc := 31) (tgt := 76) dX11_hull_31 (by decide) (fun c1 => ?_) (fun c1 => ?_)
  · rw [if_pos c1] at h
    refine j_mask [true, true, true, true, false, false, false, false, false] ?_
    exact jm_X11_hull_b76 (hk9 := hk9) _ _ _ _ ws h
  · rw [if_neg c1] at h
    refine j_iload_n (pc := 34) dX11_hull_34 rfl ?_
    refine j_iconst (pc := 35) dX11_hull_35 (v := (-1)) (by decide) ?_
    refine j_icmp_eq (pc := 36) (tgt := 72) dX11_hull_36 (by decide) (fun c2 => ?_) (fun c2 => ?_)
    · rw [if_pos c2] at h
      refine j_mask [true, true, false, true, false, false, false, false, false] ?_
      exact jm_X11_hull_b72 (hk9 := hk9) _ _ _ ws h
    · rw [if_neg c2] at h
      refine j_aload_n (pc := 39) dX11_hull_39 rfl ?_
      obtain ⟨x3, e4, h⟩ := obS h
      refine j_getR (pc := 40) dX11_hull_40 (ci := 11) (kf := 15) rfl (jwi hw_X11) (by decide) (jwm lw_535) e4 ?_
      refine j_iload_n (pc := 43) dX11_hull_43 rfl ?_
      obtain ⟨x5, e6, h⟩ := obS h
      refine j_iald (pc := 44) dX11_hull_44 e6 ?_
      refine j_aload_n (pc := 45) dX11_hull_45 rfl ?_
      obtain ⟨x7, e8, h⟩ := obS h
      refine j_getR (pc := 46) dX11_hull_46 (ci := 11) (kf := 16) rfl (jwi hw_X11) (by decide) (jwm lw_536) e8 ?_
      refine j_iload_n (pc := 49) dX11_hull_49 rfl ?_
      obtain ⟨x9, e10, h⟩ := obS h
      refine j_iald (pc := 50) dX11_hull_50 e10 ?_
      obtain ⟨x13, w11, e12, h⟩ := obS2 h
      have ge12 := calSR_of e12
      refine j_callS_g (pc := 51) (As := [.int x5, .int x9]) (k' := 0) (n' := 0) dX11_hull_51 (s_X11_at ge12.1) (jgS lw_556 lw_557 lw_544 lw_555) rfl hy_X11_at rfl (by decide) (by decide) (Nat.le_of_ble_eq_true rfl) (by decide) (by decide) (by decide) (by decide) (Or.inl ge12.2) ?_
      refine j_aload_n (pc := 54) dX11_hull_54 rfl ?_
      obtain ⟨x14, e15, h⟩ := obS h
      refine j_getR (pc := 55) dX11_hull_55 (ci := 11) (kf := 15) rfl (jwi hw_X11) (by decide) (jwm lw_535) e15 ?_
      refine j_iload_n (pc := 58) dX11_hull_58 rfl ?_
      obtain ⟨x16, e17, h⟩ := obS h
      refine j_iald (pc := 59) dX11_hull_59 e17 ?_
      refine j_aload_n (pc := 60) dX11_hull_60 rfl ?_
      obtain ⟨x18, e19, h⟩ := obS h
      refine j_getR (pc := 61) dX11_hull_61 (ci := 11) (kf := 16) rfl (jwi hw_X11) (by decide) (jwm lw_536) e19 ?_
      refine j_iload_n (pc := 64) dX11_hull_64 rfl ?_
      obtain ⟨x20, e21, h⟩ := obS h
      refine j_iald (pc := 65) dX11_hull_65 e21 ?_
      obtain ⟨x24, w22, e23, h⟩ := obS2 h
      have ge23 := calSR_of e23
      refine j_callS_g (pc := 66) (As := [.int x16, .int x20]) (k' := 0) (n' := 0) dX11_hull_66 (s_X11_at ge23.1) (jgS lw_556 lw_557 lw_544 lw_555) rfl hy_X11_at rfl (by decide) (by decide) (Nat.le_of_ble_eq_true rfl) (by decide) (by decide) (by decide) (by decide) (Or.inl ge23.2) ?_
      refine j_icmp_ge (pc := 69) (tgt := 76) dX11_hull_69 (by decide) (fun c25 => ?_) (fun c25 => ?_)
      · rw [if_pos c25] at h
        refine j_mask [true, true, true, true, false, false, false, false, false] ?_
        exact jm_X11_hull_b76 (hk9 := hk9) _ _ _ _ w22 h
      · rw [if_neg c25] at h
        refine j_mask [true, true, false, true, false, false, false, false, false] ?_
        exact jm_X11_hull_b72 (hk9 := hk9) _ _ _ w22 h
def m_X11_hull_l9 : Nat → Nat → Int32 → Int32 → Int32 → LWd → Option LWd
  | 0, _, _, _, _, _ => none
  | fu + 1, a0, i1, i2, i3, ws =>
    if i3 < 0 then
      m_X11_hull_l86 FU a0 i1 i2 i2 ws
    else
      if ((i1 >>> (i3 &&& 31)) &&& 1) = 1 then
        m_X11_hull_b27 (fun z0 z1 z2 z3 w => m_X11_hull_l9 fu z0 z1 z2 z3 w) a0 i1 i2 i3 1 ws
      else
        m_X11_hull_b27 (fun z0 z1 z2 z3 w => m_X11_hull_l9 fu z0 z1 z2 z3 w) a0 i1 i2 i3 0 ws
set_option maxRecDepth 100000 in
set_option maxHeartbeats 4000000 in
theorem jm_X11_hull_l9 {n0 : Nat} {ws' : LWd} : ∀ (fu : Nat) (a0 : Nat) (i1 : Int32) (i2 : Int32) (i3 : Int32) (ws : LWd), m_X11_hull_l9 fu a0 i1 i2 i3 ws = some ws' → JG (.inl false) cX11_hull 9 RX11 wsX11_hull none "hull" 1 0 0 n0 (.inl none, ws') 9 [some (.ref a0), some (.int i1), some (.int i2), some (.int i3), none, none, none, none, none] [] ws 0 0 := by
  intro fu
  induction fu with
  | zero => intro a0 i1 i2 i3 ws h; cases h
  | succ fu ih =>
    intro a0 i1 i2 i3 ws h
    rw [m_X11_hull_l9] at h
    refine j_iload_n (pc := 9) dX11_hull_9 rfl ?_
    refine j_if_lt (pc := 10) (tgt := 84) dX11_hull_10 (by decide) (fun c1 => ?_) (fun c1 => ?_)
    · rw [if_pos c1] at h
      refine j_iload_n (pc := 84) dX11_hull_84 rfl ?_
      refine j_istore_n_3 (pc := 85) dX11_hull_85 (by decide) rfl ?_
      exact jm_X11_hull_l86 FU _ _ _ _ ws h
    · rw [if_neg c1] at h
      refine j_iload_n (pc := 13) dX11_hull_13 rfl ?_
      refine j_iload_n (pc := 14) dX11_hull_14 rfl ?_
      refine j_ishr (pc := 15) dX11_hull_15 ?_
      refine j_iconst (pc := 16) dX11_hull_16 (v := 1) (by decide) ?_
      refine j_iand (pc := 17) dX11_hull_17 ?_
      refine j_iconst (pc := 18) dX11_hull_18 (v := 1) (by decide) ?_
      refine j_icmp_ne (pc := 19) (tgt := 26) dX11_hull_19 (by decide) (fun c2 => ?_) (fun c2 => ?_)
      · rw [if_neg c2] at h
        refine j_iconst (pc := 26) dX11_hull_26 (v := 0) (by decide) ?_
        exact jm_X11_hull_b27 (hk9 := ih) _ _ _ _ _ ws h
      · rw [if_pos c2] at h
        refine j_iconst (pc := 22) dX11_hull_22 (v := 1) (by decide) ?_
        refine j_goto (pc := 23) (tgt := 27) dX11_hull_23 (by decide) ?_
        exact jm_X11_hull_b27 (hk9 := ih) _ _ _ _ _ ws h
def m_X11_hull (a0 : Nat) (i1 : Int32) (ws : LWd) : Option LWd :=
  (rcv ws a0 11).bind fun _ =>
  (pV ws a0 11 28 (.int 0)).bind fun w1 =>
  m_X11_hull_l9 FU a0 i1 ((-1)) 5 w1
set_option maxRecDepth 100000 in
set_option maxHeartbeats 4000000 in
theorem s_X11_hull {a0 : Nat} {i1 : Int32} {ws : LWd} {ws' : LWd} (h : m_X11_hull a0 i1 ws = some ws') : jSp yX11_hull wsX11_hull 1 0 0 [.ref a0, .int i1] ws (.inl none, ws') := by
  unfold m_X11_hull at h
  refine j_entry (ret := none) (nm := "hull") (own := RX11) pl_X11 rfl rfl rfl (jcats (by rfl)) (Nat.le_of_ble_eq_true rfl) ?_
  show JG (.inl false) cX11_hull 9 RX11 wsX11_hull none "hull" 1 0 0 ws.length (.inl none, ws') 0 [some (.ref a0), some (.int i1), none, none, none, none, none, none, none] [] ws 0 0
  obtain ⟨_, _, h⟩ := obS h
  refine j_aload_n (pc := 0) dX11_hull_0 rfl ?_
  refine j_iconst (pc := 1) dX11_hull_1 (v := 0) (by decide) ?_
  obtain ⟨w1, e2, h⟩ := obS h
  refine j_putV (pc := 2) (ci := 11) (kf := 28) tyX11 tyX11_ok nmX11 dX11_hull_2 rfl (jwi hw_X11) (by decide) (jwm lw_587) rfl (fun _ => rfl) (fun _ => rfl) e2 ?_
  refine j_iconst (pc := 5) dX11_hull_5 (v := (-1)) (by decide) ?_
  refine j_istore_n_2 (pc := 6) dX11_hull_6 (by decide) rfl ?_
  refine j_iconst (pc := 7) dX11_hull_7 (v := 5) (by decide) ?_
  refine j_istore_n_3 (pc := 8) dX11_hull_8 (by decide) rfl ?_
  exact jm_X11_hull_l9 FU _ _ _ _ w1 h
theorem r_X11_hull {a0 : Nat} {i1 : Int32} {ws : LWd} {o : LWd} (h : m_X11_hull a0 i1 ws = some o) : ∃ fs, ws[a0]? = some (.inr (11, fs)) := rcv_in h
def wsX11_makes : List Cond := Cond.code yX11_makes cX11_makes 6 (some .int) :: jW
def m_X11_makes (a0 : Nat) (i1 : Int32) (ws : LWd) : Option (Int32 × LWd) :=
  (rcv ws a0 11).bind fun _ =>
  (fR ws a0 11 29).bind fun x1 =>
  (aI ws x1 i1).bind fun x3 =>
  (fR ws a0 11 29).bind fun x5 =>
  (fI ws a0 11 28).bind fun x7 =>
  if x7 = 0 then none else
  (aI ws x5 (jrem (i1 + 1) x7)).bind fun x10 =>
  bn2 (calSR ws (m_X11_momentX a0 ws)) fun x14 w12 =>
  bn2 (calSR w12 (m_X11_weight a0 w12)) fun x17 w15 =>
  (fR w15 a0 11 15).bind fun x18 =>
  (aI w15 x18 x3).bind fun x20 =>
  bn2 (calSR w15 (m_X11_momentY a0 w15)) fun x24 w22 =>
  bn2 (calSR w22 (m_X11_weight a0 w22)) fun x27 w25 =>
  (fR w25 a0 11 16).bind fun x28 =>
  (aI w25 x28 x3).bind fun x30 =>
  (fR w25 a0 11 15).bind fun x32 =>
  (aI w25 x32 x10).bind fun x34 =>
  (fR w25 a0 11 15).bind fun x36 =>
  (aI w25 x36 x3).bind fun x38 =>
  (fR w25 a0 11 16).bind fun x40 =>
  (aI w25 x40 x10).bind fun x42 =>
  (fR w25 a0 11 16).bind fun x44 =>
  (aI w25 x44 x3).bind fun x46 =>
  some (((x34 - x38) * (x24 - (x27 * x30))) - ((x42 - x46) * (x14 - (x17 * x20))), w25)
set_option maxRecDepth 100000 in
set_option maxHeartbeats 4000000 in
theorem s_X11_makes {a0 : Nat} {i1 : Int32} {ws : LWd} {rr : Int32} {ws' : LWd} (h : m_X11_makes a0 i1 ws = some (rr, ws')) : jSp yX11_makes wsX11_makes 2 0 0 [.ref a0, .int i1] ws (.inl (some (.int rr)), ws') := by
  unfold m_X11_makes at h
  refine j_entry (ret := (some .int)) (nm := "makes") (own := RX11) pl_X11 rfl rfl rfl (jcats (by rfl)) (Nat.le_of_ble_eq_true rfl) ?_
  show JG (.inl false) cX11_makes 6 RX11 wsX11_makes (some .int) "makes" 2 0 0 ws.length (.inl (some (.int rr)), ws') 0 [some (.ref a0), some (.int i1), none, none, none, none] [] ws 0 0
  obtain ⟨_, _, h⟩ := obS h
  refine j_aload_n (pc := 0) dX11_makes_0 rfl ?_
  obtain ⟨x1, e2, h⟩ := obS h
  refine j_getR (pc := 1) dX11_makes_1 (ci := 11) (kf := 29) rfl (jwi hw_X11) (by decide) (jwm lw_539) e2 ?_
  refine j_iload_n (pc := 4) dX11_makes_4 rfl ?_
  obtain ⟨x3, e4, h⟩ := obS h
  refine j_iald (pc := 5) dX11_makes_5 e4 ?_
  refine j_istore_n_2 (pc := 6) dX11_makes_6 (by decide) rfl ?_
  refine j_aload_n (pc := 7) dX11_makes_7 rfl ?_
  obtain ⟨x5, e6, h⟩ := obS h
  refine j_getR (pc := 8) dX11_makes_8 (ci := 11) (kf := 29) rfl (jwi hw_X11) (by decide) (jwm lw_539) e6 ?_
  refine j_iload_n (pc := 11) dX11_makes_11 rfl ?_
  refine j_iconst (pc := 12) dX11_makes_12 (v := 1) (by decide) ?_
  refine j_iadd (pc := 13) dX11_makes_13 ?_
  refine j_aload_n (pc := 14) dX11_makes_14 rfl ?_
  obtain ⟨x7, e8, h⟩ := obS h
  refine j_getI (pc := 15) dX11_makes_15 (ci := 11) (kf := 28) rfl (jwi hw_X11) (by decide) (jwm lw_587) e8 ?_
  have c9 := jneS h
  rw [if_neg c9] at h
  refine j_irem (pc := 18) dX11_makes_18 c9 ?_
  obtain ⟨x10, e11, h⟩ := obS h
  refine j_iald (pc := 19) dX11_makes_19 e11 ?_
  refine j_istore_n_3 (pc := 20) dX11_makes_20 (by decide) rfl ?_
  refine j_aload_n (pc := 21) dX11_makes_21 rfl ?_
  obtain ⟨x14, w12, e13, h⟩ := obS2 h
  have ge13 := calSR_of e13
  refine j_callV_g (pc := 22) (As := []) (k' := 0) (n' := 0) dX11_makes_22 (s_X11_momentX ge13.1) (jgV lw_589 lw_590 lw_591 lw_544 lw_588) rfl hv_X11_momentX rfl (r_X11_momentX ge13.1) rfl (by decide) (by decide) (Nat.le_of_ble_eq_true rfl) (by decide) (by decide) (by decide) (by decide) (Or.inl ge13.2) ?_
  refine j_aload_n (pc := 25) dX11_makes_25 rfl ?_
  obtain ⟨x17, w15, e16, h⟩ := obS2 h
  have ge16 := calSR_of e16
  refine j_callV_g (pc := 26) (As := []) (k' := 0) (n' := 0) dX11_makes_26 (s_X11_weight ge16.1) (jgV lw_574 lw_575 lw_576 lw_544 lw_573) rfl hv_X11_weight rfl (r_X11_weight ge16.1) rfl (by decide) (by decide) (Nat.le_of_ble_eq_true rfl) (by decide) (by decide) (by decide) (by decide) (Or.inl ge16.2) ?_
  refine j_aload_n (pc := 29) dX11_makes_29 rfl ?_
  obtain ⟨x18, e19, h⟩ := obS h
  refine j_getR (pc := 30) dX11_makes_30 (ci := 11) (kf := 15) rfl (jwi hw_X11) (by decide) (jwm lw_535) e19 ?_
  refine j_iload_n (pc := 33) dX11_makes_33 rfl ?_
  obtain ⟨x20, e21, h⟩ := obS h
  refine j_iald (pc := 34) dX11_makes_34 e21 ?_
  refine j_imul (pc := 35) dX11_makes_35 ?_
  refine j_isub (pc := 36) dX11_makes_36 ?_
  refine j_istore_4 (pc := 37) dX11_makes_37 (by decide) rfl ?_
  refine j_aload_n (pc := 39) dX11_makes_39 rfl ?_
  obtain ⟨x24, w22, e23, h⟩ := obS2 h
  have ge23 := calSR_of e23
  refine j_callV_g (pc := 40) (As := []) (k' := 0) (n' := 0) dX11_makes_40 (s_X11_momentY ge23.1) (jgV lw_593 lw_594 lw_595 lw_544 lw_592) rfl hv_X11_momentY rfl (r_X11_momentY ge23.1) rfl (by decide) (by decide) (Nat.le_of_ble_eq_true rfl) (by decide) (by decide) (by decide) (by decide) (Or.inl ge23.2) ?_
  refine j_aload_n (pc := 43) dX11_makes_43 rfl ?_
  obtain ⟨x27, w25, e26, h⟩ := obS2 h
  have ge26 := calSR_of e26
  refine j_callV_g (pc := 44) (As := []) (k' := 0) (n' := 0) dX11_makes_44 (s_X11_weight ge26.1) (jgV lw_574 lw_575 lw_576 lw_544 lw_573) rfl hv_X11_weight rfl (r_X11_weight ge26.1) rfl (by decide) (by decide) (Nat.le_of_ble_eq_true rfl) (by decide) (by decide) (by decide) (by decide) (Or.inl ge26.2) ?_
  refine j_aload_n (pc := 47) dX11_makes_47 rfl ?_
  obtain ⟨x28, e29, h⟩ := obS h
  refine j_getR (pc := 48) dX11_makes_48 (ci := 11) (kf := 16) rfl (jwi hw_X11) (by decide) (jwm lw_536) e29 ?_
  refine j_iload_n (pc := 51) dX11_makes_51 rfl ?_
  obtain ⟨x30, e31, h⟩ := obS h
  refine j_iald (pc := 52) dX11_makes_52 e31 ?_
  refine j_imul (pc := 53) dX11_makes_53 ?_
  refine j_isub (pc := 54) dX11_makes_54 ?_
  refine j_istore_5 (pc := 55) dX11_makes_55 (by decide) rfl ?_
  refine j_aload_n (pc := 57) dX11_makes_57 rfl ?_
  obtain ⟨x32, e33, h⟩ := obS h
  refine j_getR (pc := 58) dX11_makes_58 (ci := 11) (kf := 15) rfl (jwi hw_X11) (by decide) (jwm lw_535) e33 ?_
  refine j_iload_n (pc := 61) dX11_makes_61 rfl ?_
  obtain ⟨x34, e35, h⟩ := obS h
  refine j_iald (pc := 62) dX11_makes_62 e35 ?_
  refine j_aload_n (pc := 63) dX11_makes_63 rfl ?_
  obtain ⟨x36, e37, h⟩ := obS h
  refine j_getR (pc := 64) dX11_makes_64 (ci := 11) (kf := 15) rfl (jwi hw_X11) (by decide) (jwm lw_535) e37 ?_
  refine j_iload_n (pc := 67) dX11_makes_67 rfl ?_
  obtain ⟨x38, e39, h⟩ := obS h
  refine j_iald (pc := 68) dX11_makes_68 e39 ?_
  refine j_isub (pc := 69) dX11_makes_69 ?_
  refine j_iload (pc := 70) dX11_makes_70 rfl ?_
  refine j_imul (pc := 72) dX11_makes_72 ?_
  refine j_aload_n (pc := 73) dX11_makes_73 rfl ?_
  obtain ⟨x40, e41, h⟩ := obS h
  refine j_getR (pc := 74) dX11_makes_74 (ci := 11) (kf := 16) rfl (jwi hw_X11) (by decide) (jwm lw_536) e41 ?_
  refine j_iload_n (pc := 77) dX11_makes_77 rfl ?_
  obtain ⟨x42, e43, h⟩ := obS h
  refine j_iald (pc := 78) dX11_makes_78 e43 ?_
  refine j_aload_n (pc := 79) dX11_makes_79 rfl ?_
  obtain ⟨x44, e45, h⟩ := obS h
  refine j_getR (pc := 80) dX11_makes_80 (ci := 11) (kf := 16) rfl (jwi hw_X11) (by decide) (jwm lw_536) e45 ?_
  refine j_iload_n (pc := 83) dX11_makes_83 rfl ?_
  obtain ⟨x46, e47, h⟩ := obS h
  refine j_iald (pc := 84) dX11_makes_84 e47 ?_
  refine j_isub (pc := 85) dX11_makes_85 ?_
  refine j_iload (pc := 86) dX11_makes_86 rfl ?_
  refine j_imul (pc := 88) dX11_makes_88 ?_
  refine j_isub (pc := 89) dX11_makes_89 ?_
  obtain ⟨rfl, rfl⟩ := jretS h
  exact j_iret (pc := 90) rfl dX11_makes_90 (by decide) (by decide) rfl
theorem r_X11_makes {a0 : Nat} {i1 : Int32} {ws : LWd} {o : (Int32 × LWd)} (h : m_X11_makes a0 i1 ws = some o) : ∃ fs, ws[a0]? = some (.inr (11, fs)) := rcv_in h
def wsX11_holds : List Cond := Cond.code yX11_holds cX11_holds 8 (some .boolean) :: jW
def m_X11_holds_b113 (k85 : Nat → Int32 → Int32 → Int32 → Int32 → Int32 → LWd → Option (Int32 × LWd)) (a0 : Nat) (i2 : Int32) (i3 : Int32) (i4 : Int32) (i6 : Int32) (s0 : Int32) (ws : LWd) : Option (Int32 × LWd) :=
  k85 a0 i2 i3 i4 s0 (i6 + 1) ws
set_option maxRecDepth 100000 in
set_option maxHeartbeats 4000000 in
theorem jm_X11_holds_b113 {n0 : Nat} {rr : Int32} {ws' : LWd} {k85 : Nat → Int32 → Int32 → Int32 → Int32 → Int32 → LWd → Option (Int32 × LWd)} (hk85 : ∀ (a0 : Nat) (i2 : Int32) (i3 : Int32) (i4 : Int32) (i5 : Int32) (i6 : Int32) (ws : LWd), k85 a0 i2 i3 i4 i5 i6 ws = some (rr, ws') → JG (.inl false) cX11_holds 8 RX11 wsX11_holds (some .boolean) "holds" 3 0 0 n0 (.inl (some (.int rr)), ws') 85 [some (.ref a0), none, some (.int i2), some (.int i3), some (.int i4), some (.int i5), some (.int i6), none] [] ws 0 0) (a0 : Nat) (i2 : Int32) (i3 : Int32) (i4 : Int32) (i6 : Int32) (s0 : Int32) (ws : LWd) (h : m_X11_holds_b113 k85 a0 i2 i3 i4 i6 s0 ws = some (rr, ws')) : JG (.inl false) cX11_holds 8 RX11 wsX11_holds (some .boolean) "holds" 3 0 0 n0 (.inl (some (.int rr)), ws') 113 [some (.ref a0), none, some (.int i2), some (.int i3), some (.int i4), none, some (.int i6), none] [.int s0] ws 0 0 := by
  unfold m_X11_holds_b113 at h
  refine j_istore_5 (pc := 113) dX11_holds_113 (by decide) rfl ?_
  refine j_iinc_6 (pc := 115) dX11_holds_115 (y := i6 + 1) rfl (by decide) rfl ?_
  refine j_goto (pc := 118) (tgt := 85) dX11_holds_118 (by decide) ?_
  exact hk85 _ _ _ _ _ _ ws h
def m_X11_holds_b112 (k85 : Nat → Int32 → Int32 → Int32 → Int32 → Int32 → LWd → Option (Int32 × LWd)) (a0 : Nat) (i2 : Int32) (i3 : Int32) (i4 : Int32) (i6 : Int32) (ws : LWd) : Option (Int32 × LWd) :=
  m_X11_holds_b113 k85 a0 i2 i3 i4 i6 0 ws
set_option maxRecDepth 100000 in
set_option maxHeartbeats 4000000 in
theorem jm_X11_holds_b112 {n0 : Nat} {rr : Int32} {ws' : LWd} {k85 : Nat → Int32 → Int32 → Int32 → Int32 → Int32 → LWd → Option (Int32 × LWd)} (hk85 : ∀ (a0 : Nat) (i2 : Int32) (i3 : Int32) (i4 : Int32) (i5 : Int32) (i6 : Int32) (ws : LWd), k85 a0 i2 i3 i4 i5 i6 ws = some (rr, ws') → JG (.inl false) cX11_holds 8 RX11 wsX11_holds (some .boolean) "holds" 3 0 0 n0 (.inl (some (.int rr)), ws') 85 [some (.ref a0), none, some (.int i2), some (.int i3), some (.int i4), some (.int i5), some (.int i6), none] [] ws 0 0) (a0 : Nat) (i2 : Int32) (i3 : Int32) (i4 : Int32) (i6 : Int32) (ws : LWd) (h : m_X11_holds_b112 k85 a0 i2 i3 i4 i6 ws = some (rr, ws')) : JG (.inl false) cX11_holds 8 RX11 wsX11_holds (some .boolean) "holds" 3 0 0 n0 (.inl (some (.int rr)), ws') 112 [some (.ref a0), none, some (.int i2), some (.int i3), some (.int i4), none, some (.int i6), none] [] ws 0 0 := by
  unfold m_X11_holds_b112 at h
  refine j_iconst (pc := 112) dX11_holds_112 (v := 0) (by decide) ?_
  exact jm_X11_holds_b113 (hk85 := hk85) _ _ _ _ _ _ ws h
def m_X11_holds_l85 : Nat → Nat → Int32 → Int32 → Int32 → Int32 → Int32 → LWd → Option (Int32 × LWd)
  | 0, _, _, _, _, _, _, _ => none
  | fu + 1, a0, i2, i3, i4, i5, i6, ws =>
    (fI ws a0 11 28).bind fun x1 =>
    if x1 ≤ i6 then
      (fI ws a0 11 28).bind fun x4 =>
      if x4 ≤ 2 then
        (fR ws a0 11 29).bind fun x7 =>
        (aI ws x7 1).bind fun x9 =>
        (fR ws a0 11 15).bind fun x11 =>
        (aI ws x11 x9).bind fun x13 =>
        (fR ws a0 11 15).bind fun x15 =>
        (aI ws x15 i2).bind fun x17 =>
        (fR ws a0 11 16).bind fun x19 =>
        (aI ws x19 x9).bind fun x21 =>
        (fR ws a0 11 16).bind fun x23 =>
        (aI ws x23 i2).bind fun x25 =>
        if i5 = 0 then
          some (0, ws)
        else
          if (((x13 - x17) * i3) + ((x21 - x25) * i4)) < 0 then
            some (0, ws)
          else
            bn2 (calSR ws (m_X11_square a0 i2 x9 ws)) fun x31 w29 =>
            bn2 (calSR w29 (m_X11_weight a0 w29)) fun x34 w32 =>
            if (x31 * x34) < (((x13 - x17) * i3) + ((x21 - x25) * i4)) then
              some (0, w32)
            else
              some (1, w32)
      else
        retZ i5 ws
    else
      if i5 = 0 then
        m_X11_holds_b112 (fun z0 z1 z2 z3 z4 z5 w => m_X11_holds_l85 fu z0 z1 z2 z3 z4 z5 w) a0 i2 i3 i4 i6 ws
      else
        bn2 (calSR ws (m_X11_makes a0 i6 ws)) fun x39 w37 =>
        if x39 < 0 then
          m_X11_holds_b112 (fun z0 z1 z2 z3 z4 z5 w => m_X11_holds_l85 fu z0 z1 z2 z3 z4 z5 w) a0 i2 i3 i4 i6 w37
        else
          m_X11_holds_b113 (fun z0 z1 z2 z3 z4 z5 w => m_X11_holds_l85 fu z0 z1 z2 z3 z4 z5 w) a0 i2 i3 i4 i6 1 w37
set_option maxRecDepth 100000 in
set_option maxHeartbeats 4000000 in
theorem jm_X11_holds_l85 {n0 : Nat} {rr : Int32} {ws' : LWd} : ∀ (fu : Nat) (a0 : Nat) (i2 : Int32) (i3 : Int32) (i4 : Int32) (i5 : Int32) (i6 : Int32) (ws : LWd), m_X11_holds_l85 fu a0 i2 i3 i4 i5 i6 ws = some (rr, ws') → JG (.inl false) cX11_holds 8 RX11 wsX11_holds (some .boolean) "holds" 3 0 0 n0 (.inl (some (.int rr)), ws') 85 [some (.ref a0), none, some (.int i2), some (.int i3), some (.int i4), some (.int i5), some (.int i6), none] [] ws 0 0 := by
  intro fu
  induction fu with
  | zero => intro a0 i2 i3 i4 i5 i6 ws h; cases h
  | succ fu ih =>
    intro a0 i2 i3 i4 i5 i6 ws h
    rw [m_X11_holds_l85] at h
    refine j_iload (pc := 85) dX11_holds_85 rfl ?_
    refine j_aload_n (pc := 87) dX11_holds_87 rfl ?_
    obtain ⟨x1, e2, h⟩ := obS h
    refine j_getI (pc := 88) dX11_holds_88 (ci := 11) (kf := 28) rfl (jwi hw_X11) (by decide) (jwm lw_587) e2 ?_
    refine j_icmp_ge (pc := 91) (tgt := 121) dX11_holds_91 (by decide) (fun c3 => ?_) (fun c3 => ?_)
    · rw [if_pos c3] at h
      refine j_aload_n (pc := 121) dX11_holds_121 rfl ?_
      obtain ⟨x4, e5, h⟩ := obS h
      refine j_getI (pc := 122) dX11_holds_122 (ci := 11) (kf := 28) rfl (jwi hw_X11) (by decide) (jwm lw_587) e5 ?_
      refine j_iconst (pc := 125) dX11_holds_125 (v := 2) (by decide) ?_
      refine j_icmp_le (pc := 126) (tgt := 132) dX11_holds_126 (by decide) (fun c6 => ?_) (fun c6 => ?_)
      · rw [if_pos c6] at h
        refine j_aload_n (pc := 132) dX11_holds_132 rfl ?_
        obtain ⟨x7, e8, h⟩ := obS h
        refine j_getR (pc := 133) dX11_holds_133 (ci := 11) (kf := 29) rfl (jwi hw_X11) (by decide) (jwm lw_539) e8 ?_
        refine j_iconst (pc := 136) dX11_holds_136 (v := 1) (by decide) ?_
        obtain ⟨x9, e10, h⟩ := obS h
        refine j_iald (pc := 137) dX11_holds_137 e10 ?_
        refine j_istore_6 (pc := 138) dX11_holds_138 (by decide) rfl ?_
        refine j_aload_n (pc := 140) dX11_holds_140 rfl ?_
        obtain ⟨x11, e12, h⟩ := obS h
        refine j_getR (pc := 141) dX11_holds_141 (ci := 11) (kf := 15) rfl (jwi hw_X11) (by decide) (jwm lw_535) e12 ?_
        refine j_iload (pc := 144) dX11_holds_144 rfl ?_
        obtain ⟨x13, e14, h⟩ := obS h
        refine j_iald (pc := 146) dX11_holds_146 e14 ?_
        refine j_aload_n (pc := 147) dX11_holds_147 rfl ?_
        obtain ⟨x15, e16, h⟩ := obS h
        refine j_getR (pc := 148) dX11_holds_148 (ci := 11) (kf := 15) rfl (jwi hw_X11) (by decide) (jwm lw_535) e16 ?_
        refine j_iload_n (pc := 151) dX11_holds_151 rfl ?_
        obtain ⟨x17, e18, h⟩ := obS h
        refine j_iald (pc := 152) dX11_holds_152 e18 ?_
        refine j_isub (pc := 153) dX11_holds_153 ?_
        refine j_iload_n (pc := 154) dX11_holds_154 rfl ?_
        refine j_imul (pc := 155) dX11_holds_155 ?_
        refine j_aload_n (pc := 156) dX11_holds_156 rfl ?_
        obtain ⟨x19, e20, h⟩ := obS h
        refine j_getR (pc := 157) dX11_holds_157 (ci := 11) (kf := 16) rfl (jwi hw_X11) (by decide) (jwm lw_536) e20 ?_
        refine j_iload (pc := 160) dX11_holds_160 rfl ?_
        obtain ⟨x21, e22, h⟩ := obS h
        refine j_iald (pc := 162) dX11_holds_162 e22 ?_
        refine j_aload_n (pc := 163) dX11_holds_163 rfl ?_
        obtain ⟨x23, e24, h⟩ := obS h
        refine j_getR (pc := 164) dX11_holds_164 (ci := 11) (kf := 16) rfl (jwi hw_X11) (by decide) (jwm lw_536) e24 ?_
        refine j_iload_n (pc := 167) dX11_holds_167 rfl ?_
        obtain ⟨x25, e26, h⟩ := obS h
        refine j_iald (pc := 168) dX11_holds_168 e26 ?_
        refine j_isub (pc := 169) dX11_holds_169 ?_
        refine j_iload (pc := 170) dX11_holds_170 rfl ?_
        refine j_imul (pc := 172) dX11_holds_172 ?_
        refine j_iadd (pc := 173) dX11_holds_173 ?_
        refine j_istore_7 (pc := 174) dX11_holds_174 (by decide) rfl ?_
        refine j_iload (pc := 176) dX11_holds_176 rfl ?_
        refine j_if_eq (pc := 178) (tgt := 207) dX11_holds_178 (by decide) (fun c27 => ?_) (fun c27 => ?_)
        · rw [if_pos c27] at h
          refine j_iconst (pc := 207) dX11_holds_207 (v := 0) (by decide) ?_
          obtain ⟨rfl, rfl⟩ := jretS h
          exact j_zretL (pc := 208) (by decide) rfl dX11_holds_208 (by decide) (by decide) rfl
        · rw [if_neg c27] at h
          refine j_iload (pc := 181) dX11_holds_181 rfl ?_
          refine j_if_lt (pc := 183) (tgt := 207) dX11_holds_183 (by decide) (fun c28 => ?_) (fun c28 => ?_)
          · rw [if_pos c28] at h
            refine j_iconst (pc := 207) dX11_holds_207 (v := 0) (by decide) ?_
            obtain ⟨rfl, rfl⟩ := jretS h
            exact j_zretL (pc := 208) (by decide) rfl dX11_holds_208 (by decide) (by decide) rfl
          · rw [if_neg c28] at h
            refine j_iload (pc := 186) dX11_holds_186 rfl ?_
            refine j_aload_n (pc := 188) dX11_holds_188 rfl ?_
            refine j_iload_n (pc := 189) dX11_holds_189 rfl ?_
            refine j_iload (pc := 190) dX11_holds_190 rfl ?_
            obtain ⟨x31, w29, e30, h⟩ := obS2 h
            have ge30 := calSR_of e30
            refine j_callV_g (pc := 192) (As := [.int i2, .int x9]) (k' := 0) (n' := 0) dX11_holds_192 (s_X11_square ge30.1) (jgV lw_580 lw_581 lw_582 lw_544 lw_579) rfl hv_X11_square rfl (r_X11_square ge30.1) rfl (by decide) (by decide) (Nat.le_of_ble_eq_true rfl) (by decide) (by decide) (by decide) (by decide) (Or.inl ge30.2) ?_
            refine j_aload_n (pc := 195) dX11_holds_195 rfl ?_
            obtain ⟨x34, w32, e33, h⟩ := obS2 h
            have ge33 := calSR_of e33
            refine j_callV_g (pc := 196) (As := []) (k' := 0) (n' := 0) dX11_holds_196 (s_X11_weight ge33.1) (jgV lw_574 lw_575 lw_576 lw_544 lw_573) rfl hv_X11_weight rfl (r_X11_weight ge33.1) rfl (by decide) (by decide) (Nat.le_of_ble_eq_true rfl) (by decide) (by decide) (by decide) (by decide) (Or.inl ge33.2) ?_
            refine j_imul (pc := 199) dX11_holds_199 ?_
            refine j_icmp_gt (pc := 200) (tgt := 207) dX11_holds_200 (by decide) (fun c35 => ?_) (fun c35 => ?_)
            · rw [if_pos c35] at h
              refine j_iconst (pc := 207) dX11_holds_207 (v := 0) (by decide) ?_
              obtain ⟨rfl, rfl⟩ := jretS h
              exact j_zretL (pc := 208) (by decide) rfl dX11_holds_208 (by decide) (by decide) rfl
            · rw [if_neg c35] at h
              refine j_iconst (pc := 203) dX11_holds_203 (v := 1) (by decide) ?_
              refine j_goto (pc := 204) (tgt := 208) dX11_holds_204 (by decide) ?_
              obtain ⟨rfl, rfl⟩ := jretS h
              exact j_zretL (pc := 208) (by decide) rfl dX11_holds_208 (by decide) (by decide) rfl
      · rw [if_neg c6] at h
        refine j_iload (pc := 129) dX11_holds_129 rfl ?_
        exact j_zret (pc := 131) rfl dX11_holds_131 (by decide) (by decide) h rfl rfl
    · rw [if_neg c3] at h
      refine j_iload (pc := 94) dX11_holds_94 rfl ?_
      refine j_if_eq (pc := 96) (tgt := 112) dX11_holds_96 (by decide) (fun c36 => ?_) (fun c36 => ?_)
      · rw [if_pos c36] at h
        refine j_mask [true, false, true, true, true, false, true, false] ?_
        exact jm_X11_holds_b112 (hk85 := ih) _ _ _ _ _ ws h
      · rw [if_neg c36] at h
        refine j_aload_n (pc := 99) dX11_holds_99 rfl ?_
        refine j_iload (pc := 100) dX11_holds_100 rfl ?_
        obtain ⟨x39, w37, e38, h⟩ := obS2 h
        have ge38 := calSR_of e38
        refine j_callV_g (pc := 102) (As := [.int i6]) (k' := 0) (n' := 0) dX11_holds_102 (s_X11_makes ge38.1) (jgV lw_597 lw_598 lw_599 lw_544 lw_596) rfl hv_X11_makes rfl (r_X11_makes ge38.1) rfl (by decide) (by decide) (Nat.le_of_ble_eq_true rfl) (by decide) (by decide) (by decide) (by decide) (Or.inl ge38.2) ?_
        refine j_if_lt (pc := 105) (tgt := 112) dX11_holds_105 (by decide) (fun c40 => ?_) (fun c40 => ?_)
        · rw [if_pos c40] at h
          refine j_mask [true, false, true, true, true, false, true, false] ?_
          exact jm_X11_holds_b112 (hk85 := ih) _ _ _ _ _ w37 h
        · rw [if_neg c40] at h
          refine j_iconst (pc := 108) dX11_holds_108 (v := 1) (by decide) ?_
          refine j_goto (pc := 109) (tgt := 113) dX11_holds_109 (by decide) ?_
          refine j_mask [true, false, true, true, true, false, true, false] ?_
          exact jm_X11_holds_b113 (hk85 := ih) _ _ _ _ _ _ w37 h
def m_X11_holds (a0 : Nat) (i1 : Int32) (ws : LWd) : Option (Int32 × LWd) :=
  (rcv ws a0 11).bind fun _ =>
  (calSV ws (m_X11_hull a0 i1 ws)).bind fun w1 =>
  (fI w1 a0 11 28).bind fun x3 =>
  if x3 = 0 then
    some (0, w1)
  else
    (fR w1 a0 11 29).bind fun x6 =>
    (aI w1 x6 0).bind fun x8 =>
    bn2 (calSR w1 (m_X11_momentX a0 w1)) fun x12 w10 =>
    bn2 (calSR w10 (m_X11_weight a0 w10)) fun x15 w13 =>
    (fR w13 a0 11 15).bind fun x16 =>
    (aI w13 x16 x8).bind fun x18 =>
    bn2 (calSR w13 (m_X11_momentY a0 w13)) fun x22 w20 =>
    bn2 (calSR w20 (m_X11_weight a0 w20)) fun x25 w23 =>
    (fR w23 a0 11 16).bind fun x26 =>
    (aI w23 x26 x8).bind fun x28 =>
    (fI w23 a0 11 28).bind fun x30 =>
    if x30 = 1 then
      if (x12 - (x15 * x18)) = 0 then
        if (x22 - (x25 * x28)) = 0 then
          some (1, w23)
        else
          some (0, w23)
      else
        some (0, w23)
    else
      m_X11_holds_l85 FU a0 x8 (x12 - (x15 * x18)) (x22 - (x25 * x28)) 1 0 w23
set_option maxRecDepth 100000 in
set_option maxHeartbeats 4000000 in
theorem s_X11_holds {a0 : Nat} {i1 : Int32} {ws : LWd} {rr : Int32} {ws' : LWd} (h : m_X11_holds a0 i1 ws = some (rr, ws')) : jSp yX11_holds wsX11_holds 3 0 0 [.ref a0, .int i1] ws (.inl (some (.int rr)), ws') := by
  unfold m_X11_holds at h
  refine j_entry (ret := (some .boolean)) (nm := "holds") (own := RX11) pl_X11 rfl rfl rfl (jcats (by rfl)) (Nat.le_of_ble_eq_true rfl) ?_
  show JG (.inl false) cX11_holds 8 RX11 wsX11_holds (some .boolean) "holds" 3 0 0 ws.length (.inl (some (.int rr)), ws') 0 [some (.ref a0), some (.int i1), none, none, none, none, none, none] [] ws 0 0
  obtain ⟨_, _, h⟩ := obS h
  refine j_aload_n (pc := 0) dX11_holds_0 rfl ?_
  refine j_iload_n (pc := 1) dX11_holds_1 rfl ?_
  obtain ⟨w1, e2, h⟩ := obS h
  have ge2 := calSV_of e2
  refine j_callV_g (pc := 2) (As := [.int i1]) (k' := 0) (n' := 0) dX11_holds_2 (s_X11_hull ge2.1) (jgV lw_601 lw_602 lw_603 lw_544 lw_600) rfl hv_X11_hull rfl (r_X11_hull ge2.1) rfl (by decide) (by decide) (Nat.le_of_ble_eq_true rfl) (by decide) (by decide) (by decide) (by decide) (Or.inl ge2.2) ?_
  refine j_aload_n (pc := 5) dX11_holds_5 rfl ?_
  obtain ⟨x3, e4, h⟩ := obS h
  refine j_getI (pc := 6) dX11_holds_6 (ci := 11) (kf := 28) rfl (jwi hw_X11) (by decide) (jwm lw_587) e4 ?_
  refine j_if_ne (pc := 9) (tgt := 14) dX11_holds_9 (by decide) (fun c5 => ?_) (fun c5 => ?_)
  · rw [if_neg c5] at h
    refine j_aload_n (pc := 14) dX11_holds_14 rfl ?_
    obtain ⟨x6, e7, h⟩ := obS h
    refine j_getR (pc := 15) dX11_holds_15 (ci := 11) (kf := 29) rfl (jwi hw_X11) (by decide) (jwm lw_539) e7 ?_
    refine j_iconst (pc := 18) dX11_holds_18 (v := 0) (by decide) ?_
    obtain ⟨x8, e9, h⟩ := obS h
    refine j_iald (pc := 19) dX11_holds_19 e9 ?_
    refine j_istore_n_2 (pc := 20) dX11_holds_20 (by decide) rfl ?_
    refine j_aload_n (pc := 21) dX11_holds_21 rfl ?_
    obtain ⟨x12, w10, e11, h⟩ := obS2 h
    have ge11 := calSR_of e11
    refine j_callV_g (pc := 22) (As := []) (k' := 0) (n' := 0) dX11_holds_22 (s_X11_momentX ge11.1) (jgV lw_589 lw_590 lw_591 lw_544 lw_588) rfl hv_X11_momentX rfl (r_X11_momentX ge11.1) rfl (by decide) (by decide) (Nat.le_of_ble_eq_true rfl) (by decide) (by decide) (by decide) (by decide) (Or.inl ge11.2) ?_
    refine j_aload_n (pc := 25) dX11_holds_25 rfl ?_
    obtain ⟨x15, w13, e14, h⟩ := obS2 h
    have ge14 := calSR_of e14
    refine j_callV_g (pc := 26) (As := []) (k' := 0) (n' := 0) dX11_holds_26 (s_X11_weight ge14.1) (jgV lw_574 lw_575 lw_576 lw_544 lw_573) rfl hv_X11_weight rfl (r_X11_weight ge14.1) rfl (by decide) (by decide) (Nat.le_of_ble_eq_true rfl) (by decide) (by decide) (by decide) (by decide) (Or.inl ge14.2) ?_
    refine j_aload_n (pc := 29) dX11_holds_29 rfl ?_
    obtain ⟨x16, e17, h⟩ := obS h
    refine j_getR (pc := 30) dX11_holds_30 (ci := 11) (kf := 15) rfl (jwi hw_X11) (by decide) (jwm lw_535) e17 ?_
    refine j_iload_n (pc := 33) dX11_holds_33 rfl ?_
    obtain ⟨x18, e19, h⟩ := obS h
    refine j_iald (pc := 34) dX11_holds_34 e19 ?_
    refine j_imul (pc := 35) dX11_holds_35 ?_
    refine j_isub (pc := 36) dX11_holds_36 ?_
    refine j_istore_n_3 (pc := 37) dX11_holds_37 (by decide) rfl ?_
    refine j_aload_n (pc := 38) dX11_holds_38 rfl ?_
    obtain ⟨x22, w20, e21, h⟩ := obS2 h
    have ge21 := calSR_of e21
    refine j_callV_g (pc := 39) (As := []) (k' := 0) (n' := 0) dX11_holds_39 (s_X11_momentY ge21.1) (jgV lw_593 lw_594 lw_595 lw_544 lw_592) rfl hv_X11_momentY rfl (r_X11_momentY ge21.1) rfl (by decide) (by decide) (Nat.le_of_ble_eq_true rfl) (by decide) (by decide) (by decide) (by decide) (Or.inl ge21.2) ?_
    refine j_aload_n (pc := 42) dX11_holds_42 rfl ?_
    obtain ⟨x25, w23, e24, h⟩ := obS2 h
    have ge24 := calSR_of e24
    refine j_callV_g (pc := 43) (As := []) (k' := 0) (n' := 0) dX11_holds_43 (s_X11_weight ge24.1) (jgV lw_574 lw_575 lw_576 lw_544 lw_573) rfl hv_X11_weight rfl (r_X11_weight ge24.1) rfl (by decide) (by decide) (Nat.le_of_ble_eq_true rfl) (by decide) (by decide) (by decide) (by decide) (Or.inl ge24.2) ?_
    refine j_aload_n (pc := 46) dX11_holds_46 rfl ?_
    obtain ⟨x26, e27, h⟩ := obS h
    refine j_getR (pc := 47) dX11_holds_47 (ci := 11) (kf := 16) rfl (jwi hw_X11) (by decide) (jwm lw_536) e27 ?_
    refine j_iload_n (pc := 50) dX11_holds_50 rfl ?_
    obtain ⟨x28, e29, h⟩ := obS h
    refine j_iald (pc := 51) dX11_holds_51 e29 ?_
    refine j_imul (pc := 52) dX11_holds_52 ?_
    refine j_isub (pc := 53) dX11_holds_53 ?_
    refine j_istore_4 (pc := 54) dX11_holds_54 (by decide) rfl ?_
    refine j_aload_n (pc := 56) dX11_holds_56 rfl ?_
    obtain ⟨x30, e31, h⟩ := obS h
    refine j_getI (pc := 57) dX11_holds_57 (ci := 11) (kf := 28) rfl (jwi hw_X11) (by decide) (jwm lw_587) e31 ?_
    refine j_iconst (pc := 60) dX11_holds_60 (v := 1) (by decide) ?_
    refine j_icmp_ne (pc := 61) (tgt := 79) dX11_holds_61 (by decide) (fun c32 => ?_) (fun c32 => ?_)
    · rw [if_neg c32] at h
      refine j_iconst (pc := 79) dX11_holds_79 (v := 1) (by decide) ?_
      refine j_istore_5 (pc := 80) dX11_holds_80 (by decide) rfl ?_
      refine j_iconst (pc := 82) dX11_holds_82 (v := 0) (by decide) ?_
      refine j_istore_6 (pc := 83) dX11_holds_83 (by decide) rfl ?_
      refine j_mask [true, false, true, true, true, true, true, false] ?_
      exact jm_X11_holds_l85 FU _ _ _ _ _ _ w23 h
    · rw [if_pos c32] at h
      refine j_iload_n (pc := 64) dX11_holds_64 rfl ?_
      refine j_if_ne (pc := 65) (tgt := 77) dX11_holds_65 (by decide) (fun c33 => ?_) (fun c33 => ?_)
      · rw [if_neg c33] at h
        refine j_iconst (pc := 77) dX11_holds_77 (v := 0) (by decide) ?_
        obtain ⟨rfl, rfl⟩ := jretS h
        exact j_zretL (pc := 78) (by decide) rfl dX11_holds_78 (by decide) (by decide) rfl
      · rw [if_pos c33] at h
        refine j_iload (pc := 68) dX11_holds_68 rfl ?_
        refine j_if_ne (pc := 70) (tgt := 77) dX11_holds_70 (by decide) (fun c34 => ?_) (fun c34 => ?_)
        · rw [if_neg c34] at h
          refine j_iconst (pc := 77) dX11_holds_77 (v := 0) (by decide) ?_
          obtain ⟨rfl, rfl⟩ := jretS h
          exact j_zretL (pc := 78) (by decide) rfl dX11_holds_78 (by decide) (by decide) rfl
        · rw [if_pos c34] at h
          refine j_iconst (pc := 73) dX11_holds_73 (v := 1) (by decide) ?_
          refine j_goto (pc := 74) (tgt := 78) dX11_holds_74 (by decide) ?_
          obtain ⟨rfl, rfl⟩ := jretS h
          exact j_zretL (pc := 78) (by decide) rfl dX11_holds_78 (by decide) (by decide) rfl
  · rw [if_pos c5] at h
    refine j_iconst (pc := 12) dX11_holds_12 (v := 0) (by decide) ?_
    obtain ⟨rfl, rfl⟩ := jretS h
    exact j_zretL (pc := 13) (by decide) rfl dX11_holds_13 (by decide) (by decide) rfl
theorem r_X11_holds {a0 : Nat} {i1 : Int32} {ws : LWd} {o : (Int32 × LWd)} (h : m_X11_holds a0 i1 ws = some o) : ∃ fs, ws[a0]? = some (.inr (11, fs)) := rcv_in h
