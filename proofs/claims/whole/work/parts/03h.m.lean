/-! methods: written by wip/whole/make.py -/
def wsX11_level : List Cond := Cond.code yX11_level cX11_level 5 (some .int) :: jW
def m_X11_level_b57 (k4 : Nat → Int32 → Int32 → Int32 → LWd → Option (Int32 × LWd)) (a0 : Nat) (i1 : Int32) (i3 : Int32) (s0 : Int32) (ws : LWd) : Option (Int32 × LWd) :=
  k4 a0 i1 s0 (i3 + 1) ws
set_option maxRecDepth 100000 in
set_option maxHeartbeats 4000000 in
theorem jm_X11_level_b57 {n0 : Nat} {rr : Int32} {ws' : LWd} {k4 : Nat → Int32 → Int32 → Int32 → LWd → Option (Int32 × LWd)} (hk4 : ∀ (a0 : Nat) (i1 : Int32) (i2 : Int32) (i3 : Int32) (ws : LWd), k4 a0 i1 i2 i3 ws = some (rr, ws') → JG (.inl false) cX11_level 5 RX11 wsX11_level (some .int) "level" 1 0 0 n0 (.inl (some (.int rr)), ws') 4 [some (.ref a0), some (.int i1), some (.int i2), some (.int i3), none] [] ws 0 0) (a0 : Nat) (i1 : Int32) (i3 : Int32) (s0 : Int32) (ws : LWd) (h : m_X11_level_b57 k4 a0 i1 i3 s0 ws = some (rr, ws')) : JG (.inl false) cX11_level 5 RX11 wsX11_level (some .int) "level" 1 0 0 n0 (.inl (some (.int rr)), ws') 57 [some (.ref a0), some (.int i1), none, some (.int i3), none] [.int s0] ws 0 0 := by
  unfold m_X11_level_b57 at h
  refine j_istore_n_2 (pc := 57) dX11_level_57 (by decide) rfl ?_
  refine j_iinc_3 (pc := 58) dX11_level_58 (y := i3 + 1) rfl (by decide) rfl ?_
  refine j_goto (pc := 61) (tgt := 4) dX11_level_61 (by decide) ?_
  exact hk4 _ _ _ _ ws h
def m_X11_level_b43 (k4 : Nat → Int32 → Int32 → Int32 → LWd → Option (Int32 × LWd)) (a0 : Nat) (i1 : Int32) (i2 : Int32) (i3 : Int32) (s0 : Int32) (ws : LWd) : Option (Int32 × LWd) :=
  if s0 ≤ i2 then
    m_X11_level_b57 k4 a0 i1 i3 i2 ws
  else
    m_X11_level_b57 k4 a0 i1 i3 s0 ws
set_option maxRecDepth 100000 in
set_option maxHeartbeats 4000000 in
theorem jm_X11_level_b43 {n0 : Nat} {rr : Int32} {ws' : LWd} {k4 : Nat → Int32 → Int32 → Int32 → LWd → Option (Int32 × LWd)} (hk4 : ∀ (a0 : Nat) (i1 : Int32) (i2 : Int32) (i3 : Int32) (ws : LWd), k4 a0 i1 i2 i3 ws = some (rr, ws') → JG (.inl false) cX11_level 5 RX11 wsX11_level (some .int) "level" 1 0 0 n0 (.inl (some (.int rr)), ws') 4 [some (.ref a0), some (.int i1), some (.int i2), some (.int i3), none] [] ws 0 0) (a0 : Nat) (i1 : Int32) (i2 : Int32) (i3 : Int32) (s0 : Int32) (ws : LWd) (h : m_X11_level_b43 k4 a0 i1 i2 i3 s0 ws = some (rr, ws')) : JG (.inl false) cX11_level 5 RX11 wsX11_level (some .int) "level" 1 0 0 n0 (.inl (some (.int rr)), ws') 43 [some (.ref a0), some (.int i1), some (.int i2), some (.int i3), none] [.int s0] ws 0 0 := by
  unfold m_X11_level_b43 at h
  refine j_istore_4 (pc := 43) dX11_level_43 (by decide) rfl ?_
  refine j_iload (pc := 45) dX11_level_45 rfl ?_
  refine j_iload_n (pc := 47) dX11_level_47 rfl ?_
  refine j_icmp_le (pc := 48) (tgt := 56) dX11_level_48 (by decide) (fun c1 => ?_) (fun c1 => ?_)
  · rw [if_pos c1] at h
    refine j_iload_n (pc := 56) dX11_level_56 rfl ?_
    refine j_mask [true, true, false, true, false] ?_
    exact jm_X11_level_b57 (hk4 := hk4) _ _ _ _ ws h
  · rw [if_neg c1] at h
    refine j_iload (pc := 51) dX11_level_51 rfl ?_
    refine j_goto (pc := 53) (tgt := 57) dX11_level_53 (by decide) ?_
    refine j_mask [true, true, false, true, false] ?_
    exact jm_X11_level_b57 (hk4 := hk4) _ _ _ _ ws h
def m_X11_level_l4 : Nat → Nat → Int32 → Int32 → Int32 → LWd → Option (Int32 × LWd)
  | 0, _, _, _, _, _ => none
  | fu + 1, a0, i1, i2, i3, ws =>
    if 6 ≤ i3 then
      some (i2, ws)
    else
      if ((i1 >>> (i3 &&& 31)) &&& 1) = 1 then
        (fR ws a0 11 3).bind fun x3 =>
        (fR ws a0 11 15).bind fun x5 =>
        (aI ws x5 i3).bind fun x7 =>
        (fR ws a0 11 16).bind fun x9 =>
        (aI ws x9 i3).bind fun x11 =>
        bn2 (calSR ws (m_X11_at x7 x11 ws)) fun x15 w13 =>
        (aI w13 x3 x15).bind fun x16 =>
        m_X11_level_b43 (fun z0 z1 z2 z3 w => m_X11_level_l4 fu z0 z1 z2 z3 w) a0 i1 i2 i3 x16 w13
      else
        m_X11_level_b43 (fun z0 z1 z2 z3 w => m_X11_level_l4 fu z0 z1 z2 z3 w) a0 i1 i2 i3 0 ws
set_option maxRecDepth 100000 in
set_option maxHeartbeats 4000000 in
theorem jm_X11_level_l4 {n0 : Nat} {rr : Int32} {ws' : LWd} : ∀ (fu : Nat) (a0 : Nat) (i1 : Int32) (i2 : Int32) (i3 : Int32) (ws : LWd), m_X11_level_l4 fu a0 i1 i2 i3 ws = some (rr, ws') → JG (.inl false) cX11_level 5 RX11 wsX11_level (some .int) "level" 1 0 0 n0 (.inl (some (.int rr)), ws') 4 [some (.ref a0), some (.int i1), some (.int i2), some (.int i3), none] [] ws 0 0 := by
  intro fu
  induction fu with
  | zero => intro a0 i1 i2 i3 ws h; cases h
  | succ fu ih =>
    intro a0 i1 i2 i3 ws h
    rw [m_X11_level_l4] at h
    refine j_iload_n (pc := 4) dX11_level_4 rfl ?_
    refine j_bipush (pc := 5) dX11_level_5 (v := 6) (by decide) ?_
    refine j_icmp_ge (pc := 7) (tgt := 64) dX11_level_7 (by decide) (fun c1 => ?_) (fun c1 => ?_)
    · rw [if_pos c1] at h
      refine j_iload_n (pc := 64) dX11_level_64 rfl ?_
      obtain ⟨rfl, rfl⟩ := jretS h
      exact j_iret (pc := 65) rfl dX11_level_65 (by decide) (by decide) rfl
    · rw [if_neg c1] at h
      refine j_iload_n (pc := 10) dX11_level_10 rfl ?_
      refine j_iload_n (pc := 11) dX11_level_11 rfl ?_
      refine j_ishr (pc := 12) dX11_level_12 ?_
      refine j_iconst (pc := 13) dX11_level_13 (v := 1) (by decide) ?_
      refine j_iand (pc := 14) dX11_level_14 ?_
      refine j_iconst (pc := 15) dX11_level_15 (v := 1) (by decide) ?_
      refine j_icmp_ne (pc := 16) (tgt := 42) dX11_level_16 (by decide) (fun c2 => ?_) (fun c2 => ?_)
      · rw [if_neg c2] at h
        refine j_iconst (pc := 42) dX11_level_42 (v := 0) (by decide) ?_
        exact jm_X11_level_b43 (hk4 := ih) _ _ _ _ _ ws h
      · rw [if_pos c2] at h
        refine j_aload_n (pc := 19) dX11_level_19 rfl ?_
        obtain ⟨x3, e4, h⟩ := obS h
        refine j_getR (pc := 20) dX11_level_20 (ci := 11) (kf := 3) rfl (jwi hw_X11) (by decide) (jwm lw_528) e4 ?_
        refine j_aload_n (pc := 23) dX11_level_23 rfl ?_
        obtain ⟨x5, e6, h⟩ := obS h
        refine j_getR (pc := 24) dX11_level_24 (ci := 11) (kf := 15) rfl (jwi hw_X11) (by decide) (jwm lw_535) e6 ?_
        refine j_iload_n (pc := 27) dX11_level_27 rfl ?_
        obtain ⟨x7, e8, h⟩ := obS h
        refine j_iald (pc := 28) dX11_level_28 e8 ?_
        refine j_aload_n (pc := 29) dX11_level_29 rfl ?_
        obtain ⟨x9, e10, h⟩ := obS h
        refine j_getR (pc := 30) dX11_level_30 (ci := 11) (kf := 16) rfl (jwi hw_X11) (by decide) (jwm lw_536) e10 ?_
        refine j_iload_n (pc := 33) dX11_level_33 rfl ?_
        obtain ⟨x11, e12, h⟩ := obS h
        refine j_iald (pc := 34) dX11_level_34 e12 ?_
        obtain ⟨x15, w13, e14, h⟩ := obS2 h
        have ge14 := calSR_of e14
        refine j_callS_g (pc := 35) (As := [.int x7, .int x11]) (k' := 0) (n' := 0) dX11_level_35 (s_X11_at ge14.1) (jgS lw_556 lw_557 lw_544 lw_555) rfl hy_X11_at rfl (by decide) (by decide) (Nat.le_of_ble_eq_true rfl) (by decide) (by decide) (by decide) (by decide) (Or.inl ge14.2) ?_
        obtain ⟨x16, e17, h⟩ := obS h
        refine j_iald (pc := 38) dX11_level_38 e17 ?_
        refine j_goto (pc := 39) (tgt := 43) dX11_level_39 (by decide) ?_
        exact jm_X11_level_b43 (hk4 := ih) _ _ _ _ _ w13 h
def m_X11_level (a0 : Nat) (i1 : Int32) (ws : LWd) : Option (Int32 × LWd) :=
  (rcv ws a0 11).bind fun _ =>
  m_X11_level_l4 FU a0 i1 0 0 ws
set_option maxRecDepth 100000 in
set_option maxHeartbeats 4000000 in
theorem s_X11_level {a0 : Nat} {i1 : Int32} {ws : LWd} {rr : Int32} {ws' : LWd} (h : m_X11_level a0 i1 ws = some (rr, ws')) : jSp yX11_level wsX11_level 1 0 0 [.ref a0, .int i1] ws (.inl (some (.int rr)), ws') := by
  unfold m_X11_level at h
  refine j_entry (ret := (some .int)) (nm := "level") (own := RX11) pl_X11 rfl rfl rfl (jcats (by rfl)) (Nat.le_of_ble_eq_true rfl) ?_
  show JG (.inl false) cX11_level 5 RX11 wsX11_level (some .int) "level" 1 0 0 ws.length (.inl (some (.int rr)), ws') 0 [some (.ref a0), some (.int i1), none, none, none] [] ws 0 0
  obtain ⟨_, _, h⟩ := obS h
  refine j_iconst (pc := 0) dX11_level_0 (v := 0) (by decide) ?_
  refine j_istore_n_2 (pc := 1) dX11_level_1 (by decide) rfl ?_
  refine j_iconst (pc := 2) dX11_level_2 (v := 0) (by decide) ?_
  refine j_istore_n_3 (pc := 3) dX11_level_3 (by decide) rfl ?_
  exact jm_X11_level_l4 FU _ _ _ _ ws h
theorem r_X11_level {a0 : Nat} {i1 : Int32} {ws : LWd} {o : (Int32 × LWd)} (h : m_X11_level a0 i1 ws = some o) : ∃ fs, ws[a0]? = some (.inr (11, fs)) := rcv_in h
def wsX11_pressure : List Cond := Cond.code yX11_pressure cX11_pressure 3 (some .int) :: jW
def m_X11_pressure (a0 : Nat) (i1 : Int32) (ws : LWd) : Option (Int32 × LWd) :=
  (rcv ws a0 11).bind fun _ =>
  bn2 (calSR ws (m_X11_count i1 ws)) fun x3 w1 =>
  if x3 = 0 then
    some (0, w1)
  else
    bn2 (calSR w1 (m_X11_weight a0 w1)) fun x7 w5 =>
    if x3 = 0 then none else
    some (((x7 + x3) - 1) / x3, w5)
set_option maxRecDepth 100000 in
set_option maxHeartbeats 4000000 in
theorem s_X11_pressure {a0 : Nat} {i1 : Int32} {ws : LWd} {rr : Int32} {ws' : LWd} (h : m_X11_pressure a0 i1 ws = some (rr, ws')) : jSp yX11_pressure wsX11_pressure 1 0 0 [.ref a0, .int i1] ws (.inl (some (.int rr)), ws') := by
  unfold m_X11_pressure at h
  refine j_entry (ret := (some .int)) (nm := "pressure") (own := RX11) pl_X11 rfl rfl rfl (jcats (by rfl)) (Nat.le_of_ble_eq_true rfl) ?_
  show JG (.inl false) cX11_pressure 3 RX11 wsX11_pressure (some .int) "pressure" 1 0 0 ws.length (.inl (some (.int rr)), ws') 0 [some (.ref a0), some (.int i1), none] [] ws 0 0
  obtain ⟨_, _, h⟩ := obS h
  refine j_iload_n (pc := 0) dX11_pressure_0 rfl ?_
  obtain ⟨x3, w1, e2, h⟩ := obS2 h
  have ge2 := calSR_of e2
  refine j_callS_g (pc := 1) (As := [.int i1]) (k' := 0) (n' := 0) dX11_pressure_1 (s_X11_count ge2.1) (jgS lw_605 lw_606 lw_544 lw_604) rfl hy_X11_count rfl (by decide) (by decide) (Nat.le_of_ble_eq_true rfl) (by decide) (by decide) (by decide) (by decide) (Or.inl ge2.2) ?_
  refine j_istore_n_2 (pc := 4) dX11_pressure_4 (by decide) rfl ?_
  refine j_iload_n (pc := 5) dX11_pressure_5 rfl ?_
  refine j_if_ne (pc := 6) (tgt := 13) dX11_pressure_6 (by decide) (fun c4 => ?_) (fun c4 => ?_)
  · rw [if_neg c4] at h
    refine j_aload_n (pc := 13) dX11_pressure_13 rfl ?_
    obtain ⟨x7, w5, e6, h⟩ := obS2 h
    have ge6 := calSR_of e6
    refine j_callV_g (pc := 14) (As := []) (k' := 0) (n' := 0) dX11_pressure_14 (s_X11_weight ge6.1) (jgV lw_574 lw_575 lw_576 lw_544 lw_573) rfl hv_X11_weight rfl (r_X11_weight ge6.1) rfl (by decide) (by decide) (Nat.le_of_ble_eq_true rfl) (by decide) (by decide) (by decide) (by decide) (Or.inl ge6.2) ?_
    refine j_iload_n (pc := 17) dX11_pressure_17 rfl ?_
    refine j_iadd (pc := 18) dX11_pressure_18 ?_
    refine j_iconst (pc := 19) dX11_pressure_19 (v := 1) (by decide) ?_
    refine j_isub (pc := 20) dX11_pressure_20 ?_
    refine j_iload_n (pc := 21) dX11_pressure_21 rfl ?_
    have c8 := jneS h
    rw [if_neg c8] at h
    refine j_idiv (pc := 22) dX11_pressure_22 c8 ?_
    obtain ⟨rfl, rfl⟩ := jretS h
    exact j_iret (pc := 23) rfl dX11_pressure_23 (by decide) (by decide) rfl
  · rw [if_pos c4] at h
    refine j_iconst (pc := 9) dX11_pressure_9 (v := 0) (by decide) ?_
    refine j_goto (pc := 10) (tgt := 23) dX11_pressure_10 (by decide) ?_
    obtain ⟨rfl, rfl⟩ := jretS h
    exact j_iret (pc := 23) rfl dX11_pressure_23 (by decide) (by decide) rfl
theorem r_X11_pressure {a0 : Nat} {i1 : Int32} {ws : LWd} {o : (Int32 × LWd)} (h : m_X11_pressure a0 i1 ws = some o) : ∃ fs, ws[a0]? = some (.inr (11, fs)) := rcv_in h
def wsX11_isInReach : List Cond := Cond.code yX11_isInReach cX11_isInReach 6 (some .boolean) :: jW
def m_X11_isInReach (a0 : Nat) (i1 : Int32) (i2 : Int32) (i3 : Int32) (ws : LWd) : Option (Int32 × LWd) :=
  (rcv ws a0 11).bind fun _ =>
  (fI ws a0 11 5).bind fun x1 =>
  (fR ws a0 11 12).bind fun x3 =>
  (aI ws x3 i1).bind fun x5 =>
  (fI ws a0 11 6).bind fun x7 =>
  (fR ws a0 11 13).bind fun x9 =>
  (aI ws x9 i1).bind fun x11 =>
  (fR ws a0 11 14).bind fun x13 =>
  (aI ws x13 i1).bind fun x15 =>
  (fR ws a0 11 14).bind fun x17 =>
  (aI ws x17 i1).bind fun x19 =>
  if (x15 * x19) < ((((i2 - x1) - x5) * ((i2 - x1) - x5)) + (((i3 - x7) - x11) * ((i3 - x7) - x11))) then
    some (0, ws)
  else
    some (1, ws)
set_option maxRecDepth 100000 in
set_option maxHeartbeats 4000000 in
theorem s_X11_isInReach {a0 : Nat} {i1 : Int32} {i2 : Int32} {i3 : Int32} {ws : LWd} {rr : Int32} {ws' : LWd} (h : m_X11_isInReach a0 i1 i2 i3 ws = some (rr, ws')) : jSp yX11_isInReach wsX11_isInReach 0 0 0 [.ref a0, .int i1, .int i2, .int i3] ws (.inl (some (.int rr)), ws') := by
  unfold m_X11_isInReach at h
  refine j_entry (ret := (some .boolean)) (nm := "isInReach") (own := RX11) pl_X11 rfl rfl rfl (jcats (by rfl)) (Nat.le_of_ble_eq_true rfl) ?_
  show JG (.inl false) cX11_isInReach 6 RX11 wsX11_isInReach (some .boolean) "isInReach" 0 0 0 ws.length (.inl (some (.int rr)), ws') 0 [some (.ref a0), some (.int i1), some (.int i2), some (.int i3), none, none] [] ws 0 0
  obtain ⟨_, _, h⟩ := obS h
  refine j_iload_n (pc := 0) dX11_isInReach_0 rfl ?_
  refine j_aload_n (pc := 1) dX11_isInReach_1 rfl ?_
  obtain ⟨x1, e2, h⟩ := obS h
  refine j_getI (pc := 2) dX11_isInReach_2 (ci := 11) (kf := 5) rfl (jwi hw_X11) (by decide) (jwm lw_529) e2 ?_
  refine j_isub (pc := 5) dX11_isInReach_5 ?_
  refine j_aload_n (pc := 6) dX11_isInReach_6 rfl ?_
  obtain ⟨x3, e4, h⟩ := obS h
  refine j_getR (pc := 7) dX11_isInReach_7 (ci := 11) (kf := 12) rfl (jwi hw_X11) (by decide) (jwm lw_532) e4 ?_
  refine j_iload_n (pc := 10) dX11_isInReach_10 rfl ?_
  obtain ⟨x5, e6, h⟩ := obS h
  refine j_iald (pc := 11) dX11_isInReach_11 e6 ?_
  refine j_isub (pc := 12) dX11_isInReach_12 ?_
  refine j_istore_4 (pc := 13) dX11_isInReach_13 (by decide) rfl ?_
  refine j_iload_n (pc := 15) dX11_isInReach_15 rfl ?_
  refine j_aload_n (pc := 16) dX11_isInReach_16 rfl ?_
  obtain ⟨x7, e8, h⟩ := obS h
  refine j_getI (pc := 17) dX11_isInReach_17 (ci := 11) (kf := 6) rfl (jwi hw_X11) (by decide) (jwm lw_530) e8 ?_
  refine j_isub (pc := 20) dX11_isInReach_20 ?_
  refine j_aload_n (pc := 21) dX11_isInReach_21 rfl ?_
  obtain ⟨x9, e10, h⟩ := obS h
  refine j_getR (pc := 22) dX11_isInReach_22 (ci := 11) (kf := 13) rfl (jwi hw_X11) (by decide) (jwm lw_533) e10 ?_
  refine j_iload_n (pc := 25) dX11_isInReach_25 rfl ?_
  obtain ⟨x11, e12, h⟩ := obS h
  refine j_iald (pc := 26) dX11_isInReach_26 e12 ?_
  refine j_isub (pc := 27) dX11_isInReach_27 ?_
  refine j_istore_5 (pc := 28) dX11_isInReach_28 (by decide) rfl ?_
  refine j_iload (pc := 30) dX11_isInReach_30 rfl ?_
  refine j_iload (pc := 32) dX11_isInReach_32 rfl ?_
  refine j_imul (pc := 34) dX11_isInReach_34 ?_
  refine j_iload (pc := 35) dX11_isInReach_35 rfl ?_
  refine j_iload (pc := 37) dX11_isInReach_37 rfl ?_
  refine j_imul (pc := 39) dX11_isInReach_39 ?_
  refine j_iadd (pc := 40) dX11_isInReach_40 ?_
  refine j_aload_n (pc := 41) dX11_isInReach_41 rfl ?_
  obtain ⟨x13, e14, h⟩ := obS h
  refine j_getR (pc := 42) dX11_isInReach_42 (ci := 11) (kf := 14) rfl (jwi hw_X11) (by decide) (jwm lw_534) e14 ?_
  refine j_iload_n (pc := 45) dX11_isInReach_45 rfl ?_
  obtain ⟨x15, e16, h⟩ := obS h
  refine j_iald (pc := 46) dX11_isInReach_46 e16 ?_
  refine j_aload_n (pc := 47) dX11_isInReach_47 rfl ?_
  obtain ⟨x17, e18, h⟩ := obS h
  refine j_getR (pc := 48) dX11_isInReach_48 (ci := 11) (kf := 14) rfl (jwi hw_X11) (by decide) (jwm lw_534) e18 ?_
  refine j_iload_n (pc := 51) dX11_isInReach_51 rfl ?_
  obtain ⟨x19, e20, h⟩ := obS h
  refine j_iald (pc := 52) dX11_isInReach_52 e20 ?_
  refine j_imul (pc := 53) dX11_isInReach_53 ?_
  refine j_icmp_gt (pc := 54) (tgt := 61) dX11_isInReach_54 (by decide) (fun c21 => ?_) (fun c21 => ?_)
  · rw [if_pos c21] at h
    refine j_iconst (pc := 61) dX11_isInReach_61 (v := 0) (by decide) ?_
    obtain ⟨rfl, rfl⟩ := jretS h
    exact j_zretL (pc := 62) (by decide) rfl dX11_isInReach_62 (by decide) (by decide) rfl
  · rw [if_neg c21] at h
    refine j_iconst (pc := 57) dX11_isInReach_57 (v := 1) (by decide) ?_
    refine j_goto (pc := 58) (tgt := 62) dX11_isInReach_58 (by decide) ?_
    obtain ⟨rfl, rfl⟩ := jretS h
    exact j_zretL (pc := 62) (by decide) rfl dX11_isInReach_62 (by decide) (by decide) rfl
theorem r_X11_isInReach {a0 : Nat} {i1 : Int32} {i2 : Int32} {i3 : Int32} {ws : LWd} {o : (Int32 × LWd)} (h : m_X11_isInReach a0 i1 i2 i3 ws = some o) : ∃ fs, ws[a0]? = some (.inr (11, fs)) := rcv_in h
def wsX11_far : List Cond := Cond.code yX11_far cX11_far 6 (some .int) :: jW
def m_X11_far_b43 (i5 : Int32) (s0 : Int32) (ws : LWd) : Option (Int32 × LWd) :=
  if 0 ≤ i5 then
    some (s0 + i5, ws)
  else
    some (s0 + (-i5), ws)
set_option maxRecDepth 100000 in
set_option maxHeartbeats 4000000 in
theorem jm_X11_far_b43 {n0 : Nat} {rr : Int32} {ws' : LWd} (i5 : Int32) (s0 : Int32) (ws : LWd) (h : m_X11_far_b43 i5 s0 ws = some (rr, ws')) : JG (.inl false) cX11_far 6 RX11 wsX11_far (some .int) "far" 0 0 0 n0 (.inl (some (.int rr)), ws') 43 [none, none, none, none, none, some (.int i5)] [.int s0] ws 0 0 := by
  unfold m_X11_far_b43 at h
  refine j_iload (pc := 43) dX11_far_43 rfl ?_
  refine j_if_ge (pc := 45) (tgt := 54) dX11_far_45 (by decide) (fun c1 => ?_) (fun c1 => ?_)
  · rw [if_pos c1] at h
    refine j_iload (pc := 54) dX11_far_54 rfl ?_
    refine j_iadd (pc := 56) dX11_far_56 ?_
    obtain ⟨rfl, rfl⟩ := jretS h
    exact j_iret (pc := 57) rfl dX11_far_57 (by decide) (by decide) rfl
  · rw [if_neg c1] at h
    refine j_iload (pc := 48) dX11_far_48 rfl ?_
    refine j_ineg (pc := 50) dX11_far_50 ?_
    refine j_goto (pc := 51) (tgt := 56) dX11_far_51 (by decide) ?_
    refine j_iadd (pc := 56) dX11_far_56 ?_
    obtain ⟨rfl, rfl⟩ := jretS h
    exact j_iret (pc := 57) rfl dX11_far_57 (by decide) (by decide) rfl
def m_X11_far (a0 : Nat) (i1 : Int32) (i2 : Int32) (i3 : Int32) (ws : LWd) : Option (Int32 × LWd) :=
  (rcv ws a0 11).bind fun _ =>
  (fI ws a0 11 5).bind fun x1 =>
  (fR ws a0 11 12).bind fun x3 =>
  (aI ws x3 i1).bind fun x5 =>
  (fI ws a0 11 6).bind fun x7 =>
  (fR ws a0 11 13).bind fun x9 =>
  (aI ws x9 i1).bind fun x11 =>
  if 0 ≤ ((i2 - x1) - x5) then
    m_X11_far_b43 ((i3 - x7) - x11) ((i2 - x1) - x5) ws
  else
    m_X11_far_b43 ((i3 - x7) - x11) (-((i2 - x1) - x5)) ws
set_option maxRecDepth 100000 in
set_option maxHeartbeats 4000000 in
theorem s_X11_far {a0 : Nat} {i1 : Int32} {i2 : Int32} {i3 : Int32} {ws : LWd} {rr : Int32} {ws' : LWd} (h : m_X11_far a0 i1 i2 i3 ws = some (rr, ws')) : jSp yX11_far wsX11_far 0 0 0 [.ref a0, .int i1, .int i2, .int i3] ws (.inl (some (.int rr)), ws') := by
  unfold m_X11_far at h
  refine j_entry (ret := (some .int)) (nm := "far") (own := RX11) pl_X11 rfl rfl rfl (jcats (by rfl)) (Nat.le_of_ble_eq_true rfl) ?_
  show JG (.inl false) cX11_far 6 RX11 wsX11_far (some .int) "far" 0 0 0 ws.length (.inl (some (.int rr)), ws') 0 [some (.ref a0), some (.int i1), some (.int i2), some (.int i3), none, none] [] ws 0 0
  obtain ⟨_, _, h⟩ := obS h
  refine j_iload_n (pc := 0) dX11_far_0 rfl ?_
  refine j_aload_n (pc := 1) dX11_far_1 rfl ?_
  obtain ⟨x1, e2, h⟩ := obS h
  refine j_getI (pc := 2) dX11_far_2 (ci := 11) (kf := 5) rfl (jwi hw_X11) (by decide) (jwm lw_529) e2 ?_
  refine j_isub (pc := 5) dX11_far_5 ?_
  refine j_aload_n (pc := 6) dX11_far_6 rfl ?_
  obtain ⟨x3, e4, h⟩ := obS h
  refine j_getR (pc := 7) dX11_far_7 (ci := 11) (kf := 12) rfl (jwi hw_X11) (by decide) (jwm lw_532) e4 ?_
  refine j_iload_n (pc := 10) dX11_far_10 rfl ?_
  obtain ⟨x5, e6, h⟩ := obS h
  refine j_iald (pc := 11) dX11_far_11 e6 ?_
  refine j_isub (pc := 12) dX11_far_12 ?_
  refine j_istore_4 (pc := 13) dX11_far_13 (by decide) rfl ?_
  refine j_iload_n (pc := 15) dX11_far_15 rfl ?_
  refine j_aload_n (pc := 16) dX11_far_16 rfl ?_
  obtain ⟨x7, e8, h⟩ := obS h
  refine j_getI (pc := 17) dX11_far_17 (ci := 11) (kf := 6) rfl (jwi hw_X11) (by decide) (jwm lw_530) e8 ?_
  refine j_isub (pc := 20) dX11_far_20 ?_
  refine j_aload_n (pc := 21) dX11_far_21 rfl ?_
  obtain ⟨x9, e10, h⟩ := obS h
  refine j_getR (pc := 22) dX11_far_22 (ci := 11) (kf := 13) rfl (jwi hw_X11) (by decide) (jwm lw_533) e10 ?_
  refine j_iload_n (pc := 25) dX11_far_25 rfl ?_
  obtain ⟨x11, e12, h⟩ := obS h
  refine j_iald (pc := 26) dX11_far_26 e12 ?_
  refine j_isub (pc := 27) dX11_far_27 ?_
  refine j_istore_5 (pc := 28) dX11_far_28 (by decide) rfl ?_
  refine j_iload (pc := 30) dX11_far_30 rfl ?_
  refine j_if_ge (pc := 32) (tgt := 41) dX11_far_32 (by decide) (fun c13 => ?_) (fun c13 => ?_)
  · rw [if_pos c13] at h
    refine j_iload (pc := 41) dX11_far_41 rfl ?_
    refine j_mask [false, false, false, false, false, true] ?_
    exact jm_X11_far_b43 _ _ ws h
  · rw [if_neg c13] at h
    refine j_iload (pc := 35) dX11_far_35 rfl ?_
    refine j_ineg (pc := 37) dX11_far_37 ?_
    refine j_goto (pc := 38) (tgt := 43) dX11_far_38 (by decide) ?_
    refine j_mask [false, false, false, false, false, true] ?_
    exact jm_X11_far_b43 _ _ ws h
theorem r_X11_far {a0 : Nat} {i1 : Int32} {i2 : Int32} {i3 : Int32} {ws : LWd} {o : (Int32 × LWd)} (h : m_X11_far a0 i1 i2 i3 ws = some o) : ∃ fs, ws[a0]? = some (.inr (11, fs)) := rcv_in h
def wsX11_breaks : List Cond := Cond.code yX11_breaks cX11_breaks 4 none :: jW
def m_X11_breaks_b48 (s0 : Nat) (s1 : Int32) (ws : LWd) : Option LWd :=
  (pV ws s0 11 22 (.int s1)).bind fun w1 =>
  some w1
set_option maxRecDepth 100000 in
set_option maxHeartbeats 4000000 in
theorem jm_X11_breaks_b48 {n0 : Nat} {ws' : LWd} (s0 : Nat) (s1 : Int32) (ws : LWd) (h : m_X11_breaks_b48 s0 s1 ws = some ws') : JG (.inl false) cX11_breaks 4 RX11 wsX11_breaks none "breaks" 0 0 0 n0 (.inl none, ws') 48 [none, none, none, none] [.int s1, .ref s0] ws 0 0 := by
  unfold m_X11_breaks_b48 at h
  obtain ⟨w1, e2, h⟩ := obS h
  refine j_putV (pc := 48) (ci := 11) (kf := 22) tyX11 tyX11_ok nmX11 dX11_breaks_48 rfl (jwi hw_X11) (by decide) (jwm lw_607) rfl (fun _ => rfl) (fun _ => rfl) e2 ?_
  cases h
  exact j_vret (pc := 51) rfl dX11_breaks_51 (by decide) (by decide) rfl
def m_X11_breaks_b22 (a0 : Nat) (i1 : Int32) (ws : LWd) : Option LWd :=
  (fI ws a0 11 18).bind fun x1 =>
  (pV ws a0 11 18 (.int (x1 + 1))).bind fun w3 =>
  (fI w3 a0 11 22).bind fun x5 =>
  if x5 = 0 then
    m_X11_breaks_b48 a0 i1 w3
  else
    (fI w3 a0 11 22).bind fun x8 =>
    m_X11_breaks_b48 a0 x8 w3
set_option maxRecDepth 100000 in
set_option maxHeartbeats 4000000 in
theorem jm_X11_breaks_b22 {n0 : Nat} {ws' : LWd} (a0 : Nat) (i1 : Int32) (ws : LWd) (h : m_X11_breaks_b22 a0 i1 ws = some ws') : JG (.inl false) cX11_breaks 4 RX11 wsX11_breaks none "breaks" 0 0 0 n0 (.inl none, ws') 22 [some (.ref a0), some (.int i1), none, none] [] ws 0 0 := by
  unfold m_X11_breaks_b22 at h
  refine j_aload_n (pc := 22) dX11_breaks_22 rfl ?_
  refine j_dup (pc := 23) dX11_breaks_23 rfl ?_
  obtain ⟨x1, e2, h⟩ := obS h
  refine j_getI (pc := 24) dX11_breaks_24 (ci := 11) (kf := 18) rfl (jwi hw_X11) (by decide) (jwm lw_608) e2 ?_
  refine j_iconst (pc := 27) dX11_breaks_27 (v := 1) (by decide) ?_
  refine j_iadd (pc := 28) dX11_breaks_28 ?_
  obtain ⟨w3, e4, h⟩ := obS h
  refine j_putV (pc := 29) (ci := 11) (kf := 18) tyX11 tyX11_ok nmX11 dX11_breaks_29 rfl (jwi hw_X11) (by decide) (jwm lw_608) rfl (fun _ => rfl) (fun _ => rfl) e4 ?_
  refine j_aload_n (pc := 32) dX11_breaks_32 rfl ?_
  refine j_aload_n (pc := 33) dX11_breaks_33 rfl ?_
  obtain ⟨x5, e6, h⟩ := obS h
  refine j_getI (pc := 34) dX11_breaks_34 (ci := 11) (kf := 22) rfl (jwi hw_X11) (by decide) (jwm lw_607) e6 ?_
  refine j_if_ne (pc := 37) (tgt := 44) dX11_breaks_37 (by decide) (fun c7 => ?_) (fun c7 => ?_)
  · rw [if_neg c7] at h
    refine j_aload_n (pc := 44) dX11_breaks_44 rfl ?_
    obtain ⟨x8, e9, h⟩ := obS h
    refine j_getI (pc := 45) dX11_breaks_45 (ci := 11) (kf := 22) rfl (jwi hw_X11) (by decide) (jwm lw_607) e9 ?_
    refine j_mask [false, false, false, false] ?_
    exact jm_X11_breaks_b48 _ _ w3 h
  · rw [if_pos c7] at h
    refine j_iload_n (pc := 40) dX11_breaks_40 rfl ?_
    refine j_goto (pc := 41) (tgt := 48) dX11_breaks_41 (by decide) ?_
    refine j_mask [false, false, false, false] ?_
    exact jm_X11_breaks_b48 _ _ w3 h
def m_X11_breaks (a0 : Nat) (i1 : Int32) (i2 : Int32) (i3 : Int32) (ws : LWd) : Option LWd :=
  (rcv ws a0 11).bind fun _ =>
  (fI ws a0 11 18).bind fun x1 =>
  if x1 = 0 then
    (pV ws a0 11 19 (.int i1)).bind fun w4 =>
    (pV w4 a0 11 20 (.int i2)).bind fun w6 =>
    (pV w6 a0 11 21 (.int i3)).bind fun w8 =>
    m_X11_breaks_b22 a0 i1 w8
  else
    m_X11_breaks_b22 a0 i1 ws
set_option maxRecDepth 100000 in
set_option maxHeartbeats 4000000 in
theorem s_X11_breaks {a0 : Nat} {i1 : Int32} {i2 : Int32} {i3 : Int32} {ws : LWd} {ws' : LWd} (h : m_X11_breaks a0 i1 i2 i3 ws = some ws') : jSp yX11_breaks wsX11_breaks 0 0 0 [.ref a0, .int i1, .int i2, .int i3] ws (.inl none, ws') := by
  unfold m_X11_breaks at h
  refine j_entry (ret := none) (nm := "breaks") (own := RX11) pl_X11 rfl rfl rfl (jcats (by rfl)) (Nat.le_of_ble_eq_true rfl) ?_
  show JG (.inl false) cX11_breaks 4 RX11 wsX11_breaks none "breaks" 0 0 0 ws.length (.inl none, ws') 0 [some (.ref a0), some (.int i1), some (.int i2), some (.int i3)] [] ws 0 0
  obtain ⟨_, _, h⟩ := obS h
  refine j_aload_n (pc := 0) dX11_breaks_0 rfl ?_
  obtain ⟨x1, e2, h⟩ := obS h
  refine j_getI (pc := 1) dX11_breaks_1 (ci := 11) (kf := 18) rfl (jwi hw_X11) (by decide) (jwm lw_608) e2 ?_
  refine j_if_ne (pc := 4) (tgt := 22) dX11_breaks_4 (by decide) (fun c3 => ?_) (fun c3 => ?_)
  · rw [if_neg c3] at h
    refine j_mask [true, true, false, false] ?_
    exact jm_X11_breaks_b22 _ _ ws h
  · rw [if_pos c3] at h
    refine j_aload_n (pc := 7) dX11_breaks_7 rfl ?_
    refine j_iload_n (pc := 8) dX11_breaks_8 rfl ?_
    obtain ⟨w4, e5, h⟩ := obS h
    refine j_putV (pc := 9) (ci := 11) (kf := 19) tyX11 tyX11_ok nmX11 dX11_breaks_9 rfl (jwi hw_X11) (by decide) (jwm lw_609) rfl (fun _ => rfl) (fun _ => rfl) e5 ?_
    refine j_aload_n (pc := 12) dX11_breaks_12 rfl ?_
    refine j_iload_n (pc := 13) dX11_breaks_13 rfl ?_
    obtain ⟨w6, e7, h⟩ := obS h
    refine j_putV (pc := 14) (ci := 11) (kf := 20) tyX11 tyX11_ok nmX11 dX11_breaks_14 rfl (jwi hw_X11) (by decide) (jwm lw_610) rfl (fun _ => rfl) (fun _ => rfl) e7 ?_
    refine j_aload_n (pc := 17) dX11_breaks_17 rfl ?_
    refine j_iload_n (pc := 18) dX11_breaks_18 rfl ?_
    obtain ⟨w8, e9, h⟩ := obS h
    refine j_putV (pc := 19) (ci := 11) (kf := 21) tyX11 tyX11_ok nmX11 dX11_breaks_19 rfl (jwi hw_X11) (by decide) (jwm lw_611) rfl (fun _ => rfl) (fun _ => rfl) e9 ?_
    refine j_mask [true, true, false, false] ?_
    exact jm_X11_breaks_b22 _ _ w8 h
theorem r_X11_breaks {a0 : Nat} {i1 : Int32} {i2 : Int32} {i3 : Int32} {ws : LWd} {o : LWd} (h : m_X11_breaks a0 i1 i2 i3 ws = some o) : ∃ fs, ws[a0]? = some (.inr (11, fs)) := rcv_in h
def wsX11_slips : List Cond := Cond.code yX11_slips cX11_slips 9 (some .int) :: jW
def m_X11_slips_b171 (k5 : Nat → Int32 → Int32 → Int32 → Int32 → LWd → Option (Int32 × LWd)) (a0 : Nat) (i1 : Int32) (i2 : Int32) (i4 : Int32) (s0 : Int32) (ws : LWd) : Option (Int32 × LWd) :=
  k5 a0 i1 i2 s0 (i4 + 1) ws
set_option maxRecDepth 100000 in
set_option maxHeartbeats 4000000 in
theorem jm_X11_slips_b171 {n0 : Nat} {rr : Int32} {ws' : LWd} {k5 : Nat → Int32 → Int32 → Int32 → Int32 → LWd → Option (Int32 × LWd)} (hk5 : ∀ (a0 : Nat) (i1 : Int32) (i2 : Int32) (i3 : Int32) (i4 : Int32) (ws : LWd), k5 a0 i1 i2 i3 i4 ws = some (rr, ws') → JG (.inl false) cX11_slips 9 RX11 wsX11_slips (some .int) "slips" 2 0 0 n0 (.inl (some (.int rr)), ws') 5 [some (.ref a0), some (.int i1), some (.int i2), some (.int i3), some (.int i4), none, none, none, none] [] ws 0 0) (a0 : Nat) (i1 : Int32) (i2 : Int32) (i4 : Int32) (s0 : Int32) (ws : LWd) (h : m_X11_slips_b171 k5 a0 i1 i2 i4 s0 ws = some (rr, ws')) : JG (.inl false) cX11_slips 9 RX11 wsX11_slips (some .int) "slips" 2 0 0 n0 (.inl (some (.int rr)), ws') 171 [some (.ref a0), some (.int i1), some (.int i2), none, some (.int i4), none, none, none, none] [.int s0] ws 0 0 := by
  unfold m_X11_slips_b171 at h
  refine j_istore_n_3 (pc := 171) dX11_slips_171 (by decide) rfl ?_
  refine j_iinc_4 (pc := 172) dX11_slips_172 (y := i4 + 1) rfl (by decide) rfl ?_
  refine j_goto (pc := 175) (tgt := 5) dX11_slips_175 (by decide) ?_
  exact hk5 _ _ _ _ _ ws h
def m_X11_slips_b153 (k5 : Nat → Int32 → Int32 → Int32 → Int32 → LWd → Option (Int32 × LWd)) (a0 : Nat) (i1 : Int32) (i2 : Int32) (i3 : Int32) (i4 : Int32) (i5 : Int32) (i6 : Int32) (s0 : Int32) (ws : LWd) : Option (Int32 × LWd) :=
  if s0 = 0 then
    m_X11_slips_b171 k5 a0 i1 i2 i4 i3 ws
  else
    bn2 (calSR ws (m_X11_at i5 i6 ws)) fun x4 w2 =>
    m_X11_slips_b171 k5 a0 i1 i2 i4 x4 w2
set_option maxRecDepth 100000 in
set_option maxHeartbeats 4000000 in
theorem jm_X11_slips_b153 {n0 : Nat} {rr : Int32} {ws' : LWd} {k5 : Nat → Int32 → Int32 → Int32 → Int32 → LWd → Option (Int32 × LWd)} (hk5 : ∀ (a0 : Nat) (i1 : Int32) (i2 : Int32) (i3 : Int32) (i4 : Int32) (ws : LWd), k5 a0 i1 i2 i3 i4 ws = some (rr, ws') → JG (.inl false) cX11_slips 9 RX11 wsX11_slips (some .int) "slips" 2 0 0 n0 (.inl (some (.int rr)), ws') 5 [some (.ref a0), some (.int i1), some (.int i2), some (.int i3), some (.int i4), none, none, none, none] [] ws 0 0) (a0 : Nat) (i1 : Int32) (i2 : Int32) (i3 : Int32) (i4 : Int32) (i5 : Int32) (i6 : Int32) (s0 : Int32) (ws : LWd) (h : m_X11_slips_b153 k5 a0 i1 i2 i3 i4 i5 i6 s0 ws = some (rr, ws')) : JG (.inl false) cX11_slips 9 RX11 wsX11_slips (some .int) "slips" 2 0 0 n0 (.inl (some (.int rr)), ws') 153 [some (.ref a0), some (.int i1), some (.int i2), some (.int i3), some (.int i4), some (.int i5), some (.int i6), none, none] [.int s0] ws 0 0 := by
  unfold m_X11_slips_b153 at h
  refine j_istore_8 (pc := 153) dX11_slips_153 (by decide) rfl ?_
  refine j_iload (pc := 155) dX11_slips_155 rfl ?_
  refine j_if_eq (pc := 157) (tgt := 170) dX11_slips_157 (by decide) (fun c1 => ?_) (fun c1 => ?_)
  · rw [if_pos c1] at h
    refine j_iload_n (pc := 170) dX11_slips_170 rfl ?_
    refine j_mask [true, true, true, false, true, false, false, false, false] ?_
    exact jm_X11_slips_b171 (hk5 := hk5) _ _ _ _ _ ws h
  · rw [if_neg c1] at h
    refine j_iload (pc := 160) dX11_slips_160 rfl ?_
    refine j_iload (pc := 162) dX11_slips_162 rfl ?_
    obtain ⟨x4, w2, e3, h⟩ := obS2 h
    have ge3 := calSR_of e3
    refine j_callS_g (pc := 164) (As := [.int i5, .int i6]) (k' := 0) (n' := 0) dX11_slips_164 (s_X11_at ge3.1) (jgS lw_556 lw_557 lw_544 lw_555) rfl hy_X11_at rfl (by decide) (by decide) (Nat.le_of_ble_eq_true rfl) (by decide) (by decide) (by decide) (by decide) (Or.inl ge3.2) ?_
    refine j_goto (pc := 167) (tgt := 171) dX11_slips_167 (by decide) ?_
    refine j_mask [true, true, true, false, true, false, false, false, false] ?_
    exact jm_X11_slips_b171 (hk5 := hk5) _ _ _ _ _ w2 h
def m_X11_slips_b152 (k5 : Nat → Int32 → Int32 → Int32 → Int32 → LWd → Option (Int32 × LWd)) (a0 : Nat) (i1 : Int32) (i2 : Int32) (i3 : Int32) (i4 : Int32) (i5 : Int32) (i6 : Int32) (ws : LWd) : Option (Int32 × LWd) :=
  m_X11_slips_b153 k5 a0 i1 i2 i3 i4 i5 i6 0 ws
set_option maxRecDepth 100000 in
set_option maxHeartbeats 4000000 in
theorem jm_X11_slips_b152 {n0 : Nat} {rr : Int32} {ws' : LWd} {k5 : Nat → Int32 → Int32 → Int32 → Int32 → LWd → Option (Int32 × LWd)} (hk5 : ∀ (a0 : Nat) (i1 : Int32) (i2 : Int32) (i3 : Int32) (i4 : Int32) (ws : LWd), k5 a0 i1 i2 i3 i4 ws = some (rr, ws') → JG (.inl false) cX11_slips 9 RX11 wsX11_slips (some .int) "slips" 2 0 0 n0 (.inl (some (.int rr)), ws') 5 [some (.ref a0), some (.int i1), some (.int i2), some (.int i3), some (.int i4), none, none, none, none] [] ws 0 0) (a0 : Nat) (i1 : Int32) (i2 : Int32) (i3 : Int32) (i4 : Int32) (i5 : Int32) (i6 : Int32) (ws : LWd) (h : m_X11_slips_b152 k5 a0 i1 i2 i3 i4 i5 i6 ws = some (rr, ws')) : JG (.inl false) cX11_slips 9 RX11 wsX11_slips (some .int) "slips" 2 0 0 n0 (.inl (some (.int rr)), ws') 152 [some (.ref a0), some (.int i1), some (.int i2), some (.int i3), some (.int i4), some (.int i5), some (.int i6), none, none] [] ws 0 0 := by
  unfold m_X11_slips_b152 at h
  refine j_iconst (pc := 152) dX11_slips_152 (v := 0) (by decide) ?_
  exact jm_X11_slips_b153 (hk5 := hk5) _ _ _ _ _ _ _ _ ws h
def m_X11_slips_b148 (k5 : Nat → Int32 → Int32 → Int32 → Int32 → LWd → Option (Int32 × LWd)) (a0 : Nat) (i1 : Int32) (i2 : Int32) (i3 : Int32) (i4 : Int32) (i5 : Int32) (i6 : Int32) (ws : LWd) : Option (Int32 × LWd) :=
  m_X11_slips_b153 k5 a0 i1 i2 i3 i4 i5 i6 1 ws
set_option maxRecDepth 100000 in
set_option maxHeartbeats 4000000 in
theorem jm_X11_slips_b148 {n0 : Nat} {rr : Int32} {ws' : LWd} {k5 : Nat → Int32 → Int32 → Int32 → Int32 → LWd → Option (Int32 × LWd)} (hk5 : ∀ (a0 : Nat) (i1 : Int32) (i2 : Int32) (i3 : Int32) (i4 : Int32) (ws : LWd), k5 a0 i1 i2 i3 i4 ws = some (rr, ws') → JG (.inl false) cX11_slips 9 RX11 wsX11_slips (some .int) "slips" 2 0 0 n0 (.inl (some (.int rr)), ws') 5 [some (.ref a0), some (.int i1), some (.int i2), some (.int i3), some (.int i4), none, none, none, none] [] ws 0 0) (a0 : Nat) (i1 : Int32) (i2 : Int32) (i3 : Int32) (i4 : Int32) (i5 : Int32) (i6 : Int32) (ws : LWd) (h : m_X11_slips_b148 k5 a0 i1 i2 i3 i4 i5 i6 ws = some (rr, ws')) : JG (.inl false) cX11_slips 9 RX11 wsX11_slips (some .int) "slips" 2 0 0 n0 (.inl (some (.int rr)), ws') 148 [some (.ref a0), some (.int i1), some (.int i2), some (.int i3), some (.int i4), some (.int i5), some (.int i6), none, none] [] ws 0 0 := by
  unfold m_X11_slips_b148 at h
  refine j_iconst (pc := 148) dX11_slips_148 (v := 1) (by decide) ?_
  refine j_goto (pc := 149) (tgt := 153) dX11_slips_149 (by decide) ?_
  exact jm_X11_slips_b153 (hk5 := hk5) _ _ _ _ _ _ _ _ ws h
def m_X11_slips_b115 (k5 : Nat → Int32 → Int32 → Int32 → Int32 → LWd → Option (Int32 × LWd)) (a0 : Nat) (i1 : Int32) (i2 : Int32) (i3 : Int32) (i4 : Int32) (i5 : Int32) (i6 : Int32) (s0 : Int32) (ws : LWd) : Option (Int32 × LWd) :=
  if s0 = 0 then
    m_X11_slips_b152 k5 a0 i1 i2 i3 i4 i5 i6 ws
  else
    if i3 = ((-1)) then
      m_X11_slips_b148 k5 a0 i1 i2 i3 i4 i5 i6 ws
    else
      (fR ws a0 11 0).bind fun x3 =>
      bn2 (calSR ws (m_X11_at i5 i6 ws)) fun x7 w5 =>
      (aI w5 x3 x7).bind fun x8 =>
      (fR w5 a0 11 0).bind fun x10 =>
      (aI w5 x10 i3).bind fun x12 =>
      if x12 ≤ x8 then
        m_X11_slips_b152 k5 a0 i1 i2 i3 i4 i5 i6 w5
      else
        m_X11_slips_b148 k5 a0 i1 i2 i3 i4 i5 i6 w5
set_option maxRecDepth 100000 in
set_option maxHeartbeats 4000000 in
theorem jm_X11_slips_b115 {n0 : Nat} {rr : Int32} {ws' : LWd} {k5 : Nat → Int32 → Int32 → Int32 → Int32 → LWd → Option (Int32 × LWd)} (hk5 : ∀ (a0 : Nat) (i1 : Int32) (i2 : Int32) (i3 : Int32) (i4 : Int32) (ws : LWd), k5 a0 i1 i2 i3 i4 ws = some (rr, ws') → JG (.inl false) cX11_slips 9 RX11 wsX11_slips (some .int) "slips" 2 0 0 n0 (.inl (some (.int rr)), ws') 5 [some (.ref a0), some (.int i1), some (.int i2), some (.int i3), some (.int i4), none, none, none, none] [] ws 0 0) (a0 : Nat) (i1 : Int32) (i2 : Int32) (i3 : Int32) (i4 : Int32) (i5 : Int32) (i6 : Int32) (s0 : Int32) (ws : LWd) (h : m_X11_slips_b115 k5 a0 i1 i2 i3 i4 i5 i6 s0 ws = some (rr, ws')) : JG (.inl false) cX11_slips 9 RX11 wsX11_slips (some .int) "slips" 2 0 0 n0 (.inl (some (.int rr)), ws') 115 [some (.ref a0), some (.int i1), some (.int i2), some (.int i3), some (.int i4), some (.int i5), some (.int i6), none, none] [.int s0] ws 0 0 := by
  unfold m_X11_slips_b115 at h
  refine j_istore_7 (pc := 115) dX11_slips_115 (by decide) rfl ?_
  refine j_iload (pc := 117) dX11_slips_117 rfl ?_
  refine j_if_eq (pc := 119) (tgt := 152) dX11_slips_119 (by decide) (fun c1 => ?_) (fun c1 => ?_)
  · rw [if_pos c1] at h
    refine j_mask [true, true, true, true, true, true, true, false, false] ?_
    exact jm_X11_slips_b152 (hk5 := hk5) _ _ _ _ _ _ _ ws h
  · rw [if_neg c1] at h
    refine j_iload_n (pc := 122) dX11_slips_122 rfl ?_
    refine j_iconst (pc := 123) dX11_slips_123 (v := (-1)) (by decide) ?_
    refine j_icmp_eq (pc := 124) (tgt := 148) dX11_slips_124 (by decide) (fun c2 => ?_) (fun c2 => ?_)
    · rw [if_pos c2] at h
      refine j_mask [true, true, true, true, true, true, true, false, false] ?_
      exact jm_X11_slips_b148 (hk5 := hk5) _ _ _ _ _ _ _ ws h
    · rw [if_neg c2] at h
      refine j_aload_n (pc := 127) dX11_slips_127 rfl ?_
      obtain ⟨x3, e4, h⟩ := obS h
      refine j_getR (pc := 128) dX11_slips_128 (ci := 11) (kf := 0) rfl (jwi hw_X11) (by decide) (jwm lw_527) e4 ?_
      refine j_iload (pc := 131) dX11_slips_131 rfl ?_
      refine j_iload (pc := 133) dX11_slips_133 rfl ?_
      obtain ⟨x7, w5, e6, h⟩ := obS2 h
      have ge6 := calSR_of e6
      refine j_callS_g (pc := 135) (As := [.int i5, .int i6]) (k' := 0) (n' := 0) dX11_slips_135 (s_X11_at ge6.1) (jgS lw_556 lw_557 lw_544 lw_555) rfl hy_X11_at rfl (by decide) (by decide) (Nat.le_of_ble_eq_true rfl) (by decide) (by decide) (by decide) (by decide) (Or.inl ge6.2) ?_
      obtain ⟨x8, e9, h⟩ := obS h
      refine j_iald (pc := 138) dX11_slips_138 e9 ?_
      refine j_aload_n (pc := 139) dX11_slips_139 rfl ?_
      obtain ⟨x10, e11, h⟩ := obS h
      refine j_getR (pc := 140) dX11_slips_140 (ci := 11) (kf := 0) rfl (jwi hw_X11) (by decide) (jwm lw_527) e11 ?_
      refine j_iload_n (pc := 143) dX11_slips_143 rfl ?_
      obtain ⟨x12, e13, h⟩ := obS h
      refine j_iald (pc := 144) dX11_slips_144 e13 ?_
      refine j_icmp_ge (pc := 145) (tgt := 152) dX11_slips_145 (by decide) (fun c14 => ?_) (fun c14 => ?_)
      · rw [if_pos c14] at h
        refine j_mask [true, true, true, true, true, true, true, false, false] ?_
        exact jm_X11_slips_b152 (hk5 := hk5) _ _ _ _ _ _ _ w5 h
      · rw [if_neg c14] at h
        refine j_mask [true, true, true, true, true, true, true, false, false] ?_
        exact jm_X11_slips_b148 (hk5 := hk5) _ _ _ _ _ _ _ w5 h
def m_X11_slips_b114 (k5 : Nat → Int32 → Int32 → Int32 → Int32 → LWd → Option (Int32 × LWd)) (a0 : Nat) (i1 : Int32) (i2 : Int32) (i3 : Int32) (i4 : Int32) (i5 : Int32) (i6 : Int32) (ws : LWd) : Option (Int32 × LWd) :=
  m_X11_slips_b115 k5 a0 i1 i2 i3 i4 i5 i6 0 ws
set_option maxRecDepth 100000 in
set_option maxHeartbeats 4000000 in
theorem jm_X11_slips_b114 {n0 : Nat} {rr : Int32} {ws' : LWd} {k5 : Nat → Int32 → Int32 → Int32 → Int32 → LWd → Option (Int32 × LWd)} (hk5 : ∀ (a0 : Nat) (i1 : Int32) (i2 : Int32) (i3 : Int32) (i4 : Int32) (ws : LWd), k5 a0 i1 i2 i3 i4 ws = some (rr, ws') → JG (.inl false) cX11_slips 9 RX11 wsX11_slips (some .int) "slips" 2 0 0 n0 (.inl (some (.int rr)), ws') 5 [some (.ref a0), some (.int i1), some (.int i2), some (.int i3), some (.int i4), none, none, none, none] [] ws 0 0) (a0 : Nat) (i1 : Int32) (i2 : Int32) (i3 : Int32) (i4 : Int32) (i5 : Int32) (i6 : Int32) (ws : LWd) (h : m_X11_slips_b114 k5 a0 i1 i2 i3 i4 i5 i6 ws = some (rr, ws')) : JG (.inl false) cX11_slips 9 RX11 wsX11_slips (some .int) "slips" 2 0 0 n0 (.inl (some (.int rr)), ws') 114 [some (.ref a0), some (.int i1), some (.int i2), some (.int i3), some (.int i4), some (.int i5), some (.int i6), none, none] [] ws 0 0 := by
  unfold m_X11_slips_b114 at h
  refine j_iconst (pc := 114) dX11_slips_114 (v := 0) (by decide) ?_
  exact jm_X11_slips_b115 (hk5 := hk5) _ _ _ _ _ _ _ _ ws h
def m_X11_slips_b62 (k5 : Nat → Int32 → Int32 → Int32 → Int32 → LWd → Option (Int32 × LWd)) (a0 : Nat) (i1 : Int32) (i2 : Int32) (i3 : Int32) (i4 : Int32) (i5 : Int32) (s0 : Int32) (ws : LWd) : Option (Int32 × LWd) :=
  bn2 (calSR ws (m_X11_isPoint i5 s0 ws)) fun x3 w1 =>
  if x3 = 0 then
    m_X11_slips_b114 k5 a0 i1 i2 i3 i4 i5 s0 w1
  else
    (fR w1 a0 11 0).bind fun x5 =>
    bn2 (calSR w1 (m_X11_at i1 i2 w1)) fun x9 w7 =>
    (aI w7 x5 x9).bind fun x10 =>
    (fR w7 a0 11 0).bind fun x12 =>
    bn2 (calSR w7 (m_X11_at i5 s0 w7)) fun x16 w14 =>
    (aI w14 x12 x16).bind fun x17 =>
    (fR w14 a0 11 2).bind fun x19 =>
    bn2 (calSR w14 (m_X11_at i1 i2 w14)) fun x23 w21 =>
    (aI w21 x19 x23).bind fun x24 =>
    if (x10 - x17) ≤ x24 then
      m_X11_slips_b114 k5 a0 i1 i2 i3 i4 i5 s0 w21
    else
      m_X11_slips_b115 k5 a0 i1 i2 i3 i4 i5 s0 1 w21
set_option maxRecDepth 100000 in
set_option maxHeartbeats 4000000 in
theorem jm_X11_slips_b62 {n0 : Nat} {rr : Int32} {ws' : LWd} {k5 : Nat → Int32 → Int32 → Int32 → Int32 → LWd → Option (Int32 × LWd)} (hk5 : ∀ (a0 : Nat) (i1 : Int32) (i2 : Int32) (i3 : Int32) (i4 : Int32) (ws : LWd), k5 a0 i1 i2 i3 i4 ws = some (rr, ws') → JG (.inl false) cX11_slips 9 RX11 wsX11_slips (some .int) "slips" 2 0 0 n0 (.inl (some (.int rr)), ws') 5 [some (.ref a0), some (.int i1), some (.int i2), some (.int i3), some (.int i4), none, none, none, none] [] ws 0 0) (a0 : Nat) (i1 : Int32) (i2 : Int32) (i3 : Int32) (i4 : Int32) (i5 : Int32) (s0 : Int32) (ws : LWd) (h : m_X11_slips_b62 k5 a0 i1 i2 i3 i4 i5 s0 ws = some (rr, ws')) : JG (.inl false) cX11_slips 9 RX11 wsX11_slips (some .int) "slips" 2 0 0 n0 (.inl (some (.int rr)), ws') 62 [some (.ref a0), some (.int i1), some (.int i2), some (.int i3), some (.int i4), some (.int i5), none, none, none] [.int s0] ws 0 0 := by
  unfold m_X11_slips_b62 at h
  refine j_istore_6 (pc := 62) dX11_slips_62 (by decide) rfl ?_
  refine j_iload (pc := 64) dX11_slips_64 rfl ?_
  refine j_iload (pc := 66) dX11_slips_66 rfl ?_
  obtain ⟨x3, w1, e2, h⟩ := obS2 h
  have ge2 := calSR_of e2
  refine j_callS_g (pc := 68) (As := [.int i5, .int s0]) (k' := 0) (n' := 0) dX11_slips_68 (s_X11_isPoint ge2.1) (jgS lw_563 lw_564 lw_544 lw_562) rfl hy_X11_isPoint rfl (by decide) (by decide) (Nat.le_of_ble_eq_true rfl) (by decide) (by decide) (by decide) (by decide) (Or.inl ge2.2) ?_
  refine j_if_eq (pc := 71) (tgt := 114) dX11_slips_71 (by decide) (fun c4 => ?_) (fun c4 => ?_)
  · rw [if_pos c4] at h
    exact jm_X11_slips_b114 (hk5 := hk5) _ _ _ _ _ _ _ w1 h
  · rw [if_neg c4] at h
    refine j_aload_n (pc := 74) dX11_slips_74 rfl ?_
    obtain ⟨x5, e6, h⟩ := obS h
    refine j_getR (pc := 75) dX11_slips_75 (ci := 11) (kf := 0) rfl (jwi hw_X11) (by decide) (jwm lw_527) e6 ?_
    refine j_iload_n (pc := 78) dX11_slips_78 rfl ?_
    refine j_iload_n (pc := 79) dX11_slips_79 rfl ?_
    obtain ⟨x9, w7, e8, h⟩ := obS2 h
    have ge8 := calSR_of e8
    refine j_callS_g (pc := 80) (As := [.int i1, .int i2]) (k' := 0) (n' := 0) dX11_slips_80 (s_X11_at ge8.1) (jgS lw_556 lw_557 lw_544 lw_555) rfl hy_X11_at rfl (by decide) (by decide) (Nat.le_of_ble_eq_true rfl) (by decide) (by decide) (by decide) (by decide) (Or.inl ge8.2) ?_
    obtain ⟨x10, e11, h⟩ := obS h
    refine j_iald (pc := 83) dX11_slips_83 e11 ?_
    refine j_aload_n (pc := 84) dX11_slips_84 rfl ?_
    obtain ⟨x12, e13, h⟩ := obS h
    refine j_getR (pc := 85) dX11_slips_85 (ci := 11) (kf := 0) rfl (jwi hw_X11) (by decide) (jwm lw_527) e13 ?_
    refine j_iload (pc := 88) dX11_slips_88 rfl ?_
    refine j_iload (pc := 90) dX11_slips_90 rfl ?_
    obtain ⟨x16, w14, e15, h⟩ := obS2 h
    have ge15 := calSR_of e15
    refine j_callS_g (pc := 92) (As := [.int i5, .int s0]) (k' := 0) (n' := 0) dX11_slips_92 (s_X11_at ge15.1) (jgS lw_556 lw_557 lw_544 lw_555) rfl hy_X11_at rfl (by decide) (by decide) (Nat.le_of_ble_eq_true rfl) (by decide) (by decide) (by decide) (by decide) (Or.inl ge15.2) ?_
    obtain ⟨x17, e18, h⟩ := obS h
    refine j_iald (pc := 95) dX11_slips_95 e18 ?_
    refine j_isub (pc := 96) dX11_slips_96 ?_
    refine j_aload_n (pc := 97) dX11_slips_97 rfl ?_
    obtain ⟨x19, e20, h⟩ := obS h
    refine j_getR (pc := 98) dX11_slips_98 (ci := 11) (kf := 2) rfl (jwi hw_X11) (by decide) (jwm lw_525) e20 ?_
    refine j_iload_n (pc := 101) dX11_slips_101 rfl ?_
    refine j_iload_n (pc := 102) dX11_slips_102 rfl ?_
    obtain ⟨x23, w21, e22, h⟩ := obS2 h
    have ge22 := calSR_of e22
    refine j_callS_g (pc := 103) (As := [.int i1, .int i2]) (k' := 0) (n' := 0) dX11_slips_103 (s_X11_at ge22.1) (jgS lw_556 lw_557 lw_544 lw_555) rfl hy_X11_at rfl (by decide) (by decide) (Nat.le_of_ble_eq_true rfl) (by decide) (by decide) (by decide) (by decide) (Or.inl ge22.2) ?_
    obtain ⟨x24, e25, h⟩ := obS h
    refine j_iald (pc := 106) dX11_slips_106 e25 ?_
    refine j_icmp_le (pc := 107) (tgt := 114) dX11_slips_107 (by decide) (fun c26 => ?_) (fun c26 => ?_)
    · rw [if_pos c26] at h
      exact jm_X11_slips_b114 (hk5 := hk5) _ _ _ _ _ _ _ w21 h
    · rw [if_neg c26] at h
      refine j_iconst (pc := 110) dX11_slips_110 (v := 1) (by decide) ?_
      refine j_goto (pc := 111) (tgt := 115) dX11_slips_111 (by decide) ?_
      exact jm_X11_slips_b115 (hk5 := hk5) _ _ _ _ _ _ _ _ w21 h
def m_X11_slips_b36 (k5 : Nat → Int32 → Int32 → Int32 → Int32 → LWd → Option (Int32 × LWd)) (a0 : Nat) (i1 : Int32) (i2 : Int32) (i3 : Int32) (i4 : Int32) (s0 : Int32) (ws : LWd) : Option (Int32 × LWd) :=
  if i4 = 0 then
    m_X11_slips_b62 k5 a0 i1 i2 i3 i4 s0 (i2 - 1) ws
  else
    if i4 = 3 then
      m_X11_slips_b62 k5 a0 i1 i2 i3 i4 s0 (i2 + 1) ws
    else
      m_X11_slips_b62 k5 a0 i1 i2 i3 i4 s0 i2 ws
set_option maxRecDepth 100000 in
set_option maxHeartbeats 4000000 in
theorem jm_X11_slips_b36 {n0 : Nat} {rr : Int32} {ws' : LWd} {k5 : Nat → Int32 → Int32 → Int32 → Int32 → LWd → Option (Int32 × LWd)} (hk5 : ∀ (a0 : Nat) (i1 : Int32) (i2 : Int32) (i3 : Int32) (i4 : Int32) (ws : LWd), k5 a0 i1 i2 i3 i4 ws = some (rr, ws') → JG (.inl false) cX11_slips 9 RX11 wsX11_slips (some .int) "slips" 2 0 0 n0 (.inl (some (.int rr)), ws') 5 [some (.ref a0), some (.int i1), some (.int i2), some (.int i3), some (.int i4), none, none, none, none] [] ws 0 0) (a0 : Nat) (i1 : Int32) (i2 : Int32) (i3 : Int32) (i4 : Int32) (s0 : Int32) (ws : LWd) (h : m_X11_slips_b36 k5 a0 i1 i2 i3 i4 s0 ws = some (rr, ws')) : JG (.inl false) cX11_slips 9 RX11 wsX11_slips (some .int) "slips" 2 0 0 n0 (.inl (some (.int rr)), ws') 36 [some (.ref a0), some (.int i1), some (.int i2), some (.int i3), some (.int i4), none, none, none, none] [.int s0] ws 0 0 := by
  unfold m_X11_slips_b36 at h
  refine j_istore_5 (pc := 36) dX11_slips_36 (by decide) rfl ?_
  refine j_iload (pc := 38) dX11_slips_38 rfl ?_
  refine j_if_ne (pc := 40) (tgt := 49) dX11_slips_40 (by decide) (fun c1 => ?_) (fun c1 => ?_)
  · rw [if_neg c1] at h
    refine j_iload (pc := 49) dX11_slips_49 rfl ?_
    refine j_iconst (pc := 51) dX11_slips_51 (v := 3) (by decide) ?_
    refine j_icmp_ne (pc := 52) (tgt := 61) dX11_slips_52 (by decide) (fun c2 => ?_) (fun c2 => ?_)
    · rw [if_neg c2] at h
      refine j_iload_n (pc := 61) dX11_slips_61 rfl ?_
      exact jm_X11_slips_b62 (hk5 := hk5) _ _ _ _ _ _ _ ws h
    · rw [if_pos c2] at h
      refine j_iload_n (pc := 55) dX11_slips_55 rfl ?_
      refine j_iconst (pc := 56) dX11_slips_56 (v := 1) (by decide) ?_
      refine j_iadd (pc := 57) dX11_slips_57 ?_
      refine j_goto (pc := 58) (tgt := 62) dX11_slips_58 (by decide) ?_
      exact jm_X11_slips_b62 (hk5 := hk5) _ _ _ _ _ _ _ ws h
  · rw [if_pos c1] at h
    refine j_iload_n (pc := 43) dX11_slips_43 rfl ?_
    refine j_iconst (pc := 44) dX11_slips_44 (v := 1) (by decide) ?_
    refine j_isub (pc := 45) dX11_slips_45 ?_
    refine j_goto (pc := 46) (tgt := 62) dX11_slips_46 (by decide) ?_
    exact jm_X11_slips_b62 (hk5 := hk5) _ _ _ _ _ _ _ ws h
def m_X11_slips_l5 : Nat → Nat → Int32 → Int32 → Int32 → Int32 → LWd → Option (Int32 × LWd)
  | 0, _, _, _, _, _, _ => none
  | fu + 1, a0, i1, i2, i3, i4, ws =>
    if 4 ≤ i4 then
      some (i3, ws)
    else
      if i4 = 1 then
        m_X11_slips_b36 (fun z0 z1 z2 z3 z4 w => m_X11_slips_l5 fu z0 z1 z2 z3 z4 w) a0 i1 i2 i3 i4 (i1 - 1) ws
      else
        if i4 = 2 then
          m_X11_slips_b36 (fun z0 z1 z2 z3 z4 w => m_X11_slips_l5 fu z0 z1 z2 z3 z4 w) a0 i1 i2 i3 i4 (i1 + 1) ws
        else
          m_X11_slips_b36 (fun z0 z1 z2 z3 z4 w => m_X11_slips_l5 fu z0 z1 z2 z3 z4 w) a0 i1 i2 i3 i4 i1 ws
set_option maxRecDepth 100000 in
set_option maxHeartbeats 4000000 in
theorem jm_X11_slips_l5 {n0 : Nat} {rr : Int32} {ws' : LWd} : ∀ (fu : Nat) (a0 : Nat) (i1 : Int32) (i2 : Int32) (i3 : Int32) (i4 : Int32) (ws : LWd), m_X11_slips_l5 fu a0 i1 i2 i3 i4 ws = some (rr, ws') → JG (.inl false) cX11_slips 9 RX11 wsX11_slips (some .int) "slips" 2 0 0 n0 (.inl (some (.int rr)), ws') 5 [some (.ref a0), some (.int i1), some (.int i2), some (.int i3), some (.int i4), none, none, none, none] [] ws 0 0 := by
  intro fu
  induction fu with
  | zero => intro a0 i1 i2 i3 i4 ws h; cases h
  | succ fu ih =>
    intro a0 i1 i2 i3 i4 ws h
    rw [m_X11_slips_l5] at h
    refine j_iload (pc := 5) dX11_slips_5 rfl ?_
    refine j_iconst (pc := 7) dX11_slips_7 (v := 4) (by decide) ?_
    refine j_icmp_ge (pc := 8) (tgt := 178) dX11_slips_8 (by decide) (fun c1 => ?_) (fun c1 => ?_)
    · rw [if_pos c1] at h
      refine j_iload_n (pc := 178) dX11_slips_178 rfl ?_
      obtain ⟨rfl, rfl⟩ := jretS h
      exact j_iret (pc := 179) rfl dX11_slips_179 (by decide) (by decide) rfl
    · rw [if_neg c1] at h
      refine j_iload (pc := 11) dX11_slips_11 rfl ?_
      refine j_iconst (pc := 13) dX11_slips_13 (v := 1) (by decide) ?_
      refine j_icmp_ne (pc := 14) (tgt := 23) dX11_slips_14 (by decide) (fun c2 => ?_) (fun c2 => ?_)
      · rw [if_neg c2] at h
        refine j_iload (pc := 23) dX11_slips_23 rfl ?_
        refine j_iconst (pc := 25) dX11_slips_25 (v := 2) (by decide) ?_
        refine j_icmp_ne (pc := 26) (tgt := 35) dX11_slips_26 (by decide) (fun c3 => ?_) (fun c3 => ?_)
        · rw [if_neg c3] at h
          refine j_iload_n (pc := 35) dX11_slips_35 rfl ?_
          exact jm_X11_slips_b36 (hk5 := ih) _ _ _ _ _ _ ws h
        · rw [if_pos c3] at h
          refine j_iload_n (pc := 29) dX11_slips_29 rfl ?_
          refine j_iconst (pc := 30) dX11_slips_30 (v := 1) (by decide) ?_
          refine j_iadd (pc := 31) dX11_slips_31 ?_
          refine j_goto (pc := 32) (tgt := 36) dX11_slips_32 (by decide) ?_
          exact jm_X11_slips_b36 (hk5 := ih) _ _ _ _ _ _ ws h
      · rw [if_pos c2] at h
        refine j_iload_n (pc := 17) dX11_slips_17 rfl ?_
        refine j_iconst (pc := 18) dX11_slips_18 (v := 1) (by decide) ?_
        refine j_isub (pc := 19) dX11_slips_19 ?_
        refine j_goto (pc := 20) (tgt := 36) dX11_slips_20 (by decide) ?_
        exact jm_X11_slips_b36 (hk5 := ih) _ _ _ _ _ _ ws h
def m_X11_slips (a0 : Nat) (i1 : Int32) (i2 : Int32) (ws : LWd) : Option (Int32 × LWd) :=
  (rcv ws a0 11).bind fun _ =>
  m_X11_slips_l5 FU a0 i1 i2 ((-1)) 0 ws
set_option maxRecDepth 100000 in
set_option maxHeartbeats 4000000 in
theorem s_X11_slips {a0 : Nat} {i1 : Int32} {i2 : Int32} {ws : LWd} {rr : Int32} {ws' : LWd} (h : m_X11_slips a0 i1 i2 ws = some (rr, ws')) : jSp yX11_slips wsX11_slips 2 0 0 [.ref a0, .int i1, .int i2] ws (.inl (some (.int rr)), ws') := by
  unfold m_X11_slips at h
  refine j_entry (ret := (some .int)) (nm := "slips") (own := RX11) pl_X11 rfl rfl rfl (jcats (by rfl)) (Nat.le_of_ble_eq_true rfl) ?_
  show JG (.inl false) cX11_slips 9 RX11 wsX11_slips (some .int) "slips" 2 0 0 ws.length (.inl (some (.int rr)), ws') 0 [some (.ref a0), some (.int i1), some (.int i2), none, none, none, none, none, none] [] ws 0 0
  obtain ⟨_, _, h⟩ := obS h
  refine j_iconst (pc := 0) dX11_slips_0 (v := (-1)) (by decide) ?_
  refine j_istore_n_3 (pc := 1) dX11_slips_1 (by decide) rfl ?_
  refine j_iconst (pc := 2) dX11_slips_2 (v := 0) (by decide) ?_
  refine j_istore_4 (pc := 3) dX11_slips_3 (by decide) rfl ?_
  exact jm_X11_slips_l5 FU _ _ _ _ _ ws h
theorem r_X11_slips {a0 : Nat} {i1 : Int32} {i2 : Int32} {ws : LWd} {o : (Int32 × LWd)} (h : m_X11_slips a0 i1 i2 ws = some o) : ∃ fs, ws[a0]? = some (.inr (11, fs)) := rcv_in h
def wsX11_comesDown : List Cond := Cond.code yX11_comesDown cX11_comesDown 4 none :: jW
def m_X11_comesDown (a0 : Nat) (i1 : Int32) (i2 : Int32) (i3 : Int32) (ws : LWd) : Option LWd :=
  (rcv ws a0 11).bind fun _ =>
  (fR ws a0 11 15).bind fun x1 =>
  (sI ws x1 i1 i2).bind fun w3 =>
  (fR w3 a0 11 16).bind fun x5 =>
  (sI w3 x5 i1 i3).bind fun w7 =>
  (fI w7 a0 11 17).bind fun x9 =>
  (pV w7 a0 11 17 (.int (x9 ||| (1 <<< (i1 &&& 31))))).bind fun w11 =>
  some w11
set_option maxRecDepth 100000 in
set_option maxHeartbeats 4000000 in
theorem s_X11_comesDown {a0 : Nat} {i1 : Int32} {i2 : Int32} {i3 : Int32} {ws : LWd} {ws' : LWd} (h : m_X11_comesDown a0 i1 i2 i3 ws = some ws') : jSp yX11_comesDown wsX11_comesDown 0 0 0 [.ref a0, .int i1, .int i2, .int i3] ws (.inl none, ws') := by
  unfold m_X11_comesDown at h
  refine j_entry (ret := none) (nm := "comesDown") (own := RX11) pl_X11 rfl rfl rfl (jcats (by rfl)) (Nat.le_of_ble_eq_true rfl) ?_
  show JG (.inl false) cX11_comesDown 4 RX11 wsX11_comesDown none "comesDown" 0 0 0 ws.length (.inl none, ws') 0 [some (.ref a0), some (.int i1), some (.int i2), some (.int i3)] [] ws 0 0
  obtain ⟨_, _, h⟩ := obS h
  refine j_aload_n (pc := 0) dX11_comesDown_0 rfl ?_
  obtain ⟨x1, e2, h⟩ := obS h
  refine j_getR (pc := 1) dX11_comesDown_1 (ci := 11) (kf := 15) rfl (jwi hw_X11) (by decide) (jwm lw_535) e2 ?_
  refine j_iload_n (pc := 4) dX11_comesDown_4 rfl ?_
  refine j_iload_n (pc := 5) dX11_comesDown_5 rfl ?_
  obtain ⟨w3, e4, h⟩ := obS h
  refine j_iast (pc := 6) dX11_comesDown_6 e4 ?_
  refine j_aload_n (pc := 7) dX11_comesDown_7 rfl ?_
  obtain ⟨x5, e6, h⟩ := obS h
  refine j_getR (pc := 8) dX11_comesDown_8 (ci := 11) (kf := 16) rfl (jwi hw_X11) (by decide) (jwm lw_536) e6 ?_
  refine j_iload_n (pc := 11) dX11_comesDown_11 rfl ?_
  refine j_iload_n (pc := 12) dX11_comesDown_12 rfl ?_
  obtain ⟨w7, e8, h⟩ := obS h
  refine j_iast (pc := 13) dX11_comesDown_13 e8 ?_
  refine j_aload_n (pc := 14) dX11_comesDown_14 rfl ?_
  refine j_dup (pc := 15) dX11_comesDown_15 rfl ?_
  obtain ⟨x9, e10, h⟩ := obS h
  refine j_getI (pc := 16) dX11_comesDown_16 (ci := 11) (kf := 17) rfl (jwi hw_X11) (by decide) (jwm lw_546) e10 ?_
  refine j_iconst (pc := 19) dX11_comesDown_19 (v := 1) (by decide) ?_
  refine j_iload_n (pc := 20) dX11_comesDown_20 rfl ?_
  refine j_ishl (pc := 21) dX11_comesDown_21 ?_
  refine j_ior (pc := 22) dX11_comesDown_22 ?_
  obtain ⟨w11, e12, h⟩ := obS h
  refine j_putV (pc := 23) (ci := 11) (kf := 17) tyX11 tyX11_ok nmX11 dX11_comesDown_23 rfl (jwi hw_X11) (by decide) (jwm lw_546) rfl (fun _ => rfl) (fun _ => rfl) e12 ?_
  cases h
  exact j_vret (pc := 26) rfl dX11_comesDown_26 (by decide) (by decide) rfl
theorem r_X11_comesDown {a0 : Nat} {i1 : Int32} {i2 : Int32} {i3 : Int32} {ws : LWd} {o : LWd} (h : m_X11_comesDown a0 i1 i2 i3 ws = some o) : ∃ fs, ws[a0]? = some (.inr (11, fs)) := rcv_in h
def wsX11_sets : List Cond := Cond.code yX11_sets cX11_sets 8 none :: jW
def m_X11_sets_b64 (a0 : Nat) (i2 : Int32) (i3 : Int32) (ws : LWd) : Option LWd :=
  (calSV ws (m_X11_breaks a0 1 i2 i3 ws)).bind fun w1 =>
  some w1
set_option maxRecDepth 100000 in
set_option maxHeartbeats 4000000 in
theorem jm_X11_sets_b64 {n0 : Nat} {ws' : LWd} (a0 : Nat) (i2 : Int32) (i3 : Int32) (ws : LWd) (h : m_X11_sets_b64 a0 i2 i3 ws = some ws') : JG (.inl false) cX11_sets 8 RX11 wsX11_sets none "sets" 3 0 0 n0 (.inl none, ws') 64 [some (.ref a0), none, some (.int i2), some (.int i3), none, none, none, none] [] ws 0 0 := by
  unfold m_X11_sets_b64 at h
  refine j_aload_n (pc := 64) dX11_sets_64 rfl ?_
  refine j_iconst (pc := 65) dX11_sets_65 (v := 1) (by decide) ?_
  refine j_iload_n (pc := 66) dX11_sets_66 rfl ?_
  refine j_iload_n (pc := 67) dX11_sets_67 rfl ?_
  obtain ⟨w1, e2, h⟩ := obS h
  have ge2 := calSV_of e2
  refine j_callV_g (pc := 68) (As := [.int 1, .int i2, .int i3]) (k' := 0) (n' := 0) dX11_sets_68 (s_X11_breaks ge2.1) (jgV lw_613 lw_614 lw_615 lw_544 lw_612) rfl hv_X11_breaks rfl (r_X11_breaks ge2.1) rfl (by decide) (by decide) (Nat.le_of_ble_eq_true rfl) (by decide) (by decide) (by decide) (by decide) (Or.inl ge2.2) ?_
  refine j_goto (pc := 71) (tgt := 158) dX11_sets_71 (by decide) ?_
  cases h
  exact j_vret (pc := 158) rfl dX11_sets_158 (by decide) (by decide) rfl
def m_X11_sets (a0 : Nat) (i1 : Int32) (i2 : Int32) (i3 : Int32) (ws : LWd) : Option LWd :=
  (rcv ws a0 11).bind fun _ =>
  (fR ws a0 11 0).bind fun x1 =>
  bn2 (calSR ws (m_X11_at i2 i3 ws)) fun x5 w3 =>
  (aI w3 x1 x5).bind fun x6 =>
  (fR w3 a0 11 3).bind fun x8 =>
  bn2 (calSR w3 (m_X11_at i2 i3 w3)) fun x12 w10 =>
  (aI w10 x8 x12).bind fun x13 =>
  bn2 (calSR w10 (m_X11_slips a0 i2 i3 w10)) fun x17 w15 =>
  (fR w15 a0 11 3).bind fun x18 =>
  bn2 (calSR w15 (m_X11_at i2 i3 w15)) fun x22 w20 =>
  (fR w20 a0 11 0).bind fun x23 =>
  bn2 (calSR w20 (m_X11_at i2 i3 w20)) fun x27 w25 =>
  (aI w25 x23 x27).bind fun x28 =>
  (sI w25 x18 x22 x28).bind fun w30 =>
  if 2 ≤ (x6 - x13) then
    m_X11_sets_b64 a0 i2 i3 w30
  else
    if ((-2)) < (x6 - x13) then
      if x17 = ((-1)) then
        (calSV w30 (m_X11_comesDown a0 i1 i2 i3 w30)).bind fun w35 =>
        some w35
      else
        (calSV w30 (m_X11_breaks a0 3 i2 i3 w30)).bind fun w37 =>
        (fR w37 a0 11 3).bind fun x39 =>
        (fR w37 a0 11 0).bind fun x41 =>
        (aI w37 x41 x17).bind fun x43 =>
        (sI w37 x39 x17 x43).bind fun w45 =>
        bn2 (calSR w45 (m_X11_isInReach a0 i1 (jrem x17 20) (x17 / 20) w45)) fun x49 w47 =>
        if x49 = 0 then
          some w47
        else
          bn2 (calSR w47 (m_X11_footAt a0 (jrem x17 20) (x17 / 20) w47)) fun x53 w51 =>
          if x53 = ((-1)) then
            (calSV w51 (m_X11_comesDown a0 i1 (jrem x17 20) (x17 / 20) w51)).bind fun w55 =>
            some w55
          else
            some w51
    else
      m_X11_sets_b64 a0 i2 i3 w30
set_option maxRecDepth 100000 in
set_option maxHeartbeats 4000000 in
theorem s_X11_sets {a0 : Nat} {i1 : Int32} {i2 : Int32} {i3 : Int32} {ws : LWd} {ws' : LWd} (h : m_X11_sets a0 i1 i2 i3 ws = some ws') : jSp yX11_sets wsX11_sets 3 0 0 [.ref a0, .int i1, .int i2, .int i3] ws (.inl none, ws') := by
  unfold m_X11_sets at h
  refine j_entry (ret := none) (nm := "sets") (own := RX11) pl_X11 rfl rfl rfl (jcats (by rfl)) (Nat.le_of_ble_eq_true rfl) ?_
  show JG (.inl false) cX11_sets 8 RX11 wsX11_sets none "sets" 3 0 0 ws.length (.inl none, ws') 0 [some (.ref a0), some (.int i1), some (.int i2), some (.int i3), none, none, none, none] [] ws 0 0
  obtain ⟨_, _, h⟩ := obS h
  refine j_aload_n (pc := 0) dX11_sets_0 rfl ?_
  obtain ⟨x1, e2, h⟩ := obS h
  refine j_getR (pc := 1) dX11_sets_1 (ci := 11) (kf := 0) rfl (jwi hw_X11) (by decide) (jwm lw_527) e2 ?_
  refine j_iload_n (pc := 4) dX11_sets_4 rfl ?_
  refine j_iload_n (pc := 5) dX11_sets_5 rfl ?_
  obtain ⟨x5, w3, e4, h⟩ := obS2 h
  have ge4 := calSR_of e4
  refine j_callS_g (pc := 6) (As := [.int i2, .int i3]) (k' := 0) (n' := 0) dX11_sets_6 (s_X11_at ge4.1) (jgS lw_556 lw_557 lw_544 lw_555) rfl hy_X11_at rfl (by decide) (by decide) (Nat.le_of_ble_eq_true rfl) (by decide) (by decide) (by decide) (by decide) (Or.inl ge4.2) ?_
  obtain ⟨x6, e7, h⟩ := obS h
  refine j_iald (pc := 9) dX11_sets_9 e7 ?_
  refine j_aload_n (pc := 10) dX11_sets_10 rfl ?_
  obtain ⟨x8, e9, h⟩ := obS h
  refine j_getR (pc := 11) dX11_sets_11 (ci := 11) (kf := 3) rfl (jwi hw_X11) (by decide) (jwm lw_528) e9 ?_
  refine j_iload_n (pc := 14) dX11_sets_14 rfl ?_
  refine j_iload_n (pc := 15) dX11_sets_15 rfl ?_
  obtain ⟨x12, w10, e11, h⟩ := obS2 h
  have ge11 := calSR_of e11
  refine j_callS_g (pc := 16) (As := [.int i2, .int i3]) (k' := 0) (n' := 0) dX11_sets_16 (s_X11_at ge11.1) (jgS lw_556 lw_557 lw_544 lw_555) rfl hy_X11_at rfl (by decide) (by decide) (Nat.le_of_ble_eq_true rfl) (by decide) (by decide) (by decide) (by decide) (Or.inl ge11.2) ?_
  obtain ⟨x13, e14, h⟩ := obS h
  refine j_iald (pc := 19) dX11_sets_19 e14 ?_
  refine j_isub (pc := 20) dX11_sets_20 ?_
  refine j_istore_4 (pc := 21) dX11_sets_21 (by decide) rfl ?_
  refine j_aload_n (pc := 23) dX11_sets_23 rfl ?_
  refine j_iload_n (pc := 24) dX11_sets_24 rfl ?_
  refine j_iload_n (pc := 25) dX11_sets_25 rfl ?_
  obtain ⟨x17, w15, e16, h⟩ := obS2 h
  have ge16 := calSR_of e16
  refine j_callV_g (pc := 26) (As := [.int i2, .int i3]) (k' := 0) (n' := 0) dX11_sets_26 (s_X11_slips ge16.1) (jgV lw_617 lw_618 lw_619 lw_544 lw_616) rfl hv_X11_slips rfl (r_X11_slips ge16.1) rfl (by decide) (by decide) (Nat.le_of_ble_eq_true rfl) (by decide) (by decide) (by decide) (by decide) (Or.inl ge16.2) ?_
  refine j_istore_5 (pc := 29) dX11_sets_29 (by decide) rfl ?_
  refine j_aload_n (pc := 31) dX11_sets_31 rfl ?_
  obtain ⟨x18, e19, h⟩ := obS h
  refine j_getR (pc := 32) dX11_sets_32 (ci := 11) (kf := 3) rfl (jwi hw_X11) (by decide) (jwm lw_528) e19 ?_
  refine j_iload_n (pc := 35) dX11_sets_35 rfl ?_
  refine j_iload_n (pc := 36) dX11_sets_36 rfl ?_
  obtain ⟨x22, w20, e21, h⟩ := obS2 h
  have ge21 := calSR_of e21
  refine j_callS_g (pc := 37) (As := [.int i2, .int i3]) (k' := 0) (n' := 0) dX11_sets_37 (s_X11_at ge21.1) (jgS lw_556 lw_557 lw_544 lw_555) rfl hy_X11_at rfl (by decide) (by decide) (Nat.le_of_ble_eq_true rfl) (by decide) (by decide) (by decide) (by decide) (Or.inl ge21.2) ?_
  refine j_aload_n (pc := 40) dX11_sets_40 rfl ?_
  obtain ⟨x23, e24, h⟩ := obS h
  refine j_getR (pc := 41) dX11_sets_41 (ci := 11) (kf := 0) rfl (jwi hw_X11) (by decide) (jwm lw_527) e24 ?_
  refine j_iload_n (pc := 44) dX11_sets_44 rfl ?_
  refine j_iload_n (pc := 45) dX11_sets_45 rfl ?_
  obtain ⟨x27, w25, e26, h⟩ := obS2 h
  have ge26 := calSR_of e26
  refine j_callS_g (pc := 46) (As := [.int i2, .int i3]) (k' := 0) (n' := 0) dX11_sets_46 (s_X11_at ge26.1) (jgS lw_556 lw_557 lw_544 lw_555) rfl hy_X11_at rfl (by decide) (by decide) (Nat.le_of_ble_eq_true rfl) (by decide) (by decide) (by decide) (by decide) (Or.inl ge26.2) ?_
  obtain ⟨x28, e29, h⟩ := obS h
  refine j_iald (pc := 49) dX11_sets_49 e29 ?_
  obtain ⟨w30, e31, h⟩ := obS h
  refine j_iast (pc := 50) dX11_sets_50 e31 ?_
  refine j_iload (pc := 51) dX11_sets_51 rfl ?_
  refine j_iconst (pc := 53) dX11_sets_53 (v := 2) (by decide) ?_
  refine j_icmp_ge (pc := 54) (tgt := 64) dX11_sets_54 (by decide) (fun c32 => ?_) (fun c32 => ?_)
  · rw [if_pos c32] at h
    refine j_mask [true, false, true, true, false, false, false, false] ?_
    exact jm_X11_sets_b64 _ _ _ w30 h
  · rw [if_neg c32] at h
    refine j_iload (pc := 57) dX11_sets_57 rfl ?_
    refine j_bipush (pc := 59) dX11_sets_59 (v := (-2)) (by decide) ?_
    refine j_icmp_gt (pc := 61) (tgt := 74) dX11_sets_61 (by decide) (fun c33 => ?_) (fun c33 => ?_)
    · rw [if_pos c33] at h
      refine j_iload (pc := 74) dX11_sets_74 rfl ?_
      refine j_iconst (pc := 76) dX11_sets_76 (v := (-1)) (by decide) ?_
      refine j_icmp_eq (pc := 77) (tgt := 151) dX11_sets_77 (by decide) (fun c34 => ?_) (fun c34 => ?_)
      · rw [if_pos c34] at h
        refine j_aload_n (pc := 151) dX11_sets_151 rfl ?_
        refine j_iload_n (pc := 152) dX11_sets_152 rfl ?_
        refine j_iload_n (pc := 153) dX11_sets_153 rfl ?_
        refine j_iload_n (pc := 154) dX11_sets_154 rfl ?_
        obtain ⟨w35, e36, h⟩ := obS h
        have ge36 := calSV_of e36
        refine j_callV_g (pc := 155) (As := [.int i1, .int i2, .int i3]) (k' := 0) (n' := 0) dX11_sets_155 (s_X11_comesDown ge36.1) (jgV lw_621 lw_622 lw_623 lw_544 lw_620) rfl hv_X11_comesDown rfl (r_X11_comesDown ge36.1) rfl (by decide) (by decide) (Nat.le_of_ble_eq_true rfl) (by decide) (by decide) (by decide) (by decide) (Or.inl ge36.2) ?_
        cases h
        exact j_vret (pc := 158) rfl dX11_sets_158 (by decide) (by decide) rfl
      · rw [if_neg c34] at h
        refine j_aload_n (pc := 80) dX11_sets_80 rfl ?_
        refine j_iconst (pc := 81) dX11_sets_81 (v := 3) (by decide) ?_
        refine j_iload_n (pc := 82) dX11_sets_82 rfl ?_
        refine j_iload_n (pc := 83) dX11_sets_83 rfl ?_
        obtain ⟨w37, e38, h⟩ := obS h
        have ge38 := calSV_of e38
        refine j_callV_g (pc := 84) (As := [.int 3, .int i2, .int i3]) (k' := 0) (n' := 0) dX11_sets_84 (s_X11_breaks ge38.1) (jgV lw_613 lw_614 lw_615 lw_544 lw_612) rfl hv_X11_breaks rfl (r_X11_breaks ge38.1) rfl (by decide) (by decide) (Nat.le_of_ble_eq_true rfl) (by decide) (by decide) (by decide) (by decide) (Or.inl ge38.2) ?_
        refine j_aload_n (pc := 87) dX11_sets_87 rfl ?_
        obtain ⟨x39, e40, h⟩ := obS h
        refine j_getR (pc := 88) dX11_sets_88 (ci := 11) (kf := 3) rfl (jwi hw_X11) (by decide) (jwm lw_528) e40 ?_
        refine j_iload (pc := 91) dX11_sets_91 rfl ?_
        refine j_aload_n (pc := 93) dX11_sets_93 rfl ?_
        obtain ⟨x41, e42, h⟩ := obS h
        refine j_getR (pc := 94) dX11_sets_94 (ci := 11) (kf := 0) rfl (jwi hw_X11) (by decide) (jwm lw_527) e42 ?_
        refine j_iload (pc := 97) dX11_sets_97 rfl ?_
        obtain ⟨x43, e44, h⟩ := obS h
        refine j_iald (pc := 99) dX11_sets_99 e44 ?_
        obtain ⟨w45, e46, h⟩ := obS h
        refine j_iast (pc := 100) dX11_sets_100 e46 ?_
        refine j_iload (pc := 101) dX11_sets_101 rfl ?_
        refine j_bipush (pc := 103) dX11_sets_103 (v := 20) (by decide) ?_
        refine j_irem (pc := 105) dX11_sets_105 (by decide) ?_
        refine j_istore_6 (pc := 106) dX11_sets_106 (by decide) rfl ?_
        refine j_iload (pc := 108) dX11_sets_108 rfl ?_
        refine j_bipush (pc := 110) dX11_sets_110 (v := 20) (by decide) ?_
        refine j_idiv (pc := 112) dX11_sets_112 (by decide) ?_
        refine j_istore_7 (pc := 113) dX11_sets_113 (by decide) rfl ?_
        refine j_aload_n (pc := 115) dX11_sets_115 rfl ?_
        refine j_iload_n (pc := 116) dX11_sets_116 rfl ?_
        refine j_iload (pc := 117) dX11_sets_117 rfl ?_
        refine j_iload (pc := 119) dX11_sets_119 rfl ?_
        obtain ⟨x49, w47, e48, h⟩ := obS2 h
        have ge48 := calSR_of e48
        refine j_callV_g (pc := 121) (As := [.int i1, .int (jrem x17 20), .int (x17 / 20)]) (k' := 0) (n' := 0) dX11_sets_121 (s_X11_isInReach ge48.1) (jgV lw_625 lw_626 lw_627 lw_544 lw_624) rfl hv_X11_isInReach rfl (r_X11_isInReach ge48.1) rfl (by decide) (by decide) (Nat.le_of_ble_eq_true rfl) (by decide) (by decide) (by decide) (by decide) (Or.inl ge48.2) ?_
        refine j_if_eq (pc := 124) (tgt := 148) dX11_sets_124 (by decide) (fun c50 => ?_) (fun c50 => ?_)
        · rw [if_pos c50] at h
          refine j_goto (pc := 148) (tgt := 158) dX11_sets_148 (by decide) ?_
          cases h
          exact j_vret (pc := 158) rfl dX11_sets_158 (by decide) (by decide) rfl
        · rw [if_neg c50] at h
          refine j_aload_n (pc := 127) dX11_sets_127 rfl ?_
          refine j_iload (pc := 128) dX11_sets_128 rfl ?_
          refine j_iload (pc := 130) dX11_sets_130 rfl ?_
          obtain ⟨x53, w51, e52, h⟩ := obS2 h
          have ge52 := calSR_of e52
          refine j_callV_g (pc := 132) (As := [.int (jrem x17 20), .int (x17 / 20)]) (k' := 0) (n' := 0) dX11_sets_132 (s_X11_footAt ge52.1) (jgV lw_559 lw_560 lw_561 lw_544 lw_558) rfl hv_X11_footAt rfl (r_X11_footAt ge52.1) rfl (by decide) (by decide) (Nat.le_of_ble_eq_true rfl) (by decide) (by decide) (by decide) (by decide) (Or.inl ge52.2) ?_
          refine j_iconst (pc := 135) dX11_sets_135 (v := (-1)) (by decide) ?_
          refine j_icmp_ne (pc := 136) (tgt := 148) dX11_sets_136 (by decide) (fun c54 => ?_) (fun c54 => ?_)
          · rw [if_neg c54] at h
            refine j_goto (pc := 148) (tgt := 158) dX11_sets_148 (by decide) ?_
            cases h
            exact j_vret (pc := 158) rfl dX11_sets_158 (by decide) (by decide) rfl
          · rw [if_pos c54] at h
            refine j_aload_n (pc := 139) dX11_sets_139 rfl ?_
            refine j_iload_n (pc := 140) dX11_sets_140 rfl ?_
            refine j_iload (pc := 141) dX11_sets_141 rfl ?_
            refine j_iload (pc := 143) dX11_sets_143 rfl ?_
            obtain ⟨w55, e56, h⟩ := obS h
            have ge56 := calSV_of e56
            refine j_callV_g (pc := 145) (As := [.int i1, .int (jrem x17 20), .int (x17 / 20)]) (k' := 0) (n' := 0) dX11_sets_145 (s_X11_comesDown ge56.1) (jgV lw_621 lw_622 lw_623 lw_544 lw_620) rfl hv_X11_comesDown rfl (r_X11_comesDown ge56.1) rfl (by decide) (by decide) (Nat.le_of_ble_eq_true rfl) (by decide) (by decide) (by decide) (by decide) (Or.inl ge56.2) ?_
            refine j_goto (pc := 148) (tgt := 158) dX11_sets_148 (by decide) ?_
            cases h
            exact j_vret (pc := 158) rfl dX11_sets_158 (by decide) (by decide) rfl
    · rw [if_neg c33] at h
      refine j_mask [true, false, true, true, false, false, false, false] ?_
      exact jm_X11_sets_b64 _ _ _ w30 h
theorem r_X11_sets {a0 : Nat} {i1 : Int32} {i2 : Int32} {i3 : Int32} {ws : LWd} {o : LWd} (h : m_X11_sets a0 i1 i2 i3 ws = some o) : ∃ fs, ws[a0]? = some (.inr (11, fs)) := rcv_in h
def wsX11_sinking : List Cond := Cond.code yX11_sinking cX11_sinking 5 (some .int) :: jW
def m_X11_sinking_b67 (k4 : Nat → Int32 → Int32 → Int32 → LWd → Option (Int32 × LWd)) (a0 : Nat) (i1 : Int32) (i3 : Int32) (s0 : Int32) (s1 : Int32) (ws : LWd) : Option (Int32 × LWd) :=
  k4 a0 i1 (s0 ||| s1) (i3 + 1) ws
set_option maxRecDepth 100000 in
set_option maxHeartbeats 4000000 in
theorem jm_X11_sinking_b67 {n0 : Nat} {rr : Int32} {ws' : LWd} {k4 : Nat → Int32 → Int32 → Int32 → LWd → Option (Int32 × LWd)} (hk4 : ∀ (a0 : Nat) (i1 : Int32) (i2 : Int32) (i3 : Int32) (ws : LWd), k4 a0 i1 i2 i3 ws = some (rr, ws') → JG (.inl false) cX11_sinking 5 RX11 wsX11_sinking (some .int) "sinking" 2 0 0 n0 (.inl (some (.int rr)), ws') 4 [some (.ref a0), some (.int i1), some (.int i2), some (.int i3), none] [] ws 0 0) (a0 : Nat) (i1 : Int32) (i3 : Int32) (s0 : Int32) (s1 : Int32) (ws : LWd) (h : m_X11_sinking_b67 k4 a0 i1 i3 s0 s1 ws = some (rr, ws')) : JG (.inl false) cX11_sinking 5 RX11 wsX11_sinking (some .int) "sinking" 2 0 0 n0 (.inl (some (.int rr)), ws') 67 [some (.ref a0), some (.int i1), none, some (.int i3), none] [.int s1, .int s0] ws 0 0 := by
  unfold m_X11_sinking_b67 at h
  refine j_ior (pc := 67) dX11_sinking_67 ?_
  refine j_istore_n_2 (pc := 68) dX11_sinking_68 (by decide) rfl ?_
  refine j_iinc_3 (pc := 69) dX11_sinking_69 (y := i3 + 1) rfl (by decide) rfl ?_
  refine j_goto (pc := 72) (tgt := 4) dX11_sinking_72 (by decide) ?_
  exact hk4 _ _ _ _ ws h
def m_X11_sinking_b52 (k4 : Nat → Int32 → Int32 → Int32 → LWd → Option (Int32 × LWd)) (a0 : Nat) (i1 : Int32) (i2 : Int32) (i3 : Int32) (s0 : Int32) (ws : LWd) : Option (Int32 × LWd) :=
  if s0 = 0 then
    m_X11_sinking_b67 k4 a0 i1 i3 i2 0 ws
  else
    m_X11_sinking_b67 k4 a0 i1 i3 i2 (1 <<< (i3 &&& 31)) ws
set_option maxRecDepth 100000 in
set_option maxHeartbeats 4000000 in
theorem jm_X11_sinking_b52 {n0 : Nat} {rr : Int32} {ws' : LWd} {k4 : Nat → Int32 → Int32 → Int32 → LWd → Option (Int32 × LWd)} (hk4 : ∀ (a0 : Nat) (i1 : Int32) (i2 : Int32) (i3 : Int32) (ws : LWd), k4 a0 i1 i2 i3 ws = some (rr, ws') → JG (.inl false) cX11_sinking 5 RX11 wsX11_sinking (some .int) "sinking" 2 0 0 n0 (.inl (some (.int rr)), ws') 4 [some (.ref a0), some (.int i1), some (.int i2), some (.int i3), none] [] ws 0 0) (a0 : Nat) (i1 : Int32) (i2 : Int32) (i3 : Int32) (s0 : Int32) (ws : LWd) (h : m_X11_sinking_b52 k4 a0 i1 i2 i3 s0 ws = some (rr, ws')) : JG (.inl false) cX11_sinking 5 RX11 wsX11_sinking (some .int) "sinking" 2 0 0 n0 (.inl (some (.int rr)), ws') 52 [some (.ref a0), some (.int i1), some (.int i2), some (.int i3), none] [.int s0] ws 0 0 := by
  unfold m_X11_sinking_b52 at h
  refine j_istore_4 (pc := 52) dX11_sinking_52 (by decide) rfl ?_
  refine j_iload_n (pc := 54) dX11_sinking_54 rfl ?_
  refine j_iload (pc := 55) dX11_sinking_55 rfl ?_
  refine j_if_eq (pc := 57) (tgt := 66) dX11_sinking_57 (by decide) (fun c1 => ?_) (fun c1 => ?_)
  · rw [if_pos c1] at h
    refine j_iconst (pc := 66) dX11_sinking_66 (v := 0) (by decide) ?_
    refine j_mask [true, true, false, true, false] ?_
    exact jm_X11_sinking_b67 (hk4 := hk4) _ _ _ _ _ ws h
  · rw [if_neg c1] at h
    refine j_iconst (pc := 60) dX11_sinking_60 (v := 1) (by decide) ?_
    refine j_iload_n (pc := 61) dX11_sinking_61 rfl ?_
    refine j_ishl (pc := 62) dX11_sinking_62 ?_
    refine j_goto (pc := 63) (tgt := 67) dX11_sinking_63 (by decide) ?_
    refine j_mask [true, true, false, true, false] ?_
    exact jm_X11_sinking_b67 (hk4 := hk4) _ _ _ _ _ ws h
def m_X11_sinking_b51 (k4 : Nat → Int32 → Int32 → Int32 → LWd → Option (Int32 × LWd)) (a0 : Nat) (i1 : Int32) (i2 : Int32) (i3 : Int32) (ws : LWd) : Option (Int32 × LWd) :=
  m_X11_sinking_b52 k4 a0 i1 i2 i3 0 ws
set_option maxRecDepth 100000 in
set_option maxHeartbeats 4000000 in
theorem jm_X11_sinking_b51 {n0 : Nat} {rr : Int32} {ws' : LWd} {k4 : Nat → Int32 → Int32 → Int32 → LWd → Option (Int32 × LWd)} (hk4 : ∀ (a0 : Nat) (i1 : Int32) (i2 : Int32) (i3 : Int32) (ws : LWd), k4 a0 i1 i2 i3 ws = some (rr, ws') → JG (.inl false) cX11_sinking 5 RX11 wsX11_sinking (some .int) "sinking" 2 0 0 n0 (.inl (some (.int rr)), ws') 4 [some (.ref a0), some (.int i1), some (.int i2), some (.int i3), none] [] ws 0 0) (a0 : Nat) (i1 : Int32) (i2 : Int32) (i3 : Int32) (ws : LWd) (h : m_X11_sinking_b51 k4 a0 i1 i2 i3 ws = some (rr, ws')) : JG (.inl false) cX11_sinking 5 RX11 wsX11_sinking (some .int) "sinking" 2 0 0 n0 (.inl (some (.int rr)), ws') 51 [some (.ref a0), some (.int i1), some (.int i2), some (.int i3), none] [] ws 0 0 := by
  unfold m_X11_sinking_b51 at h
  refine j_iconst (pc := 51) dX11_sinking_51 (v := 0) (by decide) ?_
  exact jm_X11_sinking_b52 (hk4 := hk4) _ _ _ _ _ ws h
def m_X11_sinking_l4 : Nat → Nat → Int32 → Int32 → Int32 → LWd → Option (Int32 × LWd)
  | 0, _, _, _, _, _ => none
  | fu + 1, a0, i1, i2, i3, ws =>
    if 6 ≤ i3 then
      some (i2, ws)
    else
      if ((i1 >>> (i3 &&& 31)) &&& 1) = 1 then
        (fR ws a0 11 1).bind fun x3 =>
        (fR ws a0 11 15).bind fun x5 =>
        (aI ws x5 i3).bind fun x7 =>
        (fR ws a0 11 16).bind fun x9 =>
        (aI ws x9 i3).bind fun x11 =>
        bn2 (calSR ws (m_X11_at x7 x11 ws)) fun x15 w13 =>
        (aI w13 x3 x15).bind fun x16 =>
        bn2 (calSR w13 (m_X11_pressure a0 i1 w13)) fun x20 w18 =>
        if x20 ≤ x16 then
          m_X11_sinking_b51 (fun z0 z1 z2 z3 w => m_X11_sinking_l4 fu z0 z1 z2 z3 w) a0 i1 i2 i3 w18
        else
          m_X11_sinking_b52 (fun z0 z1 z2 z3 w => m_X11_sinking_l4 fu z0 z1 z2 z3 w) a0 i1 i2 i3 1 w18
      else
        m_X11_sinking_b51 (fun z0 z1 z2 z3 w => m_X11_sinking_l4 fu z0 z1 z2 z3 w) a0 i1 i2 i3 ws
set_option maxRecDepth 100000 in
set_option maxHeartbeats 4000000 in
theorem jm_X11_sinking_l4 {n0 : Nat} {rr : Int32} {ws' : LWd} : ∀ (fu : Nat) (a0 : Nat) (i1 : Int32) (i2 : Int32) (i3 : Int32) (ws : LWd), m_X11_sinking_l4 fu a0 i1 i2 i3 ws = some (rr, ws') → JG (.inl false) cX11_sinking 5 RX11 wsX11_sinking (some .int) "sinking" 2 0 0 n0 (.inl (some (.int rr)), ws') 4 [some (.ref a0), some (.int i1), some (.int i2), some (.int i3), none] [] ws 0 0 := by
  intro fu
  induction fu with
  | zero => intro a0 i1 i2 i3 ws h; cases h
  | succ fu ih =>
    intro a0 i1 i2 i3 ws h
    rw [m_X11_sinking_l4] at h
    refine j_iload_n (pc := 4) dX11_sinking_4 rfl ?_
    refine j_bipush (pc := 5) dX11_sinking_5 (v := 6) (by decide) ?_
    refine j_icmp_ge (pc := 7) (tgt := 75) dX11_sinking_7 (by decide) (fun c1 => ?_) (fun c1 => ?_)
    · rw [if_pos c1] at h
      refine j_iload_n (pc := 75) dX11_sinking_75 rfl ?_
      obtain ⟨rfl, rfl⟩ := jretS h
      exact j_iret (pc := 76) rfl dX11_sinking_76 (by decide) (by decide) rfl
    · rw [if_neg c1] at h
      refine j_iload_n (pc := 10) dX11_sinking_10 rfl ?_
      refine j_iload_n (pc := 11) dX11_sinking_11 rfl ?_
      refine j_ishr (pc := 12) dX11_sinking_12 ?_
      refine j_iconst (pc := 13) dX11_sinking_13 (v := 1) (by decide) ?_
      refine j_iand (pc := 14) dX11_sinking_14 ?_
      refine j_iconst (pc := 15) dX11_sinking_15 (v := 1) (by decide) ?_
      refine j_icmp_ne (pc := 16) (tgt := 51) dX11_sinking_16 (by decide) (fun c2 => ?_) (fun c2 => ?_)
      · rw [if_neg c2] at h
        exact jm_X11_sinking_b51 (hk4 := ih) _ _ _ _ ws h
      · rw [if_pos c2] at h
        refine j_aload_n (pc := 19) dX11_sinking_19 rfl ?_
        obtain ⟨x3, e4, h⟩ := obS h
        refine j_getR (pc := 20) dX11_sinking_20 (ci := 11) (kf := 1) rfl (jwi hw_X11) (by decide) (jwm lw_524) e4 ?_
        refine j_aload_n (pc := 23) dX11_sinking_23 rfl ?_
        obtain ⟨x5, e6, h⟩ := obS h
        refine j_getR (pc := 24) dX11_sinking_24 (ci := 11) (kf := 15) rfl (jwi hw_X11) (by decide) (jwm lw_535) e6 ?_
        refine j_iload_n (pc := 27) dX11_sinking_27 rfl ?_
        obtain ⟨x7, e8, h⟩ := obS h
        refine j_iald (pc := 28) dX11_sinking_28 e8 ?_
        refine j_aload_n (pc := 29) dX11_sinking_29 rfl ?_
        obtain ⟨x9, e10, h⟩ := obS h
        refine j_getR (pc := 30) dX11_sinking_30 (ci := 11) (kf := 16) rfl (jwi hw_X11) (by decide) (jwm lw_536) e10 ?_
        refine j_iload_n (pc := 33) dX11_sinking_33 rfl ?_
        obtain ⟨x11, e12, h⟩ := obS h
        refine j_iald (pc := 34) dX11_sinking_34 e12 ?_
        obtain ⟨x15, w13, e14, h⟩ := obS2 h
        have ge14 := calSR_of e14
        refine j_callS_g (pc := 35) (As := [.int x7, .int x11]) (k' := 0) (n' := 0) dX11_sinking_35 (s_X11_at ge14.1) (jgS lw_556 lw_557 lw_544 lw_555) rfl hy_X11_at rfl (by decide) (by decide) (Nat.le_of_ble_eq_true rfl) (by decide) (by decide) (by decide) (by decide) (Or.inl ge14.2) ?_
        obtain ⟨x16, e17, h⟩ := obS h
        refine j_iald (pc := 38) dX11_sinking_38 e17 ?_
        refine j_aload_n (pc := 39) dX11_sinking_39 rfl ?_
        refine j_iload_n (pc := 40) dX11_sinking_40 rfl ?_
        obtain ⟨x20, w18, e19, h⟩ := obS2 h
        have ge19 := calSR_of e19
        refine j_callV_g (pc := 41) (As := [.int i1]) (k' := 0) (n' := 0) dX11_sinking_41 (s_X11_pressure ge19.1) (jgV lw_629 lw_630 lw_631 lw_544 lw_628) rfl hv_X11_pressure rfl (r_X11_pressure ge19.1) rfl (by decide) (by decide) (Nat.le_of_ble_eq_true rfl) (by decide) (by decide) (by decide) (by decide) (Or.inl ge19.2) ?_
        refine j_icmp_ge (pc := 44) (tgt := 51) dX11_sinking_44 (by decide) (fun c21 => ?_) (fun c21 => ?_)
        · rw [if_pos c21] at h
          exact jm_X11_sinking_b51 (hk4 := ih) _ _ _ _ w18 h
        · rw [if_neg c21] at h
          refine j_iconst (pc := 47) dX11_sinking_47 (v := 1) (by decide) ?_
          refine j_goto (pc := 48) (tgt := 52) dX11_sinking_48 (by decide) ?_
          exact jm_X11_sinking_b52 (hk4 := ih) _ _ _ _ _ w18 h
def m_X11_sinking (a0 : Nat) (i1 : Int32) (ws : LWd) : Option (Int32 × LWd) :=
  (rcv ws a0 11).bind fun _ =>
  m_X11_sinking_l4 FU a0 i1 0 0 ws
set_option maxRecDepth 100000 in
set_option maxHeartbeats 4000000 in
theorem s_X11_sinking {a0 : Nat} {i1 : Int32} {ws : LWd} {rr : Int32} {ws' : LWd} (h : m_X11_sinking a0 i1 ws = some (rr, ws')) : jSp yX11_sinking wsX11_sinking 2 0 0 [.ref a0, .int i1] ws (.inl (some (.int rr)), ws') := by
  unfold m_X11_sinking at h
  refine j_entry (ret := (some .int)) (nm := "sinking") (own := RX11) pl_X11 rfl rfl rfl (jcats (by rfl)) (Nat.le_of_ble_eq_true rfl) ?_
  show JG (.inl false) cX11_sinking 5 RX11 wsX11_sinking (some .int) "sinking" 2 0 0 ws.length (.inl (some (.int rr)), ws') 0 [some (.ref a0), some (.int i1), none, none, none] [] ws 0 0
  obtain ⟨_, _, h⟩ := obS h
  refine j_iconst (pc := 0) dX11_sinking_0 (v := 0) (by decide) ?_
  refine j_istore_n_2 (pc := 1) dX11_sinking_1 (by decide) rfl ?_
  refine j_iconst (pc := 2) dX11_sinking_2 (v := 0) (by decide) ?_
  refine j_istore_n_3 (pc := 3) dX11_sinking_3 (by decide) rfl ?_
  exact jm_X11_sinking_l4 FU _ _ _ _ ws h
theorem r_X11_sinking {a0 : Nat} {i1 : Int32} {ws : LWd} {o : (Int32 × LWd)} (h : m_X11_sinking a0 i1 ws = some o) : ∃ fs, ws[a0]? = some (.inr (11, fs)) := rcv_in h
def wsX11_sinks : List Cond := Cond.code yX11_sinks cX11_sinks 4 none :: jW
def m_X11_sinks_b102 (k9 : Nat → Int32 → LWd → Option LWd) (k15 : Nat → Int32 → Int32 → LWd → Option LWd) (a0 : Nat) (i1 : Int32) (i2 : Int32) (ws : LWd) : Option LWd :=
  k15 a0 i1 (i2 + 1) ws
set_option maxRecDepth 100000 in
set_option maxHeartbeats 4000000 in
theorem jm_X11_sinks_b102 {n0 : Nat} {ws' : LWd} {k9 : Nat → Int32 → LWd → Option LWd} {k15 : Nat → Int32 → Int32 → LWd → Option LWd} (hk9 : ∀ (a0 : Nat) (i1 : Int32) (ws : LWd), k9 a0 i1 ws = some ws' → JG (.inl false) cX11_sinks 4 RX11 wsX11_sinks none "sinks" 3 0 0 n0 (.inl none, ws') 9 [some (.ref a0), some (.int i1), none, none] [] ws 0 0) (hk15 : ∀ (a0 : Nat) (i1 : Int32) (i2 : Int32) (ws : LWd), k15 a0 i1 i2 ws = some ws' → JG (.inl false) cX11_sinks 4 RX11 wsX11_sinks none "sinks" 3 0 0 n0 (.inl none, ws') 15 [some (.ref a0), some (.int i1), some (.int i2), none] [] ws 0 0) (a0 : Nat) (i1 : Int32) (i2 : Int32) (ws : LWd) (h : m_X11_sinks_b102 k9 k15 a0 i1 i2 ws = some ws') : JG (.inl false) cX11_sinks 4 RX11 wsX11_sinks none "sinks" 3 0 0 n0 (.inl none, ws') 102 [some (.ref a0), some (.int i1), some (.int i2), none] [] ws 0 0 := by
  unfold m_X11_sinks_b102 at h
  refine j_iinc_2 (pc := 102) dX11_sinks_102 (y := i2 + 1) rfl (by decide) rfl ?_
  refine j_goto (pc := 105) (tgt := 15) dX11_sinks_105 (by decide) ?_
  exact hk15 _ _ _ ws h
def m_X11_sinks_b72 (k9 : Nat → Int32 → LWd → Option LWd) (k15 : Nat → Int32 → Int32 → LWd → Option LWd) (a0 : Nat) (i1 : Int32) (i2 : Int32) (i3 : Int32) (s0 : Nat) (s1 : Int32) (s2 : Int32) (ws : LWd) : Option LWd :=
  (sI ws s0 s1 s2).bind fun w1 =>
  (fR w1 a0 11 3).bind fun x3 =>
  (fR w1 a0 11 0).bind fun x5 =>
  (aI w1 x5 i3).bind fun x7 =>
  (sI w1 x3 i3 x7).bind fun w9 =>
  (fR w9 a0 11 15).bind fun x11 =>
  (aI w9 x11 i2).bind fun x13 =>
  (fR w9 a0 11 16).bind fun x15 =>
  (aI w9 x15 i2).bind fun x17 =>
  (calSV w9 (m_X11_breaks a0 2 x13 x17 w9)).bind fun w19 =>
  m_X11_sinks_b102 k9 k15 a0 i1 i2 w19
set_option maxRecDepth 100000 in
set_option maxHeartbeats 4000000 in
theorem jm_X11_sinks_b72 {n0 : Nat} {ws' : LWd} {k9 : Nat → Int32 → LWd → Option LWd} {k15 : Nat → Int32 → Int32 → LWd → Option LWd} (hk9 : ∀ (a0 : Nat) (i1 : Int32) (ws : LWd), k9 a0 i1 ws = some ws' → JG (.inl false) cX11_sinks 4 RX11 wsX11_sinks none "sinks" 3 0 0 n0 (.inl none, ws') 9 [some (.ref a0), some (.int i1), none, none] [] ws 0 0) (hk15 : ∀ (a0 : Nat) (i1 : Int32) (i2 : Int32) (ws : LWd), k15 a0 i1 i2 ws = some ws' → JG (.inl false) cX11_sinks 4 RX11 wsX11_sinks none "sinks" 3 0 0 n0 (.inl none, ws') 15 [some (.ref a0), some (.int i1), some (.int i2), none] [] ws 0 0) (a0 : Nat) (i1 : Int32) (i2 : Int32) (i3 : Int32) (s0 : Nat) (s1 : Int32) (s2 : Int32) (ws : LWd) (h : m_X11_sinks_b72 k9 k15 a0 i1 i2 i3 s0 s1 s2 ws = some ws') : JG (.inl false) cX11_sinks 4 RX11 wsX11_sinks none "sinks" 3 0 0 n0 (.inl none, ws') 72 [some (.ref a0), some (.int i1), some (.int i2), some (.int i3)] [.int s2, .int s1, .ref s0] ws 0 0 := by
  unfold m_X11_sinks_b72 at h
  obtain ⟨w1, e2, h⟩ := obS h
  refine j_iast (pc := 72) dX11_sinks_72 e2 ?_
  refine j_aload_n (pc := 73) dX11_sinks_73 rfl ?_
  obtain ⟨x3, e4, h⟩ := obS h
  refine j_getR (pc := 74) dX11_sinks_74 (ci := 11) (kf := 3) rfl (jwi hw_X11) (by decide) (jwm lw_528) e4 ?_
  refine j_iload_n (pc := 77) dX11_sinks_77 rfl ?_
  refine j_aload_n (pc := 78) dX11_sinks_78 rfl ?_
  obtain ⟨x5, e6, h⟩ := obS h
  refine j_getR (pc := 79) dX11_sinks_79 (ci := 11) (kf := 0) rfl (jwi hw_X11) (by decide) (jwm lw_527) e6 ?_
  refine j_iload_n (pc := 82) dX11_sinks_82 rfl ?_
  obtain ⟨x7, e8, h⟩ := obS h
  refine j_iald (pc := 83) dX11_sinks_83 e8 ?_
  obtain ⟨w9, e10, h⟩ := obS h
  refine j_iast (pc := 84) dX11_sinks_84 e10 ?_
  refine j_aload_n (pc := 85) dX11_sinks_85 rfl ?_
  refine j_iconst (pc := 86) dX11_sinks_86 (v := 2) (by decide) ?_
  refine j_aload_n (pc := 87) dX11_sinks_87 rfl ?_
  obtain ⟨x11, e12, h⟩ := obS h
  refine j_getR (pc := 88) dX11_sinks_88 (ci := 11) (kf := 15) rfl (jwi hw_X11) (by decide) (jwm lw_535) e12 ?_
  refine j_iload_n (pc := 91) dX11_sinks_91 rfl ?_
  obtain ⟨x13, e14, h⟩ := obS h
  refine j_iald (pc := 92) dX11_sinks_92 e14 ?_
  refine j_aload_n (pc := 93) dX11_sinks_93 rfl ?_
  obtain ⟨x15, e16, h⟩ := obS h
  refine j_getR (pc := 94) dX11_sinks_94 (ci := 11) (kf := 16) rfl (jwi hw_X11) (by decide) (jwm lw_536) e16 ?_
  refine j_iload_n (pc := 97) dX11_sinks_97 rfl ?_
  obtain ⟨x17, e18, h⟩ := obS h
  refine j_iald (pc := 98) dX11_sinks_98 e18 ?_
  obtain ⟨w19, e20, h⟩ := obS h
  have ge20 := calSV_of e20
  refine j_callV_g (pc := 99) (As := [.int 2, .int x13, .int x17]) (k' := 0) (n' := 0) dX11_sinks_99 (s_X11_breaks ge20.1) (jgV lw_613 lw_614 lw_615 lw_544 lw_612) rfl hv_X11_breaks rfl (r_X11_breaks ge20.1) rfl (by decide) (by decide) (Nat.le_of_ble_eq_true rfl) (by decide) (by decide) (by decide) (by decide) (Or.inl ge20.2) ?_
  refine j_mask [true, true, true, false] ?_
  exact jm_X11_sinks_b102 (hk9 := hk9) (hk15 := hk15) _ _ _ w19 h
def m_X11_sinks_l15 (k9 : Nat → Int32 → LWd → Option LWd) : Nat → Nat → Int32 → Int32 → LWd → Option LWd
  | 0, _, _, _, _ => none
  | fu + 1, a0, i1, i2, ws =>
    if 6 ≤ i2 then
      (fI ws a0 11 17).bind fun x2 =>
      (pV ws a0 11 17 (.int (x2 &&& (i1 ^^^ ((-1)))))).bind fun w4 =>
      (fI w4 a0 11 17).bind fun x6 =>
      bn2 (calSR w4 (m_X11_sinking a0 x6 w4)) fun x10 w8 =>
      k9 a0 x10 w8
    else
      if ((i1 >>> (i2 &&& 31)) &&& 1) = 1 then
        (fR ws a0 11 15).bind fun x12 =>
        (aI ws x12 i2).bind fun x14 =>
        (fR ws a0 11 16).bind fun x16 =>
        (aI ws x16 i2).bind fun x18 =>
        bn2 (calSR ws (m_X11_at x14 x18 ws)) fun x22 w20 =>
        (fR w20 a0 11 0).bind fun x23 =>
        (fR w20 a0 11 0).bind fun x25 =>
        (aI w20 x25 x22).bind fun x27 =>
        if x27 ≤ 0 then
          m_X11_sinks_b72 k9 (fun z0 z1 z2 w => m_X11_sinks_l15 k9 fu z0 z1 z2 w) a0 i1 i2 x22 x23 x22 0 w20
        else
          (fR w20 a0 11 0).bind fun x30 =>
          (aI w20 x30 x22).bind fun x32 =>
          m_X11_sinks_b72 k9 (fun z0 z1 z2 w => m_X11_sinks_l15 k9 fu z0 z1 z2 w) a0 i1 i2 x22 x23 x22 (x32 - 1) w20
      else
        m_X11_sinks_b102 k9 (fun z0 z1 z2 w => m_X11_sinks_l15 k9 fu z0 z1 z2 w) a0 i1 i2 ws
set_option maxRecDepth 100000 in
set_option maxHeartbeats 4000000 in
theorem jm_X11_sinks_l15 {n0 : Nat} {ws' : LWd} {k9 : Nat → Int32 → LWd → Option LWd} (hk9 : ∀ (a0 : Nat) (i1 : Int32) (ws : LWd), k9 a0 i1 ws = some ws' → JG (.inl false) cX11_sinks 4 RX11 wsX11_sinks none "sinks" 3 0 0 n0 (.inl none, ws') 9 [some (.ref a0), some (.int i1), none, none] [] ws 0 0) : ∀ (fu : Nat) (a0 : Nat) (i1 : Int32) (i2 : Int32) (ws : LWd), m_X11_sinks_l15 k9 fu a0 i1 i2 ws = some ws' → JG (.inl false) cX11_sinks 4 RX11 wsX11_sinks none "sinks" 3 0 0 n0 (.inl none, ws') 15 [some (.ref a0), some (.int i1), some (.int i2), none] [] ws 0 0 := by
  intro fu
  induction fu with
  | zero => intro a0 i1 i2 ws h; cases h
  | succ fu ih =>
    intro a0 i1 i2 ws h
    rw [m_X11_sinks_l15] at h
    refine j_iload_n (pc := 15) dX11_sinks_15 rfl ?_
    refine j_bipush (pc := 16) dX11_sinks_16 (v := 6) (by decide) ?_
    refine j_icmp_ge (pc := 18) (tgt := 108) dX11_sinks_18 (by decide) (fun c1 => ?_) (fun c1 => ?_)
    · rw [if_pos c1] at h
      refine j_aload_n (pc := 108) dX11_sinks_108 rfl ?_
      refine j_dup (pc := 109) dX11_sinks_109 rfl ?_
      obtain ⟨x2, e3, h⟩ := obS h
      refine j_getI (pc := 110) dX11_sinks_110 (ci := 11) (kf := 17) rfl (jwi hw_X11) (by decide) (jwm lw_546) e3 ?_
      refine j_iload_n (pc := 113) dX11_sinks_113 rfl ?_
      refine j_iconst (pc := 114) dX11_sinks_114 (v := (-1)) (by decide) ?_
      refine j_ixor (pc := 115) dX11_sinks_115 ?_
      refine j_iand (pc := 116) dX11_sinks_116 ?_
      obtain ⟨w4, e5, h⟩ := obS h
      refine j_putV (pc := 117) (ci := 11) (kf := 17) tyX11 tyX11_ok nmX11 dX11_sinks_117 rfl (jwi hw_X11) (by decide) (jwm lw_546) rfl (fun _ => rfl) (fun _ => rfl) e5 ?_
      refine j_aload_n (pc := 120) dX11_sinks_120 rfl ?_
      refine j_aload_n (pc := 121) dX11_sinks_121 rfl ?_
      obtain ⟨x6, e7, h⟩ := obS h
      refine j_getI (pc := 122) dX11_sinks_122 (ci := 11) (kf := 17) rfl (jwi hw_X11) (by decide) (jwm lw_546) e7 ?_
      obtain ⟨x10, w8, e9, h⟩ := obS2 h
      have ge9 := calSR_of e9
      refine j_callV_g (pc := 125) (As := [.int x6]) (k' := 0) (n' := 0) dX11_sinks_125 (s_X11_sinking ge9.1) (jgV lw_633 lw_634 lw_635 lw_544 lw_632) rfl hv_X11_sinking rfl (r_X11_sinking ge9.1) rfl (by decide) (by decide) (Nat.le_of_ble_eq_true rfl) (by decide) (by decide) (by decide) (by decide) (Or.inl ge9.2) ?_
      refine j_istore_n_1 (pc := 128) dX11_sinks_128 (by decide) rfl ?_
      refine j_goto (pc := 129) (tgt := 9) dX11_sinks_129 (by decide) ?_
      refine j_mask [true, true, false, false] ?_
      exact hk9 _ _ w8 h
    · rw [if_neg c1] at h
      refine j_iload_n (pc := 21) dX11_sinks_21 rfl ?_
      refine j_iload_n (pc := 22) dX11_sinks_22 rfl ?_
      refine j_ishr (pc := 23) dX11_sinks_23 ?_
      refine j_iconst (pc := 24) dX11_sinks_24 (v := 1) (by decide) ?_
      refine j_iand (pc := 25) dX11_sinks_25 ?_
      refine j_iconst (pc := 26) dX11_sinks_26 (v := 1) (by decide) ?_
      refine j_icmp_ne (pc := 27) (tgt := 102) dX11_sinks_27 (by decide) (fun c11 => ?_) (fun c11 => ?_)
      · rw [if_neg c11] at h
        exact jm_X11_sinks_b102 (hk9 := hk9) (hk15 := ih) _ _ _ ws h
      · rw [if_pos c11] at h
        refine j_aload_n (pc := 30) dX11_sinks_30 rfl ?_
        obtain ⟨x12, e13, h⟩ := obS h
        refine j_getR (pc := 31) dX11_sinks_31 (ci := 11) (kf := 15) rfl (jwi hw_X11) (by decide) (jwm lw_535) e13 ?_
        refine j_iload_n (pc := 34) dX11_sinks_34 rfl ?_
        obtain ⟨x14, e15, h⟩ := obS h
        refine j_iald (pc := 35) dX11_sinks_35 e15 ?_
        refine j_aload_n (pc := 36) dX11_sinks_36 rfl ?_
        obtain ⟨x16, e17, h⟩ := obS h
        refine j_getR (pc := 37) dX11_sinks_37 (ci := 11) (kf := 16) rfl (jwi hw_X11) (by decide) (jwm lw_536) e17 ?_
        refine j_iload_n (pc := 40) dX11_sinks_40 rfl ?_
        obtain ⟨x18, e19, h⟩ := obS h
        refine j_iald (pc := 41) dX11_sinks_41 e19 ?_
        obtain ⟨x22, w20, e21, h⟩ := obS2 h
        have ge21 := calSR_of e21
        refine j_callS_g (pc := 42) (As := [.int x14, .int x18]) (k' := 0) (n' := 0) dX11_sinks_42 (s_X11_at ge21.1) (jgS lw_556 lw_557 lw_544 lw_555) rfl hy_X11_at rfl (by decide) (by decide) (Nat.le_of_ble_eq_true rfl) (by decide) (by decide) (by decide) (by decide) (Or.inl ge21.2) ?_
        refine j_istore_n_3 (pc := 45) dX11_sinks_45 (by decide) rfl ?_
        refine j_aload_n (pc := 46) dX11_sinks_46 rfl ?_
        obtain ⟨x23, e24, h⟩ := obS h
        refine j_getR (pc := 47) dX11_sinks_47 (ci := 11) (kf := 0) rfl (jwi hw_X11) (by decide) (jwm lw_527) e24 ?_
        refine j_iload_n (pc := 50) dX11_sinks_50 rfl ?_
        refine j_aload_n (pc := 51) dX11_sinks_51 rfl ?_
        obtain ⟨x25, e26, h⟩ := obS h
        refine j_getR (pc := 52) dX11_sinks_52 (ci := 11) (kf := 0) rfl (jwi hw_X11) (by decide) (jwm lw_527) e26 ?_
        refine j_iload_n (pc := 55) dX11_sinks_55 rfl ?_
        obtain ⟨x27, e28, h⟩ := obS h
        refine j_iald (pc := 56) dX11_sinks_56 e28 ?_
        refine j_if_le (pc := 57) (tgt := 71) dX11_sinks_57 (by decide) (fun c29 => ?_) (fun c29 => ?_)
        · rw [if_pos c29] at h
          refine j_iconst (pc := 71) dX11_sinks_71 (v := 0) (by decide) ?_
          exact jm_X11_sinks_b72 (hk9 := hk9) (hk15 := ih) _ _ _ _ _ _ _ w20 h
        · rw [if_neg c29] at h
          refine j_aload_n (pc := 60) dX11_sinks_60 rfl ?_
          obtain ⟨x30, e31, h⟩ := obS h
          refine j_getR (pc := 61) dX11_sinks_61 (ci := 11) (kf := 0) rfl (jwi hw_X11) (by decide) (jwm lw_527) e31 ?_
          refine j_iload_n (pc := 64) dX11_sinks_64 rfl ?_
          obtain ⟨x32, e33, h⟩ := obS h
          refine j_iald (pc := 65) dX11_sinks_65 e33 ?_
          refine j_iconst (pc := 66) dX11_sinks_66 (v := 1) (by decide) ?_
          refine j_isub (pc := 67) dX11_sinks_67 ?_
          refine j_goto (pc := 68) (tgt := 72) dX11_sinks_68 (by decide) ?_
          exact jm_X11_sinks_b72 (hk9 := hk9) (hk15 := ih) _ _ _ _ _ _ _ w20 h
def m_X11_sinks_l9 : Nat → Nat → Int32 → LWd → Option LWd
  | 0, _, _, _ => none
  | fu + 1, a0, i1, ws =>
    if i1 = 0 then
      some ws
    else
      m_X11_sinks_l15 (fun z0 z1 w => m_X11_sinks_l9 fu z0 z1 w) FU a0 i1 0 ws
set_option maxRecDepth 100000 in
set_option maxHeartbeats 4000000 in
theorem jm_X11_sinks_l9 {n0 : Nat} {ws' : LWd} : ∀ (fu : Nat) (a0 : Nat) (i1 : Int32) (ws : LWd), m_X11_sinks_l9 fu a0 i1 ws = some ws' → JG (.inl false) cX11_sinks 4 RX11 wsX11_sinks none "sinks" 3 0 0 n0 (.inl none, ws') 9 [some (.ref a0), some (.int i1), none, none] [] ws 0 0 := by
  intro fu
  induction fu with
  | zero => intro a0 i1 ws h; cases h
  | succ fu ih =>
    intro a0 i1 ws h
    rw [m_X11_sinks_l9] at h
    refine j_iload_n (pc := 9) dX11_sinks_9 rfl ?_
    refine j_if_eq (pc := 10) (tgt := 132) dX11_sinks_10 (by decide) (fun c1 => ?_) (fun c1 => ?_)
    · rw [if_pos c1] at h
      cases h
      exact j_vret (pc := 132) rfl dX11_sinks_132 (by decide) (by decide) rfl
    · rw [if_neg c1] at h
      refine j_iconst (pc := 13) dX11_sinks_13 (v := 0) (by decide) ?_
      refine j_istore_n_2 (pc := 14) dX11_sinks_14 (by decide) rfl ?_
      exact jm_X11_sinks_l15 (hk9 := ih) FU _ _ _ ws h
def m_X11_sinks (a0 : Nat) (ws : LWd) : Option LWd :=
  (rcv ws a0 11).bind fun _ =>
  (fI ws a0 11 17).bind fun x1 =>
  bn2 (calSR ws (m_X11_sinking a0 x1 ws)) fun x5 w3 =>
  m_X11_sinks_l9 FU a0 x5 w3
set_option maxRecDepth 100000 in
set_option maxHeartbeats 4000000 in
theorem s_X11_sinks {a0 : Nat} {ws : LWd} {ws' : LWd} (h : m_X11_sinks a0 ws = some ws') : jSp yX11_sinks wsX11_sinks 3 0 0 [.ref a0] ws (.inl none, ws') := by
  unfold m_X11_sinks at h
  refine j_entry (ret := none) (nm := "sinks") (own := RX11) pl_X11 rfl rfl rfl (jcats (by rfl)) (Nat.le_of_ble_eq_true rfl) ?_
  show JG (.inl false) cX11_sinks 4 RX11 wsX11_sinks none "sinks" 3 0 0 ws.length (.inl none, ws') 0 [some (.ref a0), none, none, none] [] ws 0 0
  obtain ⟨_, _, h⟩ := obS h
  refine j_aload_n (pc := 0) dX11_sinks_0 rfl ?_
  refine j_aload_n (pc := 1) dX11_sinks_1 rfl ?_
  obtain ⟨x1, e2, h⟩ := obS h
  refine j_getI (pc := 2) dX11_sinks_2 (ci := 11) (kf := 17) rfl (jwi hw_X11) (by decide) (jwm lw_546) e2 ?_
  obtain ⟨x5, w3, e4, h⟩ := obS2 h
  have ge4 := calSR_of e4
  refine j_callV_g (pc := 5) (As := [.int x1]) (k' := 0) (n' := 0) dX11_sinks_5 (s_X11_sinking ge4.1) (jgV lw_633 lw_634 lw_635 lw_544 lw_632) rfl hv_X11_sinking rfl (r_X11_sinking ge4.1) rfl (by decide) (by decide) (Nat.le_of_ble_eq_true rfl) (by decide) (by decide) (by decide) (by decide) (Or.inl ge4.2) ?_
  refine j_istore_n_1 (pc := 8) dX11_sinks_8 (by decide) rfl ?_
  exact jm_X11_sinks_l9 FU _ _ w3 h
theorem r_X11_sinks {a0 : Nat} {ws : LWd} {o : LWd} (h : m_X11_sinks a0 ws = some o) : ∃ fs, ws[a0]? = some (.inr (11, fs)) := rcv_in h
def wsX11_sign : List Cond := Cond.code yX11_sign cX11_sign 1 (some .int) :: jW
def m_X11_sign (i0 : Int32) (ws : LWd) : Option (Int32 × LWd) :=
  if i0 ≤ 0 then
    if 0 ≤ i0 then
      some (0, ws)
    else
      some ((-1), ws)
  else
    some (1, ws)
set_option maxRecDepth 100000 in
set_option maxHeartbeats 4000000 in
theorem s_X11_sign {i0 : Int32} {ws : LWd} {rr : Int32} {ws' : LWd} (h : m_X11_sign i0 ws = some (rr, ws')) : jSp yX11_sign wsX11_sign 0 0 0 [.int i0] ws (.inl (some (.int rr)), ws') := by
  unfold m_X11_sign at h
  refine j_entry (ret := (some .int)) (nm := "sign") (own := RX11) pl_X11 rfl rfl rfl (jcats (by rfl)) (Nat.le_of_ble_eq_true rfl) ?_
  show JG (.inl false) cX11_sign 1 RX11 wsX11_sign (some .int) "sign" 0 0 0 ws.length (.inl (some (.int rr)), ws') 0 [some (.int i0)] [] ws 0 0
  refine j_iload_n (pc := 0) dX11_sign_0 rfl ?_
  refine j_if_le (pc := 1) (tgt := 8) dX11_sign_1 (by decide) (fun c1 => ?_) (fun c1 => ?_)
  · rw [if_pos c1] at h
    refine j_iload_n (pc := 8) dX11_sign_8 rfl ?_
    refine j_if_ge (pc := 9) (tgt := 16) dX11_sign_9 (by decide) (fun c2 => ?_) (fun c2 => ?_)
    · rw [if_pos c2] at h
      refine j_iconst (pc := 16) dX11_sign_16 (v := 0) (by decide) ?_
      obtain ⟨rfl, rfl⟩ := jretS h
      exact j_iret (pc := 17) rfl dX11_sign_17 (by decide) (by decide) rfl
    · rw [if_neg c2] at h
      refine j_iconst (pc := 12) dX11_sign_12 (v := (-1)) (by decide) ?_
      refine j_goto (pc := 13) (tgt := 17) dX11_sign_13 (by decide) ?_
      obtain ⟨rfl, rfl⟩ := jretS h
      exact j_iret (pc := 17) rfl dX11_sign_17 (by decide) (by decide) rfl
  · rw [if_neg c1] at h
    refine j_iconst (pc := 4) dX11_sign_4 (v := 1) (by decide) ?_
    refine j_goto (pc := 5) (tgt := 17) dX11_sign_5 (by decide) ?_
    obtain ⟨rfl, rfl⟩ := jretS h
    exact j_iret (pc := 17) rfl dX11_sign_17 (by decide) (by decide) rfl
def wsX11_direction : List Cond := Cond.code yX11_direction cX11_direction 5 (some .int) :: jW
def m_X11_direction_b66 (k15 : Nat → Int32 → Int32 → Int32 → Int32 → LWd → Option (Int32 × LWd)) (a0 : Nat) (i1 : Int32) (i2 : Int32) (i4 : Int32) (s0 : Int32) (s1 : Int32) (ws : LWd) : Option (Int32 × LWd) :=
  k15 a0 i1 i2 (s0 + s1) (i4 + 1) ws
set_option maxRecDepth 100000 in
set_option maxHeartbeats 4000000 in
theorem jm_X11_direction_b66 {n0 : Nat} {rr : Int32} {ws' : LWd} {k15 : Nat → Int32 → Int32 → Int32 → Int32 → LWd → Option (Int32 × LWd)} (hk15 : ∀ (a0 : Nat) (i1 : Int32) (i2 : Int32) (i3 : Int32) (i4 : Int32) (ws : LWd), k15 a0 i1 i2 i3 i4 ws = some (rr, ws') → JG (.inl false) cX11_direction 5 RX11 wsX11_direction (some .int) "direction" 2 0 0 n0 (.inl (some (.int rr)), ws') 15 [some (.ref a0), some (.int i1), some (.int i2), some (.int i3), some (.int i4)] [] ws 0 0) (a0 : Nat) (i1 : Int32) (i2 : Int32) (i4 : Int32) (s0 : Int32) (s1 : Int32) (ws : LWd) (h : m_X11_direction_b66 k15 a0 i1 i2 i4 s0 s1 ws = some (rr, ws')) : JG (.inl false) cX11_direction 5 RX11 wsX11_direction (some .int) "direction" 2 0 0 n0 (.inl (some (.int rr)), ws') 66 [some (.ref a0), some (.int i1), some (.int i2), none, some (.int i4)] [.int s1, .int s0] ws 0 0 := by
  unfold m_X11_direction_b66 at h
  refine j_iadd (pc := 66) dX11_direction_66 ?_
  refine j_istore_n_3 (pc := 67) dX11_direction_67 (by decide) rfl ?_
  refine j_iinc_4 (pc := 68) dX11_direction_68 (y := i4 + 1) rfl (by decide) rfl ?_
  refine j_goto (pc := 71) (tgt := 15) dX11_direction_71 (by decide) ?_
  exact hk15 _ _ _ _ _ ws h
def m_X11_direction_b43 (k15 : Nat → Int32 → Int32 → Int32 → Int32 → LWd → Option (Int32 × LWd)) (a0 : Nat) (i1 : Int32) (i3 : Int32) (i4 : Int32) (s0 : Int32) (s1 : Int32) (ws : LWd) : Option (Int32 × LWd) :=
  bn2 (calSR ws (m_X11_isDown a0 i4 ws)) fun x3 w1 =>
  if x3 = 0 then
    m_X11_direction_b66 k15 a0 i1 (s0 + s1) i4 i3 0 w1
  else
    (fR w1 a0 11 16).bind fun x5 =>
    (aI w1 x5 i4).bind fun x7 =>
    m_X11_direction_b66 k15 a0 i1 (s0 + s1) i4 i3 x7 w1
set_option maxRecDepth 100000 in
set_option maxHeartbeats 4000000 in
theorem jm_X11_direction_b43 {n0 : Nat} {rr : Int32} {ws' : LWd} {k15 : Nat → Int32 → Int32 → Int32 → Int32 → LWd → Option (Int32 × LWd)} (hk15 : ∀ (a0 : Nat) (i1 : Int32) (i2 : Int32) (i3 : Int32) (i4 : Int32) (ws : LWd), k15 a0 i1 i2 i3 i4 ws = some (rr, ws') → JG (.inl false) cX11_direction 5 RX11 wsX11_direction (some .int) "direction" 2 0 0 n0 (.inl (some (.int rr)), ws') 15 [some (.ref a0), some (.int i1), some (.int i2), some (.int i3), some (.int i4)] [] ws 0 0) (a0 : Nat) (i1 : Int32) (i3 : Int32) (i4 : Int32) (s0 : Int32) (s1 : Int32) (ws : LWd) (h : m_X11_direction_b43 k15 a0 i1 i3 i4 s0 s1 ws = some (rr, ws')) : JG (.inl false) cX11_direction 5 RX11 wsX11_direction (some .int) "direction" 2 0 0 n0 (.inl (some (.int rr)), ws') 43 [some (.ref a0), some (.int i1), none, some (.int i3), some (.int i4)] [.int s1, .int s0] ws 0 0 := by
  unfold m_X11_direction_b43 at h
  refine j_iadd (pc := 43) dX11_direction_43 ?_
  refine j_istore_n_2 (pc := 44) dX11_direction_44 (by decide) rfl ?_
  refine j_iload_n (pc := 45) dX11_direction_45 rfl ?_
  refine j_aload_n (pc := 46) dX11_direction_46 rfl ?_
  refine j_iload (pc := 47) dX11_direction_47 rfl ?_
  obtain ⟨x3, w1, e2, h⟩ := obS2 h
  have ge2 := calSR_of e2
  refine j_callV_g (pc := 49) (As := [.int i4]) (k' := 0) (n' := 0) dX11_direction_49 (s_X11_isDown ge2.1) (jgV lw_548 lw_549 lw_550 lw_544 lw_547) rfl hv_X11_isDown rfl (r_X11_isDown ge2.1) rfl (by decide) (by decide) (Nat.le_of_ble_eq_true rfl) (by decide) (by decide) (by decide) (by decide) (Or.inl ge2.2) ?_
  refine j_if_eq (pc := 52) (tgt := 65) dX11_direction_52 (by decide) (fun c4 => ?_) (fun c4 => ?_)
  · rw [if_pos c4] at h
    refine j_iconst (pc := 65) dX11_direction_65 (v := 0) (by decide) ?_
    refine j_mask [true, true, true, false, true] ?_
    exact jm_X11_direction_b66 (hk15 := hk15) _ _ _ _ _ _ w1 h
  · rw [if_neg c4] at h
    refine j_aload_n (pc := 55) dX11_direction_55 rfl ?_
    obtain ⟨x5, e6, h⟩ := obS h
    refine j_getR (pc := 56) dX11_direction_56 (ci := 11) (kf := 16) rfl (jwi hw_X11) (by decide) (jwm lw_536) e6 ?_
    refine j_iload (pc := 59) dX11_direction_59 rfl ?_
    obtain ⟨x7, e8, h⟩ := obS h
    refine j_iald (pc := 61) dX11_direction_61 e8 ?_
    refine j_goto (pc := 62) (tgt := 66) dX11_direction_62 (by decide) ?_
    refine j_mask [true, true, true, false, true] ?_
    exact jm_X11_direction_b66 (hk15 := hk15) _ _ _ _ _ _ w1 h
def m_X11_direction_l15 : Nat → Nat → Int32 → Int32 → Int32 → Int32 → LWd → Option (Int32 × LWd)
  | 0, _, _, _, _, _, _ => none
  | fu + 1, a0, i1, i2, i3, i4, ws =>
    if 6 ≤ i4 then
      bn2 (calSR ws (m_X11_momentX a0 ws)) fun x4 w2 =>
      bn2 (calSR w2 (m_X11_weight a0 w2)) fun x7 w5 =>
      bn2 (calSR w5 (m_X11_sign ((x4 * i1) - (i2 * x7)) w5)) fun x10 w8 =>
      bn2 (calSR w8 (m_X11_momentY a0 w8)) fun x13 w11 =>
      bn2 (calSR w11 (m_X11_weight a0 w11)) fun x16 w14 =>
      bn2 (calSR w14 (m_X11_sign ((x13 * i1) - (i3 * x16)) w14)) fun x19 w17 =>
      some (((3 * (x10 + 1)) + x19) + 1, w17)
    else
      bn2 (calSR ws (m_X11_isDown a0 i4 ws)) fun x22 w20 =>
      if x22 = 0 then
        m_X11_direction_b43 (fun z0 z1 z2 z3 z4 w => m_X11_direction_l15 fu z0 z1 z2 z3 z4 w) a0 i1 i3 i4 i2 0 w20
      else
        (fR w20 a0 11 15).bind fun x24 =>
        (aI w20 x24 i4).bind fun x26 =>
        m_X11_direction_b43 (fun z0 z1 z2 z3 z4 w => m_X11_direction_l15 fu z0 z1 z2 z3 z4 w) a0 i1 i3 i4 i2 x26 w20
set_option maxRecDepth 100000 in
set_option maxHeartbeats 4000000 in
theorem jm_X11_direction_l15 {n0 : Nat} {rr : Int32} {ws' : LWd} : ∀ (fu : Nat) (a0 : Nat) (i1 : Int32) (i2 : Int32) (i3 : Int32) (i4 : Int32) (ws : LWd), m_X11_direction_l15 fu a0 i1 i2 i3 i4 ws = some (rr, ws') → JG (.inl false) cX11_direction 5 RX11 wsX11_direction (some .int) "direction" 2 0 0 n0 (.inl (some (.int rr)), ws') 15 [some (.ref a0), some (.int i1), some (.int i2), some (.int i3), some (.int i4)] [] ws 0 0 := by
  intro fu
  induction fu with
  | zero => intro a0 i1 i2 i3 i4 ws h; cases h
  | succ fu ih =>
    intro a0 i1 i2 i3 i4 ws h
    rw [m_X11_direction_l15] at h
    refine j_iload (pc := 15) dX11_direction_15 rfl ?_
    refine j_bipush (pc := 17) dX11_direction_17 (v := 6) (by decide) ?_
    refine j_icmp_ge (pc := 19) (tgt := 74) dX11_direction_19 (by decide) (fun c1 => ?_) (fun c1 => ?_)
    · rw [if_pos c1] at h
      refine j_iconst (pc := 74) dX11_direction_74 (v := 3) (by decide) ?_
      refine j_aload_n (pc := 75) dX11_direction_75 rfl ?_
      obtain ⟨x4, w2, e3, h⟩ := obS2 h
      have ge3 := calSR_of e3
      refine j_callV_g (pc := 76) (As := []) (k' := 0) (n' := 0) dX11_direction_76 (s_X11_momentX ge3.1) (jgV lw_589 lw_590 lw_591 lw_544 lw_588) rfl hv_X11_momentX rfl (r_X11_momentX ge3.1) rfl (by decide) (by decide) (Nat.le_of_ble_eq_true rfl) (by decide) (by decide) (by decide) (by decide) (Or.inl ge3.2) ?_
      refine j_iload_n (pc := 79) dX11_direction_79 rfl ?_
      refine j_imul (pc := 80) dX11_direction_80 ?_
      refine j_iload_n (pc := 81) dX11_direction_81 rfl ?_
      refine j_aload_n (pc := 82) dX11_direction_82 rfl ?_
      obtain ⟨x7, w5, e6, h⟩ := obS2 h
      have ge6 := calSR_of e6
      refine j_callV_g (pc := 83) (As := []) (k' := 0) (n' := 0) dX11_direction_83 (s_X11_weight ge6.1) (jgV lw_574 lw_575 lw_576 lw_544 lw_573) rfl hv_X11_weight rfl (r_X11_weight ge6.1) rfl (by decide) (by decide) (Nat.le_of_ble_eq_true rfl) (by decide) (by decide) (by decide) (by decide) (Or.inl ge6.2) ?_
      refine j_imul (pc := 86) dX11_direction_86 ?_
      refine j_isub (pc := 87) dX11_direction_87 ?_
      obtain ⟨x10, w8, e9, h⟩ := obS2 h
      have ge9 := calSR_of e9
      refine j_callS_g (pc := 88) (As := [.int ((x4 * i1) - (i2 * x7))]) (k' := 0) (n' := 0) dX11_direction_88 (s_X11_sign ge9.1) (jgS lw_637 lw_638 lw_544 lw_636) rfl hy_X11_sign rfl (by decide) (by decide) (Nat.le_of_ble_eq_true rfl) (by decide) (by decide) (by decide) (by decide) (Or.inl ge9.2) ?_
      refine j_iconst (pc := 91) dX11_direction_91 (v := 1) (by decide) ?_
      refine j_iadd (pc := 92) dX11_direction_92 ?_
      refine j_imul (pc := 93) dX11_direction_93 ?_
      refine j_aload_n (pc := 94) dX11_direction_94 rfl ?_
      obtain ⟨x13, w11, e12, h⟩ := obS2 h
      have ge12 := calSR_of e12
      refine j_callV_g (pc := 95) (As := []) (k' := 0) (n' := 0) dX11_direction_95 (s_X11_momentY ge12.1) (jgV lw_593 lw_594 lw_595 lw_544 lw_592) rfl hv_X11_momentY rfl (r_X11_momentY ge12.1) rfl (by decide) (by decide) (Nat.le_of_ble_eq_true rfl) (by decide) (by decide) (by decide) (by decide) (Or.inl ge12.2) ?_
      refine j_iload_n (pc := 98) dX11_direction_98 rfl ?_
      refine j_imul (pc := 99) dX11_direction_99 ?_
      refine j_iload_n (pc := 100) dX11_direction_100 rfl ?_
      refine j_aload_n (pc := 101) dX11_direction_101 rfl ?_
      obtain ⟨x16, w14, e15, h⟩ := obS2 h
      have ge15 := calSR_of e15
      refine j_callV_g (pc := 102) (As := []) (k' := 0) (n' := 0) dX11_direction_102 (s_X11_weight ge15.1) (jgV lw_574 lw_575 lw_576 lw_544 lw_573) rfl hv_X11_weight rfl (r_X11_weight ge15.1) rfl (by decide) (by decide) (Nat.le_of_ble_eq_true rfl) (by decide) (by decide) (by decide) (by decide) (Or.inl ge15.2) ?_
      refine j_imul (pc := 105) dX11_direction_105 ?_
      refine j_isub (pc := 106) dX11_direction_106 ?_
      obtain ⟨x19, w17, e18, h⟩ := obS2 h
      have ge18 := calSR_of e18
      refine j_callS_g (pc := 107) (As := [.int ((x13 * i1) - (i3 * x16))]) (k' := 0) (n' := 0) dX11_direction_107 (s_X11_sign ge18.1) (jgS lw_637 lw_638 lw_544 lw_636) rfl hy_X11_sign rfl (by decide) (by decide) (Nat.le_of_ble_eq_true rfl) (by decide) (by decide) (by decide) (by decide) (Or.inl ge18.2) ?_
      refine j_iadd (pc := 110) dX11_direction_110 ?_
      refine j_iconst (pc := 111) dX11_direction_111 (v := 1) (by decide) ?_
      refine j_iadd (pc := 112) dX11_direction_112 ?_
      obtain ⟨rfl, rfl⟩ := jretS h
      exact j_iret (pc := 113) rfl dX11_direction_113 (by decide) (by decide) rfl
    · rw [if_neg c1] at h
      refine j_iload_n (pc := 22) dX11_direction_22 rfl ?_
      refine j_aload_n (pc := 23) dX11_direction_23 rfl ?_
      refine j_iload (pc := 24) dX11_direction_24 rfl ?_
      obtain ⟨x22, w20, e21, h⟩ := obS2 h
      have ge21 := calSR_of e21
      refine j_callV_g (pc := 26) (As := [.int i4]) (k' := 0) (n' := 0) dX11_direction_26 (s_X11_isDown ge21.1) (jgV lw_548 lw_549 lw_550 lw_544 lw_547) rfl hv_X11_isDown rfl (r_X11_isDown ge21.1) rfl (by decide) (by decide) (Nat.le_of_ble_eq_true rfl) (by decide) (by decide) (by decide) (by decide) (Or.inl ge21.2) ?_
      refine j_if_eq (pc := 29) (tgt := 42) dX11_direction_29 (by decide) (fun c23 => ?_) (fun c23 => ?_)
      · rw [if_pos c23] at h
        refine j_iconst (pc := 42) dX11_direction_42 (v := 0) (by decide) ?_
        refine j_mask [true, true, false, true, true] ?_
        exact jm_X11_direction_b43 (hk15 := ih) _ _ _ _ _ _ w20 h
      · rw [if_neg c23] at h
        refine j_aload_n (pc := 32) dX11_direction_32 rfl ?_
        obtain ⟨x24, e25, h⟩ := obS h
        refine j_getR (pc := 33) dX11_direction_33 (ci := 11) (kf := 15) rfl (jwi hw_X11) (by decide) (jwm lw_535) e25 ?_
        refine j_iload (pc := 36) dX11_direction_36 rfl ?_
        obtain ⟨x26, e27, h⟩ := obS h
        refine j_iald (pc := 38) dX11_direction_38 e27 ?_
        refine j_goto (pc := 39) (tgt := 43) dX11_direction_39 (by decide) ?_
        refine j_mask [true, true, false, true, true] ?_
        exact jm_X11_direction_b43 (hk15 := ih) _ _ _ _ _ _ w20 h
def m_X11_direction (a0 : Nat) (ws : LWd) : Option (Int32 × LWd) :=
  (rcv ws a0 11).bind fun _ =>
  (fI ws a0 11 17).bind fun x1 =>
  bn2 (calSR ws (m_X11_count x1 ws)) fun x5 w3 =>
  m_X11_direction_l15 FU a0 x5 0 0 0 w3
set_option maxRecDepth 100000 in
set_option maxHeartbeats 4000000 in
theorem s_X11_direction {a0 : Nat} {ws : LWd} {rr : Int32} {ws' : LWd} (h : m_X11_direction a0 ws = some (rr, ws')) : jSp yX11_direction wsX11_direction 2 0 0 [.ref a0] ws (.inl (some (.int rr)), ws') := by
  unfold m_X11_direction at h
  refine j_entry (ret := (some .int)) (nm := "direction") (own := RX11) pl_X11 rfl rfl rfl (jcats (by rfl)) (Nat.le_of_ble_eq_true rfl) ?_
  show JG (.inl false) cX11_direction 5 RX11 wsX11_direction (some .int) "direction" 2 0 0 ws.length (.inl (some (.int rr)), ws') 0 [some (.ref a0), none, none, none, none] [] ws 0 0
  obtain ⟨_, _, h⟩ := obS h
  refine j_aload_n (pc := 0) dX11_direction_0 rfl ?_
  obtain ⟨x1, e2, h⟩ := obS h
  refine j_getI (pc := 1) dX11_direction_1 (ci := 11) (kf := 17) rfl (jwi hw_X11) (by decide) (jwm lw_546) e2 ?_
  obtain ⟨x5, w3, e4, h⟩ := obS2 h
  have ge4 := calSR_of e4
  refine j_callS_g (pc := 4) (As := [.int x1]) (k' := 0) (n' := 0) dX11_direction_4 (s_X11_count ge4.1) (jgS lw_605 lw_606 lw_544 lw_604) rfl hy_X11_count rfl (by decide) (by decide) (Nat.le_of_ble_eq_true rfl) (by decide) (by decide) (by decide) (by decide) (Or.inl ge4.2) ?_
  refine j_istore_n_1 (pc := 7) dX11_direction_7 (by decide) rfl ?_
  refine j_iconst (pc := 8) dX11_direction_8 (v := 0) (by decide) ?_
  refine j_istore_n_2 (pc := 9) dX11_direction_9 (by decide) rfl ?_
  refine j_iconst (pc := 10) dX11_direction_10 (v := 0) (by decide) ?_
  refine j_istore_n_3 (pc := 11) dX11_direction_11 (by decide) rfl ?_
  refine j_iconst (pc := 12) dX11_direction_12 (v := 0) (by decide) ?_
  refine j_istore_4 (pc := 13) dX11_direction_13 (by decide) rfl ?_
  exact jm_X11_direction_l15 FU _ _ _ _ _ w3 h
theorem r_X11_direction {a0 : Nat} {ws : LWd} {o : (Int32 × LWd)} (h : m_X11_direction a0 ws = some o) : ∃ fs, ws[a0]? = some (.inr (11, fs)) := rcv_in h
def wsX11_settles : List Cond := Cond.code yX11_settles cX11_settles 1 none :: jW
def m_X11_settles_b98 (a0 : Nat) (ws : LWd) : Option LWd :=
  (fI ws a0 11 23).bind fun x1 =>
  (pV ws a0 11 23 (.int (x1 + 1))).bind fun w3 =>
  (pZ w3 a0 11 4 0).bind fun w5 =>
  (pV w5 a0 11 17 (.int 0)).bind fun w7 =>
  some w7
set_option maxRecDepth 100000 in
set_option maxHeartbeats 4000000 in
theorem jm_X11_settles_b98 {n0 : Nat} {ws' : LWd} (a0 : Nat) (ws : LWd) (h : m_X11_settles_b98 a0 ws = some ws') : JG (.inl false) cX11_settles 1 RX11 wsX11_settles none "settles" 4 0 0 n0 (.inl none, ws') 98 [some (.ref a0)] [] ws 0 0 := by
  unfold m_X11_settles_b98 at h
  refine j_aload_n (pc := 98) dX11_settles_98 rfl ?_
  refine j_dup (pc := 99) dX11_settles_99 rfl ?_
  obtain ⟨x1, e2, h⟩ := obS h
  refine j_getI (pc := 100) dX11_settles_100 (ci := 11) (kf := 23) rfl (jwi hw_X11) (by decide) (jwm lw_639) e2 ?_
  refine j_iconst (pc := 103) dX11_settles_103 (v := 1) (by decide) ?_
  refine j_iadd (pc := 104) dX11_settles_104 ?_
  obtain ⟨w3, e4, h⟩ := obS h
  refine j_putV (pc := 105) (ci := 11) (kf := 23) tyX11 tyX11_ok nmX11 dX11_settles_105 rfl (jwi hw_X11) (by decide) (jwm lw_639) rfl (fun _ => rfl) (fun _ => rfl) e4 ?_
  refine j_aload_n (pc := 108) dX11_settles_108 rfl ?_
  refine j_iconst (pc := 109) dX11_settles_109 (v := 0) (by decide) ?_
  obtain ⟨w5, e6, h⟩ := obS h
  refine j_putV (pc := 110) (ci := 11) (kf := 4) tyX11 tyX11_ok nmX11 dX11_settles_110 rfl (jwi hw_X11) (by decide) (jwm lw_565) rfl (pZ_n e6).2.1 (pZ_n e6).2.2 (pZ_n e6).1 ?_
  refine j_aload_n (pc := 113) dX11_settles_113 rfl ?_
  refine j_iconst (pc := 114) dX11_settles_114 (v := 0) (by decide) ?_
  obtain ⟨w7, e8, h⟩ := obS h
  refine j_putV (pc := 115) (ci := 11) (kf := 17) tyX11 tyX11_ok nmX11 dX11_settles_115 rfl (jwi hw_X11) (by decide) (jwm lw_546) rfl (fun _ => rfl) (fun _ => rfl) e8 ?_
  cases h
  exact j_vret (pc := 118) rfl dX11_settles_118 (by decide) (by decide) rfl
def m_X11_settles (a0 : Nat) (ws : LWd) : Option LWd :=
  (rcv ws a0 11).bind fun _ =>
  (fI ws a0 11 4).bind fun x1 =>
  if x1 = 0 then
    some ws
  else
    (calSV ws (m_X11_sinks a0 ws)).bind fun w4 =>
    (fI w4 a0 11 17).bind fun x6 =>
    bn2 (calSR w4 (m_X11_holds a0 x6 w4)) fun x10 w8 =>
    if x10 = 0 then
      (fI w8 a0 11 23).bind fun x12 =>
      if 40 ≤ x12 then
        m_X11_settles_b98 a0 w8
      else
        (fR w8 a0 11 24).bind fun x15 =>
        (fI w8 a0 11 23).bind fun x17 =>
        bn2 (calSR w8 (m_X11_direction a0 w8)) fun x21 w19 =>
        (sI w19 x15 (4 * x17) x21).bind fun w22 =>
        (fR w22 a0 11 24).bind fun x24 =>
        (fI w22 a0 11 23).bind fun x26 =>
        (fI w22 a0 11 19).bind fun x28 =>
        (sI w22 x24 ((4 * x26) + 1) x28).bind fun w30 =>
        (fR w30 a0 11 24).bind fun x32 =>
        (fI w30 a0 11 23).bind fun x34 =>
        (fI w30 a0 11 20).bind fun x36 =>
        (sI w30 x32 ((4 * x34) + 2) x36).bind fun w38 =>
        (fR w38 a0 11 24).bind fun x40 =>
        (fI w38 a0 11 23).bind fun x42 =>
        (fI w38 a0 11 21).bind fun x44 =>
        (sI w38 x40 ((4 * x42) + 3) x44).bind fun w46 =>
        m_X11_settles_b98 a0 w46
    else
      some w8
set_option maxRecDepth 100000 in
set_option maxHeartbeats 4000000 in
theorem s_X11_settles {a0 : Nat} {ws : LWd} {ws' : LWd} (h : m_X11_settles a0 ws = some ws') : jSp yX11_settles wsX11_settles 4 0 0 [.ref a0] ws (.inl none, ws') := by
  unfold m_X11_settles at h
  refine j_entry (ret := none) (nm := "settles") (own := RX11) pl_X11 rfl rfl rfl (jcats (by rfl)) (Nat.le_of_ble_eq_true rfl) ?_
  show JG (.inl false) cX11_settles 1 RX11 wsX11_settles none "settles" 4 0 0 ws.length (.inl none, ws') 0 [some (.ref a0)] [] ws 0 0
  obtain ⟨_, _, h⟩ := obS h
  refine j_aload_n (pc := 0) dX11_settles_0 rfl ?_
  obtain ⟨x1, e2, h⟩ := obS h
  refine j_getI (pc := 1) dX11_settles_1 (ci := 11) (kf := 4) rfl (jwi hw_X11) (by decide) (jwm lw_565) e2 ?_
  refine j_if_ne (pc := 4) (tgt := 8) dX11_settles_4 (by decide) (fun c3 => ?_) (fun c3 => ?_)
  · rw [if_neg c3] at h
    refine j_aload_n (pc := 8) dX11_settles_8 rfl ?_
    obtain ⟨w4, e5, h⟩ := obS h
    have ge5 := calSV_of e5
    refine j_callV_g (pc := 9) (As := []) (k' := 0) (n' := 0) dX11_settles_9 (s_X11_sinks ge5.1) (jgV lw_641 lw_642 lw_643 lw_544 lw_640) rfl hv_X11_sinks rfl (r_X11_sinks ge5.1) rfl (by decide) (by decide) (Nat.le_of_ble_eq_true rfl) (by decide) (by decide) (by decide) (by decide) (Or.inl ge5.2) ?_
    refine j_aload_n (pc := 12) dX11_settles_12 rfl ?_
    refine j_aload_n (pc := 13) dX11_settles_13 rfl ?_
    obtain ⟨x6, e7, h⟩ := obS h
    refine j_getI (pc := 14) dX11_settles_14 (ci := 11) (kf := 17) rfl (jwi hw_X11) (by decide) (jwm lw_546) e7 ?_
    obtain ⟨x10, w8, e9, h⟩ := obS2 h
    have ge9 := calSR_of e9
    refine j_callV_g (pc := 17) (As := [.int x6]) (k' := 0) (n' := 0) dX11_settles_17 (s_X11_holds ge9.1) (jgV lw_645 lw_646 lw_647 lw_544 lw_644) rfl hv_X11_holds rfl (r_X11_holds ge9.1) rfl (by decide) (by decide) (Nat.le_of_ble_eq_true rfl) (by decide) (by decide) (by decide) (by decide) (Or.inl ge9.2) ?_
    refine j_if_ne (pc := 20) (tgt := 118) dX11_settles_20 (by decide) (fun c11 => ?_) (fun c11 => ?_)
    · rw [if_neg c11] at h
      cases h
      exact j_vret (pc := 118) rfl dX11_settles_118 (by decide) (by decide) rfl
    · rw [if_pos c11] at h
      refine j_aload_n (pc := 23) dX11_settles_23 rfl ?_
      obtain ⟨x12, e13, h⟩ := obS h
      refine j_getI (pc := 24) dX11_settles_24 (ci := 11) (kf := 23) rfl (jwi hw_X11) (by decide) (jwm lw_639) e13 ?_
      refine j_bipush (pc := 27) dX11_settles_27 (v := 40) (by decide) ?_
      refine j_icmp_ge (pc := 29) (tgt := 98) dX11_settles_29 (by decide) (fun c14 => ?_) (fun c14 => ?_)
      · rw [if_pos c14] at h
        exact jm_X11_settles_b98 _ w8 h
      · rw [if_neg c14] at h
        refine j_aload_n (pc := 32) dX11_settles_32 rfl ?_
        obtain ⟨x15, e16, h⟩ := obS h
        refine j_getR (pc := 33) dX11_settles_33 (ci := 11) (kf := 24) rfl (jwi hw_X11) (by decide) (jwm lw_537) e16 ?_
        refine j_iconst (pc := 36) dX11_settles_36 (v := 4) (by decide) ?_
        refine j_aload_n (pc := 37) dX11_settles_37 rfl ?_
        obtain ⟨x17, e18, h⟩ := obS h
        refine j_getI (pc := 38) dX11_settles_38 (ci := 11) (kf := 23) rfl (jwi hw_X11) (by decide) (jwm lw_639) e18 ?_
        refine j_imul (pc := 41) dX11_settles_41 ?_
        refine j_aload_n (pc := 42) dX11_settles_42 rfl ?_
        obtain ⟨x21, w19, e20, h⟩ := obS2 h
        have ge20 := calSR_of e20
        refine j_callV_g (pc := 43) (As := []) (k' := 0) (n' := 0) dX11_settles_43 (s_X11_direction ge20.1) (jgV lw_649 lw_650 lw_651 lw_544 lw_648) rfl hv_X11_direction rfl (r_X11_direction ge20.1) rfl (by decide) (by decide) (Nat.le_of_ble_eq_true rfl) (by decide) (by decide) (by decide) (by decide) (Or.inl ge20.2) ?_
        obtain ⟨w22, e23, h⟩ := obS h
        refine j_iast (pc := 46) dX11_settles_46 e23 ?_
        refine j_aload_n (pc := 47) dX11_settles_47 rfl ?_
        obtain ⟨x24, e25, h⟩ := obS h
        refine j_getR (pc := 48) dX11_settles_48 (ci := 11) (kf := 24) rfl (jwi hw_X11) (by decide) (jwm lw_537) e25 ?_
        refine j_iconst (pc := 51) dX11_settles_51 (v := 4) (by decide) ?_
        refine j_aload_n (pc := 52) dX11_settles_52 rfl ?_
        obtain ⟨x26, e27, h⟩ := obS h
        refine j_getI (pc := 53) dX11_settles_53 (ci := 11) (kf := 23) rfl (jwi hw_X11) (by decide) (jwm lw_639) e27 ?_
        refine j_imul (pc := 56) dX11_settles_56 ?_
        refine j_iconst (pc := 57) dX11_settles_57 (v := 1) (by decide) ?_
        refine j_iadd (pc := 58) dX11_settles_58 ?_
        refine j_aload_n (pc := 59) dX11_settles_59 rfl ?_
        obtain ⟨x28, e29, h⟩ := obS h
        refine j_getI (pc := 60) dX11_settles_60 (ci := 11) (kf := 19) rfl (jwi hw_X11) (by decide) (jwm lw_609) e29 ?_
        obtain ⟨w30, e31, h⟩ := obS h
        refine j_iast (pc := 63) dX11_settles_63 e31 ?_
        refine j_aload_n (pc := 64) dX11_settles_64 rfl ?_
        obtain ⟨x32, e33, h⟩ := obS h
        refine j_getR (pc := 65) dX11_settles_65 (ci := 11) (kf := 24) rfl (jwi hw_X11) (by decide) (jwm lw_537) e33 ?_
        refine j_iconst (pc := 68) dX11_settles_68 (v := 4) (by decide) ?_
        refine j_aload_n (pc := 69) dX11_settles_69 rfl ?_
        obtain ⟨x34, e35, h⟩ := obS h
        refine j_getI (pc := 70) dX11_settles_70 (ci := 11) (kf := 23) rfl (jwi hw_X11) (by decide) (jwm lw_639) e35 ?_
        refine j_imul (pc := 73) dX11_settles_73 ?_
        refine j_iconst (pc := 74) dX11_settles_74 (v := 2) (by decide) ?_
        refine j_iadd (pc := 75) dX11_settles_75 ?_
        refine j_aload_n (pc := 76) dX11_settles_76 rfl ?_
        obtain ⟨x36, e37, h⟩ := obS h
        refine j_getI (pc := 77) dX11_settles_77 (ci := 11) (kf := 20) rfl (jwi hw_X11) (by decide) (jwm lw_610) e37 ?_
        obtain ⟨w38, e39, h⟩ := obS h
        refine j_iast (pc := 80) dX11_settles_80 e39 ?_
        refine j_aload_n (pc := 81) dX11_settles_81 rfl ?_
        obtain ⟨x40, e41, h⟩ := obS h
        refine j_getR (pc := 82) dX11_settles_82 (ci := 11) (kf := 24) rfl (jwi hw_X11) (by decide) (jwm lw_537) e41 ?_
        refine j_iconst (pc := 85) dX11_settles_85 (v := 4) (by decide) ?_
        refine j_aload_n (pc := 86) dX11_settles_86 rfl ?_
        obtain ⟨x42, e43, h⟩ := obS h
        refine j_getI (pc := 87) dX11_settles_87 (ci := 11) (kf := 23) rfl (jwi hw_X11) (by decide) (jwm lw_639) e43 ?_
        refine j_imul (pc := 90) dX11_settles_90 ?_
        refine j_iconst (pc := 91) dX11_settles_91 (v := 3) (by decide) ?_
        refine j_iadd (pc := 92) dX11_settles_92 ?_
        refine j_aload_n (pc := 93) dX11_settles_93 rfl ?_
        obtain ⟨x44, e45, h⟩ := obS h
        refine j_getI (pc := 94) dX11_settles_94 (ci := 11) (kf := 21) rfl (jwi hw_X11) (by decide) (jwm lw_611) e45 ?_
        obtain ⟨w46, e47, h⟩ := obS h
        refine j_iast (pc := 97) dX11_settles_97 e47 ?_
        exact jm_X11_settles_b98 _ w46 h
  · rw [if_pos c3] at h
    cases h
    exact j_vret (pc := 7) rfl dX11_settles_7 (by decide) (by decide) rfl
theorem r_X11_settles {a0 : Nat} {ws : LWd} {o : LWd} (h : m_X11_settles a0 ws = some o) : ∃ fs, ws[a0]? = some (.inr (11, fs)) := rcv_in h
