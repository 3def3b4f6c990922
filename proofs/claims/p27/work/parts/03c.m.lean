/-! methods: written by wip/p27/make.py -/
def wsX9_raise : List Cond := Cond.code yX9_raise cX9_raise 3 none :: jW
def m_X9_raise_b25 (k2 : Nat → Int32 → Int32 → LWd → Option LWd) (a0 : Nat) (i1 : Int32) (i2 : Int32) (ws : LWd) : Option LWd :=
  k2 a0 i1 (i2 + 1) ws
set_option maxRecDepth 100000 in
set_option maxHeartbeats 4000000 in
theorem jm_X9_raise_b25 {n0 : Nat} {ws' : LWd} {k2 : Nat → Int32 → Int32 → LWd → Option LWd} (hk2 : ∀ (a0 : Nat) (i1 : Int32) (i2 : Int32) (ws : LWd), k2 a0 i1 i2 ws = some ws' → JG (.inl false) cX9_raise 3 RX9 wsX9_raise none "raise" 1 0 0 n0 (.inl none, ws') 2 [some (.ref a0), some (.int i1), some (.int i2)] [] ws 0 0) (a0 : Nat) (i1 : Int32) (i2 : Int32) (ws : LWd) (h : m_X9_raise_b25 k2 a0 i1 i2 ws = some ws') : JG (.inl false) cX9_raise 3 RX9 wsX9_raise none "raise" 1 0 0 n0 (.inl none, ws') 25 [some (.ref a0), some (.int i1), some (.int i2)] [] ws 0 0 := by
  unfold m_X9_raise_b25 at h
  refine j_iinc_2 (pc := 25) dX9_raise_25 (y := i2 + 1) rfl (by decide) rfl ?_
  refine j_goto (pc := 28) (tgt := 2) dX9_raise_28 (by decide) ?_
  exact hk2 _ _ _ ws h
def m_X9_raise_l2 : Nat → Nat → Int32 → Int32 → LWd → Option LWd
  | 0, _, _, _, _ => none
  | fu + 1, a0, i1, i2, ws =>
    if 6 ≤ i2 then
      some ws
    else
      if ((i1 >>> (i2 &&& 31)) &&& 1) = 0 then
        m_X9_raise_b25 (fun z0 z1 z2 w => m_X9_raise_l2 fu z0 z1 z2 w) a0 i1 i2 ws
      else
        (fR ws a0 9 3).bind fun x3 =>
        (calSV ws (m_X8_put x3 i2 ((-1)) ws)).bind fun w5 =>
        m_X9_raise_b25 (fun z0 z1 z2 w => m_X9_raise_l2 fu z0 z1 z2 w) a0 i1 i2 w5
set_option maxRecDepth 100000 in
set_option maxHeartbeats 4000000 in
theorem jm_X9_raise_l2 {n0 : Nat} {ws' : LWd} : ∀ (fu : Nat) (a0 : Nat) (i1 : Int32) (i2 : Int32) (ws : LWd), m_X9_raise_l2 fu a0 i1 i2 ws = some ws' → JG (.inl false) cX9_raise 3 RX9 wsX9_raise none "raise" 1 0 0 n0 (.inl none, ws') 2 [some (.ref a0), some (.int i1), some (.int i2)] [] ws 0 0 := by
  intro fu
  induction fu with
  | zero => intro a0 i1 i2 ws h; first | (cases h; done) | (rw [m_X9_raise_l2] at h; cases h)
  | succ fu ih =>
    intro a0 i1 i2 ws h
    rw [m_X9_raise_l2] at h
    refine j_iload_n (pc := 2) dX9_raise_2 rfl ?_
    refine j_bipush (pc := 3) dX9_raise_3 (v := 6) (by decide) ?_
    refine j_icmp_ge (pc := 5) (tgt := 31) dX9_raise_5 (by decide) (fun c1 => ?_) (fun c1 => ?_)
    · rw [if_pos c1] at h
      cases h
      exact j_vret (pc := 31) rfl dX9_raise_31 (by decide) (by decide) rfl
    · rw [if_neg c1] at h
      refine j_iload_n (pc := 8) dX9_raise_8 rfl ?_
      refine j_iload_n (pc := 9) dX9_raise_9 rfl ?_
      refine j_ishr (pc := 10) dX9_raise_10 ?_
      refine j_iconst (pc := 11) dX9_raise_11 (v := 1) (by decide) ?_
      refine j_iand (pc := 12) dX9_raise_12 ?_
      refine j_if_eq (pc := 13) (tgt := 25) dX9_raise_13 (by decide) (fun c2 => ?_) (fun c2 => ?_)
      · rw [if_pos c2] at h
        exact jm_X9_raise_b25 (hk2 := ih) _ _ _ ws h
      · rw [if_neg c2] at h
        refine j_aload_n (pc := 16) dX9_raise_16 rfl ?_
        obtain ⟨x3, e4, h⟩ := obS h
        refine j_getR (pc := 17) dX9_raise_17 (ci := 9) (kf := 3) rfl (jwi hw_X9) (by decide) (jwm lw_39) e4 ?_
        refine j_iload_n (pc := 20) dX9_raise_20 rfl ?_
        refine j_iconst (pc := 21) dX9_raise_21 (v := (-1)) (by decide) ?_
        obtain ⟨w5, e6, h⟩ := obS h
        have ge6 := calSV_of e6
        refine j_callV_g (pc := 22) (As := [.int i2, .int ((-1))]) (k' := 0) (n' := 0) dX9_raise_22 (s_X8_put ge6.1) (jgV lw_274 lw_159 lw_160 lw_12 lw_157) rfl hv_X8_put rfl (r_X8_put ge6.1) rfl (by decide) (by decide) (Nat.le_of_ble_eq_true rfl) (by decide) (by decide) (by decide) (by decide) (Or.inl ge6.2) ?_
        exact jm_X9_raise_b25 (hk2 := ih) _ _ _ w5 h
def m_X9_raise (a0 : Nat) (i1 : Int32) (ws : LWd) : Option LWd :=
  (rcv ws a0 9).bind fun _ =>
  m_X9_raise_l2 FU a0 i1 0 ws
set_option maxRecDepth 100000 in
set_option maxHeartbeats 4000000 in
theorem s_X9_raise {a0 : Nat} {i1 : Int32} {ws : LWd} {ws' : LWd} (h : m_X9_raise a0 i1 ws = some ws') : jSp yX9_raise wsX9_raise 1 0 0 [.ref a0, .int i1] ws (.inl none, ws') := by
  unfold m_X9_raise at h
  refine j_entry (ret := none) (nm := "raise") (own := RX9) pl_X9 rfl rfl rfl (jcats (by rfl)) (Nat.le_of_ble_eq_true rfl) ?_
  show JG (.inl false) cX9_raise 3 RX9 wsX9_raise none "raise" 1 0 0 ws.length (.inl none, ws') 0 [some (.ref a0), some (.int i1), none] [] ws 0 0
  obtain ⟨_, _, h⟩ := obS h
  refine j_iconst (pc := 0) dX9_raise_0 (v := 0) (by decide) ?_
  refine j_istore_n_2 (pc := 1) dX9_raise_1 (by decide) rfl ?_
  exact jm_X9_raise_l2 FU _ _ _ ws h
theorem r_X9_raise {a0 : Nat} {i1 : Int32} {ws : LWd} {o : LWd} (h : m_X9_raise a0 i1 ws = some o) : ∃ fs, ws[a0]? = some (.inr (9, fs)) := rcv_in h
def wsX10_xOf : List Cond := Cond.code yX10_xOf cX10_xOf 1 (some .int) :: jW
def m_X10_xOf (i0 : Int32) (ws : LWd) : Option (Int32 × LWd) :=
  some (jrem i0 20, ws)
set_option maxRecDepth 100000 in
set_option maxHeartbeats 4000000 in
theorem s_X10_xOf {i0 : Int32} {ws : LWd} {rr : Int32} {ws' : LWd} (h : m_X10_xOf i0 ws = some (rr, ws')) : jSp yX10_xOf wsX10_xOf 0 0 0 [.int i0] ws (.inl (some (.int rr)), ws') := by
  unfold m_X10_xOf at h
  refine j_entry (ret := (some .int)) (nm := "xOf") (own := RX10) pl_X10 rfl rfl rfl (jcats (by rfl)) (Nat.le_of_ble_eq_true rfl) ?_
  show JG (.inl false) cX10_xOf 1 RX10 wsX10_xOf (some .int) "xOf" 0 0 0 ws.length (.inl (some (.int rr)), ws') 0 [some (.int i0)] [] ws 0 0
  refine j_iload_n (pc := 0) dX10_xOf_0 rfl ?_
  refine j_bipush (pc := 1) dX10_xOf_1 (v := 20) (by decide) ?_
  refine j_irem (pc := 3) dX10_xOf_3 (by decide) ?_
  obtain ⟨rfl, rfl⟩ := jretS h
  exact j_iret (pc := 4) rfl dX10_xOf_4 (by decide) (by decide) rfl
def wsX10_yOf : List Cond := Cond.code yX10_yOf cX10_yOf 1 (some .int) :: jW
def m_X10_yOf (i0 : Int32) (ws : LWd) : Option (Int32 × LWd) :=
  some (i0 / 20, ws)
set_option maxRecDepth 100000 in
set_option maxHeartbeats 4000000 in
theorem s_X10_yOf {i0 : Int32} {ws : LWd} {rr : Int32} {ws' : LWd} (h : m_X10_yOf i0 ws = some (rr, ws')) : jSp yX10_yOf wsX10_yOf 0 0 0 [.int i0] ws (.inl (some (.int rr)), ws') := by
  unfold m_X10_yOf at h
  refine j_entry (ret := (some .int)) (nm := "yOf") (own := RX10) pl_X10 rfl rfl rfl (jcats (by rfl)) (Nat.le_of_ble_eq_true rfl) ?_
  show JG (.inl false) cX10_yOf 1 RX10 wsX10_yOf (some .int) "yOf" 0 0 0 ws.length (.inl (some (.int rr)), ws') 0 [some (.int i0)] [] ws 0 0
  refine j_iload_n (pc := 0) dX10_yOf_0 rfl ?_
  refine j_bipush (pc := 1) dX10_yOf_1 (v := 20) (by decide) ?_
  refine j_idiv (pc := 3) dX10_yOf_3 (by decide) ?_
  obtain ⟨rfl, rfl⟩ := jretS h
  exact j_iret (pc := 4) rfl dX10_yOf_4 (by decide) (by decide) rfl
def wsJ6_signum_0f7a4 : List Cond := Cond.code yJ6_signum_0f7a4 cJ6_signum_0f7a4 1 (some .int) :: jW
def m_J6_signum_0f7a4 (i0 : Int32) (ws : LWd) : Option (Int32 × LWd) :=
  some ((i0 >>> (31 &&& 31)) ||| (jushr (-i0) 31), ws)
set_option maxRecDepth 100000 in
set_option maxHeartbeats 4000000 in
theorem s_J6_signum_0f7a4 {i0 : Int32} {ws : LWd} {rr : Int32} {ws' : LWd} (h : m_J6_signum_0f7a4 i0 ws = some (rr, ws')) : jSp yJ6_signum_0f7a4 wsJ6_signum_0f7a4 0 0 0 [.int i0] ws (.inl (some (.int rr)), ws') := by
  unfold m_J6_signum_0f7a4 at h
  refine j_entry (ret := (some .int)) (nm := "signum") (own := RJ6) pl_J6 rfl rfl rfl (jcats (by rfl)) (Nat.le_of_ble_eq_true rfl) ?_
  show JG (.inl false) cJ6_signum_0f7a4 1 RJ6 wsJ6_signum_0f7a4 (some .int) "signum" 0 0 0 ws.length (.inl (some (.int rr)), ws') 0 [some (.int i0)] [] ws 0 0
  refine j_iload_n (pc := 0) dJ6_signum_0f7a4_0 rfl ?_
  refine j_bipush (pc := 1) dJ6_signum_0f7a4_1 (v := 31) (by decide) ?_
  refine j_ishr (pc := 3) dJ6_signum_0f7a4_3 ?_
  refine j_iload_n (pc := 4) dJ6_signum_0f7a4_4 rfl ?_
  refine j_ineg (pc := 5) dJ6_signum_0f7a4_5 ?_
  refine j_bipush (pc := 6) dJ6_signum_0f7a4_6 (v := 31) (by decide) ?_
  refine j_iushr (pc := 8) dJ6_signum_0f7a4_8 (v := jushr (-i0) 31) rfl ?_
  refine j_ior (pc := 9) dJ6_signum_0f7a4_9 ?_
  obtain ⟨rfl, rfl⟩ := jretS h
  exact j_iret (pc := 10) rfl dJ6_signum_0f7a4_10 (by decide) (by decide) rfl
def wsX9_direction : List Cond := Cond.code yX9_direction cX9_direction 6 (some .int) :: jW
def m_X9_direction_b52 (k9 : Nat → Int32 → Int32 → Int32 → Int32 → LWd → Option (Int32 × LWd)) (a0 : Nat) (i1 : Int32) (i2 : Int32) (i3 : Int32) (i4 : Int32) (ws : LWd) : Option (Int32 × LWd) :=
  k9 a0 i1 i2 i3 (i4 + 1) ws
set_option maxRecDepth 100000 in
set_option maxHeartbeats 4000000 in
theorem jm_X9_direction_b52 {n0 : Nat} {rr : Int32} {ws' : LWd} {k9 : Nat → Int32 → Int32 → Int32 → Int32 → LWd → Option (Int32 × LWd)} (hk9 : ∀ (a0 : Nat) (i1 : Int32) (i2 : Int32) (i3 : Int32) (i4 : Int32) (ws : LWd), k9 a0 i1 i2 i3 i4 ws = some (rr, ws') → JG (.inl false) cX9_direction 6 RX9 wsX9_direction (some .int) "direction" 1 0 0 n0 (.inl (some (.int rr)), ws') 9 [some (.ref a0), some (.int i1), some (.int i2), some (.int i3), some (.int i4), none] [] ws 0 0) (a0 : Nat) (i1 : Int32) (i2 : Int32) (i3 : Int32) (i4 : Int32) (ws : LWd) (h : m_X9_direction_b52 k9 a0 i1 i2 i3 i4 ws = some (rr, ws')) : JG (.inl false) cX9_direction 6 RX9 wsX9_direction (some .int) "direction" 1 0 0 n0 (.inl (some (.int rr)), ws') 52 [some (.ref a0), some (.int i1), some (.int i2), some (.int i3), some (.int i4), none] [] ws 0 0 := by
  unfold m_X9_direction_b52 at h
  refine j_iinc_4 (pc := 52) dX9_direction_52 (y := i4 + 1) rfl (by decide) rfl ?_
  refine j_goto (pc := 55) (tgt := 9) dX9_direction_55 (by decide) ?_
  exact hk9 _ _ _ _ _ ws h
def m_X9_direction_l9 : Nat → Nat → Int32 → Int32 → Int32 → Int32 → LWd → Option (Int32 × LWd)
  | 0, _, _, _, _, _, _ => none
  | fu + 1, a0, i1, i2, i3, i4, ws =>
    if 6 ≤ i4 then
      bn2 (calSR ws (m_X9_momentX a0 ws)) fun x4 w2 =>
      (fR w2 a0 9 1).bind fun x5 =>
      bn2 (calSR w2 (m_X2_weight x5 w2)) fun x9 w7 =>
      bn2 (calSR w7 (m_J6_signum_0f7a4 ((x4 * i1) - (i2 * x9)) w7)) fun x12 w10 =>
      bn2 (calSR w10 (m_X9_momentY a0 w10)) fun x15 w13 =>
      (fR w13 a0 9 1).bind fun x16 =>
      bn2 (calSR w13 (m_X2_weight x16 w13)) fun x20 w18 =>
      bn2 (calSR w18 (m_J6_signum_0f7a4 ((x15 * i1) - (i3 * x20)) w18)) fun x23 w21 =>
      some (((3 * (x12 + 1)) + x23) + 1, w21)
    else
      (fR ws a0 9 3).bind fun x24 =>
      bn2 (calSR ws (m_X8_at x24 i4 ws)) fun x28 w26 =>
      if x28 = ((-1)) then
        m_X9_direction_b52 (fun z0 z1 z2 z3 z4 w => m_X9_direction_l9 fu z0 z1 z2 z3 z4 w) a0 i1 i2 i3 i4 w26
      else
        bn2 (calSR w26 (m_X10_xOf x28 w26)) fun x32 w30 =>
        bn2 (calSR w30 (m_X10_yOf x28 w30)) fun x35 w33 =>
        m_X9_direction_b52 (fun z0 z1 z2 z3 z4 w => m_X9_direction_l9 fu z0 z1 z2 z3 z4 w) a0 (i1 + 1) (i2 + x32) (i3 + x35) i4 w33
set_option maxRecDepth 100000 in
set_option maxHeartbeats 4000000 in
theorem jm_X9_direction_l9 {n0 : Nat} {rr : Int32} {ws' : LWd} : ∀ (fu : Nat) (a0 : Nat) (i1 : Int32) (i2 : Int32) (i3 : Int32) (i4 : Int32) (ws : LWd), m_X9_direction_l9 fu a0 i1 i2 i3 i4 ws = some (rr, ws') → JG (.inl false) cX9_direction 6 RX9 wsX9_direction (some .int) "direction" 1 0 0 n0 (.inl (some (.int rr)), ws') 9 [some (.ref a0), some (.int i1), some (.int i2), some (.int i3), some (.int i4), none] [] ws 0 0 := by
  intro fu
  induction fu with
  | zero => intro a0 i1 i2 i3 i4 ws h; first | (cases h; done) | (rw [m_X9_direction_l9] at h; cases h)
  | succ fu ih =>
    intro a0 i1 i2 i3 i4 ws h
    rw [m_X9_direction_l9] at h
    refine j_iload (pc := 9) dX9_direction_9 rfl ?_
    refine j_bipush (pc := 11) dX9_direction_11 (v := 6) (by decide) ?_
    refine j_icmp_ge (pc := 13) (tgt := 58) dX9_direction_13 (by decide) (fun c1 => ?_) (fun c1 => ?_)
    · rw [if_pos c1] at h
      refine j_aload_n (pc := 58) dX9_direction_58 rfl ?_
      obtain ⟨x4, w2, e3, h⟩ := obS2 h
      have ge3 := calSR_of e3
      refine j_callV_g (pc := 59) (As := []) (k' := 0) (n' := 0) dX9_direction_59 (s_X9_momentX ge3.1) (jgV lw_217 lw_218 lw_219 lw_76 lw_216) rfl hv_X9_momentX rfl (r_X9_momentX ge3.1) rfl (by decide) (by decide) (Nat.le_of_ble_eq_true rfl) (by decide) (by decide) (by decide) (by decide) (Or.inl ge3.2) ?_
      refine j_iload_n (pc := 62) dX9_direction_62 rfl ?_
      refine j_imul (pc := 63) dX9_direction_63 ?_
      refine j_iload_n (pc := 64) dX9_direction_64 rfl ?_
      refine j_aload_n (pc := 65) dX9_direction_65 rfl ?_
      obtain ⟨x5, e6, h⟩ := obS h
      refine j_getR (pc := 66) dX9_direction_66 (ci := 9) (kf := 1) rfl (jwi hw_X9) (by decide) (jwm lw_43) e6 ?_
      obtain ⟨x9, w7, e8, h⟩ := obS2 h
      have ge8 := calSR_of e8
      refine j_callV_g (pc := 69) (As := []) (k' := 0) (n' := 0) dX9_direction_69 (s_X2_weight ge8.1) (jgV lw_225 lw_226 lw_227 lw_97 lw_224) rfl hv_X2_weight rfl (r_X2_weight ge8.1) rfl (by decide) (by decide) (Nat.le_of_ble_eq_true rfl) (by decide) (by decide) (by decide) (by decide) (Or.inl ge8.2) ?_
      refine j_imul (pc := 72) dX9_direction_72 ?_
      refine j_isub (pc := 73) dX9_direction_73 ?_
      obtain ⟨x12, w10, e11, h⟩ := obS2 h
      have ge11 := calSR_of e11
      refine j_callS_g (pc := 74) (As := [.int ((x4 * i1) - (i2 * x9))]) (k' := 0) (n' := 0) dX9_direction_74 (s_J6_signum_0f7a4 ge11.1) (jgS lw_276 lw_277 lw_278 lw_275) rfl hy_J6_signum_0f7a4 rfl (by decide) (by decide) (Nat.le_of_ble_eq_true rfl) (by decide) (by decide) (by decide) (by decide) (Or.inl ge11.2) ?_
      refine j_istore_4 (pc := 77) dX9_direction_77 (by decide) rfl ?_
      refine j_aload_n (pc := 79) dX9_direction_79 rfl ?_
      obtain ⟨x15, w13, e14, h⟩ := obS2 h
      have ge14 := calSR_of e14
      refine j_callV_g (pc := 80) (As := []) (k' := 0) (n' := 0) dX9_direction_80 (s_X9_momentY ge14.1) (jgV lw_221 lw_222 lw_223 lw_76 lw_220) rfl hv_X9_momentY rfl (r_X9_momentY ge14.1) rfl (by decide) (by decide) (Nat.le_of_ble_eq_true rfl) (by decide) (by decide) (by decide) (by decide) (Or.inl ge14.2) ?_
      refine j_iload_n (pc := 83) dX9_direction_83 rfl ?_
      refine j_imul (pc := 84) dX9_direction_84 ?_
      refine j_iload_n (pc := 85) dX9_direction_85 rfl ?_
      refine j_aload_n (pc := 86) dX9_direction_86 rfl ?_
      obtain ⟨x16, e17, h⟩ := obS h
      refine j_getR (pc := 87) dX9_direction_87 (ci := 9) (kf := 1) rfl (jwi hw_X9) (by decide) (jwm lw_43) e17 ?_
      obtain ⟨x20, w18, e19, h⟩ := obS2 h
      have ge19 := calSR_of e19
      refine j_callV_g (pc := 90) (As := []) (k' := 0) (n' := 0) dX9_direction_90 (s_X2_weight ge19.1) (jgV lw_225 lw_226 lw_227 lw_97 lw_224) rfl hv_X2_weight rfl (r_X2_weight ge19.1) rfl (by decide) (by decide) (Nat.le_of_ble_eq_true rfl) (by decide) (by decide) (by decide) (by decide) (Or.inl ge19.2) ?_
      refine j_imul (pc := 93) dX9_direction_93 ?_
      refine j_isub (pc := 94) dX9_direction_94 ?_
      obtain ⟨x23, w21, e22, h⟩ := obS2 h
      have ge22 := calSR_of e22
      refine j_callS_g (pc := 95) (As := [.int ((x15 * i1) - (i3 * x20))]) (k' := 0) (n' := 0) dX9_direction_95 (s_J6_signum_0f7a4 ge22.1) (jgS lw_276 lw_277 lw_278 lw_275) rfl hy_J6_signum_0f7a4 rfl (by decide) (by decide) (Nat.le_of_ble_eq_true rfl) (by decide) (by decide) (by decide) (by decide) (Or.inl ge22.2) ?_
      refine j_istore_5 (pc := 98) dX9_direction_98 (by decide) rfl ?_
      refine j_iconst (pc := 100) dX9_direction_100 (v := 3) (by decide) ?_
      refine j_iload (pc := 101) dX9_direction_101 rfl ?_
      refine j_iconst (pc := 103) dX9_direction_103 (v := 1) (by decide) ?_
      refine j_iadd (pc := 104) dX9_direction_104 ?_
      refine j_imul (pc := 105) dX9_direction_105 ?_
      refine j_iload (pc := 106) dX9_direction_106 rfl ?_
      refine j_iadd (pc := 108) dX9_direction_108 ?_
      refine j_iconst (pc := 109) dX9_direction_109 (v := 1) (by decide) ?_
      refine j_iadd (pc := 110) dX9_direction_110 ?_
      obtain ⟨rfl, rfl⟩ := jretS h
      exact j_iret (pc := 111) rfl dX9_direction_111 (by decide) (by decide) rfl
    · rw [if_neg c1] at h
      refine j_aload_n (pc := 16) dX9_direction_16 rfl ?_
      obtain ⟨x24, e25, h⟩ := obS h
      refine j_getR (pc := 17) dX9_direction_17 (ci := 9) (kf := 3) rfl (jwi hw_X9) (by decide) (jwm lw_39) e25 ?_
      refine j_iload (pc := 20) dX9_direction_20 rfl ?_
      obtain ⟨x28, w26, e27, h⟩ := obS2 h
      have ge27 := calSR_of e27
      refine j_callV_g (pc := 22) (As := [.int i4]) (k' := 0) (n' := 0) dX9_direction_22 (s_X8_at ge27.1) (jgV lw_139 lw_140 lw_141 lw_12 lw_138) rfl hv_X8_at rfl (r_X8_at ge27.1) rfl (by decide) (by decide) (Nat.le_of_ble_eq_true rfl) (by decide) (by decide) (by decide) (by decide) (Or.inl ge27.2) ?_
      refine j_istore_5 (pc := 25) dX9_direction_25 (by decide) rfl ?_
      refine j_iload (pc := 27) dX9_direction_27 rfl ?_
      refine j_iconst (pc := 29) dX9_direction_29 (v := (-1)) (by decide) ?_
      refine j_icmp_eq (pc := 30) (tgt := 52) dX9_direction_30 (by decide) (fun c29 => ?_) (fun c29 => ?_)
      · rw [if_pos c29] at h
        refine j_mask [true, true, true, true, true, false] ?_
        exact jm_X9_direction_b52 (hk9 := ih) _ _ _ _ _ w26 h
      · rw [if_neg c29] at h
        refine j_iinc_1 (pc := 33) dX9_direction_33 (y := i1 + 1) rfl (by decide) rfl ?_
        refine j_iload_n (pc := 36) dX9_direction_36 rfl ?_
        refine j_iload (pc := 37) dX9_direction_37 rfl ?_
        obtain ⟨x32, w30, e31, h⟩ := obS2 h
        have ge31 := calSR_of e31
        refine j_callSN_g (pc := 39) (As := [.int x28]) (k' := 0) (n' := 0) dX9_direction_39 (s_X10_xOf ge31.1) (jgP lw_279) nst_X9_55 (jwm lw_147) (jwm lw_280) rfl hy_X10_xOf rfl (by decide) (by decide) (Nat.le_of_ble_eq_true rfl) (by decide) (by decide) (by decide) (by decide) (Or.inl ge31.2) ?_
        refine j_iadd (pc := 42) dX9_direction_42 ?_
        refine j_istore_n_2 (pc := 43) dX9_direction_43 (by decide) rfl ?_
        refine j_iload_n (pc := 44) dX9_direction_44 rfl ?_
        refine j_iload (pc := 45) dX9_direction_45 rfl ?_
        obtain ⟨x35, w33, e34, h⟩ := obS2 h
        have ge34 := calSR_of e34
        refine j_callSN_g (pc := 47) (As := [.int x28]) (k' := 0) (n' := 0) dX9_direction_47 (s_X10_yOf ge34.1) (jgP lw_281) nst_X9_60 (jwm lw_147) (jwm lw_282) rfl hy_X10_yOf rfl (by decide) (by decide) (Nat.le_of_ble_eq_true rfl) (by decide) (by decide) (by decide) (by decide) (Or.inl ge34.2) ?_
        refine j_iadd (pc := 50) dX9_direction_50 ?_
        refine j_istore_n_3 (pc := 51) dX9_direction_51 (by decide) rfl ?_
        refine j_mask [true, true, true, true, true, false] ?_
        exact jm_X9_direction_b52 (hk9 := ih) _ _ _ _ _ w33 h
def m_X9_direction (a0 : Nat) (ws : LWd) : Option (Int32 × LWd) :=
  (rcv ws a0 9).bind fun _ =>
  m_X9_direction_l9 FU a0 0 0 0 0 ws
set_option maxRecDepth 100000 in
set_option maxHeartbeats 4000000 in
theorem s_X9_direction {a0 : Nat} {ws : LWd} {rr : Int32} {ws' : LWd} (h : m_X9_direction a0 ws = some (rr, ws')) : jSp yX9_direction wsX9_direction 1 0 0 [.ref a0] ws (.inl (some (.int rr)), ws') := by
  unfold m_X9_direction at h
  refine j_entry (ret := (some .int)) (nm := "direction") (own := RX9) pl_X9 rfl rfl rfl (jcats (by rfl)) (Nat.le_of_ble_eq_true rfl) ?_
  show JG (.inl false) cX9_direction 6 RX9 wsX9_direction (some .int) "direction" 1 0 0 ws.length (.inl (some (.int rr)), ws') 0 [some (.ref a0), none, none, none, none, none] [] ws 0 0
  obtain ⟨_, _, h⟩ := obS h
  refine j_iconst (pc := 0) dX9_direction_0 (v := 0) (by decide) ?_
  refine j_istore_n_1 (pc := 1) dX9_direction_1 (by decide) rfl ?_
  refine j_iconst (pc := 2) dX9_direction_2 (v := 0) (by decide) ?_
  refine j_istore_n_2 (pc := 3) dX9_direction_3 (by decide) rfl ?_
  refine j_iconst (pc := 4) dX9_direction_4 (v := 0) (by decide) ?_
  refine j_istore_n_3 (pc := 5) dX9_direction_5 (by decide) rfl ?_
  refine j_iconst (pc := 6) dX9_direction_6 (v := 0) (by decide) ?_
  refine j_istore_4 (pc := 7) dX9_direction_7 (by decide) rfl ?_
  exact jm_X9_direction_l9 FU _ _ _ _ _ ws h
theorem r_X9_direction {a0 : Nat} {ws : LWd} {o : (Int32 × LWd)} (h : m_X9_direction a0 ws = some o) : ∃ fs, ws[a0]? = some (.inr (9, fs)) := rcv_in h
def wsX1_keep : List Cond := Cond.code yX1_keep cX1_keep 4 none :: jW
def m_X1_keep (a0 : Nat) (i1 : Int32) (i2 : Int32) (i3 : Int32) (ws : LWd) : Option LWd :=
  (rcv ws a0 1).bind fun _ =>
  (fR ws a0 1 0).bind fun x1 =>
  (fI ws a0 1 3).bind fun x3 =>
  (calSV ws (m_X8_put x1 x3 i1 ws)).bind fun w5 =>
  (fR w5 a0 1 1).bind fun x7 =>
  (fI w5 a0 1 3).bind fun x9 =>
  (calSV w5 (m_X8_put x7 x9 i2 w5)).bind fun w11 =>
  (fR w11 a0 1 2).bind fun x13 =>
  (fI w11 a0 1 3).bind fun x15 =>
  (calSV w11 (m_X8_put x13 x15 i3 w11)).bind fun w17 =>
  (fI w17 a0 1 3).bind fun x19 =>
  (pV w17 a0 1 3 (.int (x19 + 1))).bind fun w21 =>
  some w21
set_option maxRecDepth 100000 in
set_option maxHeartbeats 4000000 in
theorem s_X1_keep {a0 : Nat} {i1 : Int32} {i2 : Int32} {i3 : Int32} {ws : LWd} {ws' : LWd} (h : m_X1_keep a0 i1 i2 i3 ws = some ws') : jSp yX1_keep wsX1_keep 1 0 0 [.ref a0, .int i1, .int i2, .int i3] ws (.inl none, ws') := by
  unfold m_X1_keep at h
  refine j_entry (ret := none) (nm := "keep") (own := RX1) pl_X1 rfl rfl rfl (jcats (by rfl)) (Nat.le_of_ble_eq_true rfl) ?_
  show JG (.inl false) cX1_keep 4 RX1 wsX1_keep none "keep" 1 0 0 ws.length (.inl none, ws') 0 [some (.ref a0), some (.int i1), some (.int i2), some (.int i3)] [] ws 0 0
  obtain ⟨_, _, h⟩ := obS h
  refine j_aload_n (pc := 0) dX1_keep_0 rfl ?_
  obtain ⟨x1, e2, h⟩ := obS h
  refine j_getR (pc := 1) dX1_keep_1 (ci := 1) (kf := 0) rfl (jwi hw_X1) (by decide) (jwm lw_59) e2 ?_
  refine j_aload_n (pc := 4) dX1_keep_4 rfl ?_
  obtain ⟨x3, e4, h⟩ := obS h
  refine j_getI (pc := 5) dX1_keep_5 (ci := 1) (kf := 3) rfl (jwi hw_X1) (by decide) (jwm lw_62) e4 ?_
  refine j_iload_n (pc := 8) dX1_keep_8 rfl ?_
  obtain ⟨w5, e6, h⟩ := obS h
  have ge6 := calSV_of e6
  refine j_callV_g (pc := 9) (As := [.int x3, .int i1]) (k' := 0) (n' := 0) dX1_keep_9 (s_X8_put ge6.1) (jgV lw_283 lw_159 lw_160 lw_12 lw_157) rfl hv_X8_put rfl (r_X8_put ge6.1) rfl (by decide) (by decide) (Nat.le_of_ble_eq_true rfl) (by decide) (by decide) (by decide) (by decide) (Or.inl ge6.2) ?_
  refine j_aload_n (pc := 12) dX1_keep_12 rfl ?_
  obtain ⟨x7, e8, h⟩ := obS h
  refine j_getR (pc := 13) dX1_keep_13 (ci := 1) (kf := 1) rfl (jwi hw_X1) (by decide) (jwm lw_60) e8 ?_
  refine j_aload_n (pc := 16) dX1_keep_16 rfl ?_
  obtain ⟨x9, e10, h⟩ := obS h
  refine j_getI (pc := 17) dX1_keep_17 (ci := 1) (kf := 3) rfl (jwi hw_X1) (by decide) (jwm lw_62) e10 ?_
  refine j_iload_n (pc := 20) dX1_keep_20 rfl ?_
  obtain ⟨w11, e12, h⟩ := obS h
  have ge12 := calSV_of e12
  refine j_callV_g (pc := 21) (As := [.int x9, .int i2]) (k' := 0) (n' := 0) dX1_keep_21 (s_X8_put ge12.1) (jgV lw_283 lw_159 lw_160 lw_12 lw_157) rfl hv_X8_put rfl (r_X8_put ge12.1) rfl (by decide) (by decide) (Nat.le_of_ble_eq_true rfl) (by decide) (by decide) (by decide) (by decide) (Or.inl ge12.2) ?_
  refine j_aload_n (pc := 24) dX1_keep_24 rfl ?_
  obtain ⟨x13, e14, h⟩ := obS h
  refine j_getR (pc := 25) dX1_keep_25 (ci := 1) (kf := 2) rfl (jwi hw_X1) (by decide) (jwm lw_61) e14 ?_
  refine j_aload_n (pc := 28) dX1_keep_28 rfl ?_
  obtain ⟨x15, e16, h⟩ := obS h
  refine j_getI (pc := 29) dX1_keep_29 (ci := 1) (kf := 3) rfl (jwi hw_X1) (by decide) (jwm lw_62) e16 ?_
  refine j_iload_n (pc := 32) dX1_keep_32 rfl ?_
  obtain ⟨w17, e18, h⟩ := obS h
  have ge18 := calSV_of e18
  refine j_callV_g (pc := 33) (As := [.int x15, .int i3]) (k' := 0) (n' := 0) dX1_keep_33 (s_X8_put ge18.1) (jgV lw_283 lw_159 lw_160 lw_12 lw_157) rfl hv_X8_put rfl (r_X8_put ge18.1) rfl (by decide) (by decide) (Nat.le_of_ble_eq_true rfl) (by decide) (by decide) (by decide) (by decide) (Or.inl ge18.2) ?_
  refine j_aload_n (pc := 36) dX1_keep_36 rfl ?_
  refine j_dup (pc := 37) dX1_keep_37 rfl ?_
  obtain ⟨x19, e20, h⟩ := obS h
  refine j_getI (pc := 38) dX1_keep_38 (ci := 1) (kf := 3) rfl (jwi hw_X1) (by decide) (jwm lw_62) e20 ?_
  refine j_iconst (pc := 41) dX1_keep_41 (v := 1) (by decide) ?_
  refine j_iadd (pc := 42) dX1_keep_42 ?_
  obtain ⟨w21, e22, h⟩ := obS h
  refine j_putV (pc := 43) (ci := 1) (kf := 3) tyX1 tyX1_ok nmX1 dX1_keep_43 rfl (jwi hw_X1) (by decide) (jwm lw_62) rfl (fun _ => rfl) (fun _ => rfl) e22 ?_
  cases h
  exact j_vret (pc := 46) rfl dX1_keep_46 (by decide) (by decide) rfl
theorem r_X1_keep {a0 : Nat} {i1 : Int32} {i2 : Int32} {i3 : Int32} {ws : LWd} {o : LWd} (h : m_X1_keep a0 i1 i2 i3 ws = some o) : ∃ fs, ws[a0]? = some (.inr (1, fs)) := rcv_in h
def wsX8_fill : List Cond := Cond.code yX8_fill cX8_fill 2 none :: jW
def m_X8_fill (a0 : Nat) (i1 : Int32) (ws : LWd) : Option LWd :=
  (rcv ws a0 8).bind fun _ =>
  (fR ws a0 8 0).bind fun x1 =>
  (calSV ws (m_J7_fill_53178 x1 i1 ws)).bind fun w3 =>
  some w3
set_option maxRecDepth 100000 in
set_option maxHeartbeats 4000000 in
theorem s_X8_fill {a0 : Nat} {i1 : Int32} {ws : LWd} {ws' : LWd} (h : m_X8_fill a0 i1 ws = some ws') : jSp yX8_fill wsX8_fill 1 0 0 [.ref a0, .int i1] ws (.inl none, ws') := by
  unfold m_X8_fill at h
  refine j_entry (ret := none) (nm := "fill") (own := RX8) pl_X8 rfl rfl rfl (jcats (by rfl)) (Nat.le_of_ble_eq_true rfl) ?_
  show JG (.inl false) cX8_fill 2 RX8 wsX8_fill none "fill" 1 0 0 ws.length (.inl none, ws') 0 [some (.ref a0), some (.int i1)] [] ws 0 0
  obtain ⟨_, _, h⟩ := obS h
  refine j_aload_n (pc := 0) dX8_fill_0 rfl ?_
  obtain ⟨x1, e2, h⟩ := obS h
  refine j_getR (pc := 1) dX8_fill_1 (ci := 8) (kf := 0) rfl (jwi hw_X8) (by decide) (jwm lw_1) e2 ?_
  refine j_iload_n (pc := 4) dX8_fill_4 rfl ?_
  obtain ⟨w3, e4, h⟩ := obS h
  have ge4 := calSV_of e4
  refine j_callS_g (pc := 5) (As := [.ref x1, .int i1]) (k' := 0) (n' := 0) dX8_fill_5 (s_J7_fill_53178 ge4.1) (jgS lw_3 lw_4 lw_5 lw_2) rfl hy_J7_fill_53178 rfl (by decide) (by decide) (Nat.le_of_ble_eq_true rfl) (by decide) (by decide) (by decide) (by decide) (Or.inl ge4.2) ?_
  cases h
  exact j_vret (pc := 8) rfl dX8_fill_8 (by decide) (by decide) rfl
theorem r_X8_fill {a0 : Nat} {i1 : Int32} {ws : LWd} {o : LWd} (h : m_X8_fill a0 i1 ws = some o) : ∃ fs, ws[a0]? = some (.inr (8, fs)) := rcv_in h
def wsX10_toppleOver : List Cond := Cond.code yX10_toppleOver cX10_toppleOver 1 none :: jW
def m_X10_toppleOver (a0 : Nat) (ws : LWd) : Option LWd :=
  (rcv ws a0 10).bind fun _ =>
  (fR ws a0 10 6).bind fun x1 =>
  (fR ws a0 10 2).bind fun x3 =>
  bn2 (calSR ws (m_X9_direction x3 ws)) fun x7 w5 =>
  (fR w5 a0 10 5).bind fun x8 =>
  (fI w5 x8 0 1).bind fun x10 =>
  (fR w5 a0 10 5).bind fun x12 =>
  (fI w5 x12 0 2).bind fun x14 =>
  (calSV w5 (m_X1_keep x1 x7 x10 x14 w5)).bind fun w16 =>
  (pZ w16 a0 10 9 0).bind fun w18 =>
  (fR w18 a0 10 2).bind fun x20 =>
  (fR w18 x20 9 3).bind fun x22 =>
  (calSV w18 (m_X8_fill x22 ((-1)) w18)).bind fun w24 =>
  some w24
set_option maxRecDepth 100000 in
set_option maxHeartbeats 4000000 in
theorem s_X10_toppleOver {a0 : Nat} {ws : LWd} {ws' : LWd} (h : m_X10_toppleOver a0 ws = some ws') : jSp yX10_toppleOver wsX10_toppleOver 2 0 0 [.ref a0] ws (.inl none, ws') := by
  unfold m_X10_toppleOver at h
  refine j_entry (ret := none) (nm := "toppleOver") (own := RX10) pl_X10 rfl rfl rfl (jcats (by rfl)) (Nat.le_of_ble_eq_true rfl) ?_
  show JG (.inl false) cX10_toppleOver 1 RX10 wsX10_toppleOver none "toppleOver" 2 0 0 ws.length (.inl none, ws') 0 [some (.ref a0)] [] ws 0 0
  obtain ⟨_, _, h⟩ := obS h
  refine j_aload_n (pc := 0) dX10_toppleOver_0 rfl ?_
  obtain ⟨x1, e2, h⟩ := obS h
  refine j_getR (pc := 1) dX10_toppleOver_1 (ci := 10) (kf := 6) rfl (jwi hw_X10) (by decide) (jwm lw_122) e2 ?_
  refine j_aload_n (pc := 4) dX10_toppleOver_4 rfl ?_
  obtain ⟨x3, e4, h⟩ := obS h
  refine j_getR (pc := 5) dX10_toppleOver_5 (ci := 10) (kf := 2) rfl (jwi hw_X10) (by decide) (jwm lw_103) e4 ?_
  obtain ⟨x7, w5, e6, h⟩ := obS2 h
  have ge6 := calSR_of e6
  refine j_callV_g (pc := 8) (As := []) (k' := 0) (n' := 0) dX10_toppleOver_8 (s_X9_direction ge6.1) (jgV lw_285 lw_286 lw_287 lw_76 lw_284) rfl hv_X9_direction rfl (r_X9_direction ge6.1) rfl (by decide) (by decide) (Nat.le_of_ble_eq_true rfl) (by decide) (by decide) (by decide) (by decide) (Or.inl ge6.2) ?_
  refine j_aload_n (pc := 11) dX10_toppleOver_11 rfl ?_
  obtain ⟨x8, e9, h⟩ := obS h
  refine j_getR (pc := 12) dX10_toppleOver_12 (ci := 10) (kf := 5) rfl (jwi hw_X10) (by decide) (jwm lw_116) e9 ?_
  obtain ⟨x10, e11, h⟩ := obS h
  refine j_getI (pc := 15) dX10_toppleOver_15 (ci := 0) (kf := 1) rfl (jwi hw_X0) (by decide) (jwm lw_288) e11 ?_
  refine j_aload_n (pc := 18) dX10_toppleOver_18 rfl ?_
  obtain ⟨x12, e13, h⟩ := obS h
  refine j_getR (pc := 19) dX10_toppleOver_19 (ci := 10) (kf := 5) rfl (jwi hw_X10) (by decide) (jwm lw_116) e13 ?_
  obtain ⟨x14, e15, h⟩ := obS h
  refine j_getI (pc := 22) dX10_toppleOver_22 (ci := 0) (kf := 2) rfl (jwi hw_X0) (by decide) (jwm lw_289) e15 ?_
  obtain ⟨w16, e17, h⟩ := obS h
  have ge17 := calSV_of e17
  refine j_callV_g (pc := 25) (As := [.int x7, .int x10, .int x14]) (k' := 0) (n' := 0) dX10_toppleOver_25 (s_X1_keep ge17.1) (jgV lw_291 lw_292 lw_293 lw_119 lw_290) rfl hv_X1_keep rfl (r_X1_keep ge17.1) rfl (by decide) (by decide) (Nat.le_of_ble_eq_true rfl) (by decide) (by decide) (by decide) (by decide) (Or.inl ge17.2) ?_
  refine j_aload_n (pc := 28) dX10_toppleOver_28 rfl ?_
  refine j_iconst (pc := 29) dX10_toppleOver_29 (v := 0) (by decide) ?_
  obtain ⟨w18, e19, h⟩ := obS h
  refine j_putV (pc := 30) (ci := 10) (kf := 9) tyX10 tyX10_ok nmX10 dX10_toppleOver_30 rfl (jwi hw_X10) (by decide) (jwm lw_136) rfl (pZ_n e19).2.1 (pZ_n e19).2.2 (pZ_n e19).1 ?_
  refine j_aload_n (pc := 33) dX10_toppleOver_33 rfl ?_
  obtain ⟨x20, e21, h⟩ := obS h
  refine j_getR (pc := 34) dX10_toppleOver_34 (ci := 10) (kf := 2) rfl (jwi hw_X10) (by decide) (jwm lw_103) e21 ?_
  obtain ⟨x22, e23, h⟩ := obS h
  refine j_getR (pc := 37) dX10_toppleOver_37 (ci := 9) (kf := 3) rfl (jwi hw_X9) (by decide) (jwm lw_265) e23 ?_
  refine j_iconst (pc := 40) dX10_toppleOver_40 (v := (-1)) (by decide) ?_
  obtain ⟨w24, e25, h⟩ := obS h
  have ge25 := calSV_of e25
  refine j_callV_g (pc := 41) (As := [.int ((-1))]) (k' := 0) (n' := 0) dX10_toppleOver_41 (s_X8_fill ge25.1) (jgV lw_295 lw_296 lw_297 lw_12 lw_294) rfl hv_X8_fill rfl (r_X8_fill ge25.1) rfl (by decide) (by decide) (Nat.le_of_ble_eq_true rfl) (by decide) (by decide) (by decide) (by decide) (Or.inl ge25.2) ?_
  cases h
  exact j_vret (pc := 44) rfl dX10_toppleOver_44 (by decide) (by decide) rfl
theorem r_X10_toppleOver {a0 : Nat} {ws : LWd} {o : LWd} (h : m_X10_toppleOver a0 ws = some o) : ∃ fs, ws[a0]? = some (.inr (10, fs)) := rcv_in h
def wsX10_settled : List Cond := Cond.code yX10_settled cX10_settled 3 (some .int) :: jW
def m_X10_settled_b69 (a0 : Nat) (ws : LWd) : Option (Int32 × LWd) :=
  (fR ws a0 10 5).bind fun x1 =>
  (fI ws x1 0 3).bind fun x3 =>
  some (x3, ws)
set_option maxRecDepth 100000 in
set_option maxHeartbeats 4000000 in
theorem jm_X10_settled_b69 {n0 : Nat} {rr : Int32} {ws' : LWd} (a0 : Nat) (ws : LWd) (h : m_X10_settled_b69 a0 ws = some (rr, ws')) : JG (.inl false) cX10_settled 3 RX10 wsX10_settled (some .int) "settled" 4 0 0 n0 (.inl (some (.int rr)), ws') 69 [some (.ref a0), none, none] [] ws 0 0 := by
  unfold m_X10_settled_b69 at h
  refine j_aload_n (pc := 69) dX10_settled_69 rfl ?_
  obtain ⟨x1, e2, h⟩ := obS h
  refine j_getR (pc := 70) dX10_settled_70 (ci := 10) (kf := 5) rfl (jwi hw_X10) (by decide) (jwm lw_116) e2 ?_
  obtain ⟨x3, e4, h⟩ := obS h
  refine j_getI (pc := 73) dX10_settled_73 (ci := 0) (kf := 3) rfl (jwi hw_X0) (by decide) (jwm lw_298) e4 ?_
  obtain ⟨rfl, rfl⟩ := jretS h
  exact j_iret (pc := 76) rfl dX10_settled_76 (by decide) (by decide) rfl
def m_X10_settled_b54 (a0 : Nat) (ws : LWd) : Option (Int32 × LWd) :=
  (fR ws a0 10 2).bind fun x1 =>
  bn2 (calSR ws (m_X9_holdsWithout x1 ((-1)) ws)) fun x5 w3 =>
  if x5 = 0 then
    (calSV w3 (m_X10_toppleOver a0 w3)).bind fun w7 =>
    m_X10_settled_b69 a0 w7
  else
    m_X10_settled_b69 a0 w3
set_option maxRecDepth 100000 in
set_option maxHeartbeats 4000000 in
theorem jm_X10_settled_b54 {n0 : Nat} {rr : Int32} {ws' : LWd} (a0 : Nat) (ws : LWd) (h : m_X10_settled_b54 a0 ws = some (rr, ws')) : JG (.inl false) cX10_settled 3 RX10 wsX10_settled (some .int) "settled" 4 0 0 n0 (.inl (some (.int rr)), ws') 54 [some (.ref a0), none, none] [] ws 0 0 := by
  unfold m_X10_settled_b54 at h
  refine j_aload_n (pc := 54) dX10_settled_54 rfl ?_
  obtain ⟨x1, e2, h⟩ := obS h
  refine j_getR (pc := 55) dX10_settled_55 (ci := 10) (kf := 2) rfl (jwi hw_X10) (by decide) (jwm lw_103) e2 ?_
  refine j_iconst (pc := 58) dX10_settled_58 (v := (-1)) (by decide) ?_
  obtain ⟨x5, w3, e4, h⟩ := obS2 h
  have ge4 := calSR_of e4
  refine j_callV_g (pc := 59) (As := [.int ((-1))]) (k' := 0) (n' := 0) dX10_settled_59 (s_X9_holdsWithout ge4.1) (jgV lw_244 lw_245 lw_246 lw_76 lw_243) rfl hv_X9_holdsWithout rfl (r_X9_holdsWithout ge4.1) rfl (by decide) (by decide) (Nat.le_of_ble_eq_true rfl) (by decide) (by decide) (by decide) (by decide) (Or.inl ge4.2) ?_
  refine j_if_ne (pc := 62) (tgt := 69) dX10_settled_62 (by decide) (fun c6 => ?_) (fun c6 => ?_)
  · rw [if_neg c6] at h
    exact jm_X10_settled_b69 _ w3 h
  · rw [if_pos c6] at h
    refine j_aload_n (pc := 65) dX10_settled_65 rfl ?_
    obtain ⟨w7, e8, h⟩ := obS h
    have ge8 := calSV_of e8
    refine j_callV_g (pc := 66) (As := []) (k' := 0) (n' := 0) dX10_settled_66 (s_X10_toppleOver ge8.1) (jgV lw_300 lw_301 lw_302 lw_147 lw_299) rfl hv_X10_toppleOver rfl (r_X10_toppleOver ge8.1) rfl (by decide) (by decide) (Nat.le_of_ble_eq_true rfl) (by decide) (by decide) (by decide) (by decide) (Or.inl ge8.2) ?_
    exact jm_X10_settled_b69 _ w7 h
def m_X10_settled_l17 : Nat → Nat → Int32 → Int32 → LWd → Option (Int32 × LWd)
  | 0, _, _, _, _ => none
  | fu + 1, a0, i1, i2, ws =>
    if i1 = 0 then
      m_X10_settled_b54 a0 ws
    else
      if 6 ≤ i2 then
        m_X10_settled_b54 a0 ws
      else
        (calSV ws (m_X10_breakGround a0 i1 ws)).bind fun w3 =>
        (fR w3 a0 10 2).bind fun x5 =>
        (calSV w3 (m_X9_raise x5 i1 w3)).bind fun w7 =>
        (fR w7 a0 10 2).bind fun x9 =>
        bn2 (calSR w7 (m_X9_sinking x9 w7)) fun x13 w11 =>
        m_X10_settled_l17 fu a0 x13 (i2 + 1) w11
set_option maxRecDepth 100000 in
set_option maxHeartbeats 4000000 in
theorem jm_X10_settled_l17 {n0 : Nat} {rr : Int32} {ws' : LWd} : ∀ (fu : Nat) (a0 : Nat) (i1 : Int32) (i2 : Int32) (ws : LWd), m_X10_settled_l17 fu a0 i1 i2 ws = some (rr, ws') → JG (.inl false) cX10_settled 3 RX10 wsX10_settled (some .int) "settled" 4 0 0 n0 (.inl (some (.int rr)), ws') 17 [some (.ref a0), some (.int i1), some (.int i2)] [] ws 0 0 := by
  intro fu
  induction fu with
  | zero => intro a0 i1 i2 ws h; first | (cases h; done) | (rw [m_X10_settled_l17] at h; cases h)
  | succ fu ih =>
    intro a0 i1 i2 ws h
    rw [m_X10_settled_l17] at h
    refine j_iload_n (pc := 17) dX10_settled_17 rfl ?_
    refine j_if_eq (pc := 18) (tgt := 54) dX10_settled_18 (by decide) (fun c1 => ?_) (fun c1 => ?_)
    · rw [if_pos c1] at h
      refine j_mask [true, false, false] ?_
      exact jm_X10_settled_b54 _ ws h
    · rw [if_neg c1] at h
      refine j_iload_n (pc := 21) dX10_settled_21 rfl ?_
      refine j_bipush (pc := 22) dX10_settled_22 (v := 6) (by decide) ?_
      refine j_icmp_ge (pc := 24) (tgt := 54) dX10_settled_24 (by decide) (fun c2 => ?_) (fun c2 => ?_)
      · rw [if_pos c2] at h
        refine j_mask [true, false, false] ?_
        exact jm_X10_settled_b54 _ ws h
      · rw [if_neg c2] at h
        refine j_aload_n (pc := 27) dX10_settled_27 rfl ?_
        refine j_iload_n (pc := 28) dX10_settled_28 rfl ?_
        obtain ⟨w3, e4, h⟩ := obS h
        have ge4 := calSV_of e4
        refine j_callV_g (pc := 29) (As := [.int i1]) (k' := 0) (n' := 0) dX10_settled_29 (s_X10_breakGround ge4.1) (jgV lw_304 lw_305 lw_306 lw_147 lw_303) rfl hv_X10_breakGround rfl (r_X10_breakGround ge4.1) rfl (by decide) (by decide) (Nat.le_of_ble_eq_true rfl) (by decide) (by decide) (by decide) (by decide) (Or.inl ge4.2) ?_
        refine j_aload_n (pc := 32) dX10_settled_32 rfl ?_
        obtain ⟨x5, e6, h⟩ := obS h
        refine j_getR (pc := 33) dX10_settled_33 (ci := 10) (kf := 2) rfl (jwi hw_X10) (by decide) (jwm lw_103) e6 ?_
        refine j_iload_n (pc := 36) dX10_settled_36 rfl ?_
        obtain ⟨w7, e8, h⟩ := obS h
        have ge8 := calSV_of e8
        refine j_callV_g (pc := 37) (As := [.int i1]) (k' := 0) (n' := 0) dX10_settled_37 (s_X9_raise ge8.1) (jgV lw_308 lw_309 lw_310 lw_76 lw_307) rfl hv_X9_raise rfl (r_X9_raise ge8.1) rfl (by decide) (by decide) (Nat.le_of_ble_eq_true rfl) (by decide) (by decide) (by decide) (by decide) (Or.inl ge8.2) ?_
        refine j_aload_n (pc := 40) dX10_settled_40 rfl ?_
        obtain ⟨x9, e10, h⟩ := obS h
        refine j_getR (pc := 41) dX10_settled_41 (ci := 10) (kf := 2) rfl (jwi hw_X10) (by decide) (jwm lw_103) e10 ?_
        obtain ⟨x13, w11, e12, h⟩ := obS2 h
        have ge12 := calSR_of e12
        refine j_callV_g (pc := 44) (As := []) (k' := 0) (n' := 0) dX10_settled_44 (s_X9_sinking ge12.1) (jgV lw_312 lw_313 lw_314 lw_76 lw_311) rfl hv_X9_sinking rfl (r_X9_sinking ge12.1) rfl (by decide) (by decide) (Nat.le_of_ble_eq_true rfl) (by decide) (by decide) (by decide) (by decide) (Or.inl ge12.2) ?_
        refine j_istore_n_1 (pc := 47) dX10_settled_47 (by decide) rfl ?_
        refine j_iinc_2 (pc := 48) dX10_settled_48 (y := i2 + 1) rfl (by decide) rfl ?_
        refine j_goto (pc := 51) (tgt := 17) dX10_settled_51 (by decide) ?_
        exact ih _ _ _ w11 h
def m_X10_settled (a0 : Nat) (ws : LWd) : Option (Int32 × LWd) :=
  (rcv ws a0 10).bind fun _ =>
  (fI ws a0 10 9).bind fun x1 =>
  if x1 = 0 then
    m_X10_settled_b69 a0 ws
  else
    (fR ws a0 10 2).bind fun x4 =>
    bn2 (calSR ws (m_X9_sinking x4 ws)) fun x8 w6 =>
    m_X10_settled_l17 FU a0 x8 0 w6
set_option maxRecDepth 100000 in
set_option maxHeartbeats 4000000 in
theorem s_X10_settled {a0 : Nat} {ws : LWd} {rr : Int32} {ws' : LWd} (h : m_X10_settled a0 ws = some (rr, ws')) : jSp yX10_settled wsX10_settled 4 0 0 [.ref a0] ws (.inl (some (.int rr)), ws') := by
  unfold m_X10_settled at h
  refine j_entry (ret := (some .int)) (nm := "settled") (own := RX10) pl_X10 rfl rfl rfl (jcats (by rfl)) (Nat.le_of_ble_eq_true rfl) ?_
  show JG (.inl false) cX10_settled 3 RX10 wsX10_settled (some .int) "settled" 4 0 0 ws.length (.inl (some (.int rr)), ws') 0 [some (.ref a0), none, none] [] ws 0 0
  obtain ⟨_, _, h⟩ := obS h
  refine j_aload_n (pc := 0) dX10_settled_0 rfl ?_
  obtain ⟨x1, e2, h⟩ := obS h
  refine j_getI (pc := 1) dX10_settled_1 (ci := 10) (kf := 9) rfl (jwi hw_X10) (by decide) (jwm lw_136) e2 ?_
  refine j_if_eq (pc := 4) (tgt := 69) dX10_settled_4 (by decide) (fun c3 => ?_) (fun c3 => ?_)
  · rw [if_pos c3] at h
    exact jm_X10_settled_b69 _ ws h
  · rw [if_neg c3] at h
    refine j_aload_n (pc := 7) dX10_settled_7 rfl ?_
    obtain ⟨x4, e5, h⟩ := obS h
    refine j_getR (pc := 8) dX10_settled_8 (ci := 10) (kf := 2) rfl (jwi hw_X10) (by decide) (jwm lw_103) e5 ?_
    obtain ⟨x8, w6, e7, h⟩ := obS2 h
    have ge7 := calSR_of e7
    refine j_callV_g (pc := 11) (As := []) (k' := 0) (n' := 0) dX10_settled_11 (s_X9_sinking ge7.1) (jgV lw_312 lw_313 lw_314 lw_76 lw_311) rfl hv_X9_sinking rfl (r_X9_sinking ge7.1) rfl (by decide) (by decide) (Nat.le_of_ble_eq_true rfl) (by decide) (by decide) (by decide) (by decide) (Or.inl ge7.2) ?_
    refine j_istore_n_1 (pc := 14) dX10_settled_14 (by decide) rfl ?_
    refine j_iconst (pc := 15) dX10_settled_15 (v := 0) (by decide) ?_
    refine j_istore_n_2 (pc := 16) dX10_settled_16 (by decide) rfl ?_
    exact jm_X10_settled_l17 FU _ _ _ w6 h
theorem r_X10_settled {a0 : Nat} {ws : LWd} {o : (Int32 × LWd)} (h : m_X10_settled a0 ws = some o) : ∃ fs, ws[a0]? = some (.inr (10, fs)) := rcv_in h
def wsX10_load : List Cond := Cond.code yX10_load cX10_load 4 (some .int) :: jW
def m_X10_load_b24 (ws : LWd) : Option ((Int32 ⊕ String) × LWd) :=
  some (.inr "java/lang/IllegalArgumentException", ws)
set_option maxRecDepth 100000 in
set_option maxHeartbeats 4000000 in
theorem jm_X10_load_b24 {n0 : Nat} {rr : Int32 ⊕ String} {ws' : LWd} (ws : LWd) (hn0 : ws.length = n0) (h : m_X10_load_b24 ws = some (rr, ws')) : JG (.inl true) cX10_load 4 RX10 wsX10_load (some .int) "load" 6 1 6 n0 (jthr rr, ws') 24 [none, none, none, none] [] ws 0 0 := by
  unfold m_X10_load_b24 at h
  obtain ⟨rfl, rfl⟩ := jretS h
  exact j_throw (pc := 24) (text := "no such load, or no such place for it") rfl rfl dX10_load_24 dX10_load_27 dX10_load_28 dX10_load_30 dX10_load_33 (List.mem_of_getElem? (i := 9) rfl) (List.mem_of_getElem? (i := 0) rfl) (jfit _ (List.mem_of_getElem? (i := 0) rfl)) (jwm lw_142) (jwm lw_143) (jwi hwx_93) jgo_93 (by decide) (Nat.le_of_ble_eq_true rfl) (by decide) (by decide) (by omega) rfl
def m_X10_load (a0 : Nat) (i1 : Int32) (i2 : Int32) (i3 : Int32) (ws : LWd) : Option ((Int32 ⊕ String) × LWd) :=
  (rcv ws a0 10).bind fun _ =>
  bn2 (calSR ws (m_X10_isWithin i1 0 20 ws)) fun x3 w1 =>
  if x3 = 0 then
    m_X10_load_b24  w1
  else
    bn2 (calSR w1 (m_X10_isAside i2 w1)) fun x7 w5 =>
    if x7 = 0 then
      m_X10_load_b24  w5
    else
      bn2 (calSR w5 (m_X10_isAside i3 w5)) fun x11 w9 =>
      if x11 = 0 then
        m_X10_load_b24  w9
      else
        bn2 (calSR w9 (m_X10_takeLoad a0 i1 i2 i3 w9)) fun x15 w13 =>
        if x15 = 0 then
          some (.inr "java/lang/IllegalStateException", w13)
        else
          bn2 (calSR w13 (m_X10_settled a0 w13)) fun x19 w17 =>
          some (.inl x19, w17)
set_option maxRecDepth 100000 in
set_option maxHeartbeats 4000000 in
theorem s_X10_load {a0 : Nat} {i1 : Int32} {i2 : Int32} {i3 : Int32} {ws : LWd} {rr : Int32 ⊕ String} {ws' : LWd} (h : m_X10_load a0 i1 i2 i3 ws = some (rr, ws')) : jSX yX10_load wsX10_load 6 1 6 [.ref a0, .int i1, .int i2, .int i3] ws (jthr rr, ws') := by
  unfold m_X10_load at h
  refine j_entryX (ret := (some .int)) (nm := "load") (own := RX10) pl_X10 rfl rfl rfl (jcats (by rfl)) (Nat.le_of_ble_eq_true rfl) ?_
  show JG (.inl true) cX10_load 4 RX10 wsX10_load (some .int) "load" 6 1 6 ws.length (jthr rr, ws') 0 [some (.ref a0), some (.int i1), some (.int i2), some (.int i3)] [] ws 0 0
  obtain ⟨_, _, h⟩ := obS h
  refine j_iload_n (pc := 0) dX10_load_0 rfl ?_
  refine j_iconst (pc := 1) dX10_load_1 (v := 0) (by decide) ?_
  refine j_bipush (pc := 2) dX10_load_2 (v := 20) (by decide) ?_
  obtain ⟨x3, w1, e2, h⟩ := obS2 h
  have ge2 := calSR_of e2
  have le2 := ge2.2
  refine j_callS_g (pc := 4) (As := [.int i1, .int 0, .int 20]) (k' := 0) (n' := 0) dX10_load_4 (s_X10_isWithin ge2.1) (jgS lw_149 lw_150 lw_147 lw_148) rfl hy_X10_isWithin rfl (by decide) (by decide) (Nat.le_of_ble_eq_true rfl) (by decide) (by decide) (by decide) (by decide) (Or.inl ge2.2) ?_
  refine j_if_eq (pc := 7) (tgt := 24) dX10_load_7 (by decide) (fun c4 => ?_) (fun c4 => ?_)
  · rw [if_pos c4] at h
    refine j_mask [false, false, false, false] ?_
    exact jm_X10_load_b24 w1 (by omega) h
  · rw [if_neg c4] at h
    refine j_iload_n (pc := 10) dX10_load_10 rfl ?_
    obtain ⟨x7, w5, e6, h⟩ := obS2 h
    have ge6 := calSR_of e6
    have le6 := ge6.2
    refine j_callS_g (pc := 11) (As := [.int i2]) (k' := 0) (n' := 0) dX10_load_11 (s_X10_isAside ge6.1) (jgS lw_168 lw_169 lw_147 lw_167) rfl hy_X10_isAside rfl (by decide) (by decide) (Nat.le_of_ble_eq_true rfl) (by decide) (by decide) (by decide) (by decide) (Or.inl ge6.2) ?_
    refine j_if_eq (pc := 14) (tgt := 24) dX10_load_14 (by decide) (fun c8 => ?_) (fun c8 => ?_)
    · rw [if_pos c8] at h
      refine j_mask [false, false, false, false] ?_
      exact jm_X10_load_b24 w5 (by omega) h
    · rw [if_neg c8] at h
      refine j_iload_n (pc := 17) dX10_load_17 rfl ?_
      obtain ⟨x11, w9, e10, h⟩ := obS2 h
      have ge10 := calSR_of e10
      have le10 := ge10.2
      refine j_callS_g (pc := 18) (As := [.int i3]) (k' := 0) (n' := 0) dX10_load_18 (s_X10_isAside ge10.1) (jgS lw_168 lw_169 lw_147 lw_167) rfl hy_X10_isAside rfl (by decide) (by decide) (Nat.le_of_ble_eq_true rfl) (by decide) (by decide) (by decide) (by decide) (Or.inl ge10.2) ?_
      refine j_if_ne (pc := 21) (tgt := 34) dX10_load_21 (by decide) (fun c12 => ?_) (fun c12 => ?_)
      · rw [if_neg c12] at h
        refine j_aload_n (pc := 34) dX10_load_34 rfl ?_
        refine j_iload_n (pc := 35) dX10_load_35 rfl ?_
        refine j_iload_n (pc := 36) dX10_load_36 rfl ?_
        refine j_iload_n (pc := 37) dX10_load_37 rfl ?_
        obtain ⟨x15, w13, e14, h⟩ := obS2 h
        have ge14 := calSR_of e14
        have le14 := ge14.2
        refine j_callV_g (pc := 38) (As := [.int i1, .int i2, .int i3]) (k' := 0) (n' := 0) dX10_load_38 (s_X10_takeLoad ge14.1) (jgV lw_316 lw_317 lw_318 lw_147 lw_315) rfl hv_X10_takeLoad rfl (r_X10_takeLoad ge14.1) rfl (by decide) (by decide) (Nat.le_of_ble_eq_true rfl) (by decide) (by decide) (by decide) (by decide) (Or.inl ge14.2) ?_
        refine j_if_ne (pc := 41) (tgt := 54) dX10_load_41 (by decide) (fun c16 => ?_) (fun c16 => ?_)
        · rw [if_neg c16] at h
          refine j_aload_n (pc := 54) dX10_load_54 rfl ?_
          obtain ⟨x19, w17, e18, h⟩ := obS2 h
          have ge18 := calSR_of e18
          have le18 := ge18.2
          refine j_callV_g (pc := 55) (As := []) (k' := 0) (n' := 0) dX10_load_55 (s_X10_settled ge18.1) (jgV lw_320 lw_321 lw_322 lw_147 lw_319) rfl hv_X10_settled rfl (r_X10_settled ge18.1) rfl (by decide) (by decide) (Nat.le_of_ble_eq_true rfl) (by decide) (by decide) (by decide) (by decide) (Or.inl ge18.2) ?_
          obtain ⟨rfl, rfl⟩ := jretS h
          exact j_iret (pc := 58) rfl dX10_load_58 (by decide) (by decide) rfl
        · rw [if_pos c16] at h
          obtain ⟨rfl, rfl⟩ := jretS h
          exact j_throw (pc := 44) (text := "refused") rfl rfl dX10_load_44 dX10_load_47 dX10_load_48 dX10_load_50 dX10_load_53 (List.mem_of_getElem? (i := 10) rfl) (List.mem_of_getElem? (i := 1) rfl) (jfit _ (List.mem_of_getElem? (i := 1) rfl)) (jwm lw_163) (jwm lw_164) (jwi hwx_104) jgo_104 (by decide) (Nat.le_of_ble_eq_true rfl) (by decide) (by decide) (by omega) rfl
      · rw [if_pos c12] at h
        refine j_mask [false, false, false, false] ?_
        exact jm_X10_load_b24 w9 (by omega) h
theorem r_X10_load {a0 : Nat} {i1 : Int32} {i2 : Int32} {i3 : Int32} {ws : LWd} {o : ((Int32 ⊕ String) × LWd)} (h : m_X10_load a0 i1 i2 i3 ws = some o) : ∃ fs, ws[a0]? = some (.inr (10, fs)) := rcv_in h
def wsX8_copy : List Cond := Cond.code yX8_copy cX8_copy 3 none :: jW
def m_X8_copy_l2 : Nat → Nat → Nat → Int32 → LWd → Option LWd
  | 0, _, _, _, _ => none
  | fu + 1, a0, a1, i2, ws =>
    (fR ws a0 8 0).bind fun x1 =>
    (aL ws x1).bind fun x3 =>
    if x3 ≤ i2 then
      some ws
    else
      (fR ws a0 8 0).bind fun x6 =>
      bn2 (calSR ws (m_X8_at a1 i2 ws)) fun x10 w8 =>
      (sI w8 x6 i2 x10).bind fun w11 =>
      m_X8_copy_l2 fu a0 a1 (i2 + 1) w11
set_option maxRecDepth 100000 in
set_option maxHeartbeats 4000000 in
theorem jm_X8_copy_l2 {n0 : Nat} {ws' : LWd} : ∀ (fu : Nat) (a0 : Nat) (a1 : Nat) (i2 : Int32) (ws : LWd), m_X8_copy_l2 fu a0 a1 i2 ws = some ws' → JG (.inl false) cX8_copy 3 RX8 wsX8_copy none "copy" 1 0 0 n0 (.inl none, ws') 2 [some (.ref a0), some (.ref a1), some (.int i2)] [] ws 0 0 := by
  intro fu
  induction fu with
  | zero => intro a0 a1 i2 ws h; first | (cases h; done) | (rw [m_X8_copy_l2] at h; cases h)
  | succ fu ih =>
    intro a0 a1 i2 ws h
    rw [m_X8_copy_l2] at h
    refine j_iload_n (pc := 2) dX8_copy_2 rfl ?_
    refine j_aload_n (pc := 3) dX8_copy_3 rfl ?_
    obtain ⟨x1, e2, h⟩ := obS h
    refine j_getR (pc := 4) dX8_copy_4 (ci := 8) (kf := 0) rfl (jwi hw_X8) (by decide) (jwm lw_1) e2 ?_
    obtain ⟨x3, e4, h⟩ := obS h
    refine j_alen (pc := 7) dX8_copy_7 e4 ?_
    refine j_icmp_ge (pc := 8) (tgt := 28) dX8_copy_8 (by decide) (fun c5 => ?_) (fun c5 => ?_)
    · rw [if_pos c5] at h
      cases h
      exact j_vret (pc := 28) rfl dX8_copy_28 (by decide) (by decide) rfl
    · rw [if_neg c5] at h
      refine j_aload_n (pc := 11) dX8_copy_11 rfl ?_
      obtain ⟨x6, e7, h⟩ := obS h
      refine j_getR (pc := 12) dX8_copy_12 (ci := 8) (kf := 0) rfl (jwi hw_X8) (by decide) (jwm lw_1) e7 ?_
      refine j_iload_n (pc := 15) dX8_copy_15 rfl ?_
      refine j_aload_n (pc := 16) dX8_copy_16 rfl ?_
      refine j_iload_n (pc := 17) dX8_copy_17 rfl ?_
      obtain ⟨x10, w8, e9, h⟩ := obS2 h
      have ge9 := calSR_of e9
      refine j_callV_g (pc := 18) (As := [.int i2]) (k' := 0) (n' := 0) dX8_copy_18 (s_X8_at ge9.1) (jgV lw_323 lw_140 lw_141 lw_12 lw_138) rfl hv_X8_at rfl (r_X8_at ge9.1) rfl (by decide) (by decide) (Nat.le_of_ble_eq_true rfl) (by decide) (by decide) (by decide) (by decide) (Or.inl ge9.2) ?_
      obtain ⟨w11, e12, h⟩ := obS h
      refine j_iast (pc := 21) dX8_copy_21 e12 ?_
      refine j_iinc_2 (pc := 22) dX8_copy_22 (y := i2 + 1) rfl (by decide) rfl ?_
      refine j_goto (pc := 25) (tgt := 2) dX8_copy_25 (by decide) ?_
      exact ih _ _ _ w11 h
def m_X8_copy (a0 : Nat) (a1 : Nat) (ws : LWd) : Option LWd :=
  (rcv ws a0 8).bind fun _ =>
  m_X8_copy_l2 FU a0 a1 0 ws
set_option maxRecDepth 100000 in
set_option maxHeartbeats 4000000 in
theorem s_X8_copy {a0 : Nat} {a1 : Nat} {ws : LWd} {ws' : LWd} (h : m_X8_copy a0 a1 ws = some ws') : jSp yX8_copy wsX8_copy 1 0 0 [.ref a0, .ref a1] ws (.inl none, ws') := by
  unfold m_X8_copy at h
  refine j_entry (ret := none) (nm := "copy") (own := RX8) pl_X8 rfl rfl rfl (jcats (by rfl)) (Nat.le_of_ble_eq_true rfl) ?_
  show JG (.inl false) cX8_copy 3 RX8 wsX8_copy none "copy" 1 0 0 ws.length (.inl none, ws') 0 [some (.ref a0), some (.ref a1), none] [] ws 0 0
  obtain ⟨_, _, h⟩ := obS h
  refine j_iconst (pc := 0) dX8_copy_0 (v := 0) (by decide) ?_
  refine j_istore_n_2 (pc := 1) dX8_copy_1 (by decide) rfl ?_
  exact jm_X8_copy_l2 FU _ _ _ ws h
theorem r_X8_copy {a0 : Nat} {a1 : Nat} {ws : LWd} {o : LWd} (h : m_X8_copy a0 a1 ws = some o) : ∃ fs, ws[a0]? = some (.inr (8, fs)) := rcv_in h
def wsX9_copy : List Cond := Cond.code yX9_copy cX9_copy 2 none :: jW
def m_X9_copy (a0 : Nat) (a1 : Nat) (ws : LWd) : Option LWd :=
  (rcv ws a0 9).bind fun _ =>
  (fI ws a1 9 4).bind fun x1 =>
  (pV ws a0 9 4 (.int x1)).bind fun w3 =>
  (fI w3 a1 9 5).bind fun x5 =>
  (pV w3 a0 9 5 (.int x5)).bind fun w7 =>
  (fR w7 a0 9 3).bind fun x9 =>
  (fR w7 a1 9 3).bind fun x11 =>
  (calSV w7 (m_X8_copy x9 x11 w7)).bind fun w13 =>
  some w13
set_option maxRecDepth 100000 in
set_option maxHeartbeats 4000000 in
theorem s_X9_copy {a0 : Nat} {a1 : Nat} {ws : LWd} {ws' : LWd} (h : m_X9_copy a0 a1 ws = some ws') : jSp yX9_copy wsX9_copy 2 0 0 [.ref a0, .ref a1] ws (.inl none, ws') := by
  unfold m_X9_copy at h
  refine j_entry (ret := none) (nm := "copy") (own := RX9) pl_X9 rfl rfl rfl (jcats (by rfl)) (Nat.le_of_ble_eq_true rfl) ?_
  show JG (.inl false) cX9_copy 2 RX9 wsX9_copy none "copy" 2 0 0 ws.length (.inl none, ws') 0 [some (.ref a0), some (.ref a1)] [] ws 0 0
  obtain ⟨_, _, h⟩ := obS h
  refine j_aload_n (pc := 0) dX9_copy_0 rfl ?_
  refine j_aload_n (pc := 1) dX9_copy_1 rfl ?_
  obtain ⟨x1, e2, h⟩ := obS h
  refine j_getI (pc := 2) dX9_copy_2 (ci := 9) (kf := 4) rfl (jwi hw_X9) (by decide) (jwm lw_40) e2 ?_
  obtain ⟨w3, e4, h⟩ := obS h
  refine j_putV (pc := 5) (ci := 9) (kf := 4) tyX9 tyX9_ok nmX9 dX9_copy_5 rfl (jwi hw_X9) (by decide) (jwm lw_40) rfl (fun _ => rfl) (fun _ => rfl) e4 ?_
  refine j_aload_n (pc := 8) dX9_copy_8 rfl ?_
  refine j_aload_n (pc := 9) dX9_copy_9 rfl ?_
  obtain ⟨x5, e6, h⟩ := obS h
  refine j_getI (pc := 10) dX9_copy_10 (ci := 9) (kf := 5) rfl (jwi hw_X9) (by decide) (jwm lw_41) e6 ?_
  obtain ⟨w7, e8, h⟩ := obS h
  refine j_putV (pc := 13) (ci := 9) (kf := 5) tyX9 tyX9_ok nmX9 dX9_copy_13 rfl (jwi hw_X9) (by decide) (jwm lw_41) rfl (fun _ => rfl) (fun _ => rfl) e8 ?_
  refine j_aload_n (pc := 16) dX9_copy_16 rfl ?_
  obtain ⟨x9, e10, h⟩ := obS h
  refine j_getR (pc := 17) dX9_copy_17 (ci := 9) (kf := 3) rfl (jwi hw_X9) (by decide) (jwm lw_39) e10 ?_
  refine j_aload_n (pc := 20) dX9_copy_20 rfl ?_
  obtain ⟨x11, e12, h⟩ := obS h
  refine j_getR (pc := 21) dX9_copy_21 (ci := 9) (kf := 3) rfl (jwi hw_X9) (by decide) (jwm lw_39) e12 ?_
  obtain ⟨w13, e14, h⟩ := obS h
  have ge14 := calSV_of e14
  refine j_callV_g (pc := 24) (As := [.ref x11]) (k' := 0) (n' := 0) dX9_copy_24 (s_X8_copy ge14.1) (jgV lw_325 lw_326 lw_327 lw_12 lw_324) rfl hv_X8_copy rfl (r_X8_copy ge14.1) rfl (by decide) (by decide) (Nat.le_of_ble_eq_true rfl) (by decide) (by decide) (by decide) (by decide) (Or.inl ge14.2) ?_
  cases h
  exact j_vret (pc := 27) rfl dX9_copy_27 (by decide) (by decide) rfl
theorem r_X9_copy {a0 : Nat} {a1 : Nat} {ws : LWd} {o : LWd} (h : m_X9_copy a0 a1 ws = some o) : ∃ fs, ws[a0]? = some (.inr (9, fs)) := rcv_in h
def wsX9_hipX : List Cond := Cond.code yX9_hipX cX9_hipX 2 (some .int) :: jW
def m_X9_hipX (a0 : Nat) (i1 : Int32) (ws : LWd) : Option (Int32 × LWd) :=
  (rcv ws a0 9).bind fun _ =>
  (fI ws a0 9 4).bind fun x1 =>
  (fR ws a0 9 1).bind fun x3 =>
  (fR ws x3 2 0).bind fun x5 =>
  bn2 (calSR ws (m_X8_at x5 i1 ws)) fun x9 w7 =>
  some (x1 + x9, w7)
set_option maxRecDepth 100000 in
set_option maxHeartbeats 4000000 in
theorem s_X9_hipX {a0 : Nat} {i1 : Int32} {ws : LWd} {rr : Int32} {ws' : LWd} (h : m_X9_hipX a0 i1 ws = some (rr, ws')) : jSp yX9_hipX wsX9_hipX 1 0 0 [.ref a0, .int i1] ws (.inl (some (.int rr)), ws') := by
  unfold m_X9_hipX at h
  refine j_entry (ret := (some .int)) (nm := "hipX") (own := RX9) pl_X9 rfl rfl rfl (jcats (by rfl)) (Nat.le_of_ble_eq_true rfl) ?_
  show JG (.inl false) cX9_hipX 2 RX9 wsX9_hipX (some .int) "hipX" 1 0 0 ws.length (.inl (some (.int rr)), ws') 0 [some (.ref a0), some (.int i1)] [] ws 0 0
  obtain ⟨_, _, h⟩ := obS h
  refine j_aload_n (pc := 0) dX9_hipX_0 rfl ?_
  obtain ⟨x1, e2, h⟩ := obS h
  refine j_getI (pc := 1) dX9_hipX_1 (ci := 9) (kf := 4) rfl (jwi hw_X9) (by decide) (jwm lw_40) e2 ?_
  refine j_aload_n (pc := 4) dX9_hipX_4 rfl ?_
  obtain ⟨x3, e4, h⟩ := obS h
  refine j_getR (pc := 5) dX9_hipX_5 (ci := 9) (kf := 1) rfl (jwi hw_X9) (by decide) (jwm lw_43) e4 ?_
  obtain ⟨x5, e6, h⟩ := obS h
  refine j_getR (pc := 8) dX9_hipX_8 (ci := 2) (kf := 0) rfl (jwi hw_X2) (by decide) (jwm lw_328) e6 ?_
  refine j_iload_n (pc := 11) dX9_hipX_11 rfl ?_
  obtain ⟨x9, w7, e8, h⟩ := obS2 h
  have ge8 := calSR_of e8
  refine j_callV_g (pc := 12) (As := [.int i1]) (k' := 0) (n' := 0) dX9_hipX_12 (s_X8_at ge8.1) (jgV lw_139 lw_140 lw_141 lw_12 lw_138) rfl hv_X8_at rfl (r_X8_at ge8.1) rfl (by decide) (by decide) (Nat.le_of_ble_eq_true rfl) (by decide) (by decide) (by decide) (by decide) (Or.inl ge8.2) ?_
  refine j_iadd (pc := 15) dX9_hipX_15 ?_
  obtain ⟨rfl, rfl⟩ := jretS h
  exact j_iret (pc := 16) rfl dX9_hipX_16 (by decide) (by decide) rfl
theorem r_X9_hipX {a0 : Nat} {i1 : Int32} {ws : LWd} {o : (Int32 × LWd)} (h : m_X9_hipX a0 i1 ws = some o) : ∃ fs, ws[a0]? = some (.inr (9, fs)) := rcv_in h
def wsX9_hipY : List Cond := Cond.code yX9_hipY cX9_hipY 2 (some .int) :: jW
def m_X9_hipY (a0 : Nat) (i1 : Int32) (ws : LWd) : Option (Int32 × LWd) :=
  (rcv ws a0 9).bind fun _ =>
  (fI ws a0 9 5).bind fun x1 =>
  (fR ws a0 9 1).bind fun x3 =>
  (fR ws x3 2 1).bind fun x5 =>
  bn2 (calSR ws (m_X8_at x5 i1 ws)) fun x9 w7 =>
  some (x1 + x9, w7)
set_option maxRecDepth 100000 in
set_option maxHeartbeats 4000000 in
theorem s_X9_hipY {a0 : Nat} {i1 : Int32} {ws : LWd} {rr : Int32} {ws' : LWd} (h : m_X9_hipY a0 i1 ws = some (rr, ws')) : jSp yX9_hipY wsX9_hipY 1 0 0 [.ref a0, .int i1] ws (.inl (some (.int rr)), ws') := by
  unfold m_X9_hipY at h
  refine j_entry (ret := (some .int)) (nm := "hipY") (own := RX9) pl_X9 rfl rfl rfl (jcats (by rfl)) (Nat.le_of_ble_eq_true rfl) ?_
  show JG (.inl false) cX9_hipY 2 RX9 wsX9_hipY (some .int) "hipY" 1 0 0 ws.length (.inl (some (.int rr)), ws') 0 [some (.ref a0), some (.int i1)] [] ws 0 0
  obtain ⟨_, _, h⟩ := obS h
  refine j_aload_n (pc := 0) dX9_hipY_0 rfl ?_
  obtain ⟨x1, e2, h⟩ := obS h
  refine j_getI (pc := 1) dX9_hipY_1 (ci := 9) (kf := 5) rfl (jwi hw_X9) (by decide) (jwm lw_41) e2 ?_
  refine j_aload_n (pc := 4) dX9_hipY_4 rfl ?_
  obtain ⟨x3, e4, h⟩ := obS h
  refine j_getR (pc := 5) dX9_hipY_5 (ci := 9) (kf := 1) rfl (jwi hw_X9) (by decide) (jwm lw_43) e4 ?_
  obtain ⟨x5, e6, h⟩ := obS h
  refine j_getR (pc := 8) dX9_hipY_8 (ci := 2) (kf := 1) rfl (jwi hw_X2) (by decide) (jwm lw_329) e6 ?_
  refine j_iload_n (pc := 11) dX9_hipY_11 rfl ?_
  obtain ⟨x9, w7, e8, h⟩ := obS2 h
  have ge8 := calSR_of e8
  refine j_callV_g (pc := 12) (As := [.int i1]) (k' := 0) (n' := 0) dX9_hipY_12 (s_X8_at ge8.1) (jgV lw_139 lw_140 lw_141 lw_12 lw_138) rfl hv_X8_at rfl (r_X8_at ge8.1) rfl (by decide) (by decide) (Nat.le_of_ble_eq_true rfl) (by decide) (by decide) (by decide) (by decide) (Or.inl ge8.2) ?_
  refine j_iadd (pc := 15) dX9_hipY_15 ?_
  obtain ⟨rfl, rfl⟩ := jretS h
  exact j_iret (pc := 16) rfl dX9_hipY_16 (by decide) (by decide) rfl
theorem r_X9_hipY {a0 : Nat} {i1 : Int32} {ws : LWd} {o : (Int32 × LWd)} (h : m_X9_hipY a0 i1 ws = some o) : ∃ fs, ws[a0]? = some (.inr (9, fs)) := rcv_in h
def wsX10_hipsBear : List Cond := Cond.code yX10_hipsBear cX10_hipsBear 5 (some .boolean) :: jW
def m_X10_hipsBear_l18 : Nat → Nat → Int32 → Int32 → Int32 → LWd → Option (Int32 × LWd)
  | 0, _, _, _, _, _ => none
  | fu + 1, a0, i1, i2, i3, ws =>
    (fR ws a0 10 1).bind fun x1 =>
    (fI ws x1 2 3).bind fun x3 =>
    if x3 ≤ i3 then
      if 2 < (i2 - i1) then
        some (0, ws)
      else
        (fR ws a0 10 3).bind fun x7 =>
        bn2 (calSR ws (m_X9_holdsWithout x7 ((-1)) ws)) fun x11 w9 =>
        if x11 = 0 then
          some (0, w9)
        else
          some (1, w9)
    else
      (fR ws a0 10 2).bind fun x13 =>
      bn2 (calSR ws (m_X9_hipX x13 i3 ws)) fun x17 w15 =>
      (fR w15 a0 10 2).bind fun x18 =>
      bn2 (calSR w15 (m_X9_hipY x18 i3 w15)) fun x22 w20 =>
      bn2 (calSR w20 (m_X10_pointAt x17 x22 w20)) fun x25 w23 =>
      if x25 = ((-1)) then
        some (0, w23)
      else
        (fR w23 a0 10 3).bind fun x27 =>
        bn2 (calSR w23 (m_X9_isTaken x27 x25 ((-1)) w23)) fun x31 w29 =>
        if x31 = 0 then
          (fR w29 a0 10 3).bind fun x33 =>
          (fR w29 x33 9 3).bind fun x35 =>
          (calSV w29 (m_X8_put x35 i3 x25 w29)).bind fun w37 =>
          (fR w37 a0 10 0).bind fun x39 =>
          (fR w37 x39 5 3).bind fun x41 =>
          bn2 (calSR w37 (m_X8_at x41 x25 w37)) fun x45 w43 =>
          (fR w43 a0 10 0).bind fun x46 =>
          (fR w43 x46 5 3).bind fun x48 =>
          bn2 (calSR w43 (m_X8_at x48 x25 w43)) fun x52 w50 =>
          m_X10_hipsBear_l18 fu a0 (jmin i1 x45) (jmax i2 x52) (i3 + 1) w50
        else
          some (0, w29)
set_option maxRecDepth 100000 in
set_option maxHeartbeats 4000000 in
theorem jm_X10_hipsBear_l18 {n0 : Nat} {rr : Int32} {ws' : LWd} : ∀ (fu : Nat) (a0 : Nat) (i1 : Int32) (i2 : Int32) (i3 : Int32) (ws : LWd), m_X10_hipsBear_l18 fu a0 i1 i2 i3 ws = some (rr, ws') → JG (.inl false) cX10_hipsBear 5 RX10 wsX10_hipsBear (some .boolean) "hipsBear" 3 0 0 n0 (.inl (some (.int rr)), ws') 18 [some (.ref a0), some (.int i1), some (.int i2), some (.int i3), none] [] ws 0 0 := by
  intro fu
  induction fu with
  | zero => intro a0 i1 i2 i3 ws h; first | (cases h; done) | (rw [m_X10_hipsBear_l18] at h; cases h)
  | succ fu ih =>
    intro a0 i1 i2 i3 ws h
    rw [m_X10_hipsBear_l18] at h
    refine j_iload_n (pc := 18) dX10_hipsBear_18 rfl ?_
    refine j_aload_n (pc := 19) dX10_hipsBear_19 rfl ?_
    obtain ⟨x1, e2, h⟩ := obS h
    refine j_getR (pc := 20) dX10_hipsBear_20 (ci := 10) (kf := 1) rfl (jwi hw_X10) (by decide) (jwm lw_100) e2 ?_
    obtain ⟨x3, e4, h⟩ := obS h
    refine j_getI (pc := 23) dX10_hipsBear_23 (ci := 2) (kf := 3) rfl (jwi hw_X2) (by decide) (jwm lw_170) e4 ?_
    refine j_icmp_ge (pc := 26) (tgt := 124) dX10_hipsBear_26 (by decide) (fun c5 => ?_) (fun c5 => ?_)
    · rw [if_pos c5] at h
      refine j_iload_n (pc := 124) dX10_hipsBear_124 rfl ?_
      refine j_iload_n (pc := 125) dX10_hipsBear_125 rfl ?_
      refine j_isub (pc := 126) dX10_hipsBear_126 ?_
      refine j_iconst (pc := 127) dX10_hipsBear_127 (v := 2) (by decide) ?_
      refine j_icmp_gt (pc := 128) (tgt := 146) dX10_hipsBear_128 (by decide) (fun c6 => ?_) (fun c6 => ?_)
      · rw [if_pos c6] at h
        refine j_iconst (pc := 146) dX10_hipsBear_146 (v := 0) (by decide) ?_
        obtain ⟨rfl, rfl⟩ := jretS h
        exact j_zretL (pc := 147) (by decide) rfl dX10_hipsBear_147 (by decide) (by decide) rfl
      · rw [if_neg c6] at h
        refine j_aload_n (pc := 131) dX10_hipsBear_131 rfl ?_
        obtain ⟨x7, e8, h⟩ := obS h
        refine j_getR (pc := 132) dX10_hipsBear_132 (ci := 10) (kf := 3) rfl (jwi hw_X10) (by decide) (jwm lw_104) e8 ?_
        refine j_iconst (pc := 135) dX10_hipsBear_135 (v := (-1)) (by decide) ?_
        obtain ⟨x11, w9, e10, h⟩ := obS2 h
        have ge10 := calSR_of e10
        refine j_callV_g (pc := 136) (As := [.int ((-1))]) (k' := 0) (n' := 0) dX10_hipsBear_136 (s_X9_holdsWithout ge10.1) (jgV lw_244 lw_245 lw_246 lw_76 lw_243) rfl hv_X9_holdsWithout rfl (r_X9_holdsWithout ge10.1) rfl (by decide) (by decide) (Nat.le_of_ble_eq_true rfl) (by decide) (by decide) (by decide) (by decide) (Or.inl ge10.2) ?_
        refine j_if_eq (pc := 139) (tgt := 146) dX10_hipsBear_139 (by decide) (fun c12 => ?_) (fun c12 => ?_)
        · rw [if_pos c12] at h
          refine j_iconst (pc := 146) dX10_hipsBear_146 (v := 0) (by decide) ?_
          obtain ⟨rfl, rfl⟩ := jretS h
          exact j_zretL (pc := 147) (by decide) rfl dX10_hipsBear_147 (by decide) (by decide) rfl
        · rw [if_neg c12] at h
          refine j_iconst (pc := 142) dX10_hipsBear_142 (v := 1) (by decide) ?_
          refine j_goto (pc := 143) (tgt := 147) dX10_hipsBear_143 (by decide) ?_
          obtain ⟨rfl, rfl⟩ := jretS h
          exact j_zretL (pc := 147) (by decide) rfl dX10_hipsBear_147 (by decide) (by decide) rfl
    · rw [if_neg c5] at h
      refine j_aload_n (pc := 29) dX10_hipsBear_29 rfl ?_
      obtain ⟨x13, e14, h⟩ := obS h
      refine j_getR (pc := 30) dX10_hipsBear_30 (ci := 10) (kf := 2) rfl (jwi hw_X10) (by decide) (jwm lw_103) e14 ?_
      refine j_iload_n (pc := 33) dX10_hipsBear_33 rfl ?_
      obtain ⟨x17, w15, e16, h⟩ := obS2 h
      have ge16 := calSR_of e16
      refine j_callV_g (pc := 34) (As := [.int i3]) (k' := 0) (n' := 0) dX10_hipsBear_34 (s_X9_hipX ge16.1) (jgV lw_331 lw_332 lw_333 lw_76 lw_330) rfl hv_X9_hipX rfl (r_X9_hipX ge16.1) rfl (by decide) (by decide) (Nat.le_of_ble_eq_true rfl) (by decide) (by decide) (by decide) (by decide) (Or.inl ge16.2) ?_
      refine j_aload_n (pc := 37) dX10_hipsBear_37 rfl ?_
      obtain ⟨x18, e19, h⟩ := obS h
      refine j_getR (pc := 38) dX10_hipsBear_38 (ci := 10) (kf := 2) rfl (jwi hw_X10) (by decide) (jwm lw_103) e19 ?_
      refine j_iload_n (pc := 41) dX10_hipsBear_41 rfl ?_
      obtain ⟨x22, w20, e21, h⟩ := obS2 h
      have ge21 := calSR_of e21
      refine j_callV_g (pc := 42) (As := [.int i3]) (k' := 0) (n' := 0) dX10_hipsBear_42 (s_X9_hipY ge21.1) (jgV lw_335 lw_336 lw_337 lw_76 lw_334) rfl hv_X9_hipY rfl (r_X9_hipY ge21.1) rfl (by decide) (by decide) (Nat.le_of_ble_eq_true rfl) (by decide) (by decide) (by decide) (by decide) (Or.inl ge21.2) ?_
      obtain ⟨x25, w23, e24, h⟩ := obS2 h
      have ge24 := calSR_of e24
      refine j_callS_g (pc := 45) (As := [.int x17, .int x22]) (k' := 0) (n' := 0) dX10_hipsBear_45 (s_X10_pointAt ge24.1) (jgS lw_145 lw_146 lw_147 lw_144) rfl hy_X10_pointAt rfl (by decide) (by decide) (Nat.le_of_ble_eq_true rfl) (by decide) (by decide) (by decide) (by decide) (Or.inl ge24.2) ?_
      refine j_istore_4 (pc := 48) dX10_hipsBear_48 (by decide) rfl ?_
      refine j_iload (pc := 50) dX10_hipsBear_50 rfl ?_
      refine j_iconst (pc := 52) dX10_hipsBear_52 (v := (-1)) (by decide) ?_
      refine j_icmp_eq (pc := 53) (tgt := 69) dX10_hipsBear_53 (by decide) (fun c26 => ?_) (fun c26 => ?_)
      · rw [if_pos c26] at h
        refine j_iconst (pc := 69) dX10_hipsBear_69 (v := 0) (by decide) ?_
        obtain ⟨rfl, rfl⟩ := jretS h
        exact j_zretL (pc := 70) (by decide) rfl dX10_hipsBear_70 (by decide) (by decide) rfl
      · rw [if_neg c26] at h
        refine j_aload_n (pc := 56) dX10_hipsBear_56 rfl ?_
        obtain ⟨x27, e28, h⟩ := obS h
        refine j_getR (pc := 57) dX10_hipsBear_57 (ci := 10) (kf := 3) rfl (jwi hw_X10) (by decide) (jwm lw_104) e28 ?_
        refine j_iload (pc := 60) dX10_hipsBear_60 rfl ?_
        refine j_iconst (pc := 62) dX10_hipsBear_62 (v := (-1)) (by decide) ?_
        obtain ⟨x31, w29, e30, h⟩ := obS2 h
        have ge30 := calSR_of e30
        refine j_callV_g (pc := 63) (As := [.int x25, .int ((-1))]) (k' := 0) (n' := 0) dX10_hipsBear_63 (s_X9_isTaken ge30.1) (jgV lw_152 lw_153 lw_154 lw_76 lw_151) rfl hv_X9_isTaken rfl (r_X9_isTaken ge30.1) rfl (by decide) (by decide) (Nat.le_of_ble_eq_true rfl) (by decide) (by decide) (by decide) (by decide) (Or.inl ge30.2) ?_
        refine j_if_eq (pc := 66) (tgt := 71) dX10_hipsBear_66 (by decide) (fun c32 => ?_) (fun c32 => ?_)
        · rw [if_pos c32] at h
          refine j_aload_n (pc := 71) dX10_hipsBear_71 rfl ?_
          obtain ⟨x33, e34, h⟩ := obS h
          refine j_getR (pc := 72) dX10_hipsBear_72 (ci := 10) (kf := 3) rfl (jwi hw_X10) (by decide) (jwm lw_104) e34 ?_
          obtain ⟨x35, e36, h⟩ := obS h
          refine j_getR (pc := 75) dX10_hipsBear_75 (ci := 9) (kf := 3) rfl (jwi hw_X9) (by decide) (jwm lw_265) e36 ?_
          refine j_iload_n (pc := 78) dX10_hipsBear_78 rfl ?_
          refine j_iload (pc := 79) dX10_hipsBear_79 rfl ?_
          obtain ⟨w37, e38, h⟩ := obS h
          have ge38 := calSV_of e38
          refine j_callV_g (pc := 81) (As := [.int i3, .int x25]) (k' := 0) (n' := 0) dX10_hipsBear_81 (s_X8_put ge38.1) (jgV lw_158 lw_159 lw_160 lw_12 lw_157) rfl hv_X8_put rfl (r_X8_put ge38.1) rfl (by decide) (by decide) (Nat.le_of_ble_eq_true rfl) (by decide) (by decide) (by decide) (by decide) (Or.inl ge38.2) ?_
          refine j_iload_n (pc := 84) dX10_hipsBear_84 rfl ?_
          refine j_aload_n (pc := 85) dX10_hipsBear_85 rfl ?_
          obtain ⟨x39, e40, h⟩ := obS h
          refine j_getR (pc := 86) dX10_hipsBear_86 (ci := 10) (kf := 0) rfl (jwi hw_X10) (by decide) (jwm lw_94) e40 ?_
          obtain ⟨x41, e42, h⟩ := obS h
          refine j_getR (pc := 89) dX10_hipsBear_89 (ci := 5) (kf := 3) rfl (jwi hw_X5) (by decide) (jwm lw_165) e42 ?_
          refine j_iload (pc := 92) dX10_hipsBear_92 rfl ?_
          obtain ⟨x45, w43, e44, h⟩ := obS2 h
          have ge44 := calSR_of e44
          refine j_callV_g (pc := 94) (As := [.int x25]) (k' := 0) (n' := 0) dX10_hipsBear_94 (s_X8_at ge44.1) (jgV lw_156 lw_140 lw_141 lw_12 lw_138) rfl hv_X8_at rfl (r_X8_at ge44.1) rfl (by decide) (by decide) (Nat.le_of_ble_eq_true rfl) (by decide) (by decide) (by decide) (by decide) (Or.inl ge44.2) ?_
          refine j_mmin (pc := 97) dX10_hipsBear_97 (jwm lw_175) (jwm lw_176) (jwm lw_177) (jwm lw_178) (Nat.le_of_ble_eq_true rfl) (Nat.le_of_ble_eq_true rfl) (by decide) (by decide) ?_
          refine j_istore_n_1 (pc := 100) dX10_hipsBear_100 (by decide) rfl ?_
          refine j_iload_n (pc := 101) dX10_hipsBear_101 rfl ?_
          refine j_aload_n (pc := 102) dX10_hipsBear_102 rfl ?_
          obtain ⟨x46, e47, h⟩ := obS h
          refine j_getR (pc := 103) dX10_hipsBear_103 (ci := 10) (kf := 0) rfl (jwi hw_X10) (by decide) (jwm lw_94) e47 ?_
          obtain ⟨x48, e49, h⟩ := obS h
          refine j_getR (pc := 106) dX10_hipsBear_106 (ci := 5) (kf := 3) rfl (jwi hw_X5) (by decide) (jwm lw_165) e49 ?_
          refine j_iload (pc := 109) dX10_hipsBear_109 rfl ?_
          obtain ⟨x52, w50, e51, h⟩ := obS2 h
          have ge51 := calSR_of e51
          refine j_callV_g (pc := 111) (As := [.int x25]) (k' := 0) (n' := 0) dX10_hipsBear_111 (s_X8_at ge51.1) (jgV lw_156 lw_140 lw_141 lw_12 lw_138) rfl hv_X8_at rfl (r_X8_at ge51.1) rfl (by decide) (by decide) (Nat.le_of_ble_eq_true rfl) (by decide) (by decide) (by decide) (by decide) (Or.inl ge51.2) ?_
          refine j_mmax (pc := 114) dX10_hipsBear_114 (jwm lw_338) (jwm lw_208) (jwm lw_177) (jwm lw_209) (Nat.le_of_ble_eq_true rfl) (Nat.le_of_ble_eq_true rfl) (by decide) (by decide) ?_
          refine j_istore_n_2 (pc := 117) dX10_hipsBear_117 (by decide) rfl ?_
          refine j_iinc_3 (pc := 118) dX10_hipsBear_118 (y := i3 + 1) rfl (by decide) rfl ?_
          refine j_goto (pc := 121) (tgt := 18) dX10_hipsBear_121 (by decide) ?_
          refine j_mask [true, true, true, true, false] ?_
          exact ih _ _ _ _ w50 h
        · rw [if_neg c32] at h
          refine j_iconst (pc := 69) dX10_hipsBear_69 (v := 0) (by decide) ?_
          obtain ⟨rfl, rfl⟩ := jretS h
          exact j_zretL (pc := 70) (by decide) rfl dX10_hipsBear_70 (by decide) (by decide) rfl
def m_X10_hipsBear (a0 : Nat) (ws : LWd) : Option (Int32 × LWd) :=
  (rcv ws a0 10).bind fun _ =>
  (fR ws a0 10 3).bind fun x1 =>
  (fR ws a0 10 2).bind fun x3 =>
  (calSV ws (m_X9_copy x1 x3 ws)).bind fun w5 =>
  m_X10_hipsBear_l18 FU a0 9 0 0 w5
set_option maxRecDepth 100000 in
set_option maxHeartbeats 4000000 in
theorem s_X10_hipsBear {a0 : Nat} {ws : LWd} {rr : Int32} {ws' : LWd} (h : m_X10_hipsBear a0 ws = some (rr, ws')) : jSp yX10_hipsBear wsX10_hipsBear 3 0 0 [.ref a0] ws (.inl (some (.int rr)), ws') := by
  unfold m_X10_hipsBear at h
  refine j_entry (ret := (some .boolean)) (nm := "hipsBear") (own := RX10) pl_X10 rfl rfl rfl (jcats (by rfl)) (Nat.le_of_ble_eq_true rfl) ?_
  show JG (.inl false) cX10_hipsBear 5 RX10 wsX10_hipsBear (some .boolean) "hipsBear" 3 0 0 ws.length (.inl (some (.int rr)), ws') 0 [some (.ref a0), none, none, none, none] [] ws 0 0
  obtain ⟨_, _, h⟩ := obS h
  refine j_bipush (pc := 0) dX10_hipsBear_0 (v := 9) (by decide) ?_
  refine j_istore_n_1 (pc := 2) dX10_hipsBear_2 (by decide) rfl ?_
  refine j_iconst (pc := 3) dX10_hipsBear_3 (v := 0) (by decide) ?_
  refine j_istore_n_2 (pc := 4) dX10_hipsBear_4 (by decide) rfl ?_
  refine j_aload_n (pc := 5) dX10_hipsBear_5 rfl ?_
  obtain ⟨x1, e2, h⟩ := obS h
  refine j_getR (pc := 6) dX10_hipsBear_6 (ci := 10) (kf := 3) rfl (jwi hw_X10) (by decide) (jwm lw_104) e2 ?_
  refine j_aload_n (pc := 9) dX10_hipsBear_9 rfl ?_
  obtain ⟨x3, e4, h⟩ := obS h
  refine j_getR (pc := 10) dX10_hipsBear_10 (ci := 10) (kf := 2) rfl (jwi hw_X10) (by decide) (jwm lw_103) e4 ?_
  obtain ⟨w5, e6, h⟩ := obS h
  have ge6 := calSV_of e6
  refine j_callV_g (pc := 13) (As := [.ref x3]) (k' := 0) (n' := 0) dX10_hipsBear_13 (s_X9_copy ge6.1) (jgV lw_340 lw_341 lw_342 lw_76 lw_339) rfl hv_X9_copy rfl (r_X9_copy ge6.1) rfl (by decide) (by decide) (Nat.le_of_ble_eq_true rfl) (by decide) (by decide) (by decide) (by decide) (Or.inl ge6.2) ?_
  refine j_iconst (pc := 16) dX10_hipsBear_16 (v := 0) (by decide) ?_
  refine j_istore_n_3 (pc := 17) dX10_hipsBear_17 (by decide) rfl ?_
  exact jm_X10_hipsBear_l18 FU _ _ _ _ w5 h
theorem r_X10_hipsBear {a0 : Nat} {ws : LWd} {o : (Int32 × LWd)} (h : m_X10_hipsBear a0 ws = some o) : ∃ fs, ws[a0]? = some (.inr (10, fs)) := rcv_in h
def wsX0_forget : List Cond := Cond.code yX0_forget cX0_forget 1 none :: jW
def m_X0_forget (a0 : Nat) (ws : LWd) : Option LWd :=
  (rcv ws a0 0).bind fun _ =>
  (pV ws a0 0 0 (.int 0)).bind fun w1 =>
  (pV w1 a0 0 1 (.int 0)).bind fun w3 =>
  (pV w3 a0 0 2 (.int ((-1)))).bind fun w5 =>
  (pV w5 a0 0 3 (.int 0)).bind fun w7 =>
  some w7
set_option maxRecDepth 100000 in
set_option maxHeartbeats 4000000 in
theorem s_X0_forget {a0 : Nat} {ws : LWd} {ws' : LWd} (h : m_X0_forget a0 ws = some ws') : jSp yX0_forget wsX0_forget 0 0 0 [.ref a0] ws (.inl none, ws') := by
  unfold m_X0_forget at h
  refine j_entry (ret := none) (nm := "forget") (own := RX0) pl_X0 rfl rfl rfl (jcats (by rfl)) (Nat.le_of_ble_eq_true rfl) ?_
  show JG (.inl false) cX0_forget 1 RX0 wsX0_forget none "forget" 0 0 0 ws.length (.inl none, ws') 0 [some (.ref a0)] [] ws 0 0
  obtain ⟨_, _, h⟩ := obS h
  refine j_aload_n (pc := 0) dX0_forget_0 rfl ?_
  refine j_iconst (pc := 1) dX0_forget_1 (v := 0) (by decide) ?_
  obtain ⟨w1, e2, h⟩ := obS h
  refine j_putV (pc := 2) (ci := 0) (kf := 0) tyX0 tyX0_ok nmX0 dX0_forget_2 rfl (jwi hw_X0) (by decide) (jwm lw_52) rfl (fun _ => rfl) (fun _ => rfl) e2 ?_
  refine j_aload_n (pc := 5) dX0_forget_5 rfl ?_
  refine j_iconst (pc := 6) dX0_forget_6 (v := 0) (by decide) ?_
  obtain ⟨w3, e4, h⟩ := obS h
  refine j_putV (pc := 7) (ci := 0) (kf := 1) tyX0 tyX0_ok nmX0 dX0_forget_7 rfl (jwi hw_X0) (by decide) (jwm lw_53) rfl (fun _ => rfl) (fun _ => rfl) e4 ?_
  refine j_aload_n (pc := 10) dX0_forget_10 rfl ?_
  refine j_iconst (pc := 11) dX0_forget_11 (v := (-1)) (by decide) ?_
  obtain ⟨w5, e6, h⟩ := obS h
  refine j_putV (pc := 12) (ci := 0) (kf := 2) tyX0 tyX0_ok nmX0 dX0_forget_12 rfl (jwi hw_X0) (by decide) (jwm lw_54) rfl (fun _ => rfl) (fun _ => rfl) e6 ?_
  refine j_aload_n (pc := 15) dX0_forget_15 rfl ?_
  refine j_iconst (pc := 16) dX0_forget_16 (v := 0) (by decide) ?_
  obtain ⟨w7, e8, h⟩ := obS h
  refine j_putV (pc := 17) (ci := 0) (kf := 3) tyX0 tyX0_ok nmX0 dX0_forget_17 rfl (jwi hw_X0) (by decide) (jwm lw_55) rfl (fun _ => rfl) (fun _ => rfl) e8 ?_
  cases h
  exact j_vret (pc := 20) rfl dX0_forget_20 (by decide) (by decide) rfl
theorem r_X0_forget {a0 : Nat} {ws : LWd} {o : LWd} (h : m_X0_forget a0 ws = some o) : ∃ fs, ws[a0]? = some (.inr (0, fs)) := rcv_in h
def wsX5_neighbour : List Cond := Cond.code yX5_neighbour cX5_neighbour 4 (some .int) :: jW
def m_X5_neighbour (i0 : Int32) (i1 : Int32) (ws : LWd) : Option (Int32 × LWd) :=
  bn2 (calSR ws (m_X10_xOf i0 ws)) fun x3 w1 =>
  bn2 (calSR w1 (m_X10_yOf i0 w1)) fun x6 w4 =>
  if i1 = 0 then
    bn2 (calSR w4 (m_X10_pointAt x3 (x6 - 1) w4)) fun x10 w8 =>
    some (x10, w8)
  else
    if i1 = 1 then
      bn2 (calSR w4 (m_X10_pointAt (x3 - 1) x6 w4)) fun x14 w12 =>
      some (x14, w12)
    else
      if i1 = 2 then
        bn2 (calSR w4 (m_X10_pointAt (x3 + 1) x6 w4)) fun x18 w16 =>
        some (x18, w16)
      else
        bn2 (calSR w4 (m_X10_pointAt x3 (x6 + 1) w4)) fun x21 w19 =>
        some (x21, w19)
set_option maxRecDepth 100000 in
set_option maxHeartbeats 4000000 in
theorem s_X5_neighbour {i0 : Int32} {i1 : Int32} {ws : LWd} {rr : Int32} {ws' : LWd} (h : m_X5_neighbour i0 i1 ws = some (rr, ws')) : jSp yX5_neighbour wsX5_neighbour 1 0 0 [.int i0, .int i1] ws (.inl (some (.int rr)), ws') := by
  unfold m_X5_neighbour at h
  refine j_entry (ret := (some .int)) (nm := "neighbour") (own := RX5) pl_X5 rfl rfl rfl (jcats (by rfl)) (Nat.le_of_ble_eq_true rfl) ?_
  show JG (.inl false) cX5_neighbour 4 RX5 wsX5_neighbour (some .int) "neighbour" 1 0 0 ws.length (.inl (some (.int rr)), ws') 0 [some (.int i0), some (.int i1), none, none] [] ws 0 0
  refine j_iload_n (pc := 0) dX5_neighbour_0 rfl ?_
  obtain ⟨x3, w1, e2, h⟩ := obS2 h
  have ge2 := calSR_of e2
  refine j_callSN_g (pc := 1) (As := [.int i0]) (k' := 0) (n' := 0) dX5_neighbour_1 (s_X10_xOf ge2.1) (jgP lw_279) nst_X5_49 (jwm lw_147) (jwm lw_280) rfl hy_X10_xOf rfl (by decide) (by decide) (Nat.le_of_ble_eq_true rfl) (by decide) (by decide) (by decide) (by decide) (Or.inl ge2.2) ?_
  refine j_istore_n_2 (pc := 4) dX5_neighbour_4 (by decide) rfl ?_
  refine j_iload_n (pc := 5) dX5_neighbour_5 rfl ?_
  obtain ⟨x6, w4, e5, h⟩ := obS2 h
  have ge5 := calSR_of e5
  refine j_callSN_g (pc := 6) (As := [.int i0]) (k' := 0) (n' := 0) dX5_neighbour_6 (s_X10_yOf ge5.1) (jgP lw_281) nst_X5_52 (jwm lw_147) (jwm lw_282) rfl hy_X10_yOf rfl (by decide) (by decide) (Nat.le_of_ble_eq_true rfl) (by decide) (by decide) (by decide) (by decide) (Or.inl ge5.2) ?_
  refine j_istore_n_3 (pc := 9) dX5_neighbour_9 (by decide) rfl ?_
  refine j_iload_n (pc := 10) dX5_neighbour_10 rfl ?_
  by_cases c7 : i1 = 0
  · rw [if_pos c7] at h
    refine j_tabEq (pc := 11) (tgt := 36) (a := 0) dX5_neighbour_11 c7 rfl (by decide) (by decide) rfl (by decide) ?_
    refine j_iload_n (pc := 36) dX5_neighbour_36 rfl ?_
    refine j_iload_n (pc := 37) dX5_neighbour_37 rfl ?_
    refine j_iconst (pc := 38) dX5_neighbour_38 (v := 1) (by decide) ?_
    refine j_isub (pc := 39) dX5_neighbour_39 ?_
    obtain ⟨x10, w8, e9, h⟩ := obS2 h
    have ge9 := calSR_of e9
    refine j_callSN_g (pc := 40) (As := [.int x3, .int (x6 - 1)]) (k' := 0) (n' := 0) dX5_neighbour_40 (s_X10_pointAt ge9.1) (jgP lw_144) nst_X5_55 (jwm lw_147) (jwm lw_146) rfl hy_X10_pointAt rfl (by decide) (by decide) (Nat.le_of_ble_eq_true rfl) (by decide) (by decide) (by decide) (by decide) (Or.inl ge9.2) ?_
    obtain ⟨rfl, rfl⟩ := jretS h
    exact j_iret (pc := 43) rfl dX5_neighbour_43 (by decide) (by decide) rfl
  · rw [if_neg c7] at h
    by_cases c11 : i1 = 1
    · rw [if_pos c11] at h
      refine j_tabEq (pc := 11) (tgt := 44) (a := 1) dX5_neighbour_11 c11 rfl (by decide) (by decide) rfl (by decide) ?_
      refine j_iload_n (pc := 44) dX5_neighbour_44 rfl ?_
      refine j_iconst (pc := 45) dX5_neighbour_45 (v := 1) (by decide) ?_
      refine j_isub (pc := 46) dX5_neighbour_46 ?_
      refine j_iload_n (pc := 47) dX5_neighbour_47 rfl ?_
      obtain ⟨x14, w12, e13, h⟩ := obS2 h
      have ge13 := calSR_of e13
      refine j_callSN_g (pc := 48) (As := [.int (x3 - 1), .int x6]) (k' := 0) (n' := 0) dX5_neighbour_48 (s_X10_pointAt ge13.1) (jgP lw_144) nst_X5_55 (jwm lw_147) (jwm lw_146) rfl hy_X10_pointAt rfl (by decide) (by decide) (Nat.le_of_ble_eq_true rfl) (by decide) (by decide) (by decide) (by decide) (Or.inl ge13.2) ?_
      obtain ⟨rfl, rfl⟩ := jretS h
      exact j_iret (pc := 51) rfl dX5_neighbour_51 (by decide) (by decide) rfl
    · rw [if_neg c11] at h
      by_cases c15 : i1 = 2
      · rw [if_pos c15] at h
        refine j_tabEq (pc := 11) (tgt := 52) (a := 2) dX5_neighbour_11 c15 rfl (by decide) (by decide) rfl (by decide) ?_
        refine j_iload_n (pc := 52) dX5_neighbour_52 rfl ?_
        refine j_iconst (pc := 53) dX5_neighbour_53 (v := 1) (by decide) ?_
        refine j_iadd (pc := 54) dX5_neighbour_54 ?_
        refine j_iload_n (pc := 55) dX5_neighbour_55 rfl ?_
        obtain ⟨x18, w16, e17, h⟩ := obS2 h
        have ge17 := calSR_of e17
        refine j_callSN_g (pc := 56) (As := [.int (x3 + 1), .int x6]) (k' := 0) (n' := 0) dX5_neighbour_56 (s_X10_pointAt ge17.1) (jgP lw_144) nst_X5_55 (jwm lw_147) (jwm lw_146) rfl hy_X10_pointAt rfl (by decide) (by decide) (Nat.le_of_ble_eq_true rfl) (by decide) (by decide) (by decide) (by decide) (Or.inl ge17.2) ?_
        obtain ⟨rfl, rfl⟩ := jretS h
        exact j_iret (pc := 59) rfl dX5_neighbour_59 (by decide) (by decide) rfl
      · rw [if_neg c15] at h
        refine j_tabOut (pc := 11) (tgt := 60) dX5_neighbour_11 (jout3 c7 c11 c15) (by decide) ?_
        refine j_iload_n (pc := 60) dX5_neighbour_60 rfl ?_
        refine j_iload_n (pc := 61) dX5_neighbour_61 rfl ?_
        refine j_iconst (pc := 62) dX5_neighbour_62 (v := 1) (by decide) ?_
        refine j_iadd (pc := 63) dX5_neighbour_63 ?_
        obtain ⟨x21, w19, e20, h⟩ := obS2 h
        have ge20 := calSR_of e20
        refine j_callSN_g (pc := 64) (As := [.int x3, .int (x6 + 1)]) (k' := 0) (n' := 0) dX5_neighbour_64 (s_X10_pointAt ge20.1) (jgP lw_144) nst_X5_55 (jwm lw_147) (jwm lw_146) rfl hy_X10_pointAt rfl (by decide) (by decide) (Nat.le_of_ble_eq_true rfl) (by decide) (by decide) (by decide) (by decide) (Or.inl ge20.2) ?_
        obtain ⟨rfl, rfl⟩ := jretS h
        exact j_iret (pc := 67) rfl dX5_neighbour_67 (by decide) (by decide) rfl
def wsX5_slipFrom : List Cond := Cond.code yX5_slipFrom cX5_slipFrom 6 (some .int) :: jW
def m_X5_slipFrom_b69 (k23 : Nat → Int32 → Int32 → Int32 → Int32 → LWd → Option (Int32 × LWd)) (a0 : Nat) (i1 : Int32) (i2 : Int32) (i3 : Int32) (i4 : Int32) (ws : LWd) : Option (Int32 × LWd) :=
  k23 a0 i1 i2 i3 (i4 + 1) ws
set_option maxRecDepth 100000 in
set_option maxHeartbeats 4000000 in
theorem jm_X5_slipFrom_b69 {n0 : Nat} {rr : Int32} {ws' : LWd} {k23 : Nat → Int32 → Int32 → Int32 → Int32 → LWd → Option (Int32 × LWd)} (hk23 : ∀ (a0 : Nat) (i1 : Int32) (i2 : Int32) (i3 : Int32) (i4 : Int32) (ws : LWd), k23 a0 i1 i2 i3 i4 ws = some (rr, ws') → JG (.inl false) cX5_slipFrom 6 RX5 wsX5_slipFrom (some .int) "slipFrom" 2 0 0 n0 (.inl (some (.int rr)), ws') 23 [some (.ref a0), some (.int i1), some (.int i2), some (.int i3), some (.int i4), none] [] ws 0 0) (a0 : Nat) (i1 : Int32) (i2 : Int32) (i3 : Int32) (i4 : Int32) (ws : LWd) (h : m_X5_slipFrom_b69 k23 a0 i1 i2 i3 i4 ws = some (rr, ws')) : JG (.inl false) cX5_slipFrom 6 RX5 wsX5_slipFrom (some .int) "slipFrom" 2 0 0 n0 (.inl (some (.int rr)), ws') 69 [some (.ref a0), some (.int i1), some (.int i2), some (.int i3), some (.int i4), none] [] ws 0 0 := by
  unfold m_X5_slipFrom_b69 at h
  refine j_iinc_4 (pc := 69) dX5_slipFrom_69 (y := i4 + 1) rfl (by decide) rfl ?_
  refine j_goto (pc := 72) (tgt := 23) dX5_slipFrom_72 (by decide) ?_
  exact hk23 _ _ _ _ _ ws h
def m_X5_slipFrom_l23 : Nat → Nat → Int32 → Int32 → Int32 → Int32 → LWd → Option (Int32 × LWd)
  | 0, _, _, _, _, _, _ => none
  | fu + 1, a0, i1, i2, i3, i4, ws =>
    if 4 ≤ i4 then
      some (i3, ws)
    else
      bn2 (calSR ws (m_X5_neighbour i1 i4 ws)) fun x4 w2 =>
      if x4 = ((-1)) then
        m_X5_slipFrom_b69 (fun z0 z1 z2 z3 z4 w => m_X5_slipFrom_l23 fu z0 z1 z2 z3 z4 w) a0 i1 i2 i3 i4 w2
      else
        (fR w2 a0 5 0).bind fun x6 =>
        bn2 (calSR w2 (m_X8_at x6 x4 w2)) fun x10 w8 =>
        if i2 ≤ x10 then
          m_X5_slipFrom_b69 (fun z0 z1 z2 z3 z4 w => m_X5_slipFrom_l23 fu z0 z1 z2 z3 z4 w) a0 i1 i2 i3 i4 w8
        else
          (fR w8 a0 5 0).bind fun x12 =>
          bn2 (calSR w8 (m_X8_at x12 x4 w8)) fun x16 w14 =>
          m_X5_slipFrom_b69 (fun z0 z1 z2 z3 z4 w => m_X5_slipFrom_l23 fu z0 z1 z2 z3 z4 w) a0 i1 x16 x4 i4 w14
set_option maxRecDepth 100000 in
set_option maxHeartbeats 4000000 in
theorem jm_X5_slipFrom_l23 {n0 : Nat} {rr : Int32} {ws' : LWd} : ∀ (fu : Nat) (a0 : Nat) (i1 : Int32) (i2 : Int32) (i3 : Int32) (i4 : Int32) (ws : LWd), m_X5_slipFrom_l23 fu a0 i1 i2 i3 i4 ws = some (rr, ws') → JG (.inl false) cX5_slipFrom 6 RX5 wsX5_slipFrom (some .int) "slipFrom" 2 0 0 n0 (.inl (some (.int rr)), ws') 23 [some (.ref a0), some (.int i1), some (.int i2), some (.int i3), some (.int i4), none] [] ws 0 0 := by
  intro fu
  induction fu with
  | zero => intro a0 i1 i2 i3 i4 ws h; first | (cases h; done) | (rw [m_X5_slipFrom_l23] at h; cases h)
  | succ fu ih =>
    intro a0 i1 i2 i3 i4 ws h
    rw [m_X5_slipFrom_l23] at h
    refine j_iload (pc := 23) dX5_slipFrom_23 rfl ?_
    refine j_iconst (pc := 25) dX5_slipFrom_25 (v := 4) (by decide) ?_
    refine j_icmp_ge (pc := 26) (tgt := 75) dX5_slipFrom_26 (by decide) (fun c1 => ?_) (fun c1 => ?_)
    · rw [if_pos c1] at h
      refine j_iload_n (pc := 75) dX5_slipFrom_75 rfl ?_
      obtain ⟨rfl, rfl⟩ := jretS h
      exact j_iret (pc := 76) rfl dX5_slipFrom_76 (by decide) (by decide) rfl
    · rw [if_neg c1] at h
      refine j_iload_n (pc := 29) dX5_slipFrom_29 rfl ?_
      refine j_iload (pc := 30) dX5_slipFrom_30 rfl ?_
      obtain ⟨x4, w2, e3, h⟩ := obS2 h
      have ge3 := calSR_of e3
      refine j_callS_g (pc := 32) (As := [.int i1, .int i4]) (k' := 0) (n' := 0) dX5_slipFrom_32 (s_X5_neighbour ge3.1) (jgS lw_344 lw_345 lw_91 lw_343) rfl hy_X5_neighbour rfl (by decide) (by decide) (Nat.le_of_ble_eq_true rfl) (by decide) (by decide) (by decide) (by decide) (Or.inl ge3.2) ?_
      refine j_istore_5 (pc := 35) dX5_slipFrom_35 (by decide) rfl ?_
      refine j_iload (pc := 37) dX5_slipFrom_37 rfl ?_
      refine j_iconst (pc := 39) dX5_slipFrom_39 (v := (-1)) (by decide) ?_
      refine j_icmp_eq (pc := 40) (tgt := 69) dX5_slipFrom_40 (by decide) (fun c5 => ?_) (fun c5 => ?_)
      · rw [if_pos c5] at h
        refine j_mask [true, true, true, true, true, false] ?_
        exact jm_X5_slipFrom_b69 (hk23 := ih) _ _ _ _ _ w2 h
      · rw [if_neg c5] at h
        refine j_aload_n (pc := 43) dX5_slipFrom_43 rfl ?_
        obtain ⟨x6, e7, h⟩ := obS h
        refine j_getR (pc := 44) dX5_slipFrom_44 (ci := 5) (kf := 0) rfl (jwi hw_X5) (by decide) (jwm lw_22) e7 ?_
        refine j_iload (pc := 47) dX5_slipFrom_47 rfl ?_
        obtain ⟨x10, w8, e9, h⟩ := obS2 h
        have ge9 := calSR_of e9
        refine j_callV_g (pc := 49) (As := [.int x4]) (k' := 0) (n' := 0) dX5_slipFrom_49 (s_X8_at ge9.1) (jgV lw_258 lw_140 lw_141 lw_12 lw_138) rfl hv_X8_at rfl (r_X8_at ge9.1) rfl (by decide) (by decide) (Nat.le_of_ble_eq_true rfl) (by decide) (by decide) (by decide) (by decide) (Or.inl ge9.2) ?_
        refine j_iload_n (pc := 52) dX5_slipFrom_52 rfl ?_
        refine j_icmp_ge (pc := 53) (tgt := 69) dX5_slipFrom_53 (by decide) (fun c11 => ?_) (fun c11 => ?_)
        · rw [if_pos c11] at h
          refine j_mask [true, true, true, true, true, false] ?_
          exact jm_X5_slipFrom_b69 (hk23 := ih) _ _ _ _ _ w8 h
        · rw [if_neg c11] at h
          refine j_aload_n (pc := 56) dX5_slipFrom_56 rfl ?_
          obtain ⟨x12, e13, h⟩ := obS h
          refine j_getR (pc := 57) dX5_slipFrom_57 (ci := 5) (kf := 0) rfl (jwi hw_X5) (by decide) (jwm lw_22) e13 ?_
          refine j_iload (pc := 60) dX5_slipFrom_60 rfl ?_
          obtain ⟨x16, w14, e15, h⟩ := obS2 h
          have ge15 := calSR_of e15
          refine j_callV_g (pc := 62) (As := [.int x4]) (k' := 0) (n' := 0) dX5_slipFrom_62 (s_X8_at ge15.1) (jgV lw_258 lw_140 lw_141 lw_12 lw_138) rfl hv_X8_at rfl (r_X8_at ge15.1) rfl (by decide) (by decide) (Nat.le_of_ble_eq_true rfl) (by decide) (by decide) (by decide) (by decide) (Or.inl ge15.2) ?_
          refine j_istore_n_2 (pc := 65) dX5_slipFrom_65 (by decide) rfl ?_
          refine j_iload (pc := 66) dX5_slipFrom_66 rfl ?_
          refine j_istore_n_3 (pc := 68) dX5_slipFrom_68 (by decide) rfl ?_
          refine j_mask [true, true, true, true, true, false] ?_
          exact jm_X5_slipFrom_b69 (hk23 := ih) _ _ _ _ _ w14 h
def m_X5_slipFrom (a0 : Nat) (i1 : Int32) (ws : LWd) : Option (Int32 × LWd) :=
  (rcv ws a0 5).bind fun _ =>
  (fR ws a0 5 0).bind fun x1 =>
  bn2 (calSR ws (m_X8_at x1 i1 ws)) fun x5 w3 =>
  (fR w3 a0 5 2).bind fun x6 =>
  bn2 (calSR w3 (m_X8_at x6 i1 w3)) fun x10 w8 =>
  m_X5_slipFrom_l23 FU a0 i1 (x5 - x10) ((-1)) 0 w8
set_option maxRecDepth 100000 in
set_option maxHeartbeats 4000000 in
theorem s_X5_slipFrom {a0 : Nat} {i1 : Int32} {ws : LWd} {rr : Int32} {ws' : LWd} (h : m_X5_slipFrom a0 i1 ws = some (rr, ws')) : jSp yX5_slipFrom wsX5_slipFrom 2 0 0 [.ref a0, .int i1] ws (.inl (some (.int rr)), ws') := by
  unfold m_X5_slipFrom at h
  refine j_entry (ret := (some .int)) (nm := "slipFrom") (own := RX5) pl_X5 rfl rfl rfl (jcats (by rfl)) (Nat.le_of_ble_eq_true rfl) ?_
  show JG (.inl false) cX5_slipFrom 6 RX5 wsX5_slipFrom (some .int) "slipFrom" 2 0 0 ws.length (.inl (some (.int rr)), ws') 0 [some (.ref a0), some (.int i1), none, none, none, none] [] ws 0 0
  obtain ⟨_, _, h⟩ := obS h
  refine j_aload_n (pc := 0) dX5_slipFrom_0 rfl ?_
  obtain ⟨x1, e2, h⟩ := obS h
  refine j_getR (pc := 1) dX5_slipFrom_1 (ci := 5) (kf := 0) rfl (jwi hw_X5) (by decide) (jwm lw_22) e2 ?_
  refine j_iload_n (pc := 4) dX5_slipFrom_4 rfl ?_
  obtain ⟨x5, w3, e4, h⟩ := obS2 h
  have ge4 := calSR_of e4
  refine j_callV_g (pc := 5) (As := [.int i1]) (k' := 0) (n' := 0) dX5_slipFrom_5 (s_X8_at ge4.1) (jgV lw_258 lw_140 lw_141 lw_12 lw_138) rfl hv_X8_at rfl (r_X8_at ge4.1) rfl (by decide) (by decide) (Nat.le_of_ble_eq_true rfl) (by decide) (by decide) (by decide) (by decide) (Or.inl ge4.2) ?_
  refine j_aload_n (pc := 8) dX5_slipFrom_8 rfl ?_
  obtain ⟨x6, e7, h⟩ := obS h
  refine j_getR (pc := 9) dX5_slipFrom_9 (ci := 5) (kf := 2) rfl (jwi hw_X5) (by decide) (jwm lw_24) e7 ?_
  refine j_iload_n (pc := 12) dX5_slipFrom_12 rfl ?_
  obtain ⟨x10, w8, e9, h⟩ := obS2 h
  have ge9 := calSR_of e9
  refine j_callV_g (pc := 13) (As := [.int i1]) (k' := 0) (n' := 0) dX5_slipFrom_13 (s_X8_at ge9.1) (jgV lw_258 lw_140 lw_141 lw_12 lw_138) rfl hv_X8_at rfl (r_X8_at ge9.1) rfl (by decide) (by decide) (Nat.le_of_ble_eq_true rfl) (by decide) (by decide) (by decide) (by decide) (Or.inl ge9.2) ?_
  refine j_isub (pc := 16) dX5_slipFrom_16 ?_
  refine j_istore_n_2 (pc := 17) dX5_slipFrom_17 (by decide) rfl ?_
  refine j_iconst (pc := 18) dX5_slipFrom_18 (v := (-1)) (by decide) ?_
  refine j_istore_n_3 (pc := 19) dX5_slipFrom_19 (by decide) rfl ?_
  refine j_iconst (pc := 20) dX5_slipFrom_20 (v := 0) (by decide) ?_
  refine j_istore_4 (pc := 21) dX5_slipFrom_21 (by decide) rfl ?_
  exact jm_X5_slipFrom_l23 FU _ _ _ _ _ w8 h
theorem r_X5_slipFrom {a0 : Nat} {i1 : Int32} {ws : LWd} {o : (Int32 × LWd)} (h : m_X5_slipFrom a0 i1 ws = some o) : ∃ fs, ws[a0]? = some (.inr (5, fs)) := rcv_in h
def wsX9_isInReach : List Cond := Cond.code yX9_isInReach cX9_isInReach 6 (some .boolean) :: jW
def m_X9_isInReach (a0 : Nat) (i1 : Int32) (i2 : Int32) (ws : LWd) : Option (Int32 × LWd) :=
  (rcv ws a0 9).bind fun _ =>
  bn2 (calSR ws (m_X10_xOf i2 ws)) fun x3 w1 =>
  bn2 (calSR w1 (m_X9_hipX a0 i1 w1)) fun x6 w4 =>
  bn2 (calSR w4 (m_X10_yOf i2 w4)) fun x9 w7 =>
  bn2 (calSR w7 (m_X9_hipY a0 i1 w7)) fun x12 w10 =>
  (fR w10 a0 9 1).bind fun x13 =>
  (fR w10 x13 2 2).bind fun x15 =>
  bn2 (calSR w10 (m_X8_at x15 i1 w10)) fun x19 w17 =>
  if (x19 * x19) < (((x3 - x6) * (x3 - x6)) + ((x9 - x12) * (x9 - x12))) then
    some (0, w17)
  else
    some (1, w17)
set_option maxRecDepth 100000 in
set_option maxHeartbeats 4000000 in
theorem s_X9_isInReach {a0 : Nat} {i1 : Int32} {i2 : Int32} {ws : LWd} {rr : Int32} {ws' : LWd} (h : m_X9_isInReach a0 i1 i2 ws = some (rr, ws')) : jSp yX9_isInReach wsX9_isInReach 2 0 0 [.ref a0, .int i1, .int i2] ws (.inl (some (.int rr)), ws') := by
  unfold m_X9_isInReach at h
  refine j_entry (ret := (some .boolean)) (nm := "isInReach") (own := RX9) pl_X9 rfl rfl rfl (jcats (by rfl)) (Nat.le_of_ble_eq_true rfl) ?_
  show JG (.inl false) cX9_isInReach 6 RX9 wsX9_isInReach (some .boolean) "isInReach" 2 0 0 ws.length (.inl (some (.int rr)), ws') 0 [some (.ref a0), some (.int i1), some (.int i2), none, none, none] [] ws 0 0
  obtain ⟨_, _, h⟩ := obS h
  refine j_iload_n (pc := 0) dX9_isInReach_0 rfl ?_
  obtain ⟨x3, w1, e2, h⟩ := obS2 h
  have ge2 := calSR_of e2
  refine j_callSN_g (pc := 1) (As := [.int i2]) (k' := 0) (n' := 0) dX9_isInReach_1 (s_X10_xOf ge2.1) (jgP lw_279) nst_X9_55 (jwm lw_147) (jwm lw_280) rfl hy_X10_xOf rfl (by decide) (by decide) (Nat.le_of_ble_eq_true rfl) (by decide) (by decide) (by decide) (by decide) (Or.inl ge2.2) ?_
  refine j_aload_n (pc := 4) dX9_isInReach_4 rfl ?_
  refine j_iload_n (pc := 5) dX9_isInReach_5 rfl ?_
  obtain ⟨x6, w4, e5, h⟩ := obS2 h
  have ge5 := calSR_of e5
  refine j_callV_g (pc := 6) (As := [.int i1]) (k' := 0) (n' := 0) dX9_isInReach_6 (s_X9_hipX ge5.1) (jgV lw_346 lw_332 lw_333 lw_76 lw_330) rfl hv_X9_hipX rfl (r_X9_hipX ge5.1) rfl (by decide) (by decide) (Nat.le_of_ble_eq_true rfl) (by decide) (by decide) (by decide) (by decide) (Or.inl ge5.2) ?_
  refine j_isub (pc := 9) dX9_isInReach_9 ?_
  refine j_istore_n_3 (pc := 10) dX9_isInReach_10 (by decide) rfl ?_
  refine j_iload_n (pc := 11) dX9_isInReach_11 rfl ?_
  obtain ⟨x9, w7, e8, h⟩ := obS2 h
  have ge8 := calSR_of e8
  refine j_callSN_g (pc := 12) (As := [.int i2]) (k' := 0) (n' := 0) dX9_isInReach_12 (s_X10_yOf ge8.1) (jgP lw_281) nst_X9_60 (jwm lw_147) (jwm lw_282) rfl hy_X10_yOf rfl (by decide) (by decide) (Nat.le_of_ble_eq_true rfl) (by decide) (by decide) (by decide) (by decide) (Or.inl ge8.2) ?_
  refine j_aload_n (pc := 15) dX9_isInReach_15 rfl ?_
  refine j_iload_n (pc := 16) dX9_isInReach_16 rfl ?_
  obtain ⟨x12, w10, e11, h⟩ := obS2 h
  have ge11 := calSR_of e11
  refine j_callV_g (pc := 17) (As := [.int i1]) (k' := 0) (n' := 0) dX9_isInReach_17 (s_X9_hipY ge11.1) (jgV lw_347 lw_336 lw_337 lw_76 lw_334) rfl hv_X9_hipY rfl (r_X9_hipY ge11.1) rfl (by decide) (by decide) (Nat.le_of_ble_eq_true rfl) (by decide) (by decide) (by decide) (by decide) (Or.inl ge11.2) ?_
  refine j_isub (pc := 20) dX9_isInReach_20 ?_
  refine j_istore_4 (pc := 21) dX9_isInReach_21 (by decide) rfl ?_
  refine j_aload_n (pc := 23) dX9_isInReach_23 rfl ?_
  obtain ⟨x13, e14, h⟩ := obS h
  refine j_getR (pc := 24) dX9_isInReach_24 (ci := 9) (kf := 1) rfl (jwi hw_X9) (by decide) (jwm lw_43) e14 ?_
  obtain ⟨x15, e16, h⟩ := obS h
  refine j_getR (pc := 27) dX9_isInReach_27 (ci := 2) (kf := 2) rfl (jwi hw_X2) (by decide) (jwm lw_348) e16 ?_
  refine j_iload_n (pc := 30) dX9_isInReach_30 rfl ?_
  obtain ⟨x19, w17, e18, h⟩ := obS2 h
  have ge18 := calSR_of e18
  refine j_callV_g (pc := 31) (As := [.int i1]) (k' := 0) (n' := 0) dX9_isInReach_31 (s_X8_at ge18.1) (jgV lw_139 lw_140 lw_141 lw_12 lw_138) rfl hv_X8_at rfl (r_X8_at ge18.1) rfl (by decide) (by decide) (Nat.le_of_ble_eq_true rfl) (by decide) (by decide) (by decide) (by decide) (Or.inl ge18.2) ?_
  refine j_istore_5 (pc := 34) dX9_isInReach_34 (by decide) rfl ?_
  refine j_iload_n (pc := 36) dX9_isInReach_36 rfl ?_
  refine j_iload_n (pc := 37) dX9_isInReach_37 rfl ?_
  refine j_imul (pc := 38) dX9_isInReach_38 ?_
  refine j_iload (pc := 39) dX9_isInReach_39 rfl ?_
  refine j_iload (pc := 41) dX9_isInReach_41 rfl ?_
  refine j_imul (pc := 43) dX9_isInReach_43 ?_
  refine j_iadd (pc := 44) dX9_isInReach_44 ?_
  refine j_iload (pc := 45) dX9_isInReach_45 rfl ?_
  refine j_iload (pc := 47) dX9_isInReach_47 rfl ?_
  refine j_imul (pc := 49) dX9_isInReach_49 ?_
  refine j_icmp_gt (pc := 50) (tgt := 57) dX9_isInReach_50 (by decide) (fun c20 => ?_) (fun c20 => ?_)
  · rw [if_pos c20] at h
    refine j_iconst (pc := 57) dX9_isInReach_57 (v := 0) (by decide) ?_
    obtain ⟨rfl, rfl⟩ := jretS h
    exact j_zretL (pc := 58) (by decide) rfl dX9_isInReach_58 (by decide) (by decide) rfl
  · rw [if_neg c20] at h
    refine j_iconst (pc := 53) dX9_isInReach_53 (v := 1) (by decide) ?_
    refine j_goto (pc := 54) (tgt := 58) dX9_isInReach_54 (by decide) ?_
    obtain ⟨rfl, rfl⟩ := jretS h
    exact j_zretL (pc := 58) (by decide) rfl dX9_isInReach_58 (by decide) (by decide) rfl
theorem r_X9_isInReach {a0 : Nat} {i1 : Int32} {i2 : Int32} {ws : LWd} {o : (Int32 × LWd)} (h : m_X9_isInReach a0 i1 i2 ws = some o) : ∃ fs, ws[a0]? = some (.inr (9, fs)) := rcv_in h
def wsX10_setFoot : List Cond := Cond.code yX10_setFoot cX10_setFoot 5 none :: jW
def m_X10_setFoot_b35 (a0 : Nat) (i1 : Int32) (i2 : Int32) (s0 : Int32) (ws : LWd) : Option LWd :=
  (fR ws a0 10 0).bind fun x1 =>
  (calSV ws (m_X5_learn x1 i2 ws)).bind fun w3 =>
  if s0 = 0 then
    (fR w3 a0 10 0).bind fun x6 =>
    bn2 (calSR w3 (m_X5_slipFrom x6 i2 w3)) fun x10 w8 =>
    if x10 = ((-1)) then
      (fR w8 a0 10 2).bind fun x38 =>
      (fR w8 x38 9 3).bind fun x40 =>
      (calSV w8 (m_X8_put x40 i1 i2 w8)).bind fun w42 =>
      some w42
    else
      (fR w8 a0 10 0).bind fun x12 =>
      (calSV w8 (m_X5_learn x12 x10 w8)).bind fun w14 =>
      (fR w14 a0 10 5).bind fun x16 =>
      (calSV w14 (m_X0_tell x16 3 i2 w14)).bind fun w18 =>
      (fR w18 a0 10 2).bind fun x20 =>
      bn2 (calSR w18 (m_X9_isInReach x20 i1 x10 w18)) fun x24 w22 =>
      if x24 = 0 then
        some w22
      else
        (fR w22 a0 10 2).bind fun x26 =>
        bn2 (calSR w22 (m_X9_isTaken x26 x10 i1 w22)) fun x30 w28 =>
        if x30 = 0 then
          (fR w28 a0 10 2).bind fun x32 =>
          (fR w28 x32 9 3).bind fun x34 =>
          (calSV w28 (m_X8_put x34 i1 x10 w28)).bind fun w36 =>
          some w36
        else
          some w28
  else
    (fR w3 a0 10 5).bind fun x44 =>
    (calSV w3 (m_X0_tell x44 1 i2 w3)).bind fun w46 =>
    some w46
set_option maxRecDepth 100000 in
set_option maxHeartbeats 4000000 in
theorem jm_X10_setFoot_b35 {n0 : Nat} {ws' : LWd} (a0 : Nat) (i1 : Int32) (i2 : Int32) (s0 : Int32) (ws : LWd) (h : m_X10_setFoot_b35 a0 i1 i2 s0 ws = some ws') : JG (.inl false) cX10_setFoot 5 RX10 wsX10_setFoot none "setFoot" 3 0 0 n0 (.inl none, ws') 35 [some (.ref a0), some (.int i1), some (.int i2), none, none] [.int s0] ws 0 0 := by
  unfold m_X10_setFoot_b35 at h
  refine j_istore_n_3 (pc := 35) dX10_setFoot_35 (by decide) rfl ?_
  refine j_aload_n (pc := 36) dX10_setFoot_36 rfl ?_
  obtain ⟨x1, e2, h⟩ := obS h
  refine j_getR (pc := 37) dX10_setFoot_37 (ci := 10) (kf := 0) rfl (jwi hw_X10) (by decide) (jwm lw_94) e2 ?_
  refine j_iload_n (pc := 40) dX10_setFoot_40 rfl ?_
  obtain ⟨w3, e4, h⟩ := obS h
  have ge4 := calSV_of e4
  refine j_callV_g (pc := 41) (As := [.int i2]) (k' := 0) (n' := 0) dX10_setFoot_41 (s_X5_learn ge4.1) (jgV lw_349 lw_263 lw_264 lw_91 lw_261) rfl hv_X5_learn rfl (r_X5_learn ge4.1) rfl (by decide) (by decide) (Nat.le_of_ble_eq_true rfl) (by decide) (by decide) (by decide) (by decide) (Or.inl ge4.2) ?_
  refine j_iload_n (pc := 44) dX10_setFoot_44 rfl ?_
  refine j_if_eq (pc := 45) (tgt := 58) dX10_setFoot_45 (by decide) (fun c5 => ?_) (fun c5 => ?_)
  · rw [if_pos c5] at h
    refine j_aload_n (pc := 58) dX10_setFoot_58 rfl ?_
    obtain ⟨x6, e7, h⟩ := obS h
    refine j_getR (pc := 59) dX10_setFoot_59 (ci := 10) (kf := 0) rfl (jwi hw_X10) (by decide) (jwm lw_94) e7 ?_
    refine j_iload_n (pc := 62) dX10_setFoot_62 rfl ?_
    obtain ⟨x10, w8, e9, h⟩ := obS2 h
    have ge9 := calSR_of e9
    refine j_callV_g (pc := 63) (As := [.int i2]) (k' := 0) (n' := 0) dX10_setFoot_63 (s_X5_slipFrom ge9.1) (jgV lw_351 lw_352 lw_353 lw_91 lw_350) rfl hv_X5_slipFrom rfl (r_X5_slipFrom ge9.1) rfl (by decide) (by decide) (Nat.le_of_ble_eq_true rfl) (by decide) (by decide) (by decide) (by decide) (Or.inl ge9.2) ?_
    refine j_istore_4 (pc := 66) dX10_setFoot_66 (by decide) rfl ?_
    refine j_iload (pc := 68) dX10_setFoot_68 rfl ?_
    refine j_iconst (pc := 70) dX10_setFoot_70 (v := (-1)) (by decide) ?_
    refine j_icmp_ne (pc := 71) (tgt := 87) dX10_setFoot_71 (by decide) (fun c11 => ?_) (fun c11 => ?_)
    · rw [if_neg c11] at h
      refine j_aload_n (pc := 87) dX10_setFoot_87 rfl ?_
      obtain ⟨x12, e13, h⟩ := obS h
      refine j_getR (pc := 88) dX10_setFoot_88 (ci := 10) (kf := 0) rfl (jwi hw_X10) (by decide) (jwm lw_94) e13 ?_
      refine j_iload (pc := 91) dX10_setFoot_91 rfl ?_
      obtain ⟨w14, e15, h⟩ := obS h
      have ge15 := calSV_of e15
      refine j_callV_g (pc := 93) (As := [.int x10]) (k' := 0) (n' := 0) dX10_setFoot_93 (s_X5_learn ge15.1) (jgV lw_349 lw_263 lw_264 lw_91 lw_261) rfl hv_X5_learn rfl (r_X5_learn ge15.1) rfl (by decide) (by decide) (Nat.le_of_ble_eq_true rfl) (by decide) (by decide) (by decide) (by decide) (Or.inl ge15.2) ?_
      refine j_aload_n (pc := 96) dX10_setFoot_96 rfl ?_
      obtain ⟨x16, e17, h⟩ := obS h
      refine j_getR (pc := 97) dX10_setFoot_97 (ci := 10) (kf := 5) rfl (jwi hw_X10) (by decide) (jwm lw_116) e17 ?_
      refine j_iconst (pc := 100) dX10_setFoot_100 (v := 3) (by decide) ?_
      refine j_iload_n (pc := 101) dX10_setFoot_101 rfl ?_
      obtain ⟨w18, e19, h⟩ := obS h
      have ge19 := calSV_of e19
      refine j_callV_g (pc := 102) (As := [.int 3, .int i2]) (k' := 0) (n' := 0) dX10_setFoot_102 (s_X0_tell ge19.1) (jgV lw_271 lw_272 lw_273 lw_113 lw_270) rfl hv_X0_tell rfl (r_X0_tell ge19.1) rfl (by decide) (by decide) (Nat.le_of_ble_eq_true rfl) (by decide) (by decide) (by decide) (by decide) (Or.inl ge19.2) ?_
      refine j_aload_n (pc := 105) dX10_setFoot_105 rfl ?_
      obtain ⟨x20, e21, h⟩ := obS h
      refine j_getR (pc := 106) dX10_setFoot_106 (ci := 10) (kf := 2) rfl (jwi hw_X10) (by decide) (jwm lw_103) e21 ?_
      refine j_iload_n (pc := 109) dX10_setFoot_109 rfl ?_
      refine j_iload (pc := 110) dX10_setFoot_110 rfl ?_
      obtain ⟨x24, w22, e23, h⟩ := obS2 h
      have ge23 := calSR_of e23
      refine j_callV_g (pc := 112) (As := [.int i1, .int x10]) (k' := 0) (n' := 0) dX10_setFoot_112 (s_X9_isInReach ge23.1) (jgV lw_355 lw_356 lw_357 lw_76 lw_354) rfl hv_X9_isInReach rfl (r_X9_isInReach ge23.1) rfl (by decide) (by decide) (Nat.le_of_ble_eq_true rfl) (by decide) (by decide) (by decide) (by decide) (Or.inl ge23.2) ?_
      refine j_if_eq (pc := 115) (tgt := 144) dX10_setFoot_115 (by decide) (fun c25 => ?_) (fun c25 => ?_)
      · rw [if_pos c25] at h
        cases h
        exact j_vret (pc := 144) rfl dX10_setFoot_144 (by decide) (by decide) rfl
      · rw [if_neg c25] at h
        refine j_aload_n (pc := 118) dX10_setFoot_118 rfl ?_
        obtain ⟨x26, e27, h⟩ := obS h
        refine j_getR (pc := 119) dX10_setFoot_119 (ci := 10) (kf := 2) rfl (jwi hw_X10) (by decide) (jwm lw_103) e27 ?_
        refine j_iload (pc := 122) dX10_setFoot_122 rfl ?_
        refine j_iload_n (pc := 124) dX10_setFoot_124 rfl ?_
        obtain ⟨x30, w28, e29, h⟩ := obS2 h
        have ge29 := calSR_of e29
        refine j_callV_g (pc := 125) (As := [.int x10, .int i1]) (k' := 0) (n' := 0) dX10_setFoot_125 (s_X9_isTaken ge29.1) (jgV lw_152 lw_153 lw_154 lw_76 lw_151) rfl hv_X9_isTaken rfl (r_X9_isTaken ge29.1) rfl (by decide) (by decide) (Nat.le_of_ble_eq_true rfl) (by decide) (by decide) (by decide) (by decide) (Or.inl ge29.2) ?_
        refine j_if_ne (pc := 128) (tgt := 144) dX10_setFoot_128 (by decide) (fun c31 => ?_) (fun c31 => ?_)
        · rw [if_neg c31] at h
          cases h
          exact j_vret (pc := 144) rfl dX10_setFoot_144 (by decide) (by decide) rfl
        · rw [if_pos c31] at h
          refine j_aload_n (pc := 131) dX10_setFoot_131 rfl ?_
          obtain ⟨x32, e33, h⟩ := obS h
          refine j_getR (pc := 132) dX10_setFoot_132 (ci := 10) (kf := 2) rfl (jwi hw_X10) (by decide) (jwm lw_103) e33 ?_
          obtain ⟨x34, e35, h⟩ := obS h
          refine j_getR (pc := 135) dX10_setFoot_135 (ci := 9) (kf := 3) rfl (jwi hw_X9) (by decide) (jwm lw_265) e35 ?_
          refine j_iload_n (pc := 138) dX10_setFoot_138 rfl ?_
          refine j_iload (pc := 139) dX10_setFoot_139 rfl ?_
          obtain ⟨w36, e37, h⟩ := obS h
          have ge37 := calSV_of e37
          refine j_callV_g (pc := 141) (As := [.int i1, .int x10]) (k' := 0) (n' := 0) dX10_setFoot_141 (s_X8_put ge37.1) (jgV lw_158 lw_159 lw_160 lw_12 lw_157) rfl hv_X8_put rfl (r_X8_put ge37.1) rfl (by decide) (by decide) (Nat.le_of_ble_eq_true rfl) (by decide) (by decide) (by decide) (by decide) (Or.inl ge37.2) ?_
          cases h
          exact j_vret (pc := 144) rfl dX10_setFoot_144 (by decide) (by decide) rfl
    · rw [if_pos c11] at h
      refine j_aload_n (pc := 74) dX10_setFoot_74 rfl ?_
      obtain ⟨x38, e39, h⟩ := obS h
      refine j_getR (pc := 75) dX10_setFoot_75 (ci := 10) (kf := 2) rfl (jwi hw_X10) (by decide) (jwm lw_103) e39 ?_
      obtain ⟨x40, e41, h⟩ := obS h
      refine j_getR (pc := 78) dX10_setFoot_78 (ci := 9) (kf := 3) rfl (jwi hw_X9) (by decide) (jwm lw_265) e41 ?_
      refine j_iload_n (pc := 81) dX10_setFoot_81 rfl ?_
      refine j_iload_n (pc := 82) dX10_setFoot_82 rfl ?_
      obtain ⟨w42, e43, h⟩ := obS h
      have ge43 := calSV_of e43
      refine j_callV_g (pc := 83) (As := [.int i1, .int i2]) (k' := 0) (n' := 0) dX10_setFoot_83 (s_X8_put ge43.1) (jgV lw_158 lw_159 lw_160 lw_12 lw_157) rfl hv_X8_put rfl (r_X8_put ge43.1) rfl (by decide) (by decide) (Nat.le_of_ble_eq_true rfl) (by decide) (by decide) (by decide) (by decide) (Or.inl ge43.2) ?_
      cases h
      exact j_vret (pc := 86) rfl dX10_setFoot_86 (by decide) (by decide) rfl
  · rw [if_neg c5] at h
    refine j_aload_n (pc := 48) dX10_setFoot_48 rfl ?_
    obtain ⟨x44, e45, h⟩ := obS h
    refine j_getR (pc := 49) dX10_setFoot_49 (ci := 10) (kf := 5) rfl (jwi hw_X10) (by decide) (jwm lw_116) e45 ?_
    refine j_iconst (pc := 52) dX10_setFoot_52 (v := 1) (by decide) ?_
    refine j_iload_n (pc := 53) dX10_setFoot_53 rfl ?_
    obtain ⟨w46, e47, h⟩ := obS h
    have ge47 := calSV_of e47
    refine j_callV_g (pc := 54) (As := [.int 1, .int i2]) (k' := 0) (n' := 0) dX10_setFoot_54 (s_X0_tell ge47.1) (jgV lw_271 lw_272 lw_273 lw_113 lw_270) rfl hv_X0_tell rfl (r_X0_tell ge47.1) rfl (by decide) (by decide) (Nat.le_of_ble_eq_true rfl) (by decide) (by decide) (by decide) (by decide) (Or.inl ge47.2) ?_
    cases h
    exact j_vret (pc := 57) rfl dX10_setFoot_57 (by decide) (by decide) rfl
def m_X10_setFoot (a0 : Nat) (i1 : Int32) (i2 : Int32) (ws : LWd) : Option LWd :=
  (rcv ws a0 10).bind fun _ =>
  (fR ws a0 10 0).bind fun x1 =>
  (fR ws x1 5 0).bind fun x3 =>
  bn2 (calSR ws (m_X8_at x3 i2 ws)) fun x7 w5 =>
  (fR w5 a0 10 0).bind fun x8 =>
  (fR w5 x8 5 3).bind fun x10 =>
  bn2 (calSR w5 (m_X8_at x10 i2 w5)) fun x14 w12 =>
  if (jabs (x7 - x14)) < 2 then
    m_X10_setFoot_b35 a0 i1 i2 0 w12
  else
    m_X10_setFoot_b35 a0 i1 i2 1 w12
set_option maxRecDepth 100000 in
set_option maxHeartbeats 4000000 in
theorem s_X10_setFoot {a0 : Nat} {i1 : Int32} {i2 : Int32} {ws : LWd} {ws' : LWd} (h : m_X10_setFoot a0 i1 i2 ws = some ws') : jSp yX10_setFoot wsX10_setFoot 3 0 0 [.ref a0, .int i1, .int i2] ws (.inl none, ws') := by
  unfold m_X10_setFoot at h
  refine j_entry (ret := none) (nm := "setFoot") (own := RX10) pl_X10 rfl rfl rfl (jcats (by rfl)) (Nat.le_of_ble_eq_true rfl) ?_
  show JG (.inl false) cX10_setFoot 5 RX10 wsX10_setFoot none "setFoot" 3 0 0 ws.length (.inl none, ws') 0 [some (.ref a0), some (.int i1), some (.int i2), none, none] [] ws 0 0
  obtain ⟨_, _, h⟩ := obS h
  refine j_aload_n (pc := 0) dX10_setFoot_0 rfl ?_
  obtain ⟨x1, e2, h⟩ := obS h
  refine j_getR (pc := 1) dX10_setFoot_1 (ci := 10) (kf := 0) rfl (jwi hw_X10) (by decide) (jwm lw_94) e2 ?_
  obtain ⟨x3, e4, h⟩ := obS h
  refine j_getR (pc := 4) dX10_setFoot_4 (ci := 5) (kf := 0) rfl (jwi hw_X5) (by decide) (jwm lw_155) e4 ?_
  refine j_iload_n (pc := 7) dX10_setFoot_7 rfl ?_
  obtain ⟨x7, w5, e6, h⟩ := obS2 h
  have ge6 := calSR_of e6
  refine j_callV_g (pc := 8) (As := [.int i2]) (k' := 0) (n' := 0) dX10_setFoot_8 (s_X8_at ge6.1) (jgV lw_156 lw_140 lw_141 lw_12 lw_138) rfl hv_X8_at rfl (r_X8_at ge6.1) rfl (by decide) (by decide) (Nat.le_of_ble_eq_true rfl) (by decide) (by decide) (by decide) (by decide) (Or.inl ge6.2) ?_
  refine j_aload_n (pc := 11) dX10_setFoot_11 rfl ?_
  obtain ⟨x8, e9, h⟩ := obS h
  refine j_getR (pc := 12) dX10_setFoot_12 (ci := 10) (kf := 0) rfl (jwi hw_X10) (by decide) (jwm lw_94) e9 ?_
  obtain ⟨x10, e11, h⟩ := obS h
  refine j_getR (pc := 15) dX10_setFoot_15 (ci := 5) (kf := 3) rfl (jwi hw_X5) (by decide) (jwm lw_165) e11 ?_
  refine j_iload_n (pc := 18) dX10_setFoot_18 rfl ?_
  obtain ⟨x14, w12, e13, h⟩ := obS2 h
  have ge13 := calSR_of e13
  refine j_callV_g (pc := 19) (As := [.int i2]) (k' := 0) (n' := 0) dX10_setFoot_19 (s_X8_at ge13.1) (jgV lw_156 lw_140 lw_141 lw_12 lw_138) rfl hv_X8_at rfl (r_X8_at ge13.1) rfl (by decide) (by decide) (Nat.le_of_ble_eq_true rfl) (by decide) (by decide) (by decide) (by decide) (Or.inl ge13.2) ?_
  refine j_isub (pc := 22) dX10_setFoot_22 ?_
  refine j_mabs (pc := 23) dX10_setFoot_23 (jwm lw_358) (jwm lw_359) (jwm lw_177) (jwm lw_360) (Nat.le_of_ble_eq_true rfl) (Nat.le_of_ble_eq_true rfl) (by decide) (by decide) ?_
  refine j_iconst (pc := 26) dX10_setFoot_26 (v := 2) (by decide) ?_
  refine j_icmp_lt (pc := 27) (tgt := 34) dX10_setFoot_27 (by decide) (fun c15 => ?_) (fun c15 => ?_)
  · rw [if_pos c15] at h
    refine j_iconst (pc := 34) dX10_setFoot_34 (v := 0) (by decide) ?_
    exact jm_X10_setFoot_b35 _ _ _ _ w12 h
  · rw [if_neg c15] at h
    refine j_iconst (pc := 30) dX10_setFoot_30 (v := 1) (by decide) ?_
    refine j_goto (pc := 31) (tgt := 35) dX10_setFoot_31 (by decide) ?_
    exact jm_X10_setFoot_b35 _ _ _ _ w12 h
theorem r_X10_setFoot {a0 : Nat} {i1 : Int32} {i2 : Int32} {ws : LWd} {o : LWd} (h : m_X10_setFoot a0 i1 i2 ws = some o) : ∃ fs, ws[a0]? = some (.inr (10, fs)) := rcv_in h
def wsX10_getUp : List Cond := Cond.code yX10_getUp cX10_getUp 3 (some .boolean) :: jW
def m_X10_getUp_b104 (k50 : Nat → Int32 → LWd → Option (Int32 × LWd)) (a0 : Nat) (i1 : Int32) (ws : LWd) : Option (Int32 × LWd) :=
  k50 a0 (i1 + 1) ws
set_option maxRecDepth 100000 in
set_option maxHeartbeats 4000000 in
theorem jm_X10_getUp_b104 {n0 : Nat} {rr : Int32} {ws' : LWd} {k50 : Nat → Int32 → LWd → Option (Int32 × LWd)} (hk50 : ∀ (a0 : Nat) (i1 : Int32) (ws : LWd), k50 a0 i1 ws = some (rr, ws') → JG (.inl false) cX10_getUp 3 RX10 wsX10_getUp (some .boolean) "getUp" 4 0 0 n0 (.inl (some (.int rr)), ws') 50 [some (.ref a0), some (.int i1), none] [] ws 0 0) (a0 : Nat) (i1 : Int32) (ws : LWd) (h : m_X10_getUp_b104 k50 a0 i1 ws = some (rr, ws')) : JG (.inl false) cX10_getUp 3 RX10 wsX10_getUp (some .boolean) "getUp" 4 0 0 n0 (.inl (some (.int rr)), ws') 104 [some (.ref a0), some (.int i1), none] [] ws 0 0 := by
  unfold m_X10_getUp_b104 at h
  refine j_iinc_1 (pc := 104) dX10_getUp_104 (y := i1 + 1) rfl (by decide) rfl ?_
  refine j_goto (pc := 107) (tgt := 50) dX10_getUp_107 (by decide) ?_
  exact hk50 _ _ ws h
def m_X10_getUp_l50 : Nat → Nat → Int32 → LWd → Option (Int32 × LWd)
  | 0, _, _, _ => none
  | fu + 1, a0, i1, ws =>
    (fR ws a0 10 1).bind fun x1 =>
    (fI ws x1 2 3).bind fun x3 =>
    if x3 ≤ i1 then
      some (1, ws)
    else
      (fR ws a0 10 2).bind fun x6 =>
      bn2 (calSR ws (m_X9_hipX x6 i1 ws)) fun x10 w8 =>
      (fR w8 a0 10 2).bind fun x11 =>
      bn2 (calSR w8 (m_X9_hipY x11 i1 w8)) fun x15 w13 =>
      bn2 (calSR w13 (m_X10_pointAt x10 x15 w13)) fun x18 w16 =>
      if x18 = ((-1)) then
        m_X10_getUp_b104 (fun z0 z1 w => m_X10_getUp_l50 fu z0 z1 w) a0 i1 w16
      else
        (fR w16 a0 10 2).bind fun x20 =>
        bn2 (calSR w16 (m_X9_isTaken x20 x18 ((-1)) w16)) fun x24 w22 =>
        if x24 = 0 then
          (calSV w22 (m_X10_setFoot a0 i1 x18 w22)).bind fun w26 =>
          m_X10_getUp_b104 (fun z0 z1 w => m_X10_getUp_l50 fu z0 z1 w) a0 i1 w26
        else
          m_X10_getUp_b104 (fun z0 z1 w => m_X10_getUp_l50 fu z0 z1 w) a0 i1 w22
set_option maxRecDepth 100000 in
set_option maxHeartbeats 4000000 in
theorem jm_X10_getUp_l50 {n0 : Nat} {rr : Int32} {ws' : LWd} : ∀ (fu : Nat) (a0 : Nat) (i1 : Int32) (ws : LWd), m_X10_getUp_l50 fu a0 i1 ws = some (rr, ws') → JG (.inl false) cX10_getUp 3 RX10 wsX10_getUp (some .boolean) "getUp" 4 0 0 n0 (.inl (some (.int rr)), ws') 50 [some (.ref a0), some (.int i1), none] [] ws 0 0 := by
  intro fu
  induction fu with
  | zero => intro a0 i1 ws h; first | (cases h; done) | (rw [m_X10_getUp_l50] at h; cases h)
  | succ fu ih =>
    intro a0 i1 ws h
    rw [m_X10_getUp_l50] at h
    refine j_iload_n (pc := 50) dX10_getUp_50 rfl ?_
    refine j_aload_n (pc := 51) dX10_getUp_51 rfl ?_
    obtain ⟨x1, e2, h⟩ := obS h
    refine j_getR (pc := 52) dX10_getUp_52 (ci := 10) (kf := 1) rfl (jwi hw_X10) (by decide) (jwm lw_100) e2 ?_
    obtain ⟨x3, e4, h⟩ := obS h
    refine j_getI (pc := 55) dX10_getUp_55 (ci := 2) (kf := 3) rfl (jwi hw_X2) (by decide) (jwm lw_170) e4 ?_
    refine j_icmp_ge (pc := 58) (tgt := 110) dX10_getUp_58 (by decide) (fun c5 => ?_) (fun c5 => ?_)
    · rw [if_pos c5] at h
      refine j_iconst (pc := 110) dX10_getUp_110 (v := 1) (by decide) ?_
      obtain ⟨rfl, rfl⟩ := jretS h
      exact j_zretL (pc := 111) (by decide) rfl dX10_getUp_111 (by decide) (by decide) rfl
    · rw [if_neg c5] at h
      refine j_aload_n (pc := 61) dX10_getUp_61 rfl ?_
      obtain ⟨x6, e7, h⟩ := obS h
      refine j_getR (pc := 62) dX10_getUp_62 (ci := 10) (kf := 2) rfl (jwi hw_X10) (by decide) (jwm lw_103) e7 ?_
      refine j_iload_n (pc := 65) dX10_getUp_65 rfl ?_
      obtain ⟨x10, w8, e9, h⟩ := obS2 h
      have ge9 := calSR_of e9
      refine j_callV_g (pc := 66) (As := [.int i1]) (k' := 0) (n' := 0) dX10_getUp_66 (s_X9_hipX ge9.1) (jgV lw_331 lw_332 lw_333 lw_76 lw_330) rfl hv_X9_hipX rfl (r_X9_hipX ge9.1) rfl (by decide) (by decide) (Nat.le_of_ble_eq_true rfl) (by decide) (by decide) (by decide) (by decide) (Or.inl ge9.2) ?_
      refine j_aload_n (pc := 69) dX10_getUp_69 rfl ?_
      obtain ⟨x11, e12, h⟩ := obS h
      refine j_getR (pc := 70) dX10_getUp_70 (ci := 10) (kf := 2) rfl (jwi hw_X10) (by decide) (jwm lw_103) e12 ?_
      refine j_iload_n (pc := 73) dX10_getUp_73 rfl ?_
      obtain ⟨x15, w13, e14, h⟩ := obS2 h
      have ge14 := calSR_of e14
      refine j_callV_g (pc := 74) (As := [.int i1]) (k' := 0) (n' := 0) dX10_getUp_74 (s_X9_hipY ge14.1) (jgV lw_335 lw_336 lw_337 lw_76 lw_334) rfl hv_X9_hipY rfl (r_X9_hipY ge14.1) rfl (by decide) (by decide) (Nat.le_of_ble_eq_true rfl) (by decide) (by decide) (by decide) (by decide) (Or.inl ge14.2) ?_
      obtain ⟨x18, w16, e17, h⟩ := obS2 h
      have ge17 := calSR_of e17
      refine j_callS_g (pc := 77) (As := [.int x10, .int x15]) (k' := 0) (n' := 0) dX10_getUp_77 (s_X10_pointAt ge17.1) (jgS lw_145 lw_146 lw_147 lw_144) rfl hy_X10_pointAt rfl (by decide) (by decide) (Nat.le_of_ble_eq_true rfl) (by decide) (by decide) (by decide) (by decide) (Or.inl ge17.2) ?_
      refine j_istore_n_2 (pc := 80) dX10_getUp_80 (by decide) rfl ?_
      refine j_iload_n (pc := 81) dX10_getUp_81 rfl ?_
      refine j_iconst (pc := 82) dX10_getUp_82 (v := (-1)) (by decide) ?_
      refine j_icmp_eq (pc := 83) (tgt := 104) dX10_getUp_83 (by decide) (fun c19 => ?_) (fun c19 => ?_)
      · rw [if_pos c19] at h
        refine j_mask [true, true, false] ?_
        exact jm_X10_getUp_b104 (hk50 := ih) _ _ w16 h
      · rw [if_neg c19] at h
        refine j_aload_n (pc := 86) dX10_getUp_86 rfl ?_
        obtain ⟨x20, e21, h⟩ := obS h
        refine j_getR (pc := 87) dX10_getUp_87 (ci := 10) (kf := 2) rfl (jwi hw_X10) (by decide) (jwm lw_103) e21 ?_
        refine j_iload_n (pc := 90) dX10_getUp_90 rfl ?_
        refine j_iconst (pc := 91) dX10_getUp_91 (v := (-1)) (by decide) ?_
        obtain ⟨x24, w22, e23, h⟩ := obS2 h
        have ge23 := calSR_of e23
        refine j_callV_g (pc := 92) (As := [.int x18, .int ((-1))]) (k' := 0) (n' := 0) dX10_getUp_92 (s_X9_isTaken ge23.1) (jgV lw_152 lw_153 lw_154 lw_76 lw_151) rfl hv_X9_isTaken rfl (r_X9_isTaken ge23.1) rfl (by decide) (by decide) (Nat.le_of_ble_eq_true rfl) (by decide) (by decide) (by decide) (by decide) (Or.inl ge23.2) ?_
        refine j_if_ne (pc := 95) (tgt := 104) dX10_getUp_95 (by decide) (fun c25 => ?_) (fun c25 => ?_)
        · rw [if_neg c25] at h
          refine j_mask [true, true, false] ?_
          exact jm_X10_getUp_b104 (hk50 := ih) _ _ w22 h
        · rw [if_pos c25] at h
          refine j_aload_n (pc := 98) dX10_getUp_98 rfl ?_
          refine j_iload_n (pc := 99) dX10_getUp_99 rfl ?_
          refine j_iload_n (pc := 100) dX10_getUp_100 rfl ?_
          obtain ⟨w26, e27, h⟩ := obS h
          have ge27 := calSV_of e27
          refine j_callV_g (pc := 101) (As := [.int i1, .int x18]) (k' := 0) (n' := 0) dX10_getUp_101 (s_X10_setFoot ge27.1) (jgV lw_362 lw_363 lw_364 lw_147 lw_361) rfl hv_X10_setFoot rfl (r_X10_setFoot ge27.1) rfl (by decide) (by decide) (Nat.le_of_ble_eq_true rfl) (by decide) (by decide) (by decide) (by decide) (Or.inl ge27.2) ?_
          refine j_mask [true, true, false] ?_
          exact jm_X10_getUp_b104 (hk50 := ih) _ _ w26 h
def m_X10_getUp (a0 : Nat) (ws : LWd) : Option (Int32 × LWd) :=
  (rcv ws a0 10).bind fun _ =>
  (fI ws a0 10 9).bind fun x1 =>
  if x1 = 0 then
    (fI ws a0 10 10).bind fun x4 =>
    if x4 < 20 then
      some (0, ws)
    else
      bn2 (calSR ws (m_X10_hipsBear a0 ws)) fun x9 w7 =>
      if x9 = 0 then
        some (0, w7)
      else
        (fI w7 a0 10 10).bind fun x11 =>
        (pV w7 a0 10 10 (.int (x11 - 20))).bind fun w13 =>
        (pZ w13 a0 10 9 1).bind fun w15 =>
        (fR w15 a0 10 5).bind fun x17 =>
        (calSV w15 (m_X0_forget x17 w15)).bind fun w19 =>
        m_X10_getUp_l50 FU a0 0 w19
  else
    some (0, ws)
set_option maxRecDepth 100000 in
set_option maxHeartbeats 4000000 in
theorem s_X10_getUp {a0 : Nat} {ws : LWd} {rr : Int32} {ws' : LWd} (h : m_X10_getUp a0 ws = some (rr, ws')) : jSp yX10_getUp wsX10_getUp 4 0 0 [.ref a0] ws (.inl (some (.int rr)), ws') := by
  unfold m_X10_getUp at h
  refine j_entry (ret := (some .boolean)) (nm := "getUp") (own := RX10) pl_X10 rfl rfl rfl (jcats (by rfl)) (Nat.le_of_ble_eq_true rfl) ?_
  show JG (.inl false) cX10_getUp 3 RX10 wsX10_getUp (some .boolean) "getUp" 4 0 0 ws.length (.inl (some (.int rr)), ws') 0 [some (.ref a0), none, none] [] ws 0 0
  obtain ⟨_, _, h⟩ := obS h
  refine j_aload_n (pc := 0) dX10_getUp_0 rfl ?_
  obtain ⟨x1, e2, h⟩ := obS h
  refine j_getI (pc := 1) dX10_getUp_1 (ci := 10) (kf := 9) rfl (jwi hw_X10) (by decide) (jwm lw_136) e2 ?_
  refine j_if_ne (pc := 4) (tgt := 23) dX10_getUp_4 (by decide) (fun c3 => ?_) (fun c3 => ?_)
  · rw [if_neg c3] at h
    refine j_iconst (pc := 23) dX10_getUp_23 (v := 0) (by decide) ?_
    obtain ⟨rfl, rfl⟩ := jretS h
    exact j_zretL (pc := 24) (by decide) rfl dX10_getUp_24 (by decide) (by decide) rfl
  · rw [if_pos c3] at h
    refine j_aload_n (pc := 7) dX10_getUp_7 rfl ?_
    obtain ⟨x4, e5, h⟩ := obS h
    refine j_getI (pc := 8) dX10_getUp_8 (ci := 10) (kf := 10) rfl (jwi hw_X10) (by decide) (jwm lw_137) e5 ?_
    refine j_bipush (pc := 11) dX10_getUp_11 (v := 20) (by decide) ?_
    refine j_icmp_lt (pc := 13) (tgt := 23) dX10_getUp_13 (by decide) (fun c6 => ?_) (fun c6 => ?_)
    · rw [if_pos c6] at h
      refine j_iconst (pc := 23) dX10_getUp_23 (v := 0) (by decide) ?_
      obtain ⟨rfl, rfl⟩ := jretS h
      exact j_zretL (pc := 24) (by decide) rfl dX10_getUp_24 (by decide) (by decide) rfl
    · rw [if_neg c6] at h
      refine j_aload_n (pc := 16) dX10_getUp_16 rfl ?_
      obtain ⟨x9, w7, e8, h⟩ := obS2 h
      have ge8 := calSR_of e8
      refine j_callV_g (pc := 17) (As := []) (k' := 0) (n' := 0) dX10_getUp_17 (s_X10_hipsBear ge8.1) (jgV lw_366 lw_367 lw_368 lw_147 lw_365) rfl hv_X10_hipsBear rfl (r_X10_hipsBear ge8.1) rfl (by decide) (by decide) (Nat.le_of_ble_eq_true rfl) (by decide) (by decide) (by decide) (by decide) (Or.inl ge8.2) ?_
      refine j_if_ne (pc := 20) (tgt := 25) dX10_getUp_20 (by decide) (fun c10 => ?_) (fun c10 => ?_)
      · rw [if_neg c10] at h
        refine j_aload_n (pc := 25) dX10_getUp_25 rfl ?_
        refine j_dup (pc := 26) dX10_getUp_26 rfl ?_
        obtain ⟨x11, e12, h⟩ := obS h
        refine j_getI (pc := 27) dX10_getUp_27 (ci := 10) (kf := 10) rfl (jwi hw_X10) (by decide) (jwm lw_137) e12 ?_
        refine j_bipush (pc := 30) dX10_getUp_30 (v := 20) (by decide) ?_
        refine j_isub (pc := 32) dX10_getUp_32 ?_
        obtain ⟨w13, e14, h⟩ := obS h
        refine j_putV (pc := 33) (ci := 10) (kf := 10) tyX10 tyX10_ok nmX10 dX10_getUp_33 rfl (jwi hw_X10) (by decide) (jwm lw_137) rfl (fun _ => rfl) (fun _ => rfl) e14 ?_
        refine j_aload_n (pc := 36) dX10_getUp_36 rfl ?_
        refine j_iconst (pc := 37) dX10_getUp_37 (v := 1) (by decide) ?_
        obtain ⟨w15, e16, h⟩ := obS h
        refine j_putV (pc := 38) (ci := 10) (kf := 9) tyX10 tyX10_ok nmX10 dX10_getUp_38 rfl (jwi hw_X10) (by decide) (jwm lw_136) rfl (pZ_n e16).2.1 (pZ_n e16).2.2 (pZ_n e16).1 ?_
        refine j_aload_n (pc := 41) dX10_getUp_41 rfl ?_
        obtain ⟨x17, e18, h⟩ := obS h
        refine j_getR (pc := 42) dX10_getUp_42 (ci := 10) (kf := 5) rfl (jwi hw_X10) (by decide) (jwm lw_116) e18 ?_
        obtain ⟨w19, e20, h⟩ := obS h
        have ge20 := calSV_of e20
        refine j_callV_g (pc := 45) (As := []) (k' := 0) (n' := 0) dX10_getUp_45 (s_X0_forget ge20.1) (jgV lw_370 lw_371 lw_372 lw_113 lw_369) rfl hv_X0_forget rfl (r_X0_forget ge20.1) rfl (by decide) (by decide) (Nat.le_of_ble_eq_true rfl) (by decide) (by decide) (by decide) (by decide) (Or.inl ge20.2) ?_
        refine j_iconst (pc := 48) dX10_getUp_48 (v := 0) (by decide) ?_
        refine j_istore_n_1 (pc := 49) dX10_getUp_49 (by decide) rfl ?_
        exact jm_X10_getUp_l50 FU _ _ w19 h
      · rw [if_pos c10] at h
        refine j_iconst (pc := 23) dX10_getUp_23 (v := 0) (by decide) ?_
        obtain ⟨rfl, rfl⟩ := jretS h
        exact j_zretL (pc := 24) (by decide) rfl dX10_getUp_24 (by decide) (by decide) rfl
theorem r_X10_getUp {a0 : Nat} {ws : LWd} {o : (Int32 × LWd)} (h : m_X10_getUp a0 ws = some o) : ∃ fs, ws[a0]? = some (.inr (10, fs)) := rcv_in h
def wsX10_rise : List Cond := Cond.code yX10_rise cX10_rise 1 (some .int) :: jW
def m_X10_rise (a0 : Nat) (ws : LWd) : Option ((Int32 ⊕ String) × LWd) :=
  (rcv ws a0 10).bind fun _ =>
  bn2 (calSR ws (m_X10_getUp a0 ws)) fun x3 w1 =>
  if x3 = 0 then
    some (.inr "java/lang/IllegalStateException", w1)
  else
    bn2 (calSR w1 (m_X10_settled a0 w1)) fun x7 w5 =>
    (fR w5 a0 10 2).bind fun x8 =>
    bn2 (calSR w5 (m_X9_down x8 w5)) fun x12 w10 =>
    some (.inl x12, w10)
set_option maxRecDepth 100000 in
set_option maxHeartbeats 4000000 in
theorem s_X10_rise {a0 : Nat} {ws : LWd} {rr : Int32 ⊕ String} {ws' : LWd} (h : m_X10_rise a0 ws = some (rr, ws')) : jSX yX10_rise wsX10_rise 6 1 6 [.ref a0] ws (jthr rr, ws') := by
  unfold m_X10_rise at h
  refine j_entryX (ret := (some .int)) (nm := "rise") (own := RX10) pl_X10 rfl rfl rfl (jcats (by rfl)) (Nat.le_of_ble_eq_true rfl) ?_
  show JG (.inl true) cX10_rise 1 RX10 wsX10_rise (some .int) "rise" 6 1 6 ws.length (jthr rr, ws') 0 [some (.ref a0)] [] ws 0 0
  obtain ⟨_, _, h⟩ := obS h
  refine j_aload_n (pc := 0) dX10_rise_0 rfl ?_
  obtain ⟨x3, w1, e2, h⟩ := obS2 h
  have ge2 := calSR_of e2
  have le2 := ge2.2
  refine j_callV_g (pc := 1) (As := []) (k' := 0) (n' := 0) dX10_rise_1 (s_X10_getUp ge2.1) (jgV lw_374 lw_375 lw_376 lw_147 lw_373) rfl hv_X10_getUp rfl (r_X10_getUp ge2.1) rfl (by decide) (by decide) (Nat.le_of_ble_eq_true rfl) (by decide) (by decide) (by decide) (by decide) (Or.inl ge2.2) ?_
  refine j_if_ne (pc := 4) (tgt := 17) dX10_rise_4 (by decide) (fun c4 => ?_) (fun c4 => ?_)
  · rw [if_neg c4] at h
    refine j_aload_n (pc := 17) dX10_rise_17 rfl ?_
    obtain ⟨x7, w5, e6, h⟩ := obS2 h
    have ge6 := calSR_of e6
    have le6 := ge6.2
    refine j_callV_g (pc := 18) (As := []) (k' := 0) (n' := 0) dX10_rise_18 (s_X10_settled ge6.1) (jgV lw_320 lw_321 lw_322 lw_147 lw_319) rfl hv_X10_settled rfl (r_X10_settled ge6.1) rfl (by decide) (by decide) (Nat.le_of_ble_eq_true rfl) (by decide) (by decide) (by decide) (by decide) (Or.inl ge6.2) ?_
    refine j_pop (pc := 21) dX10_rise_21 rfl ?_
    refine j_aload_n (pc := 22) dX10_rise_22 rfl ?_
    obtain ⟨x8, e9, h⟩ := obS h
    refine j_getR (pc := 23) dX10_rise_23 (ci := 10) (kf := 2) rfl (jwi hw_X10) (by decide) (jwm lw_103) e9 ?_
    obtain ⟨x12, w10, e11, h⟩ := obS2 h
    have ge11 := calSR_of e11
    have le11 := ge11.2
    refine j_callV_g (pc := 26) (As := []) (k' := 0) (n' := 0) dX10_rise_26 (s_X9_down ge11.1) (jgV lw_377 lw_249 lw_250 lw_76 lw_247) rfl hv_X9_down rfl (r_X9_down ge11.1) rfl (by decide) (by decide) (Nat.le_of_ble_eq_true rfl) (by decide) (by decide) (by decide) (by decide) (Or.inl ge11.2) ?_
    obtain ⟨rfl, rfl⟩ := jretS h
    exact j_iret (pc := 29) rfl dX10_rise_29 (by decide) (by decide) rfl
  · rw [if_pos c4] at h
    obtain ⟨rfl, rfl⟩ := jretS h
    exact j_throw (pc := 7) (text := "refused") rfl rfl dX10_rise_7 dX10_rise_10 dX10_rise_11 dX10_rise_13 dX10_rise_16 (List.mem_of_getElem? (i := 10) rfl) (List.mem_of_getElem? (i := 1) rfl) (jfit _ (List.mem_of_getElem? (i := 1) rfl)) (jwm lw_163) (jwm lw_164) (jwi hwx_104) jgo_104 (by decide) (Nat.le_of_ble_eq_true rfl) (by decide) (by decide) (by omega) rfl
theorem r_X10_rise {a0 : Nat} {ws : LWd} {o : ((Int32 ⊕ String) × LWd)} (h : m_X10_rise a0 ws = some o) : ∃ fs, ws[a0]? = some (.inr (10, fs)) := rcv_in h
