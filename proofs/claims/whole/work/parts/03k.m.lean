/-! methods: written by wip/whole/make.py -/
theorem hin_X11_rise_X11 : ∀ w ∈ u_ws RX11 TX11 31, w ∈ wsX11_rise := fun w h => List.mem_cons_of_mem _ (List.mem_append_right _ h)
theorem lk_X11_rise_0 : Cond.fieldLink RX11 63 "GaitwrightModel" "legs" "I" ∈ wsX11_rise := List.mem_cons_of_mem _ (List.mem_append_left _ (List.mem_append_left _ (List.mem_of_getElem? (i := 5) rfl)))
theorem lk_X11_rise_1 : Cond.fieldLink RX11 66 "GaitwrightModel" "down" "I" ∈ wsX11_rise := List.mem_cons_of_mem _ (List.mem_append_left _ (List.mem_append_left _ (List.mem_of_getElem? (i := 10) rfl)))
theorem lk_X11_rise_2 : Cond.fieldLink RX11 22 "GaitwrightModel" "bodyX" "I" ∈ wsX11_rise := List.mem_cons_of_mem _ (List.mem_append_left _ (List.mem_append_left _ (List.mem_of_getElem? (i := 6) rfl)))
theorem lk_X11_rise_3 : Cond.fieldLink RX11 32 "GaitwrightModel" "hipX" "[I" ∈ wsX11_rise := List.mem_cons_of_mem _ (List.mem_append_left _ (List.mem_append_left _ (List.mem_of_getElem? (i := 7) rfl)))
theorem lk_X11_rise_4 : Cond.fieldLink RX11 26 "GaitwrightModel" "bodyY" "I" ∈ wsX11_rise := List.mem_cons_of_mem _ (List.mem_append_left _ (List.mem_append_left _ (List.mem_of_getElem? (i := 8) rfl)))
theorem lk_X11_rise_5 : Cond.fieldLink RX11 35 "GaitwrightModel" "hipY" "[I" ∈ wsX11_rise := List.mem_cons_of_mem _ (List.mem_append_left _ (List.mem_append_left _ (List.mem_of_getElem? (i := 9) rfl)))
theorem lk_X11_rise_6 : Cond.fieldLink RX11 29 "GaitwrightModel" "energy" "I" ∈ wsX11_rise := List.mem_cons_of_mem _ (List.mem_append_left _ (List.mem_append_left _ (List.mem_of_getElem? (i := 0) rfl)))
theorem lk_X11_rise_7 : Cond.fieldLink RX11 84 "GaitwrightModel" "stands" "Z" ∈ wsX11_rise := List.mem_cons_of_mem _ (List.mem_append_left _ (List.mem_append_left _ (List.mem_of_getElem? (i := 1) rfl)))
theorem lk_X11_rise_8 : Cond.fieldLink RX11 140 "GaitwrightModel" "broken" "I" ∈ wsX11_rise := List.mem_cons_of_mem _ (List.mem_append_left _ (List.mem_append_left _ (List.mem_of_getElem? (i := 2) rfl)))
theorem lk_X11_rise_9 : Cond.fieldLink RX11 143 "GaitwrightModel" "firstWhat" "I" ∈ wsX11_rise := List.mem_cons_of_mem _ (List.mem_append_left _ (List.mem_append_left _ (List.mem_of_getElem? (i := 3) rfl)))
theorem lk_X11_rise_10 : Cond.fieldLink RX11 152 "GaitwrightModel" "ofAct" "I" ∈ wsX11_rise := List.mem_cons_of_mem _ (List.mem_append_left _ (List.mem_append_left _ (List.mem_of_getElem? (i := 4) rfl)))
def m_X11_rise_b103 (k54 : Nat → Int32 → LWd → Option (Int32 × LWd)) (a0 : Nat) (i1 : Int32) (ws : LWd) : Option (Int32 × LWd) :=
  k54 a0 (i1 + 1) ws
set_option maxRecDepth 100000 in
set_option maxHeartbeats 4000000 in
theorem jm_X11_rise_b103 {n0 : Nat} {rr : Int32} {ws' : LWd} {k54 : Nat → Int32 → LWd → Option (Int32 × LWd)} (hk54 : ∀ (a0 : Nat) (i1 : Int32) (ws : LWd), k54 a0 i1 ws = some (rr, ws') → JG false cX11_rise 4 RX11 wsX11_rise (some .int) "rise" 5 0 0 n0 (.inl (some (.int rr)), ws') 54 [some (.ref a0), some (.int i1), none, none] [] ws 0 0) (a0 : Nat) (i1 : Int32) (ws : LWd) (h : m_X11_rise_b103 k54 a0 i1 ws = some (rr, ws')) : JG false cX11_rise 4 RX11 wsX11_rise (some .int) "rise" 5 0 0 n0 (.inl (some (.int rr)), ws') 103 [some (.ref a0), some (.int i1), none, none] [] ws 0 0 := by
  unfold m_X11_rise_b103 at h
  refine j_iinc_1 (pc := 103) dX11_rise_103 (y := i1 + 1) rfl (by decide) rfl ?_
  refine j_goto (pc := 106) (tgt := 54) dX11_rise_106 (by decide) ?_
  exact hk54 _ _ ws h
def m_X11_rise_l54 : Nat → Nat → Int32 → LWd → Option (Int32 × LWd)
  | 0, _, _, _ => none
  | fu + 1, a0, i1, ws =>
    (fI ws a0 11 11).bind fun x1 =>
    if x1 ≤ i1 then
      (calSV ws (m_X11_settles a0 ws)).bind fun w4 =>
      (fI w4 a0 11 17).bind fun x6 =>
      bn2 (calSR w4 (m_X11_count x6 w4)) fun x10 w8 =>
      some (x10, w8)
    else
      (fI ws a0 11 5).bind fun x11 =>
      (fR ws a0 11 12).bind fun x13 =>
      (aI ws x13 i1).bind fun x15 =>
      (fI ws a0 11 6).bind fun x17 =>
      (fR ws a0 11 13).bind fun x19 =>
      (aI ws x19 i1).bind fun x21 =>
      bn2 (calSR ws (m_X11_footAt a0 (x11 + x15) (x17 + x21) ws)) fun x25 w23 =>
      if x25 = ((-1)) then
        (calSV w23 (m_X11_sets a0 i1 (x11 + x15) (x17 + x21) w23)).bind fun w27 =>
        m_X11_rise_b103 (fun z0 z1 w => m_X11_rise_l54 fu z0 z1 w) a0 i1 w27
      else
        m_X11_rise_b103 (fun z0 z1 w => m_X11_rise_l54 fu z0 z1 w) a0 i1 w23
set_option maxRecDepth 100000 in
set_option maxHeartbeats 4000000 in
theorem jm_X11_rise_l54 {n0 : Nat} {rr : Int32} {ws' : LWd} : ∀ (fu : Nat) (a0 : Nat) (i1 : Int32) (ws : LWd), m_X11_rise_l54 fu a0 i1 ws = some (rr, ws') → JG false cX11_rise 4 RX11 wsX11_rise (some .int) "rise" 5 0 0 n0 (.inl (some (.int rr)), ws') 54 [some (.ref a0), some (.int i1), none, none] [] ws 0 0 := by
  intro fu
  induction fu with
  | zero => intro a0 i1 ws h; cases h
  | succ fu ih =>
    intro a0 i1 ws h
    rw [m_X11_rise_l54] at h
    refine j_iload_n (pc := 54) dX11_rise_54 rfl ?_
    refine j_aload_n (pc := 55) dX11_rise_55 rfl ?_
    obtain ⟨x1, e2, h⟩ := obS h
    refine j_getI (pc := 56) dX11_rise_56 (ci := 11) (kf := 11) rfl hin_X11_rise_X11 (by decide) lk_X11_rise_0 e2 ?_
    refine j_icmp_ge (pc := 59) (tgt := 109) dX11_rise_59 (by decide) (fun c3 => ?_) (fun c3 => ?_)
    · rw [if_pos c3] at h
      refine j_aload_n (pc := 109) dX11_rise_109 rfl ?_
      obtain ⟨w4, e5, h⟩ := obS h
      have ge5 := calSV_of e5
      refine j_callV_g (pc := 110) (As := []) (k' := 0) (n' := 0) dX11_rise_110 (s_X11_settles ge5.1) gX11_rise_X11_settles rfl hv_X11_settles rfl (r_X11_settles ge5.1) rfl (by decide) (by decide) (by decide) (by decide) (by decide) (by decide) (by decide) (Or.inl ge5.2) ?_
      refine j_aload_n (pc := 113) dX11_rise_113 rfl ?_
      obtain ⟨x6, e7, h⟩ := obS h
      refine j_getI (pc := 114) dX11_rise_114 (ci := 11) (kf := 17) rfl hin_X11_rise_X11 (by decide) lk_X11_rise_1 e7 ?_
      obtain ⟨x10, w8, e9, h⟩ := obS2 h
      have ge9 := calSR_of e9
      refine j_callS_g (pc := 117) (As := [.int x6]) (k' := 0) (n' := 0) dX11_rise_117 (s_X11_count ge9.1) gX11_rise_X11_count rfl hy_X11_count rfl (by decide) (by decide) (by decide) (by decide) (by decide) (by decide) (by decide) (Or.inl ge9.2) ?_
      obtain ⟨rfl, rfl⟩ := jretS h
      exact j_iret (pc := 120) rfl dX11_rise_120 (by decide) (by decide) rfl
    · rw [if_neg c3] at h
      refine j_aload_n (pc := 62) dX11_rise_62 rfl ?_
      obtain ⟨x11, e12, h⟩ := obS h
      refine j_getI (pc := 63) dX11_rise_63 (ci := 11) (kf := 5) rfl hin_X11_rise_X11 (by decide) lk_X11_rise_2 e12 ?_
      refine j_aload_n (pc := 66) dX11_rise_66 rfl ?_
      obtain ⟨x13, e14, h⟩ := obS h
      refine j_getR (pc := 67) dX11_rise_67 (ci := 11) (kf := 12) rfl hin_X11_rise_X11 (by decide) lk_X11_rise_3 e14 ?_
      refine j_iload_n (pc := 70) dX11_rise_70 rfl ?_
      obtain ⟨x15, e16, h⟩ := obS h
      refine j_iald (pc := 71) dX11_rise_71 e16 ?_
      refine j_iadd (pc := 72) dX11_rise_72 ?_
      refine j_istore_n_2 (pc := 73) dX11_rise_73 (by decide) rfl ?_
      refine j_aload_n (pc := 74) dX11_rise_74 rfl ?_
      obtain ⟨x17, e18, h⟩ := obS h
      refine j_getI (pc := 75) dX11_rise_75 (ci := 11) (kf := 6) rfl hin_X11_rise_X11 (by decide) lk_X11_rise_4 e18 ?_
      refine j_aload_n (pc := 78) dX11_rise_78 rfl ?_
      obtain ⟨x19, e20, h⟩ := obS h
      refine j_getR (pc := 79) dX11_rise_79 (ci := 11) (kf := 13) rfl hin_X11_rise_X11 (by decide) lk_X11_rise_5 e20 ?_
      refine j_iload_n (pc := 82) dX11_rise_82 rfl ?_
      obtain ⟨x21, e22, h⟩ := obS h
      refine j_iald (pc := 83) dX11_rise_83 e22 ?_
      refine j_iadd (pc := 84) dX11_rise_84 ?_
      refine j_istore_n_3 (pc := 85) dX11_rise_85 (by decide) rfl ?_
      refine j_aload_n (pc := 86) dX11_rise_86 rfl ?_
      refine j_iload_n (pc := 87) dX11_rise_87 rfl ?_
      refine j_iload_n (pc := 88) dX11_rise_88 rfl ?_
      obtain ⟨x25, w23, e24, h⟩ := obS2 h
      have ge24 := calSR_of e24
      refine j_callV_g (pc := 89) (As := [.int (x11 + x15), .int (x17 + x21)]) (k' := 0) (n' := 0) dX11_rise_89 (s_X11_footAt ge24.1) gX11_rise_X11_footAt rfl hv_X11_footAt rfl (r_X11_footAt ge24.1) rfl (by decide) (by decide) (by decide) (by decide) (by decide) (by decide) (by decide) (Or.inl ge24.2) ?_
      refine j_iconst (pc := 92) dX11_rise_92 (v := (-1)) (by decide) ?_
      refine j_icmp_ne (pc := 93) (tgt := 103) dX11_rise_93 (by decide) (fun c26 => ?_) (fun c26 => ?_)
      · rw [if_neg c26] at h
        refine j_mask [true, true, false, false] ?_
        exact jm_X11_rise_b103 (hk54 := ih) _ _ w23 h
      · rw [if_pos c26] at h
        refine j_aload_n (pc := 96) dX11_rise_96 rfl ?_
        refine j_iload_n (pc := 97) dX11_rise_97 rfl ?_
        refine j_iload_n (pc := 98) dX11_rise_98 rfl ?_
        refine j_iload_n (pc := 99) dX11_rise_99 rfl ?_
        obtain ⟨w27, e28, h⟩ := obS h
        have ge28 := calSV_of e28
        refine j_callV_g (pc := 100) (As := [.int i1, .int (x11 + x15), .int (x17 + x21)]) (k' := 0) (n' := 0) dX11_rise_100 (s_X11_sets ge28.1) gX11_rise_X11_sets rfl hv_X11_sets rfl (r_X11_sets ge28.1) rfl (by decide) (by decide) (by decide) (by decide) (by decide) (by decide) (by decide) (Or.inl ge28.2) ?_
        refine j_mask [true, true, false, false] ?_
        exact jm_X11_rise_b103 (hk54 := ih) _ _ w27 h
def m_X11_rise_b13 (a0 : Nat) (s0 : Nat) (s1 : Int32) (ws : LWd) : Option (Int32 × LWd) :=
  bn2 (calSR ws (m_X11_fails s0 s1 ws)) fun x3 w1 =>
  if x3 = 0 then
    (fI w1 a0 11 7).bind fun x5 =>
    (pV w1 a0 11 7 (.int (x5 - 20))).bind fun w7 =>
    (pZ w7 a0 11 4 1).bind fun w9 =>
    (pV w9 a0 11 18 (.int 0)).bind fun w11 =>
    (pV w11 a0 11 19 (.int 0)).bind fun w13 =>
    (pV w13 a0 11 22 (.int 0)).bind fun w15 =>
    m_X11_rise_l54 FU a0 0 w15
  else
    some (0, w1)
set_option maxRecDepth 100000 in
set_option maxHeartbeats 4000000 in
theorem jm_X11_rise_b13 {n0 : Nat} {rr : Int32} {ws' : LWd} (a0 : Nat) (s0 : Nat) (s1 : Int32) (ws : LWd) (h : m_X11_rise_b13 a0 s0 s1 ws = some (rr, ws')) : JG false cX11_rise 4 RX11 wsX11_rise (some .int) "rise" 5 0 0 n0 (.inl (some (.int rr)), ws') 13 [some (.ref a0), none, none, none] [.int s1, .ref s0] ws 0 0 := by
  unfold m_X11_rise_b13 at h
  obtain ⟨x3, w1, e2, h⟩ := obS2 h
  have ge2 := calSR_of e2
  refine j_callV_g (pc := 13) (As := [.int s1]) (k' := 0) (n' := 0) dX11_rise_13 (s_X11_fails ge2.1) gX11_rise_X11_fails rfl hv_X11_fails rfl (r_X11_fails ge2.1) rfl (by decide) (by decide) (by decide) (by decide) (by decide) (by decide) (by decide) (Or.inl ge2.2) ?_
  refine j_if_eq (pc := 16) (tgt := 21) dX11_rise_16 (by decide) (fun c4 => ?_) (fun c4 => ?_)
  · rw [if_pos c4] at h
    refine j_aload_n (pc := 21) dX11_rise_21 rfl ?_
    refine j_dup (pc := 22) dX11_rise_22 rfl ?_
    obtain ⟨x5, e6, h⟩ := obS h
    refine j_getI (pc := 23) dX11_rise_23 (ci := 11) (kf := 7) rfl hin_X11_rise_X11 (by decide) lk_X11_rise_6 e6 ?_
    refine j_bipush (pc := 26) dX11_rise_26 (v := 20) (by decide) ?_
    refine j_isub (pc := 28) dX11_rise_28 ?_
    obtain ⟨w7, e8, h⟩ := obS h
    refine j_putV (pc := 29) (ci := 11) (kf := 7) tyX11 tyX11_ok nmX11 dX11_rise_29 rfl hin_X11_rise_X11 (by decide) lk_X11_rise_6 rfl (fun _ => rfl) (fun _ => rfl) e8 ?_
    refine j_aload_n (pc := 32) dX11_rise_32 rfl ?_
    refine j_iconst (pc := 33) dX11_rise_33 (v := 1) (by decide) ?_
    obtain ⟨w9, e10, h⟩ := obS h
    refine j_putV (pc := 34) (ci := 11) (kf := 4) tyX11 tyX11_ok nmX11 dX11_rise_34 rfl hin_X11_rise_X11 (by decide) lk_X11_rise_7 rfl (pZ_n e10).2.1 (pZ_n e10).2.2 (pZ_n e10).1 ?_
    refine j_aload_n (pc := 37) dX11_rise_37 rfl ?_
    refine j_iconst (pc := 38) dX11_rise_38 (v := 0) (by decide) ?_
    obtain ⟨w11, e12, h⟩ := obS h
    refine j_putV (pc := 39) (ci := 11) (kf := 18) tyX11 tyX11_ok nmX11 dX11_rise_39 rfl hin_X11_rise_X11 (by decide) lk_X11_rise_8 rfl (fun _ => rfl) (fun _ => rfl) e12 ?_
    refine j_aload_n (pc := 42) dX11_rise_42 rfl ?_
    refine j_iconst (pc := 43) dX11_rise_43 (v := 0) (by decide) ?_
    obtain ⟨w13, e14, h⟩ := obS h
    refine j_putV (pc := 44) (ci := 11) (kf := 19) tyX11 tyX11_ok nmX11 dX11_rise_44 rfl hin_X11_rise_X11 (by decide) lk_X11_rise_9 rfl (fun _ => rfl) (fun _ => rfl) e14 ?_
    refine j_aload_n (pc := 47) dX11_rise_47 rfl ?_
    refine j_iconst (pc := 48) dX11_rise_48 (v := 0) (by decide) ?_
    obtain ⟨w15, e16, h⟩ := obS h
    refine j_putV (pc := 49) (ci := 11) (kf := 22) tyX11 tyX11_ok nmX11 dX11_rise_49 rfl hin_X11_rise_X11 (by decide) lk_X11_rise_10 rfl (fun _ => rfl) (fun _ => rfl) e16 ?_
    refine j_iconst (pc := 52) dX11_rise_52 (v := 0) (by decide) ?_
    refine j_istore_n_1 (pc := 53) dX11_rise_53 (by decide) rfl ?_
    exact jm_X11_rise_l54 FU _ _ w15 h
  · rw [if_neg c4] at h
    refine j_iconst (pc := 19) dX11_rise_19 (v := 0) (by decide) ?_
    obtain ⟨rfl, rfl⟩ := jretS h
    exact j_iret (pc := 20) rfl dX11_rise_20 (by decide) (by decide) rfl
def m_X11_rise (a0 : Nat) (ws : LWd) : Option (Int32 × LWd) :=
  (rcv ws a0 11).bind fun _ =>
  bn2 (calSR ws (m_X11_canRise a0 ws)) fun x3 w1 =>
  if x3 = 0 then
    m_X11_rise_b13 a0 a0 1 w1
  else
    m_X11_rise_b13 a0 a0 0 w1
set_option maxRecDepth 100000 in
set_option maxHeartbeats 4000000 in
theorem s_X11_rise {a0 : Nat} {ws : LWd} {rr : Int32} {ws' : LWd} (h : m_X11_rise a0 ws = some (rr, ws')) : jSp yX11_rise wsX11_rise 5 0 0 [.ref a0] ws (.inl (some (.int rr)), ws') := by
  unfold m_X11_rise at h
  refine j_entry (ret := (some .int)) (nm := "rise") (own := RX11) pl_X11 rfl rfl rfl (jcats (by rfl)) (by decide) ?_
  show JG false cX11_rise 4 RX11 wsX11_rise (some .int) "rise" 5 0 0 ws.length (.inl (some (.int rr)), ws') 0 [some (.ref a0), none, none, none] [] ws 0 0
  obtain ⟨_, _, h⟩ := obS h
  refine j_aload_n (pc := 0) dX11_rise_0 rfl ?_
  refine j_aload_n (pc := 1) dX11_rise_1 rfl ?_
  obtain ⟨x3, w1, e2, h⟩ := obS2 h
  have ge2 := calSR_of e2
  refine j_callV_g (pc := 2) (As := []) (k' := 0) (n' := 0) dX11_rise_2 (s_X11_canRise ge2.1) gX11_rise_X11_canRise rfl hv_X11_canRise rfl (r_X11_canRise ge2.1) rfl (by decide) (by decide) (by decide) (by decide) (by decide) (by decide) (by decide) (Or.inl ge2.2) ?_
  refine j_if_eq (pc := 5) (tgt := 12) dX11_rise_5 (by decide) (fun c4 => ?_) (fun c4 => ?_)
  · rw [if_pos c4] at h
    refine j_iconst (pc := 12) dX11_rise_12 (v := 1) (by decide) ?_
    exact jm_X11_rise_b13 _ _ _ w1 h
  · rw [if_neg c4] at h
    refine j_iconst (pc := 8) dX11_rise_8 (v := 0) (by decide) ?_
    refine j_goto (pc := 9) (tgt := 13) dX11_rise_9 (by decide) ?_
    exact jm_X11_rise_b13 _ _ _ w1 h
theorem r_X11_rise {a0 : Nat} {ws : LWd} {o : (Int32 × LWd)} (h : m_X11_rise a0 ws = some o) : ∃ fs, ws[a0]? = some (.inr (11, fs)) := rcv_in h
theorem hin_X11_lift_X11 : ∀ w ∈ u_ws RX11 TX11 31, w ∈ wsX11_lift := fun w h => List.mem_cons_of_mem _ (List.mem_append_right _ h)
theorem lk_X11_lift_0 : Cond.fieldLink RX11 152 "GaitwrightModel" "ofAct" "I" ∈ wsX11_lift := List.mem_cons_of_mem _ (List.mem_append_left _ (List.mem_append_left _ (List.mem_of_getElem? (i := 0) rfl)))
def m_X11_lift_b26 (a0 : Nat) (s0 : Nat) (s1 : Int32) (ws : LWd) : Option (Int32 × LWd) :=
  bn2 (calSR ws (m_X11_fails s0 s1 ws)) fun x3 w1 =>
  if x3 = 0 then
    (fI w1 a0 11 22).bind fun x5 =>
    some (x5, w1)
  else
    some (0, w1)
set_option maxRecDepth 100000 in
set_option maxHeartbeats 4000000 in
theorem jm_X11_lift_b26 {n0 : Nat} {rr : Int32} {ws' : LWd} (a0 : Nat) (s0 : Nat) (s1 : Int32) (ws : LWd) (h : m_X11_lift_b26 a0 s0 s1 ws = some (rr, ws')) : JG false cX11_lift 2 RX11 wsX11_lift (some .int) "lift" 6 0 0 n0 (.inl (some (.int rr)), ws') 26 [some (.ref a0), none] [.int s1, .ref s0] ws 0 0 := by
  unfold m_X11_lift_b26 at h
  obtain ⟨x3, w1, e2, h⟩ := obS2 h
  have ge2 := calSR_of e2
  refine j_callV_g (pc := 26) (As := [.int s1]) (k' := 0) (n' := 0) dX11_lift_26 (s_X11_fails ge2.1) gX11_lift_X11_fails rfl hv_X11_fails rfl (r_X11_fails ge2.1) rfl (by decide) (by decide) (by decide) (by decide) (by decide) (by decide) (by decide) (Or.inl ge2.2) ?_
  refine j_if_eq (pc := 29) (tgt := 36) dX11_lift_29 (by decide) (fun c4 => ?_) (fun c4 => ?_)
  · rw [if_pos c4] at h
    refine j_aload_n (pc := 36) dX11_lift_36 rfl ?_
    obtain ⟨x5, e6, h⟩ := obS h
    refine j_getI (pc := 37) dX11_lift_37 (ci := 11) (kf := 22) rfl hin_X11_lift_X11 (by decide) lk_X11_lift_0 e6 ?_
    obtain ⟨rfl, rfl⟩ := jretS h
    exact j_iret (pc := 40) rfl dX11_lift_40 (by decide) (by decide) rfl
  · rw [if_neg c4] at h
    refine j_iconst (pc := 32) dX11_lift_32 (v := 0) (by decide) ?_
    refine j_goto (pc := 33) (tgt := 40) dX11_lift_33 (by decide) ?_
    obtain ⟨rfl, rfl⟩ := jretS h
    exact j_iret (pc := 40) rfl dX11_lift_40 (by decide) (by decide) rfl
def m_X11_lift (a0 : Nat) (i1 : Int32) (ws : LWd) : Option (Int32 × LWd) :=
  (rcv ws a0 11).bind fun _ =>
  bn2 (calSR ws (m_X11_isLeg a0 i1 ws)) fun x3 w1 =>
  if x3 = 0 then
    m_X11_lift_b26 a0 a0 1 w1
  else
    bn2 (calSR w1 (m_X11_lifts a0 i1 w1)) fun x7 w5 =>
    if x7 = 0 then
      m_X11_lift_b26 a0 a0 2 w5
    else
      m_X11_lift_b26 a0 a0 0 w5
set_option maxRecDepth 100000 in
set_option maxHeartbeats 4000000 in
theorem s_X11_lift {a0 : Nat} {i1 : Int32} {ws : LWd} {rr : Int32} {ws' : LWd} (h : m_X11_lift a0 i1 ws = some (rr, ws')) : jSp yX11_lift wsX11_lift 6 0 0 [.ref a0, .int i1] ws (.inl (some (.int rr)), ws') := by
  unfold m_X11_lift at h
  refine j_entry (ret := (some .int)) (nm := "lift") (own := RX11) pl_X11 rfl rfl rfl (jcats (by rfl)) (by decide) ?_
  show JG false cX11_lift 2 RX11 wsX11_lift (some .int) "lift" 6 0 0 ws.length (.inl (some (.int rr)), ws') 0 [some (.ref a0), some (.int i1)] [] ws 0 0
  obtain ⟨_, _, h⟩ := obS h
  refine j_aload_n (pc := 0) dX11_lift_0 rfl ?_
  refine j_aload_n (pc := 1) dX11_lift_1 rfl ?_
  refine j_iload_n (pc := 2) dX11_lift_2 rfl ?_
  obtain ⟨x3, w1, e2, h⟩ := obS2 h
  have ge2 := calSR_of e2
  refine j_callV_g (pc := 3) (As := [.int i1]) (k' := 0) (n' := 0) dX11_lift_3 (s_X11_isLeg ge2.1) gX11_lift_X11_isLeg rfl hv_X11_isLeg rfl (r_X11_isLeg ge2.1) rfl (by decide) (by decide) (by decide) (by decide) (by decide) (by decide) (by decide) (Or.inl ge2.2) ?_
  refine j_if_ne (pc := 6) (tgt := 13) dX11_lift_6 (by decide) (fun c4 => ?_) (fun c4 => ?_)
  · rw [if_neg c4] at h
    refine j_aload_n (pc := 13) dX11_lift_13 rfl ?_
    refine j_iload_n (pc := 14) dX11_lift_14 rfl ?_
    obtain ⟨x7, w5, e6, h⟩ := obS2 h
    have ge6 := calSR_of e6
    refine j_callV_g (pc := 15) (As := [.int i1]) (k' := 0) (n' := 0) dX11_lift_15 (s_X11_lifts ge6.1) gX11_lift_X11_lifts rfl hv_X11_lifts rfl (r_X11_lifts ge6.1) rfl (by decide) (by decide) (by decide) (by decide) (by decide) (by decide) (by decide) (Or.inl ge6.2) ?_
    refine j_if_eq (pc := 18) (tgt := 25) dX11_lift_18 (by decide) (fun c8 => ?_) (fun c8 => ?_)
    · rw [if_pos c8] at h
      refine j_iconst (pc := 25) dX11_lift_25 (v := 2) (by decide) ?_
      refine j_mask [true, false] ?_
      exact jm_X11_lift_b26 _ _ _ w5 h
    · rw [if_neg c8] at h
      refine j_iconst (pc := 21) dX11_lift_21 (v := 0) (by decide) ?_
      refine j_goto (pc := 22) (tgt := 26) dX11_lift_22 (by decide) ?_
      refine j_mask [true, false] ?_
      exact jm_X11_lift_b26 _ _ _ w5 h
  · rw [if_pos c4] at h
    refine j_iconst (pc := 9) dX11_lift_9 (v := 1) (by decide) ?_
    refine j_goto (pc := 10) (tgt := 26) dX11_lift_10 (by decide) ?_
    refine j_mask [true, false] ?_
    exact jm_X11_lift_b26 _ _ _ w1 h
theorem r_X11_lift {a0 : Nat} {i1 : Int32} {ws : LWd} {o : (Int32 × LWd)} (h : m_X11_lift a0 i1 ws = some o) : ∃ fs, ws[a0]? = some (.inr (11, fs)) := rcv_in h
theorem hin_X11_place_X11 : ∀ w ∈ u_ws RX11 TX11 31, w ∈ wsX11_place := fun w h => List.mem_cons_of_mem _ (List.mem_append_right _ h)
theorem lk_X11_place_0 : Cond.fieldLink RX11 152 "GaitwrightModel" "ofAct" "I" ∈ wsX11_place := List.mem_cons_of_mem _ (List.mem_append_left _ (List.mem_append_left _ (List.mem_of_getElem? (i := 0) rfl)))
def m_X11_place_b40 (a0 : Nat) (s0 : Nat) (s1 : Int32) (ws : LWd) : Option (Int32 × LWd) :=
  bn2 (calSR ws (m_X11_fails s0 s1 ws)) fun x3 w1 =>
  if x3 = 0 then
    (fI w1 a0 11 22).bind fun x5 =>
    some (x5, w1)
  else
    some (0, w1)
set_option maxRecDepth 100000 in
set_option maxHeartbeats 4000000 in
theorem jm_X11_place_b40 {n0 : Nat} {rr : Int32} {ws' : LWd} (a0 : Nat) (s0 : Nat) (s1 : Int32) (ws : LWd) (h : m_X11_place_b40 a0 s0 s1 ws = some (rr, ws')) : JG false cX11_place 4 RX11 wsX11_place (some .int) "place" 6 0 0 n0 (.inl (some (.int rr)), ws') 40 [some (.ref a0), none, none, none] [.int s1, .ref s0] ws 0 0 := by
  unfold m_X11_place_b40 at h
  obtain ⟨x3, w1, e2, h⟩ := obS2 h
  have ge2 := calSR_of e2
  refine j_callV_g (pc := 40) (As := [.int s1]) (k' := 0) (n' := 0) dX11_place_40 (s_X11_fails ge2.1) gX11_place_X11_fails rfl hv_X11_fails rfl (r_X11_fails ge2.1) rfl (by decide) (by decide) (by decide) (by decide) (by decide) (by decide) (by decide) (Or.inl ge2.2) ?_
  refine j_if_eq (pc := 43) (tgt := 50) dX11_place_43 (by decide) (fun c4 => ?_) (fun c4 => ?_)
  · rw [if_pos c4] at h
    refine j_aload_n (pc := 50) dX11_place_50 rfl ?_
    obtain ⟨x5, e6, h⟩ := obS h
    refine j_getI (pc := 51) dX11_place_51 (ci := 11) (kf := 22) rfl hin_X11_place_X11 (by decide) lk_X11_place_0 e6 ?_
    obtain ⟨rfl, rfl⟩ := jretS h
    exact j_iret (pc := 54) rfl dX11_place_54 (by decide) (by decide) rfl
  · rw [if_neg c4] at h
    refine j_iconst (pc := 46) dX11_place_46 (v := 0) (by decide) ?_
    refine j_goto (pc := 47) (tgt := 54) dX11_place_47 (by decide) ?_
    obtain ⟨rfl, rfl⟩ := jretS h
    exact j_iret (pc := 54) rfl dX11_place_54 (by decide) (by decide) rfl
def m_X11_place (a0 : Nat) (i1 : Int32) (i2 : Int32) (i3 : Int32) (ws : LWd) : Option (Int32 × LWd) :=
  (rcv ws a0 11).bind fun _ =>
  bn2 (calSR ws (m_X11_isLeg a0 i1 ws)) fun x3 w1 =>
  if x3 = 0 then
    m_X11_place_b40 a0 a0 1 w1
  else
    bn2 (calSR w1 (m_X11_isPoint i2 i3 w1)) fun x7 w5 =>
    if x7 = 0 then
      m_X11_place_b40 a0 a0 2 w5
    else
      bn2 (calSR w5 (m_X11_places a0 i1 i2 i3 w5)) fun x11 w9 =>
      if x11 = 0 then
        m_X11_place_b40 a0 a0 3 w9
      else
        m_X11_place_b40 a0 a0 0 w9
set_option maxRecDepth 100000 in
set_option maxHeartbeats 4000000 in
theorem s_X11_place {a0 : Nat} {i1 : Int32} {i2 : Int32} {i3 : Int32} {ws : LWd} {rr : Int32} {ws' : LWd} (h : m_X11_place a0 i1 i2 i3 ws = some (rr, ws')) : jSp yX11_place wsX11_place 6 0 0 [.ref a0, .int i1, .int i2, .int i3] ws (.inl (some (.int rr)), ws') := by
  unfold m_X11_place at h
  refine j_entry (ret := (some .int)) (nm := "place") (own := RX11) pl_X11 rfl rfl rfl (jcats (by rfl)) (by decide) ?_
  show JG false cX11_place 4 RX11 wsX11_place (some .int) "place" 6 0 0 ws.length (.inl (some (.int rr)), ws') 0 [some (.ref a0), some (.int i1), some (.int i2), some (.int i3)] [] ws 0 0
  obtain ⟨_, _, h⟩ := obS h
  refine j_aload_n (pc := 0) dX11_place_0 rfl ?_
  refine j_aload_n (pc := 1) dX11_place_1 rfl ?_
  refine j_iload_n (pc := 2) dX11_place_2 rfl ?_
  obtain ⟨x3, w1, e2, h⟩ := obS2 h
  have ge2 := calSR_of e2
  refine j_callV_g (pc := 3) (As := [.int i1]) (k' := 0) (n' := 0) dX11_place_3 (s_X11_isLeg ge2.1) gX11_place_X11_isLeg rfl hv_X11_isLeg rfl (r_X11_isLeg ge2.1) rfl (by decide) (by decide) (by decide) (by decide) (by decide) (by decide) (by decide) (Or.inl ge2.2) ?_
  refine j_if_ne (pc := 6) (tgt := 13) dX11_place_6 (by decide) (fun c4 => ?_) (fun c4 => ?_)
  · rw [if_neg c4] at h
    refine j_iload_n (pc := 13) dX11_place_13 rfl ?_
    refine j_iload_n (pc := 14) dX11_place_14 rfl ?_
    obtain ⟨x7, w5, e6, h⟩ := obS2 h
    have ge6 := calSR_of e6
    refine j_callS_g (pc := 15) (As := [.int i2, .int i3]) (k' := 0) (n' := 0) dX11_place_15 (s_X11_isPoint ge6.1) gX11_place_X11_isPoint rfl hy_X11_isPoint rfl (by decide) (by decide) (by decide) (by decide) (by decide) (by decide) (by decide) (Or.inl ge6.2) ?_
    refine j_if_ne (pc := 18) (tgt := 25) dX11_place_18 (by decide) (fun c8 => ?_) (fun c8 => ?_)
    · rw [if_neg c8] at h
      refine j_aload_n (pc := 25) dX11_place_25 rfl ?_
      refine j_iload_n (pc := 26) dX11_place_26 rfl ?_
      refine j_iload_n (pc := 27) dX11_place_27 rfl ?_
      refine j_iload_n (pc := 28) dX11_place_28 rfl ?_
      obtain ⟨x11, w9, e10, h⟩ := obS2 h
      have ge10 := calSR_of e10
      refine j_callV_g (pc := 29) (As := [.int i1, .int i2, .int i3]) (k' := 0) (n' := 0) dX11_place_29 (s_X11_places ge10.1) gX11_place_X11_places rfl hv_X11_places rfl (r_X11_places ge10.1) rfl (by decide) (by decide) (by decide) (by decide) (by decide) (by decide) (by decide) (Or.inl ge10.2) ?_
      refine j_if_eq (pc := 32) (tgt := 39) dX11_place_32 (by decide) (fun c12 => ?_) (fun c12 => ?_)
      · rw [if_pos c12] at h
        refine j_iconst (pc := 39) dX11_place_39 (v := 3) (by decide) ?_
        refine j_mask [true, false, false, false] ?_
        exact jm_X11_place_b40 _ _ _ w9 h
      · rw [if_neg c12] at h
        refine j_iconst (pc := 35) dX11_place_35 (v := 0) (by decide) ?_
        refine j_goto (pc := 36) (tgt := 40) dX11_place_36 (by decide) ?_
        refine j_mask [true, false, false, false] ?_
        exact jm_X11_place_b40 _ _ _ w9 h
    · rw [if_pos c8] at h
      refine j_iconst (pc := 21) dX11_place_21 (v := 2) (by decide) ?_
      refine j_goto (pc := 22) (tgt := 40) dX11_place_22 (by decide) ?_
      refine j_mask [true, false, false, false] ?_
      exact jm_X11_place_b40 _ _ _ w5 h
  · rw [if_pos c4] at h
    refine j_iconst (pc := 9) dX11_place_9 (v := 1) (by decide) ?_
    refine j_goto (pc := 10) (tgt := 40) dX11_place_10 (by decide) ?_
    refine j_mask [true, false, false, false] ?_
    exact jm_X11_place_b40 _ _ _ w1 h
theorem r_X11_place {a0 : Nat} {i1 : Int32} {i2 : Int32} {i3 : Int32} {ws : LWd} {o : (Int32 × LWd)} (h : m_X11_place a0 i1 i2 i3 ws = some o) : ∃ fs, ws[a0]? = some (.inr (11, fs)) := rcv_in h
theorem hin_X11_shift_X11 : ∀ w ∈ u_ws RX11 TX11 31, w ∈ wsX11_shift := fun w h => List.mem_cons_of_mem _ (List.mem_append_right _ h)
theorem lk_X11_shift_0 : Cond.fieldLink RX11 152 "GaitwrightModel" "ofAct" "I" ∈ wsX11_shift := List.mem_cons_of_mem _ (List.mem_append_left _ (List.mem_append_left _ (List.mem_of_getElem? (i := 0) rfl)))
def m_X11_shift_b55 (a0 : Nat) (s0 : Nat) (s1 : Int32) (ws : LWd) : Option (Int32 × LWd) :=
  bn2 (calSR ws (m_X11_fails s0 s1 ws)) fun x3 w1 =>
  if x3 = 0 then
    (fI w1 a0 11 22).bind fun x5 =>
    some (x5, w1)
  else
    some (0, w1)
set_option maxRecDepth 100000 in
set_option maxHeartbeats 4000000 in
theorem jm_X11_shift_b55 {n0 : Nat} {rr : Int32} {ws' : LWd} (a0 : Nat) (s0 : Nat) (s1 : Int32) (ws : LWd) (h : m_X11_shift_b55 a0 s0 s1 ws = some (rr, ws')) : JG false cX11_shift 4 RX11 wsX11_shift (some .int) "shift" 6 0 0 n0 (.inl (some (.int rr)), ws') 55 [some (.ref a0), none, none, none] [.int s1, .ref s0] ws 0 0 := by
  unfold m_X11_shift_b55 at h
  obtain ⟨x3, w1, e2, h⟩ := obS2 h
  have ge2 := calSR_of e2
  refine j_callV_g (pc := 55) (As := [.int s1]) (k' := 0) (n' := 0) dX11_shift_55 (s_X11_fails ge2.1) gX11_shift_X11_fails rfl hv_X11_fails rfl (r_X11_fails ge2.1) rfl (by decide) (by decide) (by decide) (by decide) (by decide) (by decide) (by decide) (Or.inl ge2.2) ?_
  refine j_if_eq (pc := 58) (tgt := 65) dX11_shift_58 (by decide) (fun c4 => ?_) (fun c4 => ?_)
  · rw [if_pos c4] at h
    refine j_aload_n (pc := 65) dX11_shift_65 rfl ?_
    obtain ⟨x5, e6, h⟩ := obS h
    refine j_getI (pc := 66) dX11_shift_66 (ci := 11) (kf := 22) rfl hin_X11_shift_X11 (by decide) lk_X11_shift_0 e6 ?_
    obtain ⟨rfl, rfl⟩ := jretS h
    exact j_iret (pc := 69) rfl dX11_shift_69 (by decide) (by decide) rfl
  · rw [if_neg c4] at h
    refine j_iconst (pc := 61) dX11_shift_61 (v := 0) (by decide) ?_
    refine j_goto (pc := 62) (tgt := 69) dX11_shift_62 (by decide) ?_
    obtain ⟨rfl, rfl⟩ := jretS h
    exact j_iret (pc := 69) rfl dX11_shift_69 (by decide) (by decide) rfl
def m_X11_shift_b31 (a0 : Nat) (i1 : Int32) (i2 : Int32) (s0 : Int32) (ws : LWd) : Option (Int32 × LWd) :=
  if s0 = 0 then
    m_X11_shift_b55 a0 a0 1 ws
  else
    bn2 (calSR ws (m_X11_shifts a0 i1 i2 ws)) fun x4 w2 =>
    if x4 = 0 then
      m_X11_shift_b55 a0 a0 2 w2
    else
      m_X11_shift_b55 a0 a0 0 w2
set_option maxRecDepth 100000 in
set_option maxHeartbeats 4000000 in
theorem jm_X11_shift_b31 {n0 : Nat} {rr : Int32} {ws' : LWd} (a0 : Nat) (i1 : Int32) (i2 : Int32) (s0 : Int32) (ws : LWd) (h : m_X11_shift_b31 a0 i1 i2 s0 ws = some (rr, ws')) : JG false cX11_shift 4 RX11 wsX11_shift (some .int) "shift" 6 0 0 n0 (.inl (some (.int rr)), ws') 31 [some (.ref a0), some (.int i1), some (.int i2), none] [.int s0] ws 0 0 := by
  unfold m_X11_shift_b31 at h
  refine j_istore_n_3 (pc := 31) dX11_shift_31 (by decide) rfl ?_
  refine j_aload_n (pc := 32) dX11_shift_32 rfl ?_
  refine j_iload_n (pc := 33) dX11_shift_33 rfl ?_
  refine j_if_ne (pc := 34) (tgt := 41) dX11_shift_34 (by decide) (fun c1 => ?_) (fun c1 => ?_)
  · rw [if_neg c1] at h
    refine j_aload_n (pc := 41) dX11_shift_41 rfl ?_
    refine j_iload_n (pc := 42) dX11_shift_42 rfl ?_
    refine j_iload_n (pc := 43) dX11_shift_43 rfl ?_
    obtain ⟨x4, w2, e3, h⟩ := obS2 h
    have ge3 := calSR_of e3
    refine j_callV_g (pc := 44) (As := [.int i1, .int i2]) (k' := 0) (n' := 0) dX11_shift_44 (s_X11_shifts ge3.1) gX11_shift_X11_shifts rfl hv_X11_shifts rfl (r_X11_shifts ge3.1) rfl (by decide) (by decide) (by decide) (by decide) (by decide) (by decide) (by decide) (Or.inl ge3.2) ?_
    refine j_if_eq (pc := 47) (tgt := 54) dX11_shift_47 (by decide) (fun c5 => ?_) (fun c5 => ?_)
    · rw [if_pos c5] at h
      refine j_iconst (pc := 54) dX11_shift_54 (v := 2) (by decide) ?_
      refine j_mask [true, false, false, false] ?_
      exact jm_X11_shift_b55 _ _ _ w2 h
    · rw [if_neg c5] at h
      refine j_iconst (pc := 50) dX11_shift_50 (v := 0) (by decide) ?_
      refine j_goto (pc := 51) (tgt := 55) dX11_shift_51 (by decide) ?_
      refine j_mask [true, false, false, false] ?_
      exact jm_X11_shift_b55 _ _ _ w2 h
  · rw [if_pos c1] at h
    refine j_iconst (pc := 37) dX11_shift_37 (v := 1) (by decide) ?_
    refine j_goto (pc := 38) (tgt := 55) dX11_shift_38 (by decide) ?_
    refine j_mask [true, false, false, false] ?_
    exact jm_X11_shift_b55 _ _ _ ws h
def m_X11_shift_b30 (a0 : Nat) (i1 : Int32) (i2 : Int32) (ws : LWd) : Option (Int32 × LWd) :=
  m_X11_shift_b31 a0 i1 i2 0 ws
set_option maxRecDepth 100000 in
set_option maxHeartbeats 4000000 in
theorem jm_X11_shift_b30 {n0 : Nat} {rr : Int32} {ws' : LWd} (a0 : Nat) (i1 : Int32) (i2 : Int32) (ws : LWd) (h : m_X11_shift_b30 a0 i1 i2 ws = some (rr, ws')) : JG false cX11_shift 4 RX11 wsX11_shift (some .int) "shift" 6 0 0 n0 (.inl (some (.int rr)), ws') 30 [some (.ref a0), some (.int i1), some (.int i2), none] [] ws 0 0 := by
  unfold m_X11_shift_b30 at h
  refine j_iconst (pc := 30) dX11_shift_30 (v := 0) (by decide) ?_
  exact jm_X11_shift_b31 _ _ _ _ ws h
def m_X11_shift_b26 (a0 : Nat) (i1 : Int32) (i2 : Int32) (ws : LWd) : Option (Int32 × LWd) :=
  m_X11_shift_b31 a0 i1 i2 1 ws
set_option maxRecDepth 100000 in
set_option maxHeartbeats 4000000 in
theorem jm_X11_shift_b26 {n0 : Nat} {rr : Int32} {ws' : LWd} (a0 : Nat) (i1 : Int32) (i2 : Int32) (ws : LWd) (h : m_X11_shift_b26 a0 i1 i2 ws = some (rr, ws')) : JG false cX11_shift 4 RX11 wsX11_shift (some .int) "shift" 6 0 0 n0 (.inl (some (.int rr)), ws') 26 [some (.ref a0), some (.int i1), some (.int i2), none] [] ws 0 0 := by
  unfold m_X11_shift_b26 at h
  refine j_iconst (pc := 26) dX11_shift_26 (v := 1) (by decide) ?_
  refine j_goto (pc := 27) (tgt := 31) dX11_shift_27 (by decide) ?_
  exact jm_X11_shift_b31 _ _ _ _ ws h
def m_X11_shift (a0 : Nat) (i1 : Int32) (i2 : Int32) (ws : LWd) : Option (Int32 × LWd) :=
  (rcv ws a0 11).bind fun _ =>
  bn2 (calSR ws (m_X11_isIn i1 ((-1)) 1 ws)) fun x3 w1 =>
  if x3 = 0 then
    m_X11_shift_b30 a0 i1 i2 w1
  else
    bn2 (calSR w1 (m_X11_isIn i2 ((-1)) 1 w1)) fun x7 w5 =>
    if x7 = 0 then
      m_X11_shift_b30 a0 i1 i2 w5
    else
      if i1 = 0 then
        if i2 = 0 then
          m_X11_shift_b30 a0 i1 i2 w5
        else
          m_X11_shift_b26 a0 i1 i2 w5
      else
        m_X11_shift_b26 a0 i1 i2 w5
set_option maxRecDepth 100000 in
set_option maxHeartbeats 4000000 in
theorem s_X11_shift {a0 : Nat} {i1 : Int32} {i2 : Int32} {ws : LWd} {rr : Int32} {ws' : LWd} (h : m_X11_shift a0 i1 i2 ws = some (rr, ws')) : jSp yX11_shift wsX11_shift 6 0 0 [.ref a0, .int i1, .int i2] ws (.inl (some (.int rr)), ws') := by
  unfold m_X11_shift at h
  refine j_entry (ret := (some .int)) (nm := "shift") (own := RX11) pl_X11 rfl rfl rfl (jcats (by rfl)) (by decide) ?_
  show JG false cX11_shift 4 RX11 wsX11_shift (some .int) "shift" 6 0 0 ws.length (.inl (some (.int rr)), ws') 0 [some (.ref a0), some (.int i1), some (.int i2), none] [] ws 0 0
  obtain ⟨_, _, h⟩ := obS h
  refine j_iload_n (pc := 0) dX11_shift_0 rfl ?_
  refine j_iconst (pc := 1) dX11_shift_1 (v := (-1)) (by decide) ?_
  refine j_iconst (pc := 2) dX11_shift_2 (v := 1) (by decide) ?_
  obtain ⟨x3, w1, e2, h⟩ := obS2 h
  have ge2 := calSR_of e2
  refine j_callS_g (pc := 3) (As := [.int i1, .int ((-1)), .int 1]) (k' := 0) (n' := 0) dX11_shift_3 (s_X11_isIn ge2.1) gX11_shift_X11_isIn rfl hy_X11_isIn rfl (by decide) (by decide) (by decide) (by decide) (by decide) (by decide) (by decide) (Or.inl ge2.2) ?_
  refine j_if_eq (pc := 6) (tgt := 30) dX11_shift_6 (by decide) (fun c4 => ?_) (fun c4 => ?_)
  · rw [if_pos c4] at h
    exact jm_X11_shift_b30 _ _ _ w1 h
  · rw [if_neg c4] at h
    refine j_iload_n (pc := 9) dX11_shift_9 rfl ?_
    refine j_iconst (pc := 10) dX11_shift_10 (v := (-1)) (by decide) ?_
    refine j_iconst (pc := 11) dX11_shift_11 (v := 1) (by decide) ?_
    obtain ⟨x7, w5, e6, h⟩ := obS2 h
    have ge6 := calSR_of e6
    refine j_callS_g (pc := 12) (As := [.int i2, .int ((-1)), .int 1]) (k' := 0) (n' := 0) dX11_shift_12 (s_X11_isIn ge6.1) gX11_shift_X11_isIn rfl hy_X11_isIn rfl (by decide) (by decide) (by decide) (by decide) (by decide) (by decide) (by decide) (Or.inl ge6.2) ?_
    refine j_if_eq (pc := 15) (tgt := 30) dX11_shift_15 (by decide) (fun c8 => ?_) (fun c8 => ?_)
    · rw [if_pos c8] at h
      exact jm_X11_shift_b30 _ _ _ w5 h
    · rw [if_neg c8] at h
      refine j_iload_n (pc := 18) dX11_shift_18 rfl ?_
      refine j_if_ne (pc := 19) (tgt := 26) dX11_shift_19 (by decide) (fun c9 => ?_) (fun c9 => ?_)
      · rw [if_neg c9] at h
        exact jm_X11_shift_b26 _ _ _ w5 h
      · rw [if_pos c9] at h
        refine j_iload_n (pc := 22) dX11_shift_22 rfl ?_
        refine j_if_eq (pc := 23) (tgt := 30) dX11_shift_23 (by decide) (fun c10 => ?_) (fun c10 => ?_)
        · rw [if_pos c10] at h
          exact jm_X11_shift_b30 _ _ _ w5 h
        · rw [if_neg c10] at h
          exact jm_X11_shift_b26 _ _ _ w5 h
theorem r_X11_shift {a0 : Nat} {i1 : Int32} {i2 : Int32} {ws : LWd} {o : (Int32 × LWd)} (h : m_X11_shift a0 i1 i2 ws = some o) : ∃ fs, ws[a0]? = some (.inr (11, fs)) := rcv_in h
theorem hin_X11_walks_X11 : ∀ w ∈ u_ws RX11 TX11 31, w ∈ wsX11_walks := fun w h => List.mem_cons_of_mem _ (List.mem_append_right _ h)
theorem lk_X11_walks_0 : Cond.fieldLink RX11 50 "GaitwrightModel" "phase" "[I" ∈ wsX11_walks := List.mem_cons_of_mem _ (List.mem_append_left _ (List.mem_append_left _ (List.mem_of_getElem? (i := 1) rfl)))
theorem lk_X11_walks_1 : Cond.fieldLink RX11 152 "GaitwrightModel" "ofAct" "I" ∈ wsX11_walks := List.mem_cons_of_mem _ (List.mem_append_left _ (List.mem_append_left _ (List.mem_of_getElem? (i := 4) rfl)))
theorem lk_X11_walks_2 : Cond.fieldLink RX11 94 "GaitwrightModel" "next" "I" ∈ wsX11_walks := List.mem_cons_of_mem _ (List.mem_append_left _ (List.mem_append_left _ (List.mem_of_getElem? (i := 0) rfl)))
theorem lk_X11_walks_3 : Cond.fieldLink RX11 41 "GaitwrightModel" "footX" "[I" ∈ wsX11_walks := List.mem_cons_of_mem _ (List.mem_append_left _ (List.mem_append_left _ (List.mem_of_getElem? (i := 2) rfl)))
theorem lk_X11_walks_4 : Cond.fieldLink RX11 44 "GaitwrightModel" "footY" "[I" ∈ wsX11_walks := List.mem_cons_of_mem _ (List.mem_append_left _ (List.mem_append_left _ (List.mem_of_getElem? (i := 3) rfl)))
def m_X11_walks_b128 (a0 : Nat) (i1 : Int32) (s0 : Int32) (ws : LWd) : Option (Int32 × LWd) :=
  if s0 = 0 then
    some (1, ws)
  else
    (fR ws a0 11 27).bind fun x2 =>
    (aI ws x2 (i1 + 3)).bind fun x4 =>
    (fR ws a0 11 27).bind fun x6 =>
    (aI ws x6 (i1 + 4)).bind fun x8 =>
    bn2 (calSR ws (m_X11_shifts a0 x4 x8 ws)) fun x12 w10 =>
    if x12 = 0 then
      some (0, w10)
    else
      (fI w10 a0 11 22).bind fun x14 =>
      if x14 = 0 then
        some (1, w10)
      else
        some (0, w10)
set_option maxRecDepth 100000 in
set_option maxHeartbeats 4000000 in
theorem jm_X11_walks_b128 {n0 : Nat} {rr : Int32} {ws' : LWd} (a0 : Nat) (i1 : Int32) (s0 : Int32) (ws : LWd) (h : m_X11_walks_b128 a0 i1 s0 ws = some (rr, ws')) : JG false cX11_walks 6 RX11 wsX11_walks (some .boolean) "walks" 6 0 0 n0 (.inl (some (.int rr)), ws') 128 [some (.ref a0), some (.int i1), none, none, none, none] [.int s0] ws 0 0 := by
  unfold m_X11_walks_b128 at h
  refine j_istore_5 (pc := 128) dX11_walks_128 (by decide) rfl ?_
  refine j_iload (pc := 130) dX11_walks_130 rfl ?_
  refine j_if_eq (pc := 132) (tgt := 165) dX11_walks_132 (by decide) (fun c1 => ?_) (fun c1 => ?_)
  · rw [if_pos c1] at h
    refine j_iconst (pc := 165) dX11_walks_165 (v := 1) (by decide) ?_
    refine j_goto (pc := 166) (tgt := 170) dX11_walks_166 (by decide) ?_
    obtain ⟨rfl, rfl⟩ := jretS h
    exact j_zret (pc := 170) (ws1 := ws) rfl dX11_walks_170 (by decide) (by decide) (show retZ 1 ws = some (1, ws) from rfl) rfl rfl
  · rw [if_neg c1] at h
    refine j_aload_n (pc := 135) dX11_walks_135 rfl ?_
    refine j_aload_n (pc := 136) dX11_walks_136 rfl ?_
    obtain ⟨x2, e3, h⟩ := obS h
    refine j_getR (pc := 137) dX11_walks_137 (ci := 11) (kf := 27) rfl hin_X11_walks_X11 (by decide) lk_X11_walks_0 e3 ?_
    refine j_iload_n (pc := 140) dX11_walks_140 rfl ?_
    refine j_iconst (pc := 141) dX11_walks_141 (v := 3) (by decide) ?_
    refine j_iadd (pc := 142) dX11_walks_142 ?_
    obtain ⟨x4, e5, h⟩ := obS h
    refine j_iald (pc := 143) dX11_walks_143 e5 ?_
    refine j_aload_n (pc := 144) dX11_walks_144 rfl ?_
    obtain ⟨x6, e7, h⟩ := obS h
    refine j_getR (pc := 145) dX11_walks_145 (ci := 11) (kf := 27) rfl hin_X11_walks_X11 (by decide) lk_X11_walks_0 e7 ?_
    refine j_iload_n (pc := 148) dX11_walks_148 rfl ?_
    refine j_iconst (pc := 149) dX11_walks_149 (v := 4) (by decide) ?_
    refine j_iadd (pc := 150) dX11_walks_150 ?_
    obtain ⟨x8, e9, h⟩ := obS h
    refine j_iald (pc := 151) dX11_walks_151 e9 ?_
    obtain ⟨x12, w10, e11, h⟩ := obS2 h
    have ge11 := calSR_of e11
    refine j_callV_g (pc := 152) (As := [.int x4, .int x8]) (k' := 0) (n' := 0) dX11_walks_152 (s_X11_shifts ge11.1) gX11_walks_X11_shifts rfl hv_X11_shifts rfl (r_X11_shifts ge11.1) rfl (by decide) (by decide) (by decide) (by decide) (by decide) (by decide) (by decide) (Or.inl ge11.2) ?_
    refine j_if_eq (pc := 155) (tgt := 169) dX11_walks_155 (by decide) (fun c13 => ?_) (fun c13 => ?_)
    · rw [if_pos c13] at h
      refine j_iconst (pc := 169) dX11_walks_169 (v := 0) (by decide) ?_
      obtain ⟨rfl, rfl⟩ := jretS h
      exact j_zret (pc := 170) (ws1 := w10) rfl dX11_walks_170 (by decide) (by decide) (show retZ 0 w10 = some (0, w10) from rfl) rfl rfl
    · rw [if_neg c13] at h
      refine j_aload_n (pc := 158) dX11_walks_158 rfl ?_
      obtain ⟨x14, e15, h⟩ := obS h
      refine j_getI (pc := 159) dX11_walks_159 (ci := 11) (kf := 22) rfl hin_X11_walks_X11 (by decide) lk_X11_walks_1 e15 ?_
      refine j_if_ne (pc := 162) (tgt := 169) dX11_walks_162 (by decide) (fun c16 => ?_) (fun c16 => ?_)
      · rw [if_neg c16] at h
        refine j_iconst (pc := 169) dX11_walks_169 (v := 0) (by decide) ?_
        obtain ⟨rfl, rfl⟩ := jretS h
        exact j_zret (pc := 170) (ws1 := w10) rfl dX11_walks_170 (by decide) (by decide) (show retZ 0 w10 = some (0, w10) from rfl) rfl rfl
      · rw [if_pos c16] at h
        refine j_iconst (pc := 165) dX11_walks_165 (v := 1) (by decide) ?_
        refine j_goto (pc := 166) (tgt := 170) dX11_walks_166 (by decide) ?_
        obtain ⟨rfl, rfl⟩ := jretS h
        exact j_zret (pc := 170) (ws1 := w10) rfl dX11_walks_170 (by decide) (by decide) (show retZ 1 w10 = some (1, w10) from rfl) rfl rfl
def m_X11_walks_b123 (a0 : Nat) (i1 : Int32) (ws : LWd) : Option (Int32 × LWd) :=
  m_X11_walks_b128 a0 i1 1 ws
set_option maxRecDepth 100000 in
set_option maxHeartbeats 4000000 in
theorem jm_X11_walks_b123 {n0 : Nat} {rr : Int32} {ws' : LWd} (a0 : Nat) (i1 : Int32) (ws : LWd) (h : m_X11_walks_b123 a0 i1 ws = some (rr, ws')) : JG false cX11_walks 6 RX11 wsX11_walks (some .boolean) "walks" 6 0 0 n0 (.inl (some (.int rr)), ws') 123 [some (.ref a0), some (.int i1), none, none, none, none] [] ws 0 0 := by
  unfold m_X11_walks_b123 at h
  refine j_iconst (pc := 123) dX11_walks_123 (v := 1) (by decide) ?_
  refine j_goto (pc := 124) (tgt := 128) dX11_walks_124 (by decide) ?_
  exact jm_X11_walks_b128 _ _ _ ws h
def m_X11_walks (a0 : Nat) (ws : LWd) : Option (Int32 × LWd) :=
  (rcv ws a0 11).bind fun _ =>
  (fI ws a0 11 26).bind fun x1 =>
  (fR ws a0 11 27).bind fun x3 =>
  (aI ws x3 (5 * x1)).bind fun x5 =>
  bn2 (calSR ws (m_X11_isDown a0 x5 ws)) fun x9 w7 =>
  if x9 = 0 then
    some (0, w7)
  else
    (fR w7 a0 11 15).bind fun x11 =>
    (aI w7 x11 x5).bind fun x13 =>
    (fR w7 a0 11 27).bind fun x15 =>
    (aI w7 x15 ((5 * x1) + 1)).bind fun x17 =>
    (fR w7 a0 11 16).bind fun x19 =>
    (aI w7 x19 x5).bind fun x21 =>
    (fR w7 a0 11 27).bind fun x23 =>
    (aI w7 x23 ((5 * x1) + 2)).bind fun x25 =>
    bn2 (calSR w7 (m_X11_lifts a0 x5 w7)) fun x29 w27 =>
    if x29 = 0 then
      some (0, w27)
    else
      (fI w27 a0 11 22).bind fun x31 =>
      if 0 < x31 then
        some (0, w27)
      else
        bn2 (calSR w27 (m_X11_isPoint (x13 + x17) (x21 + x25) w27)) fun x36 w34 =>
        if x36 = 0 then
          some (0, w34)
        else
          bn2 (calSR w34 (m_X11_places a0 x5 (x13 + x17) (x21 + x25) w34)) fun x40 w38 =>
          if x40 = 0 then
            some (0, w38)
          else
            (fI w38 a0 11 22).bind fun x42 =>
            if x42 ≤ 0 then
              (fR w38 a0 11 27).bind fun x45 =>
              (aI w38 x45 ((5 * x1) + 3)).bind fun x47 =>
              if x47 = 0 then
                (fR w38 a0 11 27).bind fun x50 =>
                (aI w38 x50 ((5 * x1) + 4)).bind fun x52 =>
                if x52 = 0 then
                  m_X11_walks_b128 a0 (5 * x1) 0 w38
                else
                  m_X11_walks_b123 a0 (5 * x1) w38
              else
                m_X11_walks_b123 a0 (5 * x1) w38
            else
              some (0, w38)
set_option maxRecDepth 100000 in
set_option maxHeartbeats 4000000 in
theorem s_X11_walks {a0 : Nat} {ws : LWd} {rr : Int32} {ws' : LWd} (h : m_X11_walks a0 ws = some (rr, ws')) : jSp yX11_walks wsX11_walks 6 0 0 [.ref a0] ws (.inl (some (.int rr)), ws') := by
  unfold m_X11_walks at h
  refine j_entry (ret := (some .boolean)) (nm := "walks") (own := RX11) pl_X11 rfl rfl rfl (jcats (by rfl)) (by decide) ?_
  show JG false cX11_walks 6 RX11 wsX11_walks (some .boolean) "walks" 6 0 0 ws.length (.inl (some (.int rr)), ws') 0 [some (.ref a0), none, none, none, none, none] [] ws 0 0
  obtain ⟨_, _, h⟩ := obS h
  refine j_iconst (pc := 0) dX11_walks_0 (v := 5) (by decide) ?_
  refine j_aload_n (pc := 1) dX11_walks_1 rfl ?_
  obtain ⟨x1, e2, h⟩ := obS h
  refine j_getI (pc := 2) dX11_walks_2 (ci := 11) (kf := 26) rfl hin_X11_walks_X11 (by decide) lk_X11_walks_2 e2 ?_
  refine j_imul (pc := 5) dX11_walks_5 ?_
  refine j_istore_n_1 (pc := 6) dX11_walks_6 (by decide) rfl ?_
  refine j_aload_n (pc := 7) dX11_walks_7 rfl ?_
  obtain ⟨x3, e4, h⟩ := obS h
  refine j_getR (pc := 8) dX11_walks_8 (ci := 11) (kf := 27) rfl hin_X11_walks_X11 (by decide) lk_X11_walks_0 e4 ?_
  refine j_iload_n (pc := 11) dX11_walks_11 rfl ?_
  obtain ⟨x5, e6, h⟩ := obS h
  refine j_iald (pc := 12) dX11_walks_12 e6 ?_
  refine j_istore_n_2 (pc := 13) dX11_walks_13 (by decide) rfl ?_
  refine j_aload_n (pc := 14) dX11_walks_14 rfl ?_
  refine j_iload_n (pc := 15) dX11_walks_15 rfl ?_
  obtain ⟨x9, w7, e8, h⟩ := obS2 h
  have ge8 := calSR_of e8
  refine j_callV_g (pc := 16) (As := [.int x5]) (k' := 0) (n' := 0) dX11_walks_16 (s_X11_isDown ge8.1) gX11_walks_X11_isDown rfl hv_X11_isDown rfl (r_X11_isDown ge8.1) rfl (by decide) (by decide) (by decide) (by decide) (by decide) (by decide) (by decide) (Or.inl ge8.2) ?_
  refine j_if_ne (pc := 19) (tgt := 24) dX11_walks_19 (by decide) (fun c10 => ?_) (fun c10 => ?_)
  · rw [if_neg c10] at h
    refine j_aload_n (pc := 24) dX11_walks_24 rfl ?_
    obtain ⟨x11, e12, h⟩ := obS h
    refine j_getR (pc := 25) dX11_walks_25 (ci := 11) (kf := 15) rfl hin_X11_walks_X11 (by decide) lk_X11_walks_3 e12 ?_
    refine j_iload_n (pc := 28) dX11_walks_28 rfl ?_
    obtain ⟨x13, e14, h⟩ := obS h
    refine j_iald (pc := 29) dX11_walks_29 e14 ?_
    refine j_aload_n (pc := 30) dX11_walks_30 rfl ?_
    obtain ⟨x15, e16, h⟩ := obS h
    refine j_getR (pc := 31) dX11_walks_31 (ci := 11) (kf := 27) rfl hin_X11_walks_X11 (by decide) lk_X11_walks_0 e16 ?_
    refine j_iload_n (pc := 34) dX11_walks_34 rfl ?_
    refine j_iconst (pc := 35) dX11_walks_35 (v := 1) (by decide) ?_
    refine j_iadd (pc := 36) dX11_walks_36 ?_
    obtain ⟨x17, e18, h⟩ := obS h
    refine j_iald (pc := 37) dX11_walks_37 e18 ?_
    refine j_iadd (pc := 38) dX11_walks_38 ?_
    refine j_istore_n_3 (pc := 39) dX11_walks_39 (by decide) rfl ?_
    refine j_aload_n (pc := 40) dX11_walks_40 rfl ?_
    obtain ⟨x19, e20, h⟩ := obS h
    refine j_getR (pc := 41) dX11_walks_41 (ci := 11) (kf := 16) rfl hin_X11_walks_X11 (by decide) lk_X11_walks_4 e20 ?_
    refine j_iload_n (pc := 44) dX11_walks_44 rfl ?_
    obtain ⟨x21, e22, h⟩ := obS h
    refine j_iald (pc := 45) dX11_walks_45 e22 ?_
    refine j_aload_n (pc := 46) dX11_walks_46 rfl ?_
    obtain ⟨x23, e24, h⟩ := obS h
    refine j_getR (pc := 47) dX11_walks_47 (ci := 11) (kf := 27) rfl hin_X11_walks_X11 (by decide) lk_X11_walks_0 e24 ?_
    refine j_iload_n (pc := 50) dX11_walks_50 rfl ?_
    refine j_iconst (pc := 51) dX11_walks_51 (v := 2) (by decide) ?_
    refine j_iadd (pc := 52) dX11_walks_52 ?_
    obtain ⟨x25, e26, h⟩ := obS h
    refine j_iald (pc := 53) dX11_walks_53 e26 ?_
    refine j_iadd (pc := 54) dX11_walks_54 ?_
    refine j_istore_4 (pc := 55) dX11_walks_55 (by decide) rfl ?_
    refine j_aload_n (pc := 57) dX11_walks_57 rfl ?_
    refine j_iload_n (pc := 58) dX11_walks_58 rfl ?_
    obtain ⟨x29, w27, e28, h⟩ := obS2 h
    have ge28 := calSR_of e28
    refine j_callV_g (pc := 59) (As := [.int x5]) (k' := 0) (n' := 0) dX11_walks_59 (s_X11_lifts ge28.1) gX11_walks_X11_lifts rfl hv_X11_lifts rfl (r_X11_lifts ge28.1) rfl (by decide) (by decide) (by decide) (by decide) (by decide) (by decide) (by decide) (Or.inl ge28.2) ?_
    refine j_if_eq (pc := 62) (tgt := 99) dX11_walks_62 (by decide) (fun c30 => ?_) (fun c30 => ?_)
    · rw [if_pos c30] at h
      refine j_iconst (pc := 99) dX11_walks_99 (v := 0) (by decide) ?_
      obtain ⟨rfl, rfl⟩ := jretS h
      exact j_zret (pc := 100) (ws1 := w27) rfl dX11_walks_100 (by decide) (by decide) (show retZ 0 w27 = some (0, w27) from rfl) rfl rfl
    · rw [if_neg c30] at h
      refine j_aload_n (pc := 65) dX11_walks_65 rfl ?_
      obtain ⟨x31, e32, h⟩ := obS h
      refine j_getI (pc := 66) dX11_walks_66 (ci := 11) (kf := 22) rfl hin_X11_walks_X11 (by decide) lk_X11_walks_1 e32 ?_
      refine j_if_gt (pc := 69) (tgt := 99) dX11_walks_69 (by decide) (fun c33 => ?_) (fun c33 => ?_)
      · rw [if_pos c33] at h
        refine j_iconst (pc := 99) dX11_walks_99 (v := 0) (by decide) ?_
        obtain ⟨rfl, rfl⟩ := jretS h
        exact j_zret (pc := 100) (ws1 := w27) rfl dX11_walks_100 (by decide) (by decide) (show retZ 0 w27 = some (0, w27) from rfl) rfl rfl
      · rw [if_neg c33] at h
        refine j_iload_n (pc := 72) dX11_walks_72 rfl ?_
        refine j_iload (pc := 73) dX11_walks_73 rfl ?_
        obtain ⟨x36, w34, e35, h⟩ := obS2 h
        have ge35 := calSR_of e35
        refine j_callS_g (pc := 75) (As := [.int (x13 + x17), .int (x21 + x25)]) (k' := 0) (n' := 0) dX11_walks_75 (s_X11_isPoint ge35.1) gX11_walks_X11_isPoint rfl hy_X11_isPoint rfl (by decide) (by decide) (by decide) (by decide) (by decide) (by decide) (by decide) (Or.inl ge35.2) ?_
        refine j_if_eq (pc := 78) (tgt := 99) dX11_walks_78 (by decide) (fun c37 => ?_) (fun c37 => ?_)
        · rw [if_pos c37] at h
          refine j_iconst (pc := 99) dX11_walks_99 (v := 0) (by decide) ?_
          obtain ⟨rfl, rfl⟩ := jretS h
          exact j_zret (pc := 100) (ws1 := w34) rfl dX11_walks_100 (by decide) (by decide) (show retZ 0 w34 = some (0, w34) from rfl) rfl rfl
        · rw [if_neg c37] at h
          refine j_aload_n (pc := 81) dX11_walks_81 rfl ?_
          refine j_iload_n (pc := 82) dX11_walks_82 rfl ?_
          refine j_iload_n (pc := 83) dX11_walks_83 rfl ?_
          refine j_iload (pc := 84) dX11_walks_84 rfl ?_
          obtain ⟨x40, w38, e39, h⟩ := obS2 h
          have ge39 := calSR_of e39
          refine j_callV_g (pc := 86) (As := [.int x5, .int (x13 + x17), .int (x21 + x25)]) (k' := 0) (n' := 0) dX11_walks_86 (s_X11_places ge39.1) gX11_walks_X11_places rfl hv_X11_places rfl (r_X11_places ge39.1) rfl (by decide) (by decide) (by decide) (by decide) (by decide) (by decide) (by decide) (Or.inl ge39.2) ?_
          refine j_if_eq (pc := 89) (tgt := 99) dX11_walks_89 (by decide) (fun c41 => ?_) (fun c41 => ?_)
          · rw [if_pos c41] at h
            refine j_iconst (pc := 99) dX11_walks_99 (v := 0) (by decide) ?_
            obtain ⟨rfl, rfl⟩ := jretS h
            exact j_zret (pc := 100) (ws1 := w38) rfl dX11_walks_100 (by decide) (by decide) (show retZ 0 w38 = some (0, w38) from rfl) rfl rfl
          · rw [if_neg c41] at h
            refine j_aload_n (pc := 92) dX11_walks_92 rfl ?_
            obtain ⟨x42, e43, h⟩ := obS h
            refine j_getI (pc := 93) dX11_walks_93 (ci := 11) (kf := 22) rfl hin_X11_walks_X11 (by decide) lk_X11_walks_1 e43 ?_
            refine j_if_le (pc := 96) (tgt := 101) dX11_walks_96 (by decide) (fun c44 => ?_) (fun c44 => ?_)
            · rw [if_pos c44] at h
              refine j_aload_n (pc := 101) dX11_walks_101 rfl ?_
              obtain ⟨x45, e46, h⟩ := obS h
              refine j_getR (pc := 102) dX11_walks_102 (ci := 11) (kf := 27) rfl hin_X11_walks_X11 (by decide) lk_X11_walks_0 e46 ?_
              refine j_iload_n (pc := 105) dX11_walks_105 rfl ?_
              refine j_iconst (pc := 106) dX11_walks_106 (v := 3) (by decide) ?_
              refine j_iadd (pc := 107) dX11_walks_107 ?_
              obtain ⟨x47, e48, h⟩ := obS h
              refine j_iald (pc := 108) dX11_walks_108 e48 ?_
              refine j_if_ne (pc := 109) (tgt := 123) dX11_walks_109 (by decide) (fun c49 => ?_) (fun c49 => ?_)
              · rw [if_neg c49] at h
                refine j_mask [true, true, false, false, false, false] ?_
                exact jm_X11_walks_b123 _ _ w38 h
              · rw [if_pos c49] at h
                refine j_aload_n (pc := 112) dX11_walks_112 rfl ?_
                obtain ⟨x50, e51, h⟩ := obS h
                refine j_getR (pc := 113) dX11_walks_113 (ci := 11) (kf := 27) rfl hin_X11_walks_X11 (by decide) lk_X11_walks_0 e51 ?_
                refine j_iload_n (pc := 116) dX11_walks_116 rfl ?_
                refine j_iconst (pc := 117) dX11_walks_117 (v := 4) (by decide) ?_
                refine j_iadd (pc := 118) dX11_walks_118 ?_
                obtain ⟨x52, e53, h⟩ := obS h
                refine j_iald (pc := 119) dX11_walks_119 e53 ?_
                refine j_if_eq (pc := 120) (tgt := 127) dX11_walks_120 (by decide) (fun c54 => ?_) (fun c54 => ?_)
                · rw [if_pos c54] at h
                  refine j_iconst (pc := 127) dX11_walks_127 (v := 0) (by decide) ?_
                  refine j_mask [true, true, false, false, false, false] ?_
                  exact jm_X11_walks_b128 _ _ _ w38 h
                · rw [if_neg c54] at h
                  refine j_mask [true, true, false, false, false, false] ?_
                  exact jm_X11_walks_b123 _ _ w38 h
            · rw [if_neg c44] at h
              refine j_iconst (pc := 99) dX11_walks_99 (v := 0) (by decide) ?_
              obtain ⟨rfl, rfl⟩ := jretS h
              exact j_zret (pc := 100) (ws1 := w38) rfl dX11_walks_100 (by decide) (by decide) (show retZ 0 w38 = some (0, w38) from rfl) rfl rfl
  · rw [if_pos c10] at h
    refine j_iconst (pc := 22) dX11_walks_22 (v := 0) (by decide) ?_
    obtain ⟨rfl, rfl⟩ := jretS h
    exact j_zret (pc := 23) (ws1 := w7) rfl dX11_walks_23 (by decide) (by decide) (show retZ 0 w7 = some (0, w7) from rfl) rfl rfl
theorem r_X11_walks {a0 : Nat} {ws : LWd} {o : (Int32 × LWd)} (h : m_X11_walks a0 ws = some o) : ∃ fs, ws[a0]? = some (.inr (11, fs)) := rcv_in h
theorem hin_X11_walk_X11 : ∀ w ∈ u_ws RX11 TX11 31, w ∈ wsX11_walk := fun w h => List.mem_cons_of_mem _ (List.mem_append_right _ h)
theorem lk_X11_walk_0 : Cond.fieldLink RX11 94 "GaitwrightModel" "next" "I" ∈ wsX11_walk := List.mem_cons_of_mem _ (List.mem_append_left _ (List.mem_append_left _ (List.mem_of_getElem? (i := 1) rfl)))
theorem lk_X11_walk_1 : Cond.fieldLink RX11 91 "GaitwrightModel" "phases" "I" ∈ wsX11_walk := List.mem_cons_of_mem _ (List.mem_append_left _ (List.mem_append_left _ (List.mem_of_getElem? (i := 0) rfl)))
def m_X11_walk_l37 : Nat → Nat → Int32 → Int32 → LWd → Option (Int32 × LWd)
  | 0, _, _, _, _ => none
  | fu + 1, a0, i1, i2, ws =>
    if i1 ≤ i2 then
      some (i2, ws)
    else
      bn2 (calSR ws (m_X11_walks a0 ws)) fun x4 w2 =>
      if x4 = 0 then
        some (i2, w2)
      else
        (fI w2 a0 11 26).bind fun x6 =>
        (fI w2 a0 11 25).bind fun x8 =>
        if x8 = 0 then none else
        (pV w2 a0 11 26 (.int (jrem (x6 + 1) x8))).bind fun w11 =>
        m_X11_walk_l37 fu a0 i1 (i2 + 1) w11
set_option maxRecDepth 100000 in
set_option maxHeartbeats 4000000 in
theorem jm_X11_walk_l37 {n0 : Nat} {rr : Int32} {ws' : LWd} : ∀ (fu : Nat) (a0 : Nat) (i1 : Int32) (i2 : Int32) (ws : LWd), m_X11_walk_l37 fu a0 i1 i2 ws = some (rr, ws') → JG false cX11_walk 3 RX11 wsX11_walk (some .int) "walk" 7 0 0 n0 (.inl (some (.int rr)), ws') 37 [some (.ref a0), some (.int i1), some (.int i2)] [] ws 0 0 := by
  intro fu
  induction fu with
  | zero => intro a0 i1 i2 ws h; cases h
  | succ fu ih =>
    intro a0 i1 i2 ws h
    rw [m_X11_walk_l37] at h
    refine j_iload_n (pc := 37) dX11_walk_37 rfl ?_
    refine j_iload_n (pc := 38) dX11_walk_38 rfl ?_
    refine j_icmp_ge (pc := 39) (tgt := 70) dX11_walk_39 (by decide) (fun c1 => ?_) (fun c1 => ?_)
    · rw [if_pos c1] at h
      refine j_iload_n (pc := 70) dX11_walk_70 rfl ?_
      obtain ⟨rfl, rfl⟩ := jretS h
      exact j_iret (pc := 71) rfl dX11_walk_71 (by decide) (by decide) rfl
    · rw [if_neg c1] at h
      refine j_aload_n (pc := 42) dX11_walk_42 rfl ?_
      obtain ⟨x4, w2, e3, h⟩ := obS2 h
      have ge3 := calSR_of e3
      refine j_callV_g (pc := 43) (As := []) (k' := 0) (n' := 0) dX11_walk_43 (s_X11_walks ge3.1) gX11_walk_X11_walks rfl hv_X11_walks rfl (r_X11_walks ge3.1) rfl (by decide) (by decide) (by decide) (by decide) (by decide) (by decide) (by decide) (Or.inl ge3.2) ?_
      refine j_if_eq (pc := 46) (tgt := 70) dX11_walk_46 (by decide) (fun c5 => ?_) (fun c5 => ?_)
      · rw [if_pos c5] at h
        refine j_iload_n (pc := 70) dX11_walk_70 rfl ?_
        obtain ⟨rfl, rfl⟩ := jretS h
        exact j_iret (pc := 71) rfl dX11_walk_71 (by decide) (by decide) rfl
      · rw [if_neg c5] at h
        refine j_iinc_2 (pc := 49) dX11_walk_49 (y := i2 + 1) rfl (by decide) rfl ?_
        refine j_aload_n (pc := 52) dX11_walk_52 rfl ?_
        refine j_aload_n (pc := 53) dX11_walk_53 rfl ?_
        obtain ⟨x6, e7, h⟩ := obS h
        refine j_getI (pc := 54) dX11_walk_54 (ci := 11) (kf := 26) rfl hin_X11_walk_X11 (by decide) lk_X11_walk_0 e7 ?_
        refine j_iconst (pc := 57) dX11_walk_57 (v := 1) (by decide) ?_
        refine j_iadd (pc := 58) dX11_walk_58 ?_
        refine j_aload_n (pc := 59) dX11_walk_59 rfl ?_
        obtain ⟨x8, e9, h⟩ := obS h
        refine j_getI (pc := 60) dX11_walk_60 (ci := 11) (kf := 25) rfl hin_X11_walk_X11 (by decide) lk_X11_walk_1 e9 ?_
        have c10 := jneS h
        rw [if_neg c10] at h
        refine j_irem (pc := 63) dX11_walk_63 c10 ?_
        obtain ⟨w11, e12, h⟩ := obS h
        refine j_putV (pc := 64) (ci := 11) (kf := 26) tyX11 tyX11_ok nmX11 dX11_walk_64 rfl hin_X11_walk_X11 (by decide) lk_X11_walk_0 rfl (fun _ => rfl) (fun _ => rfl) e12 ?_
        refine j_goto (pc := 67) (tgt := 37) dX11_walk_67 (by decide) ?_
        exact ih _ _ _ w11 h
def m_X11_walk_b27 (a0 : Nat) (i1 : Int32) (s0 : Nat) (s1 : Int32) (ws : LWd) : Option (Int32 × LWd) :=
  bn2 (calSR ws (m_X11_fails s0 s1 ws)) fun x3 w1 =>
  if x3 = 0 then
    m_X11_walk_l37 FU a0 i1 0 w1
  else
    some (0, w1)
set_option maxRecDepth 100000 in
set_option maxHeartbeats 4000000 in
theorem jm_X11_walk_b27 {n0 : Nat} {rr : Int32} {ws' : LWd} (a0 : Nat) (i1 : Int32) (s0 : Nat) (s1 : Int32) (ws : LWd) (h : m_X11_walk_b27 a0 i1 s0 s1 ws = some (rr, ws')) : JG false cX11_walk 3 RX11 wsX11_walk (some .int) "walk" 7 0 0 n0 (.inl (some (.int rr)), ws') 27 [some (.ref a0), some (.int i1), none] [.int s1, .ref s0] ws 0 0 := by
  unfold m_X11_walk_b27 at h
  obtain ⟨x3, w1, e2, h⟩ := obS2 h
  have ge2 := calSR_of e2
  refine j_callV_g (pc := 27) (As := [.int s1]) (k' := 0) (n' := 0) dX11_walk_27 (s_X11_fails ge2.1) gX11_walk_X11_fails rfl hv_X11_fails rfl (r_X11_fails ge2.1) rfl (by decide) (by decide) (by decide) (by decide) (by decide) (by decide) (by decide) (Or.inl ge2.2) ?_
  refine j_if_eq (pc := 30) (tgt := 35) dX11_walk_30 (by decide) (fun c4 => ?_) (fun c4 => ?_)
  · rw [if_pos c4] at h
    refine j_iconst (pc := 35) dX11_walk_35 (v := 0) (by decide) ?_
    refine j_istore_n_2 (pc := 36) dX11_walk_36 (by decide) rfl ?_
    exact jm_X11_walk_l37 FU _ _ _ w1 h
  · rw [if_neg c4] at h
    refine j_iconst (pc := 33) dX11_walk_33 (v := 0) (by decide) ?_
    obtain ⟨rfl, rfl⟩ := jretS h
    exact j_iret (pc := 34) rfl dX11_walk_34 (by decide) (by decide) rfl
def m_X11_walk (a0 : Nat) (i1 : Int32) (ws : LWd) : Option (Int32 × LWd) :=
  (rcv ws a0 11).bind fun _ =>
  bn2 (calSR ws (m_X11_isIn i1 1 20 ws)) fun x3 w1 =>
  if x3 = 0 then
    m_X11_walk_b27 a0 i1 a0 1 w1
  else
    (fI w1 a0 11 25).bind fun x5 =>
    if x5 = 0 then
      m_X11_walk_b27 a0 i1 a0 2 w1
    else
      m_X11_walk_b27 a0 i1 a0 0 w1
set_option maxRecDepth 100000 in
set_option maxHeartbeats 4000000 in
theorem s_X11_walk {a0 : Nat} {i1 : Int32} {ws : LWd} {rr : Int32} {ws' : LWd} (h : m_X11_walk a0 i1 ws = some (rr, ws')) : jSp yX11_walk wsX11_walk 7 0 0 [.ref a0, .int i1] ws (.inl (some (.int rr)), ws') := by
  unfold m_X11_walk at h
  refine j_entry (ret := (some .int)) (nm := "walk") (own := RX11) pl_X11 rfl rfl rfl (jcats (by rfl)) (by decide) ?_
  show JG false cX11_walk 3 RX11 wsX11_walk (some .int) "walk" 7 0 0 ws.length (.inl (some (.int rr)), ws') 0 [some (.ref a0), some (.int i1), none] [] ws 0 0
  obtain ⟨_, _, h⟩ := obS h
  refine j_aload_n (pc := 0) dX11_walk_0 rfl ?_
  refine j_iload_n (pc := 1) dX11_walk_1 rfl ?_
  refine j_iconst (pc := 2) dX11_walk_2 (v := 1) (by decide) ?_
  refine j_bipush (pc := 3) dX11_walk_3 (v := 20) (by decide) ?_
  obtain ⟨x3, w1, e2, h⟩ := obS2 h
  have ge2 := calSR_of e2
  refine j_callS_g (pc := 5) (As := [.int i1, .int 1, .int 20]) (k' := 0) (n' := 0) dX11_walk_5 (s_X11_isIn ge2.1) gX11_walk_X11_isIn rfl hy_X11_isIn rfl (by decide) (by decide) (by decide) (by decide) (by decide) (by decide) (by decide) (Or.inl ge2.2) ?_
  refine j_if_ne (pc := 8) (tgt := 15) dX11_walk_8 (by decide) (fun c4 => ?_) (fun c4 => ?_)
  · rw [if_neg c4] at h
    refine j_aload_n (pc := 15) dX11_walk_15 rfl ?_
    obtain ⟨x5, e6, h⟩ := obS h
    refine j_getI (pc := 16) dX11_walk_16 (ci := 11) (kf := 25) rfl hin_X11_walk_X11 (by decide) lk_X11_walk_1 e6 ?_
    refine j_if_ne (pc := 19) (tgt := 26) dX11_walk_19 (by decide) (fun c7 => ?_) (fun c7 => ?_)
    · rw [if_neg c7] at h
      refine j_iconst (pc := 26) dX11_walk_26 (v := 0) (by decide) ?_
      exact jm_X11_walk_b27 _ _ _ _ w1 h
    · rw [if_pos c7] at h
      refine j_iconst (pc := 22) dX11_walk_22 (v := 2) (by decide) ?_
      refine j_goto (pc := 23) (tgt := 27) dX11_walk_23 (by decide) ?_
      exact jm_X11_walk_b27 _ _ _ _ w1 h
  · rw [if_pos c4] at h
    refine j_iconst (pc := 11) dX11_walk_11 (v := 1) (by decide) ?_
    refine j_goto (pc := 12) (tgt := 27) dX11_walk_12 (by decide) ?_
    exact jm_X11_walk_b27 _ _ _ _ w1 h
theorem r_X11_walk {a0 : Nat} {i1 : Int32} {ws : LWd} {o : (Int32 × LWd)} (h : m_X11_walk a0 i1 ws = some o) : ∃ fs, ws[a0]? = some (.inr (11, fs)) := rcv_in h
theorem hin_X11_machine_X11 : ∀ w ∈ u_ws RX11 TX11 31, w ∈ wsX11_machine := fun w h => List.mem_cons_of_mem _ (List.mem_append_right _ h)
theorem lk_X11_machine_0 : Cond.fieldLink RX11 22 "GaitwrightModel" "bodyX" "I" ∈ wsX11_machine := List.mem_cons_of_mem _ (List.mem_append_left _ (List.mem_append_left _ (List.mem_of_getElem? (i := 0) rfl)))
theorem lk_X11_machine_1 : Cond.fieldLink RX11 26 "GaitwrightModel" "bodyY" "I" ∈ wsX11_machine := List.mem_cons_of_mem _ (List.mem_append_left _ (List.mem_append_left _ (List.mem_of_getElem? (i := 1) rfl)))
theorem lk_X11_machine_2 : Cond.fieldLink RX11 84 "GaitwrightModel" "stands" "Z" ∈ wsX11_machine := List.mem_cons_of_mem _ (List.mem_append_left _ (List.mem_append_left _ (List.mem_of_getElem? (i := 2) rfl)))
theorem lk_X11_machine_3 : Cond.fieldLink RX11 29 "GaitwrightModel" "energy" "I" ∈ wsX11_machine := List.mem_cons_of_mem _ (List.mem_append_left _ (List.mem_append_left _ (List.mem_of_getElem? (i := 3) rfl)))
theorem lk_X11_machine_4 : Cond.fieldLink RX11 100 "GaitwrightModel" "load" "I" ∈ wsX11_machine := List.mem_cons_of_mem _ (List.mem_append_left _ (List.mem_append_left _ (List.mem_of_getElem? (i := 4) rfl)))
theorem lk_X11_machine_5 : Cond.fieldLink RX11 66 "GaitwrightModel" "down" "I" ∈ wsX11_machine := List.mem_cons_of_mem _ (List.mem_append_left _ (List.mem_append_left _ (List.mem_of_getElem? (i := 5) rfl)))
theorem lk_X11_machine_6 : Cond.fieldLink RX11 140 "GaitwrightModel" "broken" "I" ∈ wsX11_machine := List.mem_cons_of_mem _ (List.mem_append_left _ (List.mem_append_left _ (List.mem_of_getElem? (i := 6) rfl)))
theorem lk_X11_machine_7 : Cond.fieldLink RX11 183 "GaitwrightModel" "falls" "I" ∈ wsX11_machine := List.mem_cons_of_mem _ (List.mem_append_left _ (List.mem_append_left _ (List.mem_of_getElem? (i := 7) rfl)))
theorem lk_X11_machine_8 : Cond.fieldLink RX11 63 "GaitwrightModel" "legs" "I" ∈ wsX11_machine := List.mem_cons_of_mem _ (List.mem_append_left _ (List.mem_append_left _ (List.mem_of_getElem? (i := 8) rfl)))
theorem lk_X11_machine_9 : Cond.fieldLink RX11 91 "GaitwrightModel" "phases" "I" ∈ wsX11_machine := List.mem_cons_of_mem _ (List.mem_append_left _ (List.mem_append_left _ (List.mem_of_getElem? (i := 9) rfl)))
theorem lk_X11_machine_10 : Cond.fieldLink RX11 94 "GaitwrightModel" "next" "I" ∈ wsX11_machine := List.mem_cons_of_mem _ (List.mem_append_left _ (List.mem_append_left _ (List.mem_of_getElem? (i := 10) rfl)))
def m_X11_machine_b16 (a0 : Nat) (i1 : Int32) (s0 : Nat) (s1 : Int32) (ws : LWd) : Option (Int32 × LWd) :=
  bn2 (calSR ws (m_X11_fails s0 s1 ws)) fun x3 w1 =>
  if x3 = 0 then
    if i1 = 0 then
      (fI w1 a0 11 5).bind fun x6 =>
      some (x6, w1)
    else
      if i1 = 1 then
        (fI w1 a0 11 6).bind fun x9 =>
        some (x9, w1)
      else
        if i1 = 2 then
          (fI w1 a0 11 4).bind fun x12 =>
          if x12 = 0 then
            some (0, w1)
          else
            some (1, w1)
        else
          if i1 = 3 then
            (fI w1 a0 11 7).bind fun x16 =>
            some (x16, w1)
          else
            if i1 = 4 then
              (fI w1 a0 11 8).bind fun x19 =>
              some (x19, w1)
            else
              if i1 = 5 then
                (fI w1 a0 11 17).bind fun x22 =>
                bn2 (calSR w1 (m_X11_level a0 x22 w1)) fun x26 w24 =>
                some (x26, w24)
              else
                if i1 = 6 then
                  (fI w1 a0 11 17).bind fun x28 =>
                  bn2 (calSR w1 (m_X11_pressure a0 x28 w1)) fun x32 w30 =>
                  some (x32, w30)
                else
                  if i1 = 7 then
                    (fI w1 a0 11 17).bind fun x34 =>
                    bn2 (calSR w1 (m_X11_count x34 w1)) fun x38 w36 =>
                    some (x38, w36)
                  else
                    if i1 = 8 then
                      (fI w1 a0 11 18).bind fun x40 =>
                      some (x40, w1)
                    else
                      if i1 = 9 then
                        (fI w1 a0 11 23).bind fun x43 =>
                        some (x43, w1)
                      else
                        if i1 = 10 then
                          (fI w1 a0 11 11).bind fun x46 =>
                          some (x46, w1)
                        else
                          (fI w1 a0 11 25).bind fun x48 =>
                          if x48 = 0 then
                            some ((-1), w1)
                          else
                            (fI w1 a0 11 26).bind fun x51 =>
                            some (x51, w1)
  else
    some (0, w1)
set_option maxRecDepth 100000 in
set_option maxHeartbeats 4000000 in
theorem jm_X11_machine_b16 {n0 : Nat} {rr : Int32} {ws' : LWd} (a0 : Nat) (i1 : Int32) (s0 : Nat) (s1 : Int32) (ws : LWd) (h : m_X11_machine_b16 a0 i1 s0 s1 ws = some (rr, ws')) : JG false cX11_machine 2 RX11 wsX11_machine (some .int) "machine" 2 0 0 n0 (.inl (some (.int rr)), ws') 16 [some (.ref a0), some (.int i1)] [.int s1, .ref s0] ws 0 0 := by
  unfold m_X11_machine_b16 at h
  obtain ⟨x3, w1, e2, h⟩ := obS2 h
  have ge2 := calSR_of e2
  refine j_callV_g (pc := 16) (As := [.int s1]) (k' := 0) (n' := 0) dX11_machine_16 (s_X11_fails ge2.1) gX11_machine_X11_fails rfl hv_X11_fails rfl (r_X11_fails ge2.1) rfl (by decide) (by decide) (by decide) (by decide) (by decide) (by decide) (by decide) (Or.inl ge2.2) ?_
  refine j_if_eq (pc := 19) (tgt := 24) dX11_machine_19 (by decide) (fun c4 => ?_) (fun c4 => ?_)
  · rw [if_pos c4] at h
    refine j_iload_n (pc := 24) dX11_machine_24 rfl ?_
    by_cases c5 : i1 = 0
    · rw [if_pos c5] at h
      refine j_tabEq (pc := 25) (tgt := 84) (a := 0) dX11_machine_25 c5 rfl (by decide) (by decide) rfl (by decide) ?_
      refine j_aload_n (pc := 84) dX11_machine_84 rfl ?_
      obtain ⟨x6, e7, h⟩ := obS h
      refine j_getI (pc := 85) dX11_machine_85 (ci := 11) (kf := 5) rfl hin_X11_machine_X11 (by decide) lk_X11_machine_0 e7 ?_
      obtain ⟨rfl, rfl⟩ := jretS h
      exact j_iret (pc := 88) rfl dX11_machine_88 (by decide) (by decide) rfl
    · rw [if_neg c5] at h
      by_cases c8 : i1 = 1
      · rw [if_pos c8] at h
        refine j_tabEq (pc := 25) (tgt := 89) (a := 1) dX11_machine_25 c8 rfl (by decide) (by decide) rfl (by decide) ?_
        refine j_aload_n (pc := 89) dX11_machine_89 rfl ?_
        obtain ⟨x9, e10, h⟩ := obS h
        refine j_getI (pc := 90) dX11_machine_90 (ci := 11) (kf := 6) rfl hin_X11_machine_X11 (by decide) lk_X11_machine_1 e10 ?_
        obtain ⟨rfl, rfl⟩ := jretS h
        exact j_iret (pc := 93) rfl dX11_machine_93 (by decide) (by decide) rfl
      · rw [if_neg c8] at h
        by_cases c11 : i1 = 2
        · rw [if_pos c11] at h
          refine j_tabEq (pc := 25) (tgt := 94) (a := 2) dX11_machine_25 c11 rfl (by decide) (by decide) rfl (by decide) ?_
          refine j_aload_n (pc := 94) dX11_machine_94 rfl ?_
          obtain ⟨x12, e13, h⟩ := obS h
          refine j_getI (pc := 95) dX11_machine_95 (ci := 11) (kf := 4) rfl hin_X11_machine_X11 (by decide) lk_X11_machine_2 e13 ?_
          refine j_if_eq (pc := 98) (tgt := 105) dX11_machine_98 (by decide) (fun c14 => ?_) (fun c14 => ?_)
          · rw [if_pos c14] at h
            refine j_iconst (pc := 105) dX11_machine_105 (v := 0) (by decide) ?_
            obtain ⟨rfl, rfl⟩ := jretS h
            exact j_iret (pc := 106) rfl dX11_machine_106 (by decide) (by decide) rfl
          · rw [if_neg c14] at h
            refine j_iconst (pc := 101) dX11_machine_101 (v := 1) (by decide) ?_
            refine j_goto (pc := 102) (tgt := 106) dX11_machine_102 (by decide) ?_
            obtain ⟨rfl, rfl⟩ := jretS h
            exact j_iret (pc := 106) rfl dX11_machine_106 (by decide) (by decide) rfl
        · rw [if_neg c11] at h
          by_cases c15 : i1 = 3
          · rw [if_pos c15] at h
            refine j_tabEq (pc := 25) (tgt := 107) (a := 3) dX11_machine_25 c15 rfl (by decide) (by decide) rfl (by decide) ?_
            refine j_aload_n (pc := 107) dX11_machine_107 rfl ?_
            obtain ⟨x16, e17, h⟩ := obS h
            refine j_getI (pc := 108) dX11_machine_108 (ci := 11) (kf := 7) rfl hin_X11_machine_X11 (by decide) lk_X11_machine_3 e17 ?_
            obtain ⟨rfl, rfl⟩ := jretS h
            exact j_iret (pc := 111) rfl dX11_machine_111 (by decide) (by decide) rfl
          · rw [if_neg c15] at h
            by_cases c18 : i1 = 4
            · rw [if_pos c18] at h
              refine j_tabEq (pc := 25) (tgt := 112) (a := 4) dX11_machine_25 c18 rfl (by decide) (by decide) rfl (by decide) ?_
              refine j_aload_n (pc := 112) dX11_machine_112 rfl ?_
              obtain ⟨x19, e20, h⟩ := obS h
              refine j_getI (pc := 113) dX11_machine_113 (ci := 11) (kf := 8) rfl hin_X11_machine_X11 (by decide) lk_X11_machine_4 e20 ?_
              obtain ⟨rfl, rfl⟩ := jretS h
              exact j_iret (pc := 116) rfl dX11_machine_116 (by decide) (by decide) rfl
            · rw [if_neg c18] at h
              by_cases c21 : i1 = 5
              · rw [if_pos c21] at h
                refine j_tabEq (pc := 25) (tgt := 117) (a := 5) dX11_machine_25 c21 rfl (by decide) (by decide) rfl (by decide) ?_
                refine j_aload_n (pc := 117) dX11_machine_117 rfl ?_
                refine j_aload_n (pc := 118) dX11_machine_118 rfl ?_
                obtain ⟨x22, e23, h⟩ := obS h
                refine j_getI (pc := 119) dX11_machine_119 (ci := 11) (kf := 17) rfl hin_X11_machine_X11 (by decide) lk_X11_machine_5 e23 ?_
                obtain ⟨x26, w24, e25, h⟩ := obS2 h
                have ge25 := calSR_of e25
                refine j_callV_g (pc := 122) (As := [.int x22]) (k' := 0) (n' := 0) dX11_machine_122 (s_X11_level ge25.1) gX11_machine_X11_level rfl hv_X11_level rfl (r_X11_level ge25.1) rfl (by decide) (by decide) (by decide) (by decide) (by decide) (by decide) (by decide) (Or.inl ge25.2) ?_
                obtain ⟨rfl, rfl⟩ := jretS h
                exact j_iret (pc := 125) rfl dX11_machine_125 (by decide) (by decide) rfl
              · rw [if_neg c21] at h
                by_cases c27 : i1 = 6
                · rw [if_pos c27] at h
                  refine j_tabEq (pc := 25) (tgt := 126) (a := 6) dX11_machine_25 c27 rfl (by decide) (by decide) rfl (by decide) ?_
                  refine j_aload_n (pc := 126) dX11_machine_126 rfl ?_
                  refine j_aload_n (pc := 127) dX11_machine_127 rfl ?_
                  obtain ⟨x28, e29, h⟩ := obS h
                  refine j_getI (pc := 128) dX11_machine_128 (ci := 11) (kf := 17) rfl hin_X11_machine_X11 (by decide) lk_X11_machine_5 e29 ?_
                  obtain ⟨x32, w30, e31, h⟩ := obS2 h
                  have ge31 := calSR_of e31
                  refine j_callV_g (pc := 131) (As := [.int x28]) (k' := 0) (n' := 0) dX11_machine_131 (s_X11_pressure ge31.1) gX11_machine_X11_pressure rfl hv_X11_pressure rfl (r_X11_pressure ge31.1) rfl (by decide) (by decide) (by decide) (by decide) (by decide) (by decide) (by decide) (Or.inl ge31.2) ?_
                  obtain ⟨rfl, rfl⟩ := jretS h
                  exact j_iret (pc := 134) rfl dX11_machine_134 (by decide) (by decide) rfl
                · rw [if_neg c27] at h
                  by_cases c33 : i1 = 7
                  · rw [if_pos c33] at h
                    refine j_tabEq (pc := 25) (tgt := 135) (a := 7) dX11_machine_25 c33 rfl (by decide) (by decide) rfl (by decide) ?_
                    refine j_aload_n (pc := 135) dX11_machine_135 rfl ?_
                    obtain ⟨x34, e35, h⟩ := obS h
                    refine j_getI (pc := 136) dX11_machine_136 (ci := 11) (kf := 17) rfl hin_X11_machine_X11 (by decide) lk_X11_machine_5 e35 ?_
                    obtain ⟨x38, w36, e37, h⟩ := obS2 h
                    have ge37 := calSR_of e37
                    refine j_callS_g (pc := 139) (As := [.int x34]) (k' := 0) (n' := 0) dX11_machine_139 (s_X11_count ge37.1) gX11_machine_X11_count rfl hy_X11_count rfl (by decide) (by decide) (by decide) (by decide) (by decide) (by decide) (by decide) (Or.inl ge37.2) ?_
                    obtain ⟨rfl, rfl⟩ := jretS h
                    exact j_iret (pc := 142) rfl dX11_machine_142 (by decide) (by decide) rfl
                  · rw [if_neg c33] at h
                    by_cases c39 : i1 = 8
                    · rw [if_pos c39] at h
                      refine j_tabEq (pc := 25) (tgt := 143) (a := 8) dX11_machine_25 c39 rfl (by decide) (by decide) rfl (by decide) ?_
                      refine j_aload_n (pc := 143) dX11_machine_143 rfl ?_
                      obtain ⟨x40, e41, h⟩ := obS h
                      refine j_getI (pc := 144) dX11_machine_144 (ci := 11) (kf := 18) rfl hin_X11_machine_X11 (by decide) lk_X11_machine_6 e41 ?_
                      obtain ⟨rfl, rfl⟩ := jretS h
                      exact j_iret (pc := 147) rfl dX11_machine_147 (by decide) (by decide) rfl
                    · rw [if_neg c39] at h
                      by_cases c42 : i1 = 9
                      · rw [if_pos c42] at h
                        refine j_tabEq (pc := 25) (tgt := 148) (a := 9) dX11_machine_25 c42 rfl (by decide) (by decide) rfl (by decide) ?_
                        refine j_aload_n (pc := 148) dX11_machine_148 rfl ?_
                        obtain ⟨x43, e44, h⟩ := obS h
                        refine j_getI (pc := 149) dX11_machine_149 (ci := 11) (kf := 23) rfl hin_X11_machine_X11 (by decide) lk_X11_machine_7 e44 ?_
                        obtain ⟨rfl, rfl⟩ := jretS h
                        exact j_iret (pc := 152) rfl dX11_machine_152 (by decide) (by decide) rfl
                      · rw [if_neg c42] at h
                        by_cases c45 : i1 = 10
                        · rw [if_pos c45] at h
                          refine j_tabEq (pc := 25) (tgt := 153) (a := 10) dX11_machine_25 c45 rfl (by decide) (by decide) rfl (by decide) ?_
                          refine j_aload_n (pc := 153) dX11_machine_153 rfl ?_
                          obtain ⟨x46, e47, h⟩ := obS h
                          refine j_getI (pc := 154) dX11_machine_154 (ci := 11) (kf := 11) rfl hin_X11_machine_X11 (by decide) lk_X11_machine_8 e47 ?_
                          obtain ⟨rfl, rfl⟩ := jretS h
                          exact j_iret (pc := 157) rfl dX11_machine_157 (by decide) (by decide) rfl
                        · rw [if_neg c45] at h
                          refine j_tabOut (pc := 25) (tgt := 158) dX11_machine_25 (jout11 c5 c8 c11 c15 c18 c21 c27 c33 c39 c42 c45) (by decide) ?_
                          refine j_aload_n (pc := 158) dX11_machine_158 rfl ?_
                          obtain ⟨x48, e49, h⟩ := obS h
                          refine j_getI (pc := 159) dX11_machine_159 (ci := 11) (kf := 25) rfl hin_X11_machine_X11 (by decide) lk_X11_machine_9 e49 ?_
                          refine j_if_ne (pc := 162) (tgt := 169) dX11_machine_162 (by decide) (fun c50 => ?_) (fun c50 => ?_)
                          · rw [if_neg c50] at h
                            refine j_aload_n (pc := 169) dX11_machine_169 rfl ?_
                            obtain ⟨x51, e52, h⟩ := obS h
                            refine j_getI (pc := 170) dX11_machine_170 (ci := 11) (kf := 26) rfl hin_X11_machine_X11 (by decide) lk_X11_machine_10 e52 ?_
                            obtain ⟨rfl, rfl⟩ := jretS h
                            exact j_iret (pc := 173) rfl dX11_machine_173 (by decide) (by decide) rfl
                          · rw [if_pos c50] at h
                            refine j_iconst (pc := 165) dX11_machine_165 (v := (-1)) (by decide) ?_
                            refine j_goto (pc := 166) (tgt := 173) dX11_machine_166 (by decide) ?_
                            obtain ⟨rfl, rfl⟩ := jretS h
                            exact j_iret (pc := 173) rfl dX11_machine_173 (by decide) (by decide) rfl
  · rw [if_neg c4] at h
    refine j_iconst (pc := 22) dX11_machine_22 (v := 0) (by decide) ?_
    obtain ⟨rfl, rfl⟩ := jretS h
    exact j_iret (pc := 23) rfl dX11_machine_23 (by decide) (by decide) rfl
def m_X11_machine (a0 : Nat) (i1 : Int32) (ws : LWd) : Option (Int32 × LWd) :=
  (rcv ws a0 11).bind fun _ =>
  bn2 (calSR ws (m_X11_isIn i1 0 11 ws)) fun x3 w1 =>
  if x3 = 0 then
    m_X11_machine_b16 a0 i1 a0 1 w1
  else
    m_X11_machine_b16 a0 i1 a0 0 w1
set_option maxRecDepth 100000 in
set_option maxHeartbeats 4000000 in
theorem s_X11_machine {a0 : Nat} {i1 : Int32} {ws : LWd} {rr : Int32} {ws' : LWd} (h : m_X11_machine a0 i1 ws = some (rr, ws')) : jSp yX11_machine wsX11_machine 2 0 0 [.ref a0, .int i1] ws (.inl (some (.int rr)), ws') := by
  unfold m_X11_machine at h
  refine j_entry (ret := (some .int)) (nm := "machine") (own := RX11) pl_X11 rfl rfl rfl (jcats (by rfl)) (by decide) ?_
  show JG false cX11_machine 2 RX11 wsX11_machine (some .int) "machine" 2 0 0 ws.length (.inl (some (.int rr)), ws') 0 [some (.ref a0), some (.int i1)] [] ws 0 0
  obtain ⟨_, _, h⟩ := obS h
  refine j_aload_n (pc := 0) dX11_machine_0 rfl ?_
  refine j_iload_n (pc := 1) dX11_machine_1 rfl ?_
  refine j_iconst (pc := 2) dX11_machine_2 (v := 0) (by decide) ?_
  refine j_bipush (pc := 3) dX11_machine_3 (v := 11) (by decide) ?_
  obtain ⟨x3, w1, e2, h⟩ := obS2 h
  have ge2 := calSR_of e2
  refine j_callS_g (pc := 5) (As := [.int i1, .int 0, .int 11]) (k' := 0) (n' := 0) dX11_machine_5 (s_X11_isIn ge2.1) gX11_machine_X11_isIn rfl hy_X11_isIn rfl (by decide) (by decide) (by decide) (by decide) (by decide) (by decide) (by decide) (Or.inl ge2.2) ?_
  refine j_if_eq (pc := 8) (tgt := 15) dX11_machine_8 (by decide) (fun c4 => ?_) (fun c4 => ?_)
  · rw [if_pos c4] at h
    refine j_iconst (pc := 15) dX11_machine_15 (v := 1) (by decide) ?_
    exact jm_X11_machine_b16 _ _ _ _ w1 h
  · rw [if_neg c4] at h
    refine j_iconst (pc := 11) dX11_machine_11 (v := 0) (by decide) ?_
    refine j_goto (pc := 12) (tgt := 16) dX11_machine_12 (by decide) ?_
    exact jm_X11_machine_b16 _ _ _ _ w1 h
theorem r_X11_machine {a0 : Nat} {i1 : Int32} {ws : LWd} {o : (Int32 × LWd)} (h : m_X11_machine a0 i1 ws = some o) : ∃ fs, ws[a0]? = some (.inr (11, fs)) := rcv_in h
theorem hin_X11_foot_X11 : ∀ w ∈ u_ws RX11 TX11 31, w ∈ wsX11_foot := fun w h => List.mem_cons_of_mem _ (List.mem_append_right _ h)
theorem lk_X11_foot_0 : Cond.fieldLink RX11 44 "GaitwrightModel" "footY" "[I" ∈ wsX11_foot := List.mem_cons_of_mem _ (List.mem_append_left _ (List.mem_of_getElem? (i := 1) rfl))
theorem lk_X11_foot_1 : Cond.fieldLink RX11 41 "GaitwrightModel" "footX" "[I" ∈ wsX11_foot := List.mem_cons_of_mem _ (List.mem_append_left _ (List.mem_of_getElem? (i := 0) rfl))
def m_X11_foot_b27 (a0 : Nat) (i1 : Int32) (i2 : Int32) (s0 : Nat) (s1 : Int32) (ws : LWd) : Option (Int32 × LWd) :=
  bn2 (calSR ws (m_X11_fails s0 s1 ws)) fun x3 w1 =>
  if x3 = 0 then
    if i2 = 0 then
      bn2 (calSR w1 (m_X11_isDown a0 i1 w1)) fun x21 w19 =>
      if x21 = 0 then
        some (0, w19)
      else
        some (1, w19)
    else
      bn2 (calSR w1 (m_X11_isDown a0 i1 w1)) fun x8 w6 =>
      if x8 = 0 then
        some ((-1), w6)
      else
        if i2 = 1 then
          (fR w6 a0 11 15).bind fun x15 =>
          (aI w6 x15 i1).bind fun x17 =>
          some (x17, w6)
        else
          (fR w6 a0 11 16).bind fun x11 =>
          (aI w6 x11 i1).bind fun x13 =>
          some (x13, w6)
  else
    some (0, w1)
set_option maxRecDepth 100000 in
set_option maxHeartbeats 4000000 in
theorem jm_X11_foot_b27 {n0 : Nat} {rr : Int32} {ws' : LWd} (a0 : Nat) (i1 : Int32) (i2 : Int32) (s0 : Nat) (s1 : Int32) (ws : LWd) (h : m_X11_foot_b27 a0 i1 i2 s0 s1 ws = some (rr, ws')) : JG false cX11_foot 3 RX11 wsX11_foot (some .int) "foot" 2 0 0 n0 (.inl (some (.int rr)), ws') 27 [some (.ref a0), some (.int i1), some (.int i2)] [.int s1, .ref s0] ws 0 0 := by
  unfold m_X11_foot_b27 at h
  obtain ⟨x3, w1, e2, h⟩ := obS2 h
  have ge2 := calSR_of e2
  refine j_callV_g (pc := 27) (As := [.int s1]) (k' := 0) (n' := 0) dX11_foot_27 (s_X11_fails ge2.1) gX11_foot_X11_fails rfl hv_X11_fails rfl (r_X11_fails ge2.1) rfl (by decide) (by decide) (by decide) (by decide) (by decide) (by decide) (by decide) (Or.inl ge2.2) ?_
  refine j_if_eq (pc := 30) (tgt := 35) dX11_foot_30 (by decide) (fun c4 => ?_) (fun c4 => ?_)
  · rw [if_pos c4] at h
    refine j_iload_n (pc := 35) dX11_foot_35 rfl ?_
    refine j_if_ne (pc := 36) (tgt := 55) dX11_foot_36 (by decide) (fun c5 => ?_) (fun c5 => ?_)
    · rw [if_neg c5] at h
      refine j_aload_n (pc := 55) dX11_foot_55 rfl ?_
      refine j_iload_n (pc := 56) dX11_foot_56 rfl ?_
      obtain ⟨x8, w6, e7, h⟩ := obS2 h
      have ge7 := calSR_of e7
      refine j_callV_g (pc := 57) (As := [.int i1]) (k' := 0) (n' := 0) dX11_foot_57 (s_X11_isDown ge7.1) gX11_foot_X11_isDown rfl hv_X11_isDown rfl (r_X11_isDown ge7.1) rfl (by decide) (by decide) (by decide) (by decide) (by decide) (by decide) (by decide) (Or.inl ge7.2) ?_
      refine j_if_ne (pc := 60) (tgt := 67) dX11_foot_60 (by decide) (fun c9 => ?_) (fun c9 => ?_)
      · rw [if_neg c9] at h
        refine j_iload_n (pc := 67) dX11_foot_67 rfl ?_
        refine j_iconst (pc := 68) dX11_foot_68 (v := 1) (by decide) ?_
        refine j_icmp_ne (pc := 69) (tgt := 81) dX11_foot_69 (by decide) (fun c10 => ?_) (fun c10 => ?_)
        · rw [if_neg c10] at h
          refine j_aload_n (pc := 81) dX11_foot_81 rfl ?_
          obtain ⟨x11, e12, h⟩ := obS h
          refine j_getR (pc := 82) dX11_foot_82 (ci := 11) (kf := 16) rfl hin_X11_foot_X11 (by decide) lk_X11_foot_0 e12 ?_
          refine j_iload_n (pc := 85) dX11_foot_85 rfl ?_
          obtain ⟨x13, e14, h⟩ := obS h
          refine j_iald (pc := 86) dX11_foot_86 e14 ?_
          obtain ⟨rfl, rfl⟩ := jretS h
          exact j_iret (pc := 87) rfl dX11_foot_87 (by decide) (by decide) rfl
        · rw [if_pos c10] at h
          refine j_aload_n (pc := 72) dX11_foot_72 rfl ?_
          obtain ⟨x15, e16, h⟩ := obS h
          refine j_getR (pc := 73) dX11_foot_73 (ci := 11) (kf := 15) rfl hin_X11_foot_X11 (by decide) lk_X11_foot_1 e16 ?_
          refine j_iload_n (pc := 76) dX11_foot_76 rfl ?_
          obtain ⟨x17, e18, h⟩ := obS h
          refine j_iald (pc := 77) dX11_foot_77 e18 ?_
          refine j_goto (pc := 78) (tgt := 87) dX11_foot_78 (by decide) ?_
          obtain ⟨rfl, rfl⟩ := jretS h
          exact j_iret (pc := 87) rfl dX11_foot_87 (by decide) (by decide) rfl
      · rw [if_pos c9] at h
        refine j_iconst (pc := 63) dX11_foot_63 (v := (-1)) (by decide) ?_
        refine j_goto (pc := 64) (tgt := 87) dX11_foot_64 (by decide) ?_
        obtain ⟨rfl, rfl⟩ := jretS h
        exact j_iret (pc := 87) rfl dX11_foot_87 (by decide) (by decide) rfl
    · rw [if_pos c5] at h
      refine j_aload_n (pc := 39) dX11_foot_39 rfl ?_
      refine j_iload_n (pc := 40) dX11_foot_40 rfl ?_
      obtain ⟨x21, w19, e20, h⟩ := obS2 h
      have ge20 := calSR_of e20
      refine j_callV_g (pc := 41) (As := [.int i1]) (k' := 0) (n' := 0) dX11_foot_41 (s_X11_isDown ge20.1) gX11_foot_X11_isDown rfl hv_X11_isDown rfl (r_X11_isDown ge20.1) rfl (by decide) (by decide) (by decide) (by decide) (by decide) (by decide) (by decide) (Or.inl ge20.2) ?_
      refine j_if_eq (pc := 44) (tgt := 51) dX11_foot_44 (by decide) (fun c22 => ?_) (fun c22 => ?_)
      · rw [if_pos c22] at h
        refine j_iconst (pc := 51) dX11_foot_51 (v := 0) (by decide) ?_
        refine j_goto (pc := 52) (tgt := 87) dX11_foot_52 (by decide) ?_
        obtain ⟨rfl, rfl⟩ := jretS h
        exact j_iret (pc := 87) rfl dX11_foot_87 (by decide) (by decide) rfl
      · rw [if_neg c22] at h
        refine j_iconst (pc := 47) dX11_foot_47 (v := 1) (by decide) ?_
        refine j_goto (pc := 48) (tgt := 87) dX11_foot_48 (by decide) ?_
        obtain ⟨rfl, rfl⟩ := jretS h
        exact j_iret (pc := 87) rfl dX11_foot_87 (by decide) (by decide) rfl
  · rw [if_neg c4] at h
    refine j_iconst (pc := 33) dX11_foot_33 (v := 0) (by decide) ?_
    obtain ⟨rfl, rfl⟩ := jretS h
    exact j_iret (pc := 34) rfl dX11_foot_34 (by decide) (by decide) rfl
def m_X11_foot (a0 : Nat) (i1 : Int32) (i2 : Int32) (ws : LWd) : Option (Int32 × LWd) :=
  (rcv ws a0 11).bind fun _ =>
  bn2 (calSR ws (m_X11_isLeg a0 i1 ws)) fun x3 w1 =>
  if x3 = 0 then
    m_X11_foot_b27 a0 i1 i2 a0 1 w1
  else
    bn2 (calSR w1 (m_X11_isIn i2 0 2 w1)) fun x7 w5 =>
    if x7 = 0 then
      m_X11_foot_b27 a0 i1 i2 a0 2 w5
    else
      m_X11_foot_b27 a0 i1 i2 a0 0 w5
set_option maxRecDepth 100000 in
set_option maxHeartbeats 4000000 in
theorem s_X11_foot {a0 : Nat} {i1 : Int32} {i2 : Int32} {ws : LWd} {rr : Int32} {ws' : LWd} (h : m_X11_foot a0 i1 i2 ws = some (rr, ws')) : jSp yX11_foot wsX11_foot 2 0 0 [.ref a0, .int i1, .int i2] ws (.inl (some (.int rr)), ws') := by
  unfold m_X11_foot at h
  refine j_entry (ret := (some .int)) (nm := "foot") (own := RX11) pl_X11 rfl rfl rfl (jcats (by rfl)) (by decide) ?_
  show JG false cX11_foot 3 RX11 wsX11_foot (some .int) "foot" 2 0 0 ws.length (.inl (some (.int rr)), ws') 0 [some (.ref a0), some (.int i1), some (.int i2)] [] ws 0 0
  obtain ⟨_, _, h⟩ := obS h
  refine j_aload_n (pc := 0) dX11_foot_0 rfl ?_
  refine j_aload_n (pc := 1) dX11_foot_1 rfl ?_
  refine j_iload_n (pc := 2) dX11_foot_2 rfl ?_
  obtain ⟨x3, w1, e2, h⟩ := obS2 h
  have ge2 := calSR_of e2
  refine j_callV_g (pc := 3) (As := [.int i1]) (k' := 0) (n' := 0) dX11_foot_3 (s_X11_isLeg ge2.1) gX11_foot_X11_isLeg rfl hv_X11_isLeg rfl (r_X11_isLeg ge2.1) rfl (by decide) (by decide) (by decide) (by decide) (by decide) (by decide) (by decide) (Or.inl ge2.2) ?_
  refine j_if_ne (pc := 6) (tgt := 13) dX11_foot_6 (by decide) (fun c4 => ?_) (fun c4 => ?_)
  · rw [if_neg c4] at h
    refine j_iload_n (pc := 13) dX11_foot_13 rfl ?_
    refine j_iconst (pc := 14) dX11_foot_14 (v := 0) (by decide) ?_
    refine j_iconst (pc := 15) dX11_foot_15 (v := 2) (by decide) ?_
    obtain ⟨x7, w5, e6, h⟩ := obS2 h
    have ge6 := calSR_of e6
    refine j_callS_g (pc := 16) (As := [.int i2, .int 0, .int 2]) (k' := 0) (n' := 0) dX11_foot_16 (s_X11_isIn ge6.1) gX11_foot_X11_isIn rfl hy_X11_isIn rfl (by decide) (by decide) (by decide) (by decide) (by decide) (by decide) (by decide) (Or.inl ge6.2) ?_
    refine j_if_eq (pc := 19) (tgt := 26) dX11_foot_19 (by decide) (fun c8 => ?_) (fun c8 => ?_)
    · rw [if_pos c8] at h
      refine j_iconst (pc := 26) dX11_foot_26 (v := 2) (by decide) ?_
      exact jm_X11_foot_b27 _ _ _ _ _ w5 h
    · rw [if_neg c8] at h
      refine j_iconst (pc := 22) dX11_foot_22 (v := 0) (by decide) ?_
      refine j_goto (pc := 23) (tgt := 27) dX11_foot_23 (by decide) ?_
      exact jm_X11_foot_b27 _ _ _ _ _ w5 h
  · rw [if_pos c4] at h
    refine j_iconst (pc := 9) dX11_foot_9 (v := 1) (by decide) ?_
    refine j_goto (pc := 10) (tgt := 27) dX11_foot_10 (by decide) ?_
    exact jm_X11_foot_b27 _ _ _ _ _ w1 h
theorem r_X11_foot {a0 : Nat} {i1 : Int32} {i2 : Int32} {ws : LWd} {o : (Int32 × LWd)} (h : m_X11_foot a0 i1 i2 ws = some o) : ∃ fs, ws[a0]? = some (.inr (11, fs)) := rcv_in h
theorem hin_X11_point_X11 : ∀ w ∈ u_ws RX11 TX11 31, w ∈ wsX11_point := fun w h => List.mem_cons_of_mem _ (List.mem_append_right _ h)
theorem lk_X11_point_0 : Cond.fieldLink RX11 19 "GaitwrightModel" "mapped" "[I" ∈ wsX11_point := List.mem_cons_of_mem _ (List.mem_append_left _ (List.mem_of_getElem? (i := 3) rfl))
theorem lk_X11_point_1 : Cond.fieldLink RX11 16 "GaitwrightModel" "grip" "[I" ∈ wsX11_point := List.mem_cons_of_mem _ (List.mem_append_left _ (List.mem_of_getElem? (i := 2) rfl))
theorem lk_X11_point_2 : Cond.fieldLink RX11 13 "GaitwrightModel" "firm" "[I" ∈ wsX11_point := List.mem_cons_of_mem _ (List.mem_append_left _ (List.mem_of_getElem? (i := 1) rfl))
theorem lk_X11_point_3 : Cond.fieldLink RX11 7 "GaitwrightModel" "height" "[I" ∈ wsX11_point := List.mem_cons_of_mem _ (List.mem_append_left _ (List.mem_of_getElem? (i := 0) rfl))
def m_X11_point_b23 (a0 : Nat) (i1 : Int32) (i2 : Int32) (i3 : Int32) (s0 : Nat) (s1 : Int32) (ws : LWd) : Option (Int32 × LWd) :=
  bn2 (calSR ws (m_X11_fails s0 s1 ws)) fun x3 w1 =>
  if x3 = 0 then
    bn2 (calSR w1 (m_X11_at i1 i2 w1)) fun x7 w5 =>
    if i3 = 0 then
      (fR w5 a0 11 0).bind fun x23 =>
      (aI w5 x23 x7).bind fun x25 =>
      some (x25, w5)
    else
      if i3 = 1 then
        (fR w5 a0 11 1).bind fun x19 =>
        (aI w5 x19 x7).bind fun x21 =>
        some (x21, w5)
      else
        if i3 = 2 then
          (fR w5 a0 11 2).bind fun x15 =>
          (aI w5 x15 x7).bind fun x17 =>
          some (x17, w5)
        else
          (fR w5 a0 11 3).bind fun x11 =>
          (aI w5 x11 x7).bind fun x13 =>
          some (x13, w5)
  else
    some (0, w1)
set_option maxRecDepth 100000 in
set_option maxHeartbeats 4000000 in
theorem jm_X11_point_b23 {n0 : Nat} {rr : Int32} {ws' : LWd} (a0 : Nat) (i1 : Int32) (i2 : Int32) (i3 : Int32) (s0 : Nat) (s1 : Int32) (ws : LWd) (h : m_X11_point_b23 a0 i1 i2 i3 s0 s1 ws = some (rr, ws')) : JG false cX11_point 5 RX11 wsX11_point (some .int) "point" 2 0 0 n0 (.inl (some (.int rr)), ws') 23 [some (.ref a0), some (.int i1), some (.int i2), some (.int i3), none] [.int s1, .ref s0] ws 0 0 := by
  unfold m_X11_point_b23 at h
  obtain ⟨x3, w1, e2, h⟩ := obS2 h
  have ge2 := calSR_of e2
  refine j_callV_g (pc := 23) (As := [.int s1]) (k' := 0) (n' := 0) dX11_point_23 (s_X11_fails ge2.1) gX11_point_X11_fails rfl hv_X11_fails rfl (r_X11_fails ge2.1) rfl (by decide) (by decide) (by decide) (by decide) (by decide) (by decide) (by decide) (Or.inl ge2.2) ?_
  refine j_if_eq (pc := 26) (tgt := 31) dX11_point_26 (by decide) (fun c4 => ?_) (fun c4 => ?_)
  · rw [if_pos c4] at h
    refine j_iload_n (pc := 31) dX11_point_31 rfl ?_
    refine j_iload_n (pc := 32) dX11_point_32 rfl ?_
    obtain ⟨x7, w5, e6, h⟩ := obS2 h
    have ge6 := calSR_of e6
    refine j_callS_g (pc := 33) (As := [.int i1, .int i2]) (k' := 0) (n' := 0) dX11_point_33 (s_X11_at ge6.1) gX11_point_X11_at rfl hy_X11_at rfl (by decide) (by decide) (by decide) (by decide) (by decide) (by decide) (by decide) (Or.inl ge6.2) ?_
    refine j_istore_4 (pc := 36) dX11_point_36 (by decide) rfl ?_
    refine j_iload_n (pc := 38) dX11_point_38 rfl ?_
    refine j_if_ne (pc := 39) (tgt := 52) dX11_point_39 (by decide) (fun c8 => ?_) (fun c8 => ?_)
    · rw [if_neg c8] at h
      refine j_iload_n (pc := 52) dX11_point_52 rfl ?_
      refine j_iconst (pc := 53) dX11_point_53 (v := 1) (by decide) ?_
      refine j_icmp_ne (pc := 54) (tgt := 67) dX11_point_54 (by decide) (fun c9 => ?_) (fun c9 => ?_)
      · rw [if_neg c9] at h
        refine j_iload_n (pc := 67) dX11_point_67 rfl ?_
        refine j_iconst (pc := 68) dX11_point_68 (v := 2) (by decide) ?_
        refine j_icmp_ne (pc := 69) (tgt := 82) dX11_point_69 (by decide) (fun c10 => ?_) (fun c10 => ?_)
        · rw [if_neg c10] at h
          refine j_aload_n (pc := 82) dX11_point_82 rfl ?_
          obtain ⟨x11, e12, h⟩ := obS h
          refine j_getR (pc := 83) dX11_point_83 (ci := 11) (kf := 3) rfl hin_X11_point_X11 (by decide) lk_X11_point_0 e12 ?_
          refine j_iload (pc := 86) dX11_point_86 rfl ?_
          obtain ⟨x13, e14, h⟩ := obS h
          refine j_iald (pc := 88) dX11_point_88 e14 ?_
          obtain ⟨rfl, rfl⟩ := jretS h
          exact j_iret (pc := 89) rfl dX11_point_89 (by decide) (by decide) rfl
        · rw [if_pos c10] at h
          refine j_aload_n (pc := 72) dX11_point_72 rfl ?_
          obtain ⟨x15, e16, h⟩ := obS h
          refine j_getR (pc := 73) dX11_point_73 (ci := 11) (kf := 2) rfl hin_X11_point_X11 (by decide) lk_X11_point_1 e16 ?_
          refine j_iload (pc := 76) dX11_point_76 rfl ?_
          obtain ⟨x17, e18, h⟩ := obS h
          refine j_iald (pc := 78) dX11_point_78 e18 ?_
          refine j_goto (pc := 79) (tgt := 89) dX11_point_79 (by decide) ?_
          obtain ⟨rfl, rfl⟩ := jretS h
          exact j_iret (pc := 89) rfl dX11_point_89 (by decide) (by decide) rfl
      · rw [if_pos c9] at h
        refine j_aload_n (pc := 57) dX11_point_57 rfl ?_
        obtain ⟨x19, e20, h⟩ := obS h
        refine j_getR (pc := 58) dX11_point_58 (ci := 11) (kf := 1) rfl hin_X11_point_X11 (by decide) lk_X11_point_2 e20 ?_
        refine j_iload (pc := 61) dX11_point_61 rfl ?_
        obtain ⟨x21, e22, h⟩ := obS h
        refine j_iald (pc := 63) dX11_point_63 e22 ?_
        refine j_goto (pc := 64) (tgt := 89) dX11_point_64 (by decide) ?_
        obtain ⟨rfl, rfl⟩ := jretS h
        exact j_iret (pc := 89) rfl dX11_point_89 (by decide) (by decide) rfl
    · rw [if_pos c8] at h
      refine j_aload_n (pc := 42) dX11_point_42 rfl ?_
      obtain ⟨x23, e24, h⟩ := obS h
      refine j_getR (pc := 43) dX11_point_43 (ci := 11) (kf := 0) rfl hin_X11_point_X11 (by decide) lk_X11_point_3 e24 ?_
      refine j_iload (pc := 46) dX11_point_46 rfl ?_
      obtain ⟨x25, e26, h⟩ := obS h
      refine j_iald (pc := 48) dX11_point_48 e26 ?_
      refine j_goto (pc := 49) (tgt := 89) dX11_point_49 (by decide) ?_
      obtain ⟨rfl, rfl⟩ := jretS h
      exact j_iret (pc := 89) rfl dX11_point_89 (by decide) (by decide) rfl
  · rw [if_neg c4] at h
    refine j_iconst (pc := 29) dX11_point_29 (v := 0) (by decide) ?_
    obtain ⟨rfl, rfl⟩ := jretS h
    exact j_iret (pc := 30) rfl dX11_point_30 (by decide) (by decide) rfl
def m_X11_point_b22 (a0 : Nat) (i1 : Int32) (i2 : Int32) (i3 : Int32) (s0 : Nat) (ws : LWd) : Option (Int32 × LWd) :=
  m_X11_point_b23 a0 i1 i2 i3 s0 1 ws
set_option maxRecDepth 100000 in
set_option maxHeartbeats 4000000 in
theorem jm_X11_point_b22 {n0 : Nat} {rr : Int32} {ws' : LWd} (a0 : Nat) (i1 : Int32) (i2 : Int32) (i3 : Int32) (s0 : Nat) (ws : LWd) (h : m_X11_point_b22 a0 i1 i2 i3 s0 ws = some (rr, ws')) : JG false cX11_point 5 RX11 wsX11_point (some .int) "point" 2 0 0 n0 (.inl (some (.int rr)), ws') 22 [some (.ref a0), some (.int i1), some (.int i2), some (.int i3), none] [.ref s0] ws 0 0 := by
  unfold m_X11_point_b22 at h
  refine j_iconst (pc := 22) dX11_point_22 (v := 1) (by decide) ?_
  exact jm_X11_point_b23 _ _ _ _ _ _ ws h
def m_X11_point (a0 : Nat) (i1 : Int32) (i2 : Int32) (i3 : Int32) (ws : LWd) : Option (Int32 × LWd) :=
  (rcv ws a0 11).bind fun _ =>
  bn2 (calSR ws (m_X11_isPoint i1 i2 ws)) fun x3 w1 =>
  if x3 = 0 then
    m_X11_point_b22 a0 i1 i2 i3 a0 w1
  else
    bn2 (calSR w1 (m_X11_isIn i3 0 3 w1)) fun x7 w5 =>
    if x7 = 0 then
      m_X11_point_b22 a0 i1 i2 i3 a0 w5
    else
      m_X11_point_b23 a0 i1 i2 i3 a0 0 w5
set_option maxRecDepth 100000 in
set_option maxHeartbeats 4000000 in
theorem s_X11_point {a0 : Nat} {i1 : Int32} {i2 : Int32} {i3 : Int32} {ws : LWd} {rr : Int32} {ws' : LWd} (h : m_X11_point a0 i1 i2 i3 ws = some (rr, ws')) : jSp yX11_point wsX11_point 2 0 0 [.ref a0, .int i1, .int i2, .int i3] ws (.inl (some (.int rr)), ws') := by
  unfold m_X11_point at h
  refine j_entry (ret := (some .int)) (nm := "point") (own := RX11) pl_X11 rfl rfl rfl (jcats (by rfl)) (by decide) ?_
  show JG false cX11_point 5 RX11 wsX11_point (some .int) "point" 2 0 0 ws.length (.inl (some (.int rr)), ws') 0 [some (.ref a0), some (.int i1), some (.int i2), some (.int i3), none] [] ws 0 0
  obtain ⟨_, _, h⟩ := obS h
  refine j_aload_n (pc := 0) dX11_point_0 rfl ?_
  refine j_iload_n (pc := 1) dX11_point_1 rfl ?_
  refine j_iload_n (pc := 2) dX11_point_2 rfl ?_
  obtain ⟨x3, w1, e2, h⟩ := obS2 h
  have ge2 := calSR_of e2
  refine j_callS_g (pc := 3) (As := [.int i1, .int i2]) (k' := 0) (n' := 0) dX11_point_3 (s_X11_isPoint ge2.1) gX11_point_X11_isPoint rfl hy_X11_isPoint rfl (by decide) (by decide) (by decide) (by decide) (by decide) (by decide) (by decide) (Or.inl ge2.2) ?_
  refine j_if_eq (pc := 6) (tgt := 22) dX11_point_6 (by decide) (fun c4 => ?_) (fun c4 => ?_)
  · rw [if_pos c4] at h
    exact jm_X11_point_b22 _ _ _ _ _ w1 h
  · rw [if_neg c4] at h
    refine j_iload_n (pc := 9) dX11_point_9 rfl ?_
    refine j_iconst (pc := 10) dX11_point_10 (v := 0) (by decide) ?_
    refine j_iconst (pc := 11) dX11_point_11 (v := 3) (by decide) ?_
    obtain ⟨x7, w5, e6, h⟩ := obS2 h
    have ge6 := calSR_of e6
    refine j_callS_g (pc := 12) (As := [.int i3, .int 0, .int 3]) (k' := 0) (n' := 0) dX11_point_12 (s_X11_isIn ge6.1) gX11_point_X11_isIn rfl hy_X11_isIn rfl (by decide) (by decide) (by decide) (by decide) (by decide) (by decide) (by decide) (Or.inl ge6.2) ?_
    refine j_if_eq (pc := 15) (tgt := 22) dX11_point_15 (by decide) (fun c8 => ?_) (fun c8 => ?_)
    · rw [if_pos c8] at h
      exact jm_X11_point_b22 _ _ _ _ _ w5 h
    · rw [if_neg c8] at h
      refine j_iconst (pc := 18) dX11_point_18 (v := 0) (by decide) ?_
      refine j_goto (pc := 19) (tgt := 23) dX11_point_19 (by decide) ?_
      exact jm_X11_point_b23 _ _ _ _ _ _ w5 h
theorem r_X11_point {a0 : Nat} {i1 : Int32} {i2 : Int32} {i3 : Int32} {ws : LWd} {o : (Int32 × LWd)} (h : m_X11_point a0 i1 i2 i3 ws = some o) : ∃ fs, ws[a0]? = some (.inr (11, fs)) := rcv_in h
theorem lk_X11_isStable_0 : Cond.fieldLink RX11 56 "GaitwrightModel" "thrown" "I" ∈ wsX11_isStable := List.mem_cons_of_mem _ (List.mem_append_left _ (List.mem_append_left _ (List.mem_of_getElem? (i := 0) rfl)))
theorem hin_X11_isStable_X11 : ∀ w ∈ u_ws RX11 TX11 31, w ∈ wsX11_isStable := fun w h => List.mem_cons_of_mem _ (List.mem_append_right _ h)
theorem lk_X11_isStable_1 : Cond.fieldLink RX11 66 "GaitwrightModel" "down" "I" ∈ wsX11_isStable := List.mem_cons_of_mem _ (List.mem_append_left _ (List.mem_append_left _ (List.mem_of_getElem? (i := 1) rfl)))
def m_X11_isStable (a0 : Nat) (ws : LWd) : Option (Int32 × LWd) :=
  (rcv ws a0 11).bind fun _ =>
  (pV ws a0 11 30 (.int 0)).bind fun w1 =>
  (fI w1 a0 11 17).bind fun x3 =>
  bn2 (calSR w1 (m_X11_holds a0 x3 w1)) fun x7 w5 =>
  retZ x7 w5
set_option maxRecDepth 100000 in
set_option maxHeartbeats 4000000 in
theorem s_X11_isStable {a0 : Nat} {ws : LWd} {rr : Int32} {ws' : LWd} (h : m_X11_isStable a0 ws = some (rr, ws')) : jSp yX11_isStable wsX11_isStable 4 0 0 [.ref a0] ws (.inl (some (.int rr)), ws') := by
  unfold m_X11_isStable at h
  refine j_entry (ret := (some .boolean)) (nm := "isStable") (own := RX11) pl_X11 rfl rfl rfl (jcats (by rfl)) (by decide) ?_
  show JG false cX11_isStable 1 RX11 wsX11_isStable (some .boolean) "isStable" 4 0 0 ws.length (.inl (some (.int rr)), ws') 0 [some (.ref a0)] [] ws 0 0
  obtain ⟨_, _, h⟩ := obS h
  refine j_aload_n (pc := 0) dX11_isStable_0 rfl ?_
  refine j_iconst (pc := 1) dX11_isStable_1 (v := 0) (by decide) ?_
  obtain ⟨w1, e2, h⟩ := obS h
  refine j_putV (pc := 2) (ci := 11) (kf := 30) tyX11 tyX11_ok nmX11 dX11_isStable_2 rfl hin_X11_isStable_X11 (by decide) lk_X11_isStable_0 rfl (fun _ => rfl) (fun _ => rfl) e2 ?_
  refine j_aload_n (pc := 5) dX11_isStable_5 rfl ?_
  refine j_aload_n (pc := 6) dX11_isStable_6 rfl ?_
  obtain ⟨x3, e4, h⟩ := obS h
  refine j_getI (pc := 7) dX11_isStable_7 (ci := 11) (kf := 17) rfl hin_X11_isStable_X11 (by decide) lk_X11_isStable_1 e4 ?_
  obtain ⟨x7, w5, e6, h⟩ := obS2 h
  have ge6 := calSR_of e6
  refine j_callV_g (pc := 10) (As := [.int x3]) (k' := 0) (n' := 0) dX11_isStable_10 (s_X11_holds ge6.1) gX11_isStable_X11_holds rfl hv_X11_holds rfl (r_X11_holds ge6.1) rfl (by decide) (by decide) (by decide) (by decide) (by decide) (by decide) (by decide) (Or.inl ge6.2) ?_
  exact j_zret (pc := 13) rfl dX11_isStable_13 (by decide) (by decide) h rfl rfl
theorem r_X11_isStable {a0 : Nat} {ws : LWd} {o : (Int32 × LWd)} (h : m_X11_isStable a0 ws = some o) : ∃ fs, ws[a0]? = some (.inr (11, fs)) := rcv_in h
def m_X11_isStableAnew (a0 : Nat) (ws : LWd) : Option (Int32 × LWd) :=
  (rcv ws a0 11).bind fun _ =>
  bn2 (calSR ws (m_X11_isStable a0 ws)) fun x3 w1 =>
  retZ x3 w1
set_option maxRecDepth 100000 in
set_option maxHeartbeats 4000000 in
theorem s_X11_isStableAnew {a0 : Nat} {ws : LWd} {rr : Int32} {ws' : LWd} (h : m_X11_isStableAnew a0 ws = some (rr, ws')) : jSp yX11_isStableAnew wsX11_isStableAnew 5 0 0 [.ref a0] ws (.inl (some (.int rr)), ws') := by
  unfold m_X11_isStableAnew at h
  refine j_entry (ret := (some .boolean)) (nm := "isStableAnew") (own := RX11) pl_X11 rfl rfl rfl (jcats (by rfl)) (by decide) ?_
  show JG false cX11_isStableAnew 1 RX11 wsX11_isStableAnew (some .boolean) "isStableAnew" 5 0 0 ws.length (.inl (some (.int rr)), ws') 0 [some (.ref a0)] [] ws 0 0
  obtain ⟨_, _, h⟩ := obS h
  refine j_aload_n (pc := 0) dX11_isStableAnew_0 rfl ?_
  obtain ⟨x3, w1, e2, h⟩ := obS2 h
  have ge2 := calSR_of e2
  refine j_callV_g (pc := 1) (As := []) (k' := 0) (n' := 0) dX11_isStableAnew_1 (s_X11_isStable ge2.1) gX11_isStableAnew_X11_isStable rfl hv_X11_isStable rfl (r_X11_isStable ge2.1) rfl (by decide) (by decide) (by decide) (by decide) (by decide) (by decide) (by decide) (Or.inl ge2.2) ?_
  exact j_zret (pc := 4) rfl dX11_isStableAnew_4 (by decide) (by decide) h rfl rfl
theorem r_X11_isStableAnew {a0 : Nat} {ws : LWd} {o : (Int32 × LWd)} (h : m_X11_isStableAnew a0 ws = some o) : ∃ fs, ws[a0]? = some (.inr (11, fs)) := rcv_in h
def m_Jxf58ca_isNaN_12338 (f0 : UInt32) (ws : LWd) : Option (Int32 × LWd) :=
  if (Op.cmpValue (FP.fcmp f0 f0) .l) = 0 then
    some (0, ws)
  else
    some (1, ws)
set_option maxRecDepth 100000 in
set_option maxHeartbeats 4000000 in
theorem s_Jxf58ca_isNaN_12338 {f0 : UInt32} {ws : LWd} {rr : Int32} {ws' : LWd} (h : m_Jxf58ca_isNaN_12338 f0 ws = some (rr, ws')) : jSp yJxf58ca_isNaN_12338 wsJxf58ca_isNaN_12338 0 0 0 [.float f0] ws (.inl (some (.int rr)), ws') := by
  unfold m_Jxf58ca_isNaN_12338 at h
  refine j_entry (ret := (some .boolean)) (nm := "isNaN") (own := RJxf58ca) pl_Jxf58ca rfl rfl rfl (jcats (by rfl)) (by decide) ?_
  show JG false cJxf58ca_isNaN_12338 1 RJxf58ca wsJxf58ca_isNaN_12338 (some .boolean) "isNaN" 0 0 0 ws.length (.inl (some (.int rr)), ws') 0 [some (.float f0)] [] ws 0 0
  refine j_fload_n (pc := 0) dJxf58ca_isNaN_12338_0 rfl ?_
  refine j_fload_n (pc := 1) dJxf58ca_isNaN_12338_1 rfl ?_
  refine j_fcmp (pc := 2) dJxf58ca_isNaN_12338_2 ?_
  refine j_if_eq (pc := 3) (tgt := 10) dJxf58ca_isNaN_12338_3 (by decide) (fun c1 => ?_) (fun c1 => ?_)
  · rw [if_pos c1] at h
    refine j_iconst (pc := 10) dJxf58ca_isNaN_12338_10 (v := 0) (by decide) ?_
    obtain ⟨rfl, rfl⟩ := jretS h
    exact j_zret (pc := 11) (ws1 := ws) rfl dJxf58ca_isNaN_12338_11 (by decide) (by decide) (show retZ 0 ws = some (0, ws) from rfl) rfl rfl
  · rw [if_neg c1] at h
    refine j_iconst (pc := 6) dJxf58ca_isNaN_12338_6 (v := 1) (by decide) ?_
    refine j_goto (pc := 7) (tgt := 11) dJxf58ca_isNaN_12338_7 (by decide) ?_
    obtain ⟨rfl, rfl⟩ := jretS h
    exact j_zret (pc := 11) (ws1 := ws) rfl dJxf58ca_isNaN_12338_11 (by decide) (by decide) (show retZ 1 ws = some (1, ws) from rfl) rfl rfl
theorem lk_Jxf58ca_floatToIntBits_5c35a_0 : Cond.constant RJxf58ca 77 (2143289344) ∈ wsJxf58ca_floatToIntBits_5c35a := List.mem_cons_of_mem _ (List.mem_of_getElem? (i := 4) rfl)
theorem lk_Jxf58ca_floatToIntBits_5c35a_1 : Cond.methodLink RJxf58ca 74 ⟨"java/lang/Float", "floatToRawIntBits", "(F)I"⟩ ∈ wsJxf58ca_floatToIntBits_5c35a := List.mem_cons_of_mem _ (List.mem_of_getElem? (i := 0) rfl)
theorem lk_Jxf58ca_floatToIntBits_5c35a_2 : Cond.native ⟨"java/lang/Float", "floatToRawIntBits", "(F)I"⟩ ∈ wsJxf58ca_floatToIntBits_5c35a := List.mem_cons_of_mem _ (List.mem_of_getElem? (i := 1) rfl)
theorem lk_Jxf58ca_floatToIntBits_5c35a_3 : Cond.static ⟨"java/lang/Float", "floatToRawIntBits", "(F)I"⟩ ∈ wsJxf58ca_floatToIntBits_5c35a := List.mem_cons_of_mem _ (List.mem_of_getElem? (i := 2) rfl)
theorem lk_Jxf58ca_floatToIntBits_5c35a_4 : Cond.initialized "java/lang/Float" ∈ wsJxf58ca_floatToIntBits_5c35a := List.mem_cons_of_mem _ (List.mem_of_getElem? (i := 3) rfl)
def m_Jxf58ca_floatToIntBits_5c35a (f0 : UInt32) (ws : LWd) : Option (Int32 × LWd) :=
  bn2 (calSR ws (m_Jxf58ca_isNaN_12338 f0 ws)) fun x3 w1 =>
  if x3 = 0 then
    some (jraw f0, w1)
  else
    some (2143289344, w1)
set_option maxRecDepth 100000 in
set_option maxHeartbeats 4000000 in
theorem s_Jxf58ca_floatToIntBits_5c35a {f0 : UInt32} {ws : LWd} {rr : Int32} {ws' : LWd} (h : m_Jxf58ca_floatToIntBits_5c35a f0 ws = some (rr, ws')) : jSp yJxf58ca_floatToIntBits_5c35a wsJxf58ca_floatToIntBits_5c35a 1 0 0 [.float f0] ws (.inl (some (.int rr)), ws') := by
  unfold m_Jxf58ca_floatToIntBits_5c35a at h
  refine j_entry (ret := (some .int)) (nm := "floatToIntBits") (own := RJxf58ca) pl_Jxf58ca rfl rfl rfl (jcats (by rfl)) (by decide) ?_
  show JG false cJxf58ca_floatToIntBits_5c35a 1 RJxf58ca wsJxf58ca_floatToIntBits_5c35a (some .int) "floatToIntBits" 1 0 0 ws.length (.inl (some (.int rr)), ws') 0 [some (.float f0)] [] ws 0 0
  refine j_fload_n (pc := 0) dJxf58ca_floatToIntBits_5c35a_0 rfl ?_
  obtain ⟨x3, w1, e2, h⟩ := obS2 h
  have ge2 := calSR_of e2
  refine j_callS_g (pc := 1) (As := [.float f0]) (k' := 0) (n' := 0) dJxf58ca_floatToIntBits_5c35a_1 (s_Jxf58ca_isNaN_12338 ge2.1) gJxf58ca_floatToIntBits_5c35a_Jxf58ca_isNaN_12338 rfl hy_Jxf58ca_isNaN_12338 rfl (by decide) (by decide) (by decide) (by decide) (by decide) (by decide) (by decide) (Or.inl ge2.2) ?_
  refine j_if_ne (pc := 4) (tgt := 12) dJxf58ca_floatToIntBits_5c35a_4 (by decide) (fun c4 => ?_) (fun c4 => ?_)
  · rw [if_neg c4] at h
    refine j_ldc (pc := 12) dJxf58ca_floatToIntBits_5c35a_12 (v := 2143289344) lk_Jxf58ca_floatToIntBits_5c35a_0 ?_
    obtain ⟨rfl, rfl⟩ := jretS h
    exact j_iret (pc := 14) rfl dJxf58ca_floatToIntBits_5c35a_14 (by decide) (by decide) rfl
  · rw [if_pos c4] at h
    refine j_fload_n (pc := 7) dJxf58ca_floatToIntBits_5c35a_7 rfl ?_
    refine j_raw (pc := 8) dJxf58ca_floatToIntBits_5c35a_8 lk_Jxf58ca_floatToIntBits_5c35a_1 lk_Jxf58ca_floatToIntBits_5c35a_2 lk_Jxf58ca_floatToIntBits_5c35a_3 lk_Jxf58ca_floatToIntBits_5c35a_4 (by decide) (by decide) ?_
    obtain ⟨rfl, rfl⟩ := jretS h
    exact j_iret (pc := 11) rfl dJxf58ca_floatToIntBits_5c35a_11 (by decide) (by decide) rfl
theorem hin_X11_margin_X11 : ∀ w ∈ u_ws RX11 TX11 31, w ∈ wsX11_margin := fun w h => List.mem_cons_of_mem _ (List.mem_append_right _ h)
theorem lk_X11_margin_0 : Cond.fieldLink RX11 113 "GaitwrightModel" "corners" "I" ∈ wsX11_margin := List.mem_cons_of_mem _ (List.mem_append_left _ (List.mem_append_left _ (List.mem_of_getElem? (i := 3) rfl)))
theorem lk_X11_margin_1 : Cond.fieldLink RX11 53 "GaitwrightModel" "corner" "[I" ∈ wsX11_margin := List.mem_cons_of_mem _ (List.mem_append_left _ (List.mem_append_left _ (List.mem_of_getElem? (i := 4) rfl)))
theorem lk_X11_margin_2 : Cond.fieldLink RX11 56 "GaitwrightModel" "thrown" "I" ∈ wsX11_margin := List.mem_cons_of_mem _ (List.mem_append_left _ (List.mem_append_left _ (List.mem_of_getElem? (i := 0) rfl)))
theorem lk_X11_margin_3 : Cond.fieldLink RX11 66 "GaitwrightModel" "down" "I" ∈ wsX11_margin := List.mem_cons_of_mem _ (List.mem_append_left _ (List.mem_append_left _ (List.mem_of_getElem? (i := 1) rfl)))
theorem lk_X11_margin_4 : Cond.constantFloat RX11 226 (3212836864) ∈ wsX11_margin := List.mem_cons_of_mem _ (List.mem_append_left _ (List.mem_append_left _ (List.mem_of_getElem? (i := 2) rfl)))
def m_X11_margin_b121 (f1 : UInt32) (ws : LWd) : Option (Int32 × LWd) :=
  bn2 (calSR ws (m_Jxf58ca_floatToIntBits_5c35a f1 ws)) fun x3 w1 =>
  some (x3, w1)
set_option maxRecDepth 100000 in
set_option maxHeartbeats 4000000 in
theorem jm_X11_margin_b121 {n0 : Nat} {rr : Int32} {ws' : LWd} (f1 : UInt32) (ws : LWd) (h : m_X11_margin_b121 f1 ws = some (rr, ws')) : JG false cX11_margin 8 RX11 wsX11_margin (some .int) "margin" 4 0 0 n0 (.inl (some (.int rr)), ws') 121 [none, some (.float f1), none, none, none, none, none, none] [] ws 0 0 := by
  unfold m_X11_margin_b121 at h
  refine j_fload_n (pc := 121) dX11_margin_121 rfl ?_
  obtain ⟨x3, w1, e2, h⟩ := obS2 h
  have ge2 := calSR_of e2
  refine j_callS_g (pc := 122) (As := [.float f1]) (k' := 0) (n' := 0) dX11_margin_122 (s_Jxf58ca_floatToIntBits_5c35a ge2.1) gX11_margin_Jxf58ca_floatToIntBits_5c35a rfl hy_Jxf58ca_floatToIntBits_5c35a rfl (by decide) (by decide) (by decide) (by decide) (by decide) (by decide) (by decide) (Or.inl ge2.2) ?_
  obtain ⟨rfl, rfl⟩ := jretS h
  exact j_iret (pc := 125) rfl dX11_margin_125 (by decide) (by decide) rfl
def m_X11_margin_b114 (k26 : Nat → UInt32 → Int32 → LWd → Option (Int32 × LWd)) (a0 : Nat) (i2 : Int32) (s0 : UInt32) (ws : LWd) : Option (Int32 × LWd) :=
  k26 a0 s0 (i2 + 1) ws
set_option maxRecDepth 100000 in
set_option maxHeartbeats 4000000 in
theorem jm_X11_margin_b114 {n0 : Nat} {rr : Int32} {ws' : LWd} {k26 : Nat → UInt32 → Int32 → LWd → Option (Int32 × LWd)} (hk26 : ∀ (a0 : Nat) (f1 : UInt32) (i2 : Int32) (ws : LWd), k26 a0 f1 i2 ws = some (rr, ws') → JG false cX11_margin 8 RX11 wsX11_margin (some .int) "margin" 4 0 0 n0 (.inl (some (.int rr)), ws') 26 [some (.ref a0), some (.float f1), some (.int i2), none, none, none, none, none] [] ws 0 0) (a0 : Nat) (i2 : Int32) (s0 : UInt32) (ws : LWd) (h : m_X11_margin_b114 k26 a0 i2 s0 ws = some (rr, ws')) : JG false cX11_margin 8 RX11 wsX11_margin (some .int) "margin" 4 0 0 n0 (.inl (some (.int rr)), ws') 114 [some (.ref a0), none, some (.int i2), none, none, none, none, none] [.float s0] ws 0 0 := by
  unfold m_X11_margin_b114 at h
  refine j_fstore_n_1 (pc := 114) dX11_margin_114 (by decide) rfl ?_
  refine j_iinc_2 (pc := 115) dX11_margin_115 (y := i2 + 1) rfl (by decide) rfl ?_
  refine j_goto (pc := 118) (tgt := 26) dX11_margin_118 (by decide) ?_
  exact hk26 _ _ _ ws h
def m_X11_margin_b108 (k26 : Nat → UInt32 → Int32 → LWd → Option (Int32 × LWd)) (a0 : Nat) (i2 : Int32) (f7 : UInt32) (ws : LWd) : Option (Int32 × LWd) :=
  m_X11_margin_b114 k26 a0 i2 f7 ws
set_option maxRecDepth 100000 in
set_option maxHeartbeats 4000000 in
theorem jm_X11_margin_b108 {n0 : Nat} {rr : Int32} {ws' : LWd} {k26 : Nat → UInt32 → Int32 → LWd → Option (Int32 × LWd)} (hk26 : ∀ (a0 : Nat) (f1 : UInt32) (i2 : Int32) (ws : LWd), k26 a0 f1 i2 ws = some (rr, ws') → JG false cX11_margin 8 RX11 wsX11_margin (some .int) "margin" 4 0 0 n0 (.inl (some (.int rr)), ws') 26 [some (.ref a0), some (.float f1), some (.int i2), none, none, none, none, none] [] ws 0 0) (a0 : Nat) (i2 : Int32) (f7 : UInt32) (ws : LWd) (h : m_X11_margin_b108 k26 a0 i2 f7 ws = some (rr, ws')) : JG false cX11_margin 8 RX11 wsX11_margin (some .int) "margin" 4 0 0 n0 (.inl (some (.int rr)), ws') 108 [some (.ref a0), none, some (.int i2), none, none, none, none, some (.float f7)] [] ws 0 0 := by
  unfold m_X11_margin_b108 at h
  refine j_fload (pc := 108) dX11_margin_108 rfl ?_
  refine j_goto (pc := 110) (tgt := 114) dX11_margin_110 (by decide) ?_
  refine j_mask [true, false, true, false, false, false, false, false] ?_
  exact jm_X11_margin_b114 (hk26 := hk26) _ _ _ ws h
def m_X11_margin_l26 : Nat → Nat → UInt32 → Int32 → LWd → Option (Int32 × LWd)
  | 0, _, _, _, _ => none
  | fu + 1, a0, f1, i2, ws =>
    (fI ws a0 11 28).bind fun x1 =>
    if x1 ≤ i2 then
      m_X11_margin_b121 f1 ws
    else
      (fI ws a0 11 28).bind fun x4 =>
      if x4 ≤ 2 then
        m_X11_margin_b121 f1 ws
      else
        bn2 (calSR ws (m_X11_makes a0 i2 ws)) fun x9 w7 =>
        (fR w7 a0 11 29).bind fun x10 =>
        (aI w7 x10 i2).bind fun x12 =>
        (fR w7 a0 11 29).bind fun x14 =>
        (fI w7 a0 11 28).bind fun x16 =>
        if x16 = 0 then none else
        (aI w7 x14 (jrem (i2 + 1) x16)).bind fun x19 =>
        bn2 (calSR w7 (m_X11_square a0 x12 x19 w7)) fun x23 w21 =>
        bn2 (calSR w21 (m_X11_weight a0 w21)) fun x26 w24 =>
        bn2 (calSR w24 (m_X11_weight a0 w24)) fun x29 w27 =>
        (jnn (FP.fdiv (FP.l2f (x9.toInt64 * x9.toInt64)) (FP.l2f ((x23.toInt64 * x26.toInt64) * x29.toInt64)))).bind fun x30 =>
        if i2 = 0 then
          m_X11_margin_b108 (fun z0 z1 z2 w => m_X11_margin_l26 fu z0 z1 z2 w) a0 i2 x30 w27
        else
          if 0 ≤ (Op.cmpValue (FP.fcmp x30 f1) .g) then
            m_X11_margin_b114 (fun z0 z1 z2 w => m_X11_margin_l26 fu z0 z1 z2 w) a0 i2 f1 w27
          else
            m_X11_margin_b108 (fun z0 z1 z2 w => m_X11_margin_l26 fu z0 z1 z2 w) a0 i2 x30 w27
set_option maxRecDepth 100000 in
set_option maxHeartbeats 4000000 in
theorem jm_X11_margin_l26 {n0 : Nat} {rr : Int32} {ws' : LWd} : ∀ (fu : Nat) (a0 : Nat) (f1 : UInt32) (i2 : Int32) (ws : LWd), m_X11_margin_l26 fu a0 f1 i2 ws = some (rr, ws') → JG false cX11_margin 8 RX11 wsX11_margin (some .int) "margin" 4 0 0 n0 (.inl (some (.int rr)), ws') 26 [some (.ref a0), some (.float f1), some (.int i2), none, none, none, none, none] [] ws 0 0 := by
  intro fu
  induction fu with
  | zero => intro a0 f1 i2 ws h; cases h
  | succ fu ih =>
    intro a0 f1 i2 ws h
    rw [m_X11_margin_l26] at h
    refine j_iload_n (pc := 26) dX11_margin_26 rfl ?_
    refine j_aload_n (pc := 27) dX11_margin_27 rfl ?_
    obtain ⟨x1, e2, h⟩ := obS h
    refine j_getI (pc := 28) dX11_margin_28 (ci := 11) (kf := 28) rfl hin_X11_margin_X11 (by decide) lk_X11_margin_0 e2 ?_
    refine j_icmp_ge (pc := 31) (tgt := 121) dX11_margin_31 (by decide) (fun c3 => ?_) (fun c3 => ?_)
    · rw [if_pos c3] at h
      refine j_mask [false, true, false, false, false, false, false, false] ?_
      exact jm_X11_margin_b121 _ ws h
    · rw [if_neg c3] at h
      refine j_aload_n (pc := 34) dX11_margin_34 rfl ?_
      obtain ⟨x4, e5, h⟩ := obS h
      refine j_getI (pc := 35) dX11_margin_35 (ci := 11) (kf := 28) rfl hin_X11_margin_X11 (by decide) lk_X11_margin_0 e5 ?_
      refine j_iconst (pc := 38) dX11_margin_38 (v := 2) (by decide) ?_
      refine j_icmp_le (pc := 39) (tgt := 121) dX11_margin_39 (by decide) (fun c6 => ?_) (fun c6 => ?_)
      · rw [if_pos c6] at h
        refine j_mask [false, true, false, false, false, false, false, false] ?_
        exact jm_X11_margin_b121 _ ws h
      · rw [if_neg c6] at h
        refine j_aload_n (pc := 42) dX11_margin_42 rfl ?_
        refine j_iload_n (pc := 43) dX11_margin_43 rfl ?_
        obtain ⟨x9, w7, e8, h⟩ := obS2 h
        have ge8 := calSR_of e8
        refine j_callV_g (pc := 44) (As := [.int i2]) (k' := 0) (n' := 0) dX11_margin_44 (s_X11_makes ge8.1) gX11_margin_X11_makes rfl hv_X11_makes rfl (r_X11_makes ge8.1) rfl (by decide) (by decide) (by decide) (by decide) (by decide) (by decide) (by decide) (Or.inl ge8.2) ?_
        refine j_i2l (pc := 47) dX11_margin_47 ?_
        refine j_lstore_n_3 (pc := 48) dX11_margin_48 (by decide) rfl ?_
        refine j_aload_n (pc := 49) dX11_margin_49 rfl ?_
        refine j_aload_n (pc := 50) dX11_margin_50 rfl ?_
        obtain ⟨x10, e11, h⟩ := obS h
        refine j_getR (pc := 51) dX11_margin_51 (ci := 11) (kf := 29) rfl hin_X11_margin_X11 (by decide) lk_X11_margin_1 e11 ?_
        refine j_iload_n (pc := 54) dX11_margin_54 rfl ?_
        obtain ⟨x12, e13, h⟩ := obS h
        refine j_iald (pc := 55) dX11_margin_55 e13 ?_
        refine j_aload_n (pc := 56) dX11_margin_56 rfl ?_
        obtain ⟨x14, e15, h⟩ := obS h
        refine j_getR (pc := 57) dX11_margin_57 (ci := 11) (kf := 29) rfl hin_X11_margin_X11 (by decide) lk_X11_margin_1 e15 ?_
        refine j_iload_n (pc := 60) dX11_margin_60 rfl ?_
        refine j_iconst (pc := 61) dX11_margin_61 (v := 1) (by decide) ?_
        refine j_iadd (pc := 62) dX11_margin_62 ?_
        refine j_aload_n (pc := 63) dX11_margin_63 rfl ?_
        obtain ⟨x16, e17, h⟩ := obS h
        refine j_getI (pc := 64) dX11_margin_64 (ci := 11) (kf := 28) rfl hin_X11_margin_X11 (by decide) lk_X11_margin_0 e17 ?_
        have c18 := jneS h
        rw [if_neg c18] at h
        refine j_irem (pc := 67) dX11_margin_67 c18 ?_
        obtain ⟨x19, e20, h⟩ := obS h
        refine j_iald (pc := 68) dX11_margin_68 e20 ?_
        obtain ⟨x23, w21, e22, h⟩ := obS2 h
        have ge22 := calSR_of e22
        refine j_callV_g (pc := 69) (As := [.int x12, .int x19]) (k' := 0) (n' := 0) dX11_margin_69 (s_X11_square ge22.1) gX11_margin_X11_square rfl hv_X11_square rfl (r_X11_square ge22.1) rfl (by decide) (by decide) (by decide) (by decide) (by decide) (by decide) (by decide) (Or.inl ge22.2) ?_
        refine j_i2l (pc := 72) dX11_margin_72 ?_
        refine j_aload_n (pc := 73) dX11_margin_73 rfl ?_
        obtain ⟨x26, w24, e25, h⟩ := obS2 h
        have ge25 := calSR_of e25
        refine j_callV_g (pc := 74) (As := []) (k' := 0) (n' := 0) dX11_margin_74 (s_X11_weight ge25.1) gX11_margin_X11_weight rfl hv_X11_weight rfl (r_X11_weight ge25.1) rfl (by decide) (by decide) (by decide) (by decide) (by decide) (by decide) (by decide) (Or.inl ge25.2) ?_
        refine j_i2l (pc := 77) dX11_margin_77 ?_
        refine j_lmul (pc := 78) dX11_margin_78 ?_
        refine j_aload_n (pc := 79) dX11_margin_79 rfl ?_
        obtain ⟨x29, w27, e28, h⟩ := obS2 h
        have ge28 := calSR_of e28
        refine j_callV_g (pc := 80) (As := []) (k' := 0) (n' := 0) dX11_margin_80 (s_X11_weight ge28.1) gX11_margin_X11_weight rfl hv_X11_weight rfl (r_X11_weight ge28.1) rfl (by decide) (by decide) (by decide) (by decide) (by decide) (by decide) (by decide) (Or.inl ge28.2) ?_
        refine j_i2l (pc := 83) dX11_margin_83 ?_
        refine j_lmul (pc := 84) dX11_margin_84 ?_
        refine j_lstore_5 (pc := 85) dX11_margin_85 (by decide) rfl ?_
        refine j_lload_n (pc := 87) dX11_margin_87 rfl ?_
        refine j_lload_n (pc := 88) dX11_margin_88 rfl ?_
        refine j_lmul (pc := 89) dX11_margin_89 ?_
        refine j_l2f (pc := 90) dX11_margin_90 ?_
        refine j_lload (pc := 91) dX11_margin_91 rfl ?_
        refine j_l2f (pc := 93) dX11_margin_93 ?_
        obtain ⟨x30, e31, h⟩ := obS h
        obtain ⟨e31, rfl⟩ := jnn_of e31
        refine j_fdiv (pc := 94) dX11_margin_94 e31 ?_
        refine j_fstore_7 (pc := 95) dX11_margin_95 (by decide) rfl ?_
        refine j_iload_n (pc := 97) dX11_margin_97 rfl ?_
        refine j_if_eq (pc := 98) (tgt := 108) dX11_margin_98 (by decide) (fun c32 => ?_) (fun c32 => ?_)
        · rw [if_pos c32] at h
          refine j_mask [true, false, true, false, false, false, false, true] ?_
          exact jm_X11_margin_b108 (hk26 := ih) _ _ _ w27 h
        · rw [if_neg c32] at h
          refine j_fload (pc := 101) dX11_margin_101 rfl ?_
          refine j_fload_n (pc := 103) dX11_margin_103 rfl ?_
          refine j_fcmp (pc := 104) dX11_margin_104 ?_
          refine j_if_ge (pc := 105) (tgt := 113) dX11_margin_105 (by decide) (fun c33 => ?_) (fun c33 => ?_)
          · rw [if_pos c33] at h
            refine j_fload_n (pc := 113) dX11_margin_113 rfl ?_
            refine j_mask [true, false, true, false, false, false, false, false] ?_
            exact jm_X11_margin_b114 (hk26 := ih) _ _ _ w27 h
          · rw [if_neg c33] at h
            refine j_mask [true, false, true, false, false, false, false, true] ?_
            exact jm_X11_margin_b108 (hk26 := ih) _ _ _ w27 h
def m_X11_margin (a0 : Nat) (ws : LWd) : Option (Int32 × LWd) :=
  (rcv ws a0 11).bind fun _ =>
  (pV ws a0 11 30 (.int 0)).bind fun w1 =>
  (fI w1 a0 11 17).bind fun x3 =>
  bn2 (calSR w1 (m_X11_holds a0 x3 w1)) fun x7 w5 =>
  if x7 = 0 then
    bn2 (calSR w5 (m_Jxf58ca_floatToIntBits_5c35a 3212836864 w5)) fun x11 w9 =>
    some (x11, w9)
  else
    m_X11_margin_l26 FU a0 FP.fconst0 0 w5
set_option maxRecDepth 100000 in
set_option maxHeartbeats 4000000 in
theorem s_X11_margin {a0 : Nat} {ws : LWd} {rr : Int32} {ws' : LWd} (h : m_X11_margin a0 ws = some (rr, ws')) : jSp yX11_margin wsX11_margin 4 0 0 [.ref a0] ws (.inl (some (.int rr)), ws') := by
  unfold m_X11_margin at h
  refine j_entry (ret := (some .int)) (nm := "margin") (own := RX11) pl_X11 rfl rfl rfl (jcats (by rfl)) (by decide) ?_
  show JG false cX11_margin 8 RX11 wsX11_margin (some .int) "margin" 4 0 0 ws.length (.inl (some (.int rr)), ws') 0 [some (.ref a0), none, none, none, none, none, none, none] [] ws 0 0
  obtain ⟨_, _, h⟩ := obS h
  refine j_aload_n (pc := 0) dX11_margin_0 rfl ?_
  refine j_iconst (pc := 1) dX11_margin_1 (v := 0) (by decide) ?_
  obtain ⟨w1, e2, h⟩ := obS h
  refine j_putV (pc := 2) (ci := 11) (kf := 30) tyX11 tyX11_ok nmX11 dX11_margin_2 rfl hin_X11_margin_X11 (by decide) lk_X11_margin_2 rfl (fun _ => rfl) (fun _ => rfl) e2 ?_
  refine j_aload_n (pc := 5) dX11_margin_5 rfl ?_
  refine j_aload_n (pc := 6) dX11_margin_6 rfl ?_
  obtain ⟨x3, e4, h⟩ := obS h
  refine j_getI (pc := 7) dX11_margin_7 (ci := 11) (kf := 17) rfl hin_X11_margin_X11 (by decide) lk_X11_margin_3 e4 ?_
  obtain ⟨x7, w5, e6, h⟩ := obS2 h
  have ge6 := calSR_of e6
  refine j_callV_g (pc := 10) (As := [.int x3]) (k' := 0) (n' := 0) dX11_margin_10 (s_X11_holds ge6.1) gX11_margin_X11_holds rfl hv_X11_holds rfl (r_X11_holds ge6.1) rfl (by decide) (by decide) (by decide) (by decide) (by decide) (by decide) (by decide) (Or.inl ge6.2) ?_
  refine j_if_ne (pc := 13) (tgt := 22) dX11_margin_13 (by decide) (fun c8 => ?_) (fun c8 => ?_)
  · rw [if_neg c8] at h
    refine j_fconst0 (pc := 22) dX11_margin_22 ?_
    refine j_fstore_n_1 (pc := 23) dX11_margin_23 (by decide) rfl ?_
    refine j_iconst (pc := 24) dX11_margin_24 (v := 0) (by decide) ?_
    refine j_istore_n_2 (pc := 25) dX11_margin_25 (by decide) rfl ?_
    exact jm_X11_margin_l26 FU _ _ _ w5 h
  · rw [if_pos c8] at h
    refine j_ldcf (pc := 16) dX11_margin_16 (v := 3212836864) lk_X11_margin_4 ?_
    obtain ⟨x11, w9, e10, h⟩ := obS2 h
    have ge10 := calSR_of e10
    refine j_callS_g (pc := 18) (As := [.float 3212836864]) (k' := 0) (n' := 0) dX11_margin_18 (s_Jxf58ca_floatToIntBits_5c35a ge10.1) gX11_margin_Jxf58ca_floatToIntBits_5c35a rfl hy_Jxf58ca_floatToIntBits_5c35a rfl (by decide) (by decide) (by decide) (by decide) (by decide) (by decide) (by decide) (Or.inl ge10.2) ?_
    obtain ⟨rfl, rfl⟩ := jretS h
    exact j_iret (pc := 21) rfl dX11_margin_21 (by decide) (by decide) rfl
theorem r_X11_margin {a0 : Nat} {ws : LWd} {o : (Int32 × LWd)} (h : m_X11_margin a0 ws = some o) : ∃ fs, ws[a0]? = some (.inr (11, fs)) := rcv_in h
