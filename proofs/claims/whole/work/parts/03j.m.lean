/-! methods: written by wip/whole/make.py -/
def m_X11_sign (i0 : Int32) (ws : LWd) : Option (Int32 × LWd) :=
  if i0 ≤ 0 then
    if 0 ≤ i0 then
      some (0, ws)
    else
      some ((-1), ws)
  else
    some (1, ws)
set_option maxRecDepth 100000 in
set_option maxHeartbeats 4000000 in
theorem s_X11_sign {i0 : Int32} {ws : LWd} {rr : Int32} {ws' : LWd} (h : m_X11_sign i0 ws = some (rr, ws')) : jSp yX11_sign wsX11_sign 0 0 0 [.int i0] ws (.inl (some (.int rr)), ws') := by
  unfold m_X11_sign at h
  refine j_entry (ret := (some .int)) (nm := "sign") (own := RX11) pl_X11 rfl rfl rfl (jcats (by rfl)) (by decide) ?_
  show JG false cX11_sign 1 RX11 wsX11_sign (some .int) "sign" 0 0 0 ws.length (.inl (some (.int rr)), ws') 0 [some (.int i0)] [] ws 0 0
  refine j_iload_n (pc := 0) dX11_sign_0 rfl ?_
  refine j_if_le (pc := 1) (tgt := 8) dX11_sign_1 (by decide) (fun c1 => ?_) (fun c1 => ?_)
  · rw [if_pos c1] at h
    refine j_iload_n (pc := 8) dX11_sign_8 rfl ?_
    refine j_if_ge (pc := 9) (tgt := 16) dX11_sign_9 (by decide) (fun c2 => ?_) (fun c2 => ?_)
    · rw [if_pos c2] at h
      refine j_iconst (pc := 16) dX11_sign_16 (v := 0) (by decide) ?_
      obtain ⟨rfl, rfl⟩ := jretS h
      exact j_iret (pc := 17) rfl dX11_sign_17 (by decide) (by decide) rfl
    · rw [if_neg c2] at h
      refine j_iconst (pc := 12) dX11_sign_12 (v := (-1)) (by decide) ?_
      refine j_goto (pc := 13) (tgt := 17) dX11_sign_13 (by decide) ?_
      obtain ⟨rfl, rfl⟩ := jretS h
      exact j_iret (pc := 17) rfl dX11_sign_17 (by decide) (by decide) rfl
  · rw [if_neg c1] at h
    refine j_iconst (pc := 4) dX11_sign_4 (v := 1) (by decide) ?_
    refine j_goto (pc := 5) (tgt := 17) dX11_sign_5 (by decide) ?_
    obtain ⟨rfl, rfl⟩ := jretS h
    exact j_iret (pc := 17) rfl dX11_sign_17 (by decide) (by decide) rfl
theorem hin_X11_direction_X11 : ∀ w ∈ u_ws RX11 TX11 31, w ∈ wsX11_direction := fun w h => List.mem_cons_of_mem _ (List.mem_append_right _ h)
theorem lk_X11_direction_0 : Cond.fieldLink RX11 44 "GaitwrightModel" "footY" "[I" ∈ wsX11_direction := List.mem_cons_of_mem _ (List.mem_append_left _ (List.mem_append_left _ (List.mem_of_getElem? (i := 2) rfl)))
theorem lk_X11_direction_1 : Cond.fieldLink RX11 41 "GaitwrightModel" "footX" "[I" ∈ wsX11_direction := List.mem_cons_of_mem _ (List.mem_append_left _ (List.mem_append_left _ (List.mem_of_getElem? (i := 1) rfl)))
theorem lk_X11_direction_2 : Cond.fieldLink RX11 66 "GaitwrightModel" "down" "I" ∈ wsX11_direction := List.mem_cons_of_mem _ (List.mem_append_left _ (List.mem_append_left _ (List.mem_of_getElem? (i := 0) rfl)))
def m_X11_direction_b66 (k15 : Nat → Int32 → Int32 → Int32 → Int32 → LWd → Option (Int32 × LWd)) (a0 : Nat) (i1 : Int32) (i2 : Int32) (i4 : Int32) (s0 : Int32) (s1 : Int32) (ws : LWd) : Option (Int32 × LWd) :=
  k15 a0 i1 i2 (s0 + s1) (i4 + 1) ws
set_option maxRecDepth 100000 in
set_option maxHeartbeats 4000000 in
theorem jm_X11_direction_b66 {n0 : Nat} {rr : Int32} {ws' : LWd} {k15 : Nat → Int32 → Int32 → Int32 → Int32 → LWd → Option (Int32 × LWd)} (hk15 : ∀ (a0 : Nat) (i1 : Int32) (i2 : Int32) (i3 : Int32) (i4 : Int32) (ws : LWd), k15 a0 i1 i2 i3 i4 ws = some (rr, ws') → JG false cX11_direction 5 RX11 wsX11_direction (some .int) "direction" 2 0 0 n0 (.inl (some (.int rr)), ws') 15 [some (.ref a0), some (.int i1), some (.int i2), some (.int i3), some (.int i4)] [] ws 0 0) (a0 : Nat) (i1 : Int32) (i2 : Int32) (i4 : Int32) (s0 : Int32) (s1 : Int32) (ws : LWd) (h : m_X11_direction_b66 k15 a0 i1 i2 i4 s0 s1 ws = some (rr, ws')) : JG false cX11_direction 5 RX11 wsX11_direction (some .int) "direction" 2 0 0 n0 (.inl (some (.int rr)), ws') 66 [some (.ref a0), some (.int i1), some (.int i2), none, some (.int i4)] [.int s1, .int s0] ws 0 0 := by
  unfold m_X11_direction_b66 at h
  refine j_iadd (pc := 66) dX11_direction_66 ?_
  refine j_istore_n_3 (pc := 67) dX11_direction_67 (by decide) rfl ?_
  refine j_iinc_4 (pc := 68) dX11_direction_68 (y := i4 + 1) rfl (by decide) rfl ?_
  refine j_goto (pc := 71) (tgt := 15) dX11_direction_71 (by decide) ?_
  exact hk15 _ _ _ _ _ ws h
def m_X11_direction_b43 (k15 : Nat → Int32 → Int32 → Int32 → Int32 → LWd → Option (Int32 × LWd)) (a0 : Nat) (i1 : Int32) (i3 : Int32) (i4 : Int32) (s0 : Int32) (s1 : Int32) (ws : LWd) : Option (Int32 × LWd) :=
  bn2 (calSR ws (m_X11_isDown a0 i4 ws)) fun x3 w1 =>
  if x3 = 0 then
    m_X11_direction_b66 k15 a0 i1 (s0 + s1) i4 i3 0 w1
  else
    (fR w1 a0 11 16).bind fun x5 =>
    (aI w1 x5 i4).bind fun x7 =>
    m_X11_direction_b66 k15 a0 i1 (s0 + s1) i4 i3 x7 w1
set_option maxRecDepth 100000 in
set_option maxHeartbeats 4000000 in
theorem jm_X11_direction_b43 {n0 : Nat} {rr : Int32} {ws' : LWd} {k15 : Nat → Int32 → Int32 → Int32 → Int32 → LWd → Option (Int32 × LWd)} (hk15 : ∀ (a0 : Nat) (i1 : Int32) (i2 : Int32) (i3 : Int32) (i4 : Int32) (ws : LWd), k15 a0 i1 i2 i3 i4 ws = some (rr, ws') → JG false cX11_direction 5 RX11 wsX11_direction (some .int) "direction" 2 0 0 n0 (.inl (some (.int rr)), ws') 15 [some (.ref a0), some (.int i1), some (.int i2), some (.int i3), some (.int i4)] [] ws 0 0) (a0 : Nat) (i1 : Int32) (i3 : Int32) (i4 : Int32) (s0 : Int32) (s1 : Int32) (ws : LWd) (h : m_X11_direction_b43 k15 a0 i1 i3 i4 s0 s1 ws = some (rr, ws')) : JG false cX11_direction 5 RX11 wsX11_direction (some .int) "direction" 2 0 0 n0 (.inl (some (.int rr)), ws') 43 [some (.ref a0), some (.int i1), none, some (.int i3), some (.int i4)] [.int s1, .int s0] ws 0 0 := by
  unfold m_X11_direction_b43 at h
  refine j_iadd (pc := 43) dX11_direction_43 ?_
  refine j_istore_n_2 (pc := 44) dX11_direction_44 (by decide) rfl ?_
  refine j_iload_n (pc := 45) dX11_direction_45 rfl ?_
  refine j_aload_n (pc := 46) dX11_direction_46 rfl ?_
  refine j_iload (pc := 47) dX11_direction_47 rfl ?_
  obtain ⟨x3, w1, e2, h⟩ := obS2 h
  have ge2 := calSR_of e2
  refine j_callV_g (pc := 49) (As := [.int i4]) (k' := 0) (n' := 0) dX11_direction_49 (s_X11_isDown ge2.1) gX11_direction_X11_isDown rfl hv_X11_isDown rfl (r_X11_isDown ge2.1) rfl (by decide) (by decide) (by decide) (by decide) (by decide) (by decide) (by decide) (Or.inl ge2.2) ?_
  refine j_if_eq (pc := 52) (tgt := 65) dX11_direction_52 (by decide) (fun c4 => ?_) (fun c4 => ?_)
  · rw [if_pos c4] at h
    refine j_iconst (pc := 65) dX11_direction_65 (v := 0) (by decide) ?_
    refine j_mask [true, true, true, false, true] ?_
    exact jm_X11_direction_b66 (hk15 := hk15) _ _ _ _ _ _ w1 h
  · rw [if_neg c4] at h
    refine j_aload_n (pc := 55) dX11_direction_55 rfl ?_
    obtain ⟨x5, e6, h⟩ := obS h
    refine j_getR (pc := 56) dX11_direction_56 (ci := 11) (kf := 16) rfl hin_X11_direction_X11 (by decide) lk_X11_direction_0 e6 ?_
    refine j_iload (pc := 59) dX11_direction_59 rfl ?_
    obtain ⟨x7, e8, h⟩ := obS h
    refine j_iald (pc := 61) dX11_direction_61 e8 ?_
    refine j_goto (pc := 62) (tgt := 66) dX11_direction_62 (by decide) ?_
    refine j_mask [true, true, true, false, true] ?_
    exact jm_X11_direction_b66 (hk15 := hk15) _ _ _ _ _ _ w1 h
def m_X11_direction_l15 : Nat → Nat → Int32 → Int32 → Int32 → Int32 → LWd → Option (Int32 × LWd)
  | 0, _, _, _, _, _, _ => none
  | fu + 1, a0, i1, i2, i3, i4, ws =>
    if 6 ≤ i4 then
      bn2 (calSR ws (m_X11_momentX a0 ws)) fun x4 w2 =>
      bn2 (calSR w2 (m_X11_weight a0 w2)) fun x7 w5 =>
      bn2 (calSR w5 (m_X11_sign ((x4 * i1) - (i2 * x7)) w5)) fun x10 w8 =>
      bn2 (calSR w8 (m_X11_momentY a0 w8)) fun x13 w11 =>
      bn2 (calSR w11 (m_X11_weight a0 w11)) fun x16 w14 =>
      bn2 (calSR w14 (m_X11_sign ((x13 * i1) - (i3 * x16)) w14)) fun x19 w17 =>
      some (((3 * (x10 + 1)) + x19) + 1, w17)
    else
      bn2 (calSR ws (m_X11_isDown a0 i4 ws)) fun x22 w20 =>
      if x22 = 0 then
        m_X11_direction_b43 (fun z0 z1 z2 z3 z4 w => m_X11_direction_l15 fu z0 z1 z2 z3 z4 w) a0 i1 i3 i4 i2 0 w20
      else
        (fR w20 a0 11 15).bind fun x24 =>
        (aI w20 x24 i4).bind fun x26 =>
        m_X11_direction_b43 (fun z0 z1 z2 z3 z4 w => m_X11_direction_l15 fu z0 z1 z2 z3 z4 w) a0 i1 i3 i4 i2 x26 w20
set_option maxRecDepth 100000 in
set_option maxHeartbeats 4000000 in
theorem jm_X11_direction_l15 {n0 : Nat} {rr : Int32} {ws' : LWd} : ∀ (fu : Nat) (a0 : Nat) (i1 : Int32) (i2 : Int32) (i3 : Int32) (i4 : Int32) (ws : LWd), m_X11_direction_l15 fu a0 i1 i2 i3 i4 ws = some (rr, ws') → JG false cX11_direction 5 RX11 wsX11_direction (some .int) "direction" 2 0 0 n0 (.inl (some (.int rr)), ws') 15 [some (.ref a0), some (.int i1), some (.int i2), some (.int i3), some (.int i4)] [] ws 0 0 := by
  intro fu
  induction fu with
  | zero => intro a0 i1 i2 i3 i4 ws h; cases h
  | succ fu ih =>
    intro a0 i1 i2 i3 i4 ws h
    rw [m_X11_direction_l15] at h
    refine j_iload (pc := 15) dX11_direction_15 rfl ?_
    refine j_bipush (pc := 17) dX11_direction_17 (v := 6) (by decide) ?_
    refine j_icmp_ge (pc := 19) (tgt := 74) dX11_direction_19 (by decide) (fun c1 => ?_) (fun c1 => ?_)
    · rw [if_pos c1] at h
      refine j_iconst (pc := 74) dX11_direction_74 (v := 3) (by decide) ?_
      refine j_aload_n (pc := 75) dX11_direction_75 rfl ?_
      obtain ⟨x4, w2, e3, h⟩ := obS2 h
      have ge3 := calSR_of e3
      refine j_callV_g (pc := 76) (As := []) (k' := 0) (n' := 0) dX11_direction_76 (s_X11_momentX ge3.1) gX11_direction_X11_momentX rfl hv_X11_momentX rfl (r_X11_momentX ge3.1) rfl (by decide) (by decide) (by decide) (by decide) (by decide) (by decide) (by decide) (Or.inl ge3.2) ?_
      refine j_iload_n (pc := 79) dX11_direction_79 rfl ?_
      refine j_imul (pc := 80) dX11_direction_80 ?_
      refine j_iload_n (pc := 81) dX11_direction_81 rfl ?_
      refine j_aload_n (pc := 82) dX11_direction_82 rfl ?_
      obtain ⟨x7, w5, e6, h⟩ := obS2 h
      have ge6 := calSR_of e6
      refine j_callV_g (pc := 83) (As := []) (k' := 0) (n' := 0) dX11_direction_83 (s_X11_weight ge6.1) gX11_direction_X11_weight rfl hv_X11_weight rfl (r_X11_weight ge6.1) rfl (by decide) (by decide) (by decide) (by decide) (by decide) (by decide) (by decide) (Or.inl ge6.2) ?_
      refine j_imul (pc := 86) dX11_direction_86 ?_
      refine j_isub (pc := 87) dX11_direction_87 ?_
      obtain ⟨x10, w8, e9, h⟩ := obS2 h
      have ge9 := calSR_of e9
      refine j_callS_g (pc := 88) (As := [.int ((x4 * i1) - (i2 * x7))]) (k' := 0) (n' := 0) dX11_direction_88 (s_X11_sign ge9.1) gX11_direction_X11_sign rfl hy_X11_sign rfl (by decide) (by decide) (by decide) (by decide) (by decide) (by decide) (by decide) (Or.inl ge9.2) ?_
      refine j_iconst (pc := 91) dX11_direction_91 (v := 1) (by decide) ?_
      refine j_iadd (pc := 92) dX11_direction_92 ?_
      refine j_imul (pc := 93) dX11_direction_93 ?_
      refine j_aload_n (pc := 94) dX11_direction_94 rfl ?_
      obtain ⟨x13, w11, e12, h⟩ := obS2 h
      have ge12 := calSR_of e12
      refine j_callV_g (pc := 95) (As := []) (k' := 0) (n' := 0) dX11_direction_95 (s_X11_momentY ge12.1) gX11_direction_X11_momentY rfl hv_X11_momentY rfl (r_X11_momentY ge12.1) rfl (by decide) (by decide) (by decide) (by decide) (by decide) (by decide) (by decide) (Or.inl ge12.2) ?_
      refine j_iload_n (pc := 98) dX11_direction_98 rfl ?_
      refine j_imul (pc := 99) dX11_direction_99 ?_
      refine j_iload_n (pc := 100) dX11_direction_100 rfl ?_
      refine j_aload_n (pc := 101) dX11_direction_101 rfl ?_
      obtain ⟨x16, w14, e15, h⟩ := obS2 h
      have ge15 := calSR_of e15
      refine j_callV_g (pc := 102) (As := []) (k' := 0) (n' := 0) dX11_direction_102 (s_X11_weight ge15.1) gX11_direction_X11_weight rfl hv_X11_weight rfl (r_X11_weight ge15.1) rfl (by decide) (by decide) (by decide) (by decide) (by decide) (by decide) (by decide) (Or.inl ge15.2) ?_
      refine j_imul (pc := 105) dX11_direction_105 ?_
      refine j_isub (pc := 106) dX11_direction_106 ?_
      obtain ⟨x19, w17, e18, h⟩ := obS2 h
      have ge18 := calSR_of e18
      refine j_callS_g (pc := 107) (As := [.int ((x13 * i1) - (i3 * x16))]) (k' := 0) (n' := 0) dX11_direction_107 (s_X11_sign ge18.1) gX11_direction_X11_sign rfl hy_X11_sign rfl (by decide) (by decide) (by decide) (by decide) (by decide) (by decide) (by decide) (Or.inl ge18.2) ?_
      refine j_iadd (pc := 110) dX11_direction_110 ?_
      refine j_iconst (pc := 111) dX11_direction_111 (v := 1) (by decide) ?_
      refine j_iadd (pc := 112) dX11_direction_112 ?_
      obtain ⟨rfl, rfl⟩ := jretS h
      exact j_iret (pc := 113) rfl dX11_direction_113 (by decide) (by decide) rfl
    · rw [if_neg c1] at h
      refine j_iload_n (pc := 22) dX11_direction_22 rfl ?_
      refine j_aload_n (pc := 23) dX11_direction_23 rfl ?_
      refine j_iload (pc := 24) dX11_direction_24 rfl ?_
      obtain ⟨x22, w20, e21, h⟩ := obS2 h
      have ge21 := calSR_of e21
      refine j_callV_g (pc := 26) (As := [.int i4]) (k' := 0) (n' := 0) dX11_direction_26 (s_X11_isDown ge21.1) gX11_direction_X11_isDown rfl hv_X11_isDown rfl (r_X11_isDown ge21.1) rfl (by decide) (by decide) (by decide) (by decide) (by decide) (by decide) (by decide) (Or.inl ge21.2) ?_
      refine j_if_eq (pc := 29) (tgt := 42) dX11_direction_29 (by decide) (fun c23 => ?_) (fun c23 => ?_)
      · rw [if_pos c23] at h
        refine j_iconst (pc := 42) dX11_direction_42 (v := 0) (by decide) ?_
        refine j_mask [true, true, false, true, true] ?_
        exact jm_X11_direction_b43 (hk15 := ih) _ _ _ _ _ _ w20 h
      · rw [if_neg c23] at h
        refine j_aload_n (pc := 32) dX11_direction_32 rfl ?_
        obtain ⟨x24, e25, h⟩ := obS h
        refine j_getR (pc := 33) dX11_direction_33 (ci := 11) (kf := 15) rfl hin_X11_direction_X11 (by decide) lk_X11_direction_1 e25 ?_
        refine j_iload (pc := 36) dX11_direction_36 rfl ?_
        obtain ⟨x26, e27, h⟩ := obS h
        refine j_iald (pc := 38) dX11_direction_38 e27 ?_
        refine j_goto (pc := 39) (tgt := 43) dX11_direction_39 (by decide) ?_
        refine j_mask [true, true, false, true, true] ?_
        exact jm_X11_direction_b43 (hk15 := ih) _ _ _ _ _ _ w20 h
def m_X11_direction (a0 : Nat) (ws : LWd) : Option (Int32 × LWd) :=
  (rcv ws a0 11).bind fun _ =>
  (fI ws a0 11 17).bind fun x1 =>
  bn2 (calSR ws (m_X11_count x1 ws)) fun x5 w3 =>
  m_X11_direction_l15 FU a0 x5 0 0 0 w3
set_option maxRecDepth 100000 in
set_option maxHeartbeats 4000000 in
theorem s_X11_direction {a0 : Nat} {ws : LWd} {rr : Int32} {ws' : LWd} (h : m_X11_direction a0 ws = some (rr, ws')) : jSp yX11_direction wsX11_direction 2 0 0 [.ref a0] ws (.inl (some (.int rr)), ws') := by
  unfold m_X11_direction at h
  refine j_entry (ret := (some .int)) (nm := "direction") (own := RX11) pl_X11 rfl rfl rfl (jcats (by rfl)) (by decide) ?_
  show JG false cX11_direction 5 RX11 wsX11_direction (some .int) "direction" 2 0 0 ws.length (.inl (some (.int rr)), ws') 0 [some (.ref a0), none, none, none, none] [] ws 0 0
  obtain ⟨_, _, h⟩ := obS h
  refine j_aload_n (pc := 0) dX11_direction_0 rfl ?_
  obtain ⟨x1, e2, h⟩ := obS h
  refine j_getI (pc := 1) dX11_direction_1 (ci := 11) (kf := 17) rfl hin_X11_direction_X11 (by decide) lk_X11_direction_2 e2 ?_
  obtain ⟨x5, w3, e4, h⟩ := obS2 h
  have ge4 := calSR_of e4
  refine j_callS_g (pc := 4) (As := [.int x1]) (k' := 0) (n' := 0) dX11_direction_4 (s_X11_count ge4.1) gX11_direction_X11_count rfl hy_X11_count rfl (by decide) (by decide) (by decide) (by decide) (by decide) (by decide) (by decide) (Or.inl ge4.2) ?_
  refine j_istore_n_1 (pc := 7) dX11_direction_7 (by decide) rfl ?_
  refine j_iconst (pc := 8) dX11_direction_8 (v := 0) (by decide) ?_
  refine j_istore_n_2 (pc := 9) dX11_direction_9 (by decide) rfl ?_
  refine j_iconst (pc := 10) dX11_direction_10 (v := 0) (by decide) ?_
  refine j_istore_n_3 (pc := 11) dX11_direction_11 (by decide) rfl ?_
  refine j_iconst (pc := 12) dX11_direction_12 (v := 0) (by decide) ?_
  refine j_istore_4 (pc := 13) dX11_direction_13 (by decide) rfl ?_
  exact jm_X11_direction_l15 FU _ _ _ _ _ w3 h
theorem r_X11_direction {a0 : Nat} {ws : LWd} {o : (Int32 × LWd)} (h : m_X11_direction a0 ws = some o) : ∃ fs, ws[a0]? = some (.inr (11, fs)) := rcv_in h
theorem hin_X11_settles_X11 : ∀ w ∈ u_ws RX11 TX11 31, w ∈ wsX11_settles := fun w h => List.mem_cons_of_mem _ (List.mem_append_right _ h)
theorem lk_X11_settles_0 : Cond.fieldLink RX11 183 "GaitwrightModel" "falls" "I" ∈ wsX11_settles := List.mem_cons_of_mem _ (List.mem_append_left _ (List.mem_append_left _ (List.mem_of_getElem? (i := 2) rfl)))
theorem lk_X11_settles_1 : Cond.fieldLink RX11 84 "GaitwrightModel" "stands" "Z" ∈ wsX11_settles := List.mem_cons_of_mem _ (List.mem_append_left _ (List.mem_append_left _ (List.mem_of_getElem? (i := 0) rfl)))
theorem lk_X11_settles_2 : Cond.fieldLink RX11 66 "GaitwrightModel" "down" "I" ∈ wsX11_settles := List.mem_cons_of_mem _ (List.mem_append_left _ (List.mem_append_left _ (List.mem_of_getElem? (i := 1) rfl)))
theorem lk_X11_settles_3 : Cond.fieldLink RX11 47 "GaitwrightModel" "fallen" "[I" ∈ wsX11_settles := List.mem_cons_of_mem _ (List.mem_append_left _ (List.mem_append_left _ (List.mem_of_getElem? (i := 3) rfl)))
theorem lk_X11_settles_4 : Cond.fieldLink RX11 143 "GaitwrightModel" "firstWhat" "I" ∈ wsX11_settles := List.mem_cons_of_mem _ (List.mem_append_left _ (List.mem_append_left _ (List.mem_of_getElem? (i := 4) rfl)))
theorem lk_X11_settles_5 : Cond.fieldLink RX11 146 "GaitwrightModel" "firstX" "I" ∈ wsX11_settles := List.mem_cons_of_mem _ (List.mem_append_left _ (List.mem_append_left _ (List.mem_of_getElem? (i := 5) rfl)))
theorem lk_X11_settles_6 : Cond.fieldLink RX11 149 "GaitwrightModel" "firstY" "I" ∈ wsX11_settles := List.mem_cons_of_mem _ (List.mem_append_left _ (List.mem_append_left _ (List.mem_of_getElem? (i := 6) rfl)))
def m_X11_settles_b98 (a0 : Nat) (ws : LWd) : Option LWd :=
  (fI ws a0 11 23).bind fun x1 =>
  (pV ws a0 11 23 (.int (x1 + 1))).bind fun w3 =>
  (pZ w3 a0 11 4 0).bind fun w5 =>
  (pV w5 a0 11 17 (.int 0)).bind fun w7 =>
  some w7
set_option maxRecDepth 100000 in
set_option maxHeartbeats 4000000 in
theorem jm_X11_settles_b98 {n0 : Nat} {ws' : LWd} (a0 : Nat) (ws : LWd) (h : m_X11_settles_b98 a0 ws = some ws') : JG false cX11_settles 1 RX11 wsX11_settles none "settles" 4 0 0 n0 (.inl none, ws') 98 [some (.ref a0)] [] ws 0 0 := by
  unfold m_X11_settles_b98 at h
  refine j_aload_n (pc := 98) dX11_settles_98 rfl ?_
  refine j_dup (pc := 99) dX11_settles_99 rfl ?_
  obtain ⟨x1, e2, h⟩ := obS h
  refine j_getI (pc := 100) dX11_settles_100 (ci := 11) (kf := 23) rfl hin_X11_settles_X11 (by decide) lk_X11_settles_0 e2 ?_
  refine j_iconst (pc := 103) dX11_settles_103 (v := 1) (by decide) ?_
  refine j_iadd (pc := 104) dX11_settles_104 ?_
  obtain ⟨w3, e4, h⟩ := obS h
  refine j_putV (pc := 105) (ci := 11) (kf := 23) tyX11 tyX11_ok nmX11 dX11_settles_105 rfl hin_X11_settles_X11 (by decide) lk_X11_settles_0 rfl (fun _ => rfl) (fun _ => rfl) e4 ?_
  refine j_aload_n (pc := 108) dX11_settles_108 rfl ?_
  refine j_iconst (pc := 109) dX11_settles_109 (v := 0) (by decide) ?_
  obtain ⟨w5, e6, h⟩ := obS h
  refine j_putV (pc := 110) (ci := 11) (kf := 4) tyX11 tyX11_ok nmX11 dX11_settles_110 rfl hin_X11_settles_X11 (by decide) lk_X11_settles_1 rfl (pZ_n e6).2.1 (pZ_n e6).2.2 (pZ_n e6).1 ?_
  refine j_aload_n (pc := 113) dX11_settles_113 rfl ?_
  refine j_iconst (pc := 114) dX11_settles_114 (v := 0) (by decide) ?_
  obtain ⟨w7, e8, h⟩ := obS h
  refine j_putV (pc := 115) (ci := 11) (kf := 17) tyX11 tyX11_ok nmX11 dX11_settles_115 rfl hin_X11_settles_X11 (by decide) lk_X11_settles_2 rfl (fun _ => rfl) (fun _ => rfl) e8 ?_
  cases h
  exact j_vret (pc := 118) rfl dX11_settles_118 (by decide) (by decide) rfl
def m_X11_settles (a0 : Nat) (ws : LWd) : Option LWd :=
  (rcv ws a0 11).bind fun _ =>
  (fI ws a0 11 4).bind fun x1 =>
  if x1 = 0 then
    some ws
  else
    (calSV ws (m_X11_sinks a0 ws)).bind fun w4 =>
    (fI w4 a0 11 17).bind fun x6 =>
    bn2 (calSR w4 (m_X11_holds a0 x6 w4)) fun x10 w8 =>
    if x10 = 0 then
      (fI w8 a0 11 23).bind fun x12 =>
      if 40 ≤ x12 then
        m_X11_settles_b98 a0 w8
      else
        (fR w8 a0 11 24).bind fun x15 =>
        (fI w8 a0 11 23).bind fun x17 =>
        bn2 (calSR w8 (m_X11_direction a0 w8)) fun x21 w19 =>
        (sI w19 x15 (4 * x17) x21).bind fun w22 =>
        (fR w22 a0 11 24).bind fun x24 =>
        (fI w22 a0 11 23).bind fun x26 =>
        (fI w22 a0 11 19).bind fun x28 =>
        (sI w22 x24 ((4 * x26) + 1) x28).bind fun w30 =>
        (fR w30 a0 11 24).bind fun x32 =>
        (fI w30 a0 11 23).bind fun x34 =>
        (fI w30 a0 11 20).bind fun x36 =>
        (sI w30 x32 ((4 * x34) + 2) x36).bind fun w38 =>
        (fR w38 a0 11 24).bind fun x40 =>
        (fI w38 a0 11 23).bind fun x42 =>
        (fI w38 a0 11 21).bind fun x44 =>
        (sI w38 x40 ((4 * x42) + 3) x44).bind fun w46 =>
        m_X11_settles_b98 a0 w46
    else
      some w8
set_option maxRecDepth 100000 in
set_option maxHeartbeats 4000000 in
theorem s_X11_settles {a0 : Nat} {ws : LWd} {ws' : LWd} (h : m_X11_settles a0 ws = some ws') : jSp yX11_settles wsX11_settles 4 0 0 [.ref a0] ws (.inl none, ws') := by
  unfold m_X11_settles at h
  refine j_entry (ret := none) (nm := "settles") (own := RX11) pl_X11 rfl rfl rfl (jcats (by rfl)) (by decide) ?_
  show JG false cX11_settles 1 RX11 wsX11_settles none "settles" 4 0 0 ws.length (.inl none, ws') 0 [some (.ref a0)] [] ws 0 0
  obtain ⟨_, _, h⟩ := obS h
  refine j_aload_n (pc := 0) dX11_settles_0 rfl ?_
  obtain ⟨x1, e2, h⟩ := obS h
  refine j_getI (pc := 1) dX11_settles_1 (ci := 11) (kf := 4) rfl hin_X11_settles_X11 (by decide) lk_X11_settles_1 e2 ?_
  refine j_if_ne (pc := 4) (tgt := 8) dX11_settles_4 (by decide) (fun c3 => ?_) (fun c3 => ?_)
  · rw [if_neg c3] at h
    refine j_aload_n (pc := 8) dX11_settles_8 rfl ?_
    obtain ⟨w4, e5, h⟩ := obS h
    have ge5 := calSV_of e5
    refine j_callV_g (pc := 9) (As := []) (k' := 0) (n' := 0) dX11_settles_9 (s_X11_sinks ge5.1) gX11_settles_X11_sinks rfl hv_X11_sinks rfl (r_X11_sinks ge5.1) rfl (by decide) (by decide) (by decide) (by decide) (by decide) (by decide) (by decide) (Or.inl ge5.2) ?_
    refine j_aload_n (pc := 12) dX11_settles_12 rfl ?_
    refine j_aload_n (pc := 13) dX11_settles_13 rfl ?_
    obtain ⟨x6, e7, h⟩ := obS h
    refine j_getI (pc := 14) dX11_settles_14 (ci := 11) (kf := 17) rfl hin_X11_settles_X11 (by decide) lk_X11_settles_2 e7 ?_
    obtain ⟨x10, w8, e9, h⟩ := obS2 h
    have ge9 := calSR_of e9
    refine j_callV_g (pc := 17) (As := [.int x6]) (k' := 0) (n' := 0) dX11_settles_17 (s_X11_holds ge9.1) gX11_settles_X11_holds rfl hv_X11_holds rfl (r_X11_holds ge9.1) rfl (by decide) (by decide) (by decide) (by decide) (by decide) (by decide) (by decide) (Or.inl ge9.2) ?_
    refine j_if_ne (pc := 20) (tgt := 118) dX11_settles_20 (by decide) (fun c11 => ?_) (fun c11 => ?_)
    · rw [if_neg c11] at h
      cases h
      exact j_vret (pc := 118) rfl dX11_settles_118 (by decide) (by decide) rfl
    · rw [if_pos c11] at h
      refine j_aload_n (pc := 23) dX11_settles_23 rfl ?_
      obtain ⟨x12, e13, h⟩ := obS h
      refine j_getI (pc := 24) dX11_settles_24 (ci := 11) (kf := 23) rfl hin_X11_settles_X11 (by decide) lk_X11_settles_0 e13 ?_
      refine j_bipush (pc := 27) dX11_settles_27 (v := 40) (by decide) ?_
      refine j_icmp_ge (pc := 29) (tgt := 98) dX11_settles_29 (by decide) (fun c14 => ?_) (fun c14 => ?_)
      · rw [if_pos c14] at h
        exact jm_X11_settles_b98 _ w8 h
      · rw [if_neg c14] at h
        refine j_aload_n (pc := 32) dX11_settles_32 rfl ?_
        obtain ⟨x15, e16, h⟩ := obS h
        refine j_getR (pc := 33) dX11_settles_33 (ci := 11) (kf := 24) rfl hin_X11_settles_X11 (by decide) lk_X11_settles_3 e16 ?_
        refine j_iconst (pc := 36) dX11_settles_36 (v := 4) (by decide) ?_
        refine j_aload_n (pc := 37) dX11_settles_37 rfl ?_
        obtain ⟨x17, e18, h⟩ := obS h
        refine j_getI (pc := 38) dX11_settles_38 (ci := 11) (kf := 23) rfl hin_X11_settles_X11 (by decide) lk_X11_settles_0 e18 ?_
        refine j_imul (pc := 41) dX11_settles_41 ?_
        refine j_aload_n (pc := 42) dX11_settles_42 rfl ?_
        obtain ⟨x21, w19, e20, h⟩ := obS2 h
        have ge20 := calSR_of e20
        refine j_callV_g (pc := 43) (As := []) (k' := 0) (n' := 0) dX11_settles_43 (s_X11_direction ge20.1) gX11_settles_X11_direction rfl hv_X11_direction rfl (r_X11_direction ge20.1) rfl (by decide) (by decide) (by decide) (by decide) (by decide) (by decide) (by decide) (Or.inl ge20.2) ?_
        obtain ⟨w22, e23, h⟩ := obS h
        refine j_iast (pc := 46) dX11_settles_46 e23 ?_
        refine j_aload_n (pc := 47) dX11_settles_47 rfl ?_
        obtain ⟨x24, e25, h⟩ := obS h
        refine j_getR (pc := 48) dX11_settles_48 (ci := 11) (kf := 24) rfl hin_X11_settles_X11 (by decide) lk_X11_settles_3 e25 ?_
        refine j_iconst (pc := 51) dX11_settles_51 (v := 4) (by decide) ?_
        refine j_aload_n (pc := 52) dX11_settles_52 rfl ?_
        obtain ⟨x26, e27, h⟩ := obS h
        refine j_getI (pc := 53) dX11_settles_53 (ci := 11) (kf := 23) rfl hin_X11_settles_X11 (by decide) lk_X11_settles_0 e27 ?_
        refine j_imul (pc := 56) dX11_settles_56 ?_
        refine j_iconst (pc := 57) dX11_settles_57 (v := 1) (by decide) ?_
        refine j_iadd (pc := 58) dX11_settles_58 ?_
        refine j_aload_n (pc := 59) dX11_settles_59 rfl ?_
        obtain ⟨x28, e29, h⟩ := obS h
        refine j_getI (pc := 60) dX11_settles_60 (ci := 11) (kf := 19) rfl hin_X11_settles_X11 (by decide) lk_X11_settles_4 e29 ?_
        obtain ⟨w30, e31, h⟩ := obS h
        refine j_iast (pc := 63) dX11_settles_63 e31 ?_
        refine j_aload_n (pc := 64) dX11_settles_64 rfl ?_
        obtain ⟨x32, e33, h⟩ := obS h
        refine j_getR (pc := 65) dX11_settles_65 (ci := 11) (kf := 24) rfl hin_X11_settles_X11 (by decide) lk_X11_settles_3 e33 ?_
        refine j_iconst (pc := 68) dX11_settles_68 (v := 4) (by decide) ?_
        refine j_aload_n (pc := 69) dX11_settles_69 rfl ?_
        obtain ⟨x34, e35, h⟩ := obS h
        refine j_getI (pc := 70) dX11_settles_70 (ci := 11) (kf := 23) rfl hin_X11_settles_X11 (by decide) lk_X11_settles_0 e35 ?_
        refine j_imul (pc := 73) dX11_settles_73 ?_
        refine j_iconst (pc := 74) dX11_settles_74 (v := 2) (by decide) ?_
        refine j_iadd (pc := 75) dX11_settles_75 ?_
        refine j_aload_n (pc := 76) dX11_settles_76 rfl ?_
        obtain ⟨x36, e37, h⟩ := obS h
        refine j_getI (pc := 77) dX11_settles_77 (ci := 11) (kf := 20) rfl hin_X11_settles_X11 (by decide) lk_X11_settles_5 e37 ?_
        obtain ⟨w38, e39, h⟩ := obS h
        refine j_iast (pc := 80) dX11_settles_80 e39 ?_
        refine j_aload_n (pc := 81) dX11_settles_81 rfl ?_
        obtain ⟨x40, e41, h⟩ := obS h
        refine j_getR (pc := 82) dX11_settles_82 (ci := 11) (kf := 24) rfl hin_X11_settles_X11 (by decide) lk_X11_settles_3 e41 ?_
        refine j_iconst (pc := 85) dX11_settles_85 (v := 4) (by decide) ?_
        refine j_aload_n (pc := 86) dX11_settles_86 rfl ?_
        obtain ⟨x42, e43, h⟩ := obS h
        refine j_getI (pc := 87) dX11_settles_87 (ci := 11) (kf := 23) rfl hin_X11_settles_X11 (by decide) lk_X11_settles_0 e43 ?_
        refine j_imul (pc := 90) dX11_settles_90 ?_
        refine j_iconst (pc := 91) dX11_settles_91 (v := 3) (by decide) ?_
        refine j_iadd (pc := 92) dX11_settles_92 ?_
        refine j_aload_n (pc := 93) dX11_settles_93 rfl ?_
        obtain ⟨x44, e45, h⟩ := obS h
        refine j_getI (pc := 94) dX11_settles_94 (ci := 11) (kf := 21) rfl hin_X11_settles_X11 (by decide) lk_X11_settles_6 e45 ?_
        obtain ⟨w46, e47, h⟩ := obS h
        refine j_iast (pc := 97) dX11_settles_97 e47 ?_
        exact jm_X11_settles_b98 _ w46 h
  · rw [if_pos c3] at h
    cases h
    exact j_vret (pc := 7) rfl dX11_settles_7 (by decide) (by decide) rfl
theorem r_X11_settles {a0 : Nat} {ws : LWd} {o : LWd} (h : m_X11_settles a0 ws = some o) : ∃ fs, ws[a0]? = some (.inr (11, fs)) := rcv_in h
theorem hin_X11_lifts_X11 : ∀ w ∈ u_ws RX11 TX11 31, w ∈ wsX11_lifts := fun w h => List.mem_cons_of_mem _ (List.mem_append_right _ h)
theorem lk_X11_lifts_0 : Cond.fieldLink RX11 84 "GaitwrightModel" "stands" "Z" ∈ wsX11_lifts := List.mem_cons_of_mem _ (List.mem_append_left _ (List.mem_append_left _ (List.mem_of_getElem? (i := 0) rfl)))
theorem lk_X11_lifts_1 : Cond.fieldLink RX11 29 "GaitwrightModel" "energy" "I" ∈ wsX11_lifts := List.mem_cons_of_mem _ (List.mem_append_left _ (List.mem_append_left _ (List.mem_of_getElem? (i := 1) rfl)))
theorem lk_X11_lifts_2 : Cond.fieldLink RX11 66 "GaitwrightModel" "down" "I" ∈ wsX11_lifts := List.mem_cons_of_mem _ (List.mem_append_left _ (List.mem_append_left _ (List.mem_of_getElem? (i := 2) rfl)))
theorem lk_X11_lifts_3 : Cond.fieldLink RX11 152 "GaitwrightModel" "ofAct" "I" ∈ wsX11_lifts := List.mem_cons_of_mem _ (List.mem_append_left _ (List.mem_append_left _ (List.mem_of_getElem? (i := 3) rfl)))
def m_X11_lifts (a0 : Nat) (i1 : Int32) (ws : LWd) : Option (Int32 × LWd) :=
  (rcv ws a0 11).bind fun _ =>
  (fI ws a0 11 4).bind fun x1 =>
  if x1 = 0 then
    some (0, ws)
  else
    (fI ws a0 11 7).bind fun x4 =>
    if x4 < 1 then
      some (0, ws)
    else
      bn2 (calSR ws (m_X11_isDown a0 i1 ws)) fun x9 w7 =>
      if x9 = 0 then
        some (0, w7)
      else
        (fI w7 a0 11 17).bind fun x11 =>
        bn2 (calSR w7 (m_X11_holds a0 (x11 &&& ((1 <<< (i1 &&& 31)) ^^^ ((-1)))) w7)) fun x15 w13 =>
        if x15 = 0 then
          some (0, w13)
        else
          (fI w13 a0 11 7).bind fun x17 =>
          (pV w13 a0 11 7 (.int (x17 - 1))).bind fun w19 =>
          (pV w19 a0 11 22 (.int 0)).bind fun w21 =>
          (fI w21 a0 11 17).bind fun x23 =>
          (pV w21 a0 11 17 (.int (x23 &&& ((1 <<< (i1 &&& 31)) ^^^ ((-1)))))).bind fun w25 =>
          (calSV w25 (m_X11_settles a0 w25)).bind fun w27 =>
          some (1, w27)
set_option maxRecDepth 100000 in
set_option maxHeartbeats 4000000 in
theorem s_X11_lifts {a0 : Nat} {i1 : Int32} {ws : LWd} {rr : Int32} {ws' : LWd} (h : m_X11_lifts a0 i1 ws = some (rr, ws')) : jSp yX11_lifts wsX11_lifts 5 0 0 [.ref a0, .int i1] ws (.inl (some (.int rr)), ws') := by
  unfold m_X11_lifts at h
  refine j_entry (ret := (some .boolean)) (nm := "lifts") (own := RX11) pl_X11 rfl rfl rfl (jcats (by rfl)) (by decide) ?_
  show JG false cX11_lifts 2 RX11 wsX11_lifts (some .boolean) "lifts" 5 0 0 ws.length (.inl (some (.int rr)), ws') 0 [some (.ref a0), some (.int i1)] [] ws 0 0
  obtain ⟨_, _, h⟩ := obS h
  refine j_aload_n (pc := 0) dX11_lifts_0 rfl ?_
  obtain ⟨x1, e2, h⟩ := obS h
  refine j_getI (pc := 1) dX11_lifts_1 (ci := 11) (kf := 4) rfl hin_X11_lifts_X11 (by decide) lk_X11_lifts_0 e2 ?_
  refine j_if_eq (pc := 4) (tgt := 40) dX11_lifts_4 (by decide) (fun c3 => ?_) (fun c3 => ?_)
  · rw [if_pos c3] at h
    refine j_iconst (pc := 40) dX11_lifts_40 (v := 0) (by decide) ?_
    obtain ⟨rfl, rfl⟩ := jretS h
    exact j_zret (pc := 41) (ws1 := ws) rfl dX11_lifts_41 (by decide) (by decide) (show retZ 0 ws = some (0, ws) from rfl) rfl rfl
  · rw [if_neg c3] at h
    refine j_aload_n (pc := 7) dX11_lifts_7 rfl ?_
    obtain ⟨x4, e5, h⟩ := obS h
    refine j_getI (pc := 8) dX11_lifts_8 (ci := 11) (kf := 7) rfl hin_X11_lifts_X11 (by decide) lk_X11_lifts_1 e5 ?_
    refine j_iconst (pc := 11) dX11_lifts_11 (v := 1) (by decide) ?_
    refine j_icmp_lt (pc := 12) (tgt := 40) dX11_lifts_12 (by decide) (fun c6 => ?_) (fun c6 => ?_)
    · rw [if_pos c6] at h
      refine j_iconst (pc := 40) dX11_lifts_40 (v := 0) (by decide) ?_
      obtain ⟨rfl, rfl⟩ := jretS h
      exact j_zret (pc := 41) (ws1 := ws) rfl dX11_lifts_41 (by decide) (by decide) (show retZ 0 ws = some (0, ws) from rfl) rfl rfl
    · rw [if_neg c6] at h
      refine j_aload_n (pc := 15) dX11_lifts_15 rfl ?_
      refine j_iload_n (pc := 16) dX11_lifts_16 rfl ?_
      obtain ⟨x9, w7, e8, h⟩ := obS2 h
      have ge8 := calSR_of e8
      refine j_callV_g (pc := 17) (As := [.int i1]) (k' := 0) (n' := 0) dX11_lifts_17 (s_X11_isDown ge8.1) gX11_lifts_X11_isDown rfl hv_X11_isDown rfl (r_X11_isDown ge8.1) rfl (by decide) (by decide) (by decide) (by decide) (by decide) (by decide) (by decide) (Or.inl ge8.2) ?_
      refine j_if_eq (pc := 20) (tgt := 40) dX11_lifts_20 (by decide) (fun c10 => ?_) (fun c10 => ?_)
      · rw [if_pos c10] at h
        refine j_iconst (pc := 40) dX11_lifts_40 (v := 0) (by decide) ?_
        obtain ⟨rfl, rfl⟩ := jretS h
        exact j_zret (pc := 41) (ws1 := w7) rfl dX11_lifts_41 (by decide) (by decide) (show retZ 0 w7 = some (0, w7) from rfl) rfl rfl
      · rw [if_neg c10] at h
        refine j_aload_n (pc := 23) dX11_lifts_23 rfl ?_
        refine j_aload_n (pc := 24) dX11_lifts_24 rfl ?_
        obtain ⟨x11, e12, h⟩ := obS h
        refine j_getI (pc := 25) dX11_lifts_25 (ci := 11) (kf := 17) rfl hin_X11_lifts_X11 (by decide) lk_X11_lifts_2 e12 ?_
        refine j_iconst (pc := 28) dX11_lifts_28 (v := 1) (by decide) ?_
        refine j_iload_n (pc := 29) dX11_lifts_29 rfl ?_
        refine j_ishl (pc := 30) dX11_lifts_30 ?_
        refine j_iconst (pc := 31) dX11_lifts_31 (v := (-1)) (by decide) ?_
        refine j_ixor (pc := 32) dX11_lifts_32 ?_
        refine j_iand (pc := 33) dX11_lifts_33 ?_
        obtain ⟨x15, w13, e14, h⟩ := obS2 h
        have ge14 := calSR_of e14
        refine j_callV_g (pc := 34) (As := [.int (x11 &&& ((1 <<< (i1 &&& 31)) ^^^ ((-1))))]) (k' := 0) (n' := 0) dX11_lifts_34 (s_X11_holds ge14.1) gX11_lifts_X11_holds rfl hv_X11_holds rfl (r_X11_holds ge14.1) rfl (by decide) (by decide) (by decide) (by decide) (by decide) (by decide) (by decide) (Or.inl ge14.2) ?_
        refine j_if_ne (pc := 37) (tgt := 42) dX11_lifts_37 (by decide) (fun c16 => ?_) (fun c16 => ?_)
        · rw [if_neg c16] at h
          refine j_aload_n (pc := 42) dX11_lifts_42 rfl ?_
          refine j_dup (pc := 43) dX11_lifts_43 rfl ?_
          obtain ⟨x17, e18, h⟩ := obS h
          refine j_getI (pc := 44) dX11_lifts_44 (ci := 11) (kf := 7) rfl hin_X11_lifts_X11 (by decide) lk_X11_lifts_1 e18 ?_
          refine j_iconst (pc := 47) dX11_lifts_47 (v := 1) (by decide) ?_
          refine j_isub (pc := 48) dX11_lifts_48 ?_
          obtain ⟨w19, e20, h⟩ := obS h
          refine j_putV (pc := 49) (ci := 11) (kf := 7) tyX11 tyX11_ok nmX11 dX11_lifts_49 rfl hin_X11_lifts_X11 (by decide) lk_X11_lifts_1 rfl (fun _ => rfl) (fun _ => rfl) e20 ?_
          refine j_aload_n (pc := 52) dX11_lifts_52 rfl ?_
          refine j_iconst (pc := 53) dX11_lifts_53 (v := 0) (by decide) ?_
          obtain ⟨w21, e22, h⟩ := obS h
          refine j_putV (pc := 54) (ci := 11) (kf := 22) tyX11 tyX11_ok nmX11 dX11_lifts_54 rfl hin_X11_lifts_X11 (by decide) lk_X11_lifts_3 rfl (fun _ => rfl) (fun _ => rfl) e22 ?_
          refine j_aload_n (pc := 57) dX11_lifts_57 rfl ?_
          refine j_dup (pc := 58) dX11_lifts_58 rfl ?_
          obtain ⟨x23, e24, h⟩ := obS h
          refine j_getI (pc := 59) dX11_lifts_59 (ci := 11) (kf := 17) rfl hin_X11_lifts_X11 (by decide) lk_X11_lifts_2 e24 ?_
          refine j_iconst (pc := 62) dX11_lifts_62 (v := 1) (by decide) ?_
          refine j_iload_n (pc := 63) dX11_lifts_63 rfl ?_
          refine j_ishl (pc := 64) dX11_lifts_64 ?_
          refine j_iconst (pc := 65) dX11_lifts_65 (v := (-1)) (by decide) ?_
          refine j_ixor (pc := 66) dX11_lifts_66 ?_
          refine j_iand (pc := 67) dX11_lifts_67 ?_
          obtain ⟨w25, e26, h⟩ := obS h
          refine j_putV (pc := 68) (ci := 11) (kf := 17) tyX11 tyX11_ok nmX11 dX11_lifts_68 rfl hin_X11_lifts_X11 (by decide) lk_X11_lifts_2 rfl (fun _ => rfl) (fun _ => rfl) e26 ?_
          refine j_aload_n (pc := 71) dX11_lifts_71 rfl ?_
          obtain ⟨w27, e28, h⟩ := obS h
          have ge28 := calSV_of e28
          refine j_callV_g (pc := 72) (As := []) (k' := 0) (n' := 0) dX11_lifts_72 (s_X11_settles ge28.1) gX11_lifts_X11_settles rfl hv_X11_settles rfl (r_X11_settles ge28.1) rfl (by decide) (by decide) (by decide) (by decide) (by decide) (by decide) (by decide) (Or.inl ge28.2) ?_
          refine j_iconst (pc := 75) dX11_lifts_75 (v := 1) (by decide) ?_
          obtain ⟨rfl, rfl⟩ := jretS h
          exact j_zret (pc := 76) (ws1 := w27) rfl dX11_lifts_76 (by decide) (by decide) (show retZ 1 w27 = some (1, w27) from rfl) rfl rfl
        · rw [if_pos c16] at h
          refine j_iconst (pc := 40) dX11_lifts_40 (v := 0) (by decide) ?_
          obtain ⟨rfl, rfl⟩ := jretS h
          exact j_zret (pc := 41) (ws1 := w13) rfl dX11_lifts_41 (by decide) (by decide) (show retZ 0 w13 = some (0, w13) from rfl) rfl rfl
theorem r_X11_lifts {a0 : Nat} {i1 : Int32} {ws : LWd} {o : (Int32 × LWd)} (h : m_X11_lifts a0 i1 ws = some o) : ∃ fs, ws[a0]? = some (.inr (11, fs)) := rcv_in h
theorem hin_X11_canPlace_X11 : ∀ w ∈ u_ws RX11 TX11 31, w ∈ wsX11_canPlace := fun w h => List.mem_cons_of_mem _ (List.mem_append_right _ h)
theorem lk_X11_canPlace_0 : Cond.fieldLink RX11 19 "GaitwrightModel" "mapped" "[I" ∈ wsX11_canPlace := List.mem_cons_of_mem _ (List.mem_append_left _ (List.mem_append_left _ (List.mem_of_getElem? (i := 0) rfl)))
theorem lk_X11_canPlace_1 : Cond.fieldLink RX11 66 "GaitwrightModel" "down" "I" ∈ wsX11_canPlace := List.mem_cons_of_mem _ (List.mem_append_left _ (List.mem_append_left _ (List.mem_of_getElem? (i := 1) rfl)))
def m_X11_canPlace (a0 : Nat) (i1 : Int32) (i2 : Int32) (i3 : Int32) (ws : LWd) : Option (Int32 × LWd) :=
  (rcv ws a0 11).bind fun _ =>
  (fR ws a0 11 3).bind fun x1 =>
  bn2 (calSR ws (m_X11_at i2 i3 ws)) fun x5 w3 =>
  (aI w3 x1 x5).bind fun x6 =>
  (fI w3 a0 11 17).bind fun x8 =>
  bn2 (calSR w3 (m_X11_level a0 x8 w3)) fun x12 w10 =>
  bn2 (calSR w10 (m_X11_isDown a0 i1 w10)) fun x15 w13 =>
  if x15 = 0 then
    bn2 (calSR w13 (m_X11_isInReach a0 i1 i2 i3 w13)) fun x19 w17 =>
    if x19 = 0 then
      some (0, w17)
    else
      bn2 (calSR w17 (m_X11_footAt a0 i2 i3 w17)) fun x23 w21 =>
      if x23 = ((-1)) then
        bn2 (calSR w21 (m_X11_isIn (x6 - x12) ((-2)) 2 w21)) fun x27 w25 =>
        if x27 = 0 then
          some (0, w25)
        else
          some (1, w25)
      else
        some (0, w21)
  else
    some (0, w13)
set_option maxRecDepth 100000 in
set_option maxHeartbeats 4000000 in
theorem s_X11_canPlace {a0 : Nat} {i1 : Int32} {i2 : Int32} {i3 : Int32} {ws : LWd} {rr : Int32} {ws' : LWd} (h : m_X11_canPlace a0 i1 i2 i3 ws = some (rr, ws')) : jSp yX11_canPlace wsX11_canPlace 2 0 0 [.ref a0, .int i1, .int i2, .int i3] ws (.inl (some (.int rr)), ws') := by
  unfold m_X11_canPlace at h
  refine j_entry (ret := (some .boolean)) (nm := "canPlace") (own := RX11) pl_X11 rfl rfl rfl (jcats (by rfl)) (by decide) ?_
  show JG false cX11_canPlace 5 RX11 wsX11_canPlace (some .boolean) "canPlace" 2 0 0 ws.length (.inl (some (.int rr)), ws') 0 [some (.ref a0), some (.int i1), some (.int i2), some (.int i3), none] [] ws 0 0
  obtain ⟨_, _, h⟩ := obS h
  refine j_aload_n (pc := 0) dX11_canPlace_0 rfl ?_
  obtain ⟨x1, e2, h⟩ := obS h
  refine j_getR (pc := 1) dX11_canPlace_1 (ci := 11) (kf := 3) rfl hin_X11_canPlace_X11 (by decide) lk_X11_canPlace_0 e2 ?_
  refine j_iload_n (pc := 4) dX11_canPlace_4 rfl ?_
  refine j_iload_n (pc := 5) dX11_canPlace_5 rfl ?_
  obtain ⟨x5, w3, e4, h⟩ := obS2 h
  have ge4 := calSR_of e4
  refine j_callS_g (pc := 6) (As := [.int i2, .int i3]) (k' := 0) (n' := 0) dX11_canPlace_6 (s_X11_at ge4.1) gX11_canPlace_X11_at rfl hy_X11_at rfl (by decide) (by decide) (by decide) (by decide) (by decide) (by decide) (by decide) (Or.inl ge4.2) ?_
  obtain ⟨x6, e7, h⟩ := obS h
  refine j_iald (pc := 9) dX11_canPlace_9 e7 ?_
  refine j_aload_n (pc := 10) dX11_canPlace_10 rfl ?_
  refine j_aload_n (pc := 11) dX11_canPlace_11 rfl ?_
  obtain ⟨x8, e9, h⟩ := obS h
  refine j_getI (pc := 12) dX11_canPlace_12 (ci := 11) (kf := 17) rfl hin_X11_canPlace_X11 (by decide) lk_X11_canPlace_1 e9 ?_
  obtain ⟨x12, w10, e11, h⟩ := obS2 h
  have ge11 := calSR_of e11
  refine j_callV_g (pc := 15) (As := [.int x8]) (k' := 0) (n' := 0) dX11_canPlace_15 (s_X11_level ge11.1) gX11_canPlace_X11_level rfl hv_X11_level rfl (r_X11_level ge11.1) rfl (by decide) (by decide) (by decide) (by decide) (by decide) (by decide) (by decide) (Or.inl ge11.2) ?_
  refine j_isub (pc := 18) dX11_canPlace_18 ?_
  refine j_istore_4 (pc := 19) dX11_canPlace_19 (by decide) rfl ?_
  refine j_aload_n (pc := 21) dX11_canPlace_21 rfl ?_
  refine j_iload_n (pc := 22) dX11_canPlace_22 rfl ?_
  obtain ⟨x15, w13, e14, h⟩ := obS2 h
  have ge14 := calSR_of e14
  refine j_callV_g (pc := 23) (As := [.int i1]) (k' := 0) (n' := 0) dX11_canPlace_23 (s_X11_isDown ge14.1) gX11_canPlace_X11_isDown rfl hv_X11_isDown rfl (r_X11_isDown ge14.1) rfl (by decide) (by decide) (by decide) (by decide) (by decide) (by decide) (by decide) (Or.inl ge14.2) ?_
  refine j_if_ne (pc := 26) (tgt := 64) dX11_canPlace_26 (by decide) (fun c16 => ?_) (fun c16 => ?_)
  · rw [if_neg c16] at h
    refine j_iconst (pc := 64) dX11_canPlace_64 (v := 0) (by decide) ?_
    obtain ⟨rfl, rfl⟩ := jretS h
    exact j_zret (pc := 65) (ws1 := w13) rfl dX11_canPlace_65 (by decide) (by decide) (show retZ 0 w13 = some (0, w13) from rfl) rfl rfl
  · rw [if_pos c16] at h
    refine j_aload_n (pc := 29) dX11_canPlace_29 rfl ?_
    refine j_iload_n (pc := 30) dX11_canPlace_30 rfl ?_
    refine j_iload_n (pc := 31) dX11_canPlace_31 rfl ?_
    refine j_iload_n (pc := 32) dX11_canPlace_32 rfl ?_
    obtain ⟨x19, w17, e18, h⟩ := obS2 h
    have ge18 := calSR_of e18
    refine j_callV_g (pc := 33) (As := [.int i1, .int i2, .int i3]) (k' := 0) (n' := 0) dX11_canPlace_33 (s_X11_isInReach ge18.1) gX11_canPlace_X11_isInReach rfl hv_X11_isInReach rfl (r_X11_isInReach ge18.1) rfl (by decide) (by decide) (by decide) (by decide) (by decide) (by decide) (by decide) (Or.inl ge18.2) ?_
    refine j_if_eq (pc := 36) (tgt := 64) dX11_canPlace_36 (by decide) (fun c20 => ?_) (fun c20 => ?_)
    · rw [if_pos c20] at h
      refine j_iconst (pc := 64) dX11_canPlace_64 (v := 0) (by decide) ?_
      obtain ⟨rfl, rfl⟩ := jretS h
      exact j_zret (pc := 65) (ws1 := w17) rfl dX11_canPlace_65 (by decide) (by decide) (show retZ 0 w17 = some (0, w17) from rfl) rfl rfl
    · rw [if_neg c20] at h
      refine j_aload_n (pc := 39) dX11_canPlace_39 rfl ?_
      refine j_iload_n (pc := 40) dX11_canPlace_40 rfl ?_
      refine j_iload_n (pc := 41) dX11_canPlace_41 rfl ?_
      obtain ⟨x23, w21, e22, h⟩ := obS2 h
      have ge22 := calSR_of e22
      refine j_callV_g (pc := 42) (As := [.int i2, .int i3]) (k' := 0) (n' := 0) dX11_canPlace_42 (s_X11_footAt ge22.1) gX11_canPlace_X11_footAt rfl hv_X11_footAt rfl (r_X11_footAt ge22.1) rfl (by decide) (by decide) (by decide) (by decide) (by decide) (by decide) (by decide) (Or.inl ge22.2) ?_
      refine j_iconst (pc := 45) dX11_canPlace_45 (v := (-1)) (by decide) ?_
      refine j_icmp_ne (pc := 46) (tgt := 64) dX11_canPlace_46 (by decide) (fun c24 => ?_) (fun c24 => ?_)
      · rw [if_neg c24] at h
        refine j_iconst (pc := 64) dX11_canPlace_64 (v := 0) (by decide) ?_
        obtain ⟨rfl, rfl⟩ := jretS h
        exact j_zret (pc := 65) (ws1 := w21) rfl dX11_canPlace_65 (by decide) (by decide) (show retZ 0 w21 = some (0, w21) from rfl) rfl rfl
      · rw [if_pos c24] at h
        refine j_iload (pc := 49) dX11_canPlace_49 rfl ?_
        refine j_bipush (pc := 51) dX11_canPlace_51 (v := (-2)) (by decide) ?_
        refine j_iconst (pc := 53) dX11_canPlace_53 (v := 2) (by decide) ?_
        obtain ⟨x27, w25, e26, h⟩ := obS2 h
        have ge26 := calSR_of e26
        refine j_callS_g (pc := 54) (As := [.int (x6 - x12), .int ((-2)), .int 2]) (k' := 0) (n' := 0) dX11_canPlace_54 (s_X11_isIn ge26.1) gX11_canPlace_X11_isIn rfl hy_X11_isIn rfl (by decide) (by decide) (by decide) (by decide) (by decide) (by decide) (by decide) (Or.inl ge26.2) ?_
        refine j_if_eq (pc := 57) (tgt := 64) dX11_canPlace_57 (by decide) (fun c28 => ?_) (fun c28 => ?_)
        · rw [if_pos c28] at h
          refine j_iconst (pc := 64) dX11_canPlace_64 (v := 0) (by decide) ?_
          obtain ⟨rfl, rfl⟩ := jretS h
          exact j_zret (pc := 65) (ws1 := w25) rfl dX11_canPlace_65 (by decide) (by decide) (show retZ 0 w25 = some (0, w25) from rfl) rfl rfl
        · rw [if_neg c28] at h
          refine j_iconst (pc := 60) dX11_canPlace_60 (v := 1) (by decide) ?_
          refine j_goto (pc := 61) (tgt := 65) dX11_canPlace_61 (by decide) ?_
          obtain ⟨rfl, rfl⟩ := jretS h
          exact j_zret (pc := 65) (ws1 := w25) rfl dX11_canPlace_65 (by decide) (by decide) (show retZ 1 w25 = some (1, w25) from rfl) rfl rfl
theorem r_X11_canPlace {a0 : Nat} {i1 : Int32} {i2 : Int32} {i3 : Int32} {ws : LWd} {o : (Int32 × LWd)} (h : m_X11_canPlace a0 i1 i2 i3 ws = some o) : ∃ fs, ws[a0]? = some (.inr (11, fs)) := rcv_in h
theorem hin_X11_places_X11 : ∀ w ∈ u_ws RX11 TX11 31, w ∈ wsX11_places := fun w h => List.mem_cons_of_mem _ (List.mem_append_right _ h)
theorem lk_X11_places_0 : Cond.fieldLink RX11 84 "GaitwrightModel" "stands" "Z" ∈ wsX11_places := List.mem_cons_of_mem _ (List.mem_append_left _ (List.mem_append_left _ (List.mem_of_getElem? (i := 0) rfl)))
theorem lk_X11_places_1 : Cond.fieldLink RX11 29 "GaitwrightModel" "energy" "I" ∈ wsX11_places := List.mem_cons_of_mem _ (List.mem_append_left _ (List.mem_append_left _ (List.mem_of_getElem? (i := 1) rfl)))
theorem lk_X11_places_2 : Cond.fieldLink RX11 152 "GaitwrightModel" "ofAct" "I" ∈ wsX11_places := List.mem_cons_of_mem _ (List.mem_append_left _ (List.mem_append_left _ (List.mem_of_getElem? (i := 2) rfl)))
def m_X11_places (a0 : Nat) (i1 : Int32) (i2 : Int32) (i3 : Int32) (ws : LWd) : Option (Int32 × LWd) :=
  (rcv ws a0 11).bind fun _ =>
  (fI ws a0 11 4).bind fun x1 =>
  if x1 = 0 then
    some (0, ws)
  else
    (fI ws a0 11 7).bind fun x4 =>
    bn2 (calSR ws (m_X11_far a0 i1 i2 i3 ws)) fun x8 w6 =>
    if x4 < (1 + x8) then
      some (0, w6)
    else
      bn2 (calSR w6 (m_X11_canPlace a0 i1 i2 i3 w6)) fun x12 w10 =>
      if x12 = 0 then
        some (0, w10)
      else
        (fI w10 a0 11 7).bind fun x14 =>
        bn2 (calSR w10 (m_X11_far a0 i1 i2 i3 w10)) fun x18 w16 =>
        (pV w16 a0 11 7 (.int (x14 - (1 + x18)))).bind fun w19 =>
        (pV w19 a0 11 22 (.int 0)).bind fun w21 =>
        (calSV w21 (m_X11_sets a0 i1 i2 i3 w21)).bind fun w23 =>
        (calSV w23 (m_X11_settles a0 w23)).bind fun w25 =>
        some (1, w25)
set_option maxRecDepth 100000 in
set_option maxHeartbeats 4000000 in
theorem s_X11_places {a0 : Nat} {i1 : Int32} {i2 : Int32} {i3 : Int32} {ws : LWd} {rr : Int32} {ws' : LWd} (h : m_X11_places a0 i1 i2 i3 ws = some (rr, ws')) : jSp yX11_places wsX11_places 5 0 0 [.ref a0, .int i1, .int i2, .int i3] ws (.inl (some (.int rr)), ws') := by
  unfold m_X11_places at h
  refine j_entry (ret := (some .boolean)) (nm := "places") (own := RX11) pl_X11 rfl rfl rfl (jcats (by rfl)) (by decide) ?_
  show JG false cX11_places 4 RX11 wsX11_places (some .boolean) "places" 5 0 0 ws.length (.inl (some (.int rr)), ws') 0 [some (.ref a0), some (.int i1), some (.int i2), some (.int i3)] [] ws 0 0
  obtain ⟨_, _, h⟩ := obS h
  refine j_aload_n (pc := 0) dX11_places_0 rfl ?_
  obtain ⟨x1, e2, h⟩ := obS h
  refine j_getI (pc := 1) dX11_places_1 (ci := 11) (kf := 4) rfl hin_X11_places_X11 (by decide) lk_X11_places_0 e2 ?_
  refine j_if_eq (pc := 4) (tgt := 33) dX11_places_4 (by decide) (fun c3 => ?_) (fun c3 => ?_)
  · rw [if_pos c3] at h
    refine j_iconst (pc := 33) dX11_places_33 (v := 0) (by decide) ?_
    obtain ⟨rfl, rfl⟩ := jretS h
    exact j_zret (pc := 34) (ws1 := ws) rfl dX11_places_34 (by decide) (by decide) (show retZ 0 ws = some (0, ws) from rfl) rfl rfl
  · rw [if_neg c3] at h
    refine j_aload_n (pc := 7) dX11_places_7 rfl ?_
    obtain ⟨x4, e5, h⟩ := obS h
    refine j_getI (pc := 8) dX11_places_8 (ci := 11) (kf := 7) rfl hin_X11_places_X11 (by decide) lk_X11_places_1 e5 ?_
    refine j_iconst (pc := 11) dX11_places_11 (v := 1) (by decide) ?_
    refine j_aload_n (pc := 12) dX11_places_12 rfl ?_
    refine j_iload_n (pc := 13) dX11_places_13 rfl ?_
    refine j_iload_n (pc := 14) dX11_places_14 rfl ?_
    refine j_iload_n (pc := 15) dX11_places_15 rfl ?_
    obtain ⟨x8, w6, e7, h⟩ := obS2 h
    have ge7 := calSR_of e7
    refine j_callV_g (pc := 16) (As := [.int i1, .int i2, .int i3]) (k' := 0) (n' := 0) dX11_places_16 (s_X11_far ge7.1) gX11_places_X11_far rfl hv_X11_far rfl (r_X11_far ge7.1) rfl (by decide) (by decide) (by decide) (by decide) (by decide) (by decide) (by decide) (Or.inl ge7.2) ?_
    refine j_iadd (pc := 19) dX11_places_19 ?_
    refine j_icmp_lt (pc := 20) (tgt := 33) dX11_places_20 (by decide) (fun c9 => ?_) (fun c9 => ?_)
    · rw [if_pos c9] at h
      refine j_iconst (pc := 33) dX11_places_33 (v := 0) (by decide) ?_
      obtain ⟨rfl, rfl⟩ := jretS h
      exact j_zret (pc := 34) (ws1 := w6) rfl dX11_places_34 (by decide) (by decide) (show retZ 0 w6 = some (0, w6) from rfl) rfl rfl
    · rw [if_neg c9] at h
      refine j_aload_n (pc := 23) dX11_places_23 rfl ?_
      refine j_iload_n (pc := 24) dX11_places_24 rfl ?_
      refine j_iload_n (pc := 25) dX11_places_25 rfl ?_
      refine j_iload_n (pc := 26) dX11_places_26 rfl ?_
      obtain ⟨x12, w10, e11, h⟩ := obS2 h
      have ge11 := calSR_of e11
      refine j_callV_g (pc := 27) (As := [.int i1, .int i2, .int i3]) (k' := 0) (n' := 0) dX11_places_27 (s_X11_canPlace ge11.1) gX11_places_X11_canPlace rfl hv_X11_canPlace rfl (r_X11_canPlace ge11.1) rfl (by decide) (by decide) (by decide) (by decide) (by decide) (by decide) (by decide) (Or.inl ge11.2) ?_
      refine j_if_ne (pc := 30) (tgt := 35) dX11_places_30 (by decide) (fun c13 => ?_) (fun c13 => ?_)
      · rw [if_neg c13] at h
        refine j_aload_n (pc := 35) dX11_places_35 rfl ?_
        refine j_dup (pc := 36) dX11_places_36 rfl ?_
        obtain ⟨x14, e15, h⟩ := obS h
        refine j_getI (pc := 37) dX11_places_37 (ci := 11) (kf := 7) rfl hin_X11_places_X11 (by decide) lk_X11_places_1 e15 ?_
        refine j_iconst (pc := 40) dX11_places_40 (v := 1) (by decide) ?_
        refine j_aload_n (pc := 41) dX11_places_41 rfl ?_
        refine j_iload_n (pc := 42) dX11_places_42 rfl ?_
        refine j_iload_n (pc := 43) dX11_places_43 rfl ?_
        refine j_iload_n (pc := 44) dX11_places_44 rfl ?_
        obtain ⟨x18, w16, e17, h⟩ := obS2 h
        have ge17 := calSR_of e17
        refine j_callV_g (pc := 45) (As := [.int i1, .int i2, .int i3]) (k' := 0) (n' := 0) dX11_places_45 (s_X11_far ge17.1) gX11_places_X11_far rfl hv_X11_far rfl (r_X11_far ge17.1) rfl (by decide) (by decide) (by decide) (by decide) (by decide) (by decide) (by decide) (Or.inl ge17.2) ?_
        refine j_iadd (pc := 48) dX11_places_48 ?_
        refine j_isub (pc := 49) dX11_places_49 ?_
        obtain ⟨w19, e20, h⟩ := obS h
        refine j_putV (pc := 50) (ci := 11) (kf := 7) tyX11 tyX11_ok nmX11 dX11_places_50 rfl hin_X11_places_X11 (by decide) lk_X11_places_1 rfl (fun _ => rfl) (fun _ => rfl) e20 ?_
        refine j_aload_n (pc := 53) dX11_places_53 rfl ?_
        refine j_iconst (pc := 54) dX11_places_54 (v := 0) (by decide) ?_
        obtain ⟨w21, e22, h⟩ := obS h
        refine j_putV (pc := 55) (ci := 11) (kf := 22) tyX11 tyX11_ok nmX11 dX11_places_55 rfl hin_X11_places_X11 (by decide) lk_X11_places_2 rfl (fun _ => rfl) (fun _ => rfl) e22 ?_
        refine j_aload_n (pc := 58) dX11_places_58 rfl ?_
        refine j_iload_n (pc := 59) dX11_places_59 rfl ?_
        refine j_iload_n (pc := 60) dX11_places_60 rfl ?_
        refine j_iload_n (pc := 61) dX11_places_61 rfl ?_
        obtain ⟨w23, e24, h⟩ := obS h
        have ge24 := calSV_of e24
        refine j_callV_g (pc := 62) (As := [.int i1, .int i2, .int i3]) (k' := 0) (n' := 0) dX11_places_62 (s_X11_sets ge24.1) gX11_places_X11_sets rfl hv_X11_sets rfl (r_X11_sets ge24.1) rfl (by decide) (by decide) (by decide) (by decide) (by decide) (by decide) (by decide) (Or.inl ge24.2) ?_
        refine j_aload_n (pc := 65) dX11_places_65 rfl ?_
        obtain ⟨w25, e26, h⟩ := obS h
        have ge26 := calSV_of e26
        refine j_callV_g (pc := 66) (As := []) (k' := 0) (n' := 0) dX11_places_66 (s_X11_settles ge26.1) gX11_places_X11_settles rfl hv_X11_settles rfl (r_X11_settles ge26.1) rfl (by decide) (by decide) (by decide) (by decide) (by decide) (by decide) (by decide) (Or.inl ge26.2) ?_
        refine j_iconst (pc := 69) dX11_places_69 (v := 1) (by decide) ?_
        obtain ⟨rfl, rfl⟩ := jretS h
        exact j_zret (pc := 70) (ws1 := w25) rfl dX11_places_70 (by decide) (by decide) (show retZ 1 w25 = some (1, w25) from rfl) rfl rfl
      · rw [if_pos c13] at h
        refine j_iconst (pc := 33) dX11_places_33 (v := 0) (by decide) ?_
        obtain ⟨rfl, rfl⟩ := jretS h
        exact j_zret (pc := 34) (ws1 := w10) rfl dX11_places_34 (by decide) (by decide) (show retZ 0 w10 = some (0, w10) from rfl) rfl rfl
theorem r_X11_places {a0 : Nat} {i1 : Int32} {i2 : Int32} {i3 : Int32} {ws : LWd} {o : (Int32 × LWd)} (h : m_X11_places a0 i1 i2 i3 ws = some o) : ∃ fs, ws[a0]? = some (.inr (11, fs)) := rcv_in h
theorem lk_X11_moves_0 : Cond.fieldLink RX11 26 "GaitwrightModel" "bodyY" "I" ∈ wsX11_moves := List.mem_cons_of_mem _ (List.mem_append_left _ (List.mem_append_left _ (List.mem_of_getElem? (i := 1) rfl)))
theorem hin_X11_moves_X11 : ∀ w ∈ u_ws RX11 TX11 31, w ∈ wsX11_moves := fun w h => List.mem_cons_of_mem _ (List.mem_append_right _ h)
theorem lk_X11_moves_1 : Cond.fieldLink RX11 22 "GaitwrightModel" "bodyX" "I" ∈ wsX11_moves := List.mem_cons_of_mem _ (List.mem_append_left _ (List.mem_append_left _ (List.mem_of_getElem? (i := 0) rfl)))
theorem lk_X11_moves_2 : Cond.fieldLink RX11 41 "GaitwrightModel" "footX" "[I" ∈ wsX11_moves := List.mem_cons_of_mem _ (List.mem_append_left _ (List.mem_append_left _ (List.mem_of_getElem? (i := 3) rfl)))
theorem lk_X11_moves_3 : Cond.fieldLink RX11 44 "GaitwrightModel" "footY" "[I" ∈ wsX11_moves := List.mem_cons_of_mem _ (List.mem_append_left _ (List.mem_append_left _ (List.mem_of_getElem? (i := 4) rfl)))
theorem lk_X11_moves_4 : Cond.fieldLink RX11 66 "GaitwrightModel" "down" "I" ∈ wsX11_moves := List.mem_cons_of_mem _ (List.mem_append_left _ (List.mem_append_left _ (List.mem_of_getElem? (i := 2) rfl)))
def m_X11_moves_b141 (i3 : Int32) (s0 : Nat) (s1 : Int32) (s2 : Int32) (ws : LWd) : Option (Int32 × LWd) :=
  (pV ws s0 11 6 (.int (s1 - s2))).bind fun w1 =>
  retZ i3 w1
set_option maxRecDepth 100000 in
set_option maxHeartbeats 4000000 in
theorem jm_X11_moves_b141 {n0 : Nat} {rr : Int32} {ws' : LWd} (i3 : Int32) (s0 : Nat) (s1 : Int32) (s2 : Int32) (ws : LWd) (h : m_X11_moves_b141 i3 s0 s1 s2 ws = some (rr, ws')) : JG false cX11_moves 5 RX11 wsX11_moves (some .boolean) "moves" 4 0 0 n0 (.inl (some (.int rr)), ws') 141 [none, none, none, some (.int i3), none] [.int s2, .int s1, .ref s0] ws 0 0 := by
  unfold m_X11_moves_b141 at h
  refine j_isub (pc := 141) dX11_moves_141 ?_
  obtain ⟨w1, e2, h⟩ := obS h
  refine j_putV (pc := 142) (ci := 11) (kf := 6) tyX11 tyX11_ok nmX11 dX11_moves_142 rfl hin_X11_moves_X11 (by decide) lk_X11_moves_0 rfl (fun _ => rfl) (fun _ => rfl) e2 ?_
  refine j_iload_n (pc := 145) dX11_moves_145 rfl ?_
  exact j_zret (pc := 146) rfl dX11_moves_146 (by decide) (by decide) h rfl rfl
def m_X11_moves_b123 (a0 : Nat) (i2 : Int32) (i3 : Int32) (s0 : Nat) (s1 : Int32) (s2 : Int32) (ws : LWd) : Option (Int32 × LWd) :=
  (pV ws s0 11 5 (.int (s1 - s2))).bind fun w1 =>
  (fI w1 a0 11 6).bind fun x3 =>
  if i3 = 0 then
    m_X11_moves_b141 i3 a0 x3 i2 w1
  else
    m_X11_moves_b141 i3 a0 x3 0 w1
set_option maxRecDepth 100000 in
set_option maxHeartbeats 4000000 in
theorem jm_X11_moves_b123 {n0 : Nat} {rr : Int32} {ws' : LWd} (a0 : Nat) (i2 : Int32) (i3 : Int32) (s0 : Nat) (s1 : Int32) (s2 : Int32) (ws : LWd) (h : m_X11_moves_b123 a0 i2 i3 s0 s1 s2 ws = some (rr, ws')) : JG false cX11_moves 5 RX11 wsX11_moves (some .boolean) "moves" 4 0 0 n0 (.inl (some (.int rr)), ws') 123 [some (.ref a0), none, some (.int i2), some (.int i3), none] [.int s2, .int s1, .ref s0] ws 0 0 := by
  unfold m_X11_moves_b123 at h
  refine j_isub (pc := 123) dX11_moves_123 ?_
  obtain ⟨w1, e2, h⟩ := obS h
  refine j_putV (pc := 124) (ci := 11) (kf := 5) tyX11 tyX11_ok nmX11 dX11_moves_124 rfl hin_X11_moves_X11 (by decide) lk_X11_moves_1 rfl (fun _ => rfl) (fun _ => rfl) e2 ?_
  refine j_aload_n (pc := 127) dX11_moves_127 rfl ?_
  refine j_dup (pc := 128) dX11_moves_128 rfl ?_
  obtain ⟨x3, e4, h⟩ := obS h
  refine j_getI (pc := 129) dX11_moves_129 (ci := 11) (kf := 6) rfl hin_X11_moves_X11 (by decide) lk_X11_moves_0 e4 ?_
  refine j_iload_n (pc := 132) dX11_moves_132 rfl ?_
  refine j_if_eq (pc := 133) (tgt := 140) dX11_moves_133 (by decide) (fun c5 => ?_) (fun c5 => ?_)
  · rw [if_pos c5] at h
    refine j_iload_n (pc := 140) dX11_moves_140 rfl ?_
    refine j_mask [false, false, false, true, false] ?_
    exact jm_X11_moves_b141 _ _ _ _ w1 h
  · rw [if_neg c5] at h
    refine j_iconst (pc := 136) dX11_moves_136 (v := 0) (by decide) ?_
    refine j_goto (pc := 137) (tgt := 141) dX11_moves_137 (by decide) ?_
    refine j_mask [false, false, false, true, false] ?_
    exact jm_X11_moves_b141 _ _ _ _ w1 h
def m_X11_moves_b102 (k54 : Nat → Int32 → Int32 → Int32 → Int32 → LWd → Option (Int32 × LWd)) (a0 : Nat) (i1 : Int32) (i2 : Int32) (i4 : Int32) (s0 : Int32) (ws : LWd) : Option (Int32 × LWd) :=
  k54 a0 i1 i2 s0 (i4 + 1) ws
set_option maxRecDepth 100000 in
set_option maxHeartbeats 4000000 in
theorem jm_X11_moves_b102 {n0 : Nat} {rr : Int32} {ws' : LWd} {k54 : Nat → Int32 → Int32 → Int32 → Int32 → LWd → Option (Int32 × LWd)} (hk54 : ∀ (a0 : Nat) (i1 : Int32) (i2 : Int32) (i3 : Int32) (i4 : Int32) (ws : LWd), k54 a0 i1 i2 i3 i4 ws = some (rr, ws') → JG false cX11_moves 5 RX11 wsX11_moves (some .boolean) "moves" 4 0 0 n0 (.inl (some (.int rr)), ws') 54 [some (.ref a0), some (.int i1), some (.int i2), some (.int i3), some (.int i4)] [] ws 0 0) (a0 : Nat) (i1 : Int32) (i2 : Int32) (i4 : Int32) (s0 : Int32) (ws : LWd) (h : m_X11_moves_b102 k54 a0 i1 i2 i4 s0 ws = some (rr, ws')) : JG false cX11_moves 5 RX11 wsX11_moves (some .boolean) "moves" 4 0 0 n0 (.inl (some (.int rr)), ws') 102 [some (.ref a0), some (.int i1), some (.int i2), none, some (.int i4)] [.int s0] ws 0 0 := by
  unfold m_X11_moves_b102 at h
  refine j_istore_n_3 (pc := 102) dX11_moves_102 (by decide) rfl ?_
  refine j_iinc_4 (pc := 103) dX11_moves_103 (y := i4 + 1) rfl (by decide) rfl ?_
  refine j_goto (pc := 106) (tgt := 54) dX11_moves_106 (by decide) ?_
  exact hk54 _ _ _ _ _ ws h
def m_X11_moves_b101 (k54 : Nat → Int32 → Int32 → Int32 → Int32 → LWd → Option (Int32 × LWd)) (a0 : Nat) (i1 : Int32) (i2 : Int32) (i4 : Int32) (ws : LWd) : Option (Int32 × LWd) :=
  m_X11_moves_b102 k54 a0 i1 i2 i4 0 ws
set_option maxRecDepth 100000 in
set_option maxHeartbeats 4000000 in
theorem jm_X11_moves_b101 {n0 : Nat} {rr : Int32} {ws' : LWd} {k54 : Nat → Int32 → Int32 → Int32 → Int32 → LWd → Option (Int32 × LWd)} (hk54 : ∀ (a0 : Nat) (i1 : Int32) (i2 : Int32) (i3 : Int32) (i4 : Int32) (ws : LWd), k54 a0 i1 i2 i3 i4 ws = some (rr, ws') → JG false cX11_moves 5 RX11 wsX11_moves (some .boolean) "moves" 4 0 0 n0 (.inl (some (.int rr)), ws') 54 [some (.ref a0), some (.int i1), some (.int i2), some (.int i3), some (.int i4)] [] ws 0 0) (a0 : Nat) (i1 : Int32) (i2 : Int32) (i4 : Int32) (ws : LWd) (h : m_X11_moves_b101 k54 a0 i1 i2 i4 ws = some (rr, ws')) : JG false cX11_moves 5 RX11 wsX11_moves (some .boolean) "moves" 4 0 0 n0 (.inl (some (.int rr)), ws') 101 [some (.ref a0), some (.int i1), some (.int i2), none, some (.int i4)] [] ws 0 0 := by
  unfold m_X11_moves_b101 at h
  refine j_iconst (pc := 101) dX11_moves_101 (v := 0) (by decide) ?_
  exact jm_X11_moves_b102 (hk54 := hk54) _ _ _ _ _ ws h
def m_X11_moves_b97 (k54 : Nat → Int32 → Int32 → Int32 → Int32 → LWd → Option (Int32 × LWd)) (a0 : Nat) (i1 : Int32) (i2 : Int32) (i4 : Int32) (ws : LWd) : Option (Int32 × LWd) :=
  m_X11_moves_b102 k54 a0 i1 i2 i4 1 ws
set_option maxRecDepth 100000 in
set_option maxHeartbeats 4000000 in
theorem jm_X11_moves_b97 {n0 : Nat} {rr : Int32} {ws' : LWd} {k54 : Nat → Int32 → Int32 → Int32 → Int32 → LWd → Option (Int32 × LWd)} (hk54 : ∀ (a0 : Nat) (i1 : Int32) (i2 : Int32) (i3 : Int32) (i4 : Int32) (ws : LWd), k54 a0 i1 i2 i3 i4 ws = some (rr, ws') → JG false cX11_moves 5 RX11 wsX11_moves (some .boolean) "moves" 4 0 0 n0 (.inl (some (.int rr)), ws') 54 [some (.ref a0), some (.int i1), some (.int i2), some (.int i3), some (.int i4)] [] ws 0 0) (a0 : Nat) (i1 : Int32) (i2 : Int32) (i4 : Int32) (ws : LWd) (h : m_X11_moves_b97 k54 a0 i1 i2 i4 ws = some (rr, ws')) : JG false cX11_moves 5 RX11 wsX11_moves (some .boolean) "moves" 4 0 0 n0 (.inl (some (.int rr)), ws') 97 [some (.ref a0), some (.int i1), some (.int i2), none, some (.int i4)] [] ws 0 0 := by
  unfold m_X11_moves_b97 at h
  refine j_iconst (pc := 97) dX11_moves_97 (v := 1) (by decide) ?_
  refine j_goto (pc := 98) (tgt := 102) dX11_moves_98 (by decide) ?_
  exact jm_X11_moves_b102 (hk54 := hk54) _ _ _ _ _ ws h
def m_X11_moves_l54 : Nat → Nat → Int32 → Int32 → Int32 → Int32 → LWd → Option (Int32 × LWd)
  | 0, _, _, _, _, _, _ => none
  | fu + 1, a0, i1, i2, i3, i4, ws =>
    if 6 ≤ i4 then
      (fI ws a0 11 5).bind fun x2 =>
      if i3 = 0 then
        m_X11_moves_b123 a0 i2 i3 a0 x2 i1 ws
      else
        m_X11_moves_b123 a0 i2 i3 a0 x2 0 ws
    else
      if i3 = 0 then
        m_X11_moves_b101 (fun z0 z1 z2 z3 z4 w => m_X11_moves_l54 fu z0 z1 z2 z3 z4 w) a0 i1 i2 i4 ws
      else
        bn2 (calSR ws (m_X11_isDown a0 i4 ws)) fun x8 w6 =>
        if x8 = 0 then
          m_X11_moves_b97 (fun z0 z1 z2 z3 z4 w => m_X11_moves_l54 fu z0 z1 z2 z3 z4 w) a0 i1 i2 i4 w6
        else
          (fR w6 a0 11 15).bind fun x10 =>
          (aI w6 x10 i4).bind fun x12 =>
          (fR w6 a0 11 16).bind fun x14 =>
          (aI w6 x14 i4).bind fun x16 =>
          bn2 (calSR w6 (m_X11_isInReach a0 i4 x12 x16 w6)) fun x20 w18 =>
          if x20 = 0 then
            m_X11_moves_b101 (fun z0 z1 z2 z3 z4 w => m_X11_moves_l54 fu z0 z1 z2 z3 z4 w) a0 i1 i2 i4 w18
          else
            m_X11_moves_b97 (fun z0 z1 z2 z3 z4 w => m_X11_moves_l54 fu z0 z1 z2 z3 z4 w) a0 i1 i2 i4 w18
set_option maxRecDepth 100000 in
set_option maxHeartbeats 4000000 in
theorem jm_X11_moves_l54 {n0 : Nat} {rr : Int32} {ws' : LWd} : ∀ (fu : Nat) (a0 : Nat) (i1 : Int32) (i2 : Int32) (i3 : Int32) (i4 : Int32) (ws : LWd), m_X11_moves_l54 fu a0 i1 i2 i3 i4 ws = some (rr, ws') → JG false cX11_moves 5 RX11 wsX11_moves (some .boolean) "moves" 4 0 0 n0 (.inl (some (.int rr)), ws') 54 [some (.ref a0), some (.int i1), some (.int i2), some (.int i3), some (.int i4)] [] ws 0 0 := by
  intro fu
  induction fu with
  | zero => intro a0 i1 i2 i3 i4 ws h; cases h
  | succ fu ih =>
    intro a0 i1 i2 i3 i4 ws h
    rw [m_X11_moves_l54] at h
    refine j_iload (pc := 54) dX11_moves_54 rfl ?_
    refine j_bipush (pc := 56) dX11_moves_56 (v := 6) (by decide) ?_
    refine j_icmp_ge (pc := 58) (tgt := 109) dX11_moves_58 (by decide) (fun c1 => ?_) (fun c1 => ?_)
    · rw [if_pos c1] at h
      refine j_aload_n (pc := 109) dX11_moves_109 rfl ?_
      refine j_dup (pc := 110) dX11_moves_110 rfl ?_
      obtain ⟨x2, e3, h⟩ := obS h
      refine j_getI (pc := 111) dX11_moves_111 (ci := 11) (kf := 5) rfl hin_X11_moves_X11 (by decide) lk_X11_moves_1 e3 ?_
      refine j_iload_n (pc := 114) dX11_moves_114 rfl ?_
      refine j_if_eq (pc := 115) (tgt := 122) dX11_moves_115 (by decide) (fun c4 => ?_) (fun c4 => ?_)
      · rw [if_pos c4] at h
        refine j_iload_n (pc := 122) dX11_moves_122 rfl ?_
        refine j_mask [true, false, true, true, false] ?_
        exact jm_X11_moves_b123 _ _ _ _ _ _ ws h
      · rw [if_neg c4] at h
        refine j_iconst (pc := 118) dX11_moves_118 (v := 0) (by decide) ?_
        refine j_goto (pc := 119) (tgt := 123) dX11_moves_119 (by decide) ?_
        refine j_mask [true, false, true, true, false] ?_
        exact jm_X11_moves_b123 _ _ _ _ _ _ ws h
    · rw [if_neg c1] at h
      refine j_iload_n (pc := 61) dX11_moves_61 rfl ?_
      refine j_if_eq (pc := 62) (tgt := 101) dX11_moves_62 (by decide) (fun c5 => ?_) (fun c5 => ?_)
      · rw [if_pos c5] at h
        refine j_mask [true, true, true, false, true] ?_
        exact jm_X11_moves_b101 (hk54 := ih) _ _ _ _ ws h
      · rw [if_neg c5] at h
        refine j_aload_n (pc := 65) dX11_moves_65 rfl ?_
        refine j_iload (pc := 66) dX11_moves_66 rfl ?_
        obtain ⟨x8, w6, e7, h⟩ := obS2 h
        have ge7 := calSR_of e7
        refine j_callV_g (pc := 68) (As := [.int i4]) (k' := 0) (n' := 0) dX11_moves_68 (s_X11_isDown ge7.1) gX11_moves_X11_isDown rfl hv_X11_isDown rfl (r_X11_isDown ge7.1) rfl (by decide) (by decide) (by decide) (by decide) (by decide) (by decide) (by decide) (Or.inl ge7.2) ?_
        refine j_if_eq (pc := 71) (tgt := 97) dX11_moves_71 (by decide) (fun c9 => ?_) (fun c9 => ?_)
        · rw [if_pos c9] at h
          refine j_mask [true, true, true, false, true] ?_
          exact jm_X11_moves_b97 (hk54 := ih) _ _ _ _ w6 h
        · rw [if_neg c9] at h
          refine j_aload_n (pc := 74) dX11_moves_74 rfl ?_
          refine j_iload (pc := 75) dX11_moves_75 rfl ?_
          refine j_aload_n (pc := 77) dX11_moves_77 rfl ?_
          obtain ⟨x10, e11, h⟩ := obS h
          refine j_getR (pc := 78) dX11_moves_78 (ci := 11) (kf := 15) rfl hin_X11_moves_X11 (by decide) lk_X11_moves_2 e11 ?_
          refine j_iload (pc := 81) dX11_moves_81 rfl ?_
          obtain ⟨x12, e13, h⟩ := obS h
          refine j_iald (pc := 83) dX11_moves_83 e13 ?_
          refine j_aload_n (pc := 84) dX11_moves_84 rfl ?_
          obtain ⟨x14, e15, h⟩ := obS h
          refine j_getR (pc := 85) dX11_moves_85 (ci := 11) (kf := 16) rfl hin_X11_moves_X11 (by decide) lk_X11_moves_3 e15 ?_
          refine j_iload (pc := 88) dX11_moves_88 rfl ?_
          obtain ⟨x16, e17, h⟩ := obS h
          refine j_iald (pc := 90) dX11_moves_90 e17 ?_
          obtain ⟨x20, w18, e19, h⟩ := obS2 h
          have ge19 := calSR_of e19
          refine j_callV_g (pc := 91) (As := [.int i4, .int x12, .int x16]) (k' := 0) (n' := 0) dX11_moves_91 (s_X11_isInReach ge19.1) gX11_moves_X11_isInReach rfl hv_X11_isInReach rfl (r_X11_isInReach ge19.1) rfl (by decide) (by decide) (by decide) (by decide) (by decide) (by decide) (by decide) (Or.inl ge19.2) ?_
          refine j_if_eq (pc := 94) (tgt := 101) dX11_moves_94 (by decide) (fun c21 => ?_) (fun c21 => ?_)
          · rw [if_pos c21] at h
            refine j_mask [true, true, true, false, true] ?_
            exact jm_X11_moves_b101 (hk54 := ih) _ _ _ _ w18 h
          · rw [if_neg c21] at h
            refine j_mask [true, true, true, false, true] ?_
            exact jm_X11_moves_b97 (hk54 := ih) _ _ _ _ w18 h
def m_X11_moves_b50 (a0 : Nat) (i1 : Int32) (i2 : Int32) (s0 : Int32) (ws : LWd) : Option (Int32 × LWd) :=
  m_X11_moves_l54 FU a0 i1 i2 s0 0 ws
set_option maxRecDepth 100000 in
set_option maxHeartbeats 4000000 in
theorem jm_X11_moves_b50 {n0 : Nat} {rr : Int32} {ws' : LWd} (a0 : Nat) (i1 : Int32) (i2 : Int32) (s0 : Int32) (ws : LWd) (h : m_X11_moves_b50 a0 i1 i2 s0 ws = some (rr, ws')) : JG false cX11_moves 5 RX11 wsX11_moves (some .boolean) "moves" 4 0 0 n0 (.inl (some (.int rr)), ws') 50 [some (.ref a0), some (.int i1), some (.int i2), none, none] [.int s0] ws 0 0 := by
  unfold m_X11_moves_b50 at h
  refine j_istore_n_3 (pc := 50) dX11_moves_50 (by decide) rfl ?_
  refine j_iconst (pc := 51) dX11_moves_51 (v := 0) (by decide) ?_
  refine j_istore_4 (pc := 52) dX11_moves_52 (by decide) rfl ?_
  exact jm_X11_moves_l54 FU _ _ _ _ _ ws h
def m_X11_moves_b49 (a0 : Nat) (i1 : Int32) (i2 : Int32) (ws : LWd) : Option (Int32 × LWd) :=
  m_X11_moves_b50 a0 i1 i2 0 ws
set_option maxRecDepth 100000 in
set_option maxHeartbeats 4000000 in
theorem jm_X11_moves_b49 {n0 : Nat} {rr : Int32} {ws' : LWd} (a0 : Nat) (i1 : Int32) (i2 : Int32) (ws : LWd) (h : m_X11_moves_b49 a0 i1 i2 ws = some (rr, ws')) : JG false cX11_moves 5 RX11 wsX11_moves (some .boolean) "moves" 4 0 0 n0 (.inl (some (.int rr)), ws') 49 [some (.ref a0), some (.int i1), some (.int i2), none, none] [] ws 0 0 := by
  unfold m_X11_moves_b49 at h
  refine j_iconst (pc := 49) dX11_moves_49 (v := 0) (by decide) ?_
  exact jm_X11_moves_b50 _ _ _ _ ws h
def m_X11_moves (a0 : Nat) (i1 : Int32) (i2 : Int32) (ws : LWd) : Option (Int32 × LWd) :=
  (rcv ws a0 11).bind fun _ =>
  (fI ws a0 11 5).bind fun x1 =>
  (pV ws a0 11 5 (.int (x1 + i1))).bind fun w3 =>
  (fI w3 a0 11 6).bind fun x5 =>
  (pV w3 a0 11 6 (.int (x5 + i2))).bind fun w7 =>
  (fI w7 a0 11 5).bind fun x9 =>
  (fI w7 a0 11 6).bind fun x11 =>
  bn2 (calSR w7 (m_X11_isPoint x9 x11 w7)) fun x15 w13 =>
  if x15 = 0 then
    m_X11_moves_b49 a0 i1 i2 w13
  else
    (fI w13 a0 11 17).bind fun x17 =>
    bn2 (calSR w13 (m_X11_holds a0 x17 w13)) fun x21 w19 =>
    if x21 = 0 then
      m_X11_moves_b49 a0 i1 i2 w19
    else
      m_X11_moves_b50 a0 i1 i2 1 w19
set_option maxRecDepth 100000 in
set_option maxHeartbeats 4000000 in
theorem s_X11_moves {a0 : Nat} {i1 : Int32} {i2 : Int32} {ws : LWd} {rr : Int32} {ws' : LWd} (h : m_X11_moves a0 i1 i2 ws = some (rr, ws')) : jSp yX11_moves wsX11_moves 4 0 0 [.ref a0, .int i1, .int i2] ws (.inl (some (.int rr)), ws') := by
  unfold m_X11_moves at h
  refine j_entry (ret := (some .boolean)) (nm := "moves") (own := RX11) pl_X11 rfl rfl rfl (jcats (by rfl)) (by decide) ?_
  show JG false cX11_moves 5 RX11 wsX11_moves (some .boolean) "moves" 4 0 0 ws.length (.inl (some (.int rr)), ws') 0 [some (.ref a0), some (.int i1), some (.int i2), none, none] [] ws 0 0
  obtain ⟨_, _, h⟩ := obS h
  refine j_aload_n (pc := 0) dX11_moves_0 rfl ?_
  refine j_dup (pc := 1) dX11_moves_1 rfl ?_
  obtain ⟨x1, e2, h⟩ := obS h
  refine j_getI (pc := 2) dX11_moves_2 (ci := 11) (kf := 5) rfl hin_X11_moves_X11 (by decide) lk_X11_moves_1 e2 ?_
  refine j_iload_n (pc := 5) dX11_moves_5 rfl ?_
  refine j_iadd (pc := 6) dX11_moves_6 ?_
  obtain ⟨w3, e4, h⟩ := obS h
  refine j_putV (pc := 7) (ci := 11) (kf := 5) tyX11 tyX11_ok nmX11 dX11_moves_7 rfl hin_X11_moves_X11 (by decide) lk_X11_moves_1 rfl (fun _ => rfl) (fun _ => rfl) e4 ?_
  refine j_aload_n (pc := 10) dX11_moves_10 rfl ?_
  refine j_dup (pc := 11) dX11_moves_11 rfl ?_
  obtain ⟨x5, e6, h⟩ := obS h
  refine j_getI (pc := 12) dX11_moves_12 (ci := 11) (kf := 6) rfl hin_X11_moves_X11 (by decide) lk_X11_moves_0 e6 ?_
  refine j_iload_n (pc := 15) dX11_moves_15 rfl ?_
  refine j_iadd (pc := 16) dX11_moves_16 ?_
  obtain ⟨w7, e8, h⟩ := obS h
  refine j_putV (pc := 17) (ci := 11) (kf := 6) tyX11 tyX11_ok nmX11 dX11_moves_17 rfl hin_X11_moves_X11 (by decide) lk_X11_moves_0 rfl (fun _ => rfl) (fun _ => rfl) e8 ?_
  refine j_aload_n (pc := 20) dX11_moves_20 rfl ?_
  obtain ⟨x9, e10, h⟩ := obS h
  refine j_getI (pc := 21) dX11_moves_21 (ci := 11) (kf := 5) rfl hin_X11_moves_X11 (by decide) lk_X11_moves_1 e10 ?_
  refine j_aload_n (pc := 24) dX11_moves_24 rfl ?_
  obtain ⟨x11, e12, h⟩ := obS h
  refine j_getI (pc := 25) dX11_moves_25 (ci := 11) (kf := 6) rfl hin_X11_moves_X11 (by decide) lk_X11_moves_0 e12 ?_
  obtain ⟨x15, w13, e14, h⟩ := obS2 h
  have ge14 := calSR_of e14
  refine j_callS_g (pc := 28) (As := [.int x9, .int x11]) (k' := 0) (n' := 0) dX11_moves_28 (s_X11_isPoint ge14.1) gX11_moves_X11_isPoint rfl hy_X11_isPoint rfl (by decide) (by decide) (by decide) (by decide) (by decide) (by decide) (by decide) (Or.inl ge14.2) ?_
  refine j_if_eq (pc := 31) (tgt := 49) dX11_moves_31 (by decide) (fun c16 => ?_) (fun c16 => ?_)
  · rw [if_pos c16] at h
    exact jm_X11_moves_b49 _ _ _ w13 h
  · rw [if_neg c16] at h
    refine j_aload_n (pc := 34) dX11_moves_34 rfl ?_
    refine j_aload_n (pc := 35) dX11_moves_35 rfl ?_
    obtain ⟨x17, e18, h⟩ := obS h
    refine j_getI (pc := 36) dX11_moves_36 (ci := 11) (kf := 17) rfl hin_X11_moves_X11 (by decide) lk_X11_moves_4 e18 ?_
    obtain ⟨x21, w19, e20, h⟩ := obS2 h
    have ge20 := calSR_of e20
    refine j_callV_g (pc := 39) (As := [.int x17]) (k' := 0) (n' := 0) dX11_moves_39 (s_X11_holds ge20.1) gX11_moves_X11_holds rfl hv_X11_holds rfl (r_X11_holds ge20.1) rfl (by decide) (by decide) (by decide) (by decide) (by decide) (by decide) (by decide) (Or.inl ge20.2) ?_
    refine j_if_eq (pc := 42) (tgt := 49) dX11_moves_42 (by decide) (fun c22 => ?_) (fun c22 => ?_)
    · rw [if_pos c22] at h
      exact jm_X11_moves_b49 _ _ _ w19 h
    · rw [if_neg c22] at h
      refine j_iconst (pc := 45) dX11_moves_45 (v := 1) (by decide) ?_
      refine j_goto (pc := 46) (tgt := 50) dX11_moves_46 (by decide) ?_
      exact jm_X11_moves_b50 _ _ _ _ w19 h
theorem r_X11_moves {a0 : Nat} {i1 : Int32} {i2 : Int32} {ws : LWd} {o : (Int32 × LWd)} (h : m_X11_moves a0 i1 i2 ws = some o) : ∃ fs, ws[a0]? = some (.inr (11, fs)) := rcv_in h
theorem hin_X11_shifts_X11 : ∀ w ∈ u_ws RX11 TX11 31, w ∈ wsX11_shifts := fun w h => List.mem_cons_of_mem _ (List.mem_append_right _ h)
theorem lk_X11_shifts_0 : Cond.fieldLink RX11 84 "GaitwrightModel" "stands" "Z" ∈ wsX11_shifts := List.mem_cons_of_mem _ (List.mem_append_left _ (List.mem_append_left _ (List.mem_of_getElem? (i := 0) rfl)))
theorem lk_X11_shifts_1 : Cond.fieldLink RX11 29 "GaitwrightModel" "energy" "I" ∈ wsX11_shifts := List.mem_cons_of_mem _ (List.mem_append_left _ (List.mem_append_left _ (List.mem_of_getElem? (i := 1) rfl)))
theorem lk_X11_shifts_2 : Cond.fieldLink RX11 152 "GaitwrightModel" "ofAct" "I" ∈ wsX11_shifts := List.mem_cons_of_mem _ (List.mem_append_left _ (List.mem_append_left _ (List.mem_of_getElem? (i := 2) rfl)))
def m_X11_shifts (a0 : Nat) (i1 : Int32) (i2 : Int32) (ws : LWd) : Option (Int32 × LWd) :=
  (rcv ws a0 11).bind fun _ =>
  bn2 (calSR ws (m_X11_weight a0 ws)) fun x3 w1 =>
  (fI w1 a0 11 4).bind fun x4 =>
  if x4 = 0 then
    some (0, w1)
  else
    (fI w1 a0 11 7).bind fun x7 =>
    if x7 < ((x3 + 9) / 10) then
      some (0, w1)
    else
      bn2 (calSR w1 (m_X11_moves a0 i1 i2 w1)) fun x12 w10 =>
      if x12 = 0 then
        some (0, w10)
      else
        (fI w10 a0 11 7).bind fun x14 =>
        (pV w10 a0 11 7 (.int (x14 - ((x3 + 9) / 10)))).bind fun w16 =>
        (pV w16 a0 11 22 (.int 0)).bind fun w18 =>
        (calSV w18 (m_X11_settles a0 w18)).bind fun w20 =>
        some (1, w20)
set_option maxRecDepth 100000 in
set_option maxHeartbeats 4000000 in
theorem s_X11_shifts {a0 : Nat} {i1 : Int32} {i2 : Int32} {ws : LWd} {rr : Int32} {ws' : LWd} (h : m_X11_shifts a0 i1 i2 ws = some (rr, ws')) : jSp yX11_shifts wsX11_shifts 5 0 0 [.ref a0, .int i1, .int i2] ws (.inl (some (.int rr)), ws') := by
  unfold m_X11_shifts at h
  refine j_entry (ret := (some .boolean)) (nm := "shifts") (own := RX11) pl_X11 rfl rfl rfl (jcats (by rfl)) (by decide) ?_
  show JG false cX11_shifts 4 RX11 wsX11_shifts (some .boolean) "shifts" 5 0 0 ws.length (.inl (some (.int rr)), ws') 0 [some (.ref a0), some (.int i1), some (.int i2), none] [] ws 0 0
  obtain ⟨_, _, h⟩ := obS h
  refine j_aload_n (pc := 0) dX11_shifts_0 rfl ?_
  obtain ⟨x3, w1, e2, h⟩ := obS2 h
  have ge2 := calSR_of e2
  refine j_callV_g (pc := 1) (As := []) (k' := 0) (n' := 0) dX11_shifts_1 (s_X11_weight ge2.1) gX11_shifts_X11_weight rfl hv_X11_weight rfl (r_X11_weight ge2.1) rfl (by decide) (by decide) (by decide) (by decide) (by decide) (by decide) (by decide) (Or.inl ge2.2) ?_
  refine j_bipush (pc := 4) dX11_shifts_4 (v := 9) (by decide) ?_
  refine j_iadd (pc := 6) dX11_shifts_6 ?_
  refine j_bipush (pc := 7) dX11_shifts_7 (v := 10) (by decide) ?_
  refine j_idiv (pc := 9) dX11_shifts_9 (by decide) ?_
  refine j_istore_n_3 (pc := 10) dX11_shifts_10 (by decide) rfl ?_
  refine j_aload_n (pc := 11) dX11_shifts_11 rfl ?_
  obtain ⟨x4, e5, h⟩ := obS h
  refine j_getI (pc := 12) dX11_shifts_12 (ci := 11) (kf := 4) rfl hin_X11_shifts_X11 (by decide) lk_X11_shifts_0 e5 ?_
  refine j_if_eq (pc := 15) (tgt := 35) dX11_shifts_15 (by decide) (fun c6 => ?_) (fun c6 => ?_)
  · rw [if_pos c6] at h
    refine j_iconst (pc := 35) dX11_shifts_35 (v := 0) (by decide) ?_
    obtain ⟨rfl, rfl⟩ := jretS h
    exact j_zret (pc := 36) (ws1 := w1) rfl dX11_shifts_36 (by decide) (by decide) (show retZ 0 w1 = some (0, w1) from rfl) rfl rfl
  · rw [if_neg c6] at h
    refine j_aload_n (pc := 18) dX11_shifts_18 rfl ?_
    obtain ⟨x7, e8, h⟩ := obS h
    refine j_getI (pc := 19) dX11_shifts_19 (ci := 11) (kf := 7) rfl hin_X11_shifts_X11 (by decide) lk_X11_shifts_1 e8 ?_
    refine j_iload_n (pc := 22) dX11_shifts_22 rfl ?_
    refine j_icmp_lt (pc := 23) (tgt := 35) dX11_shifts_23 (by decide) (fun c9 => ?_) (fun c9 => ?_)
    · rw [if_pos c9] at h
      refine j_iconst (pc := 35) dX11_shifts_35 (v := 0) (by decide) ?_
      obtain ⟨rfl, rfl⟩ := jretS h
      exact j_zret (pc := 36) (ws1 := w1) rfl dX11_shifts_36 (by decide) (by decide) (show retZ 0 w1 = some (0, w1) from rfl) rfl rfl
    · rw [if_neg c9] at h
      refine j_aload_n (pc := 26) dX11_shifts_26 rfl ?_
      refine j_iload_n (pc := 27) dX11_shifts_27 rfl ?_
      refine j_iload_n (pc := 28) dX11_shifts_28 rfl ?_
      obtain ⟨x12, w10, e11, h⟩ := obS2 h
      have ge11 := calSR_of e11
      refine j_callV_g (pc := 29) (As := [.int i1, .int i2]) (k' := 0) (n' := 0) dX11_shifts_29 (s_X11_moves ge11.1) gX11_shifts_X11_moves rfl hv_X11_moves rfl (r_X11_moves ge11.1) rfl (by decide) (by decide) (by decide) (by decide) (by decide) (by decide) (by decide) (Or.inl ge11.2) ?_
      refine j_if_ne (pc := 32) (tgt := 37) dX11_shifts_32 (by decide) (fun c13 => ?_) (fun c13 => ?_)
      · rw [if_neg c13] at h
        refine j_aload_n (pc := 37) dX11_shifts_37 rfl ?_
        refine j_dup (pc := 38) dX11_shifts_38 rfl ?_
        obtain ⟨x14, e15, h⟩ := obS h
        refine j_getI (pc := 39) dX11_shifts_39 (ci := 11) (kf := 7) rfl hin_X11_shifts_X11 (by decide) lk_X11_shifts_1 e15 ?_
        refine j_iload_n (pc := 42) dX11_shifts_42 rfl ?_
        refine j_isub (pc := 43) dX11_shifts_43 ?_
        obtain ⟨w16, e17, h⟩ := obS h
        refine j_putV (pc := 44) (ci := 11) (kf := 7) tyX11 tyX11_ok nmX11 dX11_shifts_44 rfl hin_X11_shifts_X11 (by decide) lk_X11_shifts_1 rfl (fun _ => rfl) (fun _ => rfl) e17 ?_
        refine j_aload_n (pc := 47) dX11_shifts_47 rfl ?_
        refine j_iconst (pc := 48) dX11_shifts_48 (v := 0) (by decide) ?_
        obtain ⟨w18, e19, h⟩ := obS h
        refine j_putV (pc := 49) (ci := 11) (kf := 22) tyX11 tyX11_ok nmX11 dX11_shifts_49 rfl hin_X11_shifts_X11 (by decide) lk_X11_shifts_2 rfl (fun _ => rfl) (fun _ => rfl) e19 ?_
        refine j_aload_n (pc := 52) dX11_shifts_52 rfl ?_
        obtain ⟨w20, e21, h⟩ := obS h
        have ge21 := calSV_of e21
        refine j_callV_g (pc := 53) (As := []) (k' := 0) (n' := 0) dX11_shifts_53 (s_X11_settles ge21.1) gX11_shifts_X11_settles rfl hv_X11_settles rfl (r_X11_settles ge21.1) rfl (by decide) (by decide) (by decide) (by decide) (by decide) (by decide) (by decide) (Or.inl ge21.2) ?_
        refine j_iconst (pc := 56) dX11_shifts_56 (v := 1) (by decide) ?_
        obtain ⟨rfl, rfl⟩ := jretS h
        exact j_zret (pc := 57) (ws1 := w20) rfl dX11_shifts_57 (by decide) (by decide) (show retZ 1 w20 = some (1, w20) from rfl) rfl rfl
      · rw [if_pos c13] at h
        refine j_iconst (pc := 35) dX11_shifts_35 (v := 0) (by decide) ?_
        obtain ⟨rfl, rfl⟩ := jretS h
        exact j_zret (pc := 36) (ws1 := w10) rfl dX11_shifts_36 (by decide) (by decide) (show retZ 0 w10 = some (0, w10) from rfl) rfl rfl
theorem r_X11_shifts {a0 : Nat} {i1 : Int32} {i2 : Int32} {ws : LWd} {o : (Int32 × LWd)} (h : m_X11_shifts a0 i1 i2 ws = some o) : ∃ fs, ws[a0]? = some (.inr (11, fs)) := rcv_in h
theorem lk_X11_load_0 : Cond.fieldLink RX11 152 "GaitwrightModel" "ofAct" "I" ∈ wsX11_load := List.mem_cons_of_mem _ (List.mem_append_left _ (List.mem_append_left _ (List.mem_of_getElem? (i := 5) rfl)))
theorem hin_X11_load_X11 : ∀ w ∈ u_ws RX11 TX11 31, w ∈ wsX11_load := fun w h => List.mem_cons_of_mem _ (List.mem_append_right _ h)
theorem lk_X11_load_1 : Cond.fieldLink RX11 100 "GaitwrightModel" "load" "I" ∈ wsX11_load := List.mem_cons_of_mem _ (List.mem_append_left _ (List.mem_append_left _ (List.mem_of_getElem? (i := 0) rfl)))
theorem lk_X11_load_2 : Cond.fieldLink RX11 107 "GaitwrightModel" "loadX" "I" ∈ wsX11_load := List.mem_cons_of_mem _ (List.mem_append_left _ (List.mem_append_left _ (List.mem_of_getElem? (i := 1) rfl)))
theorem lk_X11_load_3 : Cond.fieldLink RX11 110 "GaitwrightModel" "loadY" "I" ∈ wsX11_load := List.mem_cons_of_mem _ (List.mem_append_left _ (List.mem_append_left _ (List.mem_of_getElem? (i := 2) rfl)))
theorem lk_X11_load_4 : Cond.fieldLink RX11 84 "GaitwrightModel" "stands" "Z" ∈ wsX11_load := List.mem_cons_of_mem _ (List.mem_append_left _ (List.mem_append_left _ (List.mem_of_getElem? (i := 3) rfl)))
theorem lk_X11_load_5 : Cond.fieldLink RX11 66 "GaitwrightModel" "down" "I" ∈ wsX11_load := List.mem_cons_of_mem _ (List.mem_append_left _ (List.mem_append_left _ (List.mem_of_getElem? (i := 4) rfl)))
def m_X11_load_b108 (a0 : Nat) (i5 : Int32) (i6 : Int32) (i7 : Int32) (s0 : Nat) (s1 : Int32) (ws : LWd) : Option (Int32 × LWd) :=
  bn2 (calSR ws (m_X11_fails s0 s1 ws)) fun x3 w1 =>
  if x3 = 0 then
    (pV w1 a0 11 22 (.int 0)).bind fun w5 =>
    (calSV w5 (m_X11_settles a0 w5)).bind fun w7 =>
    (fI w7 a0 11 22).bind fun x9 =>
    some (x9, w7)
  else
    (pV w1 a0 11 8 (.int i5)).bind fun w11 =>
    (pV w11 a0 11 9 (.int i6)).bind fun w13 =>
    (pV w13 a0 11 10 (.int i7)).bind fun w15 =>
    some (0, w15)
set_option maxRecDepth 100000 in
set_option maxHeartbeats 4000000 in
theorem jm_X11_load_b108 {n0 : Nat} {rr : Int32} {ws' : LWd} (a0 : Nat) (i5 : Int32) (i6 : Int32) (i7 : Int32) (s0 : Nat) (s1 : Int32) (ws : LWd) (h : m_X11_load_b108 a0 i5 i6 i7 s0 s1 ws = some (rr, ws')) : JG false cX11_load 8 RX11 wsX11_load (some .int) "load" 5 0 0 n0 (.inl (some (.int rr)), ws') 108 [some (.ref a0), none, none, none, none, some (.int i5), some (.int i6), some (.int i7)] [.int s1, .ref s0] ws 0 0 := by
  unfold m_X11_load_b108 at h
  obtain ⟨x3, w1, e2, h⟩ := obS2 h
  have ge2 := calSR_of e2
  refine j_callV_g (pc := 108) (As := [.int s1]) (k' := 0) (n' := 0) dX11_load_108 (s_X11_fails ge2.1) gX11_load_X11_fails rfl hv_X11_fails rfl (r_X11_fails ge2.1) rfl (by decide) (by decide) (by decide) (by decide) (by decide) (by decide) (by decide) (Or.inl ge2.2) ?_
  refine j_if_eq (pc := 111) (tgt := 134) dX11_load_111 (by decide) (fun c4 => ?_) (fun c4 => ?_)
  · rw [if_pos c4] at h
    refine j_aload_n (pc := 134) dX11_load_134 rfl ?_
    refine j_iconst (pc := 135) dX11_load_135 (v := 0) (by decide) ?_
    obtain ⟨w5, e6, h⟩ := obS h
    refine j_putV (pc := 136) (ci := 11) (kf := 22) tyX11 tyX11_ok nmX11 dX11_load_136 rfl hin_X11_load_X11 (by decide) lk_X11_load_0 rfl (fun _ => rfl) (fun _ => rfl) e6 ?_
    refine j_aload_n (pc := 139) dX11_load_139 rfl ?_
    obtain ⟨w7, e8, h⟩ := obS h
    have ge8 := calSV_of e8
    refine j_callV_g (pc := 140) (As := []) (k' := 0) (n' := 0) dX11_load_140 (s_X11_settles ge8.1) gX11_load_X11_settles rfl hv_X11_settles rfl (r_X11_settles ge8.1) rfl (by decide) (by decide) (by decide) (by decide) (by decide) (by decide) (by decide) (Or.inl ge8.2) ?_
    refine j_aload_n (pc := 143) dX11_load_143 rfl ?_
    obtain ⟨x9, e10, h⟩ := obS h
    refine j_getI (pc := 144) dX11_load_144 (ci := 11) (kf := 22) rfl hin_X11_load_X11 (by decide) lk_X11_load_0 e10 ?_
    obtain ⟨rfl, rfl⟩ := jretS h
    exact j_iret (pc := 147) rfl dX11_load_147 (by decide) (by decide) rfl
  · rw [if_neg c4] at h
    refine j_aload_n (pc := 114) dX11_load_114 rfl ?_
    refine j_iload (pc := 115) dX11_load_115 rfl ?_
    obtain ⟨w11, e12, h⟩ := obS h
    refine j_putV (pc := 117) (ci := 11) (kf := 8) tyX11 tyX11_ok nmX11 dX11_load_117 rfl hin_X11_load_X11 (by decide) lk_X11_load_1 rfl (fun _ => rfl) (fun _ => rfl) e12 ?_
    refine j_aload_n (pc := 120) dX11_load_120 rfl ?_
    refine j_iload (pc := 121) dX11_load_121 rfl ?_
    obtain ⟨w13, e14, h⟩ := obS h
    refine j_putV (pc := 123) (ci := 11) (kf := 9) tyX11 tyX11_ok nmX11 dX11_load_123 rfl hin_X11_load_X11 (by decide) lk_X11_load_2 rfl (fun _ => rfl) (fun _ => rfl) e14 ?_
    refine j_aload_n (pc := 126) dX11_load_126 rfl ?_
    refine j_iload (pc := 127) dX11_load_127 rfl ?_
    obtain ⟨w15, e16, h⟩ := obS h
    refine j_putV (pc := 129) (ci := 11) (kf := 10) tyX11 tyX11_ok nmX11 dX11_load_129 rfl hin_X11_load_X11 (by decide) lk_X11_load_3 rfl (fun _ => rfl) (fun _ => rfl) e16 ?_
    refine j_iconst (pc := 132) dX11_load_132 (v := 0) (by decide) ?_
    obtain ⟨rfl, rfl⟩ := jretS h
    exact j_iret (pc := 133) rfl dX11_load_133 (by decide) (by decide) rfl
def m_X11_load_b107 (a0 : Nat) (i5 : Int32) (i6 : Int32) (i7 : Int32) (s0 : Nat) (ws : LWd) : Option (Int32 × LWd) :=
  m_X11_load_b108 a0 i5 i6 i7 s0 0 ws
set_option maxRecDepth 100000 in
set_option maxHeartbeats 4000000 in
theorem jm_X11_load_b107 {n0 : Nat} {rr : Int32} {ws' : LWd} (a0 : Nat) (i5 : Int32) (i6 : Int32) (i7 : Int32) (s0 : Nat) (ws : LWd) (h : m_X11_load_b107 a0 i5 i6 i7 s0 ws = some (rr, ws')) : JG false cX11_load 8 RX11 wsX11_load (some .int) "load" 5 0 0 n0 (.inl (some (.int rr)), ws') 107 [some (.ref a0), none, none, none, none, some (.int i5), some (.int i6), some (.int i7)] [.ref s0] ws 0 0 := by
  unfold m_X11_load_b107 at h
  refine j_iconst (pc := 107) dX11_load_107 (v := 0) (by decide) ?_
  exact jm_X11_load_b108 _ _ _ _ _ _ ws h
def m_X11_load_b75 (a0 : Nat) (i4 : Int32) (i5 : Int32) (i6 : Int32) (i7 : Int32) (ws : LWd) : Option (Int32 × LWd) :=
  if i4 = 0 then
    m_X11_load_b108 a0 i5 i6 i7 a0 1 ws
  else
    (fI ws a0 11 4).bind fun x2 =>
    if x2 = 0 then
      m_X11_load_b107 a0 i5 i6 i7 a0 ws
    else
      (fI ws a0 11 17).bind fun x5 =>
      bn2 (calSR ws (m_X11_holds a0 x5 ws)) fun x9 w7 =>
      if x9 = 0 then
        m_X11_load_b108 a0 i5 i6 i7 a0 2 w7
      else
        m_X11_load_b107 a0 i5 i6 i7 a0 w7
set_option maxRecDepth 100000 in
set_option maxHeartbeats 4000000 in
theorem jm_X11_load_b75 {n0 : Nat} {rr : Int32} {ws' : LWd} (a0 : Nat) (i4 : Int32) (i5 : Int32) (i6 : Int32) (i7 : Int32) (ws : LWd) (h : m_X11_load_b75 a0 i4 i5 i6 i7 ws = some (rr, ws')) : JG false cX11_load 8 RX11 wsX11_load (some .int) "load" 5 0 0 n0 (.inl (some (.int rr)), ws') 75 [some (.ref a0), none, none, none, some (.int i4), some (.int i5), some (.int i6), some (.int i7)] [] ws 0 0 := by
  unfold m_X11_load_b75 at h
  refine j_aload_n (pc := 75) dX11_load_75 rfl ?_
  refine j_iload (pc := 76) dX11_load_76 rfl ?_
  refine j_if_ne (pc := 78) (tgt := 85) dX11_load_78 (by decide) (fun c1 => ?_) (fun c1 => ?_)
  · rw [if_neg c1] at h
    refine j_aload_n (pc := 85) dX11_load_85 rfl ?_
    obtain ⟨x2, e3, h⟩ := obS h
    refine j_getI (pc := 86) dX11_load_86 (ci := 11) (kf := 4) rfl hin_X11_load_X11 (by decide) lk_X11_load_4 e3 ?_
    refine j_if_eq (pc := 89) (tgt := 107) dX11_load_89 (by decide) (fun c4 => ?_) (fun c4 => ?_)
    · rw [if_pos c4] at h
      refine j_mask [true, false, false, false, false, true, true, true] ?_
      exact jm_X11_load_b107 _ _ _ _ _ ws h
    · rw [if_neg c4] at h
      refine j_aload_n (pc := 92) dX11_load_92 rfl ?_
      refine j_aload_n (pc := 93) dX11_load_93 rfl ?_
      obtain ⟨x5, e6, h⟩ := obS h
      refine j_getI (pc := 94) dX11_load_94 (ci := 11) (kf := 17) rfl hin_X11_load_X11 (by decide) lk_X11_load_5 e6 ?_
      obtain ⟨x9, w7, e8, h⟩ := obS2 h
      have ge8 := calSR_of e8
      refine j_callV_g (pc := 97) (As := [.int x5]) (k' := 0) (n' := 0) dX11_load_97 (s_X11_holds ge8.1) gX11_load_X11_holds rfl hv_X11_holds rfl (r_X11_holds ge8.1) rfl (by decide) (by decide) (by decide) (by decide) (by decide) (by decide) (by decide) (Or.inl ge8.2) ?_
      refine j_if_ne (pc := 100) (tgt := 107) dX11_load_100 (by decide) (fun c10 => ?_) (fun c10 => ?_)
      · rw [if_neg c10] at h
        refine j_mask [true, false, false, false, false, true, true, true] ?_
        exact jm_X11_load_b107 _ _ _ _ _ w7 h
      · rw [if_pos c10] at h
        refine j_iconst (pc := 103) dX11_load_103 (v := 2) (by decide) ?_
        refine j_goto (pc := 104) (tgt := 108) dX11_load_104 (by decide) ?_
        refine j_mask [true, false, false, false, false, true, true, true] ?_
        exact jm_X11_load_b108 _ _ _ _ _ _ w7 h
  · rw [if_pos c1] at h
    refine j_iconst (pc := 81) dX11_load_81 (v := 1) (by decide) ?_
    refine j_goto (pc := 82) (tgt := 108) dX11_load_82 (by decide) ?_
    refine j_mask [true, false, false, false, false, true, true, true] ?_
    exact jm_X11_load_b108 _ _ _ _ _ _ ws h
def m_X11_load_b35 (a0 : Nat) (i1 : Int32) (i2 : Int32) (i3 : Int32) (s0 : Int32) (ws : LWd) : Option (Int32 × LWd) :=
  (fI ws a0 11 8).bind fun x1 =>
  (fI ws a0 11 9).bind fun x3 =>
  (fI ws a0 11 10).bind fun x5 =>
  if s0 = 0 then
    m_X11_load_b75 a0 s0 x1 x3 x5 ws
  else
    (pV ws a0 11 8 (.int i1)).bind fun w8 =>
    (pV w8 a0 11 9 (.int i2)).bind fun w10 =>
    (pV w10 a0 11 10 (.int i3)).bind fun w12 =>
    m_X11_load_b75 a0 s0 x1 x3 x5 w12
set_option maxRecDepth 100000 in
set_option maxHeartbeats 4000000 in
theorem jm_X11_load_b35 {n0 : Nat} {rr : Int32} {ws' : LWd} (a0 : Nat) (i1 : Int32) (i2 : Int32) (i3 : Int32) (s0 : Int32) (ws : LWd) (h : m_X11_load_b35 a0 i1 i2 i3 s0 ws = some (rr, ws')) : JG false cX11_load 8 RX11 wsX11_load (some .int) "load" 5 0 0 n0 (.inl (some (.int rr)), ws') 35 [some (.ref a0), some (.int i1), some (.int i2), some (.int i3), none, none, none, none] [.int s0] ws 0 0 := by
  unfold m_X11_load_b35 at h
  refine j_istore_4 (pc := 35) dX11_load_35 (by decide) rfl ?_
  refine j_aload_n (pc := 37) dX11_load_37 rfl ?_
  obtain ⟨x1, e2, h⟩ := obS h
  refine j_getI (pc := 38) dX11_load_38 (ci := 11) (kf := 8) rfl hin_X11_load_X11 (by decide) lk_X11_load_1 e2 ?_
  refine j_istore_5 (pc := 41) dX11_load_41 (by decide) rfl ?_
  refine j_aload_n (pc := 43) dX11_load_43 rfl ?_
  obtain ⟨x3, e4, h⟩ := obS h
  refine j_getI (pc := 44) dX11_load_44 (ci := 11) (kf := 9) rfl hin_X11_load_X11 (by decide) lk_X11_load_2 e4 ?_
  refine j_istore_6 (pc := 47) dX11_load_47 (by decide) rfl ?_
  refine j_aload_n (pc := 49) dX11_load_49 rfl ?_
  obtain ⟨x5, e6, h⟩ := obS h
  refine j_getI (pc := 50) dX11_load_50 (ci := 11) (kf := 10) rfl hin_X11_load_X11 (by decide) lk_X11_load_3 e6 ?_
  refine j_istore_7 (pc := 53) dX11_load_53 (by decide) rfl ?_
  refine j_iload (pc := 55) dX11_load_55 rfl ?_
  refine j_if_eq (pc := 57) (tgt := 75) dX11_load_57 (by decide) (fun c7 => ?_) (fun c7 => ?_)
  · rw [if_pos c7] at h
    refine j_mask [true, false, false, false, true, true, true, true] ?_
    exact jm_X11_load_b75 _ _ _ _ _ ws h
  · rw [if_neg c7] at h
    refine j_aload_n (pc := 60) dX11_load_60 rfl ?_
    refine j_iload_n (pc := 61) dX11_load_61 rfl ?_
    obtain ⟨w8, e9, h⟩ := obS h
    refine j_putV (pc := 62) (ci := 11) (kf := 8) tyX11 tyX11_ok nmX11 dX11_load_62 rfl hin_X11_load_X11 (by decide) lk_X11_load_1 rfl (fun _ => rfl) (fun _ => rfl) e9 ?_
    refine j_aload_n (pc := 65) dX11_load_65 rfl ?_
    refine j_iload_n (pc := 66) dX11_load_66 rfl ?_
    obtain ⟨w10, e11, h⟩ := obS h
    refine j_putV (pc := 67) (ci := 11) (kf := 9) tyX11 tyX11_ok nmX11 dX11_load_67 rfl hin_X11_load_X11 (by decide) lk_X11_load_2 rfl (fun _ => rfl) (fun _ => rfl) e11 ?_
    refine j_aload_n (pc := 70) dX11_load_70 rfl ?_
    refine j_iload_n (pc := 71) dX11_load_71 rfl ?_
    obtain ⟨w12, e13, h⟩ := obS h
    refine j_putV (pc := 72) (ci := 11) (kf := 10) tyX11 tyX11_ok nmX11 dX11_load_72 rfl hin_X11_load_X11 (by decide) lk_X11_load_3 rfl (fun _ => rfl) (fun _ => rfl) e13 ?_
    refine j_mask [true, false, false, false, true, true, true, true] ?_
    exact jm_X11_load_b75 _ _ _ _ _ w12 h
def m_X11_load_b34 (a0 : Nat) (i1 : Int32) (i2 : Int32) (i3 : Int32) (ws : LWd) : Option (Int32 × LWd) :=
  m_X11_load_b35 a0 i1 i2 i3 0 ws
set_option maxRecDepth 100000 in
set_option maxHeartbeats 4000000 in
theorem jm_X11_load_b34 {n0 : Nat} {rr : Int32} {ws' : LWd} (a0 : Nat) (i1 : Int32) (i2 : Int32) (i3 : Int32) (ws : LWd) (h : m_X11_load_b34 a0 i1 i2 i3 ws = some (rr, ws')) : JG false cX11_load 8 RX11 wsX11_load (some .int) "load" 5 0 0 n0 (.inl (some (.int rr)), ws') 34 [some (.ref a0), some (.int i1), some (.int i2), some (.int i3), none, none, none, none] [] ws 0 0 := by
  unfold m_X11_load_b34 at h
  refine j_iconst (pc := 34) dX11_load_34 (v := 0) (by decide) ?_
  exact jm_X11_load_b35 _ _ _ _ _ ws h
def m_X11_load (a0 : Nat) (i1 : Int32) (i2 : Int32) (i3 : Int32) (ws : LWd) : Option (Int32 × LWd) :=
  (rcv ws a0 11).bind fun _ =>
  bn2 (calSR ws (m_X11_isIn i1 0 20 ws)) fun x3 w1 =>
  if x3 = 0 then
    m_X11_load_b34 a0 i1 i2 i3 w1
  else
    bn2 (calSR w1 (m_X11_isIn i2 ((-5)) 5 w1)) fun x7 w5 =>
    if x7 = 0 then
      m_X11_load_b34 a0 i1 i2 i3 w5
    else
      bn2 (calSR w5 (m_X11_isIn i3 ((-5)) 5 w5)) fun x11 w9 =>
      if x11 = 0 then
        m_X11_load_b34 a0 i1 i2 i3 w9
      else
        m_X11_load_b35 a0 i1 i2 i3 1 w9
set_option maxRecDepth 100000 in
set_option maxHeartbeats 4000000 in
theorem s_X11_load {a0 : Nat} {i1 : Int32} {i2 : Int32} {i3 : Int32} {ws : LWd} {rr : Int32} {ws' : LWd} (h : m_X11_load a0 i1 i2 i3 ws = some (rr, ws')) : jSp yX11_load wsX11_load 5 0 0 [.ref a0, .int i1, .int i2, .int i3] ws (.inl (some (.int rr)), ws') := by
  unfold m_X11_load at h
  refine j_entry (ret := (some .int)) (nm := "load") (own := RX11) pl_X11 rfl rfl rfl (jcats (by rfl)) (by decide) ?_
  show JG false cX11_load 8 RX11 wsX11_load (some .int) "load" 5 0 0 ws.length (.inl (some (.int rr)), ws') 0 [some (.ref a0), some (.int i1), some (.int i2), some (.int i3), none, none, none, none] [] ws 0 0
  obtain ⟨_, _, h⟩ := obS h
  refine j_iload_n (pc := 0) dX11_load_0 rfl ?_
  refine j_iconst (pc := 1) dX11_load_1 (v := 0) (by decide) ?_
  refine j_bipush (pc := 2) dX11_load_2 (v := 20) (by decide) ?_
  obtain ⟨x3, w1, e2, h⟩ := obS2 h
  have ge2 := calSR_of e2
  refine j_callS_g (pc := 4) (As := [.int i1, .int 0, .int 20]) (k' := 0) (n' := 0) dX11_load_4 (s_X11_isIn ge2.1) gX11_load_X11_isIn rfl hy_X11_isIn rfl (by decide) (by decide) (by decide) (by decide) (by decide) (by decide) (by decide) (Or.inl ge2.2) ?_
  refine j_if_eq (pc := 7) (tgt := 34) dX11_load_7 (by decide) (fun c4 => ?_) (fun c4 => ?_)
  · rw [if_pos c4] at h
    exact jm_X11_load_b34 _ _ _ _ w1 h
  · rw [if_neg c4] at h
    refine j_iload_n (pc := 10) dX11_load_10 rfl ?_
    refine j_bipush (pc := 11) dX11_load_11 (v := (-5)) (by decide) ?_
    refine j_iconst (pc := 13) dX11_load_13 (v := 5) (by decide) ?_
    obtain ⟨x7, w5, e6, h⟩ := obS2 h
    have ge6 := calSR_of e6
    refine j_callS_g (pc := 14) (As := [.int i2, .int ((-5)), .int 5]) (k' := 0) (n' := 0) dX11_load_14 (s_X11_isIn ge6.1) gX11_load_X11_isIn rfl hy_X11_isIn rfl (by decide) (by decide) (by decide) (by decide) (by decide) (by decide) (by decide) (Or.inl ge6.2) ?_
    refine j_if_eq (pc := 17) (tgt := 34) dX11_load_17 (by decide) (fun c8 => ?_) (fun c8 => ?_)
    · rw [if_pos c8] at h
      exact jm_X11_load_b34 _ _ _ _ w5 h
    · rw [if_neg c8] at h
      refine j_iload_n (pc := 20) dX11_load_20 rfl ?_
      refine j_bipush (pc := 21) dX11_load_21 (v := (-5)) (by decide) ?_
      refine j_iconst (pc := 23) dX11_load_23 (v := 5) (by decide) ?_
      obtain ⟨x11, w9, e10, h⟩ := obS2 h
      have ge10 := calSR_of e10
      refine j_callS_g (pc := 24) (As := [.int i3, .int ((-5)), .int 5]) (k' := 0) (n' := 0) dX11_load_24 (s_X11_isIn ge10.1) gX11_load_X11_isIn rfl hy_X11_isIn rfl (by decide) (by decide) (by decide) (by decide) (by decide) (by decide) (by decide) (Or.inl ge10.2) ?_
      refine j_if_eq (pc := 27) (tgt := 34) dX11_load_27 (by decide) (fun c12 => ?_) (fun c12 => ?_)
      · rw [if_pos c12] at h
        exact jm_X11_load_b34 _ _ _ _ w9 h
      · rw [if_neg c12] at h
        refine j_iconst (pc := 30) dX11_load_30 (v := 1) (by decide) ?_
        refine j_goto (pc := 31) (tgt := 35) dX11_load_31 (by decide) ?_
        exact jm_X11_load_b35 _ _ _ _ _ w9 h
theorem r_X11_load {a0 : Nat} {i1 : Int32} {i2 : Int32} {i3 : Int32} {ws : LWd} {o : (Int32 × LWd)} (h : m_X11_load a0 i1 i2 i3 ws = some o) : ∃ fs, ws[a0]? = some (.inr (11, fs)) := rcv_in h
theorem hin_X11_canRise_X11 : ∀ w ∈ u_ws RX11 TX11 31, w ∈ wsX11_canRise := fun w h => List.mem_cons_of_mem _ (List.mem_append_right _ h)
theorem lk_X11_canRise_0 : Cond.fieldLink RX11 63 "GaitwrightModel" "legs" "I" ∈ wsX11_canRise := List.mem_cons_of_mem _ (List.mem_append_left _ (List.mem_append_left _ (List.mem_of_getElem? (i := 2) rfl)))
theorem lk_X11_canRise_1 : Cond.fieldLink RX11 19 "GaitwrightModel" "mapped" "[I" ∈ wsX11_canRise := List.mem_cons_of_mem _ (List.mem_append_left _ (List.mem_append_left _ (List.mem_of_getElem? (i := 9) rfl)))
theorem lk_X11_canRise_2 : Cond.fieldLink RX11 41 "GaitwrightModel" "footX" "[I" ∈ wsX11_canRise := List.mem_cons_of_mem _ (List.mem_append_left _ (List.mem_append_left _ (List.mem_of_getElem? (i := 3) rfl)))
theorem lk_X11_canRise_3 : Cond.fieldLink RX11 44 "GaitwrightModel" "footY" "[I" ∈ wsX11_canRise := List.mem_cons_of_mem _ (List.mem_append_left _ (List.mem_append_left _ (List.mem_of_getElem? (i := 6) rfl)))
theorem lk_X11_canRise_4 : Cond.fieldLink RX11 22 "GaitwrightModel" "bodyX" "I" ∈ wsX11_canRise := List.mem_cons_of_mem _ (List.mem_append_left _ (List.mem_append_left _ (List.mem_of_getElem? (i := 4) rfl)))
theorem lk_X11_canRise_5 : Cond.fieldLink RX11 32 "GaitwrightModel" "hipX" "[I" ∈ wsX11_canRise := List.mem_cons_of_mem _ (List.mem_append_left _ (List.mem_append_left _ (List.mem_of_getElem? (i := 5) rfl)))
theorem lk_X11_canRise_6 : Cond.fieldLink RX11 26 "GaitwrightModel" "bodyY" "I" ∈ wsX11_canRise := List.mem_cons_of_mem _ (List.mem_append_left _ (List.mem_append_left _ (List.mem_of_getElem? (i := 7) rfl)))
theorem lk_X11_canRise_7 : Cond.fieldLink RX11 35 "GaitwrightModel" "hipY" "[I" ∈ wsX11_canRise := List.mem_cons_of_mem _ (List.mem_append_left _ (List.mem_append_left _ (List.mem_of_getElem? (i := 8) rfl)))
theorem lk_X11_canRise_8 : Cond.fieldLink RX11 84 "GaitwrightModel" "stands" "Z" ∈ wsX11_canRise := List.mem_cons_of_mem _ (List.mem_append_left _ (List.mem_append_left _ (List.mem_of_getElem? (i := 0) rfl)))
theorem lk_X11_canRise_9 : Cond.fieldLink RX11 29 "GaitwrightModel" "energy" "I" ∈ wsX11_canRise := List.mem_cons_of_mem _ (List.mem_append_left _ (List.mem_append_left _ (List.mem_of_getElem? (i := 1) rfl)))
def m_X11_canRise_b230 (a0 : Nat) (i1 : Int32) (i2 : Int32) (i3 : Int32) (ws : LWd) : Option (Int32 × LWd) :=
  if i1 = 0 then
    some (0, ws)
  else
    if 2 < (i3 - i2) then
      some (0, ws)
    else
      (fI ws a0 11 11).bind fun x3 =>
      bn2 (calSR ws (m_X11_holds a0 ((1 <<< (x3 &&& 31)) - 1) ws)) fun x7 w5 =>
      if x7 = 0 then
        some (0, w5)
      else
        some (1, w5)
set_option maxRecDepth 100000 in
set_option maxHeartbeats 4000000 in
theorem jm_X11_canRise_b230 {n0 : Nat} {rr : Int32} {ws' : LWd} (a0 : Nat) (i1 : Int32) (i2 : Int32) (i3 : Int32) (ws : LWd) (h : m_X11_canRise_b230 a0 i1 i2 i3 ws = some (rr, ws')) : JG false cX11_canRise 6 RX11 wsX11_canRise (some .boolean) "canRise" 4 0 0 n0 (.inl (some (.int rr)), ws') 230 [some (.ref a0), some (.int i1), some (.int i2), some (.int i3), none, none] [] ws 0 0 := by
  unfold m_X11_canRise_b230 at h
  refine j_iload_n (pc := 230) dX11_canRise_230 rfl ?_
  refine j_if_eq (pc := 231) (tgt := 260) dX11_canRise_231 (by decide) (fun c1 => ?_) (fun c1 => ?_)
  · rw [if_pos c1] at h
    refine j_iconst (pc := 260) dX11_canRise_260 (v := 0) (by decide) ?_
    obtain ⟨rfl, rfl⟩ := jretS h
    exact j_zret (pc := 261) (ws1 := ws) rfl dX11_canRise_261 (by decide) (by decide) (show retZ 0 ws = some (0, ws) from rfl) rfl rfl
  · rw [if_neg c1] at h
    refine j_iload_n (pc := 234) dX11_canRise_234 rfl ?_
    refine j_iload_n (pc := 235) dX11_canRise_235 rfl ?_
    refine j_isub (pc := 236) dX11_canRise_236 ?_
    refine j_iconst (pc := 237) dX11_canRise_237 (v := 2) (by decide) ?_
    refine j_icmp_gt (pc := 238) (tgt := 260) dX11_canRise_238 (by decide) (fun c2 => ?_) (fun c2 => ?_)
    · rw [if_pos c2] at h
      refine j_iconst (pc := 260) dX11_canRise_260 (v := 0) (by decide) ?_
      obtain ⟨rfl, rfl⟩ := jretS h
      exact j_zret (pc := 261) (ws1 := ws) rfl dX11_canRise_261 (by decide) (by decide) (show retZ 0 ws = some (0, ws) from rfl) rfl rfl
    · rw [if_neg c2] at h
      refine j_aload_n (pc := 241) dX11_canRise_241 rfl ?_
      refine j_iconst (pc := 242) dX11_canRise_242 (v := 1) (by decide) ?_
      refine j_aload_n (pc := 243) dX11_canRise_243 rfl ?_
      obtain ⟨x3, e4, h⟩ := obS h
      refine j_getI (pc := 244) dX11_canRise_244 (ci := 11) (kf := 11) rfl hin_X11_canRise_X11 (by decide) lk_X11_canRise_0 e4 ?_
      refine j_ishl (pc := 247) dX11_canRise_247 ?_
      refine j_iconst (pc := 248) dX11_canRise_248 (v := 1) (by decide) ?_
      refine j_isub (pc := 249) dX11_canRise_249 ?_
      obtain ⟨x7, w5, e6, h⟩ := obS2 h
      have ge6 := calSR_of e6
      refine j_callV_g (pc := 250) (As := [.int ((1 <<< (x3 &&& 31)) - 1)]) (k' := 0) (n' := 0) dX11_canRise_250 (s_X11_holds ge6.1) gX11_canRise_X11_holds rfl hv_X11_holds rfl (r_X11_holds ge6.1) rfl (by decide) (by decide) (by decide) (by decide) (by decide) (by decide) (by decide) (Or.inl ge6.2) ?_
      refine j_if_eq (pc := 253) (tgt := 260) dX11_canRise_253 (by decide) (fun c8 => ?_) (fun c8 => ?_)
      · rw [if_pos c8] at h
        refine j_iconst (pc := 260) dX11_canRise_260 (v := 0) (by decide) ?_
        obtain ⟨rfl, rfl⟩ := jretS h
        exact j_zret (pc := 261) (ws1 := w5) rfl dX11_canRise_261 (by decide) (by decide) (show retZ 0 w5 = some (0, w5) from rfl) rfl rfl
      · rw [if_neg c8] at h
        refine j_iconst (pc := 256) dX11_canRise_256 (v := 1) (by decide) ?_
        refine j_goto (pc := 257) (tgt := 261) dX11_canRise_257 (by decide) ?_
        obtain ⟨rfl, rfl⟩ := jretS h
        exact j_zret (pc := 261) (ws1 := w5) rfl dX11_canRise_261 (by decide) (by decide) (show retZ 1 w5 = some (1, w5) from rfl) rfl rfl
def m_X11_canRise_b223 (k37 : Nat → Int32 → Int32 → Int32 → Int32 → LWd → Option (Int32 × LWd)) (a0 : Nat) (i1 : Int32) (i2 : Int32) (i4 : Int32) (s0 : Int32) (ws : LWd) : Option (Int32 × LWd) :=
  k37 a0 i1 i2 s0 (i4 + 1) ws
set_option maxRecDepth 100000 in
set_option maxHeartbeats 4000000 in
theorem jm_X11_canRise_b223 {n0 : Nat} {rr : Int32} {ws' : LWd} {k37 : Nat → Int32 → Int32 → Int32 → Int32 → LWd → Option (Int32 × LWd)} (hk37 : ∀ (a0 : Nat) (i1 : Int32) (i2 : Int32) (i3 : Int32) (i4 : Int32) (ws : LWd), k37 a0 i1 i2 i3 i4 ws = some (rr, ws') → JG false cX11_canRise 6 RX11 wsX11_canRise (some .boolean) "canRise" 4 0 0 n0 (.inl (some (.int rr)), ws') 37 [some (.ref a0), some (.int i1), some (.int i2), some (.int i3), some (.int i4), none] [] ws 0 0) (a0 : Nat) (i1 : Int32) (i2 : Int32) (i4 : Int32) (s0 : Int32) (ws : LWd) (h : m_X11_canRise_b223 k37 a0 i1 i2 i4 s0 ws = some (rr, ws')) : JG false cX11_canRise 6 RX11 wsX11_canRise (some .boolean) "canRise" 4 0 0 n0 (.inl (some (.int rr)), ws') 223 [some (.ref a0), some (.int i1), some (.int i2), none, some (.int i4), none] [.int s0] ws 0 0 := by
  unfold m_X11_canRise_b223 at h
  refine j_istore_n_3 (pc := 223) dX11_canRise_223 (by decide) rfl ?_
  refine j_iinc_4 (pc := 224) dX11_canRise_224 (y := i4 + 1) rfl (by decide) rfl ?_
  refine j_goto (pc := 227) (tgt := 37) dX11_canRise_227 (by decide) ?_
  exact hk37 _ _ _ _ _ ws h
def m_X11_canRise_b210 (k37 : Nat → Int32 → Int32 → Int32 → Int32 → LWd → Option (Int32 × LWd)) (a0 : Nat) (i1 : Int32) (i3 : Int32) (i4 : Int32) (i5 : Int32) (s0 : Int32) (ws : LWd) : Option (Int32 × LWd) :=
  if i5 ≤ i3 then
    m_X11_canRise_b223 k37 a0 i1 s0 i4 i3 ws
  else
    m_X11_canRise_b223 k37 a0 i1 s0 i4 i5 ws
set_option maxRecDepth 100000 in
set_option maxHeartbeats 4000000 in
theorem jm_X11_canRise_b210 {n0 : Nat} {rr : Int32} {ws' : LWd} {k37 : Nat → Int32 → Int32 → Int32 → Int32 → LWd → Option (Int32 × LWd)} (hk37 : ∀ (a0 : Nat) (i1 : Int32) (i2 : Int32) (i3 : Int32) (i4 : Int32) (ws : LWd), k37 a0 i1 i2 i3 i4 ws = some (rr, ws') → JG false cX11_canRise 6 RX11 wsX11_canRise (some .boolean) "canRise" 4 0 0 n0 (.inl (some (.int rr)), ws') 37 [some (.ref a0), some (.int i1), some (.int i2), some (.int i3), some (.int i4), none] [] ws 0 0) (a0 : Nat) (i1 : Int32) (i3 : Int32) (i4 : Int32) (i5 : Int32) (s0 : Int32) (ws : LWd) (h : m_X11_canRise_b210 k37 a0 i1 i3 i4 i5 s0 ws = some (rr, ws')) : JG false cX11_canRise 6 RX11 wsX11_canRise (some .boolean) "canRise" 4 0 0 n0 (.inl (some (.int rr)), ws') 210 [some (.ref a0), some (.int i1), none, some (.int i3), some (.int i4), some (.int i5)] [.int s0] ws 0 0 := by
  unfold m_X11_canRise_b210 at h
  refine j_istore_n_2 (pc := 210) dX11_canRise_210 (by decide) rfl ?_
  refine j_iload (pc := 211) dX11_canRise_211 rfl ?_
  refine j_iload_n (pc := 213) dX11_canRise_213 rfl ?_
  refine j_icmp_le (pc := 214) (tgt := 222) dX11_canRise_214 (by decide) (fun c1 => ?_) (fun c1 => ?_)
  · rw [if_pos c1] at h
    refine j_iload_n (pc := 222) dX11_canRise_222 rfl ?_
    refine j_mask [true, true, true, false, true, false] ?_
    exact jm_X11_canRise_b223 (hk37 := hk37) _ _ _ _ _ ws h
  · rw [if_neg c1] at h
    refine j_iload (pc := 217) dX11_canRise_217 rfl ?_
    refine j_goto (pc := 219) (tgt := 223) dX11_canRise_219 (by decide) ?_
    refine j_mask [true, true, true, false, true, false] ?_
    exact jm_X11_canRise_b223 (hk37 := hk37) _ _ _ _ _ ws h
def m_X11_canRise_b196 (k37 : Nat → Int32 → Int32 → Int32 → Int32 → LWd → Option (Int32 × LWd)) (a0 : Nat) (i1 : Int32) (i2 : Int32) (i3 : Int32) (i4 : Int32) (s0 : Int32) (ws : LWd) : Option (Int32 × LWd) :=
  if i2 ≤ s0 then
    m_X11_canRise_b210 k37 a0 i1 i3 i4 s0 i2 ws
  else
    m_X11_canRise_b210 k37 a0 i1 i3 i4 s0 s0 ws
set_option maxRecDepth 100000 in
set_option maxHeartbeats 4000000 in
theorem jm_X11_canRise_b196 {n0 : Nat} {rr : Int32} {ws' : LWd} {k37 : Nat → Int32 → Int32 → Int32 → Int32 → LWd → Option (Int32 × LWd)} (hk37 : ∀ (a0 : Nat) (i1 : Int32) (i2 : Int32) (i3 : Int32) (i4 : Int32) (ws : LWd), k37 a0 i1 i2 i3 i4 ws = some (rr, ws') → JG false cX11_canRise 6 RX11 wsX11_canRise (some .boolean) "canRise" 4 0 0 n0 (.inl (some (.int rr)), ws') 37 [some (.ref a0), some (.int i1), some (.int i2), some (.int i3), some (.int i4), none] [] ws 0 0) (a0 : Nat) (i1 : Int32) (i2 : Int32) (i3 : Int32) (i4 : Int32) (s0 : Int32) (ws : LWd) (h : m_X11_canRise_b196 k37 a0 i1 i2 i3 i4 s0 ws = some (rr, ws')) : JG false cX11_canRise 6 RX11 wsX11_canRise (some .boolean) "canRise" 4 0 0 n0 (.inl (some (.int rr)), ws') 196 [some (.ref a0), some (.int i1), some (.int i2), some (.int i3), some (.int i4), none] [.int s0] ws 0 0 := by
  unfold m_X11_canRise_b196 at h
  refine j_istore_5 (pc := 196) dX11_canRise_196 (by decide) rfl ?_
  refine j_iload (pc := 198) dX11_canRise_198 rfl ?_
  refine j_iload_n (pc := 200) dX11_canRise_200 rfl ?_
  refine j_icmp_ge (pc := 201) (tgt := 209) dX11_canRise_201 (by decide) (fun c1 => ?_) (fun c1 => ?_)
  · rw [if_pos c1] at h
    refine j_iload_n (pc := 209) dX11_canRise_209 rfl ?_
    refine j_mask [true, true, false, true, true, true] ?_
    exact jm_X11_canRise_b210 (hk37 := hk37) _ _ _ _ _ _ ws h
  · rw [if_neg c1] at h
    refine j_iload (pc := 204) dX11_canRise_204 rfl ?_
    refine j_goto (pc := 206) (tgt := 210) dX11_canRise_206 (by decide) ?_
    refine j_mask [true, true, false, true, true, true] ?_
    exact jm_X11_canRise_b210 (hk37 := hk37) _ _ _ _ _ _ ws h
def m_X11_canRise_b166 (k37 : Nat → Int32 → Int32 → Int32 → Int32 → LWd → Option (Int32 × LWd)) (a0 : Nat) (i1 : Int32) (i2 : Int32) (i3 : Int32) (i4 : Int32) (ws : LWd) : Option (Int32 × LWd) :=
  if i1 = 0 then
    m_X11_canRise_b196 k37 a0 i1 i2 i3 i4 0 ws
  else
    (fR ws a0 11 3).bind fun x2 =>
    (fR ws a0 11 15).bind fun x4 =>
    (aI ws x4 i4).bind fun x6 =>
    (fR ws a0 11 16).bind fun x8 =>
    (aI ws x8 i4).bind fun x10 =>
    bn2 (calSR ws (m_X11_at x6 x10 ws)) fun x14 w12 =>
    (aI w12 x2 x14).bind fun x15 =>
    m_X11_canRise_b196 k37 a0 i1 i2 i3 i4 x15 w12
set_option maxRecDepth 100000 in
set_option maxHeartbeats 4000000 in
theorem jm_X11_canRise_b166 {n0 : Nat} {rr : Int32} {ws' : LWd} {k37 : Nat → Int32 → Int32 → Int32 → Int32 → LWd → Option (Int32 × LWd)} (hk37 : ∀ (a0 : Nat) (i1 : Int32) (i2 : Int32) (i3 : Int32) (i4 : Int32) (ws : LWd), k37 a0 i1 i2 i3 i4 ws = some (rr, ws') → JG false cX11_canRise 6 RX11 wsX11_canRise (some .boolean) "canRise" 4 0 0 n0 (.inl (some (.int rr)), ws') 37 [some (.ref a0), some (.int i1), some (.int i2), some (.int i3), some (.int i4), none] [] ws 0 0) (a0 : Nat) (i1 : Int32) (i2 : Int32) (i3 : Int32) (i4 : Int32) (ws : LWd) (h : m_X11_canRise_b166 k37 a0 i1 i2 i3 i4 ws = some (rr, ws')) : JG false cX11_canRise 6 RX11 wsX11_canRise (some .boolean) "canRise" 4 0 0 n0 (.inl (some (.int rr)), ws') 166 [some (.ref a0), some (.int i1), some (.int i2), some (.int i3), some (.int i4), none] [] ws 0 0 := by
  unfold m_X11_canRise_b166 at h
  refine j_iload_n (pc := 166) dX11_canRise_166 rfl ?_
  refine j_if_eq (pc := 167) (tgt := 195) dX11_canRise_167 (by decide) (fun c1 => ?_) (fun c1 => ?_)
  · rw [if_pos c1] at h
    refine j_iconst (pc := 195) dX11_canRise_195 (v := 0) (by decide) ?_
    exact jm_X11_canRise_b196 (hk37 := hk37) _ _ _ _ _ _ ws h
  · rw [if_neg c1] at h
    refine j_aload_n (pc := 170) dX11_canRise_170 rfl ?_
    obtain ⟨x2, e3, h⟩ := obS h
    refine j_getR (pc := 171) dX11_canRise_171 (ci := 11) (kf := 3) rfl hin_X11_canRise_X11 (by decide) lk_X11_canRise_1 e3 ?_
    refine j_aload_n (pc := 174) dX11_canRise_174 rfl ?_
    obtain ⟨x4, e5, h⟩ := obS h
    refine j_getR (pc := 175) dX11_canRise_175 (ci := 11) (kf := 15) rfl hin_X11_canRise_X11 (by decide) lk_X11_canRise_2 e5 ?_
    refine j_iload (pc := 178) dX11_canRise_178 rfl ?_
    obtain ⟨x6, e7, h⟩ := obS h
    refine j_iald (pc := 180) dX11_canRise_180 e7 ?_
    refine j_aload_n (pc := 181) dX11_canRise_181 rfl ?_
    obtain ⟨x8, e9, h⟩ := obS h
    refine j_getR (pc := 182) dX11_canRise_182 (ci := 11) (kf := 16) rfl hin_X11_canRise_X11 (by decide) lk_X11_canRise_3 e9 ?_
    refine j_iload (pc := 185) dX11_canRise_185 rfl ?_
    obtain ⟨x10, e11, h⟩ := obS h
    refine j_iald (pc := 187) dX11_canRise_187 e11 ?_
    obtain ⟨x14, w12, e13, h⟩ := obS2 h
    have ge13 := calSR_of e13
    refine j_callS_g (pc := 188) (As := [.int x6, .int x10]) (k' := 0) (n' := 0) dX11_canRise_188 (s_X11_at ge13.1) gX11_canRise_X11_at rfl hy_X11_at rfl (by decide) (by decide) (by decide) (by decide) (by decide) (by decide) (by decide) (Or.inl ge13.2) ?_
    obtain ⟨x15, e16, h⟩ := obS h
    refine j_iald (pc := 191) dX11_canRise_191 e16 ?_
    refine j_goto (pc := 192) (tgt := 196) dX11_canRise_192 (by decide) ?_
    exact jm_X11_canRise_b196 (hk37 := hk37) _ _ _ _ _ _ w12 h
def m_X11_canRise_b159 (k37 : Nat → Int32 → Int32 → Int32 → Int32 → LWd → Option (Int32 × LWd)) (k109 : Nat → Int32 → Int32 → Int32 → Int32 → Int32 → LWd → Option (Int32 × LWd)) (a0 : Nat) (i2 : Int32) (i3 : Int32) (i4 : Int32) (i5 : Int32) (s0 : Int32) (ws : LWd) : Option (Int32 × LWd) :=
  k109 a0 s0 i2 i3 i4 (i5 + 1) ws
set_option maxRecDepth 100000 in
set_option maxHeartbeats 4000000 in
theorem jm_X11_canRise_b159 {n0 : Nat} {rr : Int32} {ws' : LWd} {k37 : Nat → Int32 → Int32 → Int32 → Int32 → LWd → Option (Int32 × LWd)} {k109 : Nat → Int32 → Int32 → Int32 → Int32 → Int32 → LWd → Option (Int32 × LWd)} (hk37 : ∀ (a0 : Nat) (i1 : Int32) (i2 : Int32) (i3 : Int32) (i4 : Int32) (ws : LWd), k37 a0 i1 i2 i3 i4 ws = some (rr, ws') → JG false cX11_canRise 6 RX11 wsX11_canRise (some .boolean) "canRise" 4 0 0 n0 (.inl (some (.int rr)), ws') 37 [some (.ref a0), some (.int i1), some (.int i2), some (.int i3), some (.int i4), none] [] ws 0 0) (hk109 : ∀ (a0 : Nat) (i1 : Int32) (i2 : Int32) (i3 : Int32) (i4 : Int32) (i5 : Int32) (ws : LWd), k109 a0 i1 i2 i3 i4 i5 ws = some (rr, ws') → JG false cX11_canRise 6 RX11 wsX11_canRise (some .boolean) "canRise" 4 0 0 n0 (.inl (some (.int rr)), ws') 109 [some (.ref a0), some (.int i1), some (.int i2), some (.int i3), some (.int i4), some (.int i5)] [] ws 0 0) (a0 : Nat) (i2 : Int32) (i3 : Int32) (i4 : Int32) (i5 : Int32) (s0 : Int32) (ws : LWd) (h : m_X11_canRise_b159 k37 k109 a0 i2 i3 i4 i5 s0 ws = some (rr, ws')) : JG false cX11_canRise 6 RX11 wsX11_canRise (some .boolean) "canRise" 4 0 0 n0 (.inl (some (.int rr)), ws') 159 [some (.ref a0), none, some (.int i2), some (.int i3), some (.int i4), some (.int i5)] [.int s0] ws 0 0 := by
  unfold m_X11_canRise_b159 at h
  refine j_istore_n_1 (pc := 159) dX11_canRise_159 (by decide) rfl ?_
  refine j_iinc_5 (pc := 160) dX11_canRise_160 (y := i5 + 1) rfl (by decide) rfl ?_
  refine j_goto (pc := 163) (tgt := 109) dX11_canRise_163 (by decide) ?_
  exact hk109 _ _ _ _ _ _ ws h
def m_X11_canRise_b154 (k37 : Nat → Int32 → Int32 → Int32 → Int32 → LWd → Option (Int32 × LWd)) (k109 : Nat → Int32 → Int32 → Int32 → Int32 → Int32 → LWd → Option (Int32 × LWd)) (a0 : Nat) (i2 : Int32) (i3 : Int32) (i4 : Int32) (i5 : Int32) (ws : LWd) : Option (Int32 × LWd) :=
  m_X11_canRise_b159 k37 k109 a0 i2 i3 i4 i5 1 ws
set_option maxRecDepth 100000 in
set_option maxHeartbeats 4000000 in
theorem jm_X11_canRise_b154 {n0 : Nat} {rr : Int32} {ws' : LWd} {k37 : Nat → Int32 → Int32 → Int32 → Int32 → LWd → Option (Int32 × LWd)} {k109 : Nat → Int32 → Int32 → Int32 → Int32 → Int32 → LWd → Option (Int32 × LWd)} (hk37 : ∀ (a0 : Nat) (i1 : Int32) (i2 : Int32) (i3 : Int32) (i4 : Int32) (ws : LWd), k37 a0 i1 i2 i3 i4 ws = some (rr, ws') → JG false cX11_canRise 6 RX11 wsX11_canRise (some .boolean) "canRise" 4 0 0 n0 (.inl (some (.int rr)), ws') 37 [some (.ref a0), some (.int i1), some (.int i2), some (.int i3), some (.int i4), none] [] ws 0 0) (hk109 : ∀ (a0 : Nat) (i1 : Int32) (i2 : Int32) (i3 : Int32) (i4 : Int32) (i5 : Int32) (ws : LWd), k109 a0 i1 i2 i3 i4 i5 ws = some (rr, ws') → JG false cX11_canRise 6 RX11 wsX11_canRise (some .boolean) "canRise" 4 0 0 n0 (.inl (some (.int rr)), ws') 109 [some (.ref a0), some (.int i1), some (.int i2), some (.int i3), some (.int i4), some (.int i5)] [] ws 0 0) (a0 : Nat) (i2 : Int32) (i3 : Int32) (i4 : Int32) (i5 : Int32) (ws : LWd) (h : m_X11_canRise_b154 k37 k109 a0 i2 i3 i4 i5 ws = some (rr, ws')) : JG false cX11_canRise 6 RX11 wsX11_canRise (some .boolean) "canRise" 4 0 0 n0 (.inl (some (.int rr)), ws') 154 [some (.ref a0), none, some (.int i2), some (.int i3), some (.int i4), some (.int i5)] [] ws 0 0 := by
  unfold m_X11_canRise_b154 at h
  refine j_iconst (pc := 154) dX11_canRise_154 (v := 1) (by decide) ?_
  refine j_goto (pc := 155) (tgt := 159) dX11_canRise_155 (by decide) ?_
  exact jm_X11_canRise_b159 (hk37 := hk37) (hk109 := hk109) _ _ _ _ _ _ ws h
def m_X11_canRise_l109 (k37 : Nat → Int32 → Int32 → Int32 → Int32 → LWd → Option (Int32 × LWd)) : Nat → Nat → Int32 → Int32 → Int32 → Int32 → Int32 → LWd → Option (Int32 × LWd)
  | 0, _, _, _, _, _, _, _ => none
  | fu + 1, a0, i1, i2, i3, i4, i5, ws =>
    if i4 ≤ i5 then
      m_X11_canRise_b166 k37 a0 i1 i2 i3 i4 ws
    else
      if i1 = 0 then
        m_X11_canRise_b166 k37 a0 i1 i2 i3 i4 ws
      else
        (fR ws a0 11 15).bind fun x3 =>
        (aI ws x3 i5).bind fun x5 =>
        (fR ws a0 11 15).bind fun x7 =>
        (aI ws x7 i4).bind fun x9 =>
        if x5 = x9 then
          (fR ws a0 11 16).bind fun x12 =>
          (aI ws x12 i5).bind fun x14 =>
          (fR ws a0 11 16).bind fun x16 =>
          (aI ws x16 i4).bind fun x18 =>
          if x14 = x18 then
            m_X11_canRise_b159 k37 (fun z0 z1 z2 z3 z4 z5 w => m_X11_canRise_l109 k37 fu z0 z1 z2 z3 z4 z5 w) a0 i2 i3 i4 i5 0 ws
          else
            m_X11_canRise_b154 k37 (fun z0 z1 z2 z3 z4 z5 w => m_X11_canRise_l109 k37 fu z0 z1 z2 z3 z4 z5 w) a0 i2 i3 i4 i5 ws
        else
          m_X11_canRise_b154 k37 (fun z0 z1 z2 z3 z4 z5 w => m_X11_canRise_l109 k37 fu z0 z1 z2 z3 z4 z5 w) a0 i2 i3 i4 i5 ws
set_option maxRecDepth 100000 in
set_option maxHeartbeats 4000000 in
theorem jm_X11_canRise_l109 {n0 : Nat} {rr : Int32} {ws' : LWd} {k37 : Nat → Int32 → Int32 → Int32 → Int32 → LWd → Option (Int32 × LWd)} (hk37 : ∀ (a0 : Nat) (i1 : Int32) (i2 : Int32) (i3 : Int32) (i4 : Int32) (ws : LWd), k37 a0 i1 i2 i3 i4 ws = some (rr, ws') → JG false cX11_canRise 6 RX11 wsX11_canRise (some .boolean) "canRise" 4 0 0 n0 (.inl (some (.int rr)), ws') 37 [some (.ref a0), some (.int i1), some (.int i2), some (.int i3), some (.int i4), none] [] ws 0 0) : ∀ (fu : Nat) (a0 : Nat) (i1 : Int32) (i2 : Int32) (i3 : Int32) (i4 : Int32) (i5 : Int32) (ws : LWd), m_X11_canRise_l109 k37 fu a0 i1 i2 i3 i4 i5 ws = some (rr, ws') → JG false cX11_canRise 6 RX11 wsX11_canRise (some .boolean) "canRise" 4 0 0 n0 (.inl (some (.int rr)), ws') 109 [some (.ref a0), some (.int i1), some (.int i2), some (.int i3), some (.int i4), some (.int i5)] [] ws 0 0 := by
  intro fu
  induction fu with
  | zero => intro a0 i1 i2 i3 i4 i5 ws h; cases h
  | succ fu ih =>
    intro a0 i1 i2 i3 i4 i5 ws h
    rw [m_X11_canRise_l109] at h
    refine j_iload (pc := 109) dX11_canRise_109 rfl ?_
    refine j_iload (pc := 111) dX11_canRise_111 rfl ?_
    refine j_icmp_ge (pc := 113) (tgt := 166) dX11_canRise_113 (by decide) (fun c1 => ?_) (fun c1 => ?_)
    · rw [if_pos c1] at h
      refine j_mask [true, true, true, true, true, false] ?_
      exact jm_X11_canRise_b166 (hk37 := hk37) _ _ _ _ _ ws h
    · rw [if_neg c1] at h
      refine j_iload_n (pc := 116) dX11_canRise_116 rfl ?_
      refine j_if_eq (pc := 117) (tgt := 166) dX11_canRise_117 (by decide) (fun c2 => ?_) (fun c2 => ?_)
      · rw [if_pos c2] at h
        refine j_mask [true, true, true, true, true, false] ?_
        exact jm_X11_canRise_b166 (hk37 := hk37) _ _ _ _ _ ws h
      · rw [if_neg c2] at h
        refine j_aload_n (pc := 120) dX11_canRise_120 rfl ?_
        obtain ⟨x3, e4, h⟩ := obS h
        refine j_getR (pc := 121) dX11_canRise_121 (ci := 11) (kf := 15) rfl hin_X11_canRise_X11 (by decide) lk_X11_canRise_2 e4 ?_
        refine j_iload (pc := 124) dX11_canRise_124 rfl ?_
        obtain ⟨x5, e6, h⟩ := obS h
        refine j_iald (pc := 126) dX11_canRise_126 e6 ?_
        refine j_aload_n (pc := 127) dX11_canRise_127 rfl ?_
        obtain ⟨x7, e8, h⟩ := obS h
        refine j_getR (pc := 128) dX11_canRise_128 (ci := 11) (kf := 15) rfl hin_X11_canRise_X11 (by decide) lk_X11_canRise_2 e8 ?_
        refine j_iload (pc := 131) dX11_canRise_131 rfl ?_
        obtain ⟨x9, e10, h⟩ := obS h
        refine j_iald (pc := 133) dX11_canRise_133 e10 ?_
        refine j_icmp_ne (pc := 134) (tgt := 154) dX11_canRise_134 (by decide) (fun c11 => ?_) (fun c11 => ?_)
        · rw [if_neg c11] at h
          refine j_mask [true, false, true, true, true, true] ?_
          exact jm_X11_canRise_b154 (hk37 := hk37) (hk109 := ih) _ _ _ _ _ ws h
        · rw [if_pos c11] at h
          refine j_aload_n (pc := 137) dX11_canRise_137 rfl ?_
          obtain ⟨x12, e13, h⟩ := obS h
          refine j_getR (pc := 138) dX11_canRise_138 (ci := 11) (kf := 16) rfl hin_X11_canRise_X11 (by decide) lk_X11_canRise_3 e13 ?_
          refine j_iload (pc := 141) dX11_canRise_141 rfl ?_
          obtain ⟨x14, e15, h⟩ := obS h
          refine j_iald (pc := 143) dX11_canRise_143 e15 ?_
          refine j_aload_n (pc := 144) dX11_canRise_144 rfl ?_
          obtain ⟨x16, e17, h⟩ := obS h
          refine j_getR (pc := 145) dX11_canRise_145 (ci := 11) (kf := 16) rfl hin_X11_canRise_X11 (by decide) lk_X11_canRise_3 e17 ?_
          refine j_iload (pc := 148) dX11_canRise_148 rfl ?_
          obtain ⟨x18, e19, h⟩ := obS h
          refine j_iald (pc := 150) dX11_canRise_150 e19 ?_
          refine j_icmp_eq (pc := 151) (tgt := 158) dX11_canRise_151 (by decide) (fun c20 => ?_) (fun c20 => ?_)
          · rw [if_pos c20] at h
            refine j_iconst (pc := 158) dX11_canRise_158 (v := 0) (by decide) ?_
            refine j_mask [true, false, true, true, true, true] ?_
            exact jm_X11_canRise_b159 (hk37 := hk37) (hk109 := ih) _ _ _ _ _ _ ws h
          · rw [if_neg c20] at h
            refine j_mask [true, false, true, true, true, true] ?_
            exact jm_X11_canRise_b154 (hk37 := hk37) (hk109 := ih) _ _ _ _ _ ws h
def m_X11_canRise_l37 : Nat → Nat → Int32 → Int32 → Int32 → Int32 → LWd → Option (Int32 × LWd)
  | 0, _, _, _, _, _, _ => none
  | fu + 1, a0, i1, i2, i3, i4, ws =>
    (fI ws a0 11 11).bind fun x1 =>
    if x1 ≤ i4 then
      m_X11_canRise_b230 a0 i1 i2 i3 ws
    else
      if i1 = 0 then
        m_X11_canRise_b230 a0 i1 i2 i3 ws
      else
        (fR ws a0 11 15).bind fun x5 =>
        (fI ws a0 11 5).bind fun x7 =>
        (fR ws a0 11 12).bind fun x9 =>
        (aI ws x9 i4).bind fun x11 =>
        (sI ws x5 i4 (x7 + x11)).bind fun w13 =>
        (fR w13 a0 11 16).bind fun x15 =>
        (fI w13 a0 11 6).bind fun x17 =>
        (fR w13 a0 11 13).bind fun x19 =>
        (aI w13 x19 i4).bind fun x21 =>
        (sI w13 x15 i4 (x17 + x21)).bind fun w23 =>
        (fR w23 a0 11 15).bind fun x25 =>
        (aI w23 x25 i4).bind fun x27 =>
        (fR w23 a0 11 16).bind fun x29 =>
        (aI w23 x29 i4).bind fun x31 =>
        bn2 (calSR w23 (m_X11_isPoint x27 x31 w23)) fun x35 w33 =>
        m_X11_canRise_l109 (fun z0 z1 z2 z3 z4 w => m_X11_canRise_l37 fu z0 z1 z2 z3 z4 w) FU a0 x35 i2 i3 i4 0 w33
set_option maxRecDepth 100000 in
set_option maxHeartbeats 4000000 in
theorem jm_X11_canRise_l37 {n0 : Nat} {rr : Int32} {ws' : LWd} : ∀ (fu : Nat) (a0 : Nat) (i1 : Int32) (i2 : Int32) (i3 : Int32) (i4 : Int32) (ws : LWd), m_X11_canRise_l37 fu a0 i1 i2 i3 i4 ws = some (rr, ws') → JG false cX11_canRise 6 RX11 wsX11_canRise (some .boolean) "canRise" 4 0 0 n0 (.inl (some (.int rr)), ws') 37 [some (.ref a0), some (.int i1), some (.int i2), some (.int i3), some (.int i4), none] [] ws 0 0 := by
  intro fu
  induction fu with
  | zero => intro a0 i1 i2 i3 i4 ws h; cases h
  | succ fu ih =>
    intro a0 i1 i2 i3 i4 ws h
    rw [m_X11_canRise_l37] at h
    refine j_iload (pc := 37) dX11_canRise_37 rfl ?_
    refine j_aload_n (pc := 39) dX11_canRise_39 rfl ?_
    obtain ⟨x1, e2, h⟩ := obS h
    refine j_getI (pc := 40) dX11_canRise_40 (ci := 11) (kf := 11) rfl hin_X11_canRise_X11 (by decide) lk_X11_canRise_0 e2 ?_
    refine j_icmp_ge (pc := 43) (tgt := 230) dX11_canRise_43 (by decide) (fun c3 => ?_) (fun c3 => ?_)
    · rw [if_pos c3] at h
      refine j_mask [true, true, true, true, false, false] ?_
      exact jm_X11_canRise_b230 _ _ _ _ ws h
    · rw [if_neg c3] at h
      refine j_iload_n (pc := 46) dX11_canRise_46 rfl ?_
      refine j_if_eq (pc := 47) (tgt := 230) dX11_canRise_47 (by decide) (fun c4 => ?_) (fun c4 => ?_)
      · rw [if_pos c4] at h
        refine j_mask [true, true, true, true, false, false] ?_
        exact jm_X11_canRise_b230 _ _ _ _ ws h
      · rw [if_neg c4] at h
        refine j_aload_n (pc := 50) dX11_canRise_50 rfl ?_
        obtain ⟨x5, e6, h⟩ := obS h
        refine j_getR (pc := 51) dX11_canRise_51 (ci := 11) (kf := 15) rfl hin_X11_canRise_X11 (by decide) lk_X11_canRise_2 e6 ?_
        refine j_iload (pc := 54) dX11_canRise_54 rfl ?_
        refine j_aload_n (pc := 56) dX11_canRise_56 rfl ?_
        obtain ⟨x7, e8, h⟩ := obS h
        refine j_getI (pc := 57) dX11_canRise_57 (ci := 11) (kf := 5) rfl hin_X11_canRise_X11 (by decide) lk_X11_canRise_4 e8 ?_
        refine j_aload_n (pc := 60) dX11_canRise_60 rfl ?_
        obtain ⟨x9, e10, h⟩ := obS h
        refine j_getR (pc := 61) dX11_canRise_61 (ci := 11) (kf := 12) rfl hin_X11_canRise_X11 (by decide) lk_X11_canRise_5 e10 ?_
        refine j_iload (pc := 64) dX11_canRise_64 rfl ?_
        obtain ⟨x11, e12, h⟩ := obS h
        refine j_iald (pc := 66) dX11_canRise_66 e12 ?_
        refine j_iadd (pc := 67) dX11_canRise_67 ?_
        obtain ⟨w13, e14, h⟩ := obS h
        refine j_iast (pc := 68) dX11_canRise_68 e14 ?_
        refine j_aload_n (pc := 69) dX11_canRise_69 rfl ?_
        obtain ⟨x15, e16, h⟩ := obS h
        refine j_getR (pc := 70) dX11_canRise_70 (ci := 11) (kf := 16) rfl hin_X11_canRise_X11 (by decide) lk_X11_canRise_3 e16 ?_
        refine j_iload (pc := 73) dX11_canRise_73 rfl ?_
        refine j_aload_n (pc := 75) dX11_canRise_75 rfl ?_
        obtain ⟨x17, e18, h⟩ := obS h
        refine j_getI (pc := 76) dX11_canRise_76 (ci := 11) (kf := 6) rfl hin_X11_canRise_X11 (by decide) lk_X11_canRise_6 e18 ?_
        refine j_aload_n (pc := 79) dX11_canRise_79 rfl ?_
        obtain ⟨x19, e20, h⟩ := obS h
        refine j_getR (pc := 80) dX11_canRise_80 (ci := 11) (kf := 13) rfl hin_X11_canRise_X11 (by decide) lk_X11_canRise_7 e20 ?_
        refine j_iload (pc := 83) dX11_canRise_83 rfl ?_
        obtain ⟨x21, e22, h⟩ := obS h
        refine j_iald (pc := 85) dX11_canRise_85 e22 ?_
        refine j_iadd (pc := 86) dX11_canRise_86 ?_
        obtain ⟨w23, e24, h⟩ := obS h
        refine j_iast (pc := 87) dX11_canRise_87 e24 ?_
        refine j_aload_n (pc := 88) dX11_canRise_88 rfl ?_
        obtain ⟨x25, e26, h⟩ := obS h
        refine j_getR (pc := 89) dX11_canRise_89 (ci := 11) (kf := 15) rfl hin_X11_canRise_X11 (by decide) lk_X11_canRise_2 e26 ?_
        refine j_iload (pc := 92) dX11_canRise_92 rfl ?_
        obtain ⟨x27, e28, h⟩ := obS h
        refine j_iald (pc := 94) dX11_canRise_94 e28 ?_
        refine j_aload_n (pc := 95) dX11_canRise_95 rfl ?_
        obtain ⟨x29, e30, h⟩ := obS h
        refine j_getR (pc := 96) dX11_canRise_96 (ci := 11) (kf := 16) rfl hin_X11_canRise_X11 (by decide) lk_X11_canRise_3 e30 ?_
        refine j_iload (pc := 99) dX11_canRise_99 rfl ?_
        obtain ⟨x31, e32, h⟩ := obS h
        refine j_iald (pc := 101) dX11_canRise_101 e32 ?_
        obtain ⟨x35, w33, e34, h⟩ := obS2 h
        have ge34 := calSR_of e34
        refine j_callS_g (pc := 102) (As := [.int x27, .int x31]) (k' := 0) (n' := 0) dX11_canRise_102 (s_X11_isPoint ge34.1) gX11_canRise_X11_isPoint rfl hy_X11_isPoint rfl (by decide) (by decide) (by decide) (by decide) (by decide) (by decide) (by decide) (Or.inl ge34.2) ?_
        refine j_istore_n_1 (pc := 105) dX11_canRise_105 (by decide) rfl ?_
        refine j_iconst (pc := 106) dX11_canRise_106 (v := 0) (by decide) ?_
        refine j_istore_5 (pc := 107) dX11_canRise_107 (by decide) rfl ?_
        exact jm_X11_canRise_l109 (hk37 := ih) FU _ _ _ _ _ _ w33 h
def m_X11_canRise_b28 (a0 : Nat) (s0 : Int32) (ws : LWd) : Option (Int32 × LWd) :=
  m_X11_canRise_l37 FU a0 s0 9 0 0 ws
set_option maxRecDepth 100000 in
set_option maxHeartbeats 4000000 in
theorem jm_X11_canRise_b28 {n0 : Nat} {rr : Int32} {ws' : LWd} (a0 : Nat) (s0 : Int32) (ws : LWd) (h : m_X11_canRise_b28 a0 s0 ws = some (rr, ws')) : JG false cX11_canRise 6 RX11 wsX11_canRise (some .boolean) "canRise" 4 0 0 n0 (.inl (some (.int rr)), ws') 28 [some (.ref a0), none, none, none, none, none] [.int s0] ws 0 0 := by
  unfold m_X11_canRise_b28 at h
  refine j_istore_n_1 (pc := 28) dX11_canRise_28 (by decide) rfl ?_
  refine j_bipush (pc := 29) dX11_canRise_29 (v := 9) (by decide) ?_
  refine j_istore_n_2 (pc := 31) dX11_canRise_31 (by decide) rfl ?_
  refine j_iconst (pc := 32) dX11_canRise_32 (v := 0) (by decide) ?_
  refine j_istore_n_3 (pc := 33) dX11_canRise_33 (by decide) rfl ?_
  refine j_iconst (pc := 34) dX11_canRise_34 (v := 0) (by decide) ?_
  refine j_istore_4 (pc := 35) dX11_canRise_35 (by decide) rfl ?_
  exact jm_X11_canRise_l37 FU _ _ _ _ _ ws h
def m_X11_canRise_b27 (a0 : Nat) (ws : LWd) : Option (Int32 × LWd) :=
  m_X11_canRise_b28 a0 0 ws
set_option maxRecDepth 100000 in
set_option maxHeartbeats 4000000 in
theorem jm_X11_canRise_b27 {n0 : Nat} {rr : Int32} {ws' : LWd} (a0 : Nat) (ws : LWd) (h : m_X11_canRise_b27 a0 ws = some (rr, ws')) : JG false cX11_canRise 6 RX11 wsX11_canRise (some .boolean) "canRise" 4 0 0 n0 (.inl (some (.int rr)), ws') 27 [some (.ref a0), none, none, none, none, none] [] ws 0 0 := by
  unfold m_X11_canRise_b27 at h
  refine j_iconst (pc := 27) dX11_canRise_27 (v := 0) (by decide) ?_
  exact jm_X11_canRise_b28 _ _ ws h
def m_X11_canRise (a0 : Nat) (ws : LWd) : Option (Int32 × LWd) :=
  (rcv ws a0 11).bind fun _ =>
  (fI ws a0 11 4).bind fun x1 =>
  if x1 = 0 then
    (fI ws a0 11 7).bind fun x4 =>
    if x4 < 20 then
      m_X11_canRise_b27 a0 ws
    else
      (fI ws a0 11 11).bind fun x7 =>
      if x7 ≤ 0 then
        m_X11_canRise_b27 a0 ws
      else
        m_X11_canRise_b28 a0 1 ws
  else
    m_X11_canRise_b27 a0 ws
set_option maxRecDepth 100000 in
set_option maxHeartbeats 4000000 in
theorem s_X11_canRise {a0 : Nat} {ws : LWd} {rr : Int32} {ws' : LWd} (h : m_X11_canRise a0 ws = some (rr, ws')) : jSp yX11_canRise wsX11_canRise 4 0 0 [.ref a0] ws (.inl (some (.int rr)), ws') := by
  unfold m_X11_canRise at h
  refine j_entry (ret := (some .boolean)) (nm := "canRise") (own := RX11) pl_X11 rfl rfl rfl (jcats (by rfl)) (by decide) ?_
  show JG false cX11_canRise 6 RX11 wsX11_canRise (some .boolean) "canRise" 4 0 0 ws.length (.inl (some (.int rr)), ws') 0 [some (.ref a0), none, none, none, none, none] [] ws 0 0
  obtain ⟨_, _, h⟩ := obS h
  refine j_aload_n (pc := 0) dX11_canRise_0 rfl ?_
  obtain ⟨x1, e2, h⟩ := obS h
  refine j_getI (pc := 1) dX11_canRise_1 (ci := 11) (kf := 4) rfl hin_X11_canRise_X11 (by decide) lk_X11_canRise_8 e2 ?_
  refine j_if_ne (pc := 4) (tgt := 27) dX11_canRise_4 (by decide) (fun c3 => ?_) (fun c3 => ?_)
  · rw [if_neg c3] at h
    exact jm_X11_canRise_b27 _ ws h
  · rw [if_pos c3] at h
    refine j_aload_n (pc := 7) dX11_canRise_7 rfl ?_
    obtain ⟨x4, e5, h⟩ := obS h
    refine j_getI (pc := 8) dX11_canRise_8 (ci := 11) (kf := 7) rfl hin_X11_canRise_X11 (by decide) lk_X11_canRise_9 e5 ?_
    refine j_bipush (pc := 11) dX11_canRise_11 (v := 20) (by decide) ?_
    refine j_icmp_lt (pc := 13) (tgt := 27) dX11_canRise_13 (by decide) (fun c6 => ?_) (fun c6 => ?_)
    · rw [if_pos c6] at h
      exact jm_X11_canRise_b27 _ ws h
    · rw [if_neg c6] at h
      refine j_aload_n (pc := 16) dX11_canRise_16 rfl ?_
      obtain ⟨x7, e8, h⟩ := obS h
      refine j_getI (pc := 17) dX11_canRise_17 (ci := 11) (kf := 11) rfl hin_X11_canRise_X11 (by decide) lk_X11_canRise_0 e8 ?_
      refine j_if_le (pc := 20) (tgt := 27) dX11_canRise_20 (by decide) (fun c9 => ?_) (fun c9 => ?_)
      · rw [if_pos c9] at h
        exact jm_X11_canRise_b27 _ ws h
      · rw [if_neg c9] at h
        refine j_iconst (pc := 23) dX11_canRise_23 (v := 1) (by decide) ?_
        refine j_goto (pc := 24) (tgt := 28) dX11_canRise_24 (by decide) ?_
        exact jm_X11_canRise_b28 _ _ ws h
theorem r_X11_canRise {a0 : Nat} {ws : LWd} {o : (Int32 × LWd)} (h : m_X11_canRise a0 ws = some o) : ∃ fs, ws[a0]? = some (.inr (11, fs)) := rcv_in h
