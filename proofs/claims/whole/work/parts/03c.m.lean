/-! methods: written by wip/whole/make.py -/
theorem hin_X9_momentY_X9 : ∀ w ∈ u_ws RX9 TX9 6, w ∈ wsX9_momentY := fun w h => List.mem_cons_of_mem _ (List.mem_append_left _ (List.mem_append_right _ h))
theorem lk_X9_momentY_0 : Cond.fieldLink RX9 24 "Gaitwright$Stance" "bodyY" "I" ∈ wsX9_momentY := List.mem_cons_of_mem _ (List.mem_append_left _ (List.mem_append_left _ (List.mem_of_getElem? (i := 0) rfl)))
theorem lk_X9_momentY_1 : Cond.fieldLink RX9 31 "Gaitwright$Stance" "frame" "LGaitwright$Frame;" ∈ wsX9_momentY := List.mem_cons_of_mem _ (List.mem_append_left _ (List.mem_append_left _ (List.mem_of_getElem? (i := 1) rfl)))
theorem hin_X9_momentY_X2 : ∀ w ∈ u_ws RX2 TX2 7, w ∈ wsX9_momentY := fun w h => List.mem_cons_of_mem _ (List.mem_append_right _ h)
theorem lk_X9_momentY_2 : Cond.fieldLink RX9 108 "Gaitwright$Frame" "loadWeight" "I" ∈ wsX9_momentY := List.mem_cons_of_mem _ (List.mem_append_left _ (List.mem_append_left _ (List.mem_of_getElem? (i := 2) rfl)))
theorem lk_X9_momentY_3 : Cond.fieldLink RX9 114 "Gaitwright$Frame" "loadY" "I" ∈ wsX9_momentY := List.mem_cons_of_mem _ (List.mem_append_left _ (List.mem_append_left _ (List.mem_of_getElem? (i := 3) rfl)))
def m_X9_momentY (a0 : Nat) (ws : LWd) : Option (Int32 × LWd) :=
  (rcv ws a0 9).bind fun _ =>
  (fI ws a0 9 5).bind fun x1 =>
  (fR ws a0 9 1).bind fun x3 =>
  (fI ws x3 2 4).bind fun x5 =>
  (fI ws a0 9 5).bind fun x7 =>
  (fR ws a0 9 1).bind fun x9 =>
  (fI ws x9 2 6).bind fun x11 =>
  some ((10 * x1) + (x5 * (x7 + x11)), ws)
set_option maxRecDepth 100000 in
set_option maxHeartbeats 4000000 in
theorem s_X9_momentY {a0 : Nat} {ws : LWd} {rr : Int32} {ws' : LWd} (h : m_X9_momentY a0 ws = some (rr, ws')) : jSp yX9_momentY wsX9_momentY 0 0 0 [.ref a0] ws (.inl (some (.int rr)), ws') := by
  unfold m_X9_momentY at h
  refine j_entry (ret := (some .int)) (nm := "momentY") (own := RX9) pl_X9 rfl rfl rfl (jcats (by rfl)) (by decide) ?_
  show JG false cX9_momentY 1 RX9 wsX9_momentY (some .int) "momentY" 0 0 0 ws.length (.inl (some (.int rr)), ws') 0 [some (.ref a0)] [] ws 0 0
  obtain ⟨_, _, h⟩ := obS h
  refine j_bipush (pc := 0) dX9_momentY_0 (v := 10) (by decide) ?_
  refine j_aload_n (pc := 2) dX9_momentY_2 rfl ?_
  obtain ⟨x1, e2, h⟩ := obS h
  refine j_getI (pc := 3) dX9_momentY_3 (ci := 9) (kf := 5) rfl hin_X9_momentY_X9 (by decide) lk_X9_momentY_0 e2 ?_
  refine j_imul (pc := 6) dX9_momentY_6 ?_
  refine j_aload_n (pc := 7) dX9_momentY_7 rfl ?_
  obtain ⟨x3, e4, h⟩ := obS h
  refine j_getR (pc := 8) dX9_momentY_8 (ci := 9) (kf := 1) rfl hin_X9_momentY_X9 (by decide) lk_X9_momentY_1 e4 ?_
  obtain ⟨x5, e6, h⟩ := obS h
  refine j_getI (pc := 11) dX9_momentY_11 (ci := 2) (kf := 4) rfl hin_X9_momentY_X2 (by decide) lk_X9_momentY_2 e6 ?_
  refine j_aload_n (pc := 14) dX9_momentY_14 rfl ?_
  obtain ⟨x7, e8, h⟩ := obS h
  refine j_getI (pc := 15) dX9_momentY_15 (ci := 9) (kf := 5) rfl hin_X9_momentY_X9 (by decide) lk_X9_momentY_0 e8 ?_
  refine j_aload_n (pc := 18) dX9_momentY_18 rfl ?_
  obtain ⟨x9, e10, h⟩ := obS h
  refine j_getR (pc := 19) dX9_momentY_19 (ci := 9) (kf := 1) rfl hin_X9_momentY_X9 (by decide) lk_X9_momentY_1 e10 ?_
  obtain ⟨x11, e12, h⟩ := obS h
  refine j_getI (pc := 22) dX9_momentY_22 (ci := 2) (kf := 6) rfl hin_X9_momentY_X2 (by decide) lk_X9_momentY_3 e12 ?_
  refine j_iadd (pc := 25) dX9_momentY_25 ?_
  refine j_imul (pc := 26) dX9_momentY_26 ?_
  refine j_iadd (pc := 27) dX9_momentY_27 ?_
  obtain ⟨rfl, rfl⟩ := jretS h
  exact j_iret (pc := 28) rfl dX9_momentY_28 (by decide) (by decide) rfl
theorem r_X9_momentY {a0 : Nat} {ws : LWd} {o : (Int32 × LWd)} (h : m_X9_momentY a0 ws = some o) : ∃ fs, ws[a0]? = some (.inr (9, fs)) := rcv_in h
theorem hin_X2_weight_X2 : ∀ w ∈ u_ws RX2 TX2 7, w ∈ wsX2_weight := fun w h => List.mem_cons_of_mem _ (List.mem_append_right _ h)
theorem lk_X2_weight_0 : Cond.fieldLink RX2 30 "Gaitwright$Frame" "loadWeight" "I" ∈ wsX2_weight := List.mem_cons_of_mem _ (List.mem_append_left _ (List.mem_of_getElem? (i := 0) rfl))
def m_X2_weight (a0 : Nat) (ws : LWd) : Option (Int32 × LWd) :=
  (rcv ws a0 2).bind fun _ =>
  (fI ws a0 2 4).bind fun x1 =>
  some (10 + x1, ws)
set_option maxRecDepth 100000 in
set_option maxHeartbeats 4000000 in
theorem s_X2_weight {a0 : Nat} {ws : LWd} {rr : Int32} {ws' : LWd} (h : m_X2_weight a0 ws = some (rr, ws')) : jSp yX2_weight wsX2_weight 0 0 0 [.ref a0] ws (.inl (some (.int rr)), ws') := by
  unfold m_X2_weight at h
  refine j_entry (ret := (some .int)) (nm := "weight") (own := RX2) pl_X2 rfl rfl rfl (jcats (by rfl)) (by decide) ?_
  show JG false cX2_weight 1 RX2 wsX2_weight (some .int) "weight" 0 0 0 ws.length (.inl (some (.int rr)), ws') 0 [some (.ref a0)] [] ws 0 0
  obtain ⟨_, _, h⟩ := obS h
  refine j_bipush (pc := 0) dX2_weight_0 (v := 10) (by decide) ?_
  refine j_aload_n (pc := 2) dX2_weight_2 rfl ?_
  obtain ⟨x1, e2, h⟩ := obS h
  refine j_getI (pc := 3) dX2_weight_3 (ci := 2) (kf := 4) rfl hin_X2_weight_X2 (by decide) lk_X2_weight_0 e2 ?_
  refine j_iadd (pc := 6) dX2_weight_6 ?_
  obtain ⟨rfl, rfl⟩ := jretS h
  exact j_iret (pc := 7) rfl dX2_weight_7 (by decide) (by decide) rfl
theorem r_X2_weight {a0 : Nat} {ws : LWd} {o : (Int32 × LWd)} (h : m_X2_weight a0 ws = some o) : ∃ fs, ws[a0]? = some (.inr (2, fs)) := rcv_in h
def m_X4_edgeByWay (i0 : Int32) (i1 : Int32) (i2 : Int32) (i3 : Int32) (i4 : Int32) (ws : LWd) : Option (Int32 × LWd) :=
  some ((((jrem i1 20) - (jrem i0 20)) * (i3 - (i4 * (i0 / 20)))) - (((i1 / 20) - (i0 / 20)) * (i2 - (i4 * (jrem i0 20)))), ws)
set_option maxRecDepth 100000 in
set_option maxHeartbeats 4000000 in
theorem s_X4_edgeByWay {i0 : Int32} {i1 : Int32} {i2 : Int32} {i3 : Int32} {i4 : Int32} {ws : LWd} {rr : Int32} {ws' : LWd} (h : m_X4_edgeByWay i0 i1 i2 i3 i4 ws = some (rr, ws')) : jSp yX4_edgeByWay wsX4_edgeByWay 0 0 0 [.int i0, .int i1, .int i2, .int i3, .int i4] ws (.inl (some (.int rr)), ws') := by
  unfold m_X4_edgeByWay at h
  refine j_entry (ret := (some .int)) (nm := "edgeByWay") (own := RX4) pl_X4 rfl rfl rfl (jcats (by rfl)) (by decide) ?_
  show JG false cX4_edgeByWay 5 RX4 wsX4_edgeByWay (some .int) "edgeByWay" 0 0 0 ws.length (.inl (some (.int rr)), ws') 0 [some (.int i0), some (.int i1), some (.int i2), some (.int i3), some (.int i4)] [] ws 0 0
  refine j_iload_n (pc := 0) dX4_edgeByWay_0 rfl ?_
  refine j_bipush (pc := 1) dX4_edgeByWay_1 (v := 20) (by decide) ?_
  refine j_irem (pc := 3) dX4_edgeByWay_3 (by decide) ?_
  refine j_iload_n (pc := 4) dX4_edgeByWay_4 rfl ?_
  refine j_bipush (pc := 5) dX4_edgeByWay_5 (v := 20) (by decide) ?_
  refine j_irem (pc := 7) dX4_edgeByWay_7 (by decide) ?_
  refine j_isub (pc := 8) dX4_edgeByWay_8 ?_
  refine j_iload_n (pc := 9) dX4_edgeByWay_9 rfl ?_
  refine j_iload (pc := 10) dX4_edgeByWay_10 rfl ?_
  refine j_iload_n (pc := 12) dX4_edgeByWay_12 rfl ?_
  refine j_bipush (pc := 13) dX4_edgeByWay_13 (v := 20) (by decide) ?_
  refine j_idiv (pc := 15) dX4_edgeByWay_15 (by decide) ?_
  refine j_imul (pc := 16) dX4_edgeByWay_16 ?_
  refine j_isub (pc := 17) dX4_edgeByWay_17 ?_
  refine j_imul (pc := 18) dX4_edgeByWay_18 ?_
  refine j_iload_n (pc := 19) dX4_edgeByWay_19 rfl ?_
  refine j_bipush (pc := 20) dX4_edgeByWay_20 (v := 20) (by decide) ?_
  refine j_idiv (pc := 22) dX4_edgeByWay_22 (by decide) ?_
  refine j_iload_n (pc := 23) dX4_edgeByWay_23 rfl ?_
  refine j_bipush (pc := 24) dX4_edgeByWay_24 (v := 20) (by decide) ?_
  refine j_idiv (pc := 26) dX4_edgeByWay_26 (by decide) ?_
  refine j_isub (pc := 27) dX4_edgeByWay_27 ?_
  refine j_iload_n (pc := 28) dX4_edgeByWay_28 rfl ?_
  refine j_iload (pc := 29) dX4_edgeByWay_29 rfl ?_
  refine j_iload_n (pc := 31) dX4_edgeByWay_31 rfl ?_
  refine j_bipush (pc := 32) dX4_edgeByWay_32 (v := 20) (by decide) ?_
  refine j_irem (pc := 34) dX4_edgeByWay_34 (by decide) ?_
  refine j_imul (pc := 35) dX4_edgeByWay_35 ?_
  refine j_isub (pc := 36) dX4_edgeByWay_36 ?_
  refine j_imul (pc := 37) dX4_edgeByWay_37 ?_
  refine j_isub (pc := 38) dX4_edgeByWay_38 ?_
  obtain ⟨rfl, rfl⟩ := jretS h
  exact j_iret (pc := 39) rfl dX4_edgeByWay_39 (by decide) (by decide) rfl
theorem hin_X4_holds_X4 : ∀ w ∈ u_ws RX4 TX4 3, w ∈ wsX4_holds := fun w h => List.mem_cons_of_mem _ (List.mem_append_left _ (List.mem_append_right _ h))
theorem lk_X4_holds_0 : Cond.fieldLink RX4 23 "Gaitwright$Hull" "size" "I" ∈ wsX4_holds := List.mem_cons_of_mem _ (List.mem_append_left _ (List.mem_append_left _ (List.mem_of_getElem? (i := 2) rfl)))
theorem lk_X4_holds_1 : Cond.initialized RX10 ∈ wsX4_holds := List.mem_cons_of_mem _ (List.mem_append_left _ (List.mem_append_left _ (List.mem_of_getElem? (i := 22) rfl)))
theorem lk_X4_holds_2 : Cond.static yX10_isWithin ∈ wsX4_holds := List.mem_cons_of_mem _ (List.mem_append_left _ (List.mem_append_left _ (List.mem_of_getElem? (i := 21) rfl)))
theorem lk_X4_holds_3 : Cond.fieldLink RX4 14 "Gaitwright$Hull" "corners" "LGaitwright$Row;" ∈ wsX4_holds := List.mem_cons_of_mem _ (List.mem_append_left _ (List.mem_append_left _ (List.mem_of_getElem? (i := 3) rfl)))
theorem lk_X4_holds_4 : Cond.methodLink RX4 34 Lib.Math.min.name ∈ wsX4_holds := List.mem_cons_of_mem _ (List.mem_append_left _ (List.mem_append_left _ (List.mem_of_getElem? (i := 4) rfl)))
theorem lk_X4_holds_5 : Cond.static Lib.Math.min.name ∈ wsX4_holds := List.mem_cons_of_mem _ (List.mem_append_left _ (List.mem_append_left _ (List.mem_of_getElem? (i := 5) rfl)))
theorem lk_X4_holds_6 : Cond.initialized "java/lang/Math" ∈ wsX4_holds := List.mem_cons_of_mem _ (List.mem_append_left _ (List.mem_append_left _ (List.mem_of_getElem? (i := 6) rfl)))
theorem lk_X4_holds_7 : Cond.code Lib.Math.min.name Lib.Math.min.code 2 (some .int) ∈ wsX4_holds := List.mem_cons_of_mem _ (List.mem_append_left _ (List.mem_append_left _ (List.mem_of_getElem? (i := 7) rfl)))
theorem lk_X4_holds_8 : Cond.methodLink RX4 52 Lib.Math.max.name ∈ wsX4_holds := List.mem_cons_of_mem _ (List.mem_append_left _ (List.mem_append_left _ (List.mem_of_getElem? (i := 8) rfl)))
theorem lk_X4_holds_9 : Cond.static Lib.Math.max.name ∈ wsX4_holds := List.mem_cons_of_mem _ (List.mem_append_left _ (List.mem_append_left _ (List.mem_of_getElem? (i := 9) rfl)))
theorem lk_X4_holds_10 : Cond.code Lib.Math.max.name Lib.Math.max.code 2 (some .int) ∈ wsX4_holds := List.mem_cons_of_mem _ (List.mem_append_left _ (List.mem_append_left _ (List.mem_of_getElem? (i := 10) rfl)))
theorem lk_X4_holds_11 : Cond.constant RX4 46 (2147483647) ∈ wsX4_holds := List.mem_cons_of_mem _ (List.mem_append_left _ (List.mem_append_left _ (List.mem_of_getElem? (i := 0) rfl)))
theorem lk_X4_holds_12 : Cond.constant RX4 47 (-2147483648) ∈ wsX4_holds := List.mem_cons_of_mem _ (List.mem_append_left _ (List.mem_append_left _ (List.mem_of_getElem? (i := 1) rfl)))
def m_X4_holds_l19 : Nat → Nat → Int32 → Int32 → Int32 → Int32 → Int32 → Int32 → Int32 → Int32 → LWd → Option (Int32 × LWd)
  | 0, _, _, _, _, _, _, _, _, _, _ => none
  | fu + 1, a0, i1, i2, i3, i4, i5, i6, i7, i8, ws =>
    (fI ws a0 4 2).bind fun x1 =>
    if x1 ≤ i8 then
      bn2 (calSR ws (m_X10_isWithin i1 i4 i5 ws)) fun x6 w4 =>
      if x6 = 0 then
        some (0, w4)
      else
        bn2 (calSR w4 (m_X10_isWithin i2 i6 i7 w4)) fun x10 w8 =>
        if x10 = 0 then
          some (0, w8)
        else
          some (1, w8)
    else
      (fR ws a0 4 0).bind fun x12 =>
      bn2 (calSR ws (m_X8_at x12 i8 ws)) fun x16 w14 =>
      (fR w14 a0 4 0).bind fun x17 =>
      bn2 (calSR w14 (m_X8_at x17 (i8 + 1) w14)) fun x21 w19 =>
      bn2 (calSR w19 (m_X4_edgeByWay x16 x21 i1 i2 i3 w19)) fun x24 w22 =>
      if 0 ≤ x24 then
        m_X4_holds_l19 fu a0 i1 i2 i3 (jmin i4 (i3 * (jrem x16 20))) (jmax i5 (i3 * (jrem x16 20))) (jmin i6 (i3 * (x16 / 20))) (jmax i7 (i3 * (x16 / 20))) (i8 + 1) w22
      else
        some (0, w22)
set_option maxRecDepth 100000 in
set_option maxHeartbeats 4000000 in
theorem jm_X4_holds_l19 {n0 : Nat} {rr : Int32} {ws' : LWd} : ∀ (fu : Nat) (a0 : Nat) (i1 : Int32) (i2 : Int32) (i3 : Int32) (i4 : Int32) (i5 : Int32) (i6 : Int32) (i7 : Int32) (i8 : Int32) (ws : LWd), m_X4_holds_l19 fu a0 i1 i2 i3 i4 i5 i6 i7 i8 ws = some (rr, ws') → JG false cX4_holds 10 RX4 wsX4_holds (some .boolean) "holds" 1 0 0 n0 (.inl (some (.int rr)), ws') 19 [some (.ref a0), some (.int i1), some (.int i2), some (.int i3), some (.int i4), some (.int i5), some (.int i6), some (.int i7), some (.int i8), none] [] ws 0 0 := by
  intro fu
  induction fu with
  | zero => intro a0 i1 i2 i3 i4 i5 i6 i7 i8 ws h; cases h
  | succ fu ih =>
    intro a0 i1 i2 i3 i4 i5 i6 i7 i8 ws h
    rw [m_X4_holds_l19] at h
    refine j_iload (pc := 19) dX4_holds_19 rfl ?_
    refine j_aload_n (pc := 21) dX4_holds_21 rfl ?_
    obtain ⟨x1, e2, h⟩ := obS h
    refine j_getI (pc := 22) dX4_holds_22 (ci := 4) (kf := 2) rfl hin_X4_holds_X4 (by decide) lk_X4_holds_0 e2 ?_
    refine j_icmp_ge (pc := 25) (tgt := 125) dX4_holds_25 (by decide) (fun c3 => ?_) (fun c3 => ?_)
    · rw [if_pos c3] at h
      refine j_iload_n (pc := 125) dX4_holds_125 rfl ?_
      refine j_iload (pc := 126) dX4_holds_126 rfl ?_
      refine j_iload (pc := 128) dX4_holds_128 rfl ?_
      obtain ⟨x6, w4, e5, h⟩ := obS2 h
      have ge5 := calSR_of e5
      refine j_callSN_g (pc := 130) (As := [.int i1, .int i4, .int i5]) (k' := 0) (n' := 0) dX4_holds_130 (s_X10_isWithin ge5.1) gX4_holds_X10_isWithin_n55 nst_X4_55 lk_X4_holds_1 lk_X4_holds_2 rfl hy_X10_isWithin rfl (by decide) (by decide) (by decide) (by decide) (by decide) (by decide) (by decide) (Or.inl ge5.2) ?_
      refine j_if_eq (pc := 133) (tgt := 151) dX4_holds_133 (by decide) (fun c7 => ?_) (fun c7 => ?_)
      · rw [if_pos c7] at h
        refine j_iconst (pc := 151) dX4_holds_151 (v := 0) (by decide) ?_
        obtain ⟨rfl, rfl⟩ := jretS h
        exact j_zret (pc := 152) (ws1 := w4) rfl dX4_holds_152 (by decide) (by decide) (show retZ 0 w4 = some (0, w4) from rfl) rfl rfl
      · rw [if_neg c7] at h
        refine j_iload_n (pc := 136) dX4_holds_136 rfl ?_
        refine j_iload (pc := 137) dX4_holds_137 rfl ?_
        refine j_iload (pc := 139) dX4_holds_139 rfl ?_
        obtain ⟨x10, w8, e9, h⟩ := obS2 h
        have ge9 := calSR_of e9
        refine j_callSN_g (pc := 141) (As := [.int i2, .int i6, .int i7]) (k' := 0) (n' := 0) dX4_holds_141 (s_X10_isWithin ge9.1) gX4_holds_X10_isWithin_n55 nst_X4_55 lk_X4_holds_1 lk_X4_holds_2 rfl hy_X10_isWithin rfl (by decide) (by decide) (by decide) (by decide) (by decide) (by decide) (by decide) (Or.inl ge9.2) ?_
        refine j_if_eq (pc := 144) (tgt := 151) dX4_holds_144 (by decide) (fun c11 => ?_) (fun c11 => ?_)
        · rw [if_pos c11] at h
          refine j_iconst (pc := 151) dX4_holds_151 (v := 0) (by decide) ?_
          obtain ⟨rfl, rfl⟩ := jretS h
          exact j_zret (pc := 152) (ws1 := w8) rfl dX4_holds_152 (by decide) (by decide) (show retZ 0 w8 = some (0, w8) from rfl) rfl rfl
        · rw [if_neg c11] at h
          refine j_iconst (pc := 147) dX4_holds_147 (v := 1) (by decide) ?_
          refine j_goto (pc := 148) (tgt := 152) dX4_holds_148 (by decide) ?_
          obtain ⟨rfl, rfl⟩ := jretS h
          exact j_zret (pc := 152) (ws1 := w8) rfl dX4_holds_152 (by decide) (by decide) (show retZ 1 w8 = some (1, w8) from rfl) rfl rfl
    · rw [if_neg c3] at h
      refine j_aload_n (pc := 28) dX4_holds_28 rfl ?_
      obtain ⟨x12, e13, h⟩ := obS h
      refine j_getR (pc := 29) dX4_holds_29 (ci := 4) (kf := 0) rfl hin_X4_holds_X4 (by decide) lk_X4_holds_3 e13 ?_
      refine j_iload (pc := 32) dX4_holds_32 rfl ?_
      obtain ⟨x16, w14, e15, h⟩ := obS2 h
      have ge15 := calSR_of e15
      refine j_callV_g (pc := 34) (As := [.int i8]) (k' := 0) (n' := 0) dX4_holds_34 (s_X8_at ge15.1) gX4_holds_X8_at rfl hv_X8_at rfl (r_X8_at ge15.1) rfl (by decide) (by decide) (by decide) (by decide) (by decide) (by decide) (by decide) (Or.inl ge15.2) ?_
      refine j_istore_9 (pc := 37) dX4_holds_37 (by decide) rfl ?_
      refine j_iload (pc := 39) dX4_holds_39 rfl ?_
      refine j_aload_n (pc := 41) dX4_holds_41 rfl ?_
      obtain ⟨x17, e18, h⟩ := obS h
      refine j_getR (pc := 42) dX4_holds_42 (ci := 4) (kf := 0) rfl hin_X4_holds_X4 (by decide) lk_X4_holds_3 e18 ?_
      refine j_iload (pc := 45) dX4_holds_45 rfl ?_
      refine j_iconst (pc := 47) dX4_holds_47 (v := 1) (by decide) ?_
      refine j_iadd (pc := 48) dX4_holds_48 ?_
      obtain ⟨x21, w19, e20, h⟩ := obS2 h
      have ge20 := calSR_of e20
      refine j_callV_g (pc := 49) (As := [.int (i8 + 1)]) (k' := 0) (n' := 0) dX4_holds_49 (s_X8_at ge20.1) gX4_holds_X8_at rfl hv_X8_at rfl (r_X8_at ge20.1) rfl (by decide) (by decide) (by decide) (by decide) (by decide) (by decide) (by decide) (Or.inl ge20.2) ?_
      refine j_iload_n (pc := 52) dX4_holds_52 rfl ?_
      refine j_iload_n (pc := 53) dX4_holds_53 rfl ?_
      refine j_iload_n (pc := 54) dX4_holds_54 rfl ?_
      obtain ⟨x24, w22, e23, h⟩ := obS2 h
      have ge23 := calSR_of e23
      refine j_callS_g (pc := 55) (As := [.int x16, .int x21, .int i1, .int i2, .int i3]) (k' := 0) (n' := 0) dX4_holds_55 (s_X4_edgeByWay ge23.1) gX4_holds_X4_edgeByWay rfl hy_X4_edgeByWay rfl (by decide) (by decide) (by decide) (by decide) (by decide) (by decide) (by decide) (Or.inl ge23.2) ?_
      refine j_if_ge (pc := 58) (tgt := 63) dX4_holds_58 (by decide) (fun c25 => ?_) (fun c25 => ?_)
      · rw [if_pos c25] at h
        refine j_iload (pc := 63) dX4_holds_63 rfl ?_
        refine j_iload_n (pc := 65) dX4_holds_65 rfl ?_
        refine j_iload (pc := 66) dX4_holds_66 rfl ?_
        refine j_bipush (pc := 68) dX4_holds_68 (v := 20) (by decide) ?_
        refine j_irem (pc := 70) dX4_holds_70 (by decide) ?_
        refine j_imul (pc := 71) dX4_holds_71 ?_
        refine j_mmin (pc := 72) dX4_holds_72 lk_X4_holds_4 lk_X4_holds_5 lk_X4_holds_6 lk_X4_holds_7 (by decide) (by decide) (by decide) (by decide) ?_
        refine j_istore_4 (pc := 75) dX4_holds_75 (by decide) rfl ?_
        refine j_iload (pc := 77) dX4_holds_77 rfl ?_
        refine j_iload_n (pc := 79) dX4_holds_79 rfl ?_
        refine j_iload (pc := 80) dX4_holds_80 rfl ?_
        refine j_bipush (pc := 82) dX4_holds_82 (v := 20) (by decide) ?_
        refine j_irem (pc := 84) dX4_holds_84 (by decide) ?_
        refine j_imul (pc := 85) dX4_holds_85 ?_
        refine j_mmax (pc := 86) dX4_holds_86 lk_X4_holds_8 lk_X4_holds_9 lk_X4_holds_6 lk_X4_holds_10 (by decide) (by decide) (by decide) (by decide) ?_
        refine j_istore_5 (pc := 89) dX4_holds_89 (by decide) rfl ?_
        refine j_iload (pc := 91) dX4_holds_91 rfl ?_
        refine j_iload_n (pc := 93) dX4_holds_93 rfl ?_
        refine j_iload (pc := 94) dX4_holds_94 rfl ?_
        refine j_bipush (pc := 96) dX4_holds_96 (v := 20) (by decide) ?_
        refine j_idiv (pc := 98) dX4_holds_98 (by decide) ?_
        refine j_imul (pc := 99) dX4_holds_99 ?_
        refine j_mmin (pc := 100) dX4_holds_100 lk_X4_holds_4 lk_X4_holds_5 lk_X4_holds_6 lk_X4_holds_7 (by decide) (by decide) (by decide) (by decide) ?_
        refine j_istore_6 (pc := 103) dX4_holds_103 (by decide) rfl ?_
        refine j_iload (pc := 105) dX4_holds_105 rfl ?_
        refine j_iload_n (pc := 107) dX4_holds_107 rfl ?_
        refine j_iload (pc := 108) dX4_holds_108 rfl ?_
        refine j_bipush (pc := 110) dX4_holds_110 (v := 20) (by decide) ?_
        refine j_idiv (pc := 112) dX4_holds_112 (by decide) ?_
        refine j_imul (pc := 113) dX4_holds_113 ?_
        refine j_mmax (pc := 114) dX4_holds_114 lk_X4_holds_8 lk_X4_holds_9 lk_X4_holds_6 lk_X4_holds_10 (by decide) (by decide) (by decide) (by decide) ?_
        refine j_istore_7 (pc := 117) dX4_holds_117 (by decide) rfl ?_
        refine j_iinc_8 (pc := 119) dX4_holds_119 (y := i8 + 1) rfl (by decide) rfl ?_
        refine j_goto (pc := 122) (tgt := 19) dX4_holds_122 (by decide) ?_
        refine j_mask [true, true, true, true, true, true, true, true, true, false] ?_
        exact ih _ _ _ _ _ _ _ _ _ w22 h
      · rw [if_neg c25] at h
        refine j_iconst (pc := 61) dX4_holds_61 (v := 0) (by decide) ?_
        obtain ⟨rfl, rfl⟩ := jretS h
        exact j_zret (pc := 62) (ws1 := w22) rfl dX4_holds_62 (by decide) (by decide) (show retZ 0 w22 = some (0, w22) from rfl) rfl rfl
def m_X4_holds (a0 : Nat) (i1 : Int32) (i2 : Int32) (i3 : Int32) (ws : LWd) : Option (Int32 × LWd) :=
  (rcv ws a0 4).bind fun _ =>
  m_X4_holds_l19 FU a0 i1 i2 i3 2147483647 ((-2147483648)) 2147483647 ((-2147483648)) 0 ws
set_option maxRecDepth 100000 in
set_option maxHeartbeats 4000000 in
theorem s_X4_holds {a0 : Nat} {i1 : Int32} {i2 : Int32} {i3 : Int32} {ws : LWd} {rr : Int32} {ws' : LWd} (h : m_X4_holds a0 i1 i2 i3 ws = some (rr, ws')) : jSp yX4_holds wsX4_holds 1 0 0 [.ref a0, .int i1, .int i2, .int i3] ws (.inl (some (.int rr)), ws') := by
  unfold m_X4_holds at h
  refine j_entry (ret := (some .boolean)) (nm := "holds") (own := RX4) pl_X4 rfl rfl rfl (jcats (by rfl)) (by decide) ?_
  show JG false cX4_holds 10 RX4 wsX4_holds (some .boolean) "holds" 1 0 0 ws.length (.inl (some (.int rr)), ws') 0 [some (.ref a0), some (.int i1), some (.int i2), some (.int i3), none, none, none, none, none, none] [] ws 0 0
  obtain ⟨_, _, h⟩ := obS h
  refine j_ldc (pc := 0) dX4_holds_0 (v := 2147483647) lk_X4_holds_11 ?_
  refine j_istore_4 (pc := 2) dX4_holds_2 (by decide) rfl ?_
  refine j_ldc (pc := 4) dX4_holds_4 (v := (-2147483648)) lk_X4_holds_12 ?_
  refine j_istore_5 (pc := 6) dX4_holds_6 (by decide) rfl ?_
  refine j_ldc (pc := 8) dX4_holds_8 (v := 2147483647) lk_X4_holds_11 ?_
  refine j_istore_6 (pc := 10) dX4_holds_10 (by decide) rfl ?_
  refine j_ldc (pc := 12) dX4_holds_12 (v := (-2147483648)) lk_X4_holds_12 ?_
  refine j_istore_7 (pc := 14) dX4_holds_14 (by decide) rfl ?_
  refine j_iconst (pc := 16) dX4_holds_16 (v := 0) (by decide) ?_
  refine j_istore_8 (pc := 17) dX4_holds_17 (by decide) rfl ?_
  exact jm_X4_holds_l19 FU _ _ _ _ _ _ _ _ _ ws h
theorem r_X4_holds {a0 : Nat} {i1 : Int32} {i2 : Int32} {i3 : Int32} {ws : LWd} {o : (Int32 × LWd)} (h : m_X4_holds a0 i1 i2 i3 ws = some o) : ∃ fs, ws[a0]? = some (.inr (4, fs)) := rcv_in h
theorem hin_X9_holdsWithout_X9 : ∀ w ∈ u_ws RX9 TX9 6, w ∈ wsX9_holdsWithout := fun w h => List.mem_cons_of_mem _ (List.mem_append_left _ (List.mem_append_left _ (List.mem_append_left _ (List.mem_append_right _ h))))
theorem lk_X9_holdsWithout_0 : Cond.fieldLink RX9 35 "Gaitwright$Stance" "hull" "LGaitwright$Hull;" ∈ wsX9_holdsWithout := List.mem_cons_of_mem _ (List.mem_append_left _ (List.mem_append_left _ (List.mem_append_left _ (List.mem_append_left _ (List.mem_append_left _ (List.mem_of_getElem? (i := 0) rfl))))))
theorem lk_X9_holdsWithout_1 : Cond.fieldLink RX9 14 "Gaitwright$Stance" "feet" "LGaitwright$Row;" ∈ wsX9_holdsWithout := List.mem_cons_of_mem _ (List.mem_append_left _ (List.mem_append_left _ (List.mem_append_left _ (List.mem_append_left _ (List.mem_append_left _ (List.mem_of_getElem? (i := 1) rfl))))))
theorem lk_X9_holdsWithout_2 : Cond.fieldLink RX9 31 "Gaitwright$Stance" "frame" "LGaitwright$Frame;" ∈ wsX9_holdsWithout := List.mem_cons_of_mem _ (List.mem_append_left _ (List.mem_append_left _ (List.mem_append_left _ (List.mem_append_left _ (List.mem_append_left _ (List.mem_of_getElem? (i := 2) rfl))))))
def m_X9_holdsWithout (a0 : Nat) (i1 : Int32) (ws : LWd) : Option (Int32 × LWd) :=
  (rcv ws a0 9).bind fun _ =>
  (fR ws a0 9 2).bind fun x1 =>
  (fR ws a0 9 3).bind fun x3 =>
  (calSV ws (m_X4_wrap x1 x3 i1 ws)).bind fun w5 =>
  (fR w5 a0 9 2).bind fun x7 =>
  bn2 (calSR w5 (m_X9_momentX a0 w5)) fun x11 w9 =>
  bn2 (calSR w9 (m_X9_momentY a0 w9)) fun x14 w12 =>
  (fR w12 a0 9 1).bind fun x15 =>
  bn2 (calSR w12 (m_X2_weight x15 w12)) fun x19 w17 =>
  bn2 (calSR w17 (m_X4_holds x7 x11 x14 x19 w17)) fun x22 w20 =>
  retZ x22 w20
set_option maxRecDepth 100000 in
set_option maxHeartbeats 4000000 in
theorem s_X9_holdsWithout {a0 : Nat} {i1 : Int32} {ws : LWd} {rr : Int32} {ws' : LWd} (h : m_X9_holdsWithout a0 i1 ws = some (rr, ws')) : jSp yX9_holdsWithout wsX9_holdsWithout 2 0 0 [.ref a0, .int i1] ws (.inl (some (.int rr)), ws') := by
  unfold m_X9_holdsWithout at h
  refine j_entry (ret := (some .boolean)) (nm := "holdsWithout") (own := RX9) pl_X9 rfl rfl rfl (jcats (by rfl)) (by decide) ?_
  show JG false cX9_holdsWithout 2 RX9 wsX9_holdsWithout (some .boolean) "holdsWithout" 2 0 0 ws.length (.inl (some (.int rr)), ws') 0 [some (.ref a0), some (.int i1)] [] ws 0 0
  obtain ⟨_, _, h⟩ := obS h
  refine j_aload_n (pc := 0) dX9_holdsWithout_0 rfl ?_
  obtain ⟨x1, e2, h⟩ := obS h
  refine j_getR (pc := 1) dX9_holdsWithout_1 (ci := 9) (kf := 2) rfl hin_X9_holdsWithout_X9 (by decide) lk_X9_holdsWithout_0 e2 ?_
  refine j_aload_n (pc := 4) dX9_holdsWithout_4 rfl ?_
  obtain ⟨x3, e4, h⟩ := obS h
  refine j_getR (pc := 5) dX9_holdsWithout_5 (ci := 9) (kf := 3) rfl hin_X9_holdsWithout_X9 (by decide) lk_X9_holdsWithout_1 e4 ?_
  refine j_iload_n (pc := 8) dX9_holdsWithout_8 rfl ?_
  obtain ⟨w5, e6, h⟩ := obS h
  have ge6 := calSV_of e6
  refine j_callV_g (pc := 9) (As := [.ref x3, .int i1]) (k' := 0) (n' := 0) dX9_holdsWithout_9 (s_X4_wrap ge6.1) gX9_holdsWithout_X4_wrap rfl hv_X4_wrap rfl (r_X4_wrap ge6.1) rfl (by decide) (by decide) (by decide) (by decide) (by decide) (by decide) (by decide) (Or.inl ge6.2) ?_
  refine j_aload_n (pc := 12) dX9_holdsWithout_12 rfl ?_
  obtain ⟨x7, e8, h⟩ := obS h
  refine j_getR (pc := 13) dX9_holdsWithout_13 (ci := 9) (kf := 2) rfl hin_X9_holdsWithout_X9 (by decide) lk_X9_holdsWithout_0 e8 ?_
  refine j_aload_n (pc := 16) dX9_holdsWithout_16 rfl ?_
  obtain ⟨x11, w9, e10, h⟩ := obS2 h
  have ge10 := calSR_of e10
  refine j_callV_g (pc := 17) (As := []) (k' := 0) (n' := 0) dX9_holdsWithout_17 (s_X9_momentX ge10.1) gX9_holdsWithout_X9_momentX rfl hv_X9_momentX rfl (r_X9_momentX ge10.1) rfl (by decide) (by decide) (by decide) (by decide) (by decide) (by decide) (by decide) (Or.inl ge10.2) ?_
  refine j_aload_n (pc := 20) dX9_holdsWithout_20 rfl ?_
  obtain ⟨x14, w12, e13, h⟩ := obS2 h
  have ge13 := calSR_of e13
  refine j_callV_g (pc := 21) (As := []) (k' := 0) (n' := 0) dX9_holdsWithout_21 (s_X9_momentY ge13.1) gX9_holdsWithout_X9_momentY rfl hv_X9_momentY rfl (r_X9_momentY ge13.1) rfl (by decide) (by decide) (by decide) (by decide) (by decide) (by decide) (by decide) (Or.inl ge13.2) ?_
  refine j_aload_n (pc := 24) dX9_holdsWithout_24 rfl ?_
  obtain ⟨x15, e16, h⟩ := obS h
  refine j_getR (pc := 25) dX9_holdsWithout_25 (ci := 9) (kf := 1) rfl hin_X9_holdsWithout_X9 (by decide) lk_X9_holdsWithout_2 e16 ?_
  obtain ⟨x19, w17, e18, h⟩ := obS2 h
  have ge18 := calSR_of e18
  refine j_callV_g (pc := 28) (As := []) (k' := 0) (n' := 0) dX9_holdsWithout_28 (s_X2_weight ge18.1) gX9_holdsWithout_X2_weight rfl hv_X2_weight rfl (r_X2_weight ge18.1) rfl (by decide) (by decide) (by decide) (by decide) (by decide) (by decide) (by decide) (Or.inl ge18.2) ?_
  obtain ⟨x22, w20, e21, h⟩ := obS2 h
  have ge21 := calSR_of e21
  refine j_callV_g (pc := 31) (As := [.int x11, .int x14, .int x19]) (k' := 0) (n' := 0) dX9_holdsWithout_31 (s_X4_holds ge21.1) gX9_holdsWithout_X4_holds rfl hv_X4_holds rfl (r_X4_holds ge21.1) rfl (by decide) (by decide) (by decide) (by decide) (by decide) (by decide) (by decide) (Or.inl ge21.2) ?_
  exact j_zret (pc := 34) rfl dX9_holdsWithout_34 (by decide) (by decide) h rfl rfl
theorem r_X9_holdsWithout {a0 : Nat} {i1 : Int32} {ws : LWd} {o : (Int32 × LWd)} (h : m_X9_holdsWithout a0 i1 ws = some o) : ∃ fs, ws[a0]? = some (.inr (9, fs)) := rcv_in h
theorem lk_X0_beginAct_0 : Cond.fieldLink RX0 21 "Gaitwright$Damage" "firstOfAct" "I" ∈ wsX0_beginAct := List.mem_cons_of_mem _ (List.mem_append_left _ (List.mem_of_getElem? (i := 0) rfl))
theorem hin_X0_beginAct_X0 : ∀ w ∈ u_ws RX0 TX0 4, w ∈ wsX0_beginAct := fun w h => List.mem_cons_of_mem _ (List.mem_append_right _ h)
def m_X0_beginAct (a0 : Nat) (ws : LWd) : Option LWd :=
  (rcv ws a0 0).bind fun _ =>
  (pV ws a0 0 3 (.int 0)).bind fun w1 =>
  some w1
set_option maxRecDepth 100000 in
set_option maxHeartbeats 4000000 in
theorem s_X0_beginAct {a0 : Nat} {ws : LWd} {ws' : LWd} (h : m_X0_beginAct a0 ws = some ws') : jSp yX0_beginAct wsX0_beginAct 0 0 0 [.ref a0] ws (.inl none, ws') := by
  unfold m_X0_beginAct at h
  refine j_entry (ret := none) (nm := "beginAct") (own := RX0) pl_X0 rfl rfl rfl (jcats (by rfl)) (by decide) ?_
  show JG false cX0_beginAct 1 RX0 wsX0_beginAct none "beginAct" 0 0 0 ws.length (.inl none, ws') 0 [some (.ref a0)] [] ws 0 0
  obtain ⟨_, _, h⟩ := obS h
  refine j_aload_n (pc := 0) dX0_beginAct_0 rfl ?_
  refine j_iconst (pc := 1) dX0_beginAct_1 (v := 0) (by decide) ?_
  obtain ⟨w1, e2, h⟩ := obS h
  refine j_putV (pc := 2) (ci := 0) (kf := 3) tyX0 tyX0_ok nmX0 dX0_beginAct_2 rfl hin_X0_beginAct_X0 (by decide) lk_X0_beginAct_0 rfl (fun _ => rfl) (fun _ => rfl) e2 ?_
  cases h
  exact j_vret (pc := 5) rfl dX0_beginAct_5 (by decide) (by decide) rfl
theorem r_X0_beginAct {a0 : Nat} {ws : LWd} {o : LWd} (h : m_X0_beginAct a0 ws = some o) : ∃ fs, ws[a0]? = some (.inr (0, fs)) := rcv_in h
theorem hin_X10_takeLoad_X10 : ∀ w ∈ u_ws RX10 TX10 11, w ∈ wsX10_takeLoad := fun w h => List.mem_cons_of_mem _ (List.mem_append_left _ (List.mem_append_left _ (List.mem_append_left _ (List.mem_append_left _ (List.mem_append_left _ (List.mem_append_right _ h))))))
theorem lk_X10_takeLoad_0 : Cond.fieldLink RX10 48 "Gaitwright" "damage" "LGaitwright$Damage;" ∈ wsX10_takeLoad := List.mem_cons_of_mem _ (List.mem_append_left _ (List.mem_append_left _ (List.mem_append_left _ (List.mem_append_left _ (List.mem_append_left _ (List.mem_append_left _ (List.mem_append_left _ (List.mem_of_getElem? (i := 6) rfl))))))))
theorem lk_X10_takeLoad_1 : Cond.fieldLink RX10 22 "Gaitwright" "frame" "LGaitwright$Frame;" ∈ wsX10_takeLoad := List.mem_cons_of_mem _ (List.mem_append_left _ (List.mem_append_left _ (List.mem_append_left _ (List.mem_append_left _ (List.mem_append_left _ (List.mem_append_left _ (List.mem_append_left _ (List.mem_of_getElem? (i := 0) rfl))))))))
theorem hin_X10_takeLoad_X2 : ∀ w ∈ u_ws RX2 TX2 7, w ∈ wsX10_takeLoad := fun w h => List.mem_cons_of_mem _ (List.mem_append_left _ (List.mem_append_left _ (List.mem_append_left _ (List.mem_append_left _ (List.mem_append_right _ h)))))
theorem lk_X10_takeLoad_2 : Cond.fieldLink RX10 222 "Gaitwright$Frame" "loadWeight" "I" ∈ wsX10_takeLoad := List.mem_cons_of_mem _ (List.mem_append_left _ (List.mem_append_left _ (List.mem_append_left _ (List.mem_append_left _ (List.mem_append_left _ (List.mem_append_left _ (List.mem_append_left _ (List.mem_of_getElem? (i := 1) rfl))))))))
theorem lk_X10_takeLoad_3 : Cond.fieldLink RX10 330 "Gaitwright$Frame" "loadX" "I" ∈ wsX10_takeLoad := List.mem_cons_of_mem _ (List.mem_append_left _ (List.mem_append_left _ (List.mem_append_left _ (List.mem_append_left _ (List.mem_append_left _ (List.mem_append_left _ (List.mem_append_left _ (List.mem_of_getElem? (i := 2) rfl))))))))
theorem lk_X10_takeLoad_4 : Cond.fieldLink RX10 333 "Gaitwright$Frame" "loadY" "I" ∈ wsX10_takeLoad := List.mem_cons_of_mem _ (List.mem_append_left _ (List.mem_append_left _ (List.mem_append_left _ (List.mem_append_left _ (List.mem_append_left _ (List.mem_append_left _ (List.mem_append_left _ (List.mem_of_getElem? (i := 3) rfl))))))))
theorem lk_X10_takeLoad_5 : Cond.fieldLink RX10 73 "Gaitwright" "stands" "Z" ∈ wsX10_takeLoad := List.mem_cons_of_mem _ (List.mem_append_left _ (List.mem_append_left _ (List.mem_append_left _ (List.mem_append_left _ (List.mem_append_left _ (List.mem_append_left _ (List.mem_append_left _ (List.mem_of_getElem? (i := 4) rfl))))))))
theorem lk_X10_takeLoad_6 : Cond.fieldLink RX10 31 "Gaitwright" "stance" "LGaitwright$Stance;" ∈ wsX10_takeLoad := List.mem_cons_of_mem _ (List.mem_append_left _ (List.mem_append_left _ (List.mem_append_left _ (List.mem_append_left _ (List.mem_append_left _ (List.mem_append_left _ (List.mem_append_left _ (List.mem_of_getElem? (i := 5) rfl))))))))
def m_X10_takeLoad_b70 (a0 : Nat) (ws : LWd) : Option (Int32 × LWd) :=
  (fR ws a0 10 5).bind fun x1 =>
  (calSV ws (m_X0_beginAct x1 ws)).bind fun w3 =>
  some (1, w3)
set_option maxRecDepth 100000 in
set_option maxHeartbeats 4000000 in
theorem jm_X10_takeLoad_b70 {n0 : Nat} {rr : Int32} {ws' : LWd} (a0 : Nat) (ws : LWd) (h : m_X10_takeLoad_b70 a0 ws = some (rr, ws')) : JG false cX10_takeLoad 7 RX10 wsX10_takeLoad (some .boolean) "takeLoad" 3 0 0 n0 (.inl (some (.int rr)), ws') 70 [some (.ref a0), none, none, none, none, none, none] [] ws 0 0 := by
  unfold m_X10_takeLoad_b70 at h
  refine j_aload_n (pc := 70) dX10_takeLoad_70 rfl ?_
  obtain ⟨x1, e2, h⟩ := obS h
  refine j_getR (pc := 71) dX10_takeLoad_71 (ci := 10) (kf := 5) rfl hin_X10_takeLoad_X10 (by decide) lk_X10_takeLoad_0 e2 ?_
  obtain ⟨w3, e4, h⟩ := obS h
  have ge4 := calSV_of e4
  refine j_callV_g (pc := 74) (As := []) (k' := 0) (n' := 0) dX10_takeLoad_74 (s_X0_beginAct ge4.1) gX10_takeLoad_X0_beginAct rfl hv_X0_beginAct rfl (r_X0_beginAct ge4.1) rfl (by decide) (by decide) (by decide) (by decide) (by decide) (by decide) (by decide) (Or.inl ge4.2) ?_
  refine j_iconst (pc := 77) dX10_takeLoad_77 (v := 1) (by decide) ?_
  obtain ⟨rfl, rfl⟩ := jretS h
  exact j_zret (pc := 78) (ws1 := w3) rfl dX10_takeLoad_78 (by decide) (by decide) (show retZ 1 w3 = some (1, w3) from rfl) rfl rfl
def m_X10_takeLoad (a0 : Nat) (i1 : Int32) (i2 : Int32) (i3 : Int32) (ws : LWd) : Option (Int32 × LWd) :=
  (rcv ws a0 10).bind fun _ =>
  (fR ws a0 10 1).bind fun x1 =>
  (fI ws x1 2 4).bind fun x3 =>
  (fR ws a0 10 1).bind fun x5 =>
  (fI ws x5 2 5).bind fun x7 =>
  (fR ws a0 10 1).bind fun x9 =>
  (fI ws x9 2 6).bind fun x11 =>
  (fR ws a0 10 1).bind fun x13 =>
  (calSV ws (m_X2_carry x13 i1 i2 i3 ws)).bind fun w15 =>
  (fI w15 a0 10 9).bind fun x17 =>
  if x17 = 0 then
    m_X10_takeLoad_b70 a0 w15
  else
    (fR w15 a0 10 2).bind fun x20 =>
    bn2 (calSR w15 (m_X9_holdsWithout x20 ((-1)) w15)) fun x24 w22 =>
    if x24 = 0 then
      (fR w22 a0 10 1).bind fun x26 =>
      (calSV w22 (m_X2_carry x26 x3 x7 x11 w22)).bind fun w28 =>
      some (0, w28)
    else
      m_X10_takeLoad_b70 a0 w22
set_option maxRecDepth 100000 in
set_option maxHeartbeats 4000000 in
theorem s_X10_takeLoad {a0 : Nat} {i1 : Int32} {i2 : Int32} {i3 : Int32} {ws : LWd} {rr : Int32} {ws' : LWd} (h : m_X10_takeLoad a0 i1 i2 i3 ws = some (rr, ws')) : jSp yX10_takeLoad wsX10_takeLoad 3 0 0 [.ref a0, .int i1, .int i2, .int i3] ws (.inl (some (.int rr)), ws') := by
  unfold m_X10_takeLoad at h
  refine j_entry (ret := (some .boolean)) (nm := "takeLoad") (own := RX10) pl_X10 rfl rfl rfl (jcats (by rfl)) (by decide) ?_
  show JG false cX10_takeLoad 7 RX10 wsX10_takeLoad (some .boolean) "takeLoad" 3 0 0 ws.length (.inl (some (.int rr)), ws') 0 [some (.ref a0), some (.int i1), some (.int i2), some (.int i3), none, none, none] [] ws 0 0
  obtain ⟨_, _, h⟩ := obS h
  refine j_aload_n (pc := 0) dX10_takeLoad_0 rfl ?_
  obtain ⟨x1, e2, h⟩ := obS h
  refine j_getR (pc := 1) dX10_takeLoad_1 (ci := 10) (kf := 1) rfl hin_X10_takeLoad_X10 (by decide) lk_X10_takeLoad_1 e2 ?_
  obtain ⟨x3, e4, h⟩ := obS h
  refine j_getI (pc := 4) dX10_takeLoad_4 (ci := 2) (kf := 4) rfl hin_X10_takeLoad_X2 (by decide) lk_X10_takeLoad_2 e4 ?_
  refine j_istore_4 (pc := 7) dX10_takeLoad_7 (by decide) rfl ?_
  refine j_aload_n (pc := 9) dX10_takeLoad_9 rfl ?_
  obtain ⟨x5, e6, h⟩ := obS h
  refine j_getR (pc := 10) dX10_takeLoad_10 (ci := 10) (kf := 1) rfl hin_X10_takeLoad_X10 (by decide) lk_X10_takeLoad_1 e6 ?_
  obtain ⟨x7, e8, h⟩ := obS h
  refine j_getI (pc := 13) dX10_takeLoad_13 (ci := 2) (kf := 5) rfl hin_X10_takeLoad_X2 (by decide) lk_X10_takeLoad_3 e8 ?_
  refine j_istore_5 (pc := 16) dX10_takeLoad_16 (by decide) rfl ?_
  refine j_aload_n (pc := 18) dX10_takeLoad_18 rfl ?_
  obtain ⟨x9, e10, h⟩ := obS h
  refine j_getR (pc := 19) dX10_takeLoad_19 (ci := 10) (kf := 1) rfl hin_X10_takeLoad_X10 (by decide) lk_X10_takeLoad_1 e10 ?_
  obtain ⟨x11, e12, h⟩ := obS h
  refine j_getI (pc := 22) dX10_takeLoad_22 (ci := 2) (kf := 6) rfl hin_X10_takeLoad_X2 (by decide) lk_X10_takeLoad_4 e12 ?_
  refine j_istore_6 (pc := 25) dX10_takeLoad_25 (by decide) rfl ?_
  refine j_aload_n (pc := 27) dX10_takeLoad_27 rfl ?_
  obtain ⟨x13, e14, h⟩ := obS h
  refine j_getR (pc := 28) dX10_takeLoad_28 (ci := 10) (kf := 1) rfl hin_X10_takeLoad_X10 (by decide) lk_X10_takeLoad_1 e14 ?_
  refine j_iload_n (pc := 31) dX10_takeLoad_31 rfl ?_
  refine j_iload_n (pc := 32) dX10_takeLoad_32 rfl ?_
  refine j_iload_n (pc := 33) dX10_takeLoad_33 rfl ?_
  obtain ⟨w15, e16, h⟩ := obS h
  have ge16 := calSV_of e16
  refine j_callV_g (pc := 34) (As := [.int i1, .int i2, .int i3]) (k' := 0) (n' := 0) dX10_takeLoad_34 (s_X2_carry ge16.1) gX10_takeLoad_X2_carry rfl hv_X2_carry rfl (r_X2_carry ge16.1) rfl (by decide) (by decide) (by decide) (by decide) (by decide) (by decide) (by decide) (Or.inl ge16.2) ?_
  refine j_aload_n (pc := 37) dX10_takeLoad_37 rfl ?_
  obtain ⟨x17, e18, h⟩ := obS h
  refine j_getI (pc := 38) dX10_takeLoad_38 (ci := 10) (kf := 9) rfl hin_X10_takeLoad_X10 (by decide) lk_X10_takeLoad_5 e18 ?_
  refine j_if_eq (pc := 41) (tgt := 70) dX10_takeLoad_41 (by decide) (fun c19 => ?_) (fun c19 => ?_)
  · rw [if_pos c19] at h
    refine j_mask [true, false, false, false, false, false, false] ?_
    exact jm_X10_takeLoad_b70 _ w15 h
  · rw [if_neg c19] at h
    refine j_aload_n (pc := 44) dX10_takeLoad_44 rfl ?_
    obtain ⟨x20, e21, h⟩ := obS h
    refine j_getR (pc := 45) dX10_takeLoad_45 (ci := 10) (kf := 2) rfl hin_X10_takeLoad_X10 (by decide) lk_X10_takeLoad_6 e21 ?_
    refine j_iconst (pc := 48) dX10_takeLoad_48 (v := (-1)) (by decide) ?_
    obtain ⟨x24, w22, e23, h⟩ := obS2 h
    have ge23 := calSR_of e23
    refine j_callV_g (pc := 49) (As := [.int ((-1))]) (k' := 0) (n' := 0) dX10_takeLoad_49 (s_X9_holdsWithout ge23.1) gX10_takeLoad_X9_holdsWithout rfl hv_X9_holdsWithout rfl (r_X9_holdsWithout ge23.1) rfl (by decide) (by decide) (by decide) (by decide) (by decide) (by decide) (by decide) (Or.inl ge23.2) ?_
    refine j_if_ne (pc := 52) (tgt := 70) dX10_takeLoad_52 (by decide) (fun c25 => ?_) (fun c25 => ?_)
    · rw [if_neg c25] at h
      refine j_mask [true, false, false, false, false, false, false] ?_
      exact jm_X10_takeLoad_b70 _ w22 h
    · rw [if_pos c25] at h
      refine j_aload_n (pc := 55) dX10_takeLoad_55 rfl ?_
      obtain ⟨x26, e27, h⟩ := obS h
      refine j_getR (pc := 56) dX10_takeLoad_56 (ci := 10) (kf := 1) rfl hin_X10_takeLoad_X10 (by decide) lk_X10_takeLoad_1 e27 ?_
      refine j_iload (pc := 59) dX10_takeLoad_59 rfl ?_
      refine j_iload (pc := 61) dX10_takeLoad_61 rfl ?_
      refine j_iload (pc := 63) dX10_takeLoad_63 rfl ?_
      obtain ⟨w28, e29, h⟩ := obS h
      have ge29 := calSV_of e29
      refine j_callV_g (pc := 65) (As := [.int x3, .int x7, .int x11]) (k' := 0) (n' := 0) dX10_takeLoad_65 (s_X2_carry ge29.1) gX10_takeLoad_X2_carry rfl hv_X2_carry rfl (r_X2_carry ge29.1) rfl (by decide) (by decide) (by decide) (by decide) (by decide) (by decide) (by decide) (Or.inl ge29.2) ?_
      refine j_iconst (pc := 68) dX10_takeLoad_68 (v := 0) (by decide) ?_
      obtain ⟨rfl, rfl⟩ := jretS h
      exact j_zret (pc := 69) (ws1 := w28) rfl dX10_takeLoad_69 (by decide) (by decide) (show retZ 0 w28 = some (0, w28) from rfl) rfl rfl
theorem r_X10_takeLoad {a0 : Nat} {i1 : Int32} {i2 : Int32} {i3 : Int32} {ws : LWd} {o : (Int32 × LWd)} (h : m_X10_takeLoad a0 i1 i2 i3 ws = some o) : ∃ fs, ws[a0]? = some (.inr (10, fs)) := rcv_in h
theorem hin_X9_down_X9 : ∀ w ∈ u_ws RX9 TX9 6, w ∈ wsX9_down := fun w h => List.mem_cons_of_mem _ (List.mem_append_left _ (List.mem_append_right _ h))
theorem lk_X9_down_0 : Cond.fieldLink RX9 14 "Gaitwright$Stance" "feet" "LGaitwright$Row;" ∈ wsX9_down := List.mem_cons_of_mem _ (List.mem_append_left _ (List.mem_append_left _ (List.mem_of_getElem? (i := 0) rfl)))
def m_X9_down_b25 (k4 : Nat → Int32 → Int32 → LWd → Option (Int32 × LWd)) (a0 : Nat) (i1 : Int32) (i2 : Int32) (ws : LWd) : Option (Int32 × LWd) :=
  k4 a0 i1 (i2 + 1) ws
set_option maxRecDepth 100000 in
set_option maxHeartbeats 4000000 in
theorem jm_X9_down_b25 {n0 : Nat} {rr : Int32} {ws' : LWd} {k4 : Nat → Int32 → Int32 → LWd → Option (Int32 × LWd)} (hk4 : ∀ (a0 : Nat) (i1 : Int32) (i2 : Int32) (ws : LWd), k4 a0 i1 i2 ws = some (rr, ws') → JG false cX9_down 3 RX9 wsX9_down (some .int) "down" 1 0 0 n0 (.inl (some (.int rr)), ws') 4 [some (.ref a0), some (.int i1), some (.int i2)] [] ws 0 0) (a0 : Nat) (i1 : Int32) (i2 : Int32) (ws : LWd) (h : m_X9_down_b25 k4 a0 i1 i2 ws = some (rr, ws')) : JG false cX9_down 3 RX9 wsX9_down (some .int) "down" 1 0 0 n0 (.inl (some (.int rr)), ws') 25 [some (.ref a0), some (.int i1), some (.int i2)] [] ws 0 0 := by
  unfold m_X9_down_b25 at h
  refine j_iinc_2 (pc := 25) dX9_down_25 (y := i2 + 1) rfl (by decide) rfl ?_
  refine j_goto (pc := 28) (tgt := 4) dX9_down_28 (by decide) ?_
  exact hk4 _ _ _ ws h
def m_X9_down_l4 : Nat → Nat → Int32 → Int32 → LWd → Option (Int32 × LWd)
  | 0, _, _, _, _ => none
  | fu + 1, a0, i1, i2, ws =>
    if 6 ≤ i2 then
      some (i1, ws)
    else
      (fR ws a0 9 3).bind fun x2 =>
      bn2 (calSR ws (m_X8_at x2 i2 ws)) fun x6 w4 =>
      if x6 = ((-1)) then
        m_X9_down_b25 (fun z0 z1 z2 w => m_X9_down_l4 fu z0 z1 z2 w) a0 i1 i2 w4
      else
        m_X9_down_b25 (fun z0 z1 z2 w => m_X9_down_l4 fu z0 z1 z2 w) a0 (i1 + 1) i2 w4
set_option maxRecDepth 100000 in
set_option maxHeartbeats 4000000 in
theorem jm_X9_down_l4 {n0 : Nat} {rr : Int32} {ws' : LWd} : ∀ (fu : Nat) (a0 : Nat) (i1 : Int32) (i2 : Int32) (ws : LWd), m_X9_down_l4 fu a0 i1 i2 ws = some (rr, ws') → JG false cX9_down 3 RX9 wsX9_down (some .int) "down" 1 0 0 n0 (.inl (some (.int rr)), ws') 4 [some (.ref a0), some (.int i1), some (.int i2)] [] ws 0 0 := by
  intro fu
  induction fu with
  | zero => intro a0 i1 i2 ws h; cases h
  | succ fu ih =>
    intro a0 i1 i2 ws h
    rw [m_X9_down_l4] at h
    refine j_iload_n (pc := 4) dX9_down_4 rfl ?_
    refine j_bipush (pc := 5) dX9_down_5 (v := 6) (by decide) ?_
    refine j_icmp_ge (pc := 7) (tgt := 31) dX9_down_7 (by decide) (fun c1 => ?_) (fun c1 => ?_)
    · rw [if_pos c1] at h
      refine j_iload_n (pc := 31) dX9_down_31 rfl ?_
      obtain ⟨rfl, rfl⟩ := jretS h
      exact j_iret (pc := 32) rfl dX9_down_32 (by decide) (by decide) rfl
    · rw [if_neg c1] at h
      refine j_aload_n (pc := 10) dX9_down_10 rfl ?_
      obtain ⟨x2, e3, h⟩ := obS h
      refine j_getR (pc := 11) dX9_down_11 (ci := 9) (kf := 3) rfl hin_X9_down_X9 (by decide) lk_X9_down_0 e3 ?_
      refine j_iload_n (pc := 14) dX9_down_14 rfl ?_
      obtain ⟨x6, w4, e5, h⟩ := obS2 h
      have ge5 := calSR_of e5
      refine j_callV_g (pc := 15) (As := [.int i2]) (k' := 0) (n' := 0) dX9_down_15 (s_X8_at ge5.1) gX9_down_X8_at rfl hv_X8_at rfl (r_X8_at ge5.1) rfl (by decide) (by decide) (by decide) (by decide) (by decide) (by decide) (by decide) (Or.inl ge5.2) ?_
      refine j_iconst (pc := 18) dX9_down_18 (v := (-1)) (by decide) ?_
      refine j_icmp_eq (pc := 19) (tgt := 25) dX9_down_19 (by decide) (fun c7 => ?_) (fun c7 => ?_)
      · rw [if_pos c7] at h
        exact jm_X9_down_b25 (hk4 := ih) _ _ _ w4 h
      · rw [if_neg c7] at h
        refine j_iinc_1 (pc := 22) dX9_down_22 (y := i1 + 1) rfl (by decide) rfl ?_
        exact jm_X9_down_b25 (hk4 := ih) _ _ _ w4 h
def m_X9_down (a0 : Nat) (ws : LWd) : Option (Int32 × LWd) :=
  (rcv ws a0 9).bind fun _ =>
  m_X9_down_l4 FU a0 0 0 ws
set_option maxRecDepth 100000 in
set_option maxHeartbeats 4000000 in
theorem s_X9_down {a0 : Nat} {ws : LWd} {rr : Int32} {ws' : LWd} (h : m_X9_down a0 ws = some (rr, ws')) : jSp yX9_down wsX9_down 1 0 0 [.ref a0] ws (.inl (some (.int rr)), ws') := by
  unfold m_X9_down at h
  refine j_entry (ret := (some .int)) (nm := "down") (own := RX9) pl_X9 rfl rfl rfl (jcats (by rfl)) (by decide) ?_
  show JG false cX9_down 3 RX9 wsX9_down (some .int) "down" 1 0 0 ws.length (.inl (some (.int rr)), ws') 0 [some (.ref a0), none, none] [] ws 0 0
  obtain ⟨_, _, h⟩ := obS h
  refine j_iconst (pc := 0) dX9_down_0 (v := 0) (by decide) ?_
  refine j_istore_n_1 (pc := 1) dX9_down_1 (by decide) rfl ?_
  refine j_iconst (pc := 2) dX9_down_2 (v := 0) (by decide) ?_
  refine j_istore_n_2 (pc := 3) dX9_down_3 (by decide) rfl ?_
  exact jm_X9_down_l4 FU _ _ _ ws h
theorem r_X9_down {a0 : Nat} {ws : LWd} {o : (Int32 × LWd)} (h : m_X9_down a0 ws = some o) : ∃ fs, ws[a0]? = some (.inr (9, fs)) := rcv_in h
def m_X10_roundedUp (i0 : Int32) (i1 : Int32) (ws : LWd) : Option (Int32 × LWd) :=
  if 0 < i1 then
    if i1 = 0 then none else
    some (((i0 + i1) - 1) / i1, ws)
  else
    some (0, ws)
set_option maxRecDepth 100000 in
set_option maxHeartbeats 4000000 in
theorem s_X10_roundedUp {i0 : Int32} {i1 : Int32} {ws : LWd} {rr : Int32} {ws' : LWd} (h : m_X10_roundedUp i0 i1 ws = some (rr, ws')) : jSp yX10_roundedUp wsX10_roundedUp 0 0 0 [.int i0, .int i1] ws (.inl (some (.int rr)), ws') := by
  unfold m_X10_roundedUp at h
  refine j_entry (ret := (some .int)) (nm := "roundedUp") (own := RX10) pl_X10 rfl rfl rfl (jcats (by rfl)) (by decide) ?_
  show JG false cX10_roundedUp 2 RX10 wsX10_roundedUp (some .int) "roundedUp" 0 0 0 ws.length (.inl (some (.int rr)), ws') 0 [some (.int i0), some (.int i1)] [] ws 0 0
  refine j_iload_n (pc := 0) dX10_roundedUp_0 rfl ?_
  refine j_if_gt (pc := 1) (tgt := 8) dX10_roundedUp_1 (by decide) (fun c1 => ?_) (fun c1 => ?_)
  · rw [if_pos c1] at h
    refine j_iload_n (pc := 8) dX10_roundedUp_8 rfl ?_
    refine j_iload_n (pc := 9) dX10_roundedUp_9 rfl ?_
    refine j_iadd (pc := 10) dX10_roundedUp_10 ?_
    refine j_iconst (pc := 11) dX10_roundedUp_11 (v := 1) (by decide) ?_
    refine j_isub (pc := 12) dX10_roundedUp_12 ?_
    refine j_iload_n (pc := 13) dX10_roundedUp_13 rfl ?_
    have c2 := jneS h
    rw [if_neg c2] at h
    refine j_idiv (pc := 14) dX10_roundedUp_14 c2 ?_
    obtain ⟨rfl, rfl⟩ := jretS h
    exact j_iret (pc := 15) rfl dX10_roundedUp_15 (by decide) (by decide) rfl
  · rw [if_neg c1] at h
    refine j_iconst (pc := 4) dX10_roundedUp_4 (v := 0) (by decide) ?_
    refine j_goto (pc := 5) (tgt := 15) dX10_roundedUp_5 (by decide) ?_
    obtain ⟨rfl, rfl⟩ := jretS h
    exact j_iret (pc := 15) rfl dX10_roundedUp_15 (by decide) (by decide) rfl
theorem hin_X9_pressure_X9 : ∀ w ∈ u_ws RX9 TX9 6, w ∈ wsX9_pressure := fun w h => List.mem_cons_of_mem _ (List.mem_append_left _ (List.mem_append_left _ (List.mem_append_right _ h)))
theorem lk_X9_pressure_0 : Cond.fieldLink RX9 31 "Gaitwright$Stance" "frame" "LGaitwright$Frame;" ∈ wsX9_pressure := List.mem_cons_of_mem _ (List.mem_append_left _ (List.mem_append_left _ (List.mem_append_left _ (List.mem_of_getElem? (i := 0) rfl))))
theorem lk_X9_pressure_1 : Cond.initialized RX10 ∈ wsX9_pressure := List.mem_cons_of_mem _ (List.mem_append_left _ (List.mem_append_left _ (List.mem_append_left _ (List.mem_of_getElem? (i := 20) rfl))))
theorem lk_X9_pressure_2 : Cond.static yX10_roundedUp ∈ wsX9_pressure := List.mem_cons_of_mem _ (List.mem_append_left _ (List.mem_append_left _ (List.mem_append_left _ (List.mem_of_getElem? (i := 19) rfl))))
def m_X9_pressure (a0 : Nat) (ws : LWd) : Option (Int32 × LWd) :=
  (rcv ws a0 9).bind fun _ =>
  (fR ws a0 9 1).bind fun x1 =>
  bn2 (calSR ws (m_X2_weight x1 ws)) fun x5 w3 =>
  bn2 (calSR w3 (m_X9_down a0 w3)) fun x8 w6 =>
  bn2 (calSR w6 (m_X10_roundedUp x5 x8 w6)) fun x11 w9 =>
  some (x11, w9)
set_option maxRecDepth 100000 in
set_option maxHeartbeats 4000000 in
theorem s_X9_pressure {a0 : Nat} {ws : LWd} {rr : Int32} {ws' : LWd} (h : m_X9_pressure a0 ws = some (rr, ws')) : jSp yX9_pressure wsX9_pressure 2 0 0 [.ref a0] ws (.inl (some (.int rr)), ws') := by
  unfold m_X9_pressure at h
  refine j_entry (ret := (some .int)) (nm := "pressure") (own := RX9) pl_X9 rfl rfl rfl (jcats (by rfl)) (by decide) ?_
  show JG false cX9_pressure 1 RX9 wsX9_pressure (some .int) "pressure" 2 0 0 ws.length (.inl (some (.int rr)), ws') 0 [some (.ref a0)] [] ws 0 0
  obtain ⟨_, _, h⟩ := obS h
  refine j_aload_n (pc := 0) dX9_pressure_0 rfl ?_
  obtain ⟨x1, e2, h⟩ := obS h
  refine j_getR (pc := 1) dX9_pressure_1 (ci := 9) (kf := 1) rfl hin_X9_pressure_X9 (by decide) lk_X9_pressure_0 e2 ?_
  obtain ⟨x5, w3, e4, h⟩ := obS2 h
  have ge4 := calSR_of e4
  refine j_callV_g (pc := 4) (As := []) (k' := 0) (n' := 0) dX9_pressure_4 (s_X2_weight ge4.1) gX9_pressure_X2_weight rfl hv_X2_weight rfl (r_X2_weight ge4.1) rfl (by decide) (by decide) (by decide) (by decide) (by decide) (by decide) (by decide) (Or.inl ge4.2) ?_
  refine j_aload_n (pc := 7) dX9_pressure_7 rfl ?_
  obtain ⟨x8, w6, e7, h⟩ := obS2 h
  have ge7 := calSR_of e7
  refine j_callV_g (pc := 8) (As := []) (k' := 0) (n' := 0) dX9_pressure_8 (s_X9_down ge7.1) gX9_pressure_X9_down rfl hv_X9_down rfl (r_X9_down ge7.1) rfl (by decide) (by decide) (by decide) (by decide) (by decide) (by decide) (by decide) (Or.inl ge7.2) ?_
  obtain ⟨x11, w9, e10, h⟩ := obS2 h
  have ge10 := calSR_of e10
  refine j_callSN_g (pc := 11) (As := [.int x5, .int x8]) (k' := 0) (n' := 0) dX9_pressure_11 (s_X10_roundedUp ge10.1) gX9_pressure_X10_roundedUp_n89 nst_X9_89 lk_X9_pressure_1 lk_X9_pressure_2 rfl hy_X10_roundedUp rfl (by decide) (by decide) (by decide) (by decide) (by decide) (by decide) (by decide) (Or.inl ge10.2) ?_
  obtain ⟨rfl, rfl⟩ := jretS h
  exact j_iret (pc := 14) rfl dX9_pressure_14 (by decide) (by decide) rfl
theorem r_X9_pressure {a0 : Nat} {ws : LWd} {o : (Int32 × LWd)} (h : m_X9_pressure a0 ws = some o) : ∃ fs, ws[a0]? = some (.inr (9, fs)) := rcv_in h
theorem hin_X9_sinking_X9 : ∀ w ∈ u_ws RX9 TX9 6, w ∈ wsX9_sinking := fun w h => List.mem_cons_of_mem _ (List.mem_append_left _ (List.mem_append_left _ (List.mem_append_left _ (List.mem_append_right _ h))))
theorem lk_X9_sinking_0 : Cond.fieldLink RX9 14 "Gaitwright$Stance" "feet" "LGaitwright$Row;" ∈ wsX9_sinking := List.mem_cons_of_mem _ (List.mem_append_left _ (List.mem_append_left _ (List.mem_append_left _ (List.mem_append_left _ (List.mem_append_left _ (List.mem_of_getElem? (i := 0) rfl))))))
theorem lk_X9_sinking_1 : Cond.fieldLink RX9 27 "Gaitwright$Stance" "land" "LGaitwright$Land;" ∈ wsX9_sinking := List.mem_cons_of_mem _ (List.mem_append_left _ (List.mem_append_left _ (List.mem_append_left _ (List.mem_append_left _ (List.mem_append_left _ (List.mem_of_getElem? (i := 1) rfl))))))
theorem hin_X9_sinking_X5 : ∀ w ∈ u_ws RX5 TX5 4, w ∈ wsX9_sinking := fun w h => List.mem_cons_of_mem _ (List.mem_append_left _ (List.mem_append_left _ (List.mem_append_right _ h)))
theorem lk_X9_sinking_2 : Cond.fieldLink RX9 95 "Gaitwright$Land" "firmness" "LGaitwright$Row;" ∈ wsX9_sinking := List.mem_cons_of_mem _ (List.mem_append_left _ (List.mem_append_left _ (List.mem_append_left _ (List.mem_append_left _ (List.mem_append_left _ (List.mem_of_getElem? (i := 2) rfl))))))
def m_X9_sinking_b53 (k9 : Nat → Int32 → Int32 → Int32 → LWd → Option (Int32 × LWd)) (a0 : Nat) (i1 : Int32) (i2 : Int32) (i3 : Int32) (ws : LWd) : Option (Int32 × LWd) :=
  k9 a0 i1 i2 (i3 + 1) ws
set_option maxRecDepth 100000 in
set_option maxHeartbeats 4000000 in
theorem jm_X9_sinking_b53 {n0 : Nat} {rr : Int32} {ws' : LWd} {k9 : Nat → Int32 → Int32 → Int32 → LWd → Option (Int32 × LWd)} (hk9 : ∀ (a0 : Nat) (i1 : Int32) (i2 : Int32) (i3 : Int32) (ws : LWd), k9 a0 i1 i2 i3 ws = some (rr, ws') → JG false cX9_sinking 5 RX9 wsX9_sinking (some .int) "sinking" 3 0 0 n0 (.inl (some (.int rr)), ws') 9 [some (.ref a0), some (.int i1), some (.int i2), some (.int i3), none] [] ws 0 0) (a0 : Nat) (i1 : Int32) (i2 : Int32) (i3 : Int32) (ws : LWd) (h : m_X9_sinking_b53 k9 a0 i1 i2 i3 ws = some (rr, ws')) : JG false cX9_sinking 5 RX9 wsX9_sinking (some .int) "sinking" 3 0 0 n0 (.inl (some (.int rr)), ws') 53 [some (.ref a0), some (.int i1), some (.int i2), some (.int i3), none] [] ws 0 0 := by
  unfold m_X9_sinking_b53 at h
  refine j_iinc_3 (pc := 53) dX9_sinking_53 (y := i3 + 1) rfl (by decide) rfl ?_
  refine j_goto (pc := 56) (tgt := 9) dX9_sinking_56 (by decide) ?_
  exact hk9 _ _ _ _ ws h
def m_X9_sinking_l9 : Nat → Nat → Int32 → Int32 → Int32 → LWd → Option (Int32 × LWd)
  | 0, _, _, _, _, _ => none
  | fu + 1, a0, i1, i2, i3, ws =>
    if 6 ≤ i3 then
      some (i2, ws)
    else
      (fR ws a0 9 3).bind fun x2 =>
      bn2 (calSR ws (m_X8_at x2 i3 ws)) fun x6 w4 =>
      if x6 = ((-1)) then
        m_X9_sinking_b53 (fun z0 z1 z2 z3 w => m_X9_sinking_l9 fu z0 z1 z2 z3 w) a0 i1 i2 i3 w4
      else
        (fR w4 a0 9 0).bind fun x8 =>
        (fR w4 x8 5 1).bind fun x10 =>
        bn2 (calSR w4 (m_X8_at x10 x6 w4)) fun x14 w12 =>
        if i1 ≤ x14 then
          m_X9_sinking_b53 (fun z0 z1 z2 z3 w => m_X9_sinking_l9 fu z0 z1 z2 z3 w) a0 i1 i2 i3 w12
        else
          m_X9_sinking_b53 (fun z0 z1 z2 z3 w => m_X9_sinking_l9 fu z0 z1 z2 z3 w) a0 i1 (i2 ||| (1 <<< (i3 &&& 31))) i3 w12
set_option maxRecDepth 100000 in
set_option maxHeartbeats 4000000 in
theorem jm_X9_sinking_l9 {n0 : Nat} {rr : Int32} {ws' : LWd} : ∀ (fu : Nat) (a0 : Nat) (i1 : Int32) (i2 : Int32) (i3 : Int32) (ws : LWd), m_X9_sinking_l9 fu a0 i1 i2 i3 ws = some (rr, ws') → JG false cX9_sinking 5 RX9 wsX9_sinking (some .int) "sinking" 3 0 0 n0 (.inl (some (.int rr)), ws') 9 [some (.ref a0), some (.int i1), some (.int i2), some (.int i3), none] [] ws 0 0 := by
  intro fu
  induction fu with
  | zero => intro a0 i1 i2 i3 ws h; cases h
  | succ fu ih =>
    intro a0 i1 i2 i3 ws h
    rw [m_X9_sinking_l9] at h
    refine j_iload_n (pc := 9) dX9_sinking_9 rfl ?_
    refine j_bipush (pc := 10) dX9_sinking_10 (v := 6) (by decide) ?_
    refine j_icmp_ge (pc := 12) (tgt := 59) dX9_sinking_12 (by decide) (fun c1 => ?_) (fun c1 => ?_)
    · rw [if_pos c1] at h
      refine j_iload_n (pc := 59) dX9_sinking_59 rfl ?_
      obtain ⟨rfl, rfl⟩ := jretS h
      exact j_iret (pc := 60) rfl dX9_sinking_60 (by decide) (by decide) rfl
    · rw [if_neg c1] at h
      refine j_aload_n (pc := 15) dX9_sinking_15 rfl ?_
      obtain ⟨x2, e3, h⟩ := obS h
      refine j_getR (pc := 16) dX9_sinking_16 (ci := 9) (kf := 3) rfl hin_X9_sinking_X9 (by decide) lk_X9_sinking_0 e3 ?_
      refine j_iload_n (pc := 19) dX9_sinking_19 rfl ?_
      obtain ⟨x6, w4, e5, h⟩ := obS2 h
      have ge5 := calSR_of e5
      refine j_callV_g (pc := 20) (As := [.int i3]) (k' := 0) (n' := 0) dX9_sinking_20 (s_X8_at ge5.1) gX9_sinking_X8_at rfl hv_X8_at rfl (r_X8_at ge5.1) rfl (by decide) (by decide) (by decide) (by decide) (by decide) (by decide) (by decide) (Or.inl ge5.2) ?_
      refine j_istore_4 (pc := 23) dX9_sinking_23 (by decide) rfl ?_
      refine j_iload (pc := 25) dX9_sinking_25 rfl ?_
      refine j_iconst (pc := 27) dX9_sinking_27 (v := (-1)) (by decide) ?_
      refine j_icmp_eq (pc := 28) (tgt := 53) dX9_sinking_28 (by decide) (fun c7 => ?_) (fun c7 => ?_)
      · rw [if_pos c7] at h
        refine j_mask [true, true, true, true, false] ?_
        exact jm_X9_sinking_b53 (hk9 := ih) _ _ _ _ w4 h
      · rw [if_neg c7] at h
        refine j_aload_n (pc := 31) dX9_sinking_31 rfl ?_
        obtain ⟨x8, e9, h⟩ := obS h
        refine j_getR (pc := 32) dX9_sinking_32 (ci := 9) (kf := 0) rfl hin_X9_sinking_X9 (by decide) lk_X9_sinking_1 e9 ?_
        obtain ⟨x10, e11, h⟩ := obS h
        refine j_getR (pc := 35) dX9_sinking_35 (ci := 5) (kf := 1) rfl hin_X9_sinking_X5 (by decide) lk_X9_sinking_2 e11 ?_
        refine j_iload (pc := 38) dX9_sinking_38 rfl ?_
        obtain ⟨x14, w12, e13, h⟩ := obS2 h
        have ge13 := calSR_of e13
        refine j_callV_g (pc := 40) (As := [.int x6]) (k' := 0) (n' := 0) dX9_sinking_40 (s_X8_at ge13.1) gX9_sinking_X8_at rfl hv_X8_at rfl (r_X8_at ge13.1) rfl (by decide) (by decide) (by decide) (by decide) (by decide) (by decide) (by decide) (Or.inl ge13.2) ?_
        refine j_iload_n (pc := 43) dX9_sinking_43 rfl ?_
        refine j_icmp_ge (pc := 44) (tgt := 53) dX9_sinking_44 (by decide) (fun c15 => ?_) (fun c15 => ?_)
        · rw [if_pos c15] at h
          refine j_mask [true, true, true, true, false] ?_
          exact jm_X9_sinking_b53 (hk9 := ih) _ _ _ _ w12 h
        · rw [if_neg c15] at h
          refine j_iload_n (pc := 47) dX9_sinking_47 rfl ?_
          refine j_iconst (pc := 48) dX9_sinking_48 (v := 1) (by decide) ?_
          refine j_iload_n (pc := 49) dX9_sinking_49 rfl ?_
          refine j_ishl (pc := 50) dX9_sinking_50 ?_
          refine j_ior (pc := 51) dX9_sinking_51 ?_
          refine j_istore_n_2 (pc := 52) dX9_sinking_52 (by decide) rfl ?_
          refine j_mask [true, true, true, true, false] ?_
          exact jm_X9_sinking_b53 (hk9 := ih) _ _ _ _ w12 h
def m_X9_sinking (a0 : Nat) (ws : LWd) : Option (Int32 × LWd) :=
  (rcv ws a0 9).bind fun _ =>
  bn2 (calSR ws (m_X9_pressure a0 ws)) fun x3 w1 =>
  m_X9_sinking_l9 FU a0 x3 0 0 w1
set_option maxRecDepth 100000 in
set_option maxHeartbeats 4000000 in
theorem s_X9_sinking {a0 : Nat} {ws : LWd} {rr : Int32} {ws' : LWd} (h : m_X9_sinking a0 ws = some (rr, ws')) : jSp yX9_sinking wsX9_sinking 3 0 0 [.ref a0] ws (.inl (some (.int rr)), ws') := by
  unfold m_X9_sinking at h
  refine j_entry (ret := (some .int)) (nm := "sinking") (own := RX9) pl_X9 rfl rfl rfl (jcats (by rfl)) (by decide) ?_
  show JG false cX9_sinking 5 RX9 wsX9_sinking (some .int) "sinking" 3 0 0 ws.length (.inl (some (.int rr)), ws') 0 [some (.ref a0), none, none, none, none] [] ws 0 0
  obtain ⟨_, _, h⟩ := obS h
  refine j_aload_n (pc := 0) dX9_sinking_0 rfl ?_
  obtain ⟨x3, w1, e2, h⟩ := obS2 h
  have ge2 := calSR_of e2
  refine j_callV_g (pc := 1) (As := []) (k' := 0) (n' := 0) dX9_sinking_1 (s_X9_pressure ge2.1) gX9_sinking_X9_pressure rfl hv_X9_pressure rfl (r_X9_pressure ge2.1) rfl (by decide) (by decide) (by decide) (by decide) (by decide) (by decide) (by decide) (Or.inl ge2.2) ?_
  refine j_istore_n_1 (pc := 4) dX9_sinking_4 (by decide) rfl ?_
  refine j_iconst (pc := 5) dX9_sinking_5 (v := 0) (by decide) ?_
  refine j_istore_n_2 (pc := 6) dX9_sinking_6 (by decide) rfl ?_
  refine j_iconst (pc := 7) dX9_sinking_7 (v := 0) (by decide) ?_
  refine j_istore_n_3 (pc := 8) dX9_sinking_8 (by decide) rfl ?_
  exact jm_X9_sinking_l9 FU _ _ _ _ w1 h
theorem r_X9_sinking {a0 : Nat} {ws : LWd} {o : (Int32 × LWd)} (h : m_X9_sinking a0 ws = some o) : ∃ fs, ws[a0]? = some (.inr (9, fs)) := rcv_in h
theorem hin_X5_learn_X5 : ∀ w ∈ u_ws RX5 TX5 4, w ∈ wsX5_learn := fun w h => List.mem_cons_of_mem _ (List.mem_append_left _ (List.mem_append_right _ h))
theorem lk_X5_learn_0 : Cond.fieldLink RX5 26 "Gaitwright$Land" "mapped" "LGaitwright$Row;" ∈ wsX5_learn := List.mem_cons_of_mem _ (List.mem_append_left _ (List.mem_append_left _ (List.mem_of_getElem? (i := 0) rfl)))
theorem lk_X5_learn_1 : Cond.fieldLink RX5 14 "Gaitwright$Land" "height" "LGaitwright$Row;" ∈ wsX5_learn := List.mem_cons_of_mem _ (List.mem_append_left _ (List.mem_append_left _ (List.mem_of_getElem? (i := 1) rfl)))
def m_X5_learn (a0 : Nat) (i1 : Int32) (ws : LWd) : Option LWd :=
  (rcv ws a0 5).bind fun _ =>
  (fR ws a0 5 3).bind fun x1 =>
  (fR ws a0 5 0).bind fun x3 =>
  bn2 (calSR ws (m_X8_at x3 i1 ws)) fun x7 w5 =>
  (calSV w5 (m_X8_put x1 i1 x7 w5)).bind fun w8 =>
  some w8
set_option maxRecDepth 100000 in
set_option maxHeartbeats 4000000 in
theorem s_X5_learn {a0 : Nat} {i1 : Int32} {ws : LWd} {ws' : LWd} (h : m_X5_learn a0 i1 ws = some ws') : jSp yX5_learn wsX5_learn 1 0 0 [.ref a0, .int i1] ws (.inl none, ws') := by
  unfold m_X5_learn at h
  refine j_entry (ret := none) (nm := "learn") (own := RX5) pl_X5 rfl rfl rfl (jcats (by rfl)) (by decide) ?_
  show JG false cX5_learn 2 RX5 wsX5_learn none "learn" 1 0 0 ws.length (.inl none, ws') 0 [some (.ref a0), some (.int i1)] [] ws 0 0
  obtain ⟨_, _, h⟩ := obS h
  refine j_aload_n (pc := 0) dX5_learn_0 rfl ?_
  obtain ⟨x1, e2, h⟩ := obS h
  refine j_getR (pc := 1) dX5_learn_1 (ci := 5) (kf := 3) rfl hin_X5_learn_X5 (by decide) lk_X5_learn_0 e2 ?_
  refine j_iload_n (pc := 4) dX5_learn_4 rfl ?_
  refine j_aload_n (pc := 5) dX5_learn_5 rfl ?_
  obtain ⟨x3, e4, h⟩ := obS h
  refine j_getR (pc := 6) dX5_learn_6 (ci := 5) (kf := 0) rfl hin_X5_learn_X5 (by decide) lk_X5_learn_1 e4 ?_
  refine j_iload_n (pc := 9) dX5_learn_9 rfl ?_
  obtain ⟨x7, w5, e6, h⟩ := obS2 h
  have ge6 := calSR_of e6
  refine j_callV_g (pc := 10) (As := [.int i1]) (k' := 0) (n' := 0) dX5_learn_10 (s_X8_at ge6.1) gX5_learn_X8_at rfl hv_X8_at rfl (r_X8_at ge6.1) rfl (by decide) (by decide) (by decide) (by decide) (by decide) (by decide) (by decide) (Or.inl ge6.2) ?_
  obtain ⟨w8, e9, h⟩ := obS h
  have ge9 := calSV_of e9
  refine j_callV_g (pc := 13) (As := [.int i1, .int x7]) (k' := 0) (n' := 0) dX5_learn_13 (s_X8_put ge9.1) gX5_learn_X8_put rfl hv_X8_put rfl (r_X8_put ge9.1) rfl (by decide) (by decide) (by decide) (by decide) (by decide) (by decide) (by decide) (Or.inl ge9.2) ?_
  cases h
  exact j_vret (pc := 16) rfl dX5_learn_16 (by decide) (by decide) rfl
theorem r_X5_learn {a0 : Nat} {i1 : Int32} {ws : LWd} {o : LWd} (h : m_X5_learn a0 i1 ws = some o) : ∃ fs, ws[a0]? = some (.inr (5, fs)) := rcv_in h
theorem hin_X5_sag_X5 : ∀ w ∈ u_ws RX5 TX5 4, w ∈ wsX5_sag := fun w h => List.mem_cons_of_mem _ (List.mem_append_left _ (List.mem_append_right _ h))
theorem lk_X5_sag_0 : Cond.fieldLink RX5 14 "Gaitwright$Land" "height" "LGaitwright$Row;" ∈ wsX5_sag := List.mem_cons_of_mem _ (List.mem_append_left _ (List.mem_append_left _ (List.mem_of_getElem? (i := 0) rfl)))
theorem lk_X5_sag_1 : Cond.methodLink RX5 36 Lib.Math.max.name ∈ wsX5_sag := List.mem_cons_of_mem _ (List.mem_append_left _ (List.mem_append_left _ (List.mem_of_getElem? (i := 1) rfl)))
theorem lk_X5_sag_2 : Cond.static Lib.Math.max.name ∈ wsX5_sag := List.mem_cons_of_mem _ (List.mem_append_left _ (List.mem_append_left _ (List.mem_of_getElem? (i := 2) rfl)))
theorem lk_X5_sag_3 : Cond.initialized "java/lang/Math" ∈ wsX5_sag := List.mem_cons_of_mem _ (List.mem_append_left _ (List.mem_append_left _ (List.mem_of_getElem? (i := 3) rfl)))
theorem lk_X5_sag_4 : Cond.code Lib.Math.max.name Lib.Math.max.code 2 (some .int) ∈ wsX5_sag := List.mem_cons_of_mem _ (List.mem_append_left _ (List.mem_append_left _ (List.mem_of_getElem? (i := 4) rfl)))
def m_X5_sag (a0 : Nat) (i1 : Int32) (ws : LWd) : Option LWd :=
  (rcv ws a0 5).bind fun _ =>
  (fR ws a0 5 0).bind fun x1 =>
  (fR ws a0 5 0).bind fun x3 =>
  bn2 (calSR ws (m_X8_at x3 i1 ws)) fun x7 w5 =>
  (calSV w5 (m_X8_put x1 i1 (jmax 0 (x7 - 1)) w5)).bind fun w8 =>
  (calSV w8 (m_X5_learn a0 i1 w8)).bind fun w10 =>
  some w10
set_option maxRecDepth 100000 in
set_option maxHeartbeats 4000000 in
theorem s_X5_sag {a0 : Nat} {i1 : Int32} {ws : LWd} {ws' : LWd} (h : m_X5_sag a0 i1 ws = some ws') : jSp yX5_sag wsX5_sag 2 0 0 [.ref a0, .int i1] ws (.inl none, ws') := by
  unfold m_X5_sag at h
  refine j_entry (ret := none) (nm := "sag") (own := RX5) pl_X5 rfl rfl rfl (jcats (by rfl)) (by decide) ?_
  show JG false cX5_sag 2 RX5 wsX5_sag none "sag" 2 0 0 ws.length (.inl none, ws') 0 [some (.ref a0), some (.int i1)] [] ws 0 0
  obtain ⟨_, _, h⟩ := obS h
  refine j_aload_n (pc := 0) dX5_sag_0 rfl ?_
  obtain ⟨x1, e2, h⟩ := obS h
  refine j_getR (pc := 1) dX5_sag_1 (ci := 5) (kf := 0) rfl hin_X5_sag_X5 (by decide) lk_X5_sag_0 e2 ?_
  refine j_iload_n (pc := 4) dX5_sag_4 rfl ?_
  refine j_iconst (pc := 5) dX5_sag_5 (v := 0) (by decide) ?_
  refine j_aload_n (pc := 6) dX5_sag_6 rfl ?_
  obtain ⟨x3, e4, h⟩ := obS h
  refine j_getR (pc := 7) dX5_sag_7 (ci := 5) (kf := 0) rfl hin_X5_sag_X5 (by decide) lk_X5_sag_0 e4 ?_
  refine j_iload_n (pc := 10) dX5_sag_10 rfl ?_
  obtain ⟨x7, w5, e6, h⟩ := obS2 h
  have ge6 := calSR_of e6
  refine j_callV_g (pc := 11) (As := [.int i1]) (k' := 0) (n' := 0) dX5_sag_11 (s_X8_at ge6.1) gX5_sag_X8_at rfl hv_X8_at rfl (r_X8_at ge6.1) rfl (by decide) (by decide) (by decide) (by decide) (by decide) (by decide) (by decide) (Or.inl ge6.2) ?_
  refine j_iconst (pc := 14) dX5_sag_14 (v := 1) (by decide) ?_
  refine j_isub (pc := 15) dX5_sag_15 ?_
  refine j_mmax (pc := 16) dX5_sag_16 lk_X5_sag_1 lk_X5_sag_2 lk_X5_sag_3 lk_X5_sag_4 (by decide) (by decide) (by decide) (by decide) ?_
  obtain ⟨w8, e9, h⟩ := obS h
  have ge9 := calSV_of e9
  refine j_callV_g (pc := 19) (As := [.int i1, .int (jmax 0 (x7 - 1))]) (k' := 0) (n' := 0) dX5_sag_19 (s_X8_put ge9.1) gX5_sag_X8_put rfl hv_X8_put rfl (r_X8_put ge9.1) rfl (by decide) (by decide) (by decide) (by decide) (by decide) (by decide) (by decide) (Or.inl ge9.2) ?_
  refine j_aload_n (pc := 22) dX5_sag_22 rfl ?_
  refine j_iload_n (pc := 23) dX5_sag_23 rfl ?_
  obtain ⟨w10, e11, h⟩ := obS h
  have ge11 := calSV_of e11
  refine j_callV_g (pc := 24) (As := [.int i1]) (k' := 0) (n' := 0) dX5_sag_24 (s_X5_learn ge11.1) gX5_sag_X5_learn rfl hv_X5_learn rfl (r_X5_learn ge11.1) rfl (by decide) (by decide) (by decide) (by decide) (by decide) (by decide) (by decide) (Or.inl ge11.2) ?_
  cases h
  exact j_vret (pc := 27) rfl dX5_sag_27 (by decide) (by decide) rfl
theorem r_X5_sag {a0 : Nat} {i1 : Int32} {ws : LWd} {o : LWd} (h : m_X5_sag a0 i1 ws = some o) : ∃ fs, ws[a0]? = some (.inr (5, fs)) := rcv_in h
theorem hin_X0_tell_X0 : ∀ w ∈ u_ws RX0 TX0 4, w ∈ wsX0_tell := fun w h => List.mem_cons_of_mem _ (List.mem_append_right _ h)
theorem lk_X0_tell_0 : Cond.fieldLink RX0 9 "Gaitwright$Damage" "count" "I" ∈ wsX0_tell := List.mem_cons_of_mem _ (List.mem_append_left _ (List.mem_of_getElem? (i := 0) rfl))
theorem lk_X0_tell_1 : Cond.fieldLink RX0 21 "Gaitwright$Damage" "firstOfAct" "I" ∈ wsX0_tell := List.mem_cons_of_mem _ (List.mem_append_left _ (List.mem_of_getElem? (i := 3) rfl))
theorem lk_X0_tell_2 : Cond.fieldLink RX0 15 "Gaitwright$Damage" "firstWhat" "I" ∈ wsX0_tell := List.mem_cons_of_mem _ (List.mem_append_left _ (List.mem_of_getElem? (i := 1) rfl))
theorem lk_X0_tell_3 : Cond.fieldLink RX0 18 "Gaitwright$Damage" "firstPoint" "I" ∈ wsX0_tell := List.mem_cons_of_mem _ (List.mem_append_left _ (List.mem_of_getElem? (i := 2) rfl))
def m_X0_tell_b29 (a0 : Nat) (ws : LWd) : Option LWd :=
  (fI ws a0 0 0).bind fun x1 =>
  (pV ws a0 0 0 (.int (x1 + 1))).bind fun w3 =>
  some w3
set_option maxRecDepth 100000 in
set_option maxHeartbeats 4000000 in
theorem jm_X0_tell_b29 {n0 : Nat} {ws' : LWd} (a0 : Nat) (ws : LWd) (h : m_X0_tell_b29 a0 ws = some ws') : JG false cX0_tell 3 RX0 wsX0_tell none "tell" 0 0 0 n0 (.inl none, ws') 29 [some (.ref a0), none, none] [] ws 0 0 := by
  unfold m_X0_tell_b29 at h
  refine j_aload_n (pc := 29) dX0_tell_29 rfl ?_
  refine j_dup (pc := 30) dX0_tell_30 rfl ?_
  obtain ⟨x1, e2, h⟩ := obS h
  refine j_getI (pc := 31) dX0_tell_31 (ci := 0) (kf := 0) rfl hin_X0_tell_X0 (by decide) lk_X0_tell_0 e2 ?_
  refine j_iconst (pc := 34) dX0_tell_34 (v := 1) (by decide) ?_
  refine j_iadd (pc := 35) dX0_tell_35 ?_
  obtain ⟨w3, e4, h⟩ := obS h
  refine j_putV (pc := 36) (ci := 0) (kf := 0) tyX0 tyX0_ok nmX0 dX0_tell_36 rfl hin_X0_tell_X0 (by decide) lk_X0_tell_0 rfl (fun _ => rfl) (fun _ => rfl) e4 ?_
  cases h
  exact j_vret (pc := 39) rfl dX0_tell_39 (by decide) (by decide) rfl
def m_X0_tell_b17 (a0 : Nat) (i1 : Int32) (ws : LWd) : Option LWd :=
  (fI ws a0 0 3).bind fun x1 =>
  if x1 = 0 then
    (pV ws a0 0 3 (.int i1)).bind fun w4 =>
    m_X0_tell_b29 a0 w4
  else
    m_X0_tell_b29 a0 ws
set_option maxRecDepth 100000 in
set_option maxHeartbeats 4000000 in
theorem jm_X0_tell_b17 {n0 : Nat} {ws' : LWd} (a0 : Nat) (i1 : Int32) (ws : LWd) (h : m_X0_tell_b17 a0 i1 ws = some ws') : JG false cX0_tell 3 RX0 wsX0_tell none "tell" 0 0 0 n0 (.inl none, ws') 17 [some (.ref a0), some (.int i1), none] [] ws 0 0 := by
  unfold m_X0_tell_b17 at h
  refine j_aload_n (pc := 17) dX0_tell_17 rfl ?_
  obtain ⟨x1, e2, h⟩ := obS h
  refine j_getI (pc := 18) dX0_tell_18 (ci := 0) (kf := 3) rfl hin_X0_tell_X0 (by decide) lk_X0_tell_1 e2 ?_
  refine j_if_ne (pc := 21) (tgt := 29) dX0_tell_21 (by decide) (fun c3 => ?_) (fun c3 => ?_)
  · rw [if_neg c3] at h
    refine j_mask [true, false, false] ?_
    exact jm_X0_tell_b29 _ ws h
  · rw [if_pos c3] at h
    refine j_aload_n (pc := 24) dX0_tell_24 rfl ?_
    refine j_iload_n (pc := 25) dX0_tell_25 rfl ?_
    obtain ⟨w4, e5, h⟩ := obS h
    refine j_putV (pc := 26) (ci := 0) (kf := 3) tyX0 tyX0_ok nmX0 dX0_tell_26 rfl hin_X0_tell_X0 (by decide) lk_X0_tell_1 rfl (fun _ => rfl) (fun _ => rfl) e5 ?_
    refine j_mask [true, false, false] ?_
    exact jm_X0_tell_b29 _ w4 h
def m_X0_tell (a0 : Nat) (i1 : Int32) (i2 : Int32) (ws : LWd) : Option LWd :=
  (rcv ws a0 0).bind fun _ =>
  (fI ws a0 0 0).bind fun x1 =>
  if x1 = 0 then
    (pV ws a0 0 1 (.int i1)).bind fun w4 =>
    (pV w4 a0 0 2 (.int i2)).bind fun w6 =>
    m_X0_tell_b17 a0 i1 w6
  else
    m_X0_tell_b17 a0 i1 ws
set_option maxRecDepth 100000 in
set_option maxHeartbeats 4000000 in
theorem s_X0_tell {a0 : Nat} {i1 : Int32} {i2 : Int32} {ws : LWd} {ws' : LWd} (h : m_X0_tell a0 i1 i2 ws = some ws') : jSp yX0_tell wsX0_tell 0 0 0 [.ref a0, .int i1, .int i2] ws (.inl none, ws') := by
  unfold m_X0_tell at h
  refine j_entry (ret := none) (nm := "tell") (own := RX0) pl_X0 rfl rfl rfl (jcats (by rfl)) (by decide) ?_
  show JG false cX0_tell 3 RX0 wsX0_tell none "tell" 0 0 0 ws.length (.inl none, ws') 0 [some (.ref a0), some (.int i1), some (.int i2)] [] ws 0 0
  obtain ⟨_, _, h⟩ := obS h
  refine j_aload_n (pc := 0) dX0_tell_0 rfl ?_
  obtain ⟨x1, e2, h⟩ := obS h
  refine j_getI (pc := 1) dX0_tell_1 (ci := 0) (kf := 0) rfl hin_X0_tell_X0 (by decide) lk_X0_tell_0 e2 ?_
  refine j_if_ne (pc := 4) (tgt := 17) dX0_tell_4 (by decide) (fun c3 => ?_) (fun c3 => ?_)
  · rw [if_neg c3] at h
    refine j_mask [true, true, false] ?_
    exact jm_X0_tell_b17 _ _ ws h
  · rw [if_pos c3] at h
    refine j_aload_n (pc := 7) dX0_tell_7 rfl ?_
    refine j_iload_n (pc := 8) dX0_tell_8 rfl ?_
    obtain ⟨w4, e5, h⟩ := obS h
    refine j_putV (pc := 9) (ci := 0) (kf := 1) tyX0 tyX0_ok nmX0 dX0_tell_9 rfl hin_X0_tell_X0 (by decide) lk_X0_tell_2 rfl (fun _ => rfl) (fun _ => rfl) e5 ?_
    refine j_aload_n (pc := 12) dX0_tell_12 rfl ?_
    refine j_iload_n (pc := 13) dX0_tell_13 rfl ?_
    obtain ⟨w6, e7, h⟩ := obS h
    refine j_putV (pc := 14) (ci := 0) (kf := 2) tyX0 tyX0_ok nmX0 dX0_tell_14 rfl hin_X0_tell_X0 (by decide) lk_X0_tell_3 rfl (fun _ => rfl) (fun _ => rfl) e7 ?_
    refine j_mask [true, true, false] ?_
    exact jm_X0_tell_b17 _ _ w6 h
theorem r_X0_tell {a0 : Nat} {i1 : Int32} {i2 : Int32} {ws : LWd} {o : LWd} (h : m_X0_tell a0 i1 i2 ws = some o) : ∃ fs, ws[a0]? = some (.inr (0, fs)) := rcv_in h
theorem hin_X10_breakGround_X10 : ∀ w ∈ u_ws RX10 TX10 11, w ∈ wsX10_breakGround := fun w h => List.mem_cons_of_mem _ (List.mem_append_left _ (List.mem_append_left _ (List.mem_append_left _ (List.mem_append_left _ (List.mem_append_right _ h)))))
theorem lk_X10_breakGround_0 : Cond.fieldLink RX10 31 "Gaitwright" "stance" "LGaitwright$Stance;" ∈ wsX10_breakGround := List.mem_cons_of_mem _ (List.mem_append_left _ (List.mem_append_left _ (List.mem_append_left _ (List.mem_append_left _ (List.mem_append_left _ (List.mem_append_left _ (List.mem_of_getElem? (i := 0) rfl)))))))
theorem hin_X10_breakGround_X9 : ∀ w ∈ u_ws RX9 TX9 6, w ∈ wsX10_breakGround := fun w h => List.mem_cons_of_mem _ (List.mem_append_left _ (List.mem_append_left _ (List.mem_append_left _ (List.mem_append_right _ h))))
theorem lk_X10_breakGround_1 : Cond.fieldLink RX10 235 "Gaitwright$Stance" "feet" "LGaitwright$Row;" ∈ wsX10_breakGround := List.mem_cons_of_mem _ (List.mem_append_left _ (List.mem_append_left _ (List.mem_append_left _ (List.mem_append_left _ (List.mem_append_left _ (List.mem_append_left _ (List.mem_of_getElem? (i := 1) rfl)))))))
theorem lk_X10_breakGround_2 : Cond.fieldLink RX10 15 "Gaitwright" "land" "LGaitwright$Land;" ∈ wsX10_breakGround := List.mem_cons_of_mem _ (List.mem_append_left _ (List.mem_append_left _ (List.mem_append_left _ (List.mem_append_left _ (List.mem_append_left _ (List.mem_append_left _ (List.mem_of_getElem? (i := 2) rfl)))))))
theorem lk_X10_breakGround_3 : Cond.fieldLink RX10 48 "Gaitwright" "damage" "LGaitwright$Damage;" ∈ wsX10_breakGround := List.mem_cons_of_mem _ (List.mem_append_left _ (List.mem_append_left _ (List.mem_append_left _ (List.mem_append_left _ (List.mem_append_left _ (List.mem_append_left _ (List.mem_of_getElem? (i := 3) rfl)))))))
def m_X10_breakGround_b45 (k2 : Nat → Int32 → Int32 → LWd → Option LWd) (a0 : Nat) (i1 : Int32) (i2 : Int32) (ws : LWd) : Option LWd :=
  k2 a0 i1 (i2 + 1) ws
set_option maxRecDepth 100000 in
set_option maxHeartbeats 4000000 in
theorem jm_X10_breakGround_b45 {n0 : Nat} {ws' : LWd} {k2 : Nat → Int32 → Int32 → LWd → Option LWd} (hk2 : ∀ (a0 : Nat) (i1 : Int32) (i2 : Int32) (ws : LWd), k2 a0 i1 i2 ws = some ws' → JG false cX10_breakGround 4 RX10 wsX10_breakGround none "breakGround" 3 0 0 n0 (.inl none, ws') 2 [some (.ref a0), some (.int i1), some (.int i2), none] [] ws 0 0) (a0 : Nat) (i1 : Int32) (i2 : Int32) (ws : LWd) (h : m_X10_breakGround_b45 k2 a0 i1 i2 ws = some ws') : JG false cX10_breakGround 4 RX10 wsX10_breakGround none "breakGround" 3 0 0 n0 (.inl none, ws') 45 [some (.ref a0), some (.int i1), some (.int i2), none] [] ws 0 0 := by
  unfold m_X10_breakGround_b45 at h
  refine j_iinc_2 (pc := 45) dX10_breakGround_45 (y := i2 + 1) rfl (by decide) rfl ?_
  refine j_goto (pc := 48) (tgt := 2) dX10_breakGround_48 (by decide) ?_
  exact hk2 _ _ _ ws h
def m_X10_breakGround_l2 : Nat → Nat → Int32 → Int32 → LWd → Option LWd
  | 0, _, _, _, _ => none
  | fu + 1, a0, i1, i2, ws =>
    if 6 ≤ i2 then
      some ws
    else
      if ((i1 >>> (i2 &&& 31)) &&& 1) = 0 then
        m_X10_breakGround_b45 (fun z0 z1 z2 w => m_X10_breakGround_l2 fu z0 z1 z2 w) a0 i1 i2 ws
      else
        (fR ws a0 10 2).bind fun x3 =>
        (fR ws x3 9 3).bind fun x5 =>
        bn2 (calSR ws (m_X8_at x5 i2 ws)) fun x9 w7 =>
        (fR w7 a0 10 0).bind fun x10 =>
        (calSV w7 (m_X5_sag x10 x9 w7)).bind fun w12 =>
        (fR w12 a0 10 5).bind fun x14 =>
        (calSV w12 (m_X0_tell x14 2 x9 w12)).bind fun w16 =>
        m_X10_breakGround_b45 (fun z0 z1 z2 w => m_X10_breakGround_l2 fu z0 z1 z2 w) a0 i1 i2 w16
set_option maxRecDepth 100000 in
set_option maxHeartbeats 4000000 in
theorem jm_X10_breakGround_l2 {n0 : Nat} {ws' : LWd} : ∀ (fu : Nat) (a0 : Nat) (i1 : Int32) (i2 : Int32) (ws : LWd), m_X10_breakGround_l2 fu a0 i1 i2 ws = some ws' → JG false cX10_breakGround 4 RX10 wsX10_breakGround none "breakGround" 3 0 0 n0 (.inl none, ws') 2 [some (.ref a0), some (.int i1), some (.int i2), none] [] ws 0 0 := by
  intro fu
  induction fu with
  | zero => intro a0 i1 i2 ws h; cases h
  | succ fu ih =>
    intro a0 i1 i2 ws h
    rw [m_X10_breakGround_l2] at h
    refine j_iload_n (pc := 2) dX10_breakGround_2 rfl ?_
    refine j_bipush (pc := 3) dX10_breakGround_3 (v := 6) (by decide) ?_
    refine j_icmp_ge (pc := 5) (tgt := 51) dX10_breakGround_5 (by decide) (fun c1 => ?_) (fun c1 => ?_)
    · rw [if_pos c1] at h
      cases h
      exact j_vret (pc := 51) rfl dX10_breakGround_51 (by decide) (by decide) rfl
    · rw [if_neg c1] at h
      refine j_iload_n (pc := 8) dX10_breakGround_8 rfl ?_
      refine j_iload_n (pc := 9) dX10_breakGround_9 rfl ?_
      refine j_ishr (pc := 10) dX10_breakGround_10 ?_
      refine j_iconst (pc := 11) dX10_breakGround_11 (v := 1) (by decide) ?_
      refine j_iand (pc := 12) dX10_breakGround_12 ?_
      refine j_if_eq (pc := 13) (tgt := 45) dX10_breakGround_13 (by decide) (fun c2 => ?_) (fun c2 => ?_)
      · rw [if_pos c2] at h
        exact jm_X10_breakGround_b45 (hk2 := ih) _ _ _ ws h
      · rw [if_neg c2] at h
        refine j_aload_n (pc := 16) dX10_breakGround_16 rfl ?_
        obtain ⟨x3, e4, h⟩ := obS h
        refine j_getR (pc := 17) dX10_breakGround_17 (ci := 10) (kf := 2) rfl hin_X10_breakGround_X10 (by decide) lk_X10_breakGround_0 e4 ?_
        obtain ⟨x5, e6, h⟩ := obS h
        refine j_getR (pc := 20) dX10_breakGround_20 (ci := 9) (kf := 3) rfl hin_X10_breakGround_X9 (by decide) lk_X10_breakGround_1 e6 ?_
        refine j_iload_n (pc := 23) dX10_breakGround_23 rfl ?_
        obtain ⟨x9, w7, e8, h⟩ := obS2 h
        have ge8 := calSR_of e8
        refine j_callV_g (pc := 24) (As := [.int i2]) (k' := 0) (n' := 0) dX10_breakGround_24 (s_X8_at ge8.1) gX10_breakGround_X8_at rfl hv_X8_at rfl (r_X8_at ge8.1) rfl (by decide) (by decide) (by decide) (by decide) (by decide) (by decide) (by decide) (Or.inl ge8.2) ?_
        refine j_istore_n_3 (pc := 27) dX10_breakGround_27 (by decide) rfl ?_
        refine j_aload_n (pc := 28) dX10_breakGround_28 rfl ?_
        obtain ⟨x10, e11, h⟩ := obS h
        refine j_getR (pc := 29) dX10_breakGround_29 (ci := 10) (kf := 0) rfl hin_X10_breakGround_X10 (by decide) lk_X10_breakGround_2 e11 ?_
        refine j_iload_n (pc := 32) dX10_breakGround_32 rfl ?_
        obtain ⟨w12, e13, h⟩ := obS h
        have ge13 := calSV_of e13
        refine j_callV_g (pc := 33) (As := [.int x9]) (k' := 0) (n' := 0) dX10_breakGround_33 (s_X5_sag ge13.1) gX10_breakGround_X5_sag rfl hv_X5_sag rfl (r_X5_sag ge13.1) rfl (by decide) (by decide) (by decide) (by decide) (by decide) (by decide) (by decide) (Or.inl ge13.2) ?_
        refine j_aload_n (pc := 36) dX10_breakGround_36 rfl ?_
        obtain ⟨x14, e15, h⟩ := obS h
        refine j_getR (pc := 37) dX10_breakGround_37 (ci := 10) (kf := 5) rfl hin_X10_breakGround_X10 (by decide) lk_X10_breakGround_3 e15 ?_
        refine j_iconst (pc := 40) dX10_breakGround_40 (v := 2) (by decide) ?_
        refine j_iload_n (pc := 41) dX10_breakGround_41 rfl ?_
        obtain ⟨w16, e17, h⟩ := obS h
        have ge17 := calSV_of e17
        refine j_callV_g (pc := 42) (As := [.int 2, .int x9]) (k' := 0) (n' := 0) dX10_breakGround_42 (s_X0_tell ge17.1) gX10_breakGround_X0_tell rfl hv_X0_tell rfl (r_X0_tell ge17.1) rfl (by decide) (by decide) (by decide) (by decide) (by decide) (by decide) (by decide) (Or.inl ge17.2) ?_
        refine j_mask [true, true, true, false] ?_
        exact jm_X10_breakGround_b45 (hk2 := ih) _ _ _ w16 h
def m_X10_breakGround (a0 : Nat) (i1 : Int32) (ws : LWd) : Option LWd :=
  (rcv ws a0 10).bind fun _ =>
  m_X10_breakGround_l2 FU a0 i1 0 ws
set_option maxRecDepth 100000 in
set_option maxHeartbeats 4000000 in
theorem s_X10_breakGround {a0 : Nat} {i1 : Int32} {ws : LWd} {ws' : LWd} (h : m_X10_breakGround a0 i1 ws = some ws') : jSp yX10_breakGround wsX10_breakGround 3 0 0 [.ref a0, .int i1] ws (.inl none, ws') := by
  unfold m_X10_breakGround at h
  refine j_entry (ret := none) (nm := "breakGround") (own := RX10) pl_X10 rfl rfl rfl (jcats (by rfl)) (by decide) ?_
  show JG false cX10_breakGround 4 RX10 wsX10_breakGround none "breakGround" 3 0 0 ws.length (.inl none, ws') 0 [some (.ref a0), some (.int i1), none, none] [] ws 0 0
  obtain ⟨_, _, h⟩ := obS h
  refine j_iconst (pc := 0) dX10_breakGround_0 (v := 0) (by decide) ?_
  refine j_istore_n_2 (pc := 1) dX10_breakGround_1 (by decide) rfl ?_
  exact jm_X10_breakGround_l2 FU _ _ _ ws h
theorem r_X10_breakGround {a0 : Nat} {i1 : Int32} {ws : LWd} {o : LWd} (h : m_X10_breakGround a0 i1 ws = some o) : ∃ fs, ws[a0]? = some (.inr (10, fs)) := rcv_in h
theorem hin_X9_raise_X9 : ∀ w ∈ u_ws RX9 TX9 6, w ∈ wsX9_raise := fun w h => List.mem_cons_of_mem _ (List.mem_append_left _ (List.mem_append_right _ h))
theorem lk_X9_raise_0 : Cond.fieldLink RX9 14 "Gaitwright$Stance" "feet" "LGaitwright$Row;" ∈ wsX9_raise := List.mem_cons_of_mem _ (List.mem_append_left _ (List.mem_append_left _ (List.mem_of_getElem? (i := 0) rfl)))
def m_X9_raise_b25 (k2 : Nat → Int32 → Int32 → LWd → Option LWd) (a0 : Nat) (i1 : Int32) (i2 : Int32) (ws : LWd) : Option LWd :=
  k2 a0 i1 (i2 + 1) ws
set_option maxRecDepth 100000 in
set_option maxHeartbeats 4000000 in
theorem jm_X9_raise_b25 {n0 : Nat} {ws' : LWd} {k2 : Nat → Int32 → Int32 → LWd → Option LWd} (hk2 : ∀ (a0 : Nat) (i1 : Int32) (i2 : Int32) (ws : LWd), k2 a0 i1 i2 ws = some ws' → JG false cX9_raise 3 RX9 wsX9_raise none "raise" 1 0 0 n0 (.inl none, ws') 2 [some (.ref a0), some (.int i1), some (.int i2)] [] ws 0 0) (a0 : Nat) (i1 : Int32) (i2 : Int32) (ws : LWd) (h : m_X9_raise_b25 k2 a0 i1 i2 ws = some ws') : JG false cX9_raise 3 RX9 wsX9_raise none "raise" 1 0 0 n0 (.inl none, ws') 25 [some (.ref a0), some (.int i1), some (.int i2)] [] ws 0 0 := by
  unfold m_X9_raise_b25 at h
  refine j_iinc_2 (pc := 25) dX9_raise_25 (y := i2 + 1) rfl (by decide) rfl ?_
  refine j_goto (pc := 28) (tgt := 2) dX9_raise_28 (by decide) ?_
  exact hk2 _ _ _ ws h
def m_X9_raise_l2 : Nat → Nat → Int32 → Int32 → LWd → Option LWd
  | 0, _, _, _, _ => none
  | fu + 1, a0, i1, i2, ws =>
    if 6 ≤ i2 then
      some ws
    else
      if ((i1 >>> (i2 &&& 31)) &&& 1) = 0 then
        m_X9_raise_b25 (fun z0 z1 z2 w => m_X9_raise_l2 fu z0 z1 z2 w) a0 i1 i2 ws
      else
        (fR ws a0 9 3).bind fun x3 =>
        (calSV ws (m_X8_put x3 i2 ((-1)) ws)).bind fun w5 =>
        m_X9_raise_b25 (fun z0 z1 z2 w => m_X9_raise_l2 fu z0 z1 z2 w) a0 i1 i2 w5
set_option maxRecDepth 100000 in
set_option maxHeartbeats 4000000 in
theorem jm_X9_raise_l2 {n0 : Nat} {ws' : LWd} : ∀ (fu : Nat) (a0 : Nat) (i1 : Int32) (i2 : Int32) (ws : LWd), m_X9_raise_l2 fu a0 i1 i2 ws = some ws' → JG false cX9_raise 3 RX9 wsX9_raise none "raise" 1 0 0 n0 (.inl none, ws') 2 [some (.ref a0), some (.int i1), some (.int i2)] [] ws 0 0 := by
  intro fu
  induction fu with
  | zero => intro a0 i1 i2 ws h; cases h
  | succ fu ih =>
    intro a0 i1 i2 ws h
    rw [m_X9_raise_l2] at h
    refine j_iload_n (pc := 2) dX9_raise_2 rfl ?_
    refine j_bipush (pc := 3) dX9_raise_3 (v := 6) (by decide) ?_
    refine j_icmp_ge (pc := 5) (tgt := 31) dX9_raise_5 (by decide) (fun c1 => ?_) (fun c1 => ?_)
    · rw [if_pos c1] at h
      cases h
      exact j_vret (pc := 31) rfl dX9_raise_31 (by decide) (by decide) rfl
    · rw [if_neg c1] at h
      refine j_iload_n (pc := 8) dX9_raise_8 rfl ?_
      refine j_iload_n (pc := 9) dX9_raise_9 rfl ?_
      refine j_ishr (pc := 10) dX9_raise_10 ?_
      refine j_iconst (pc := 11) dX9_raise_11 (v := 1) (by decide) ?_
      refine j_iand (pc := 12) dX9_raise_12 ?_
      refine j_if_eq (pc := 13) (tgt := 25) dX9_raise_13 (by decide) (fun c2 => ?_) (fun c2 => ?_)
      · rw [if_pos c2] at h
        exact jm_X9_raise_b25 (hk2 := ih) _ _ _ ws h
      · rw [if_neg c2] at h
        refine j_aload_n (pc := 16) dX9_raise_16 rfl ?_
        obtain ⟨x3, e4, h⟩ := obS h
        refine j_getR (pc := 17) dX9_raise_17 (ci := 9) (kf := 3) rfl hin_X9_raise_X9 (by decide) lk_X9_raise_0 e4 ?_
        refine j_iload_n (pc := 20) dX9_raise_20 rfl ?_
        refine j_iconst (pc := 21) dX9_raise_21 (v := (-1)) (by decide) ?_
        obtain ⟨w5, e6, h⟩ := obS h
        have ge6 := calSV_of e6
        refine j_callV_g (pc := 22) (As := [.int i2, .int ((-1))]) (k' := 0) (n' := 0) dX9_raise_22 (s_X8_put ge6.1) gX9_raise_X8_put rfl hv_X8_put rfl (r_X8_put ge6.1) rfl (by decide) (by decide) (by decide) (by decide) (by decide) (by decide) (by decide) (Or.inl ge6.2) ?_
        exact jm_X9_raise_b25 (hk2 := ih) _ _ _ w5 h
def m_X9_raise (a0 : Nat) (i1 : Int32) (ws : LWd) : Option LWd :=
  (rcv ws a0 9).bind fun _ =>
  m_X9_raise_l2 FU a0 i1 0 ws
set_option maxRecDepth 100000 in
set_option maxHeartbeats 4000000 in
theorem s_X9_raise {a0 : Nat} {i1 : Int32} {ws : LWd} {ws' : LWd} (h : m_X9_raise a0 i1 ws = some ws') : jSp yX9_raise wsX9_raise 1 0 0 [.ref a0, .int i1] ws (.inl none, ws') := by
  unfold m_X9_raise at h
  refine j_entry (ret := none) (nm := "raise") (own := RX9) pl_X9 rfl rfl rfl (jcats (by rfl)) (by decide) ?_
  show JG false cX9_raise 3 RX9 wsX9_raise none "raise" 1 0 0 ws.length (.inl none, ws') 0 [some (.ref a0), some (.int i1), none] [] ws 0 0
  obtain ⟨_, _, h⟩ := obS h
  refine j_iconst (pc := 0) dX9_raise_0 (v := 0) (by decide) ?_
  refine j_istore_n_2 (pc := 1) dX9_raise_1 (by decide) rfl ?_
  exact jm_X9_raise_l2 FU _ _ _ ws h
theorem r_X9_raise {a0 : Nat} {i1 : Int32} {ws : LWd} {o : LWd} (h : m_X9_raise a0 i1 ws = some o) : ∃ fs, ws[a0]? = some (.inr (9, fs)) := rcv_in h
def m_X10_xOf (i0 : Int32) (ws : LWd) : Option (Int32 × LWd) :=
  some (jrem i0 20, ws)
set_option maxRecDepth 100000 in
set_option maxHeartbeats 4000000 in
theorem s_X10_xOf {i0 : Int32} {ws : LWd} {rr : Int32} {ws' : LWd} (h : m_X10_xOf i0 ws = some (rr, ws')) : jSp yX10_xOf wsX10_xOf 0 0 0 [.int i0] ws (.inl (some (.int rr)), ws') := by
  unfold m_X10_xOf at h
  refine j_entry (ret := (some .int)) (nm := "xOf") (own := RX10) pl_X10 rfl rfl rfl (jcats (by rfl)) (by decide) ?_
  show JG false cX10_xOf 1 RX10 wsX10_xOf (some .int) "xOf" 0 0 0 ws.length (.inl (some (.int rr)), ws') 0 [some (.int i0)] [] ws 0 0
  refine j_iload_n (pc := 0) dX10_xOf_0 rfl ?_
  refine j_bipush (pc := 1) dX10_xOf_1 (v := 20) (by decide) ?_
  refine j_irem (pc := 3) dX10_xOf_3 (by decide) ?_
  obtain ⟨rfl, rfl⟩ := jretS h
  exact j_iret (pc := 4) rfl dX10_xOf_4 (by decide) (by decide) rfl
def m_X10_yOf (i0 : Int32) (ws : LWd) : Option (Int32 × LWd) :=
  some (i0 / 20, ws)
set_option maxRecDepth 100000 in
set_option maxHeartbeats 4000000 in
theorem s_X10_yOf {i0 : Int32} {ws : LWd} {rr : Int32} {ws' : LWd} (h : m_X10_yOf i0 ws = some (rr, ws')) : jSp yX10_yOf wsX10_yOf 0 0 0 [.int i0] ws (.inl (some (.int rr)), ws') := by
  unfold m_X10_yOf at h
  refine j_entry (ret := (some .int)) (nm := "yOf") (own := RX10) pl_X10 rfl rfl rfl (jcats (by rfl)) (by decide) ?_
  show JG false cX10_yOf 1 RX10 wsX10_yOf (some .int) "yOf" 0 0 0 ws.length (.inl (some (.int rr)), ws') 0 [some (.int i0)] [] ws 0 0
  refine j_iload_n (pc := 0) dX10_yOf_0 rfl ?_
  refine j_bipush (pc := 1) dX10_yOf_1 (v := 20) (by decide) ?_
  refine j_idiv (pc := 3) dX10_yOf_3 (by decide) ?_
  obtain ⟨rfl, rfl⟩ := jretS h
  exact j_iret (pc := 4) rfl dX10_yOf_4 (by decide) (by decide) rfl
def m_J6_signum_0f7a4 (i0 : Int32) (ws : LWd) : Option (Int32 × LWd) :=
  some ((i0 >>> (31 &&& 31)) ||| (jushr (-i0) 31), ws)
set_option maxRecDepth 100000 in
set_option maxHeartbeats 4000000 in
theorem s_J6_signum_0f7a4 {i0 : Int32} {ws : LWd} {rr : Int32} {ws' : LWd} (h : m_J6_signum_0f7a4 i0 ws = some (rr, ws')) : jSp yJ6_signum_0f7a4 wsJ6_signum_0f7a4 0 0 0 [.int i0] ws (.inl (some (.int rr)), ws') := by
  unfold m_J6_signum_0f7a4 at h
  refine j_entry (ret := (some .int)) (nm := "signum") (own := RJ6) pl_J6 rfl rfl rfl (jcats (by rfl)) (by decide) ?_
  show JG false cJ6_signum_0f7a4 1 RJ6 wsJ6_signum_0f7a4 (some .int) "signum" 0 0 0 ws.length (.inl (some (.int rr)), ws') 0 [some (.int i0)] [] ws 0 0
  refine j_iload_n (pc := 0) dJ6_signum_0f7a4_0 rfl ?_
  refine j_bipush (pc := 1) dJ6_signum_0f7a4_1 (v := 31) (by decide) ?_
  refine j_ishr (pc := 3) dJ6_signum_0f7a4_3 ?_
  refine j_iload_n (pc := 4) dJ6_signum_0f7a4_4 rfl ?_
  refine j_ineg (pc := 5) dJ6_signum_0f7a4_5 ?_
  refine j_bipush (pc := 6) dJ6_signum_0f7a4_6 (v := 31) (by decide) ?_
  refine j_iushr (pc := 8) dJ6_signum_0f7a4_8 (v := jushr (-i0) 31) rfl ?_
  refine j_ior (pc := 9) dJ6_signum_0f7a4_9 ?_
  obtain ⟨rfl, rfl⟩ := jretS h
  exact j_iret (pc := 10) rfl dJ6_signum_0f7a4_10 (by decide) (by decide) rfl
theorem hin_X9_direction_X9 : ∀ w ∈ u_ws RX9 TX9 6, w ∈ wsX9_direction := fun w h => List.mem_cons_of_mem _ (List.mem_append_left _ (List.mem_append_left _ (List.mem_append_right _ h)))
theorem lk_X9_direction_0 : Cond.fieldLink RX9 31 "Gaitwright$Stance" "frame" "LGaitwright$Frame;" ∈ wsX9_direction := List.mem_cons_of_mem _ (List.mem_append_left _ (List.mem_append_left _ (List.mem_append_left _ (List.mem_append_left _ (List.mem_of_getElem? (i := 1) rfl)))))
theorem lk_X9_direction_1 : Cond.fieldLink RX9 14 "Gaitwright$Stance" "feet" "LGaitwright$Row;" ∈ wsX9_direction := List.mem_cons_of_mem _ (List.mem_append_left _ (List.mem_append_left _ (List.mem_append_left _ (List.mem_append_left _ (List.mem_of_getElem? (i := 0) rfl)))))
theorem lk_X9_direction_2 : Cond.initialized RX10 ∈ wsX9_direction := List.mem_cons_of_mem _ (List.mem_append_left _ (List.mem_append_left _ (List.mem_append_left _ (List.mem_append_left _ (List.mem_of_getElem? (i := 9) rfl)))))
theorem lk_X9_direction_3 : Cond.static yX10_xOf ∈ wsX9_direction := List.mem_cons_of_mem _ (List.mem_append_left _ (List.mem_append_left _ (List.mem_append_left _ (List.mem_append_left _ (List.mem_of_getElem? (i := 8) rfl)))))
theorem lk_X9_direction_4 : Cond.static yX10_yOf ∈ wsX9_direction := List.mem_cons_of_mem _ (List.mem_append_left _ (List.mem_append_left _ (List.mem_append_left _ (List.mem_append_left _ (List.mem_of_getElem? (i := 11) rfl)))))
def m_X9_direction_b52 (k9 : Nat → Int32 → Int32 → Int32 → Int32 → LWd → Option (Int32 × LWd)) (a0 : Nat) (i1 : Int32) (i2 : Int32) (i3 : Int32) (i4 : Int32) (ws : LWd) : Option (Int32 × LWd) :=
  k9 a0 i1 i2 i3 (i4 + 1) ws
set_option maxRecDepth 100000 in
set_option maxHeartbeats 4000000 in
theorem jm_X9_direction_b52 {n0 : Nat} {rr : Int32} {ws' : LWd} {k9 : Nat → Int32 → Int32 → Int32 → Int32 → LWd → Option (Int32 × LWd)} (hk9 : ∀ (a0 : Nat) (i1 : Int32) (i2 : Int32) (i3 : Int32) (i4 : Int32) (ws : LWd), k9 a0 i1 i2 i3 i4 ws = some (rr, ws') → JG false cX9_direction 6 RX9 wsX9_direction (some .int) "direction" 1 0 0 n0 (.inl (some (.int rr)), ws') 9 [some (.ref a0), some (.int i1), some (.int i2), some (.int i3), some (.int i4), none] [] ws 0 0) (a0 : Nat) (i1 : Int32) (i2 : Int32) (i3 : Int32) (i4 : Int32) (ws : LWd) (h : m_X9_direction_b52 k9 a0 i1 i2 i3 i4 ws = some (rr, ws')) : JG false cX9_direction 6 RX9 wsX9_direction (some .int) "direction" 1 0 0 n0 (.inl (some (.int rr)), ws') 52 [some (.ref a0), some (.int i1), some (.int i2), some (.int i3), some (.int i4), none] [] ws 0 0 := by
  unfold m_X9_direction_b52 at h
  refine j_iinc_4 (pc := 52) dX9_direction_52 (y := i4 + 1) rfl (by decide) rfl ?_
  refine j_goto (pc := 55) (tgt := 9) dX9_direction_55 (by decide) ?_
  exact hk9 _ _ _ _ _ ws h
def m_X9_direction_l9 : Nat → Nat → Int32 → Int32 → Int32 → Int32 → LWd → Option (Int32 × LWd)
  | 0, _, _, _, _, _, _ => none
  | fu + 1, a0, i1, i2, i3, i4, ws =>
    if 6 ≤ i4 then
      bn2 (calSR ws (m_X9_momentX a0 ws)) fun x4 w2 =>
      (fR w2 a0 9 1).bind fun x5 =>
      bn2 (calSR w2 (m_X2_weight x5 w2)) fun x9 w7 =>
      bn2 (calSR w7 (m_J6_signum_0f7a4 ((x4 * i1) - (i2 * x9)) w7)) fun x12 w10 =>
      bn2 (calSR w10 (m_X9_momentY a0 w10)) fun x15 w13 =>
      (fR w13 a0 9 1).bind fun x16 =>
      bn2 (calSR w13 (m_X2_weight x16 w13)) fun x20 w18 =>
      bn2 (calSR w18 (m_J6_signum_0f7a4 ((x15 * i1) - (i3 * x20)) w18)) fun x23 w21 =>
      some (((3 * (x12 + 1)) + x23) + 1, w21)
    else
      (fR ws a0 9 3).bind fun x24 =>
      bn2 (calSR ws (m_X8_at x24 i4 ws)) fun x28 w26 =>
      if x28 = ((-1)) then
        m_X9_direction_b52 (fun z0 z1 z2 z3 z4 w => m_X9_direction_l9 fu z0 z1 z2 z3 z4 w) a0 i1 i2 i3 i4 w26
      else
        bn2 (calSR w26 (m_X10_xOf x28 w26)) fun x32 w30 =>
        bn2 (calSR w30 (m_X10_yOf x28 w30)) fun x35 w33 =>
        m_X9_direction_b52 (fun z0 z1 z2 z3 z4 w => m_X9_direction_l9 fu z0 z1 z2 z3 z4 w) a0 (i1 + 1) (i2 + x32) (i3 + x35) i4 w33
set_option maxRecDepth 100000 in
set_option maxHeartbeats 4000000 in
theorem jm_X9_direction_l9 {n0 : Nat} {rr : Int32} {ws' : LWd} : ∀ (fu : Nat) (a0 : Nat) (i1 : Int32) (i2 : Int32) (i3 : Int32) (i4 : Int32) (ws : LWd), m_X9_direction_l9 fu a0 i1 i2 i3 i4 ws = some (rr, ws') → JG false cX9_direction 6 RX9 wsX9_direction (some .int) "direction" 1 0 0 n0 (.inl (some (.int rr)), ws') 9 [some (.ref a0), some (.int i1), some (.int i2), some (.int i3), some (.int i4), none] [] ws 0 0 := by
  intro fu
  induction fu with
  | zero => intro a0 i1 i2 i3 i4 ws h; cases h
  | succ fu ih =>
    intro a0 i1 i2 i3 i4 ws h
    rw [m_X9_direction_l9] at h
    refine j_iload (pc := 9) dX9_direction_9 rfl ?_
    refine j_bipush (pc := 11) dX9_direction_11 (v := 6) (by decide) ?_
    refine j_icmp_ge (pc := 13) (tgt := 58) dX9_direction_13 (by decide) (fun c1 => ?_) (fun c1 => ?_)
    · rw [if_pos c1] at h
      refine j_aload_n (pc := 58) dX9_direction_58 rfl ?_
      obtain ⟨x4, w2, e3, h⟩ := obS2 h
      have ge3 := calSR_of e3
      refine j_callV_g (pc := 59) (As := []) (k' := 0) (n' := 0) dX9_direction_59 (s_X9_momentX ge3.1) gX9_direction_X9_momentX rfl hv_X9_momentX rfl (r_X9_momentX ge3.1) rfl (by decide) (by decide) (by decide) (by decide) (by decide) (by decide) (by decide) (Or.inl ge3.2) ?_
      refine j_iload_n (pc := 62) dX9_direction_62 rfl ?_
      refine j_imul (pc := 63) dX9_direction_63 ?_
      refine j_iload_n (pc := 64) dX9_direction_64 rfl ?_
      refine j_aload_n (pc := 65) dX9_direction_65 rfl ?_
      obtain ⟨x5, e6, h⟩ := obS h
      refine j_getR (pc := 66) dX9_direction_66 (ci := 9) (kf := 1) rfl hin_X9_direction_X9 (by decide) lk_X9_direction_0 e6 ?_
      obtain ⟨x9, w7, e8, h⟩ := obS2 h
      have ge8 := calSR_of e8
      refine j_callV_g (pc := 69) (As := []) (k' := 0) (n' := 0) dX9_direction_69 (s_X2_weight ge8.1) gX9_direction_X2_weight rfl hv_X2_weight rfl (r_X2_weight ge8.1) rfl (by decide) (by decide) (by decide) (by decide) (by decide) (by decide) (by decide) (Or.inl ge8.2) ?_
      refine j_imul (pc := 72) dX9_direction_72 ?_
      refine j_isub (pc := 73) dX9_direction_73 ?_
      obtain ⟨x12, w10, e11, h⟩ := obS2 h
      have ge11 := calSR_of e11
      refine j_callS_g (pc := 74) (As := [.int ((x4 * i1) - (i2 * x9))]) (k' := 0) (n' := 0) dX9_direction_74 (s_J6_signum_0f7a4 ge11.1) gX9_direction_J6_signum_0f7a4 rfl hy_J6_signum_0f7a4 rfl (by decide) (by decide) (by decide) (by decide) (by decide) (by decide) (by decide) (Or.inl ge11.2) ?_
      refine j_istore_4 (pc := 77) dX9_direction_77 (by decide) rfl ?_
      refine j_aload_n (pc := 79) dX9_direction_79 rfl ?_
      obtain ⟨x15, w13, e14, h⟩ := obS2 h
      have ge14 := calSR_of e14
      refine j_callV_g (pc := 80) (As := []) (k' := 0) (n' := 0) dX9_direction_80 (s_X9_momentY ge14.1) gX9_direction_X9_momentY rfl hv_X9_momentY rfl (r_X9_momentY ge14.1) rfl (by decide) (by decide) (by decide) (by decide) (by decide) (by decide) (by decide) (Or.inl ge14.2) ?_
      refine j_iload_n (pc := 83) dX9_direction_83 rfl ?_
      refine j_imul (pc := 84) dX9_direction_84 ?_
      refine j_iload_n (pc := 85) dX9_direction_85 rfl ?_
      refine j_aload_n (pc := 86) dX9_direction_86 rfl ?_
      obtain ⟨x16, e17, h⟩ := obS h
      refine j_getR (pc := 87) dX9_direction_87 (ci := 9) (kf := 1) rfl hin_X9_direction_X9 (by decide) lk_X9_direction_0 e17 ?_
      obtain ⟨x20, w18, e19, h⟩ := obS2 h
      have ge19 := calSR_of e19
      refine j_callV_g (pc := 90) (As := []) (k' := 0) (n' := 0) dX9_direction_90 (s_X2_weight ge19.1) gX9_direction_X2_weight rfl hv_X2_weight rfl (r_X2_weight ge19.1) rfl (by decide) (by decide) (by decide) (by decide) (by decide) (by decide) (by decide) (Or.inl ge19.2) ?_
      refine j_imul (pc := 93) dX9_direction_93 ?_
      refine j_isub (pc := 94) dX9_direction_94 ?_
      obtain ⟨x23, w21, e22, h⟩ := obS2 h
      have ge22 := calSR_of e22
      refine j_callS_g (pc := 95) (As := [.int ((x15 * i1) - (i3 * x20))]) (k' := 0) (n' := 0) dX9_direction_95 (s_J6_signum_0f7a4 ge22.1) gX9_direction_J6_signum_0f7a4 rfl hy_J6_signum_0f7a4 rfl (by decide) (by decide) (by decide) (by decide) (by decide) (by decide) (by decide) (Or.inl ge22.2) ?_
      refine j_istore_5 (pc := 98) dX9_direction_98 (by decide) rfl ?_
      refine j_iconst (pc := 100) dX9_direction_100 (v := 3) (by decide) ?_
      refine j_iload (pc := 101) dX9_direction_101 rfl ?_
      refine j_iconst (pc := 103) dX9_direction_103 (v := 1) (by decide) ?_
      refine j_iadd (pc := 104) dX9_direction_104 ?_
      refine j_imul (pc := 105) dX9_direction_105 ?_
      refine j_iload (pc := 106) dX9_direction_106 rfl ?_
      refine j_iadd (pc := 108) dX9_direction_108 ?_
      refine j_iconst (pc := 109) dX9_direction_109 (v := 1) (by decide) ?_
      refine j_iadd (pc := 110) dX9_direction_110 ?_
      obtain ⟨rfl, rfl⟩ := jretS h
      exact j_iret (pc := 111) rfl dX9_direction_111 (by decide) (by decide) rfl
    · rw [if_neg c1] at h
      refine j_aload_n (pc := 16) dX9_direction_16 rfl ?_
      obtain ⟨x24, e25, h⟩ := obS h
      refine j_getR (pc := 17) dX9_direction_17 (ci := 9) (kf := 3) rfl hin_X9_direction_X9 (by decide) lk_X9_direction_1 e25 ?_
      refine j_iload (pc := 20) dX9_direction_20 rfl ?_
      obtain ⟨x28, w26, e27, h⟩ := obS2 h
      have ge27 := calSR_of e27
      refine j_callV_g (pc := 22) (As := [.int i4]) (k' := 0) (n' := 0) dX9_direction_22 (s_X8_at ge27.1) gX9_direction_X8_at rfl hv_X8_at rfl (r_X8_at ge27.1) rfl (by decide) (by decide) (by decide) (by decide) (by decide) (by decide) (by decide) (Or.inl ge27.2) ?_
      refine j_istore_5 (pc := 25) dX9_direction_25 (by decide) rfl ?_
      refine j_iload (pc := 27) dX9_direction_27 rfl ?_
      refine j_iconst (pc := 29) dX9_direction_29 (v := (-1)) (by decide) ?_
      refine j_icmp_eq (pc := 30) (tgt := 52) dX9_direction_30 (by decide) (fun c29 => ?_) (fun c29 => ?_)
      · rw [if_pos c29] at h
        refine j_mask [true, true, true, true, true, false] ?_
        exact jm_X9_direction_b52 (hk9 := ih) _ _ _ _ _ w26 h
      · rw [if_neg c29] at h
        refine j_iinc_1 (pc := 33) dX9_direction_33 (y := i1 + 1) rfl (by decide) rfl ?_
        refine j_iload_n (pc := 36) dX9_direction_36 rfl ?_
        refine j_iload (pc := 37) dX9_direction_37 rfl ?_
        obtain ⟨x32, w30, e31, h⟩ := obS2 h
        have ge31 := calSR_of e31
        refine j_callSN_g (pc := 39) (As := [.int x28]) (k' := 0) (n' := 0) dX9_direction_39 (s_X10_xOf ge31.1) gX9_direction_X10_xOf_n55 nst_X9_55 lk_X9_direction_2 lk_X9_direction_3 rfl hy_X10_xOf rfl (by decide) (by decide) (by decide) (by decide) (by decide) (by decide) (by decide) (Or.inl ge31.2) ?_
        refine j_iadd (pc := 42) dX9_direction_42 ?_
        refine j_istore_n_2 (pc := 43) dX9_direction_43 (by decide) rfl ?_
        refine j_iload_n (pc := 44) dX9_direction_44 rfl ?_
        refine j_iload (pc := 45) dX9_direction_45 rfl ?_
        obtain ⟨x35, w33, e34, h⟩ := obS2 h
        have ge34 := calSR_of e34
        refine j_callSN_g (pc := 47) (As := [.int x28]) (k' := 0) (n' := 0) dX9_direction_47 (s_X10_yOf ge34.1) gX9_direction_X10_yOf_n60 nst_X9_60 lk_X9_direction_2 lk_X9_direction_4 rfl hy_X10_yOf rfl (by decide) (by decide) (by decide) (by decide) (by decide) (by decide) (by decide) (Or.inl ge34.2) ?_
        refine j_iadd (pc := 50) dX9_direction_50 ?_
        refine j_istore_n_3 (pc := 51) dX9_direction_51 (by decide) rfl ?_
        refine j_mask [true, true, true, true, true, false] ?_
        exact jm_X9_direction_b52 (hk9 := ih) _ _ _ _ _ w33 h
def m_X9_direction (a0 : Nat) (ws : LWd) : Option (Int32 × LWd) :=
  (rcv ws a0 9).bind fun _ =>
  m_X9_direction_l9 FU a0 0 0 0 0 ws
set_option maxRecDepth 100000 in
set_option maxHeartbeats 4000000 in
theorem s_X9_direction {a0 : Nat} {ws : LWd} {rr : Int32} {ws' : LWd} (h : m_X9_direction a0 ws = some (rr, ws')) : jSp yX9_direction wsX9_direction 1 0 0 [.ref a0] ws (.inl (some (.int rr)), ws') := by
  unfold m_X9_direction at h
  refine j_entry (ret := (some .int)) (nm := "direction") (own := RX9) pl_X9 rfl rfl rfl (jcats (by rfl)) (by decide) ?_
  show JG false cX9_direction 6 RX9 wsX9_direction (some .int) "direction" 1 0 0 ws.length (.inl (some (.int rr)), ws') 0 [some (.ref a0), none, none, none, none, none] [] ws 0 0
  obtain ⟨_, _, h⟩ := obS h
  refine j_iconst (pc := 0) dX9_direction_0 (v := 0) (by decide) ?_
  refine j_istore_n_1 (pc := 1) dX9_direction_1 (by decide) rfl ?_
  refine j_iconst (pc := 2) dX9_direction_2 (v := 0) (by decide) ?_
  refine j_istore_n_2 (pc := 3) dX9_direction_3 (by decide) rfl ?_
  refine j_iconst (pc := 4) dX9_direction_4 (v := 0) (by decide) ?_
  refine j_istore_n_3 (pc := 5) dX9_direction_5 (by decide) rfl ?_
  refine j_iconst (pc := 6) dX9_direction_6 (v := 0) (by decide) ?_
  refine j_istore_4 (pc := 7) dX9_direction_7 (by decide) rfl ?_
  exact jm_X9_direction_l9 FU _ _ _ _ _ ws h
theorem r_X9_direction {a0 : Nat} {ws : LWd} {o : (Int32 × LWd)} (h : m_X9_direction a0 ws = some o) : ∃ fs, ws[a0]? = some (.inr (9, fs)) := rcv_in h
theorem hin_X1_keep_X1 : ∀ w ∈ u_ws RX1 TX1 4, w ∈ wsX1_keep := fun w h => List.mem_cons_of_mem _ (List.mem_append_left _ (List.mem_append_right _ h))
theorem lk_X1_keep_0 : Cond.fieldLink RX1 14 "Gaitwright$Falls" "direction" "LGaitwright$Row;" ∈ wsX1_keep := List.mem_cons_of_mem _ (List.mem_append_left _ (List.mem_append_left _ (List.mem_of_getElem? (i := 0) rfl)))
theorem lk_X1_keep_1 : Cond.fieldLink RX1 26 "Gaitwright$Falls" "count" "I" ∈ wsX1_keep := List.mem_cons_of_mem _ (List.mem_append_left _ (List.mem_append_left _ (List.mem_of_getElem? (i := 1) rfl)))
theorem lk_X1_keep_2 : Cond.fieldLink RX1 20 "Gaitwright$Falls" "what" "LGaitwright$Row;" ∈ wsX1_keep := List.mem_cons_of_mem _ (List.mem_append_left _ (List.mem_append_left _ (List.mem_of_getElem? (i := 2) rfl)))
theorem lk_X1_keep_3 : Cond.fieldLink RX1 23 "Gaitwright$Falls" "point" "LGaitwright$Row;" ∈ wsX1_keep := List.mem_cons_of_mem _ (List.mem_append_left _ (List.mem_append_left _ (List.mem_of_getElem? (i := 3) rfl)))
def m_X1_keep (a0 : Nat) (i1 : Int32) (i2 : Int32) (i3 : Int32) (ws : LWd) : Option LWd :=
  (rcv ws a0 1).bind fun _ =>
  (fR ws a0 1 0).bind fun x1 =>
  (fI ws a0 1 3).bind fun x3 =>
  (calSV ws (m_X8_put x1 x3 i1 ws)).bind fun w5 =>
  (fR w5 a0 1 1).bind fun x7 =>
  (fI w5 a0 1 3).bind fun x9 =>
  (calSV w5 (m_X8_put x7 x9 i2 w5)).bind fun w11 =>
  (fR w11 a0 1 2).bind fun x13 =>
  (fI w11 a0 1 3).bind fun x15 =>
  (calSV w11 (m_X8_put x13 x15 i3 w11)).bind fun w17 =>
  (fI w17 a0 1 3).bind fun x19 =>
  (pV w17 a0 1 3 (.int (x19 + 1))).bind fun w21 =>
  some w21
set_option maxRecDepth 100000 in
set_option maxHeartbeats 4000000 in
theorem s_X1_keep {a0 : Nat} {i1 : Int32} {i2 : Int32} {i3 : Int32} {ws : LWd} {ws' : LWd} (h : m_X1_keep a0 i1 i2 i3 ws = some ws') : jSp yX1_keep wsX1_keep 1 0 0 [.ref a0, .int i1, .int i2, .int i3] ws (.inl none, ws') := by
  unfold m_X1_keep at h
  refine j_entry (ret := none) (nm := "keep") (own := RX1) pl_X1 rfl rfl rfl (jcats (by rfl)) (by decide) ?_
  show JG false cX1_keep 4 RX1 wsX1_keep none "keep" 1 0 0 ws.length (.inl none, ws') 0 [some (.ref a0), some (.int i1), some (.int i2), some (.int i3)] [] ws 0 0
  obtain ⟨_, _, h⟩ := obS h
  refine j_aload_n (pc := 0) dX1_keep_0 rfl ?_
  obtain ⟨x1, e2, h⟩ := obS h
  refine j_getR (pc := 1) dX1_keep_1 (ci := 1) (kf := 0) rfl hin_X1_keep_X1 (by decide) lk_X1_keep_0 e2 ?_
  refine j_aload_n (pc := 4) dX1_keep_4 rfl ?_
  obtain ⟨x3, e4, h⟩ := obS h
  refine j_getI (pc := 5) dX1_keep_5 (ci := 1) (kf := 3) rfl hin_X1_keep_X1 (by decide) lk_X1_keep_1 e4 ?_
  refine j_iload_n (pc := 8) dX1_keep_8 rfl ?_
  obtain ⟨w5, e6, h⟩ := obS h
  have ge6 := calSV_of e6
  refine j_callV_g (pc := 9) (As := [.int x3, .int i1]) (k' := 0) (n' := 0) dX1_keep_9 (s_X8_put ge6.1) gX1_keep_X8_put rfl hv_X8_put rfl (r_X8_put ge6.1) rfl (by decide) (by decide) (by decide) (by decide) (by decide) (by decide) (by decide) (Or.inl ge6.2) ?_
  refine j_aload_n (pc := 12) dX1_keep_12 rfl ?_
  obtain ⟨x7, e8, h⟩ := obS h
  refine j_getR (pc := 13) dX1_keep_13 (ci := 1) (kf := 1) rfl hin_X1_keep_X1 (by decide) lk_X1_keep_2 e8 ?_
  refine j_aload_n (pc := 16) dX1_keep_16 rfl ?_
  obtain ⟨x9, e10, h⟩ := obS h
  refine j_getI (pc := 17) dX1_keep_17 (ci := 1) (kf := 3) rfl hin_X1_keep_X1 (by decide) lk_X1_keep_1 e10 ?_
  refine j_iload_n (pc := 20) dX1_keep_20 rfl ?_
  obtain ⟨w11, e12, h⟩ := obS h
  have ge12 := calSV_of e12
  refine j_callV_g (pc := 21) (As := [.int x9, .int i2]) (k' := 0) (n' := 0) dX1_keep_21 (s_X8_put ge12.1) gX1_keep_X8_put rfl hv_X8_put rfl (r_X8_put ge12.1) rfl (by decide) (by decide) (by decide) (by decide) (by decide) (by decide) (by decide) (Or.inl ge12.2) ?_
  refine j_aload_n (pc := 24) dX1_keep_24 rfl ?_
  obtain ⟨x13, e14, h⟩ := obS h
  refine j_getR (pc := 25) dX1_keep_25 (ci := 1) (kf := 2) rfl hin_X1_keep_X1 (by decide) lk_X1_keep_3 e14 ?_
  refine j_aload_n (pc := 28) dX1_keep_28 rfl ?_
  obtain ⟨x15, e16, h⟩ := obS h
  refine j_getI (pc := 29) dX1_keep_29 (ci := 1) (kf := 3) rfl hin_X1_keep_X1 (by decide) lk_X1_keep_1 e16 ?_
  refine j_iload_n (pc := 32) dX1_keep_32 rfl ?_
  obtain ⟨w17, e18, h⟩ := obS h
  have ge18 := calSV_of e18
  refine j_callV_g (pc := 33) (As := [.int x15, .int i3]) (k' := 0) (n' := 0) dX1_keep_33 (s_X8_put ge18.1) gX1_keep_X8_put rfl hv_X8_put rfl (r_X8_put ge18.1) rfl (by decide) (by decide) (by decide) (by decide) (by decide) (by decide) (by decide) (Or.inl ge18.2) ?_
  refine j_aload_n (pc := 36) dX1_keep_36 rfl ?_
  refine j_dup (pc := 37) dX1_keep_37 rfl ?_
  obtain ⟨x19, e20, h⟩ := obS h
  refine j_getI (pc := 38) dX1_keep_38 (ci := 1) (kf := 3) rfl hin_X1_keep_X1 (by decide) lk_X1_keep_1 e20 ?_
  refine j_iconst (pc := 41) dX1_keep_41 (v := 1) (by decide) ?_
  refine j_iadd (pc := 42) dX1_keep_42 ?_
  obtain ⟨w21, e22, h⟩ := obS h
  refine j_putV (pc := 43) (ci := 1) (kf := 3) tyX1 tyX1_ok nmX1 dX1_keep_43 rfl hin_X1_keep_X1 (by decide) lk_X1_keep_1 rfl (fun _ => rfl) (fun _ => rfl) e22 ?_
  cases h
  exact j_vret (pc := 46) rfl dX1_keep_46 (by decide) (by decide) rfl
theorem r_X1_keep {a0 : Nat} {i1 : Int32} {i2 : Int32} {i3 : Int32} {ws : LWd} {o : LWd} (h : m_X1_keep a0 i1 i2 i3 ws = some o) : ∃ fs, ws[a0]? = some (.inr (1, fs)) := rcv_in h
theorem hin_X8_fill_X8 : ∀ w ∈ u_ws RX8 TX8 1, w ∈ wsX8_fill := fun w h => List.mem_cons_of_mem _ (List.mem_append_right _ h)
theorem lk_X8_fill_0 : Cond.fieldLink RX8 7 "Gaitwright$Row" "cells" "[I" ∈ wsX8_fill := List.mem_cons_of_mem _ (List.mem_append_left _ (List.mem_of_getElem? (i := 0) rfl))
def m_X8_fill (a0 : Nat) (i1 : Int32) (ws : LWd) : Option LWd :=
  (rcv ws a0 8).bind fun _ =>
  (fR ws a0 8 0).bind fun x1 =>
  (calSV ws (m_J7_fill_53178 x1 i1 ws)).bind fun w3 =>
  some w3
set_option maxRecDepth 100000 in
set_option maxHeartbeats 4000000 in
theorem s_X8_fill {a0 : Nat} {i1 : Int32} {ws : LWd} {ws' : LWd} (h : m_X8_fill a0 i1 ws = some ws') : jSp yX8_fill wsX8_fill 1 0 0 [.ref a0, .int i1] ws (.inl none, ws') := by
  unfold m_X8_fill at h
  refine j_entry (ret := none) (nm := "fill") (own := RX8) pl_X8 rfl rfl rfl (jcats (by rfl)) (by decide) ?_
  show JG false cX8_fill 2 RX8 wsX8_fill none "fill" 1 0 0 ws.length (.inl none, ws') 0 [some (.ref a0), some (.int i1)] [] ws 0 0
  obtain ⟨_, _, h⟩ := obS h
  refine j_aload_n (pc := 0) dX8_fill_0 rfl ?_
  obtain ⟨x1, e2, h⟩ := obS h
  refine j_getR (pc := 1) dX8_fill_1 (ci := 8) (kf := 0) rfl hin_X8_fill_X8 (by decide) lk_X8_fill_0 e2 ?_
  refine j_iload_n (pc := 4) dX8_fill_4 rfl ?_
  obtain ⟨w3, e4, h⟩ := obS h
  have ge4 := calSV_of e4
  refine j_callS_g (pc := 5) (As := [.ref x1, .int i1]) (k' := 0) (n' := 0) dX8_fill_5 (s_J7_fill_53178 ge4.1) gX8_fill_J7_fill_53178 rfl hy_J7_fill_53178 rfl (by decide) (by decide) (by decide) (by decide) (by decide) (by decide) (by decide) (Or.inl ge4.2) ?_
  cases h
  exact j_vret (pc := 8) rfl dX8_fill_8 (by decide) (by decide) rfl
theorem r_X8_fill {a0 : Nat} {i1 : Int32} {ws : LWd} {o : LWd} (h : m_X8_fill a0 i1 ws = some o) : ∃ fs, ws[a0]? = some (.inr (8, fs)) := rcv_in h
theorem hin_X10_toppleOver_X10 : ∀ w ∈ u_ws RX10 TX10 11, w ∈ wsX10_toppleOver := fun w h => List.mem_cons_of_mem _ (List.mem_append_left _ (List.mem_append_left _ (List.mem_append_left _ (List.mem_append_left _ (List.mem_append_left _ (List.mem_append_right _ h))))))
theorem lk_X10_toppleOver_0 : Cond.fieldLink RX10 55 "Gaitwright" "falls" "LGaitwright$Falls;" ∈ wsX10_toppleOver := List.mem_cons_of_mem _ (List.mem_append_left _ (List.mem_append_left _ (List.mem_append_left _ (List.mem_append_left _ (List.mem_append_left _ (List.mem_append_left _ (List.mem_append_left _ (List.mem_of_getElem? (i := 0) rfl))))))))
theorem lk_X10_toppleOver_1 : Cond.fieldLink RX10 31 "Gaitwright" "stance" "LGaitwright$Stance;" ∈ wsX10_toppleOver := List.mem_cons_of_mem _ (List.mem_append_left _ (List.mem_append_left _ (List.mem_append_left _ (List.mem_append_left _ (List.mem_append_left _ (List.mem_append_left _ (List.mem_append_left _ (List.mem_of_getElem? (i := 1) rfl))))))))
theorem lk_X10_toppleOver_2 : Cond.fieldLink RX10 48 "Gaitwright" "damage" "LGaitwright$Damage;" ∈ wsX10_toppleOver := List.mem_cons_of_mem _ (List.mem_append_left _ (List.mem_append_left _ (List.mem_append_left _ (List.mem_append_left _ (List.mem_append_left _ (List.mem_append_left _ (List.mem_append_left _ (List.mem_of_getElem? (i := 2) rfl))))))))
theorem hin_X10_toppleOver_X0 : ∀ w ∈ u_ws RX0 TX0 4, w ∈ wsX10_toppleOver := fun w h => List.mem_cons_of_mem _ (List.mem_append_left _ (List.mem_append_left _ (List.mem_append_left _ (List.mem_append_left _ (List.mem_append_right _ h)))))
theorem lk_X10_toppleOver_3 : Cond.fieldLink RX10 419 "Gaitwright$Damage" "firstWhat" "I" ∈ wsX10_toppleOver := List.mem_cons_of_mem _ (List.mem_append_left _ (List.mem_append_left _ (List.mem_append_left _ (List.mem_append_left _ (List.mem_append_left _ (List.mem_append_left _ (List.mem_append_left _ (List.mem_of_getElem? (i := 3) rfl))))))))
theorem lk_X10_toppleOver_4 : Cond.fieldLink RX10 422 "Gaitwright$Damage" "firstPoint" "I" ∈ wsX10_toppleOver := List.mem_cons_of_mem _ (List.mem_append_left _ (List.mem_append_left _ (List.mem_append_left _ (List.mem_append_left _ (List.mem_append_left _ (List.mem_append_left _ (List.mem_append_left _ (List.mem_of_getElem? (i := 4) rfl))))))))
theorem lk_X10_toppleOver_5 : Cond.fieldLink RX10 73 "Gaitwright" "stands" "Z" ∈ wsX10_toppleOver := List.mem_cons_of_mem _ (List.mem_append_left _ (List.mem_append_left _ (List.mem_append_left _ (List.mem_append_left _ (List.mem_append_left _ (List.mem_append_left _ (List.mem_append_left _ (List.mem_of_getElem? (i := 5) rfl))))))))
theorem hin_X10_toppleOver_X9 : ∀ w ∈ u_ws RX9 TX9 6, w ∈ wsX10_toppleOver := fun w h => List.mem_cons_of_mem _ (List.mem_append_left _ (List.mem_append_left _ (List.mem_append_left _ (List.mem_append_right _ h))))
theorem lk_X10_toppleOver_6 : Cond.fieldLink RX10 235 "Gaitwright$Stance" "feet" "LGaitwright$Row;" ∈ wsX10_toppleOver := List.mem_cons_of_mem _ (List.mem_append_left _ (List.mem_append_left _ (List.mem_append_left _ (List.mem_append_left _ (List.mem_append_left _ (List.mem_append_left _ (List.mem_append_left _ (List.mem_of_getElem? (i := 6) rfl))))))))
def m_X10_toppleOver (a0 : Nat) (ws : LWd) : Option LWd :=
  (rcv ws a0 10).bind fun _ =>
  (fR ws a0 10 6).bind fun x1 =>
  (fR ws a0 10 2).bind fun x3 =>
  bn2 (calSR ws (m_X9_direction x3 ws)) fun x7 w5 =>
  (fR w5 a0 10 5).bind fun x8 =>
  (fI w5 x8 0 1).bind fun x10 =>
  (fR w5 a0 10 5).bind fun x12 =>
  (fI w5 x12 0 2).bind fun x14 =>
  (calSV w5 (m_X1_keep x1 x7 x10 x14 w5)).bind fun w16 =>
  (pZ w16 a0 10 9 0).bind fun w18 =>
  (fR w18 a0 10 2).bind fun x20 =>
  (fR w18 x20 9 3).bind fun x22 =>
  (calSV w18 (m_X8_fill x22 ((-1)) w18)).bind fun w24 =>
  some w24
set_option maxRecDepth 100000 in
set_option maxHeartbeats 4000000 in
theorem s_X10_toppleOver {a0 : Nat} {ws : LWd} {ws' : LWd} (h : m_X10_toppleOver a0 ws = some ws') : jSp yX10_toppleOver wsX10_toppleOver 2 0 0 [.ref a0] ws (.inl none, ws') := by
  unfold m_X10_toppleOver at h
  refine j_entry (ret := none) (nm := "toppleOver") (own := RX10) pl_X10 rfl rfl rfl (jcats (by rfl)) (by decide) ?_
  show JG false cX10_toppleOver 1 RX10 wsX10_toppleOver none "toppleOver" 2 0 0 ws.length (.inl none, ws') 0 [some (.ref a0)] [] ws 0 0
  obtain ⟨_, _, h⟩ := obS h
  refine j_aload_n (pc := 0) dX10_toppleOver_0 rfl ?_
  obtain ⟨x1, e2, h⟩ := obS h
  refine j_getR (pc := 1) dX10_toppleOver_1 (ci := 10) (kf := 6) rfl hin_X10_toppleOver_X10 (by decide) lk_X10_toppleOver_0 e2 ?_
  refine j_aload_n (pc := 4) dX10_toppleOver_4 rfl ?_
  obtain ⟨x3, e4, h⟩ := obS h
  refine j_getR (pc := 5) dX10_toppleOver_5 (ci := 10) (kf := 2) rfl hin_X10_toppleOver_X10 (by decide) lk_X10_toppleOver_1 e4 ?_
  obtain ⟨x7, w5, e6, h⟩ := obS2 h
  have ge6 := calSR_of e6
  refine j_callV_g (pc := 8) (As := []) (k' := 0) (n' := 0) dX10_toppleOver_8 (s_X9_direction ge6.1) gX10_toppleOver_X9_direction rfl hv_X9_direction rfl (r_X9_direction ge6.1) rfl (by decide) (by decide) (by decide) (by decide) (by decide) (by decide) (by decide) (Or.inl ge6.2) ?_
  refine j_aload_n (pc := 11) dX10_toppleOver_11 rfl ?_
  obtain ⟨x8, e9, h⟩ := obS h
  refine j_getR (pc := 12) dX10_toppleOver_12 (ci := 10) (kf := 5) rfl hin_X10_toppleOver_X10 (by decide) lk_X10_toppleOver_2 e9 ?_
  obtain ⟨x10, e11, h⟩ := obS h
  refine j_getI (pc := 15) dX10_toppleOver_15 (ci := 0) (kf := 1) rfl hin_X10_toppleOver_X0 (by decide) lk_X10_toppleOver_3 e11 ?_
  refine j_aload_n (pc := 18) dX10_toppleOver_18 rfl ?_
  obtain ⟨x12, e13, h⟩ := obS h
  refine j_getR (pc := 19) dX10_toppleOver_19 (ci := 10) (kf := 5) rfl hin_X10_toppleOver_X10 (by decide) lk_X10_toppleOver_2 e13 ?_
  obtain ⟨x14, e15, h⟩ := obS h
  refine j_getI (pc := 22) dX10_toppleOver_22 (ci := 0) (kf := 2) rfl hin_X10_toppleOver_X0 (by decide) lk_X10_toppleOver_4 e15 ?_
  obtain ⟨w16, e17, h⟩ := obS h
  have ge17 := calSV_of e17
  refine j_callV_g (pc := 25) (As := [.int x7, .int x10, .int x14]) (k' := 0) (n' := 0) dX10_toppleOver_25 (s_X1_keep ge17.1) gX10_toppleOver_X1_keep rfl hv_X1_keep rfl (r_X1_keep ge17.1) rfl (by decide) (by decide) (by decide) (by decide) (by decide) (by decide) (by decide) (Or.inl ge17.2) ?_
  refine j_aload_n (pc := 28) dX10_toppleOver_28 rfl ?_
  refine j_iconst (pc := 29) dX10_toppleOver_29 (v := 0) (by decide) ?_
  obtain ⟨w18, e19, h⟩ := obS h
  refine j_putV (pc := 30) (ci := 10) (kf := 9) tyX10 tyX10_ok nmX10 dX10_toppleOver_30 rfl hin_X10_toppleOver_X10 (by decide) lk_X10_toppleOver_5 rfl (pZ_n e19).2.1 (pZ_n e19).2.2 (pZ_n e19).1 ?_
  refine j_aload_n (pc := 33) dX10_toppleOver_33 rfl ?_
  obtain ⟨x20, e21, h⟩ := obS h
  refine j_getR (pc := 34) dX10_toppleOver_34 (ci := 10) (kf := 2) rfl hin_X10_toppleOver_X10 (by decide) lk_X10_toppleOver_1 e21 ?_
  obtain ⟨x22, e23, h⟩ := obS h
  refine j_getR (pc := 37) dX10_toppleOver_37 (ci := 9) (kf := 3) rfl hin_X10_toppleOver_X9 (by decide) lk_X10_toppleOver_6 e23 ?_
  refine j_iconst (pc := 40) dX10_toppleOver_40 (v := (-1)) (by decide) ?_
  obtain ⟨w24, e25, h⟩ := obS h
  have ge25 := calSV_of e25
  refine j_callV_g (pc := 41) (As := [.int ((-1))]) (k' := 0) (n' := 0) dX10_toppleOver_41 (s_X8_fill ge25.1) gX10_toppleOver_X8_fill rfl hv_X8_fill rfl (r_X8_fill ge25.1) rfl (by decide) (by decide) (by decide) (by decide) (by decide) (by decide) (by decide) (Or.inl ge25.2) ?_
  cases h
  exact j_vret (pc := 44) rfl dX10_toppleOver_44 (by decide) (by decide) rfl
theorem r_X10_toppleOver {a0 : Nat} {ws : LWd} {o : LWd} (h : m_X10_toppleOver a0 ws = some o) : ∃ fs, ws[a0]? = some (.inr (10, fs)) := rcv_in h
theorem hin_X10_settled_X10 : ∀ w ∈ u_ws RX10 TX10 11, w ∈ wsX10_settled := fun w h => List.mem_cons_of_mem _ (List.mem_append_left _ (List.mem_append_left _ (List.mem_append_left _ (List.mem_append_left _ (List.mem_append_left _ (List.mem_append_left _ (List.mem_append_left _ (List.mem_append_right _ h))))))))
theorem lk_X10_settled_0 : Cond.fieldLink RX10 48 "Gaitwright" "damage" "LGaitwright$Damage;" ∈ wsX10_settled := List.mem_cons_of_mem _ (List.mem_append_left _ (List.mem_append_left _ (List.mem_append_left _ (List.mem_append_left _ (List.mem_append_left _ (List.mem_append_left _ (List.mem_append_left _ (List.mem_append_left _ (List.mem_append_left _ (List.mem_of_getElem? (i := 2) rfl))))))))))
theorem hin_X10_settled_X0 : ∀ w ∈ u_ws RX0 TX0 4, w ∈ wsX10_settled := fun w h => List.mem_cons_of_mem _ (List.mem_append_left _ (List.mem_append_left _ (List.mem_append_left _ (List.mem_append_left _ (List.mem_append_left _ (List.mem_append_left _ (List.mem_append_right _ h)))))))
theorem lk_X10_settled_1 : Cond.fieldLink RX10 411 "Gaitwright$Damage" "firstOfAct" "I" ∈ wsX10_settled := List.mem_cons_of_mem _ (List.mem_append_left _ (List.mem_append_left _ (List.mem_append_left _ (List.mem_append_left _ (List.mem_append_left _ (List.mem_append_left _ (List.mem_append_left _ (List.mem_append_left _ (List.mem_append_left _ (List.mem_of_getElem? (i := 3) rfl))))))))))
theorem lk_X10_settled_2 : Cond.fieldLink RX10 31 "Gaitwright" "stance" "LGaitwright$Stance;" ∈ wsX10_settled := List.mem_cons_of_mem _ (List.mem_append_left _ (List.mem_append_left _ (List.mem_append_left _ (List.mem_append_left _ (List.mem_append_left _ (List.mem_append_left _ (List.mem_append_left _ (List.mem_append_left _ (List.mem_append_left _ (List.mem_of_getElem? (i := 1) rfl))))))))))
theorem lk_X10_settled_3 : Cond.fieldLink RX10 73 "Gaitwright" "stands" "Z" ∈ wsX10_settled := List.mem_cons_of_mem _ (List.mem_append_left _ (List.mem_append_left _ (List.mem_append_left _ (List.mem_append_left _ (List.mem_append_left _ (List.mem_append_left _ (List.mem_append_left _ (List.mem_append_left _ (List.mem_append_left _ (List.mem_of_getElem? (i := 0) rfl))))))))))
def m_X10_settled_b69 (a0 : Nat) (ws : LWd) : Option (Int32 × LWd) :=
  (fR ws a0 10 5).bind fun x1 =>
  (fI ws x1 0 3).bind fun x3 =>
  some (x3, ws)
set_option maxRecDepth 100000 in
set_option maxHeartbeats 4000000 in
theorem jm_X10_settled_b69 {n0 : Nat} {rr : Int32} {ws' : LWd} (a0 : Nat) (ws : LWd) (h : m_X10_settled_b69 a0 ws = some (rr, ws')) : JG false cX10_settled 3 RX10 wsX10_settled (some .int) "settled" 4 0 0 n0 (.inl (some (.int rr)), ws') 69 [some (.ref a0), none, none] [] ws 0 0 := by
  unfold m_X10_settled_b69 at h
  refine j_aload_n (pc := 69) dX10_settled_69 rfl ?_
  obtain ⟨x1, e2, h⟩ := obS h
  refine j_getR (pc := 70) dX10_settled_70 (ci := 10) (kf := 5) rfl hin_X10_settled_X10 (by decide) lk_X10_settled_0 e2 ?_
  obtain ⟨x3, e4, h⟩ := obS h
  refine j_getI (pc := 73) dX10_settled_73 (ci := 0) (kf := 3) rfl hin_X10_settled_X0 (by decide) lk_X10_settled_1 e4 ?_
  obtain ⟨rfl, rfl⟩ := jretS h
  exact j_iret (pc := 76) rfl dX10_settled_76 (by decide) (by decide) rfl
def m_X10_settled_b54 (a0 : Nat) (ws : LWd) : Option (Int32 × LWd) :=
  (fR ws a0 10 2).bind fun x1 =>
  bn2 (calSR ws (m_X9_holdsWithout x1 ((-1)) ws)) fun x5 w3 =>
  if x5 = 0 then
    (calSV w3 (m_X10_toppleOver a0 w3)).bind fun w7 =>
    m_X10_settled_b69 a0 w7
  else
    m_X10_settled_b69 a0 w3
set_option maxRecDepth 100000 in
set_option maxHeartbeats 4000000 in
theorem jm_X10_settled_b54 {n0 : Nat} {rr : Int32} {ws' : LWd} (a0 : Nat) (ws : LWd) (h : m_X10_settled_b54 a0 ws = some (rr, ws')) : JG false cX10_settled 3 RX10 wsX10_settled (some .int) "settled" 4 0 0 n0 (.inl (some (.int rr)), ws') 54 [some (.ref a0), none, none] [] ws 0 0 := by
  unfold m_X10_settled_b54 at h
  refine j_aload_n (pc := 54) dX10_settled_54 rfl ?_
  obtain ⟨x1, e2, h⟩ := obS h
  refine j_getR (pc := 55) dX10_settled_55 (ci := 10) (kf := 2) rfl hin_X10_settled_X10 (by decide) lk_X10_settled_2 e2 ?_
  refine j_iconst (pc := 58) dX10_settled_58 (v := (-1)) (by decide) ?_
  obtain ⟨x5, w3, e4, h⟩ := obS2 h
  have ge4 := calSR_of e4
  refine j_callV_g (pc := 59) (As := [.int ((-1))]) (k' := 0) (n' := 0) dX10_settled_59 (s_X9_holdsWithout ge4.1) gX10_settled_X9_holdsWithout rfl hv_X9_holdsWithout rfl (r_X9_holdsWithout ge4.1) rfl (by decide) (by decide) (by decide) (by decide) (by decide) (by decide) (by decide) (Or.inl ge4.2) ?_
  refine j_if_ne (pc := 62) (tgt := 69) dX10_settled_62 (by decide) (fun c6 => ?_) (fun c6 => ?_)
  · rw [if_neg c6] at h
    exact jm_X10_settled_b69 _ w3 h
  · rw [if_pos c6] at h
    refine j_aload_n (pc := 65) dX10_settled_65 rfl ?_
    obtain ⟨w7, e8, h⟩ := obS h
    have ge8 := calSV_of e8
    refine j_callV_g (pc := 66) (As := []) (k' := 0) (n' := 0) dX10_settled_66 (s_X10_toppleOver ge8.1) gX10_settled_X10_toppleOver rfl hv_X10_toppleOver rfl (r_X10_toppleOver ge8.1) rfl (by decide) (by decide) (by decide) (by decide) (by decide) (by decide) (by decide) (Or.inl ge8.2) ?_
    exact jm_X10_settled_b69 _ w7 h
def m_X10_settled_l17 : Nat → Nat → Int32 → Int32 → LWd → Option (Int32 × LWd)
  | 0, _, _, _, _ => none
  | fu + 1, a0, i1, i2, ws =>
    if i1 = 0 then
      m_X10_settled_b54 a0 ws
    else
      if 6 ≤ i2 then
        m_X10_settled_b54 a0 ws
      else
        (calSV ws (m_X10_breakGround a0 i1 ws)).bind fun w3 =>
        (fR w3 a0 10 2).bind fun x5 =>
        (calSV w3 (m_X9_raise x5 i1 w3)).bind fun w7 =>
        (fR w7 a0 10 2).bind fun x9 =>
        bn2 (calSR w7 (m_X9_sinking x9 w7)) fun x13 w11 =>
        m_X10_settled_l17 fu a0 x13 (i2 + 1) w11
set_option maxRecDepth 100000 in
set_option maxHeartbeats 4000000 in
theorem jm_X10_settled_l17 {n0 : Nat} {rr : Int32} {ws' : LWd} : ∀ (fu : Nat) (a0 : Nat) (i1 : Int32) (i2 : Int32) (ws : LWd), m_X10_settled_l17 fu a0 i1 i2 ws = some (rr, ws') → JG false cX10_settled 3 RX10 wsX10_settled (some .int) "settled" 4 0 0 n0 (.inl (some (.int rr)), ws') 17 [some (.ref a0), some (.int i1), some (.int i2)] [] ws 0 0 := by
  intro fu
  induction fu with
  | zero => intro a0 i1 i2 ws h; cases h
  | succ fu ih =>
    intro a0 i1 i2 ws h
    rw [m_X10_settled_l17] at h
    refine j_iload_n (pc := 17) dX10_settled_17 rfl ?_
    refine j_if_eq (pc := 18) (tgt := 54) dX10_settled_18 (by decide) (fun c1 => ?_) (fun c1 => ?_)
    · rw [if_pos c1] at h
      refine j_mask [true, false, false] ?_
      exact jm_X10_settled_b54 _ ws h
    · rw [if_neg c1] at h
      refine j_iload_n (pc := 21) dX10_settled_21 rfl ?_
      refine j_bipush (pc := 22) dX10_settled_22 (v := 6) (by decide) ?_
      refine j_icmp_ge (pc := 24) (tgt := 54) dX10_settled_24 (by decide) (fun c2 => ?_) (fun c2 => ?_)
      · rw [if_pos c2] at h
        refine j_mask [true, false, false] ?_
        exact jm_X10_settled_b54 _ ws h
      · rw [if_neg c2] at h
        refine j_aload_n (pc := 27) dX10_settled_27 rfl ?_
        refine j_iload_n (pc := 28) dX10_settled_28 rfl ?_
        obtain ⟨w3, e4, h⟩ := obS h
        have ge4 := calSV_of e4
        refine j_callV_g (pc := 29) (As := [.int i1]) (k' := 0) (n' := 0) dX10_settled_29 (s_X10_breakGround ge4.1) gX10_settled_X10_breakGround rfl hv_X10_breakGround rfl (r_X10_breakGround ge4.1) rfl (by decide) (by decide) (by decide) (by decide) (by decide) (by decide) (by decide) (Or.inl ge4.2) ?_
        refine j_aload_n (pc := 32) dX10_settled_32 rfl ?_
        obtain ⟨x5, e6, h⟩ := obS h
        refine j_getR (pc := 33) dX10_settled_33 (ci := 10) (kf := 2) rfl hin_X10_settled_X10 (by decide) lk_X10_settled_2 e6 ?_
        refine j_iload_n (pc := 36) dX10_settled_36 rfl ?_
        obtain ⟨w7, e8, h⟩ := obS h
        have ge8 := calSV_of e8
        refine j_callV_g (pc := 37) (As := [.int i1]) (k' := 0) (n' := 0) dX10_settled_37 (s_X9_raise ge8.1) gX10_settled_X9_raise rfl hv_X9_raise rfl (r_X9_raise ge8.1) rfl (by decide) (by decide) (by decide) (by decide) (by decide) (by decide) (by decide) (Or.inl ge8.2) ?_
        refine j_aload_n (pc := 40) dX10_settled_40 rfl ?_
        obtain ⟨x9, e10, h⟩ := obS h
        refine j_getR (pc := 41) dX10_settled_41 (ci := 10) (kf := 2) rfl hin_X10_settled_X10 (by decide) lk_X10_settled_2 e10 ?_
        obtain ⟨x13, w11, e12, h⟩ := obS2 h
        have ge12 := calSR_of e12
        refine j_callV_g (pc := 44) (As := []) (k' := 0) (n' := 0) dX10_settled_44 (s_X9_sinking ge12.1) gX10_settled_X9_sinking rfl hv_X9_sinking rfl (r_X9_sinking ge12.1) rfl (by decide) (by decide) (by decide) (by decide) (by decide) (by decide) (by decide) (Or.inl ge12.2) ?_
        refine j_istore_n_1 (pc := 47) dX10_settled_47 (by decide) rfl ?_
        refine j_iinc_2 (pc := 48) dX10_settled_48 (y := i2 + 1) rfl (by decide) rfl ?_
        refine j_goto (pc := 51) (tgt := 17) dX10_settled_51 (by decide) ?_
        exact ih _ _ _ w11 h
def m_X10_settled (a0 : Nat) (ws : LWd) : Option (Int32 × LWd) :=
  (rcv ws a0 10).bind fun _ =>
  (fI ws a0 10 9).bind fun x1 =>
  if x1 = 0 then
    m_X10_settled_b69 a0 ws
  else
    (fR ws a0 10 2).bind fun x4 =>
    bn2 (calSR ws (m_X9_sinking x4 ws)) fun x8 w6 =>
    m_X10_settled_l17 FU a0 x8 0 w6
set_option maxRecDepth 100000 in
set_option maxHeartbeats 4000000 in
theorem s_X10_settled {a0 : Nat} {ws : LWd} {rr : Int32} {ws' : LWd} (h : m_X10_settled a0 ws = some (rr, ws')) : jSp yX10_settled wsX10_settled 4 0 0 [.ref a0] ws (.inl (some (.int rr)), ws') := by
  unfold m_X10_settled at h
  refine j_entry (ret := (some .int)) (nm := "settled") (own := RX10) pl_X10 rfl rfl rfl (jcats (by rfl)) (by decide) ?_
  show JG false cX10_settled 3 RX10 wsX10_settled (some .int) "settled" 4 0 0 ws.length (.inl (some (.int rr)), ws') 0 [some (.ref a0), none, none] [] ws 0 0
  obtain ⟨_, _, h⟩ := obS h
  refine j_aload_n (pc := 0) dX10_settled_0 rfl ?_
  obtain ⟨x1, e2, h⟩ := obS h
  refine j_getI (pc := 1) dX10_settled_1 (ci := 10) (kf := 9) rfl hin_X10_settled_X10 (by decide) lk_X10_settled_3 e2 ?_
  refine j_if_eq (pc := 4) (tgt := 69) dX10_settled_4 (by decide) (fun c3 => ?_) (fun c3 => ?_)
  · rw [if_pos c3] at h
    exact jm_X10_settled_b69 _ ws h
  · rw [if_neg c3] at h
    refine j_aload_n (pc := 7) dX10_settled_7 rfl ?_
    obtain ⟨x4, e5, h⟩ := obS h
    refine j_getR (pc := 8) dX10_settled_8 (ci := 10) (kf := 2) rfl hin_X10_settled_X10 (by decide) lk_X10_settled_2 e5 ?_
    obtain ⟨x8, w6, e7, h⟩ := obS2 h
    have ge7 := calSR_of e7
    refine j_callV_g (pc := 11) (As := []) (k' := 0) (n' := 0) dX10_settled_11 (s_X9_sinking ge7.1) gX10_settled_X9_sinking rfl hv_X9_sinking rfl (r_X9_sinking ge7.1) rfl (by decide) (by decide) (by decide) (by decide) (by decide) (by decide) (by decide) (Or.inl ge7.2) ?_
    refine j_istore_n_1 (pc := 14) dX10_settled_14 (by decide) rfl ?_
    refine j_iconst (pc := 15) dX10_settled_15 (v := 0) (by decide) ?_
    refine j_istore_n_2 (pc := 16) dX10_settled_16 (by decide) rfl ?_
    exact jm_X10_settled_l17 FU _ _ _ w6 h
theorem r_X10_settled {a0 : Nat} {ws : LWd} {o : (Int32 × LWd)} (h : m_X10_settled a0 ws = some o) : ∃ fs, ws[a0]? = some (.inr (10, fs)) := rcv_in h
