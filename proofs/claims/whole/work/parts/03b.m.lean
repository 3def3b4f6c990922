/-! methods: written by wip/whole/make.py -/
def m_X10_isWithin (i0 : Int32) (i1 : Int32) (i2 : Int32) (ws : LWd) : Option (Int32 × LWd) :=
  if i0 < i1 then
    some (0, ws)
  else
    if i2 < i0 then
      some (0, ws)
    else
      some (1, ws)
set_option maxRecDepth 100000 in
set_option maxHeartbeats 4000000 in
theorem s_X10_isWithin {i0 : Int32} {i1 : Int32} {i2 : Int32} {ws : LWd} {rr : Int32} {ws' : LWd} (h : m_X10_isWithin i0 i1 i2 ws = some (rr, ws')) : jSp yX10_isWithin wsX10_isWithin 0 0 0 [.int i0, .int i1, .int i2] ws (.inl (some (.int rr)), ws') := by
  unfold m_X10_isWithin at h
  refine j_entry (ret := (some .boolean)) (nm := "isWithin") (own := RX10) pl_X10 rfl rfl rfl (jcats (by rfl)) (by decide) ?_
  show JG false cX10_isWithin 3 RX10 wsX10_isWithin (some .boolean) "isWithin" 0 0 0 ws.length (.inl (some (.int rr)), ws') 0 [some (.int i0), some (.int i1), some (.int i2)] [] ws 0 0
  refine j_iload_n (pc := 0) dX10_isWithin_0 rfl ?_
  refine j_iload_n (pc := 1) dX10_isWithin_1 rfl ?_
  refine j_icmp_lt (pc := 2) (tgt := 14) dX10_isWithin_2 (by decide) (fun c1 => ?_) (fun c1 => ?_)
  · rw [if_pos c1] at h
    refine j_iconst (pc := 14) dX10_isWithin_14 (v := 0) (by decide) ?_
    obtain ⟨rfl, rfl⟩ := jretS h
    exact j_zret (pc := 15) (ws1 := ws) rfl dX10_isWithin_15 (by decide) (by decide) (show retZ 0 ws = some (0, ws) from rfl) rfl rfl
  · rw [if_neg c1] at h
    refine j_iload_n (pc := 5) dX10_isWithin_5 rfl ?_
    refine j_iload_n (pc := 6) dX10_isWithin_6 rfl ?_
    refine j_icmp_gt (pc := 7) (tgt := 14) dX10_isWithin_7 (by decide) (fun c2 => ?_) (fun c2 => ?_)
    · rw [if_pos c2] at h
      refine j_iconst (pc := 14) dX10_isWithin_14 (v := 0) (by decide) ?_
      obtain ⟨rfl, rfl⟩ := jretS h
      exact j_zret (pc := 15) (ws1 := ws) rfl dX10_isWithin_15 (by decide) (by decide) (show retZ 0 ws = some (0, ws) from rfl) rfl rfl
    · rw [if_neg c2] at h
      refine j_iconst (pc := 10) dX10_isWithin_10 (v := 1) (by decide) ?_
      refine j_goto (pc := 11) (tgt := 15) dX10_isWithin_11 (by decide) ?_
      obtain ⟨rfl, rfl⟩ := jretS h
      exact j_zret (pc := 15) (ws1 := ws) rfl dX10_isWithin_15 (by decide) (by decide) (show retZ 1 ws = some (1, ws) from rfl) rfl rfl
theorem hin_X8_at_X8 : ∀ w ∈ u_ws RX8 TX8 1, w ∈ wsX8_at := fun w h => List.mem_cons_of_mem _ (List.mem_append_right _ h)
theorem lk_X8_at_0 : Cond.fieldLink RX8 7 "Gaitwright$Row" "cells" "[I" ∈ wsX8_at := List.mem_cons_of_mem _ (List.mem_append_left _ (List.mem_of_getElem? (i := 0) rfl))
def m_X8_at (a0 : Nat) (i1 : Int32) (ws : LWd) : Option (Int32 × LWd) :=
  (rcv ws a0 8).bind fun _ =>
  if i1 < 0 then
    some (0, ws)
  else
    (fR ws a0 8 0).bind fun x2 =>
    (aL ws x2).bind fun x4 =>
    if x4 ≤ i1 then
      some (0, ws)
    else
      (fR ws a0 8 0).bind fun x7 =>
      (aI ws x7 i1).bind fun x9 =>
      some (x9, ws)
set_option maxRecDepth 100000 in
set_option maxHeartbeats 4000000 in
theorem s_X8_at {a0 : Nat} {i1 : Int32} {ws : LWd} {rr : Int32} {ws' : LWd} (h : m_X8_at a0 i1 ws = some (rr, ws')) : jSp yX8_at wsX8_at 0 0 0 [.ref a0, .int i1] ws (.inl (some (.int rr)), ws') := by
  unfold m_X8_at at h
  refine j_entry (ret := (some .int)) (nm := "at") (own := RX8) pl_X8 rfl rfl rfl (jcats (by rfl)) (by decide) ?_
  show JG false cX8_at 2 RX8 wsX8_at (some .int) "at" 0 0 0 ws.length (.inl (some (.int rr)), ws') 0 [some (.ref a0), some (.int i1)] [] ws 0 0
  obtain ⟨_, _, h⟩ := obS h
  refine j_iload_n (pc := 0) dX8_at_0 rfl ?_
  refine j_if_lt (pc := 1) (tgt := 22) dX8_at_1 (by decide) (fun c1 => ?_) (fun c1 => ?_)
  · rw [if_pos c1] at h
    refine j_iconst (pc := 22) dX8_at_22 (v := 0) (by decide) ?_
    obtain ⟨rfl, rfl⟩ := jretS h
    exact j_iret (pc := 23) rfl dX8_at_23 (by decide) (by decide) rfl
  · rw [if_neg c1] at h
    refine j_iload_n (pc := 4) dX8_at_4 rfl ?_
    refine j_aload_n (pc := 5) dX8_at_5 rfl ?_
    obtain ⟨x2, e3, h⟩ := obS h
    refine j_getR (pc := 6) dX8_at_6 (ci := 8) (kf := 0) rfl hin_X8_at_X8 (by decide) lk_X8_at_0 e3 ?_
    obtain ⟨x4, e5, h⟩ := obS h
    refine j_alen (pc := 9) dX8_at_9 e5 ?_
    refine j_icmp_ge (pc := 10) (tgt := 22) dX8_at_10 (by decide) (fun c6 => ?_) (fun c6 => ?_)
    · rw [if_pos c6] at h
      refine j_iconst (pc := 22) dX8_at_22 (v := 0) (by decide) ?_
      obtain ⟨rfl, rfl⟩ := jretS h
      exact j_iret (pc := 23) rfl dX8_at_23 (by decide) (by decide) rfl
    · rw [if_neg c6] at h
      refine j_aload_n (pc := 13) dX8_at_13 rfl ?_
      obtain ⟨x7, e8, h⟩ := obS h
      refine j_getR (pc := 14) dX8_at_14 (ci := 8) (kf := 0) rfl hin_X8_at_X8 (by decide) lk_X8_at_0 e8 ?_
      refine j_iload_n (pc := 17) dX8_at_17 rfl ?_
      obtain ⟨x9, e10, h⟩ := obS h
      refine j_iald (pc := 18) dX8_at_18 e10 ?_
      refine j_goto (pc := 19) (tgt := 23) dX8_at_19 (by decide) ?_
      obtain ⟨rfl, rfl⟩ := jretS h
      exact j_iret (pc := 23) rfl dX8_at_23 (by decide) (by decide) rfl
theorem r_X8_at {a0 : Nat} {i1 : Int32} {ws : LWd} {o : (Int32 × LWd)} (h : m_X8_at a0 i1 ws = some o) : ∃ fs, ws[a0]? = some (.inr (8, fs)) := rcv_in h
theorem hin_X9_isTaken_X9 : ∀ w ∈ u_ws RX9 TX9 6, w ∈ wsX9_isTaken := fun w h => List.mem_cons_of_mem _ (List.mem_append_left _ (List.mem_append_right _ h))
theorem lk_X9_isTaken_0 : Cond.fieldLink RX9 14 "Gaitwright$Stance" "feet" "LGaitwright$Row;" ∈ wsX9_isTaken := List.mem_cons_of_mem _ (List.mem_append_left _ (List.mem_append_left _ (List.mem_of_getElem? (i := 0) rfl)))
def m_X9_isTaken_b27 (k2 : Nat → Int32 → Int32 → Int32 → LWd → Option (Int32 × LWd)) (a0 : Nat) (i1 : Int32) (i2 : Int32) (i3 : Int32) (ws : LWd) : Option (Int32 × LWd) :=
  k2 a0 i1 i2 (i3 + 1) ws
set_option maxRecDepth 100000 in
set_option maxHeartbeats 4000000 in
theorem jm_X9_isTaken_b27 {n0 : Nat} {rr : Int32} {ws' : LWd} {k2 : Nat → Int32 → Int32 → Int32 → LWd → Option (Int32 × LWd)} (hk2 : ∀ (a0 : Nat) (i1 : Int32) (i2 : Int32) (i3 : Int32) (ws : LWd), k2 a0 i1 i2 i3 ws = some (rr, ws') → JG false cX9_isTaken 4 RX9 wsX9_isTaken (some .boolean) "isTaken" 1 0 0 n0 (.inl (some (.int rr)), ws') 2 [some (.ref a0), some (.int i1), some (.int i2), some (.int i3)] [] ws 0 0) (a0 : Nat) (i1 : Int32) (i2 : Int32) (i3 : Int32) (ws : LWd) (h : m_X9_isTaken_b27 k2 a0 i1 i2 i3 ws = some (rr, ws')) : JG false cX9_isTaken 4 RX9 wsX9_isTaken (some .boolean) "isTaken" 1 0 0 n0 (.inl (some (.int rr)), ws') 27 [some (.ref a0), some (.int i1), some (.int i2), some (.int i3)] [] ws 0 0 := by
  unfold m_X9_isTaken_b27 at h
  refine j_iinc_3 (pc := 27) dX9_isTaken_27 (y := i3 + 1) rfl (by decide) rfl ?_
  refine j_goto (pc := 30) (tgt := 2) dX9_isTaken_30 (by decide) ?_
  exact hk2 _ _ _ _ ws h
def m_X9_isTaken_l2 : Nat → Nat → Int32 → Int32 → Int32 → LWd → Option (Int32 × LWd)
  | 0, _, _, _, _, _ => none
  | fu + 1, a0, i1, i2, i3, ws =>
    if 6 ≤ i3 then
      some (0, ws)
    else
      if i3 = i2 then
        m_X9_isTaken_b27 (fun z0 z1 z2 z3 w => m_X9_isTaken_l2 fu z0 z1 z2 z3 w) a0 i1 i2 i3 ws
      else
        (fR ws a0 9 3).bind fun x3 =>
        bn2 (calSR ws (m_X8_at x3 i3 ws)) fun x7 w5 =>
        if x7 = i1 then
          some (1, w5)
        else
          m_X9_isTaken_b27 (fun z0 z1 z2 z3 w => m_X9_isTaken_l2 fu z0 z1 z2 z3 w) a0 i1 i2 i3 w5
set_option maxRecDepth 100000 in
set_option maxHeartbeats 4000000 in
theorem jm_X9_isTaken_l2 {n0 : Nat} {rr : Int32} {ws' : LWd} : ∀ (fu : Nat) (a0 : Nat) (i1 : Int32) (i2 : Int32) (i3 : Int32) (ws : LWd), m_X9_isTaken_l2 fu a0 i1 i2 i3 ws = some (rr, ws') → JG false cX9_isTaken 4 RX9 wsX9_isTaken (some .boolean) "isTaken" 1 0 0 n0 (.inl (some (.int rr)), ws') 2 [some (.ref a0), some (.int i1), some (.int i2), some (.int i3)] [] ws 0 0 := by
  intro fu
  induction fu with
  | zero => intro a0 i1 i2 i3 ws h; cases h
  | succ fu ih =>
    intro a0 i1 i2 i3 ws h
    rw [m_X9_isTaken_l2] at h
    refine j_iload_n (pc := 2) dX9_isTaken_2 rfl ?_
    refine j_bipush (pc := 3) dX9_isTaken_3 (v := 6) (by decide) ?_
    refine j_icmp_ge (pc := 5) (tgt := 33) dX9_isTaken_5 (by decide) (fun c1 => ?_) (fun c1 => ?_)
    · rw [if_pos c1] at h
      refine j_iconst (pc := 33) dX9_isTaken_33 (v := 0) (by decide) ?_
      obtain ⟨rfl, rfl⟩ := jretS h
      exact j_zret (pc := 34) (ws1 := ws) rfl dX9_isTaken_34 (by decide) (by decide) (show retZ 0 ws = some (0, ws) from rfl) rfl rfl
    · rw [if_neg c1] at h
      refine j_iload_n (pc := 8) dX9_isTaken_8 rfl ?_
      refine j_iload_n (pc := 9) dX9_isTaken_9 rfl ?_
      refine j_icmp_eq (pc := 10) (tgt := 27) dX9_isTaken_10 (by decide) (fun c2 => ?_) (fun c2 => ?_)
      · rw [if_pos c2] at h
        exact jm_X9_isTaken_b27 (hk2 := ih) _ _ _ _ ws h
      · rw [if_neg c2] at h
        refine j_aload_n (pc := 13) dX9_isTaken_13 rfl ?_
        obtain ⟨x3, e4, h⟩ := obS h
        refine j_getR (pc := 14) dX9_isTaken_14 (ci := 9) (kf := 3) rfl hin_X9_isTaken_X9 (by decide) lk_X9_isTaken_0 e4 ?_
        refine j_iload_n (pc := 17) dX9_isTaken_17 rfl ?_
        obtain ⟨x7, w5, e6, h⟩ := obS2 h
        have ge6 := calSR_of e6
        refine j_callV_g (pc := 18) (As := [.int i3]) (k' := 0) (n' := 0) dX9_isTaken_18 (s_X8_at ge6.1) gX9_isTaken_X8_at rfl hv_X8_at rfl (r_X8_at ge6.1) rfl (by decide) (by decide) (by decide) (by decide) (by decide) (by decide) (by decide) (Or.inl ge6.2) ?_
        refine j_iload_n (pc := 21) dX9_isTaken_21 rfl ?_
        refine j_icmp_ne (pc := 22) (tgt := 27) dX9_isTaken_22 (by decide) (fun c8 => ?_) (fun c8 => ?_)
        · rw [if_neg c8] at h
          exact jm_X9_isTaken_b27 (hk2 := ih) _ _ _ _ w5 h
        · rw [if_pos c8] at h
          refine j_iconst (pc := 25) dX9_isTaken_25 (v := 1) (by decide) ?_
          obtain ⟨rfl, rfl⟩ := jretS h
          exact j_zret (pc := 26) (ws1 := w5) rfl dX9_isTaken_26 (by decide) (by decide) (show retZ 1 w5 = some (1, w5) from rfl) rfl rfl
def m_X9_isTaken (a0 : Nat) (i1 : Int32) (i2 : Int32) (ws : LWd) : Option (Int32 × LWd) :=
  (rcv ws a0 9).bind fun _ =>
  m_X9_isTaken_l2 FU a0 i1 i2 0 ws
set_option maxRecDepth 100000 in
set_option maxHeartbeats 4000000 in
theorem s_X9_isTaken {a0 : Nat} {i1 : Int32} {i2 : Int32} {ws : LWd} {rr : Int32} {ws' : LWd} (h : m_X9_isTaken a0 i1 i2 ws = some (rr, ws')) : jSp yX9_isTaken wsX9_isTaken 1 0 0 [.ref a0, .int i1, .int i2] ws (.inl (some (.int rr)), ws') := by
  unfold m_X9_isTaken at h
  refine j_entry (ret := (some .boolean)) (nm := "isTaken") (own := RX9) pl_X9 rfl rfl rfl (jcats (by rfl)) (by decide) ?_
  show JG false cX9_isTaken 4 RX9 wsX9_isTaken (some .boolean) "isTaken" 1 0 0 ws.length (.inl (some (.int rr)), ws') 0 [some (.ref a0), some (.int i1), some (.int i2), none] [] ws 0 0
  obtain ⟨_, _, h⟩ := obS h
  refine j_iconst (pc := 0) dX9_isTaken_0 (v := 0) (by decide) ?_
  refine j_istore_n_3 (pc := 1) dX9_isTaken_1 (by decide) rfl ?_
  exact jm_X9_isTaken_l2 FU _ _ _ _ ws h
theorem r_X9_isTaken {a0 : Nat} {i1 : Int32} {i2 : Int32} {ws : LWd} {o : (Int32 × LWd)} (h : m_X9_isTaken a0 i1 i2 ws = some o) : ∃ fs, ws[a0]? = some (.inr (9, fs)) := rcv_in h
theorem hin_X8_put_X8 : ∀ w ∈ u_ws RX8 TX8 1, w ∈ wsX8_put := fun w h => List.mem_cons_of_mem _ (List.mem_append_right _ h)
theorem lk_X8_put_0 : Cond.fieldLink RX8 7 "Gaitwright$Row" "cells" "[I" ∈ wsX8_put := List.mem_cons_of_mem _ (List.mem_append_left _ (List.mem_of_getElem? (i := 0) rfl))
def m_X8_put (a0 : Nat) (i1 : Int32) (i2 : Int32) (ws : LWd) : Option LWd :=
  (rcv ws a0 8).bind fun _ =>
  if i1 < 0 then
    some ws
  else
    (fR ws a0 8 0).bind fun x2 =>
    (aL ws x2).bind fun x4 =>
    if x4 ≤ i1 then
      some ws
    else
      (fR ws a0 8 0).bind fun x7 =>
      (sI ws x7 i1 i2).bind fun w9 =>
      some w9
set_option maxRecDepth 100000 in
set_option maxHeartbeats 4000000 in
theorem s_X8_put {a0 : Nat} {i1 : Int32} {i2 : Int32} {ws : LWd} {ws' : LWd} (h : m_X8_put a0 i1 i2 ws = some ws') : jSp yX8_put wsX8_put 0 0 0 [.ref a0, .int i1, .int i2] ws (.inl none, ws') := by
  unfold m_X8_put at h
  refine j_entry (ret := none) (nm := "put") (own := RX8) pl_X8 rfl rfl rfl (jcats (by rfl)) (by decide) ?_
  show JG false cX8_put 3 RX8 wsX8_put none "put" 0 0 0 ws.length (.inl none, ws') 0 [some (.ref a0), some (.int i1), some (.int i2)] [] ws 0 0
  obtain ⟨_, _, h⟩ := obS h
  refine j_iload_n (pc := 0) dX8_put_0 rfl ?_
  refine j_if_lt (pc := 1) (tgt := 20) dX8_put_1 (by decide) (fun c1 => ?_) (fun c1 => ?_)
  · rw [if_pos c1] at h
    cases h
    exact j_vret (pc := 20) rfl dX8_put_20 (by decide) (by decide) rfl
  · rw [if_neg c1] at h
    refine j_iload_n (pc := 4) dX8_put_4 rfl ?_
    refine j_aload_n (pc := 5) dX8_put_5 rfl ?_
    obtain ⟨x2, e3, h⟩ := obS h
    refine j_getR (pc := 6) dX8_put_6 (ci := 8) (kf := 0) rfl hin_X8_put_X8 (by decide) lk_X8_put_0 e3 ?_
    obtain ⟨x4, e5, h⟩ := obS h
    refine j_alen (pc := 9) dX8_put_9 e5 ?_
    refine j_icmp_ge (pc := 10) (tgt := 20) dX8_put_10 (by decide) (fun c6 => ?_) (fun c6 => ?_)
    · rw [if_pos c6] at h
      cases h
      exact j_vret (pc := 20) rfl dX8_put_20 (by decide) (by decide) rfl
    · rw [if_neg c6] at h
      refine j_aload_n (pc := 13) dX8_put_13 rfl ?_
      obtain ⟨x7, e8, h⟩ := obS h
      refine j_getR (pc := 14) dX8_put_14 (ci := 8) (kf := 0) rfl hin_X8_put_X8 (by decide) lk_X8_put_0 e8 ?_
      refine j_iload_n (pc := 17) dX8_put_17 rfl ?_
      refine j_iload_n (pc := 18) dX8_put_18 rfl ?_
      obtain ⟨w9, e10, h⟩ := obS h
      refine j_iast (pc := 19) dX8_put_19 e10 ?_
      cases h
      exact j_vret (pc := 20) rfl dX8_put_20 (by decide) (by decide) rfl
theorem r_X8_put {a0 : Nat} {i1 : Int32} {i2 : Int32} {ws : LWd} {o : LWd} (h : m_X8_put a0 i1 i2 ws = some o) : ∃ fs, ws[a0]? = some (.inr (8, fs)) := rcv_in h
theorem lk_X10_ground_0 : Cond.classLink RX10 89 "java/lang/IllegalArgumentException" ∈ wsX10_ground := List.mem_cons_of_mem _ (List.mem_append_left _ (List.mem_append_left _ (List.mem_append_left _ (List.mem_append_left _ (List.mem_append_left _ (List.mem_append_left _ (List.mem_append_left _ (List.mem_of_getElem? (i := 0) rfl))))))))
theorem lk_X10_ground_1 : Cond.initialized "java/lang/IllegalArgumentException" ∈ wsX10_ground := List.mem_cons_of_mem _ (List.mem_append_left _ (List.mem_append_left _ (List.mem_append_left _ (List.mem_append_left _ (List.mem_append_left _ (List.mem_append_left _ (List.mem_append_left _ (List.mem_of_getElem? (i := 1) rfl))))))))
theorem hin_X10_ground_X10 : ∀ w ∈ u_ws RX10 TX10 11, w ∈ wsX10_ground := fun w h => List.mem_cons_of_mem _ (List.mem_append_left _ (List.mem_append_left _ (List.mem_append_left _ (List.mem_append_left _ (List.mem_append_left _ (List.mem_append_right _ h))))))
theorem lk_X10_ground_2 : Cond.fieldLink RX10 31 "Gaitwright" "stance" "LGaitwright$Stance;" ∈ wsX10_ground := List.mem_cons_of_mem _ (List.mem_append_left _ (List.mem_append_left _ (List.mem_append_left _ (List.mem_append_left _ (List.mem_append_left _ (List.mem_append_left _ (List.mem_append_left _ (List.mem_of_getElem? (i := 4) rfl))))))))
theorem lk_X10_ground_3 : Cond.fieldLink RX10 15 "Gaitwright" "land" "LGaitwright$Land;" ∈ wsX10_ground := List.mem_cons_of_mem _ (List.mem_append_left _ (List.mem_append_left _ (List.mem_append_left _ (List.mem_append_left _ (List.mem_append_left _ (List.mem_append_left _ (List.mem_append_left _ (List.mem_of_getElem? (i := 5) rfl))))))))
theorem hin_X10_ground_X5 : ∀ w ∈ u_ws RX5 TX5 4, w ∈ wsX10_ground := fun w h => List.mem_cons_of_mem _ (List.mem_append_left _ (List.mem_append_left _ (List.mem_append_left _ (List.mem_append_left _ (List.mem_append_right _ h)))))
theorem lk_X10_ground_4 : Cond.fieldLink RX10 105 "Gaitwright$Land" "height" "LGaitwright$Row;" ∈ wsX10_ground := List.mem_cons_of_mem _ (List.mem_append_left _ (List.mem_append_left _ (List.mem_append_left _ (List.mem_append_left _ (List.mem_append_left _ (List.mem_append_left _ (List.mem_append_left _ (List.mem_of_getElem? (i := 6) rfl))))))))
theorem lk_X10_ground_5 : Cond.fieldLink RX10 119 "Gaitwright$Land" "firmness" "LGaitwright$Row;" ∈ wsX10_ground := List.mem_cons_of_mem _ (List.mem_append_left _ (List.mem_append_left _ (List.mem_append_left _ (List.mem_append_left _ (List.mem_append_left _ (List.mem_append_left _ (List.mem_append_left _ (List.mem_of_getElem? (i := 7) rfl))))))))
theorem lk_X10_ground_6 : Cond.fieldLink RX10 122 "Gaitwright$Land" "grip" "LGaitwright$Row;" ∈ wsX10_ground := List.mem_cons_of_mem _ (List.mem_append_left _ (List.mem_append_left _ (List.mem_append_left _ (List.mem_append_left _ (List.mem_append_left _ (List.mem_append_left _ (List.mem_append_left _ (List.mem_of_getElem? (i := 8) rfl))))))))
theorem lk_X10_ground_7 : Cond.classLink RX10 100 "java/lang/IllegalStateException" ∈ wsX10_ground := List.mem_cons_of_mem _ (List.mem_append_left _ (List.mem_append_left _ (List.mem_append_left _ (List.mem_append_left _ (List.mem_append_left _ (List.mem_append_left _ (List.mem_append_left _ (List.mem_of_getElem? (i := 2) rfl))))))))
theorem lk_X10_ground_8 : Cond.initialized "java/lang/IllegalStateException" ∈ wsX10_ground := List.mem_cons_of_mem _ (List.mem_append_left _ (List.mem_append_left _ (List.mem_append_left _ (List.mem_append_left _ (List.mem_append_left _ (List.mem_append_left _ (List.mem_append_left _ (List.mem_of_getElem? (i := 3) rfl))))))))
def m_X10_ground_b45 (ws : LWd) : Option ((Int32 ⊕ String) × LWd) :=
  some (.inr "java/lang/IllegalArgumentException", ws)
set_option maxRecDepth 100000 in
set_option maxHeartbeats 4000000 in
theorem jm_X10_ground_b45 {n0 : Nat} {rr : Int32 ⊕ String} {ws' : LWd} (ws : LWd) (hn0 : ws.length = n0) (h : m_X10_ground_b45 ws = some (rr, ws')) : JG true cX10_ground 8 RX10 wsX10_ground (some .int) "ground" 6 1 6 n0 (jthr rr, ws') 45 [none, none, none, none, none, none, none, none] [] ws 0 0 := by
  unfold m_X10_ground_b45 at h
  obtain ⟨rfl, rfl⟩ := jretS h
  exact j_throw (pc := 45) (text := "no such point, or no such ground") rfl rfl dX10_ground_45 dX10_ground_48 dX10_ground_49 dX10_ground_51 dX10_ground_54 (List.mem_of_getElem? (i := 0) rfl) (List.mem_of_getElem? (i := 0) rfl) (jfit _ (List.mem_of_getElem? (i := 0) rfl)) lk_X10_ground_0 lk_X10_ground_1 (fun w h => List.mem_cons_of_mem _ (List.mem_append_left _ (List.mem_append_right _ h))) jgo_93 (by decide) (by decide) (by decide) (by decide) (by omega) rfl
def m_X10_ground (a0 : Nat) (i1 : Int32) (i2 : Int32) (i3 : Int32) (i4 : Int32) (i5 : Int32) (ws : LWd) : Option ((Int32 ⊕ String) × LWd) :=
  (rcv ws a0 10).bind fun _ =>
  bn2 (calSR ws (m_X10_pointAt i1 i2 ws)) fun x3 w1 =>
  if x3 = ((-1)) then
    m_X10_ground_b45  w1
  else
    bn2 (calSR w1 (m_X10_isWithin i3 0 9 w1)) fun x7 w5 =>
    if x7 = 0 then
      m_X10_ground_b45  w5
    else
      bn2 (calSR w5 (m_X10_isWithin i4 0 99 w5)) fun x11 w9 =>
      if x11 = 0 then
        m_X10_ground_b45  w9
      else
        bn2 (calSR w9 (m_X10_isWithin i5 0 9 w9)) fun x15 w13 =>
        if x15 = 0 then
          m_X10_ground_b45  w13
        else
          (fR w13 a0 10 2).bind fun x17 =>
          bn2 (calSR w13 (m_X9_isTaken x17 x3 ((-1)) w13)) fun x21 w19 =>
          if x21 = 0 then
            (fR w19 a0 10 0).bind fun x23 =>
            (fR w19 x23 5 0).bind fun x25 =>
            bn2 (calSR w19 (m_X8_at x25 x3 w19)) fun x29 w27 =>
            (fR w27 a0 10 0).bind fun x30 =>
            (fR w27 x30 5 0).bind fun x32 =>
            (calSV w27 (m_X8_put x32 x3 i3 w27)).bind fun w34 =>
            (fR w34 a0 10 0).bind fun x36 =>
            (fR w34 x36 5 1).bind fun x38 =>
            (calSV w34 (m_X8_put x38 x3 i4 w34)).bind fun w40 =>
            (fR w40 a0 10 0).bind fun x42 =>
            (fR w40 x42 5 2).bind fun x44 =>
            (calSV w40 (m_X8_put x44 x3 i5 w40)).bind fun w46 =>
            some (.inl x29, w46)
          else
            some (.inr "java/lang/IllegalStateException", w19)
set_option maxRecDepth 100000 in
set_option maxHeartbeats 4000000 in
theorem s_X10_ground {a0 : Nat} {i1 : Int32} {i2 : Int32} {i3 : Int32} {i4 : Int32} {i5 : Int32} {ws : LWd} {rr : Int32 ⊕ String} {ws' : LWd} (h : m_X10_ground a0 i1 i2 i3 i4 i5 ws = some (rr, ws')) : jSX yX10_ground wsX10_ground 6 1 6 [.ref a0, .int i1, .int i2, .int i3, .int i4, .int i5] ws (jthr rr, ws') := by
  unfold m_X10_ground at h
  refine j_entryX (ret := (some .int)) (nm := "ground") (own := RX10) pl_X10 rfl rfl rfl (jcats (by rfl)) (by decide) ?_
  show JG true cX10_ground 8 RX10 wsX10_ground (some .int) "ground" 6 1 6 ws.length (jthr rr, ws') 0 [some (.ref a0), some (.int i1), some (.int i2), some (.int i3), some (.int i4), some (.int i5), none, none] [] ws 0 0
  obtain ⟨_, _, h⟩ := obS h
  refine j_iload_n (pc := 0) dX10_ground_0 rfl ?_
  refine j_iload_n (pc := 1) dX10_ground_1 rfl ?_
  obtain ⟨x3, w1, e2, h⟩ := obS2 h
  have ge2 := calSR_of e2
  have le2 := ge2.2
  refine j_callS_g (pc := 2) (As := [.int i1, .int i2]) (k' := 0) (n' := 0) dX10_ground_2 (s_X10_pointAt ge2.1) gX10_ground_X10_pointAt rfl hy_X10_pointAt rfl (by decide) (by decide) (by decide) (by decide) (by decide) (by decide) (by decide) (Or.inl ge2.2) ?_
  refine j_istore_6 (pc := 5) dX10_ground_5 (by decide) rfl ?_
  refine j_iload (pc := 7) dX10_ground_7 rfl ?_
  refine j_iconst (pc := 9) dX10_ground_9 (v := (-1)) (by decide) ?_
  refine j_icmp_eq (pc := 10) (tgt := 45) dX10_ground_10 (by decide) (fun c4 => ?_) (fun c4 => ?_)
  · rw [if_pos c4] at h
    refine j_mask [false, false, false, false, false, false, false, false] ?_
    exact jm_X10_ground_b45 w1 (by omega) h
  · rw [if_neg c4] at h
    refine j_iload_n (pc := 13) dX10_ground_13 rfl ?_
    refine j_iconst (pc := 14) dX10_ground_14 (v := 0) (by decide) ?_
    refine j_bipush (pc := 15) dX10_ground_15 (v := 9) (by decide) ?_
    obtain ⟨x7, w5, e6, h⟩ := obS2 h
    have ge6 := calSR_of e6
    have le6 := ge6.2
    refine j_callS_g (pc := 17) (As := [.int i3, .int 0, .int 9]) (k' := 0) (n' := 0) dX10_ground_17 (s_X10_isWithin ge6.1) gX10_ground_X10_isWithin rfl hy_X10_isWithin rfl (by decide) (by decide) (by decide) (by decide) (by decide) (by decide) (by decide) (Or.inl ge6.2) ?_
    refine j_if_eq (pc := 20) (tgt := 45) dX10_ground_20 (by decide) (fun c8 => ?_) (fun c8 => ?_)
    · rw [if_pos c8] at h
      refine j_mask [false, false, false, false, false, false, false, false] ?_
      exact jm_X10_ground_b45 w5 (by omega) h
    · rw [if_neg c8] at h
      refine j_iload (pc := 23) dX10_ground_23 rfl ?_
      refine j_iconst (pc := 25) dX10_ground_25 (v := 0) (by decide) ?_
      refine j_bipush (pc := 26) dX10_ground_26 (v := 99) (by decide) ?_
      obtain ⟨x11, w9, e10, h⟩ := obS2 h
      have ge10 := calSR_of e10
      have le10 := ge10.2
      refine j_callS_g (pc := 28) (As := [.int i4, .int 0, .int 99]) (k' := 0) (n' := 0) dX10_ground_28 (s_X10_isWithin ge10.1) gX10_ground_X10_isWithin rfl hy_X10_isWithin rfl (by decide) (by decide) (by decide) (by decide) (by decide) (by decide) (by decide) (Or.inl ge10.2) ?_
      refine j_if_eq (pc := 31) (tgt := 45) dX10_ground_31 (by decide) (fun c12 => ?_) (fun c12 => ?_)
      · rw [if_pos c12] at h
        refine j_mask [false, false, false, false, false, false, false, false] ?_
        exact jm_X10_ground_b45 w9 (by omega) h
      · rw [if_neg c12] at h
        refine j_iload (pc := 34) dX10_ground_34 rfl ?_
        refine j_iconst (pc := 36) dX10_ground_36 (v := 0) (by decide) ?_
        refine j_bipush (pc := 37) dX10_ground_37 (v := 9) (by decide) ?_
        obtain ⟨x15, w13, e14, h⟩ := obS2 h
        have ge14 := calSR_of e14
        have le14 := ge14.2
        refine j_callS_g (pc := 39) (As := [.int i5, .int 0, .int 9]) (k' := 0) (n' := 0) dX10_ground_39 (s_X10_isWithin ge14.1) gX10_ground_X10_isWithin rfl hy_X10_isWithin rfl (by decide) (by decide) (by decide) (by decide) (by decide) (by decide) (by decide) (Or.inl ge14.2) ?_
        refine j_if_ne (pc := 42) (tgt := 55) dX10_ground_42 (by decide) (fun c16 => ?_) (fun c16 => ?_)
        · rw [if_neg c16] at h
          refine j_aload_n (pc := 55) dX10_ground_55 rfl ?_
          obtain ⟨x17, e18, h⟩ := obS h
          refine j_getR (pc := 56) dX10_ground_56 (ci := 10) (kf := 2) rfl hin_X10_ground_X10 (by decide) lk_X10_ground_2 e18 ?_
          refine j_iload (pc := 59) dX10_ground_59 rfl ?_
          refine j_iconst (pc := 61) dX10_ground_61 (v := (-1)) (by decide) ?_
          obtain ⟨x21, w19, e20, h⟩ := obS2 h
          have ge20 := calSR_of e20
          have le20 := ge20.2
          refine j_callV_g (pc := 62) (As := [.int x3, .int ((-1))]) (k' := 0) (n' := 0) dX10_ground_62 (s_X9_isTaken ge20.1) gX10_ground_X9_isTaken rfl hv_X9_isTaken rfl (r_X9_isTaken ge20.1) rfl (by decide) (by decide) (by decide) (by decide) (by decide) (by decide) (by decide) (Or.inl ge20.2) ?_
          refine j_if_eq (pc := 65) (tgt := 78) dX10_ground_65 (by decide) (fun c22 => ?_) (fun c22 => ?_)
          · rw [if_pos c22] at h
            refine j_aload_n (pc := 78) dX10_ground_78 rfl ?_
            obtain ⟨x23, e24, h⟩ := obS h
            refine j_getR (pc := 79) dX10_ground_79 (ci := 10) (kf := 0) rfl hin_X10_ground_X10 (by decide) lk_X10_ground_3 e24 ?_
            obtain ⟨x25, e26, h⟩ := obS h
            refine j_getR (pc := 82) dX10_ground_82 (ci := 5) (kf := 0) rfl hin_X10_ground_X5 (by decide) lk_X10_ground_4 e26 ?_
            refine j_iload (pc := 85) dX10_ground_85 rfl ?_
            obtain ⟨x29, w27, e28, h⟩ := obS2 h
            have ge28 := calSR_of e28
            have le28 := ge28.2
            refine j_callV_g (pc := 87) (As := [.int x3]) (k' := 0) (n' := 0) dX10_ground_87 (s_X8_at ge28.1) gX10_ground_X8_at rfl hv_X8_at rfl (r_X8_at ge28.1) rfl (by decide) (by decide) (by decide) (by decide) (by decide) (by decide) (by decide) (Or.inl ge28.2) ?_
            refine j_istore_7 (pc := 90) dX10_ground_90 (by decide) rfl ?_
            refine j_aload_n (pc := 92) dX10_ground_92 rfl ?_
            obtain ⟨x30, e31, h⟩ := obS h
            refine j_getR (pc := 93) dX10_ground_93 (ci := 10) (kf := 0) rfl hin_X10_ground_X10 (by decide) lk_X10_ground_3 e31 ?_
            obtain ⟨x32, e33, h⟩ := obS h
            refine j_getR (pc := 96) dX10_ground_96 (ci := 5) (kf := 0) rfl hin_X10_ground_X5 (by decide) lk_X10_ground_4 e33 ?_
            refine j_iload (pc := 99) dX10_ground_99 rfl ?_
            refine j_iload_n (pc := 101) dX10_ground_101 rfl ?_
            obtain ⟨w34, e35, h⟩ := obS h
            have ge35 := calSV_of e35
            have le35 := ge35.2
            refine j_callV_g (pc := 102) (As := [.int x3, .int i3]) (k' := 0) (n' := 0) dX10_ground_102 (s_X8_put ge35.1) gX10_ground_X8_put rfl hv_X8_put rfl (r_X8_put ge35.1) rfl (by decide) (by decide) (by decide) (by decide) (by decide) (by decide) (by decide) (Or.inl ge35.2) ?_
            refine j_aload_n (pc := 105) dX10_ground_105 rfl ?_
            obtain ⟨x36, e37, h⟩ := obS h
            refine j_getR (pc := 106) dX10_ground_106 (ci := 10) (kf := 0) rfl hin_X10_ground_X10 (by decide) lk_X10_ground_3 e37 ?_
            obtain ⟨x38, e39, h⟩ := obS h
            refine j_getR (pc := 109) dX10_ground_109 (ci := 5) (kf := 1) rfl hin_X10_ground_X5 (by decide) lk_X10_ground_5 e39 ?_
            refine j_iload (pc := 112) dX10_ground_112 rfl ?_
            refine j_iload (pc := 114) dX10_ground_114 rfl ?_
            obtain ⟨w40, e41, h⟩ := obS h
            have ge41 := calSV_of e41
            have le41 := ge41.2
            refine j_callV_g (pc := 116) (As := [.int x3, .int i4]) (k' := 0) (n' := 0) dX10_ground_116 (s_X8_put ge41.1) gX10_ground_X8_put rfl hv_X8_put rfl (r_X8_put ge41.1) rfl (by decide) (by decide) (by decide) (by decide) (by decide) (by decide) (by decide) (Or.inl ge41.2) ?_
            refine j_aload_n (pc := 119) dX10_ground_119 rfl ?_
            obtain ⟨x42, e43, h⟩ := obS h
            refine j_getR (pc := 120) dX10_ground_120 (ci := 10) (kf := 0) rfl hin_X10_ground_X10 (by decide) lk_X10_ground_3 e43 ?_
            obtain ⟨x44, e45, h⟩ := obS h
            refine j_getR (pc := 123) dX10_ground_123 (ci := 5) (kf := 2) rfl hin_X10_ground_X5 (by decide) lk_X10_ground_6 e45 ?_
            refine j_iload (pc := 126) dX10_ground_126 rfl ?_
            refine j_iload (pc := 128) dX10_ground_128 rfl ?_
            obtain ⟨w46, e47, h⟩ := obS h
            have ge47 := calSV_of e47
            have le47 := ge47.2
            refine j_callV_g (pc := 130) (As := [.int x3, .int i5]) (k' := 0) (n' := 0) dX10_ground_130 (s_X8_put ge47.1) gX10_ground_X8_put rfl hv_X8_put rfl (r_X8_put ge47.1) rfl (by decide) (by decide) (by decide) (by decide) (by decide) (by decide) (by decide) (Or.inl ge47.2) ?_
            refine j_iload (pc := 133) dX10_ground_133 rfl ?_
            obtain ⟨rfl, rfl⟩ := jretS h
            exact j_iret (pc := 135) rfl dX10_ground_135 (by decide) (by decide) rfl
          · rw [if_neg c22] at h
            obtain ⟨rfl, rfl⟩ := jretS h
            exact j_throw (pc := 68) (text := "a foot is down there") rfl rfl dX10_ground_68 dX10_ground_71 dX10_ground_72 dX10_ground_74 dX10_ground_77 (List.mem_of_getElem? (i := 1) rfl) (List.mem_of_getElem? (i := 1) rfl) (jfit _ (List.mem_of_getElem? (i := 1) rfl)) lk_X10_ground_7 lk_X10_ground_8 (fun w h => List.mem_cons_of_mem _ (List.mem_append_right _ h)) jgo_104 (by decide) (by decide) (by decide) (by decide) (by omega) rfl
        · rw [if_pos c16] at h
          refine j_mask [false, false, false, false, false, false, false, false] ?_
          exact jm_X10_ground_b45 w13 (by omega) h
theorem r_X10_ground {a0 : Nat} {i1 : Int32} {i2 : Int32} {i3 : Int32} {i4 : Int32} {i5 : Int32} {ws : LWd} {o : ((Int32 ⊕ String) × LWd)} (h : m_X10_ground a0 i1 i2 i3 i4 i5 ws = some o) : ∃ fs, ws[a0]? = some (.inr (10, fs)) := rcv_in h
theorem lk_X10_chart_0 : Cond.classLink RX10 89 "java/lang/IllegalArgumentException" ∈ wsX10_chart := List.mem_cons_of_mem _ (List.mem_append_left _ (List.mem_append_left _ (List.mem_append_left _ (List.mem_append_left _ (List.mem_of_getElem? (i := 0) rfl)))))
theorem lk_X10_chart_1 : Cond.initialized "java/lang/IllegalArgumentException" ∈ wsX10_chart := List.mem_cons_of_mem _ (List.mem_append_left _ (List.mem_append_left _ (List.mem_append_left _ (List.mem_append_left _ (List.mem_of_getElem? (i := 1) rfl)))))
theorem hin_X10_chart_X10 : ∀ w ∈ u_ws RX10 TX10 11, w ∈ wsX10_chart := fun w h => List.mem_cons_of_mem _ (List.mem_append_left _ (List.mem_append_left _ (List.mem_append_left _ (List.mem_append_right _ h))))
theorem lk_X10_chart_2 : Cond.fieldLink RX10 15 "Gaitwright" "land" "LGaitwright$Land;" ∈ wsX10_chart := List.mem_cons_of_mem _ (List.mem_append_left _ (List.mem_append_left _ (List.mem_append_left _ (List.mem_append_left _ (List.mem_of_getElem? (i := 2) rfl)))))
theorem hin_X10_chart_X5 : ∀ w ∈ u_ws RX5 TX5 4, w ∈ wsX10_chart := fun w h => List.mem_cons_of_mem _ (List.mem_append_left _ (List.mem_append_left _ (List.mem_append_right _ h)))
theorem lk_X10_chart_3 : Cond.fieldLink RX10 127 "Gaitwright$Land" "mapped" "LGaitwright$Row;" ∈ wsX10_chart := List.mem_cons_of_mem _ (List.mem_append_left _ (List.mem_append_left _ (List.mem_append_left _ (List.mem_append_left _ (List.mem_of_getElem? (i := 3) rfl)))))
def m_X10_chart_b23 (ws : LWd) : Option ((Int32 ⊕ String) × LWd) :=
  some (.inr "java/lang/IllegalArgumentException", ws)
set_option maxRecDepth 100000 in
set_option maxHeartbeats 4000000 in
theorem jm_X10_chart_b23 {n0 : Nat} {rr : Int32 ⊕ String} {ws' : LWd} (ws : LWd) (hn0 : ws.length = n0) (h : m_X10_chart_b23 ws = some (rr, ws')) : JG true cX10_chart 6 RX10 wsX10_chart (some .int) "chart" 6 1 6 n0 (jthr rr, ws') 23 [none, none, none, none, none, none] [] ws 0 0 := by
  unfold m_X10_chart_b23 at h
  obtain ⟨rfl, rfl⟩ := jretS h
  exact j_throw (pc := 23) (text := "no such point, or no such height") rfl rfl dX10_chart_23 dX10_chart_26 dX10_chart_27 dX10_chart_29 dX10_chart_32 (List.mem_of_getElem? (i := 2) rfl) (List.mem_of_getElem? (i := 0) rfl) (jfit _ (List.mem_of_getElem? (i := 0) rfl)) lk_X10_chart_0 lk_X10_chart_1 (fun w h => List.mem_cons_of_mem _ (List.mem_append_right _ h)) jgo_93 (by decide) (by decide) (by decide) (by decide) (by omega) rfl
def m_X10_chart (a0 : Nat) (i1 : Int32) (i2 : Int32) (i3 : Int32) (ws : LWd) : Option ((Int32 ⊕ String) × LWd) :=
  (rcv ws a0 10).bind fun _ =>
  bn2 (calSR ws (m_X10_pointAt i1 i2 ws)) fun x3 w1 =>
  if x3 = ((-1)) then
    m_X10_chart_b23  w1
  else
    bn2 (calSR w1 (m_X10_isWithin i3 0 9 w1)) fun x7 w5 =>
    if x7 = 0 then
      m_X10_chart_b23  w5
    else
      (fR w5 a0 10 0).bind fun x9 =>
      (fR w5 x9 5 3).bind fun x11 =>
      bn2 (calSR w5 (m_X8_at x11 x3 w5)) fun x15 w13 =>
      (fR w13 a0 10 0).bind fun x16 =>
      (fR w13 x16 5 3).bind fun x18 =>
      (calSV w13 (m_X8_put x18 x3 i3 w13)).bind fun w20 =>
      some (.inl x15, w20)
set_option maxRecDepth 100000 in
set_option maxHeartbeats 4000000 in
theorem s_X10_chart {a0 : Nat} {i1 : Int32} {i2 : Int32} {i3 : Int32} {ws : LWd} {rr : Int32 ⊕ String} {ws' : LWd} (h : m_X10_chart a0 i1 i2 i3 ws = some (rr, ws')) : jSX yX10_chart wsX10_chart 6 1 6 [.ref a0, .int i1, .int i2, .int i3] ws (jthr rr, ws') := by
  unfold m_X10_chart at h
  refine j_entryX (ret := (some .int)) (nm := "chart") (own := RX10) pl_X10 rfl rfl rfl (jcats (by rfl)) (by decide) ?_
  show JG true cX10_chart 6 RX10 wsX10_chart (some .int) "chart" 6 1 6 ws.length (jthr rr, ws') 0 [some (.ref a0), some (.int i1), some (.int i2), some (.int i3), none, none] [] ws 0 0
  obtain ⟨_, _, h⟩ := obS h
  refine j_iload_n (pc := 0) dX10_chart_0 rfl ?_
  refine j_iload_n (pc := 1) dX10_chart_1 rfl ?_
  obtain ⟨x3, w1, e2, h⟩ := obS2 h
  have ge2 := calSR_of e2
  have le2 := ge2.2
  refine j_callS_g (pc := 2) (As := [.int i1, .int i2]) (k' := 0) (n' := 0) dX10_chart_2 (s_X10_pointAt ge2.1) gX10_chart_X10_pointAt rfl hy_X10_pointAt rfl (by decide) (by decide) (by decide) (by decide) (by decide) (by decide) (by decide) (Or.inl ge2.2) ?_
  refine j_istore_4 (pc := 5) dX10_chart_5 (by decide) rfl ?_
  refine j_iload (pc := 7) dX10_chart_7 rfl ?_
  refine j_iconst (pc := 9) dX10_chart_9 (v := (-1)) (by decide) ?_
  refine j_icmp_eq (pc := 10) (tgt := 23) dX10_chart_10 (by decide) (fun c4 => ?_) (fun c4 => ?_)
  · rw [if_pos c4] at h
    refine j_mask [false, false, false, false, false, false] ?_
    exact jm_X10_chart_b23 w1 (by omega) h
  · rw [if_neg c4] at h
    refine j_iload_n (pc := 13) dX10_chart_13 rfl ?_
    refine j_iconst (pc := 14) dX10_chart_14 (v := 0) (by decide) ?_
    refine j_bipush (pc := 15) dX10_chart_15 (v := 9) (by decide) ?_
    obtain ⟨x7, w5, e6, h⟩ := obS2 h
    have ge6 := calSR_of e6
    have le6 := ge6.2
    refine j_callS_g (pc := 17) (As := [.int i3, .int 0, .int 9]) (k' := 0) (n' := 0) dX10_chart_17 (s_X10_isWithin ge6.1) gX10_chart_X10_isWithin rfl hy_X10_isWithin rfl (by decide) (by decide) (by decide) (by decide) (by decide) (by decide) (by decide) (Or.inl ge6.2) ?_
    refine j_if_ne (pc := 20) (tgt := 33) dX10_chart_20 (by decide) (fun c8 => ?_) (fun c8 => ?_)
    · rw [if_neg c8] at h
      refine j_aload_n (pc := 33) dX10_chart_33 rfl ?_
      obtain ⟨x9, e10, h⟩ := obS h
      refine j_getR (pc := 34) dX10_chart_34 (ci := 10) (kf := 0) rfl hin_X10_chart_X10 (by decide) lk_X10_chart_2 e10 ?_
      obtain ⟨x11, e12, h⟩ := obS h
      refine j_getR (pc := 37) dX10_chart_37 (ci := 5) (kf := 3) rfl hin_X10_chart_X5 (by decide) lk_X10_chart_3 e12 ?_
      refine j_iload (pc := 40) dX10_chart_40 rfl ?_
      obtain ⟨x15, w13, e14, h⟩ := obS2 h
      have ge14 := calSR_of e14
      have le14 := ge14.2
      refine j_callV_g (pc := 42) (As := [.int x3]) (k' := 0) (n' := 0) dX10_chart_42 (s_X8_at ge14.1) gX10_chart_X8_at rfl hv_X8_at rfl (r_X8_at ge14.1) rfl (by decide) (by decide) (by decide) (by decide) (by decide) (by decide) (by decide) (Or.inl ge14.2) ?_
      refine j_istore_5 (pc := 45) dX10_chart_45 (by decide) rfl ?_
      refine j_aload_n (pc := 47) dX10_chart_47 rfl ?_
      obtain ⟨x16, e17, h⟩ := obS h
      refine j_getR (pc := 48) dX10_chart_48 (ci := 10) (kf := 0) rfl hin_X10_chart_X10 (by decide) lk_X10_chart_2 e17 ?_
      obtain ⟨x18, e19, h⟩ := obS h
      refine j_getR (pc := 51) dX10_chart_51 (ci := 5) (kf := 3) rfl hin_X10_chart_X5 (by decide) lk_X10_chart_3 e19 ?_
      refine j_iload (pc := 54) dX10_chart_54 rfl ?_
      refine j_iload_n (pc := 56) dX10_chart_56 rfl ?_
      obtain ⟨w20, e21, h⟩ := obS h
      have ge21 := calSV_of e21
      have le21 := ge21.2
      refine j_callV_g (pc := 57) (As := [.int x3, .int i3]) (k' := 0) (n' := 0) dX10_chart_57 (s_X8_put ge21.1) gX10_chart_X8_put rfl hv_X8_put rfl (r_X8_put ge21.1) rfl (by decide) (by decide) (by decide) (by decide) (by decide) (by decide) (by decide) (Or.inl ge21.2) ?_
      refine j_iload (pc := 60) dX10_chart_60 rfl ?_
      obtain ⟨rfl, rfl⟩ := jretS h
      exact j_iret (pc := 62) rfl dX10_chart_62 (by decide) (by decide) rfl
    · rw [if_pos c8] at h
      refine j_mask [false, false, false, false, false, false] ?_
      exact jm_X10_chart_b23 w5 (by omega) h
theorem r_X10_chart {a0 : Nat} {i1 : Int32} {i2 : Int32} {i3 : Int32} {ws : LWd} {o : ((Int32 ⊕ String) × LWd)} (h : m_X10_chart a0 i1 i2 i3 ws = some o) : ∃ fs, ws[a0]? = some (.inr (10, fs)) := rcv_in h
def m_X10_isAside (i0 : Int32) (ws : LWd) : Option (Int32 × LWd) :=
  bn2 (calSR ws (m_X10_isWithin i0 ((-5)) 5 ws)) fun x3 w1 =>
  retZ x3 w1
set_option maxRecDepth 100000 in
set_option maxHeartbeats 4000000 in
theorem s_X10_isAside {i0 : Int32} {ws : LWd} {rr : Int32} {ws' : LWd} (h : m_X10_isAside i0 ws = some (rr, ws')) : jSp yX10_isAside wsX10_isAside 1 0 0 [.int i0] ws (.inl (some (.int rr)), ws') := by
  unfold m_X10_isAside at h
  refine j_entry (ret := (some .boolean)) (nm := "isAside") (own := RX10) pl_X10 rfl rfl rfl (jcats (by rfl)) (by decide) ?_
  show JG false cX10_isAside 1 RX10 wsX10_isAside (some .boolean) "isAside" 1 0 0 ws.length (.inl (some (.int rr)), ws') 0 [some (.int i0)] [] ws 0 0
  refine j_iload_n (pc := 0) dX10_isAside_0 rfl ?_
  refine j_bipush (pc := 1) dX10_isAside_1 (v := (-5)) (by decide) ?_
  refine j_iconst (pc := 3) dX10_isAside_3 (v := 5) (by decide) ?_
  obtain ⟨x3, w1, e2, h⟩ := obS2 h
  have ge2 := calSR_of e2
  refine j_callS_g (pc := 4) (As := [.int i0, .int ((-5)), .int 5]) (k' := 0) (n' := 0) dX10_isAside_4 (s_X10_isWithin ge2.1) gX10_isAside_X10_isWithin rfl hy_X10_isWithin rfl (by decide) (by decide) (by decide) (by decide) (by decide) (by decide) (by decide) (Or.inl ge2.2) ?_
  exact j_zret (pc := 7) rfl dX10_isAside_7 (by decide) (by decide) h rfl rfl
theorem hin_X2_join_X2 : ∀ w ∈ u_ws RX2 TX2 7, w ∈ wsX2_join := fun w h => List.mem_cons_of_mem _ (List.mem_append_left _ (List.mem_append_right _ h))
theorem lk_X2_join_0 : Cond.fieldLink RX2 26 "Gaitwright$Frame" "legs" "I" ∈ wsX2_join := List.mem_cons_of_mem _ (List.mem_append_left _ (List.mem_append_left _ (List.mem_of_getElem? (i := 0) rfl)))
theorem lk_X2_join_1 : Cond.fieldLink RX2 14 "Gaitwright$Frame" "hipX" "LGaitwright$Row;" ∈ wsX2_join := List.mem_cons_of_mem _ (List.mem_append_left _ (List.mem_append_left _ (List.mem_of_getElem? (i := 1) rfl)))
theorem lk_X2_join_2 : Cond.fieldLink RX2 20 "Gaitwright$Frame" "hipY" "LGaitwright$Row;" ∈ wsX2_join := List.mem_cons_of_mem _ (List.mem_append_left _ (List.mem_append_left _ (List.mem_of_getElem? (i := 2) rfl)))
theorem lk_X2_join_3 : Cond.fieldLink RX2 23 "Gaitwright$Frame" "reach" "LGaitwright$Row;" ∈ wsX2_join := List.mem_cons_of_mem _ (List.mem_append_left _ (List.mem_append_left _ (List.mem_of_getElem? (i := 3) rfl)))
def m_X2_join (a0 : Nat) (i1 : Int32) (i2 : Int32) (i3 : Int32) (ws : LWd) : Option (Int32 × LWd) :=
  (rcv ws a0 2).bind fun _ =>
  (fI ws a0 2 3).bind fun x1 =>
  (fR ws a0 2 0).bind fun x3 =>
  (calSV ws (m_X8_put x3 x1 i1 ws)).bind fun w5 =>
  (fR w5 a0 2 1).bind fun x7 =>
  (calSV w5 (m_X8_put x7 x1 i2 w5)).bind fun w9 =>
  (fR w9 a0 2 2).bind fun x11 =>
  (calSV w9 (m_X8_put x11 x1 i3 w9)).bind fun w13 =>
  (fI w13 a0 2 3).bind fun x15 =>
  (pV w13 a0 2 3 (.int (x15 + 1))).bind fun w17 =>
  some (x1, w17)
set_option maxRecDepth 100000 in
set_option maxHeartbeats 4000000 in
theorem s_X2_join {a0 : Nat} {i1 : Int32} {i2 : Int32} {i3 : Int32} {ws : LWd} {rr : Int32} {ws' : LWd} (h : m_X2_join a0 i1 i2 i3 ws = some (rr, ws')) : jSp yX2_join wsX2_join 1 0 0 [.ref a0, .int i1, .int i2, .int i3] ws (.inl (some (.int rr)), ws') := by
  unfold m_X2_join at h
  refine j_entry (ret := (some .int)) (nm := "join") (own := RX2) pl_X2 rfl rfl rfl (jcats (by rfl)) (by decide) ?_
  show JG false cX2_join 5 RX2 wsX2_join (some .int) "join" 1 0 0 ws.length (.inl (some (.int rr)), ws') 0 [some (.ref a0), some (.int i1), some (.int i2), some (.int i3), none] [] ws 0 0
  obtain ⟨_, _, h⟩ := obS h
  refine j_aload_n (pc := 0) dX2_join_0 rfl ?_
  obtain ⟨x1, e2, h⟩ := obS h
  refine j_getI (pc := 1) dX2_join_1 (ci := 2) (kf := 3) rfl hin_X2_join_X2 (by decide) lk_X2_join_0 e2 ?_
  refine j_istore_4 (pc := 4) dX2_join_4 (by decide) rfl ?_
  refine j_aload_n (pc := 6) dX2_join_6 rfl ?_
  obtain ⟨x3, e4, h⟩ := obS h
  refine j_getR (pc := 7) dX2_join_7 (ci := 2) (kf := 0) rfl hin_X2_join_X2 (by decide) lk_X2_join_1 e4 ?_
  refine j_iload (pc := 10) dX2_join_10 rfl ?_
  refine j_iload_n (pc := 12) dX2_join_12 rfl ?_
  obtain ⟨w5, e6, h⟩ := obS h
  have ge6 := calSV_of e6
  refine j_callV_g (pc := 13) (As := [.int x1, .int i1]) (k' := 0) (n' := 0) dX2_join_13 (s_X8_put ge6.1) gX2_join_X8_put rfl hv_X8_put rfl (r_X8_put ge6.1) rfl (by decide) (by decide) (by decide) (by decide) (by decide) (by decide) (by decide) (Or.inl ge6.2) ?_
  refine j_aload_n (pc := 16) dX2_join_16 rfl ?_
  obtain ⟨x7, e8, h⟩ := obS h
  refine j_getR (pc := 17) dX2_join_17 (ci := 2) (kf := 1) rfl hin_X2_join_X2 (by decide) lk_X2_join_2 e8 ?_
  refine j_iload (pc := 20) dX2_join_20 rfl ?_
  refine j_iload_n (pc := 22) dX2_join_22 rfl ?_
  obtain ⟨w9, e10, h⟩ := obS h
  have ge10 := calSV_of e10
  refine j_callV_g (pc := 23) (As := [.int x1, .int i2]) (k' := 0) (n' := 0) dX2_join_23 (s_X8_put ge10.1) gX2_join_X8_put rfl hv_X8_put rfl (r_X8_put ge10.1) rfl (by decide) (by decide) (by decide) (by decide) (by decide) (by decide) (by decide) (Or.inl ge10.2) ?_
  refine j_aload_n (pc := 26) dX2_join_26 rfl ?_
  obtain ⟨x11, e12, h⟩ := obS h
  refine j_getR (pc := 27) dX2_join_27 (ci := 2) (kf := 2) rfl hin_X2_join_X2 (by decide) lk_X2_join_3 e12 ?_
  refine j_iload (pc := 30) dX2_join_30 rfl ?_
  refine j_iload_n (pc := 32) dX2_join_32 rfl ?_
  obtain ⟨w13, e14, h⟩ := obS h
  have ge14 := calSV_of e14
  refine j_callV_g (pc := 33) (As := [.int x1, .int i3]) (k' := 0) (n' := 0) dX2_join_33 (s_X8_put ge14.1) gX2_join_X8_put rfl hv_X8_put rfl (r_X8_put ge14.1) rfl (by decide) (by decide) (by decide) (by decide) (by decide) (by decide) (by decide) (Or.inl ge14.2) ?_
  refine j_aload_n (pc := 36) dX2_join_36 rfl ?_
  refine j_dup (pc := 37) dX2_join_37 rfl ?_
  obtain ⟨x15, e16, h⟩ := obS h
  refine j_getI (pc := 38) dX2_join_38 (ci := 2) (kf := 3) rfl hin_X2_join_X2 (by decide) lk_X2_join_0 e16 ?_
  refine j_iconst (pc := 41) dX2_join_41 (v := 1) (by decide) ?_
  refine j_iadd (pc := 42) dX2_join_42 ?_
  obtain ⟨w17, e18, h⟩ := obS h
  refine j_putV (pc := 43) (ci := 2) (kf := 3) tyX2 tyX2_ok nmX2 dX2_join_43 rfl hin_X2_join_X2 (by decide) lk_X2_join_0 rfl (fun _ => rfl) (fun _ => rfl) e18 ?_
  refine j_iload (pc := 46) dX2_join_46 rfl ?_
  obtain ⟨rfl, rfl⟩ := jretS h
  exact j_iret (pc := 48) rfl dX2_join_48 (by decide) (by decide) rfl
theorem r_X2_join {a0 : Nat} {i1 : Int32} {i2 : Int32} {i3 : Int32} {ws : LWd} {o : (Int32 × LWd)} (h : m_X2_join a0 i1 i2 i3 ws = some o) : ∃ fs, ws[a0]? = some (.inr (2, fs)) := rcv_in h
theorem lk_X10_leg_0 : Cond.classLink RX10 89 "java/lang/IllegalArgumentException" ∈ wsX10_leg := List.mem_cons_of_mem _ (List.mem_append_left _ (List.mem_append_left _ (List.mem_append_left _ (List.mem_append_left _ (List.mem_append_left _ (List.mem_append_left _ (List.mem_of_getElem? (i := 0) rfl)))))))
theorem lk_X10_leg_1 : Cond.initialized "java/lang/IllegalArgumentException" ∈ wsX10_leg := List.mem_cons_of_mem _ (List.mem_append_left _ (List.mem_append_left _ (List.mem_append_left _ (List.mem_append_left _ (List.mem_append_left _ (List.mem_append_left _ (List.mem_of_getElem? (i := 1) rfl)))))))
theorem lk_X10_leg_2 : Cond.classLink RX10 100 "java/lang/IllegalStateException" ∈ wsX10_leg := List.mem_cons_of_mem _ (List.mem_append_left _ (List.mem_append_left _ (List.mem_append_left _ (List.mem_append_left _ (List.mem_append_left _ (List.mem_append_left _ (List.mem_of_getElem? (i := 2) rfl)))))))
theorem lk_X10_leg_3 : Cond.initialized "java/lang/IllegalStateException" ∈ wsX10_leg := List.mem_cons_of_mem _ (List.mem_append_left _ (List.mem_append_left _ (List.mem_append_left _ (List.mem_append_left _ (List.mem_append_left _ (List.mem_append_left _ (List.mem_of_getElem? (i := 3) rfl)))))))
theorem hin_X10_leg_X10 : ∀ w ∈ u_ws RX10 TX10 11, w ∈ wsX10_leg := fun w h => List.mem_cons_of_mem _ (List.mem_append_left _ (List.mem_append_left _ (List.mem_append_left _ (List.mem_append_left _ (List.mem_append_right _ h)))))
theorem lk_X10_leg_4 : Cond.fieldLink RX10 73 "Gaitwright" "stands" "Z" ∈ wsX10_leg := List.mem_cons_of_mem _ (List.mem_append_left _ (List.mem_append_left _ (List.mem_append_left _ (List.mem_append_left _ (List.mem_append_left _ (List.mem_append_left _ (List.mem_of_getElem? (i := 4) rfl)))))))
theorem lk_X10_leg_5 : Cond.fieldLink RX10 22 "Gaitwright" "frame" "LGaitwright$Frame;" ∈ wsX10_leg := List.mem_cons_of_mem _ (List.mem_append_left _ (List.mem_append_left _ (List.mem_append_left _ (List.mem_append_left _ (List.mem_append_left _ (List.mem_append_left _ (List.mem_of_getElem? (i := 5) rfl)))))))
theorem hin_X10_leg_X2 : ∀ w ∈ u_ws RX2 TX2 7, w ∈ wsX10_leg := fun w h => List.mem_cons_of_mem _ (List.mem_append_left _ (List.mem_append_left _ (List.mem_append_left _ (List.mem_append_right _ h))))
theorem lk_X10_leg_6 : Cond.fieldLink RX10 136 "Gaitwright$Frame" "legs" "I" ∈ wsX10_leg := List.mem_cons_of_mem _ (List.mem_append_left _ (List.mem_append_left _ (List.mem_append_left _ (List.mem_append_left _ (List.mem_append_left _ (List.mem_append_left _ (List.mem_of_getElem? (i := 6) rfl)))))))
def m_X10_leg_b24 (ws : LWd) : Option ((Int32 ⊕ String) × LWd) :=
  some (.inr "java/lang/IllegalArgumentException", ws)
set_option maxRecDepth 100000 in
set_option maxHeartbeats 4000000 in
theorem jm_X10_leg_b24 {n0 : Nat} {rr : Int32 ⊕ String} {ws' : LWd} (ws : LWd) (hn0 : ws.length = n0) (h : m_X10_leg_b24 ws = some (rr, ws')) : JG true cX10_leg 4 RX10 wsX10_leg (some .int) "leg" 6 1 6 n0 (jthr rr, ws') 24 [none, none, none, none] [] ws 0 0 := by
  unfold m_X10_leg_b24 at h
  obtain ⟨rfl, rfl⟩ := jretS h
  exact j_throw (pc := 24) (text := "no such hip, or no such reach") rfl rfl dX10_leg_24 dX10_leg_27 dX10_leg_28 dX10_leg_30 dX10_leg_33 (List.mem_of_getElem? (i := 3) rfl) (List.mem_of_getElem? (i := 0) rfl) (jfit _ (List.mem_of_getElem? (i := 0) rfl)) lk_X10_leg_0 lk_X10_leg_1 (fun w h => List.mem_cons_of_mem _ (List.mem_append_left _ (List.mem_append_right _ h))) jgo_93 (by decide) (by decide) (by decide) (by decide) (by omega) rfl
def m_X10_leg_b53 (ws : LWd) : Option ((Int32 ⊕ String) × LWd) :=
  some (.inr "java/lang/IllegalStateException", ws)
set_option maxRecDepth 100000 in
set_option maxHeartbeats 4000000 in
theorem jm_X10_leg_b53 {n0 : Nat} {rr : Int32 ⊕ String} {ws' : LWd} (ws : LWd) (hn0 : ws.length = n0) (h : m_X10_leg_b53 ws = some (rr, ws')) : JG true cX10_leg 4 RX10 wsX10_leg (some .int) "leg" 6 1 6 n0 (jthr rr, ws') 53 [none, none, none, none] [] ws 0 0 := by
  unfold m_X10_leg_b53 at h
  obtain ⟨rfl, rfl⟩ := jretS h
  exact j_throw (pc := 53) (text := "no leg can be added") rfl rfl dX10_leg_53 dX10_leg_56 dX10_leg_57 dX10_leg_59 dX10_leg_62 (List.mem_of_getElem? (i := 4) rfl) (List.mem_of_getElem? (i := 1) rfl) (jfit _ (List.mem_of_getElem? (i := 1) rfl)) lk_X10_leg_2 lk_X10_leg_3 (fun w h => List.mem_cons_of_mem _ (List.mem_append_right _ h)) jgo_104 (by decide) (by decide) (by decide) (by decide) (by omega) rfl
def m_X10_leg (a0 : Nat) (i1 : Int32) (i2 : Int32) (i3 : Int32) (ws : LWd) : Option ((Int32 ⊕ String) × LWd) :=
  (rcv ws a0 10).bind fun _ =>
  bn2 (calSR ws (m_X10_isAside i1 ws)) fun x3 w1 =>
  if x3 = 0 then
    m_X10_leg_b24  w1
  else
    bn2 (calSR w1 (m_X10_isAside i2 w1)) fun x7 w5 =>
    if x7 = 0 then
      m_X10_leg_b24  w5
    else
      bn2 (calSR w5 (m_X10_isWithin i3 1 6 w5)) fun x11 w9 =>
      if x11 = 0 then
        m_X10_leg_b24  w9
      else
        (fI w9 a0 10 9).bind fun x13 =>
        if x13 = 0 then
          (fR w9 a0 10 1).bind fun x16 =>
          (fI w9 x16 2 3).bind fun x18 =>
          if x18 < 6 then
            (fR w9 a0 10 1).bind fun x21 =>
            bn2 (calSR w9 (m_X2_join x21 i1 i2 i3 w9)) fun x25 w23 =>
            some (.inl x25, w23)
          else
            m_X10_leg_b53  w9
        else
          m_X10_leg_b53  w9
set_option maxRecDepth 100000 in
set_option maxHeartbeats 4000000 in
theorem s_X10_leg {a0 : Nat} {i1 : Int32} {i2 : Int32} {i3 : Int32} {ws : LWd} {rr : Int32 ⊕ String} {ws' : LWd} (h : m_X10_leg a0 i1 i2 i3 ws = some (rr, ws')) : jSX yX10_leg wsX10_leg 6 1 6 [.ref a0, .int i1, .int i2, .int i3] ws (jthr rr, ws') := by
  unfold m_X10_leg at h
  refine j_entryX (ret := (some .int)) (nm := "leg") (own := RX10) pl_X10 rfl rfl rfl (jcats (by rfl)) (by decide) ?_
  show JG true cX10_leg 4 RX10 wsX10_leg (some .int) "leg" 6 1 6 ws.length (jthr rr, ws') 0 [some (.ref a0), some (.int i1), some (.int i2), some (.int i3)] [] ws 0 0
  obtain ⟨_, _, h⟩ := obS h
  refine j_iload_n (pc := 0) dX10_leg_0 rfl ?_
  obtain ⟨x3, w1, e2, h⟩ := obS2 h
  have ge2 := calSR_of e2
  have le2 := ge2.2
  refine j_callS_g (pc := 1) (As := [.int i1]) (k' := 0) (n' := 0) dX10_leg_1 (s_X10_isAside ge2.1) gX10_leg_X10_isAside rfl hy_X10_isAside rfl (by decide) (by decide) (by decide) (by decide) (by decide) (by decide) (by decide) (Or.inl ge2.2) ?_
  refine j_if_eq (pc := 4) (tgt := 24) dX10_leg_4 (by decide) (fun c4 => ?_) (fun c4 => ?_)
  · rw [if_pos c4] at h
    refine j_mask [false, false, false, false] ?_
    exact jm_X10_leg_b24 w1 (by omega) h
  · rw [if_neg c4] at h
    refine j_iload_n (pc := 7) dX10_leg_7 rfl ?_
    obtain ⟨x7, w5, e6, h⟩ := obS2 h
    have ge6 := calSR_of e6
    have le6 := ge6.2
    refine j_callS_g (pc := 8) (As := [.int i2]) (k' := 0) (n' := 0) dX10_leg_8 (s_X10_isAside ge6.1) gX10_leg_X10_isAside rfl hy_X10_isAside rfl (by decide) (by decide) (by decide) (by decide) (by decide) (by decide) (by decide) (Or.inl ge6.2) ?_
    refine j_if_eq (pc := 11) (tgt := 24) dX10_leg_11 (by decide) (fun c8 => ?_) (fun c8 => ?_)
    · rw [if_pos c8] at h
      refine j_mask [false, false, false, false] ?_
      exact jm_X10_leg_b24 w5 (by omega) h
    · rw [if_neg c8] at h
      refine j_iload_n (pc := 14) dX10_leg_14 rfl ?_
      refine j_iconst (pc := 15) dX10_leg_15 (v := 1) (by decide) ?_
      refine j_bipush (pc := 16) dX10_leg_16 (v := 6) (by decide) ?_
      obtain ⟨x11, w9, e10, h⟩ := obS2 h
      have ge10 := calSR_of e10
      have le10 := ge10.2
      refine j_callS_g (pc := 18) (As := [.int i3, .int 1, .int 6]) (k' := 0) (n' := 0) dX10_leg_18 (s_X10_isWithin ge10.1) gX10_leg_X10_isWithin rfl hy_X10_isWithin rfl (by decide) (by decide) (by decide) (by decide) (by decide) (by decide) (by decide) (Or.inl ge10.2) ?_
      refine j_if_ne (pc := 21) (tgt := 34) dX10_leg_21 (by decide) (fun c12 => ?_) (fun c12 => ?_)
      · rw [if_neg c12] at h
        refine j_aload_n (pc := 34) dX10_leg_34 rfl ?_
        obtain ⟨x13, e14, h⟩ := obS h
        refine j_getI (pc := 35) dX10_leg_35 (ci := 10) (kf := 9) rfl hin_X10_leg_X10 (by decide) lk_X10_leg_4 e14 ?_
        refine j_if_ne (pc := 38) (tgt := 53) dX10_leg_38 (by decide) (fun c15 => ?_) (fun c15 => ?_)
        · rw [if_neg c15] at h
          refine j_mask [false, false, false, false] ?_
          exact jm_X10_leg_b53 w9 (by omega) h
        · rw [if_pos c15] at h
          refine j_aload_n (pc := 41) dX10_leg_41 rfl ?_
          obtain ⟨x16, e17, h⟩ := obS h
          refine j_getR (pc := 42) dX10_leg_42 (ci := 10) (kf := 1) rfl hin_X10_leg_X10 (by decide) lk_X10_leg_5 e17 ?_
          obtain ⟨x18, e19, h⟩ := obS h
          refine j_getI (pc := 45) dX10_leg_45 (ci := 2) (kf := 3) rfl hin_X10_leg_X2 (by decide) lk_X10_leg_6 e19 ?_
          refine j_bipush (pc := 48) dX10_leg_48 (v := 6) (by decide) ?_
          refine j_icmp_lt (pc := 50) (tgt := 63) dX10_leg_50 (by decide) (fun c20 => ?_) (fun c20 => ?_)
          · rw [if_pos c20] at h
            refine j_aload_n (pc := 63) dX10_leg_63 rfl ?_
            obtain ⟨x21, e22, h⟩ := obS h
            refine j_getR (pc := 64) dX10_leg_64 (ci := 10) (kf := 1) rfl hin_X10_leg_X10 (by decide) lk_X10_leg_5 e22 ?_
            refine j_iload_n (pc := 67) dX10_leg_67 rfl ?_
            refine j_iload_n (pc := 68) dX10_leg_68 rfl ?_
            refine j_iload_n (pc := 69) dX10_leg_69 rfl ?_
            obtain ⟨x25, w23, e24, h⟩ := obS2 h
            have ge24 := calSR_of e24
            have le24 := ge24.2
            refine j_callV_g (pc := 70) (As := [.int i1, .int i2, .int i3]) (k' := 0) (n' := 0) dX10_leg_70 (s_X2_join ge24.1) gX10_leg_X2_join rfl hv_X2_join rfl (r_X2_join ge24.1) rfl (by decide) (by decide) (by decide) (by decide) (by decide) (by decide) (by decide) (Or.inl ge24.2) ?_
            obtain ⟨rfl, rfl⟩ := jretS h
            exact j_iret (pc := 73) rfl dX10_leg_73 (by decide) (by decide) rfl
          · rw [if_neg c20] at h
            refine j_mask [false, false, false, false] ?_
            exact jm_X10_leg_b53 w9 (by omega) h
      · rw [if_pos c12] at h
        refine j_mask [false, false, false, false] ?_
        exact jm_X10_leg_b24 w9 (by omega) h
theorem r_X10_leg {a0 : Nat} {i1 : Int32} {i2 : Int32} {i3 : Int32} {ws : LWd} {o : ((Int32 ⊕ String) × LWd)} (h : m_X10_leg a0 i1 i2 i3 ws = some o) : ∃ fs, ws[a0]? = some (.inr (10, fs)) := rcv_in h
theorem hin_X10_charge_X10 : ∀ w ∈ u_ws RX10 TX10 11, w ∈ wsX10_charge := fun w h => List.mem_cons_of_mem _ (List.mem_append_left _ (List.mem_append_right _ h))
theorem lk_X10_charge_0 : Cond.fieldLink RX10 77 "Gaitwright" "energy" "I" ∈ wsX10_charge := List.mem_cons_of_mem _ (List.mem_append_left _ (List.mem_append_left _ (List.mem_of_getElem? (i := 2) rfl)))
theorem lk_X10_charge_1 : Cond.methodLink RX10 147 Lib.Math.min.name ∈ wsX10_charge := List.mem_cons_of_mem _ (List.mem_append_left _ (List.mem_append_left _ (List.mem_of_getElem? (i := 3) rfl)))
theorem lk_X10_charge_2 : Cond.static Lib.Math.min.name ∈ wsX10_charge := List.mem_cons_of_mem _ (List.mem_append_left _ (List.mem_append_left _ (List.mem_of_getElem? (i := 4) rfl)))
theorem lk_X10_charge_3 : Cond.initialized "java/lang/Math" ∈ wsX10_charge := List.mem_cons_of_mem _ (List.mem_append_left _ (List.mem_append_left _ (List.mem_of_getElem? (i := 5) rfl)))
theorem lk_X10_charge_4 : Cond.code Lib.Math.min.name Lib.Math.min.code 2 (some .int) ∈ wsX10_charge := List.mem_cons_of_mem _ (List.mem_append_left _ (List.mem_append_left _ (List.mem_of_getElem? (i := 6) rfl)))
theorem lk_X10_charge_5 : Cond.classLink RX10 89 "java/lang/IllegalArgumentException" ∈ wsX10_charge := List.mem_cons_of_mem _ (List.mem_append_left _ (List.mem_append_left _ (List.mem_of_getElem? (i := 0) rfl)))
theorem lk_X10_charge_6 : Cond.initialized "java/lang/IllegalArgumentException" ∈ wsX10_charge := List.mem_cons_of_mem _ (List.mem_append_left _ (List.mem_append_left _ (List.mem_of_getElem? (i := 1) rfl)))
def m_X10_charge (a0 : Nat) (i1 : Int32) (ws : LWd) : Option ((Int32 ⊕ String) × LWd) :=
  (rcv ws a0 10).bind fun _ =>
  bn2 (calSR ws (m_X10_isWithin i1 1 1000 ws)) fun x3 w1 =>
  if x3 = 0 then
    some (.inr "java/lang/IllegalArgumentException", w1)
  else
    (fI w1 a0 10 10).bind fun x5 =>
    (pV w1 a0 10 10 (.int (jmin 1000 (x5 + i1)))).bind fun w7 =>
    (fI w7 a0 10 10).bind fun x9 =>
    some (.inl x9, w7)
set_option maxRecDepth 100000 in
set_option maxHeartbeats 4000000 in
theorem s_X10_charge {a0 : Nat} {i1 : Int32} {ws : LWd} {rr : Int32 ⊕ String} {ws' : LWd} (h : m_X10_charge a0 i1 ws = some (rr, ws')) : jSX yX10_charge wsX10_charge 6 1 6 [.ref a0, .int i1] ws (jthr rr, ws') := by
  unfold m_X10_charge at h
  refine j_entryX (ret := (some .int)) (nm := "charge") (own := RX10) pl_X10 rfl rfl rfl (jcats (by rfl)) (by decide) ?_
  show JG true cX10_charge 2 RX10 wsX10_charge (some .int) "charge" 6 1 6 ws.length (jthr rr, ws') 0 [some (.ref a0), some (.int i1)] [] ws 0 0
  obtain ⟨_, _, h⟩ := obS h
  refine j_iload_n (pc := 0) dX10_charge_0 rfl ?_
  refine j_iconst (pc := 1) dX10_charge_1 (v := 1) (by decide) ?_
  refine j_sipush (pc := 2) dX10_charge_2 (v := 1000) (by decide) ?_
  obtain ⟨x3, w1, e2, h⟩ := obS2 h
  have ge2 := calSR_of e2
  have le2 := ge2.2
  refine j_callS_g (pc := 5) (As := [.int i1, .int 1, .int 1000]) (k' := 0) (n' := 0) dX10_charge_5 (s_X10_isWithin ge2.1) gX10_charge_X10_isWithin rfl hy_X10_isWithin rfl (by decide) (by decide) (by decide) (by decide) (by decide) (by decide) (by decide) (Or.inl ge2.2) ?_
  refine j_if_ne (pc := 8) (tgt := 21) dX10_charge_8 (by decide) (fun c4 => ?_) (fun c4 => ?_)
  · rw [if_neg c4] at h
    refine j_aload_n (pc := 21) dX10_charge_21 rfl ?_
    refine j_sipush (pc := 22) dX10_charge_22 (v := 1000) (by decide) ?_
    refine j_aload_n (pc := 25) dX10_charge_25 rfl ?_
    obtain ⟨x5, e6, h⟩ := obS h
    refine j_getI (pc := 26) dX10_charge_26 (ci := 10) (kf := 10) rfl hin_X10_charge_X10 (by decide) lk_X10_charge_0 e6 ?_
    refine j_iload_n (pc := 29) dX10_charge_29 rfl ?_
    refine j_iadd (pc := 30) dX10_charge_30 ?_
    refine j_mmin (pc := 31) dX10_charge_31 lk_X10_charge_1 lk_X10_charge_2 lk_X10_charge_3 lk_X10_charge_4 (by decide) (by decide) (by decide) (by decide) ?_
    obtain ⟨w7, e8, h⟩ := obS h
    have le8 := pV_len e8
    refine j_putV (pc := 34) (ci := 10) (kf := 10) tyX10 tyX10_ok nmX10 dX10_charge_34 rfl hin_X10_charge_X10 (by decide) lk_X10_charge_0 rfl (fun _ => rfl) (fun _ => rfl) e8 ?_
    refine j_aload_n (pc := 37) dX10_charge_37 rfl ?_
    obtain ⟨x9, e10, h⟩ := obS h
    refine j_getI (pc := 38) dX10_charge_38 (ci := 10) (kf := 10) rfl hin_X10_charge_X10 (by decide) lk_X10_charge_0 e10 ?_
    obtain ⟨rfl, rfl⟩ := jretS h
    exact j_iret (pc := 41) rfl dX10_charge_41 (by decide) (by decide) rfl
  · rw [if_pos c4] at h
    obtain ⟨rfl, rfl⟩ := jretS h
    exact j_throw (pc := 11) (text := "no such energy") rfl rfl dX10_charge_11 dX10_charge_14 dX10_charge_15 dX10_charge_17 dX10_charge_20 (List.mem_of_getElem? (i := 5) rfl) (List.mem_of_getElem? (i := 0) rfl) (jfit _ (List.mem_of_getElem? (i := 0) rfl)) lk_X10_charge_5 lk_X10_charge_6 (fun w h => List.mem_cons_of_mem _ (List.mem_append_right _ h)) jgo_93 (by decide) (by decide) (by decide) (by decide) (by omega) rfl
theorem r_X10_charge {a0 : Nat} {i1 : Int32} {ws : LWd} {o : ((Int32 ⊕ String) × LWd)} (h : m_X10_charge a0 i1 ws = some o) : ∃ fs, ws[a0]? = some (.inr (10, fs)) := rcv_in h
theorem hin_X10_isLeg_X10 : ∀ w ∈ u_ws RX10 TX10 11, w ∈ wsX10_isLeg := fun w h => List.mem_cons_of_mem _ (List.mem_append_left _ (List.mem_append_right _ h))
theorem lk_X10_isLeg_0 : Cond.fieldLink RX10 22 "Gaitwright" "frame" "LGaitwright$Frame;" ∈ wsX10_isLeg := List.mem_cons_of_mem _ (List.mem_append_left _ (List.mem_append_left _ (List.mem_of_getElem? (i := 0) rfl)))
theorem hin_X10_isLeg_X2 : ∀ w ∈ u_ws RX2 TX2 7, w ∈ wsX10_isLeg := fun w h => List.mem_cons_of_mem _ (List.mem_append_right _ h)
theorem lk_X10_isLeg_1 : Cond.fieldLink RX10 136 "Gaitwright$Frame" "legs" "I" ∈ wsX10_isLeg := List.mem_cons_of_mem _ (List.mem_append_left _ (List.mem_append_left _ (List.mem_of_getElem? (i := 1) rfl)))
def m_X10_isLeg (a0 : Nat) (i1 : Int32) (ws : LWd) : Option (Int32 × LWd) :=
  (rcv ws a0 10).bind fun _ =>
  if i1 < 0 then
    some (0, ws)
  else
    (fR ws a0 10 1).bind fun x2 =>
    (fI ws x2 2 3).bind fun x4 =>
    if x4 ≤ i1 then
      some (0, ws)
    else
      some (1, ws)
set_option maxRecDepth 100000 in
set_option maxHeartbeats 4000000 in
theorem s_X10_isLeg {a0 : Nat} {i1 : Int32} {ws : LWd} {rr : Int32} {ws' : LWd} (h : m_X10_isLeg a0 i1 ws = some (rr, ws')) : jSp yX10_isLeg wsX10_isLeg 0 0 0 [.ref a0, .int i1] ws (.inl (some (.int rr)), ws') := by
  unfold m_X10_isLeg at h
  refine j_entry (ret := (some .boolean)) (nm := "isLeg") (own := RX10) pl_X10 rfl rfl rfl (jcats (by rfl)) (by decide) ?_
  show JG false cX10_isLeg 2 RX10 wsX10_isLeg (some .boolean) "isLeg" 0 0 0 ws.length (.inl (some (.int rr)), ws') 0 [some (.ref a0), some (.int i1)] [] ws 0 0
  obtain ⟨_, _, h⟩ := obS h
  refine j_iload_n (pc := 0) dX10_isLeg_0 rfl ?_
  refine j_if_lt (pc := 1) (tgt := 19) dX10_isLeg_1 (by decide) (fun c1 => ?_) (fun c1 => ?_)
  · rw [if_pos c1] at h
    refine j_iconst (pc := 19) dX10_isLeg_19 (v := 0) (by decide) ?_
    obtain ⟨rfl, rfl⟩ := jretS h
    exact j_zret (pc := 20) (ws1 := ws) rfl dX10_isLeg_20 (by decide) (by decide) (show retZ 0 ws = some (0, ws) from rfl) rfl rfl
  · rw [if_neg c1] at h
    refine j_iload_n (pc := 4) dX10_isLeg_4 rfl ?_
    refine j_aload_n (pc := 5) dX10_isLeg_5 rfl ?_
    obtain ⟨x2, e3, h⟩ := obS h
    refine j_getR (pc := 6) dX10_isLeg_6 (ci := 10) (kf := 1) rfl hin_X10_isLeg_X10 (by decide) lk_X10_isLeg_0 e3 ?_
    obtain ⟨x4, e5, h⟩ := obS h
    refine j_getI (pc := 9) dX10_isLeg_9 (ci := 2) (kf := 3) rfl hin_X10_isLeg_X2 (by decide) lk_X10_isLeg_1 e5 ?_
    refine j_icmp_ge (pc := 12) (tgt := 19) dX10_isLeg_12 (by decide) (fun c6 => ?_) (fun c6 => ?_)
    · rw [if_pos c6] at h
      refine j_iconst (pc := 19) dX10_isLeg_19 (v := 0) (by decide) ?_
      obtain ⟨rfl, rfl⟩ := jretS h
      exact j_zret (pc := 20) (ws1 := ws) rfl dX10_isLeg_20 (by decide) (by decide) (show retZ 0 ws = some (0, ws) from rfl) rfl rfl
    · rw [if_neg c6] at h
      refine j_iconst (pc := 15) dX10_isLeg_15 (v := 1) (by decide) ?_
      refine j_goto (pc := 16) (tgt := 20) dX10_isLeg_16 (by decide) ?_
      obtain ⟨rfl, rfl⟩ := jretS h
      exact j_zret (pc := 20) (ws1 := ws) rfl dX10_isLeg_20 (by decide) (by decide) (show retZ 1 ws = some (1, ws) from rfl) rfl rfl
theorem r_X10_isLeg {a0 : Nat} {i1 : Int32} {ws : LWd} {o : (Int32 × LWd)} (h : m_X10_isLeg a0 i1 ws = some o) : ∃ fs, ws[a0]? = some (.inr (10, fs)) := rcv_in h
theorem hin_X3_add_X3 : ∀ w ∈ u_ws RX3 TX3 7, w ∈ wsX3_add := fun w h => List.mem_cons_of_mem _ (List.mem_append_left _ (List.mem_append_right _ h))
theorem lk_X3_add_0 : Cond.fieldLink RX3 14 "Gaitwright$Gait" "leg" "LGaitwright$Row;" ∈ wsX3_add := List.mem_cons_of_mem _ (List.mem_append_left _ (List.mem_append_left _ (List.mem_of_getElem? (i := 0) rfl)))
theorem lk_X3_add_1 : Cond.fieldLink RX3 32 "Gaitwright$Gait" "count" "I" ∈ wsX3_add := List.mem_cons_of_mem _ (List.mem_append_left _ (List.mem_append_left _ (List.mem_of_getElem? (i := 1) rfl)))
theorem lk_X3_add_2 : Cond.fieldLink RX3 20 "Gaitwright$Gait" "footX" "LGaitwright$Row;" ∈ wsX3_add := List.mem_cons_of_mem _ (List.mem_append_left _ (List.mem_append_left _ (List.mem_of_getElem? (i := 2) rfl)))
theorem lk_X3_add_3 : Cond.fieldLink RX3 23 "Gaitwright$Gait" "footY" "LGaitwright$Row;" ∈ wsX3_add := List.mem_cons_of_mem _ (List.mem_append_left _ (List.mem_append_left _ (List.mem_of_getElem? (i := 3) rfl)))
theorem lk_X3_add_4 : Cond.fieldLink RX3 26 "Gaitwright$Gait" "bodyX" "LGaitwright$Row;" ∈ wsX3_add := List.mem_cons_of_mem _ (List.mem_append_left _ (List.mem_append_left _ (List.mem_of_getElem? (i := 4) rfl)))
theorem lk_X3_add_5 : Cond.fieldLink RX3 29 "Gaitwright$Gait" "bodyY" "LGaitwright$Row;" ∈ wsX3_add := List.mem_cons_of_mem _ (List.mem_append_left _ (List.mem_append_left _ (List.mem_of_getElem? (i := 5) rfl)))
def m_X3_add (a0 : Nat) (i1 : Int32) (i2 : Int32) (i3 : Int32) (i4 : Int32) (i5 : Int32) (ws : LWd) : Option (Int32 × LWd) :=
  (rcv ws a0 3).bind fun _ =>
  (fR ws a0 3 0).bind fun x1 =>
  (fI ws a0 3 5).bind fun x3 =>
  (calSV ws (m_X8_put x1 x3 i1 ws)).bind fun w5 =>
  (fR w5 a0 3 1).bind fun x7 =>
  (fI w5 a0 3 5).bind fun x9 =>
  (calSV w5 (m_X8_put x7 x9 i2 w5)).bind fun w11 =>
  (fR w11 a0 3 2).bind fun x13 =>
  (fI w11 a0 3 5).bind fun x15 =>
  (calSV w11 (m_X8_put x13 x15 i3 w11)).bind fun w17 =>
  (fR w17 a0 3 3).bind fun x19 =>
  (fI w17 a0 3 5).bind fun x21 =>
  (calSV w17 (m_X8_put x19 x21 i4 w17)).bind fun w23 =>
  (fR w23 a0 3 4).bind fun x25 =>
  (fI w23 a0 3 5).bind fun x27 =>
  (calSV w23 (m_X8_put x25 x27 i5 w23)).bind fun w29 =>
  (fI w29 a0 3 5).bind fun x31 =>
  (pV w29 a0 3 5 (.int (x31 + 1))).bind fun w33 =>
  (fI w33 a0 3 5).bind fun x35 =>
  some (x35, w33)
set_option maxRecDepth 100000 in
set_option maxHeartbeats 4000000 in
theorem s_X3_add {a0 : Nat} {i1 : Int32} {i2 : Int32} {i3 : Int32} {i4 : Int32} {i5 : Int32} {ws : LWd} {rr : Int32} {ws' : LWd} (h : m_X3_add a0 i1 i2 i3 i4 i5 ws = some (rr, ws')) : jSp yX3_add wsX3_add 1 0 0 [.ref a0, .int i1, .int i2, .int i3, .int i4, .int i5] ws (.inl (some (.int rr)), ws') := by
  unfold m_X3_add at h
  refine j_entry (ret := (some .int)) (nm := "add") (own := RX3) pl_X3 rfl rfl rfl (jcats (by rfl)) (by decide) ?_
  show JG false cX3_add 6 RX3 wsX3_add (some .int) "add" 1 0 0 ws.length (.inl (some (.int rr)), ws') 0 [some (.ref a0), some (.int i1), some (.int i2), some (.int i3), some (.int i4), some (.int i5)] [] ws 0 0
  obtain ⟨_, _, h⟩ := obS h
  refine j_aload_n (pc := 0) dX3_add_0 rfl ?_
  obtain ⟨x1, e2, h⟩ := obS h
  refine j_getR (pc := 1) dX3_add_1 (ci := 3) (kf := 0) rfl hin_X3_add_X3 (by decide) lk_X3_add_0 e2 ?_
  refine j_aload_n (pc := 4) dX3_add_4 rfl ?_
  obtain ⟨x3, e4, h⟩ := obS h
  refine j_getI (pc := 5) dX3_add_5 (ci := 3) (kf := 5) rfl hin_X3_add_X3 (by decide) lk_X3_add_1 e4 ?_
  refine j_iload_n (pc := 8) dX3_add_8 rfl ?_
  obtain ⟨w5, e6, h⟩ := obS h
  have ge6 := calSV_of e6
  refine j_callV_g (pc := 9) (As := [.int x3, .int i1]) (k' := 0) (n' := 0) dX3_add_9 (s_X8_put ge6.1) gX3_add_X8_put rfl hv_X8_put rfl (r_X8_put ge6.1) rfl (by decide) (by decide) (by decide) (by decide) (by decide) (by decide) (by decide) (Or.inl ge6.2) ?_
  refine j_aload_n (pc := 12) dX3_add_12 rfl ?_
  obtain ⟨x7, e8, h⟩ := obS h
  refine j_getR (pc := 13) dX3_add_13 (ci := 3) (kf := 1) rfl hin_X3_add_X3 (by decide) lk_X3_add_2 e8 ?_
  refine j_aload_n (pc := 16) dX3_add_16 rfl ?_
  obtain ⟨x9, e10, h⟩ := obS h
  refine j_getI (pc := 17) dX3_add_17 (ci := 3) (kf := 5) rfl hin_X3_add_X3 (by decide) lk_X3_add_1 e10 ?_
  refine j_iload_n (pc := 20) dX3_add_20 rfl ?_
  obtain ⟨w11, e12, h⟩ := obS h
  have ge12 := calSV_of e12
  refine j_callV_g (pc := 21) (As := [.int x9, .int i2]) (k' := 0) (n' := 0) dX3_add_21 (s_X8_put ge12.1) gX3_add_X8_put rfl hv_X8_put rfl (r_X8_put ge12.1) rfl (by decide) (by decide) (by decide) (by decide) (by decide) (by decide) (by decide) (Or.inl ge12.2) ?_
  refine j_aload_n (pc := 24) dX3_add_24 rfl ?_
  obtain ⟨x13, e14, h⟩ := obS h
  refine j_getR (pc := 25) dX3_add_25 (ci := 3) (kf := 2) rfl hin_X3_add_X3 (by decide) lk_X3_add_3 e14 ?_
  refine j_aload_n (pc := 28) dX3_add_28 rfl ?_
  obtain ⟨x15, e16, h⟩ := obS h
  refine j_getI (pc := 29) dX3_add_29 (ci := 3) (kf := 5) rfl hin_X3_add_X3 (by decide) lk_X3_add_1 e16 ?_
  refine j_iload_n (pc := 32) dX3_add_32 rfl ?_
  obtain ⟨w17, e18, h⟩ := obS h
  have ge18 := calSV_of e18
  refine j_callV_g (pc := 33) (As := [.int x15, .int i3]) (k' := 0) (n' := 0) dX3_add_33 (s_X8_put ge18.1) gX3_add_X8_put rfl hv_X8_put rfl (r_X8_put ge18.1) rfl (by decide) (by decide) (by decide) (by decide) (by decide) (by decide) (by decide) (Or.inl ge18.2) ?_
  refine j_aload_n (pc := 36) dX3_add_36 rfl ?_
  obtain ⟨x19, e20, h⟩ := obS h
  refine j_getR (pc := 37) dX3_add_37 (ci := 3) (kf := 3) rfl hin_X3_add_X3 (by decide) lk_X3_add_4 e20 ?_
  refine j_aload_n (pc := 40) dX3_add_40 rfl ?_
  obtain ⟨x21, e22, h⟩ := obS h
  refine j_getI (pc := 41) dX3_add_41 (ci := 3) (kf := 5) rfl hin_X3_add_X3 (by decide) lk_X3_add_1 e22 ?_
  refine j_iload (pc := 44) dX3_add_44 rfl ?_
  obtain ⟨w23, e24, h⟩ := obS h
  have ge24 := calSV_of e24
  refine j_callV_g (pc := 46) (As := [.int x21, .int i4]) (k' := 0) (n' := 0) dX3_add_46 (s_X8_put ge24.1) gX3_add_X8_put rfl hv_X8_put rfl (r_X8_put ge24.1) rfl (by decide) (by decide) (by decide) (by decide) (by decide) (by decide) (by decide) (Or.inl ge24.2) ?_
  refine j_aload_n (pc := 49) dX3_add_49 rfl ?_
  obtain ⟨x25, e26, h⟩ := obS h
  refine j_getR (pc := 50) dX3_add_50 (ci := 3) (kf := 4) rfl hin_X3_add_X3 (by decide) lk_X3_add_5 e26 ?_
  refine j_aload_n (pc := 53) dX3_add_53 rfl ?_
  obtain ⟨x27, e28, h⟩ := obS h
  refine j_getI (pc := 54) dX3_add_54 (ci := 3) (kf := 5) rfl hin_X3_add_X3 (by decide) lk_X3_add_1 e28 ?_
  refine j_iload (pc := 57) dX3_add_57 rfl ?_
  obtain ⟨w29, e30, h⟩ := obS h
  have ge30 := calSV_of e30
  refine j_callV_g (pc := 59) (As := [.int x27, .int i5]) (k' := 0) (n' := 0) dX3_add_59 (s_X8_put ge30.1) gX3_add_X8_put rfl hv_X8_put rfl (r_X8_put ge30.1) rfl (by decide) (by decide) (by decide) (by decide) (by decide) (by decide) (by decide) (Or.inl ge30.2) ?_
  refine j_aload_n (pc := 62) dX3_add_62 rfl ?_
  refine j_dup (pc := 63) dX3_add_63 rfl ?_
  obtain ⟨x31, e32, h⟩ := obS h
  refine j_getI (pc := 64) dX3_add_64 (ci := 3) (kf := 5) rfl hin_X3_add_X3 (by decide) lk_X3_add_1 e32 ?_
  refine j_iconst (pc := 67) dX3_add_67 (v := 1) (by decide) ?_
  refine j_iadd (pc := 68) dX3_add_68 ?_
  obtain ⟨w33, e34, h⟩ := obS h
  refine j_putV (pc := 69) (ci := 3) (kf := 5) tyX3 tyX3_ok nmX3 dX3_add_69 rfl hin_X3_add_X3 (by decide) lk_X3_add_1 rfl (fun _ => rfl) (fun _ => rfl) e34 ?_
  refine j_aload_n (pc := 72) dX3_add_72 rfl ?_
  obtain ⟨x35, e36, h⟩ := obS h
  refine j_getI (pc := 73) dX3_add_73 (ci := 3) (kf := 5) rfl hin_X3_add_X3 (by decide) lk_X3_add_1 e36 ?_
  obtain ⟨rfl, rfl⟩ := jretS h
  exact j_iret (pc := 76) rfl dX3_add_76 (by decide) (by decide) rfl
theorem r_X3_add {a0 : Nat} {i1 : Int32} {i2 : Int32} {i3 : Int32} {i4 : Int32} {i5 : Int32} {ws : LWd} {o : (Int32 × LWd)} (h : m_X3_add a0 i1 i2 i3 i4 i5 ws = some o) : ∃ fs, ws[a0]? = some (.inr (3, fs)) := rcv_in h
theorem lk_X10_phase_0 : Cond.classLink RX10 89 "java/lang/IllegalArgumentException" ∈ wsX10_phase := List.mem_cons_of_mem _ (List.mem_append_left _ (List.mem_append_left _ (List.mem_append_left _ (List.mem_append_left _ (List.mem_append_left _ (List.mem_append_left _ (List.mem_append_left _ (List.mem_append_left _ (List.mem_of_getElem? (i := 2) rfl)))))))))
theorem lk_X10_phase_1 : Cond.initialized "java/lang/IllegalArgumentException" ∈ wsX10_phase := List.mem_cons_of_mem _ (List.mem_append_left _ (List.mem_append_left _ (List.mem_append_left _ (List.mem_append_left _ (List.mem_append_left _ (List.mem_append_left _ (List.mem_append_left _ (List.mem_append_left _ (List.mem_of_getElem? (i := 3) rfl)))))))))
theorem hin_X10_phase_X10 : ∀ w ∈ u_ws RX10 TX10 11, w ∈ wsX10_phase := fun w h => List.mem_cons_of_mem _ (List.mem_append_left _ (List.mem_append_left _ (List.mem_append_left _ (List.mem_append_left _ (List.mem_append_left _ (List.mem_append_left _ (List.mem_append_right _ h)))))))
theorem lk_X10_phase_2 : Cond.fieldLink RX10 62 "Gaitwright" "gait" "LGaitwright$Gait;" ∈ wsX10_phase := List.mem_cons_of_mem _ (List.mem_append_left _ (List.mem_append_left _ (List.mem_append_left _ (List.mem_append_left _ (List.mem_append_left _ (List.mem_append_left _ (List.mem_append_left _ (List.mem_append_left _ (List.mem_of_getElem? (i := 6) rfl)))))))))
theorem hin_X10_phase_X3 : ∀ w ∈ u_ws RX3 TX3 7, w ∈ wsX10_phase := fun w h => List.mem_cons_of_mem _ (List.mem_append_left _ (List.mem_append_left _ (List.mem_append_left _ (List.mem_append_left _ (List.mem_append_left _ (List.mem_append_right _ h))))))
theorem lk_X10_phase_3 : Cond.fieldLink RX10 162 "Gaitwright$Gait" "count" "I" ∈ wsX10_phase := List.mem_cons_of_mem _ (List.mem_append_left _ (List.mem_append_left _ (List.mem_append_left _ (List.mem_append_left _ (List.mem_append_left _ (List.mem_append_left _ (List.mem_append_left _ (List.mem_append_left _ (List.mem_of_getElem? (i := 7) rfl)))))))))
theorem lk_X10_phase_4 : Cond.classLink RX10 100 "java/lang/IllegalStateException" ∈ wsX10_phase := List.mem_cons_of_mem _ (List.mem_append_left _ (List.mem_append_left _ (List.mem_append_left _ (List.mem_append_left _ (List.mem_append_left _ (List.mem_append_left _ (List.mem_append_left _ (List.mem_append_left _ (List.mem_of_getElem? (i := 4) rfl)))))))))
theorem lk_X10_phase_5 : Cond.initialized "java/lang/IllegalStateException" ∈ wsX10_phase := List.mem_cons_of_mem _ (List.mem_append_left _ (List.mem_append_left _ (List.mem_append_left _ (List.mem_append_left _ (List.mem_append_left _ (List.mem_append_left _ (List.mem_append_left _ (List.mem_append_left _ (List.mem_of_getElem? (i := 5) rfl)))))))))
theorem lk_X10_phase_6 : Cond.classLink RX10 155 "java/lang/IndexOutOfBoundsException" ∈ wsX10_phase := List.mem_cons_of_mem _ (List.mem_append_left _ (List.mem_append_left _ (List.mem_append_left _ (List.mem_append_left _ (List.mem_append_left _ (List.mem_append_left _ (List.mem_append_left _ (List.mem_append_left _ (List.mem_of_getElem? (i := 0) rfl)))))))))
theorem lk_X10_phase_7 : Cond.initialized "java/lang/IndexOutOfBoundsException" ∈ wsX10_phase := List.mem_cons_of_mem _ (List.mem_append_left _ (List.mem_append_left _ (List.mem_append_left _ (List.mem_append_left _ (List.mem_append_left _ (List.mem_append_left _ (List.mem_append_left _ (List.mem_append_left _ (List.mem_of_getElem? (i := 1) rfl)))))))))
def m_X10_phase_b60 (ws : LWd) : Option ((Int32 ⊕ String) × LWd) :=
  some (.inr "java/lang/IllegalArgumentException", ws)
set_option maxRecDepth 100000 in
set_option maxHeartbeats 4000000 in
theorem jm_X10_phase_b60 {n0 : Nat} {rr : Int32 ⊕ String} {ws' : LWd} (ws : LWd) (hn0 : ws.length = n0) (h : m_X10_phase_b60 ws = some (rr, ws')) : JG true cX10_phase 6 RX10 wsX10_phase (some .int) "phase" 6 1 6 n0 (jthr rr, ws') 60 [none, none, none, none, none, none] [] ws 0 0 := by
  unfold m_X10_phase_b60 at h
  obtain ⟨rfl, rfl⟩ := jretS h
  exact j_throw (pc := 60) (text := "no such way") rfl rfl dX10_phase_60 dX10_phase_63 dX10_phase_64 dX10_phase_66 dX10_phase_69 (List.mem_of_getElem? (i := 7) rfl) (List.mem_of_getElem? (i := 0) rfl) (jfit _ (List.mem_of_getElem? (i := 0) rfl)) lk_X10_phase_0 lk_X10_phase_1 (fun w h => List.mem_cons_of_mem _ (List.mem_append_left _ (List.mem_append_right _ h))) jgo_93 (by decide) (by decide) (by decide) (by decide) (by omega) rfl
def m_X10_phase (a0 : Nat) (i1 : Int32) (i2 : Int32) (i3 : Int32) (i4 : Int32) (i5 : Int32) (ws : LWd) : Option ((Int32 ⊕ String) × LWd) :=
  (rcv ws a0 10).bind fun _ =>
  bn2 (calSR ws (m_X10_isLeg a0 i1 ws)) fun x3 w1 =>
  if x3 = 0 then
    some (.inr "java/lang/IndexOutOfBoundsException", w1)
  else
    bn2 (calSR w1 (m_X10_isWithin i2 ((-6)) 6 w1)) fun x7 w5 =>
    if x7 = 0 then
      m_X10_phase_b60  w5
    else
      bn2 (calSR w5 (m_X10_isWithin i3 ((-6)) 6 w5)) fun x11 w9 =>
      if x11 = 0 then
        m_X10_phase_b60  w9
      else
        bn2 (calSR w9 (m_X10_isWithin i4 ((-1)) 1 w9)) fun x15 w13 =>
        if x15 = 0 then
          m_X10_phase_b60  w13
        else
          bn2 (calSR w13 (m_X10_isWithin i5 ((-1)) 1 w13)) fun x19 w17 =>
          if x19 = 0 then
            m_X10_phase_b60  w17
          else
            (fR w17 a0 10 7).bind fun x21 =>
            (fI w17 x21 3 5).bind fun x23 =>
            if x23 < 8 then
              (fR w17 a0 10 7).bind fun x26 =>
              bn2 (calSR w17 (m_X3_add x26 i1 i2 i3 i4 i5 w17)) fun x30 w28 =>
              some (.inl x30, w28)
            else
              some (.inr "java/lang/IllegalStateException", w17)
set_option maxRecDepth 100000 in
set_option maxHeartbeats 4000000 in
theorem s_X10_phase {a0 : Nat} {i1 : Int32} {i2 : Int32} {i3 : Int32} {i4 : Int32} {i5 : Int32} {ws : LWd} {rr : Int32 ⊕ String} {ws' : LWd} (h : m_X10_phase a0 i1 i2 i3 i4 i5 ws = some (rr, ws')) : jSX yX10_phase wsX10_phase 6 1 6 [.ref a0, .int i1, .int i2, .int i3, .int i4, .int i5] ws (jthr rr, ws') := by
  unfold m_X10_phase at h
  refine j_entryX (ret := (some .int)) (nm := "phase") (own := RX10) pl_X10 rfl rfl rfl (jcats (by rfl)) (by decide) ?_
  show JG true cX10_phase 6 RX10 wsX10_phase (some .int) "phase" 6 1 6 ws.length (jthr rr, ws') 0 [some (.ref a0), some (.int i1), some (.int i2), some (.int i3), some (.int i4), some (.int i5)] [] ws 0 0
  obtain ⟨_, _, h⟩ := obS h
  refine j_aload_n (pc := 0) dX10_phase_0 rfl ?_
  refine j_iload_n (pc := 1) dX10_phase_1 rfl ?_
  obtain ⟨x3, w1, e2, h⟩ := obS2 h
  have ge2 := calSR_of e2
  have le2 := ge2.2
  refine j_callV_g (pc := 2) (As := [.int i1]) (k' := 0) (n' := 0) dX10_phase_2 (s_X10_isLeg ge2.1) gX10_phase_X10_isLeg rfl hv_X10_isLeg rfl (r_X10_isLeg ge2.1) rfl (by decide) (by decide) (by decide) (by decide) (by decide) (by decide) (by decide) (Or.inl ge2.2) ?_
  refine j_if_ne (pc := 5) (tgt := 18) dX10_phase_5 (by decide) (fun c4 => ?_) (fun c4 => ?_)
  · rw [if_neg c4] at h
    refine j_iload_n (pc := 18) dX10_phase_18 rfl ?_
    refine j_bipush (pc := 19) dX10_phase_19 (v := (-6)) (by decide) ?_
    refine j_bipush (pc := 21) dX10_phase_21 (v := 6) (by decide) ?_
    obtain ⟨x7, w5, e6, h⟩ := obS2 h
    have ge6 := calSR_of e6
    have le6 := ge6.2
    refine j_callS_g (pc := 23) (As := [.int i2, .int ((-6)), .int 6]) (k' := 0) (n' := 0) dX10_phase_23 (s_X10_isWithin ge6.1) gX10_phase_X10_isWithin rfl hy_X10_isWithin rfl (by decide) (by decide) (by decide) (by decide) (by decide) (by decide) (by decide) (Or.inl ge6.2) ?_
    refine j_if_eq (pc := 26) (tgt := 60) dX10_phase_26 (by decide) (fun c8 => ?_) (fun c8 => ?_)
    · rw [if_pos c8] at h
      refine j_mask [false, false, false, false, false, false] ?_
      exact jm_X10_phase_b60 w5 (by omega) h
    · rw [if_neg c8] at h
      refine j_iload_n (pc := 29) dX10_phase_29 rfl ?_
      refine j_bipush (pc := 30) dX10_phase_30 (v := (-6)) (by decide) ?_
      refine j_bipush (pc := 32) dX10_phase_32 (v := 6) (by decide) ?_
      obtain ⟨x11, w9, e10, h⟩ := obS2 h
      have ge10 := calSR_of e10
      have le10 := ge10.2
      refine j_callS_g (pc := 34) (As := [.int i3, .int ((-6)), .int 6]) (k' := 0) (n' := 0) dX10_phase_34 (s_X10_isWithin ge10.1) gX10_phase_X10_isWithin rfl hy_X10_isWithin rfl (by decide) (by decide) (by decide) (by decide) (by decide) (by decide) (by decide) (Or.inl ge10.2) ?_
      refine j_if_eq (pc := 37) (tgt := 60) dX10_phase_37 (by decide) (fun c12 => ?_) (fun c12 => ?_)
      · rw [if_pos c12] at h
        refine j_mask [false, false, false, false, false, false] ?_
        exact jm_X10_phase_b60 w9 (by omega) h
      · rw [if_neg c12] at h
        refine j_iload (pc := 40) dX10_phase_40 rfl ?_
        refine j_iconst (pc := 42) dX10_phase_42 (v := (-1)) (by decide) ?_
        refine j_iconst (pc := 43) dX10_phase_43 (v := 1) (by decide) ?_
        obtain ⟨x15, w13, e14, h⟩ := obS2 h
        have ge14 := calSR_of e14
        have le14 := ge14.2
        refine j_callS_g (pc := 44) (As := [.int i4, .int ((-1)), .int 1]) (k' := 0) (n' := 0) dX10_phase_44 (s_X10_isWithin ge14.1) gX10_phase_X10_isWithin rfl hy_X10_isWithin rfl (by decide) (by decide) (by decide) (by decide) (by decide) (by decide) (by decide) (Or.inl ge14.2) ?_
        refine j_if_eq (pc := 47) (tgt := 60) dX10_phase_47 (by decide) (fun c16 => ?_) (fun c16 => ?_)
        · rw [if_pos c16] at h
          refine j_mask [false, false, false, false, false, false] ?_
          exact jm_X10_phase_b60 w13 (by omega) h
        · rw [if_neg c16] at h
          refine j_iload (pc := 50) dX10_phase_50 rfl ?_
          refine j_iconst (pc := 52) dX10_phase_52 (v := (-1)) (by decide) ?_
          refine j_iconst (pc := 53) dX10_phase_53 (v := 1) (by decide) ?_
          obtain ⟨x19, w17, e18, h⟩ := obS2 h
          have ge18 := calSR_of e18
          have le18 := ge18.2
          refine j_callS_g (pc := 54) (As := [.int i5, .int ((-1)), .int 1]) (k' := 0) (n' := 0) dX10_phase_54 (s_X10_isWithin ge18.1) gX10_phase_X10_isWithin rfl hy_X10_isWithin rfl (by decide) (by decide) (by decide) (by decide) (by decide) (by decide) (by decide) (Or.inl ge18.2) ?_
          refine j_if_ne (pc := 57) (tgt := 70) dX10_phase_57 (by decide) (fun c20 => ?_) (fun c20 => ?_)
          · rw [if_neg c20] at h
            refine j_aload_n (pc := 70) dX10_phase_70 rfl ?_
            obtain ⟨x21, e22, h⟩ := obS h
            refine j_getR (pc := 71) dX10_phase_71 (ci := 10) (kf := 7) rfl hin_X10_phase_X10 (by decide) lk_X10_phase_2 e22 ?_
            obtain ⟨x23, e24, h⟩ := obS h
            refine j_getI (pc := 74) dX10_phase_74 (ci := 3) (kf := 5) rfl hin_X10_phase_X3 (by decide) lk_X10_phase_3 e24 ?_
            refine j_bipush (pc := 77) dX10_phase_77 (v := 8) (by decide) ?_
            refine j_icmp_lt (pc := 79) (tgt := 92) dX10_phase_79 (by decide) (fun c25 => ?_) (fun c25 => ?_)
            · rw [if_pos c25] at h
              refine j_aload_n (pc := 92) dX10_phase_92 rfl ?_
              obtain ⟨x26, e27, h⟩ := obS h
              refine j_getR (pc := 93) dX10_phase_93 (ci := 10) (kf := 7) rfl hin_X10_phase_X10 (by decide) lk_X10_phase_2 e27 ?_
              refine j_iload_n (pc := 96) dX10_phase_96 rfl ?_
              refine j_iload_n (pc := 97) dX10_phase_97 rfl ?_
              refine j_iload_n (pc := 98) dX10_phase_98 rfl ?_
              refine j_iload (pc := 99) dX10_phase_99 rfl ?_
              refine j_iload (pc := 101) dX10_phase_101 rfl ?_
              obtain ⟨x30, w28, e29, h⟩ := obS2 h
              have ge29 := calSR_of e29
              have le29 := ge29.2
              refine j_callV_g (pc := 103) (As := [.int i1, .int i2, .int i3, .int i4, .int i5]) (k' := 0) (n' := 0) dX10_phase_103 (s_X3_add ge29.1) gX10_phase_X3_add rfl hv_X3_add rfl (r_X3_add ge29.1) rfl (by decide) (by decide) (by decide) (by decide) (by decide) (by decide) (by decide) (Or.inl ge29.2) ?_
              obtain ⟨rfl, rfl⟩ := jretS h
              exact j_iret (pc := 106) rfl dX10_phase_106 (by decide) (by decide) rfl
            · rw [if_neg c25] at h
              obtain ⟨rfl, rfl⟩ := jretS h
              exact j_throw (pc := 82) (text := "no phase can be added") rfl rfl dX10_phase_82 dX10_phase_85 dX10_phase_86 dX10_phase_88 dX10_phase_91 (List.mem_of_getElem? (i := 8) rfl) (List.mem_of_getElem? (i := 1) rfl) (jfit _ (List.mem_of_getElem? (i := 1) rfl)) lk_X10_phase_4 lk_X10_phase_5 (fun w h => List.mem_cons_of_mem _ (List.mem_append_right _ h)) jgo_104 (by decide) (by decide) (by decide) (by decide) (by omega) rfl
          · rw [if_pos c20] at h
            refine j_mask [false, false, false, false, false, false] ?_
            exact jm_X10_phase_b60 w17 (by omega) h
  · rw [if_pos c4] at h
    obtain ⟨rfl, rfl⟩ := jretS h
    exact j_throw (pc := 8) (text := "no such leg") rfl rfl dX10_phase_8 dX10_phase_11 dX10_phase_12 dX10_phase_14 dX10_phase_17 (List.mem_of_getElem? (i := 6) rfl) (List.mem_of_getElem? (i := 2) rfl) (jfit _ (List.mem_of_getElem? (i := 2) rfl)) lk_X10_phase_6 lk_X10_phase_7 (fun w h => List.mem_cons_of_mem _ (List.mem_append_left _ (List.mem_append_left _ (List.mem_append_right _ h)))) jgo_159 (by decide) (by decide) (by decide) (by decide) (by omega) rfl
theorem r_X10_phase {a0 : Nat} {i1 : Int32} {i2 : Int32} {i3 : Int32} {i4 : Int32} {i5 : Int32} {ws : LWd} {o : ((Int32 ⊕ String) × LWd)} (h : m_X10_phase a0 i1 i2 i3 i4 i5 ws = some o) : ∃ fs, ws[a0]? = some (.inr (10, fs)) := rcv_in h
theorem lk_X3_clear_0 : Cond.fieldLink RX3 32 "Gaitwright$Gait" "count" "I" ∈ wsX3_clear := List.mem_cons_of_mem _ (List.mem_append_left _ (List.mem_of_getElem? (i := 0) rfl))
theorem hin_X3_clear_X3 : ∀ w ∈ u_ws RX3 TX3 7, w ∈ wsX3_clear := fun w h => List.mem_cons_of_mem _ (List.mem_append_right _ h)
theorem lk_X3_clear_1 : Cond.fieldLink RX3 36 "Gaitwright$Gait" "next" "I" ∈ wsX3_clear := List.mem_cons_of_mem _ (List.mem_append_left _ (List.mem_of_getElem? (i := 1) rfl))
def m_X3_clear (a0 : Nat) (ws : LWd) : Option LWd :=
  (rcv ws a0 3).bind fun _ =>
  (pV ws a0 3 5 (.int 0)).bind fun w1 =>
  (pV w1 a0 3 6 (.int 0)).bind fun w3 =>
  some w3
set_option maxRecDepth 100000 in
set_option maxHeartbeats 4000000 in
theorem s_X3_clear {a0 : Nat} {ws : LWd} {ws' : LWd} (h : m_X3_clear a0 ws = some ws') : jSp yX3_clear wsX3_clear 0 0 0 [.ref a0] ws (.inl none, ws') := by
  unfold m_X3_clear at h
  refine j_entry (ret := none) (nm := "clear") (own := RX3) pl_X3 rfl rfl rfl (jcats (by rfl)) (by decide) ?_
  show JG false cX3_clear 1 RX3 wsX3_clear none "clear" 0 0 0 ws.length (.inl none, ws') 0 [some (.ref a0)] [] ws 0 0
  obtain ⟨_, _, h⟩ := obS h
  refine j_aload_n (pc := 0) dX3_clear_0 rfl ?_
  refine j_iconst (pc := 1) dX3_clear_1 (v := 0) (by decide) ?_
  obtain ⟨w1, e2, h⟩ := obS h
  refine j_putV (pc := 2) (ci := 3) (kf := 5) tyX3 tyX3_ok nmX3 dX3_clear_2 rfl hin_X3_clear_X3 (by decide) lk_X3_clear_0 rfl (fun _ => rfl) (fun _ => rfl) e2 ?_
  refine j_aload_n (pc := 5) dX3_clear_5 rfl ?_
  refine j_iconst (pc := 6) dX3_clear_6 (v := 0) (by decide) ?_
  obtain ⟨w3, e4, h⟩ := obS h
  refine j_putV (pc := 7) (ci := 3) (kf := 6) tyX3 tyX3_ok nmX3 dX3_clear_7 rfl hin_X3_clear_X3 (by decide) lk_X3_clear_1 rfl (fun _ => rfl) (fun _ => rfl) e4 ?_
  cases h
  exact j_vret (pc := 10) rfl dX3_clear_10 (by decide) (by decide) rfl
theorem r_X3_clear {a0 : Nat} {ws : LWd} {o : LWd} (h : m_X3_clear a0 ws = some o) : ∃ fs, ws[a0]? = some (.inr (3, fs)) := rcv_in h
theorem hin_X10_halt_X10 : ∀ w ∈ u_ws RX10 TX10 11, w ∈ wsX10_halt := fun w h => List.mem_cons_of_mem _ (List.mem_append_left _ (List.mem_append_right _ h))
theorem lk_X10_halt_0 : Cond.fieldLink RX10 62 "Gaitwright" "gait" "LGaitwright$Gait;" ∈ wsX10_halt := List.mem_cons_of_mem _ (List.mem_append_left _ (List.mem_append_left _ (List.mem_of_getElem? (i := 0) rfl)))
theorem hin_X10_halt_X3 : ∀ w ∈ u_ws RX3 TX3 7, w ∈ wsX10_halt := fun w h => List.mem_cons_of_mem _ (List.mem_append_right _ h)
theorem lk_X10_halt_1 : Cond.fieldLink RX10 162 "Gaitwright$Gait" "count" "I" ∈ wsX10_halt := List.mem_cons_of_mem _ (List.mem_append_left _ (List.mem_append_left _ (List.mem_of_getElem? (i := 1) rfl)))
def m_X10_halt (a0 : Nat) (ws : LWd) : Option (Int32 × LWd) :=
  (rcv ws a0 10).bind fun _ =>
  (fR ws a0 10 7).bind fun x1 =>
  (fI ws x1 3 5).bind fun x3 =>
  (fR ws a0 10 7).bind fun x5 =>
  (calSV ws (m_X3_clear x5 ws)).bind fun w7 =>
  some (x3, w7)
set_option maxRecDepth 100000 in
set_option maxHeartbeats 4000000 in
theorem s_X10_halt {a0 : Nat} {ws : LWd} {rr : Int32} {ws' : LWd} (h : m_X10_halt a0 ws = some (rr, ws')) : jSp yX10_halt wsX10_halt 1 0 0 [.ref a0] ws (.inl (some (.int rr)), ws') := by
  unfold m_X10_halt at h
  refine j_entry (ret := (some .int)) (nm := "halt") (own := RX10) pl_X10 rfl rfl rfl (jcats (by rfl)) (by decide) ?_
  show JG false cX10_halt 2 RX10 wsX10_halt (some .int) "halt" 1 0 0 ws.length (.inl (some (.int rr)), ws') 0 [some (.ref a0), none] [] ws 0 0
  obtain ⟨_, _, h⟩ := obS h
  refine j_aload_n (pc := 0) dX10_halt_0 rfl ?_
  obtain ⟨x1, e2, h⟩ := obS h
  refine j_getR (pc := 1) dX10_halt_1 (ci := 10) (kf := 7) rfl hin_X10_halt_X10 (by decide) lk_X10_halt_0 e2 ?_
  obtain ⟨x3, e4, h⟩ := obS h
  refine j_getI (pc := 4) dX10_halt_4 (ci := 3) (kf := 5) rfl hin_X10_halt_X3 (by decide) lk_X10_halt_1 e4 ?_
  refine j_istore_n_1 (pc := 7) dX10_halt_7 (by decide) rfl ?_
  refine j_aload_n (pc := 8) dX10_halt_8 rfl ?_
  obtain ⟨x5, e6, h⟩ := obS h
  refine j_getR (pc := 9) dX10_halt_9 (ci := 10) (kf := 7) rfl hin_X10_halt_X10 (by decide) lk_X10_halt_0 e6 ?_
  obtain ⟨w7, e8, h⟩ := obS h
  have ge8 := calSV_of e8
  refine j_callV_g (pc := 12) (As := []) (k' := 0) (n' := 0) dX10_halt_12 (s_X3_clear ge8.1) gX10_halt_X3_clear rfl hv_X3_clear rfl (r_X3_clear ge8.1) rfl (by decide) (by decide) (by decide) (by decide) (by decide) (by decide) (by decide) (Or.inl ge8.2) ?_
  refine j_iload_n (pc := 15) dX10_halt_15 rfl ?_
  obtain ⟨rfl, rfl⟩ := jretS h
  exact j_iret (pc := 16) rfl dX10_halt_16 (by decide) (by decide) rfl
theorem r_X10_halt {a0 : Nat} {ws : LWd} {o : (Int32 × LWd)} (h : m_X10_halt a0 ws = some o) : ∃ fs, ws[a0]? = some (.inr (10, fs)) := rcv_in h
theorem lk_X2_carry_0 : Cond.fieldLink RX2 30 "Gaitwright$Frame" "loadWeight" "I" ∈ wsX2_carry := List.mem_cons_of_mem _ (List.mem_append_left _ (List.mem_of_getElem? (i := 0) rfl))
theorem hin_X2_carry_X2 : ∀ w ∈ u_ws RX2 TX2 7, w ∈ wsX2_carry := fun w h => List.mem_cons_of_mem _ (List.mem_append_right _ h)
theorem lk_X2_carry_1 : Cond.fieldLink RX2 33 "Gaitwright$Frame" "loadX" "I" ∈ wsX2_carry := List.mem_cons_of_mem _ (List.mem_append_left _ (List.mem_of_getElem? (i := 1) rfl))
theorem lk_X2_carry_2 : Cond.fieldLink RX2 36 "Gaitwright$Frame" "loadY" "I" ∈ wsX2_carry := List.mem_cons_of_mem _ (List.mem_append_left _ (List.mem_of_getElem? (i := 2) rfl))
def m_X2_carry (a0 : Nat) (i1 : Int32) (i2 : Int32) (i3 : Int32) (ws : LWd) : Option LWd :=
  (rcv ws a0 2).bind fun _ =>
  (pV ws a0 2 4 (.int i1)).bind fun w1 =>
  (pV w1 a0 2 5 (.int i2)).bind fun w3 =>
  (pV w3 a0 2 6 (.int i3)).bind fun w5 =>
  some w5
set_option maxRecDepth 100000 in
set_option maxHeartbeats 4000000 in
theorem s_X2_carry {a0 : Nat} {i1 : Int32} {i2 : Int32} {i3 : Int32} {ws : LWd} {ws' : LWd} (h : m_X2_carry a0 i1 i2 i3 ws = some ws') : jSp yX2_carry wsX2_carry 0 0 0 [.ref a0, .int i1, .int i2, .int i3] ws (.inl none, ws') := by
  unfold m_X2_carry at h
  refine j_entry (ret := none) (nm := "carry") (own := RX2) pl_X2 rfl rfl rfl (jcats (by rfl)) (by decide) ?_
  show JG false cX2_carry 4 RX2 wsX2_carry none "carry" 0 0 0 ws.length (.inl none, ws') 0 [some (.ref a0), some (.int i1), some (.int i2), some (.int i3)] [] ws 0 0
  obtain ⟨_, _, h⟩ := obS h
  refine j_aload_n (pc := 0) dX2_carry_0 rfl ?_
  refine j_iload_n (pc := 1) dX2_carry_1 rfl ?_
  obtain ⟨w1, e2, h⟩ := obS h
  refine j_putV (pc := 2) (ci := 2) (kf := 4) tyX2 tyX2_ok nmX2 dX2_carry_2 rfl hin_X2_carry_X2 (by decide) lk_X2_carry_0 rfl (fun _ => rfl) (fun _ => rfl) e2 ?_
  refine j_aload_n (pc := 5) dX2_carry_5 rfl ?_
  refine j_iload_n (pc := 6) dX2_carry_6 rfl ?_
  obtain ⟨w3, e4, h⟩ := obS h
  refine j_putV (pc := 7) (ci := 2) (kf := 5) tyX2 tyX2_ok nmX2 dX2_carry_7 rfl hin_X2_carry_X2 (by decide) lk_X2_carry_1 rfl (fun _ => rfl) (fun _ => rfl) e4 ?_
  refine j_aload_n (pc := 10) dX2_carry_10 rfl ?_
  refine j_iload_n (pc := 11) dX2_carry_11 rfl ?_
  obtain ⟨w5, e6, h⟩ := obS h
  refine j_putV (pc := 12) (ci := 2) (kf := 6) tyX2 tyX2_ok nmX2 dX2_carry_12 rfl hin_X2_carry_X2 (by decide) lk_X2_carry_2 rfl (fun _ => rfl) (fun _ => rfl) e6 ?_
  cases h
  exact j_vret (pc := 15) rfl dX2_carry_15 (by decide) (by decide) rfl
theorem r_X2_carry {a0 : Nat} {i1 : Int32} {i2 : Int32} {i3 : Int32} {ws : LWd} {o : LWd} (h : m_X2_carry a0 i1 i2 i3 ws = some o) : ∃ fs, ws[a0]? = some (.inr (2, fs)) := rcv_in h
def m_X4_isFurtherOut (i0 : Int32) (i1 : Int32) (i2 : Int32) (ws : LWd) : Option (Int32 × LWd) :=
  if ((((jrem i1 20) - (jrem i0 20)) * ((i2 / 20) - (i0 / 20))) - (((i1 / 20) - (i0 / 20)) * ((jrem i2 20) - (jrem i0 20)))) < 0 then
    some (1, ws)
  else
    if ((((jrem i1 20) - (jrem i0 20)) * ((i2 / 20) - (i0 / 20))) - (((i1 / 20) - (i0 / 20)) * ((jrem i2 20) - (jrem i0 20)))) = 0 then
      if ((((jrem i2 20) - (jrem i0 20)) * ((jrem i2 20) - (jrem i0 20))) + (((i2 / 20) - (i0 / 20)) * ((i2 / 20) - (i0 / 20)))) ≤ ((((jrem i1 20) - (jrem i0 20)) * ((jrem i1 20) - (jrem i0 20))) + (((i1 / 20) - (i0 / 20)) * ((i1 / 20) - (i0 / 20)))) then
        some (0, ws)
      else
        some (1, ws)
    else
      some (0, ws)
set_option maxRecDepth 100000 in
set_option maxHeartbeats 4000000 in
theorem s_X4_isFurtherOut {i0 : Int32} {i1 : Int32} {i2 : Int32} {ws : LWd} {rr : Int32} {ws' : LWd} (h : m_X4_isFurtherOut i0 i1 i2 ws = some (rr, ws')) : jSp yX4_isFurtherOut wsX4_isFurtherOut 0 0 0 [.int i0, .int i1, .int i2] ws (.inl (some (.int rr)), ws') := by
  unfold m_X4_isFurtherOut at h
  refine j_entry (ret := (some .boolean)) (nm := "isFurtherOut") (own := RX4) pl_X4 rfl rfl rfl (jcats (by rfl)) (by decide) ?_
  show JG false cX4_isFurtherOut 8 RX4 wsX4_isFurtherOut (some .boolean) "isFurtherOut" 0 0 0 ws.length (.inl (some (.int rr)), ws') 0 [some (.int i0), some (.int i1), some (.int i2), none, none, none, none, none] [] ws 0 0
  refine j_iload_n (pc := 0) dX4_isFurtherOut_0 rfl ?_
  refine j_bipush (pc := 1) dX4_isFurtherOut_1 (v := 20) (by decide) ?_
  refine j_irem (pc := 3) dX4_isFurtherOut_3 (by decide) ?_
  refine j_iload_n (pc := 4) dX4_isFurtherOut_4 rfl ?_
  refine j_bipush (pc := 5) dX4_isFurtherOut_5 (v := 20) (by decide) ?_
  refine j_irem (pc := 7) dX4_isFurtherOut_7 (by decide) ?_
  refine j_isub (pc := 8) dX4_isFurtherOut_8 ?_
  refine j_istore_n_3 (pc := 9) dX4_isFurtherOut_9 (by decide) rfl ?_
  refine j_iload_n (pc := 10) dX4_isFurtherOut_10 rfl ?_
  refine j_bipush (pc := 11) dX4_isFurtherOut_11 (v := 20) (by decide) ?_
  refine j_idiv (pc := 13) dX4_isFurtherOut_13 (by decide) ?_
  refine j_iload_n (pc := 14) dX4_isFurtherOut_14 rfl ?_
  refine j_bipush (pc := 15) dX4_isFurtherOut_15 (v := 20) (by decide) ?_
  refine j_idiv (pc := 17) dX4_isFurtherOut_17 (by decide) ?_
  refine j_isub (pc := 18) dX4_isFurtherOut_18 ?_
  refine j_istore_4 (pc := 19) dX4_isFurtherOut_19 (by decide) rfl ?_
  refine j_iload_n (pc := 21) dX4_isFurtherOut_21 rfl ?_
  refine j_bipush (pc := 22) dX4_isFurtherOut_22 (v := 20) (by decide) ?_
  refine j_irem (pc := 24) dX4_isFurtherOut_24 (by decide) ?_
  refine j_iload_n (pc := 25) dX4_isFurtherOut_25 rfl ?_
  refine j_bipush (pc := 26) dX4_isFurtherOut_26 (v := 20) (by decide) ?_
  refine j_irem (pc := 28) dX4_isFurtherOut_28 (by decide) ?_
  refine j_isub (pc := 29) dX4_isFurtherOut_29 ?_
  refine j_istore_5 (pc := 30) dX4_isFurtherOut_30 (by decide) rfl ?_
  refine j_iload_n (pc := 32) dX4_isFurtherOut_32 rfl ?_
  refine j_bipush (pc := 33) dX4_isFurtherOut_33 (v := 20) (by decide) ?_
  refine j_idiv (pc := 35) dX4_isFurtherOut_35 (by decide) ?_
  refine j_iload_n (pc := 36) dX4_isFurtherOut_36 rfl ?_
  refine j_bipush (pc := 37) dX4_isFurtherOut_37 (v := 20) (by decide) ?_
  refine j_idiv (pc := 39) dX4_isFurtherOut_39 (by decide) ?_
  refine j_isub (pc := 40) dX4_isFurtherOut_40 ?_
  refine j_istore_6 (pc := 41) dX4_isFurtherOut_41 (by decide) rfl ?_
  refine j_iload_n (pc := 43) dX4_isFurtherOut_43 rfl ?_
  refine j_iload (pc := 44) dX4_isFurtherOut_44 rfl ?_
  refine j_imul (pc := 46) dX4_isFurtherOut_46 ?_
  refine j_iload (pc := 47) dX4_isFurtherOut_47 rfl ?_
  refine j_iload (pc := 49) dX4_isFurtherOut_49 rfl ?_
  refine j_imul (pc := 51) dX4_isFurtherOut_51 ?_
  refine j_isub (pc := 52) dX4_isFurtherOut_52 ?_
  refine j_istore_7 (pc := 53) dX4_isFurtherOut_53 (by decide) rfl ?_
  refine j_iload (pc := 55) dX4_isFurtherOut_55 rfl ?_
  refine j_if_lt (pc := 57) (tgt := 88) dX4_isFurtherOut_57 (by decide) (fun c1 => ?_) (fun c1 => ?_)
  · rw [if_pos c1] at h
    refine j_iconst (pc := 88) dX4_isFurtherOut_88 (v := 1) (by decide) ?_
    refine j_goto (pc := 89) (tgt := 93) dX4_isFurtherOut_89 (by decide) ?_
    obtain ⟨rfl, rfl⟩ := jretS h
    exact j_zret (pc := 93) (ws1 := ws) rfl dX4_isFurtherOut_93 (by decide) (by decide) (show retZ 1 ws = some (1, ws) from rfl) rfl rfl
  · rw [if_neg c1] at h
    refine j_iload (pc := 60) dX4_isFurtherOut_60 rfl ?_
    refine j_if_ne (pc := 62) (tgt := 92) dX4_isFurtherOut_62 (by decide) (fun c2 => ?_) (fun c2 => ?_)
    · rw [if_neg c2] at h
      refine j_iconst (pc := 92) dX4_isFurtherOut_92 (v := 0) (by decide) ?_
      obtain ⟨rfl, rfl⟩ := jretS h
      exact j_zret (pc := 93) (ws1 := ws) rfl dX4_isFurtherOut_93 (by decide) (by decide) (show retZ 0 ws = some (0, ws) from rfl) rfl rfl
    · rw [if_pos c2] at h
      refine j_iload (pc := 65) dX4_isFurtherOut_65 rfl ?_
      refine j_iload (pc := 67) dX4_isFurtherOut_67 rfl ?_
      refine j_imul (pc := 69) dX4_isFurtherOut_69 ?_
      refine j_iload (pc := 70) dX4_isFurtherOut_70 rfl ?_
      refine j_iload (pc := 72) dX4_isFurtherOut_72 rfl ?_
      refine j_imul (pc := 74) dX4_isFurtherOut_74 ?_
      refine j_iadd (pc := 75) dX4_isFurtherOut_75 ?_
      refine j_iload_n (pc := 76) dX4_isFurtherOut_76 rfl ?_
      refine j_iload_n (pc := 77) dX4_isFurtherOut_77 rfl ?_
      refine j_imul (pc := 78) dX4_isFurtherOut_78 ?_
      refine j_iload (pc := 79) dX4_isFurtherOut_79 rfl ?_
      refine j_iload (pc := 81) dX4_isFurtherOut_81 rfl ?_
      refine j_imul (pc := 83) dX4_isFurtherOut_83 ?_
      refine j_iadd (pc := 84) dX4_isFurtherOut_84 ?_
      refine j_icmp_le (pc := 85) (tgt := 92) dX4_isFurtherOut_85 (by decide) (fun c3 => ?_) (fun c3 => ?_)
      · rw [if_pos c3] at h
        refine j_iconst (pc := 92) dX4_isFurtherOut_92 (v := 0) (by decide) ?_
        obtain ⟨rfl, rfl⟩ := jretS h
        exact j_zret (pc := 93) (ws1 := ws) rfl dX4_isFurtherOut_93 (by decide) (by decide) (show retZ 0 ws = some (0, ws) from rfl) rfl rfl
      · rw [if_neg c3] at h
        refine j_iconst (pc := 88) dX4_isFurtherOut_88 (v := 1) (by decide) ?_
        refine j_goto (pc := 89) (tgt := 93) dX4_isFurtherOut_89 (by decide) ?_
        obtain ⟨rfl, rfl⟩ := jretS h
        exact j_zret (pc := 93) (ws1 := ws) rfl dX4_isFurtherOut_93 (by decide) (by decide) (show retZ 1 ws = some (1, ws) from rfl) rfl rfl
theorem hin_X4_wrap_X4 : ∀ w ∈ u_ws RX4 TX4 3, w ∈ wsX4_wrap := fun w h => List.mem_cons_of_mem _ (List.mem_append_left _ (List.mem_append_right _ h))
theorem lk_X4_wrap_0 : Cond.fieldLink RX4 14 "Gaitwright$Hull" "corners" "LGaitwright$Row;" ∈ wsX4_wrap := List.mem_cons_of_mem _ (List.mem_append_left _ (List.mem_append_left _ (List.mem_of_getElem? (i := 6) rfl)))
theorem lk_X4_wrap_1 : Cond.fieldLink RX4 23 "Gaitwright$Hull" "size" "I" ∈ wsX4_wrap := List.mem_cons_of_mem _ (List.mem_append_left _ (List.mem_append_left _ (List.mem_of_getElem? (i := 5) rfl)))
theorem lk_X4_wrap_2 : Cond.fieldLink RX4 20 "Gaitwright$Hull" "points" "LGaitwright$Row;" ∈ wsX4_wrap := List.mem_cons_of_mem _ (List.mem_append_left _ (List.mem_append_left _ (List.mem_of_getElem? (i := 0) rfl)))
theorem lk_X4_wrap_3 : Cond.methodLink RX4 34 Lib.Math.min.name ∈ wsX4_wrap := List.mem_cons_of_mem _ (List.mem_append_left _ (List.mem_append_left _ (List.mem_of_getElem? (i := 1) rfl)))
theorem lk_X4_wrap_4 : Cond.static Lib.Math.min.name ∈ wsX4_wrap := List.mem_cons_of_mem _ (List.mem_append_left _ (List.mem_append_left _ (List.mem_of_getElem? (i := 2) rfl)))
theorem lk_X4_wrap_5 : Cond.initialized "java/lang/Math" ∈ wsX4_wrap := List.mem_cons_of_mem _ (List.mem_append_left _ (List.mem_append_left _ (List.mem_of_getElem? (i := 3) rfl)))
theorem lk_X4_wrap_6 : Cond.code Lib.Math.min.name Lib.Math.min.code 2 (some .int) ∈ wsX4_wrap := List.mem_cons_of_mem _ (List.mem_append_left _ (List.mem_append_left _ (List.mem_of_getElem? (i := 4) rfl)))
def m_X4_wrap_b175 (a0 : Nat) (i4 : Int32) (ws : LWd) : Option LWd :=
  (fR ws a0 4 0).bind fun x1 =>
  (fI ws a0 4 2).bind fun x3 =>
  (calSV ws (m_X8_put x1 x3 i4 ws)).bind fun w5 =>
  some w5
set_option maxRecDepth 100000 in
set_option maxHeartbeats 4000000 in
theorem jm_X4_wrap_b175 {n0 : Nat} {ws' : LWd} (a0 : Nat) (i4 : Int32) (ws : LWd) (h : m_X4_wrap_b175 a0 i4 ws = some ws') : JG false cX4_wrap 8 RX4 wsX4_wrap none "wrap" 1 0 0 n0 (.inl none, ws') 175 [some (.ref a0), none, none, none, some (.int i4), none, none, none] [] ws 0 0 := by
  unfold m_X4_wrap_b175 at h
  refine j_aload_n (pc := 175) dX4_wrap_175 rfl ?_
  obtain ⟨x1, e2, h⟩ := obS h
  refine j_getR (pc := 176) dX4_wrap_176 (ci := 4) (kf := 0) rfl hin_X4_wrap_X4 (by decide) lk_X4_wrap_0 e2 ?_
  refine j_aload_n (pc := 179) dX4_wrap_179 rfl ?_
  obtain ⟨x3, e4, h⟩ := obS h
  refine j_getI (pc := 180) dX4_wrap_180 (ci := 4) (kf := 2) rfl hin_X4_wrap_X4 (by decide) lk_X4_wrap_1 e4 ?_
  refine j_iload (pc := 183) dX4_wrap_183 rfl ?_
  obtain ⟨w5, e6, h⟩ := obS h
  have ge6 := calSV_of e6
  refine j_callV_g (pc := 185) (As := [.int x3, .int i4]) (k' := 0) (n' := 0) dX4_wrap_185 (s_X8_put ge6.1) gX4_wrap_X8_put rfl hv_X8_put rfl (r_X8_put ge6.1) rfl (by decide) (by decide) (by decide) (by decide) (by decide) (by decide) (by decide) (Or.inl ge6.2) ?_
  cases h
  exact j_vret (pc := 188) rfl dX4_wrap_188 (by decide) (by decide) rfl
def m_X4_wrap_b152 (k74 : Nat → Int32 → Int32 → Int32 → LWd → Option LWd) (k116 : Nat → Int32 → Int32 → Int32 → Int32 → Int32 → LWd → Option LWd) (a0 : Nat) (i3 : Int32) (i4 : Int32) (i5 : Int32) (i6 : Int32) (i7 : Int32) (ws : LWd) : Option LWd :=
  k116 a0 i3 i4 i5 i6 (i7 + 1) ws
set_option maxRecDepth 100000 in
set_option maxHeartbeats 4000000 in
theorem jm_X4_wrap_b152 {n0 : Nat} {ws' : LWd} {k74 : Nat → Int32 → Int32 → Int32 → LWd → Option LWd} {k116 : Nat → Int32 → Int32 → Int32 → Int32 → Int32 → LWd → Option LWd} (hk74 : ∀ (a0 : Nat) (i3 : Int32) (i4 : Int32) (i5 : Int32) (ws : LWd), k74 a0 i3 i4 i5 ws = some ws' → JG false cX4_wrap 8 RX4 wsX4_wrap none "wrap" 1 0 0 n0 (.inl none, ws') 74 [some (.ref a0), none, none, some (.int i3), some (.int i4), some (.int i5), none, none] [] ws 0 0) (hk116 : ∀ (a0 : Nat) (i3 : Int32) (i4 : Int32) (i5 : Int32) (i6 : Int32) (i7 : Int32) (ws : LWd), k116 a0 i3 i4 i5 i6 i7 ws = some ws' → JG false cX4_wrap 8 RX4 wsX4_wrap none "wrap" 1 0 0 n0 (.inl none, ws') 116 [some (.ref a0), none, none, some (.int i3), some (.int i4), some (.int i5), some (.int i6), some (.int i7)] [] ws 0 0) (a0 : Nat) (i3 : Int32) (i4 : Int32) (i5 : Int32) (i6 : Int32) (i7 : Int32) (ws : LWd) (h : m_X4_wrap_b152 k74 k116 a0 i3 i4 i5 i6 i7 ws = some ws') : JG false cX4_wrap 8 RX4 wsX4_wrap none "wrap" 1 0 0 n0 (.inl none, ws') 152 [some (.ref a0), none, none, some (.int i3), some (.int i4), some (.int i5), some (.int i6), some (.int i7)] [] ws 0 0 := by
  unfold m_X4_wrap_b152 at h
  refine j_iinc_7 (pc := 152) dX4_wrap_152 (y := i7 + 1) rfl (by decide) rfl ?_
  refine j_goto (pc := 155) (tgt := 116) dX4_wrap_155 (by decide) ?_
  exact hk116 _ _ _ _ _ _ ws h
def m_X4_wrap_l116 (k74 : Nat → Int32 → Int32 → Int32 → LWd → Option LWd) : Nat → Nat → Int32 → Int32 → Int32 → Int32 → Int32 → LWd → Option LWd
  | 0, _, _, _, _, _, _, _ => none
  | fu + 1, a0, i3, i4, i5, i6, i7, ws =>
    if i3 ≤ i7 then
      (fI ws a0 4 2).bind fun x2 =>
      (pV ws a0 4 2 (.int (x2 + 1))).bind fun w4 =>
      k74 a0 i3 i4 i6 w4
    else
      (fR ws a0 4 1).bind fun x6 =>
      bn2 (calSR ws (m_X8_at x6 i7 ws)) fun x10 w8 =>
      bn2 (calSR w8 (m_X4_isFurtherOut i5 i6 x10 w8)) fun x13 w11 =>
      if x13 = 0 then
        m_X4_wrap_b152 k74 (fun z0 z1 z2 z3 z4 z5 w => m_X4_wrap_l116 k74 fu z0 z1 z2 z3 z4 z5 w) a0 i3 i4 i5 i6 i7 w11
      else
        (fR w11 a0 4 1).bind fun x15 =>
        bn2 (calSR w11 (m_X8_at x15 i7 w11)) fun x19 w17 =>
        m_X4_wrap_b152 k74 (fun z0 z1 z2 z3 z4 z5 w => m_X4_wrap_l116 k74 fu z0 z1 z2 z3 z4 z5 w) a0 i3 i4 i5 x19 i7 w17
set_option maxRecDepth 100000 in
set_option maxHeartbeats 4000000 in
theorem jm_X4_wrap_l116 {n0 : Nat} {ws' : LWd} {k74 : Nat → Int32 → Int32 → Int32 → LWd → Option LWd} (hk74 : ∀ (a0 : Nat) (i3 : Int32) (i4 : Int32) (i5 : Int32) (ws : LWd), k74 a0 i3 i4 i5 ws = some ws' → JG false cX4_wrap 8 RX4 wsX4_wrap none "wrap" 1 0 0 n0 (.inl none, ws') 74 [some (.ref a0), none, none, some (.int i3), some (.int i4), some (.int i5), none, none] [] ws 0 0) : ∀ (fu : Nat) (a0 : Nat) (i3 : Int32) (i4 : Int32) (i5 : Int32) (i6 : Int32) (i7 : Int32) (ws : LWd), m_X4_wrap_l116 k74 fu a0 i3 i4 i5 i6 i7 ws = some ws' → JG false cX4_wrap 8 RX4 wsX4_wrap none "wrap" 1 0 0 n0 (.inl none, ws') 116 [some (.ref a0), none, none, some (.int i3), some (.int i4), some (.int i5), some (.int i6), some (.int i7)] [] ws 0 0 := by
  intro fu
  induction fu with
  | zero => intro a0 i3 i4 i5 i6 i7 ws h; cases h
  | succ fu ih =>
    intro a0 i3 i4 i5 i6 i7 ws h
    rw [m_X4_wrap_l116] at h
    refine j_iload (pc := 116) dX4_wrap_116 rfl ?_
    refine j_iload_n (pc := 118) dX4_wrap_118 rfl ?_
    refine j_icmp_ge (pc := 119) (tgt := 158) dX4_wrap_119 (by decide) (fun c1 => ?_) (fun c1 => ?_)
    · rw [if_pos c1] at h
      refine j_iload (pc := 158) dX4_wrap_158 rfl ?_
      refine j_istore_5 (pc := 160) dX4_wrap_160 (by decide) rfl ?_
      refine j_aload_n (pc := 162) dX4_wrap_162 rfl ?_
      refine j_dup (pc := 163) dX4_wrap_163 rfl ?_
      obtain ⟨x2, e3, h⟩ := obS h
      refine j_getI (pc := 164) dX4_wrap_164 (ci := 4) (kf := 2) rfl hin_X4_wrap_X4 (by decide) lk_X4_wrap_1 e3 ?_
      refine j_iconst (pc := 167) dX4_wrap_167 (v := 1) (by decide) ?_
      refine j_iadd (pc := 168) dX4_wrap_168 ?_
      obtain ⟨w4, e5, h⟩ := obS h
      refine j_putV (pc := 169) (ci := 4) (kf := 2) tyX4 tyX4_ok nmX4 dX4_wrap_169 rfl hin_X4_wrap_X4 (by decide) lk_X4_wrap_1 rfl (fun _ => rfl) (fun _ => rfl) e5 ?_
      refine j_goto (pc := 172) (tgt := 74) dX4_wrap_172 (by decide) ?_
      refine j_mask [true, false, false, true, true, true, false, false] ?_
      exact hk74 _ _ _ _ w4 h
    · rw [if_neg c1] at h
      refine j_iload (pc := 122) dX4_wrap_122 rfl ?_
      refine j_iload (pc := 124) dX4_wrap_124 rfl ?_
      refine j_aload_n (pc := 126) dX4_wrap_126 rfl ?_
      obtain ⟨x6, e7, h⟩ := obS h
      refine j_getR (pc := 127) dX4_wrap_127 (ci := 4) (kf := 1) rfl hin_X4_wrap_X4 (by decide) lk_X4_wrap_2 e7 ?_
      refine j_iload (pc := 130) dX4_wrap_130 rfl ?_
      obtain ⟨x10, w8, e9, h⟩ := obS2 h
      have ge9 := calSR_of e9
      refine j_callV_g (pc := 132) (As := [.int i7]) (k' := 0) (n' := 0) dX4_wrap_132 (s_X8_at ge9.1) gX4_wrap_X8_at rfl hv_X8_at rfl (r_X8_at ge9.1) rfl (by decide) (by decide) (by decide) (by decide) (by decide) (by decide) (by decide) (Or.inl ge9.2) ?_
      obtain ⟨x13, w11, e12, h⟩ := obS2 h
      have ge12 := calSR_of e12
      refine j_callS_g (pc := 135) (As := [.int i5, .int i6, .int x10]) (k' := 0) (n' := 0) dX4_wrap_135 (s_X4_isFurtherOut ge12.1) gX4_wrap_X4_isFurtherOut rfl hy_X4_isFurtherOut rfl (by decide) (by decide) (by decide) (by decide) (by decide) (by decide) (by decide) (Or.inl ge12.2) ?_
      refine j_if_eq (pc := 138) (tgt := 152) dX4_wrap_138 (by decide) (fun c14 => ?_) (fun c14 => ?_)
      · rw [if_pos c14] at h
        exact jm_X4_wrap_b152 (hk74 := hk74) (hk116 := ih) _ _ _ _ _ _ w11 h
      · rw [if_neg c14] at h
        refine j_aload_n (pc := 141) dX4_wrap_141 rfl ?_
        obtain ⟨x15, e16, h⟩ := obS h
        refine j_getR (pc := 142) dX4_wrap_142 (ci := 4) (kf := 1) rfl hin_X4_wrap_X4 (by decide) lk_X4_wrap_2 e16 ?_
        refine j_iload (pc := 145) dX4_wrap_145 rfl ?_
        obtain ⟨x19, w17, e18, h⟩ := obS2 h
        have ge18 := calSR_of e18
        refine j_callV_g (pc := 147) (As := [.int i7]) (k' := 0) (n' := 0) dX4_wrap_147 (s_X8_at ge18.1) gX4_wrap_X8_at rfl hv_X8_at rfl (r_X8_at ge18.1) rfl (by decide) (by decide) (by decide) (by decide) (by decide) (by decide) (by decide) (Or.inl ge18.2) ?_
        refine j_istore_6 (pc := 150) dX4_wrap_150 (by decide) rfl ?_
        exact jm_X4_wrap_b152 (hk74 := hk74) (hk116 := ih) _ _ _ _ _ _ w17 h
def m_X4_wrap_b96 (k74 : Nat → Int32 → Int32 → Int32 → LWd → Option LWd) (a0 : Nat) (i3 : Int32) (i4 : Int32) (i5 : Int32) (ws : LWd) : Option LWd :=
  (fR ws a0 4 0).bind fun x1 =>
  (fI ws a0 4 2).bind fun x3 =>
  (calSV ws (m_X8_put x1 x3 i5 ws)).bind fun w5 =>
  m_X4_wrap_l116 k74 FU a0 i3 i4 i5 i5 0 w5
set_option maxRecDepth 100000 in
set_option maxHeartbeats 4000000 in
theorem jm_X4_wrap_b96 {n0 : Nat} {ws' : LWd} {k74 : Nat → Int32 → Int32 → Int32 → LWd → Option LWd} (hk74 : ∀ (a0 : Nat) (i3 : Int32) (i4 : Int32) (i5 : Int32) (ws : LWd), k74 a0 i3 i4 i5 ws = some ws' → JG false cX4_wrap 8 RX4 wsX4_wrap none "wrap" 1 0 0 n0 (.inl none, ws') 74 [some (.ref a0), none, none, some (.int i3), some (.int i4), some (.int i5), none, none] [] ws 0 0) (a0 : Nat) (i3 : Int32) (i4 : Int32) (i5 : Int32) (ws : LWd) (h : m_X4_wrap_b96 k74 a0 i3 i4 i5 ws = some ws') : JG false cX4_wrap 8 RX4 wsX4_wrap none "wrap" 1 0 0 n0 (.inl none, ws') 96 [some (.ref a0), none, none, some (.int i3), some (.int i4), some (.int i5), none, none] [] ws 0 0 := by
  unfold m_X4_wrap_b96 at h
  refine j_aload_n (pc := 96) dX4_wrap_96 rfl ?_
  obtain ⟨x1, e2, h⟩ := obS h
  refine j_getR (pc := 97) dX4_wrap_97 (ci := 4) (kf := 0) rfl hin_X4_wrap_X4 (by decide) lk_X4_wrap_0 e2 ?_
  refine j_aload_n (pc := 100) dX4_wrap_100 rfl ?_
  obtain ⟨x3, e4, h⟩ := obS h
  refine j_getI (pc := 101) dX4_wrap_101 (ci := 4) (kf := 2) rfl hin_X4_wrap_X4 (by decide) lk_X4_wrap_1 e4 ?_
  refine j_iload (pc := 104) dX4_wrap_104 rfl ?_
  obtain ⟨w5, e6, h⟩ := obS h
  have ge6 := calSV_of e6
  refine j_callV_g (pc := 106) (As := [.int x3, .int i5]) (k' := 0) (n' := 0) dX4_wrap_106 (s_X8_put ge6.1) gX4_wrap_X8_put rfl hv_X8_put rfl (r_X8_put ge6.1) rfl (by decide) (by decide) (by decide) (by decide) (by decide) (by decide) (by decide) (Or.inl ge6.2) ?_
  refine j_iload (pc := 109) dX4_wrap_109 rfl ?_
  refine j_istore_6 (pc := 111) dX4_wrap_111 (by decide) rfl ?_
  refine j_iconst (pc := 113) dX4_wrap_113 (v := 0) (by decide) ?_
  refine j_istore_7 (pc := 114) dX4_wrap_114 (by decide) rfl ?_
  exact jm_X4_wrap_l116 (hk74 := hk74) FU _ _ _ _ _ _ w5 h
def m_X4_wrap_l74 : Nat → Nat → Int32 → Int32 → Int32 → LWd → Option LWd
  | 0, _, _, _, _, _ => none
  | fu + 1, a0, i3, i4, i5, ws =>
    (fI ws a0 4 2).bind fun x1 =>
    if i3 ≤ x1 then
      m_X4_wrap_b175 a0 i4 ws
    else
      (fI ws a0 4 2).bind fun x4 =>
      if x4 = 0 then
        m_X4_wrap_b96 (fun z0 z1 z2 z3 w => m_X4_wrap_l74 fu z0 z1 z2 z3 w) a0 i3 i4 i5 ws
      else
        if i5 = i4 then
          m_X4_wrap_b175 a0 i4 ws
        else
          m_X4_wrap_b96 (fun z0 z1 z2 z3 w => m_X4_wrap_l74 fu z0 z1 z2 z3 w) a0 i3 i4 i5 ws
set_option maxRecDepth 100000 in
set_option maxHeartbeats 4000000 in
theorem jm_X4_wrap_l74 {n0 : Nat} {ws' : LWd} : ∀ (fu : Nat) (a0 : Nat) (i3 : Int32) (i4 : Int32) (i5 : Int32) (ws : LWd), m_X4_wrap_l74 fu a0 i3 i4 i5 ws = some ws' → JG false cX4_wrap 8 RX4 wsX4_wrap none "wrap" 1 0 0 n0 (.inl none, ws') 74 [some (.ref a0), none, none, some (.int i3), some (.int i4), some (.int i5), none, none] [] ws 0 0 := by
  intro fu
  induction fu with
  | zero => intro a0 i3 i4 i5 ws h; cases h
  | succ fu ih =>
    intro a0 i3 i4 i5 ws h
    rw [m_X4_wrap_l74] at h
    refine j_aload_n (pc := 74) dX4_wrap_74 rfl ?_
    obtain ⟨x1, e2, h⟩ := obS h
    refine j_getI (pc := 75) dX4_wrap_75 (ci := 4) (kf := 2) rfl hin_X4_wrap_X4 (by decide) lk_X4_wrap_1 e2 ?_
    refine j_iload_n (pc := 78) dX4_wrap_78 rfl ?_
    refine j_icmp_ge (pc := 79) (tgt := 175) dX4_wrap_79 (by decide) (fun c3 => ?_) (fun c3 => ?_)
    · rw [if_pos c3] at h
      refine j_mask [true, false, false, false, true, false, false, false] ?_
      exact jm_X4_wrap_b175 _ _ ws h
    · rw [if_neg c3] at h
      refine j_aload_n (pc := 82) dX4_wrap_82 rfl ?_
      obtain ⟨x4, e5, h⟩ := obS h
      refine j_getI (pc := 83) dX4_wrap_83 (ci := 4) (kf := 2) rfl hin_X4_wrap_X4 (by decide) lk_X4_wrap_1 e5 ?_
      refine j_if_eq (pc := 86) (tgt := 96) dX4_wrap_86 (by decide) (fun c6 => ?_) (fun c6 => ?_)
      · rw [if_pos c6] at h
        exact jm_X4_wrap_b96 (hk74 := ih) _ _ _ _ ws h
      · rw [if_neg c6] at h
        refine j_iload (pc := 89) dX4_wrap_89 rfl ?_
        refine j_iload (pc := 91) dX4_wrap_91 rfl ?_
        refine j_icmp_eq (pc := 93) (tgt := 175) dX4_wrap_93 (by decide) (fun c7 => ?_) (fun c7 => ?_)
        · rw [if_pos c7] at h
          refine j_mask [true, false, false, false, true, false, false, false] ?_
          exact jm_X4_wrap_b175 _ _ ws h
        · rw [if_neg c7] at h
          exact jm_X4_wrap_b96 (hk74 := ih) _ _ _ _ ws h
def m_X4_wrap_b59 (k10 : Nat → Nat → Int32 → Int32 → Int32 → Int32 → LWd → Option LWd) (a0 : Nat) (a1 : Nat) (i2 : Int32) (i3 : Int32) (i4 : Int32) (i5 : Int32) (ws : LWd) : Option LWd :=
  k10 a0 a1 i2 i3 i4 (i5 + 1) ws
set_option maxRecDepth 100000 in
set_option maxHeartbeats 4000000 in
theorem jm_X4_wrap_b59 {n0 : Nat} {ws' : LWd} {k10 : Nat → Nat → Int32 → Int32 → Int32 → Int32 → LWd → Option LWd} (hk10 : ∀ (a0 : Nat) (a1 : Nat) (i2 : Int32) (i3 : Int32) (i4 : Int32) (i5 : Int32) (ws : LWd), k10 a0 a1 i2 i3 i4 i5 ws = some ws' → JG false cX4_wrap 8 RX4 wsX4_wrap none "wrap" 1 0 0 n0 (.inl none, ws') 10 [some (.ref a0), some (.ref a1), some (.int i2), some (.int i3), some (.int i4), some (.int i5), none, none] [] ws 0 0) (a0 : Nat) (a1 : Nat) (i2 : Int32) (i3 : Int32) (i4 : Int32) (i5 : Int32) (ws : LWd) (h : m_X4_wrap_b59 k10 a0 a1 i2 i3 i4 i5 ws = some ws') : JG false cX4_wrap 8 RX4 wsX4_wrap none "wrap" 1 0 0 n0 (.inl none, ws') 59 [some (.ref a0), some (.ref a1), some (.int i2), some (.int i3), some (.int i4), some (.int i5), none, none] [] ws 0 0 := by
  unfold m_X4_wrap_b59 at h
  refine j_iinc_5 (pc := 59) dX4_wrap_59 (y := i5 + 1) rfl (by decide) rfl ?_
  refine j_goto (pc := 62) (tgt := 10) dX4_wrap_62 (by decide) ?_
  exact hk10 _ _ _ _ _ _ ws h
def m_X4_wrap_l10 : Nat → Nat → Nat → Int32 → Int32 → Int32 → Int32 → LWd → Option LWd
  | 0, _, _, _, _, _, _, _ => none
  | fu + 1, a0, a1, i2, i3, i4, i5, ws =>
    if 6 ≤ i5 then
      (pV ws a0 4 2 (.int 0)).bind fun w2 =>
      m_X4_wrap_l74 FU a0 i3 i4 i4 w2
    else
      bn2 (calSR ws (m_X8_at a1 i5 ws)) fun x6 w4 =>
      if i5 = i2 then
        m_X4_wrap_b59 (fun z0 z1 z2 z3 z4 z5 w => m_X4_wrap_l10 fu z0 z1 z2 z3 z4 z5 w) a0 a1 i2 i3 i4 i5 w4
      else
        if x6 = ((-1)) then
          m_X4_wrap_b59 (fun z0 z1 z2 z3 z4 z5 w => m_X4_wrap_l10 fu z0 z1 z2 z3 z4 z5 w) a0 a1 i2 i3 i4 i5 w4
        else
          (fR w4 a0 4 1).bind fun x9 =>
          (calSV w4 (m_X8_put x9 i3 x6 w4)).bind fun w11 =>
          m_X4_wrap_b59 (fun z0 z1 z2 z3 z4 z5 w => m_X4_wrap_l10 fu z0 z1 z2 z3 z4 z5 w) a0 a1 i2 (i3 + 1) (jmin i4 x6) i5 w11
set_option maxRecDepth 100000 in
set_option maxHeartbeats 4000000 in
theorem jm_X4_wrap_l10 {n0 : Nat} {ws' : LWd} : ∀ (fu : Nat) (a0 : Nat) (a1 : Nat) (i2 : Int32) (i3 : Int32) (i4 : Int32) (i5 : Int32) (ws : LWd), m_X4_wrap_l10 fu a0 a1 i2 i3 i4 i5 ws = some ws' → JG false cX4_wrap 8 RX4 wsX4_wrap none "wrap" 1 0 0 n0 (.inl none, ws') 10 [some (.ref a0), some (.ref a1), some (.int i2), some (.int i3), some (.int i4), some (.int i5), none, none] [] ws 0 0 := by
  intro fu
  induction fu with
  | zero => intro a0 a1 i2 i3 i4 i5 ws h; cases h
  | succ fu ih =>
    intro a0 a1 i2 i3 i4 i5 ws h
    rw [m_X4_wrap_l10] at h
    refine j_iload (pc := 10) dX4_wrap_10 rfl ?_
    refine j_bipush (pc := 12) dX4_wrap_12 (v := 6) (by decide) ?_
    refine j_icmp_ge (pc := 14) (tgt := 65) dX4_wrap_14 (by decide) (fun c1 => ?_) (fun c1 => ?_)
    · rw [if_pos c1] at h
      refine j_iload (pc := 65) dX4_wrap_65 rfl ?_
      refine j_istore_5 (pc := 67) dX4_wrap_67 (by decide) rfl ?_
      refine j_aload_n (pc := 69) dX4_wrap_69 rfl ?_
      refine j_iconst (pc := 70) dX4_wrap_70 (v := 0) (by decide) ?_
      obtain ⟨w2, e3, h⟩ := obS h
      refine j_putV (pc := 71) (ci := 4) (kf := 2) tyX4 tyX4_ok nmX4 dX4_wrap_71 rfl hin_X4_wrap_X4 (by decide) lk_X4_wrap_1 rfl (fun _ => rfl) (fun _ => rfl) e3 ?_
      refine j_mask [true, false, false, true, true, true, false, false] ?_
      exact jm_X4_wrap_l74 FU _ _ _ _ w2 h
    · rw [if_neg c1] at h
      refine j_aload_n (pc := 17) dX4_wrap_17 rfl ?_
      refine j_iload (pc := 18) dX4_wrap_18 rfl ?_
      obtain ⟨x6, w4, e5, h⟩ := obS2 h
      have ge5 := calSR_of e5
      refine j_callV_g (pc := 20) (As := [.int i5]) (k' := 0) (n' := 0) dX4_wrap_20 (s_X8_at ge5.1) gX4_wrap_X8_at rfl hv_X8_at rfl (r_X8_at ge5.1) rfl (by decide) (by decide) (by decide) (by decide) (by decide) (by decide) (by decide) (Or.inl ge5.2) ?_
      refine j_istore_6 (pc := 23) dX4_wrap_23 (by decide) rfl ?_
      refine j_iload (pc := 25) dX4_wrap_25 rfl ?_
      refine j_iload_n (pc := 27) dX4_wrap_27 rfl ?_
      refine j_icmp_eq (pc := 28) (tgt := 59) dX4_wrap_28 (by decide) (fun c7 => ?_) (fun c7 => ?_)
      · rw [if_pos c7] at h
        refine j_mask [true, true, true, true, true, true, false, false] ?_
        exact jm_X4_wrap_b59 (hk10 := ih) _ _ _ _ _ _ w4 h
      · rw [if_neg c7] at h
        refine j_iload (pc := 31) dX4_wrap_31 rfl ?_
        refine j_iconst (pc := 33) dX4_wrap_33 (v := (-1)) (by decide) ?_
        refine j_icmp_eq (pc := 34) (tgt := 59) dX4_wrap_34 (by decide) (fun c8 => ?_) (fun c8 => ?_)
        · rw [if_pos c8] at h
          refine j_mask [true, true, true, true, true, true, false, false] ?_
          exact jm_X4_wrap_b59 (hk10 := ih) _ _ _ _ _ _ w4 h
        · rw [if_neg c8] at h
          refine j_aload_n (pc := 37) dX4_wrap_37 rfl ?_
          obtain ⟨x9, e10, h⟩ := obS h
          refine j_getR (pc := 38) dX4_wrap_38 (ci := 4) (kf := 1) rfl hin_X4_wrap_X4 (by decide) lk_X4_wrap_2 e10 ?_
          refine j_iload_n (pc := 41) dX4_wrap_41 rfl ?_
          refine j_iload (pc := 42) dX4_wrap_42 rfl ?_
          obtain ⟨w11, e12, h⟩ := obS h
          have ge12 := calSV_of e12
          refine j_callV_g (pc := 44) (As := [.int i3, .int x6]) (k' := 0) (n' := 0) dX4_wrap_44 (s_X8_put ge12.1) gX4_wrap_X8_put rfl hv_X8_put rfl (r_X8_put ge12.1) rfl (by decide) (by decide) (by decide) (by decide) (by decide) (by decide) (by decide) (Or.inl ge12.2) ?_
          refine j_iinc_3 (pc := 47) dX4_wrap_47 (y := i3 + 1) rfl (by decide) rfl ?_
          refine j_iload (pc := 50) dX4_wrap_50 rfl ?_
          refine j_iload (pc := 52) dX4_wrap_52 rfl ?_
          refine j_mmin (pc := 54) dX4_wrap_54 lk_X4_wrap_3 lk_X4_wrap_4 lk_X4_wrap_5 lk_X4_wrap_6 (by decide) (by decide) (by decide) (by decide) ?_
          refine j_istore_4 (pc := 57) dX4_wrap_57 (by decide) rfl ?_
          refine j_mask [true, true, true, true, true, true, false, false] ?_
          exact jm_X4_wrap_b59 (hk10 := ih) _ _ _ _ _ _ w11 h
def m_X4_wrap (a0 : Nat) (a1 : Nat) (i2 : Int32) (ws : LWd) : Option LWd :=
  (rcv ws a0 4).bind fun _ =>
  m_X4_wrap_l10 FU a0 a1 i2 0 400 0 ws
set_option maxRecDepth 100000 in
set_option maxHeartbeats 4000000 in
theorem s_X4_wrap {a0 : Nat} {a1 : Nat} {i2 : Int32} {ws : LWd} {ws' : LWd} (h : m_X4_wrap a0 a1 i2 ws = some ws') : jSp yX4_wrap wsX4_wrap 1 0 0 [.ref a0, .ref a1, .int i2] ws (.inl none, ws') := by
  unfold m_X4_wrap at h
  refine j_entry (ret := none) (nm := "wrap") (own := RX4) pl_X4 rfl rfl rfl (jcats (by rfl)) (by decide) ?_
  show JG false cX4_wrap 8 RX4 wsX4_wrap none "wrap" 1 0 0 ws.length (.inl none, ws') 0 [some (.ref a0), some (.ref a1), some (.int i2), none, none, none, none, none] [] ws 0 0
  obtain ⟨_, _, h⟩ := obS h
  refine j_iconst (pc := 0) dX4_wrap_0 (v := 0) (by decide) ?_
  refine j_istore_n_3 (pc := 1) dX4_wrap_1 (by decide) rfl ?_
  refine j_sipush (pc := 2) dX4_wrap_2 (v := 400) (by decide) ?_
  refine j_istore_4 (pc := 5) dX4_wrap_5 (by decide) rfl ?_
  refine j_iconst (pc := 7) dX4_wrap_7 (v := 0) (by decide) ?_
  refine j_istore_5 (pc := 8) dX4_wrap_8 (by decide) rfl ?_
  exact jm_X4_wrap_l10 FU _ _ _ _ _ _ ws h
theorem r_X4_wrap {a0 : Nat} {a1 : Nat} {i2 : Int32} {ws : LWd} {o : LWd} (h : m_X4_wrap a0 a1 i2 ws = some o) : ∃ fs, ws[a0]? = some (.inr (4, fs)) := rcv_in h
theorem hin_X9_momentX_X9 : ∀ w ∈ u_ws RX9 TX9 6, w ∈ wsX9_momentX := fun w h => List.mem_cons_of_mem _ (List.mem_append_left _ (List.mem_append_right _ h))
theorem lk_X9_momentX_0 : Cond.fieldLink RX9 20 "Gaitwright$Stance" "bodyX" "I" ∈ wsX9_momentX := List.mem_cons_of_mem _ (List.mem_append_left _ (List.mem_append_left _ (List.mem_of_getElem? (i := 0) rfl)))
theorem lk_X9_momentX_1 : Cond.fieldLink RX9 31 "Gaitwright$Stance" "frame" "LGaitwright$Frame;" ∈ wsX9_momentX := List.mem_cons_of_mem _ (List.mem_append_left _ (List.mem_append_left _ (List.mem_of_getElem? (i := 1) rfl)))
theorem hin_X9_momentX_X2 : ∀ w ∈ u_ws RX2 TX2 7, w ∈ wsX9_momentX := fun w h => List.mem_cons_of_mem _ (List.mem_append_right _ h)
theorem lk_X9_momentX_2 : Cond.fieldLink RX9 108 "Gaitwright$Frame" "loadWeight" "I" ∈ wsX9_momentX := List.mem_cons_of_mem _ (List.mem_append_left _ (List.mem_append_left _ (List.mem_of_getElem? (i := 2) rfl)))
theorem lk_X9_momentX_3 : Cond.fieldLink RX9 111 "Gaitwright$Frame" "loadX" "I" ∈ wsX9_momentX := List.mem_cons_of_mem _ (List.mem_append_left _ (List.mem_append_left _ (List.mem_of_getElem? (i := 3) rfl)))
def m_X9_momentX (a0 : Nat) (ws : LWd) : Option (Int32 × LWd) :=
  (rcv ws a0 9).bind fun _ =>
  (fI ws a0 9 4).bind fun x1 =>
  (fR ws a0 9 1).bind fun x3 =>
  (fI ws x3 2 4).bind fun x5 =>
  (fI ws a0 9 4).bind fun x7 =>
  (fR ws a0 9 1).bind fun x9 =>
  (fI ws x9 2 5).bind fun x11 =>
  some ((10 * x1) + (x5 * (x7 + x11)), ws)
set_option maxRecDepth 100000 in
set_option maxHeartbeats 4000000 in
theorem s_X9_momentX {a0 : Nat} {ws : LWd} {rr : Int32} {ws' : LWd} (h : m_X9_momentX a0 ws = some (rr, ws')) : jSp yX9_momentX wsX9_momentX 0 0 0 [.ref a0] ws (.inl (some (.int rr)), ws') := by
  unfold m_X9_momentX at h
  refine j_entry (ret := (some .int)) (nm := "momentX") (own := RX9) pl_X9 rfl rfl rfl (jcats (by rfl)) (by decide) ?_
  show JG false cX9_momentX 1 RX9 wsX9_momentX (some .int) "momentX" 0 0 0 ws.length (.inl (some (.int rr)), ws') 0 [some (.ref a0)] [] ws 0 0
  obtain ⟨_, _, h⟩ := obS h
  refine j_bipush (pc := 0) dX9_momentX_0 (v := 10) (by decide) ?_
  refine j_aload_n (pc := 2) dX9_momentX_2 rfl ?_
  obtain ⟨x1, e2, h⟩ := obS h
  refine j_getI (pc := 3) dX9_momentX_3 (ci := 9) (kf := 4) rfl hin_X9_momentX_X9 (by decide) lk_X9_momentX_0 e2 ?_
  refine j_imul (pc := 6) dX9_momentX_6 ?_
  refine j_aload_n (pc := 7) dX9_momentX_7 rfl ?_
  obtain ⟨x3, e4, h⟩ := obS h
  refine j_getR (pc := 8) dX9_momentX_8 (ci := 9) (kf := 1) rfl hin_X9_momentX_X9 (by decide) lk_X9_momentX_1 e4 ?_
  obtain ⟨x5, e6, h⟩ := obS h
  refine j_getI (pc := 11) dX9_momentX_11 (ci := 2) (kf := 4) rfl hin_X9_momentX_X2 (by decide) lk_X9_momentX_2 e6 ?_
  refine j_aload_n (pc := 14) dX9_momentX_14 rfl ?_
  obtain ⟨x7, e8, h⟩ := obS h
  refine j_getI (pc := 15) dX9_momentX_15 (ci := 9) (kf := 4) rfl hin_X9_momentX_X9 (by decide) lk_X9_momentX_0 e8 ?_
  refine j_aload_n (pc := 18) dX9_momentX_18 rfl ?_
  obtain ⟨x9, e10, h⟩ := obS h
  refine j_getR (pc := 19) dX9_momentX_19 (ci := 9) (kf := 1) rfl hin_X9_momentX_X9 (by decide) lk_X9_momentX_1 e10 ?_
  obtain ⟨x11, e12, h⟩ := obS h
  refine j_getI (pc := 22) dX9_momentX_22 (ci := 2) (kf := 5) rfl hin_X9_momentX_X2 (by decide) lk_X9_momentX_3 e12 ?_
  refine j_iadd (pc := 25) dX9_momentX_25 ?_
  refine j_imul (pc := 26) dX9_momentX_26 ?_
  refine j_iadd (pc := 27) dX9_momentX_27 ?_
  obtain ⟨rfl, rfl⟩ := jretS h
  exact j_iret (pc := 28) rfl dX9_momentX_28 (by decide) (by decide) rfl
theorem r_X9_momentX {a0 : Nat} {ws : LWd} {o : (Int32 × LWd)} (h : m_X9_momentX a0 ws = some o) : ∃ fs, ws[a0]? = some (.inr (9, fs)) := rcv_in h
