/-! methods: written by wip/whole/make.py -/
def m_J7_fill_53178_l5 : Nat → Nat → Int32 → Int32 → Int32 → LWd → Option LWd
  | 0, _, _, _, _, _ => none
  | fu + 1, a0, i1, i2, i3, ws =>
    if i3 ≤ i2 then
      some ws
    else
      (sI ws a0 i2 i1).bind fun w2 =>
      m_J7_fill_53178_l5 fu a0 i1 (i2 + 1) i3 w2
set_option maxRecDepth 100000 in
set_option maxHeartbeats 4000000 in
theorem jm_J7_fill_53178_l5 {n0 : Nat} {ws' : LWd} : ∀ (fu : Nat) (a0 : Nat) (i1 : Int32) (i2 : Int32) (i3 : Int32) (ws : LWd), m_J7_fill_53178_l5 fu a0 i1 i2 i3 ws = some ws' → JG false cJ7_fill_53178 4 RJ7 wsJ7_fill_53178 none "fill" 0 0 0 n0 (.inl none, ws') 5 [some (.ref a0), some (.int i1), some (.int i2), some (.int i3)] [] ws 0 0 := by
  intro fu
  induction fu with
  | zero => intro a0 i1 i2 i3 ws h; cases h
  | succ fu ih =>
    intro a0 i1 i2 i3 ws h
    rw [m_J7_fill_53178_l5] at h
    refine j_iload_n (pc := 5) dJ7_fill_53178_5 rfl ?_
    refine j_iload_n (pc := 6) dJ7_fill_53178_6 rfl ?_
    refine j_icmp_ge (pc := 7) (tgt := 20) dJ7_fill_53178_7 (by decide) (fun c1 => ?_) (fun c1 => ?_)
    · rw [if_pos c1] at h
      cases h
      exact j_vret (pc := 20) rfl dJ7_fill_53178_20 (by decide) (by decide) rfl
    · rw [if_neg c1] at h
      refine j_aload_n (pc := 10) dJ7_fill_53178_10 rfl ?_
      refine j_iload_n (pc := 11) dJ7_fill_53178_11 rfl ?_
      refine j_iload_n (pc := 12) dJ7_fill_53178_12 rfl ?_
      obtain ⟨w2, e3, h⟩ := obS h
      refine j_iast (pc := 13) dJ7_fill_53178_13 e3 ?_
      refine j_iinc_2 (pc := 14) dJ7_fill_53178_14 (y := i2 + 1) rfl (by decide) rfl ?_
      refine j_goto (pc := 17) (tgt := 5) dJ7_fill_53178_17 (by decide) ?_
      exact ih _ _ _ _ w2 h
def m_J7_fill_53178 (a0 : Nat) (i1 : Int32) (ws : LWd) : Option LWd :=
  (aL ws a0).bind fun x1 =>
  m_J7_fill_53178_l5 FU a0 i1 0 x1 ws
set_option maxRecDepth 100000 in
set_option maxHeartbeats 4000000 in
theorem s_J7_fill_53178 {a0 : Nat} {i1 : Int32} {ws : LWd} {ws' : LWd} (h : m_J7_fill_53178 a0 i1 ws = some ws') : jSp yJ7_fill_53178 wsJ7_fill_53178 0 0 0 [.ref a0, .int i1] ws (.inl none, ws') := by
  unfold m_J7_fill_53178 at h
  refine j_entry (ret := none) (nm := "fill") (own := RJ7) pl_J7 rfl rfl rfl (jcats (by rfl)) (by decide) ?_
  show JG false cJ7_fill_53178 4 RJ7 wsJ7_fill_53178 none "fill" 0 0 0 ws.length (.inl none, ws') 0 [some (.ref a0), some (.int i1), none, none] [] ws 0 0
  refine j_iconst (pc := 0) dJ7_fill_53178_0 (v := 0) (by decide) ?_
  refine j_istore_n_2 (pc := 1) dJ7_fill_53178_1 (by decide) rfl ?_
  refine j_aload_n (pc := 2) dJ7_fill_53178_2 rfl ?_
  obtain ⟨x1, e2, h⟩ := obS h
  refine j_alen (pc := 3) dJ7_fill_53178_3 e2 ?_
  refine j_istore_n_3 (pc := 4) dJ7_fill_53178_4 (by decide) rfl ?_
  exact jm_J7_fill_53178_l5 FU _ _ _ _ ws h
theorem lk_X8_init_0 : Cond.arrayClass .int ∈ wsX8_init := List.mem_cons_of_mem _ (List.mem_append_left _ (List.mem_of_getElem? (i := 3) rfl))
theorem lk_X8_init_1 : Cond.fieldLink RX8 7 "Gaitwright$Row" "cells" "[I" ∈ wsX8_init := List.mem_cons_of_mem _ (List.mem_append_left _ (List.mem_of_getElem? (i := 4) rfl))
theorem hin_X8_init_X8 : ∀ w ∈ u_ws RX8 TX8 1, w ∈ wsX8_init := fun w h => List.mem_cons_of_mem _ (List.mem_append_right _ h)
theorem lk_X8_init_2 : Cond.methodLink RX8 1 objectInit ∈ wsX8_init := List.mem_cons_of_mem _ (List.mem_append_left _ (List.mem_of_getElem? (i := 0) rfl))
theorem lk_X8_init_3 : Cond.instanceMethod objectInit ∈ wsX8_init := List.mem_cons_of_mem _ (List.mem_append_left _ (List.mem_of_getElem? (i := 1) rfl))
theorem lk_X8_init_4 : Cond.code objectInit ⟨#[0xb1]⟩ 1 none ∈ wsX8_init := List.mem_cons_of_mem _ (List.mem_append_left _ (List.mem_of_getElem? (i := 2) rfl))
def m_X8_init_b14 (a0 : Nat) (i2 : Int32) (s0 : Nat) (s1 : Int32) (ws : LWd) : Option LWd :=
  bn2 (nA ws [some (.ref a0), none, some (.int i2)] [.ref s0] 400 s1) fun a1 w2 =>
  (pV w2 s0 8 0 (.ref a1)).bind fun w4 =>
  (fR w4 a0 8 0).bind fun x6 =>
  (calSV w4 (m_J7_fill_53178 x6 i2 w4)).bind fun w8 =>
  some w8
set_option maxRecDepth 100000 in
set_option maxHeartbeats 4000000 in
theorem jm_X8_init_b14 {n0 : Nat} {ws' : LWd} (a0 : Nat) (i2 : Int32) (s0 : Nat) (s1 : Int32) (ws : LWd) (h : m_X8_init_b14 a0 i2 s0 s1 ws = some ws') : JG false cX8_init 3 RX8 wsX8_init none "<init>" 1 1 400 n0 (.inl none, ws') 14 [some (.ref a0), none, some (.int i2)] [.int s1, .ref s0] ws 0 0 := by
  unfold m_X8_init_b14 at h
  obtain ⟨a1, w2, e3, h⟩ := obS2 h
  refine j_newA (pc := 14) (B := 400) lk_X8_init_0 dX8_init_14 (by decide) (by decide) (by decide) e3 ?_
  obtain ⟨w4, e5, h⟩ := obS h
  refine j_putF (pc := 16) (ci := 8) (kf := 0) tyX8 tyX8_ok nmX8 dX8_init_16 rfl hin_X8_init_X8 (by decide) lk_X8_init_1 rfl rfl rfl (fun _ => rfl) (fun _ => rfl) e5 ?_
  refine j_aload_n (pc := 19) dX8_init_19 rfl ?_
  obtain ⟨x6, e7, h⟩ := obS h
  refine j_getR (pc := 20) dX8_init_20 (ci := 8) (kf := 0) rfl hin_X8_init_X8 (by decide) lk_X8_init_1 e7 ?_
  refine j_iload_n (pc := 23) dX8_init_23 rfl ?_
  obtain ⟨w8, e9, h⟩ := obS h
  have ge9 := calSV_of e9
  refine j_callS_g (pc := 24) (As := [.ref x6, .int i2]) (k' := 1) (n' := 400) dX8_init_24 (s_J7_fill_53178 ge9.1) gX8_init_J7_fill_53178 rfl hy_J7_fill_53178 rfl (by decide) (by decide) (by decide) (by decide) (by decide) (by decide) (by decide) (Or.inl ge9.2) ?_
  cases h
  exact j_vret (pc := 27) rfl dX8_init_27 (by decide) (by decide) rfl
def m_X8_init (a0 : Nat) (i1 : Int32) (i2 : Int32) (ws : LWd) : Option LWd :=
  (rcv ws a0 8).bind fun _ =>
  if 0 ≤ i1 then
    m_X8_init_b14 a0 i2 a0 i1 ws
  else
    m_X8_init_b14 a0 i2 a0 0 ws
set_option maxRecDepth 100000 in
set_option maxHeartbeats 4000000 in
theorem s_X8_init {a0 : Nat} {i1 : Int32} {i2 : Int32} {ws : LWd} {ws' : LWd} (h : m_X8_init a0 i1 i2 ws = some ws') : jSp yX8_init wsX8_init 1 1 400 [.ref a0, .int i1, .int i2] ws (.inl none, ws') := by
  unfold m_X8_init at h
  refine j_entry (ret := none) (nm := "<init>") (own := RX8) pl_X8 rfl rfl rfl (jcats (by rfl)) (by decide) ?_
  show JG false cX8_init 3 RX8 wsX8_init none "<init>" 1 1 400 ws.length (.inl none, ws') 0 [some (.ref a0), some (.int i1), some (.int i2)] [] ws 0 0
  obtain ⟨_, _, h⟩ := obS h
  refine j_aload_n (pc := 0) dX8_init_0 rfl ?_
  refine j_objInit (pc := 1) dX8_init_1 lk_X8_init_2 lk_X8_init_3 lk_X8_init_4 (by decide) (by decide) ?_
  refine j_aload_n (pc := 4) dX8_init_4 rfl ?_
  refine j_iload_n (pc := 5) dX8_init_5 rfl ?_
  refine j_if_ge (pc := 6) (tgt := 13) dX8_init_6 (by decide) (fun c1 => ?_) (fun c1 => ?_)
  · rw [if_pos c1] at h
    refine j_iload_n (pc := 13) dX8_init_13 rfl ?_
    refine j_mask [true, false, true] ?_
    exact jm_X8_init_b14 _ _ _ _ ws h
  · rw [if_neg c1] at h
    refine j_iconst (pc := 9) dX8_init_9 (v := 0) (by decide) ?_
    refine j_goto (pc := 10) (tgt := 14) dX8_init_10 (by decide) ?_
    refine j_mask [true, false, true] ?_
    exact jm_X8_init_b14 _ _ _ _ ws h
theorem r_X8_init {a0 : Nat} {i1 : Int32} {i2 : Int32} {ws : LWd} {o : LWd} (h : m_X8_init a0 i1 i2 ws = some o) : ∃ fs, ws[a0]? = some (.inr (8, fs)) := rcv_in h
theorem lk_X4_init_0 : Cond.methodLink RX4 3 objectInit ∈ wsX4_init := List.mem_cons_of_mem _ (List.mem_append_left _ (List.mem_append_left _ (List.mem_of_getElem? (i := 0) rfl)))
theorem lk_X4_init_1 : Cond.instanceMethod objectInit ∈ wsX4_init := List.mem_cons_of_mem _ (List.mem_append_left _ (List.mem_append_left _ (List.mem_of_getElem? (i := 1) rfl)))
theorem lk_X4_init_2 : Cond.code objectInit ⟨#[0xb1]⟩ 1 none ∈ wsX4_init := List.mem_cons_of_mem _ (List.mem_append_left _ (List.mem_append_left _ (List.mem_of_getElem? (i := 2) rfl)))
theorem hin_X4_init_X8 : ∀ w ∈ u_ws RX8 TX8 1, w ∈ wsX4_init := fun w h => List.mem_cons_of_mem _ (List.mem_append_left _ (List.mem_append_right _ h))
theorem lk_X4_init_3 : Cond.classLink RX4 9 RX8 ∈ wsX4_init := List.mem_cons_of_mem _ (List.mem_append_left _ (List.mem_append_left _ (List.mem_of_getElem? (i := 3) rfl)))
theorem lk_X4_init_4 : Cond.instantiable RX8 1 ∈ wsX4_init := List.mem_cons_of_mem _ (List.mem_append_left _ (List.mem_append_left _ (List.mem_of_getElem? (i := 4) rfl)))
theorem lk_X4_init_5 : Cond.initialized RX8 ∈ wsX4_init := List.mem_cons_of_mem _ (List.mem_append_left _ (List.mem_append_left _ (List.mem_of_getElem? (i := 5) rfl)))
theorem lk_X4_init_6 : Cond.methodLink RX4 11 yX8_init ∈ wsX4_init := List.mem_cons_of_mem _ (List.mem_append_left _ (List.mem_append_left _ (List.mem_of_getElem? (i := 9) rfl)))
theorem lk_X4_init_7 : Cond.instanceMethod yX8_init ∈ wsX4_init := List.mem_cons_of_mem _ (List.mem_append_left _ (List.mem_append_left _ (List.mem_of_getElem? (i := 10) rfl)))
theorem lk_X4_init_8 : Cond.fieldLink RX4 14 "Gaitwright$Hull" "corners" "LGaitwright$Row;" ∈ wsX4_init := List.mem_cons_of_mem _ (List.mem_append_left _ (List.mem_append_left _ (List.mem_of_getElem? (i := 6) rfl)))
theorem hin_X4_init_X4 : ∀ w ∈ u_ws RX4 TX4 3, w ∈ wsX4_init := fun w h => List.mem_cons_of_mem _ (List.mem_append_right _ h)
theorem lk_X4_init_9 : Cond.fieldLink RX4 20 "Gaitwright$Hull" "points" "LGaitwright$Row;" ∈ wsX4_init := List.mem_cons_of_mem _ (List.mem_append_left _ (List.mem_append_left _ (List.mem_of_getElem? (i := 7) rfl)))
theorem lk_X4_init_10 : Cond.fieldLink RX4 23 "Gaitwright$Hull" "size" "I" ∈ wsX4_init := List.mem_cons_of_mem _ (List.mem_append_left _ (List.mem_append_left _ (List.mem_of_getElem? (i := 8) rfl)))
def m_X4_init (a0 : Nat) (ws : LWd) : Option LWd :=
  (rcv ws a0 4).bind fun _ =>
  bn2 (nO ws [some (.ref a0)] [.ref a0] 8 [.null]) fun a1 w2 =>
  (calG w2 [some (.ref a0)] [.ref a1, .ref a0]V (m_X8_init a1 7 ((-1)) w2)).bind fun w4 =>
  (pV w4 a0 4 0 (.ref a1)).bind fun w6 =>
  bn2 (nO w6 [some (.ref a0)] [.ref a0] 8 [.null]) fun a8 w9 =>
  (calG w9 [some (.ref a0)] [.ref a8, .ref a0]V (m_X8_init a8 6 ((-1)) w9)).bind fun w11 =>
  (pV w11 a0 4 1 (.ref a8)).bind fun w13 =>
  (pV w13 a0 4 2 (.int 0)).bind fun w15 =>
  some w15
set_option maxRecDepth 100000 in
set_option maxHeartbeats 4000000 in
theorem s_X4_init {a0 : Nat} {ws : LWd} {ws' : LWd} (h : m_X4_init a0 ws = some ws') : jSp yX4_init wsX4_init 2 4 802 [.ref a0] ws (.inl none, ws') := by
  unfold m_X4_init at h
  refine j_entry (ret := none) (nm := "<init>") (own := RX4) pl_X4 rfl rfl rfl (jcats (by rfl)) (by decide) ?_
  show JG false cX4_init 1 RX4 wsX4_init none "<init>" 2 4 802 ws.length (.inl none, ws') 0 [some (.ref a0)] [] ws 0 0
  obtain ⟨_, _, h⟩ := obS h
  refine j_aload_n (pc := 0) dX4_init_0 rfl ?_
  refine j_objInit (pc := 1) dX4_init_1 lk_X4_init_0 lk_X4_init_1 lk_X4_init_2 (by decide) (by decide) ?_
  refine j_aload_n (pc := 4) dX4_init_4 rfl ?_
  obtain ⟨a1, w2, e3, h⟩ := obS2 h
  refine j_new (pc := 5) (ci := 8) (N := 1) (C := RX8) (T := TX8) tyX8 tyX8_ok dX4_init_5 rfl hin_X4_init_X8 lk_X4_init_3 lk_X4_init_4 lk_X4_init_5 (fun j hj => by rcases (show j = 0 by omega) with rfl <;> rfl) (fun _ => rfl) (by decide) (by decide) e3 ?_
  refine j_dup (pc := 8) dX4_init_8 rfl ?_
  refine j_bipush (pc := 9) dX4_init_9 (v := 7) (by decide) ?_
  refine j_iconst (pc := 11) dX4_init_11 (v := (-1)) (by decide) ?_
  obtain ⟨w4, e5, h⟩ := obS h
  have ge5 := calGV_of e5
  refine j_callI_g (pc := 12) (As := [.int 7, .int ((-1))]) (k' := 2) (n' := 401) dX4_init_12 (s_X8_init ge5.1) gX4_init_X8_init lk_X4_init_5 lk_X4_init_6 lk_X4_init_7 rfl rfl hy_X8_init rfl (by decide) (by decide) (by decide) (by decide) (by decide) (by decide) (by decide) (Or.inr ge5.2) ?_
  obtain ⟨w6, e7, h⟩ := obS h
  refine j_putF (pc := 15) (ci := 4) (kf := 0) tyX4 tyX4_ok nmX4 dX4_init_15 rfl hin_X4_init_X4 (by decide) lk_X4_init_8 rfl rfl rfl (fun _ => rfl) (fun _ => rfl) e7 ?_
  refine j_aload_n (pc := 18) dX4_init_18 rfl ?_
  obtain ⟨a8, w9, e10, h⟩ := obS2 h
  refine j_new (pc := 19) (ci := 8) (N := 1) (C := RX8) (T := TX8) tyX8 tyX8_ok dX4_init_19 rfl hin_X4_init_X8 lk_X4_init_3 lk_X4_init_4 lk_X4_init_5 (fun j hj => by rcases (show j = 0 by omega) with rfl <;> rfl) (fun _ => rfl) (by decide) (by decide) e10 ?_
  refine j_dup (pc := 22) dX4_init_22 rfl ?_
  refine j_bipush (pc := 23) dX4_init_23 (v := 6) (by decide) ?_
  refine j_iconst (pc := 25) dX4_init_25 (v := (-1)) (by decide) ?_
  obtain ⟨w11, e12, h⟩ := obS h
  have ge12 := calGV_of e12
  refine j_callI_g (pc := 26) (As := [.int 6, .int ((-1))]) (k' := 4) (n' := 802) dX4_init_26 (s_X8_init ge12.1) gX4_init_X8_init lk_X4_init_5 lk_X4_init_6 lk_X4_init_7 rfl rfl hy_X8_init rfl (by decide) (by decide) (by decide) (by decide) (by decide) (by decide) (by decide) (Or.inr ge12.2) ?_
  obtain ⟨w13, e14, h⟩ := obS h
  refine j_putF (pc := 29) (ci := 4) (kf := 1) tyX4 tyX4_ok nmX4 dX4_init_29 rfl hin_X4_init_X4 (by decide) lk_X4_init_9 rfl rfl rfl (fun _ => rfl) (fun _ => rfl) e14 ?_
  refine j_aload_n (pc := 32) dX4_init_32 rfl ?_
  refine j_iconst (pc := 33) dX4_init_33 (v := 0) (by decide) ?_
  obtain ⟨w15, e16, h⟩ := obS h
  refine j_putV (pc := 34) (ci := 4) (kf := 2) tyX4 tyX4_ok nmX4 dX4_init_34 rfl hin_X4_init_X4 (by decide) lk_X4_init_10 rfl (fun _ => rfl) (fun _ => rfl) e16 ?_
  cases h
  exact j_vret (pc := 37) rfl dX4_init_37 (by decide) (by decide) rfl
theorem r_X4_init {a0 : Nat} {ws : LWd} {o : LWd} (h : m_X4_init a0 ws = some o) : ∃ fs, ws[a0]? = some (.inr (4, fs)) := rcv_in h
theorem lk_X5_init_0 : Cond.methodLink RX5 3 objectInit ∈ wsX5_init := List.mem_cons_of_mem _ (List.mem_append_left _ (List.mem_append_left _ (List.mem_of_getElem? (i := 0) rfl)))
theorem lk_X5_init_1 : Cond.instanceMethod objectInit ∈ wsX5_init := List.mem_cons_of_mem _ (List.mem_append_left _ (List.mem_append_left _ (List.mem_of_getElem? (i := 1) rfl)))
theorem lk_X5_init_2 : Cond.code objectInit ⟨#[0xb1]⟩ 1 none ∈ wsX5_init := List.mem_cons_of_mem _ (List.mem_append_left _ (List.mem_append_left _ (List.mem_of_getElem? (i := 2) rfl)))
theorem hin_X5_init_X8 : ∀ w ∈ u_ws RX8 TX8 1, w ∈ wsX5_init := fun w h => List.mem_cons_of_mem _ (List.mem_append_left _ (List.mem_append_right _ h))
theorem lk_X5_init_3 : Cond.classLink RX5 9 RX8 ∈ wsX5_init := List.mem_cons_of_mem _ (List.mem_append_left _ (List.mem_append_left _ (List.mem_of_getElem? (i := 3) rfl)))
theorem lk_X5_init_4 : Cond.instantiable RX8 1 ∈ wsX5_init := List.mem_cons_of_mem _ (List.mem_append_left _ (List.mem_append_left _ (List.mem_of_getElem? (i := 4) rfl)))
theorem lk_X5_init_5 : Cond.initialized RX8 ∈ wsX5_init := List.mem_cons_of_mem _ (List.mem_append_left _ (List.mem_append_left _ (List.mem_of_getElem? (i := 5) rfl)))
theorem lk_X5_init_6 : Cond.methodLink RX5 11 yX8_init ∈ wsX5_init := List.mem_cons_of_mem _ (List.mem_append_left _ (List.mem_append_left _ (List.mem_of_getElem? (i := 10) rfl)))
theorem lk_X5_init_7 : Cond.instanceMethod yX8_init ∈ wsX5_init := List.mem_cons_of_mem _ (List.mem_append_left _ (List.mem_append_left _ (List.mem_of_getElem? (i := 11) rfl)))
theorem lk_X5_init_8 : Cond.fieldLink RX5 14 "Gaitwright$Land" "height" "LGaitwright$Row;" ∈ wsX5_init := List.mem_cons_of_mem _ (List.mem_append_left _ (List.mem_append_left _ (List.mem_of_getElem? (i := 6) rfl)))
theorem hin_X5_init_X5 : ∀ w ∈ u_ws RX5 TX5 4, w ∈ wsX5_init := fun w h => List.mem_cons_of_mem _ (List.mem_append_right _ h)
theorem lk_X5_init_9 : Cond.fieldLink RX5 20 "Gaitwright$Land" "firmness" "LGaitwright$Row;" ∈ wsX5_init := List.mem_cons_of_mem _ (List.mem_append_left _ (List.mem_append_left _ (List.mem_of_getElem? (i := 7) rfl)))
theorem lk_X5_init_10 : Cond.fieldLink RX5 23 "Gaitwright$Land" "grip" "LGaitwright$Row;" ∈ wsX5_init := List.mem_cons_of_mem _ (List.mem_append_left _ (List.mem_append_left _ (List.mem_of_getElem? (i := 8) rfl)))
theorem lk_X5_init_11 : Cond.fieldLink RX5 26 "Gaitwright$Land" "mapped" "LGaitwright$Row;" ∈ wsX5_init := List.mem_cons_of_mem _ (List.mem_append_left _ (List.mem_append_left _ (List.mem_of_getElem? (i := 9) rfl)))
def m_X5_init (a0 : Nat) (ws : LWd) : Option LWd :=
  (rcv ws a0 5).bind fun _ =>
  bn2 (nO ws [some (.ref a0)] [.ref a0] 8 [.null]) fun a1 w2 =>
  (calG w2 [some (.ref a0)] [.ref a1, .ref a0]V (m_X8_init a1 400 0 w2)).bind fun w4 =>
  (pV w4 a0 5 0 (.ref a1)).bind fun w6 =>
  bn2 (nO w6 [some (.ref a0)] [.ref a0] 8 [.null]) fun a8 w9 =>
  (calG w9 [some (.ref a0)] [.ref a8, .ref a0]V (m_X8_init a8 400 99 w9)).bind fun w11 =>
  (pV w11 a0 5 1 (.ref a8)).bind fun w13 =>
  bn2 (nO w13 [some (.ref a0)] [.ref a0] 8 [.null]) fun a15 w16 =>
  (calG w16 [some (.ref a0)] [.ref a15, .ref a0]V (m_X8_init a15 400 9 w16)).bind fun w18 =>
  (pV w18 a0 5 2 (.ref a15)).bind fun w20 =>
  bn2 (nO w20 [some (.ref a0)] [.ref a0] 8 [.null]) fun a22 w23 =>
  (calG w23 [some (.ref a0)] [.ref a22, .ref a0]V (m_X8_init a22 400 0 w23)).bind fun w25 =>
  (pV w25 a0 5 3 (.ref a22)).bind fun w27 =>
  some w27
set_option maxRecDepth 100000 in
set_option maxHeartbeats 4000000 in
theorem s_X5_init {a0 : Nat} {ws : LWd} {ws' : LWd} (h : m_X5_init a0 ws = some ws') : jSp yX5_init wsX5_init 2 8 1604 [.ref a0] ws (.inl none, ws') := by
  unfold m_X5_init at h
  refine j_entry (ret := none) (nm := "<init>") (own := RX5) pl_X5 rfl rfl rfl (jcats (by rfl)) (by decide) ?_
  show JG false cX5_init 1 RX5 wsX5_init none "<init>" 2 8 1604 ws.length (.inl none, ws') 0 [some (.ref a0)] [] ws 0 0
  obtain ⟨_, _, h⟩ := obS h
  refine j_aload_n (pc := 0) dX5_init_0 rfl ?_
  refine j_objInit (pc := 1) dX5_init_1 lk_X5_init_0 lk_X5_init_1 lk_X5_init_2 (by decide) (by decide) ?_
  refine j_aload_n (pc := 4) dX5_init_4 rfl ?_
  obtain ⟨a1, w2, e3, h⟩ := obS2 h
  refine j_new (pc := 5) (ci := 8) (N := 1) (C := RX8) (T := TX8) tyX8 tyX8_ok dX5_init_5 rfl hin_X5_init_X8 lk_X5_init_3 lk_X5_init_4 lk_X5_init_5 (fun j hj => by rcases (show j = 0 by omega) with rfl <;> rfl) (fun _ => rfl) (by decide) (by decide) e3 ?_
  refine j_dup (pc := 8) dX5_init_8 rfl ?_
  refine j_sipush (pc := 9) dX5_init_9 (v := 400) (by decide) ?_
  refine j_iconst (pc := 12) dX5_init_12 (v := 0) (by decide) ?_
  obtain ⟨w4, e5, h⟩ := obS h
  have ge5 := calGV_of e5
  refine j_callI_g (pc := 13) (As := [.int 400, .int 0]) (k' := 2) (n' := 401) dX5_init_13 (s_X8_init ge5.1) gX5_init_X8_init lk_X5_init_5 lk_X5_init_6 lk_X5_init_7 rfl rfl hy_X8_init rfl (by decide) (by decide) (by decide) (by decide) (by decide) (by decide) (by decide) (Or.inr ge5.2) ?_
  obtain ⟨w6, e7, h⟩ := obS h
  refine j_putF (pc := 16) (ci := 5) (kf := 0) tyX5 tyX5_ok nmX5 dX5_init_16 rfl hin_X5_init_X5 (by decide) lk_X5_init_8 rfl rfl rfl (fun _ => rfl) (fun _ => rfl) e7 ?_
  refine j_aload_n (pc := 19) dX5_init_19 rfl ?_
  obtain ⟨a8, w9, e10, h⟩ := obS2 h
  refine j_new (pc := 20) (ci := 8) (N := 1) (C := RX8) (T := TX8) tyX8 tyX8_ok dX5_init_20 rfl hin_X5_init_X8 lk_X5_init_3 lk_X5_init_4 lk_X5_init_5 (fun j hj => by rcases (show j = 0 by omega) with rfl <;> rfl) (fun _ => rfl) (by decide) (by decide) e10 ?_
  refine j_dup (pc := 23) dX5_init_23 rfl ?_
  refine j_sipush (pc := 24) dX5_init_24 (v := 400) (by decide) ?_
  refine j_bipush (pc := 27) dX5_init_27 (v := 99) (by decide) ?_
  obtain ⟨w11, e12, h⟩ := obS h
  have ge12 := calGV_of e12
  refine j_callI_g (pc := 29) (As := [.int 400, .int 99]) (k' := 4) (n' := 802) dX5_init_29 (s_X8_init ge12.1) gX5_init_X8_init lk_X5_init_5 lk_X5_init_6 lk_X5_init_7 rfl rfl hy_X8_init rfl (by decide) (by decide) (by decide) (by decide) (by decide) (by decide) (by decide) (Or.inr ge12.2) ?_
  obtain ⟨w13, e14, h⟩ := obS h
  refine j_putF (pc := 32) (ci := 5) (kf := 1) tyX5 tyX5_ok nmX5 dX5_init_32 rfl hin_X5_init_X5 (by decide) lk_X5_init_9 rfl rfl rfl (fun _ => rfl) (fun _ => rfl) e14 ?_
  refine j_aload_n (pc := 35) dX5_init_35 rfl ?_
  obtain ⟨a15, w16, e17, h⟩ := obS2 h
  refine j_new (pc := 36) (ci := 8) (N := 1) (C := RX8) (T := TX8) tyX8 tyX8_ok dX5_init_36 rfl hin_X5_init_X8 lk_X5_init_3 lk_X5_init_4 lk_X5_init_5 (fun j hj => by rcases (show j = 0 by omega) with rfl <;> rfl) (fun _ => rfl) (by decide) (by decide) e17 ?_
  refine j_dup (pc := 39) dX5_init_39 rfl ?_
  refine j_sipush (pc := 40) dX5_init_40 (v := 400) (by decide) ?_
  refine j_bipush (pc := 43) dX5_init_43 (v := 9) (by decide) ?_
  obtain ⟨w18, e19, h⟩ := obS h
  have ge19 := calGV_of e19
  refine j_callI_g (pc := 45) (As := [.int 400, .int 9]) (k' := 6) (n' := 1203) dX5_init_45 (s_X8_init ge19.1) gX5_init_X8_init lk_X5_init_5 lk_X5_init_6 lk_X5_init_7 rfl rfl hy_X8_init rfl (by decide) (by decide) (by decide) (by decide) (by decide) (by decide) (by decide) (Or.inr ge19.2) ?_
  obtain ⟨w20, e21, h⟩ := obS h
  refine j_putF (pc := 48) (ci := 5) (kf := 2) tyX5 tyX5_ok nmX5 dX5_init_48 rfl hin_X5_init_X5 (by decide) lk_X5_init_10 rfl rfl rfl (fun _ => rfl) (fun _ => rfl) e21 ?_
  refine j_aload_n (pc := 51) dX5_init_51 rfl ?_
  obtain ⟨a22, w23, e24, h⟩ := obS2 h
  refine j_new (pc := 52) (ci := 8) (N := 1) (C := RX8) (T := TX8) tyX8 tyX8_ok dX5_init_52 rfl hin_X5_init_X8 lk_X5_init_3 lk_X5_init_4 lk_X5_init_5 (fun j hj => by rcases (show j = 0 by omega) with rfl <;> rfl) (fun _ => rfl) (by decide) (by decide) e24 ?_
  refine j_dup (pc := 55) dX5_init_55 rfl ?_
  refine j_sipush (pc := 56) dX5_init_56 (v := 400) (by decide) ?_
  refine j_iconst (pc := 59) dX5_init_59 (v := 0) (by decide) ?_
  obtain ⟨w25, e26, h⟩ := obS h
  have ge26 := calGV_of e26
  refine j_callI_g (pc := 60) (As := [.int 400, .int 0]) (k' := 8) (n' := 1604) dX5_init_60 (s_X8_init ge26.1) gX5_init_X8_init lk_X5_init_5 lk_X5_init_6 lk_X5_init_7 rfl rfl hy_X8_init rfl (by decide) (by decide) (by decide) (by decide) (by decide) (by decide) (by decide) (Or.inr ge26.2) ?_
  obtain ⟨w27, e28, h⟩ := obS h
  refine j_putF (pc := 63) (ci := 5) (kf := 3) tyX5 tyX5_ok nmX5 dX5_init_63 rfl hin_X5_init_X5 (by decide) lk_X5_init_11 rfl rfl rfl (fun _ => rfl) (fun _ => rfl) e28 ?_
  cases h
  exact j_vret (pc := 66) rfl dX5_init_66 (by decide) (by decide) rfl
theorem r_X5_init {a0 : Nat} {ws : LWd} {o : LWd} (h : m_X5_init a0 ws = some o) : ∃ fs, ws[a0]? = some (.inr (5, fs)) := rcv_in h
theorem lk_X2_init_0 : Cond.methodLink RX2 3 objectInit ∈ wsX2_init := List.mem_cons_of_mem _ (List.mem_append_left _ (List.mem_append_left _ (List.mem_of_getElem? (i := 0) rfl)))
theorem lk_X2_init_1 : Cond.instanceMethod objectInit ∈ wsX2_init := List.mem_cons_of_mem _ (List.mem_append_left _ (List.mem_append_left _ (List.mem_of_getElem? (i := 1) rfl)))
theorem lk_X2_init_2 : Cond.code objectInit ⟨#[0xb1]⟩ 1 none ∈ wsX2_init := List.mem_cons_of_mem _ (List.mem_append_left _ (List.mem_append_left _ (List.mem_of_getElem? (i := 2) rfl)))
theorem hin_X2_init_X8 : ∀ w ∈ u_ws RX8 TX8 1, w ∈ wsX2_init := fun w h => List.mem_cons_of_mem _ (List.mem_append_left _ (List.mem_append_right _ h))
theorem lk_X2_init_3 : Cond.classLink RX2 9 RX8 ∈ wsX2_init := List.mem_cons_of_mem _ (List.mem_append_left _ (List.mem_append_left _ (List.mem_of_getElem? (i := 3) rfl)))
theorem lk_X2_init_4 : Cond.instantiable RX8 1 ∈ wsX2_init := List.mem_cons_of_mem _ (List.mem_append_left _ (List.mem_append_left _ (List.mem_of_getElem? (i := 4) rfl)))
theorem lk_X2_init_5 : Cond.initialized RX8 ∈ wsX2_init := List.mem_cons_of_mem _ (List.mem_append_left _ (List.mem_append_left _ (List.mem_of_getElem? (i := 5) rfl)))
theorem lk_X2_init_6 : Cond.methodLink RX2 11 yX8_init ∈ wsX2_init := List.mem_cons_of_mem _ (List.mem_append_left _ (List.mem_append_left _ (List.mem_of_getElem? (i := 13) rfl)))
theorem lk_X2_init_7 : Cond.instanceMethod yX8_init ∈ wsX2_init := List.mem_cons_of_mem _ (List.mem_append_left _ (List.mem_append_left _ (List.mem_of_getElem? (i := 14) rfl)))
theorem lk_X2_init_8 : Cond.fieldLink RX2 14 "Gaitwright$Frame" "hipX" "LGaitwright$Row;" ∈ wsX2_init := List.mem_cons_of_mem _ (List.mem_append_left _ (List.mem_append_left _ (List.mem_of_getElem? (i := 6) rfl)))
theorem hin_X2_init_X2 : ∀ w ∈ u_ws RX2 TX2 7, w ∈ wsX2_init := fun w h => List.mem_cons_of_mem _ (List.mem_append_right _ h)
theorem lk_X2_init_9 : Cond.fieldLink RX2 20 "Gaitwright$Frame" "hipY" "LGaitwright$Row;" ∈ wsX2_init := List.mem_cons_of_mem _ (List.mem_append_left _ (List.mem_append_left _ (List.mem_of_getElem? (i := 7) rfl)))
theorem lk_X2_init_10 : Cond.fieldLink RX2 23 "Gaitwright$Frame" "reach" "LGaitwright$Row;" ∈ wsX2_init := List.mem_cons_of_mem _ (List.mem_append_left _ (List.mem_append_left _ (List.mem_of_getElem? (i := 8) rfl)))
theorem lk_X2_init_11 : Cond.fieldLink RX2 26 "Gaitwright$Frame" "legs" "I" ∈ wsX2_init := List.mem_cons_of_mem _ (List.mem_append_left _ (List.mem_append_left _ (List.mem_of_getElem? (i := 9) rfl)))
theorem lk_X2_init_12 : Cond.fieldLink RX2 30 "Gaitwright$Frame" "loadWeight" "I" ∈ wsX2_init := List.mem_cons_of_mem _ (List.mem_append_left _ (List.mem_append_left _ (List.mem_of_getElem? (i := 10) rfl)))
theorem lk_X2_init_13 : Cond.fieldLink RX2 33 "Gaitwright$Frame" "loadX" "I" ∈ wsX2_init := List.mem_cons_of_mem _ (List.mem_append_left _ (List.mem_append_left _ (List.mem_of_getElem? (i := 11) rfl)))
theorem lk_X2_init_14 : Cond.fieldLink RX2 36 "Gaitwright$Frame" "loadY" "I" ∈ wsX2_init := List.mem_cons_of_mem _ (List.mem_append_left _ (List.mem_append_left _ (List.mem_of_getElem? (i := 12) rfl)))
def m_X2_init (a0 : Nat) (ws : LWd) : Option LWd :=
  (rcv ws a0 2).bind fun _ =>
  bn2 (nO ws [some (.ref a0)] [.ref a0] 8 [.null]) fun a1 w2 =>
  (calG w2 [some (.ref a0)] [.ref a1, .ref a0]V (m_X8_init a1 6 0 w2)).bind fun w4 =>
  (pV w4 a0 2 0 (.ref a1)).bind fun w6 =>
  bn2 (nO w6 [some (.ref a0)] [.ref a0] 8 [.null]) fun a8 w9 =>
  (calG w9 [some (.ref a0)] [.ref a8, .ref a0]V (m_X8_init a8 6 0 w9)).bind fun w11 =>
  (pV w11 a0 2 1 (.ref a8)).bind fun w13 =>
  bn2 (nO w13 [some (.ref a0)] [.ref a0] 8 [.null]) fun a15 w16 =>
  (calG w16 [some (.ref a0)] [.ref a15, .ref a0]V (m_X8_init a15 6 0 w16)).bind fun w18 =>
  (pV w18 a0 2 2 (.ref a15)).bind fun w20 =>
  (pV w20 a0 2 3 (.int 0)).bind fun w22 =>
  (pV w22 a0 2 4 (.int 0)).bind fun w24 =>
  (pV w24 a0 2 5 (.int 0)).bind fun w26 =>
  (pV w26 a0 2 6 (.int 0)).bind fun w28 =>
  some w28
set_option maxRecDepth 100000 in
set_option maxHeartbeats 4000000 in
theorem s_X2_init {a0 : Nat} {ws : LWd} {ws' : LWd} (h : m_X2_init a0 ws = some ws') : jSp yX2_init wsX2_init 2 6 1203 [.ref a0] ws (.inl none, ws') := by
  unfold m_X2_init at h
  refine j_entry (ret := none) (nm := "<init>") (own := RX2) pl_X2 rfl rfl rfl (jcats (by rfl)) (by decide) ?_
  show JG false cX2_init 1 RX2 wsX2_init none "<init>" 2 6 1203 ws.length (.inl none, ws') 0 [some (.ref a0)] [] ws 0 0
  obtain ⟨_, _, h⟩ := obS h
  refine j_aload_n (pc := 0) dX2_init_0 rfl ?_
  refine j_objInit (pc := 1) dX2_init_1 lk_X2_init_0 lk_X2_init_1 lk_X2_init_2 (by decide) (by decide) ?_
  refine j_aload_n (pc := 4) dX2_init_4 rfl ?_
  obtain ⟨a1, w2, e3, h⟩ := obS2 h
  refine j_new (pc := 5) (ci := 8) (N := 1) (C := RX8) (T := TX8) tyX8 tyX8_ok dX2_init_5 rfl hin_X2_init_X8 lk_X2_init_3 lk_X2_init_4 lk_X2_init_5 (fun j hj => by rcases (show j = 0 by omega) with rfl <;> rfl) (fun _ => rfl) (by decide) (by decide) e3 ?_
  refine j_dup (pc := 8) dX2_init_8 rfl ?_
  refine j_bipush (pc := 9) dX2_init_9 (v := 6) (by decide) ?_
  refine j_iconst (pc := 11) dX2_init_11 (v := 0) (by decide) ?_
  obtain ⟨w4, e5, h⟩ := obS h
  have ge5 := calGV_of e5
  refine j_callI_g (pc := 12) (As := [.int 6, .int 0]) (k' := 2) (n' := 401) dX2_init_12 (s_X8_init ge5.1) gX2_init_X8_init lk_X2_init_5 lk_X2_init_6 lk_X2_init_7 rfl rfl hy_X8_init rfl (by decide) (by decide) (by decide) (by decide) (by decide) (by decide) (by decide) (Or.inr ge5.2) ?_
  obtain ⟨w6, e7, h⟩ := obS h
  refine j_putF (pc := 15) (ci := 2) (kf := 0) tyX2 tyX2_ok nmX2 dX2_init_15 rfl hin_X2_init_X2 (by decide) lk_X2_init_8 rfl rfl rfl (fun _ => rfl) (fun _ => rfl) e7 ?_
  refine j_aload_n (pc := 18) dX2_init_18 rfl ?_
  obtain ⟨a8, w9, e10, h⟩ := obS2 h
  refine j_new (pc := 19) (ci := 8) (N := 1) (C := RX8) (T := TX8) tyX8 tyX8_ok dX2_init_19 rfl hin_X2_init_X8 lk_X2_init_3 lk_X2_init_4 lk_X2_init_5 (fun j hj => by rcases (show j = 0 by omega) with rfl <;> rfl) (fun _ => rfl) (by decide) (by decide) e10 ?_
  refine j_dup (pc := 22) dX2_init_22 rfl ?_
  refine j_bipush (pc := 23) dX2_init_23 (v := 6) (by decide) ?_
  refine j_iconst (pc := 25) dX2_init_25 (v := 0) (by decide) ?_
  obtain ⟨w11, e12, h⟩ := obS h
  have ge12 := calGV_of e12
  refine j_callI_g (pc := 26) (As := [.int 6, .int 0]) (k' := 4) (n' := 802) dX2_init_26 (s_X8_init ge12.1) gX2_init_X8_init lk_X2_init_5 lk_X2_init_6 lk_X2_init_7 rfl rfl hy_X8_init rfl (by decide) (by decide) (by decide) (by decide) (by decide) (by decide) (by decide) (Or.inr ge12.2) ?_
  obtain ⟨w13, e14, h⟩ := obS h
  refine j_putF (pc := 29) (ci := 2) (kf := 1) tyX2 tyX2_ok nmX2 dX2_init_29 rfl hin_X2_init_X2 (by decide) lk_X2_init_9 rfl rfl rfl (fun _ => rfl) (fun _ => rfl) e14 ?_
  refine j_aload_n (pc := 32) dX2_init_32 rfl ?_
  obtain ⟨a15, w16, e17, h⟩ := obS2 h
  refine j_new (pc := 33) (ci := 8) (N := 1) (C := RX8) (T := TX8) tyX8 tyX8_ok dX2_init_33 rfl hin_X2_init_X8 lk_X2_init_3 lk_X2_init_4 lk_X2_init_5 (fun j hj => by rcases (show j = 0 by omega) with rfl <;> rfl) (fun _ => rfl) (by decide) (by decide) e17 ?_
  refine j_dup (pc := 36) dX2_init_36 rfl ?_
  refine j_bipush (pc := 37) dX2_init_37 (v := 6) (by decide) ?_
  refine j_iconst (pc := 39) dX2_init_39 (v := 0) (by decide) ?_
  obtain ⟨w18, e19, h⟩ := obS h
  have ge19 := calGV_of e19
  refine j_callI_g (pc := 40) (As := [.int 6, .int 0]) (k' := 6) (n' := 1203) dX2_init_40 (s_X8_init ge19.1) gX2_init_X8_init lk_X2_init_5 lk_X2_init_6 lk_X2_init_7 rfl rfl hy_X8_init rfl (by decide) (by decide) (by decide) (by decide) (by decide) (by decide) (by decide) (Or.inr ge19.2) ?_
  obtain ⟨w20, e21, h⟩ := obS h
  refine j_putF (pc := 43) (ci := 2) (kf := 2) tyX2 tyX2_ok nmX2 dX2_init_43 rfl hin_X2_init_X2 (by decide) lk_X2_init_10 rfl rfl rfl (fun _ => rfl) (fun _ => rfl) e21 ?_
  refine j_aload_n (pc := 46) dX2_init_46 rfl ?_
  refine j_iconst (pc := 47) dX2_init_47 (v := 0) (by decide) ?_
  obtain ⟨w22, e23, h⟩ := obS h
  refine j_putV (pc := 48) (ci := 2) (kf := 3) tyX2 tyX2_ok nmX2 dX2_init_48 rfl hin_X2_init_X2 (by decide) lk_X2_init_11 rfl (fun _ => rfl) (fun _ => rfl) e23 ?_
  refine j_aload_n (pc := 51) dX2_init_51 rfl ?_
  refine j_iconst (pc := 52) dX2_init_52 (v := 0) (by decide) ?_
  obtain ⟨w24, e25, h⟩ := obS h
  refine j_putV (pc := 53) (ci := 2) (kf := 4) tyX2 tyX2_ok nmX2 dX2_init_53 rfl hin_X2_init_X2 (by decide) lk_X2_init_12 rfl (fun _ => rfl) (fun _ => rfl) e25 ?_
  refine j_aload_n (pc := 56) dX2_init_56 rfl ?_
  refine j_iconst (pc := 57) dX2_init_57 (v := 0) (by decide) ?_
  obtain ⟨w26, e27, h⟩ := obS h
  refine j_putV (pc := 58) (ci := 2) (kf := 5) tyX2 tyX2_ok nmX2 dX2_init_58 rfl hin_X2_init_X2 (by decide) lk_X2_init_13 rfl (fun _ => rfl) (fun _ => rfl) e27 ?_
  refine j_aload_n (pc := 61) dX2_init_61 rfl ?_
  refine j_iconst (pc := 62) dX2_init_62 (v := 0) (by decide) ?_
  obtain ⟨w28, e29, h⟩ := obS h
  refine j_putV (pc := 63) (ci := 2) (kf := 6) tyX2 tyX2_ok nmX2 dX2_init_63 rfl hin_X2_init_X2 (by decide) lk_X2_init_14 rfl (fun _ => rfl) (fun _ => rfl) e29 ?_
  cases h
  exact j_vret (pc := 66) rfl dX2_init_66 (by decide) (by decide) rfl
theorem r_X2_init {a0 : Nat} {ws : LWd} {o : LWd} (h : m_X2_init a0 ws = some o) : ∃ fs, ws[a0]? = some (.inr (2, fs)) := rcv_in h
theorem lk_X9_init_0 : Cond.methodLink RX9 3 objectInit ∈ wsX9_init := List.mem_cons_of_mem _ (List.mem_append_left _ (List.mem_append_left _ (List.mem_of_getElem? (i := 0) rfl)))
theorem lk_X9_init_1 : Cond.instanceMethod objectInit ∈ wsX9_init := List.mem_cons_of_mem _ (List.mem_append_left _ (List.mem_append_left _ (List.mem_of_getElem? (i := 1) rfl)))
theorem lk_X9_init_2 : Cond.code objectInit ⟨#[0xb1]⟩ 1 none ∈ wsX9_init := List.mem_cons_of_mem _ (List.mem_append_left _ (List.mem_append_left _ (List.mem_of_getElem? (i := 2) rfl)))
theorem hin_X9_init_X8 : ∀ w ∈ u_ws RX8 TX8 1, w ∈ wsX9_init := fun w h => List.mem_cons_of_mem _ (List.mem_append_left _ (List.mem_append_right _ h))
theorem lk_X9_init_3 : Cond.classLink RX9 9 RX8 ∈ wsX9_init := List.mem_cons_of_mem _ (List.mem_append_left _ (List.mem_append_left _ (List.mem_of_getElem? (i := 3) rfl)))
theorem lk_X9_init_4 : Cond.instantiable RX8 1 ∈ wsX9_init := List.mem_cons_of_mem _ (List.mem_append_left _ (List.mem_append_left _ (List.mem_of_getElem? (i := 4) rfl)))
theorem lk_X9_init_5 : Cond.initialized RX8 ∈ wsX9_init := List.mem_cons_of_mem _ (List.mem_append_left _ (List.mem_append_left _ (List.mem_of_getElem? (i := 5) rfl)))
theorem lk_X9_init_6 : Cond.methodLink RX9 11 yX8_init ∈ wsX9_init := List.mem_cons_of_mem _ (List.mem_append_left _ (List.mem_append_left _ (List.mem_of_getElem? (i := 12) rfl)))
theorem lk_X9_init_7 : Cond.instanceMethod yX8_init ∈ wsX9_init := List.mem_cons_of_mem _ (List.mem_append_left _ (List.mem_append_left _ (List.mem_of_getElem? (i := 13) rfl)))
theorem lk_X9_init_8 : Cond.fieldLink RX9 14 "Gaitwright$Stance" "feet" "LGaitwright$Row;" ∈ wsX9_init := List.mem_cons_of_mem _ (List.mem_append_left _ (List.mem_append_left _ (List.mem_of_getElem? (i := 6) rfl)))
theorem hin_X9_init_X9 : ∀ w ∈ u_ws RX9 TX9 6, w ∈ wsX9_init := fun w h => List.mem_cons_of_mem _ (List.mem_append_right _ h)
theorem lk_X9_init_9 : Cond.fieldLink RX9 20 "Gaitwright$Stance" "bodyX" "I" ∈ wsX9_init := List.mem_cons_of_mem _ (List.mem_append_left _ (List.mem_append_left _ (List.mem_of_getElem? (i := 7) rfl)))
theorem lk_X9_init_10 : Cond.fieldLink RX9 24 "Gaitwright$Stance" "bodyY" "I" ∈ wsX9_init := List.mem_cons_of_mem _ (List.mem_append_left _ (List.mem_append_left _ (List.mem_of_getElem? (i := 8) rfl)))
theorem lk_X9_init_11 : Cond.fieldLink RX9 27 "Gaitwright$Stance" "land" "LGaitwright$Land;" ∈ wsX9_init := List.mem_cons_of_mem _ (List.mem_append_left _ (List.mem_append_left _ (List.mem_of_getElem? (i := 9) rfl)))
theorem lk_X9_init_12 : Cond.fieldLink RX9 31 "Gaitwright$Stance" "frame" "LGaitwright$Frame;" ∈ wsX9_init := List.mem_cons_of_mem _ (List.mem_append_left _ (List.mem_append_left _ (List.mem_of_getElem? (i := 10) rfl)))
theorem lk_X9_init_13 : Cond.fieldLink RX9 35 "Gaitwright$Stance" "hull" "LGaitwright$Hull;" ∈ wsX9_init := List.mem_cons_of_mem _ (List.mem_append_left _ (List.mem_append_left _ (List.mem_of_getElem? (i := 11) rfl)))
def m_X9_init (a0 : Nat) (a1 : Nat) (a2 : Nat) (a3 : Nat) (ws : LWd) : Option LWd :=
  (rcv ws a0 9).bind fun _ =>
  bn2 (nO ws [some (.ref a0), some (.ref a1), some (.ref a2), some (.ref a3)] [.ref a0] 8 [.null]) fun a1 w2 =>
  (calG w2 [some (.ref a0), some (.ref a1), some (.ref a2), some (.ref a3)] [.ref a1, .ref a0]V (m_X8_init a1 6 ((-1)) w2)).bind fun w4 =>
  (pV w4 a0 9 3 (.ref a1)).bind fun w6 =>
  (pV w6 a0 9 4 (.int 10)).bind fun w8 =>
  (pV w8 a0 9 5 (.int 10)).bind fun w10 =>
  (pV w10 a0 9 0 (.ref a1)).bind fun w12 =>
  (pV w12 a0 9 1 (.ref a2)).bind fun w14 =>
  (pV w14 a0 9 2 (.ref a3)).bind fun w16 =>
  some w16
set_option maxRecDepth 100000 in
set_option maxHeartbeats 4000000 in
theorem s_X9_init {a0 : Nat} {a1 : Nat} {a2 : Nat} {a3 : Nat} {ws : LWd} {ws' : LWd} (h : m_X9_init a0 a1 a2 a3 ws = some ws') : jSp yX9_init wsX9_init 2 2 401 [.ref a0, .ref a1, .ref a2, .ref a3] ws (.inl none, ws') := by
  unfold m_X9_init at h
  refine j_entry (ret := none) (nm := "<init>") (own := RX9) pl_X9 rfl rfl rfl (jcats (by rfl)) (by decide) ?_
  show JG false cX9_init 4 RX9 wsX9_init none "<init>" 2 2 401 ws.length (.inl none, ws') 0 [some (.ref a0), some (.ref a1), some (.ref a2), some (.ref a3)] [] ws 0 0
  obtain ⟨_, _, h⟩ := obS h
  refine j_aload_n (pc := 0) dX9_init_0 rfl ?_
  refine j_objInit (pc := 1) dX9_init_1 lk_X9_init_0 lk_X9_init_1 lk_X9_init_2 (by decide) (by decide) ?_
  refine j_aload_n (pc := 4) dX9_init_4 rfl ?_
  obtain ⟨a1, w2, e3, h⟩ := obS2 h
  refine j_new (pc := 5) (ci := 8) (N := 1) (C := RX8) (T := TX8) tyX8 tyX8_ok dX9_init_5 rfl hin_X9_init_X8 lk_X9_init_3 lk_X9_init_4 lk_X9_init_5 (fun j hj => by rcases (show j = 0 by omega) with rfl <;> rfl) (fun _ => rfl) (by decide) (by decide) e3 ?_
  refine j_dup (pc := 8) dX9_init_8 rfl ?_
  refine j_bipush (pc := 9) dX9_init_9 (v := 6) (by decide) ?_
  refine j_iconst (pc := 11) dX9_init_11 (v := (-1)) (by decide) ?_
  obtain ⟨w4, e5, h⟩ := obS h
  have ge5 := calGV_of e5
  refine j_callI_g (pc := 12) (As := [.int 6, .int ((-1))]) (k' := 2) (n' := 401) dX9_init_12 (s_X8_init ge5.1) gX9_init_X8_init lk_X9_init_5 lk_X9_init_6 lk_X9_init_7 rfl rfl hy_X8_init rfl (by decide) (by decide) (by decide) (by decide) (by decide) (by decide) (by decide) (Or.inr ge5.2) ?_
  obtain ⟨w6, e7, h⟩ := obS h
  refine j_putF (pc := 15) (ci := 9) (kf := 3) tyX9 tyX9_ok nmX9 dX9_init_15 rfl hin_X9_init_X9 (by decide) lk_X9_init_8 rfl rfl rfl (fun _ => rfl) (fun _ => rfl) e7 ?_
  refine j_aload_n (pc := 18) dX9_init_18 rfl ?_
  refine j_bipush (pc := 19) dX9_init_19 (v := 10) (by decide) ?_
  obtain ⟨w8, e9, h⟩ := obS h
  refine j_putV (pc := 21) (ci := 9) (kf := 4) tyX9 tyX9_ok nmX9 dX9_init_21 rfl hin_X9_init_X9 (by decide) lk_X9_init_9 rfl (fun _ => rfl) (fun _ => rfl) e9 ?_
  refine j_aload_n (pc := 24) dX9_init_24 rfl ?_
  refine j_bipush (pc := 25) dX9_init_25 (v := 10) (by decide) ?_
  obtain ⟨w10, e11, h⟩ := obS h
  refine j_putV (pc := 27) (ci := 9) (kf := 5) tyX9 tyX9_ok nmX9 dX9_init_27 rfl hin_X9_init_X9 (by decide) lk_X9_init_10 rfl (fun _ => rfl) (fun _ => rfl) e11 ?_
  refine j_aload_n (pc := 30) dX9_init_30 rfl ?_
  refine j_aload_n (pc := 31) dX9_init_31 rfl ?_
  obtain ⟨w12, e13, h⟩ := obS h
  refine j_putF (pc := 32) (ci := 9) (kf := 0) tyX9 tyX9_ok nmX9 dX9_init_32 rfl hin_X9_init_X9 (by decide) lk_X9_init_11 rfl rfl rfl (fun _ => rfl) (fun _ => rfl) e13 ?_
  refine j_aload_n (pc := 35) dX9_init_35 rfl ?_
  refine j_aload_n (pc := 36) dX9_init_36 rfl ?_
  obtain ⟨w14, e15, h⟩ := obS h
  refine j_putF (pc := 37) (ci := 9) (kf := 1) tyX9 tyX9_ok nmX9 dX9_init_37 rfl hin_X9_init_X9 (by decide) lk_X9_init_12 rfl rfl rfl (fun _ => rfl) (fun _ => rfl) e15 ?_
  refine j_aload_n (pc := 40) dX9_init_40 rfl ?_
  refine j_aload_n (pc := 41) dX9_init_41 rfl ?_
  obtain ⟨w16, e17, h⟩ := obS h
  refine j_putF (pc := 42) (ci := 9) (kf := 2) tyX9 tyX9_ok nmX9 dX9_init_42 rfl hin_X9_init_X9 (by decide) lk_X9_init_13 rfl rfl rfl (fun _ => rfl) (fun _ => rfl) e17 ?_
  cases h
  exact j_vret (pc := 45) rfl dX9_init_45 (by decide) (by decide) rfl
theorem r_X9_init {a0 : Nat} {a1 : Nat} {a2 : Nat} {a3 : Nat} {ws : LWd} {o : LWd} (h : m_X9_init a0 a1 a2 a3 ws = some o) : ∃ fs, ws[a0]? = some (.inr (9, fs)) := rcv_in h
theorem lk_X6_init_0 : Cond.methodLink RX6 3 objectInit ∈ wsX6_init := List.mem_cons_of_mem _ (List.mem_append_left _ (List.mem_append_left _ (List.mem_of_getElem? (i := 0) rfl)))
theorem lk_X6_init_1 : Cond.instanceMethod objectInit ∈ wsX6_init := List.mem_cons_of_mem _ (List.mem_append_left _ (List.mem_append_left _ (List.mem_of_getElem? (i := 1) rfl)))
theorem lk_X6_init_2 : Cond.code objectInit ⟨#[0xb1]⟩ 1 none ∈ wsX6_init := List.mem_cons_of_mem _ (List.mem_append_left _ (List.mem_append_left _ (List.mem_of_getElem? (i := 2) rfl)))
theorem hin_X6_init_X8 : ∀ w ∈ u_ws RX8 TX8 1, w ∈ wsX6_init := fun w h => List.mem_cons_of_mem _ (List.mem_append_left _ (List.mem_append_right _ h))
theorem lk_X6_init_3 : Cond.classLink RX6 9 RX8 ∈ wsX6_init := List.mem_cons_of_mem _ (List.mem_append_left _ (List.mem_append_left _ (List.mem_of_getElem? (i := 3) rfl)))
theorem lk_X6_init_4 : Cond.instantiable RX8 1 ∈ wsX6_init := List.mem_cons_of_mem _ (List.mem_append_left _ (List.mem_append_left _ (List.mem_of_getElem? (i := 4) rfl)))
theorem lk_X6_init_5 : Cond.initialized RX8 ∈ wsX6_init := List.mem_cons_of_mem _ (List.mem_append_left _ (List.mem_append_left _ (List.mem_of_getElem? (i := 5) rfl)))
theorem lk_X6_init_6 : Cond.methodLink RX6 11 yX8_init ∈ wsX6_init := List.mem_cons_of_mem _ (List.mem_append_left _ (List.mem_append_left _ (List.mem_of_getElem? (i := 9) rfl)))
theorem lk_X6_init_7 : Cond.instanceMethod yX8_init ∈ wsX6_init := List.mem_cons_of_mem _ (List.mem_append_left _ (List.mem_append_left _ (List.mem_of_getElem? (i := 10) rfl)))
theorem lk_X6_init_8 : Cond.fieldLink RX6 14 "Gaitwright$Pieces" "x" "LGaitwright$Row;" ∈ wsX6_init := List.mem_cons_of_mem _ (List.mem_append_left _ (List.mem_append_left _ (List.mem_of_getElem? (i := 6) rfl)))
theorem hin_X6_init_X6 : ∀ w ∈ u_ws RX6 TX6 3, w ∈ wsX6_init := fun w h => List.mem_cons_of_mem _ (List.mem_append_right _ h)
theorem lk_X6_init_9 : Cond.fieldLink RX6 20 "Gaitwright$Pieces" "y" "LGaitwright$Row;" ∈ wsX6_init := List.mem_cons_of_mem _ (List.mem_append_left _ (List.mem_append_left _ (List.mem_of_getElem? (i := 7) rfl)))
theorem lk_X6_init_10 : Cond.fieldLink RX6 23 "Gaitwright$Pieces" "count" "I" ∈ wsX6_init := List.mem_cons_of_mem _ (List.mem_append_left _ (List.mem_append_left _ (List.mem_of_getElem? (i := 8) rfl)))
def m_X6_init (a0 : Nat) (ws : LWd) : Option LWd :=
  (rcv ws a0 6).bind fun _ =>
  bn2 (nO ws [some (.ref a0)] [.ref a0] 8 [.null]) fun a1 w2 =>
  (calG w2 [some (.ref a0)] [.ref a1, .ref a0]V (m_X8_init a1 6 0 w2)).bind fun w4 =>
  (pV w4 a0 6 0 (.ref a1)).bind fun w6 =>
  bn2 (nO w6 [some (.ref a0)] [.ref a0] 8 [.null]) fun a8 w9 =>
  (calG w9 [some (.ref a0)] [.ref a8, .ref a0]V (m_X8_init a8 6 0 w9)).bind fun w11 =>
  (pV w11 a0 6 1 (.ref a8)).bind fun w13 =>
  (pV w13 a0 6 2 (.int 0)).bind fun w15 =>
  some w15
set_option maxRecDepth 100000 in
set_option maxHeartbeats 4000000 in
theorem s_X6_init {a0 : Nat} {ws : LWd} {ws' : LWd} (h : m_X6_init a0 ws = some ws') : jSp yX6_init wsX6_init 2 4 802 [.ref a0] ws (.inl none, ws') := by
  unfold m_X6_init at h
  refine j_entry (ret := none) (nm := "<init>") (own := RX6) pl_X6 rfl rfl rfl (jcats (by rfl)) (by decide) ?_
  show JG false cX6_init 1 RX6 wsX6_init none "<init>" 2 4 802 ws.length (.inl none, ws') 0 [some (.ref a0)] [] ws 0 0
  obtain ⟨_, _, h⟩ := obS h
  refine j_aload_n (pc := 0) dX6_init_0 rfl ?_
  refine j_objInit (pc := 1) dX6_init_1 lk_X6_init_0 lk_X6_init_1 lk_X6_init_2 (by decide) (by decide) ?_
  refine j_aload_n (pc := 4) dX6_init_4 rfl ?_
  obtain ⟨a1, w2, e3, h⟩ := obS2 h
  refine j_new (pc := 5) (ci := 8) (N := 1) (C := RX8) (T := TX8) tyX8 tyX8_ok dX6_init_5 rfl hin_X6_init_X8 lk_X6_init_3 lk_X6_init_4 lk_X6_init_5 (fun j hj => by rcases (show j = 0 by omega) with rfl <;> rfl) (fun _ => rfl) (by decide) (by decide) e3 ?_
  refine j_dup (pc := 8) dX6_init_8 rfl ?_
  refine j_bipush (pc := 9) dX6_init_9 (v := 6) (by decide) ?_
  refine j_iconst (pc := 11) dX6_init_11 (v := 0) (by decide) ?_
  obtain ⟨w4, e5, h⟩ := obS h
  have ge5 := calGV_of e5
  refine j_callI_g (pc := 12) (As := [.int 6, .int 0]) (k' := 2) (n' := 401) dX6_init_12 (s_X8_init ge5.1) gX6_init_X8_init lk_X6_init_5 lk_X6_init_6 lk_X6_init_7 rfl rfl hy_X8_init rfl (by decide) (by decide) (by decide) (by decide) (by decide) (by decide) (by decide) (Or.inr ge5.2) ?_
  obtain ⟨w6, e7, h⟩ := obS h
  refine j_putF (pc := 15) (ci := 6) (kf := 0) tyX6 tyX6_ok nmX6 dX6_init_15 rfl hin_X6_init_X6 (by decide) lk_X6_init_8 rfl rfl rfl (fun _ => rfl) (fun _ => rfl) e7 ?_
  refine j_aload_n (pc := 18) dX6_init_18 rfl ?_
  obtain ⟨a8, w9, e10, h⟩ := obS2 h
  refine j_new (pc := 19) (ci := 8) (N := 1) (C := RX8) (T := TX8) tyX8 tyX8_ok dX6_init_19 rfl hin_X6_init_X8 lk_X6_init_3 lk_X6_init_4 lk_X6_init_5 (fun j hj => by rcases (show j = 0 by omega) with rfl <;> rfl) (fun _ => rfl) (by decide) (by decide) e10 ?_
  refine j_dup (pc := 22) dX6_init_22 rfl ?_
  refine j_bipush (pc := 23) dX6_init_23 (v := 6) (by decide) ?_
  refine j_iconst (pc := 25) dX6_init_25 (v := 0) (by decide) ?_
  obtain ⟨w11, e12, h⟩ := obS h
  have ge12 := calGV_of e12
  refine j_callI_g (pc := 26) (As := [.int 6, .int 0]) (k' := 4) (n' := 802) dX6_init_26 (s_X8_init ge12.1) gX6_init_X8_init lk_X6_init_5 lk_X6_init_6 lk_X6_init_7 rfl rfl hy_X8_init rfl (by decide) (by decide) (by decide) (by decide) (by decide) (by decide) (by decide) (Or.inr ge12.2) ?_
  obtain ⟨w13, e14, h⟩ := obS h
  refine j_putF (pc := 29) (ci := 6) (kf := 1) tyX6 tyX6_ok nmX6 dX6_init_29 rfl hin_X6_init_X6 (by decide) lk_X6_init_9 rfl rfl rfl (fun _ => rfl) (fun _ => rfl) e14 ?_
  refine j_aload_n (pc := 32) dX6_init_32 rfl ?_
  refine j_iconst (pc := 33) dX6_init_33 (v := 0) (by decide) ?_
  obtain ⟨w15, e16, h⟩ := obS h
  refine j_putV (pc := 34) (ci := 6) (kf := 2) tyX6 tyX6_ok nmX6 dX6_init_34 rfl hin_X6_init_X6 (by decide) lk_X6_init_10 rfl (fun _ => rfl) (fun _ => rfl) e16 ?_
  cases h
  exact j_vret (pc := 37) rfl dX6_init_37 (by decide) (by decide) rfl
theorem r_X6_init {a0 : Nat} {ws : LWd} {o : LWd} (h : m_X6_init a0 ws = some o) : ∃ fs, ws[a0]? = some (.inr (6, fs)) := rcv_in h
theorem lk_X0_init_0 : Cond.methodLink RX0 3 objectInit ∈ wsX0_init := List.mem_cons_of_mem _ (List.mem_append_left _ (List.mem_of_getElem? (i := 0) rfl))
theorem lk_X0_init_1 : Cond.instanceMethod objectInit ∈ wsX0_init := List.mem_cons_of_mem _ (List.mem_append_left _ (List.mem_of_getElem? (i := 1) rfl))
theorem lk_X0_init_2 : Cond.code objectInit ⟨#[0xb1]⟩ 1 none ∈ wsX0_init := List.mem_cons_of_mem _ (List.mem_append_left _ (List.mem_of_getElem? (i := 2) rfl))
theorem lk_X0_init_3 : Cond.fieldLink RX0 9 "Gaitwright$Damage" "count" "I" ∈ wsX0_init := List.mem_cons_of_mem _ (List.mem_append_left _ (List.mem_of_getElem? (i := 3) rfl))
theorem hin_X0_init_X0 : ∀ w ∈ u_ws RX0 TX0 4, w ∈ wsX0_init := fun w h => List.mem_cons_of_mem _ (List.mem_append_right _ h)
theorem lk_X0_init_4 : Cond.fieldLink RX0 15 "Gaitwright$Damage" "firstWhat" "I" ∈ wsX0_init := List.mem_cons_of_mem _ (List.mem_append_left _ (List.mem_of_getElem? (i := 4) rfl))
theorem lk_X0_init_5 : Cond.fieldLink RX0 18 "Gaitwright$Damage" "firstPoint" "I" ∈ wsX0_init := List.mem_cons_of_mem _ (List.mem_append_left _ (List.mem_of_getElem? (i := 5) rfl))
theorem lk_X0_init_6 : Cond.fieldLink RX0 21 "Gaitwright$Damage" "firstOfAct" "I" ∈ wsX0_init := List.mem_cons_of_mem _ (List.mem_append_left _ (List.mem_of_getElem? (i := 6) rfl))
def m_X0_init (a0 : Nat) (ws : LWd) : Option LWd :=
  (rcv ws a0 0).bind fun _ =>
  (pV ws a0 0 0 (.int 0)).bind fun w1 =>
  (pV w1 a0 0 1 (.int 0)).bind fun w3 =>
  (pV w3 a0 0 2 (.int ((-1)))).bind fun w5 =>
  (pV w5 a0 0 3 (.int 0)).bind fun w7 =>
  some w7
set_option maxRecDepth 100000 in
set_option maxHeartbeats 4000000 in
theorem s_X0_init {a0 : Nat} {ws : LWd} {ws' : LWd} (h : m_X0_init a0 ws = some ws') : jSp yX0_init wsX0_init 1 0 0 [.ref a0] ws (.inl none, ws') := by
  unfold m_X0_init at h
  refine j_entry (ret := none) (nm := "<init>") (own := RX0) pl_X0 rfl rfl rfl (jcats (by rfl)) (by decide) ?_
  show JG false cX0_init 1 RX0 wsX0_init none "<init>" 1 0 0 ws.length (.inl none, ws') 0 [some (.ref a0)] [] ws 0 0
  obtain ⟨_, _, h⟩ := obS h
  refine j_aload_n (pc := 0) dX0_init_0 rfl ?_
  refine j_objInit (pc := 1) dX0_init_1 lk_X0_init_0 lk_X0_init_1 lk_X0_init_2 (by decide) (by decide) ?_
  refine j_aload_n (pc := 4) dX0_init_4 rfl ?_
  refine j_iconst (pc := 5) dX0_init_5 (v := 0) (by decide) ?_
  obtain ⟨w1, e2, h⟩ := obS h
  refine j_putV (pc := 6) (ci := 0) (kf := 0) tyX0 tyX0_ok nmX0 dX0_init_6 rfl hin_X0_init_X0 (by decide) lk_X0_init_3 rfl (fun _ => rfl) (fun _ => rfl) e2 ?_
  refine j_aload_n (pc := 9) dX0_init_9 rfl ?_
  refine j_iconst (pc := 10) dX0_init_10 (v := 0) (by decide) ?_
  obtain ⟨w3, e4, h⟩ := obS h
  refine j_putV (pc := 11) (ci := 0) (kf := 1) tyX0 tyX0_ok nmX0 dX0_init_11 rfl hin_X0_init_X0 (by decide) lk_X0_init_4 rfl (fun _ => rfl) (fun _ => rfl) e4 ?_
  refine j_aload_n (pc := 14) dX0_init_14 rfl ?_
  refine j_iconst (pc := 15) dX0_init_15 (v := (-1)) (by decide) ?_
  obtain ⟨w5, e6, h⟩ := obS h
  refine j_putV (pc := 16) (ci := 0) (kf := 2) tyX0 tyX0_ok nmX0 dX0_init_16 rfl hin_X0_init_X0 (by decide) lk_X0_init_5 rfl (fun _ => rfl) (fun _ => rfl) e6 ?_
  refine j_aload_n (pc := 19) dX0_init_19 rfl ?_
  refine j_iconst (pc := 20) dX0_init_20 (v := 0) (by decide) ?_
  obtain ⟨w7, e8, h⟩ := obS h
  refine j_putV (pc := 21) (ci := 0) (kf := 3) tyX0 tyX0_ok nmX0 dX0_init_21 rfl hin_X0_init_X0 (by decide) lk_X0_init_6 rfl (fun _ => rfl) (fun _ => rfl) e8 ?_
  cases h
  exact j_vret (pc := 24) rfl dX0_init_24 (by decide) (by decide) rfl
theorem r_X0_init {a0 : Nat} {ws : LWd} {o : LWd} (h : m_X0_init a0 ws = some o) : ∃ fs, ws[a0]? = some (.inr (0, fs)) := rcv_in h
theorem lk_X1_init_0 : Cond.methodLink RX1 3 objectInit ∈ wsX1_init := List.mem_cons_of_mem _ (List.mem_append_left _ (List.mem_append_left _ (List.mem_of_getElem? (i := 0) rfl)))
theorem lk_X1_init_1 : Cond.instanceMethod objectInit ∈ wsX1_init := List.mem_cons_of_mem _ (List.mem_append_left _ (List.mem_append_left _ (List.mem_of_getElem? (i := 1) rfl)))
theorem lk_X1_init_2 : Cond.code objectInit ⟨#[0xb1]⟩ 1 none ∈ wsX1_init := List.mem_cons_of_mem _ (List.mem_append_left _ (List.mem_append_left _ (List.mem_of_getElem? (i := 2) rfl)))
theorem hin_X1_init_X8 : ∀ w ∈ u_ws RX8 TX8 1, w ∈ wsX1_init := fun w h => List.mem_cons_of_mem _ (List.mem_append_left _ (List.mem_append_right _ h))
theorem lk_X1_init_3 : Cond.classLink RX1 9 RX8 ∈ wsX1_init := List.mem_cons_of_mem _ (List.mem_append_left _ (List.mem_append_left _ (List.mem_of_getElem? (i := 3) rfl)))
theorem lk_X1_init_4 : Cond.instantiable RX8 1 ∈ wsX1_init := List.mem_cons_of_mem _ (List.mem_append_left _ (List.mem_append_left _ (List.mem_of_getElem? (i := 4) rfl)))
theorem lk_X1_init_5 : Cond.initialized RX8 ∈ wsX1_init := List.mem_cons_of_mem _ (List.mem_append_left _ (List.mem_append_left _ (List.mem_of_getElem? (i := 5) rfl)))
theorem lk_X1_init_6 : Cond.methodLink RX1 11 yX8_init ∈ wsX1_init := List.mem_cons_of_mem _ (List.mem_append_left _ (List.mem_append_left _ (List.mem_of_getElem? (i := 10) rfl)))
theorem lk_X1_init_7 : Cond.instanceMethod yX8_init ∈ wsX1_init := List.mem_cons_of_mem _ (List.mem_append_left _ (List.mem_append_left _ (List.mem_of_getElem? (i := 11) rfl)))
theorem lk_X1_init_8 : Cond.fieldLink RX1 14 "Gaitwright$Falls" "direction" "LGaitwright$Row;" ∈ wsX1_init := List.mem_cons_of_mem _ (List.mem_append_left _ (List.mem_append_left _ (List.mem_of_getElem? (i := 6) rfl)))
theorem hin_X1_init_X1 : ∀ w ∈ u_ws RX1 TX1 4, w ∈ wsX1_init := fun w h => List.mem_cons_of_mem _ (List.mem_append_right _ h)
theorem lk_X1_init_9 : Cond.fieldLink RX1 20 "Gaitwright$Falls" "what" "LGaitwright$Row;" ∈ wsX1_init := List.mem_cons_of_mem _ (List.mem_append_left _ (List.mem_append_left _ (List.mem_of_getElem? (i := 7) rfl)))
theorem lk_X1_init_10 : Cond.fieldLink RX1 23 "Gaitwright$Falls" "point" "LGaitwright$Row;" ∈ wsX1_init := List.mem_cons_of_mem _ (List.mem_append_left _ (List.mem_append_left _ (List.mem_of_getElem? (i := 8) rfl)))
theorem lk_X1_init_11 : Cond.fieldLink RX1 26 "Gaitwright$Falls" "count" "I" ∈ wsX1_init := List.mem_cons_of_mem _ (List.mem_append_left _ (List.mem_append_left _ (List.mem_of_getElem? (i := 9) rfl)))
def m_X1_init (a0 : Nat) (ws : LWd) : Option LWd :=
  (rcv ws a0 1).bind fun _ =>
  bn2 (nO ws [some (.ref a0)] [.ref a0] 8 [.null]) fun a1 w2 =>
  (calG w2 [some (.ref a0)] [.ref a1, .ref a0]V (m_X8_init a1 40 0 w2)).bind fun w4 =>
  (pV w4 a0 1 0 (.ref a1)).bind fun w6 =>
  bn2 (nO w6 [some (.ref a0)] [.ref a0] 8 [.null]) fun a8 w9 =>
  (calG w9 [some (.ref a0)] [.ref a8, .ref a0]V (m_X8_init a8 40 0 w9)).bind fun w11 =>
  (pV w11 a0 1 1 (.ref a8)).bind fun w13 =>
  bn2 (nO w13 [some (.ref a0)] [.ref a0] 8 [.null]) fun a15 w16 =>
  (calG w16 [some (.ref a0)] [.ref a15, .ref a0]V (m_X8_init a15 40 ((-1)) w16)).bind fun w18 =>
  (pV w18 a0 1 2 (.ref a15)).bind fun w20 =>
  (pV w20 a0 1 3 (.int 0)).bind fun w22 =>
  some w22
set_option maxRecDepth 100000 in
set_option maxHeartbeats 4000000 in
theorem s_X1_init {a0 : Nat} {ws : LWd} {ws' : LWd} (h : m_X1_init a0 ws = some ws') : jSp yX1_init wsX1_init 2 6 1203 [.ref a0] ws (.inl none, ws') := by
  unfold m_X1_init at h
  refine j_entry (ret := none) (nm := "<init>") (own := RX1) pl_X1 rfl rfl rfl (jcats (by rfl)) (by decide) ?_
  show JG false cX1_init 1 RX1 wsX1_init none "<init>" 2 6 1203 ws.length (.inl none, ws') 0 [some (.ref a0)] [] ws 0 0
  obtain ⟨_, _, h⟩ := obS h
  refine j_aload_n (pc := 0) dX1_init_0 rfl ?_
  refine j_objInit (pc := 1) dX1_init_1 lk_X1_init_0 lk_X1_init_1 lk_X1_init_2 (by decide) (by decide) ?_
  refine j_aload_n (pc := 4) dX1_init_4 rfl ?_
  obtain ⟨a1, w2, e3, h⟩ := obS2 h
  refine j_new (pc := 5) (ci := 8) (N := 1) (C := RX8) (T := TX8) tyX8 tyX8_ok dX1_init_5 rfl hin_X1_init_X8 lk_X1_init_3 lk_X1_init_4 lk_X1_init_5 (fun j hj => by rcases (show j = 0 by omega) with rfl <;> rfl) (fun _ => rfl) (by decide) (by decide) e3 ?_
  refine j_dup (pc := 8) dX1_init_8 rfl ?_
  refine j_bipush (pc := 9) dX1_init_9 (v := 40) (by decide) ?_
  refine j_iconst (pc := 11) dX1_init_11 (v := 0) (by decide) ?_
  obtain ⟨w4, e5, h⟩ := obS h
  have ge5 := calGV_of e5
  refine j_callI_g (pc := 12) (As := [.int 40, .int 0]) (k' := 2) (n' := 401) dX1_init_12 (s_X8_init ge5.1) gX1_init_X8_init lk_X1_init_5 lk_X1_init_6 lk_X1_init_7 rfl rfl hy_X8_init rfl (by decide) (by decide) (by decide) (by decide) (by decide) (by decide) (by decide) (Or.inr ge5.2) ?_
  obtain ⟨w6, e7, h⟩ := obS h
  refine j_putF (pc := 15) (ci := 1) (kf := 0) tyX1 tyX1_ok nmX1 dX1_init_15 rfl hin_X1_init_X1 (by decide) lk_X1_init_8 rfl rfl rfl (fun _ => rfl) (fun _ => rfl) e7 ?_
  refine j_aload_n (pc := 18) dX1_init_18 rfl ?_
  obtain ⟨a8, w9, e10, h⟩ := obS2 h
  refine j_new (pc := 19) (ci := 8) (N := 1) (C := RX8) (T := TX8) tyX8 tyX8_ok dX1_init_19 rfl hin_X1_init_X8 lk_X1_init_3 lk_X1_init_4 lk_X1_init_5 (fun j hj => by rcases (show j = 0 by omega) with rfl <;> rfl) (fun _ => rfl) (by decide) (by decide) e10 ?_
  refine j_dup (pc := 22) dX1_init_22 rfl ?_
  refine j_bipush (pc := 23) dX1_init_23 (v := 40) (by decide) ?_
  refine j_iconst (pc := 25) dX1_init_25 (v := 0) (by decide) ?_
  obtain ⟨w11, e12, h⟩ := obS h
  have ge12 := calGV_of e12
  refine j_callI_g (pc := 26) (As := [.int 40, .int 0]) (k' := 4) (n' := 802) dX1_init_26 (s_X8_init ge12.1) gX1_init_X8_init lk_X1_init_5 lk_X1_init_6 lk_X1_init_7 rfl rfl hy_X8_init rfl (by decide) (by decide) (by decide) (by decide) (by decide) (by decide) (by decide) (Or.inr ge12.2) ?_
  obtain ⟨w13, e14, h⟩ := obS h
  refine j_putF (pc := 29) (ci := 1) (kf := 1) tyX1 tyX1_ok nmX1 dX1_init_29 rfl hin_X1_init_X1 (by decide) lk_X1_init_9 rfl rfl rfl (fun _ => rfl) (fun _ => rfl) e14 ?_
  refine j_aload_n (pc := 32) dX1_init_32 rfl ?_
  obtain ⟨a15, w16, e17, h⟩ := obS2 h
  refine j_new (pc := 33) (ci := 8) (N := 1) (C := RX8) (T := TX8) tyX8 tyX8_ok dX1_init_33 rfl hin_X1_init_X8 lk_X1_init_3 lk_X1_init_4 lk_X1_init_5 (fun j hj => by rcases (show j = 0 by omega) with rfl <;> rfl) (fun _ => rfl) (by decide) (by decide) e17 ?_
  refine j_dup (pc := 36) dX1_init_36 rfl ?_
  refine j_bipush (pc := 37) dX1_init_37 (v := 40) (by decide) ?_
  refine j_iconst (pc := 39) dX1_init_39 (v := (-1)) (by decide) ?_
  obtain ⟨w18, e19, h⟩ := obS h
  have ge19 := calGV_of e19
  refine j_callI_g (pc := 40) (As := [.int 40, .int ((-1))]) (k' := 6) (n' := 1203) dX1_init_40 (s_X8_init ge19.1) gX1_init_X8_init lk_X1_init_5 lk_X1_init_6 lk_X1_init_7 rfl rfl hy_X8_init rfl (by decide) (by decide) (by decide) (by decide) (by decide) (by decide) (by decide) (Or.inr ge19.2) ?_
  obtain ⟨w20, e21, h⟩ := obS h
  refine j_putF (pc := 43) (ci := 1) (kf := 2) tyX1 tyX1_ok nmX1 dX1_init_43 rfl hin_X1_init_X1 (by decide) lk_X1_init_10 rfl rfl rfl (fun _ => rfl) (fun _ => rfl) e21 ?_
  refine j_aload_n (pc := 46) dX1_init_46 rfl ?_
  refine j_iconst (pc := 47) dX1_init_47 (v := 0) (by decide) ?_
  obtain ⟨w22, e23, h⟩ := obS h
  refine j_putV (pc := 48) (ci := 1) (kf := 3) tyX1 tyX1_ok nmX1 dX1_init_48 rfl hin_X1_init_X1 (by decide) lk_X1_init_11 rfl (fun _ => rfl) (fun _ => rfl) e23 ?_
  cases h
  exact j_vret (pc := 51) rfl dX1_init_51 (by decide) (by decide) rfl
theorem r_X1_init {a0 : Nat} {ws : LWd} {o : LWd} (h : m_X1_init a0 ws = some o) : ∃ fs, ws[a0]? = some (.inr (1, fs)) := rcv_in h
theorem lk_X3_init_0 : Cond.methodLink RX3 3 objectInit ∈ wsX3_init := List.mem_cons_of_mem _ (List.mem_append_left _ (List.mem_append_left _ (List.mem_of_getElem? (i := 0) rfl)))
theorem lk_X3_init_1 : Cond.instanceMethod objectInit ∈ wsX3_init := List.mem_cons_of_mem _ (List.mem_append_left _ (List.mem_append_left _ (List.mem_of_getElem? (i := 1) rfl)))
theorem lk_X3_init_2 : Cond.code objectInit ⟨#[0xb1]⟩ 1 none ∈ wsX3_init := List.mem_cons_of_mem _ (List.mem_append_left _ (List.mem_append_left _ (List.mem_of_getElem? (i := 2) rfl)))
theorem hin_X3_init_X8 : ∀ w ∈ u_ws RX8 TX8 1, w ∈ wsX3_init := fun w h => List.mem_cons_of_mem _ (List.mem_append_left _ (List.mem_append_right _ h))
theorem lk_X3_init_3 : Cond.classLink RX3 9 RX8 ∈ wsX3_init := List.mem_cons_of_mem _ (List.mem_append_left _ (List.mem_append_left _ (List.mem_of_getElem? (i := 3) rfl)))
theorem lk_X3_init_4 : Cond.instantiable RX8 1 ∈ wsX3_init := List.mem_cons_of_mem _ (List.mem_append_left _ (List.mem_append_left _ (List.mem_of_getElem? (i := 4) rfl)))
theorem lk_X3_init_5 : Cond.initialized RX8 ∈ wsX3_init := List.mem_cons_of_mem _ (List.mem_append_left _ (List.mem_append_left _ (List.mem_of_getElem? (i := 5) rfl)))
theorem lk_X3_init_6 : Cond.methodLink RX3 11 yX8_init ∈ wsX3_init := List.mem_cons_of_mem _ (List.mem_append_left _ (List.mem_append_left _ (List.mem_of_getElem? (i := 13) rfl)))
theorem lk_X3_init_7 : Cond.instanceMethod yX8_init ∈ wsX3_init := List.mem_cons_of_mem _ (List.mem_append_left _ (List.mem_append_left _ (List.mem_of_getElem? (i := 14) rfl)))
theorem lk_X3_init_8 : Cond.fieldLink RX3 14 "Gaitwright$Gait" "leg" "LGaitwright$Row;" ∈ wsX3_init := List.mem_cons_of_mem _ (List.mem_append_left _ (List.mem_append_left _ (List.mem_of_getElem? (i := 6) rfl)))
theorem hin_X3_init_X3 : ∀ w ∈ u_ws RX3 TX3 7, w ∈ wsX3_init := fun w h => List.mem_cons_of_mem _ (List.mem_append_right _ h)
theorem lk_X3_init_9 : Cond.fieldLink RX3 20 "Gaitwright$Gait" "footX" "LGaitwright$Row;" ∈ wsX3_init := List.mem_cons_of_mem _ (List.mem_append_left _ (List.mem_append_left _ (List.mem_of_getElem? (i := 7) rfl)))
theorem lk_X3_init_10 : Cond.fieldLink RX3 23 "Gaitwright$Gait" "footY" "LGaitwright$Row;" ∈ wsX3_init := List.mem_cons_of_mem _ (List.mem_append_left _ (List.mem_append_left _ (List.mem_of_getElem? (i := 8) rfl)))
theorem lk_X3_init_11 : Cond.fieldLink RX3 26 "Gaitwright$Gait" "bodyX" "LGaitwright$Row;" ∈ wsX3_init := List.mem_cons_of_mem _ (List.mem_append_left _ (List.mem_append_left _ (List.mem_of_getElem? (i := 9) rfl)))
theorem lk_X3_init_12 : Cond.fieldLink RX3 29 "Gaitwright$Gait" "bodyY" "LGaitwright$Row;" ∈ wsX3_init := List.mem_cons_of_mem _ (List.mem_append_left _ (List.mem_append_left _ (List.mem_of_getElem? (i := 10) rfl)))
theorem lk_X3_init_13 : Cond.fieldLink RX3 32 "Gaitwright$Gait" "count" "I" ∈ wsX3_init := List.mem_cons_of_mem _ (List.mem_append_left _ (List.mem_append_left _ (List.mem_of_getElem? (i := 11) rfl)))
theorem lk_X3_init_14 : Cond.fieldLink RX3 36 "Gaitwright$Gait" "next" "I" ∈ wsX3_init := List.mem_cons_of_mem _ (List.mem_append_left _ (List.mem_append_left _ (List.mem_of_getElem? (i := 12) rfl)))
def m_X3_init (a0 : Nat) (ws : LWd) : Option LWd :=
  (rcv ws a0 3).bind fun _ =>
  bn2 (nO ws [some (.ref a0)] [.ref a0] 8 [.null]) fun a1 w2 =>
  (calG w2 [some (.ref a0)] [.ref a1, .ref a0]V (m_X8_init a1 8 0 w2)).bind fun w4 =>
  (pV w4 a0 3 0 (.ref a1)).bind fun w6 =>
  bn2 (nO w6 [some (.ref a0)] [.ref a0] 8 [.null]) fun a8 w9 =>
  (calG w9 [some (.ref a0)] [.ref a8, .ref a0]V (m_X8_init a8 8 0 w9)).bind fun w11 =>
  (pV w11 a0 3 1 (.ref a8)).bind fun w13 =>
  bn2 (nO w13 [some (.ref a0)] [.ref a0] 8 [.null]) fun a15 w16 =>
  (calG w16 [some (.ref a0)] [.ref a15, .ref a0]V (m_X8_init a15 8 0 w16)).bind fun w18 =>
  (pV w18 a0 3 2 (.ref a15)).bind fun w20 =>
  bn2 (nO w20 [some (.ref a0)] [.ref a0] 8 [.null]) fun a22 w23 =>
  (calG w23 [some (.ref a0)] [.ref a22, .ref a0]V (m_X8_init a22 8 0 w23)).bind fun w25 =>
  (pV w25 a0 3 3 (.ref a22)).bind fun w27 =>
  bn2 (nO w27 [some (.ref a0)] [.ref a0] 8 [.null]) fun a29 w30 =>
  (calG w30 [some (.ref a0)] [.ref a29, .ref a0]V (m_X8_init a29 8 0 w30)).bind fun w32 =>
  (pV w32 a0 3 4 (.ref a29)).bind fun w34 =>
  (pV w34 a0 3 5 (.int 0)).bind fun w36 =>
  (pV w36 a0 3 6 (.int 0)).bind fun w38 =>
  some w38
set_option maxRecDepth 100000 in
set_option maxHeartbeats 4000000 in
theorem s_X3_init {a0 : Nat} {ws : LWd} {ws' : LWd} (h : m_X3_init a0 ws = some ws') : jSp yX3_init wsX3_init 2 10 2005 [.ref a0] ws (.inl none, ws') := by
  unfold m_X3_init at h
  refine j_entry (ret := none) (nm := "<init>") (own := RX3) pl_X3 rfl rfl rfl (jcats (by rfl)) (by decide) ?_
  show JG false cX3_init 1 RX3 wsX3_init none "<init>" 2 10 2005 ws.length (.inl none, ws') 0 [some (.ref a0)] [] ws 0 0
  obtain ⟨_, _, h⟩ := obS h
  refine j_aload_n (pc := 0) dX3_init_0 rfl ?_
  refine j_objInit (pc := 1) dX3_init_1 lk_X3_init_0 lk_X3_init_1 lk_X3_init_2 (by decide) (by decide) ?_
  refine j_aload_n (pc := 4) dX3_init_4 rfl ?_
  obtain ⟨a1, w2, e3, h⟩ := obS2 h
  refine j_new (pc := 5) (ci := 8) (N := 1) (C := RX8) (T := TX8) tyX8 tyX8_ok dX3_init_5 rfl hin_X3_init_X8 lk_X3_init_3 lk_X3_init_4 lk_X3_init_5 (fun j hj => by rcases (show j = 0 by omega) with rfl <;> rfl) (fun _ => rfl) (by decide) (by decide) e3 ?_
  refine j_dup (pc := 8) dX3_init_8 rfl ?_
  refine j_bipush (pc := 9) dX3_init_9 (v := 8) (by decide) ?_
  refine j_iconst (pc := 11) dX3_init_11 (v := 0) (by decide) ?_
  obtain ⟨w4, e5, h⟩ := obS h
  have ge5 := calGV_of e5
  refine j_callI_g (pc := 12) (As := [.int 8, .int 0]) (k' := 2) (n' := 401) dX3_init_12 (s_X8_init ge5.1) gX3_init_X8_init lk_X3_init_5 lk_X3_init_6 lk_X3_init_7 rfl rfl hy_X8_init rfl (by decide) (by decide) (by decide) (by decide) (by decide) (by decide) (by decide) (Or.inr ge5.2) ?_
  obtain ⟨w6, e7, h⟩ := obS h
  refine j_putF (pc := 15) (ci := 3) (kf := 0) tyX3 tyX3_ok nmX3 dX3_init_15 rfl hin_X3_init_X3 (by decide) lk_X3_init_8 rfl rfl rfl (fun _ => rfl) (fun _ => rfl) e7 ?_
  refine j_aload_n (pc := 18) dX3_init_18 rfl ?_
  obtain ⟨a8, w9, e10, h⟩ := obS2 h
  refine j_new (pc := 19) (ci := 8) (N := 1) (C := RX8) (T := TX8) tyX8 tyX8_ok dX3_init_19 rfl hin_X3_init_X8 lk_X3_init_3 lk_X3_init_4 lk_X3_init_5 (fun j hj => by rcases (show j = 0 by omega) with rfl <;> rfl) (fun _ => rfl) (by decide) (by decide) e10 ?_
  refine j_dup (pc := 22) dX3_init_22 rfl ?_
  refine j_bipush (pc := 23) dX3_init_23 (v := 8) (by decide) ?_
  refine j_iconst (pc := 25) dX3_init_25 (v := 0) (by decide) ?_
  obtain ⟨w11, e12, h⟩ := obS h
  have ge12 := calGV_of e12
  refine j_callI_g (pc := 26) (As := [.int 8, .int 0]) (k' := 4) (n' := 802) dX3_init_26 (s_X8_init ge12.1) gX3_init_X8_init lk_X3_init_5 lk_X3_init_6 lk_X3_init_7 rfl rfl hy_X8_init rfl (by decide) (by decide) (by decide) (by decide) (by decide) (by decide) (by decide) (Or.inr ge12.2) ?_
  obtain ⟨w13, e14, h⟩ := obS h
  refine j_putF (pc := 29) (ci := 3) (kf := 1) tyX3 tyX3_ok nmX3 dX3_init_29 rfl hin_X3_init_X3 (by decide) lk_X3_init_9 rfl rfl rfl (fun _ => rfl) (fun _ => rfl) e14 ?_
  refine j_aload_n (pc := 32) dX3_init_32 rfl ?_
  obtain ⟨a15, w16, e17, h⟩ := obS2 h
  refine j_new (pc := 33) (ci := 8) (N := 1) (C := RX8) (T := TX8) tyX8 tyX8_ok dX3_init_33 rfl hin_X3_init_X8 lk_X3_init_3 lk_X3_init_4 lk_X3_init_5 (fun j hj => by rcases (show j = 0 by omega) with rfl <;> rfl) (fun _ => rfl) (by decide) (by decide) e17 ?_
  refine j_dup (pc := 36) dX3_init_36 rfl ?_
  refine j_bipush (pc := 37) dX3_init_37 (v := 8) (by decide) ?_
  refine j_iconst (pc := 39) dX3_init_39 (v := 0) (by decide) ?_
  obtain ⟨w18, e19, h⟩ := obS h
  have ge19 := calGV_of e19
  refine j_callI_g (pc := 40) (As := [.int 8, .int 0]) (k' := 6) (n' := 1203) dX3_init_40 (s_X8_init ge19.1) gX3_init_X8_init lk_X3_init_5 lk_X3_init_6 lk_X3_init_7 rfl rfl hy_X8_init rfl (by decide) (by decide) (by decide) (by decide) (by decide) (by decide) (by decide) (Or.inr ge19.2) ?_
  obtain ⟨w20, e21, h⟩ := obS h
  refine j_putF (pc := 43) (ci := 3) (kf := 2) tyX3 tyX3_ok nmX3 dX3_init_43 rfl hin_X3_init_X3 (by decide) lk_X3_init_10 rfl rfl rfl (fun _ => rfl) (fun _ => rfl) e21 ?_
  refine j_aload_n (pc := 46) dX3_init_46 rfl ?_
  obtain ⟨a22, w23, e24, h⟩ := obS2 h
  refine j_new (pc := 47) (ci := 8) (N := 1) (C := RX8) (T := TX8) tyX8 tyX8_ok dX3_init_47 rfl hin_X3_init_X8 lk_X3_init_3 lk_X3_init_4 lk_X3_init_5 (fun j hj => by rcases (show j = 0 by omega) with rfl <;> rfl) (fun _ => rfl) (by decide) (by decide) e24 ?_
  refine j_dup (pc := 50) dX3_init_50 rfl ?_
  refine j_bipush (pc := 51) dX3_init_51 (v := 8) (by decide) ?_
  refine j_iconst (pc := 53) dX3_init_53 (v := 0) (by decide) ?_
  obtain ⟨w25, e26, h⟩ := obS h
  have ge26 := calGV_of e26
  refine j_callI_g (pc := 54) (As := [.int 8, .int 0]) (k' := 8) (n' := 1604) dX3_init_54 (s_X8_init ge26.1) gX3_init_X8_init lk_X3_init_5 lk_X3_init_6 lk_X3_init_7 rfl rfl hy_X8_init rfl (by decide) (by decide) (by decide) (by decide) (by decide) (by decide) (by decide) (Or.inr ge26.2) ?_
  obtain ⟨w27, e28, h⟩ := obS h
  refine j_putF (pc := 57) (ci := 3) (kf := 3) tyX3 tyX3_ok nmX3 dX3_init_57 rfl hin_X3_init_X3 (by decide) lk_X3_init_11 rfl rfl rfl (fun _ => rfl) (fun _ => rfl) e28 ?_
  refine j_aload_n (pc := 60) dX3_init_60 rfl ?_
  obtain ⟨a29, w30, e31, h⟩ := obS2 h
  refine j_new (pc := 61) (ci := 8) (N := 1) (C := RX8) (T := TX8) tyX8 tyX8_ok dX3_init_61 rfl hin_X3_init_X8 lk_X3_init_3 lk_X3_init_4 lk_X3_init_5 (fun j hj => by rcases (show j = 0 by omega) with rfl <;> rfl) (fun _ => rfl) (by decide) (by decide) e31 ?_
  refine j_dup (pc := 64) dX3_init_64 rfl ?_
  refine j_bipush (pc := 65) dX3_init_65 (v := 8) (by decide) ?_
  refine j_iconst (pc := 67) dX3_init_67 (v := 0) (by decide) ?_
  obtain ⟨w32, e33, h⟩ := obS h
  have ge33 := calGV_of e33
  refine j_callI_g (pc := 68) (As := [.int 8, .int 0]) (k' := 10) (n' := 2005) dX3_init_68 (s_X8_init ge33.1) gX3_init_X8_init lk_X3_init_5 lk_X3_init_6 lk_X3_init_7 rfl rfl hy_X8_init rfl (by decide) (by decide) (by decide) (by decide) (by decide) (by decide) (by decide) (Or.inr ge33.2) ?_
  obtain ⟨w34, e35, h⟩ := obS h
  refine j_putF (pc := 71) (ci := 3) (kf := 4) tyX3 tyX3_ok nmX3 dX3_init_71 rfl hin_X3_init_X3 (by decide) lk_X3_init_12 rfl rfl rfl (fun _ => rfl) (fun _ => rfl) e35 ?_
  refine j_aload_n (pc := 74) dX3_init_74 rfl ?_
  refine j_iconst (pc := 75) dX3_init_75 (v := 0) (by decide) ?_
  obtain ⟨w36, e37, h⟩ := obS h
  refine j_putV (pc := 76) (ci := 3) (kf := 5) tyX3 tyX3_ok nmX3 dX3_init_76 rfl hin_X3_init_X3 (by decide) lk_X3_init_13 rfl (fun _ => rfl) (fun _ => rfl) e37 ?_
  refine j_aload_n (pc := 79) dX3_init_79 rfl ?_
  refine j_iconst (pc := 80) dX3_init_80 (v := 0) (by decide) ?_
  obtain ⟨w38, e39, h⟩ := obS h
  refine j_putV (pc := 81) (ci := 3) (kf := 6) tyX3 tyX3_ok nmX3 dX3_init_81 rfl hin_X3_init_X3 (by decide) lk_X3_init_14 rfl (fun _ => rfl) (fun _ => rfl) e39 ?_
  cases h
  exact j_vret (pc := 84) rfl dX3_init_84 (by decide) (by decide) rfl
theorem r_X3_init {a0 : Nat} {ws : LWd} {o : LWd} (h : m_X3_init a0 ws = some o) : ∃ fs, ws[a0]? = some (.inr (3, fs)) := rcv_in h
theorem hin_X7_init_X7 : ∀ w ∈ u_ws RX7 TX7 3, w ∈ wsX7_init := fun w h => List.mem_cons_of_mem _ (List.mem_append_left _ (List.mem_append_left _ (List.mem_append_right _ h)))
theorem lk_X7_init_0 : Cond.fieldLink RX7 11 "Gaitwright$Planner" "behind" "[LGaitwright$Stance;" ∈ wsX7_init := List.mem_cons_of_mem _ (List.mem_append_left _ (List.mem_append_left _ (List.mem_append_left _ (List.mem_append_left _ (List.mem_of_getElem? (i := 4) rfl)))))
theorem hin_X7_init_X9 : ∀ w ∈ u_ws RX9 TX9 6, w ∈ wsX7_init := fun w h => List.mem_cons_of_mem _ (List.mem_append_left _ (List.mem_append_right _ h))
theorem lk_X7_init_1 : Cond.classLink RX7 9 RX9 ∈ wsX7_init := List.mem_cons_of_mem _ (List.mem_append_left _ (List.mem_append_left _ (List.mem_append_left _ (List.mem_append_left _ (List.mem_of_getElem? (i := 3) rfl)))))
theorem lk_X7_init_2 : Cond.instantiable RX9 6 ∈ wsX7_init := List.mem_cons_of_mem _ (List.mem_append_left _ (List.mem_append_left _ (List.mem_append_left _ (List.mem_append_left _ (List.mem_of_getElem? (i := 7) rfl)))))
theorem lk_X7_init_3 : Cond.initialized RX9 ∈ wsX7_init := List.mem_cons_of_mem _ (List.mem_append_left _ (List.mem_append_left _ (List.mem_append_left _ (List.mem_append_left _ (List.mem_of_getElem? (i := 8) rfl)))))
theorem lk_X7_init_4 : Cond.methodLink RX7 25 yX9_init ∈ wsX7_init := List.mem_cons_of_mem _ (List.mem_append_left _ (List.mem_append_left _ (List.mem_append_left _ (List.mem_append_left _ (List.mem_of_getElem? (i := 9) rfl)))))
theorem lk_X7_init_5 : Cond.instanceMethod yX9_init ∈ wsX7_init := List.mem_cons_of_mem _ (List.mem_append_left _ (List.mem_append_left _ (List.mem_append_left _ (List.mem_append_left _ (List.mem_of_getElem? (i := 10) rfl)))))
theorem lk_X7_init_6 : Cond.methodLink RX7 3 objectInit ∈ wsX7_init := List.mem_cons_of_mem _ (List.mem_append_left _ (List.mem_append_left _ (List.mem_append_left _ (List.mem_append_left _ (List.mem_of_getElem? (i := 0) rfl)))))
theorem lk_X7_init_7 : Cond.instanceMethod objectInit ∈ wsX7_init := List.mem_cons_of_mem _ (List.mem_append_left _ (List.mem_append_left _ (List.mem_append_left _ (List.mem_append_left _ (List.mem_of_getElem? (i := 1) rfl)))))
theorem lk_X7_init_8 : Cond.code objectInit ⟨#[0xb1]⟩ 1 none ∈ wsX7_init := List.mem_cons_of_mem _ (List.mem_append_left _ (List.mem_append_left _ (List.mem_append_left _ (List.mem_append_left _ (List.mem_of_getElem? (i := 2) rfl)))))
theorem lk_X7_init_9 : Cond.fieldLink RX7 17 "Gaitwright$Planner" "goal" "I" ∈ wsX7_init := List.mem_cons_of_mem _ (List.mem_append_left _ (List.mem_append_left _ (List.mem_append_left _ (List.mem_append_left _ (List.mem_of_getElem? (i := 5) rfl)))))
theorem lk_X7_init_10 : Cond.fieldLink RX7 21 "Gaitwright$Planner" "frame" "LGaitwright$Frame;" ∈ wsX7_init := List.mem_cons_of_mem _ (List.mem_append_left _ (List.mem_append_left _ (List.mem_append_left _ (List.mem_append_left _ (List.mem_of_getElem? (i := 6) rfl)))))
def m_X7_init_l25 : Nat → Nat → Nat → Nat → Nat → Int32 → LWd → Option LWd
  | 0, _, _, _, _, _, _ => none
  | fu + 1, a0, a1, a2, a3, i4, ws =>
    (fR ws a0 7 1).bind fun x1 =>
    (aL ws x1).bind fun x3 =>
    if x3 ≤ i4 then
      some ws
    else
      (fR ws a0 7 1).bind fun x6 =>
      bn2 (nO ws [some (.ref a0), some (.ref a1), some (.ref a2), some (.ref a3), some (.int i4)] [.int i4, .ref x6] 9 [.null, .null, .null, .null, .int 0, .int 0]) fun a8 w9 =>
      (calG w9 [some (.ref a0), some (.ref a1), some (.ref a2), some (.ref a3), some (.int i4)] [.ref a8, .int i4, .ref x6]V (m_X9_init a8 a1 a2 a3 w9)).bind fun w11 =>
      (sR w11 x6 i4 a8).bind fun w13 =>
      m_X7_init_l25 fu a0 a1 a2 a3 (i4 + 1) w13
set_option maxRecDepth 100000 in
set_option maxHeartbeats 4000000 in
theorem jm_X7_init_l25 {n0 : Nat} {ws' : LWd} : ∀ (fu : Nat) (a0 : Nat) (a1 : Nat) (a2 : Nat) (a3 : Nat) (i4 : Int32) (ws : LWd) (kk nn : Nat) (hkk : kk + 3 * fu ≤ 16) (hnn : nn + 407 * fu ≤ 2043), m_X7_init_l25 fu a0 a1 a2 a3 i4 ws = some ws' → JG false cX7_init 5 RX7 wsX7_init none "<init>" 3 16 2043 n0 (.inl none, ws') 25 [some (.ref a0), some (.ref a1), some (.ref a2), some (.ref a3), some (.int i4)] [] ws kk nn := by
  intro fu
  induction fu with
  | zero => intro a0 a1 a2 a3 i4 ws kk nn hkk hnn h; cases h
  | succ fu ih =>
    intro a0 a1 a2 a3 i4 ws kk nn hkk hnn h
    rw [m_X7_init_l25] at h
    refine j_iload (pc := 25) dX7_init_25 rfl ?_
    refine j_aload_n (pc := 27) dX7_init_27 rfl ?_
    obtain ⟨x1, e2, h⟩ := obS h
    refine j_getR (pc := 28) dX7_init_28 (ci := 7) (kf := 1) rfl hin_X7_init_X7 (by decide) lk_X7_init_0 e2 ?_
    obtain ⟨x3, e4, h⟩ := obS h
    refine j_alen (pc := 31) dX7_init_31 e4 ?_
    refine j_icmp_ge (pc := 32) (tgt := 58) dX7_init_32 (by decide) (fun c5 => ?_) (fun c5 => ?_)
    · rw [if_pos c5] at h
      cases h
      exact j_vret (pc := 58) rfl dX7_init_58 (by omega) (by omega) rfl
    · rw [if_neg c5] at h
      refine j_aload_n (pc := 35) dX7_init_35 rfl ?_
      obtain ⟨x6, e7, h⟩ := obS h
      refine j_getR (pc := 36) dX7_init_36 (ci := 7) (kf := 1) rfl hin_X7_init_X7 (by decide) lk_X7_init_0 e7 ?_
      refine j_iload (pc := 39) dX7_init_39 rfl ?_
      obtain ⟨a8, w9, e10, h⟩ := obS2 h
      refine j_new (pc := 41) (ci := 9) (N := 6) (C := RX9) (T := TX9) tyX9 tyX9_ok dX7_init_41 rfl hin_X7_init_X9 lk_X7_init_1 lk_X7_init_2 lk_X7_init_3 (fun j hj => by rcases (show j = 0 ∨ j = 1 ∨ j = 2 ∨ j = 3 ∨ j = 4 ∨ j = 5 by omega) with rfl | rfl | rfl | rfl | rfl | rfl <;> rfl) (fun _ => rfl) (by omega) (by omega) e10 ?_
      refine j_dup (pc := 44) dX7_init_44 rfl ?_
      refine j_aload_n (pc := 45) dX7_init_45 rfl ?_
      refine j_aload_n (pc := 46) dX7_init_46 rfl ?_
      refine j_aload_n (pc := 47) dX7_init_47 rfl ?_
      obtain ⟨w11, e12, h⟩ := obS h
      have ge12 := calGV_of e12
      refine j_callI_g (pc := 48) (As := [.ref a1, .ref a2, .ref a3]) (k' := _ + 2) (n' := _ + 401) dX7_init_48 (s_X9_init ge12.1) gX7_init_X9_init lk_X7_init_3 lk_X7_init_4 lk_X7_init_5 rfl rfl hy_X9_init rfl (by decide) (by decide) (by decide) (Nat.le_refl _) (Nat.le_refl _) (by omega) (by omega) (Or.inr ge12.2) ?_
      obtain ⟨w13, e14, h⟩ := obS h
      refine j_aast (pc := 51) dX7_init_51 e14 ?_
      refine j_iinc_4 (pc := 52) dX7_init_52 (y := i4 + 1) rfl (by decide) rfl ?_
      refine j_goto (pc := 55) (tgt := 25) dX7_init_55 (by decide) ?_
      exact ih _ _ _ _ _ w13 _ _ (by omega) (by omega) h
def m_X7_init (a0 : Nat) (a1 : Nat) (a2 : Nat) (a3 : Nat) (ws : LWd) : Option LWd :=
  (rcv ws a0 7).bind fun _ =>
  bn2 (nQ ws [some (.ref a0), some (.ref a1), some (.ref a2), some (.ref a3), none] [.ref a0] 8 4) fun a1 w2 =>
  (pV w2 a0 7 1 (.ref a1)).bind fun w4 =>
  (pV w4 a0 7 2 (.int ((-1)))).bind fun w6 =>
  (pV w6 a0 7 0 (.ref a2)).bind fun w8 =>
  m_X7_init_l25 5 a0 a1 a2 a3 0 w8
set_option maxRecDepth 100000 in
set_option maxHeartbeats 4000000 in
theorem s_X7_init {a0 : Nat} {a1 : Nat} {a2 : Nat} {a3 : Nat} {ws : LWd} {ws' : LWd} (h : m_X7_init a0 a1 a2 a3 ws = some ws') : jSp yX7_init wsX7_init 3 16 2043 [.ref a0, .ref a1, .ref a2, .ref a3] ws (.inl none, ws') := by
  unfold m_X7_init at h
  refine j_entry (ret := none) (nm := "<init>") (own := RX7) pl_X7 rfl rfl rfl (jcats (by rfl)) (by decide) ?_
  show JG false cX7_init 5 RX7 wsX7_init none "<init>" 3 16 2043 ws.length (.inl none, ws') 0 [some (.ref a0), some (.ref a1), some (.ref a2), some (.ref a3), none] [] ws 0 0
  obtain ⟨_, _, h⟩ := obS h
  refine j_aload_n (pc := 0) dX7_init_0 rfl ?_
  refine j_objInit (pc := 1) dX7_init_1 lk_X7_init_6 lk_X7_init_7 lk_X7_init_8 (by decide) (by decide) ?_
  refine j_aload_n (pc := 4) dX7_init_4 rfl ?_
  refine j_iconst (pc := 5) dX7_init_5 (v := 4) (by decide) ?_
  obtain ⟨a1, w2, e3, h⟩ := obS2 h
  refine j_newQ (pc := 6) (B := 8) lk_X7_init_1 dX7_init_6 (by decide) (by decide) (by decide) e3 ?_
  obtain ⟨w4, e5, h⟩ := obS h
  refine j_putF (pc := 9) (ci := 7) (kf := 1) tyX7 tyX7_ok nmX7 dX7_init_9 rfl hin_X7_init_X7 (by decide) lk_X7_init_0 rfl rfl rfl (fun _ => rfl) (fun _ => rfl) e5 ?_
  refine j_aload_n (pc := 12) dX7_init_12 rfl ?_
  refine j_iconst (pc := 13) dX7_init_13 (v := (-1)) (by decide) ?_
  obtain ⟨w6, e7, h⟩ := obS h
  refine j_putV (pc := 14) (ci := 7) (kf := 2) tyX7 tyX7_ok nmX7 dX7_init_14 rfl hin_X7_init_X7 (by decide) lk_X7_init_9 rfl (fun _ => rfl) (fun _ => rfl) e7 ?_
  refine j_aload_n (pc := 17) dX7_init_17 rfl ?_
  refine j_aload_n (pc := 18) dX7_init_18 rfl ?_
  obtain ⟨w8, e9, h⟩ := obS h
  refine j_putF (pc := 19) (ci := 7) (kf := 0) tyX7 tyX7_ok nmX7 dX7_init_19 rfl hin_X7_init_X7 (by decide) lk_X7_init_10 rfl rfl rfl (fun _ => rfl) (fun _ => rfl) e9 ?_
  refine j_iconst (pc := 22) dX7_init_22 (v := 0) (by decide) ?_
  refine j_istore_4 (pc := 23) dX7_init_23 (by decide) rfl ?_
  exact jm_X7_init_l25 5  _ _ _ _ _ w8 _ _ (by decide) (by decide) h
theorem r_X7_init {a0 : Nat} {a1 : Nat} {a2 : Nat} {a3 : Nat} {ws : LWd} {o : LWd} (h : m_X7_init a0 a1 a2 a3 ws = some o) : ∃ fs, ws[a0]? = some (.inr (7, fs)) := rcv_in h
theorem lk_X10_init_0 : Cond.methodLink RX10 3 objectInit ∈ wsX10_init := List.mem_cons_of_mem _ (List.mem_append_left _ (List.mem_append_left _ (List.mem_append_left _ (List.mem_append_left _ (List.mem_append_left _ (List.mem_append_left _ (List.mem_append_left _ (List.mem_append_left _ (List.mem_append_left _ (List.mem_append_left _ (List.mem_append_left _ (List.mem_append_left _ (List.mem_of_getElem? (i := 0) rfl)))))))))))))
theorem lk_X10_init_1 : Cond.instanceMethod objectInit ∈ wsX10_init := List.mem_cons_of_mem _ (List.mem_append_left _ (List.mem_append_left _ (List.mem_append_left _ (List.mem_append_left _ (List.mem_append_left _ (List.mem_append_left _ (List.mem_append_left _ (List.mem_append_left _ (List.mem_append_left _ (List.mem_append_left _ (List.mem_append_left _ (List.mem_append_left _ (List.mem_of_getElem? (i := 1) rfl)))))))))))))
theorem lk_X10_init_2 : Cond.code objectInit ⟨#[0xb1]⟩ 1 none ∈ wsX10_init := List.mem_cons_of_mem _ (List.mem_append_left _ (List.mem_append_left _ (List.mem_append_left _ (List.mem_append_left _ (List.mem_append_left _ (List.mem_append_left _ (List.mem_append_left _ (List.mem_append_left _ (List.mem_append_left _ (List.mem_append_left _ (List.mem_append_left _ (List.mem_append_left _ (List.mem_of_getElem? (i := 2) rfl)))))))))))))
theorem hin_X10_init_X4 : ∀ w ∈ u_ws RX4 TX4 3, w ∈ wsX10_init := fun w h => List.mem_cons_of_mem _ (List.mem_append_left _ (List.mem_append_left _ (List.mem_append_left _ (List.mem_append_left _ (List.mem_append_left _ (List.mem_append_left _ (List.mem_append_left _ (List.mem_append_left _ (List.mem_append_left _ (List.mem_append_left _ (List.mem_append_right _ h)))))))))))
theorem lk_X10_init_3 : Cond.classLink RX10 9 RX4 ∈ wsX10_init := List.mem_cons_of_mem _ (List.mem_append_left _ (List.mem_append_left _ (List.mem_append_left _ (List.mem_append_left _ (List.mem_append_left _ (List.mem_append_left _ (List.mem_append_left _ (List.mem_append_left _ (List.mem_append_left _ (List.mem_append_left _ (List.mem_append_left _ (List.mem_append_left _ (List.mem_of_getElem? (i := 3) rfl)))))))))))))
theorem lk_X10_init_4 : Cond.instantiable RX4 3 ∈ wsX10_init := List.mem_cons_of_mem _ (List.mem_append_left _ (List.mem_append_left _ (List.mem_append_left _ (List.mem_append_left _ (List.mem_append_left _ (List.mem_append_left _ (List.mem_append_left _ (List.mem_append_left _ (List.mem_append_left _ (List.mem_append_left _ (List.mem_append_left _ (List.mem_append_left _ (List.mem_of_getElem? (i := 4) rfl)))))))))))))
theorem lk_X10_init_5 : Cond.initialized RX4 ∈ wsX10_init := List.mem_cons_of_mem _ (List.mem_append_left _ (List.mem_append_left _ (List.mem_append_left _ (List.mem_append_left _ (List.mem_append_left _ (List.mem_append_left _ (List.mem_append_left _ (List.mem_append_left _ (List.mem_append_left _ (List.mem_append_left _ (List.mem_append_left _ (List.mem_append_left _ (List.mem_of_getElem? (i := 5) rfl)))))))))))))
theorem lk_X10_init_6 : Cond.instanceMethod yX4_init ∈ wsX10_init := List.mem_cons_of_mem _ (List.mem_append_left _ (List.mem_append_left _ (List.mem_append_left _ (List.mem_append_left _ (List.mem_append_left _ (List.mem_append_left _ (List.mem_append_left _ (List.mem_append_left _ (List.mem_append_left _ (List.mem_append_left _ (List.mem_append_left _ (List.mem_append_right _ (List.mem_append_left _ (List.mem_of_getElem? (i := 17) rfl))))))))))))))
theorem hin_X10_init_X5 : ∀ w ∈ u_ws RX5 TX5 4, w ∈ wsX10_init := fun w h => List.mem_cons_of_mem _ (List.mem_append_left _ (List.mem_append_left _ (List.mem_append_left _ (List.mem_append_left _ (List.mem_append_left _ (List.mem_append_left _ (List.mem_append_left _ (List.mem_append_left _ (List.mem_append_left _ (List.mem_append_right _ h))))))))))
theorem lk_X10_init_7 : Cond.classLink RX10 12 RX5 ∈ wsX10_init := List.mem_cons_of_mem _ (List.mem_append_left _ (List.mem_append_left _ (List.mem_append_left _ (List.mem_append_left _ (List.mem_append_left _ (List.mem_append_left _ (List.mem_append_left _ (List.mem_append_left _ (List.mem_append_left _ (List.mem_append_left _ (List.mem_append_left _ (List.mem_append_left _ (List.mem_of_getElem? (i := 6) rfl)))))))))))))
theorem lk_X10_init_8 : Cond.instantiable RX5 4 ∈ wsX10_init := List.mem_cons_of_mem _ (List.mem_append_left _ (List.mem_append_left _ (List.mem_append_left _ (List.mem_append_left _ (List.mem_append_left _ (List.mem_append_left _ (List.mem_append_left _ (List.mem_append_left _ (List.mem_append_left _ (List.mem_append_left _ (List.mem_append_left _ (List.mem_append_left _ (List.mem_of_getElem? (i := 7) rfl)))))))))))))
theorem lk_X10_init_9 : Cond.initialized RX5 ∈ wsX10_init := List.mem_cons_of_mem _ (List.mem_append_left _ (List.mem_append_left _ (List.mem_append_left _ (List.mem_append_left _ (List.mem_append_left _ (List.mem_append_left _ (List.mem_append_left _ (List.mem_append_left _ (List.mem_append_left _ (List.mem_append_left _ (List.mem_append_left _ (List.mem_append_left _ (List.mem_of_getElem? (i := 8) rfl)))))))))))))
theorem lk_X10_init_10 : Cond.instanceMethod yX5_init ∈ wsX10_init := List.mem_cons_of_mem _ (List.mem_append_left _ (List.mem_append_left _ (List.mem_append_left _ (List.mem_append_left _ (List.mem_append_left _ (List.mem_append_left _ (List.mem_append_left _ (List.mem_append_left _ (List.mem_append_left _ (List.mem_append_left _ (List.mem_append_left _ (List.mem_append_right _ (List.mem_append_right _ (List.mem_append_left _ (List.mem_of_getElem? (i := 12) rfl)))))))))))))))
theorem lk_X10_init_11 : Cond.fieldLink RX10 15 "Gaitwright" "land" "LGaitwright$Land;" ∈ wsX10_init := List.mem_cons_of_mem _ (List.mem_append_left _ (List.mem_append_left _ (List.mem_append_left _ (List.mem_append_left _ (List.mem_append_left _ (List.mem_append_left _ (List.mem_append_left _ (List.mem_append_left _ (List.mem_append_left _ (List.mem_append_left _ (List.mem_append_left _ (List.mem_append_left _ (List.mem_of_getElem? (i := 9) rfl)))))))))))))
theorem hin_X10_init_X10 : ∀ w ∈ u_ws RX10 TX10 11, w ∈ wsX10_init := fun w h => List.mem_cons_of_mem _ (List.mem_append_left _ (List.mem_append_left _ (List.mem_append_left _ (List.mem_append_left _ (List.mem_append_left _ (List.mem_append_left _ (List.mem_append_left _ (List.mem_append_left _ (List.mem_append_right _ h)))))))))
theorem hin_X10_init_X2 : ∀ w ∈ u_ws RX2 TX2 7, w ∈ wsX10_init := fun w h => List.mem_cons_of_mem _ (List.mem_append_left _ (List.mem_append_left _ (List.mem_append_left _ (List.mem_append_left _ (List.mem_append_left _ (List.mem_append_left _ (List.mem_append_left _ (List.mem_append_right _ h))))))))
theorem lk_X10_init_12 : Cond.classLink RX10 19 RX2 ∈ wsX10_init := List.mem_cons_of_mem _ (List.mem_append_left _ (List.mem_append_left _ (List.mem_append_left _ (List.mem_append_left _ (List.mem_append_left _ (List.mem_append_left _ (List.mem_append_left _ (List.mem_append_left _ (List.mem_append_left _ (List.mem_append_left _ (List.mem_append_left _ (List.mem_append_left _ (List.mem_of_getElem? (i := 10) rfl)))))))))))))
theorem lk_X10_init_13 : Cond.instantiable RX2 7 ∈ wsX10_init := List.mem_cons_of_mem _ (List.mem_append_left _ (List.mem_append_left _ (List.mem_append_left _ (List.mem_append_left _ (List.mem_append_left _ (List.mem_append_left _ (List.mem_append_left _ (List.mem_append_left _ (List.mem_append_left _ (List.mem_append_left _ (List.mem_append_left _ (List.mem_append_left _ (List.mem_of_getElem? (i := 11) rfl)))))))))))))
theorem lk_X10_init_14 : Cond.initialized RX2 ∈ wsX10_init := List.mem_cons_of_mem _ (List.mem_append_left _ (List.mem_append_left _ (List.mem_append_left _ (List.mem_append_left _ (List.mem_append_left _ (List.mem_append_left _ (List.mem_append_left _ (List.mem_append_left _ (List.mem_append_left _ (List.mem_append_left _ (List.mem_append_left _ (List.mem_append_left _ (List.mem_of_getElem? (i := 12) rfl)))))))))))))
theorem lk_X10_init_15 : Cond.instanceMethod yX2_init ∈ wsX10_init := List.mem_cons_of_mem _ (List.mem_append_left _ (List.mem_append_left _ (List.mem_append_left _ (List.mem_append_left _ (List.mem_append_left _ (List.mem_append_left _ (List.mem_append_left _ (List.mem_append_left _ (List.mem_append_left _ (List.mem_append_left _ (List.mem_append_left _ (List.mem_append_right _ (List.mem_append_right _ (List.mem_append_left _ (List.mem_of_getElem? (i := 21) rfl)))))))))))))))
theorem lk_X10_init_16 : Cond.fieldLink RX10 22 "Gaitwright" "frame" "LGaitwright$Frame;" ∈ wsX10_init := List.mem_cons_of_mem _ (List.mem_append_left _ (List.mem_append_left _ (List.mem_append_left _ (List.mem_append_left _ (List.mem_append_left _ (List.mem_append_left _ (List.mem_append_left _ (List.mem_append_left _ (List.mem_append_left _ (List.mem_append_left _ (List.mem_append_left _ (List.mem_append_left _ (List.mem_of_getElem? (i := 13) rfl)))))))))))))
theorem hin_X10_init_X9 : ∀ w ∈ u_ws RX9 TX9 6, w ∈ wsX10_init := fun w h => List.mem_cons_of_mem _ (List.mem_append_left _ (List.mem_append_left _ (List.mem_append_left _ (List.mem_append_left _ (List.mem_append_left _ (List.mem_append_left _ (List.mem_append_right _ h)))))))
theorem lk_X10_init_17 : Cond.classLink RX10 26 RX9 ∈ wsX10_init := List.mem_cons_of_mem _ (List.mem_append_left _ (List.mem_append_left _ (List.mem_append_left _ (List.mem_append_left _ (List.mem_append_left _ (List.mem_append_left _ (List.mem_append_left _ (List.mem_append_left _ (List.mem_append_left _ (List.mem_append_left _ (List.mem_append_left _ (List.mem_append_left _ (List.mem_of_getElem? (i := 14) rfl)))))))))))))
theorem lk_X10_init_18 : Cond.instantiable RX9 6 ∈ wsX10_init := List.mem_cons_of_mem _ (List.mem_append_left _ (List.mem_append_left _ (List.mem_append_left _ (List.mem_append_left _ (List.mem_append_left _ (List.mem_append_left _ (List.mem_append_left _ (List.mem_append_left _ (List.mem_append_left _ (List.mem_append_left _ (List.mem_append_left _ (List.mem_append_left _ (List.mem_of_getElem? (i := 15) rfl)))))))))))))
theorem lk_X10_init_19 : Cond.initialized RX9 ∈ wsX10_init := List.mem_cons_of_mem _ (List.mem_append_left _ (List.mem_append_left _ (List.mem_append_left _ (List.mem_append_left _ (List.mem_append_left _ (List.mem_append_left _ (List.mem_append_left _ (List.mem_append_left _ (List.mem_append_left _ (List.mem_append_left _ (List.mem_append_left _ (List.mem_append_left _ (List.mem_of_getElem? (i := 16) rfl)))))))))))))
theorem lk_X10_init_20 : Cond.methodLink RX10 28 yX9_init ∈ wsX10_init := List.mem_cons_of_mem _ (List.mem_append_left _ (List.mem_append_left _ (List.mem_append_left _ (List.mem_append_left _ (List.mem_append_left _ (List.mem_append_left _ (List.mem_append_left _ (List.mem_append_left _ (List.mem_append_left _ (List.mem_append_left _ (List.mem_append_left _ (List.mem_append_right _ (List.mem_append_right _ (List.mem_append_right _ (List.mem_append_left _ (List.mem_of_getElem? (i := 9) rfl))))))))))))))))
theorem lk_X10_init_21 : Cond.instanceMethod yX9_init ∈ wsX10_init := List.mem_cons_of_mem _ (List.mem_append_left _ (List.mem_append_left _ (List.mem_append_left _ (List.mem_append_left _ (List.mem_append_left _ (List.mem_append_left _ (List.mem_append_left _ (List.mem_append_left _ (List.mem_append_left _ (List.mem_append_left _ (List.mem_append_left _ (List.mem_append_right _ (List.mem_append_right _ (List.mem_append_right _ (List.mem_append_left _ (List.mem_of_getElem? (i := 10) rfl))))))))))))))))
theorem lk_X10_init_22 : Cond.fieldLink RX10 31 "Gaitwright" "stance" "LGaitwright$Stance;" ∈ wsX10_init := List.mem_cons_of_mem _ (List.mem_append_left _ (List.mem_append_left _ (List.mem_append_left _ (List.mem_append_left _ (List.mem_append_left _ (List.mem_append_left _ (List.mem_append_left _ (List.mem_append_left _ (List.mem_append_left _ (List.mem_append_left _ (List.mem_append_left _ (List.mem_append_left _ (List.mem_of_getElem? (i := 17) rfl)))))))))))))
theorem lk_X10_init_23 : Cond.fieldLink RX10 35 "Gaitwright" "trial" "LGaitwright$Stance;" ∈ wsX10_init := List.mem_cons_of_mem _ (List.mem_append_left _ (List.mem_append_left _ (List.mem_append_left _ (List.mem_append_left _ (List.mem_append_left _ (List.mem_append_left _ (List.mem_append_left _ (List.mem_append_left _ (List.mem_append_left _ (List.mem_append_left _ (List.mem_append_left _ (List.mem_append_left _ (List.mem_of_getElem? (i := 18) rfl)))))))))))))
theorem hin_X10_init_X6 : ∀ w ∈ u_ws RX6 TX6 3, w ∈ wsX10_init := fun w h => List.mem_cons_of_mem _ (List.mem_append_left _ (List.mem_append_left _ (List.mem_append_left _ (List.mem_append_left _ (List.mem_append_left _ (List.mem_append_right _ h))))))
theorem lk_X10_init_24 : Cond.classLink RX10 38 RX6 ∈ wsX10_init := List.mem_cons_of_mem _ (List.mem_append_left _ (List.mem_append_left _ (List.mem_append_left _ (List.mem_append_left _ (List.mem_append_left _ (List.mem_append_left _ (List.mem_append_left _ (List.mem_append_left _ (List.mem_append_left _ (List.mem_append_left _ (List.mem_append_left _ (List.mem_append_left _ (List.mem_of_getElem? (i := 19) rfl)))))))))))))
theorem lk_X10_init_25 : Cond.instantiable RX6 3 ∈ wsX10_init := List.mem_cons_of_mem _ (List.mem_append_left _ (List.mem_append_left _ (List.mem_append_left _ (List.mem_append_left _ (List.mem_append_left _ (List.mem_append_left _ (List.mem_append_left _ (List.mem_append_left _ (List.mem_append_left _ (List.mem_append_left _ (List.mem_append_left _ (List.mem_append_left _ (List.mem_of_getElem? (i := 20) rfl)))))))))))))
theorem lk_X10_init_26 : Cond.initialized RX6 ∈ wsX10_init := List.mem_cons_of_mem _ (List.mem_append_left _ (List.mem_append_left _ (List.mem_append_left _ (List.mem_append_left _ (List.mem_append_left _ (List.mem_append_left _ (List.mem_append_left _ (List.mem_append_left _ (List.mem_append_left _ (List.mem_append_left _ (List.mem_append_left _ (List.mem_append_left _ (List.mem_of_getElem? (i := 21) rfl)))))))))))))
theorem lk_X10_init_27 : Cond.instanceMethod yX6_init ∈ wsX10_init := List.mem_cons_of_mem _ (List.mem_append_left _ (List.mem_append_left _ (List.mem_append_left _ (List.mem_append_left _ (List.mem_append_left _ (List.mem_append_left _ (List.mem_append_left _ (List.mem_append_left _ (List.mem_append_left _ (List.mem_append_left _ (List.mem_append_left _ (List.mem_append_right _ (List.mem_append_right _ (List.mem_append_right _ (List.mem_append_left _ (List.mem_of_getElem? (i := 21) rfl))))))))))))))))
theorem lk_X10_init_28 : Cond.fieldLink RX10 41 "Gaitwright" "pieces" "LGaitwright$Pieces;" ∈ wsX10_init := List.mem_cons_of_mem _ (List.mem_append_left _ (List.mem_append_left _ (List.mem_append_left _ (List.mem_append_left _ (List.mem_append_left _ (List.mem_append_left _ (List.mem_append_left _ (List.mem_append_left _ (List.mem_append_left _ (List.mem_append_left _ (List.mem_append_left _ (List.mem_append_left _ (List.mem_of_getElem? (i := 22) rfl)))))))))))))
theorem hin_X10_init_X0 : ∀ w ∈ u_ws RX0 TX0 4, w ∈ wsX10_init := fun w h => List.mem_cons_of_mem _ (List.mem_append_left _ (List.mem_append_left _ (List.mem_append_left _ (List.mem_append_left _ (List.mem_append_right _ h)))))
theorem lk_X10_init_29 : Cond.classLink RX10 45 RX0 ∈ wsX10_init := List.mem_cons_of_mem _ (List.mem_append_left _ (List.mem_append_left _ (List.mem_append_left _ (List.mem_append_left _ (List.mem_append_left _ (List.mem_append_left _ (List.mem_append_left _ (List.mem_append_left _ (List.mem_append_left _ (List.mem_append_left _ (List.mem_append_left _ (List.mem_append_left _ (List.mem_of_getElem? (i := 23) rfl)))))))))))))
theorem lk_X10_init_30 : Cond.instantiable RX0 4 ∈ wsX10_init := List.mem_cons_of_mem _ (List.mem_append_left _ (List.mem_append_left _ (List.mem_append_left _ (List.mem_append_left _ (List.mem_append_left _ (List.mem_append_left _ (List.mem_append_left _ (List.mem_append_left _ (List.mem_append_left _ (List.mem_append_left _ (List.mem_append_left _ (List.mem_append_right _ (List.mem_append_left _ (List.mem_of_getElem? (i := 0) rfl))))))))))))))
theorem lk_X10_init_31 : Cond.initialized RX0 ∈ wsX10_init := List.mem_cons_of_mem _ (List.mem_append_left _ (List.mem_append_left _ (List.mem_append_left _ (List.mem_append_left _ (List.mem_append_left _ (List.mem_append_left _ (List.mem_append_left _ (List.mem_append_left _ (List.mem_append_left _ (List.mem_append_left _ (List.mem_append_left _ (List.mem_append_right _ (List.mem_append_left _ (List.mem_of_getElem? (i := 1) rfl))))))))))))))
theorem lk_X10_init_32 : Cond.instanceMethod yX0_init ∈ wsX10_init := List.mem_cons_of_mem _ (List.mem_append_left _ (List.mem_append_left _ (List.mem_append_left _ (List.mem_append_left _ (List.mem_append_left _ (List.mem_append_left _ (List.mem_append_left _ (List.mem_append_left _ (List.mem_append_left _ (List.mem_append_left _ (List.mem_append_left _ (List.mem_append_right _ (List.mem_append_right _ (List.mem_append_right _ (List.mem_append_right _ (List.mem_append_left _ (List.mem_of_getElem? (i := 5) rfl)))))))))))))))))
theorem lk_X10_init_33 : Cond.fieldLink RX10 48 "Gaitwright" "damage" "LGaitwright$Damage;" ∈ wsX10_init := List.mem_cons_of_mem _ (List.mem_append_left _ (List.mem_append_left _ (List.mem_append_left _ (List.mem_append_left _ (List.mem_append_left _ (List.mem_append_left _ (List.mem_append_left _ (List.mem_append_left _ (List.mem_append_left _ (List.mem_append_left _ (List.mem_append_left _ (List.mem_append_right _ (List.mem_append_left _ (List.mem_of_getElem? (i := 2) rfl))))))))))))))
theorem hin_X10_init_X1 : ∀ w ∈ u_ws RX1 TX1 4, w ∈ wsX10_init := fun w h => List.mem_cons_of_mem _ (List.mem_append_left _ (List.mem_append_left _ (List.mem_append_left _ (List.mem_append_right _ h))))
theorem lk_X10_init_34 : Cond.classLink RX10 52 RX1 ∈ wsX10_init := List.mem_cons_of_mem _ (List.mem_append_left _ (List.mem_append_left _ (List.mem_append_left _ (List.mem_append_left _ (List.mem_append_left _ (List.mem_append_left _ (List.mem_append_left _ (List.mem_append_left _ (List.mem_append_left _ (List.mem_append_left _ (List.mem_append_left _ (List.mem_append_right _ (List.mem_append_left _ (List.mem_of_getElem? (i := 3) rfl))))))))))))))
theorem lk_X10_init_35 : Cond.instantiable RX1 4 ∈ wsX10_init := List.mem_cons_of_mem _ (List.mem_append_left _ (List.mem_append_left _ (List.mem_append_left _ (List.mem_append_left _ (List.mem_append_left _ (List.mem_append_left _ (List.mem_append_left _ (List.mem_append_left _ (List.mem_append_left _ (List.mem_append_left _ (List.mem_append_left _ (List.mem_append_right _ (List.mem_append_left _ (List.mem_of_getElem? (i := 4) rfl))))))))))))))
theorem lk_X10_init_36 : Cond.initialized RX1 ∈ wsX10_init := List.mem_cons_of_mem _ (List.mem_append_left _ (List.mem_append_left _ (List.mem_append_left _ (List.mem_append_left _ (List.mem_append_left _ (List.mem_append_left _ (List.mem_append_left _ (List.mem_append_left _ (List.mem_append_left _ (List.mem_append_left _ (List.mem_append_left _ (List.mem_append_right _ (List.mem_append_left _ (List.mem_of_getElem? (i := 5) rfl))))))))))))))
theorem lk_X10_init_37 : Cond.instanceMethod yX1_init ∈ wsX10_init := List.mem_cons_of_mem _ (List.mem_append_left _ (List.mem_append_left _ (List.mem_append_left _ (List.mem_append_left _ (List.mem_append_left _ (List.mem_append_left _ (List.mem_append_left _ (List.mem_append_left _ (List.mem_append_left _ (List.mem_append_left _ (List.mem_append_left _ (List.mem_append_right _ (List.mem_append_right _ (List.mem_append_right _ (List.mem_append_right _ (List.mem_append_left _ (List.mem_of_getElem? (i := 12) rfl)))))))))))))))))
theorem lk_X10_init_38 : Cond.fieldLink RX10 55 "Gaitwright" "falls" "LGaitwright$Falls;" ∈ wsX10_init := List.mem_cons_of_mem _ (List.mem_append_left _ (List.mem_append_left _ (List.mem_append_left _ (List.mem_append_left _ (List.mem_append_left _ (List.mem_append_left _ (List.mem_append_left _ (List.mem_append_left _ (List.mem_append_left _ (List.mem_append_left _ (List.mem_append_left _ (List.mem_append_right _ (List.mem_append_left _ (List.mem_of_getElem? (i := 6) rfl))))))))))))))
theorem hin_X10_init_X3 : ∀ w ∈ u_ws RX3 TX3 7, w ∈ wsX10_init := fun w h => List.mem_cons_of_mem _ (List.mem_append_left _ (List.mem_append_left _ (List.mem_append_right _ h)))
theorem lk_X10_init_39 : Cond.classLink RX10 59 RX3 ∈ wsX10_init := List.mem_cons_of_mem _ (List.mem_append_left _ (List.mem_append_left _ (List.mem_append_left _ (List.mem_append_left _ (List.mem_append_left _ (List.mem_append_left _ (List.mem_append_left _ (List.mem_append_left _ (List.mem_append_left _ (List.mem_append_left _ (List.mem_append_left _ (List.mem_append_right _ (List.mem_append_left _ (List.mem_of_getElem? (i := 7) rfl))))))))))))))
theorem lk_X10_init_40 : Cond.instantiable RX3 7 ∈ wsX10_init := List.mem_cons_of_mem _ (List.mem_append_left _ (List.mem_append_left _ (List.mem_append_left _ (List.mem_append_left _ (List.mem_append_left _ (List.mem_append_left _ (List.mem_append_left _ (List.mem_append_left _ (List.mem_append_left _ (List.mem_append_left _ (List.mem_append_left _ (List.mem_append_right _ (List.mem_append_left _ (List.mem_of_getElem? (i := 8) rfl))))))))))))))
theorem lk_X10_init_41 : Cond.initialized RX3 ∈ wsX10_init := List.mem_cons_of_mem _ (List.mem_append_left _ (List.mem_append_left _ (List.mem_append_left _ (List.mem_append_left _ (List.mem_append_left _ (List.mem_append_left _ (List.mem_append_left _ (List.mem_append_left _ (List.mem_append_left _ (List.mem_append_left _ (List.mem_append_left _ (List.mem_append_right _ (List.mem_append_left _ (List.mem_of_getElem? (i := 9) rfl))))))))))))))
theorem lk_X10_init_42 : Cond.instanceMethod yX3_init ∈ wsX10_init := List.mem_cons_of_mem _ (List.mem_append_left _ (List.mem_append_left _ (List.mem_append_left _ (List.mem_append_left _ (List.mem_append_left _ (List.mem_append_left _ (List.mem_append_left _ (List.mem_append_left _ (List.mem_append_left _ (List.mem_append_left _ (List.mem_append_left _ (List.mem_append_right _ (List.mem_append_right _ (List.mem_append_right _ (List.mem_append_right _ (List.mem_append_left _ (List.mem_of_getElem? (i := 21) rfl)))))))))))))))))
theorem lk_X10_init_43 : Cond.fieldLink RX10 62 "Gaitwright" "gait" "LGaitwright$Gait;" ∈ wsX10_init := List.mem_cons_of_mem _ (List.mem_append_left _ (List.mem_append_left _ (List.mem_append_left _ (List.mem_append_left _ (List.mem_append_left _ (List.mem_append_left _ (List.mem_append_left _ (List.mem_append_left _ (List.mem_append_left _ (List.mem_append_left _ (List.mem_append_left _ (List.mem_append_right _ (List.mem_append_left _ (List.mem_of_getElem? (i := 10) rfl))))))))))))))
theorem hin_X10_init_X7 : ∀ w ∈ u_ws RX7 TX7 3, w ∈ wsX10_init := fun w h => List.mem_cons_of_mem _ (List.mem_append_left _ (List.mem_append_right _ h))
theorem lk_X10_init_44 : Cond.classLink RX10 66 RX7 ∈ wsX10_init := List.mem_cons_of_mem _ (List.mem_append_left _ (List.mem_append_left _ (List.mem_append_left _ (List.mem_append_left _ (List.mem_append_left _ (List.mem_append_left _ (List.mem_append_left _ (List.mem_append_left _ (List.mem_append_left _ (List.mem_append_left _ (List.mem_append_left _ (List.mem_append_right _ (List.mem_append_left _ (List.mem_of_getElem? (i := 11) rfl))))))))))))))
theorem lk_X10_init_45 : Cond.instantiable RX7 3 ∈ wsX10_init := List.mem_cons_of_mem _ (List.mem_append_left _ (List.mem_append_left _ (List.mem_append_left _ (List.mem_append_left _ (List.mem_append_left _ (List.mem_append_left _ (List.mem_append_left _ (List.mem_append_left _ (List.mem_append_left _ (List.mem_append_left _ (List.mem_append_left _ (List.mem_append_right _ (List.mem_append_left _ (List.mem_of_getElem? (i := 12) rfl))))))))))))))
theorem lk_X10_init_46 : Cond.initialized RX7 ∈ wsX10_init := List.mem_cons_of_mem _ (List.mem_append_left _ (List.mem_append_left _ (List.mem_append_left _ (List.mem_append_left _ (List.mem_append_left _ (List.mem_append_left _ (List.mem_append_left _ (List.mem_append_left _ (List.mem_append_left _ (List.mem_append_left _ (List.mem_append_left _ (List.mem_append_right _ (List.mem_append_left _ (List.mem_of_getElem? (i := 13) rfl))))))))))))))
theorem lk_X10_init_47 : Cond.methodLink RX10 68 yX7_init ∈ wsX10_init := List.mem_cons_of_mem _ (List.mem_append_left _ (List.mem_append_left _ (List.mem_append_left _ (List.mem_append_left _ (List.mem_append_left _ (List.mem_append_left _ (List.mem_append_left _ (List.mem_append_left _ (List.mem_append_left _ (List.mem_append_left _ (List.mem_append_left _ (List.mem_append_right _ (List.mem_append_right _ (List.mem_append_right _ (List.mem_append_right _ (List.mem_append_right _ (List.mem_of_getElem? (i := 9) rfl)))))))))))))))))
theorem lk_X10_init_48 : Cond.instanceMethod yX7_init ∈ wsX10_init := List.mem_cons_of_mem _ (List.mem_append_left _ (List.mem_append_left _ (List.mem_append_left _ (List.mem_append_left _ (List.mem_append_left _ (List.mem_append_left _ (List.mem_append_left _ (List.mem_append_left _ (List.mem_append_left _ (List.mem_append_left _ (List.mem_append_left _ (List.mem_append_right _ (List.mem_append_right _ (List.mem_append_right _ (List.mem_append_right _ (List.mem_append_right _ (List.mem_of_getElem? (i := 10) rfl)))))))))))))))))
theorem lk_X10_init_49 : Cond.fieldLink RX10 69 "Gaitwright" "planner" "LGaitwright$Planner;" ∈ wsX10_init := List.mem_cons_of_mem _ (List.mem_append_left _ (List.mem_append_left _ (List.mem_append_left _ (List.mem_append_left _ (List.mem_append_left _ (List.mem_append_left _ (List.mem_append_left _ (List.mem_append_left _ (List.mem_append_left _ (List.mem_append_left _ (List.mem_append_left _ (List.mem_append_right _ (List.mem_append_left _ (List.mem_of_getElem? (i := 14) rfl))))))))))))))
theorem lk_X10_init_50 : Cond.fieldLink RX10 73 "Gaitwright" "stands" "Z" ∈ wsX10_init := List.mem_cons_of_mem _ (List.mem_append_left _ (List.mem_append_left _ (List.mem_append_left _ (List.mem_append_left _ (List.mem_append_left _ (List.mem_append_left _ (List.mem_append_left _ (List.mem_append_left _ (List.mem_append_left _ (List.mem_append_left _ (List.mem_append_left _ (List.mem_append_right _ (List.mem_append_left _ (List.mem_of_getElem? (i := 15) rfl))))))))))))))
theorem lk_X10_init_51 : Cond.fieldLink RX10 77 "Gaitwright" "energy" "I" ∈ wsX10_init := List.mem_cons_of_mem _ (List.mem_append_left _ (List.mem_append_left _ (List.mem_append_left _ (List.mem_append_left _ (List.mem_append_left _ (List.mem_append_left _ (List.mem_append_left _ (List.mem_append_left _ (List.mem_append_left _ (List.mem_append_left _ (List.mem_append_left _ (List.mem_append_right _ (List.mem_append_left _ (List.mem_of_getElem? (i := 16) rfl))))))))))))))
def m_X10_init (a0 : Nat) (ws : LWd) : Option LWd :=
  (rcv ws a0 10).bind fun _ =>
  bn2 (nO ws [some (.ref a0), none] [] 4 [.null, .null, .int 0]) fun a1 w2 =>
  (calG w2 [some (.ref a0), none] [.ref a1]V (m_X4_init a1 w2)).bind fun w4 =>
  bn2 (nO w4 [some (.ref a0), some (.ref a1)] [.ref a0] 5 [.null, .null, .null, .null]) fun a6 w7 =>
  (calG w7 [some (.ref a0), some (.ref a1)] [.ref a6, .ref a0]V (m_X5_init a6 w7)).bind fun w9 =>
  (pV w9 a0 10 0 (.ref a6)).bind fun w11 =>
  bn2 (nO w11 [some (.ref a0), some (.ref a1)] [.ref a0] 2 [.null, .null, .null, .int 0, .int 0, .int 0, .int 0]) fun a13 w14 =>
  (calG w14 [some (.ref a0), some (.ref a1)] [.ref a13, .ref a0]V (m_X2_init a13 w14)).bind fun w16 =>
  (pV w16 a0 10 1 (.ref a13)).bind fun w18 =>
  bn2 (nO w18 [some (.ref a0), some (.ref a1)] [.ref a0] 9 [.null, .null, .null, .null, .int 0, .int 0]) fun a20 w21 =>
  (fR w21 a0 10 0).bind fun x23 =>
  (fR w21 a0 10 1).bind fun x25 =>
  (calG w21 [some (.ref a0), some (.ref a1)] [.ref a20, .ref a0]V (m_X9_init a20 x23 x25 a1 w21)).bind fun w27 =>
  (pV w27 a0 10 2 (.ref a20)).bind fun w29 =>
  bn2 (nO w29 [some (.ref a0), some (.ref a1)] [.ref a0] 9 [.null, .null, .null, .null, .int 0, .int 0]) fun a31 w32 =>
  (fR w32 a0 10 0).bind fun x34 =>
  (fR w32 a0 10 1).bind fun x36 =>
  (calG w32 [some (.ref a0), some (.ref a1)] [.ref a31, .ref a0]V (m_X9_init a31 x34 x36 a1 w32)).bind fun w38 =>
  (pV w38 a0 10 3 (.ref a31)).bind fun w40 =>
  bn2 (nO w40 [some (.ref a0), some (.ref a1)] [.ref a0] 6 [.null, .null, .int 0]) fun a42 w43 =>
  (calG w43 [some (.ref a0), some (.ref a1)] [.ref a42, .ref a0]V (m_X6_init a42 w43)).bind fun w45 =>
  (pV w45 a0 10 4 (.ref a42)).bind fun w47 =>
  bn2 (nO w47 [some (.ref a0), some (.ref a1)] [.ref a0] 0 [.int 0, .int 0, .int 0, .int 0]) fun a49 w50 =>
  (calSV w50 (m_X0_init a49 w50)).bind fun w52 =>
  (pV w52 a0 10 5 (.ref a49)).bind fun w54 =>
  bn2 (nO w54 [some (.ref a0), some (.ref a1)] [.ref a0] 1 [.null, .null, .null, .int 0]) fun a56 w57 =>
  (calG w57 [some (.ref a0), some (.ref a1)] [.ref a56, .ref a0]V (m_X1_init a56 w57)).bind fun w59 =>
  (pV w59 a0 10 6 (.ref a56)).bind fun w61 =>
  bn2 (nO w61 [some (.ref a0), some (.ref a1)] [.ref a0] 3 [.null, .null, .null, .null, .null, .int 0, .int 0]) fun a63 w64 =>
  (calG w64 [some (.ref a0), some (.ref a1)] [.ref a63, .ref a0]V (m_X3_init a63 w64)).bind fun w66 =>
  (pV w66 a0 10 7 (.ref a63)).bind fun w68 =>
  bn2 (nO w68 [some (.ref a0), some (.ref a1)] [.ref a0] 7 [.null, .null, .int 0]) fun a70 w71 =>
  (fR w71 a0 10 0).bind fun x73 =>
  (fR w71 a0 10 1).bind fun x75 =>
  (calG w71 [some (.ref a0), some (.ref a1)] [.ref a70, .ref a0]V (m_X7_init a70 x73 x75 a1 w71)).bind fun w77 =>
  (pV w77 a0 10 8 (.ref a70)).bind fun w79 =>
  (pZ w79 a0 10 9 0).bind fun w81 =>
  (pV w81 a0 10 10 (.int 1000)).bind fun w83 =>
  some w83
set_option maxRecDepth 100000 in
set_option maxHeartbeats 4000000 in
theorem s_X10_init {a0 : Nat} {ws : LWd} {ws' : LWd} (h : m_X10_init a0 ws = some ws') : jSp yX10_init wsX10_init 4 68 10511 [.ref a0] ws (.inl none, ws') := by
  unfold m_X10_init at h
  refine j_entry (ret := none) (nm := "<init>") (own := RX10) pl_X10 rfl rfl rfl (jcats (by rfl)) (by decide) ?_
  show JG false cX10_init 2 RX10 wsX10_init none "<init>" 4 68 10511 ws.length (.inl none, ws') 0 [some (.ref a0), none] [] ws 0 0
  obtain ⟨_, _, h⟩ := obS h
  refine j_aload_n (pc := 0) dX10_init_0 rfl ?_
  refine j_objInit (pc := 1) dX10_init_1 lk_X10_init_0 lk_X10_init_1 lk_X10_init_2 (by decide) (by decide) ?_
  obtain ⟨a1, w2, e3, h⟩ := obS2 h
  refine j_new (pc := 4) (ci := 4) (N := 3) (C := RX4) (T := TX4) tyX4 tyX4_ok dX10_init_4 rfl hin_X10_init_X4 lk_X10_init_3 lk_X10_init_4 lk_X10_init_5 (fun j hj => by rcases (show j = 0 ∨ j = 1 ∨ j = 2 by omega) with rfl | rfl | rfl <;> rfl) (fun _ => rfl) (by decide) (by decide) e3 ?_
  refine j_dup (pc := 7) dX10_init_7 rfl ?_
  obtain ⟨w4, e5, h⟩ := obS h
  have ge5 := calGV_of e5
  refine j_callIN_g (pc := 8) (As := []) (k' := 5) (n' := 805) dX10_init_8 (s_X4_init ge5.1) gX10_init_X4_init_n11 nst_X10_11 lk_X10_init_5 lk_X10_init_6 rfl rfl hy_X4_init rfl (by decide) (by decide) (by decide) (by decide) (by decide) (by decide) (by decide) (Or.inr ge5.2) ?_
  refine j_astore_n_1 (pc := 11) dX10_init_11 (by decide) rfl ?_
  refine j_aload_n (pc := 12) dX10_init_12 rfl ?_
  obtain ⟨a6, w7, e8, h⟩ := obS2 h
  refine j_new (pc := 13) (ci := 5) (N := 4) (C := RX5) (T := TX5) tyX5 tyX5_ok dX10_init_13 rfl hin_X10_init_X5 lk_X10_init_7 lk_X10_init_8 lk_X10_init_9 (fun j hj => by rcases (show j = 0 ∨ j = 1 ∨ j = 2 ∨ j = 3 by omega) with rfl | rfl | rfl | rfl <;> rfl) (fun _ => rfl) (by decide) (by decide) e8 ?_
  refine j_dup (pc := 16) dX10_init_16 rfl ?_
  obtain ⟨w9, e10, h⟩ := obS h
  have ge10 := calGV_of e10
  refine j_callIN_g (pc := 17) (As := []) (k' := 14) (n' := 2413) dX10_init_17 (s_X5_init ge10.1) gX10_init_X5_init_n14 nst_X10_14 lk_X10_init_9 lk_X10_init_10 rfl rfl hy_X5_init rfl (by decide) (by decide) (by decide) (by decide) (by decide) (by decide) (by decide) (Or.inr ge10.2) ?_
  obtain ⟨w11, e12, h⟩ := obS h
  refine j_putF (pc := 20) (ci := 10) (kf := 0) tyX10 tyX10_ok nmX10 dX10_init_20 rfl hin_X10_init_X10 (by decide) lk_X10_init_11 rfl rfl rfl (fun _ => rfl) (fun _ => rfl) e12 ?_
  refine j_aload_n (pc := 23) dX10_init_23 rfl ?_
  obtain ⟨a13, w14, e15, h⟩ := obS2 h
  refine j_new (pc := 24) (ci := 2) (N := 7) (C := RX2) (T := TX2) tyX2 tyX2_ok dX10_init_24 rfl hin_X10_init_X2 lk_X10_init_12 lk_X10_init_13 lk_X10_init_14 (fun j hj => by rcases (show j = 0 ∨ j = 1 ∨ j = 2 ∨ j = 3 ∨ j = 4 ∨ j = 5 ∨ j = 6 by omega) with rfl | rfl | rfl | rfl | rfl | rfl | rfl <;> rfl) (fun _ => rfl) (by decide) (by decide) e15 ?_
  refine j_dup (pc := 27) dX10_init_27 rfl ?_
  obtain ⟨w16, e17, h⟩ := obS h
  have ge17 := calGV_of e17
  refine j_callIN_g (pc := 28) (As := []) (k' := 21) (n' := 3623) dX10_init_28 (s_X2_init ge17.1) gX10_init_X2_init_n21 nst_X10_21 lk_X10_init_14 lk_X10_init_15 rfl rfl hy_X2_init rfl (by decide) (by decide) (by decide) (by decide) (by decide) (by decide) (by decide) (Or.inr ge17.2) ?_
  obtain ⟨w18, e19, h⟩ := obS h
  refine j_putF (pc := 31) (ci := 10) (kf := 1) tyX10 tyX10_ok nmX10 dX10_init_31 rfl hin_X10_init_X10 (by decide) lk_X10_init_16 rfl rfl rfl (fun _ => rfl) (fun _ => rfl) e19 ?_
  refine j_aload_n (pc := 34) dX10_init_34 rfl ?_
  obtain ⟨a20, w21, e22, h⟩ := obS2 h
  refine j_new (pc := 35) (ci := 9) (N := 6) (C := RX9) (T := TX9) tyX9 tyX9_ok dX10_init_35 rfl hin_X10_init_X9 lk_X10_init_17 lk_X10_init_18 lk_X10_init_19 (fun j hj => by rcases (show j = 0 ∨ j = 1 ∨ j = 2 ∨ j = 3 ∨ j = 4 ∨ j = 5 by omega) with rfl | rfl | rfl | rfl | rfl | rfl <;> rfl) (fun _ => rfl) (by decide) (by decide) e22 ?_
  refine j_dup (pc := 38) dX10_init_38 rfl ?_
  refine j_aload_n (pc := 39) dX10_init_39 rfl ?_
  obtain ⟨x23, e24, h⟩ := obS h
  refine j_getR (pc := 40) dX10_init_40 (ci := 10) (kf := 0) rfl hin_X10_init_X10 (by decide) lk_X10_init_11 e24 ?_
  refine j_aload_n (pc := 43) dX10_init_43 rfl ?_
  obtain ⟨x25, e26, h⟩ := obS h
  refine j_getR (pc := 44) dX10_init_44 (ci := 10) (kf := 1) rfl hin_X10_init_X10 (by decide) lk_X10_init_16 e26 ?_
  refine j_aload_n (pc := 47) dX10_init_47 rfl ?_
  obtain ⟨w27, e28, h⟩ := obS h
  have ge28 := calGV_of e28
  refine j_callI_g (pc := 48) (As := [.ref x23, .ref x25, .ref a1]) (k' := 24) (n' := 4030) dX10_init_48 (s_X9_init ge28.1) gX10_init_X9_init lk_X10_init_19 lk_X10_init_20 lk_X10_init_21 rfl rfl hy_X9_init rfl (by decide) (by decide) (by decide) (by decide) (by decide) (by decide) (by decide) (Or.inr ge28.2) ?_
  obtain ⟨w29, e30, h⟩ := obS h
  refine j_putF (pc := 51) (ci := 10) (kf := 2) tyX10 tyX10_ok nmX10 dX10_init_51 rfl hin_X10_init_X10 (by decide) lk_X10_init_22 rfl rfl rfl (fun _ => rfl) (fun _ => rfl) e30 ?_
  refine j_aload_n (pc := 54) dX10_init_54 rfl ?_
  obtain ⟨a31, w32, e33, h⟩ := obS2 h
  refine j_new (pc := 55) (ci := 9) (N := 6) (C := RX9) (T := TX9) tyX9 tyX9_ok dX10_init_55 rfl hin_X10_init_X9 lk_X10_init_17 lk_X10_init_18 lk_X10_init_19 (fun j hj => by rcases (show j = 0 ∨ j = 1 ∨ j = 2 ∨ j = 3 ∨ j = 4 ∨ j = 5 by omega) with rfl | rfl | rfl | rfl | rfl | rfl <;> rfl) (fun _ => rfl) (by decide) (by decide) e33 ?_
  refine j_dup (pc := 58) dX10_init_58 rfl ?_
  refine j_aload_n (pc := 59) dX10_init_59 rfl ?_
  obtain ⟨x34, e35, h⟩ := obS h
  refine j_getR (pc := 60) dX10_init_60 (ci := 10) (kf := 0) rfl hin_X10_init_X10 (by decide) lk_X10_init_11 e35 ?_
  refine j_aload_n (pc := 63) dX10_init_63 rfl ?_
  obtain ⟨x36, e37, h⟩ := obS h
  refine j_getR (pc := 64) dX10_init_64 (ci := 10) (kf := 1) rfl hin_X10_init_X10 (by decide) lk_X10_init_16 e37 ?_
  refine j_aload_n (pc := 67) dX10_init_67 rfl ?_
  obtain ⟨w38, e39, h⟩ := obS h
  have ge39 := calGV_of e39
  refine j_callI_g (pc := 68) (As := [.ref x34, .ref x36, .ref a1]) (k' := 27) (n' := 4437) dX10_init_68 (s_X9_init ge39.1) gX10_init_X9_init lk_X10_init_19 lk_X10_init_20 lk_X10_init_21 rfl rfl hy_X9_init rfl (by decide) (by decide) (by decide) (by decide) (by decide) (by decide) (by decide) (Or.inr ge39.2) ?_
  obtain ⟨w40, e41, h⟩ := obS h
  refine j_putF (pc := 71) (ci := 10) (kf := 3) tyX10 tyX10_ok nmX10 dX10_init_71 rfl hin_X10_init_X10 (by decide) lk_X10_init_23 rfl rfl rfl (fun _ => rfl) (fun _ => rfl) e41 ?_
  refine j_aload_n (pc := 74) dX10_init_74 rfl ?_
  obtain ⟨a42, w43, e44, h⟩ := obS2 h
  refine j_new (pc := 75) (ci := 6) (N := 3) (C := RX6) (T := TX6) tyX6 tyX6_ok dX10_init_75 rfl hin_X10_init_X6 lk_X10_init_24 lk_X10_init_25 lk_X10_init_26 (fun j hj => by rcases (show j = 0 ∨ j = 1 ∨ j = 2 by omega) with rfl | rfl | rfl <;> rfl) (fun _ => rfl) (by decide) (by decide) e44 ?_
  refine j_dup (pc := 78) dX10_init_78 rfl ?_
  obtain ⟨w45, e46, h⟩ := obS h
  have ge46 := calGV_of e46
  refine j_callIN_g (pc := 79) (As := []) (k' := 32) (n' := 5242) dX10_init_79 (s_X6_init ge46.1) gX10_init_X6_init_n40 nst_X10_40 lk_X10_init_26 lk_X10_init_27 rfl rfl hy_X6_init rfl (by decide) (by decide) (by decide) (by decide) (by decide) (by decide) (by decide) (Or.inr ge46.2) ?_
  obtain ⟨w47, e48, h⟩ := obS h
  refine j_putF (pc := 82) (ci := 10) (kf := 4) tyX10 tyX10_ok nmX10 dX10_init_82 rfl hin_X10_init_X10 (by decide) lk_X10_init_28 rfl rfl rfl (fun _ => rfl) (fun _ => rfl) e48 ?_
  refine j_aload_n (pc := 85) dX10_init_85 rfl ?_
  obtain ⟨a49, w50, e51, h⟩ := obS2 h
  refine j_new (pc := 86) (ci := 0) (N := 4) (C := RX0) (T := TX0) tyX0 tyX0_ok dX10_init_86 rfl hin_X10_init_X0 lk_X10_init_29 lk_X10_init_30 lk_X10_init_31 (fun j hj => by rcases (show j = 0 ∨ j = 1 ∨ j = 2 ∨ j = 3 by omega) with rfl | rfl | rfl | rfl <;> rfl) (fun _ => rfl) (by decide) (by decide) e51 ?_
  refine j_dup (pc := 89) dX10_init_89 rfl ?_
  obtain ⟨w52, e53, h⟩ := obS h
  have ge53 := calSV_of e53
  refine j_callIN_g (pc := 90) (As := []) (k' := 33) (n' := 5246) dX10_init_90 (s_X0_init ge53.1) gX10_init_X0_init_n47 nst_X10_47 lk_X10_init_31 lk_X10_init_32 rfl rfl hy_X0_init rfl (by decide) (by decide) (by decide) (by decide) (by decide) (by decide) (by decide) (Or.inl ge53.2) ?_
  obtain ⟨w54, e55, h⟩ := obS h
  refine j_putF (pc := 93) (ci := 10) (kf := 5) tyX10 tyX10_ok nmX10 dX10_init_93 rfl hin_X10_init_X10 (by decide) lk_X10_init_33 rfl rfl rfl (fun _ => rfl) (fun _ => rfl) e55 ?_
  refine j_aload_n (pc := 96) dX10_init_96 rfl ?_
  obtain ⟨a56, w57, e58, h⟩ := obS2 h
  refine j_new (pc := 97) (ci := 1) (N := 4) (C := RX1) (T := TX1) tyX1 tyX1_ok dX10_init_97 rfl hin_X10_init_X1 lk_X10_init_34 lk_X10_init_35 lk_X10_init_36 (fun j hj => by rcases (show j = 0 ∨ j = 1 ∨ j = 2 ∨ j = 3 by omega) with rfl | rfl | rfl | rfl <;> rfl) (fun _ => rfl) (by decide) (by decide) e58 ?_
  refine j_dup (pc := 100) dX10_init_100 rfl ?_
  obtain ⟨w59, e60, h⟩ := obS h
  have ge60 := calGV_of e60
  refine j_callIN_g (pc := 101) (As := []) (k' := 40) (n' := 6453) dX10_init_101 (s_X1_init ge60.1) gX10_init_X1_init_n54 nst_X10_54 lk_X10_init_36 lk_X10_init_37 rfl rfl hy_X1_init rfl (by decide) (by decide) (by decide) (by decide) (by decide) (by decide) (by decide) (Or.inr ge60.2) ?_
  obtain ⟨w61, e62, h⟩ := obS h
  refine j_putF (pc := 104) (ci := 10) (kf := 6) tyX10 tyX10_ok nmX10 dX10_init_104 rfl hin_X10_init_X10 (by decide) lk_X10_init_38 rfl rfl rfl (fun _ => rfl) (fun _ => rfl) e62 ?_
  refine j_aload_n (pc := 107) dX10_init_107 rfl ?_
  obtain ⟨a63, w64, e65, h⟩ := obS2 h
  refine j_new (pc := 108) (ci := 3) (N := 7) (C := RX3) (T := TX3) tyX3 tyX3_ok dX10_init_108 rfl hin_X10_init_X3 lk_X10_init_39 lk_X10_init_40 lk_X10_init_41 (fun j hj => by rcases (show j = 0 ∨ j = 1 ∨ j = 2 ∨ j = 3 ∨ j = 4 ∨ j = 5 ∨ j = 6 by omega) with rfl | rfl | rfl | rfl | rfl | rfl | rfl <;> rfl) (fun _ => rfl) (by decide) (by decide) e65 ?_
  refine j_dup (pc := 111) dX10_init_111 rfl ?_
  obtain ⟨w66, e67, h⟩ := obS h
  have ge67 := calGV_of e67
  refine j_callIN_g (pc := 112) (As := []) (k' := 51) (n' := 8465) dX10_init_112 (s_X3_init ge67.1) gX10_init_X3_init_n61 nst_X10_61 lk_X10_init_41 lk_X10_init_42 rfl rfl hy_X3_init rfl (by decide) (by decide) (by decide) (by decide) (by decide) (by decide) (by decide) (Or.inr ge67.2) ?_
  obtain ⟨w68, e69, h⟩ := obS h
  refine j_putF (pc := 115) (ci := 10) (kf := 7) tyX10 tyX10_ok nmX10 dX10_init_115 rfl hin_X10_init_X10 (by decide) lk_X10_init_43 rfl rfl rfl (fun _ => rfl) (fun _ => rfl) e69 ?_
  refine j_aload_n (pc := 118) dX10_init_118 rfl ?_
  obtain ⟨a70, w71, e72, h⟩ := obS2 h
  refine j_new (pc := 119) (ci := 7) (N := 3) (C := RX7) (T := TX7) tyX7 tyX7_ok dX10_init_119 rfl hin_X10_init_X7 lk_X10_init_44 lk_X10_init_45 lk_X10_init_46 (fun j hj => by rcases (show j = 0 ∨ j = 1 ∨ j = 2 by omega) with rfl | rfl | rfl <;> rfl) (fun _ => rfl) (by decide) (by decide) e72 ?_
  refine j_dup (pc := 122) dX10_init_122 rfl ?_
  refine j_aload_n (pc := 123) dX10_init_123 rfl ?_
  obtain ⟨x73, e74, h⟩ := obS h
  refine j_getR (pc := 124) dX10_init_124 (ci := 10) (kf := 0) rfl hin_X10_init_X10 (by decide) lk_X10_init_11 e74 ?_
  refine j_aload_n (pc := 127) dX10_init_127 rfl ?_
  obtain ⟨x75, e76, h⟩ := obS h
  refine j_getR (pc := 128) dX10_init_128 (ci := 10) (kf := 1) rfl hin_X10_init_X10 (by decide) lk_X10_init_16 e76 ?_
  refine j_aload_n (pc := 131) dX10_init_131 rfl ?_
  obtain ⟨w77, e78, h⟩ := obS h
  have ge78 := calGV_of e78
  refine j_callI_g (pc := 132) (As := [.ref x73, .ref x75, .ref a1]) (k' := 68) (n' := 10511) dX10_init_132 (s_X7_init ge78.1) gX10_init_X7_init lk_X10_init_46 lk_X10_init_47 lk_X10_init_48 rfl rfl hy_X7_init rfl (by decide) (by decide) (by decide) (by decide) (by decide) (by decide) (by decide) (Or.inr ge78.2) ?_
  obtain ⟨w79, e80, h⟩ := obS h
  refine j_putF (pc := 135) (ci := 10) (kf := 8) tyX10 tyX10_ok nmX10 dX10_init_135 rfl hin_X10_init_X10 (by decide) lk_X10_init_49 rfl rfl rfl (fun _ => rfl) (fun _ => rfl) e80 ?_
  refine j_aload_n (pc := 138) dX10_init_138 rfl ?_
  refine j_iconst (pc := 139) dX10_init_139 (v := 0) (by decide) ?_
  obtain ⟨w81, e82, h⟩ := obS h
  refine j_putV (pc := 140) (ci := 10) (kf := 9) tyX10 tyX10_ok nmX10 dX10_init_140 rfl hin_X10_init_X10 (by decide) lk_X10_init_50 rfl (pZ_n e82).2.1 (pZ_n e82).2.2 (pZ_n e82).1 ?_
  refine j_aload_n (pc := 143) dX10_init_143 rfl ?_
  refine j_sipush (pc := 144) dX10_init_144 (v := 1000) (by decide) ?_
  obtain ⟨w83, e84, h⟩ := obS h
  refine j_putV (pc := 147) (ci := 10) (kf := 10) tyX10 tyX10_ok nmX10 dX10_init_147 rfl hin_X10_init_X10 (by decide) lk_X10_init_51 rfl (fun _ => rfl) (fun _ => rfl) e84 ?_
  cases h
  exact j_vret (pc := 150) rfl dX10_init_150 (by decide) (by decide) rfl
theorem r_X10_init {a0 : Nat} {ws : LWd} {o : LWd} (h : m_X10_init a0 ws = some o) : ∃ fs, ws[a0]? = some (.inr (10, fs)) := rcv_in h
def m_X10_pointAt (i0 : Int32) (i1 : Int32) (ws : LWd) : Option (Int32 × LWd) :=
  if i0 < 0 then
    some ((-1), ws)
  else
    if 20 ≤ i0 then
      some ((-1), ws)
    else
      if i1 < 0 then
        some ((-1), ws)
      else
        if 20 ≤ i1 then
          some ((-1), ws)
        else
          some ((20 * i1) + i0, ws)
set_option maxRecDepth 100000 in
set_option maxHeartbeats 4000000 in
theorem s_X10_pointAt {i0 : Int32} {i1 : Int32} {ws : LWd} {rr : Int32} {ws' : LWd} (h : m_X10_pointAt i0 i1 ws = some (rr, ws')) : jSp yX10_pointAt wsX10_pointAt 0 0 0 [.int i0, .int i1] ws (.inl (some (.int rr)), ws') := by
  unfold m_X10_pointAt at h
  refine j_entry (ret := (some .int)) (nm := "pointAt") (own := RX10) pl_X10 rfl rfl rfl (jcats (by rfl)) (by decide) ?_
  show JG false cX10_pointAt 2 RX10 wsX10_pointAt (some .int) "pointAt" 0 0 0 ws.length (.inl (some (.int rr)), ws') 0 [some (.int i0), some (.int i1)] [] ws 0 0
  refine j_iload_n (pc := 0) dX10_pointAt_0 rfl ?_
  refine j_if_lt (pc := 1) (tgt := 29) dX10_pointAt_1 (by decide) (fun c1 => ?_) (fun c1 => ?_)
  · rw [if_pos c1] at h
    refine j_iconst (pc := 29) dX10_pointAt_29 (v := (-1)) (by decide) ?_
    obtain ⟨rfl, rfl⟩ := jretS h
    exact j_iret (pc := 30) rfl dX10_pointAt_30 (by decide) (by decide) rfl
  · rw [if_neg c1] at h
    refine j_iload_n (pc := 4) dX10_pointAt_4 rfl ?_
    refine j_bipush (pc := 5) dX10_pointAt_5 (v := 20) (by decide) ?_
    refine j_icmp_ge (pc := 7) (tgt := 29) dX10_pointAt_7 (by decide) (fun c2 => ?_) (fun c2 => ?_)
    · rw [if_pos c2] at h
      refine j_iconst (pc := 29) dX10_pointAt_29 (v := (-1)) (by decide) ?_
      obtain ⟨rfl, rfl⟩ := jretS h
      exact j_iret (pc := 30) rfl dX10_pointAt_30 (by decide) (by decide) rfl
    · rw [if_neg c2] at h
      refine j_iload_n (pc := 10) dX10_pointAt_10 rfl ?_
      refine j_if_lt (pc := 11) (tgt := 29) dX10_pointAt_11 (by decide) (fun c3 => ?_) (fun c3 => ?_)
      · rw [if_pos c3] at h
        refine j_iconst (pc := 29) dX10_pointAt_29 (v := (-1)) (by decide) ?_
        obtain ⟨rfl, rfl⟩ := jretS h
        exact j_iret (pc := 30) rfl dX10_pointAt_30 (by decide) (by decide) rfl
      · rw [if_neg c3] at h
        refine j_iload_n (pc := 14) dX10_pointAt_14 rfl ?_
        refine j_bipush (pc := 15) dX10_pointAt_15 (v := 20) (by decide) ?_
        refine j_icmp_ge (pc := 17) (tgt := 29) dX10_pointAt_17 (by decide) (fun c4 => ?_) (fun c4 => ?_)
        · rw [if_pos c4] at h
          refine j_iconst (pc := 29) dX10_pointAt_29 (v := (-1)) (by decide) ?_
          obtain ⟨rfl, rfl⟩ := jretS h
          exact j_iret (pc := 30) rfl dX10_pointAt_30 (by decide) (by decide) rfl
        · rw [if_neg c4] at h
          refine j_bipush (pc := 20) dX10_pointAt_20 (v := 20) (by decide) ?_
          refine j_iload_n (pc := 22) dX10_pointAt_22 rfl ?_
          refine j_imul (pc := 23) dX10_pointAt_23 ?_
          refine j_iload_n (pc := 24) dX10_pointAt_24 rfl ?_
          refine j_iadd (pc := 25) dX10_pointAt_25 ?_
          refine j_goto (pc := 26) (tgt := 30) dX10_pointAt_26 (by decide) ?_
          obtain ⟨rfl, rfl⟩ := jretS h
          exact j_iret (pc := 30) rfl dX10_pointAt_30 (by decide) (by decide) rfl
