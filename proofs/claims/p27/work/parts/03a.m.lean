/-! methods: written by wip/p27/make.py -/
def wsJ7_fill_53178 : List Cond := Cond.code yJ7_fill_53178 cJ7_fill_53178 4 none :: jW
def m_J7_fill_53178_l5 : Nat → Nat → Int32 → Int32 → Int32 → LWd → Option LWd
  | 0, _, _, _, _, _ => none
  | fu + 1, a0, i1, i2, i3, ws =>
    if i3 ≤ i2 then
      some ws
    else
      (sI ws a0 i2 i1).bind fun w2 =>
      m_J7_fill_53178_l5 fu a0 i1 (i2 + 1) i3 w2
set_option maxRecDepth 100000 in
set_option maxHeartbeats 4000000 in
theorem jm_J7_fill_53178_l5 {n0 : Nat} {ws' : LWd} : ∀ (fu : Nat) (a0 : Nat) (i1 : Int32) (i2 : Int32) (i3 : Int32) (ws : LWd), m_J7_fill_53178_l5 fu a0 i1 i2 i3 ws = some ws' → JG (.inl false) cJ7_fill_53178 4 RJ7 wsJ7_fill_53178 none "fill" 0 0 0 n0 (.inl none, ws') 5 [some (.ref a0), some (.int i1), some (.int i2), some (.int i3)] [] ws 0 0 := by
  intro fu
  induction fu with
  | zero => intro a0 i1 i2 i3 ws h; first | (cases h; done) | (rw [m_J7_fill_53178_l5] at h; cases h)
  | succ fu ih =>
    intro a0 i1 i2 i3 ws h
    rw [m_J7_fill_53178_l5] at h
    refine j_iload_n (pc := 5) dJ7_fill_53178_5 rfl ?_
    refine j_iload_n (pc := 6) dJ7_fill_53178_6 rfl ?_
    refine j_icmp_ge (pc := 7) (tgt := 20) dJ7_fill_53178_7 (by decide) (fun c1 => ?_) (fun c1 => ?_)
    · rw [if_pos c1] at h
      cases h
      exact j_vret (pc := 20) rfl dJ7_fill_53178_20 (by decide) (by decide) rfl
    · rw [if_neg c1] at h
      refine j_aload_n (pc := 10) dJ7_fill_53178_10 rfl ?_
      refine j_iload_n (pc := 11) dJ7_fill_53178_11 rfl ?_
      refine j_iload_n (pc := 12) dJ7_fill_53178_12 rfl ?_
      obtain ⟨w2, e3, h⟩ := obS h
      refine j_iast (pc := 13) dJ7_fill_53178_13 e3 ?_
      refine j_iinc_2 (pc := 14) dJ7_fill_53178_14 (y := i2 + 1) rfl (by decide) rfl ?_
      refine j_goto (pc := 17) (tgt := 5) dJ7_fill_53178_17 (by decide) ?_
      exact ih _ _ _ _ w2 h
def m_J7_fill_53178 (a0 : Nat) (i1 : Int32) (ws : LWd) : Option LWd :=
  (aL ws a0).bind fun x1 =>
  m_J7_fill_53178_l5 FU a0 i1 0 x1 ws
set_option maxRecDepth 100000 in
set_option maxHeartbeats 4000000 in
theorem s_J7_fill_53178 {a0 : Nat} {i1 : Int32} {ws : LWd} {ws' : LWd} (h : m_J7_fill_53178 a0 i1 ws = some ws') : jSp yJ7_fill_53178 wsJ7_fill_53178 0 0 0 [.ref a0, .int i1] ws (.inl none, ws') := by
  unfold m_J7_fill_53178 at h
  refine j_entry (ret := none) (nm := "fill") (own := RJ7) pl_J7 rfl rfl rfl (jcats (by rfl)) (Nat.le_of_ble_eq_true rfl) ?_
  show JG (.inl false) cJ7_fill_53178 4 RJ7 wsJ7_fill_53178 none "fill" 0 0 0 ws.length (.inl none, ws') 0 [some (.ref a0), some (.int i1), none, none] [] ws 0 0
  refine j_iconst (pc := 0) dJ7_fill_53178_0 (v := 0) (by decide) ?_
  refine j_istore_n_2 (pc := 1) dJ7_fill_53178_1 (by decide) rfl ?_
  refine j_aload_n (pc := 2) dJ7_fill_53178_2 rfl ?_
  obtain ⟨x1, e2, h⟩ := obS h
  refine j_alen (pc := 3) dJ7_fill_53178_3 e2 ?_
  refine j_istore_n_3 (pc := 4) dJ7_fill_53178_4 (by decide) rfl ?_
  exact jm_J7_fill_53178_l5 FU _ _ _ _ ws h
def wsX8_init : List Cond := Cond.code yX8_init cX8_init 3 none :: jW
def m_X8_init_b14 (a0 : Nat) (i2 : Int32) (s0 : Nat) (s1 : Int32) (ws : LWd) : Option LWd :=
  bn2 (nA ws [some (.ref a0), none, some (.int i2)] [.ref s0] 400 s1) fun q1 w2 =>
  (pV w2 s0 8 0 (.ref q1)).bind fun w4 =>
  (fR w4 a0 8 0).bind fun x6 =>
  (calSV w4 (m_J7_fill_53178 x6 i2 w4)).bind fun w8 =>
  some w8
set_option maxRecDepth 100000 in
set_option maxHeartbeats 4000000 in
theorem jm_X8_init_b14 {n0 : Nat} {ws' : LWd} (a0 : Nat) (i2 : Int32) (s0 : Nat) (s1 : Int32) (ws : LWd) (h : m_X8_init_b14 a0 i2 s0 s1 ws = some ws') : JG (.inl false) cX8_init 3 RX8 wsX8_init none "<init>" 1 1 400 n0 (.inl none, ws') 14 [some (.ref a0), none, some (.int i2)] [.int s1, .ref s0] ws 0 0 := by
  unfold m_X8_init_b14 at h
  obtain ⟨q1, w2, e3, h⟩ := obS2 h
  refine j_newA (pc := 14) (B := 400) (jwm lw_0) dX8_init_14 (by decide) (by decide) (by decide) e3 ?_
  obtain ⟨w4, e5, h⟩ := obS h
  refine j_putF (pc := 16) (ci := 8) (kf := 0) tyX8 tyX8_ok nmX8 dX8_init_16 rfl (jwi hw_X8) (by decide) (jwm lw_1) rfl rfl rfl (fun _ => rfl) (fun _ => rfl) e5 ?_
  refine j_aload_n (pc := 19) dX8_init_19 rfl ?_
  obtain ⟨x6, e7, h⟩ := obS h
  refine j_getR (pc := 20) dX8_init_20 (ci := 8) (kf := 0) rfl (jwi hw_X8) (by decide) (jwm lw_1) e7 ?_
  refine j_iload_n (pc := 23) dX8_init_23 rfl ?_
  obtain ⟨w8, e9, h⟩ := obS h
  have ge9 := calSV_of e9
  refine j_callS_g (pc := 24) (As := [.ref x6, .int i2]) (k' := 1) (n' := 400) dX8_init_24 (s_J7_fill_53178 ge9.1) (jgS lw_3 lw_4 lw_5 lw_2) rfl hy_J7_fill_53178 rfl (by decide) (by decide) (Nat.le_of_ble_eq_true rfl) (by decide) (by decide) (by decide) (by decide) (Or.inl ge9.2) ?_
  cases h
  exact j_vret (pc := 27) rfl dX8_init_27 (by decide) (by decide) rfl
def m_X8_init (a0 : Nat) (i1 : Int32) (i2 : Int32) (ws : LWd) : Option LWd :=
  (rcv ws a0 8).bind fun _ =>
  if 0 ≤ i1 then
    m_X8_init_b14 a0 i2 a0 i1 ws
  else
    m_X8_init_b14 a0 i2 a0 0 ws
set_option maxRecDepth 100000 in
set_option maxHeartbeats 4000000 in
theorem s_X8_init {a0 : Nat} {i1 : Int32} {i2 : Int32} {ws : LWd} {ws' : LWd} (h : m_X8_init a0 i1 i2 ws = some ws') : jSp yX8_init wsX8_init 1 1 400 [.ref a0, .int i1, .int i2] ws (.inl none, ws') := by
  unfold m_X8_init at h
  refine j_entry (ret := none) (nm := "<init>") (own := RX8) pl_X8 rfl rfl rfl (jcats (by rfl)) (Nat.le_of_ble_eq_true rfl) ?_
  show JG (.inl false) cX8_init 3 RX8 wsX8_init none "<init>" 1 1 400 ws.length (.inl none, ws') 0 [some (.ref a0), some (.int i1), some (.int i2)] [] ws 0 0
  obtain ⟨_, _, h⟩ := obS h
  refine j_aload_n (pc := 0) dX8_init_0 rfl ?_
  refine j_objInit (pc := 1) dX8_init_1 (jwm lw_6) (jwm lw_7) (jwm lw_8) (by decide) (Nat.le_of_ble_eq_true rfl) ?_
  refine j_aload_n (pc := 4) dX8_init_4 rfl ?_
  refine j_iload_n (pc := 5) dX8_init_5 rfl ?_
  refine j_if_ge (pc := 6) (tgt := 13) dX8_init_6 (by decide) (fun c1 => ?_) (fun c1 => ?_)
  · rw [if_pos c1] at h
    refine j_iload_n (pc := 13) dX8_init_13 rfl ?_
    refine j_mask [true, false, true] ?_
    exact jm_X8_init_b14 _ _ _ _ ws h
  · rw [if_neg c1] at h
    refine j_iconst (pc := 9) dX8_init_9 (v := 0) (by decide) ?_
    refine j_goto (pc := 10) (tgt := 14) dX8_init_10 (by decide) ?_
    refine j_mask [true, false, true] ?_
    exact jm_X8_init_b14 _ _ _ _ ws h
theorem r_X8_init {a0 : Nat} {i1 : Int32} {i2 : Int32} {ws : LWd} {o : LWd} (h : m_X8_init a0 i1 i2 ws = some o) : ∃ fs, ws[a0]? = some (.inr (8, fs)) := rcv_in h
def wsX4_init : List Cond := Cond.code yX4_init cX4_init 1 none :: jW
def m_X4_init (a0 : Nat) (ws : LWd) : Option LWd :=
  (rcv ws a0 4).bind fun _ =>
  bn2 (nO ws [some (.ref a0)] [.ref a0] 8 [.null]) fun q1 w2 =>
  (calGV w2 [some (.ref a0)] [.ref q1, .ref a0] (m_X8_init q1 7 ((-1)) w2)).bind fun w4 =>
  (pV w4 a0 4 0 (.ref q1)).bind fun w6 =>
  bn2 (nO w6 [some (.ref a0)] [.ref a0] 8 [.null]) fun q8 w9 =>
  (calGV w9 [some (.ref a0)] [.ref q8, .ref a0] (m_X8_init q8 6 ((-1)) w9)).bind fun w11 =>
  (pV w11 a0 4 1 (.ref q8)).bind fun w13 =>
  (pV w13 a0 4 2 (.int 0)).bind fun w15 =>
  some w15
set_option maxRecDepth 100000 in
set_option maxHeartbeats 4000000 in
theorem s_X4_init {a0 : Nat} {ws : LWd} {ws' : LWd} (h : m_X4_init a0 ws = some ws') : jSp yX4_init wsX4_init 2 4 802 [.ref a0] ws (.inl none, ws') := by
  unfold m_X4_init at h
  refine j_entry (ret := none) (nm := "<init>") (own := RX4) pl_X4 rfl rfl rfl (jcats (by rfl)) (Nat.le_of_ble_eq_true rfl) ?_
  show JG (.inl false) cX4_init 1 RX4 wsX4_init none "<init>" 2 4 802 ws.length (.inl none, ws') 0 [some (.ref a0)] [] ws 0 0
  obtain ⟨_, _, h⟩ := obS h
  refine j_aload_n (pc := 0) dX4_init_0 rfl ?_
  refine j_objInit (pc := 1) dX4_init_1 (jwm lw_9) (jwm lw_7) (jwm lw_8) (by decide) (Nat.le_of_ble_eq_true rfl) ?_
  refine j_aload_n (pc := 4) dX4_init_4 rfl ?_
  obtain ⟨q1, w2, e3, h⟩ := obS2 h
  refine j_new (pc := 5) (ci := 8) (N := 1) (C := RX8) (T := TX8) tyX8 tyX8_ok dX4_init_5 rfl (jwi hw_X8) (jwm lw_10) (jwm lw_11) (jwm lw_12) (fun j hj => by rcases (show j = 0 by omega) with rfl <;> rfl) (fun _ => rfl) (by decide) (by decide) e3 ?_
  refine j_dup (pc := 8) dX4_init_8 rfl ?_
  refine j_bipush (pc := 9) dX4_init_9 (v := 7) (by decide) ?_
  refine j_iconst (pc := 11) dX4_init_11 (v := (-1)) (by decide) ?_
  obtain ⟨w4, e5, h⟩ := obS h
  have ge5 := calGV_of e5
  refine j_callI_g (pc := 12) (As := [.int 7, .int ((-1))]) (k' := 2) (n' := 401) dX4_init_12 (s_X8_init ge5.1) (jgP lw_13) (jwm lw_12) (jwm lw_14) (jwm lw_15) rfl rfl hy_X8_init rfl (by decide) (by decide) (Nat.le_of_ble_eq_true rfl) (by decide) (by decide) (by decide) (by decide) ge5.2 ?_
  obtain ⟨w6, e7, h⟩ := obS h
  refine j_putF (pc := 15) (ci := 4) (kf := 0) tyX4 tyX4_ok nmX4 dX4_init_15 rfl (jwi hw_X4) (by decide) (jwm lw_16) rfl rfl rfl (fun _ => rfl) (fun _ => rfl) e7 ?_
  refine j_aload_n (pc := 18) dX4_init_18 rfl ?_
  obtain ⟨q8, w9, e10, h⟩ := obS2 h
  refine j_new (pc := 19) (ci := 8) (N := 1) (C := RX8) (T := TX8) tyX8 tyX8_ok dX4_init_19 rfl (jwi hw_X8) (jwm lw_10) (jwm lw_11) (jwm lw_12) (fun j hj => by rcases (show j = 0 by omega) with rfl <;> rfl) (fun _ => rfl) (by decide) (by decide) e10 ?_
  refine j_dup (pc := 22) dX4_init_22 rfl ?_
  refine j_bipush (pc := 23) dX4_init_23 (v := 6) (by decide) ?_
  refine j_iconst (pc := 25) dX4_init_25 (v := (-1)) (by decide) ?_
  obtain ⟨w11, e12, h⟩ := obS h
  have ge12 := calGV_of e12
  refine j_callI_g (pc := 26) (As := [.int 6, .int ((-1))]) (k' := 4) (n' := 802) dX4_init_26 (s_X8_init ge12.1) (jgP lw_13) (jwm lw_12) (jwm lw_14) (jwm lw_15) rfl rfl hy_X8_init rfl (by decide) (by decide) (Nat.le_of_ble_eq_true rfl) (by decide) (by decide) (by decide) (by decide) ge12.2 ?_
  obtain ⟨w13, e14, h⟩ := obS h
  refine j_putF (pc := 29) (ci := 4) (kf := 1) tyX4 tyX4_ok nmX4 dX4_init_29 rfl (jwi hw_X4) (by decide) (jwm lw_17) rfl rfl rfl (fun _ => rfl) (fun _ => rfl) e14 ?_
  refine j_aload_n (pc := 32) dX4_init_32 rfl ?_
  refine j_iconst (pc := 33) dX4_init_33 (v := 0) (by decide) ?_
  obtain ⟨w15, e16, h⟩ := obS h
  refine j_putV (pc := 34) (ci := 4) (kf := 2) tyX4 tyX4_ok nmX4 dX4_init_34 rfl (jwi hw_X4) (by decide) (jwm lw_18) rfl (fun _ => rfl) (fun _ => rfl) e16 ?_
  cases h
  exact j_vret (pc := 37) rfl dX4_init_37 (by decide) (by decide) rfl
theorem r_X4_init {a0 : Nat} {ws : LWd} {o : LWd} (h : m_X4_init a0 ws = some o) : ∃ fs, ws[a0]? = some (.inr (4, fs)) := rcv_in h
def wsX5_init : List Cond := Cond.code yX5_init cX5_init 1 none :: jW
def m_X5_init (a0 : Nat) (ws : LWd) : Option LWd :=
  (rcv ws a0 5).bind fun _ =>
  bn2 (nO ws [some (.ref a0)] [.ref a0] 8 [.null]) fun q1 w2 =>
  (calGV w2 [some (.ref a0)] [.ref q1, .ref a0] (m_X8_init q1 400 0 w2)).bind fun w4 =>
  (pV w4 a0 5 0 (.ref q1)).bind fun w6 =>
  bn2 (nO w6 [some (.ref a0)] [.ref a0] 8 [.null]) fun q8 w9 =>
  (calGV w9 [some (.ref a0)] [.ref q8, .ref a0] (m_X8_init q8 400 99 w9)).bind fun w11 =>
  (pV w11 a0 5 1 (.ref q8)).bind fun w13 =>
  bn2 (nO w13 [some (.ref a0)] [.ref a0] 8 [.null]) fun q15 w16 =>
  (calGV w16 [some (.ref a0)] [.ref q15, .ref a0] (m_X8_init q15 400 9 w16)).bind fun w18 =>
  (pV w18 a0 5 2 (.ref q15)).bind fun w20 =>
  bn2 (nO w20 [some (.ref a0)] [.ref a0] 8 [.null]) fun q22 w23 =>
  (calGV w23 [some (.ref a0)] [.ref q22, .ref a0] (m_X8_init q22 400 0 w23)).bind fun w25 =>
  (pV w25 a0 5 3 (.ref q22)).bind fun w27 =>
  some w27
set_option maxRecDepth 100000 in
set_option maxHeartbeats 4000000 in
theorem s_X5_init {a0 : Nat} {ws : LWd} {ws' : LWd} (h : m_X5_init a0 ws = some ws') : jSp yX5_init wsX5_init 2 8 1604 [.ref a0] ws (.inl none, ws') := by
  unfold m_X5_init at h
  refine j_entry (ret := none) (nm := "<init>") (own := RX5) pl_X5 rfl rfl rfl (jcats (by rfl)) (Nat.le_of_ble_eq_true rfl) ?_
  show JG (.inl false) cX5_init 1 RX5 wsX5_init none "<init>" 2 8 1604 ws.length (.inl none, ws') 0 [some (.ref a0)] [] ws 0 0
  obtain ⟨_, _, h⟩ := obS h
  refine j_aload_n (pc := 0) dX5_init_0 rfl ?_
  refine j_objInit (pc := 1) dX5_init_1 (jwm lw_19) (jwm lw_7) (jwm lw_8) (by decide) (Nat.le_of_ble_eq_true rfl) ?_
  refine j_aload_n (pc := 4) dX5_init_4 rfl ?_
  obtain ⟨q1, w2, e3, h⟩ := obS2 h
  refine j_new (pc := 5) (ci := 8) (N := 1) (C := RX8) (T := TX8) tyX8 tyX8_ok dX5_init_5 rfl (jwi hw_X8) (jwm lw_20) (jwm lw_11) (jwm lw_12) (fun j hj => by rcases (show j = 0 by omega) with rfl <;> rfl) (fun _ => rfl) (by decide) (by decide) e3 ?_
  refine j_dup (pc := 8) dX5_init_8 rfl ?_
  refine j_sipush (pc := 9) dX5_init_9 (v := 400) (by decide) ?_
  refine j_iconst (pc := 12) dX5_init_12 (v := 0) (by decide) ?_
  obtain ⟨w4, e5, h⟩ := obS h
  have ge5 := calGV_of e5
  refine j_callI_g (pc := 13) (As := [.int 400, .int 0]) (k' := 2) (n' := 401) dX5_init_13 (s_X8_init ge5.1) (jgP lw_13) (jwm lw_12) (jwm lw_21) (jwm lw_15) rfl rfl hy_X8_init rfl (by decide) (by decide) (Nat.le_of_ble_eq_true rfl) (by decide) (by decide) (by decide) (by decide) ge5.2 ?_
  obtain ⟨w6, e7, h⟩ := obS h
  refine j_putF (pc := 16) (ci := 5) (kf := 0) tyX5 tyX5_ok nmX5 dX5_init_16 rfl (jwi hw_X5) (by decide) (jwm lw_22) rfl rfl rfl (fun _ => rfl) (fun _ => rfl) e7 ?_
  refine j_aload_n (pc := 19) dX5_init_19 rfl ?_
  obtain ⟨q8, w9, e10, h⟩ := obS2 h
  refine j_new (pc := 20) (ci := 8) (N := 1) (C := RX8) (T := TX8) tyX8 tyX8_ok dX5_init_20 rfl (jwi hw_X8) (jwm lw_20) (jwm lw_11) (jwm lw_12) (fun j hj => by rcases (show j = 0 by omega) with rfl <;> rfl) (fun _ => rfl) (by decide) (by decide) e10 ?_
  refine j_dup (pc := 23) dX5_init_23 rfl ?_
  refine j_sipush (pc := 24) dX5_init_24 (v := 400) (by decide) ?_
  refine j_bipush (pc := 27) dX5_init_27 (v := 99) (by decide) ?_
  obtain ⟨w11, e12, h⟩ := obS h
  have ge12 := calGV_of e12
  refine j_callI_g (pc := 29) (As := [.int 400, .int 99]) (k' := 4) (n' := 802) dX5_init_29 (s_X8_init ge12.1) (jgP lw_13) (jwm lw_12) (jwm lw_21) (jwm lw_15) rfl rfl hy_X8_init rfl (by decide) (by decide) (Nat.le_of_ble_eq_true rfl) (by decide) (by decide) (by decide) (by decide) ge12.2 ?_
  obtain ⟨w13, e14, h⟩ := obS h
  refine j_putF (pc := 32) (ci := 5) (kf := 1) tyX5 tyX5_ok nmX5 dX5_init_32 rfl (jwi hw_X5) (by decide) (jwm lw_23) rfl rfl rfl (fun _ => rfl) (fun _ => rfl) e14 ?_
  refine j_aload_n (pc := 35) dX5_init_35 rfl ?_
  obtain ⟨q15, w16, e17, h⟩ := obS2 h
  refine j_new (pc := 36) (ci := 8) (N := 1) (C := RX8) (T := TX8) tyX8 tyX8_ok dX5_init_36 rfl (jwi hw_X8) (jwm lw_20) (jwm lw_11) (jwm lw_12) (fun j hj => by rcases (show j = 0 by omega) with rfl <;> rfl) (fun _ => rfl) (by decide) (by decide) e17 ?_
  refine j_dup (pc := 39) dX5_init_39 rfl ?_
  refine j_sipush (pc := 40) dX5_init_40 (v := 400) (by decide) ?_
  refine j_bipush (pc := 43) dX5_init_43 (v := 9) (by decide) ?_
  obtain ⟨w18, e19, h⟩ := obS h
  have ge19 := calGV_of e19
  refine j_callI_g (pc := 45) (As := [.int 400, .int 9]) (k' := 6) (n' := 1203) dX5_init_45 (s_X8_init ge19.1) (jgP lw_13) (jwm lw_12) (jwm lw_21) (jwm lw_15) rfl rfl hy_X8_init rfl (by decide) (by decide) (Nat.le_of_ble_eq_true rfl) (by decide) (by decide) (by decide) (by decide) ge19.2 ?_
  obtain ⟨w20, e21, h⟩ := obS h
  refine j_putF (pc := 48) (ci := 5) (kf := 2) tyX5 tyX5_ok nmX5 dX5_init_48 rfl (jwi hw_X5) (by decide) (jwm lw_24) rfl rfl rfl (fun _ => rfl) (fun _ => rfl) e21 ?_
  refine j_aload_n (pc := 51) dX5_init_51 rfl ?_
  obtain ⟨q22, w23, e24, h⟩ := obS2 h
  refine j_new (pc := 52) (ci := 8) (N := 1) (C := RX8) (T := TX8) tyX8 tyX8_ok dX5_init_52 rfl (jwi hw_X8) (jwm lw_20) (jwm lw_11) (jwm lw_12) (fun j hj => by rcases (show j = 0 by omega) with rfl <;> rfl) (fun _ => rfl) (by decide) (by decide) e24 ?_
  refine j_dup (pc := 55) dX5_init_55 rfl ?_
  refine j_sipush (pc := 56) dX5_init_56 (v := 400) (by decide) ?_
  refine j_iconst (pc := 59) dX5_init_59 (v := 0) (by decide) ?_
  obtain ⟨w25, e26, h⟩ := obS h
  have ge26 := calGV_of e26
  refine j_callI_g (pc := 60) (As := [.int 400, .int 0]) (k' := 8) (n' := 1604) dX5_init_60 (s_X8_init ge26.1) (jgP lw_13) (jwm lw_12) (jwm lw_21) (jwm lw_15) rfl rfl hy_X8_init rfl (by decide) (by decide) (Nat.le_of_ble_eq_true rfl) (by decide) (by decide) (by decide) (by decide) ge26.2 ?_
  obtain ⟨w27, e28, h⟩ := obS h
  refine j_putF (pc := 63) (ci := 5) (kf := 3) tyX5 tyX5_ok nmX5 dX5_init_63 rfl (jwi hw_X5) (by decide) (jwm lw_25) rfl rfl rfl (fun _ => rfl) (fun _ => rfl) e28 ?_
  cases h
  exact j_vret (pc := 66) rfl dX5_init_66 (by decide) (by decide) rfl
theorem r_X5_init {a0 : Nat} {ws : LWd} {o : LWd} (h : m_X5_init a0 ws = some o) : ∃ fs, ws[a0]? = some (.inr (5, fs)) := rcv_in h
def wsX2_init : List Cond := Cond.code yX2_init cX2_init 1 none :: jW
def m_X2_init (a0 : Nat) (ws : LWd) : Option LWd :=
  (rcv ws a0 2).bind fun _ =>
  bn2 (nO ws [some (.ref a0)] [.ref a0] 8 [.null]) fun q1 w2 =>
  (calGV w2 [some (.ref a0)] [.ref q1, .ref a0] (m_X8_init q1 6 0 w2)).bind fun w4 =>
  (pV w4 a0 2 0 (.ref q1)).bind fun w6 =>
  bn2 (nO w6 [some (.ref a0)] [.ref a0] 8 [.null]) fun q8 w9 =>
  (calGV w9 [some (.ref a0)] [.ref q8, .ref a0] (m_X8_init q8 6 0 w9)).bind fun w11 =>
  (pV w11 a0 2 1 (.ref q8)).bind fun w13 =>
  bn2 (nO w13 [some (.ref a0)] [.ref a0] 8 [.null]) fun q15 w16 =>
  (calGV w16 [some (.ref a0)] [.ref q15, .ref a0] (m_X8_init q15 6 0 w16)).bind fun w18 =>
  (pV w18 a0 2 2 (.ref q15)).bind fun w20 =>
  (pV w20 a0 2 3 (.int 0)).bind fun w22 =>
  (pV w22 a0 2 4 (.int 0)).bind fun w24 =>
  (pV w24 a0 2 5 (.int 0)).bind fun w26 =>
  (pV w26 a0 2 6 (.int 0)).bind fun w28 =>
  some w28
set_option maxRecDepth 100000 in
set_option maxHeartbeats 4000000 in
theorem s_X2_init {a0 : Nat} {ws : LWd} {ws' : LWd} (h : m_X2_init a0 ws = some ws') : jSp yX2_init wsX2_init 2 6 1203 [.ref a0] ws (.inl none, ws') := by
  unfold m_X2_init at h
  refine j_entry (ret := none) (nm := "<init>") (own := RX2) pl_X2 rfl rfl rfl (jcats (by rfl)) (Nat.le_of_ble_eq_true rfl) ?_
  show JG (.inl false) cX2_init 1 RX2 wsX2_init none "<init>" 2 6 1203 ws.length (.inl none, ws') 0 [some (.ref a0)] [] ws 0 0
  obtain ⟨_, _, h⟩ := obS h
  refine j_aload_n (pc := 0) dX2_init_0 rfl ?_
  refine j_objInit (pc := 1) dX2_init_1 (jwm lw_26) (jwm lw_7) (jwm lw_8) (by decide) (Nat.le_of_ble_eq_true rfl) ?_
  refine j_aload_n (pc := 4) dX2_init_4 rfl ?_
  obtain ⟨q1, w2, e3, h⟩ := obS2 h
  refine j_new (pc := 5) (ci := 8) (N := 1) (C := RX8) (T := TX8) tyX8 tyX8_ok dX2_init_5 rfl (jwi hw_X8) (jwm lw_27) (jwm lw_11) (jwm lw_12) (fun j hj => by rcases (show j = 0 by omega) with rfl <;> rfl) (fun _ => rfl) (by decide) (by decide) e3 ?_
  refine j_dup (pc := 8) dX2_init_8 rfl ?_
  refine j_bipush (pc := 9) dX2_init_9 (v := 6) (by decide) ?_
  refine j_iconst (pc := 11) dX2_init_11 (v := 0) (by decide) ?_
  obtain ⟨w4, e5, h⟩ := obS h
  have ge5 := calGV_of e5
  refine j_callI_g (pc := 12) (As := [.int 6, .int 0]) (k' := 2) (n' := 401) dX2_init_12 (s_X8_init ge5.1) (jgP lw_13) (jwm lw_12) (jwm lw_28) (jwm lw_15) rfl rfl hy_X8_init rfl (by decide) (by decide) (Nat.le_of_ble_eq_true rfl) (by decide) (by decide) (by decide) (by decide) ge5.2 ?_
  obtain ⟨w6, e7, h⟩ := obS h
  refine j_putF (pc := 15) (ci := 2) (kf := 0) tyX2 tyX2_ok nmX2 dX2_init_15 rfl (jwi hw_X2) (by decide) (jwm lw_29) rfl rfl rfl (fun _ => rfl) (fun _ => rfl) e7 ?_
  refine j_aload_n (pc := 18) dX2_init_18 rfl ?_
  obtain ⟨q8, w9, e10, h⟩ := obS2 h
  refine j_new (pc := 19) (ci := 8) (N := 1) (C := RX8) (T := TX8) tyX8 tyX8_ok dX2_init_19 rfl (jwi hw_X8) (jwm lw_27) (jwm lw_11) (jwm lw_12) (fun j hj => by rcases (show j = 0 by omega) with rfl <;> rfl) (fun _ => rfl) (by decide) (by decide) e10 ?_
  refine j_dup (pc := 22) dX2_init_22 rfl ?_
  refine j_bipush (pc := 23) dX2_init_23 (v := 6) (by decide) ?_
  refine j_iconst (pc := 25) dX2_init_25 (v := 0) (by decide) ?_
  obtain ⟨w11, e12, h⟩ := obS h
  have ge12 := calGV_of e12
  refine j_callI_g (pc := 26) (As := [.int 6, .int 0]) (k' := 4) (n' := 802) dX2_init_26 (s_X8_init ge12.1) (jgP lw_13) (jwm lw_12) (jwm lw_28) (jwm lw_15) rfl rfl hy_X8_init rfl (by decide) (by decide) (Nat.le_of_ble_eq_true rfl) (by decide) (by decide) (by decide) (by decide) ge12.2 ?_
  obtain ⟨w13, e14, h⟩ := obS h
  refine j_putF (pc := 29) (ci := 2) (kf := 1) tyX2 tyX2_ok nmX2 dX2_init_29 rfl (jwi hw_X2) (by decide) (jwm lw_30) rfl rfl rfl (fun _ => rfl) (fun _ => rfl) e14 ?_
  refine j_aload_n (pc := 32) dX2_init_32 rfl ?_
  obtain ⟨q15, w16, e17, h⟩ := obS2 h
  refine j_new (pc := 33) (ci := 8) (N := 1) (C := RX8) (T := TX8) tyX8 tyX8_ok dX2_init_33 rfl (jwi hw_X8) (jwm lw_27) (jwm lw_11) (jwm lw_12) (fun j hj => by rcases (show j = 0 by omega) with rfl <;> rfl) (fun _ => rfl) (by decide) (by decide) e17 ?_
  refine j_dup (pc := 36) dX2_init_36 rfl ?_
  refine j_bipush (pc := 37) dX2_init_37 (v := 6) (by decide) ?_
  refine j_iconst (pc := 39) dX2_init_39 (v := 0) (by decide) ?_
  obtain ⟨w18, e19, h⟩ := obS h
  have ge19 := calGV_of e19
  refine j_callI_g (pc := 40) (As := [.int 6, .int 0]) (k' := 6) (n' := 1203) dX2_init_40 (s_X8_init ge19.1) (jgP lw_13) (jwm lw_12) (jwm lw_28) (jwm lw_15) rfl rfl hy_X8_init rfl (by decide) (by decide) (Nat.le_of_ble_eq_true rfl) (by decide) (by decide) (by decide) (by decide) ge19.2 ?_
  obtain ⟨w20, e21, h⟩ := obS h
  refine j_putF (pc := 43) (ci := 2) (kf := 2) tyX2 tyX2_ok nmX2 dX2_init_43 rfl (jwi hw_X2) (by decide) (jwm lw_31) rfl rfl rfl (fun _ => rfl) (fun _ => rfl) e21 ?_
  refine j_aload_n (pc := 46) dX2_init_46 rfl ?_
  refine j_iconst (pc := 47) dX2_init_47 (v := 0) (by decide) ?_
  obtain ⟨w22, e23, h⟩ := obS h
  refine j_putV (pc := 48) (ci := 2) (kf := 3) tyX2 tyX2_ok nmX2 dX2_init_48 rfl (jwi hw_X2) (by decide) (jwm lw_32) rfl (fun _ => rfl) (fun _ => rfl) e23 ?_
  refine j_aload_n (pc := 51) dX2_init_51 rfl ?_
  refine j_iconst (pc := 52) dX2_init_52 (v := 0) (by decide) ?_
  obtain ⟨w24, e25, h⟩ := obS h
  refine j_putV (pc := 53) (ci := 2) (kf := 4) tyX2 tyX2_ok nmX2 dX2_init_53 rfl (jwi hw_X2) (by decide) (jwm lw_33) rfl (fun _ => rfl) (fun _ => rfl) e25 ?_
  refine j_aload_n (pc := 56) dX2_init_56 rfl ?_
  refine j_iconst (pc := 57) dX2_init_57 (v := 0) (by decide) ?_
  obtain ⟨w26, e27, h⟩ := obS h
  refine j_putV (pc := 58) (ci := 2) (kf := 5) tyX2 tyX2_ok nmX2 dX2_init_58 rfl (jwi hw_X2) (by decide) (jwm lw_34) rfl (fun _ => rfl) (fun _ => rfl) e27 ?_
  refine j_aload_n (pc := 61) dX2_init_61 rfl ?_
  refine j_iconst (pc := 62) dX2_init_62 (v := 0) (by decide) ?_
  obtain ⟨w28, e29, h⟩ := obS h
  refine j_putV (pc := 63) (ci := 2) (kf := 6) tyX2 tyX2_ok nmX2 dX2_init_63 rfl (jwi hw_X2) (by decide) (jwm lw_35) rfl (fun _ => rfl) (fun _ => rfl) e29 ?_
  cases h
  exact j_vret (pc := 66) rfl dX2_init_66 (by decide) (by decide) rfl
theorem r_X2_init {a0 : Nat} {ws : LWd} {o : LWd} (h : m_X2_init a0 ws = some o) : ∃ fs, ws[a0]? = some (.inr (2, fs)) := rcv_in h
def wsX9_init : List Cond := Cond.code yX9_init cX9_init 4 none :: jW
def m_X9_init (a0 : Nat) (a1 : Nat) (a2 : Nat) (a3 : Nat) (ws : LWd) : Option LWd :=
  (rcv ws a0 9).bind fun _ =>
  bn2 (nO ws [some (.ref a0), some (.ref a1), some (.ref a2), some (.ref a3)] [.ref a0] 8 [.null]) fun q1 w2 =>
  (calGV w2 [some (.ref a0), some (.ref a1), some (.ref a2), some (.ref a3)] [.ref q1, .ref a0] (m_X8_init q1 6 ((-1)) w2)).bind fun w4 =>
  (pV w4 a0 9 3 (.ref q1)).bind fun w6 =>
  (pV w6 a0 9 4 (.int 10)).bind fun w8 =>
  (pV w8 a0 9 5 (.int 10)).bind fun w10 =>
  (pV w10 a0 9 0 (.ref a1)).bind fun w12 =>
  (pV w12 a0 9 1 (.ref a2)).bind fun w14 =>
  (pV w14 a0 9 2 (.ref a3)).bind fun w16 =>
  some w16
set_option maxRecDepth 100000 in
set_option maxHeartbeats 4000000 in
theorem s_X9_init {a0 : Nat} {a1 : Nat} {a2 : Nat} {a3 : Nat} {ws : LWd} {ws' : LWd} (h : m_X9_init a0 a1 a2 a3 ws = some ws') : jSp yX9_init wsX9_init 2 2 401 [.ref a0, .ref a1, .ref a2, .ref a3] ws (.inl none, ws') := by
  unfold m_X9_init at h
  refine j_entry (ret := none) (nm := "<init>") (own := RX9) pl_X9 rfl rfl rfl (jcats (by rfl)) (Nat.le_of_ble_eq_true rfl) ?_
  show JG (.inl false) cX9_init 4 RX9 wsX9_init none "<init>" 2 2 401 ws.length (.inl none, ws') 0 [some (.ref a0), some (.ref a1), some (.ref a2), some (.ref a3)] [] ws 0 0
  obtain ⟨_, _, h⟩ := obS h
  refine j_aload_n (pc := 0) dX9_init_0 rfl ?_
  refine j_objInit (pc := 1) dX9_init_1 (jwm lw_36) (jwm lw_7) (jwm lw_8) (by decide) (Nat.le_of_ble_eq_true rfl) ?_
  refine j_aload_n (pc := 4) dX9_init_4 rfl ?_
  obtain ⟨q1, w2, e3, h⟩ := obS2 h
  refine j_new (pc := 5) (ci := 8) (N := 1) (C := RX8) (T := TX8) tyX8 tyX8_ok dX9_init_5 rfl (jwi hw_X8) (jwm lw_37) (jwm lw_11) (jwm lw_12) (fun j hj => by rcases (show j = 0 by omega) with rfl <;> rfl) (fun _ => rfl) (by decide) (by decide) e3 ?_
  refine j_dup (pc := 8) dX9_init_8 rfl ?_
  refine j_bipush (pc := 9) dX9_init_9 (v := 6) (by decide) ?_
  refine j_iconst (pc := 11) dX9_init_11 (v := (-1)) (by decide) ?_
  obtain ⟨w4, e5, h⟩ := obS h
  have ge5 := calGV_of e5
  refine j_callI_g (pc := 12) (As := [.int 6, .int ((-1))]) (k' := 2) (n' := 401) dX9_init_12 (s_X8_init ge5.1) (jgP lw_13) (jwm lw_12) (jwm lw_38) (jwm lw_15) rfl rfl hy_X8_init rfl (by decide) (by decide) (Nat.le_of_ble_eq_true rfl) (by decide) (by decide) (by decide) (by decide) ge5.2 ?_
  obtain ⟨w6, e7, h⟩ := obS h
  refine j_putF (pc := 15) (ci := 9) (kf := 3) tyX9 tyX9_ok nmX9 dX9_init_15 rfl (jwi hw_X9) (by decide) (jwm lw_39) rfl rfl rfl (fun _ => rfl) (fun _ => rfl) e7 ?_
  refine j_aload_n (pc := 18) dX9_init_18 rfl ?_
  refine j_bipush (pc := 19) dX9_init_19 (v := 10) (by decide) ?_
  obtain ⟨w8, e9, h⟩ := obS h
  refine j_putV (pc := 21) (ci := 9) (kf := 4) tyX9 tyX9_ok nmX9 dX9_init_21 rfl (jwi hw_X9) (by decide) (jwm lw_40) rfl (fun _ => rfl) (fun _ => rfl) e9 ?_
  refine j_aload_n (pc := 24) dX9_init_24 rfl ?_
  refine j_bipush (pc := 25) dX9_init_25 (v := 10) (by decide) ?_
  obtain ⟨w10, e11, h⟩ := obS h
  refine j_putV (pc := 27) (ci := 9) (kf := 5) tyX9 tyX9_ok nmX9 dX9_init_27 rfl (jwi hw_X9) (by decide) (jwm lw_41) rfl (fun _ => rfl) (fun _ => rfl) e11 ?_
  refine j_aload_n (pc := 30) dX9_init_30 rfl ?_
  refine j_aload_n (pc := 31) dX9_init_31 rfl ?_
  obtain ⟨w12, e13, h⟩ := obS h
  refine j_putF (pc := 32) (ci := 9) (kf := 0) tyX9 tyX9_ok nmX9 dX9_init_32 rfl (jwi hw_X9) (by decide) (jwm lw_42) rfl rfl rfl (fun _ => rfl) (fun _ => rfl) e13 ?_
  refine j_aload_n (pc := 35) dX9_init_35 rfl ?_
  refine j_aload_n (pc := 36) dX9_init_36 rfl ?_
  obtain ⟨w14, e15, h⟩ := obS h
  refine j_putF (pc := 37) (ci := 9) (kf := 1) tyX9 tyX9_ok nmX9 dX9_init_37 rfl (jwi hw_X9) (by decide) (jwm lw_43) rfl rfl rfl (fun _ => rfl) (fun _ => rfl) e15 ?_
  refine j_aload_n (pc := 40) dX9_init_40 rfl ?_
  refine j_aload_n (pc := 41) dX9_init_41 rfl ?_
  obtain ⟨w16, e17, h⟩ := obS h
  refine j_putF (pc := 42) (ci := 9) (kf := 2) tyX9 tyX9_ok nmX9 dX9_init_42 rfl (jwi hw_X9) (by decide) (jwm lw_44) rfl rfl rfl (fun _ => rfl) (fun _ => rfl) e17 ?_
  cases h
  exact j_vret (pc := 45) rfl dX9_init_45 (by decide) (by decide) rfl
theorem r_X9_init {a0 : Nat} {a1 : Nat} {a2 : Nat} {a3 : Nat} {ws : LWd} {o : LWd} (h : m_X9_init a0 a1 a2 a3 ws = some o) : ∃ fs, ws[a0]? = some (.inr (9, fs)) := rcv_in h
def wsX6_init : List Cond := Cond.code yX6_init cX6_init 1 none :: jW
def m_X6_init (a0 : Nat) (ws : LWd) : Option LWd :=
  (rcv ws a0 6).bind fun _ =>
  bn2 (nO ws [some (.ref a0)] [.ref a0] 8 [.null]) fun q1 w2 =>
  (calGV w2 [some (.ref a0)] [.ref q1, .ref a0] (m_X8_init q1 6 0 w2)).bind fun w4 =>
  (pV w4 a0 6 0 (.ref q1)).bind fun w6 =>
  bn2 (nO w6 [some (.ref a0)] [.ref a0] 8 [.null]) fun q8 w9 =>
  (calGV w9 [some (.ref a0)] [.ref q8, .ref a0] (m_X8_init q8 6 0 w9)).bind fun w11 =>
  (pV w11 a0 6 1 (.ref q8)).bind fun w13 =>
  (pV w13 a0 6 2 (.int 0)).bind fun w15 =>
  some w15
set_option maxRecDepth 100000 in
set_option maxHeartbeats 4000000 in
theorem s_X6_init {a0 : Nat} {ws : LWd} {ws' : LWd} (h : m_X6_init a0 ws = some ws') : jSp yX6_init wsX6_init 2 4 802 [.ref a0] ws (.inl none, ws') := by
  unfold m_X6_init at h
  refine j_entry (ret := none) (nm := "<init>") (own := RX6) pl_X6 rfl rfl rfl (jcats (by rfl)) (Nat.le_of_ble_eq_true rfl) ?_
  show JG (.inl false) cX6_init 1 RX6 wsX6_init none "<init>" 2 4 802 ws.length (.inl none, ws') 0 [some (.ref a0)] [] ws 0 0
  obtain ⟨_, _, h⟩ := obS h
  refine j_aload_n (pc := 0) dX6_init_0 rfl ?_
  refine j_objInit (pc := 1) dX6_init_1 (jwm lw_45) (jwm lw_7) (jwm lw_8) (by decide) (Nat.le_of_ble_eq_true rfl) ?_
  refine j_aload_n (pc := 4) dX6_init_4 rfl ?_
  obtain ⟨q1, w2, e3, h⟩ := obS2 h
  refine j_new (pc := 5) (ci := 8) (N := 1) (C := RX8) (T := TX8) tyX8 tyX8_ok dX6_init_5 rfl (jwi hw_X8) (jwm lw_46) (jwm lw_11) (jwm lw_12) (fun j hj => by rcases (show j = 0 by omega) with rfl <;> rfl) (fun _ => rfl) (by decide) (by decide) e3 ?_
  refine j_dup (pc := 8) dX6_init_8 rfl ?_
  refine j_bipush (pc := 9) dX6_init_9 (v := 6) (by decide) ?_
  refine j_iconst (pc := 11) dX6_init_11 (v := 0) (by decide) ?_
  obtain ⟨w4, e5, h⟩ := obS h
  have ge5 := calGV_of e5
  refine j_callI_g (pc := 12) (As := [.int 6, .int 0]) (k' := 2) (n' := 401) dX6_init_12 (s_X8_init ge5.1) (jgP lw_13) (jwm lw_12) (jwm lw_47) (jwm lw_15) rfl rfl hy_X8_init rfl (by decide) (by decide) (Nat.le_of_ble_eq_true rfl) (by decide) (by decide) (by decide) (by decide) ge5.2 ?_
  obtain ⟨w6, e7, h⟩ := obS h
  refine j_putF (pc := 15) (ci := 6) (kf := 0) tyX6 tyX6_ok nmX6 dX6_init_15 rfl (jwi hw_X6) (by decide) (jwm lw_48) rfl rfl rfl (fun _ => rfl) (fun _ => rfl) e7 ?_
  refine j_aload_n (pc := 18) dX6_init_18 rfl ?_
  obtain ⟨q8, w9, e10, h⟩ := obS2 h
  refine j_new (pc := 19) (ci := 8) (N := 1) (C := RX8) (T := TX8) tyX8 tyX8_ok dX6_init_19 rfl (jwi hw_X8) (jwm lw_46) (jwm lw_11) (jwm lw_12) (fun j hj => by rcases (show j = 0 by omega) with rfl <;> rfl) (fun _ => rfl) (by decide) (by decide) e10 ?_
  refine j_dup (pc := 22) dX6_init_22 rfl ?_
  refine j_bipush (pc := 23) dX6_init_23 (v := 6) (by decide) ?_
  refine j_iconst (pc := 25) dX6_init_25 (v := 0) (by decide) ?_
  obtain ⟨w11, e12, h⟩ := obS h
  have ge12 := calGV_of e12
  refine j_callI_g (pc := 26) (As := [.int 6, .int 0]) (k' := 4) (n' := 802) dX6_init_26 (s_X8_init ge12.1) (jgP lw_13) (jwm lw_12) (jwm lw_47) (jwm lw_15) rfl rfl hy_X8_init rfl (by decide) (by decide) (Nat.le_of_ble_eq_true rfl) (by decide) (by decide) (by decide) (by decide) ge12.2 ?_
  obtain ⟨w13, e14, h⟩ := obS h
  refine j_putF (pc := 29) (ci := 6) (kf := 1) tyX6 tyX6_ok nmX6 dX6_init_29 rfl (jwi hw_X6) (by decide) (jwm lw_49) rfl rfl rfl (fun _ => rfl) (fun _ => rfl) e14 ?_
  refine j_aload_n (pc := 32) dX6_init_32 rfl ?_
  refine j_iconst (pc := 33) dX6_init_33 (v := 0) (by decide) ?_
  obtain ⟨w15, e16, h⟩ := obS h
  refine j_putV (pc := 34) (ci := 6) (kf := 2) tyX6 tyX6_ok nmX6 dX6_init_34 rfl (jwi hw_X6) (by decide) (jwm lw_50) rfl (fun _ => rfl) (fun _ => rfl) e16 ?_
  cases h
  exact j_vret (pc := 37) rfl dX6_init_37 (by decide) (by decide) rfl
theorem r_X6_init {a0 : Nat} {ws : LWd} {o : LWd} (h : m_X6_init a0 ws = some o) : ∃ fs, ws[a0]? = some (.inr (6, fs)) := rcv_in h
def wsX0_init : List Cond := Cond.code yX0_init cX0_init 1 none :: jW
def m_X0_init (a0 : Nat) (ws : LWd) : Option LWd :=
  (rcv ws a0 0).bind fun _ =>
  (pV ws a0 0 0 (.int 0)).bind fun w1 =>
  (pV w1 a0 0 1 (.int 0)).bind fun w3 =>
  (pV w3 a0 0 2 (.int ((-1)))).bind fun w5 =>
  (pV w5 a0 0 3 (.int 0)).bind fun w7 =>
  some w7
set_option maxRecDepth 100000 in
set_option maxHeartbeats 4000000 in
theorem s_X0_init {a0 : Nat} {ws : LWd} {ws' : LWd} (h : m_X0_init a0 ws = some ws') : jSp yX0_init wsX0_init 1 0 0 [.ref a0] ws (.inl none, ws') := by
  unfold m_X0_init at h
  refine j_entry (ret := none) (nm := "<init>") (own := RX0) pl_X0 rfl rfl rfl (jcats (by rfl)) (Nat.le_of_ble_eq_true rfl) ?_
  show JG (.inl false) cX0_init 1 RX0 wsX0_init none "<init>" 1 0 0 ws.length (.inl none, ws') 0 [some (.ref a0)] [] ws 0 0
  obtain ⟨_, _, h⟩ := obS h
  refine j_aload_n (pc := 0) dX0_init_0 rfl ?_
  refine j_objInit (pc := 1) dX0_init_1 (jwm lw_51) (jwm lw_7) (jwm lw_8) (by decide) (Nat.le_of_ble_eq_true rfl) ?_
  refine j_aload_n (pc := 4) dX0_init_4 rfl ?_
  refine j_iconst (pc := 5) dX0_init_5 (v := 0) (by decide) ?_
  obtain ⟨w1, e2, h⟩ := obS h
  refine j_putV (pc := 6) (ci := 0) (kf := 0) tyX0 tyX0_ok nmX0 dX0_init_6 rfl (jwi hw_X0) (by decide) (jwm lw_52) rfl (fun _ => rfl) (fun _ => rfl) e2 ?_
  refine j_aload_n (pc := 9) dX0_init_9 rfl ?_
  refine j_iconst (pc := 10) dX0_init_10 (v := 0) (by decide) ?_
  obtain ⟨w3, e4, h⟩ := obS h
  refine j_putV (pc := 11) (ci := 0) (kf := 1) tyX0 tyX0_ok nmX0 dX0_init_11 rfl (jwi hw_X0) (by decide) (jwm lw_53) rfl (fun _ => rfl) (fun _ => rfl) e4 ?_
  refine j_aload_n (pc := 14) dX0_init_14 rfl ?_
  refine j_iconst (pc := 15) dX0_init_15 (v := (-1)) (by decide) ?_
  obtain ⟨w5, e6, h⟩ := obS h
  refine j_putV (pc := 16) (ci := 0) (kf := 2) tyX0 tyX0_ok nmX0 dX0_init_16 rfl (jwi hw_X0) (by decide) (jwm lw_54) rfl (fun _ => rfl) (fun _ => rfl) e6 ?_
  refine j_aload_n (pc := 19) dX0_init_19 rfl ?_
  refine j_iconst (pc := 20) dX0_init_20 (v := 0) (by decide) ?_
  obtain ⟨w7, e8, h⟩ := obS h
  refine j_putV (pc := 21) (ci := 0) (kf := 3) tyX0 tyX0_ok nmX0 dX0_init_21 rfl (jwi hw_X0) (by decide) (jwm lw_55) rfl (fun _ => rfl) (fun _ => rfl) e8 ?_
  cases h
  exact j_vret (pc := 24) rfl dX0_init_24 (by decide) (by decide) rfl
theorem r_X0_init {a0 : Nat} {ws : LWd} {o : LWd} (h : m_X0_init a0 ws = some o) : ∃ fs, ws[a0]? = some (.inr (0, fs)) := rcv_in h
def wsX1_init : List Cond := Cond.code yX1_init cX1_init 1 none :: jW
def m_X1_init (a0 : Nat) (ws : LWd) : Option LWd :=
  (rcv ws a0 1).bind fun _ =>
  bn2 (nO ws [some (.ref a0)] [.ref a0] 8 [.null]) fun q1 w2 =>
  (calGV w2 [some (.ref a0)] [.ref q1, .ref a0] (m_X8_init q1 40 0 w2)).bind fun w4 =>
  (pV w4 a0 1 0 (.ref q1)).bind fun w6 =>
  bn2 (nO w6 [some (.ref a0)] [.ref a0] 8 [.null]) fun q8 w9 =>
  (calGV w9 [some (.ref a0)] [.ref q8, .ref a0] (m_X8_init q8 40 0 w9)).bind fun w11 =>
  (pV w11 a0 1 1 (.ref q8)).bind fun w13 =>
  bn2 (nO w13 [some (.ref a0)] [.ref a0] 8 [.null]) fun q15 w16 =>
  (calGV w16 [some (.ref a0)] [.ref q15, .ref a0] (m_X8_init q15 40 ((-1)) w16)).bind fun w18 =>
  (pV w18 a0 1 2 (.ref q15)).bind fun w20 =>
  (pV w20 a0 1 3 (.int 0)).bind fun w22 =>
  some w22
set_option maxRecDepth 100000 in
set_option maxHeartbeats 4000000 in
theorem s_X1_init {a0 : Nat} {ws : LWd} {ws' : LWd} (h : m_X1_init a0 ws = some ws') : jSp yX1_init wsX1_init 2 6 1203 [.ref a0] ws (.inl none, ws') := by
  unfold m_X1_init at h
  refine j_entry (ret := none) (nm := "<init>") (own := RX1) pl_X1 rfl rfl rfl (jcats (by rfl)) (Nat.le_of_ble_eq_true rfl) ?_
  show JG (.inl false) cX1_init 1 RX1 wsX1_init none "<init>" 2 6 1203 ws.length (.inl none, ws') 0 [some (.ref a0)] [] ws 0 0
  obtain ⟨_, _, h⟩ := obS h
  refine j_aload_n (pc := 0) dX1_init_0 rfl ?_
  refine j_objInit (pc := 1) dX1_init_1 (jwm lw_56) (jwm lw_7) (jwm lw_8) (by decide) (Nat.le_of_ble_eq_true rfl) ?_
  refine j_aload_n (pc := 4) dX1_init_4 rfl ?_
  obtain ⟨q1, w2, e3, h⟩ := obS2 h
  refine j_new (pc := 5) (ci := 8) (N := 1) (C := RX8) (T := TX8) tyX8 tyX8_ok dX1_init_5 rfl (jwi hw_X8) (jwm lw_57) (jwm lw_11) (jwm lw_12) (fun j hj => by rcases (show j = 0 by omega) with rfl <;> rfl) (fun _ => rfl) (by decide) (by decide) e3 ?_
  refine j_dup (pc := 8) dX1_init_8 rfl ?_
  refine j_bipush (pc := 9) dX1_init_9 (v := 40) (by decide) ?_
  refine j_iconst (pc := 11) dX1_init_11 (v := 0) (by decide) ?_
  obtain ⟨w4, e5, h⟩ := obS h
  have ge5 := calGV_of e5
  refine j_callI_g (pc := 12) (As := [.int 40, .int 0]) (k' := 2) (n' := 401) dX1_init_12 (s_X8_init ge5.1) (jgP lw_13) (jwm lw_12) (jwm lw_58) (jwm lw_15) rfl rfl hy_X8_init rfl (by decide) (by decide) (Nat.le_of_ble_eq_true rfl) (by decide) (by decide) (by decide) (by decide) ge5.2 ?_
  obtain ⟨w6, e7, h⟩ := obS h
  refine j_putF (pc := 15) (ci := 1) (kf := 0) tyX1 tyX1_ok nmX1 dX1_init_15 rfl (jwi hw_X1) (by decide) (jwm lw_59) rfl rfl rfl (fun _ => rfl) (fun _ => rfl) e7 ?_
  refine j_aload_n (pc := 18) dX1_init_18 rfl ?_
  obtain ⟨q8, w9, e10, h⟩ := obS2 h
  refine j_new (pc := 19) (ci := 8) (N := 1) (C := RX8) (T := TX8) tyX8 tyX8_ok dX1_init_19 rfl (jwi hw_X8) (jwm lw_57) (jwm lw_11) (jwm lw_12) (fun j hj => by rcases (show j = 0 by omega) with rfl <;> rfl) (fun _ => rfl) (by decide) (by decide) e10 ?_
  refine j_dup (pc := 22) dX1_init_22 rfl ?_
  refine j_bipush (pc := 23) dX1_init_23 (v := 40) (by decide) ?_
  refine j_iconst (pc := 25) dX1_init_25 (v := 0) (by decide) ?_
  obtain ⟨w11, e12, h⟩ := obS h
  have ge12 := calGV_of e12
  refine j_callI_g (pc := 26) (As := [.int 40, .int 0]) (k' := 4) (n' := 802) dX1_init_26 (s_X8_init ge12.1) (jgP lw_13) (jwm lw_12) (jwm lw_58) (jwm lw_15) rfl rfl hy_X8_init rfl (by decide) (by decide) (Nat.le_of_ble_eq_true rfl) (by decide) (by decide) (by decide) (by decide) ge12.2 ?_
  obtain ⟨w13, e14, h⟩ := obS h
  refine j_putF (pc := 29) (ci := 1) (kf := 1) tyX1 tyX1_ok nmX1 dX1_init_29 rfl (jwi hw_X1) (by decide) (jwm lw_60) rfl rfl rfl (fun _ => rfl) (fun _ => rfl) e14 ?_
  refine j_aload_n (pc := 32) dX1_init_32 rfl ?_
  obtain ⟨q15, w16, e17, h⟩ := obS2 h
  refine j_new (pc := 33) (ci := 8) (N := 1) (C := RX8) (T := TX8) tyX8 tyX8_ok dX1_init_33 rfl (jwi hw_X8) (jwm lw_57) (jwm lw_11) (jwm lw_12) (fun j hj => by rcases (show j = 0 by omega) with rfl <;> rfl) (fun _ => rfl) (by decide) (by decide) e17 ?_
  refine j_dup (pc := 36) dX1_init_36 rfl ?_
  refine j_bipush (pc := 37) dX1_init_37 (v := 40) (by decide) ?_
  refine j_iconst (pc := 39) dX1_init_39 (v := (-1)) (by decide) ?_
  obtain ⟨w18, e19, h⟩ := obS h
  have ge19 := calGV_of e19
  refine j_callI_g (pc := 40) (As := [.int 40, .int ((-1))]) (k' := 6) (n' := 1203) dX1_init_40 (s_X8_init ge19.1) (jgP lw_13) (jwm lw_12) (jwm lw_58) (jwm lw_15) rfl rfl hy_X8_init rfl (by decide) (by decide) (Nat.le_of_ble_eq_true rfl) (by decide) (by decide) (by decide) (by decide) ge19.2 ?_
  obtain ⟨w20, e21, h⟩ := obS h
  refine j_putF (pc := 43) (ci := 1) (kf := 2) tyX1 tyX1_ok nmX1 dX1_init_43 rfl (jwi hw_X1) (by decide) (jwm lw_61) rfl rfl rfl (fun _ => rfl) (fun _ => rfl) e21 ?_
  refine j_aload_n (pc := 46) dX1_init_46 rfl ?_
  refine j_iconst (pc := 47) dX1_init_47 (v := 0) (by decide) ?_
  obtain ⟨w22, e23, h⟩ := obS h
  refine j_putV (pc := 48) (ci := 1) (kf := 3) tyX1 tyX1_ok nmX1 dX1_init_48 rfl (jwi hw_X1) (by decide) (jwm lw_62) rfl (fun _ => rfl) (fun _ => rfl) e23 ?_
  cases h
  exact j_vret (pc := 51) rfl dX1_init_51 (by decide) (by decide) rfl
theorem r_X1_init {a0 : Nat} {ws : LWd} {o : LWd} (h : m_X1_init a0 ws = some o) : ∃ fs, ws[a0]? = some (.inr (1, fs)) := rcv_in h
def wsX3_init : List Cond := Cond.code yX3_init cX3_init 1 none :: jW
def m_X3_init (a0 : Nat) (ws : LWd) : Option LWd :=
  (rcv ws a0 3).bind fun _ =>
  bn2 (nO ws [some (.ref a0)] [.ref a0] 8 [.null]) fun q1 w2 =>
  (calGV w2 [some (.ref a0)] [.ref q1, .ref a0] (m_X8_init q1 8 0 w2)).bind fun w4 =>
  (pV w4 a0 3 0 (.ref q1)).bind fun w6 =>
  bn2 (nO w6 [some (.ref a0)] [.ref a0] 8 [.null]) fun q8 w9 =>
  (calGV w9 [some (.ref a0)] [.ref q8, .ref a0] (m_X8_init q8 8 0 w9)).bind fun w11 =>
  (pV w11 a0 3 1 (.ref q8)).bind fun w13 =>
  bn2 (nO w13 [some (.ref a0)] [.ref a0] 8 [.null]) fun q15 w16 =>
  (calGV w16 [some (.ref a0)] [.ref q15, .ref a0] (m_X8_init q15 8 0 w16)).bind fun w18 =>
  (pV w18 a0 3 2 (.ref q15)).bind fun w20 =>
  bn2 (nO w20 [some (.ref a0)] [.ref a0] 8 [.null]) fun q22 w23 =>
  (calGV w23 [some (.ref a0)] [.ref q22, .ref a0] (m_X8_init q22 8 0 w23)).bind fun w25 =>
  (pV w25 a0 3 3 (.ref q22)).bind fun w27 =>
  bn2 (nO w27 [some (.ref a0)] [.ref a0] 8 [.null]) fun q29 w30 =>
  (calGV w30 [some (.ref a0)] [.ref q29, .ref a0] (m_X8_init q29 8 0 w30)).bind fun w32 =>
  (pV w32 a0 3 4 (.ref q29)).bind fun w34 =>
  (pV w34 a0 3 5 (.int 0)).bind fun w36 =>
  (pV w36 a0 3 6 (.int 0)).bind fun w38 =>
  some w38
set_option maxRecDepth 100000 in
set_option maxHeartbeats 4000000 in
theorem s_X3_init {a0 : Nat} {ws : LWd} {ws' : LWd} (h : m_X3_init a0 ws = some ws') : jSp yX3_init wsX3_init 2 10 2005 [.ref a0] ws (.inl none, ws') := by
  unfold m_X3_init at h
  refine j_entry (ret := none) (nm := "<init>") (own := RX3) pl_X3 rfl rfl rfl (jcats (by rfl)) (Nat.le_of_ble_eq_true rfl) ?_
  show JG (.inl false) cX3_init 1 RX3 wsX3_init none "<init>" 2 10 2005 ws.length (.inl none, ws') 0 [some (.ref a0)] [] ws 0 0
  obtain ⟨_, _, h⟩ := obS h
  refine j_aload_n (pc := 0) dX3_init_0 rfl ?_
  refine j_objInit (pc := 1) dX3_init_1 (jwm lw_63) (jwm lw_7) (jwm lw_8) (by decide) (Nat.le_of_ble_eq_true rfl) ?_
  refine j_aload_n (pc := 4) dX3_init_4 rfl ?_
  obtain ⟨q1, w2, e3, h⟩ := obS2 h
  refine j_new (pc := 5) (ci := 8) (N := 1) (C := RX8) (T := TX8) tyX8 tyX8_ok dX3_init_5 rfl (jwi hw_X8) (jwm lw_64) (jwm lw_11) (jwm lw_12) (fun j hj => by rcases (show j = 0 by omega) with rfl <;> rfl) (fun _ => rfl) (by decide) (by decide) e3 ?_
  refine j_dup (pc := 8) dX3_init_8 rfl ?_
  refine j_bipush (pc := 9) dX3_init_9 (v := 8) (by decide) ?_
  refine j_iconst (pc := 11) dX3_init_11 (v := 0) (by decide) ?_
  obtain ⟨w4, e5, h⟩ := obS h
  have ge5 := calGV_of e5
  refine j_callI_g (pc := 12) (As := [.int 8, .int 0]) (k' := 2) (n' := 401) dX3_init_12 (s_X8_init ge5.1) (jgP lw_13) (jwm lw_12) (jwm lw_65) (jwm lw_15) rfl rfl hy_X8_init rfl (by decide) (by decide) (Nat.le_of_ble_eq_true rfl) (by decide) (by decide) (by decide) (by decide) ge5.2 ?_
  obtain ⟨w6, e7, h⟩ := obS h
  refine j_putF (pc := 15) (ci := 3) (kf := 0) tyX3 tyX3_ok nmX3 dX3_init_15 rfl (jwi hw_X3) (by decide) (jwm lw_66) rfl rfl rfl (fun _ => rfl) (fun _ => rfl) e7 ?_
  refine j_aload_n (pc := 18) dX3_init_18 rfl ?_
  obtain ⟨q8, w9, e10, h⟩ := obS2 h
  refine j_new (pc := 19) (ci := 8) (N := 1) (C := RX8) (T := TX8) tyX8 tyX8_ok dX3_init_19 rfl (jwi hw_X8) (jwm lw_64) (jwm lw_11) (jwm lw_12) (fun j hj => by rcases (show j = 0 by omega) with rfl <;> rfl) (fun _ => rfl) (by decide) (by decide) e10 ?_
  refine j_dup (pc := 22) dX3_init_22 rfl ?_
  refine j_bipush (pc := 23) dX3_init_23 (v := 8) (by decide) ?_
  refine j_iconst (pc := 25) dX3_init_25 (v := 0) (by decide) ?_
  obtain ⟨w11, e12, h⟩ := obS h
  have ge12 := calGV_of e12
  refine j_callI_g (pc := 26) (As := [.int 8, .int 0]) (k' := 4) (n' := 802) dX3_init_26 (s_X8_init ge12.1) (jgP lw_13) (jwm lw_12) (jwm lw_65) (jwm lw_15) rfl rfl hy_X8_init rfl (by decide) (by decide) (Nat.le_of_ble_eq_true rfl) (by decide) (by decide) (by decide) (by decide) ge12.2 ?_
  obtain ⟨w13, e14, h⟩ := obS h
  refine j_putF (pc := 29) (ci := 3) (kf := 1) tyX3 tyX3_ok nmX3 dX3_init_29 rfl (jwi hw_X3) (by decide) (jwm lw_67) rfl rfl rfl (fun _ => rfl) (fun _ => rfl) e14 ?_
  refine j_aload_n (pc := 32) dX3_init_32 rfl ?_
  obtain ⟨q15, w16, e17, h⟩ := obS2 h
  refine j_new (pc := 33) (ci := 8) (N := 1) (C := RX8) (T := TX8) tyX8 tyX8_ok dX3_init_33 rfl (jwi hw_X8) (jwm lw_64) (jwm lw_11) (jwm lw_12) (fun j hj => by rcases (show j = 0 by omega) with rfl <;> rfl) (fun _ => rfl) (by decide) (by decide) e17 ?_
  refine j_dup (pc := 36) dX3_init_36 rfl ?_
  refine j_bipush (pc := 37) dX3_init_37 (v := 8) (by decide) ?_
  refine j_iconst (pc := 39) dX3_init_39 (v := 0) (by decide) ?_
  obtain ⟨w18, e19, h⟩ := obS h
  have ge19 := calGV_of e19
  refine j_callI_g (pc := 40) (As := [.int 8, .int 0]) (k' := 6) (n' := 1203) dX3_init_40 (s_X8_init ge19.1) (jgP lw_13) (jwm lw_12) (jwm lw_65) (jwm lw_15) rfl rfl hy_X8_init rfl (by decide) (by decide) (Nat.le_of_ble_eq_true rfl) (by decide) (by decide) (by decide) (by decide) ge19.2 ?_
  obtain ⟨w20, e21, h⟩ := obS h
  refine j_putF (pc := 43) (ci := 3) (kf := 2) tyX3 tyX3_ok nmX3 dX3_init_43 rfl (jwi hw_X3) (by decide) (jwm lw_68) rfl rfl rfl (fun _ => rfl) (fun _ => rfl) e21 ?_
  refine j_aload_n (pc := 46) dX3_init_46 rfl ?_
  obtain ⟨q22, w23, e24, h⟩ := obS2 h
  refine j_new (pc := 47) (ci := 8) (N := 1) (C := RX8) (T := TX8) tyX8 tyX8_ok dX3_init_47 rfl (jwi hw_X8) (jwm lw_64) (jwm lw_11) (jwm lw_12) (fun j hj => by rcases (show j = 0 by omega) with rfl <;> rfl) (fun _ => rfl) (by decide) (by decide) e24 ?_
  refine j_dup (pc := 50) dX3_init_50 rfl ?_
  refine j_bipush (pc := 51) dX3_init_51 (v := 8) (by decide) ?_
  refine j_iconst (pc := 53) dX3_init_53 (v := 0) (by decide) ?_
  obtain ⟨w25, e26, h⟩ := obS h
  have ge26 := calGV_of e26
  refine j_callI_g (pc := 54) (As := [.int 8, .int 0]) (k' := 8) (n' := 1604) dX3_init_54 (s_X8_init ge26.1) (jgP lw_13) (jwm lw_12) (jwm lw_65) (jwm lw_15) rfl rfl hy_X8_init rfl (by decide) (by decide) (Nat.le_of_ble_eq_true rfl) (by decide) (by decide) (by decide) (by decide) ge26.2 ?_
  obtain ⟨w27, e28, h⟩ := obS h
  refine j_putF (pc := 57) (ci := 3) (kf := 3) tyX3 tyX3_ok nmX3 dX3_init_57 rfl (jwi hw_X3) (by decide) (jwm lw_69) rfl rfl rfl (fun _ => rfl) (fun _ => rfl) e28 ?_
  refine j_aload_n (pc := 60) dX3_init_60 rfl ?_
  obtain ⟨q29, w30, e31, h⟩ := obS2 h
  refine j_new (pc := 61) (ci := 8) (N := 1) (C := RX8) (T := TX8) tyX8 tyX8_ok dX3_init_61 rfl (jwi hw_X8) (jwm lw_64) (jwm lw_11) (jwm lw_12) (fun j hj => by rcases (show j = 0 by omega) with rfl <;> rfl) (fun _ => rfl) (by decide) (by decide) e31 ?_
  refine j_dup (pc := 64) dX3_init_64 rfl ?_
  refine j_bipush (pc := 65) dX3_init_65 (v := 8) (by decide) ?_
  refine j_iconst (pc := 67) dX3_init_67 (v := 0) (by decide) ?_
  obtain ⟨w32, e33, h⟩ := obS h
  have ge33 := calGV_of e33
  refine j_callI_g (pc := 68) (As := [.int 8, .int 0]) (k' := 10) (n' := 2005) dX3_init_68 (s_X8_init ge33.1) (jgP lw_13) (jwm lw_12) (jwm lw_65) (jwm lw_15) rfl rfl hy_X8_init rfl (by decide) (by decide) (Nat.le_of_ble_eq_true rfl) (by decide) (by decide) (by decide) (by decide) ge33.2 ?_
  obtain ⟨w34, e35, h⟩ := obS h
  refine j_putF (pc := 71) (ci := 3) (kf := 4) tyX3 tyX3_ok nmX3 dX3_init_71 rfl (jwi hw_X3) (by decide) (jwm lw_70) rfl rfl rfl (fun _ => rfl) (fun _ => rfl) e35 ?_
  refine j_aload_n (pc := 74) dX3_init_74 rfl ?_
  refine j_iconst (pc := 75) dX3_init_75 (v := 0) (by decide) ?_
  obtain ⟨w36, e37, h⟩ := obS h
  refine j_putV (pc := 76) (ci := 3) (kf := 5) tyX3 tyX3_ok nmX3 dX3_init_76 rfl (jwi hw_X3) (by decide) (jwm lw_71) rfl (fun _ => rfl) (fun _ => rfl) e37 ?_
  refine j_aload_n (pc := 79) dX3_init_79 rfl ?_
  refine j_iconst (pc := 80) dX3_init_80 (v := 0) (by decide) ?_
  obtain ⟨w38, e39, h⟩ := obS h
  refine j_putV (pc := 81) (ci := 3) (kf := 6) tyX3 tyX3_ok nmX3 dX3_init_81 rfl (jwi hw_X3) (by decide) (jwm lw_72) rfl (fun _ => rfl) (fun _ => rfl) e39 ?_
  cases h
  exact j_vret (pc := 84) rfl dX3_init_84 (by decide) (by decide) rfl
theorem r_X3_init {a0 : Nat} {ws : LWd} {o : LWd} (h : m_X3_init a0 ws = some o) : ∃ fs, ws[a0]? = some (.inr (3, fs)) := rcv_in h
def wsX7_init : List Cond := Cond.code yX7_init cX7_init 5 none :: jW
def m_X7_init_l25 : Nat → Nat → Nat → Nat → Nat → Int32 → LWd → Option LWd
  | 0, _, _, _, _, _, _ => none
  | fu + 1, a0, a1, a2, a3, i4, ws =>
    (fR ws a0 7 1).bind fun x1 =>
    (aL ws x1).bind fun x3 =>
    if x3 ≤ i4 then
      some ws
    else
      (fR ws a0 7 1).bind fun x6 =>
      bn2 (nO ws [some (.ref a0), some (.ref a1), some (.ref a2), some (.ref a3), some (.int i4)] [.int i4, .ref x6] 9 [.null, .null, .null, .null, .int 0, .int 0]) fun q8 w9 =>
      (calGV w9 [some (.ref a0), some (.ref a1), some (.ref a2), some (.ref a3), some (.int i4)] [.ref q8, .int i4, .ref x6] (m_X9_init q8 a1 a2 a3 w9)).bind fun w11 =>
      (sR w11 x6 i4 q8).bind fun w13 =>
      m_X7_init_l25 fu a0 a1 a2 a3 (i4 + 1) w13
set_option maxRecDepth 100000 in
set_option maxHeartbeats 4000000 in
theorem jm_X7_init_l25 {n0 : Nat} {ws' : LWd} : ∀ (fu : Nat) (a0 : Nat) (a1 : Nat) (a2 : Nat) (a3 : Nat) (i4 : Int32) (ws : LWd) (kk nn : Nat) (hkk : kk + 3 * fu ≤ 16) (hnn : nn + 407 * fu ≤ 2043), m_X7_init_l25 fu a0 a1 a2 a3 i4 ws = some ws' → JG (.inl false) cX7_init 5 RX7 wsX7_init none "<init>" 3 16 2043 n0 (.inl none, ws') 25 [some (.ref a0), some (.ref a1), some (.ref a2), some (.ref a3), some (.int i4)] [] ws kk nn := by
  intro fu
  induction fu with
  | zero => intro a0 a1 a2 a3 i4 ws kk nn hkk hnn h; cases h
  | succ fu ih =>
    intro a0 a1 a2 a3 i4 ws kk nn hkk hnn h
    rw [m_X7_init_l25] at h
    refine j_iload (pc := 25) dX7_init_25 rfl ?_
    refine j_aload_n (pc := 27) dX7_init_27 rfl ?_
    obtain ⟨x1, e2, h⟩ := obS h
    refine j_getR (pc := 28) dX7_init_28 (ci := 7) (kf := 1) rfl (jwi hw_X7) (by decide) (jwm lw_73) e2 ?_
    obtain ⟨x3, e4, h⟩ := obS h
    refine j_alen (pc := 31) dX7_init_31 e4 ?_
    refine j_icmp_ge (pc := 32) (tgt := 58) dX7_init_32 (by decide) (fun c5 => ?_) (fun c5 => ?_)
    · rw [if_pos c5] at h
      cases h
      exact j_vret (pc := 58) rfl dX7_init_58 (by omega) (by omega) rfl
    · rw [if_neg c5] at h
      refine j_aload_n (pc := 35) dX7_init_35 rfl ?_
      obtain ⟨x6, e7, h⟩ := obS h
      refine j_getR (pc := 36) dX7_init_36 (ci := 7) (kf := 1) rfl (jwi hw_X7) (by decide) (jwm lw_73) e7 ?_
      refine j_iload (pc := 39) dX7_init_39 rfl ?_
      obtain ⟨q8, w9, e10, h⟩ := obS2 h
      refine j_new (pc := 41) (ci := 9) (N := 6) (C := RX9) (T := TX9) tyX9 tyX9_ok dX7_init_41 rfl (jwi hw_X9) (jwm lw_74) (jwm lw_75) (jwm lw_76) (fun j hj => by rcases (show j = 0 ∨ j = 1 ∨ j = 2 ∨ j = 3 ∨ j = 4 ∨ j = 5 by omega) with rfl | rfl | rfl | rfl | rfl | rfl <;> rfl) (fun _ => rfl) (by omega) (by omega) e10 ?_
      refine j_dup (pc := 44) dX7_init_44 rfl ?_
      refine j_aload_n (pc := 45) dX7_init_45 rfl ?_
      refine j_aload_n (pc := 46) dX7_init_46 rfl ?_
      refine j_aload_n (pc := 47) dX7_init_47 rfl ?_
      obtain ⟨w11, e12, h⟩ := obS h
      have ge12 := calGV_of e12
      refine j_callI_g (pc := 48) (As := [.ref a1, .ref a2, .ref a3]) (k' := _ + 2) (n' := _ + 401) dX7_init_48 (s_X9_init ge12.1) (jgP lw_77) (jwm lw_76) (jwm lw_78) (jwm lw_79) rfl rfl hy_X9_init rfl (by decide) (by decide) (Nat.le_of_ble_eq_true rfl) (Nat.le_refl _) (Nat.le_refl _) (by omega) (by omega) ge12.2 ?_
      obtain ⟨w13, e14, h⟩ := obS h
      refine j_aast (pc := 51) dX7_init_51 e14 ?_
      refine j_iinc_4 (pc := 52) dX7_init_52 (y := i4 + 1) rfl (by decide) rfl ?_
      refine j_goto (pc := 55) (tgt := 25) dX7_init_55 (by decide) ?_
      exact ih _ _ _ _ _ w13 _ _ (by omega) (by omega) h
def m_X7_init (a0 : Nat) (a1 : Nat) (a2 : Nat) (a3 : Nat) (ws : LWd) : Option LWd :=
  (rcv ws a0 7).bind fun _ =>
  bn2 (nQ ws [some (.ref a0), some (.ref a1), some (.ref a2), some (.ref a3), none] [.ref a0] 8 4) fun q1 w2 =>
  (pV w2 a0 7 1 (.ref q1)).bind fun w4 =>
  (pV w4 a0 7 2 (.int ((-1)))).bind fun w6 =>
  (pV w6 a0 7 0 (.ref a2)).bind fun w8 =>
  m_X7_init_l25 5 a0 a1 a2 a3 0 w8
set_option maxRecDepth 100000 in
set_option maxHeartbeats 4000000 in
theorem s_X7_init {a0 : Nat} {a1 : Nat} {a2 : Nat} {a3 : Nat} {ws : LWd} {ws' : LWd} (h : m_X7_init a0 a1 a2 a3 ws = some ws') : jSp yX7_init wsX7_init 3 16 2043 [.ref a0, .ref a1, .ref a2, .ref a3] ws (.inl none, ws') := by
  unfold m_X7_init at h
  refine j_entry (ret := none) (nm := "<init>") (own := RX7) pl_X7 rfl rfl rfl (jcats (by rfl)) (Nat.le_of_ble_eq_true rfl) ?_
  show JG (.inl false) cX7_init 5 RX7 wsX7_init none "<init>" 3 16 2043 ws.length (.inl none, ws') 0 [some (.ref a0), some (.ref a1), some (.ref a2), some (.ref a3), none] [] ws 0 0
  obtain ⟨_, _, h⟩ := obS h
  refine j_aload_n (pc := 0) dX7_init_0 rfl ?_
  refine j_objInit (pc := 1) dX7_init_1 (jwm lw_80) (jwm lw_7) (jwm lw_8) (by decide) (Nat.le_of_ble_eq_true rfl) ?_
  refine j_aload_n (pc := 4) dX7_init_4 rfl ?_
  refine j_iconst (pc := 5) dX7_init_5 (v := 4) (by decide) ?_
  obtain ⟨q1, w2, e3, h⟩ := obS2 h
  refine j_newQ (pc := 6) (B := 8) (jwm lw_74) dX7_init_6 (by decide) (by decide) (by decide) e3 ?_
  obtain ⟨w4, e5, h⟩ := obS h
  refine j_putF (pc := 9) (ci := 7) (kf := 1) tyX7 tyX7_ok nmX7 dX7_init_9 rfl (jwi hw_X7) (by decide) (jwm lw_73) rfl rfl rfl (fun _ => rfl) (fun _ => rfl) e5 ?_
  refine j_aload_n (pc := 12) dX7_init_12 rfl ?_
  refine j_iconst (pc := 13) dX7_init_13 (v := (-1)) (by decide) ?_
  obtain ⟨w6, e7, h⟩ := obS h
  refine j_putV (pc := 14) (ci := 7) (kf := 2) tyX7 tyX7_ok nmX7 dX7_init_14 rfl (jwi hw_X7) (by decide) (jwm lw_81) rfl (fun _ => rfl) (fun _ => rfl) e7 ?_
  refine j_aload_n (pc := 17) dX7_init_17 rfl ?_
  refine j_aload_n (pc := 18) dX7_init_18 rfl ?_
  obtain ⟨w8, e9, h⟩ := obS h
  refine j_putF (pc := 19) (ci := 7) (kf := 0) tyX7 tyX7_ok nmX7 dX7_init_19 rfl (jwi hw_X7) (by decide) (jwm lw_82) rfl rfl rfl (fun _ => rfl) (fun _ => rfl) e9 ?_
  refine j_iconst (pc := 22) dX7_init_22 (v := 0) (by decide) ?_
  refine j_istore_4 (pc := 23) dX7_init_23 (by decide) rfl ?_
  exact jm_X7_init_l25 5  _ _ _ _ _ w8 _ _ (by decide) (by decide) h
theorem r_X7_init {a0 : Nat} {a1 : Nat} {a2 : Nat} {a3 : Nat} {ws : LWd} {o : LWd} (h : m_X7_init a0 a1 a2 a3 ws = some o) : ∃ fs, ws[a0]? = some (.inr (7, fs)) := rcv_in h
def wsX10_init : List Cond := Cond.code yX10_init cX10_init 2 none :: jW
def m_X10_init (a0 : Nat) (ws : LWd) : Option LWd :=
  (rcv ws a0 10).bind fun _ =>
  bn2 (nO ws [some (.ref a0), none] [] 4 [.null, .null, .int 0]) fun q1 w2 =>
  (calGV w2 [some (.ref a0), none] [.ref q1] (m_X4_init q1 w2)).bind fun w4 =>
  bn2 (nO w4 [some (.ref a0), some (.ref q1)] [.ref a0] 5 [.null, .null, .null, .null]) fun q6 w7 =>
  (calGV w7 [some (.ref a0), some (.ref q1)] [.ref q6, .ref a0] (m_X5_init q6 w7)).bind fun w9 =>
  (pV w9 a0 10 0 (.ref q6)).bind fun w11 =>
  bn2 (nO w11 [some (.ref a0), some (.ref q1)] [.ref a0] 2 [.null, .null, .null, .int 0, .int 0, .int 0, .int 0]) fun q13 w14 =>
  (calGV w14 [some (.ref a0), some (.ref q1)] [.ref q13, .ref a0] (m_X2_init q13 w14)).bind fun w16 =>
  (pV w16 a0 10 1 (.ref q13)).bind fun w18 =>
  bn2 (nO w18 [some (.ref a0), some (.ref q1)] [.ref a0] 9 [.null, .null, .null, .null, .int 0, .int 0]) fun q20 w21 =>
  (fR w21 a0 10 0).bind fun x23 =>
  (fR w21 a0 10 1).bind fun x25 =>
  (calGV w21 [some (.ref a0), some (.ref q1)] [.ref q20, .ref a0] (m_X9_init q20 x23 x25 q1 w21)).bind fun w27 =>
  (pV w27 a0 10 2 (.ref q20)).bind fun w29 =>
  bn2 (nO w29 [some (.ref a0), some (.ref q1)] [.ref a0] 9 [.null, .null, .null, .null, .int 0, .int 0]) fun q31 w32 =>
  (fR w32 a0 10 0).bind fun x34 =>
  (fR w32 a0 10 1).bind fun x36 =>
  (calGV w32 [some (.ref a0), some (.ref q1)] [.ref q31, .ref a0] (m_X9_init q31 x34 x36 q1 w32)).bind fun w38 =>
  (pV w38 a0 10 3 (.ref q31)).bind fun w40 =>
  bn2 (nO w40 [some (.ref a0), some (.ref q1)] [.ref a0] 6 [.null, .null, .int 0]) fun q42 w43 =>
  (calGV w43 [some (.ref a0), some (.ref q1)] [.ref q42, .ref a0] (m_X6_init q42 w43)).bind fun w45 =>
  (pV w45 a0 10 4 (.ref q42)).bind fun w47 =>
  bn2 (nO w47 [some (.ref a0), some (.ref q1)] [.ref a0] 0 [.int 0, .int 0, .int 0, .int 0]) fun q49 w50 =>
  (calSV w50 (m_X0_init q49 w50)).bind fun w52 =>
  (pV w52 a0 10 5 (.ref q49)).bind fun w54 =>
  bn2 (nO w54 [some (.ref a0), some (.ref q1)] [.ref a0] 1 [.null, .null, .null, .int 0]) fun q56 w57 =>
  (calGV w57 [some (.ref a0), some (.ref q1)] [.ref q56, .ref a0] (m_X1_init q56 w57)).bind fun w59 =>
  (pV w59 a0 10 6 (.ref q56)).bind fun w61 =>
  bn2 (nO w61 [some (.ref a0), some (.ref q1)] [.ref a0] 3 [.null, .null, .null, .null, .null, .int 0, .int 0]) fun q63 w64 =>
  (calGV w64 [some (.ref a0), some (.ref q1)] [.ref q63, .ref a0] (m_X3_init q63 w64)).bind fun w66 =>
  (pV w66 a0 10 7 (.ref q63)).bind fun w68 =>
  bn2 (nO w68 [some (.ref a0), some (.ref q1)] [.ref a0] 7 [.null, .null, .int 0]) fun q70 w71 =>
  (fR w71 a0 10 0).bind fun x73 =>
  (fR w71 a0 10 1).bind fun x75 =>
  (calGV w71 [some (.ref a0), some (.ref q1)] [.ref q70, .ref a0] (m_X7_init q70 x73 x75 q1 w71)).bind fun w77 =>
  (pV w77 a0 10 8 (.ref q70)).bind fun w79 =>
  (pZ w79 a0 10 9 0).bind fun w81 =>
  (pV w81 a0 10 10 (.int 1000)).bind fun w83 =>
  some w83
set_option maxRecDepth 100000 in
set_option maxHeartbeats 4000000 in
theorem s_X10_init {a0 : Nat} {ws : LWd} {ws' : LWd} (h : m_X10_init a0 ws = some ws') : jSp yX10_init wsX10_init 4 68 10511 [.ref a0] ws (.inl none, ws') := by
  unfold m_X10_init at h
  refine j_entry (ret := none) (nm := "<init>") (own := RX10) pl_X10 rfl rfl rfl (jcats (by rfl)) (Nat.le_of_ble_eq_true rfl) ?_
  show JG (.inl false) cX10_init 2 RX10 wsX10_init none "<init>" 4 68 10511 ws.length (.inl none, ws') 0 [some (.ref a0), none] [] ws 0 0
  obtain ⟨_, _, h⟩ := obS h
  refine j_aload_n (pc := 0) dX10_init_0 rfl ?_
  refine j_objInit (pc := 1) dX10_init_1 (jwm lw_83) (jwm lw_7) (jwm lw_8) (by decide) (Nat.le_of_ble_eq_true rfl) ?_
  obtain ⟨q1, w2, e3, h⟩ := obS2 h
  refine j_new (pc := 4) (ci := 4) (N := 3) (C := RX4) (T := TX4) tyX4 tyX4_ok dX10_init_4 rfl (jwi hw_X4) (jwm lw_84) (jwm lw_85) (jwm lw_86) (fun j hj => by rcases (show j = 0 ∨ j = 1 ∨ j = 2 by omega) with rfl | rfl | rfl <;> rfl) (fun _ => rfl) (by decide) (by decide) e3 ?_
  refine j_dup (pc := 7) dX10_init_7 rfl ?_
  obtain ⟨w4, e5, h⟩ := obS h
  have ge5 := calGV_of e5
  refine j_callIN_g (pc := 8) (As := []) (k' := 5) (n' := 805) dX10_init_8 (s_X4_init ge5.1) (jgP lw_87) nst_X10_11 (jwm lw_86) (jwm lw_88) rfl rfl hy_X4_init rfl (by decide) (by decide) (Nat.le_of_ble_eq_true rfl) (by decide) (by decide) (by decide) (by decide) ge5.2 ?_
  refine j_astore_n_1 (pc := 11) dX10_init_11 (by decide) rfl ?_
  refine j_aload_n (pc := 12) dX10_init_12 rfl ?_
  obtain ⟨q6, w7, e8, h⟩ := obS2 h
  refine j_new (pc := 13) (ci := 5) (N := 4) (C := RX5) (T := TX5) tyX5 tyX5_ok dX10_init_13 rfl (jwi hw_X5) (jwm lw_89) (jwm lw_90) (jwm lw_91) (fun j hj => by rcases (show j = 0 ∨ j = 1 ∨ j = 2 ∨ j = 3 by omega) with rfl | rfl | rfl | rfl <;> rfl) (fun _ => rfl) (by decide) (by decide) e8 ?_
  refine j_dup (pc := 16) dX10_init_16 rfl ?_
  obtain ⟨w9, e10, h⟩ := obS h
  have ge10 := calGV_of e10
  refine j_callIN_g (pc := 17) (As := []) (k' := 14) (n' := 2413) dX10_init_17 (s_X5_init ge10.1) (jgP lw_92) nst_X10_14 (jwm lw_91) (jwm lw_93) rfl rfl hy_X5_init rfl (by decide) (by decide) (Nat.le_of_ble_eq_true rfl) (by decide) (by decide) (by decide) (by decide) ge10.2 ?_
  obtain ⟨w11, e12, h⟩ := obS h
  refine j_putF (pc := 20) (ci := 10) (kf := 0) tyX10 tyX10_ok nmX10 dX10_init_20 rfl (jwi hw_X10) (by decide) (jwm lw_94) rfl rfl rfl (fun _ => rfl) (fun _ => rfl) e12 ?_
  refine j_aload_n (pc := 23) dX10_init_23 rfl ?_
  obtain ⟨q13, w14, e15, h⟩ := obS2 h
  refine j_new (pc := 24) (ci := 2) (N := 7) (C := RX2) (T := TX2) tyX2 tyX2_ok dX10_init_24 rfl (jwi hw_X2) (jwm lw_95) (jwm lw_96) (jwm lw_97) (fun j hj => by rcases (show j = 0 ∨ j = 1 ∨ j = 2 ∨ j = 3 ∨ j = 4 ∨ j = 5 ∨ j = 6 by omega) with rfl | rfl | rfl | rfl | rfl | rfl | rfl <;> rfl) (fun _ => rfl) (by decide) (by decide) e15 ?_
  refine j_dup (pc := 27) dX10_init_27 rfl ?_
  obtain ⟨w16, e17, h⟩ := obS h
  have ge17 := calGV_of e17
  refine j_callIN_g (pc := 28) (As := []) (k' := 21) (n' := 3623) dX10_init_28 (s_X2_init ge17.1) (jgP lw_98) nst_X10_21 (jwm lw_97) (jwm lw_99) rfl rfl hy_X2_init rfl (by decide) (by decide) (Nat.le_of_ble_eq_true rfl) (by decide) (by decide) (by decide) (by decide) ge17.2 ?_
  obtain ⟨w18, e19, h⟩ := obS h
  refine j_putF (pc := 31) (ci := 10) (kf := 1) tyX10 tyX10_ok nmX10 dX10_init_31 rfl (jwi hw_X10) (by decide) (jwm lw_100) rfl rfl rfl (fun _ => rfl) (fun _ => rfl) e19 ?_
  refine j_aload_n (pc := 34) dX10_init_34 rfl ?_
  obtain ⟨q20, w21, e22, h⟩ := obS2 h
  refine j_new (pc := 35) (ci := 9) (N := 6) (C := RX9) (T := TX9) tyX9 tyX9_ok dX10_init_35 rfl (jwi hw_X9) (jwm lw_101) (jwm lw_75) (jwm lw_76) (fun j hj => by rcases (show j = 0 ∨ j = 1 ∨ j = 2 ∨ j = 3 ∨ j = 4 ∨ j = 5 by omega) with rfl | rfl | rfl | rfl | rfl | rfl <;> rfl) (fun _ => rfl) (by decide) (by decide) e22 ?_
  refine j_dup (pc := 38) dX10_init_38 rfl ?_
  refine j_aload_n (pc := 39) dX10_init_39 rfl ?_
  obtain ⟨x23, e24, h⟩ := obS h
  refine j_getR (pc := 40) dX10_init_40 (ci := 10) (kf := 0) rfl (jwi hw_X10) (by decide) (jwm lw_94) e24 ?_
  refine j_aload_n (pc := 43) dX10_init_43 rfl ?_
  obtain ⟨x25, e26, h⟩ := obS h
  refine j_getR (pc := 44) dX10_init_44 (ci := 10) (kf := 1) rfl (jwi hw_X10) (by decide) (jwm lw_100) e26 ?_
  refine j_aload_n (pc := 47) dX10_init_47 rfl ?_
  obtain ⟨w27, e28, h⟩ := obS h
  have ge28 := calGV_of e28
  refine j_callI_g (pc := 48) (As := [.ref x23, .ref x25, .ref q1]) (k' := 24) (n' := 4030) dX10_init_48 (s_X9_init ge28.1) (jgP lw_77) (jwm lw_76) (jwm lw_102) (jwm lw_79) rfl rfl hy_X9_init rfl (by decide) (by decide) (Nat.le_of_ble_eq_true rfl) (by decide) (by decide) (by decide) (by decide) ge28.2 ?_
  obtain ⟨w29, e30, h⟩ := obS h
  refine j_putF (pc := 51) (ci := 10) (kf := 2) tyX10 tyX10_ok nmX10 dX10_init_51 rfl (jwi hw_X10) (by decide) (jwm lw_103) rfl rfl rfl (fun _ => rfl) (fun _ => rfl) e30 ?_
  refine j_aload_n (pc := 54) dX10_init_54 rfl ?_
  obtain ⟨q31, w32, e33, h⟩ := obS2 h
  refine j_new (pc := 55) (ci := 9) (N := 6) (C := RX9) (T := TX9) tyX9 tyX9_ok dX10_init_55 rfl (jwi hw_X9) (jwm lw_101) (jwm lw_75) (jwm lw_76) (fun j hj => by rcases (show j = 0 ∨ j = 1 ∨ j = 2 ∨ j = 3 ∨ j = 4 ∨ j = 5 by omega) with rfl | rfl | rfl | rfl | rfl | rfl <;> rfl) (fun _ => rfl) (by decide) (by decide) e33 ?_
  refine j_dup (pc := 58) dX10_init_58 rfl ?_
  refine j_aload_n (pc := 59) dX10_init_59 rfl ?_
  obtain ⟨x34, e35, h⟩ := obS h
  refine j_getR (pc := 60) dX10_init_60 (ci := 10) (kf := 0) rfl (jwi hw_X10) (by decide) (jwm lw_94) e35 ?_
  refine j_aload_n (pc := 63) dX10_init_63 rfl ?_
  obtain ⟨x36, e37, h⟩ := obS h
  refine j_getR (pc := 64) dX10_init_64 (ci := 10) (kf := 1) rfl (jwi hw_X10) (by decide) (jwm lw_100) e37 ?_
  refine j_aload_n (pc := 67) dX10_init_67 rfl ?_
  obtain ⟨w38, e39, h⟩ := obS h
  have ge39 := calGV_of e39
  refine j_callI_g (pc := 68) (As := [.ref x34, .ref x36, .ref q1]) (k' := 27) (n' := 4437) dX10_init_68 (s_X9_init ge39.1) (jgP lw_77) (jwm lw_76) (jwm lw_102) (jwm lw_79) rfl rfl hy_X9_init rfl (by decide) (by decide) (Nat.le_of_ble_eq_true rfl) (by decide) (by decide) (by decide) (by decide) ge39.2 ?_
  obtain ⟨w40, e41, h⟩ := obS h
  refine j_putF (pc := 71) (ci := 10) (kf := 3) tyX10 tyX10_ok nmX10 dX10_init_71 rfl (jwi hw_X10) (by decide) (jwm lw_104) rfl rfl rfl (fun _ => rfl) (fun _ => rfl) e41 ?_
  refine j_aload_n (pc := 74) dX10_init_74 rfl ?_
  obtain ⟨q42, w43, e44, h⟩ := obS2 h
  refine j_new (pc := 75) (ci := 6) (N := 3) (C := RX6) (T := TX6) tyX6 tyX6_ok dX10_init_75 rfl (jwi hw_X6) (jwm lw_105) (jwm lw_106) (jwm lw_107) (fun j hj => by rcases (show j = 0 ∨ j = 1 ∨ j = 2 by omega) with rfl | rfl | rfl <;> rfl) (fun _ => rfl) (by decide) (by decide) e44 ?_
  refine j_dup (pc := 78) dX10_init_78 rfl ?_
  obtain ⟨w45, e46, h⟩ := obS h
  have ge46 := calGV_of e46
  refine j_callIN_g (pc := 79) (As := []) (k' := 32) (n' := 5242) dX10_init_79 (s_X6_init ge46.1) (jgP lw_108) nst_X10_40 (jwm lw_107) (jwm lw_109) rfl rfl hy_X6_init rfl (by decide) (by decide) (Nat.le_of_ble_eq_true rfl) (by decide) (by decide) (by decide) (by decide) ge46.2 ?_
  obtain ⟨w47, e48, h⟩ := obS h
  refine j_putF (pc := 82) (ci := 10) (kf := 4) tyX10 tyX10_ok nmX10 dX10_init_82 rfl (jwi hw_X10) (by decide) (jwm lw_110) rfl rfl rfl (fun _ => rfl) (fun _ => rfl) e48 ?_
  refine j_aload_n (pc := 85) dX10_init_85 rfl ?_
  obtain ⟨q49, w50, e51, h⟩ := obS2 h
  refine j_new (pc := 86) (ci := 0) (N := 4) (C := RX0) (T := TX0) tyX0 tyX0_ok dX10_init_86 rfl (jwi hw_X0) (jwm lw_111) (jwm lw_112) (jwm lw_113) (fun j hj => by rcases (show j = 0 ∨ j = 1 ∨ j = 2 ∨ j = 3 by omega) with rfl | rfl | rfl | rfl <;> rfl) (fun _ => rfl) (by decide) (by decide) e51 ?_
  refine j_dup (pc := 89) dX10_init_89 rfl ?_
  obtain ⟨w52, e53, h⟩ := obS h
  have ge53 := calSV_of e53
  refine j_callIN_g (pc := 90) (As := []) (k' := 33) (n' := 5246) dX10_init_90 (s_X0_init ge53.1) (jgP lw_114) nst_X10_47 (jwm lw_113) (jwm lw_115) rfl rfl hy_X0_init rfl (by decide) (by decide) (Nat.le_of_ble_eq_true rfl) (by decide) (by decide) (by decide) (by decide) (Or.inl ge53.2) ?_
  obtain ⟨w54, e55, h⟩ := obS h
  refine j_putF (pc := 93) (ci := 10) (kf := 5) tyX10 tyX10_ok nmX10 dX10_init_93 rfl (jwi hw_X10) (by decide) (jwm lw_116) rfl rfl rfl (fun _ => rfl) (fun _ => rfl) e55 ?_
  refine j_aload_n (pc := 96) dX10_init_96 rfl ?_
  obtain ⟨q56, w57, e58, h⟩ := obS2 h
  refine j_new (pc := 97) (ci := 1) (N := 4) (C := RX1) (T := TX1) tyX1 tyX1_ok dX10_init_97 rfl (jwi hw_X1) (jwm lw_117) (jwm lw_118) (jwm lw_119) (fun j hj => by rcases (show j = 0 ∨ j = 1 ∨ j = 2 ∨ j = 3 by omega) with rfl | rfl | rfl | rfl <;> rfl) (fun _ => rfl) (by decide) (by decide) e58 ?_
  refine j_dup (pc := 100) dX10_init_100 rfl ?_
  obtain ⟨w59, e60, h⟩ := obS h
  have ge60 := calGV_of e60
  refine j_callIN_g (pc := 101) (As := []) (k' := 40) (n' := 6453) dX10_init_101 (s_X1_init ge60.1) (jgP lw_120) nst_X10_54 (jwm lw_119) (jwm lw_121) rfl rfl hy_X1_init rfl (by decide) (by decide) (Nat.le_of_ble_eq_true rfl) (by decide) (by decide) (by decide) (by decide) ge60.2 ?_
  obtain ⟨w61, e62, h⟩ := obS h
  refine j_putF (pc := 104) (ci := 10) (kf := 6) tyX10 tyX10_ok nmX10 dX10_init_104 rfl (jwi hw_X10) (by decide) (jwm lw_122) rfl rfl rfl (fun _ => rfl) (fun _ => rfl) e62 ?_
  refine j_aload_n (pc := 107) dX10_init_107 rfl ?_
  obtain ⟨q63, w64, e65, h⟩ := obS2 h
  refine j_new (pc := 108) (ci := 3) (N := 7) (C := RX3) (T := TX3) tyX3 tyX3_ok dX10_init_108 rfl (jwi hw_X3) (jwm lw_123) (jwm lw_124) (jwm lw_125) (fun j hj => by rcases (show j = 0 ∨ j = 1 ∨ j = 2 ∨ j = 3 ∨ j = 4 ∨ j = 5 ∨ j = 6 by omega) with rfl | rfl | rfl | rfl | rfl | rfl | rfl <;> rfl) (fun _ => rfl) (by decide) (by decide) e65 ?_
  refine j_dup (pc := 111) dX10_init_111 rfl ?_
  obtain ⟨w66, e67, h⟩ := obS h
  have ge67 := calGV_of e67
  refine j_callIN_g (pc := 112) (As := []) (k' := 51) (n' := 8465) dX10_init_112 (s_X3_init ge67.1) (jgP lw_126) nst_X10_61 (jwm lw_125) (jwm lw_127) rfl rfl hy_X3_init rfl (by decide) (by decide) (Nat.le_of_ble_eq_true rfl) (by decide) (by decide) (by decide) (by decide) ge67.2 ?_
  obtain ⟨w68, e69, h⟩ := obS h
  refine j_putF (pc := 115) (ci := 10) (kf := 7) tyX10 tyX10_ok nmX10 dX10_init_115 rfl (jwi hw_X10) (by decide) (jwm lw_128) rfl rfl rfl (fun _ => rfl) (fun _ => rfl) e69 ?_
  refine j_aload_n (pc := 118) dX10_init_118 rfl ?_
  obtain ⟨q70, w71, e72, h⟩ := obS2 h
  refine j_new (pc := 119) (ci := 7) (N := 3) (C := RX7) (T := TX7) tyX7 tyX7_ok dX10_init_119 rfl (jwi hw_X7) (jwm lw_129) (jwm lw_130) (jwm lw_131) (fun j hj => by rcases (show j = 0 ∨ j = 1 ∨ j = 2 by omega) with rfl | rfl | rfl <;> rfl) (fun _ => rfl) (by decide) (by decide) e72 ?_
  refine j_dup (pc := 122) dX10_init_122 rfl ?_
  refine j_aload_n (pc := 123) dX10_init_123 rfl ?_
  obtain ⟨x73, e74, h⟩ := obS h
  refine j_getR (pc := 124) dX10_init_124 (ci := 10) (kf := 0) rfl (jwi hw_X10) (by decide) (jwm lw_94) e74 ?_
  refine j_aload_n (pc := 127) dX10_init_127 rfl ?_
  obtain ⟨x75, e76, h⟩ := obS h
  refine j_getR (pc := 128) dX10_init_128 (ci := 10) (kf := 1) rfl (jwi hw_X10) (by decide) (jwm lw_100) e76 ?_
  refine j_aload_n (pc := 131) dX10_init_131 rfl ?_
  obtain ⟨w77, e78, h⟩ := obS h
  have ge78 := calGV_of e78
  refine j_callI_g (pc := 132) (As := [.ref x73, .ref x75, .ref q1]) (k' := 68) (n' := 10511) dX10_init_132 (s_X7_init ge78.1) (jgP lw_132) (jwm lw_131) (jwm lw_133) (jwm lw_134) rfl rfl hy_X7_init rfl (by decide) (by decide) (Nat.le_of_ble_eq_true rfl) (by decide) (by decide) (by decide) (by decide) ge78.2 ?_
  obtain ⟨w79, e80, h⟩ := obS h
  refine j_putF (pc := 135) (ci := 10) (kf := 8) tyX10 tyX10_ok nmX10 dX10_init_135 rfl (jwi hw_X10) (by decide) (jwm lw_135) rfl rfl rfl (fun _ => rfl) (fun _ => rfl) e80 ?_
  refine j_aload_n (pc := 138) dX10_init_138 rfl ?_
  refine j_iconst (pc := 139) dX10_init_139 (v := 0) (by decide) ?_
  obtain ⟨w81, e82, h⟩ := obS h
  refine j_putV (pc := 140) (ci := 10) (kf := 9) tyX10 tyX10_ok nmX10 dX10_init_140 rfl (jwi hw_X10) (by decide) (jwm lw_136) rfl (pZ_n e82).2.1 (pZ_n e82).2.2 (pZ_n e82).1 ?_
  refine j_aload_n (pc := 143) dX10_init_143 rfl ?_
  refine j_sipush (pc := 144) dX10_init_144 (v := 1000) (by decide) ?_
  obtain ⟨w83, e84, h⟩ := obS h
  refine j_putV (pc := 147) (ci := 10) (kf := 10) tyX10 tyX10_ok nmX10 dX10_init_147 rfl (jwi hw_X10) (by decide) (jwm lw_137) rfl (fun _ => rfl) (fun _ => rfl) e84 ?_
  cases h
  exact j_vret (pc := 150) rfl dX10_init_150 (by decide) (by decide) rfl
theorem r_X10_init {a0 : Nat} {ws : LWd} {o : LWd} (h : m_X10_init a0 ws = some o) : ∃ fs, ws[a0]? = some (.inr (10, fs)) := rcv_in h
def wsX10_pointAt : List Cond := Cond.code yX10_pointAt cX10_pointAt 2 (some .int) :: jW
def m_X10_pointAt (i0 : Int32) (i1 : Int32) (ws : LWd) : Option (Int32 × LWd) :=
  if i0 < 0 then
    some ((-1), ws)
  else
    if 20 ≤ i0 then
      some ((-1), ws)
    else
      if i1 < 0 then
        some ((-1), ws)
      else
        if 20 ≤ i1 then
          some ((-1), ws)
        else
          some ((20 * i1) + i0, ws)
set_option maxRecDepth 100000 in
set_option maxHeartbeats 4000000 in
theorem s_X10_pointAt {i0 : Int32} {i1 : Int32} {ws : LWd} {rr : Int32} {ws' : LWd} (h : m_X10_pointAt i0 i1 ws = some (rr, ws')) : jSp yX10_pointAt wsX10_pointAt 0 0 0 [.int i0, .int i1] ws (.inl (some (.int rr)), ws') := by
  unfold m_X10_pointAt at h
  refine j_entry (ret := (some .int)) (nm := "pointAt") (own := RX10) pl_X10 rfl rfl rfl (jcats (by rfl)) (Nat.le_of_ble_eq_true rfl) ?_
  show JG (.inl false) cX10_pointAt 2 RX10 wsX10_pointAt (some .int) "pointAt" 0 0 0 ws.length (.inl (some (.int rr)), ws') 0 [some (.int i0), some (.int i1)] [] ws 0 0
  refine j_iload_n (pc := 0) dX10_pointAt_0 rfl ?_
  refine j_if_lt (pc := 1) (tgt := 29) dX10_pointAt_1 (by decide) (fun c1 => ?_) (fun c1 => ?_)
  · rw [if_pos c1] at h
    refine j_iconst (pc := 29) dX10_pointAt_29 (v := (-1)) (by decide) ?_
    obtain ⟨rfl, rfl⟩ := jretS h
    exact j_iret (pc := 30) rfl dX10_pointAt_30 (by decide) (by decide) rfl
  · rw [if_neg c1] at h
    refine j_iload_n (pc := 4) dX10_pointAt_4 rfl ?_
    refine j_bipush (pc := 5) dX10_pointAt_5 (v := 20) (by decide) ?_
    refine j_icmp_ge (pc := 7) (tgt := 29) dX10_pointAt_7 (by decide) (fun c2 => ?_) (fun c2 => ?_)
    · rw [if_pos c2] at h
      refine j_iconst (pc := 29) dX10_pointAt_29 (v := (-1)) (by decide) ?_
      obtain ⟨rfl, rfl⟩ := jretS h
      exact j_iret (pc := 30) rfl dX10_pointAt_30 (by decide) (by decide) rfl
    · rw [if_neg c2] at h
      refine j_iload_n (pc := 10) dX10_pointAt_10 rfl ?_
      refine j_if_lt (pc := 11) (tgt := 29) dX10_pointAt_11 (by decide) (fun c3 => ?_) (fun c3 => ?_)
      · rw [if_pos c3] at h
        refine j_iconst (pc := 29) dX10_pointAt_29 (v := (-1)) (by decide) ?_
        obtain ⟨rfl, rfl⟩ := jretS h
        exact j_iret (pc := 30) rfl dX10_pointAt_30 (by decide) (by decide) rfl
      · rw [if_neg c3] at h
        refine j_iload_n (pc := 14) dX10_pointAt_14 rfl ?_
        refine j_bipush (pc := 15) dX10_pointAt_15 (v := 20) (by decide) ?_
        refine j_icmp_ge (pc := 17) (tgt := 29) dX10_pointAt_17 (by decide) (fun c4 => ?_) (fun c4 => ?_)
        · rw [if_pos c4] at h
          refine j_iconst (pc := 29) dX10_pointAt_29 (v := (-1)) (by decide) ?_
          obtain ⟨rfl, rfl⟩ := jretS h
          exact j_iret (pc := 30) rfl dX10_pointAt_30 (by decide) (by decide) rfl
        · rw [if_neg c4] at h
          refine j_bipush (pc := 20) dX10_pointAt_20 (v := 20) (by decide) ?_
          refine j_iload_n (pc := 22) dX10_pointAt_22 rfl ?_
          refine j_imul (pc := 23) dX10_pointAt_23 ?_
          refine j_iload_n (pc := 24) dX10_pointAt_24 rfl ?_
          refine j_iadd (pc := 25) dX10_pointAt_25 ?_
          refine j_goto (pc := 26) (tgt := 30) dX10_pointAt_26 (by decide) ?_
          obtain ⟨rfl, rfl⟩ := jretS h
          exact j_iret (pc := 30) rfl dX10_pointAt_30 (by decide) (by decide) rfl
def wsX10_isWithin : List Cond := Cond.code yX10_isWithin cX10_isWithin 3 (some .boolean) :: jW
def m_X10_isWithin (i0 : Int32) (i1 : Int32) (i2 : Int32) (ws : LWd) : Option (Int32 × LWd) :=
  if i0 < i1 then
    some (0, ws)
  else
    if i2 < i0 then
      some (0, ws)
    else
      some (1, ws)
set_option maxRecDepth 100000 in
set_option maxHeartbeats 4000000 in
theorem s_X10_isWithin {i0 : Int32} {i1 : Int32} {i2 : Int32} {ws : LWd} {rr : Int32} {ws' : LWd} (h : m_X10_isWithin i0 i1 i2 ws = some (rr, ws')) : jSp yX10_isWithin wsX10_isWithin 0 0 0 [.int i0, .int i1, .int i2] ws (.inl (some (.int rr)), ws') := by
  unfold m_X10_isWithin at h
  refine j_entry (ret := (some .boolean)) (nm := "isWithin") (own := RX10) pl_X10 rfl rfl rfl (jcats (by rfl)) (Nat.le_of_ble_eq_true rfl) ?_
  show JG (.inl false) cX10_isWithin 3 RX10 wsX10_isWithin (some .boolean) "isWithin" 0 0 0 ws.length (.inl (some (.int rr)), ws') 0 [some (.int i0), some (.int i1), some (.int i2)] [] ws 0 0
  refine j_iload_n (pc := 0) dX10_isWithin_0 rfl ?_
  refine j_iload_n (pc := 1) dX10_isWithin_1 rfl ?_
  refine j_icmp_lt (pc := 2) (tgt := 14) dX10_isWithin_2 (by decide) (fun c1 => ?_) (fun c1 => ?_)
  · rw [if_pos c1] at h
    refine j_iconst (pc := 14) dX10_isWithin_14 (v := 0) (by decide) ?_
    obtain ⟨rfl, rfl⟩ := jretS h
    exact j_zretL (pc := 15) (by decide) rfl dX10_isWithin_15 (by decide) (by decide) rfl
  · rw [if_neg c1] at h
    refine j_iload_n (pc := 5) dX10_isWithin_5 rfl ?_
    refine j_iload_n (pc := 6) dX10_isWithin_6 rfl ?_
    refine j_icmp_gt (pc := 7) (tgt := 14) dX10_isWithin_7 (by decide) (fun c2 => ?_) (fun c2 => ?_)
    · rw [if_pos c2] at h
      refine j_iconst (pc := 14) dX10_isWithin_14 (v := 0) (by decide) ?_
      obtain ⟨rfl, rfl⟩ := jretS h
      exact j_zretL (pc := 15) (by decide) rfl dX10_isWithin_15 (by decide) (by decide) rfl
    · rw [if_neg c2] at h
      refine j_iconst (pc := 10) dX10_isWithin_10 (v := 1) (by decide) ?_
      refine j_goto (pc := 11) (tgt := 15) dX10_isWithin_11 (by decide) ?_
      obtain ⟨rfl, rfl⟩ := jretS h
      exact j_zretL (pc := 15) (by decide) rfl dX10_isWithin_15 (by decide) (by decide) rfl
def wsX8_at : List Cond := Cond.code yX8_at cX8_at 2 (some .int) :: jW
def m_X8_at (a0 : Nat) (i1 : Int32) (ws : LWd) : Option (Int32 × LWd) :=
  (rcv ws a0 8).bind fun _ =>
  if i1 < 0 then
    some (0, ws)
  else
    (fR ws a0 8 0).bind fun x2 =>
    (aL ws x2).bind fun x4 =>
    if x4 ≤ i1 then
      some (0, ws)
    else
      (fR ws a0 8 0).bind fun x7 =>
      (aI ws x7 i1).bind fun x9 =>
      some (x9, ws)
set_option maxRecDepth 100000 in
set_option maxHeartbeats 4000000 in
theorem s_X8_at {a0 : Nat} {i1 : Int32} {ws : LWd} {rr : Int32} {ws' : LWd} (h : m_X8_at a0 i1 ws = some (rr, ws')) : jSp yX8_at wsX8_at 0 0 0 [.ref a0, .int i1] ws (.inl (some (.int rr)), ws') := by
  unfold m_X8_at at h
  refine j_entry (ret := (some .int)) (nm := "at") (own := RX8) pl_X8 rfl rfl rfl (jcats (by rfl)) (Nat.le_of_ble_eq_true rfl) ?_
  show JG (.inl false) cX8_at 2 RX8 wsX8_at (some .int) "at" 0 0 0 ws.length (.inl (some (.int rr)), ws') 0 [some (.ref a0), some (.int i1)] [] ws 0 0
  obtain ⟨_, _, h⟩ := obS h
  refine j_iload_n (pc := 0) dX8_at_0 rfl ?_
  refine j_if_lt (pc := 1) (tgt := 22) dX8_at_1 (by decide) (fun c1 => ?_) (fun c1 => ?_)
  · rw [if_pos c1] at h
    refine j_iconst (pc := 22) dX8_at_22 (v := 0) (by decide) ?_
    obtain ⟨rfl, rfl⟩ := jretS h
    exact j_iret (pc := 23) rfl dX8_at_23 (by decide) (by decide) rfl
  · rw [if_neg c1] at h
    refine j_iload_n (pc := 4) dX8_at_4 rfl ?_
    refine j_aload_n (pc := 5) dX8_at_5 rfl ?_
    obtain ⟨x2, e3, h⟩ := obS h
    refine j_getR (pc := 6) dX8_at_6 (ci := 8) (kf := 0) rfl (jwi hw_X8) (by decide) (jwm lw_1) e3 ?_
    obtain ⟨x4, e5, h⟩ := obS h
    refine j_alen (pc := 9) dX8_at_9 e5 ?_
    refine j_icmp_ge (pc := 10) (tgt := 22) dX8_at_10 (by decide) (fun c6 => ?_) (fun c6 => ?_)
    · rw [if_pos c6] at h
      refine j_iconst (pc := 22) dX8_at_22 (v := 0) (by decide) ?_
      obtain ⟨rfl, rfl⟩ := jretS h
      exact j_iret (pc := 23) rfl dX8_at_23 (by decide) (by decide) rfl
    · rw [if_neg c6] at h
      refine j_aload_n (pc := 13) dX8_at_13 rfl ?_
      obtain ⟨x7, e8, h⟩ := obS h
      refine j_getR (pc := 14) dX8_at_14 (ci := 8) (kf := 0) rfl (jwi hw_X8) (by decide) (jwm lw_1) e8 ?_
      refine j_iload_n (pc := 17) dX8_at_17 rfl ?_
      obtain ⟨x9, e10, h⟩ := obS h
      refine j_iald (pc := 18) dX8_at_18 e10 ?_
      refine j_goto (pc := 19) (tgt := 23) dX8_at_19 (by decide) ?_
      obtain ⟨rfl, rfl⟩ := jretS h
      exact j_iret (pc := 23) rfl dX8_at_23 (by decide) (by decide) rfl
theorem r_X8_at {a0 : Nat} {i1 : Int32} {ws : LWd} {o : (Int32 × LWd)} (h : m_X8_at a0 i1 ws = some o) : ∃ fs, ws[a0]? = some (.inr (8, fs)) := rcv_in h
def wsX9_isTaken : List Cond := Cond.code yX9_isTaken cX9_isTaken 4 (some .boolean) :: jW
def m_X9_isTaken_b27 (k2 : Nat → Int32 → Int32 → Int32 → LWd → Option (Int32 × LWd)) (a0 : Nat) (i1 : Int32) (i2 : Int32) (i3 : Int32) (ws : LWd) : Option (Int32 × LWd) :=
  k2 a0 i1 i2 (i3 + 1) ws
set_option maxRecDepth 100000 in
set_option maxHeartbeats 4000000 in
theorem jm_X9_isTaken_b27 {n0 : Nat} {rr : Int32} {ws' : LWd} {k2 : Nat → Int32 → Int32 → Int32 → LWd → Option (Int32 × LWd)} (hk2 : ∀ (a0 : Nat) (i1 : Int32) (i2 : Int32) (i3 : Int32) (ws : LWd), k2 a0 i1 i2 i3 ws = some (rr, ws') → JG (.inl false) cX9_isTaken 4 RX9 wsX9_isTaken (some .boolean) "isTaken" 1 0 0 n0 (.inl (some (.int rr)), ws') 2 [some (.ref a0), some (.int i1), some (.int i2), some (.int i3)] [] ws 0 0) (a0 : Nat) (i1 : Int32) (i2 : Int32) (i3 : Int32) (ws : LWd) (h : m_X9_isTaken_b27 k2 a0 i1 i2 i3 ws = some (rr, ws')) : JG (.inl false) cX9_isTaken 4 RX9 wsX9_isTaken (some .boolean) "isTaken" 1 0 0 n0 (.inl (some (.int rr)), ws') 27 [some (.ref a0), some (.int i1), some (.int i2), some (.int i3)] [] ws 0 0 := by
  unfold m_X9_isTaken_b27 at h
  refine j_iinc_3 (pc := 27) dX9_isTaken_27 (y := i3 + 1) rfl (by decide) rfl ?_
  refine j_goto (pc := 30) (tgt := 2) dX9_isTaken_30 (by decide) ?_
  exact hk2 _ _ _ _ ws h
def m_X9_isTaken_l2 : Nat → Nat → Int32 → Int32 → Int32 → LWd → Option (Int32 × LWd)
  | 0, _, _, _, _, _ => none
  | fu + 1, a0, i1, i2, i3, ws =>
    if 6 ≤ i3 then
      some (0, ws)
    else
      if i3 = i2 then
        m_X9_isTaken_b27 (fun z0 z1 z2 z3 w => m_X9_isTaken_l2 fu z0 z1 z2 z3 w) a0 i1 i2 i3 ws
      else
        (fR ws a0 9 3).bind fun x3 =>
        bn2 (calSR ws (m_X8_at x3 i3 ws)) fun x7 w5 =>
        if x7 = i1 then
          some (1, w5)
        else
          m_X9_isTaken_b27 (fun z0 z1 z2 z3 w => m_X9_isTaken_l2 fu z0 z1 z2 z3 w) a0 i1 i2 i3 w5
set_option maxRecDepth 100000 in
set_option maxHeartbeats 4000000 in
theorem jm_X9_isTaken_l2 {n0 : Nat} {rr : Int32} {ws' : LWd} : ∀ (fu : Nat) (a0 : Nat) (i1 : Int32) (i2 : Int32) (i3 : Int32) (ws : LWd), m_X9_isTaken_l2 fu a0 i1 i2 i3 ws = some (rr, ws') → JG (.inl false) cX9_isTaken 4 RX9 wsX9_isTaken (some .boolean) "isTaken" 1 0 0 n0 (.inl (some (.int rr)), ws') 2 [some (.ref a0), some (.int i1), some (.int i2), some (.int i3)] [] ws 0 0 := by
  intro fu
  induction fu with
  | zero => intro a0 i1 i2 i3 ws h; first | (cases h; done) | (rw [m_X9_isTaken_l2] at h; cases h)
  | succ fu ih =>
    intro a0 i1 i2 i3 ws h
    rw [m_X9_isTaken_l2] at h
    refine j_iload_n (pc := 2) dX9_isTaken_2 rfl ?_
    refine j_bipush (pc := 3) dX9_isTaken_3 (v := 6) (by decide) ?_
    refine j_icmp_ge (pc := 5) (tgt := 33) dX9_isTaken_5 (by decide) (fun c1 => ?_) (fun c1 => ?_)
    · rw [if_pos c1] at h
      refine j_iconst (pc := 33) dX9_isTaken_33 (v := 0) (by decide) ?_
      obtain ⟨rfl, rfl⟩ := jretS h
      exact j_zretL (pc := 34) (by decide) rfl dX9_isTaken_34 (by decide) (by decide) rfl
    · rw [if_neg c1] at h
      refine j_iload_n (pc := 8) dX9_isTaken_8 rfl ?_
      refine j_iload_n (pc := 9) dX9_isTaken_9 rfl ?_
      refine j_icmp_eq (pc := 10) (tgt := 27) dX9_isTaken_10 (by decide) (fun c2 => ?_) (fun c2 => ?_)
      · rw [if_pos c2] at h
        exact jm_X9_isTaken_b27 (hk2 := ih) _ _ _ _ ws h
      · rw [if_neg c2] at h
        refine j_aload_n (pc := 13) dX9_isTaken_13 rfl ?_
        obtain ⟨x3, e4, h⟩ := obS h
        refine j_getR (pc := 14) dX9_isTaken_14 (ci := 9) (kf := 3) rfl (jwi hw_X9) (by decide) (jwm lw_39) e4 ?_
        refine j_iload_n (pc := 17) dX9_isTaken_17 rfl ?_
        obtain ⟨x7, w5, e6, h⟩ := obS2 h
        have ge6 := calSR_of e6
        refine j_callV_g (pc := 18) (As := [.int i3]) (k' := 0) (n' := 0) dX9_isTaken_18 (s_X8_at ge6.1) (jgV lw_139 lw_140 lw_141 lw_12 lw_138) rfl hv_X8_at rfl (r_X8_at ge6.1) rfl (by decide) (by decide) (Nat.le_of_ble_eq_true rfl) (by decide) (by decide) (by decide) (by decide) (Or.inl ge6.2) ?_
        refine j_iload_n (pc := 21) dX9_isTaken_21 rfl ?_
        refine j_icmp_ne (pc := 22) (tgt := 27) dX9_isTaken_22 (by decide) (fun c8 => ?_) (fun c8 => ?_)
        · rw [if_neg c8] at h
          exact jm_X9_isTaken_b27 (hk2 := ih) _ _ _ _ w5 h
        · rw [if_pos c8] at h
          refine j_iconst (pc := 25) dX9_isTaken_25 (v := 1) (by decide) ?_
          obtain ⟨rfl, rfl⟩ := jretS h
          exact j_zretL (pc := 26) (by decide) rfl dX9_isTaken_26 (by decide) (by decide) rfl
def m_X9_isTaken (a0 : Nat) (i1 : Int32) (i2 : Int32) (ws : LWd) : Option (Int32 × LWd) :=
  (rcv ws a0 9).bind fun _ =>
  m_X9_isTaken_l2 FU a0 i1 i2 0 ws
set_option maxRecDepth 100000 in
set_option maxHeartbeats 4000000 in
theorem s_X9_isTaken {a0 : Nat} {i1 : Int32} {i2 : Int32} {ws : LWd} {rr : Int32} {ws' : LWd} (h : m_X9_isTaken a0 i1 i2 ws = some (rr, ws')) : jSp yX9_isTaken wsX9_isTaken 1 0 0 [.ref a0, .int i1, .int i2] ws (.inl (some (.int rr)), ws') := by
  unfold m_X9_isTaken at h
  refine j_entry (ret := (some .boolean)) (nm := "isTaken") (own := RX9) pl_X9 rfl rfl rfl (jcats (by rfl)) (Nat.le_of_ble_eq_true rfl) ?_
  show JG (.inl false) cX9_isTaken 4 RX9 wsX9_isTaken (some .boolean) "isTaken" 1 0 0 ws.length (.inl (some (.int rr)), ws') 0 [some (.ref a0), some (.int i1), some (.int i2), none] [] ws 0 0
  obtain ⟨_, _, h⟩ := obS h
  refine j_iconst (pc := 0) dX9_isTaken_0 (v := 0) (by decide) ?_
  refine j_istore_n_3 (pc := 1) dX9_isTaken_1 (by decide) rfl ?_
  exact jm_X9_isTaken_l2 FU _ _ _ _ ws h
theorem r_X9_isTaken {a0 : Nat} {i1 : Int32} {i2 : Int32} {ws : LWd} {o : (Int32 × LWd)} (h : m_X9_isTaken a0 i1 i2 ws = some o) : ∃ fs, ws[a0]? = some (.inr (9, fs)) := rcv_in h
def wsX8_put : List Cond := Cond.code yX8_put cX8_put 3 none :: jW
def m_X8_put (a0 : Nat) (i1 : Int32) (i2 : Int32) (ws : LWd) : Option LWd :=
  (rcv ws a0 8).bind fun _ =>
  if i1 < 0 then
    some ws
  else
    (fR ws a0 8 0).bind fun x2 =>
    (aL ws x2).bind fun x4 =>
    if x4 ≤ i1 then
      some ws
    else
      (fR ws a0 8 0).bind fun x7 =>
      (sI ws x7 i1 i2).bind fun w9 =>
      some w9
set_option maxRecDepth 100000 in
set_option maxHeartbeats 4000000 in
theorem s_X8_put {a0 : Nat} {i1 : Int32} {i2 : Int32} {ws : LWd} {ws' : LWd} (h : m_X8_put a0 i1 i2 ws = some ws') : jSp yX8_put wsX8_put 0 0 0 [.ref a0, .int i1, .int i2] ws (.inl none, ws') := by
  unfold m_X8_put at h
  refine j_entry (ret := none) (nm := "put") (own := RX8) pl_X8 rfl rfl rfl (jcats (by rfl)) (Nat.le_of_ble_eq_true rfl) ?_
  show JG (.inl false) cX8_put 3 RX8 wsX8_put none "put" 0 0 0 ws.length (.inl none, ws') 0 [some (.ref a0), some (.int i1), some (.int i2)] [] ws 0 0
  obtain ⟨_, _, h⟩ := obS h
  refine j_iload_n (pc := 0) dX8_put_0 rfl ?_
  refine j_if_lt (pc := 1) (tgt := 20) dX8_put_1 (by decide) (fun c1 => ?_) (fun c1 => ?_)
  · rw [if_pos c1] at h
    cases h
    exact j_vret (pc := 20) rfl dX8_put_20 (by decide) (by decide) rfl
  · rw [if_neg c1] at h
    refine j_iload_n (pc := 4) dX8_put_4 rfl ?_
    refine j_aload_n (pc := 5) dX8_put_5 rfl ?_
    obtain ⟨x2, e3, h⟩ := obS h
    refine j_getR (pc := 6) dX8_put_6 (ci := 8) (kf := 0) rfl (jwi hw_X8) (by decide) (jwm lw_1) e3 ?_
    obtain ⟨x4, e5, h⟩ := obS h
    refine j_alen (pc := 9) dX8_put_9 e5 ?_
    refine j_icmp_ge (pc := 10) (tgt := 20) dX8_put_10 (by decide) (fun c6 => ?_) (fun c6 => ?_)
    · rw [if_pos c6] at h
      cases h
      exact j_vret (pc := 20) rfl dX8_put_20 (by decide) (by decide) rfl
    · rw [if_neg c6] at h
      refine j_aload_n (pc := 13) dX8_put_13 rfl ?_
      obtain ⟨x7, e8, h⟩ := obS h
      refine j_getR (pc := 14) dX8_put_14 (ci := 8) (kf := 0) rfl (jwi hw_X8) (by decide) (jwm lw_1) e8 ?_
      refine j_iload_n (pc := 17) dX8_put_17 rfl ?_
      refine j_iload_n (pc := 18) dX8_put_18 rfl ?_
      obtain ⟨w9, e10, h⟩ := obS h
      refine j_iast (pc := 19) dX8_put_19 e10 ?_
      cases h
      exact j_vret (pc := 20) rfl dX8_put_20 (by decide) (by decide) rfl
theorem r_X8_put {a0 : Nat} {i1 : Int32} {i2 : Int32} {ws : LWd} {o : LWd} (h : m_X8_put a0 i1 i2 ws = some o) : ∃ fs, ws[a0]? = some (.inr (8, fs)) := rcv_in h
def wsX10_ground : List Cond := Cond.code yX10_ground cX10_ground 8 (some .int) :: jW
def m_X10_ground_b45 (ws : LWd) : Option ((Int32 ⊕ String) × LWd) :=
  some (.inr "java/lang/IllegalArgumentException", ws)
set_option maxRecDepth 100000 in
set_option maxHeartbeats 4000000 in
theorem jm_X10_ground_b45 {n0 : Nat} {rr : Int32 ⊕ String} {ws' : LWd} (ws : LWd) (hn0 : ws.length = n0) (h : m_X10_ground_b45 ws = some (rr, ws')) : JG (.inl true) cX10_ground 8 RX10 wsX10_ground (some .int) "ground" 6 1 6 n0 (jthr rr, ws') 45 [none, none, none, none, none, none, none, none] [] ws 0 0 := by
  unfold m_X10_ground_b45 at h
  obtain ⟨rfl, rfl⟩ := jretS h
  exact j_throw (pc := 45) (text := "no such point, or no such ground") rfl rfl dX10_ground_45 dX10_ground_48 dX10_ground_49 dX10_ground_51 dX10_ground_54 (List.mem_of_getElem? (i := 0) rfl) (List.mem_of_getElem? (i := 0) rfl) (jfit _ (List.mem_of_getElem? (i := 0) rfl)) (jwm lw_142) (jwm lw_143) (jwi hwx_93) jgo_93 (by decide) (Nat.le_of_ble_eq_true rfl) (by decide) (by decide) (by omega) rfl
def m_X10_ground (a0 : Nat) (i1 : Int32) (i2 : Int32) (i3 : Int32) (i4 : Int32) (i5 : Int32) (ws : LWd) : Option ((Int32 ⊕ String) × LWd) :=
  (rcv ws a0 10).bind fun _ =>
  bn2 (calSR ws (m_X10_pointAt i1 i2 ws)) fun x3 w1 =>
  if x3 = ((-1)) then
    m_X10_ground_b45  w1
  else
    bn2 (calSR w1 (m_X10_isWithin i3 0 9 w1)) fun x7 w5 =>
    if x7 = 0 then
      m_X10_ground_b45  w5
    else
      bn2 (calSR w5 (m_X10_isWithin i4 0 99 w5)) fun x11 w9 =>
      if x11 = 0 then
        m_X10_ground_b45  w9
      else
        bn2 (calSR w9 (m_X10_isWithin i5 0 9 w9)) fun x15 w13 =>
        if x15 = 0 then
          m_X10_ground_b45  w13
        else
          (fR w13 a0 10 2).bind fun x17 =>
          bn2 (calSR w13 (m_X9_isTaken x17 x3 ((-1)) w13)) fun x21 w19 =>
          if x21 = 0 then
            (fR w19 a0 10 0).bind fun x23 =>
            (fR w19 x23 5 0).bind fun x25 =>
            bn2 (calSR w19 (m_X8_at x25 x3 w19)) fun x29 w27 =>
            (fR w27 a0 10 0).bind fun x30 =>
            (fR w27 x30 5 0).bind fun x32 =>
            (calSV w27 (m_X8_put x32 x3 i3 w27)).bind fun w34 =>
            (fR w34 a0 10 0).bind fun x36 =>
            (fR w34 x36 5 1).bind fun x38 =>
            (calSV w34 (m_X8_put x38 x3 i4 w34)).bind fun w40 =>
            (fR w40 a0 10 0).bind fun x42 =>
            (fR w40 x42 5 2).bind fun x44 =>
            (calSV w40 (m_X8_put x44 x3 i5 w40)).bind fun w46 =>
            some (.inl x29, w46)
          else
            some (.inr "java/lang/IllegalStateException", w19)
set_option maxRecDepth 100000 in
set_option maxHeartbeats 4000000 in
theorem s_X10_ground {a0 : Nat} {i1 : Int32} {i2 : Int32} {i3 : Int32} {i4 : Int32} {i5 : Int32} {ws : LWd} {rr : Int32 ⊕ String} {ws' : LWd} (h : m_X10_ground a0 i1 i2 i3 i4 i5 ws = some (rr, ws')) : jSX yX10_ground wsX10_ground 6 1 6 [.ref a0, .int i1, .int i2, .int i3, .int i4, .int i5] ws (jthr rr, ws') := by
  unfold m_X10_ground at h
  refine j_entryX (ret := (some .int)) (nm := "ground") (own := RX10) pl_X10 rfl rfl rfl (jcats (by rfl)) (Nat.le_of_ble_eq_true rfl) ?_
  show JG (.inl true) cX10_ground 8 RX10 wsX10_ground (some .int) "ground" 6 1 6 ws.length (jthr rr, ws') 0 [some (.ref a0), some (.int i1), some (.int i2), some (.int i3), some (.int i4), some (.int i5), none, none] [] ws 0 0
  obtain ⟨_, _, h⟩ := obS h
  refine j_iload_n (pc := 0) dX10_ground_0 rfl ?_
  refine j_iload_n (pc := 1) dX10_ground_1 rfl ?_
  obtain ⟨x3, w1, e2, h⟩ := obS2 h
  have ge2 := calSR_of e2
  have le2 := ge2.2
  refine j_callS_g (pc := 2) (As := [.int i1, .int i2]) (k' := 0) (n' := 0) dX10_ground_2 (s_X10_pointAt ge2.1) (jgS lw_145 lw_146 lw_147 lw_144) rfl hy_X10_pointAt rfl (by decide) (by decide) (Nat.le_of_ble_eq_true rfl) (by decide) (by decide) (by decide) (by decide) (Or.inl ge2.2) ?_
  refine j_istore_6 (pc := 5) dX10_ground_5 (by decide) rfl ?_
  refine j_iload (pc := 7) dX10_ground_7 rfl ?_
  refine j_iconst (pc := 9) dX10_ground_9 (v := (-1)) (by decide) ?_
  refine j_icmp_eq (pc := 10) (tgt := 45) dX10_ground_10 (by decide) (fun c4 => ?_) (fun c4 => ?_)
  · rw [if_pos c4] at h
    refine j_mask [false, false, false, false, false, false, false, false] ?_
    exact jm_X10_ground_b45 w1 (by omega) h
  · rw [if_neg c4] at h
    refine j_iload_n (pc := 13) dX10_ground_13 rfl ?_
    refine j_iconst (pc := 14) dX10_ground_14 (v := 0) (by decide) ?_
    refine j_bipush (pc := 15) dX10_ground_15 (v := 9) (by decide) ?_
    obtain ⟨x7, w5, e6, h⟩ := obS2 h
    have ge6 := calSR_of e6
    have le6 := ge6.2
    refine j_callS_g (pc := 17) (As := [.int i3, .int 0, .int 9]) (k' := 0) (n' := 0) dX10_ground_17 (s_X10_isWithin ge6.1) (jgS lw_149 lw_150 lw_147 lw_148) rfl hy_X10_isWithin rfl (by decide) (by decide) (Nat.le_of_ble_eq_true rfl) (by decide) (by decide) (by decide) (by decide) (Or.inl ge6.2) ?_
    refine j_if_eq (pc := 20) (tgt := 45) dX10_ground_20 (by decide) (fun c8 => ?_) (fun c8 => ?_)
    · rw [if_pos c8] at h
      refine j_mask [false, false, false, false, false, false, false, false] ?_
      exact jm_X10_ground_b45 w5 (by omega) h
    · rw [if_neg c8] at h
      refine j_iload (pc := 23) dX10_ground_23 rfl ?_
      refine j_iconst (pc := 25) dX10_ground_25 (v := 0) (by decide) ?_
      refine j_bipush (pc := 26) dX10_ground_26 (v := 99) (by decide) ?_
      obtain ⟨x11, w9, e10, h⟩ := obS2 h
      have ge10 := calSR_of e10
      have le10 := ge10.2
      refine j_callS_g (pc := 28) (As := [.int i4, .int 0, .int 99]) (k' := 0) (n' := 0) dX10_ground_28 (s_X10_isWithin ge10.1) (jgS lw_149 lw_150 lw_147 lw_148) rfl hy_X10_isWithin rfl (by decide) (by decide) (Nat.le_of_ble_eq_true rfl) (by decide) (by decide) (by decide) (by decide) (Or.inl ge10.2) ?_
      refine j_if_eq (pc := 31) (tgt := 45) dX10_ground_31 (by decide) (fun c12 => ?_) (fun c12 => ?_)
      · rw [if_pos c12] at h
        refine j_mask [false, false, false, false, false, false, false, false] ?_
        exact jm_X10_ground_b45 w9 (by omega) h
      · rw [if_neg c12] at h
        refine j_iload (pc := 34) dX10_ground_34 rfl ?_
        refine j_iconst (pc := 36) dX10_ground_36 (v := 0) (by decide) ?_
        refine j_bipush (pc := 37) dX10_ground_37 (v := 9) (by decide) ?_
        obtain ⟨x15, w13, e14, h⟩ := obS2 h
        have ge14 := calSR_of e14
        have le14 := ge14.2
        refine j_callS_g (pc := 39) (As := [.int i5, .int 0, .int 9]) (k' := 0) (n' := 0) dX10_ground_39 (s_X10_isWithin ge14.1) (jgS lw_149 lw_150 lw_147 lw_148) rfl hy_X10_isWithin rfl (by decide) (by decide) (Nat.le_of_ble_eq_true rfl) (by decide) (by decide) (by decide) (by decide) (Or.inl ge14.2) ?_
        refine j_if_ne (pc := 42) (tgt := 55) dX10_ground_42 (by decide) (fun c16 => ?_) (fun c16 => ?_)
        · rw [if_neg c16] at h
          refine j_aload_n (pc := 55) dX10_ground_55 rfl ?_
          obtain ⟨x17, e18, h⟩ := obS h
          refine j_getR (pc := 56) dX10_ground_56 (ci := 10) (kf := 2) rfl (jwi hw_X10) (by decide) (jwm lw_103) e18 ?_
          refine j_iload (pc := 59) dX10_ground_59 rfl ?_
          refine j_iconst (pc := 61) dX10_ground_61 (v := (-1)) (by decide) ?_
          obtain ⟨x21, w19, e20, h⟩ := obS2 h
          have ge20 := calSR_of e20
          have le20 := ge20.2
          refine j_callV_g (pc := 62) (As := [.int x3, .int ((-1))]) (k' := 0) (n' := 0) dX10_ground_62 (s_X9_isTaken ge20.1) (jgV lw_152 lw_153 lw_154 lw_76 lw_151) rfl hv_X9_isTaken rfl (r_X9_isTaken ge20.1) rfl (by decide) (by decide) (Nat.le_of_ble_eq_true rfl) (by decide) (by decide) (by decide) (by decide) (Or.inl ge20.2) ?_
          refine j_if_eq (pc := 65) (tgt := 78) dX10_ground_65 (by decide) (fun c22 => ?_) (fun c22 => ?_)
          · rw [if_pos c22] at h
            refine j_aload_n (pc := 78) dX10_ground_78 rfl ?_
            obtain ⟨x23, e24, h⟩ := obS h
            refine j_getR (pc := 79) dX10_ground_79 (ci := 10) (kf := 0) rfl (jwi hw_X10) (by decide) (jwm lw_94) e24 ?_
            obtain ⟨x25, e26, h⟩ := obS h
            refine j_getR (pc := 82) dX10_ground_82 (ci := 5) (kf := 0) rfl (jwi hw_X5) (by decide) (jwm lw_155) e26 ?_
            refine j_iload (pc := 85) dX10_ground_85 rfl ?_
            obtain ⟨x29, w27, e28, h⟩ := obS2 h
            have ge28 := calSR_of e28
            have le28 := ge28.2
            refine j_callV_g (pc := 87) (As := [.int x3]) (k' := 0) (n' := 0) dX10_ground_87 (s_X8_at ge28.1) (jgV lw_156 lw_140 lw_141 lw_12 lw_138) rfl hv_X8_at rfl (r_X8_at ge28.1) rfl (by decide) (by decide) (Nat.le_of_ble_eq_true rfl) (by decide) (by decide) (by decide) (by decide) (Or.inl ge28.2) ?_
            refine j_istore_7 (pc := 90) dX10_ground_90 (by decide) rfl ?_
            refine j_aload_n (pc := 92) dX10_ground_92 rfl ?_
            obtain ⟨x30, e31, h⟩ := obS h
            refine j_getR (pc := 93) dX10_ground_93 (ci := 10) (kf := 0) rfl (jwi hw_X10) (by decide) (jwm lw_94) e31 ?_
            obtain ⟨x32, e33, h⟩ := obS h
            refine j_getR (pc := 96) dX10_ground_96 (ci := 5) (kf := 0) rfl (jwi hw_X5) (by decide) (jwm lw_155) e33 ?_
            refine j_iload (pc := 99) dX10_ground_99 rfl ?_
            refine j_iload_n (pc := 101) dX10_ground_101 rfl ?_
            obtain ⟨w34, e35, h⟩ := obS h
            have ge35 := calSV_of e35
            have le35 := ge35.2
            refine j_callV_g (pc := 102) (As := [.int x3, .int i3]) (k' := 0) (n' := 0) dX10_ground_102 (s_X8_put ge35.1) (jgV lw_158 lw_159 lw_160 lw_12 lw_157) rfl hv_X8_put rfl (r_X8_put ge35.1) rfl (by decide) (by decide) (Nat.le_of_ble_eq_true rfl) (by decide) (by decide) (by decide) (by decide) (Or.inl ge35.2) ?_
            refine j_aload_n (pc := 105) dX10_ground_105 rfl ?_
            obtain ⟨x36, e37, h⟩ := obS h
            refine j_getR (pc := 106) dX10_ground_106 (ci := 10) (kf := 0) rfl (jwi hw_X10) (by decide) (jwm lw_94) e37 ?_
            obtain ⟨x38, e39, h⟩ := obS h
            refine j_getR (pc := 109) dX10_ground_109 (ci := 5) (kf := 1) rfl (jwi hw_X5) (by decide) (jwm lw_161) e39 ?_
            refine j_iload (pc := 112) dX10_ground_112 rfl ?_
            refine j_iload (pc := 114) dX10_ground_114 rfl ?_
            obtain ⟨w40, e41, h⟩ := obS h
            have ge41 := calSV_of e41
            have le41 := ge41.2
            refine j_callV_g (pc := 116) (As := [.int x3, .int i4]) (k' := 0) (n' := 0) dX10_ground_116 (s_X8_put ge41.1) (jgV lw_158 lw_159 lw_160 lw_12 lw_157) rfl hv_X8_put rfl (r_X8_put ge41.1) rfl (by decide) (by decide) (Nat.le_of_ble_eq_true rfl) (by decide) (by decide) (by decide) (by decide) (Or.inl ge41.2) ?_
            refine j_aload_n (pc := 119) dX10_ground_119 rfl ?_
            obtain ⟨x42, e43, h⟩ := obS h
            refine j_getR (pc := 120) dX10_ground_120 (ci := 10) (kf := 0) rfl (jwi hw_X10) (by decide) (jwm lw_94) e43 ?_
            obtain ⟨x44, e45, h⟩ := obS h
            refine j_getR (pc := 123) dX10_ground_123 (ci := 5) (kf := 2) rfl (jwi hw_X5) (by decide) (jwm lw_162) e45 ?_
            refine j_iload (pc := 126) dX10_ground_126 rfl ?_
            refine j_iload (pc := 128) dX10_ground_128 rfl ?_
            obtain ⟨w46, e47, h⟩ := obS h
            have ge47 := calSV_of e47
            have le47 := ge47.2
            refine j_callV_g (pc := 130) (As := [.int x3, .int i5]) (k' := 0) (n' := 0) dX10_ground_130 (s_X8_put ge47.1) (jgV lw_158 lw_159 lw_160 lw_12 lw_157) rfl hv_X8_put rfl (r_X8_put ge47.1) rfl (by decide) (by decide) (Nat.le_of_ble_eq_true rfl) (by decide) (by decide) (by decide) (by decide) (Or.inl ge47.2) ?_
            refine j_iload (pc := 133) dX10_ground_133 rfl ?_
            obtain ⟨rfl, rfl⟩ := jretS h
            exact j_iret (pc := 135) rfl dX10_ground_135 (by decide) (by decide) rfl
          · rw [if_neg c22] at h
            obtain ⟨rfl, rfl⟩ := jretS h
            exact j_throw (pc := 68) (text := "a foot is down there") rfl rfl dX10_ground_68 dX10_ground_71 dX10_ground_72 dX10_ground_74 dX10_ground_77 (List.mem_of_getElem? (i := 1) rfl) (List.mem_of_getElem? (i := 1) rfl) (jfit _ (List.mem_of_getElem? (i := 1) rfl)) (jwm lw_163) (jwm lw_164) (jwi hwx_104) jgo_104 (by decide) (Nat.le_of_ble_eq_true rfl) (by decide) (by decide) (by omega) rfl
        · rw [if_pos c16] at h
          refine j_mask [false, false, false, false, false, false, false, false] ?_
          exact jm_X10_ground_b45 w13 (by omega) h
theorem r_X10_ground {a0 : Nat} {i1 : Int32} {i2 : Int32} {i3 : Int32} {i4 : Int32} {i5 : Int32} {ws : LWd} {o : ((Int32 ⊕ String) × LWd)} (h : m_X10_ground a0 i1 i2 i3 i4 i5 ws = some o) : ∃ fs, ws[a0]? = some (.inr (10, fs)) := rcv_in h
def wsX10_chart : List Cond := Cond.code yX10_chart cX10_chart 6 (some .int) :: jW
def m_X10_chart_b23 (ws : LWd) : Option ((Int32 ⊕ String) × LWd) :=
  some (.inr "java/lang/IllegalArgumentException", ws)
set_option maxRecDepth 100000 in
set_option maxHeartbeats 4000000 in
theorem jm_X10_chart_b23 {n0 : Nat} {rr : Int32 ⊕ String} {ws' : LWd} (ws : LWd) (hn0 : ws.length = n0) (h : m_X10_chart_b23 ws = some (rr, ws')) : JG (.inl true) cX10_chart 6 RX10 wsX10_chart (some .int) "chart" 6 1 6 n0 (jthr rr, ws') 23 [none, none, none, none, none, none] [] ws 0 0 := by
  unfold m_X10_chart_b23 at h
  obtain ⟨rfl, rfl⟩ := jretS h
  exact j_throw (pc := 23) (text := "no such point, or no such height") rfl rfl dX10_chart_23 dX10_chart_26 dX10_chart_27 dX10_chart_29 dX10_chart_32 (List.mem_of_getElem? (i := 2) rfl) (List.mem_of_getElem? (i := 0) rfl) (jfit _ (List.mem_of_getElem? (i := 0) rfl)) (jwm lw_142) (jwm lw_143) (jwi hwx_93) jgo_93 (by decide) (Nat.le_of_ble_eq_true rfl) (by decide) (by decide) (by omega) rfl
def m_X10_chart (a0 : Nat) (i1 : Int32) (i2 : Int32) (i3 : Int32) (ws : LWd) : Option ((Int32 ⊕ String) × LWd) :=
  (rcv ws a0 10).bind fun _ =>
  bn2 (calSR ws (m_X10_pointAt i1 i2 ws)) fun x3 w1 =>
  if x3 = ((-1)) then
    m_X10_chart_b23  w1
  else
    bn2 (calSR w1 (m_X10_isWithin i3 0 9 w1)) fun x7 w5 =>
    if x7 = 0 then
      m_X10_chart_b23  w5
    else
      (fR w5 a0 10 0).bind fun x9 =>
      (fR w5 x9 5 3).bind fun x11 =>
      bn2 (calSR w5 (m_X8_at x11 x3 w5)) fun x15 w13 =>
      (fR w13 a0 10 0).bind fun x16 =>
      (fR w13 x16 5 3).bind fun x18 =>
      (calSV w13 (m_X8_put x18 x3 i3 w13)).bind fun w20 =>
      some (.inl x15, w20)
set_option maxRecDepth 100000 in
set_option maxHeartbeats 4000000 in
theorem s_X10_chart {a0 : Nat} {i1 : Int32} {i2 : Int32} {i3 : Int32} {ws : LWd} {rr : Int32 ⊕ String} {ws' : LWd} (h : m_X10_chart a0 i1 i2 i3 ws = some (rr, ws')) : jSX yX10_chart wsX10_chart 6 1 6 [.ref a0, .int i1, .int i2, .int i3] ws (jthr rr, ws') := by
  unfold m_X10_chart at h
  refine j_entryX (ret := (some .int)) (nm := "chart") (own := RX10) pl_X10 rfl rfl rfl (jcats (by rfl)) (Nat.le_of_ble_eq_true rfl) ?_
  show JG (.inl true) cX10_chart 6 RX10 wsX10_chart (some .int) "chart" 6 1 6 ws.length (jthr rr, ws') 0 [some (.ref a0), some (.int i1), some (.int i2), some (.int i3), none, none] [] ws 0 0
  obtain ⟨_, _, h⟩ := obS h
  refine j_iload_n (pc := 0) dX10_chart_0 rfl ?_
  refine j_iload_n (pc := 1) dX10_chart_1 rfl ?_
  obtain ⟨x3, w1, e2, h⟩ := obS2 h
  have ge2 := calSR_of e2
  have le2 := ge2.2
  refine j_callS_g (pc := 2) (As := [.int i1, .int i2]) (k' := 0) (n' := 0) dX10_chart_2 (s_X10_pointAt ge2.1) (jgS lw_145 lw_146 lw_147 lw_144) rfl hy_X10_pointAt rfl (by decide) (by decide) (Nat.le_of_ble_eq_true rfl) (by decide) (by decide) (by decide) (by decide) (Or.inl ge2.2) ?_
  refine j_istore_4 (pc := 5) dX10_chart_5 (by decide) rfl ?_
  refine j_iload (pc := 7) dX10_chart_7 rfl ?_
  refine j_iconst (pc := 9) dX10_chart_9 (v := (-1)) (by decide) ?_
  refine j_icmp_eq (pc := 10) (tgt := 23) dX10_chart_10 (by decide) (fun c4 => ?_) (fun c4 => ?_)
  · rw [if_pos c4] at h
    refine j_mask [false, false, false, false, false, false] ?_
    exact jm_X10_chart_b23 w1 (by omega) h
  · rw [if_neg c4] at h
    refine j_iload_n (pc := 13) dX10_chart_13 rfl ?_
    refine j_iconst (pc := 14) dX10_chart_14 (v := 0) (by decide) ?_
    refine j_bipush (pc := 15) dX10_chart_15 (v := 9) (by decide) ?_
    obtain ⟨x7, w5, e6, h⟩ := obS2 h
    have ge6 := calSR_of e6
    have le6 := ge6.2
    refine j_callS_g (pc := 17) (As := [.int i3, .int 0, .int 9]) (k' := 0) (n' := 0) dX10_chart_17 (s_X10_isWithin ge6.1) (jgS lw_149 lw_150 lw_147 lw_148) rfl hy_X10_isWithin rfl (by decide) (by decide) (Nat.le_of_ble_eq_true rfl) (by decide) (by decide) (by decide) (by decide) (Or.inl ge6.2) ?_
    refine j_if_ne (pc := 20) (tgt := 33) dX10_chart_20 (by decide) (fun c8 => ?_) (fun c8 => ?_)
    · rw [if_neg c8] at h
      refine j_aload_n (pc := 33) dX10_chart_33 rfl ?_
      obtain ⟨x9, e10, h⟩ := obS h
      refine j_getR (pc := 34) dX10_chart_34 (ci := 10) (kf := 0) rfl (jwi hw_X10) (by decide) (jwm lw_94) e10 ?_
      obtain ⟨x11, e12, h⟩ := obS h
      refine j_getR (pc := 37) dX10_chart_37 (ci := 5) (kf := 3) rfl (jwi hw_X5) (by decide) (jwm lw_165) e12 ?_
      refine j_iload (pc := 40) dX10_chart_40 rfl ?_
      obtain ⟨x15, w13, e14, h⟩ := obS2 h
      have ge14 := calSR_of e14
      have le14 := ge14.2
      refine j_callV_g (pc := 42) (As := [.int x3]) (k' := 0) (n' := 0) dX10_chart_42 (s_X8_at ge14.1) (jgV lw_156 lw_140 lw_141 lw_12 lw_138) rfl hv_X8_at rfl (r_X8_at ge14.1) rfl (by decide) (by decide) (Nat.le_of_ble_eq_true rfl) (by decide) (by decide) (by decide) (by decide) (Or.inl ge14.2) ?_
      refine j_istore_5 (pc := 45) dX10_chart_45 (by decide) rfl ?_
      refine j_aload_n (pc := 47) dX10_chart_47 rfl ?_
      obtain ⟨x16, e17, h⟩ := obS h
      refine j_getR (pc := 48) dX10_chart_48 (ci := 10) (kf := 0) rfl (jwi hw_X10) (by decide) (jwm lw_94) e17 ?_
      obtain ⟨x18, e19, h⟩ := obS h
      refine j_getR (pc := 51) dX10_chart_51 (ci := 5) (kf := 3) rfl (jwi hw_X5) (by decide) (jwm lw_165) e19 ?_
      refine j_iload (pc := 54) dX10_chart_54 rfl ?_
      refine j_iload_n (pc := 56) dX10_chart_56 rfl ?_
      obtain ⟨w20, e21, h⟩ := obS h
      have ge21 := calSV_of e21
      have le21 := ge21.2
      refine j_callV_g (pc := 57) (As := [.int x3, .int i3]) (k' := 0) (n' := 0) dX10_chart_57 (s_X8_put ge21.1) (jgV lw_158 lw_159 lw_160 lw_12 lw_157) rfl hv_X8_put rfl (r_X8_put ge21.1) rfl (by decide) (by decide) (Nat.le_of_ble_eq_true rfl) (by decide) (by decide) (by decide) (by decide) (Or.inl ge21.2) ?_
      refine j_iload (pc := 60) dX10_chart_60 rfl ?_
      obtain ⟨rfl, rfl⟩ := jretS h
      exact j_iret (pc := 62) rfl dX10_chart_62 (by decide) (by decide) rfl
    · rw [if_pos c8] at h
      refine j_mask [false, false, false, false, false, false] ?_
      exact jm_X10_chart_b23 w5 (by omega) h
theorem r_X10_chart {a0 : Nat} {i1 : Int32} {i2 : Int32} {i3 : Int32} {ws : LWd} {o : ((Int32 ⊕ String) × LWd)} (h : m_X10_chart a0 i1 i2 i3 ws = some o) : ∃ fs, ws[a0]? = some (.inr (10, fs)) := rcv_in h
def wsX10_isAside : List Cond := Cond.code yX10_isAside cX10_isAside 1 (some .boolean) :: jW
def m_X10_isAside (i0 : Int32) (ws : LWd) : Option (Int32 × LWd) :=
  bn2 (calSR ws (m_X10_isWithin i0 ((-5)) 5 ws)) fun x3 w1 =>
  retZ x3 w1
set_option maxRecDepth 100000 in
set_option maxHeartbeats 4000000 in
theorem s_X10_isAside {i0 : Int32} {ws : LWd} {rr : Int32} {ws' : LWd} (h : m_X10_isAside i0 ws = some (rr, ws')) : jSp yX10_isAside wsX10_isAside 1 0 0 [.int i0] ws (.inl (some (.int rr)), ws') := by
  unfold m_X10_isAside at h
  refine j_entry (ret := (some .boolean)) (nm := "isAside") (own := RX10) pl_X10 rfl rfl rfl (jcats (by rfl)) (Nat.le_of_ble_eq_true rfl) ?_
  show JG (.inl false) cX10_isAside 1 RX10 wsX10_isAside (some .boolean) "isAside" 1 0 0 ws.length (.inl (some (.int rr)), ws') 0 [some (.int i0)] [] ws 0 0
  refine j_iload_n (pc := 0) dX10_isAside_0 rfl ?_
  refine j_bipush (pc := 1) dX10_isAside_1 (v := (-5)) (by decide) ?_
  refine j_iconst (pc := 3) dX10_isAside_3 (v := 5) (by decide) ?_
  obtain ⟨x3, w1, e2, h⟩ := obS2 h
  have ge2 := calSR_of e2
  refine j_callS_g (pc := 4) (As := [.int i0, .int ((-5)), .int 5]) (k' := 0) (n' := 0) dX10_isAside_4 (s_X10_isWithin ge2.1) (jgS lw_149 lw_150 lw_147 lw_148) rfl hy_X10_isWithin rfl (by decide) (by decide) (Nat.le_of_ble_eq_true rfl) (by decide) (by decide) (by decide) (by decide) (Or.inl ge2.2) ?_
  exact j_zret (pc := 7) rfl dX10_isAside_7 (by decide) (by decide) h rfl rfl
def wsX2_join : List Cond := Cond.code yX2_join cX2_join 5 (some .int) :: jW
def m_X2_join (a0 : Nat) (i1 : Int32) (i2 : Int32) (i3 : Int32) (ws : LWd) : Option (Int32 × LWd) :=
  (rcv ws a0 2).bind fun _ =>
  (fI ws a0 2 3).bind fun x1 =>
  (fR ws a0 2 0).bind fun x3 =>
  (calSV ws (m_X8_put x3 x1 i1 ws)).bind fun w5 =>
  (fR w5 a0 2 1).bind fun x7 =>
  (calSV w5 (m_X8_put x7 x1 i2 w5)).bind fun w9 =>
  (fR w9 a0 2 2).bind fun x11 =>
  (calSV w9 (m_X8_put x11 x1 i3 w9)).bind fun w13 =>
  (fI w13 a0 2 3).bind fun x15 =>
  (pV w13 a0 2 3 (.int (x15 + 1))).bind fun w17 =>
  some (x1, w17)
set_option maxRecDepth 100000 in
set_option maxHeartbeats 4000000 in
theorem s_X2_join {a0 : Nat} {i1 : Int32} {i2 : Int32} {i3 : Int32} {ws : LWd} {rr : Int32} {ws' : LWd} (h : m_X2_join a0 i1 i2 i3 ws = some (rr, ws')) : jSp yX2_join wsX2_join 1 0 0 [.ref a0, .int i1, .int i2, .int i3] ws (.inl (some (.int rr)), ws') := by
  unfold m_X2_join at h
  refine j_entry (ret := (some .int)) (nm := "join") (own := RX2) pl_X2 rfl rfl rfl (jcats (by rfl)) (Nat.le_of_ble_eq_true rfl) ?_
  show JG (.inl false) cX2_join 5 RX2 wsX2_join (some .int) "join" 1 0 0 ws.length (.inl (some (.int rr)), ws') 0 [some (.ref a0), some (.int i1), some (.int i2), some (.int i3), none] [] ws 0 0
  obtain ⟨_, _, h⟩ := obS h
  refine j_aload_n (pc := 0) dX2_join_0 rfl ?_
  obtain ⟨x1, e2, h⟩ := obS h
  refine j_getI (pc := 1) dX2_join_1 (ci := 2) (kf := 3) rfl (jwi hw_X2) (by decide) (jwm lw_32) e2 ?_
  refine j_istore_4 (pc := 4) dX2_join_4 (by decide) rfl ?_
  refine j_aload_n (pc := 6) dX2_join_6 rfl ?_
  obtain ⟨x3, e4, h⟩ := obS h
  refine j_getR (pc := 7) dX2_join_7 (ci := 2) (kf := 0) rfl (jwi hw_X2) (by decide) (jwm lw_29) e4 ?_
  refine j_iload (pc := 10) dX2_join_10 rfl ?_
  refine j_iload_n (pc := 12) dX2_join_12 rfl ?_
  obtain ⟨w5, e6, h⟩ := obS h
  have ge6 := calSV_of e6
  refine j_callV_g (pc := 13) (As := [.int x1, .int i1]) (k' := 0) (n' := 0) dX2_join_13 (s_X8_put ge6.1) (jgV lw_166 lw_159 lw_160 lw_12 lw_157) rfl hv_X8_put rfl (r_X8_put ge6.1) rfl (by decide) (by decide) (Nat.le_of_ble_eq_true rfl) (by decide) (by decide) (by decide) (by decide) (Or.inl ge6.2) ?_
  refine j_aload_n (pc := 16) dX2_join_16 rfl ?_
  obtain ⟨x7, e8, h⟩ := obS h
  refine j_getR (pc := 17) dX2_join_17 (ci := 2) (kf := 1) rfl (jwi hw_X2) (by decide) (jwm lw_30) e8 ?_
  refine j_iload (pc := 20) dX2_join_20 rfl ?_
  refine j_iload_n (pc := 22) dX2_join_22 rfl ?_
  obtain ⟨w9, e10, h⟩ := obS h
  have ge10 := calSV_of e10
  refine j_callV_g (pc := 23) (As := [.int x1, .int i2]) (k' := 0) (n' := 0) dX2_join_23 (s_X8_put ge10.1) (jgV lw_166 lw_159 lw_160 lw_12 lw_157) rfl hv_X8_put rfl (r_X8_put ge10.1) rfl (by decide) (by decide) (Nat.le_of_ble_eq_true rfl) (by decide) (by decide) (by decide) (by decide) (Or.inl ge10.2) ?_
  refine j_aload_n (pc := 26) dX2_join_26 rfl ?_
  obtain ⟨x11, e12, h⟩ := obS h
  refine j_getR (pc := 27) dX2_join_27 (ci := 2) (kf := 2) rfl (jwi hw_X2) (by decide) (jwm lw_31) e12 ?_
  refine j_iload (pc := 30) dX2_join_30 rfl ?_
  refine j_iload_n (pc := 32) dX2_join_32 rfl ?_
  obtain ⟨w13, e14, h⟩ := obS h
  have ge14 := calSV_of e14
  refine j_callV_g (pc := 33) (As := [.int x1, .int i3]) (k' := 0) (n' := 0) dX2_join_33 (s_X8_put ge14.1) (jgV lw_166 lw_159 lw_160 lw_12 lw_157) rfl hv_X8_put rfl (r_X8_put ge14.1) rfl (by decide) (by decide) (Nat.le_of_ble_eq_true rfl) (by decide) (by decide) (by decide) (by decide) (Or.inl ge14.2) ?_
  refine j_aload_n (pc := 36) dX2_join_36 rfl ?_
  refine j_dup (pc := 37) dX2_join_37 rfl ?_
  obtain ⟨x15, e16, h⟩ := obS h
  refine j_getI (pc := 38) dX2_join_38 (ci := 2) (kf := 3) rfl (jwi hw_X2) (by decide) (jwm lw_32) e16 ?_
  refine j_iconst (pc := 41) dX2_join_41 (v := 1) (by decide) ?_
  refine j_iadd (pc := 42) dX2_join_42 ?_
  obtain ⟨w17, e18, h⟩ := obS h
  refine j_putV (pc := 43) (ci := 2) (kf := 3) tyX2 tyX2_ok nmX2 dX2_join_43 rfl (jwi hw_X2) (by decide) (jwm lw_32) rfl (fun _ => rfl) (fun _ => rfl) e18 ?_
  refine j_iload (pc := 46) dX2_join_46 rfl ?_
  obtain ⟨rfl, rfl⟩ := jretS h
  exact j_iret (pc := 48) rfl dX2_join_48 (by decide) (by decide) rfl
theorem r_X2_join {a0 : Nat} {i1 : Int32} {i2 : Int32} {i3 : Int32} {ws : LWd} {o : (Int32 × LWd)} (h : m_X2_join a0 i1 i2 i3 ws = some o) : ∃ fs, ws[a0]? = some (.inr (2, fs)) := rcv_in h
def wsX10_leg : List Cond := Cond.code yX10_leg cX10_leg 4 (some .int) :: jW
def m_X10_leg_b24 (ws : LWd) : Option ((Int32 ⊕ String) × LWd) :=
  some (.inr "java/lang/IllegalArgumentException", ws)
set_option maxRecDepth 100000 in
set_option maxHeartbeats 4000000 in
theorem jm_X10_leg_b24 {n0 : Nat} {rr : Int32 ⊕ String} {ws' : LWd} (ws : LWd) (hn0 : ws.length = n0) (h : m_X10_leg_b24 ws = some (rr, ws')) : JG (.inl true) cX10_leg 4 RX10 wsX10_leg (some .int) "leg" 6 1 6 n0 (jthr rr, ws') 24 [none, none, none, none] [] ws 0 0 := by
  unfold m_X10_leg_b24 at h
  obtain ⟨rfl, rfl⟩ := jretS h
  exact j_throw (pc := 24) (text := "no such hip, or no such reach") rfl rfl dX10_leg_24 dX10_leg_27 dX10_leg_28 dX10_leg_30 dX10_leg_33 (List.mem_of_getElem? (i := 3) rfl) (List.mem_of_getElem? (i := 0) rfl) (jfit _ (List.mem_of_getElem? (i := 0) rfl)) (jwm lw_142) (jwm lw_143) (jwi hwx_93) jgo_93 (by decide) (Nat.le_of_ble_eq_true rfl) (by decide) (by decide) (by omega) rfl
def m_X10_leg_b53 (ws : LWd) : Option ((Int32 ⊕ String) × LWd) :=
  some (.inr "java/lang/IllegalStateException", ws)
set_option maxRecDepth 100000 in
set_option maxHeartbeats 4000000 in
theorem jm_X10_leg_b53 {n0 : Nat} {rr : Int32 ⊕ String} {ws' : LWd} (ws : LWd) (hn0 : ws.length = n0) (h : m_X10_leg_b53 ws = some (rr, ws')) : JG (.inl true) cX10_leg 4 RX10 wsX10_leg (some .int) "leg" 6 1 6 n0 (jthr rr, ws') 53 [none, none, none, none] [] ws 0 0 := by
  unfold m_X10_leg_b53 at h
  obtain ⟨rfl, rfl⟩ := jretS h
  exact j_throw (pc := 53) (text := "no leg can be added") rfl rfl dX10_leg_53 dX10_leg_56 dX10_leg_57 dX10_leg_59 dX10_leg_62 (List.mem_of_getElem? (i := 4) rfl) (List.mem_of_getElem? (i := 1) rfl) (jfit _ (List.mem_of_getElem? (i := 1) rfl)) (jwm lw_163) (jwm lw_164) (jwi hwx_104) jgo_104 (by decide) (Nat.le_of_ble_eq_true rfl) (by decide) (by decide) (by omega) rfl
def m_X10_leg (a0 : Nat) (i1 : Int32) (i2 : Int32) (i3 : Int32) (ws : LWd) : Option ((Int32 ⊕ String) × LWd) :=
  (rcv ws a0 10).bind fun _ =>
  bn2 (calSR ws (m_X10_isAside i1 ws)) fun x3 w1 =>
  if x3 = 0 then
    m_X10_leg_b24  w1
  else
    bn2 (calSR w1 (m_X10_isAside i2 w1)) fun x7 w5 =>
    if x7 = 0 then
      m_X10_leg_b24  w5
    else
      bn2 (calSR w5 (m_X10_isWithin i3 1 6 w5)) fun x11 w9 =>
      if x11 = 0 then
        m_X10_leg_b24  w9
      else
        (fI w9 a0 10 9).bind fun x13 =>
        if x13 = 0 then
          (fR w9 a0 10 1).bind fun x16 =>
          (fI w9 x16 2 3).bind fun x18 =>
          if x18 < 6 then
            (fR w9 a0 10 1).bind fun x21 =>
            bn2 (calSR w9 (m_X2_join x21 i1 i2 i3 w9)) fun x25 w23 =>
            some (.inl x25, w23)
          else
            m_X10_leg_b53  w9
        else
          m_X10_leg_b53  w9
set_option maxRecDepth 100000 in
set_option maxHeartbeats 4000000 in
theorem s_X10_leg {a0 : Nat} {i1 : Int32} {i2 : Int32} {i3 : Int32} {ws : LWd} {rr : Int32 ⊕ String} {ws' : LWd} (h : m_X10_leg a0 i1 i2 i3 ws = some (rr, ws')) : jSX yX10_leg wsX10_leg 6 1 6 [.ref a0, .int i1, .int i2, .int i3] ws (jthr rr, ws') := by
  unfold m_X10_leg at h
  refine j_entryX (ret := (some .int)) (nm := "leg") (own := RX10) pl_X10 rfl rfl rfl (jcats (by rfl)) (Nat.le_of_ble_eq_true rfl) ?_
  show JG (.inl true) cX10_leg 4 RX10 wsX10_leg (some .int) "leg" 6 1 6 ws.length (jthr rr, ws') 0 [some (.ref a0), some (.int i1), some (.int i2), some (.int i3)] [] ws 0 0
  obtain ⟨_, _, h⟩ := obS h
  refine j_iload_n (pc := 0) dX10_leg_0 rfl ?_
  obtain ⟨x3, w1, e2, h⟩ := obS2 h
  have ge2 := calSR_of e2
  have le2 := ge2.2
  refine j_callS_g (pc := 1) (As := [.int i1]) (k' := 0) (n' := 0) dX10_leg_1 (s_X10_isAside ge2.1) (jgS lw_168 lw_169 lw_147 lw_167) rfl hy_X10_isAside rfl (by decide) (by decide) (Nat.le_of_ble_eq_true rfl) (by decide) (by decide) (by decide) (by decide) (Or.inl ge2.2) ?_
  refine j_if_eq (pc := 4) (tgt := 24) dX10_leg_4 (by decide) (fun c4 => ?_) (fun c4 => ?_)
  · rw [if_pos c4] at h
    refine j_mask [false, false, false, false] ?_
    exact jm_X10_leg_b24 w1 (by omega) h
  · rw [if_neg c4] at h
    refine j_iload_n (pc := 7) dX10_leg_7 rfl ?_
    obtain ⟨x7, w5, e6, h⟩ := obS2 h
    have ge6 := calSR_of e6
    have le6 := ge6.2
    refine j_callS_g (pc := 8) (As := [.int i2]) (k' := 0) (n' := 0) dX10_leg_8 (s_X10_isAside ge6.1) (jgS lw_168 lw_169 lw_147 lw_167) rfl hy_X10_isAside rfl (by decide) (by decide) (Nat.le_of_ble_eq_true rfl) (by decide) (by decide) (by decide) (by decide) (Or.inl ge6.2) ?_
    refine j_if_eq (pc := 11) (tgt := 24) dX10_leg_11 (by decide) (fun c8 => ?_) (fun c8 => ?_)
    · rw [if_pos c8] at h
      refine j_mask [false, false, false, false] ?_
      exact jm_X10_leg_b24 w5 (by omega) h
    · rw [if_neg c8] at h
      refine j_iload_n (pc := 14) dX10_leg_14 rfl ?_
      refine j_iconst (pc := 15) dX10_leg_15 (v := 1) (by decide) ?_
      refine j_bipush (pc := 16) dX10_leg_16 (v := 6) (by decide) ?_
      obtain ⟨x11, w9, e10, h⟩ := obS2 h
      have ge10 := calSR_of e10
      have le10 := ge10.2
      refine j_callS_g (pc := 18) (As := [.int i3, .int 1, .int 6]) (k' := 0) (n' := 0) dX10_leg_18 (s_X10_isWithin ge10.1) (jgS lw_149 lw_150 lw_147 lw_148) rfl hy_X10_isWithin rfl (by decide) (by decide) (Nat.le_of_ble_eq_true rfl) (by decide) (by decide) (by decide) (by decide) (Or.inl ge10.2) ?_
      refine j_if_ne (pc := 21) (tgt := 34) dX10_leg_21 (by decide) (fun c12 => ?_) (fun c12 => ?_)
      · rw [if_neg c12] at h
        refine j_aload_n (pc := 34) dX10_leg_34 rfl ?_
        obtain ⟨x13, e14, h⟩ := obS h
        refine j_getI (pc := 35) dX10_leg_35 (ci := 10) (kf := 9) rfl (jwi hw_X10) (by decide) (jwm lw_136) e14 ?_
        refine j_if_ne (pc := 38) (tgt := 53) dX10_leg_38 (by decide) (fun c15 => ?_) (fun c15 => ?_)
        · rw [if_neg c15] at h
          refine j_mask [false, false, false, false] ?_
          exact jm_X10_leg_b53 w9 (by omega) h
        · rw [if_pos c15] at h
          refine j_aload_n (pc := 41) dX10_leg_41 rfl ?_
          obtain ⟨x16, e17, h⟩ := obS h
          refine j_getR (pc := 42) dX10_leg_42 (ci := 10) (kf := 1) rfl (jwi hw_X10) (by decide) (jwm lw_100) e17 ?_
          obtain ⟨x18, e19, h⟩ := obS h
          refine j_getI (pc := 45) dX10_leg_45 (ci := 2) (kf := 3) rfl (jwi hw_X2) (by decide) (jwm lw_170) e19 ?_
          refine j_bipush (pc := 48) dX10_leg_48 (v := 6) (by decide) ?_
          refine j_icmp_lt (pc := 50) (tgt := 63) dX10_leg_50 (by decide) (fun c20 => ?_) (fun c20 => ?_)
          · rw [if_pos c20] at h
            refine j_aload_n (pc := 63) dX10_leg_63 rfl ?_
            obtain ⟨x21, e22, h⟩ := obS h
            refine j_getR (pc := 64) dX10_leg_64 (ci := 10) (kf := 1) rfl (jwi hw_X10) (by decide) (jwm lw_100) e22 ?_
            refine j_iload_n (pc := 67) dX10_leg_67 rfl ?_
            refine j_iload_n (pc := 68) dX10_leg_68 rfl ?_
            refine j_iload_n (pc := 69) dX10_leg_69 rfl ?_
            obtain ⟨x25, w23, e24, h⟩ := obS2 h
            have ge24 := calSR_of e24
            have le24 := ge24.2
            refine j_callV_g (pc := 70) (As := [.int i1, .int i2, .int i3]) (k' := 0) (n' := 0) dX10_leg_70 (s_X2_join ge24.1) (jgV lw_172 lw_173 lw_174 lw_97 lw_171) rfl hv_X2_join rfl (r_X2_join ge24.1) rfl (by decide) (by decide) (Nat.le_of_ble_eq_true rfl) (by decide) (by decide) (by decide) (by decide) (Or.inl ge24.2) ?_
            obtain ⟨rfl, rfl⟩ := jretS h
            exact j_iret (pc := 73) rfl dX10_leg_73 (by decide) (by decide) rfl
          · rw [if_neg c20] at h
            refine j_mask [false, false, false, false] ?_
            exact jm_X10_leg_b53 w9 (by omega) h
      · rw [if_pos c12] at h
        refine j_mask [false, false, false, false] ?_
        exact jm_X10_leg_b24 w9 (by omega) h
theorem r_X10_leg {a0 : Nat} {i1 : Int32} {i2 : Int32} {i3 : Int32} {ws : LWd} {o : ((Int32 ⊕ String) × LWd)} (h : m_X10_leg a0 i1 i2 i3 ws = some o) : ∃ fs, ws[a0]? = some (.inr (10, fs)) := rcv_in h
def wsX10_charge : List Cond := Cond.code yX10_charge cX10_charge 2 (some .int) :: jW
def m_X10_charge (a0 : Nat) (i1 : Int32) (ws : LWd) : Option ((Int32 ⊕ String) × LWd) :=
  (rcv ws a0 10).bind fun _ =>
  bn2 (calSR ws (m_X10_isWithin i1 1 1000 ws)) fun x3 w1 =>
  if x3 = 0 then
    some (.inr "java/lang/IllegalArgumentException", w1)
  else
    (fI w1 a0 10 10).bind fun x5 =>
    (pV w1 a0 10 10 (.int (jmin 1000 (x5 + i1)))).bind fun w7 =>
    (fI w7 a0 10 10).bind fun x9 =>
    some (.inl x9, w7)
set_option maxRecDepth 100000 in
set_option maxHeartbeats 4000000 in
theorem s_X10_charge {a0 : Nat} {i1 : Int32} {ws : LWd} {rr : Int32 ⊕ String} {ws' : LWd} (h : m_X10_charge a0 i1 ws = some (rr, ws')) : jSX yX10_charge wsX10_charge 6 1 6 [.ref a0, .int i1] ws (jthr rr, ws') := by
  unfold m_X10_charge at h
  refine j_entryX (ret := (some .int)) (nm := "charge") (own := RX10) pl_X10 rfl rfl rfl (jcats (by rfl)) (Nat.le_of_ble_eq_true rfl) ?_
  show JG (.inl true) cX10_charge 2 RX10 wsX10_charge (some .int) "charge" 6 1 6 ws.length (jthr rr, ws') 0 [some (.ref a0), some (.int i1)] [] ws 0 0
  obtain ⟨_, _, h⟩ := obS h
  refine j_iload_n (pc := 0) dX10_charge_0 rfl ?_
  refine j_iconst (pc := 1) dX10_charge_1 (v := 1) (by decide) ?_
  refine j_sipush (pc := 2) dX10_charge_2 (v := 1000) (by decide) ?_
  obtain ⟨x3, w1, e2, h⟩ := obS2 h
  have ge2 := calSR_of e2
  have le2 := ge2.2
  refine j_callS_g (pc := 5) (As := [.int i1, .int 1, .int 1000]) (k' := 0) (n' := 0) dX10_charge_5 (s_X10_isWithin ge2.1) (jgS lw_149 lw_150 lw_147 lw_148) rfl hy_X10_isWithin rfl (by decide) (by decide) (Nat.le_of_ble_eq_true rfl) (by decide) (by decide) (by decide) (by decide) (Or.inl ge2.2) ?_
  refine j_if_ne (pc := 8) (tgt := 21) dX10_charge_8 (by decide) (fun c4 => ?_) (fun c4 => ?_)
  · rw [if_neg c4] at h
    refine j_aload_n (pc := 21) dX10_charge_21 rfl ?_
    refine j_sipush (pc := 22) dX10_charge_22 (v := 1000) (by decide) ?_
    refine j_aload_n (pc := 25) dX10_charge_25 rfl ?_
    obtain ⟨x5, e6, h⟩ := obS h
    refine j_getI (pc := 26) dX10_charge_26 (ci := 10) (kf := 10) rfl (jwi hw_X10) (by decide) (jwm lw_137) e6 ?_
    refine j_iload_n (pc := 29) dX10_charge_29 rfl ?_
    refine j_iadd (pc := 30) dX10_charge_30 ?_
    refine j_mmin (pc := 31) dX10_charge_31 (jwm lw_175) (jwm lw_176) (jwm lw_177) (jwm lw_178) (Nat.le_of_ble_eq_true rfl) (Nat.le_of_ble_eq_true rfl) (by decide) (by decide) ?_
    obtain ⟨w7, e8, h⟩ := obS h
    have le8 := pV_len e8
    refine j_putV (pc := 34) (ci := 10) (kf := 10) tyX10 tyX10_ok nmX10 dX10_charge_34 rfl (jwi hw_X10) (by decide) (jwm lw_137) rfl (fun _ => rfl) (fun _ => rfl) e8 ?_
    refine j_aload_n (pc := 37) dX10_charge_37 rfl ?_
    obtain ⟨x9, e10, h⟩ := obS h
    refine j_getI (pc := 38) dX10_charge_38 (ci := 10) (kf := 10) rfl (jwi hw_X10) (by decide) (jwm lw_137) e10 ?_
    obtain ⟨rfl, rfl⟩ := jretS h
    exact j_iret (pc := 41) rfl dX10_charge_41 (by decide) (by decide) rfl
  · rw [if_pos c4] at h
    obtain ⟨rfl, rfl⟩ := jretS h
    exact j_throw (pc := 11) (text := "no such energy") rfl rfl dX10_charge_11 dX10_charge_14 dX10_charge_15 dX10_charge_17 dX10_charge_20 (List.mem_of_getElem? (i := 5) rfl) (List.mem_of_getElem? (i := 0) rfl) (jfit _ (List.mem_of_getElem? (i := 0) rfl)) (jwm lw_142) (jwm lw_143) (jwi hwx_93) jgo_93 (by decide) (Nat.le_of_ble_eq_true rfl) (by decide) (by decide) (by omega) rfl
theorem r_X10_charge {a0 : Nat} {i1 : Int32} {ws : LWd} {o : ((Int32 ⊕ String) × LWd)} (h : m_X10_charge a0 i1 ws = some o) : ∃ fs, ws[a0]? = some (.inr (10, fs)) := rcv_in h
