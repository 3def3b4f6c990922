/-! methods: written by wip/whole/make.py -/
theorem lk_X11_fails_0 : Cond.fieldLink RX11 56 "GaitwrightModel" "thrown" "I" ∈ wsX11_fails := List.mem_cons_of_mem _ (List.mem_append_left _ (List.mem_of_getElem? (i := 0) rfl))
theorem hin_X11_fails_X11 : ∀ w ∈ u_ws RX11 TX11 31, w ∈ wsX11_fails := fun w h => List.mem_cons_of_mem _ (List.mem_append_right _ h)
def m_X11_fails (a0 : Nat) (i1 : Int32) (ws : LWd) : Option (Int32 × LWd) :=
  (rcv ws a0 11).bind fun _ =>
  (pV ws a0 11 30 (.int i1)).bind fun w1 =>
  if i1 ≤ 0 then
    some (0, w1)
  else
    some (1, w1)
set_option maxRecDepth 100000 in
set_option maxHeartbeats 4000000 in
theorem s_X11_fails {a0 : Nat} {i1 : Int32} {ws : LWd} {rr : Int32} {ws' : LWd} (h : m_X11_fails a0 i1 ws = some (rr, ws')) : jSp yX11_fails wsX11_fails 0 0 0 [.ref a0, .int i1] ws (.inl (some (.int rr)), ws') := by
  unfold m_X11_fails at h
  refine j_entry (ret := (some .boolean)) (nm := "fails") (own := RX11) pl_X11 rfl rfl rfl (jcats (by rfl)) (by decide) ?_
  show JG false cX11_fails 2 RX11 wsX11_fails (some .boolean) "fails" 0 0 0 ws.length (.inl (some (.int rr)), ws') 0 [some (.ref a0), some (.int i1)] [] ws 0 0
  obtain ⟨_, _, h⟩ := obS h
  refine j_aload_n (pc := 0) dX11_fails_0 rfl ?_
  refine j_iload_n (pc := 1) dX11_fails_1 rfl ?_
  obtain ⟨w1, e2, h⟩ := obS h
  refine j_putV (pc := 2) (ci := 11) (kf := 30) tyX11 tyX11_ok nmX11 dX11_fails_2 rfl hin_X11_fails_X11 (by decide) lk_X11_fails_0 rfl (fun _ => rfl) (fun _ => rfl) e2 ?_
  refine j_iload_n (pc := 5) dX11_fails_5 rfl ?_
  refine j_if_le (pc := 6) (tgt := 13) dX11_fails_6 (by decide) (fun c3 => ?_) (fun c3 => ?_)
  · rw [if_pos c3] at h
    refine j_iconst (pc := 13) dX11_fails_13 (v := 0) (by decide) ?_
    obtain ⟨rfl, rfl⟩ := jretS h
    exact j_zret (pc := 14) (ws1 := w1) rfl dX11_fails_14 (by decide) (by decide) (show retZ 0 w1 = some (0, w1) from rfl) rfl rfl
  · rw [if_neg c3] at h
    refine j_iconst (pc := 9) dX11_fails_9 (v := 1) (by decide) ?_
    refine j_goto (pc := 10) (tgt := 14) dX11_fails_10 (by decide) ?_
    obtain ⟨rfl, rfl⟩ := jretS h
    exact j_zret (pc := 14) (ws1 := w1) rfl dX11_fails_14 (by decide) (by decide) (show retZ 1 w1 = some (1, w1) from rfl) rfl rfl
theorem r_X11_fails {a0 : Nat} {i1 : Int32} {ws : LWd} {o : (Int32 × LWd)} (h : m_X11_fails a0 i1 ws = some o) : ∃ fs, ws[a0]? = some (.inr (11, fs)) := rcv_in h
def m_X11_isIn (i0 : Int32) (i1 : Int32) (i2 : Int32) (ws : LWd) : Option (Int32 × LWd) :=
  if i0 < i1 then
    some (0, ws)
  else
    if i2 < i0 then
      some (0, ws)
    else
      some (1, ws)
set_option maxRecDepth 100000 in
set_option maxHeartbeats 4000000 in
theorem s_X11_isIn {i0 : Int32} {i1 : Int32} {i2 : Int32} {ws : LWd} {rr : Int32} {ws' : LWd} (h : m_X11_isIn i0 i1 i2 ws = some (rr, ws')) : jSp yX11_isIn wsX11_isIn 0 0 0 [.int i0, .int i1, .int i2] ws (.inl (some (.int rr)), ws') := by
  unfold m_X11_isIn at h
  refine j_entry (ret := (some .boolean)) (nm := "isIn") (own := RX11) pl_X11 rfl rfl rfl (jcats (by rfl)) (by decide) ?_
  show JG false cX11_isIn 3 RX11 wsX11_isIn (some .boolean) "isIn" 0 0 0 ws.length (.inl (some (.int rr)), ws') 0 [some (.int i0), some (.int i1), some (.int i2)] [] ws 0 0
  refine j_iload_n (pc := 0) dX11_isIn_0 rfl ?_
  refine j_iload_n (pc := 1) dX11_isIn_1 rfl ?_
  refine j_icmp_lt (pc := 2) (tgt := 14) dX11_isIn_2 (by decide) (fun c1 => ?_) (fun c1 => ?_)
  · rw [if_pos c1] at h
    refine j_iconst (pc := 14) dX11_isIn_14 (v := 0) (by decide) ?_
    obtain ⟨rfl, rfl⟩ := jretS h
    exact j_zret (pc := 15) (ws1 := ws) rfl dX11_isIn_15 (by decide) (by decide) (show retZ 0 ws = some (0, ws) from rfl) rfl rfl
  · rw [if_neg c1] at h
    refine j_iload_n (pc := 5) dX11_isIn_5 rfl ?_
    refine j_iload_n (pc := 6) dX11_isIn_6 rfl ?_
    refine j_icmp_gt (pc := 7) (tgt := 14) dX11_isIn_7 (by decide) (fun c2 => ?_) (fun c2 => ?_)
    · rw [if_pos c2] at h
      refine j_iconst (pc := 14) dX11_isIn_14 (v := 0) (by decide) ?_
      obtain ⟨rfl, rfl⟩ := jretS h
      exact j_zret (pc := 15) (ws1 := ws) rfl dX11_isIn_15 (by decide) (by decide) (show retZ 0 ws = some (0, ws) from rfl) rfl rfl
    · rw [if_neg c2] at h
      refine j_iconst (pc := 10) dX11_isIn_10 (v := 1) (by decide) ?_
      refine j_goto (pc := 11) (tgt := 15) dX11_isIn_11 (by decide) ?_
      obtain ⟨rfl, rfl⟩ := jretS h
      exact j_zret (pc := 15) (ws1 := ws) rfl dX11_isIn_15 (by decide) (by decide) (show retZ 1 ws = some (1, ws) from rfl) rfl rfl
def m_X11_isPoint (i0 : Int32) (i1 : Int32) (ws : LWd) : Option (Int32 × LWd) :=
  bn2 (calSR ws (m_X11_isIn i0 0 19 ws)) fun x3 w1 =>
  if x3 = 0 then
    some (0, w1)
  else
    bn2 (calSR w1 (m_X11_isIn i1 0 19 w1)) fun x7 w5 =>
    if x7 = 0 then
      some (0, w5)
    else
      some (1, w5)
set_option maxRecDepth 100000 in
set_option maxHeartbeats 4000000 in
theorem s_X11_isPoint {i0 : Int32} {i1 : Int32} {ws : LWd} {rr : Int32} {ws' : LWd} (h : m_X11_isPoint i0 i1 ws = some (rr, ws')) : jSp yX11_isPoint wsX11_isPoint 1 0 0 [.int i0, .int i1] ws (.inl (some (.int rr)), ws') := by
  unfold m_X11_isPoint at h
  refine j_entry (ret := (some .boolean)) (nm := "isPoint") (own := RX11) pl_X11 rfl rfl rfl (jcats (by rfl)) (by decide) ?_
  show JG false cX11_isPoint 2 RX11 wsX11_isPoint (some .boolean) "isPoint" 1 0 0 ws.length (.inl (some (.int rr)), ws') 0 [some (.int i0), some (.int i1)] [] ws 0 0
  refine j_iload_n (pc := 0) dX11_isPoint_0 rfl ?_
  refine j_iconst (pc := 1) dX11_isPoint_1 (v := 0) (by decide) ?_
  refine j_bipush (pc := 2) dX11_isPoint_2 (v := 19) (by decide) ?_
  obtain ⟨x3, w1, e2, h⟩ := obS2 h
  have ge2 := calSR_of e2
  refine j_callS_g (pc := 4) (As := [.int i0, .int 0, .int 19]) (k' := 0) (n' := 0) dX11_isPoint_4 (s_X11_isIn ge2.1) gX11_isPoint_X11_isIn rfl hy_X11_isIn rfl (by decide) (by decide) (by decide) (by decide) (by decide) (by decide) (by decide) (Or.inl ge2.2) ?_
  refine j_if_eq (pc := 7) (tgt := 24) dX11_isPoint_7 (by decide) (fun c4 => ?_) (fun c4 => ?_)
  · rw [if_pos c4] at h
    refine j_iconst (pc := 24) dX11_isPoint_24 (v := 0) (by decide) ?_
    obtain ⟨rfl, rfl⟩ := jretS h
    exact j_zret (pc := 25) (ws1 := w1) rfl dX11_isPoint_25 (by decide) (by decide) (show retZ 0 w1 = some (0, w1) from rfl) rfl rfl
  · rw [if_neg c4] at h
    refine j_iload_n (pc := 10) dX11_isPoint_10 rfl ?_
    refine j_iconst (pc := 11) dX11_isPoint_11 (v := 0) (by decide) ?_
    refine j_bipush (pc := 12) dX11_isPoint_12 (v := 19) (by decide) ?_
    obtain ⟨x7, w5, e6, h⟩ := obS2 h
    have ge6 := calSR_of e6
    refine j_callS_g (pc := 14) (As := [.int i1, .int 0, .int 19]) (k' := 0) (n' := 0) dX11_isPoint_14 (s_X11_isIn ge6.1) gX11_isPoint_X11_isIn rfl hy_X11_isIn rfl (by decide) (by decide) (by decide) (by decide) (by decide) (by decide) (by decide) (Or.inl ge6.2) ?_
    refine j_if_eq (pc := 17) (tgt := 24) dX11_isPoint_17 (by decide) (fun c8 => ?_) (fun c8 => ?_)
    · rw [if_pos c8] at h
      refine j_iconst (pc := 24) dX11_isPoint_24 (v := 0) (by decide) ?_
      obtain ⟨rfl, rfl⟩ := jretS h
      exact j_zret (pc := 25) (ws1 := w5) rfl dX11_isPoint_25 (by decide) (by decide) (show retZ 0 w5 = some (0, w5) from rfl) rfl rfl
    · rw [if_neg c8] at h
      refine j_iconst (pc := 20) dX11_isPoint_20 (v := 1) (by decide) ?_
      refine j_goto (pc := 21) (tgt := 25) dX11_isPoint_21 (by decide) ?_
      obtain ⟨rfl, rfl⟩ := jretS h
      exact j_zret (pc := 25) (ws1 := w5) rfl dX11_isPoint_25 (by decide) (by decide) (show retZ 1 w5 = some (1, w5) from rfl) rfl rfl
def m_X11_at (i0 : Int32) (i1 : Int32) (ws : LWd) : Option (Int32 × LWd) :=
  some ((20 * i1) + i0, ws)
set_option maxRecDepth 100000 in
set_option maxHeartbeats 4000000 in
theorem s_X11_at {i0 : Int32} {i1 : Int32} {ws : LWd} {rr : Int32} {ws' : LWd} (h : m_X11_at i0 i1 ws = some (rr, ws')) : jSp yX11_at wsX11_at 0 0 0 [.int i0, .int i1] ws (.inl (some (.int rr)), ws') := by
  unfold m_X11_at at h
  refine j_entry (ret := (some .int)) (nm := "at") (own := RX11) pl_X11 rfl rfl rfl (jcats (by rfl)) (by decide) ?_
  show JG false cX11_at 2 RX11 wsX11_at (some .int) "at" 0 0 0 ws.length (.inl (some (.int rr)), ws') 0 [some (.int i0), some (.int i1)] [] ws 0 0
  refine j_bipush (pc := 0) dX11_at_0 (v := 20) (by decide) ?_
  refine j_iload_n (pc := 2) dX11_at_2 rfl ?_
  refine j_imul (pc := 3) dX11_at_3 ?_
  refine j_iload_n (pc := 4) dX11_at_4 rfl ?_
  refine j_iadd (pc := 5) dX11_at_5 ?_
  obtain ⟨rfl, rfl⟩ := jretS h
  exact j_iret (pc := 6) rfl dX11_at_6 (by decide) (by decide) rfl
theorem hin_X11_isLeg_X11 : ∀ w ∈ u_ws RX11 TX11 31, w ∈ wsX11_isLeg := fun w h => List.mem_cons_of_mem _ (List.mem_append_right _ h)
theorem lk_X11_isLeg_0 : Cond.fieldLink RX11 63 "GaitwrightModel" "legs" "I" ∈ wsX11_isLeg := List.mem_cons_of_mem _ (List.mem_append_left _ (List.mem_of_getElem? (i := 0) rfl))
def m_X11_isLeg (a0 : Nat) (i1 : Int32) (ws : LWd) : Option (Int32 × LWd) :=
  (rcv ws a0 11).bind fun _ =>
  (fI ws a0 11 11).bind fun x1 =>
  bn2 (calSR ws (m_X11_isIn i1 0 (x1 - 1) ws)) fun x5 w3 =>
  retZ x5 w3
set_option maxRecDepth 100000 in
set_option maxHeartbeats 4000000 in
theorem s_X11_isLeg {a0 : Nat} {i1 : Int32} {ws : LWd} {rr : Int32} {ws' : LWd} (h : m_X11_isLeg a0 i1 ws = some (rr, ws')) : jSp yX11_isLeg wsX11_isLeg 1 0 0 [.ref a0, .int i1] ws (.inl (some (.int rr)), ws') := by
  unfold m_X11_isLeg at h
  refine j_entry (ret := (some .boolean)) (nm := "isLeg") (own := RX11) pl_X11 rfl rfl rfl (jcats (by rfl)) (by decide) ?_
  show JG false cX11_isLeg 2 RX11 wsX11_isLeg (some .boolean) "isLeg" 1 0 0 ws.length (.inl (some (.int rr)), ws') 0 [some (.ref a0), some (.int i1)] [] ws 0 0
  obtain ⟨_, _, h⟩ := obS h
  refine j_iload_n (pc := 0) dX11_isLeg_0 rfl ?_
  refine j_iconst (pc := 1) dX11_isLeg_1 (v := 0) (by decide) ?_
  refine j_aload_n (pc := 2) dX11_isLeg_2 rfl ?_
  obtain ⟨x1, e2, h⟩ := obS h
  refine j_getI (pc := 3) dX11_isLeg_3 (ci := 11) (kf := 11) rfl hin_X11_isLeg_X11 (by decide) lk_X11_isLeg_0 e2 ?_
  refine j_iconst (pc := 6) dX11_isLeg_6 (v := 1) (by decide) ?_
  refine j_isub (pc := 7) dX11_isLeg_7 ?_
  obtain ⟨x5, w3, e4, h⟩ := obS2 h
  have ge4 := calSR_of e4
  refine j_callS_g (pc := 8) (As := [.int i1, .int 0, .int (x1 - 1)]) (k' := 0) (n' := 0) dX11_isLeg_8 (s_X11_isIn ge4.1) gX11_isLeg_X11_isIn rfl hy_X11_isIn rfl (by decide) (by decide) (by decide) (by decide) (by decide) (by decide) (by decide) (Or.inl ge4.2) ?_
  exact j_zret (pc := 11) rfl dX11_isLeg_11 (by decide) (by decide) h rfl rfl
theorem r_X11_isLeg {a0 : Nat} {i1 : Int32} {ws : LWd} {o : (Int32 × LWd)} (h : m_X11_isLeg a0 i1 ws = some o) : ∃ fs, ws[a0]? = some (.inr (11, fs)) := rcv_in h
theorem hin_X11_isDown_X11 : ∀ w ∈ u_ws RX11 TX11 31, w ∈ wsX11_isDown := fun w h => List.mem_cons_of_mem _ (List.mem_append_right _ h)
theorem lk_X11_isDown_0 : Cond.fieldLink RX11 66 "GaitwrightModel" "down" "I" ∈ wsX11_isDown := List.mem_cons_of_mem _ (List.mem_append_left _ (List.mem_of_getElem? (i := 0) rfl))
def m_X11_isDown (a0 : Nat) (i1 : Int32) (ws : LWd) : Option (Int32 × LWd) :=
  (rcv ws a0 11).bind fun _ =>
  (fI ws a0 11 17).bind fun x1 =>
  if ((x1 >>> (i1 &&& 31)) &&& 1) = 1 then
    some (1, ws)
  else
    some (0, ws)
set_option maxRecDepth 100000 in
set_option maxHeartbeats 4000000 in
theorem s_X11_isDown {a0 : Nat} {i1 : Int32} {ws : LWd} {rr : Int32} {ws' : LWd} (h : m_X11_isDown a0 i1 ws = some (rr, ws')) : jSp yX11_isDown wsX11_isDown 0 0 0 [.ref a0, .int i1] ws (.inl (some (.int rr)), ws') := by
  unfold m_X11_isDown at h
  refine j_entry (ret := (some .boolean)) (nm := "isDown") (own := RX11) pl_X11 rfl rfl rfl (jcats (by rfl)) (by decide) ?_
  show JG false cX11_isDown 2 RX11 wsX11_isDown (some .boolean) "isDown" 0 0 0 ws.length (.inl (some (.int rr)), ws') 0 [some (.ref a0), some (.int i1)] [] ws 0 0
  obtain ⟨_, _, h⟩ := obS h
  refine j_aload_n (pc := 0) dX11_isDown_0 rfl ?_
  obtain ⟨x1, e2, h⟩ := obS h
  refine j_getI (pc := 1) dX11_isDown_1 (ci := 11) (kf := 17) rfl hin_X11_isDown_X11 (by decide) lk_X11_isDown_0 e2 ?_
  refine j_iload_n (pc := 4) dX11_isDown_4 rfl ?_
  refine j_ishr (pc := 5) dX11_isDown_5 ?_
  refine j_iconst (pc := 6) dX11_isDown_6 (v := 1) (by decide) ?_
  refine j_iand (pc := 7) dX11_isDown_7 ?_
  refine j_iconst (pc := 8) dX11_isDown_8 (v := 1) (by decide) ?_
  refine j_icmp_ne (pc := 9) (tgt := 16) dX11_isDown_9 (by decide) (fun c3 => ?_) (fun c3 => ?_)
  · rw [if_neg c3] at h
    refine j_iconst (pc := 16) dX11_isDown_16 (v := 0) (by decide) ?_
    obtain ⟨rfl, rfl⟩ := jretS h
    exact j_zret (pc := 17) (ws1 := ws) rfl dX11_isDown_17 (by decide) (by decide) (show retZ 0 ws = some (0, ws) from rfl) rfl rfl
  · rw [if_pos c3] at h
    refine j_iconst (pc := 12) dX11_isDown_12 (v := 1) (by decide) ?_
    refine j_goto (pc := 13) (tgt := 17) dX11_isDown_13 (by decide) ?_
    obtain ⟨rfl, rfl⟩ := jretS h
    exact j_zret (pc := 17) (ws1 := ws) rfl dX11_isDown_17 (by decide) (by decide) (show retZ 1 ws = some (1, ws) from rfl) rfl rfl
theorem r_X11_isDown {a0 : Nat} {i1 : Int32} {ws : LWd} {o : (Int32 × LWd)} (h : m_X11_isDown a0 i1 ws = some o) : ∃ fs, ws[a0]? = some (.inr (11, fs)) := rcv_in h
def m_X11_count_l4 : Nat → Int32 → Int32 → Int32 → LWd → Option (Int32 × LWd)
  | 0, _, _, _, _ => none
  | fu + 1, i0, i1, i2, ws =>
    if 6 ≤ i2 then
      some (i1, ws)
    else
      m_X11_count_l4 fu i0 (i1 + ((i0 >>> (i2 &&& 31)) &&& 1)) (i2 + 1) ws
set_option maxRecDepth 100000 in
set_option maxHeartbeats 4000000 in
theorem jm_X11_count_l4 {n0 : Nat} {rr : Int32} {ws' : LWd} : ∀ (fu : Nat) (i0 : Int32) (i1 : Int32) (i2 : Int32) (ws : LWd), m_X11_count_l4 fu i0 i1 i2 ws = some (rr, ws') → JG false cX11_count 3 RX11 wsX11_count (some .int) "count" 0 0 0 n0 (.inl (some (.int rr)), ws') 4 [some (.int i0), some (.int i1), some (.int i2)] [] ws 0 0 := by
  intro fu
  induction fu with
  | zero => intro i0 i1 i2 ws h; cases h
  | succ fu ih =>
    intro i0 i1 i2 ws h
    rw [m_X11_count_l4] at h
    refine j_iload_n (pc := 4) dX11_count_4 rfl ?_
    refine j_bipush (pc := 5) dX11_count_5 (v := 6) (by decide) ?_
    refine j_icmp_ge (pc := 7) (tgt := 24) dX11_count_7 (by decide) (fun c1 => ?_) (fun c1 => ?_)
    · rw [if_pos c1] at h
      refine j_iload_n (pc := 24) dX11_count_24 rfl ?_
      obtain ⟨rfl, rfl⟩ := jretS h
      exact j_iret (pc := 25) rfl dX11_count_25 (by decide) (by decide) rfl
    · rw [if_neg c1] at h
      refine j_iload_n (pc := 10) dX11_count_10 rfl ?_
      refine j_iload_n (pc := 11) dX11_count_11 rfl ?_
      refine j_iload_n (pc := 12) dX11_count_12 rfl ?_
      refine j_ishr (pc := 13) dX11_count_13 ?_
      refine j_iconst (pc := 14) dX11_count_14 (v := 1) (by decide) ?_
      refine j_iand (pc := 15) dX11_count_15 ?_
      refine j_iadd (pc := 16) dX11_count_16 ?_
      refine j_istore_n_1 (pc := 17) dX11_count_17 (by decide) rfl ?_
      refine j_iinc_2 (pc := 18) dX11_count_18 (y := i2 + 1) rfl (by decide) rfl ?_
      refine j_goto (pc := 21) (tgt := 4) dX11_count_21 (by decide) ?_
      exact ih _ _ _ ws h
def m_X11_count (i0 : Int32) (ws : LWd) : Option (Int32 × LWd) :=
  m_X11_count_l4 FU i0 0 0 ws
set_option maxRecDepth 100000 in
set_option maxHeartbeats 4000000 in
theorem s_X11_count {i0 : Int32} {ws : LWd} {rr : Int32} {ws' : LWd} (h : m_X11_count i0 ws = some (rr, ws')) : jSp yX11_count wsX11_count 0 0 0 [.int i0] ws (.inl (some (.int rr)), ws') := by
  unfold m_X11_count at h
  refine j_entry (ret := (some .int)) (nm := "count") (own := RX11) pl_X11 rfl rfl rfl (jcats (by rfl)) (by decide) ?_
  show JG false cX11_count 3 RX11 wsX11_count (some .int) "count" 0 0 0 ws.length (.inl (some (.int rr)), ws') 0 [some (.int i0), none, none] [] ws 0 0
  refine j_iconst (pc := 0) dX11_count_0 (v := 0) (by decide) ?_
  refine j_istore_n_1 (pc := 1) dX11_count_1 (by decide) rfl ?_
  refine j_iconst (pc := 2) dX11_count_2 (v := 0) (by decide) ?_
  refine j_istore_n_2 (pc := 3) dX11_count_3 (by decide) rfl ?_
  exact jm_X11_count_l4 FU _ _ _ ws h
theorem hin_X11_footAt_X11 : ∀ w ∈ u_ws RX11 TX11 31, w ∈ wsX11_footAt := fun w h => List.mem_cons_of_mem _ (List.mem_append_right _ h)
theorem lk_X11_footAt_0 : Cond.fieldLink RX11 63 "GaitwrightModel" "legs" "I" ∈ wsX11_footAt := List.mem_cons_of_mem _ (List.mem_append_left _ (List.mem_of_getElem? (i := 0) rfl))
theorem lk_X11_footAt_1 : Cond.fieldLink RX11 41 "GaitwrightModel" "footX" "[I" ∈ wsX11_footAt := List.mem_cons_of_mem _ (List.mem_append_left _ (List.mem_of_getElem? (i := 1) rfl))
theorem lk_X11_footAt_2 : Cond.fieldLink RX11 44 "GaitwrightModel" "footY" "[I" ∈ wsX11_footAt := List.mem_cons_of_mem _ (List.mem_append_left _ (List.mem_of_getElem? (i := 2) rfl))
def m_X11_footAt_b51 (k5 : Nat → Int32 → Int32 → Int32 → Int32 → LWd → Option (Int32 × LWd)) (a0 : Nat) (i1 : Int32) (i2 : Int32) (i4 : Int32) (s0 : Int32) (ws : LWd) : Option (Int32 × LWd) :=
  k5 a0 i1 i2 s0 (i4 + 1) ws
set_option maxRecDepth 100000 in
set_option maxHeartbeats 4000000 in
theorem jm_X11_footAt_b51 {n0 : Nat} {rr : Int32} {ws' : LWd} {k5 : Nat → Int32 → Int32 → Int32 → Int32 → LWd → Option (Int32 × LWd)} (hk5 : ∀ (a0 : Nat) (i1 : Int32) (i2 : Int32) (i3 : Int32) (i4 : Int32) (ws : LWd), k5 a0 i1 i2 i3 i4 ws = some (rr, ws') → JG false cX11_footAt 5 RX11 wsX11_footAt (some .int) "footAt" 1 0 0 n0 (.inl (some (.int rr)), ws') 5 [some (.ref a0), some (.int i1), some (.int i2), some (.int i3), some (.int i4)] [] ws 0 0) (a0 : Nat) (i1 : Int32) (i2 : Int32) (i4 : Int32) (s0 : Int32) (ws : LWd) (h : m_X11_footAt_b51 k5 a0 i1 i2 i4 s0 ws = some (rr, ws')) : JG false cX11_footAt 5 RX11 wsX11_footAt (some .int) "footAt" 1 0 0 n0 (.inl (some (.int rr)), ws') 51 [some (.ref a0), some (.int i1), some (.int i2), none, some (.int i4)] [.int s0] ws 0 0 := by
  unfold m_X11_footAt_b51 at h
  refine j_istore_n_3 (pc := 51) dX11_footAt_51 (by decide) rfl ?_
  refine j_iinc_4 (pc := 52) dX11_footAt_52 (y := i4 + 1) rfl (by decide) rfl ?_
  refine j_goto (pc := 55) (tgt := 5) dX11_footAt_55 (by decide) ?_
  exact hk5 _ _ _ _ _ ws h
def m_X11_footAt_b50 (k5 : Nat → Int32 → Int32 → Int32 → Int32 → LWd → Option (Int32 × LWd)) (a0 : Nat) (i1 : Int32) (i2 : Int32) (i3 : Int32) (i4 : Int32) (ws : LWd) : Option (Int32 × LWd) :=
  m_X11_footAt_b51 k5 a0 i1 i2 i4 i3 ws
set_option maxRecDepth 100000 in
set_option maxHeartbeats 4000000 in
theorem jm_X11_footAt_b50 {n0 : Nat} {rr : Int32} {ws' : LWd} {k5 : Nat → Int32 → Int32 → Int32 → Int32 → LWd → Option (Int32 × LWd)} (hk5 : ∀ (a0 : Nat) (i1 : Int32) (i2 : Int32) (i3 : Int32) (i4 : Int32) (ws : LWd), k5 a0 i1 i2 i3 i4 ws = some (rr, ws') → JG false cX11_footAt 5 RX11 wsX11_footAt (some .int) "footAt" 1 0 0 n0 (.inl (some (.int rr)), ws') 5 [some (.ref a0), some (.int i1), some (.int i2), some (.int i3), some (.int i4)] [] ws 0 0) (a0 : Nat) (i1 : Int32) (i2 : Int32) (i3 : Int32) (i4 : Int32) (ws : LWd) (h : m_X11_footAt_b50 k5 a0 i1 i2 i3 i4 ws = some (rr, ws')) : JG false cX11_footAt 5 RX11 wsX11_footAt (some .int) "footAt" 1 0 0 n0 (.inl (some (.int rr)), ws') 50 [some (.ref a0), some (.int i1), some (.int i2), some (.int i3), some (.int i4)] [] ws 0 0 := by
  unfold m_X11_footAt_b50 at h
  refine j_iload_n (pc := 50) dX11_footAt_50 rfl ?_
  refine j_mask [true, true, true, false, true] ?_
  exact jm_X11_footAt_b51 (hk5 := hk5) _ _ _ _ _ ws h
def m_X11_footAt_l5 : Nat → Nat → Int32 → Int32 → Int32 → Int32 → LWd → Option (Int32 × LWd)
  | 0, _, _, _, _, _, _ => none
  | fu + 1, a0, i1, i2, i3, i4, ws =>
    (fI ws a0 11 11).bind fun x1 =>
    if x1 ≤ i4 then
      some (i3, ws)
    else
      bn2 (calSR ws (m_X11_isDown a0 i4 ws)) fun x6 w4 =>
      if x6 = 0 then
        m_X11_footAt_b50 (fun z0 z1 z2 z3 z4 w => m_X11_footAt_l5 fu z0 z1 z2 z3 z4 w) a0 i1 i2 i3 i4 w4
      else
        (fR w4 a0 11 15).bind fun x8 =>
        (aI w4 x8 i4).bind fun x10 =>
        if x10 = i1 then
          (fR w4 a0 11 16).bind fun x13 =>
          (aI w4 x13 i4).bind fun x15 =>
          if x15 = i2 then
            m_X11_footAt_b51 (fun z0 z1 z2 z3 z4 w => m_X11_footAt_l5 fu z0 z1 z2 z3 z4 w) a0 i1 i2 i4 i4 w4
          else
            m_X11_footAt_b50 (fun z0 z1 z2 z3 z4 w => m_X11_footAt_l5 fu z0 z1 z2 z3 z4 w) a0 i1 i2 i3 i4 w4
        else
          m_X11_footAt_b50 (fun z0 z1 z2 z3 z4 w => m_X11_footAt_l5 fu z0 z1 z2 z3 z4 w) a0 i1 i2 i3 i4 w4
set_option maxRecDepth 100000 in
set_option maxHeartbeats 4000000 in
theorem jm_X11_footAt_l5 {n0 : Nat} {rr : Int32} {ws' : LWd} : ∀ (fu : Nat) (a0 : Nat) (i1 : Int32) (i2 : Int32) (i3 : Int32) (i4 : Int32) (ws : LWd), m_X11_footAt_l5 fu a0 i1 i2 i3 i4 ws = some (rr, ws') → JG false cX11_footAt 5 RX11 wsX11_footAt (some .int) "footAt" 1 0 0 n0 (.inl (some (.int rr)), ws') 5 [some (.ref a0), some (.int i1), some (.int i2), some (.int i3), some (.int i4)] [] ws 0 0 := by
  intro fu
  induction fu with
  | zero => intro a0 i1 i2 i3 i4 ws h; cases h
  | succ fu ih =>
    intro a0 i1 i2 i3 i4 ws h
    rw [m_X11_footAt_l5] at h
    refine j_iload (pc := 5) dX11_footAt_5 rfl ?_
    refine j_aload_n (pc := 7) dX11_footAt_7 rfl ?_
    obtain ⟨x1, e2, h⟩ := obS h
    refine j_getI (pc := 8) dX11_footAt_8 (ci := 11) (kf := 11) rfl hin_X11_footAt_X11 (by decide) lk_X11_footAt_0 e2 ?_
    refine j_icmp_ge (pc := 11) (tgt := 58) dX11_footAt_11 (by decide) (fun c3 => ?_) (fun c3 => ?_)
    · rw [if_pos c3] at h
      refine j_iload_n (pc := 58) dX11_footAt_58 rfl ?_
      obtain ⟨rfl, rfl⟩ := jretS h
      exact j_iret (pc := 59) rfl dX11_footAt_59 (by decide) (by decide) rfl
    · rw [if_neg c3] at h
      refine j_aload_n (pc := 14) dX11_footAt_14 rfl ?_
      refine j_iload (pc := 15) dX11_footAt_15 rfl ?_
      obtain ⟨x6, w4, e5, h⟩ := obS2 h
      have ge5 := calSR_of e5
      refine j_callV_g (pc := 17) (As := [.int i4]) (k' := 0) (n' := 0) dX11_footAt_17 (s_X11_isDown ge5.1) gX11_footAt_X11_isDown rfl hv_X11_isDown rfl (r_X11_isDown ge5.1) rfl (by decide) (by decide) (by decide) (by decide) (by decide) (by decide) (by decide) (Or.inl ge5.2) ?_
      refine j_if_eq (pc := 20) (tgt := 50) dX11_footAt_20 (by decide) (fun c7 => ?_) (fun c7 => ?_)
      · rw [if_pos c7] at h
        exact jm_X11_footAt_b50 (hk5 := ih) _ _ _ _ _ w4 h
      · rw [if_neg c7] at h
        refine j_aload_n (pc := 23) dX11_footAt_23 rfl ?_
        obtain ⟨x8, e9, h⟩ := obS h
        refine j_getR (pc := 24) dX11_footAt_24 (ci := 11) (kf := 15) rfl hin_X11_footAt_X11 (by decide) lk_X11_footAt_1 e9 ?_
        refine j_iload (pc := 27) dX11_footAt_27 rfl ?_
        obtain ⟨x10, e11, h⟩ := obS h
        refine j_iald (pc := 29) dX11_footAt_29 e11 ?_
        refine j_iload_n (pc := 30) dX11_footAt_30 rfl ?_
        refine j_icmp_ne (pc := 31) (tgt := 50) dX11_footAt_31 (by decide) (fun c12 => ?_) (fun c12 => ?_)
        · rw [if_neg c12] at h
          exact jm_X11_footAt_b50 (hk5 := ih) _ _ _ _ _ w4 h
        · rw [if_pos c12] at h
          refine j_aload_n (pc := 34) dX11_footAt_34 rfl ?_
          obtain ⟨x13, e14, h⟩ := obS h
          refine j_getR (pc := 35) dX11_footAt_35 (ci := 11) (kf := 16) rfl hin_X11_footAt_X11 (by decide) lk_X11_footAt_2 e14 ?_
          refine j_iload (pc := 38) dX11_footAt_38 rfl ?_
          obtain ⟨x15, e16, h⟩ := obS h
          refine j_iald (pc := 40) dX11_footAt_40 e16 ?_
          refine j_iload_n (pc := 41) dX11_footAt_41 rfl ?_
          refine j_icmp_ne (pc := 42) (tgt := 50) dX11_footAt_42 (by decide) (fun c17 => ?_) (fun c17 => ?_)
          · rw [if_neg c17] at h
            exact jm_X11_footAt_b50 (hk5 := ih) _ _ _ _ _ w4 h
          · rw [if_pos c17] at h
            refine j_iload (pc := 45) dX11_footAt_45 rfl ?_
            refine j_goto (pc := 47) (tgt := 51) dX11_footAt_47 (by decide) ?_
            refine j_mask [true, true, true, false, true] ?_
            exact jm_X11_footAt_b51 (hk5 := ih) _ _ _ _ _ w4 h
def m_X11_footAt (a0 : Nat) (i1 : Int32) (i2 : Int32) (ws : LWd) : Option (Int32 × LWd) :=
  (rcv ws a0 11).bind fun _ =>
  m_X11_footAt_l5 FU a0 i1 i2 ((-1)) 0 ws
set_option maxRecDepth 100000 in
set_option maxHeartbeats 4000000 in
theorem s_X11_footAt {a0 : Nat} {i1 : Int32} {i2 : Int32} {ws : LWd} {rr : Int32} {ws' : LWd} (h : m_X11_footAt a0 i1 i2 ws = some (rr, ws')) : jSp yX11_footAt wsX11_footAt 1 0 0 [.ref a0, .int i1, .int i2] ws (.inl (some (.int rr)), ws') := by
  unfold m_X11_footAt at h
  refine j_entry (ret := (some .int)) (nm := "footAt") (own := RX11) pl_X11 rfl rfl rfl (jcats (by rfl)) (by decide) ?_
  show JG false cX11_footAt 5 RX11 wsX11_footAt (some .int) "footAt" 1 0 0 ws.length (.inl (some (.int rr)), ws') 0 [some (.ref a0), some (.int i1), some (.int i2), none, none] [] ws 0 0
  obtain ⟨_, _, h⟩ := obS h
  refine j_iconst (pc := 0) dX11_footAt_0 (v := (-1)) (by decide) ?_
  refine j_istore_n_3 (pc := 1) dX11_footAt_1 (by decide) rfl ?_
  refine j_iconst (pc := 2) dX11_footAt_2 (v := 0) (by decide) ?_
  refine j_istore_4 (pc := 3) dX11_footAt_3 (by decide) rfl ?_
  exact jm_X11_footAt_l5 FU _ _ _ _ _ ws h
theorem r_X11_footAt {a0 : Nat} {i1 : Int32} {i2 : Int32} {ws : LWd} {o : (Int32 × LWd)} (h : m_X11_footAt a0 i1 i2 ws = some o) : ∃ fs, ws[a0]? = some (.inr (11, fs)) := rcv_in h
theorem hin_X11_ground_X11 : ∀ w ∈ u_ws RX11 TX11 31, w ∈ wsX11_ground := fun w h => List.mem_cons_of_mem _ (List.mem_append_right _ h)
theorem lk_X11_ground_0 : Cond.fieldLink RX11 7 "GaitwrightModel" "height" "[I" ∈ wsX11_ground := List.mem_cons_of_mem _ (List.mem_append_left _ (List.mem_append_left _ (List.mem_of_getElem? (i := 0) rfl)))
theorem lk_X11_ground_1 : Cond.fieldLink RX11 13 "GaitwrightModel" "firm" "[I" ∈ wsX11_ground := List.mem_cons_of_mem _ (List.mem_append_left _ (List.mem_append_left _ (List.mem_of_getElem? (i := 1) rfl)))
theorem lk_X11_ground_2 : Cond.fieldLink RX11 16 "GaitwrightModel" "grip" "[I" ∈ wsX11_ground := List.mem_cons_of_mem _ (List.mem_append_left _ (List.mem_append_left _ (List.mem_of_getElem? (i := 2) rfl)))
def m_X11_ground_b72 (a0 : Nat) (i1 : Int32) (i2 : Int32) (i3 : Int32) (i4 : Int32) (i5 : Int32) (s0 : Nat) (s1 : Int32) (ws : LWd) : Option (Int32 × LWd) :=
  bn2 (calSR ws (m_X11_fails s0 s1 ws)) fun x3 w1 =>
  if x3 = 0 then
    (fR w1 a0 11 0).bind fun x5 =>
    bn2 (calSR w1 (m_X11_at i1 i2 w1)) fun x9 w7 =>
    (aI w7 x5 x9).bind fun x10 =>
    (fR w7 a0 11 0).bind fun x12 =>
    bn2 (calSR w7 (m_X11_at i1 i2 w7)) fun x16 w14 =>
    (sI w14 x12 x16 i3).bind fun w17 =>
    (fR w17 a0 11 1).bind fun x19 =>
    bn2 (calSR w17 (m_X11_at i1 i2 w17)) fun x23 w21 =>
    (sI w21 x19 x23 i4).bind fun w24 =>
    (fR w24 a0 11 2).bind fun x26 =>
    bn2 (calSR w24 (m_X11_at i1 i2 w24)) fun x30 w28 =>
    (sI w28 x26 x30 i5).bind fun w31 =>
    some (x10, w31)
  else
    some (0, w1)
set_option maxRecDepth 100000 in
set_option maxHeartbeats 4000000 in
theorem jm_X11_ground_b72 {n0 : Nat} {rr : Int32} {ws' : LWd} (a0 : Nat) (i1 : Int32) (i2 : Int32) (i3 : Int32) (i4 : Int32) (i5 : Int32) (s0 : Nat) (s1 : Int32) (ws : LWd) (h : m_X11_ground_b72 a0 i1 i2 i3 i4 i5 s0 s1 ws = some (rr, ws')) : JG false cX11_ground 8 RX11 wsX11_ground (some .int) "ground" 2 0 0 n0 (.inl (some (.int rr)), ws') 72 [some (.ref a0), some (.int i1), some (.int i2), some (.int i3), some (.int i4), some (.int i5), none, none] [.int s1, .ref s0] ws 0 0 := by
  unfold m_X11_ground_b72 at h
  obtain ⟨x3, w1, e2, h⟩ := obS2 h
  have ge2 := calSR_of e2
  refine j_callV_g (pc := 72) (As := [.int s1]) (k' := 0) (n' := 0) dX11_ground_72 (s_X11_fails ge2.1) gX11_ground_X11_fails rfl hv_X11_fails rfl (r_X11_fails ge2.1) rfl (by decide) (by decide) (by decide) (by decide) (by decide) (by decide) (by decide) (Or.inl ge2.2) ?_
  refine j_if_eq (pc := 75) (tgt := 80) dX11_ground_75 (by decide) (fun c4 => ?_) (fun c4 => ?_)
  · rw [if_pos c4] at h
    refine j_aload_n (pc := 80) dX11_ground_80 rfl ?_
    obtain ⟨x5, e6, h⟩ := obS h
    refine j_getR (pc := 81) dX11_ground_81 (ci := 11) (kf := 0) rfl hin_X11_ground_X11 (by decide) lk_X11_ground_0 e6 ?_
    refine j_iload_n (pc := 84) dX11_ground_84 rfl ?_
    refine j_iload_n (pc := 85) dX11_ground_85 rfl ?_
    obtain ⟨x9, w7, e8, h⟩ := obS2 h
    have ge8 := calSR_of e8
    refine j_callS_g (pc := 86) (As := [.int i1, .int i2]) (k' := 0) (n' := 0) dX11_ground_86 (s_X11_at ge8.1) gX11_ground_X11_at rfl hy_X11_at rfl (by decide) (by decide) (by decide) (by decide) (by decide) (by decide) (by decide) (Or.inl ge8.2) ?_
    obtain ⟨x10, e11, h⟩ := obS h
    refine j_iald (pc := 89) dX11_ground_89 e11 ?_
    refine j_istore_7 (pc := 90) dX11_ground_90 (by decide) rfl ?_
    refine j_aload_n (pc := 92) dX11_ground_92 rfl ?_
    obtain ⟨x12, e13, h⟩ := obS h
    refine j_getR (pc := 93) dX11_ground_93 (ci := 11) (kf := 0) rfl hin_X11_ground_X11 (by decide) lk_X11_ground_0 e13 ?_
    refine j_iload_n (pc := 96) dX11_ground_96 rfl ?_
    refine j_iload_n (pc := 97) dX11_ground_97 rfl ?_
    obtain ⟨x16, w14, e15, h⟩ := obS2 h
    have ge15 := calSR_of e15
    refine j_callS_g (pc := 98) (As := [.int i1, .int i2]) (k' := 0) (n' := 0) dX11_ground_98 (s_X11_at ge15.1) gX11_ground_X11_at rfl hy_X11_at rfl (by decide) (by decide) (by decide) (by decide) (by decide) (by decide) (by decide) (Or.inl ge15.2) ?_
    refine j_iload_n (pc := 101) dX11_ground_101 rfl ?_
    obtain ⟨w17, e18, h⟩ := obS h
    refine j_iast (pc := 102) dX11_ground_102 e18 ?_
    refine j_aload_n (pc := 103) dX11_ground_103 rfl ?_
    obtain ⟨x19, e20, h⟩ := obS h
    refine j_getR (pc := 104) dX11_ground_104 (ci := 11) (kf := 1) rfl hin_X11_ground_X11 (by decide) lk_X11_ground_1 e20 ?_
    refine j_iload_n (pc := 107) dX11_ground_107 rfl ?_
    refine j_iload_n (pc := 108) dX11_ground_108 rfl ?_
    obtain ⟨x23, w21, e22, h⟩ := obS2 h
    have ge22 := calSR_of e22
    refine j_callS_g (pc := 109) (As := [.int i1, .int i2]) (k' := 0) (n' := 0) dX11_ground_109 (s_X11_at ge22.1) gX11_ground_X11_at rfl hy_X11_at rfl (by decide) (by decide) (by decide) (by decide) (by decide) (by decide) (by decide) (Or.inl ge22.2) ?_
    refine j_iload (pc := 112) dX11_ground_112 rfl ?_
    obtain ⟨w24, e25, h⟩ := obS h
    refine j_iast (pc := 114) dX11_ground_114 e25 ?_
    refine j_aload_n (pc := 115) dX11_ground_115 rfl ?_
    obtain ⟨x26, e27, h⟩ := obS h
    refine j_getR (pc := 116) dX11_ground_116 (ci := 11) (kf := 2) rfl hin_X11_ground_X11 (by decide) lk_X11_ground_2 e27 ?_
    refine j_iload_n (pc := 119) dX11_ground_119 rfl ?_
    refine j_iload_n (pc := 120) dX11_ground_120 rfl ?_
    obtain ⟨x30, w28, e29, h⟩ := obS2 h
    have ge29 := calSR_of e29
    refine j_callS_g (pc := 121) (As := [.int i1, .int i2]) (k' := 0) (n' := 0) dX11_ground_121 (s_X11_at ge29.1) gX11_ground_X11_at rfl hy_X11_at rfl (by decide) (by decide) (by decide) (by decide) (by decide) (by decide) (by decide) (Or.inl ge29.2) ?_
    refine j_iload (pc := 124) dX11_ground_124 rfl ?_
    obtain ⟨w31, e32, h⟩ := obS h
    refine j_iast (pc := 126) dX11_ground_126 e32 ?_
    refine j_iload (pc := 127) dX11_ground_127 rfl ?_
    obtain ⟨rfl, rfl⟩ := jretS h
    exact j_iret (pc := 129) rfl dX11_ground_129 (by decide) (by decide) rfl
  · rw [if_neg c4] at h
    refine j_iconst (pc := 78) dX11_ground_78 (v := 0) (by decide) ?_
    obtain ⟨rfl, rfl⟩ := jretS h
    exact j_iret (pc := 79) rfl dX11_ground_79 (by decide) (by decide) rfl
def m_X11_ground_b45 (a0 : Nat) (i1 : Int32) (i2 : Int32) (i3 : Int32) (i4 : Int32) (i5 : Int32) (s0 : Int32) (ws : LWd) : Option (Int32 × LWd) :=
  if s0 = 0 then
    m_X11_ground_b72 a0 i1 i2 i3 i4 i5 a0 1 ws
  else
    bn2 (calSR ws (m_X11_footAt a0 i1 i2 ws)) fun x4 w2 =>
    if x4 = ((-1)) then
      m_X11_ground_b72 a0 i1 i2 i3 i4 i5 a0 0 w2
    else
      m_X11_ground_b72 a0 i1 i2 i3 i4 i5 a0 2 w2
set_option maxRecDepth 100000 in
set_option maxHeartbeats 4000000 in
theorem jm_X11_ground_b45 {n0 : Nat} {rr : Int32} {ws' : LWd} (a0 : Nat) (i1 : Int32) (i2 : Int32) (i3 : Int32) (i4 : Int32) (i5 : Int32) (s0 : Int32) (ws : LWd) (h : m_X11_ground_b45 a0 i1 i2 i3 i4 i5 s0 ws = some (rr, ws')) : JG false cX11_ground 8 RX11 wsX11_ground (some .int) "ground" 2 0 0 n0 (.inl (some (.int rr)), ws') 45 [some (.ref a0), some (.int i1), some (.int i2), some (.int i3), some (.int i4), some (.int i5), none, none] [.int s0] ws 0 0 := by
  unfold m_X11_ground_b45 at h
  refine j_istore_6 (pc := 45) dX11_ground_45 (by decide) rfl ?_
  refine j_aload_n (pc := 47) dX11_ground_47 rfl ?_
  refine j_iload (pc := 48) dX11_ground_48 rfl ?_
  refine j_if_ne (pc := 50) (tgt := 57) dX11_ground_50 (by decide) (fun c1 => ?_) (fun c1 => ?_)
  · rw [if_neg c1] at h
    refine j_aload_n (pc := 57) dX11_ground_57 rfl ?_
    refine j_iload_n (pc := 58) dX11_ground_58 rfl ?_
    refine j_iload_n (pc := 59) dX11_ground_59 rfl ?_
    obtain ⟨x4, w2, e3, h⟩ := obS2 h
    have ge3 := calSR_of e3
    refine j_callV_g (pc := 60) (As := [.int i1, .int i2]) (k' := 0) (n' := 0) dX11_ground_60 (s_X11_footAt ge3.1) gX11_ground_X11_footAt rfl hv_X11_footAt rfl (r_X11_footAt ge3.1) rfl (by decide) (by decide) (by decide) (by decide) (by decide) (by decide) (by decide) (Or.inl ge3.2) ?_
    refine j_iconst (pc := 63) dX11_ground_63 (v := (-1)) (by decide) ?_
    refine j_icmp_eq (pc := 64) (tgt := 71) dX11_ground_64 (by decide) (fun c5 => ?_) (fun c5 => ?_)
    · rw [if_pos c5] at h
      refine j_iconst (pc := 71) dX11_ground_71 (v := 0) (by decide) ?_
      refine j_mask [true, true, true, true, true, true, false, false] ?_
      exact jm_X11_ground_b72 _ _ _ _ _ _ _ _ w2 h
    · rw [if_neg c5] at h
      refine j_iconst (pc := 67) dX11_ground_67 (v := 2) (by decide) ?_
      refine j_goto (pc := 68) (tgt := 72) dX11_ground_68 (by decide) ?_
      refine j_mask [true, true, true, true, true, true, false, false] ?_
      exact jm_X11_ground_b72 _ _ _ _ _ _ _ _ w2 h
  · rw [if_pos c1] at h
    refine j_iconst (pc := 53) dX11_ground_53 (v := 1) (by decide) ?_
    refine j_goto (pc := 54) (tgt := 72) dX11_ground_54 (by decide) ?_
    refine j_mask [true, true, true, true, true, true, false, false] ?_
    exact jm_X11_ground_b72 _ _ _ _ _ _ _ _ ws h
def m_X11_ground_b44 (a0 : Nat) (i1 : Int32) (i2 : Int32) (i3 : Int32) (i4 : Int32) (i5 : Int32) (ws : LWd) : Option (Int32 × LWd) :=
  m_X11_ground_b45 a0 i1 i2 i3 i4 i5 0 ws
set_option maxRecDepth 100000 in
set_option maxHeartbeats 4000000 in
theorem jm_X11_ground_b44 {n0 : Nat} {rr : Int32} {ws' : LWd} (a0 : Nat) (i1 : Int32) (i2 : Int32) (i3 : Int32) (i4 : Int32) (i5 : Int32) (ws : LWd) (h : m_X11_ground_b44 a0 i1 i2 i3 i4 i5 ws = some (rr, ws')) : JG false cX11_ground 8 RX11 wsX11_ground (some .int) "ground" 2 0 0 n0 (.inl (some (.int rr)), ws') 44 [some (.ref a0), some (.int i1), some (.int i2), some (.int i3), some (.int i4), some (.int i5), none, none] [] ws 0 0 := by
  unfold m_X11_ground_b44 at h
  refine j_iconst (pc := 44) dX11_ground_44 (v := 0) (by decide) ?_
  exact jm_X11_ground_b45 _ _ _ _ _ _ _ ws h
def m_X11_ground (a0 : Nat) (i1 : Int32) (i2 : Int32) (i3 : Int32) (i4 : Int32) (i5 : Int32) (ws : LWd) : Option (Int32 × LWd) :=
  (rcv ws a0 11).bind fun _ =>
  bn2 (calSR ws (m_X11_isPoint i1 i2 ws)) fun x3 w1 =>
  if x3 = 0 then
    m_X11_ground_b44 a0 i1 i2 i3 i4 i5 w1
  else
    bn2 (calSR w1 (m_X11_isIn i3 0 9 w1)) fun x7 w5 =>
    if x7 = 0 then
      m_X11_ground_b44 a0 i1 i2 i3 i4 i5 w5
    else
      bn2 (calSR w5 (m_X11_isIn i4 0 99 w5)) fun x11 w9 =>
      if x11 = 0 then
        m_X11_ground_b44 a0 i1 i2 i3 i4 i5 w9
      else
        bn2 (calSR w9 (m_X11_isIn i5 0 9 w9)) fun x15 w13 =>
        if x15 = 0 then
          m_X11_ground_b44 a0 i1 i2 i3 i4 i5 w13
        else
          m_X11_ground_b45 a0 i1 i2 i3 i4 i5 1 w13
set_option maxRecDepth 100000 in
set_option maxHeartbeats 4000000 in
theorem s_X11_ground {a0 : Nat} {i1 : Int32} {i2 : Int32} {i3 : Int32} {i4 : Int32} {i5 : Int32} {ws : LWd} {rr : Int32} {ws' : LWd} (h : m_X11_ground a0 i1 i2 i3 i4 i5 ws = some (rr, ws')) : jSp yX11_ground wsX11_ground 2 0 0 [.ref a0, .int i1, .int i2, .int i3, .int i4, .int i5] ws (.inl (some (.int rr)), ws') := by
  unfold m_X11_ground at h
  refine j_entry (ret := (some .int)) (nm := "ground") (own := RX11) pl_X11 rfl rfl rfl (jcats (by rfl)) (by decide) ?_
  show JG false cX11_ground 8 RX11 wsX11_ground (some .int) "ground" 2 0 0 ws.length (.inl (some (.int rr)), ws') 0 [some (.ref a0), some (.int i1), some (.int i2), some (.int i3), some (.int i4), some (.int i5), none, none] [] ws 0 0
  obtain ⟨_, _, h⟩ := obS h
  refine j_iload_n (pc := 0) dX11_ground_0 rfl ?_
  refine j_iload_n (pc := 1) dX11_ground_1 rfl ?_
  obtain ⟨x3, w1, e2, h⟩ := obS2 h
  have ge2 := calSR_of e2
  refine j_callS_g (pc := 2) (As := [.int i1, .int i2]) (k' := 0) (n' := 0) dX11_ground_2 (s_X11_isPoint ge2.1) gX11_ground_X11_isPoint rfl hy_X11_isPoint rfl (by decide) (by decide) (by decide) (by decide) (by decide) (by decide) (by decide) (Or.inl ge2.2) ?_
  refine j_if_eq (pc := 5) (tgt := 44) dX11_ground_5 (by decide) (fun c4 => ?_) (fun c4 => ?_)
  · rw [if_pos c4] at h
    exact jm_X11_ground_b44 _ _ _ _ _ _ w1 h
  · rw [if_neg c4] at h
    refine j_iload_n (pc := 8) dX11_ground_8 rfl ?_
    refine j_iconst (pc := 9) dX11_ground_9 (v := 0) (by decide) ?_
    refine j_bipush (pc := 10) dX11_ground_10 (v := 9) (by decide) ?_
    obtain ⟨x7, w5, e6, h⟩ := obS2 h
    have ge6 := calSR_of e6
    refine j_callS_g (pc := 12) (As := [.int i3, .int 0, .int 9]) (k' := 0) (n' := 0) dX11_ground_12 (s_X11_isIn ge6.1) gX11_ground_X11_isIn rfl hy_X11_isIn rfl (by decide) (by decide) (by decide) (by decide) (by decide) (by decide) (by decide) (Or.inl ge6.2) ?_
    refine j_if_eq (pc := 15) (tgt := 44) dX11_ground_15 (by decide) (fun c8 => ?_) (fun c8 => ?_)
    · rw [if_pos c8] at h
      exact jm_X11_ground_b44 _ _ _ _ _ _ w5 h
    · rw [if_neg c8] at h
      refine j_iload (pc := 18) dX11_ground_18 rfl ?_
      refine j_iconst (pc := 20) dX11_ground_20 (v := 0) (by decide) ?_
      refine j_bipush (pc := 21) dX11_ground_21 (v := 99) (by decide) ?_
      obtain ⟨x11, w9, e10, h⟩ := obS2 h
      have ge10 := calSR_of e10
      refine j_callS_g (pc := 23) (As := [.int i4, .int 0, .int 99]) (k' := 0) (n' := 0) dX11_ground_23 (s_X11_isIn ge10.1) gX11_ground_X11_isIn rfl hy_X11_isIn rfl (by decide) (by decide) (by decide) (by decide) (by decide) (by decide) (by decide) (Or.inl ge10.2) ?_
      refine j_if_eq (pc := 26) (tgt := 44) dX11_ground_26 (by decide) (fun c12 => ?_) (fun c12 => ?_)
      · rw [if_pos c12] at h
        exact jm_X11_ground_b44 _ _ _ _ _ _ w9 h
      · rw [if_neg c12] at h
        refine j_iload (pc := 29) dX11_ground_29 rfl ?_
        refine j_iconst (pc := 31) dX11_ground_31 (v := 0) (by decide) ?_
        refine j_bipush (pc := 32) dX11_ground_32 (v := 9) (by decide) ?_
        obtain ⟨x15, w13, e14, h⟩ := obS2 h
        have ge14 := calSR_of e14
        refine j_callS_g (pc := 34) (As := [.int i5, .int 0, .int 9]) (k' := 0) (n' := 0) dX11_ground_34 (s_X11_isIn ge14.1) gX11_ground_X11_isIn rfl hy_X11_isIn rfl (by decide) (by decide) (by decide) (by decide) (by decide) (by decide) (by decide) (Or.inl ge14.2) ?_
        refine j_if_eq (pc := 37) (tgt := 44) dX11_ground_37 (by decide) (fun c16 => ?_) (fun c16 => ?_)
        · rw [if_pos c16] at h
          exact jm_X11_ground_b44 _ _ _ _ _ _ w13 h
        · rw [if_neg c16] at h
          refine j_iconst (pc := 40) dX11_ground_40 (v := 1) (by decide) ?_
          refine j_goto (pc := 41) (tgt := 45) dX11_ground_41 (by decide) ?_
          exact jm_X11_ground_b45 _ _ _ _ _ _ _ w13 h
theorem r_X11_ground {a0 : Nat} {i1 : Int32} {i2 : Int32} {i3 : Int32} {i4 : Int32} {i5 : Int32} {ws : LWd} {o : (Int32 × LWd)} (h : m_X11_ground a0 i1 i2 i3 i4 i5 ws = some o) : ∃ fs, ws[a0]? = some (.inr (11, fs)) := rcv_in h
theorem hin_X11_chart_X11 : ∀ w ∈ u_ws RX11 TX11 31, w ∈ wsX11_chart := fun w h => List.mem_cons_of_mem _ (List.mem_append_right _ h)
theorem lk_X11_chart_0 : Cond.fieldLink RX11 19 "GaitwrightModel" "mapped" "[I" ∈ wsX11_chart := List.mem_cons_of_mem _ (List.mem_append_left _ (List.mem_of_getElem? (i := 0) rfl))
def m_X11_chart_b24 (a0 : Nat) (i1 : Int32) (i2 : Int32) (i3 : Int32) (s0 : Nat) (s1 : Int32) (ws : LWd) : Option (Int32 × LWd) :=
  bn2 (calSR ws (m_X11_fails s0 s1 ws)) fun x3 w1 =>
  if x3 = 0 then
    (fR w1 a0 11 3).bind fun x5 =>
    bn2 (calSR w1 (m_X11_at i1 i2 w1)) fun x9 w7 =>
    (aI w7 x5 x9).bind fun x10 =>
    (fR w7 a0 11 3).bind fun x12 =>
    bn2 (calSR w7 (m_X11_at i1 i2 w7)) fun x16 w14 =>
    (sI w14 x12 x16 i3).bind fun w17 =>
    some (x10, w17)
  else
    some (0, w1)
set_option maxRecDepth 100000 in
set_option maxHeartbeats 4000000 in
theorem jm_X11_chart_b24 {n0 : Nat} {rr : Int32} {ws' : LWd} (a0 : Nat) (i1 : Int32) (i2 : Int32) (i3 : Int32) (s0 : Nat) (s1 : Int32) (ws : LWd) (h : m_X11_chart_b24 a0 i1 i2 i3 s0 s1 ws = some (rr, ws')) : JG false cX11_chart 5 RX11 wsX11_chart (some .int) "chart" 2 0 0 n0 (.inl (some (.int rr)), ws') 24 [some (.ref a0), some (.int i1), some (.int i2), some (.int i3), none] [.int s1, .ref s0] ws 0 0 := by
  unfold m_X11_chart_b24 at h
  obtain ⟨x3, w1, e2, h⟩ := obS2 h
  have ge2 := calSR_of e2
  refine j_callV_g (pc := 24) (As := [.int s1]) (k' := 0) (n' := 0) dX11_chart_24 (s_X11_fails ge2.1) gX11_chart_X11_fails rfl hv_X11_fails rfl (r_X11_fails ge2.1) rfl (by decide) (by decide) (by decide) (by decide) (by decide) (by decide) (by decide) (Or.inl ge2.2) ?_
  refine j_if_eq (pc := 27) (tgt := 32) dX11_chart_27 (by decide) (fun c4 => ?_) (fun c4 => ?_)
  · rw [if_pos c4] at h
    refine j_aload_n (pc := 32) dX11_chart_32 rfl ?_
    obtain ⟨x5, e6, h⟩ := obS h
    refine j_getR (pc := 33) dX11_chart_33 (ci := 11) (kf := 3) rfl hin_X11_chart_X11 (by decide) lk_X11_chart_0 e6 ?_
    refine j_iload_n (pc := 36) dX11_chart_36 rfl ?_
    refine j_iload_n (pc := 37) dX11_chart_37 rfl ?_
    obtain ⟨x9, w7, e8, h⟩ := obS2 h
    have ge8 := calSR_of e8
    refine j_callS_g (pc := 38) (As := [.int i1, .int i2]) (k' := 0) (n' := 0) dX11_chart_38 (s_X11_at ge8.1) gX11_chart_X11_at rfl hy_X11_at rfl (by decide) (by decide) (by decide) (by decide) (by decide) (by decide) (by decide) (Or.inl ge8.2) ?_
    obtain ⟨x10, e11, h⟩ := obS h
    refine j_iald (pc := 41) dX11_chart_41 e11 ?_
    refine j_istore_4 (pc := 42) dX11_chart_42 (by decide) rfl ?_
    refine j_aload_n (pc := 44) dX11_chart_44 rfl ?_
    obtain ⟨x12, e13, h⟩ := obS h
    refine j_getR (pc := 45) dX11_chart_45 (ci := 11) (kf := 3) rfl hin_X11_chart_X11 (by decide) lk_X11_chart_0 e13 ?_
    refine j_iload_n (pc := 48) dX11_chart_48 rfl ?_
    refine j_iload_n (pc := 49) dX11_chart_49 rfl ?_
    obtain ⟨x16, w14, e15, h⟩ := obS2 h
    have ge15 := calSR_of e15
    refine j_callS_g (pc := 50) (As := [.int i1, .int i2]) (k' := 0) (n' := 0) dX11_chart_50 (s_X11_at ge15.1) gX11_chart_X11_at rfl hy_X11_at rfl (by decide) (by decide) (by decide) (by decide) (by decide) (by decide) (by decide) (Or.inl ge15.2) ?_
    refine j_iload_n (pc := 53) dX11_chart_53 rfl ?_
    obtain ⟨w17, e18, h⟩ := obS h
    refine j_iast (pc := 54) dX11_chart_54 e18 ?_
    refine j_iload (pc := 55) dX11_chart_55 rfl ?_
    obtain ⟨rfl, rfl⟩ := jretS h
    exact j_iret (pc := 57) rfl dX11_chart_57 (by decide) (by decide) rfl
  · rw [if_neg c4] at h
    refine j_iconst (pc := 30) dX11_chart_30 (v := 0) (by decide) ?_
    obtain ⟨rfl, rfl⟩ := jretS h
    exact j_iret (pc := 31) rfl dX11_chart_31 (by decide) (by decide) rfl
def m_X11_chart_b23 (a0 : Nat) (i1 : Int32) (i2 : Int32) (i3 : Int32) (s0 : Nat) (ws : LWd) : Option (Int32 × LWd) :=
  m_X11_chart_b24 a0 i1 i2 i3 s0 1 ws
set_option maxRecDepth 100000 in
set_option maxHeartbeats 4000000 in
theorem jm_X11_chart_b23 {n0 : Nat} {rr : Int32} {ws' : LWd} (a0 : Nat) (i1 : Int32) (i2 : Int32) (i3 : Int32) (s0 : Nat) (ws : LWd) (h : m_X11_chart_b23 a0 i1 i2 i3 s0 ws = some (rr, ws')) : JG false cX11_chart 5 RX11 wsX11_chart (some .int) "chart" 2 0 0 n0 (.inl (some (.int rr)), ws') 23 [some (.ref a0), some (.int i1), some (.int i2), some (.int i3), none] [.ref s0] ws 0 0 := by
  unfold m_X11_chart_b23 at h
  refine j_iconst (pc := 23) dX11_chart_23 (v := 1) (by decide) ?_
  exact jm_X11_chart_b24 _ _ _ _ _ _ ws h
def m_X11_chart (a0 : Nat) (i1 : Int32) (i2 : Int32) (i3 : Int32) (ws : LWd) : Option (Int32 × LWd) :=
  (rcv ws a0 11).bind fun _ =>
  bn2 (calSR ws (m_X11_isPoint i1 i2 ws)) fun x3 w1 =>
  if x3 = 0 then
    m_X11_chart_b23 a0 i1 i2 i3 a0 w1
  else
    bn2 (calSR w1 (m_X11_isIn i3 0 9 w1)) fun x7 w5 =>
    if x7 = 0 then
      m_X11_chart_b23 a0 i1 i2 i3 a0 w5
    else
      m_X11_chart_b24 a0 i1 i2 i3 a0 0 w5
set_option maxRecDepth 100000 in
set_option maxHeartbeats 4000000 in
theorem s_X11_chart {a0 : Nat} {i1 : Int32} {i2 : Int32} {i3 : Int32} {ws : LWd} {rr : Int32} {ws' : LWd} (h : m_X11_chart a0 i1 i2 i3 ws = some (rr, ws')) : jSp yX11_chart wsX11_chart 2 0 0 [.ref a0, .int i1, .int i2, .int i3] ws (.inl (some (.int rr)), ws') := by
  unfold m_X11_chart at h
  refine j_entry (ret := (some .int)) (nm := "chart") (own := RX11) pl_X11 rfl rfl rfl (jcats (by rfl)) (by decide) ?_
  show JG false cX11_chart 5 RX11 wsX11_chart (some .int) "chart" 2 0 0 ws.length (.inl (some (.int rr)), ws') 0 [some (.ref a0), some (.int i1), some (.int i2), some (.int i3), none] [] ws 0 0
  obtain ⟨_, _, h⟩ := obS h
  refine j_aload_n (pc := 0) dX11_chart_0 rfl ?_
  refine j_iload_n (pc := 1) dX11_chart_1 rfl ?_
  refine j_iload_n (pc := 2) dX11_chart_2 rfl ?_
  obtain ⟨x3, w1, e2, h⟩ := obS2 h
  have ge2 := calSR_of e2
  refine j_callS_g (pc := 3) (As := [.int i1, .int i2]) (k' := 0) (n' := 0) dX11_chart_3 (s_X11_isPoint ge2.1) gX11_chart_X11_isPoint rfl hy_X11_isPoint rfl (by decide) (by decide) (by decide) (by decide) (by decide) (by decide) (by decide) (Or.inl ge2.2) ?_
  refine j_if_eq (pc := 6) (tgt := 23) dX11_chart_6 (by decide) (fun c4 => ?_) (fun c4 => ?_)
  · rw [if_pos c4] at h
    exact jm_X11_chart_b23 _ _ _ _ _ w1 h
  · rw [if_neg c4] at h
    refine j_iload_n (pc := 9) dX11_chart_9 rfl ?_
    refine j_iconst (pc := 10) dX11_chart_10 (v := 0) (by decide) ?_
    refine j_bipush (pc := 11) dX11_chart_11 (v := 9) (by decide) ?_
    obtain ⟨x7, w5, e6, h⟩ := obS2 h
    have ge6 := calSR_of e6
    refine j_callS_g (pc := 13) (As := [.int i3, .int 0, .int 9]) (k' := 0) (n' := 0) dX11_chart_13 (s_X11_isIn ge6.1) gX11_chart_X11_isIn rfl hy_X11_isIn rfl (by decide) (by decide) (by decide) (by decide) (by decide) (by decide) (by decide) (Or.inl ge6.2) ?_
    refine j_if_eq (pc := 16) (tgt := 23) dX11_chart_16 (by decide) (fun c8 => ?_) (fun c8 => ?_)
    · rw [if_pos c8] at h
      exact jm_X11_chart_b23 _ _ _ _ _ w5 h
    · rw [if_neg c8] at h
      refine j_iconst (pc := 19) dX11_chart_19 (v := 0) (by decide) ?_
      refine j_goto (pc := 20) (tgt := 24) dX11_chart_20 (by decide) ?_
      exact jm_X11_chart_b24 _ _ _ _ _ _ w5 h
theorem r_X11_chart {a0 : Nat} {i1 : Int32} {i2 : Int32} {i3 : Int32} {ws : LWd} {o : (Int32 × LWd)} (h : m_X11_chart a0 i1 i2 i3 ws = some o) : ∃ fs, ws[a0]? = some (.inr (11, fs)) := rcv_in h
theorem hin_X11_leg_X11 : ∀ w ∈ u_ws RX11 TX11 31, w ∈ wsX11_leg := fun w h => List.mem_cons_of_mem _ (List.mem_append_right _ h)
theorem lk_X11_leg_0 : Cond.fieldLink RX11 32 "GaitwrightModel" "hipX" "[I" ∈ wsX11_leg := List.mem_cons_of_mem _ (List.mem_append_left _ (List.mem_of_getElem? (i := 2) rfl))
theorem lk_X11_leg_1 : Cond.fieldLink RX11 63 "GaitwrightModel" "legs" "I" ∈ wsX11_leg := List.mem_cons_of_mem _ (List.mem_append_left _ (List.mem_of_getElem? (i := 0) rfl))
theorem lk_X11_leg_2 : Cond.fieldLink RX11 35 "GaitwrightModel" "hipY" "[I" ∈ wsX11_leg := List.mem_cons_of_mem _ (List.mem_append_left _ (List.mem_of_getElem? (i := 3) rfl))
theorem lk_X11_leg_3 : Cond.fieldLink RX11 38 "GaitwrightModel" "reach" "[I" ∈ wsX11_leg := List.mem_cons_of_mem _ (List.mem_append_left _ (List.mem_of_getElem? (i := 4) rfl))
theorem lk_X11_leg_4 : Cond.fieldLink RX11 84 "GaitwrightModel" "stands" "Z" ∈ wsX11_leg := List.mem_cons_of_mem _ (List.mem_append_left _ (List.mem_of_getElem? (i := 1) rfl))
def m_X11_leg_b68 (a0 : Nat) (i1 : Int32) (i2 : Int32) (i3 : Int32) (s0 : Nat) (s1 : Int32) (ws : LWd) : Option (Int32 × LWd) :=
  bn2 (calSR ws (m_X11_fails s0 s1 ws)) fun x3 w1 =>
  if x3 = 0 then
    (fR w1 a0 11 12).bind fun x5 =>
    (fI w1 a0 11 11).bind fun x7 =>
    (sI w1 x5 x7 i1).bind fun w9 =>
    (fR w9 a0 11 13).bind fun x11 =>
    (fI w9 a0 11 11).bind fun x13 =>
    (sI w9 x11 x13 i2).bind fun w15 =>
    (fR w15 a0 11 14).bind fun x17 =>
    (fI w15 a0 11 11).bind fun x19 =>
    (sI w15 x17 x19 i3).bind fun w21 =>
    (fI w21 a0 11 11).bind fun x23 =>
    (pV w21 a0 11 11 (.int (x23 + 1))).bind fun w25 =>
    (fI w25 a0 11 11).bind fun x27 =>
    some (x27 - 1, w25)
  else
    some (0, w1)
set_option maxRecDepth 100000 in
set_option maxHeartbeats 4000000 in
theorem jm_X11_leg_b68 {n0 : Nat} {rr : Int32} {ws' : LWd} (a0 : Nat) (i1 : Int32) (i2 : Int32) (i3 : Int32) (s0 : Nat) (s1 : Int32) (ws : LWd) (h : m_X11_leg_b68 a0 i1 i2 i3 s0 s1 ws = some (rr, ws')) : JG false cX11_leg 5 RX11 wsX11_leg (some .int) "leg" 1 0 0 n0 (.inl (some (.int rr)), ws') 68 [some (.ref a0), some (.int i1), some (.int i2), some (.int i3), none] [.int s1, .ref s0] ws 0 0 := by
  unfold m_X11_leg_b68 at h
  obtain ⟨x3, w1, e2, h⟩ := obS2 h
  have ge2 := calSR_of e2
  refine j_callV_g (pc := 68) (As := [.int s1]) (k' := 0) (n' := 0) dX11_leg_68 (s_X11_fails ge2.1) gX11_leg_X11_fails rfl hv_X11_fails rfl (r_X11_fails ge2.1) rfl (by decide) (by decide) (by decide) (by decide) (by decide) (by decide) (by decide) (Or.inl ge2.2) ?_
  refine j_if_eq (pc := 71) (tgt := 76) dX11_leg_71 (by decide) (fun c4 => ?_) (fun c4 => ?_)
  · rw [if_pos c4] at h
    refine j_aload_n (pc := 76) dX11_leg_76 rfl ?_
    obtain ⟨x5, e6, h⟩ := obS h
    refine j_getR (pc := 77) dX11_leg_77 (ci := 11) (kf := 12) rfl hin_X11_leg_X11 (by decide) lk_X11_leg_0 e6 ?_
    refine j_aload_n (pc := 80) dX11_leg_80 rfl ?_
    obtain ⟨x7, e8, h⟩ := obS h
    refine j_getI (pc := 81) dX11_leg_81 (ci := 11) (kf := 11) rfl hin_X11_leg_X11 (by decide) lk_X11_leg_1 e8 ?_
    refine j_iload_n (pc := 84) dX11_leg_84 rfl ?_
    obtain ⟨w9, e10, h⟩ := obS h
    refine j_iast (pc := 85) dX11_leg_85 e10 ?_
    refine j_aload_n (pc := 86) dX11_leg_86 rfl ?_
    obtain ⟨x11, e12, h⟩ := obS h
    refine j_getR (pc := 87) dX11_leg_87 (ci := 11) (kf := 13) rfl hin_X11_leg_X11 (by decide) lk_X11_leg_2 e12 ?_
    refine j_aload_n (pc := 90) dX11_leg_90 rfl ?_
    obtain ⟨x13, e14, h⟩ := obS h
    refine j_getI (pc := 91) dX11_leg_91 (ci := 11) (kf := 11) rfl hin_X11_leg_X11 (by decide) lk_X11_leg_1 e14 ?_
    refine j_iload_n (pc := 94) dX11_leg_94 rfl ?_
    obtain ⟨w15, e16, h⟩ := obS h
    refine j_iast (pc := 95) dX11_leg_95 e16 ?_
    refine j_aload_n (pc := 96) dX11_leg_96 rfl ?_
    obtain ⟨x17, e18, h⟩ := obS h
    refine j_getR (pc := 97) dX11_leg_97 (ci := 11) (kf := 14) rfl hin_X11_leg_X11 (by decide) lk_X11_leg_3 e18 ?_
    refine j_aload_n (pc := 100) dX11_leg_100 rfl ?_
    obtain ⟨x19, e20, h⟩ := obS h
    refine j_getI (pc := 101) dX11_leg_101 (ci := 11) (kf := 11) rfl hin_X11_leg_X11 (by decide) lk_X11_leg_1 e20 ?_
    refine j_iload_n (pc := 104) dX11_leg_104 rfl ?_
    obtain ⟨w21, e22, h⟩ := obS h
    refine j_iast (pc := 105) dX11_leg_105 e22 ?_
    refine j_aload_n (pc := 106) dX11_leg_106 rfl ?_
    refine j_dup (pc := 107) dX11_leg_107 rfl ?_
    obtain ⟨x23, e24, h⟩ := obS h
    refine j_getI (pc := 108) dX11_leg_108 (ci := 11) (kf := 11) rfl hin_X11_leg_X11 (by decide) lk_X11_leg_1 e24 ?_
    refine j_iconst (pc := 111) dX11_leg_111 (v := 1) (by decide) ?_
    refine j_iadd (pc := 112) dX11_leg_112 ?_
    obtain ⟨w25, e26, h⟩ := obS h
    refine j_putV (pc := 113) (ci := 11) (kf := 11) tyX11 tyX11_ok nmX11 dX11_leg_113 rfl hin_X11_leg_X11 (by decide) lk_X11_leg_1 rfl (fun _ => rfl) (fun _ => rfl) e26 ?_
    refine j_aload_n (pc := 116) dX11_leg_116 rfl ?_
    obtain ⟨x27, e28, h⟩ := obS h
    refine j_getI (pc := 117) dX11_leg_117 (ci := 11) (kf := 11) rfl hin_X11_leg_X11 (by decide) lk_X11_leg_1 e28 ?_
    refine j_iconst (pc := 120) dX11_leg_120 (v := 1) (by decide) ?_
    refine j_isub (pc := 121) dX11_leg_121 ?_
    obtain ⟨rfl, rfl⟩ := jretS h
    exact j_iret (pc := 122) rfl dX11_leg_122 (by decide) (by decide) rfl
  · rw [if_neg c4] at h
    refine j_iconst (pc := 74) dX11_leg_74 (v := 0) (by decide) ?_
    obtain ⟨rfl, rfl⟩ := jretS h
    exact j_iret (pc := 75) rfl dX11_leg_75 (by decide) (by decide) rfl
def m_X11_leg_b63 (a0 : Nat) (i1 : Int32) (i2 : Int32) (i3 : Int32) (s0 : Nat) (ws : LWd) : Option (Int32 × LWd) :=
  m_X11_leg_b68 a0 i1 i2 i3 s0 2 ws
set_option maxRecDepth 100000 in
set_option maxHeartbeats 4000000 in
theorem jm_X11_leg_b63 {n0 : Nat} {rr : Int32} {ws' : LWd} (a0 : Nat) (i1 : Int32) (i2 : Int32) (i3 : Int32) (s0 : Nat) (ws : LWd) (h : m_X11_leg_b63 a0 i1 i2 i3 s0 ws = some (rr, ws')) : JG false cX11_leg 5 RX11 wsX11_leg (some .int) "leg" 1 0 0 n0 (.inl (some (.int rr)), ws') 63 [some (.ref a0), some (.int i1), some (.int i2), some (.int i3), none] [.ref s0] ws 0 0 := by
  unfold m_X11_leg_b63 at h
  refine j_iconst (pc := 63) dX11_leg_63 (v := 2) (by decide) ?_
  refine j_goto (pc := 64) (tgt := 68) dX11_leg_64 (by decide) ?_
  exact jm_X11_leg_b68 _ _ _ _ _ _ ws h
def m_X11_leg_b35 (a0 : Nat) (i1 : Int32) (i2 : Int32) (i3 : Int32) (s0 : Int32) (ws : LWd) : Option (Int32 × LWd) :=
  if s0 = 0 then
    m_X11_leg_b68 a0 i1 i2 i3 a0 1 ws
  else
    (fI ws a0 11 11).bind fun x2 =>
    if x2 = 6 then
      m_X11_leg_b63 a0 i1 i2 i3 a0 ws
    else
      (fI ws a0 11 4).bind fun x5 =>
      if x5 = 0 then
        m_X11_leg_b68 a0 i1 i2 i3 a0 0 ws
      else
        m_X11_leg_b63 a0 i1 i2 i3 a0 ws
set_option maxRecDepth 100000 in
set_option maxHeartbeats 4000000 in
theorem jm_X11_leg_b35 {n0 : Nat} {rr : Int32} {ws' : LWd} (a0 : Nat) (i1 : Int32) (i2 : Int32) (i3 : Int32) (s0 : Int32) (ws : LWd) (h : m_X11_leg_b35 a0 i1 i2 i3 s0 ws = some (rr, ws')) : JG false cX11_leg 5 RX11 wsX11_leg (some .int) "leg" 1 0 0 n0 (.inl (some (.int rr)), ws') 35 [some (.ref a0), some (.int i1), some (.int i2), some (.int i3), none] [.int s0] ws 0 0 := by
  unfold m_X11_leg_b35 at h
  refine j_istore_4 (pc := 35) dX11_leg_35 (by decide) rfl ?_
  refine j_aload_n (pc := 37) dX11_leg_37 rfl ?_
  refine j_iload (pc := 38) dX11_leg_38 rfl ?_
  refine j_if_ne (pc := 40) (tgt := 47) dX11_leg_40 (by decide) (fun c1 => ?_) (fun c1 => ?_)
  · rw [if_neg c1] at h
    refine j_aload_n (pc := 47) dX11_leg_47 rfl ?_
    obtain ⟨x2, e3, h⟩ := obS h
    refine j_getI (pc := 48) dX11_leg_48 (ci := 11) (kf := 11) rfl hin_X11_leg_X11 (by decide) lk_X11_leg_1 e3 ?_
    refine j_bipush (pc := 51) dX11_leg_51 (v := 6) (by decide) ?_
    refine j_icmp_eq (pc := 53) (tgt := 63) dX11_leg_53 (by decide) (fun c4 => ?_) (fun c4 => ?_)
    · rw [if_pos c4] at h
      refine j_mask [true, true, true, true, false] ?_
      exact jm_X11_leg_b63 _ _ _ _ _ ws h
    · rw [if_neg c4] at h
      refine j_aload_n (pc := 56) dX11_leg_56 rfl ?_
      obtain ⟨x5, e6, h⟩ := obS h
      refine j_getI (pc := 57) dX11_leg_57 (ci := 11) (kf := 4) rfl hin_X11_leg_X11 (by decide) lk_X11_leg_4 e6 ?_
      refine j_if_eq (pc := 60) (tgt := 67) dX11_leg_60 (by decide) (fun c7 => ?_) (fun c7 => ?_)
      · rw [if_pos c7] at h
        refine j_iconst (pc := 67) dX11_leg_67 (v := 0) (by decide) ?_
        refine j_mask [true, true, true, true, false] ?_
        exact jm_X11_leg_b68 _ _ _ _ _ _ ws h
      · rw [if_neg c7] at h
        refine j_mask [true, true, true, true, false] ?_
        exact jm_X11_leg_b63 _ _ _ _ _ ws h
  · rw [if_pos c1] at h
    refine j_iconst (pc := 43) dX11_leg_43 (v := 1) (by decide) ?_
    refine j_goto (pc := 44) (tgt := 68) dX11_leg_44 (by decide) ?_
    refine j_mask [true, true, true, true, false] ?_
    exact jm_X11_leg_b68 _ _ _ _ _ _ ws h
def m_X11_leg_b34 (a0 : Nat) (i1 : Int32) (i2 : Int32) (i3 : Int32) (ws : LWd) : Option (Int32 × LWd) :=
  m_X11_leg_b35 a0 i1 i2 i3 0 ws
set_option maxRecDepth 100000 in
set_option maxHeartbeats 4000000 in
theorem jm_X11_leg_b34 {n0 : Nat} {rr : Int32} {ws' : LWd} (a0 : Nat) (i1 : Int32) (i2 : Int32) (i3 : Int32) (ws : LWd) (h : m_X11_leg_b34 a0 i1 i2 i3 ws = some (rr, ws')) : JG false cX11_leg 5 RX11 wsX11_leg (some .int) "leg" 1 0 0 n0 (.inl (some (.int rr)), ws') 34 [some (.ref a0), some (.int i1), some (.int i2), some (.int i3), none] [] ws 0 0 := by
  unfold m_X11_leg_b34 at h
  refine j_iconst (pc := 34) dX11_leg_34 (v := 0) (by decide) ?_
  exact jm_X11_leg_b35 _ _ _ _ _ ws h
def m_X11_leg (a0 : Nat) (i1 : Int32) (i2 : Int32) (i3 : Int32) (ws : LWd) : Option (Int32 × LWd) :=
  (rcv ws a0 11).bind fun _ =>
  bn2 (calSR ws (m_X11_isIn i1 ((-5)) 5 ws)) fun x3 w1 =>
  if x3 = 0 then
    m_X11_leg_b34 a0 i1 i2 i3 w1
  else
    bn2 (calSR w1 (m_X11_isIn i2 ((-5)) 5 w1)) fun x7 w5 =>
    if x7 = 0 then
      m_X11_leg_b34 a0 i1 i2 i3 w5
    else
      bn2 (calSR w5 (m_X11_isIn i3 1 6 w5)) fun x11 w9 =>
      if x11 = 0 then
        m_X11_leg_b34 a0 i1 i2 i3 w9
      else
        m_X11_leg_b35 a0 i1 i2 i3 1 w9
set_option maxRecDepth 100000 in
set_option maxHeartbeats 4000000 in
theorem s_X11_leg {a0 : Nat} {i1 : Int32} {i2 : Int32} {i3 : Int32} {ws : LWd} {rr : Int32} {ws' : LWd} (h : m_X11_leg a0 i1 i2 i3 ws = some (rr, ws')) : jSp yX11_leg wsX11_leg 1 0 0 [.ref a0, .int i1, .int i2, .int i3] ws (.inl (some (.int rr)), ws') := by
  unfold m_X11_leg at h
  refine j_entry (ret := (some .int)) (nm := "leg") (own := RX11) pl_X11 rfl rfl rfl (jcats (by rfl)) (by decide) ?_
  show JG false cX11_leg 5 RX11 wsX11_leg (some .int) "leg" 1 0 0 ws.length (.inl (some (.int rr)), ws') 0 [some (.ref a0), some (.int i1), some (.int i2), some (.int i3), none] [] ws 0 0
  obtain ⟨_, _, h⟩ := obS h
  refine j_iload_n (pc := 0) dX11_leg_0 rfl ?_
  refine j_bipush (pc := 1) dX11_leg_1 (v := (-5)) (by decide) ?_
  refine j_iconst (pc := 3) dX11_leg_3 (v := 5) (by decide) ?_
  obtain ⟨x3, w1, e2, h⟩ := obS2 h
  have ge2 := calSR_of e2
  refine j_callS_g (pc := 4) (As := [.int i1, .int ((-5)), .int 5]) (k' := 0) (n' := 0) dX11_leg_4 (s_X11_isIn ge2.1) gX11_leg_X11_isIn rfl hy_X11_isIn rfl (by decide) (by decide) (by decide) (by decide) (by decide) (by decide) (by decide) (Or.inl ge2.2) ?_
  refine j_if_eq (pc := 7) (tgt := 34) dX11_leg_7 (by decide) (fun c4 => ?_) (fun c4 => ?_)
  · rw [if_pos c4] at h
    exact jm_X11_leg_b34 _ _ _ _ w1 h
  · rw [if_neg c4] at h
    refine j_iload_n (pc := 10) dX11_leg_10 rfl ?_
    refine j_bipush (pc := 11) dX11_leg_11 (v := (-5)) (by decide) ?_
    refine j_iconst (pc := 13) dX11_leg_13 (v := 5) (by decide) ?_
    obtain ⟨x7, w5, e6, h⟩ := obS2 h
    have ge6 := calSR_of e6
    refine j_callS_g (pc := 14) (As := [.int i2, .int ((-5)), .int 5]) (k' := 0) (n' := 0) dX11_leg_14 (s_X11_isIn ge6.1) gX11_leg_X11_isIn rfl hy_X11_isIn rfl (by decide) (by decide) (by decide) (by decide) (by decide) (by decide) (by decide) (Or.inl ge6.2) ?_
    refine j_if_eq (pc := 17) (tgt := 34) dX11_leg_17 (by decide) (fun c8 => ?_) (fun c8 => ?_)
    · rw [if_pos c8] at h
      exact jm_X11_leg_b34 _ _ _ _ w5 h
    · rw [if_neg c8] at h
      refine j_iload_n (pc := 20) dX11_leg_20 rfl ?_
      refine j_iconst (pc := 21) dX11_leg_21 (v := 1) (by decide) ?_
      refine j_bipush (pc := 22) dX11_leg_22 (v := 6) (by decide) ?_
      obtain ⟨x11, w9, e10, h⟩ := obS2 h
      have ge10 := calSR_of e10
      refine j_callS_g (pc := 24) (As := [.int i3, .int 1, .int 6]) (k' := 0) (n' := 0) dX11_leg_24 (s_X11_isIn ge10.1) gX11_leg_X11_isIn rfl hy_X11_isIn rfl (by decide) (by decide) (by decide) (by decide) (by decide) (by decide) (by decide) (Or.inl ge10.2) ?_
      refine j_if_eq (pc := 27) (tgt := 34) dX11_leg_27 (by decide) (fun c12 => ?_) (fun c12 => ?_)
      · rw [if_pos c12] at h
        exact jm_X11_leg_b34 _ _ _ _ w9 h
      · rw [if_neg c12] at h
        refine j_iconst (pc := 30) dX11_leg_30 (v := 1) (by decide) ?_
        refine j_goto (pc := 31) (tgt := 35) dX11_leg_31 (by decide) ?_
        exact jm_X11_leg_b35 _ _ _ _ _ w9 h
theorem r_X11_leg {a0 : Nat} {i1 : Int32} {i2 : Int32} {i3 : Int32} {ws : LWd} {o : (Int32 × LWd)} (h : m_X11_leg a0 i1 i2 i3 ws = some o) : ∃ fs, ws[a0]? = some (.inr (11, fs)) := rcv_in h
theorem lk_X11_charge_0 : Cond.fieldLink RX11 29 "GaitwrightModel" "energy" "I" ∈ wsX11_charge := List.mem_cons_of_mem _ (List.mem_append_left _ (List.mem_of_getElem? (i := 0) rfl))
theorem hin_X11_charge_X11 : ∀ w ∈ u_ws RX11 TX11 31, w ∈ wsX11_charge := fun w h => List.mem_cons_of_mem _ (List.mem_append_right _ h)
def m_X11_charge_b50 (a0 : Nat) (s0 : Nat) (s1 : Int32) (ws : LWd) : Option (Int32 × LWd) :=
  (pV ws s0 11 7 (.int s1)).bind fun w1 =>
  (fI w1 a0 11 7).bind fun x3 =>
  some (x3, w1)
set_option maxRecDepth 100000 in
set_option maxHeartbeats 4000000 in
theorem jm_X11_charge_b50 {n0 : Nat} {rr : Int32} {ws' : LWd} (a0 : Nat) (s0 : Nat) (s1 : Int32) (ws : LWd) (h : m_X11_charge_b50 a0 s0 s1 ws = some (rr, ws')) : JG false cX11_charge 2 RX11 wsX11_charge (some .int) "charge" 1 0 0 n0 (.inl (some (.int rr)), ws') 50 [some (.ref a0), none] [.int s1, .ref s0] ws 0 0 := by
  unfold m_X11_charge_b50 at h
  obtain ⟨w1, e2, h⟩ := obS h
  refine j_putV (pc := 50) (ci := 11) (kf := 7) tyX11 tyX11_ok nmX11 dX11_charge_50 rfl hin_X11_charge_X11 (by decide) lk_X11_charge_0 rfl (fun _ => rfl) (fun _ => rfl) e2 ?_
  refine j_aload_n (pc := 53) dX11_charge_53 rfl ?_
  obtain ⟨x3, e4, h⟩ := obS h
  refine j_getI (pc := 54) dX11_charge_54 (ci := 11) (kf := 7) rfl hin_X11_charge_X11 (by decide) lk_X11_charge_0 e4 ?_
  obtain ⟨rfl, rfl⟩ := jretS h
  exact j_iret (pc := 57) rfl dX11_charge_57 (by decide) (by decide) rfl
def m_X11_charge_b17 (a0 : Nat) (i1 : Int32) (s0 : Nat) (s1 : Int32) (ws : LWd) : Option (Int32 × LWd) :=
  bn2 (calSR ws (m_X11_fails s0 s1 ws)) fun x3 w1 =>
  if x3 = 0 then
    (fI w1 a0 11 7).bind fun x5 =>
    if (x5 + i1) ≤ 1000 then
      (fI w1 a0 11 7).bind fun x8 =>
      m_X11_charge_b50 a0 a0 (x8 + i1) w1
    else
      m_X11_charge_b50 a0 a0 1000 w1
  else
    some (0, w1)
set_option maxRecDepth 100000 in
set_option maxHeartbeats 4000000 in
theorem jm_X11_charge_b17 {n0 : Nat} {rr : Int32} {ws' : LWd} (a0 : Nat) (i1 : Int32) (s0 : Nat) (s1 : Int32) (ws : LWd) (h : m_X11_charge_b17 a0 i1 s0 s1 ws = some (rr, ws')) : JG false cX11_charge 2 RX11 wsX11_charge (some .int) "charge" 1 0 0 n0 (.inl (some (.int rr)), ws') 17 [some (.ref a0), some (.int i1)] [.int s1, .ref s0] ws 0 0 := by
  unfold m_X11_charge_b17 at h
  obtain ⟨x3, w1, e2, h⟩ := obS2 h
  have ge2 := calSR_of e2
  refine j_callV_g (pc := 17) (As := [.int s1]) (k' := 0) (n' := 0) dX11_charge_17 (s_X11_fails ge2.1) gX11_charge_X11_fails rfl hv_X11_fails rfl (r_X11_fails ge2.1) rfl (by decide) (by decide) (by decide) (by decide) (by decide) (by decide) (by decide) (Or.inl ge2.2) ?_
  refine j_if_eq (pc := 20) (tgt := 25) dX11_charge_20 (by decide) (fun c4 => ?_) (fun c4 => ?_)
  · rw [if_pos c4] at h
    refine j_aload_n (pc := 25) dX11_charge_25 rfl ?_
    refine j_aload_n (pc := 26) dX11_charge_26 rfl ?_
    obtain ⟨x5, e6, h⟩ := obS h
    refine j_getI (pc := 27) dX11_charge_27 (ci := 11) (kf := 7) rfl hin_X11_charge_X11 (by decide) lk_X11_charge_0 e6 ?_
    refine j_iload_n (pc := 30) dX11_charge_30 rfl ?_
    refine j_iadd (pc := 31) dX11_charge_31 ?_
    refine j_sipush (pc := 32) dX11_charge_32 (v := 1000) (by decide) ?_
    refine j_icmp_le (pc := 35) (tgt := 44) dX11_charge_35 (by decide) (fun c7 => ?_) (fun c7 => ?_)
    · rw [if_pos c7] at h
      refine j_aload_n (pc := 44) dX11_charge_44 rfl ?_
      obtain ⟨x8, e9, h⟩ := obS h
      refine j_getI (pc := 45) dX11_charge_45 (ci := 11) (kf := 7) rfl hin_X11_charge_X11 (by decide) lk_X11_charge_0 e9 ?_
      refine j_iload_n (pc := 48) dX11_charge_48 rfl ?_
      refine j_iadd (pc := 49) dX11_charge_49 ?_
      refine j_mask [true, false] ?_
      exact jm_X11_charge_b50 _ _ _ w1 h
    · rw [if_neg c7] at h
      refine j_sipush (pc := 38) dX11_charge_38 (v := 1000) (by decide) ?_
      refine j_goto (pc := 41) (tgt := 50) dX11_charge_41 (by decide) ?_
      refine j_mask [true, false] ?_
      exact jm_X11_charge_b50 _ _ _ w1 h
  · rw [if_neg c4] at h
    refine j_iconst (pc := 23) dX11_charge_23 (v := 0) (by decide) ?_
    obtain ⟨rfl, rfl⟩ := jretS h
    exact j_iret (pc := 24) rfl dX11_charge_24 (by decide) (by decide) rfl
def m_X11_charge (a0 : Nat) (i1 : Int32) (ws : LWd) : Option (Int32 × LWd) :=
  (rcv ws a0 11).bind fun _ =>
  bn2 (calSR ws (m_X11_isIn i1 1 1000 ws)) fun x3 w1 =>
  if x3 = 0 then
    m_X11_charge_b17 a0 i1 a0 1 w1
  else
    m_X11_charge_b17 a0 i1 a0 0 w1
set_option maxRecDepth 100000 in
set_option maxHeartbeats 4000000 in
theorem s_X11_charge {a0 : Nat} {i1 : Int32} {ws : LWd} {rr : Int32} {ws' : LWd} (h : m_X11_charge a0 i1 ws = some (rr, ws')) : jSp yX11_charge wsX11_charge 1 0 0 [.ref a0, .int i1] ws (.inl (some (.int rr)), ws') := by
  unfold m_X11_charge at h
  refine j_entry (ret := (some .int)) (nm := "charge") (own := RX11) pl_X11 rfl rfl rfl (jcats (by rfl)) (by decide) ?_
  show JG false cX11_charge 2 RX11 wsX11_charge (some .int) "charge" 1 0 0 ws.length (.inl (some (.int rr)), ws') 0 [some (.ref a0), some (.int i1)] [] ws 0 0
  obtain ⟨_, _, h⟩ := obS h
  refine j_aload_n (pc := 0) dX11_charge_0 rfl ?_
  refine j_iload_n (pc := 1) dX11_charge_1 rfl ?_
  refine j_iconst (pc := 2) dX11_charge_2 (v := 1) (by decide) ?_
  refine j_sipush (pc := 3) dX11_charge_3 (v := 1000) (by decide) ?_
  obtain ⟨x3, w1, e2, h⟩ := obS2 h
  have ge2 := calSR_of e2
  refine j_callS_g (pc := 6) (As := [.int i1, .int 1, .int 1000]) (k' := 0) (n' := 0) dX11_charge_6 (s_X11_isIn ge2.1) gX11_charge_X11_isIn rfl hy_X11_isIn rfl (by decide) (by decide) (by decide) (by decide) (by decide) (by decide) (by decide) (Or.inl ge2.2) ?_
  refine j_if_eq (pc := 9) (tgt := 16) dX11_charge_9 (by decide) (fun c4 => ?_) (fun c4 => ?_)
  · rw [if_pos c4] at h
    refine j_iconst (pc := 16) dX11_charge_16 (v := 1) (by decide) ?_
    exact jm_X11_charge_b17 _ _ _ _ w1 h
  · rw [if_neg c4] at h
    refine j_iconst (pc := 12) dX11_charge_12 (v := 0) (by decide) ?_
    refine j_goto (pc := 13) (tgt := 17) dX11_charge_13 (by decide) ?_
    exact jm_X11_charge_b17 _ _ _ _ w1 h
theorem r_X11_charge {a0 : Nat} {i1 : Int32} {ws : LWd} {o : (Int32 × LWd)} (h : m_X11_charge a0 i1 ws = some o) : ∃ fs, ws[a0]? = some (.inr (11, fs)) := rcv_in h
theorem hin_X11_phase_X11 : ∀ w ∈ u_ws RX11 TX11 31, w ∈ wsX11_phase := fun w h => List.mem_cons_of_mem _ (List.mem_append_right _ h)
theorem lk_X11_phase_0 : Cond.fieldLink RX11 91 "GaitwrightModel" "phases" "I" ∈ wsX11_phase := List.mem_cons_of_mem _ (List.mem_append_left _ (List.mem_of_getElem? (i := 0) rfl))
theorem lk_X11_phase_1 : Cond.fieldLink RX11 50 "GaitwrightModel" "phase" "[I" ∈ wsX11_phase := List.mem_cons_of_mem _ (List.mem_append_left _ (List.mem_of_getElem? (i := 1) rfl))
def m_X11_phase_b85 (a0 : Nat) (i1 : Int32) (i2 : Int32) (i3 : Int32) (i4 : Int32) (i5 : Int32) (s0 : Nat) (s1 : Int32) (ws : LWd) : Option (Int32 × LWd) :=
  bn2 (calSR ws (m_X11_fails s0 s1 ws)) fun x3 w1 =>
  if x3 = 0 then
    (fI w1 a0 11 25).bind fun x5 =>
    (fR w1 a0 11 27).bind fun x7 =>
    (sI w1 x7 (5 * x5) i1).bind fun w9 =>
    (fR w9 a0 11 27).bind fun x11 =>
    (sI w9 x11 ((5 * x5) + 1) i2).bind fun w13 =>
    (fR w13 a0 11 27).bind fun x15 =>
    (sI w13 x15 ((5 * x5) + 2) i3).bind fun w17 =>
    (fR w17 a0 11 27).bind fun x19 =>
    (sI w17 x19 ((5 * x5) + 3) i4).bind fun w21 =>
    (fR w21 a0 11 27).bind fun x23 =>
    (sI w21 x23 ((5 * x5) + 4) i5).bind fun w25 =>
    (fI w25 a0 11 25).bind fun x27 =>
    (pV w25 a0 11 25 (.int (x27 + 1))).bind fun w29 =>
    (fI w29 a0 11 25).bind fun x31 =>
    some (x31, w29)
  else
    some (0, w1)
set_option maxRecDepth 100000 in
set_option maxHeartbeats 4000000 in
theorem jm_X11_phase_b85 {n0 : Nat} {rr : Int32} {ws' : LWd} (a0 : Nat) (i1 : Int32) (i2 : Int32) (i3 : Int32) (i4 : Int32) (i5 : Int32) (s0 : Nat) (s1 : Int32) (ws : LWd) (h : m_X11_phase_b85 a0 i1 i2 i3 i4 i5 s0 s1 ws = some (rr, ws')) : JG false cX11_phase 8 RX11 wsX11_phase (some .int) "phase" 2 0 0 n0 (.inl (some (.int rr)), ws') 85 [some (.ref a0), some (.int i1), some (.int i2), some (.int i3), some (.int i4), some (.int i5), none, none] [.int s1, .ref s0] ws 0 0 := by
  unfold m_X11_phase_b85 at h
  obtain ⟨x3, w1, e2, h⟩ := obS2 h
  have ge2 := calSR_of e2
  refine j_callV_g (pc := 85) (As := [.int s1]) (k' := 0) (n' := 0) dX11_phase_85 (s_X11_fails ge2.1) gX11_phase_X11_fails rfl hv_X11_fails rfl (r_X11_fails ge2.1) rfl (by decide) (by decide) (by decide) (by decide) (by decide) (by decide) (by decide) (Or.inl ge2.2) ?_
  refine j_if_eq (pc := 88) (tgt := 93) dX11_phase_88 (by decide) (fun c4 => ?_) (fun c4 => ?_)
  · rw [if_pos c4] at h
    refine j_iconst (pc := 93) dX11_phase_93 (v := 5) (by decide) ?_
    refine j_aload_n (pc := 94) dX11_phase_94 rfl ?_
    obtain ⟨x5, e6, h⟩ := obS h
    refine j_getI (pc := 95) dX11_phase_95 (ci := 11) (kf := 25) rfl hin_X11_phase_X11 (by decide) lk_X11_phase_0 e6 ?_
    refine j_imul (pc := 98) dX11_phase_98 ?_
    refine j_istore_7 (pc := 99) dX11_phase_99 (by decide) rfl ?_
    refine j_aload_n (pc := 101) dX11_phase_101 rfl ?_
    obtain ⟨x7, e8, h⟩ := obS h
    refine j_getR (pc := 102) dX11_phase_102 (ci := 11) (kf := 27) rfl hin_X11_phase_X11 (by decide) lk_X11_phase_1 e8 ?_
    refine j_iload (pc := 105) dX11_phase_105 rfl ?_
    refine j_iload_n (pc := 107) dX11_phase_107 rfl ?_
    obtain ⟨w9, e10, h⟩ := obS h
    refine j_iast (pc := 108) dX11_phase_108 e10 ?_
    refine j_aload_n (pc := 109) dX11_phase_109 rfl ?_
    obtain ⟨x11, e12, h⟩ := obS h
    refine j_getR (pc := 110) dX11_phase_110 (ci := 11) (kf := 27) rfl hin_X11_phase_X11 (by decide) lk_X11_phase_1 e12 ?_
    refine j_iload (pc := 113) dX11_phase_113 rfl ?_
    refine j_iconst (pc := 115) dX11_phase_115 (v := 1) (by decide) ?_
    refine j_iadd (pc := 116) dX11_phase_116 ?_
    refine j_iload_n (pc := 117) dX11_phase_117 rfl ?_
    obtain ⟨w13, e14, h⟩ := obS h
    refine j_iast (pc := 118) dX11_phase_118 e14 ?_
    refine j_aload_n (pc := 119) dX11_phase_119 rfl ?_
    obtain ⟨x15, e16, h⟩ := obS h
    refine j_getR (pc := 120) dX11_phase_120 (ci := 11) (kf := 27) rfl hin_X11_phase_X11 (by decide) lk_X11_phase_1 e16 ?_
    refine j_iload (pc := 123) dX11_phase_123 rfl ?_
    refine j_iconst (pc := 125) dX11_phase_125 (v := 2) (by decide) ?_
    refine j_iadd (pc := 126) dX11_phase_126 ?_
    refine j_iload_n (pc := 127) dX11_phase_127 rfl ?_
    obtain ⟨w17, e18, h⟩ := obS h
    refine j_iast (pc := 128) dX11_phase_128 e18 ?_
    refine j_aload_n (pc := 129) dX11_phase_129 rfl ?_
    obtain ⟨x19, e20, h⟩ := obS h
    refine j_getR (pc := 130) dX11_phase_130 (ci := 11) (kf := 27) rfl hin_X11_phase_X11 (by decide) lk_X11_phase_1 e20 ?_
    refine j_iload (pc := 133) dX11_phase_133 rfl ?_
    refine j_iconst (pc := 135) dX11_phase_135 (v := 3) (by decide) ?_
    refine j_iadd (pc := 136) dX11_phase_136 ?_
    refine j_iload (pc := 137) dX11_phase_137 rfl ?_
    obtain ⟨w21, e22, h⟩ := obS h
    refine j_iast (pc := 139) dX11_phase_139 e22 ?_
    refine j_aload_n (pc := 140) dX11_phase_140 rfl ?_
    obtain ⟨x23, e24, h⟩ := obS h
    refine j_getR (pc := 141) dX11_phase_141 (ci := 11) (kf := 27) rfl hin_X11_phase_X11 (by decide) lk_X11_phase_1 e24 ?_
    refine j_iload (pc := 144) dX11_phase_144 rfl ?_
    refine j_iconst (pc := 146) dX11_phase_146 (v := 4) (by decide) ?_
    refine j_iadd (pc := 147) dX11_phase_147 ?_
    refine j_iload (pc := 148) dX11_phase_148 rfl ?_
    obtain ⟨w25, e26, h⟩ := obS h
    refine j_iast (pc := 150) dX11_phase_150 e26 ?_
    refine j_aload_n (pc := 151) dX11_phase_151 rfl ?_
    refine j_dup (pc := 152) dX11_phase_152 rfl ?_
    obtain ⟨x27, e28, h⟩ := obS h
    refine j_getI (pc := 153) dX11_phase_153 (ci := 11) (kf := 25) rfl hin_X11_phase_X11 (by decide) lk_X11_phase_0 e28 ?_
    refine j_iconst (pc := 156) dX11_phase_156 (v := 1) (by decide) ?_
    refine j_iadd (pc := 157) dX11_phase_157 ?_
    obtain ⟨w29, e30, h⟩ := obS h
    refine j_putV (pc := 158) (ci := 11) (kf := 25) tyX11 tyX11_ok nmX11 dX11_phase_158 rfl hin_X11_phase_X11 (by decide) lk_X11_phase_0 rfl (fun _ => rfl) (fun _ => rfl) e30 ?_
    refine j_aload_n (pc := 161) dX11_phase_161 rfl ?_
    obtain ⟨x31, e32, h⟩ := obS h
    refine j_getI (pc := 162) dX11_phase_162 (ci := 11) (kf := 25) rfl hin_X11_phase_X11 (by decide) lk_X11_phase_0 e32 ?_
    obtain ⟨rfl, rfl⟩ := jretS h
    exact j_iret (pc := 165) rfl dX11_phase_165 (by decide) (by decide) rfl
  · rw [if_neg c4] at h
    refine j_iconst (pc := 91) dX11_phase_91 (v := 0) (by decide) ?_
    obtain ⟨rfl, rfl⟩ := jretS h
    exact j_iret (pc := 92) rfl dX11_phase_92 (by decide) (by decide) rfl
def m_X11_phase_b47 (a0 : Nat) (i1 : Int32) (i2 : Int32) (i3 : Int32) (i4 : Int32) (i5 : Int32) (s0 : Int32) (ws : LWd) : Option (Int32 × LWd) :=
  bn2 (calSR ws (m_X11_isLeg a0 i1 ws)) fun x3 w1 =>
  if x3 = 0 then
    m_X11_phase_b85 a0 i1 i2 i3 i4 i5 a0 1 w1
  else
    if s0 = 0 then
      m_X11_phase_b85 a0 i1 i2 i3 i4 i5 a0 2 w1
    else
      (fI w1 a0 11 25).bind fun x6 =>
      if x6 = 8 then
        m_X11_phase_b85 a0 i1 i2 i3 i4 i5 a0 3 w1
      else
        m_X11_phase_b85 a0 i1 i2 i3 i4 i5 a0 0 w1
set_option maxRecDepth 100000 in
set_option maxHeartbeats 4000000 in
theorem jm_X11_phase_b47 {n0 : Nat} {rr : Int32} {ws' : LWd} (a0 : Nat) (i1 : Int32) (i2 : Int32) (i3 : Int32) (i4 : Int32) (i5 : Int32) (s0 : Int32) (ws : LWd) (h : m_X11_phase_b47 a0 i1 i2 i3 i4 i5 s0 ws = some (rr, ws')) : JG false cX11_phase 8 RX11 wsX11_phase (some .int) "phase" 2 0 0 n0 (.inl (some (.int rr)), ws') 47 [some (.ref a0), some (.int i1), some (.int i2), some (.int i3), some (.int i4), some (.int i5), none, none] [.int s0] ws 0 0 := by
  unfold m_X11_phase_b47 at h
  refine j_istore_6 (pc := 47) dX11_phase_47 (by decide) rfl ?_
  refine j_aload_n (pc := 49) dX11_phase_49 rfl ?_
  refine j_aload_n (pc := 50) dX11_phase_50 rfl ?_
  refine j_iload_n (pc := 51) dX11_phase_51 rfl ?_
  obtain ⟨x3, w1, e2, h⟩ := obS2 h
  have ge2 := calSR_of e2
  refine j_callV_g (pc := 52) (As := [.int i1]) (k' := 0) (n' := 0) dX11_phase_52 (s_X11_isLeg ge2.1) gX11_phase_X11_isLeg rfl hv_X11_isLeg rfl (r_X11_isLeg ge2.1) rfl (by decide) (by decide) (by decide) (by decide) (by decide) (by decide) (by decide) (Or.inl ge2.2) ?_
  refine j_if_ne (pc := 55) (tgt := 62) dX11_phase_55 (by decide) (fun c4 => ?_) (fun c4 => ?_)
  · rw [if_neg c4] at h
    refine j_iload (pc := 62) dX11_phase_62 rfl ?_
    refine j_if_ne (pc := 64) (tgt := 71) dX11_phase_64 (by decide) (fun c5 => ?_) (fun c5 => ?_)
    · rw [if_neg c5] at h
      refine j_aload_n (pc := 71) dX11_phase_71 rfl ?_
      obtain ⟨x6, e7, h⟩ := obS h
      refine j_getI (pc := 72) dX11_phase_72 (ci := 11) (kf := 25) rfl hin_X11_phase_X11 (by decide) lk_X11_phase_0 e7 ?_
      refine j_bipush (pc := 75) dX11_phase_75 (v := 8) (by decide) ?_
      refine j_icmp_ne (pc := 77) (tgt := 84) dX11_phase_77 (by decide) (fun c8 => ?_) (fun c8 => ?_)
      · rw [if_neg c8] at h
        refine j_iconst (pc := 84) dX11_phase_84 (v := 0) (by decide) ?_
        refine j_mask [true, true, true, true, true, true, false, false] ?_
        exact jm_X11_phase_b85 _ _ _ _ _ _ _ _ w1 h
      · rw [if_pos c8] at h
        refine j_iconst (pc := 80) dX11_phase_80 (v := 3) (by decide) ?_
        refine j_goto (pc := 81) (tgt := 85) dX11_phase_81 (by decide) ?_
        refine j_mask [true, true, true, true, true, true, false, false] ?_
        exact jm_X11_phase_b85 _ _ _ _ _ _ _ _ w1 h
    · rw [if_pos c5] at h
      refine j_iconst (pc := 67) dX11_phase_67 (v := 2) (by decide) ?_
      refine j_goto (pc := 68) (tgt := 85) dX11_phase_68 (by decide) ?_
      refine j_mask [true, true, true, true, true, true, false, false] ?_
      exact jm_X11_phase_b85 _ _ _ _ _ _ _ _ w1 h
  · rw [if_pos c4] at h
    refine j_iconst (pc := 58) dX11_phase_58 (v := 1) (by decide) ?_
    refine j_goto (pc := 59) (tgt := 85) dX11_phase_59 (by decide) ?_
    refine j_mask [true, true, true, true, true, true, false, false] ?_
    exact jm_X11_phase_b85 _ _ _ _ _ _ _ _ w1 h
def m_X11_phase_b46 (a0 : Nat) (i1 : Int32) (i2 : Int32) (i3 : Int32) (i4 : Int32) (i5 : Int32) (ws : LWd) : Option (Int32 × LWd) :=
  m_X11_phase_b47 a0 i1 i2 i3 i4 i5 0 ws
set_option maxRecDepth 100000 in
set_option maxHeartbeats 4000000 in
theorem jm_X11_phase_b46 {n0 : Nat} {rr : Int32} {ws' : LWd} (a0 : Nat) (i1 : Int32) (i2 : Int32) (i3 : Int32) (i4 : Int32) (i5 : Int32) (ws : LWd) (h : m_X11_phase_b46 a0 i1 i2 i3 i4 i5 ws = some (rr, ws')) : JG false cX11_phase 8 RX11 wsX11_phase (some .int) "phase" 2 0 0 n0 (.inl (some (.int rr)), ws') 46 [some (.ref a0), some (.int i1), some (.int i2), some (.int i3), some (.int i4), some (.int i5), none, none] [] ws 0 0 := by
  unfold m_X11_phase_b46 at h
  refine j_iconst (pc := 46) dX11_phase_46 (v := 0) (by decide) ?_
  exact jm_X11_phase_b47 _ _ _ _ _ _ _ ws h
def m_X11_phase (a0 : Nat) (i1 : Int32) (i2 : Int32) (i3 : Int32) (i4 : Int32) (i5 : Int32) (ws : LWd) : Option (Int32 × LWd) :=
  (rcv ws a0 11).bind fun _ =>
  bn2 (calSR ws (m_X11_isIn i2 ((-6)) 6 ws)) fun x3 w1 =>
  if x3 = 0 then
    m_X11_phase_b46 a0 i1 i2 i3 i4 i5 w1
  else
    bn2 (calSR w1 (m_X11_isIn i3 ((-6)) 6 w1)) fun x7 w5 =>
    if x7 = 0 then
      m_X11_phase_b46 a0 i1 i2 i3 i4 i5 w5
    else
      bn2 (calSR w5 (m_X11_isIn i4 ((-1)) 1 w5)) fun x11 w9 =>
      if x11 = 0 then
        m_X11_phase_b46 a0 i1 i2 i3 i4 i5 w9
      else
        bn2 (calSR w9 (m_X11_isIn i5 ((-1)) 1 w9)) fun x15 w13 =>
        if x15 = 0 then
          m_X11_phase_b46 a0 i1 i2 i3 i4 i5 w13
        else
          m_X11_phase_b47 a0 i1 i2 i3 i4 i5 1 w13
set_option maxRecDepth 100000 in
set_option maxHeartbeats 4000000 in
theorem s_X11_phase {a0 : Nat} {i1 : Int32} {i2 : Int32} {i3 : Int32} {i4 : Int32} {i5 : Int32} {ws : LWd} {rr : Int32} {ws' : LWd} (h : m_X11_phase a0 i1 i2 i3 i4 i5 ws = some (rr, ws')) : jSp yX11_phase wsX11_phase 2 0 0 [.ref a0, .int i1, .int i2, .int i3, .int i4, .int i5] ws (.inl (some (.int rr)), ws') := by
  unfold m_X11_phase at h
  refine j_entry (ret := (some .int)) (nm := "phase") (own := RX11) pl_X11 rfl rfl rfl (jcats (by rfl)) (by decide) ?_
  show JG false cX11_phase 8 RX11 wsX11_phase (some .int) "phase" 2 0 0 ws.length (.inl (some (.int rr)), ws') 0 [some (.ref a0), some (.int i1), some (.int i2), some (.int i3), some (.int i4), some (.int i5), none, none] [] ws 0 0
  obtain ⟨_, _, h⟩ := obS h
  refine j_iload_n (pc := 0) dX11_phase_0 rfl ?_
  refine j_bipush (pc := 1) dX11_phase_1 (v := (-6)) (by decide) ?_
  refine j_bipush (pc := 3) dX11_phase_3 (v := 6) (by decide) ?_
  obtain ⟨x3, w1, e2, h⟩ := obS2 h
  have ge2 := calSR_of e2
  refine j_callS_g (pc := 5) (As := [.int i2, .int ((-6)), .int 6]) (k' := 0) (n' := 0) dX11_phase_5 (s_X11_isIn ge2.1) gX11_phase_X11_isIn rfl hy_X11_isIn rfl (by decide) (by decide) (by decide) (by decide) (by decide) (by decide) (by decide) (Or.inl ge2.2) ?_
  refine j_if_eq (pc := 8) (tgt := 46) dX11_phase_8 (by decide) (fun c4 => ?_) (fun c4 => ?_)
  · rw [if_pos c4] at h
    exact jm_X11_phase_b46 _ _ _ _ _ _ w1 h
  · rw [if_neg c4] at h
    refine j_iload_n (pc := 11) dX11_phase_11 rfl ?_
    refine j_bipush (pc := 12) dX11_phase_12 (v := (-6)) (by decide) ?_
    refine j_bipush (pc := 14) dX11_phase_14 (v := 6) (by decide) ?_
    obtain ⟨x7, w5, e6, h⟩ := obS2 h
    have ge6 := calSR_of e6
    refine j_callS_g (pc := 16) (As := [.int i3, .int ((-6)), .int 6]) (k' := 0) (n' := 0) dX11_phase_16 (s_X11_isIn ge6.1) gX11_phase_X11_isIn rfl hy_X11_isIn rfl (by decide) (by decide) (by decide) (by decide) (by decide) (by decide) (by decide) (Or.inl ge6.2) ?_
    refine j_if_eq (pc := 19) (tgt := 46) dX11_phase_19 (by decide) (fun c8 => ?_) (fun c8 => ?_)
    · rw [if_pos c8] at h
      exact jm_X11_phase_b46 _ _ _ _ _ _ w5 h
    · rw [if_neg c8] at h
      refine j_iload (pc := 22) dX11_phase_22 rfl ?_
      refine j_iconst (pc := 24) dX11_phase_24 (v := (-1)) (by decide) ?_
      refine j_iconst (pc := 25) dX11_phase_25 (v := 1) (by decide) ?_
      obtain ⟨x11, w9, e10, h⟩ := obS2 h
      have ge10 := calSR_of e10
      refine j_callS_g (pc := 26) (As := [.int i4, .int ((-1)), .int 1]) (k' := 0) (n' := 0) dX11_phase_26 (s_X11_isIn ge10.1) gX11_phase_X11_isIn rfl hy_X11_isIn rfl (by decide) (by decide) (by decide) (by decide) (by decide) (by decide) (by decide) (Or.inl ge10.2) ?_
      refine j_if_eq (pc := 29) (tgt := 46) dX11_phase_29 (by decide) (fun c12 => ?_) (fun c12 => ?_)
      · rw [if_pos c12] at h
        exact jm_X11_phase_b46 _ _ _ _ _ _ w9 h
      · rw [if_neg c12] at h
        refine j_iload (pc := 32) dX11_phase_32 rfl ?_
        refine j_iconst (pc := 34) dX11_phase_34 (v := (-1)) (by decide) ?_
        refine j_iconst (pc := 35) dX11_phase_35 (v := 1) (by decide) ?_
        obtain ⟨x15, w13, e14, h⟩ := obS2 h
        have ge14 := calSR_of e14
        refine j_callS_g (pc := 36) (As := [.int i5, .int ((-1)), .int 1]) (k' := 0) (n' := 0) dX11_phase_36 (s_X11_isIn ge14.1) gX11_phase_X11_isIn rfl hy_X11_isIn rfl (by decide) (by decide) (by decide) (by decide) (by decide) (by decide) (by decide) (Or.inl ge14.2) ?_
        refine j_if_eq (pc := 39) (tgt := 46) dX11_phase_39 (by decide) (fun c16 => ?_) (fun c16 => ?_)
        · rw [if_pos c16] at h
          exact jm_X11_phase_b46 _ _ _ _ _ _ w13 h
        · rw [if_neg c16] at h
          refine j_iconst (pc := 42) dX11_phase_42 (v := 1) (by decide) ?_
          refine j_goto (pc := 43) (tgt := 47) dX11_phase_43 (by decide) ?_
          exact jm_X11_phase_b47 _ _ _ _ _ _ _ w13 h
theorem r_X11_phase {a0 : Nat} {i1 : Int32} {i2 : Int32} {i3 : Int32} {i4 : Int32} {i5 : Int32} {ws : LWd} {o : (Int32 × LWd)} (h : m_X11_phase a0 i1 i2 i3 i4 i5 ws = some o) : ∃ fs, ws[a0]? = some (.inr (11, fs)) := rcv_in h
theorem lk_X11_halt_0 : Cond.fieldLink RX11 56 "GaitwrightModel" "thrown" "I" ∈ wsX11_halt := List.mem_cons_of_mem _ (List.mem_append_left _ (List.mem_of_getElem? (i := 0) rfl))
theorem hin_X11_halt_X11 : ∀ w ∈ u_ws RX11 TX11 31, w ∈ wsX11_halt := fun w h => List.mem_cons_of_mem _ (List.mem_append_right _ h)
theorem lk_X11_halt_1 : Cond.fieldLink RX11 91 "GaitwrightModel" "phases" "I" ∈ wsX11_halt := List.mem_cons_of_mem _ (List.mem_append_left _ (List.mem_of_getElem? (i := 1) rfl))
theorem lk_X11_halt_2 : Cond.fieldLink RX11 94 "GaitwrightModel" "next" "I" ∈ wsX11_halt := List.mem_cons_of_mem _ (List.mem_append_left _ (List.mem_of_getElem? (i := 2) rfl))
def m_X11_halt (a0 : Nat) (ws : LWd) : Option (Int32 × LWd) :=
  (rcv ws a0 11).bind fun _ =>
  (pV ws a0 11 30 (.int 0)).bind fun w1 =>
  (fI w1 a0 11 25).bind fun x3 =>
  (pV w1 a0 11 25 (.int 0)).bind fun w5 =>
  (pV w5 a0 11 26 (.int 0)).bind fun w7 =>
  some (x3, w7)
set_option maxRecDepth 100000 in
set_option maxHeartbeats 4000000 in
theorem s_X11_halt {a0 : Nat} {ws : LWd} {rr : Int32} {ws' : LWd} (h : m_X11_halt a0 ws = some (rr, ws')) : jSp yX11_halt wsX11_halt 0 0 0 [.ref a0] ws (.inl (some (.int rr)), ws') := by
  unfold m_X11_halt at h
  refine j_entry (ret := (some .int)) (nm := "halt") (own := RX11) pl_X11 rfl rfl rfl (jcats (by rfl)) (by decide) ?_
  show JG false cX11_halt 2 RX11 wsX11_halt (some .int) "halt" 0 0 0 ws.length (.inl (some (.int rr)), ws') 0 [some (.ref a0), none] [] ws 0 0
  obtain ⟨_, _, h⟩ := obS h
  refine j_aload_n (pc := 0) dX11_halt_0 rfl ?_
  refine j_iconst (pc := 1) dX11_halt_1 (v := 0) (by decide) ?_
  obtain ⟨w1, e2, h⟩ := obS h
  refine j_putV (pc := 2) (ci := 11) (kf := 30) tyX11 tyX11_ok nmX11 dX11_halt_2 rfl hin_X11_halt_X11 (by decide) lk_X11_halt_0 rfl (fun _ => rfl) (fun _ => rfl) e2 ?_
  refine j_aload_n (pc := 5) dX11_halt_5 rfl ?_
  obtain ⟨x3, e4, h⟩ := obS h
  refine j_getI (pc := 6) dX11_halt_6 (ci := 11) (kf := 25) rfl hin_X11_halt_X11 (by decide) lk_X11_halt_1 e4 ?_
  refine j_istore_n_1 (pc := 9) dX11_halt_9 (by decide) rfl ?_
  refine j_aload_n (pc := 10) dX11_halt_10 rfl ?_
  refine j_iconst (pc := 11) dX11_halt_11 (v := 0) (by decide) ?_
  obtain ⟨w5, e6, h⟩ := obS h
  refine j_putV (pc := 12) (ci := 11) (kf := 25) tyX11 tyX11_ok nmX11 dX11_halt_12 rfl hin_X11_halt_X11 (by decide) lk_X11_halt_1 rfl (fun _ => rfl) (fun _ => rfl) e6 ?_
  refine j_aload_n (pc := 15) dX11_halt_15 rfl ?_
  refine j_iconst (pc := 16) dX11_halt_16 (v := 0) (by decide) ?_
  obtain ⟨w7, e8, h⟩ := obS h
  refine j_putV (pc := 17) (ci := 11) (kf := 26) tyX11 tyX11_ok nmX11 dX11_halt_17 rfl hin_X11_halt_X11 (by decide) lk_X11_halt_2 rfl (fun _ => rfl) (fun _ => rfl) e8 ?_
  refine j_iload_n (pc := 20) dX11_halt_20 rfl ?_
  obtain ⟨rfl, rfl⟩ := jretS h
  exact j_iret (pc := 21) rfl dX11_halt_21 (by decide) (by decide) rfl
theorem r_X11_halt {a0 : Nat} {ws : LWd} {o : (Int32 × LWd)} (h : m_X11_halt a0 ws = some o) : ∃ fs, ws[a0]? = some (.inr (11, fs)) := rcv_in h
theorem hin_X11_weight_X11 : ∀ w ∈ u_ws RX11 TX11 31, w ∈ wsX11_weight := fun w h => List.mem_cons_of_mem _ (List.mem_append_right _ h)
theorem lk_X11_weight_0 : Cond.fieldLink RX11 100 "GaitwrightModel" "load" "I" ∈ wsX11_weight := List.mem_cons_of_mem _ (List.mem_append_left _ (List.mem_of_getElem? (i := 0) rfl))
def m_X11_weight (a0 : Nat) (ws : LWd) : Option (Int32 × LWd) :=
  (rcv ws a0 11).bind fun _ =>
  (fI ws a0 11 8).bind fun x1 =>
  some (10 + x1, ws)
set_option maxRecDepth 100000 in
set_option maxHeartbeats 4000000 in
theorem s_X11_weight {a0 : Nat} {ws : LWd} {rr : Int32} {ws' : LWd} (h : m_X11_weight a0 ws = some (rr, ws')) : jSp yX11_weight wsX11_weight 0 0 0 [.ref a0] ws (.inl (some (.int rr)), ws') := by
  unfold m_X11_weight at h
  refine j_entry (ret := (some .int)) (nm := "weight") (own := RX11) pl_X11 rfl rfl rfl (jcats (by rfl)) (by decide) ?_
  show JG false cX11_weight 1 RX11 wsX11_weight (some .int) "weight" 0 0 0 ws.length (.inl (some (.int rr)), ws') 0 [some (.ref a0)] [] ws 0 0
  obtain ⟨_, _, h⟩ := obS h
  refine j_bipush (pc := 0) dX11_weight_0 (v := 10) (by decide) ?_
  refine j_aload_n (pc := 2) dX11_weight_2 rfl ?_
  obtain ⟨x1, e2, h⟩ := obS h
  refine j_getI (pc := 3) dX11_weight_3 (ci := 11) (kf := 8) rfl hin_X11_weight_X11 (by decide) lk_X11_weight_0 e2 ?_
  refine j_iadd (pc := 6) dX11_weight_6 ?_
  obtain ⟨rfl, rfl⟩ := jretS h
  exact j_iret (pc := 7) rfl dX11_weight_7 (by decide) (by decide) rfl
theorem r_X11_weight {a0 : Nat} {ws : LWd} {o : (Int32 × LWd)} (h : m_X11_weight a0 ws = some o) : ∃ fs, ws[a0]? = some (.inr (11, fs)) := rcv_in h
theorem hin_X11_momentX_X11 : ∀ w ∈ u_ws RX11 TX11 31, w ∈ wsX11_momentX := fun w h => List.mem_cons_of_mem _ (List.mem_append_right _ h)
theorem lk_X11_momentX_0 : Cond.fieldLink RX11 22 "GaitwrightModel" "bodyX" "I" ∈ wsX11_momentX := List.mem_cons_of_mem _ (List.mem_append_left _ (List.mem_of_getElem? (i := 0) rfl))
theorem lk_X11_momentX_1 : Cond.fieldLink RX11 100 "GaitwrightModel" "load" "I" ∈ wsX11_momentX := List.mem_cons_of_mem _ (List.mem_append_left _ (List.mem_of_getElem? (i := 1) rfl))
theorem lk_X11_momentX_2 : Cond.fieldLink RX11 107 "GaitwrightModel" "loadX" "I" ∈ wsX11_momentX := List.mem_cons_of_mem _ (List.mem_append_left _ (List.mem_of_getElem? (i := 2) rfl))
def m_X11_momentX (a0 : Nat) (ws : LWd) : Option (Int32 × LWd) :=
  (rcv ws a0 11).bind fun _ =>
  bn2 (calSR ws (m_X11_weight a0 ws)) fun x3 w1 =>
  (fI w1 a0 11 5).bind fun x4 =>
  (fI w1 a0 11 8).bind fun x6 =>
  (fI w1 a0 11 9).bind fun x8 =>
  some ((x3 * x4) + (x6 * x8), w1)
set_option maxRecDepth 100000 in
set_option maxHeartbeats 4000000 in
theorem s_X11_momentX {a0 : Nat} {ws : LWd} {rr : Int32} {ws' : LWd} (h : m_X11_momentX a0 ws = some (rr, ws')) : jSp yX11_momentX wsX11_momentX 1 0 0 [.ref a0] ws (.inl (some (.int rr)), ws') := by
  unfold m_X11_momentX at h
  refine j_entry (ret := (some .int)) (nm := "momentX") (own := RX11) pl_X11 rfl rfl rfl (jcats (by rfl)) (by decide) ?_
  show JG false cX11_momentX 1 RX11 wsX11_momentX (some .int) "momentX" 1 0 0 ws.length (.inl (some (.int rr)), ws') 0 [some (.ref a0)] [] ws 0 0
  obtain ⟨_, _, h⟩ := obS h
  refine j_aload_n (pc := 0) dX11_momentX_0 rfl ?_
  obtain ⟨x3, w1, e2, h⟩ := obS2 h
  have ge2 := calSR_of e2
  refine j_callV_g (pc := 1) (As := []) (k' := 0) (n' := 0) dX11_momentX_1 (s_X11_weight ge2.1) gX11_momentX_X11_weight rfl hv_X11_weight rfl (r_X11_weight ge2.1) rfl (by decide) (by decide) (by decide) (by decide) (by decide) (by decide) (by decide) (Or.inl ge2.2) ?_
  refine j_aload_n (pc := 4) dX11_momentX_4 rfl ?_
  obtain ⟨x4, e5, h⟩ := obS h
  refine j_getI (pc := 5) dX11_momentX_5 (ci := 11) (kf := 5) rfl hin_X11_momentX_X11 (by decide) lk_X11_momentX_0 e5 ?_
  refine j_imul (pc := 8) dX11_momentX_8 ?_
  refine j_aload_n (pc := 9) dX11_momentX_9 rfl ?_
  obtain ⟨x6, e7, h⟩ := obS h
  refine j_getI (pc := 10) dX11_momentX_10 (ci := 11) (kf := 8) rfl hin_X11_momentX_X11 (by decide) lk_X11_momentX_1 e7 ?_
  refine j_aload_n (pc := 13) dX11_momentX_13 rfl ?_
  obtain ⟨x8, e9, h⟩ := obS h
  refine j_getI (pc := 14) dX11_momentX_14 (ci := 11) (kf := 9) rfl hin_X11_momentX_X11 (by decide) lk_X11_momentX_2 e9 ?_
  refine j_imul (pc := 17) dX11_momentX_17 ?_
  refine j_iadd (pc := 18) dX11_momentX_18 ?_
  obtain ⟨rfl, rfl⟩ := jretS h
  exact j_iret (pc := 19) rfl dX11_momentX_19 (by decide) (by decide) rfl
theorem r_X11_momentX {a0 : Nat} {ws : LWd} {o : (Int32 × LWd)} (h : m_X11_momentX a0 ws = some o) : ∃ fs, ws[a0]? = some (.inr (11, fs)) := rcv_in h
theorem hin_X11_momentY_X11 : ∀ w ∈ u_ws RX11 TX11 31, w ∈ wsX11_momentY := fun w h => List.mem_cons_of_mem _ (List.mem_append_right _ h)
theorem lk_X11_momentY_0 : Cond.fieldLink RX11 26 "GaitwrightModel" "bodyY" "I" ∈ wsX11_momentY := List.mem_cons_of_mem _ (List.mem_append_left _ (List.mem_of_getElem? (i := 0) rfl))
theorem lk_X11_momentY_1 : Cond.fieldLink RX11 100 "GaitwrightModel" "load" "I" ∈ wsX11_momentY := List.mem_cons_of_mem _ (List.mem_append_left _ (List.mem_of_getElem? (i := 1) rfl))
theorem lk_X11_momentY_2 : Cond.fieldLink RX11 110 "GaitwrightModel" "loadY" "I" ∈ wsX11_momentY := List.mem_cons_of_mem _ (List.mem_append_left _ (List.mem_of_getElem? (i := 2) rfl))
def m_X11_momentY (a0 : Nat) (ws : LWd) : Option (Int32 × LWd) :=
  (rcv ws a0 11).bind fun _ =>
  bn2 (calSR ws (m_X11_weight a0 ws)) fun x3 w1 =>
  (fI w1 a0 11 6).bind fun x4 =>
  (fI w1 a0 11 8).bind fun x6 =>
  (fI w1 a0 11 10).bind fun x8 =>
  some ((x3 * x4) + (x6 * x8), w1)
set_option maxRecDepth 100000 in
set_option maxHeartbeats 4000000 in
theorem s_X11_momentY {a0 : Nat} {ws : LWd} {rr : Int32} {ws' : LWd} (h : m_X11_momentY a0 ws = some (rr, ws')) : jSp yX11_momentY wsX11_momentY 1 0 0 [.ref a0] ws (.inl (some (.int rr)), ws') := by
  unfold m_X11_momentY at h
  refine j_entry (ret := (some .int)) (nm := "momentY") (own := RX11) pl_X11 rfl rfl rfl (jcats (by rfl)) (by decide) ?_
  show JG false cX11_momentY 1 RX11 wsX11_momentY (some .int) "momentY" 1 0 0 ws.length (.inl (some (.int rr)), ws') 0 [some (.ref a0)] [] ws 0 0
  obtain ⟨_, _, h⟩ := obS h
  refine j_aload_n (pc := 0) dX11_momentY_0 rfl ?_
  obtain ⟨x3, w1, e2, h⟩ := obS2 h
  have ge2 := calSR_of e2
  refine j_callV_g (pc := 1) (As := []) (k' := 0) (n' := 0) dX11_momentY_1 (s_X11_weight ge2.1) gX11_momentY_X11_weight rfl hv_X11_weight rfl (r_X11_weight ge2.1) rfl (by decide) (by decide) (by decide) (by decide) (by decide) (by decide) (by decide) (Or.inl ge2.2) ?_
  refine j_aload_n (pc := 4) dX11_momentY_4 rfl ?_
  obtain ⟨x4, e5, h⟩ := obS h
  refine j_getI (pc := 5) dX11_momentY_5 (ci := 11) (kf := 6) rfl hin_X11_momentY_X11 (by decide) lk_X11_momentY_0 e5 ?_
  refine j_imul (pc := 8) dX11_momentY_8 ?_
  refine j_aload_n (pc := 9) dX11_momentY_9 rfl ?_
  obtain ⟨x6, e7, h⟩ := obS h
  refine j_getI (pc := 10) dX11_momentY_10 (ci := 11) (kf := 8) rfl hin_X11_momentY_X11 (by decide) lk_X11_momentY_1 e7 ?_
  refine j_aload_n (pc := 13) dX11_momentY_13 rfl ?_
  obtain ⟨x8, e9, h⟩ := obS h
  refine j_getI (pc := 14) dX11_momentY_14 (ci := 11) (kf := 10) rfl hin_X11_momentY_X11 (by decide) lk_X11_momentY_2 e9 ?_
  refine j_imul (pc := 17) dX11_momentY_17 ?_
  refine j_iadd (pc := 18) dX11_momentY_18 ?_
  obtain ⟨rfl, rfl⟩ := jretS h
  exact j_iret (pc := 19) rfl dX11_momentY_19 (by decide) (by decide) rfl
theorem r_X11_momentY {a0 : Nat} {ws : LWd} {o : (Int32 × LWd)} (h : m_X11_momentY a0 ws = some o) : ∃ fs, ws[a0]? = some (.inr (11, fs)) := rcv_in h
theorem hin_X11_turn_X11 : ∀ w ∈ u_ws RX11 TX11 31, w ∈ wsX11_turn := fun w h => List.mem_cons_of_mem _ (List.mem_append_right _ h)
theorem lk_X11_turn_0 : Cond.fieldLink RX11 41 "GaitwrightModel" "footX" "[I" ∈ wsX11_turn := List.mem_cons_of_mem _ (List.mem_append_left _ (List.mem_of_getElem? (i := 0) rfl))
theorem lk_X11_turn_1 : Cond.fieldLink RX11 44 "GaitwrightModel" "footY" "[I" ∈ wsX11_turn := List.mem_cons_of_mem _ (List.mem_append_left _ (List.mem_of_getElem? (i := 1) rfl))
def m_X11_turn (a0 : Nat) (i1 : Int32) (i2 : Int32) (i3 : Int32) (ws : LWd) : Option (Int32 × LWd) :=
  (rcv ws a0 11).bind fun _ =>
  (fR ws a0 11 15).bind fun x1 =>
  (aI ws x1 i2).bind fun x3 =>
  (fR ws a0 11 15).bind fun x5 =>
  (aI ws x5 i1).bind fun x7 =>
  (fR ws a0 11 16).bind fun x9 =>
  (aI ws x9 i3).bind fun x11 =>
  (fR ws a0 11 16).bind fun x13 =>
  (aI ws x13 i1).bind fun x15 =>
  (fR ws a0 11 16).bind fun x17 =>
  (aI ws x17 i2).bind fun x19 =>
  (fR ws a0 11 16).bind fun x21 =>
  (aI ws x21 i1).bind fun x23 =>
  (fR ws a0 11 15).bind fun x25 =>
  (aI ws x25 i3).bind fun x27 =>
  (fR ws a0 11 15).bind fun x29 =>
  (aI ws x29 i1).bind fun x31 =>
  some (((x3 - x7) * (x11 - x15)) - ((x19 - x23) * (x27 - x31)), ws)
set_option maxRecDepth 100000 in
set_option maxHeartbeats 4000000 in
theorem s_X11_turn {a0 : Nat} {i1 : Int32} {i2 : Int32} {i3 : Int32} {ws : LWd} {rr : Int32} {ws' : LWd} (h : m_X11_turn a0 i1 i2 i3 ws = some (rr, ws')) : jSp yX11_turn wsX11_turn 0 0 0 [.ref a0, .int i1, .int i2, .int i3] ws (.inl (some (.int rr)), ws') := by
  unfold m_X11_turn at h
  refine j_entry (ret := (some .int)) (nm := "turn") (own := RX11) pl_X11 rfl rfl rfl (jcats (by rfl)) (by decide) ?_
  show JG false cX11_turn 4 RX11 wsX11_turn (some .int) "turn" 0 0 0 ws.length (.inl (some (.int rr)), ws') 0 [some (.ref a0), some (.int i1), some (.int i2), some (.int i3)] [] ws 0 0
  obtain ⟨_, _, h⟩ := obS h
  refine j_aload_n (pc := 0) dX11_turn_0 rfl ?_
  obtain ⟨x1, e2, h⟩ := obS h
  refine j_getR (pc := 1) dX11_turn_1 (ci := 11) (kf := 15) rfl hin_X11_turn_X11 (by decide) lk_X11_turn_0 e2 ?_
  refine j_iload_n (pc := 4) dX11_turn_4 rfl ?_
  obtain ⟨x3, e4, h⟩ := obS h
  refine j_iald (pc := 5) dX11_turn_5 e4 ?_
  refine j_aload_n (pc := 6) dX11_turn_6 rfl ?_
  obtain ⟨x5, e6, h⟩ := obS h
  refine j_getR (pc := 7) dX11_turn_7 (ci := 11) (kf := 15) rfl hin_X11_turn_X11 (by decide) lk_X11_turn_0 e6 ?_
  refine j_iload_n (pc := 10) dX11_turn_10 rfl ?_
  obtain ⟨x7, e8, h⟩ := obS h
  refine j_iald (pc := 11) dX11_turn_11 e8 ?_
  refine j_isub (pc := 12) dX11_turn_12 ?_
  refine j_aload_n (pc := 13) dX11_turn_13 rfl ?_
  obtain ⟨x9, e10, h⟩ := obS h
  refine j_getR (pc := 14) dX11_turn_14 (ci := 11) (kf := 16) rfl hin_X11_turn_X11 (by decide) lk_X11_turn_1 e10 ?_
  refine j_iload_n (pc := 17) dX11_turn_17 rfl ?_
  obtain ⟨x11, e12, h⟩ := obS h
  refine j_iald (pc := 18) dX11_turn_18 e12 ?_
  refine j_aload_n (pc := 19) dX11_turn_19 rfl ?_
  obtain ⟨x13, e14, h⟩ := obS h
  refine j_getR (pc := 20) dX11_turn_20 (ci := 11) (kf := 16) rfl hin_X11_turn_X11 (by decide) lk_X11_turn_1 e14 ?_
  refine j_iload_n (pc := 23) dX11_turn_23 rfl ?_
  obtain ⟨x15, e16, h⟩ := obS h
  refine j_iald (pc := 24) dX11_turn_24 e16 ?_
  refine j_isub (pc := 25) dX11_turn_25 ?_
  refine j_imul (pc := 26) dX11_turn_26 ?_
  refine j_aload_n (pc := 27) dX11_turn_27 rfl ?_
  obtain ⟨x17, e18, h⟩ := obS h
  refine j_getR (pc := 28) dX11_turn_28 (ci := 11) (kf := 16) rfl hin_X11_turn_X11 (by decide) lk_X11_turn_1 e18 ?_
  refine j_iload_n (pc := 31) dX11_turn_31 rfl ?_
  obtain ⟨x19, e20, h⟩ := obS h
  refine j_iald (pc := 32) dX11_turn_32 e20 ?_
  refine j_aload_n (pc := 33) dX11_turn_33 rfl ?_
  obtain ⟨x21, e22, h⟩ := obS h
  refine j_getR (pc := 34) dX11_turn_34 (ci := 11) (kf := 16) rfl hin_X11_turn_X11 (by decide) lk_X11_turn_1 e22 ?_
  refine j_iload_n (pc := 37) dX11_turn_37 rfl ?_
  obtain ⟨x23, e24, h⟩ := obS h
  refine j_iald (pc := 38) dX11_turn_38 e24 ?_
  refine j_isub (pc := 39) dX11_turn_39 ?_
  refine j_aload_n (pc := 40) dX11_turn_40 rfl ?_
  obtain ⟨x25, e26, h⟩ := obS h
  refine j_getR (pc := 41) dX11_turn_41 (ci := 11) (kf := 15) rfl hin_X11_turn_X11 (by decide) lk_X11_turn_0 e26 ?_
  refine j_iload_n (pc := 44) dX11_turn_44 rfl ?_
  obtain ⟨x27, e28, h⟩ := obS h
  refine j_iald (pc := 45) dX11_turn_45 e28 ?_
  refine j_aload_n (pc := 46) dX11_turn_46 rfl ?_
  obtain ⟨x29, e30, h⟩ := obS h
  refine j_getR (pc := 47) dX11_turn_47 (ci := 11) (kf := 15) rfl hin_X11_turn_X11 (by decide) lk_X11_turn_0 e30 ?_
  refine j_iload_n (pc := 50) dX11_turn_50 rfl ?_
  obtain ⟨x31, e32, h⟩ := obS h
  refine j_iald (pc := 51) dX11_turn_51 e32 ?_
  refine j_isub (pc := 52) dX11_turn_52 ?_
  refine j_imul (pc := 53) dX11_turn_53 ?_
  refine j_isub (pc := 54) dX11_turn_54 ?_
  obtain ⟨rfl, rfl⟩ := jretS h
  exact j_iret (pc := 55) rfl dX11_turn_55 (by decide) (by decide) rfl
theorem r_X11_turn {a0 : Nat} {i1 : Int32} {i2 : Int32} {i3 : Int32} {ws : LWd} {o : (Int32 × LWd)} (h : m_X11_turn a0 i1 i2 i3 ws = some o) : ∃ fs, ws[a0]? = some (.inr (11, fs)) := rcv_in h
theorem hin_X11_square_X11 : ∀ w ∈ u_ws RX11 TX11 31, w ∈ wsX11_square := fun w h => List.mem_cons_of_mem _ (List.mem_append_right _ h)
theorem lk_X11_square_0 : Cond.fieldLink RX11 41 "GaitwrightModel" "footX" "[I" ∈ wsX11_square := List.mem_cons_of_mem _ (List.mem_append_left _ (List.mem_of_getElem? (i := 0) rfl))
theorem lk_X11_square_1 : Cond.fieldLink RX11 44 "GaitwrightModel" "footY" "[I" ∈ wsX11_square := List.mem_cons_of_mem _ (List.mem_append_left _ (List.mem_of_getElem? (i := 1) rfl))
def m_X11_square (a0 : Nat) (i1 : Int32) (i2 : Int32) (ws : LWd) : Option (Int32 × LWd) :=
  (rcv ws a0 11).bind fun _ =>
  (fR ws a0 11 15).bind fun x1 =>
  (aI ws x1 i2).bind fun x3 =>
  (fR ws a0 11 15).bind fun x5 =>
  (aI ws x5 i1).bind fun x7 =>
  (fR ws a0 11 16).bind fun x9 =>
  (aI ws x9 i2).bind fun x11 =>
  (fR ws a0 11 16).bind fun x13 =>
  (aI ws x13 i1).bind fun x15 =>
  some (((x3 - x7) * (x3 - x7)) + ((x11 - x15) * (x11 - x15)), ws)
set_option maxRecDepth 100000 in
set_option maxHeartbeats 4000000 in
theorem s_X11_square {a0 : Nat} {i1 : Int32} {i2 : Int32} {ws : LWd} {rr : Int32} {ws' : LWd} (h : m_X11_square a0 i1 i2 ws = some (rr, ws')) : jSp yX11_square wsX11_square 0 0 0 [.ref a0, .int i1, .int i2] ws (.inl (some (.int rr)), ws') := by
  unfold m_X11_square at h
  refine j_entry (ret := (some .int)) (nm := "square") (own := RX11) pl_X11 rfl rfl rfl (jcats (by rfl)) (by decide) ?_
  show JG false cX11_square 5 RX11 wsX11_square (some .int) "square" 0 0 0 ws.length (.inl (some (.int rr)), ws') 0 [some (.ref a0), some (.int i1), some (.int i2), none, none] [] ws 0 0
  obtain ⟨_, _, h⟩ := obS h
  refine j_aload_n (pc := 0) dX11_square_0 rfl ?_
  obtain ⟨x1, e2, h⟩ := obS h
  refine j_getR (pc := 1) dX11_square_1 (ci := 11) (kf := 15) rfl hin_X11_square_X11 (by decide) lk_X11_square_0 e2 ?_
  refine j_iload_n (pc := 4) dX11_square_4 rfl ?_
  obtain ⟨x3, e4, h⟩ := obS h
  refine j_iald (pc := 5) dX11_square_5 e4 ?_
  refine j_aload_n (pc := 6) dX11_square_6 rfl ?_
  obtain ⟨x5, e6, h⟩ := obS h
  refine j_getR (pc := 7) dX11_square_7 (ci := 11) (kf := 15) rfl hin_X11_square_X11 (by decide) lk_X11_square_0 e6 ?_
  refine j_iload_n (pc := 10) dX11_square_10 rfl ?_
  obtain ⟨x7, e8, h⟩ := obS h
  refine j_iald (pc := 11) dX11_square_11 e8 ?_
  refine j_isub (pc := 12) dX11_square_12 ?_
  refine j_istore_n_3 (pc := 13) dX11_square_13 (by decide) rfl ?_
  refine j_aload_n (pc := 14) dX11_square_14 rfl ?_
  obtain ⟨x9, e10, h⟩ := obS h
  refine j_getR (pc := 15) dX11_square_15 (ci := 11) (kf := 16) rfl hin_X11_square_X11 (by decide) lk_X11_square_1 e10 ?_
  refine j_iload_n (pc := 18) dX11_square_18 rfl ?_
  obtain ⟨x11, e12, h⟩ := obS h
  refine j_iald (pc := 19) dX11_square_19 e12 ?_
  refine j_aload_n (pc := 20) dX11_square_20 rfl ?_
  obtain ⟨x13, e14, h⟩ := obS h
  refine j_getR (pc := 21) dX11_square_21 (ci := 11) (kf := 16) rfl hin_X11_square_X11 (by decide) lk_X11_square_1 e14 ?_
  refine j_iload_n (pc := 24) dX11_square_24 rfl ?_
  obtain ⟨x15, e16, h⟩ := obS h
  refine j_iald (pc := 25) dX11_square_25 e16 ?_
  refine j_isub (pc := 26) dX11_square_26 ?_
  refine j_istore_4 (pc := 27) dX11_square_27 (by decide) rfl ?_
  refine j_iload_n (pc := 29) dX11_square_29 rfl ?_
  refine j_iload_n (pc := 30) dX11_square_30 rfl ?_
  refine j_imul (pc := 31) dX11_square_31 ?_
  refine j_iload (pc := 32) dX11_square_32 rfl ?_
  refine j_iload (pc := 34) dX11_square_34 rfl ?_
  refine j_imul (pc := 36) dX11_square_36 ?_
  refine j_iadd (pc := 37) dX11_square_37 ?_
  obtain ⟨rfl, rfl⟩ := jretS h
  exact j_iret (pc := 38) rfl dX11_square_38 (by decide) (by decide) rfl
theorem r_X11_square {a0 : Nat} {i1 : Int32} {i2 : Int32} {ws : LWd} {o : (Int32 × LWd)} (h : m_X11_square a0 i1 i2 ws = some o) : ∃ fs, ws[a0]? = some (.inr (11, fs)) := rcv_in h
theorem hin_X11_hull_X11 : ∀ w ∈ u_ws RX11 TX11 31, w ∈ wsX11_hull := fun w h => List.mem_cons_of_mem _ (List.mem_append_right _ h)
theorem lk_X11_hull_0 : Cond.fieldLink RX11 53 "GaitwrightModel" "corner" "[I" ∈ wsX11_hull := List.mem_cons_of_mem _ (List.mem_append_left _ (List.mem_of_getElem? (i := 3) rfl))
theorem lk_X11_hull_1 : Cond.fieldLink RX11 113 "GaitwrightModel" "corners" "I" ∈ wsX11_hull := List.mem_cons_of_mem _ (List.mem_append_left _ (List.mem_of_getElem? (i := 0) rfl))
theorem lk_X11_hull_2 : Cond.fieldLink RX11 41 "GaitwrightModel" "footX" "[I" ∈ wsX11_hull := List.mem_cons_of_mem _ (List.mem_append_left _ (List.mem_of_getElem? (i := 1) rfl))
theorem lk_X11_hull_3 : Cond.fieldLink RX11 44 "GaitwrightModel" "footY" "[I" ∈ wsX11_hull := List.mem_cons_of_mem _ (List.mem_append_left _ (List.mem_of_getElem? (i := 2) rfl))
def m_X11_hull_b242 (k86 : Nat → Int32 → Int32 → Int32 → LWd → Option LWd) (k129 : Nat → Int32 → Int32 → Int32 → Int32 → Int32 → LWd → Option LWd) (a0 : Nat) (i1 : Int32) (i2 : Int32) (i3 : Int32) (i5 : Int32) (s0 : Int32) (ws : LWd) : Option LWd :=
  k129 a0 i1 i2 i3 s0 (i5 + 1) ws
set_option maxRecDepth 100000 in
set_option maxHeartbeats 4000000 in
theorem jm_X11_hull_b242 {n0 : Nat} {ws' : LWd} {k86 : Nat → Int32 → Int32 → Int32 → LWd → Option LWd} {k129 : Nat → Int32 → Int32 → Int32 → Int32 → Int32 → LWd → Option LWd} (hk86 : ∀ (a0 : Nat) (i1 : Int32) (i2 : Int32) (i3 : Int32) (ws : LWd), k86 a0 i1 i2 i3 ws = some ws' → JG false cX11_hull 9 RX11 wsX11_hull none "hull" 1 0 0 n0 (.inl none, ws') 86 [some (.ref a0), some (.int i1), some (.int i2), some (.int i3), none, none, none, none, none] [] ws 0 0) (hk129 : ∀ (a0 : Nat) (i1 : Int32) (i2 : Int32) (i3 : Int32) (i4 : Int32) (i5 : Int32) (ws : LWd), k129 a0 i1 i2 i3 i4 i5 ws = some ws' → JG false cX11_hull 9 RX11 wsX11_hull none "hull" 1 0 0 n0 (.inl none, ws') 129 [some (.ref a0), some (.int i1), some (.int i2), some (.int i3), some (.int i4), some (.int i5), none, none, none] [] ws 0 0) (a0 : Nat) (i1 : Int32) (i2 : Int32) (i3 : Int32) (i5 : Int32) (s0 : Int32) (ws : LWd) (h : m_X11_hull_b242 k86 k129 a0 i1 i2 i3 i5 s0 ws = some ws') : JG false cX11_hull 9 RX11 wsX11_hull none "hull" 1 0 0 n0 (.inl none, ws') 242 [some (.ref a0), some (.int i1), some (.int i2), some (.int i3), none, some (.int i5), none, none, none] [.int s0] ws 0 0 := by
  unfold m_X11_hull_b242 at h
  refine j_istore_4 (pc := 242) dX11_hull_242 (by decide) rfl ?_
  refine j_iinc_5 (pc := 244) dX11_hull_244 (y := i5 + 1) rfl (by decide) rfl ?_
  refine j_goto (pc := 247) (tgt := 129) dX11_hull_247 (by decide) ?_
  exact hk129 _ _ _ _ _ _ ws h
def m_X11_hull_b228 (k86 : Nat → Int32 → Int32 → Int32 → LWd → Option LWd) (k129 : Nat → Int32 → Int32 → Int32 → Int32 → Int32 → LWd → Option LWd) (a0 : Nat) (i1 : Int32) (i2 : Int32) (i3 : Int32) (i4 : Int32) (i5 : Int32) (s0 : Int32) (ws : LWd) : Option LWd :=
  if s0 = 0 then
    m_X11_hull_b242 k86 k129 a0 i1 i2 i3 i5 i4 ws
  else
    m_X11_hull_b242 k86 k129 a0 i1 i2 i3 i5 i5 ws
set_option maxRecDepth 100000 in
set_option maxHeartbeats 4000000 in
theorem jm_X11_hull_b228 {n0 : Nat} {ws' : LWd} {k86 : Nat → Int32 → Int32 → Int32 → LWd → Option LWd} {k129 : Nat → Int32 → Int32 → Int32 → Int32 → Int32 → LWd → Option LWd} (hk86 : ∀ (a0 : Nat) (i1 : Int32) (i2 : Int32) (i3 : Int32) (ws : LWd), k86 a0 i1 i2 i3 ws = some ws' → JG false cX11_hull 9 RX11 wsX11_hull none "hull" 1 0 0 n0 (.inl none, ws') 86 [some (.ref a0), some (.int i1), some (.int i2), some (.int i3), none, none, none, none, none] [] ws 0 0) (hk129 : ∀ (a0 : Nat) (i1 : Int32) (i2 : Int32) (i3 : Int32) (i4 : Int32) (i5 : Int32) (ws : LWd), k129 a0 i1 i2 i3 i4 i5 ws = some ws' → JG false cX11_hull 9 RX11 wsX11_hull none "hull" 1 0 0 n0 (.inl none, ws') 129 [some (.ref a0), some (.int i1), some (.int i2), some (.int i3), some (.int i4), some (.int i5), none, none, none] [] ws 0 0) (a0 : Nat) (i1 : Int32) (i2 : Int32) (i3 : Int32) (i4 : Int32) (i5 : Int32) (s0 : Int32) (ws : LWd) (h : m_X11_hull_b228 k86 k129 a0 i1 i2 i3 i4 i5 s0 ws = some ws') : JG false cX11_hull 9 RX11 wsX11_hull none "hull" 1 0 0 n0 (.inl none, ws') 228 [some (.ref a0), some (.int i1), some (.int i2), some (.int i3), some (.int i4), some (.int i5), none, none, none] [.int s0] ws 0 0 := by
  unfold m_X11_hull_b228 at h
  refine j_istore_8 (pc := 228) dX11_hull_228 (by decide) rfl ?_
  refine j_iload (pc := 230) dX11_hull_230 rfl ?_
  refine j_if_eq (pc := 232) (tgt := 240) dX11_hull_232 (by decide) (fun c1 => ?_) (fun c1 => ?_)
  · rw [if_pos c1] at h
    refine j_iload (pc := 240) dX11_hull_240 rfl ?_
    refine j_mask [true, true, true, true, false, true, false, false, false] ?_
    exact jm_X11_hull_b242 (hk86 := hk86) (hk129 := hk129) _ _ _ _ _ _ ws h
  · rw [if_neg c1] at h
    refine j_iload (pc := 235) dX11_hull_235 rfl ?_
    refine j_goto (pc := 237) (tgt := 242) dX11_hull_237 (by decide) ?_
    refine j_mask [true, true, true, true, false, true, false, false, false] ?_
    exact jm_X11_hull_b242 (hk86 := hk86) (hk129 := hk129) _ _ _ _ _ _ ws h
def m_X11_hull_b227 (k86 : Nat → Int32 → Int32 → Int32 → LWd → Option LWd) (k129 : Nat → Int32 → Int32 → Int32 → Int32 → Int32 → LWd → Option LWd) (a0 : Nat) (i1 : Int32) (i2 : Int32) (i3 : Int32) (i4 : Int32) (i5 : Int32) (ws : LWd) : Option LWd :=
  m_X11_hull_b228 k86 k129 a0 i1 i2 i3 i4 i5 0 ws
set_option maxRecDepth 100000 in
set_option maxHeartbeats 4000000 in
theorem jm_X11_hull_b227 {n0 : Nat} {ws' : LWd} {k86 : Nat → Int32 → Int32 → Int32 → LWd → Option LWd} {k129 : Nat → Int32 → Int32 → Int32 → Int32 → Int32 → LWd → Option LWd} (hk86 : ∀ (a0 : Nat) (i1 : Int32) (i2 : Int32) (i3 : Int32) (ws : LWd), k86 a0 i1 i2 i3 ws = some ws' → JG false cX11_hull 9 RX11 wsX11_hull none "hull" 1 0 0 n0 (.inl none, ws') 86 [some (.ref a0), some (.int i1), some (.int i2), some (.int i3), none, none, none, none, none] [] ws 0 0) (hk129 : ∀ (a0 : Nat) (i1 : Int32) (i2 : Int32) (i3 : Int32) (i4 : Int32) (i5 : Int32) (ws : LWd), k129 a0 i1 i2 i3 i4 i5 ws = some ws' → JG false cX11_hull 9 RX11 wsX11_hull none "hull" 1 0 0 n0 (.inl none, ws') 129 [some (.ref a0), some (.int i1), some (.int i2), some (.int i3), some (.int i4), some (.int i5), none, none, none] [] ws 0 0) (a0 : Nat) (i1 : Int32) (i2 : Int32) (i3 : Int32) (i4 : Int32) (i5 : Int32) (ws : LWd) (h : m_X11_hull_b227 k86 k129 a0 i1 i2 i3 i4 i5 ws = some ws') : JG false cX11_hull 9 RX11 wsX11_hull none "hull" 1 0 0 n0 (.inl none, ws') 227 [some (.ref a0), some (.int i1), some (.int i2), some (.int i3), some (.int i4), some (.int i5), none, none, none] [] ws 0 0 := by
  unfold m_X11_hull_b227 at h
  refine j_iconst (pc := 227) dX11_hull_227 (v := 0) (by decide) ?_
  exact jm_X11_hull_b228 (hk86 := hk86) (hk129 := hk129) _ _ _ _ _ _ _ ws h
def m_X11_hull_b223 (k86 : Nat → Int32 → Int32 → Int32 → LWd → Option LWd) (k129 : Nat → Int32 → Int32 → Int32 → Int32 → Int32 → LWd → Option LWd) (a0 : Nat) (i1 : Int32) (i2 : Int32) (i3 : Int32) (i4 : Int32) (i5 : Int32) (ws : LWd) : Option LWd :=
  m_X11_hull_b228 k86 k129 a0 i1 i2 i3 i4 i5 1 ws
set_option maxRecDepth 100000 in
set_option maxHeartbeats 4000000 in
theorem jm_X11_hull_b223 {n0 : Nat} {ws' : LWd} {k86 : Nat → Int32 → Int32 → Int32 → LWd → Option LWd} {k129 : Nat → Int32 → Int32 → Int32 → Int32 → Int32 → LWd → Option LWd} (hk86 : ∀ (a0 : Nat) (i1 : Int32) (i2 : Int32) (i3 : Int32) (ws : LWd), k86 a0 i1 i2 i3 ws = some ws' → JG false cX11_hull 9 RX11 wsX11_hull none "hull" 1 0 0 n0 (.inl none, ws') 86 [some (.ref a0), some (.int i1), some (.int i2), some (.int i3), none, none, none, none, none] [] ws 0 0) (hk129 : ∀ (a0 : Nat) (i1 : Int32) (i2 : Int32) (i3 : Int32) (i4 : Int32) (i5 : Int32) (ws : LWd), k129 a0 i1 i2 i3 i4 i5 ws = some ws' → JG false cX11_hull 9 RX11 wsX11_hull none "hull" 1 0 0 n0 (.inl none, ws') 129 [some (.ref a0), some (.int i1), some (.int i2), some (.int i3), some (.int i4), some (.int i5), none, none, none] [] ws 0 0) (a0 : Nat) (i1 : Int32) (i2 : Int32) (i3 : Int32) (i4 : Int32) (i5 : Int32) (ws : LWd) (h : m_X11_hull_b223 k86 k129 a0 i1 i2 i3 i4 i5 ws = some ws') : JG false cX11_hull 9 RX11 wsX11_hull none "hull" 1 0 0 n0 (.inl none, ws') 223 [some (.ref a0), some (.int i1), some (.int i2), some (.int i3), some (.int i4), some (.int i5), none, none, none] [] ws 0 0 := by
  unfold m_X11_hull_b223 at h
  refine j_iconst (pc := 223) dX11_hull_223 (v := 1) (by decide) ?_
  refine j_goto (pc := 224) (tgt := 228) dX11_hull_224 (by decide) ?_
  exact jm_X11_hull_b228 (hk86 := hk86) (hk129 := hk129) _ _ _ _ _ _ _ ws h
def m_X11_hull_b183 (k86 : Nat → Int32 → Int32 → Int32 → LWd → Option LWd) (k129 : Nat → Int32 → Int32 → Int32 → Int32 → Int32 → LWd → Option LWd) (a0 : Nat) (i1 : Int32) (i2 : Int32) (i3 : Int32) (i4 : Int32) (i5 : Int32) (i6 : Int32) (s0 : Int32) (ws : LWd) : Option LWd :=
  if i6 = 0 then
    m_X11_hull_b227 k86 k129 a0 i1 i2 i3 i4 i5 ws
  else
    if i4 = ((-1)) then
      m_X11_hull_b223 k86 k129 a0 i1 i2 i3 i4 i5 ws
    else
      if s0 < 0 then
        m_X11_hull_b223 k86 k129 a0 i1 i2 i3 i4 i5 ws
      else
        if s0 = 0 then
          bn2 (calSR ws (m_X11_square a0 i3 i5 ws)) fun x7 w5 =>
          bn2 (calSR w5 (m_X11_square a0 i3 i4 w5)) fun x10 w8 =>
          if x7 ≤ x10 then
            m_X11_hull_b227 k86 k129 a0 i1 i2 i3 i4 i5 w8
          else
            m_X11_hull_b223 k86 k129 a0 i1 i2 i3 i4 i5 w8
        else
          m_X11_hull_b227 k86 k129 a0 i1 i2 i3 i4 i5 ws
set_option maxRecDepth 100000 in
set_option maxHeartbeats 4000000 in
theorem jm_X11_hull_b183 {n0 : Nat} {ws' : LWd} {k86 : Nat → Int32 → Int32 → Int32 → LWd → Option LWd} {k129 : Nat → Int32 → Int32 → Int32 → Int32 → Int32 → LWd → Option LWd} (hk86 : ∀ (a0 : Nat) (i1 : Int32) (i2 : Int32) (i3 : Int32) (ws : LWd), k86 a0 i1 i2 i3 ws = some ws' → JG false cX11_hull 9 RX11 wsX11_hull none "hull" 1 0 0 n0 (.inl none, ws') 86 [some (.ref a0), some (.int i1), some (.int i2), some (.int i3), none, none, none, none, none] [] ws 0 0) (hk129 : ∀ (a0 : Nat) (i1 : Int32) (i2 : Int32) (i3 : Int32) (i4 : Int32) (i5 : Int32) (ws : LWd), k129 a0 i1 i2 i3 i4 i5 ws = some ws' → JG false cX11_hull 9 RX11 wsX11_hull none "hull" 1 0 0 n0 (.inl none, ws') 129 [some (.ref a0), some (.int i1), some (.int i2), some (.int i3), some (.int i4), some (.int i5), none, none, none] [] ws 0 0) (a0 : Nat) (i1 : Int32) (i2 : Int32) (i3 : Int32) (i4 : Int32) (i5 : Int32) (i6 : Int32) (s0 : Int32) (ws : LWd) (h : m_X11_hull_b183 k86 k129 a0 i1 i2 i3 i4 i5 i6 s0 ws = some ws') : JG false cX11_hull 9 RX11 wsX11_hull none "hull" 1 0 0 n0 (.inl none, ws') 183 [some (.ref a0), some (.int i1), some (.int i2), some (.int i3), some (.int i4), some (.int i5), some (.int i6), none, none] [.int s0] ws 0 0 := by
  unfold m_X11_hull_b183 at h
  refine j_istore_7 (pc := 183) dX11_hull_183 (by decide) rfl ?_
  refine j_iload (pc := 185) dX11_hull_185 rfl ?_
  refine j_if_eq (pc := 187) (tgt := 227) dX11_hull_187 (by decide) (fun c1 => ?_) (fun c1 => ?_)
  · rw [if_pos c1] at h
    refine j_mask [true, true, true, true, true, true, false, false, false] ?_
    exact jm_X11_hull_b227 (hk86 := hk86) (hk129 := hk129) _ _ _ _ _ _ ws h
  · rw [if_neg c1] at h
    refine j_iload (pc := 190) dX11_hull_190 rfl ?_
    refine j_iconst (pc := 192) dX11_hull_192 (v := (-1)) (by decide) ?_
    refine j_icmp_eq (pc := 193) (tgt := 223) dX11_hull_193 (by decide) (fun c2 => ?_) (fun c2 => ?_)
    · rw [if_pos c2] at h
      refine j_mask [true, true, true, true, true, true, false, false, false] ?_
      exact jm_X11_hull_b223 (hk86 := hk86) (hk129 := hk129) _ _ _ _ _ _ ws h
    · rw [if_neg c2] at h
      refine j_iload (pc := 196) dX11_hull_196 rfl ?_
      refine j_if_lt (pc := 198) (tgt := 223) dX11_hull_198 (by decide) (fun c3 => ?_) (fun c3 => ?_)
      · rw [if_pos c3] at h
        refine j_mask [true, true, true, true, true, true, false, false, false] ?_
        exact jm_X11_hull_b223 (hk86 := hk86) (hk129 := hk129) _ _ _ _ _ _ ws h
      · rw [if_neg c3] at h
        refine j_iload (pc := 201) dX11_hull_201 rfl ?_
        refine j_if_ne (pc := 203) (tgt := 227) dX11_hull_203 (by decide) (fun c4 => ?_) (fun c4 => ?_)
        · rw [if_neg c4] at h
          refine j_mask [true, true, true, true, true, true, false, false, false] ?_
          exact jm_X11_hull_b227 (hk86 := hk86) (hk129 := hk129) _ _ _ _ _ _ ws h
        · rw [if_pos c4] at h
          refine j_aload_n (pc := 206) dX11_hull_206 rfl ?_
          refine j_iload_n (pc := 207) dX11_hull_207 rfl ?_
          refine j_iload (pc := 208) dX11_hull_208 rfl ?_
          obtain ⟨x7, w5, e6, h⟩ := obS2 h
          have ge6 := calSR_of e6
          refine j_callV_g (pc := 210) (As := [.int i3, .int i5]) (k' := 0) (n' := 0) dX11_hull_210 (s_X11_square ge6.1) gX11_hull_X11_square rfl hv_X11_square rfl (r_X11_square ge6.1) rfl (by decide) (by decide) (by decide) (by decide) (by decide) (by decide) (by decide) (Or.inl ge6.2) ?_
          refine j_aload_n (pc := 213) dX11_hull_213 rfl ?_
          refine j_iload_n (pc := 214) dX11_hull_214 rfl ?_
          refine j_iload (pc := 215) dX11_hull_215 rfl ?_
          obtain ⟨x10, w8, e9, h⟩ := obS2 h
          have ge9 := calSR_of e9
          refine j_callV_g (pc := 217) (As := [.int i3, .int i4]) (k' := 0) (n' := 0) dX11_hull_217 (s_X11_square ge9.1) gX11_hull_X11_square rfl hv_X11_square rfl (r_X11_square ge9.1) rfl (by decide) (by decide) (by decide) (by decide) (by decide) (by decide) (by decide) (Or.inl ge9.2) ?_
          refine j_icmp_le (pc := 220) (tgt := 227) dX11_hull_220 (by decide) (fun c11 => ?_) (fun c11 => ?_)
          · rw [if_pos c11] at h
            refine j_mask [true, true, true, true, true, true, false, false, false] ?_
            exact jm_X11_hull_b227 (hk86 := hk86) (hk129 := hk129) _ _ _ _ _ _ w8 h
          · rw [if_neg c11] at h
            refine j_mask [true, true, true, true, true, true, false, false, false] ?_
            exact jm_X11_hull_b223 (hk86 := hk86) (hk129 := hk129) _ _ _ _ _ _ w8 h
def m_X11_hull_b182 (k86 : Nat → Int32 → Int32 → Int32 → LWd → Option LWd) (k129 : Nat → Int32 → Int32 → Int32 → Int32 → Int32 → LWd → Option LWd) (a0 : Nat) (i1 : Int32) (i2 : Int32) (i3 : Int32) (i4 : Int32) (i5 : Int32) (i6 : Int32) (ws : LWd) : Option LWd :=
  m_X11_hull_b183 k86 k129 a0 i1 i2 i3 i4 i5 i6 0 ws
set_option maxRecDepth 100000 in
set_option maxHeartbeats 4000000 in
theorem jm_X11_hull_b182 {n0 : Nat} {ws' : LWd} {k86 : Nat → Int32 → Int32 → Int32 → LWd → Option LWd} {k129 : Nat → Int32 → Int32 → Int32 → Int32 → Int32 → LWd → Option LWd} (hk86 : ∀ (a0 : Nat) (i1 : Int32) (i2 : Int32) (i3 : Int32) (ws : LWd), k86 a0 i1 i2 i3 ws = some ws' → JG false cX11_hull 9 RX11 wsX11_hull none "hull" 1 0 0 n0 (.inl none, ws') 86 [some (.ref a0), some (.int i1), some (.int i2), some (.int i3), none, none, none, none, none] [] ws 0 0) (hk129 : ∀ (a0 : Nat) (i1 : Int32) (i2 : Int32) (i3 : Int32) (i4 : Int32) (i5 : Int32) (ws : LWd), k129 a0 i1 i2 i3 i4 i5 ws = some ws' → JG false cX11_hull 9 RX11 wsX11_hull none "hull" 1 0 0 n0 (.inl none, ws') 129 [some (.ref a0), some (.int i1), some (.int i2), some (.int i3), some (.int i4), some (.int i5), none, none, none] [] ws 0 0) (a0 : Nat) (i1 : Int32) (i2 : Int32) (i3 : Int32) (i4 : Int32) (i5 : Int32) (i6 : Int32) (ws : LWd) (h : m_X11_hull_b182 k86 k129 a0 i1 i2 i3 i4 i5 i6 ws = some ws') : JG false cX11_hull 9 RX11 wsX11_hull none "hull" 1 0 0 n0 (.inl none, ws') 182 [some (.ref a0), some (.int i1), some (.int i2), some (.int i3), some (.int i4), some (.int i5), some (.int i6), none, none] [] ws 0 0 := by
  unfold m_X11_hull_b182 at h
  refine j_iconst (pc := 182) dX11_hull_182 (v := 0) (by decide) ?_
  exact jm_X11_hull_b183 (hk86 := hk86) (hk129 := hk129) _ _ _ _ _ _ _ _ ws h
def m_X11_hull_b157 (k86 : Nat → Int32 → Int32 → Int32 → LWd → Option LWd) (k129 : Nat → Int32 → Int32 → Int32 → Int32 → Int32 → LWd → Option LWd) (a0 : Nat) (i1 : Int32) (i2 : Int32) (i3 : Int32) (i4 : Int32) (i5 : Int32) (s0 : Int32) (ws : LWd) : Option LWd :=
  if s0 = 0 then
    m_X11_hull_b182 k86 k129 a0 i1 i2 i3 i4 i5 s0 ws
  else
    if i4 = ((-1)) then
      m_X11_hull_b182 k86 k129 a0 i1 i2 i3 i4 i5 s0 ws
    else
      bn2 (calSR ws (m_X11_turn a0 i3 i4 i5 ws)) fun x5 w3 =>
      m_X11_hull_b183 k86 k129 a0 i1 i2 i3 i4 i5 s0 x5 w3
set_option maxRecDepth 100000 in
set_option maxHeartbeats 4000000 in
theorem jm_X11_hull_b157 {n0 : Nat} {ws' : LWd} {k86 : Nat → Int32 → Int32 → Int32 → LWd → Option LWd} {k129 : Nat → Int32 → Int32 → Int32 → Int32 → Int32 → LWd → Option LWd} (hk86 : ∀ (a0 : Nat) (i1 : Int32) (i2 : Int32) (i3 : Int32) (ws : LWd), k86 a0 i1 i2 i3 ws = some ws' → JG false cX11_hull 9 RX11 wsX11_hull none "hull" 1 0 0 n0 (.inl none, ws') 86 [some (.ref a0), some (.int i1), some (.int i2), some (.int i3), none, none, none, none, none] [] ws 0 0) (hk129 : ∀ (a0 : Nat) (i1 : Int32) (i2 : Int32) (i3 : Int32) (i4 : Int32) (i5 : Int32) (ws : LWd), k129 a0 i1 i2 i3 i4 i5 ws = some ws' → JG false cX11_hull 9 RX11 wsX11_hull none "hull" 1 0 0 n0 (.inl none, ws') 129 [some (.ref a0), some (.int i1), some (.int i2), some (.int i3), some (.int i4), some (.int i5), none, none, none] [] ws 0 0) (a0 : Nat) (i1 : Int32) (i2 : Int32) (i3 : Int32) (i4 : Int32) (i5 : Int32) (s0 : Int32) (ws : LWd) (h : m_X11_hull_b157 k86 k129 a0 i1 i2 i3 i4 i5 s0 ws = some ws') : JG false cX11_hull 9 RX11 wsX11_hull none "hull" 1 0 0 n0 (.inl none, ws') 157 [some (.ref a0), some (.int i1), some (.int i2), some (.int i3), some (.int i4), some (.int i5), none, none, none] [.int s0] ws 0 0 := by
  unfold m_X11_hull_b157 at h
  refine j_istore_6 (pc := 157) dX11_hull_157 (by decide) rfl ?_
  refine j_iload (pc := 159) dX11_hull_159 rfl ?_
  refine j_if_eq (pc := 161) (tgt := 182) dX11_hull_161 (by decide) (fun c1 => ?_) (fun c1 => ?_)
  · rw [if_pos c1] at h
    exact jm_X11_hull_b182 (hk86 := hk86) (hk129 := hk129) _ _ _ _ _ _ _ ws h
  · rw [if_neg c1] at h
    refine j_iload (pc := 164) dX11_hull_164 rfl ?_
    refine j_iconst (pc := 166) dX11_hull_166 (v := (-1)) (by decide) ?_
    refine j_icmp_eq (pc := 167) (tgt := 182) dX11_hull_167 (by decide) (fun c2 => ?_) (fun c2 => ?_)
    · rw [if_pos c2] at h
      exact jm_X11_hull_b182 (hk86 := hk86) (hk129 := hk129) _ _ _ _ _ _ _ ws h
    · rw [if_neg c2] at h
      refine j_aload_n (pc := 170) dX11_hull_170 rfl ?_
      refine j_iload_n (pc := 171) dX11_hull_171 rfl ?_
      refine j_iload (pc := 172) dX11_hull_172 rfl ?_
      refine j_iload (pc := 174) dX11_hull_174 rfl ?_
      obtain ⟨x5, w3, e4, h⟩ := obS2 h
      have ge4 := calSR_of e4
      refine j_callV_g (pc := 176) (As := [.int i3, .int i4, .int i5]) (k' := 0) (n' := 0) dX11_hull_176 (s_X11_turn ge4.1) gX11_hull_X11_turn rfl hv_X11_turn rfl (r_X11_turn ge4.1) rfl (by decide) (by decide) (by decide) (by decide) (by decide) (by decide) (by decide) (Or.inl ge4.2) ?_
      refine j_goto (pc := 179) (tgt := 183) dX11_hull_179 (by decide) ?_
      exact jm_X11_hull_b183 (hk86 := hk86) (hk129 := hk129) _ _ _ _ _ _ _ _ w3 h
def m_X11_hull_b156 (k86 : Nat → Int32 → Int32 → Int32 → LWd → Option LWd) (k129 : Nat → Int32 → Int32 → Int32 → Int32 → Int32 → LWd → Option LWd) (a0 : Nat) (i1 : Int32) (i2 : Int32) (i3 : Int32) (i4 : Int32) (i5 : Int32) (ws : LWd) : Option LWd :=
  m_X11_hull_b157 k86 k129 a0 i1 i2 i3 i4 i5 0 ws
set_option maxRecDepth 100000 in
set_option maxHeartbeats 4000000 in
theorem jm_X11_hull_b156 {n0 : Nat} {ws' : LWd} {k86 : Nat → Int32 → Int32 → Int32 → LWd → Option LWd} {k129 : Nat → Int32 → Int32 → Int32 → Int32 → Int32 → LWd → Option LWd} (hk86 : ∀ (a0 : Nat) (i1 : Int32) (i2 : Int32) (i3 : Int32) (ws : LWd), k86 a0 i1 i2 i3 ws = some ws' → JG false cX11_hull 9 RX11 wsX11_hull none "hull" 1 0 0 n0 (.inl none, ws') 86 [some (.ref a0), some (.int i1), some (.int i2), some (.int i3), none, none, none, none, none] [] ws 0 0) (hk129 : ∀ (a0 : Nat) (i1 : Int32) (i2 : Int32) (i3 : Int32) (i4 : Int32) (i5 : Int32) (ws : LWd), k129 a0 i1 i2 i3 i4 i5 ws = some ws' → JG false cX11_hull 9 RX11 wsX11_hull none "hull" 1 0 0 n0 (.inl none, ws') 129 [some (.ref a0), some (.int i1), some (.int i2), some (.int i3), some (.int i4), some (.int i5), none, none, none] [] ws 0 0) (a0 : Nat) (i1 : Int32) (i2 : Int32) (i3 : Int32) (i4 : Int32) (i5 : Int32) (ws : LWd) (h : m_X11_hull_b156 k86 k129 a0 i1 i2 i3 i4 i5 ws = some ws') : JG false cX11_hull 9 RX11 wsX11_hull none "hull" 1 0 0 n0 (.inl none, ws') 156 [some (.ref a0), some (.int i1), some (.int i2), some (.int i3), some (.int i4), some (.int i5), none, none, none] [] ws 0 0 := by
  unfold m_X11_hull_b156 at h
  refine j_iconst (pc := 156) dX11_hull_156 (v := 0) (by decide) ?_
  exact jm_X11_hull_b157 (hk86 := hk86) (hk129 := hk129) _ _ _ _ _ _ _ ws h
def m_X11_hull_l129 (k86 : Nat → Int32 → Int32 → Int32 → LWd → Option LWd) : Nat → Nat → Int32 → Int32 → Int32 → Int32 → Int32 → LWd → Option LWd
  | 0, _, _, _, _, _, _, _ => none
  | fu + 1, a0, i1, i2, i3, i4, i5, ws =>
    if 6 ≤ i5 then
      k86 a0 i1 i2 i4 ws
    else
      if ((i1 >>> (i5 &&& 31)) &&& 1) = 1 then
        if i5 = i3 then
          m_X11_hull_b156 k86 (fun z0 z1 z2 z3 z4 z5 w => m_X11_hull_l129 k86 fu z0 z1 z2 z3 z4 z5 w) a0 i1 i2 i3 i4 i5 ws
        else
          m_X11_hull_b157 k86 (fun z0 z1 z2 z3 z4 z5 w => m_X11_hull_l129 k86 fu z0 z1 z2 z3 z4 z5 w) a0 i1 i2 i3 i4 i5 1 ws
      else
        m_X11_hull_b156 k86 (fun z0 z1 z2 z3 z4 z5 w => m_X11_hull_l129 k86 fu z0 z1 z2 z3 z4 z5 w) a0 i1 i2 i3 i4 i5 ws
set_option maxRecDepth 100000 in
set_option maxHeartbeats 4000000 in
theorem jm_X11_hull_l129 {n0 : Nat} {ws' : LWd} {k86 : Nat → Int32 → Int32 → Int32 → LWd → Option LWd} (hk86 : ∀ (a0 : Nat) (i1 : Int32) (i2 : Int32) (i3 : Int32) (ws : LWd), k86 a0 i1 i2 i3 ws = some ws' → JG false cX11_hull 9 RX11 wsX11_hull none "hull" 1 0 0 n0 (.inl none, ws') 86 [some (.ref a0), some (.int i1), some (.int i2), some (.int i3), none, none, none, none, none] [] ws 0 0) : ∀ (fu : Nat) (a0 : Nat) (i1 : Int32) (i2 : Int32) (i3 : Int32) (i4 : Int32) (i5 : Int32) (ws : LWd), m_X11_hull_l129 k86 fu a0 i1 i2 i3 i4 i5 ws = some ws' → JG false cX11_hull 9 RX11 wsX11_hull none "hull" 1 0 0 n0 (.inl none, ws') 129 [some (.ref a0), some (.int i1), some (.int i2), some (.int i3), some (.int i4), some (.int i5), none, none, none] [] ws 0 0 := by
  intro fu
  induction fu with
  | zero => intro a0 i1 i2 i3 i4 i5 ws h; cases h
  | succ fu ih =>
    intro a0 i1 i2 i3 i4 i5 ws h
    rw [m_X11_hull_l129] at h
    refine j_iload (pc := 129) dX11_hull_129 rfl ?_
    refine j_bipush (pc := 131) dX11_hull_131 (v := 6) (by decide) ?_
    refine j_icmp_ge (pc := 133) (tgt := 250) dX11_hull_133 (by decide) (fun c1 => ?_) (fun c1 => ?_)
    · rw [if_pos c1] at h
      refine j_iload (pc := 250) dX11_hull_250 rfl ?_
      refine j_istore_n_3 (pc := 252) dX11_hull_252 (by decide) rfl ?_
      refine j_goto (pc := 253) (tgt := 86) dX11_hull_253 (by decide) ?_
      refine j_mask [true, true, true, true, false, false, false, false, false] ?_
      exact hk86 _ _ _ _ ws h
    · rw [if_neg c1] at h
      refine j_iload_n (pc := 136) dX11_hull_136 rfl ?_
      refine j_iload (pc := 137) dX11_hull_137 rfl ?_
      refine j_ishr (pc := 139) dX11_hull_139 ?_
      refine j_iconst (pc := 140) dX11_hull_140 (v := 1) (by decide) ?_
      refine j_iand (pc := 141) dX11_hull_141 ?_
      refine j_iconst (pc := 142) dX11_hull_142 (v := 1) (by decide) ?_
      refine j_icmp_ne (pc := 143) (tgt := 156) dX11_hull_143 (by decide) (fun c2 => ?_) (fun c2 => ?_)
      · rw [if_neg c2] at h
        exact jm_X11_hull_b156 (hk86 := hk86) (hk129 := ih) _ _ _ _ _ _ ws h
      · rw [if_pos c2] at h
        refine j_iload (pc := 146) dX11_hull_146 rfl ?_
        refine j_iload_n (pc := 148) dX11_hull_148 rfl ?_
        refine j_icmp_eq (pc := 149) (tgt := 156) dX11_hull_149 (by decide) (fun c3 => ?_) (fun c3 => ?_)
        · rw [if_pos c3] at h
          exact jm_X11_hull_b156 (hk86 := hk86) (hk129 := ih) _ _ _ _ _ _ ws h
        · rw [if_neg c3] at h
          refine j_iconst (pc := 152) dX11_hull_152 (v := 1) (by decide) ?_
          refine j_goto (pc := 153) (tgt := 157) dX11_hull_153 (by decide) ?_
          exact jm_X11_hull_b157 (hk86 := hk86) (hk129 := ih) _ _ _ _ _ _ _ ws h
def m_X11_hull_b103 (k86 : Nat → Int32 → Int32 → Int32 → LWd → Option LWd) (a0 : Nat) (i1 : Int32) (i2 : Int32) (i3 : Int32) (ws : LWd) : Option LWd :=
  (fR ws a0 11 29).bind fun x1 =>
  (fI ws a0 11 28).bind fun x3 =>
  (sI ws x1 x3 i3).bind fun w5 =>
  (fI w5 a0 11 28).bind fun x7 =>
  (pV w5 a0 11 28 (.int (x7 + 1))).bind fun w9 =>
  m_X11_hull_l129 k86 FU a0 i1 i2 i3 ((-1)) 0 w9
set_option maxRecDepth 100000 in
set_option maxHeartbeats 4000000 in
theorem jm_X11_hull_b103 {n0 : Nat} {ws' : LWd} {k86 : Nat → Int32 → Int32 → Int32 → LWd → Option LWd} (hk86 : ∀ (a0 : Nat) (i1 : Int32) (i2 : Int32) (i3 : Int32) (ws : LWd), k86 a0 i1 i2 i3 ws = some ws' → JG false cX11_hull 9 RX11 wsX11_hull none "hull" 1 0 0 n0 (.inl none, ws') 86 [some (.ref a0), some (.int i1), some (.int i2), some (.int i3), none, none, none, none, none] [] ws 0 0) (a0 : Nat) (i1 : Int32) (i2 : Int32) (i3 : Int32) (ws : LWd) (h : m_X11_hull_b103 k86 a0 i1 i2 i3 ws = some ws') : JG false cX11_hull 9 RX11 wsX11_hull none "hull" 1 0 0 n0 (.inl none, ws') 103 [some (.ref a0), some (.int i1), some (.int i2), some (.int i3), none, none, none, none, none] [] ws 0 0 := by
  unfold m_X11_hull_b103 at h
  refine j_aload_n (pc := 103) dX11_hull_103 rfl ?_
  obtain ⟨x1, e2, h⟩ := obS h
  refine j_getR (pc := 104) dX11_hull_104 (ci := 11) (kf := 29) rfl hin_X11_hull_X11 (by decide) lk_X11_hull_0 e2 ?_
  refine j_aload_n (pc := 107) dX11_hull_107 rfl ?_
  obtain ⟨x3, e4, h⟩ := obS h
  refine j_getI (pc := 108) dX11_hull_108 (ci := 11) (kf := 28) rfl hin_X11_hull_X11 (by decide) lk_X11_hull_1 e4 ?_
  refine j_iload_n (pc := 111) dX11_hull_111 rfl ?_
  obtain ⟨w5, e6, h⟩ := obS h
  refine j_iast (pc := 112) dX11_hull_112 e6 ?_
  refine j_aload_n (pc := 113) dX11_hull_113 rfl ?_
  refine j_dup (pc := 114) dX11_hull_114 rfl ?_
  obtain ⟨x7, e8, h⟩ := obS h
  refine j_getI (pc := 115) dX11_hull_115 (ci := 11) (kf := 28) rfl hin_X11_hull_X11 (by decide) lk_X11_hull_1 e8 ?_
  refine j_iconst (pc := 118) dX11_hull_118 (v := 1) (by decide) ?_
  refine j_iadd (pc := 119) dX11_hull_119 ?_
  obtain ⟨w9, e10, h⟩ := obS h
  refine j_putV (pc := 120) (ci := 11) (kf := 28) tyX11 tyX11_ok nmX11 dX11_hull_120 rfl hin_X11_hull_X11 (by decide) lk_X11_hull_1 rfl (fun _ => rfl) (fun _ => rfl) e10 ?_
  refine j_iconst (pc := 123) dX11_hull_123 (v := (-1)) (by decide) ?_
  refine j_istore_4 (pc := 124) dX11_hull_124 (by decide) rfl ?_
  refine j_iconst (pc := 126) dX11_hull_126 (v := 0) (by decide) ?_
  refine j_istore_5 (pc := 127) dX11_hull_127 (by decide) rfl ?_
  exact jm_X11_hull_l129 (hk86 := hk86) FU _ _ _ _ _ _ w9 h
def m_X11_hull_l86 : Nat → Nat → Int32 → Int32 → Int32 → LWd → Option LWd
  | 0, _, _, _, _, _ => none
  | fu + 1, a0, i1, i2, i3, ws =>
    if i3 = ((-1)) then
      some ws
    else
      (fI ws a0 11 28).bind fun x2 =>
      if x2 = 0 then
        m_X11_hull_b103 (fun z0 z1 z2 z3 w => m_X11_hull_l86 fu z0 z1 z2 z3 w) a0 i1 i2 i3 ws
      else
        if i3 = i2 then
          some ws
        else
          m_X11_hull_b103 (fun z0 z1 z2 z3 w => m_X11_hull_l86 fu z0 z1 z2 z3 w) a0 i1 i2 i3 ws
set_option maxRecDepth 100000 in
set_option maxHeartbeats 4000000 in
theorem jm_X11_hull_l86 {n0 : Nat} {ws' : LWd} : ∀ (fu : Nat) (a0 : Nat) (i1 : Int32) (i2 : Int32) (i3 : Int32) (ws : LWd), m_X11_hull_l86 fu a0 i1 i2 i3 ws = some ws' → JG false cX11_hull 9 RX11 wsX11_hull none "hull" 1 0 0 n0 (.inl none, ws') 86 [some (.ref a0), some (.int i1), some (.int i2), some (.int i3), none, none, none, none, none] [] ws 0 0 := by
  intro fu
  induction fu with
  | zero => intro a0 i1 i2 i3 ws h; cases h
  | succ fu ih =>
    intro a0 i1 i2 i3 ws h
    rw [m_X11_hull_l86] at h
    refine j_iload_n (pc := 86) dX11_hull_86 rfl ?_
    refine j_iconst (pc := 87) dX11_hull_87 (v := (-1)) (by decide) ?_
    refine j_icmp_eq (pc := 88) (tgt := 256) dX11_hull_88 (by decide) (fun c1 => ?_) (fun c1 => ?_)
    · rw [if_pos c1] at h
      cases h
      exact j_vret (pc := 256) rfl dX11_hull_256 (by decide) (by decide) rfl
    · rw [if_neg c1] at h
      refine j_aload_n (pc := 91) dX11_hull_91 rfl ?_
      obtain ⟨x2, e3, h⟩ := obS h
      refine j_getI (pc := 92) dX11_hull_92 (ci := 11) (kf := 28) rfl hin_X11_hull_X11 (by decide) lk_X11_hull_1 e3 ?_
      refine j_if_eq (pc := 95) (tgt := 103) dX11_hull_95 (by decide) (fun c4 => ?_) (fun c4 => ?_)
      · rw [if_pos c4] at h
        exact jm_X11_hull_b103 (hk86 := ih) _ _ _ _ ws h
      · rw [if_neg c4] at h
        refine j_iload_n (pc := 98) dX11_hull_98 rfl ?_
        refine j_iload_n (pc := 99) dX11_hull_99 rfl ?_
        refine j_icmp_eq (pc := 100) (tgt := 256) dX11_hull_100 (by decide) (fun c5 => ?_) (fun c5 => ?_)
        · rw [if_pos c5] at h
          cases h
          exact j_vret (pc := 256) rfl dX11_hull_256 (by decide) (by decide) rfl
        · rw [if_neg c5] at h
          exact jm_X11_hull_b103 (hk86 := ih) _ _ _ _ ws h
def m_X11_hull_b77 (k9 : Nat → Int32 → Int32 → Int32 → LWd → Option LWd) (a0 : Nat) (i1 : Int32) (i3 : Int32) (s0 : Int32) (ws : LWd) : Option LWd :=
  k9 a0 i1 s0 (i3 + (-1)) ws
set_option maxRecDepth 100000 in
set_option maxHeartbeats 4000000 in
theorem jm_X11_hull_b77 {n0 : Nat} {ws' : LWd} {k9 : Nat → Int32 → Int32 → Int32 → LWd → Option LWd} (hk9 : ∀ (a0 : Nat) (i1 : Int32) (i2 : Int32) (i3 : Int32) (ws : LWd), k9 a0 i1 i2 i3 ws = some ws' → JG false cX11_hull 9 RX11 wsX11_hull none "hull" 1 0 0 n0 (.inl none, ws') 9 [some (.ref a0), some (.int i1), some (.int i2), some (.int i3), none, none, none, none, none] [] ws 0 0) (a0 : Nat) (i1 : Int32) (i3 : Int32) (s0 : Int32) (ws : LWd) (h : m_X11_hull_b77 k9 a0 i1 i3 s0 ws = some ws') : JG false cX11_hull 9 RX11 wsX11_hull none "hull" 1 0 0 n0 (.inl none, ws') 77 [some (.ref a0), some (.int i1), none, some (.int i3), none, none, none, none, none] [.int s0] ws 0 0 := by
  unfold m_X11_hull_b77 at h
  refine j_istore_n_2 (pc := 77) dX11_hull_77 (by decide) rfl ?_
  refine j_iinc_3 (pc := 78) dX11_hull_78 (y := i3 + (-1)) rfl (by decide) rfl ?_
  refine j_goto (pc := 81) (tgt := 9) dX11_hull_81 (by decide) ?_
  exact hk9 _ _ _ _ ws h
def m_X11_hull_b76 (k9 : Nat → Int32 → Int32 → Int32 → LWd → Option LWd) (a0 : Nat) (i1 : Int32) (i2 : Int32) (i3 : Int32) (ws : LWd) : Option LWd :=
  m_X11_hull_b77 k9 a0 i1 i3 i2 ws
set_option maxRecDepth 100000 in
set_option maxHeartbeats 4000000 in
theorem jm_X11_hull_b76 {n0 : Nat} {ws' : LWd} {k9 : Nat → Int32 → Int32 → Int32 → LWd → Option LWd} (hk9 : ∀ (a0 : Nat) (i1 : Int32) (i2 : Int32) (i3 : Int32) (ws : LWd), k9 a0 i1 i2 i3 ws = some ws' → JG false cX11_hull 9 RX11 wsX11_hull none "hull" 1 0 0 n0 (.inl none, ws') 9 [some (.ref a0), some (.int i1), some (.int i2), some (.int i3), none, none, none, none, none] [] ws 0 0) (a0 : Nat) (i1 : Int32) (i2 : Int32) (i3 : Int32) (ws : LWd) (h : m_X11_hull_b76 k9 a0 i1 i2 i3 ws = some ws') : JG false cX11_hull 9 RX11 wsX11_hull none "hull" 1 0 0 n0 (.inl none, ws') 76 [some (.ref a0), some (.int i1), some (.int i2), some (.int i3), none, none, none, none, none] [] ws 0 0 := by
  unfold m_X11_hull_b76 at h
  refine j_iload_n (pc := 76) dX11_hull_76 rfl ?_
  refine j_mask [true, true, false, true, false, false, false, false, false] ?_
  exact jm_X11_hull_b77 (hk9 := hk9) _ _ _ _ ws h
def m_X11_hull_b72 (k9 : Nat → Int32 → Int32 → Int32 → LWd → Option LWd) (a0 : Nat) (i1 : Int32) (i3 : Int32) (ws : LWd) : Option LWd :=
  m_X11_hull_b77 k9 a0 i1 i3 i3 ws
set_option maxRecDepth 100000 in
set_option maxHeartbeats 4000000 in
theorem jm_X11_hull_b72 {n0 : Nat} {ws' : LWd} {k9 : Nat → Int32 → Int32 → Int32 → LWd → Option LWd} (hk9 : ∀ (a0 : Nat) (i1 : Int32) (i2 : Int32) (i3 : Int32) (ws : LWd), k9 a0 i1 i2 i3 ws = some ws' → JG false cX11_hull 9 RX11 wsX11_hull none "hull" 1 0 0 n0 (.inl none, ws') 9 [some (.ref a0), some (.int i1), some (.int i2), some (.int i3), none, none, none, none, none] [] ws 0 0) (a0 : Nat) (i1 : Int32) (i3 : Int32) (ws : LWd) (h : m_X11_hull_b72 k9 a0 i1 i3 ws = some ws') : JG false cX11_hull 9 RX11 wsX11_hull none "hull" 1 0 0 n0 (.inl none, ws') 72 [some (.ref a0), some (.int i1), none, some (.int i3), none, none, none, none, none] [] ws 0 0 := by
  unfold m_X11_hull_b72 at h
  refine j_iload_n (pc := 72) dX11_hull_72 rfl ?_
  refine j_goto (pc := 73) (tgt := 77) dX11_hull_73 (by decide) ?_
  exact jm_X11_hull_b77 (hk9 := hk9) _ _ _ _ ws h
def m_X11_hull_b27 (k9 : Nat → Int32 → Int32 → Int32 → LWd → Option LWd) (a0 : Nat) (i1 : Int32) (i2 : Int32) (i3 : Int32) (s0 : Int32) (ws : LWd) : Option LWd :=
  if s0 = 0 then
    m_X11_hull_b76 k9 a0 i1 i2 i3 ws
  else
    if i2 = ((-1)) then
      m_X11_hull_b72 k9 a0 i1 i3 ws
    else
      (fR ws a0 11 15).bind fun x3 =>
      (aI ws x3 i3).bind fun x5 =>
      (fR ws a0 11 16).bind fun x7 =>
      (aI ws x7 i3).bind fun x9 =>
      bn2 (calSR ws (m_X11_at x5 x9 ws)) fun x13 w11 =>
      (fR w11 a0 11 15).bind fun x14 =>
      (aI w11 x14 i2).bind fun x16 =>
      (fR w11 a0 11 16).bind fun x18 =>
      (aI w11 x18 i2).bind fun x20 =>
      bn2 (calSR w11 (m_X11_at x16 x20 w11)) fun x24 w22 =>
      if x24 ≤ x13 then
        m_X11_hull_b76 k9 a0 i1 i2 i3 w22
      else
        m_X11_hull_b72 k9 a0 i1 i3 w22
set_option maxRecDepth 100000 in
set_option maxHeartbeats 4000000 in
theorem jm_X11_hull_b27 {n0 : Nat} {ws' : LWd} {k9 : Nat → Int32 → Int32 → Int32 → LWd → Option LWd} (hk9 : ∀ (a0 : Nat) (i1 : Int32) (i2 : Int32) (i3 : Int32) (ws : LWd), k9 a0 i1 i2 i3 ws = some ws' → JG false cX11_hull 9 RX11 wsX11_hull none "hull" 1 0 0 n0 (.inl none, ws') 9 [some (.ref a0), some (.int i1), some (.int i2), some (.int i3), none, none, none, none, none] [] ws 0 0) (a0 : Nat) (i1 : Int32) (i2 : Int32) (i3 : Int32) (s0 : Int32) (ws : LWd) (h : m_X11_hull_b27 k9 a0 i1 i2 i3 s0 ws = some ws') : JG false cX11_hull 9 RX11 wsX11_hull none "hull" 1 0 0 n0 (.inl none, ws') 27 [some (.ref a0), some (.int i1), some (.int i2), some (.int i3), none, none, none, none, none] [.int s0] ws 0 0 := by
  unfold m_X11_hull_b27 at h
  refine j_istore_4 (pc := 27) dX11_hull_27 (by decide) rfl ?_
  refine j_iload (pc := 29) dX11_hull_29 rfl ?_
  refine j_if_eq (pc := 31) (tgt := 76) dX11_hull_31 (by decide) (fun c1 => ?_) (fun c1 => ?_)
  · rw [if_pos c1] at h
    refine j_mask [true, true, true, true, false, false, false, false, false] ?_
    exact jm_X11_hull_b76 (hk9 := hk9) _ _ _ _ ws h
  · rw [if_neg c1] at h
    refine j_iload_n (pc := 34) dX11_hull_34 rfl ?_
    refine j_iconst (pc := 35) dX11_hull_35 (v := (-1)) (by decide) ?_
    refine j_icmp_eq (pc := 36) (tgt := 72) dX11_hull_36 (by decide) (fun c2 => ?_) (fun c2 => ?_)
    · rw [if_pos c2] at h
      refine j_mask [true, true, false, true, false, false, false, false, false] ?_
      exact jm_X11_hull_b72 (hk9 := hk9) _ _ _ ws h
    · rw [if_neg c2] at h
      refine j_aload_n (pc := 39) dX11_hull_39 rfl ?_
      obtain ⟨x3, e4, h⟩ := obS h
      refine j_getR (pc := 40) dX11_hull_40 (ci := 11) (kf := 15) rfl hin_X11_hull_X11 (by decide) lk_X11_hull_2 e4 ?_
      refine j_iload_n (pc := 43) dX11_hull_43 rfl ?_
      obtain ⟨x5, e6, h⟩ := obS h
      refine j_iald (pc := 44) dX11_hull_44 e6 ?_
      refine j_aload_n (pc := 45) dX11_hull_45 rfl ?_
      obtain ⟨x7, e8, h⟩ := obS h
      refine j_getR (pc := 46) dX11_hull_46 (ci := 11) (kf := 16) rfl hin_X11_hull_X11 (by decide) lk_X11_hull_3 e8 ?_
      refine j_iload_n (pc := 49) dX11_hull_49 rfl ?_
      obtain ⟨x9, e10, h⟩ := obS h
      refine j_iald (pc := 50) dX11_hull_50 e10 ?_
      obtain ⟨x13, w11, e12, h⟩ := obS2 h
      have ge12 := calSR_of e12
      refine j_callS_g (pc := 51) (As := [.int x5, .int x9]) (k' := 0) (n' := 0) dX11_hull_51 (s_X11_at ge12.1) gX11_hull_X11_at rfl hy_X11_at rfl (by decide) (by decide) (by decide) (by decide) (by decide) (by decide) (by decide) (Or.inl ge12.2) ?_
      refine j_aload_n (pc := 54) dX11_hull_54 rfl ?_
      obtain ⟨x14, e15, h⟩ := obS h
      refine j_getR (pc := 55) dX11_hull_55 (ci := 11) (kf := 15) rfl hin_X11_hull_X11 (by decide) lk_X11_hull_2 e15 ?_
      refine j_iload_n (pc := 58) dX11_hull_58 rfl ?_
      obtain ⟨x16, e17, h⟩ := obS h
      refine j_iald (pc := 59) dX11_hull_59 e17 ?_
      refine j_aload_n (pc := 60) dX11_hull_60 rfl ?_
      obtain ⟨x18, e19, h⟩ := obS h
      refine j_getR (pc := 61) dX11_hull_61 (ci := 11) (kf := 16) rfl hin_X11_hull_X11 (by decide) lk_X11_hull_3 e19 ?_
      refine j_iload_n (pc := 64) dX11_hull_64 rfl ?_
      obtain ⟨x20, e21, h⟩ := obS h
      refine j_iald (pc := 65) dX11_hull_65 e21 ?_
      obtain ⟨x24, w22, e23, h⟩ := obS2 h
      have ge23 := calSR_of e23
      refine j_callS_g (pc := 66) (As := [.int x16, .int x20]) (k' := 0) (n' := 0) dX11_hull_66 (s_X11_at ge23.1) gX11_hull_X11_at rfl hy_X11_at rfl (by decide) (by decide) (by decide) (by decide) (by decide) (by decide) (by decide) (Or.inl ge23.2) ?_
      refine j_icmp_ge (pc := 69) (tgt := 76) dX11_hull_69 (by decide) (fun c25 => ?_) (fun c25 => ?_)
      · rw [if_pos c25] at h
        refine j_mask [true, true, true, true, false, false, false, false, false] ?_
        exact jm_X11_hull_b76 (hk9 := hk9) _ _ _ _ w22 h
      · rw [if_neg c25] at h
        refine j_mask [true, true, false, true, false, false, false, false, false] ?_
        exact jm_X11_hull_b72 (hk9 := hk9) _ _ _ w22 h
def m_X11_hull_l9 : Nat → Nat → Int32 → Int32 → Int32 → LWd → Option LWd
  | 0, _, _, _, _, _ => none
  | fu + 1, a0, i1, i2, i3, ws =>
    if i3 < 0 then
      m_X11_hull_l86 FU a0 i1 i2 i2 ws
    else
      if ((i1 >>> (i3 &&& 31)) &&& 1) = 1 then
        m_X11_hull_b27 (fun z0 z1 z2 z3 w => m_X11_hull_l9 fu z0 z1 z2 z3 w) a0 i1 i2 i3 1 ws
      else
        m_X11_hull_b27 (fun z0 z1 z2 z3 w => m_X11_hull_l9 fu z0 z1 z2 z3 w) a0 i1 i2 i3 0 ws
set_option maxRecDepth 100000 in
set_option maxHeartbeats 4000000 in
theorem jm_X11_hull_l9 {n0 : Nat} {ws' : LWd} : ∀ (fu : Nat) (a0 : Nat) (i1 : Int32) (i2 : Int32) (i3 : Int32) (ws : LWd), m_X11_hull_l9 fu a0 i1 i2 i3 ws = some ws' → JG false cX11_hull 9 RX11 wsX11_hull none "hull" 1 0 0 n0 (.inl none, ws') 9 [some (.ref a0), some (.int i1), some (.int i2), some (.int i3), none, none, none, none, none] [] ws 0 0 := by
  intro fu
  induction fu with
  | zero => intro a0 i1 i2 i3 ws h; cases h
  | succ fu ih =>
    intro a0 i1 i2 i3 ws h
    rw [m_X11_hull_l9] at h
    refine j_iload_n (pc := 9) dX11_hull_9 rfl ?_
    refine j_if_lt (pc := 10) (tgt := 84) dX11_hull_10 (by decide) (fun c1 => ?_) (fun c1 => ?_)
    · rw [if_pos c1] at h
      refine j_iload_n (pc := 84) dX11_hull_84 rfl ?_
      refine j_istore_n_3 (pc := 85) dX11_hull_85 (by decide) rfl ?_
      exact jm_X11_hull_l86 FU _ _ _ _ ws h
    · rw [if_neg c1] at h
      refine j_iload_n (pc := 13) dX11_hull_13 rfl ?_
      refine j_iload_n (pc := 14) dX11_hull_14 rfl ?_
      refine j_ishr (pc := 15) dX11_hull_15 ?_
      refine j_iconst (pc := 16) dX11_hull_16 (v := 1) (by decide) ?_
      refine j_iand (pc := 17) dX11_hull_17 ?_
      refine j_iconst (pc := 18) dX11_hull_18 (v := 1) (by decide) ?_
      refine j_icmp_ne (pc := 19) (tgt := 26) dX11_hull_19 (by decide) (fun c2 => ?_) (fun c2 => ?_)
      · rw [if_neg c2] at h
        refine j_iconst (pc := 26) dX11_hull_26 (v := 0) (by decide) ?_
        exact jm_X11_hull_b27 (hk9 := ih) _ _ _ _ _ ws h
      · rw [if_pos c2] at h
        refine j_iconst (pc := 22) dX11_hull_22 (v := 1) (by decide) ?_
        refine j_goto (pc := 23) (tgt := 27) dX11_hull_23 (by decide) ?_
        exact jm_X11_hull_b27 (hk9 := ih) _ _ _ _ _ ws h
def m_X11_hull (a0 : Nat) (i1 : Int32) (ws : LWd) : Option LWd :=
  (rcv ws a0 11).bind fun _ =>
  (pV ws a0 11 28 (.int 0)).bind fun w1 =>
  m_X11_hull_l9 FU a0 i1 ((-1)) 5 w1
set_option maxRecDepth 100000 in
set_option maxHeartbeats 4000000 in
theorem s_X11_hull {a0 : Nat} {i1 : Int32} {ws : LWd} {ws' : LWd} (h : m_X11_hull a0 i1 ws = some ws') : jSp yX11_hull wsX11_hull 1 0 0 [.ref a0, .int i1] ws (.inl none, ws') := by
  unfold m_X11_hull at h
  refine j_entry (ret := none) (nm := "hull") (own := RX11) pl_X11 rfl rfl rfl (jcats (by rfl)) (by decide) ?_
  show JG false cX11_hull 9 RX11 wsX11_hull none "hull" 1 0 0 ws.length (.inl none, ws') 0 [some (.ref a0), some (.int i1), none, none, none, none, none, none, none] [] ws 0 0
  obtain ⟨_, _, h⟩ := obS h
  refine j_aload_n (pc := 0) dX11_hull_0 rfl ?_
  refine j_iconst (pc := 1) dX11_hull_1 (v := 0) (by decide) ?_
  obtain ⟨w1, e2, h⟩ := obS h
  refine j_putV (pc := 2) (ci := 11) (kf := 28) tyX11 tyX11_ok nmX11 dX11_hull_2 rfl hin_X11_hull_X11 (by decide) lk_X11_hull_1 rfl (fun _ => rfl) (fun _ => rfl) e2 ?_
  refine j_iconst (pc := 5) dX11_hull_5 (v := (-1)) (by decide) ?_
  refine j_istore_n_2 (pc := 6) dX11_hull_6 (by decide) rfl ?_
  refine j_iconst (pc := 7) dX11_hull_7 (v := 5) (by decide) ?_
  refine j_istore_n_3 (pc := 8) dX11_hull_8 (by decide) rfl ?_
  exact jm_X11_hull_l9 FU _ _ _ _ w1 h
theorem r_X11_hull {a0 : Nat} {i1 : Int32} {ws : LWd} {o : LWd} (h : m_X11_hull a0 i1 ws = some o) : ∃ fs, ws[a0]? = some (.inr (11, fs)) := rcv_in h
