/-! methods: written by wip/whole/make.py -/
def wsX11_tries : List Cond := Cond.code yX11_tries cX11_tries 3 (some .boolean) :: jW
def m_X11_tries_b88 (a0 : Nat) (i1 : Int32) (ws : LWd) : Option (Int32 × LWd) :=
  bn2 (calSR ws (m_X11_footholdOf a0 i1 ws)) fun x3 w1 =>
  if x3 = ((-1)) then
    some (0, w1)
  else
    (calSV w1 (m_X11_comesDown a0 i1 (jrem x3 20) (x3 / 20) w1)).bind fun w5 =>
    some (1, w5)
set_option maxRecDepth 100000 in
set_option maxHeartbeats 4000000 in
theorem jm_X11_tries_b88 {n0 : Nat} {rr : Int32} {ws' : LWd} (a0 : Nat) (i1 : Int32) (ws : LWd) (h : m_X11_tries_b88 a0 i1 ws = some (rr, ws')) : JG (.inl false) cX11_tries 3 RX11 wsX11_tries (some .boolean) "tries" 5 0 0 n0 (.inl (some (.int rr)), ws') 88 [some (.ref a0), some (.int i1), none] [] ws 0 0 := by
  unfold m_X11_tries_b88 at h
  refine j_aload_n (pc := 88) dX11_tries_88 rfl ?_
  refine j_iload_n (pc := 89) dX11_tries_89 rfl ?_
  obtain ⟨x3, w1, e2, h⟩ := obS2 h
  have ge2 := calSR_of e2
  refine j_callV_g (pc := 90) (As := [.int i1]) (k' := 0) (n' := 0) dX11_tries_90 (s_X11_footholdOf ge2.1) (jgV lw_713 lw_714 lw_715 lw_544 lw_712) rfl hv_X11_footholdOf rfl (r_X11_footholdOf ge2.1) rfl (by decide) (by decide) (Nat.le_of_ble_eq_true rfl) (by decide) (by decide) (by decide) (by decide) (Or.inl ge2.2) ?_
  refine j_istore_n_2 (pc := 93) dX11_tries_93 (by decide) rfl ?_
  refine j_iload_n (pc := 94) dX11_tries_94 rfl ?_
  refine j_iconst (pc := 95) dX11_tries_95 (v := (-1)) (by decide) ?_
  refine j_icmp_ne (pc := 96) (tgt := 101) dX11_tries_96 (by decide) (fun c4 => ?_) (fun c4 => ?_)
  · rw [if_neg c4] at h
    refine j_aload_n (pc := 101) dX11_tries_101 rfl ?_
    refine j_iload_n (pc := 102) dX11_tries_102 rfl ?_
    refine j_iload_n (pc := 103) dX11_tries_103 rfl ?_
    refine j_bipush (pc := 104) dX11_tries_104 (v := 20) (by decide) ?_
    refine j_irem (pc := 106) dX11_tries_106 (by decide) ?_
    refine j_iload_n (pc := 107) dX11_tries_107 rfl ?_
    refine j_bipush (pc := 108) dX11_tries_108 (v := 20) (by decide) ?_
    refine j_idiv (pc := 110) dX11_tries_110 (by decide) ?_
    obtain ⟨w5, e6, h⟩ := obS h
    have ge6 := calSV_of e6
    refine j_callV_g (pc := 111) (As := [.int i1, .int (jrem x3 20), .int (x3 / 20)]) (k' := 0) (n' := 0) dX11_tries_111 (s_X11_comesDown ge6.1) (jgV lw_621 lw_622 lw_623 lw_544 lw_620) rfl hv_X11_comesDown rfl (r_X11_comesDown ge6.1) rfl (by decide) (by decide) (Nat.le_of_ble_eq_true rfl) (by decide) (by decide) (by decide) (by decide) (Or.inl ge6.2) ?_
    refine j_iconst (pc := 114) dX11_tries_114 (v := 1) (by decide) ?_
    obtain ⟨rfl, rfl⟩ := jretS h
    exact j_zretL (pc := 115) (by decide) rfl dX11_tries_115 (by decide) (by decide) rfl
  · rw [if_pos c4] at h
    refine j_iconst (pc := 99) dX11_tries_99 (v := 0) (by decide) ?_
    obtain ⟨rfl, rfl⟩ := jretS h
    exact j_zretL (pc := 100) (by decide) rfl dX11_tries_100 (by decide) (by decide) rfl
def m_X11_tries_b49 (s0 : Nat) (s1 : Int32) (s2 : Int32) (ws : LWd) : Option (Int32 × LWd) :=
  bn2 (calSR ws (m_X11_moves s0 s1 s2 ws)) fun x3 w1 =>
  retZ x3 w1
set_option maxRecDepth 100000 in
set_option maxHeartbeats 4000000 in
theorem jm_X11_tries_b49 {n0 : Nat} {rr : Int32} {ws' : LWd} (s0 : Nat) (s1 : Int32) (s2 : Int32) (ws : LWd) (h : m_X11_tries_b49 s0 s1 s2 ws = some (rr, ws')) : JG (.inl false) cX11_tries 3 RX11 wsX11_tries (some .boolean) "tries" 5 0 0 n0 (.inl (some (.int rr)), ws') 49 [none, none, none] [.int s2, .int s1, .ref s0] ws 0 0 := by
  unfold m_X11_tries_b49 at h
  obtain ⟨x3, w1, e2, h⟩ := obS2 h
  have ge2 := calSR_of e2
  refine j_callV_g (pc := 49) (As := [.int s1, .int s2]) (k' := 0) (n' := 0) dX11_tries_49 (s_X11_moves ge2.1) (jgV lw_673 lw_674 lw_675 lw_544 lw_672) rfl hv_X11_moves rfl (r_X11_moves ge2.1) rfl (by decide) (by decide) (Nat.le_of_ble_eq_true rfl) (by decide) (by decide) (by decide) (by decide) (Or.inl ge2.2) ?_
  exact j_zret (pc := 52) rfl dX11_tries_52 (by decide) (by decide) h rfl rfl
def m_X11_tries_b30 (i2 : Int32) (s0 : Nat) (s1 : Int32) (ws : LWd) : Option (Int32 × LWd) :=
  if i2 = 2 then
    m_X11_tries_b49 s0 s1 ((-1)) ws
  else
    if i2 = 3 then
      m_X11_tries_b49 s0 s1 1 ws
    else
      m_X11_tries_b49 s0 s1 0 ws
set_option maxRecDepth 100000 in
set_option maxHeartbeats 4000000 in
theorem jm_X11_tries_b30 {n0 : Nat} {rr : Int32} {ws' : LWd} (i2 : Int32) (s0 : Nat) (s1 : Int32) (ws : LWd) (h : m_X11_tries_b30 i2 s0 s1 ws = some (rr, ws')) : JG (.inl false) cX11_tries 3 RX11 wsX11_tries (some .boolean) "tries" 5 0 0 n0 (.inl (some (.int rr)), ws') 30 [none, none, some (.int i2)] [.int s1, .ref s0] ws 0 0 := by
  unfold m_X11_tries_b30 at h
  refine j_iload_n (pc := 30) dX11_tries_30 rfl ?_
  refine j_iconst (pc := 31) dX11_tries_31 (v := 2) (by decide) ?_
  refine j_icmp_ne (pc := 32) (tgt := 39) dX11_tries_32 (by decide) (fun c1 => ?_) (fun c1 => ?_)
  · rw [if_neg c1] at h
    refine j_iload_n (pc := 39) dX11_tries_39 rfl ?_
    refine j_iconst (pc := 40) dX11_tries_40 (v := 3) (by decide) ?_
    refine j_icmp_ne (pc := 41) (tgt := 48) dX11_tries_41 (by decide) (fun c2 => ?_) (fun c2 => ?_)
    · rw [if_neg c2] at h
      refine j_iconst (pc := 48) dX11_tries_48 (v := 0) (by decide) ?_
      refine j_mask [false, false, false] ?_
      exact jm_X11_tries_b49 _ _ _ ws h
    · rw [if_pos c2] at h
      refine j_iconst (pc := 44) dX11_tries_44 (v := 1) (by decide) ?_
      refine j_goto (pc := 45) (tgt := 49) dX11_tries_45 (by decide) ?_
      refine j_mask [false, false, false] ?_
      exact jm_X11_tries_b49 _ _ _ ws h
  · rw [if_pos c1] at h
    refine j_iconst (pc := 35) dX11_tries_35 (v := (-1)) (by decide) ?_
    refine j_goto (pc := 36) (tgt := 49) dX11_tries_36 (by decide) ?_
    refine j_mask [false, false, false] ?_
    exact jm_X11_tries_b49 _ _ _ ws h
def m_X11_tries (a0 : Nat) (i1 : Int32) (ws : LWd) : Option (Int32 × LWd) :=
  (rcv ws a0 11).bind fun _ =>
  if i1 < 6 then
    (fI ws a0 11 11).bind fun x2 =>
    if x2 ≤ i1 then
      some (0, ws)
    else
      bn2 (calSR ws (m_X11_isDown a0 i1 ws)) fun x7 w5 =>
      if x7 = 0 then
        m_X11_tries_b88 a0 i1 w5
      else
        (fI w5 a0 11 17).bind fun x9 =>
        bn2 (calSR w5 (m_X11_holds a0 (x9 &&& ((1 <<< (i1 &&& 31)) ^^^ ((-1)))) w5)) fun x13 w11 =>
        if x13 = 0 then
          some (0, w11)
        else
          m_X11_tries_b88 a0 i1 w11
  else
    if (i1 - 6) = 0 then
      m_X11_tries_b30 (i1 - 6) a0 ((-1)) ws
    else
      if (i1 - 6) = 1 then
        m_X11_tries_b30 (i1 - 6) a0 1 ws
      else
        m_X11_tries_b30 (i1 - 6) a0 0 ws
set_option maxRecDepth 100000 in
set_option maxHeartbeats 4000000 in
theorem s_X11_tries {a0 : Nat} {i1 : Int32} {ws : LWd} {rr : Int32} {ws' : LWd} (h : m_X11_tries a0 i1 ws = some (rr, ws')) : jSp yX11_tries wsX11_tries 5 0 0 [.ref a0, .int i1] ws (.inl (some (.int rr)), ws') := by
  unfold m_X11_tries at h
  refine j_entry (ret := (some .boolean)) (nm := "tries") (own := RX11) pl_X11 rfl rfl rfl (jcats (by rfl)) (Nat.le_of_ble_eq_true rfl) ?_
  show JG (.inl false) cX11_tries 3 RX11 wsX11_tries (some .boolean) "tries" 5 0 0 ws.length (.inl (some (.int rr)), ws') 0 [some (.ref a0), some (.int i1), none] [] ws 0 0
  obtain ⟨_, _, h⟩ := obS h
  refine j_iload_n (pc := 0) dX11_tries_0 rfl ?_
  refine j_bipush (pc := 1) dX11_tries_1 (v := 6) (by decide) ?_
  refine j_icmp_lt (pc := 3) (tgt := 53) dX11_tries_3 (by decide) (fun c1 => ?_) (fun c1 => ?_)
  · rw [if_pos c1] at h
    refine j_iload_n (pc := 53) dX11_tries_53 rfl ?_
    refine j_aload_n (pc := 54) dX11_tries_54 rfl ?_
    obtain ⟨x2, e3, h⟩ := obS h
    refine j_getI (pc := 55) dX11_tries_55 (ci := 11) (kf := 11) rfl (jwi hw_X11) (by decide) (jwm lw_545) e3 ?_
    refine j_icmp_ge (pc := 58) (tgt := 86) dX11_tries_58 (by decide) (fun c4 => ?_) (fun c4 => ?_)
    · rw [if_pos c4] at h
      refine j_iconst (pc := 86) dX11_tries_86 (v := 0) (by decide) ?_
      obtain ⟨rfl, rfl⟩ := jretS h
      exact j_zretL (pc := 87) (by decide) rfl dX11_tries_87 (by decide) (by decide) rfl
    · rw [if_neg c4] at h
      refine j_aload_n (pc := 61) dX11_tries_61 rfl ?_
      refine j_iload_n (pc := 62) dX11_tries_62 rfl ?_
      obtain ⟨x7, w5, e6, h⟩ := obS2 h
      have ge6 := calSR_of e6
      refine j_callV_g (pc := 63) (As := [.int i1]) (k' := 0) (n' := 0) dX11_tries_63 (s_X11_isDown ge6.1) (jgV lw_548 lw_549 lw_550 lw_544 lw_547) rfl hv_X11_isDown rfl (r_X11_isDown ge6.1) rfl (by decide) (by decide) (Nat.le_of_ble_eq_true rfl) (by decide) (by decide) (by decide) (by decide) (Or.inl ge6.2) ?_
      refine j_if_eq (pc := 66) (tgt := 88) dX11_tries_66 (by decide) (fun c8 => ?_) (fun c8 => ?_)
      · rw [if_pos c8] at h
        exact jm_X11_tries_b88 _ _ w5 h
      · rw [if_neg c8] at h
        refine j_aload_n (pc := 69) dX11_tries_69 rfl ?_
        refine j_aload_n (pc := 70) dX11_tries_70 rfl ?_
        obtain ⟨x9, e10, h⟩ := obS h
        refine j_getI (pc := 71) dX11_tries_71 (ci := 11) (kf := 17) rfl (jwi hw_X11) (by decide) (jwm lw_546) e10 ?_
        refine j_iconst (pc := 74) dX11_tries_74 (v := 1) (by decide) ?_
        refine j_iload_n (pc := 75) dX11_tries_75 rfl ?_
        refine j_ishl (pc := 76) dX11_tries_76 ?_
        refine j_iconst (pc := 77) dX11_tries_77 (v := (-1)) (by decide) ?_
        refine j_ixor (pc := 78) dX11_tries_78 ?_
        refine j_iand (pc := 79) dX11_tries_79 ?_
        obtain ⟨x13, w11, e12, h⟩ := obS2 h
        have ge12 := calSR_of e12
        refine j_callV_g (pc := 80) (As := [.int (x9 &&& ((1 <<< (i1 &&& 31)) ^^^ ((-1))))]) (k' := 0) (n' := 0) dX11_tries_80 (s_X11_holds ge12.1) (jgV lw_645 lw_646 lw_647 lw_544 lw_644) rfl hv_X11_holds rfl (r_X11_holds ge12.1) rfl (by decide) (by decide) (Nat.le_of_ble_eq_true rfl) (by decide) (by decide) (by decide) (by decide) (Or.inl ge12.2) ?_
        refine j_if_ne (pc := 83) (tgt := 88) dX11_tries_83 (by decide) (fun c14 => ?_) (fun c14 => ?_)
        · rw [if_neg c14] at h
          exact jm_X11_tries_b88 _ _ w11 h
        · rw [if_pos c14] at h
          refine j_iconst (pc := 86) dX11_tries_86 (v := 0) (by decide) ?_
          obtain ⟨rfl, rfl⟩ := jretS h
          exact j_zretL (pc := 87) (by decide) rfl dX11_tries_87 (by decide) (by decide) rfl
  · rw [if_neg c1] at h
    refine j_iload_n (pc := 6) dX11_tries_6 rfl ?_
    refine j_bipush (pc := 7) dX11_tries_7 (v := 6) (by decide) ?_
    refine j_isub (pc := 9) dX11_tries_9 ?_
    refine j_istore_n_2 (pc := 10) dX11_tries_10 (by decide) rfl ?_
    refine j_aload_n (pc := 11) dX11_tries_11 rfl ?_
    refine j_iload_n (pc := 12) dX11_tries_12 rfl ?_
    refine j_if_ne (pc := 13) (tgt := 20) dX11_tries_13 (by decide) (fun c15 => ?_) (fun c15 => ?_)
    · rw [if_neg c15] at h
      refine j_iload_n (pc := 20) dX11_tries_20 rfl ?_
      refine j_iconst (pc := 21) dX11_tries_21 (v := 1) (by decide) ?_
      refine j_icmp_ne (pc := 22) (tgt := 29) dX11_tries_22 (by decide) (fun c16 => ?_) (fun c16 => ?_)
      · rw [if_neg c16] at h
        refine j_iconst (pc := 29) dX11_tries_29 (v := 0) (by decide) ?_
        refine j_mask [false, false, true] ?_
        exact jm_X11_tries_b30 _ _ _ ws h
      · rw [if_pos c16] at h
        refine j_iconst (pc := 25) dX11_tries_25 (v := 1) (by decide) ?_
        refine j_goto (pc := 26) (tgt := 30) dX11_tries_26 (by decide) ?_
        refine j_mask [false, false, true] ?_
        exact jm_X11_tries_b30 _ _ _ ws h
    · rw [if_pos c15] at h
      refine j_iconst (pc := 16) dX11_tries_16 (v := (-1)) (by decide) ?_
      refine j_goto (pc := 17) (tgt := 30) dX11_tries_17 (by decide) ?_
      refine j_mask [false, false, true] ?_
      exact jm_X11_tries_b30 _ _ _ ws h
theorem r_X11_tries {a0 : Nat} {i1 : Int32} {ws : LWd} {o : (Int32 × LWd)} (h : m_X11_tries a0 i1 ws = some o) : ∃ fs, ws[a0]? = some (.inr (11, fs)) := rcv_in h
def wsX11_fewest : List Cond := Cond.code yX11_fewest cX11_fewest 15 (some .int) :: jW
def m_X11_fewest_b297 (k124 : Nat → Int32 → Int32 → Int32 → Int32 → Int32 → Nat → Nat → Int32 → Int32 → Int32 → LWd → Option (Int32 × LWd)) (a0 : Nat) (i1 : Int32) (i2 : Int32) (i3 : Int32) (i4 : Int32) (i5 : Int32) (a6 : Nat) (a7 : Nat) (i8 : Int32) (i9 : Int32) (i10 : Int32) (ws : LWd) : Option (Int32 × LWd) :=
  k124 a0 i1 i2 i3 i4 i5 a6 a7 i8 i9 (i10 + 1) ws
set_option maxRecDepth 100000 in
set_option maxHeartbeats 4000000 in
theorem jm_X11_fewest_b297 {n0 : Nat} {rr : Int32} {ws' : LWd} {k124 : Nat → Int32 → Int32 → Int32 → Int32 → Int32 → Nat → Nat → Int32 → Int32 → Int32 → LWd → Option (Int32 × LWd)} (hk124 : ∀ (a0 : Nat) (i1 : Int32) (i2 : Int32) (i3 : Int32) (i4 : Int32) (i5 : Int32) (a6 : Nat) (a7 : Nat) (i8 : Int32) (i9 : Int32) (i10 : Int32) (ws : LWd), k124 a0 i1 i2 i3 i4 i5 a6 a7 i8 i9 i10 ws = some (rr, ws') → JG (.inl false) cX11_fewest 15 RX11 wsX11_fewest (some .int) "fewest" 6 2 800 n0 (.inl (some (.int rr)), ws') 124 [some (.ref a0), some (.int i1), some (.int i2), some (.int i3), some (.int i4), some (.int i5), some (.ref a6), some (.ref a7), some (.int i8), some (.int i9), some (.int i10), none, none, none, none] [] ws 2 800) (a0 : Nat) (i1 : Int32) (i2 : Int32) (i3 : Int32) (i4 : Int32) (i5 : Int32) (a6 : Nat) (a7 : Nat) (i8 : Int32) (i9 : Int32) (i10 : Int32) (ws : LWd) (h : m_X11_fewest_b297 k124 a0 i1 i2 i3 i4 i5 a6 a7 i8 i9 i10 ws = some (rr, ws')) : JG (.inl false) cX11_fewest 15 RX11 wsX11_fewest (some .int) "fewest" 6 2 800 n0 (.inl (some (.int rr)), ws') 297 [some (.ref a0), some (.int i1), some (.int i2), some (.int i3), some (.int i4), some (.int i5), some (.ref a6), some (.ref a7), some (.int i8), some (.int i9), some (.int i10), none, none, none, none] [] ws 2 800 := by
  unfold m_X11_fewest_b297 at h
  refine j_iinc_10 (pc := 297) dX11_fewest_297 (y := i10 + 1) rfl (by decide) rfl ?_
  refine j_goto (pc := 300) (tgt := 124) dX11_fewest_300 (by decide) ?_
  exact hk124 _ _ _ _ _ _ _ _ _ _ _ ws h
def m_X11_fewest_l254 (k124 : Nat → Int32 → Int32 → Int32 → Int32 → Int32 → Nat → Nat → Int32 → Int32 → Int32 → LWd → Option (Int32 × LWd)) (k146 : Nat → Int32 → Int32 → Int32 → Int32 → Int32 → Nat → Nat → Int32 → Int32 → Int32 → Int32 → LWd → Option (Int32 × LWd)) : Nat → Nat → Int32 → Int32 → Int32 → Int32 → Int32 → Nat → Nat → Int32 → Int32 → Int32 → Int32 → Int32 → LWd → Option (Int32 × LWd)
  | 0, _, _, _, _, _, _, _, _, _, _, _, _, _, _ => none
  | fu + 1, a0, i1, i2, i3, i4, i5, a6, a7, i8, i9, i10, i11, i14, ws =>
    if 6 ≤ i14 then
      k146 a0 i1 i2 i3 i4 i5 a6 a7 i8 i9 i10 (i11 + 1) ws
    else
      (fR ws a0 11 15).bind fun x2 =>
      (aI ws a6 i14).bind fun x4 =>
      (sI ws x2 i14 x4).bind fun w6 =>
      (fR w6 a0 11 16).bind fun x8 =>
      (aI w6 a7 i14).bind fun x10 =>
      (sI w6 x8 i14 x10).bind fun w12 =>
      m_X11_fewest_l254 k124 k146 fu a0 i1 i2 i3 i4 i5 a6 a7 i8 i9 i10 i11 (i14 + 1) w12
set_option maxRecDepth 100000 in
set_option maxHeartbeats 4000000 in
theorem jm_X11_fewest_l254 {n0 : Nat} {rr : Int32} {ws' : LWd} {k124 : Nat → Int32 → Int32 → Int32 → Int32 → Int32 → Nat → Nat → Int32 → Int32 → Int32 → LWd → Option (Int32 × LWd)} {k146 : Nat → Int32 → Int32 → Int32 → Int32 → Int32 → Nat → Nat → Int32 → Int32 → Int32 → Int32 → LWd → Option (Int32 × LWd)} (hk124 : ∀ (a0 : Nat) (i1 : Int32) (i2 : Int32) (i3 : Int32) (i4 : Int32) (i5 : Int32) (a6 : Nat) (a7 : Nat) (i8 : Int32) (i9 : Int32) (i10 : Int32) (ws : LWd), k124 a0 i1 i2 i3 i4 i5 a6 a7 i8 i9 i10 ws = some (rr, ws') → JG (.inl false) cX11_fewest 15 RX11 wsX11_fewest (some .int) "fewest" 6 2 800 n0 (.inl (some (.int rr)), ws') 124 [some (.ref a0), some (.int i1), some (.int i2), some (.int i3), some (.int i4), some (.int i5), some (.ref a6), some (.ref a7), some (.int i8), some (.int i9), some (.int i10), none, none, none, none] [] ws 2 800) (hk146 : ∀ (a0 : Nat) (i1 : Int32) (i2 : Int32) (i3 : Int32) (i4 : Int32) (i5 : Int32) (a6 : Nat) (a7 : Nat) (i8 : Int32) (i9 : Int32) (i10 : Int32) (i11 : Int32) (ws : LWd), k146 a0 i1 i2 i3 i4 i5 a6 a7 i8 i9 i10 i11 ws = some (rr, ws') → JG (.inl false) cX11_fewest 15 RX11 wsX11_fewest (some .int) "fewest" 6 2 800 n0 (.inl (some (.int rr)), ws') 146 [some (.ref a0), some (.int i1), some (.int i2), some (.int i3), some (.int i4), some (.int i5), some (.ref a6), some (.ref a7), some (.int i8), some (.int i9), some (.int i10), some (.int i11), none, none, none] [] ws 2 800) : ∀ (fu : Nat) (a0 : Nat) (i1 : Int32) (i2 : Int32) (i3 : Int32) (i4 : Int32) (i5 : Int32) (a6 : Nat) (a7 : Nat) (i8 : Int32) (i9 : Int32) (i10 : Int32) (i11 : Int32) (i14 : Int32) (ws : LWd), m_X11_fewest_l254 k124 k146 fu a0 i1 i2 i3 i4 i5 a6 a7 i8 i9 i10 i11 i14 ws = some (rr, ws') → JG (.inl false) cX11_fewest 15 RX11 wsX11_fewest (some .int) "fewest" 6 2 800 n0 (.inl (some (.int rr)), ws') 254 [some (.ref a0), some (.int i1), some (.int i2), some (.int i3), some (.int i4), some (.int i5), some (.ref a6), some (.ref a7), some (.int i8), some (.int i9), some (.int i10), some (.int i11), none, none, some (.int i14)] [] ws 2 800 := by
  intro fu
  induction fu with
  | zero => intro a0 i1 i2 i3 i4 i5 a6 a7 i8 i9 i10 i11 i14 ws h; cases h
  | succ fu ih =>
    intro a0 i1 i2 i3 i4 i5 a6 a7 i8 i9 i10 i11 i14 ws h
    rw [m_X11_fewest_l254] at h
    refine j_iload (pc := 254) dX11_fewest_254 rfl ?_
    refine j_bipush (pc := 256) dX11_fewest_256 (v := 6) (by decide) ?_
    refine j_icmp_ge (pc := 258) (tgt := 291) dX11_fewest_258 (by decide) (fun c1 => ?_) (fun c1 => ?_)
    · rw [if_pos c1] at h
      refine j_iinc_11 (pc := 291) dX11_fewest_291 (y := i11 + 1) rfl (by decide) rfl ?_
      refine j_goto (pc := 294) (tgt := 146) dX11_fewest_294 (by decide) ?_
      refine j_mask [true, true, true, true, true, true, true, true, true, true, true, true, false, false, false] ?_
      exact hk146 _ _ _ _ _ _ _ _ _ _ _ _ ws h
    · rw [if_neg c1] at h
      refine j_aload_n (pc := 261) dX11_fewest_261 rfl ?_
      obtain ⟨x2, e3, h⟩ := obS h
      refine j_getR (pc := 262) dX11_fewest_262 (ci := 11) (kf := 15) rfl (jwi hw_X11) (by decide) (jwm lw_535) e3 ?_
      refine j_iload (pc := 265) dX11_fewest_265 rfl ?_
      refine j_aload (pc := 267) dX11_fewest_267 rfl ?_
      refine j_iload (pc := 269) dX11_fewest_269 rfl ?_
      obtain ⟨x4, e5, h⟩ := obS h
      refine j_iald (pc := 271) dX11_fewest_271 e5 ?_
      obtain ⟨w6, e7, h⟩ := obS h
      refine j_iast (pc := 272) dX11_fewest_272 e7 ?_
      refine j_aload_n (pc := 273) dX11_fewest_273 rfl ?_
      obtain ⟨x8, e9, h⟩ := obS h
      refine j_getR (pc := 274) dX11_fewest_274 (ci := 11) (kf := 16) rfl (jwi hw_X11) (by decide) (jwm lw_536) e9 ?_
      refine j_iload (pc := 277) dX11_fewest_277 rfl ?_
      refine j_aload (pc := 279) dX11_fewest_279 rfl ?_
      refine j_iload (pc := 281) dX11_fewest_281 rfl ?_
      obtain ⟨x10, e11, h⟩ := obS h
      refine j_iald (pc := 283) dX11_fewest_283 e11 ?_
      obtain ⟨w12, e13, h⟩ := obS h
      refine j_iast (pc := 284) dX11_fewest_284 e13 ?_
      refine j_iinc_14 (pc := 285) dX11_fewest_285 (y := i14 + 1) rfl (by decide) rfl ?_
      refine j_goto (pc := 288) (tgt := 254) dX11_fewest_288 (by decide) ?_
      exact ih _ _ _ _ _ _ _ _ _ _ _ _ _ w12 h
def m_X11_fewest_b232 (k124 : Nat → Int32 → Int32 → Int32 → Int32 → Int32 → Nat → Nat → Int32 → Int32 → Int32 → LWd → Option (Int32 × LWd)) (k146 : Nat → Int32 → Int32 → Int32 → Int32 → Int32 → Nat → Nat → Int32 → Int32 → Int32 → Int32 → LWd → Option (Int32 × LWd)) (a0 : Nat) (i1 : Int32) (i2 : Int32) (i3 : Int32) (i4 : Int32) (i5 : Int32) (a6 : Nat) (a7 : Nat) (i9 : Int32) (i10 : Int32) (i11 : Int32) (s0 : Int32) (ws : LWd) : Option (Int32 × LWd) :=
  (pV ws a0 11 5 (.int i3)).bind fun w1 =>
  (pV w1 a0 11 6 (.int i4)).bind fun w3 =>
  (pV w3 a0 11 17 (.int i5)).bind fun w5 =>
  m_X11_fewest_l254 k124 k146 FU a0 i1 i2 i3 i4 i5 a6 a7 s0 i9 i10 i11 0 w5
set_option maxRecDepth 100000 in
set_option maxHeartbeats 4000000 in
theorem jm_X11_fewest_b232 {n0 : Nat} {rr : Int32} {ws' : LWd} {k124 : Nat → Int32 → Int32 → Int32 → Int32 → Int32 → Nat → Nat → Int32 → Int32 → Int32 → LWd → Option (Int32 × LWd)} {k146 : Nat → Int32 → Int32 → Int32 → Int32 → Int32 → Nat → Nat → Int32 → Int32 → Int32 → Int32 → LWd → Option (Int32 × LWd)} (hk124 : ∀ (a0 : Nat) (i1 : Int32) (i2 : Int32) (i3 : Int32) (i4 : Int32) (i5 : Int32) (a6 : Nat) (a7 : Nat) (i8 : Int32) (i9 : Int32) (i10 : Int32) (ws : LWd), k124 a0 i1 i2 i3 i4 i5 a6 a7 i8 i9 i10 ws = some (rr, ws') → JG (.inl false) cX11_fewest 15 RX11 wsX11_fewest (some .int) "fewest" 6 2 800 n0 (.inl (some (.int rr)), ws') 124 [some (.ref a0), some (.int i1), some (.int i2), some (.int i3), some (.int i4), some (.int i5), some (.ref a6), some (.ref a7), some (.int i8), some (.int i9), some (.int i10), none, none, none, none] [] ws 2 800) (hk146 : ∀ (a0 : Nat) (i1 : Int32) (i2 : Int32) (i3 : Int32) (i4 : Int32) (i5 : Int32) (a6 : Nat) (a7 : Nat) (i8 : Int32) (i9 : Int32) (i10 : Int32) (i11 : Int32) (ws : LWd), k146 a0 i1 i2 i3 i4 i5 a6 a7 i8 i9 i10 i11 ws = some (rr, ws') → JG (.inl false) cX11_fewest 15 RX11 wsX11_fewest (some .int) "fewest" 6 2 800 n0 (.inl (some (.int rr)), ws') 146 [some (.ref a0), some (.int i1), some (.int i2), some (.int i3), some (.int i4), some (.int i5), some (.ref a6), some (.ref a7), some (.int i8), some (.int i9), some (.int i10), some (.int i11), none, none, none] [] ws 2 800) (a0 : Nat) (i1 : Int32) (i2 : Int32) (i3 : Int32) (i4 : Int32) (i5 : Int32) (a6 : Nat) (a7 : Nat) (i9 : Int32) (i10 : Int32) (i11 : Int32) (s0 : Int32) (ws : LWd) (h : m_X11_fewest_b232 k124 k146 a0 i1 i2 i3 i4 i5 a6 a7 i9 i10 i11 s0 ws = some (rr, ws')) : JG (.inl false) cX11_fewest 15 RX11 wsX11_fewest (some .int) "fewest" 6 2 800 n0 (.inl (some (.int rr)), ws') 232 [some (.ref a0), some (.int i1), some (.int i2), some (.int i3), some (.int i4), some (.int i5), some (.ref a6), some (.ref a7), none, some (.int i9), some (.int i10), some (.int i11), none, none, none] [.int s0] ws 2 800 := by
  unfold m_X11_fewest_b232 at h
  refine j_istore_8 (pc := 232) dX11_fewest_232 (by decide) rfl ?_
  refine j_aload_n (pc := 234) dX11_fewest_234 rfl ?_
  refine j_iload_n (pc := 235) dX11_fewest_235 rfl ?_
  obtain ⟨w1, e2, h⟩ := obS h
  refine j_putV (pc := 236) (ci := 11) (kf := 5) tyX11 tyX11_ok nmX11 dX11_fewest_236 rfl (jwi hw_X11) (by decide) (jwm lw_529) rfl (fun _ => rfl) (fun _ => rfl) e2 ?_
  refine j_aload_n (pc := 239) dX11_fewest_239 rfl ?_
  refine j_iload (pc := 240) dX11_fewest_240 rfl ?_
  obtain ⟨w3, e4, h⟩ := obS h
  refine j_putV (pc := 242) (ci := 11) (kf := 6) tyX11 tyX11_ok nmX11 dX11_fewest_242 rfl (jwi hw_X11) (by decide) (jwm lw_530) rfl (fun _ => rfl) (fun _ => rfl) e4 ?_
  refine j_aload_n (pc := 245) dX11_fewest_245 rfl ?_
  refine j_iload (pc := 246) dX11_fewest_246 rfl ?_
  obtain ⟨w5, e6, h⟩ := obS h
  refine j_putV (pc := 248) (ci := 11) (kf := 17) tyX11 tyX11_ok nmX11 dX11_fewest_248 rfl (jwi hw_X11) (by decide) (jwm lw_546) rfl (fun _ => rfl) (fun _ => rfl) e6 ?_
  refine j_iconst (pc := 251) dX11_fewest_251 (v := 0) (by decide) ?_
  refine j_istore_14 (pc := 252) dX11_fewest_252 (by decide) rfl ?_
  exact jm_X11_fewest_l254 (hk124 := hk124) (hk146 := hk146) FU _ _ _ _ _ _ _ _ _ _ _ _ _ w5 h
def m_X11_fewest_b231 (k124 : Nat → Int32 → Int32 → Int32 → Int32 → Int32 → Nat → Nat → Int32 → Int32 → Int32 → LWd → Option (Int32 × LWd)) (k146 : Nat → Int32 → Int32 → Int32 → Int32 → Int32 → Nat → Nat → Int32 → Int32 → Int32 → Int32 → LWd → Option (Int32 × LWd)) (a0 : Nat) (i1 : Int32) (i2 : Int32) (i3 : Int32) (i4 : Int32) (i5 : Int32) (a6 : Nat) (a7 : Nat) (i9 : Int32) (i10 : Int32) (i11 : Int32) (ws : LWd) : Option (Int32 × LWd) :=
  m_X11_fewest_b232 k124 k146 a0 i1 i2 i3 i4 i5 a6 a7 i9 i10 i11 ((-1)) ws
set_option maxRecDepth 100000 in
set_option maxHeartbeats 4000000 in
theorem jm_X11_fewest_b231 {n0 : Nat} {rr : Int32} {ws' : LWd} {k124 : Nat → Int32 → Int32 → Int32 → Int32 → Int32 → Nat → Nat → Int32 → Int32 → Int32 → LWd → Option (Int32 × LWd)} {k146 : Nat → Int32 → Int32 → Int32 → Int32 → Int32 → Nat → Nat → Int32 → Int32 → Int32 → Int32 → LWd → Option (Int32 × LWd)} (hk124 : ∀ (a0 : Nat) (i1 : Int32) (i2 : Int32) (i3 : Int32) (i4 : Int32) (i5 : Int32) (a6 : Nat) (a7 : Nat) (i8 : Int32) (i9 : Int32) (i10 : Int32) (ws : LWd), k124 a0 i1 i2 i3 i4 i5 a6 a7 i8 i9 i10 ws = some (rr, ws') → JG (.inl false) cX11_fewest 15 RX11 wsX11_fewest (some .int) "fewest" 6 2 800 n0 (.inl (some (.int rr)), ws') 124 [some (.ref a0), some (.int i1), some (.int i2), some (.int i3), some (.int i4), some (.int i5), some (.ref a6), some (.ref a7), some (.int i8), some (.int i9), some (.int i10), none, none, none, none] [] ws 2 800) (hk146 : ∀ (a0 : Nat) (i1 : Int32) (i2 : Int32) (i3 : Int32) (i4 : Int32) (i5 : Int32) (a6 : Nat) (a7 : Nat) (i8 : Int32) (i9 : Int32) (i10 : Int32) (i11 : Int32) (ws : LWd), k146 a0 i1 i2 i3 i4 i5 a6 a7 i8 i9 i10 i11 ws = some (rr, ws') → JG (.inl false) cX11_fewest 15 RX11 wsX11_fewest (some .int) "fewest" 6 2 800 n0 (.inl (some (.int rr)), ws') 146 [some (.ref a0), some (.int i1), some (.int i2), some (.int i3), some (.int i4), some (.int i5), some (.ref a6), some (.ref a7), some (.int i8), some (.int i9), some (.int i10), some (.int i11), none, none, none] [] ws 2 800) (a0 : Nat) (i1 : Int32) (i2 : Int32) (i3 : Int32) (i4 : Int32) (i5 : Int32) (a6 : Nat) (a7 : Nat) (i9 : Int32) (i10 : Int32) (i11 : Int32) (ws : LWd) (h : m_X11_fewest_b231 k124 k146 a0 i1 i2 i3 i4 i5 a6 a7 i9 i10 i11 ws = some (rr, ws')) : JG (.inl false) cX11_fewest 15 RX11 wsX11_fewest (some .int) "fewest" 6 2 800 n0 (.inl (some (.int rr)), ws') 231 [some (.ref a0), some (.int i1), some (.int i2), some (.int i3), some (.int i4), some (.int i5), some (.ref a6), some (.ref a7), none, some (.int i9), some (.int i10), some (.int i11), none, none, none] [] ws 2 800 := by
  unfold m_X11_fewest_b231 at h
  refine j_iconst (pc := 231) dX11_fewest_231 (v := (-1)) (by decide) ?_
  exact jm_X11_fewest_b232 (hk124 := hk124) (hk146 := hk146) _ _ _ _ _ _ _ _ _ _ _ _ ws h
def m_X11_fewest_b205 (k124 : Nat → Int32 → Int32 → Int32 → Int32 → Int32 → Nat → Nat → Int32 → Int32 → Int32 → LWd → Option (Int32 × LWd)) (k146 : Nat → Int32 → Int32 → Int32 → Int32 → Int32 → Nat → Nat → Int32 → Int32 → Int32 → Int32 → LWd → Option (Int32 × LWd)) (a0 : Nat) (i1 : Int32) (i2 : Int32) (i3 : Int32) (i4 : Int32) (i5 : Int32) (a6 : Nat) (a7 : Nat) (i9 : Int32) (i10 : Int32) (i11 : Int32) (i12 : Int32) (ws : LWd) : Option (Int32 × LWd) :=
  if i12 = 0 then
    m_X11_fewest_b231 k124 k146 a0 i1 i2 i3 i4 i5 a6 a7 i9 i10 i11 ws
  else
    (fI ws a0 11 5).bind fun x2 =>
    if x2 = i1 then
      (fI ws a0 11 6).bind fun x5 =>
      if x5 = i2 then
        m_X11_fewest_b232 k124 k146 a0 i1 i2 i3 i4 i5 a6 a7 i9 i10 i11 i10 ws
      else
        m_X11_fewest_b231 k124 k146 a0 i1 i2 i3 i4 i5 a6 a7 i9 i10 i11 ws
    else
      m_X11_fewest_b231 k124 k146 a0 i1 i2 i3 i4 i5 a6 a7 i9 i10 i11 ws
set_option maxRecDepth 100000 in
set_option maxHeartbeats 4000000 in
theorem jm_X11_fewest_b205 {n0 : Nat} {rr : Int32} {ws' : LWd} {k124 : Nat → Int32 → Int32 → Int32 → Int32 → Int32 → Nat → Nat → Int32 → Int32 → Int32 → LWd → Option (Int32 × LWd)} {k146 : Nat → Int32 → Int32 → Int32 → Int32 → Int32 → Nat → Nat → Int32 → Int32 → Int32 → Int32 → LWd → Option (Int32 × LWd)} (hk124 : ∀ (a0 : Nat) (i1 : Int32) (i2 : Int32) (i3 : Int32) (i4 : Int32) (i5 : Int32) (a6 : Nat) (a7 : Nat) (i8 : Int32) (i9 : Int32) (i10 : Int32) (ws : LWd), k124 a0 i1 i2 i3 i4 i5 a6 a7 i8 i9 i10 ws = some (rr, ws') → JG (.inl false) cX11_fewest 15 RX11 wsX11_fewest (some .int) "fewest" 6 2 800 n0 (.inl (some (.int rr)), ws') 124 [some (.ref a0), some (.int i1), some (.int i2), some (.int i3), some (.int i4), some (.int i5), some (.ref a6), some (.ref a7), some (.int i8), some (.int i9), some (.int i10), none, none, none, none] [] ws 2 800) (hk146 : ∀ (a0 : Nat) (i1 : Int32) (i2 : Int32) (i3 : Int32) (i4 : Int32) (i5 : Int32) (a6 : Nat) (a7 : Nat) (i8 : Int32) (i9 : Int32) (i10 : Int32) (i11 : Int32) (ws : LWd), k146 a0 i1 i2 i3 i4 i5 a6 a7 i8 i9 i10 i11 ws = some (rr, ws') → JG (.inl false) cX11_fewest 15 RX11 wsX11_fewest (some .int) "fewest" 6 2 800 n0 (.inl (some (.int rr)), ws') 146 [some (.ref a0), some (.int i1), some (.int i2), some (.int i3), some (.int i4), some (.int i5), some (.ref a6), some (.ref a7), some (.int i8), some (.int i9), some (.int i10), some (.int i11), none, none, none] [] ws 2 800) (a0 : Nat) (i1 : Int32) (i2 : Int32) (i3 : Int32) (i4 : Int32) (i5 : Int32) (a6 : Nat) (a7 : Nat) (i9 : Int32) (i10 : Int32) (i11 : Int32) (i12 : Int32) (ws : LWd) (h : m_X11_fewest_b205 k124 k146 a0 i1 i2 i3 i4 i5 a6 a7 i9 i10 i11 i12 ws = some (rr, ws')) : JG (.inl false) cX11_fewest 15 RX11 wsX11_fewest (some .int) "fewest" 6 2 800 n0 (.inl (some (.int rr)), ws') 205 [some (.ref a0), some (.int i1), some (.int i2), some (.int i3), some (.int i4), some (.int i5), some (.ref a6), some (.ref a7), none, some (.int i9), some (.int i10), some (.int i11), some (.int i12), none, none] [] ws 2 800 := by
  unfold m_X11_fewest_b205 at h
  refine j_iload (pc := 205) dX11_fewest_205 rfl ?_
  refine j_if_eq (pc := 207) (tgt := 231) dX11_fewest_207 (by decide) (fun c1 => ?_) (fun c1 => ?_)
  · rw [if_pos c1] at h
    refine j_mask [true, true, true, true, true, true, true, true, false, true, true, true, false, false, false] ?_
    exact jm_X11_fewest_b231 (hk124 := hk124) (hk146 := hk146) _ _ _ _ _ _ _ _ _ _ _ ws h
  · rw [if_neg c1] at h
    refine j_aload_n (pc := 210) dX11_fewest_210 rfl ?_
    obtain ⟨x2, e3, h⟩ := obS h
    refine j_getI (pc := 211) dX11_fewest_211 (ci := 11) (kf := 5) rfl (jwi hw_X11) (by decide) (jwm lw_529) e3 ?_
    refine j_iload_n (pc := 214) dX11_fewest_214 rfl ?_
    refine j_icmp_ne (pc := 215) (tgt := 231) dX11_fewest_215 (by decide) (fun c4 => ?_) (fun c4 => ?_)
    · rw [if_neg c4] at h
      refine j_mask [true, true, true, true, true, true, true, true, false, true, true, true, false, false, false] ?_
      exact jm_X11_fewest_b231 (hk124 := hk124) (hk146 := hk146) _ _ _ _ _ _ _ _ _ _ _ ws h
    · rw [if_pos c4] at h
      refine j_aload_n (pc := 218) dX11_fewest_218 rfl ?_
      obtain ⟨x5, e6, h⟩ := obS h
      refine j_getI (pc := 219) dX11_fewest_219 (ci := 11) (kf := 6) rfl (jwi hw_X11) (by decide) (jwm lw_530) e6 ?_
      refine j_iload_n (pc := 222) dX11_fewest_222 rfl ?_
      refine j_icmp_ne (pc := 223) (tgt := 231) dX11_fewest_223 (by decide) (fun c7 => ?_) (fun c7 => ?_)
      · rw [if_neg c7] at h
        refine j_mask [true, true, true, true, true, true, true, true, false, true, true, true, false, false, false] ?_
        exact jm_X11_fewest_b231 (hk124 := hk124) (hk146 := hk146) _ _ _ _ _ _ _ _ _ _ _ ws h
      · rw [if_pos c7] at h
        refine j_iload (pc := 226) dX11_fewest_226 rfl ?_
        refine j_goto (pc := 228) (tgt := 232) dX11_fewest_228 (by decide) ?_
        refine j_mask [true, true, true, true, true, true, true, true, false, true, true, true, false, false, false] ?_
        exact jm_X11_fewest_b232 (hk124 := hk124) (hk146 := hk146) _ _ _ _ _ _ _ _ _ _ _ _ ws h
def m_X11_fewest_l169 (k124 : Nat → Int32 → Int32 → Int32 → Int32 → Int32 → Nat → Nat → Int32 → Int32 → Int32 → LWd → Option (Int32 × LWd)) (k146 : Nat → Int32 → Int32 → Int32 → Int32 → Int32 → Nat → Nat → Int32 → Int32 → Int32 → Int32 → LWd → Option (Int32 × LWd)) : Nat → Nat → Int32 → Int32 → Int32 → Int32 → Int32 → Nat → Nat → Int32 → Int32 → Int32 → Int32 → Int32 → Int32 → LWd → Option (Int32 × LWd)
  | 0, _, _, _, _, _, _, _, _, _, _, _, _, _, _, _ => none
  | fu + 1, a0, i1, i2, i3, i4, i5, a6, a7, i9, i10, i11, i12, i13, i14, ws =>
    if i10 ≤ i14 then
      m_X11_fewest_b205 k124 k146 a0 i1 i2 i3 i4 i5 a6 a7 i9 i10 i11 i12 ws
    else
      if i12 = 0 then
        m_X11_fewest_b205 k124 k146 a0 i1 i2 i3 i4 i5 a6 a7 i9 i10 i11 i12 ws
      else
        bn2 (calSR ws (m_X11_tries a0 (jrem i13 10) ws)) fun x5 w3 =>
        m_X11_fewest_l169 k124 k146 fu a0 i1 i2 i3 i4 i5 a6 a7 i9 i10 i11 x5 (i13 / 10) (i14 + 1) w3
set_option maxRecDepth 100000 in
set_option maxHeartbeats 4000000 in
theorem jm_X11_fewest_l169 {n0 : Nat} {rr : Int32} {ws' : LWd} {k124 : Nat → Int32 → Int32 → Int32 → Int32 → Int32 → Nat → Nat → Int32 → Int32 → Int32 → LWd → Option (Int32 × LWd)} {k146 : Nat → Int32 → Int32 → Int32 → Int32 → Int32 → Nat → Nat → Int32 → Int32 → Int32 → Int32 → LWd → Option (Int32 × LWd)} (hk124 : ∀ (a0 : Nat) (i1 : Int32) (i2 : Int32) (i3 : Int32) (i4 : Int32) (i5 : Int32) (a6 : Nat) (a7 : Nat) (i8 : Int32) (i9 : Int32) (i10 : Int32) (ws : LWd), k124 a0 i1 i2 i3 i4 i5 a6 a7 i8 i9 i10 ws = some (rr, ws') → JG (.inl false) cX11_fewest 15 RX11 wsX11_fewest (some .int) "fewest" 6 2 800 n0 (.inl (some (.int rr)), ws') 124 [some (.ref a0), some (.int i1), some (.int i2), some (.int i3), some (.int i4), some (.int i5), some (.ref a6), some (.ref a7), some (.int i8), some (.int i9), some (.int i10), none, none, none, none] [] ws 2 800) (hk146 : ∀ (a0 : Nat) (i1 : Int32) (i2 : Int32) (i3 : Int32) (i4 : Int32) (i5 : Int32) (a6 : Nat) (a7 : Nat) (i8 : Int32) (i9 : Int32) (i10 : Int32) (i11 : Int32) (ws : LWd), k146 a0 i1 i2 i3 i4 i5 a6 a7 i8 i9 i10 i11 ws = some (rr, ws') → JG (.inl false) cX11_fewest 15 RX11 wsX11_fewest (some .int) "fewest" 6 2 800 n0 (.inl (some (.int rr)), ws') 146 [some (.ref a0), some (.int i1), some (.int i2), some (.int i3), some (.int i4), some (.int i5), some (.ref a6), some (.ref a7), some (.int i8), some (.int i9), some (.int i10), some (.int i11), none, none, none] [] ws 2 800) : ∀ (fu : Nat) (a0 : Nat) (i1 : Int32) (i2 : Int32) (i3 : Int32) (i4 : Int32) (i5 : Int32) (a6 : Nat) (a7 : Nat) (i9 : Int32) (i10 : Int32) (i11 : Int32) (i12 : Int32) (i13 : Int32) (i14 : Int32) (ws : LWd), m_X11_fewest_l169 k124 k146 fu a0 i1 i2 i3 i4 i5 a6 a7 i9 i10 i11 i12 i13 i14 ws = some (rr, ws') → JG (.inl false) cX11_fewest 15 RX11 wsX11_fewest (some .int) "fewest" 6 2 800 n0 (.inl (some (.int rr)), ws') 169 [some (.ref a0), some (.int i1), some (.int i2), some (.int i3), some (.int i4), some (.int i5), some (.ref a6), some (.ref a7), none, some (.int i9), some (.int i10), some (.int i11), some (.int i12), some (.int i13), some (.int i14)] [] ws 2 800 := by
  intro fu
  induction fu with
  | zero => intro a0 i1 i2 i3 i4 i5 a6 a7 i9 i10 i11 i12 i13 i14 ws h; cases h
  | succ fu ih =>
    intro a0 i1 i2 i3 i4 i5 a6 a7 i9 i10 i11 i12 i13 i14 ws h
    rw [m_X11_fewest_l169] at h
    refine j_iload (pc := 169) dX11_fewest_169 rfl ?_
    refine j_iload (pc := 171) dX11_fewest_171 rfl ?_
    refine j_icmp_ge (pc := 173) (tgt := 205) dX11_fewest_173 (by decide) (fun c1 => ?_) (fun c1 => ?_)
    · rw [if_pos c1] at h
      refine j_mask [true, true, true, true, true, true, true, true, false, true, true, true, true, false, false] ?_
      exact jm_X11_fewest_b205 (hk124 := hk124) (hk146 := hk146) _ _ _ _ _ _ _ _ _ _ _ _ ws h
    · rw [if_neg c1] at h
      refine j_iload (pc := 176) dX11_fewest_176 rfl ?_
      refine j_if_eq (pc := 178) (tgt := 205) dX11_fewest_178 (by decide) (fun c2 => ?_) (fun c2 => ?_)
      · rw [if_pos c2] at h
        refine j_mask [true, true, true, true, true, true, true, true, false, true, true, true, true, false, false] ?_
        exact jm_X11_fewest_b205 (hk124 := hk124) (hk146 := hk146) _ _ _ _ _ _ _ _ _ _ _ _ ws h
      · rw [if_neg c2] at h
        refine j_aload_n (pc := 181) dX11_fewest_181 rfl ?_
        refine j_iload (pc := 182) dX11_fewest_182 rfl ?_
        refine j_bipush (pc := 184) dX11_fewest_184 (v := 10) (by decide) ?_
        refine j_irem (pc := 186) dX11_fewest_186 (by decide) ?_
        obtain ⟨x5, w3, e4, h⟩ := obS2 h
        have ge4 := calSR_of e4
        refine j_callV_g (pc := 187) (As := [.int (jrem i13 10)]) (k' := 2) (n' := 800) dX11_fewest_187 (s_X11_tries ge4.1) (jgV lw_717 lw_718 lw_719 lw_544 lw_716) rfl hv_X11_tries rfl (r_X11_tries ge4.1) rfl (by decide) (by decide) (Nat.le_of_ble_eq_true rfl) (by decide) (by decide) (by decide) (by decide) (Or.inl ge4.2) ?_
        refine j_istore_12 (pc := 190) dX11_fewest_190 (by decide) rfl ?_
        refine j_iload (pc := 192) dX11_fewest_192 rfl ?_
        refine j_bipush (pc := 194) dX11_fewest_194 (v := 10) (by decide) ?_
        refine j_idiv (pc := 196) dX11_fewest_196 (by decide) ?_
        refine j_istore_13 (pc := 197) dX11_fewest_197 (by decide) rfl ?_
        refine j_iinc_14 (pc := 199) dX11_fewest_199 (y := i14 + 1) rfl (by decide) rfl ?_
        refine j_goto (pc := 202) (tgt := 169) dX11_fewest_202 (by decide) ?_
        exact ih _ _ _ _ _ _ _ _ _ _ _ _ _ _ w3 h
def m_X11_fewest_l146 (k124 : Nat → Int32 → Int32 → Int32 → Int32 → Int32 → Nat → Nat → Int32 → Int32 → Int32 → LWd → Option (Int32 × LWd)) : Nat → Nat → Int32 → Int32 → Int32 → Int32 → Int32 → Nat → Nat → Int32 → Int32 → Int32 → Int32 → LWd → Option (Int32 × LWd)
  | 0, _, _, _, _, _, _, _, _, _, _, _, _, _ => none
  | fu + 1, a0, i1, i2, i3, i4, i5, a6, a7, i8, i9, i10, i11, ws =>
    if i9 ≤ i11 then
      m_X11_fewest_b297 k124 a0 i1 i2 i3 i4 i5 a6 a7 i8 i9 i10 ws
    else
      if i8 = ((-1)) then
        m_X11_fewest_l169 k124 (fun z0 z1 z2 z3 z4 z5 z6 z7 z8 z9 z10 z11 w => m_X11_fewest_l146 k124 fu z0 z1 z2 z3 z4 z5 z6 z7 z8 z9 z10 z11 w) FU a0 i1 i2 i3 i4 i5 a6 a7 i9 i10 i11 1 i11 0 ws
      else
        m_X11_fewest_b297 k124 a0 i1 i2 i3 i4 i5 a6 a7 i8 i9 i10 ws
set_option maxRecDepth 100000 in
set_option maxHeartbeats 4000000 in
theorem jm_X11_fewest_l146 {n0 : Nat} {rr : Int32} {ws' : LWd} {k124 : Nat → Int32 → Int32 → Int32 → Int32 → Int32 → Nat → Nat → Int32 → Int32 → Int32 → LWd → Option (Int32 × LWd)} (hk124 : ∀ (a0 : Nat) (i1 : Int32) (i2 : Int32) (i3 : Int32) (i4 : Int32) (i5 : Int32) (a6 : Nat) (a7 : Nat) (i8 : Int32) (i9 : Int32) (i10 : Int32) (ws : LWd), k124 a0 i1 i2 i3 i4 i5 a6 a7 i8 i9 i10 ws = some (rr, ws') → JG (.inl false) cX11_fewest 15 RX11 wsX11_fewest (some .int) "fewest" 6 2 800 n0 (.inl (some (.int rr)), ws') 124 [some (.ref a0), some (.int i1), some (.int i2), some (.int i3), some (.int i4), some (.int i5), some (.ref a6), some (.ref a7), some (.int i8), some (.int i9), some (.int i10), none, none, none, none] [] ws 2 800) : ∀ (fu : Nat) (a0 : Nat) (i1 : Int32) (i2 : Int32) (i3 : Int32) (i4 : Int32) (i5 : Int32) (a6 : Nat) (a7 : Nat) (i8 : Int32) (i9 : Int32) (i10 : Int32) (i11 : Int32) (ws : LWd), m_X11_fewest_l146 k124 fu a0 i1 i2 i3 i4 i5 a6 a7 i8 i9 i10 i11 ws = some (rr, ws') → JG (.inl false) cX11_fewest 15 RX11 wsX11_fewest (some .int) "fewest" 6 2 800 n0 (.inl (some (.int rr)), ws') 146 [some (.ref a0), some (.int i1), some (.int i2), some (.int i3), some (.int i4), some (.int i5), some (.ref a6), some (.ref a7), some (.int i8), some (.int i9), some (.int i10), some (.int i11), none, none, none] [] ws 2 800 := by
  intro fu
  induction fu with
  | zero => intro a0 i1 i2 i3 i4 i5 a6 a7 i8 i9 i10 i11 ws h; cases h
  | succ fu ih =>
    intro a0 i1 i2 i3 i4 i5 a6 a7 i8 i9 i10 i11 ws h
    rw [m_X11_fewest_l146] at h
    refine j_iload (pc := 146) dX11_fewest_146 rfl ?_
    refine j_iload (pc := 148) dX11_fewest_148 rfl ?_
    refine j_icmp_ge (pc := 150) (tgt := 297) dX11_fewest_150 (by decide) (fun c1 => ?_) (fun c1 => ?_)
    · rw [if_pos c1] at h
      refine j_mask [true, true, true, true, true, true, true, true, true, true, true, false, false, false, false] ?_
      exact jm_X11_fewest_b297 (hk124 := hk124) _ _ _ _ _ _ _ _ _ _ _ ws h
    · rw [if_neg c1] at h
      refine j_iload (pc := 153) dX11_fewest_153 rfl ?_
      refine j_iconst (pc := 155) dX11_fewest_155 (v := (-1)) (by decide) ?_
      refine j_icmp_ne (pc := 156) (tgt := 297) dX11_fewest_156 (by decide) (fun c2 => ?_) (fun c2 => ?_)
      · rw [if_neg c2] at h
        refine j_mask [true, true, true, true, true, true, true, true, true, true, true, false, false, false, false] ?_
        exact jm_X11_fewest_b297 (hk124 := hk124) _ _ _ _ _ _ _ _ _ _ _ ws h
      · rw [if_pos c2] at h
        refine j_iconst (pc := 159) dX11_fewest_159 (v := 1) (by decide) ?_
        refine j_istore_12 (pc := 160) dX11_fewest_160 (by decide) rfl ?_
        refine j_iload (pc := 162) dX11_fewest_162 rfl ?_
        refine j_istore_13 (pc := 164) dX11_fewest_164 (by decide) rfl ?_
        refine j_iconst (pc := 166) dX11_fewest_166 (v := 0) (by decide) ?_
        refine j_istore_14 (pc := 167) dX11_fewest_167 (by decide) rfl ?_
        refine j_mask [true, true, true, true, true, true, true, true, false, true, true, true, true, true, true] ?_
        exact jm_X11_fewest_l169 (hk124 := hk124) (hk146 := ih) FU _ _ _ _ _ _ _ _ _ _ _ _ _ _ ws h
def m_X11_fewest_l124 : Nat → Nat → Int32 → Int32 → Int32 → Int32 → Int32 → Nat → Nat → Int32 → Int32 → Int32 → LWd → Option (Int32 × LWd)
  | 0, _, _, _, _, _, _, _, _, _, _, _, _ => none
  | fu + 1, a0, i1, i2, i3, i4, i5, a6, a7, i8, i9, i10, ws =>
    if 3 < i10 then
      some (i8, ws)
    else
      if i8 = ((-1)) then
        m_X11_fewest_l146 (fun z0 z1 z2 z3 z4 z5 z6 z7 z8 z9 z10 w => m_X11_fewest_l124 fu z0 z1 z2 z3 z4 z5 z6 z7 z8 z9 z10 w) FU a0 i1 i2 i3 i4 i5 a6 a7 i8 (i9 * 10) i10 0 ws
      else
        some (i8, ws)
set_option maxRecDepth 100000 in
set_option maxHeartbeats 4000000 in
theorem jm_X11_fewest_l124 {n0 : Nat} {rr : Int32} {ws' : LWd} : ∀ (fu : Nat) (a0 : Nat) (i1 : Int32) (i2 : Int32) (i3 : Int32) (i4 : Int32) (i5 : Int32) (a6 : Nat) (a7 : Nat) (i8 : Int32) (i9 : Int32) (i10 : Int32) (ws : LWd), m_X11_fewest_l124 fu a0 i1 i2 i3 i4 i5 a6 a7 i8 i9 i10 ws = some (rr, ws') → JG (.inl false) cX11_fewest 15 RX11 wsX11_fewest (some .int) "fewest" 6 2 800 n0 (.inl (some (.int rr)), ws') 124 [some (.ref a0), some (.int i1), some (.int i2), some (.int i3), some (.int i4), some (.int i5), some (.ref a6), some (.ref a7), some (.int i8), some (.int i9), some (.int i10), none, none, none, none] [] ws 2 800 := by
  intro fu
  induction fu with
  | zero => intro a0 i1 i2 i3 i4 i5 a6 a7 i8 i9 i10 ws h; cases h
  | succ fu ih =>
    intro a0 i1 i2 i3 i4 i5 a6 a7 i8 i9 i10 ws h
    rw [m_X11_fewest_l124] at h
    refine j_iload (pc := 124) dX11_fewest_124 rfl ?_
    refine j_iconst (pc := 126) dX11_fewest_126 (v := 3) (by decide) ?_
    refine j_icmp_gt (pc := 127) (tgt := 303) dX11_fewest_127 (by decide) (fun c1 => ?_) (fun c1 => ?_)
    · rw [if_pos c1] at h
      refine j_iload (pc := 303) dX11_fewest_303 rfl ?_
      obtain ⟨rfl, rfl⟩ := jretS h
      exact j_iret (pc := 305) rfl dX11_fewest_305 (by decide) (by decide) rfl
    · rw [if_neg c1] at h
      refine j_iload (pc := 130) dX11_fewest_130 rfl ?_
      refine j_iconst (pc := 132) dX11_fewest_132 (v := (-1)) (by decide) ?_
      refine j_icmp_ne (pc := 133) (tgt := 303) dX11_fewest_133 (by decide) (fun c2 => ?_) (fun c2 => ?_)
      · rw [if_neg c2] at h
        refine j_iload (pc := 303) dX11_fewest_303 rfl ?_
        obtain ⟨rfl, rfl⟩ := jretS h
        exact j_iret (pc := 305) rfl dX11_fewest_305 (by decide) (by decide) rfl
      · rw [if_pos c2] at h
        refine j_iload (pc := 136) dX11_fewest_136 rfl ?_
        refine j_bipush (pc := 138) dX11_fewest_138 (v := 10) (by decide) ?_
        refine j_imul (pc := 140) dX11_fewest_140 ?_
        refine j_istore_9 (pc := 141) dX11_fewest_141 (by decide) rfl ?_
        refine j_iconst (pc := 143) dX11_fewest_143 (v := 0) (by decide) ?_
        refine j_istore_11 (pc := 144) dX11_fewest_144 (by decide) rfl ?_
        exact jm_X11_fewest_l146 (hk124 := ih) FU _ _ _ _ _ _ _ _ _ _ _ _ ws h
def m_X11_fewest_b116 (a0 : Nat) (i1 : Int32) (i2 : Int32) (i3 : Int32) (i4 : Int32) (i5 : Int32) (a6 : Nat) (a7 : Nat) (s0 : Int32) (ws : LWd) : Option (Int32 × LWd) :=
  m_X11_fewest_l124 FU a0 i1 i2 i3 i4 i5 a6 a7 s0 1 1 ws
set_option maxRecDepth 100000 in
set_option maxHeartbeats 4000000 in
theorem jm_X11_fewest_b116 {n0 : Nat} {rr : Int32} {ws' : LWd} (a0 : Nat) (i1 : Int32) (i2 : Int32) (i3 : Int32) (i4 : Int32) (i5 : Int32) (a6 : Nat) (a7 : Nat) (s0 : Int32) (ws : LWd) (h : m_X11_fewest_b116 a0 i1 i2 i3 i4 i5 a6 a7 s0 ws = some (rr, ws')) : JG (.inl false) cX11_fewest 15 RX11 wsX11_fewest (some .int) "fewest" 6 2 800 n0 (.inl (some (.int rr)), ws') 116 [some (.ref a0), some (.int i1), some (.int i2), some (.int i3), some (.int i4), some (.int i5), some (.ref a6), some (.ref a7), none, none, none, none, none, none, none] [.int s0] ws 2 800 := by
  unfold m_X11_fewest_b116 at h
  refine j_istore_8 (pc := 116) dX11_fewest_116 (by decide) rfl ?_
  refine j_iconst (pc := 118) dX11_fewest_118 (v := 1) (by decide) ?_
  refine j_istore_9 (pc := 119) dX11_fewest_119 (by decide) rfl ?_
  refine j_iconst (pc := 121) dX11_fewest_121 (v := 1) (by decide) ?_
  refine j_istore_10 (pc := 122) dX11_fewest_122 (by decide) rfl ?_
  exact jm_X11_fewest_l124 FU _ _ _ _ _ _ _ _ _ _ _ ws h
def m_X11_fewest_b115 (a0 : Nat) (i1 : Int32) (i2 : Int32) (i3 : Int32) (i4 : Int32) (i5 : Int32) (a6 : Nat) (a7 : Nat) (ws : LWd) : Option (Int32 × LWd) :=
  m_X11_fewest_b116 a0 i1 i2 i3 i4 i5 a6 a7 ((-1)) ws
set_option maxRecDepth 100000 in
set_option maxHeartbeats 4000000 in
theorem jm_X11_fewest_b115 {n0 : Nat} {rr : Int32} {ws' : LWd} (a0 : Nat) (i1 : Int32) (i2 : Int32) (i3 : Int32) (i4 : Int32) (i5 : Int32) (a6 : Nat) (a7 : Nat) (ws : LWd) (h : m_X11_fewest_b115 a0 i1 i2 i3 i4 i5 a6 a7 ws = some (rr, ws')) : JG (.inl false) cX11_fewest 15 RX11 wsX11_fewest (some .int) "fewest" 6 2 800 n0 (.inl (some (.int rr)), ws') 115 [some (.ref a0), some (.int i1), some (.int i2), some (.int i3), some (.int i4), some (.int i5), some (.ref a6), some (.ref a7), none, none, none, none, none, none, none] [] ws 2 800 := by
  unfold m_X11_fewest_b115 at h
  refine j_iconst (pc := 115) dX11_fewest_115 (v := (-1)) (by decide) ?_
  exact jm_X11_fewest_b116 _ _ _ _ _ _ _ _ _ ws h
def m_X11_fewest_l63 : Nat → Nat → Int32 → Int32 → Int32 → Int32 → Int32 → Nat → Nat → Int32 → LWd → Option (Int32 × LWd)
  | 0, _, _, _, _, _, _, _, _, _, _ => none
  | fu + 1, a0, i1, i2, i3, i4, i5, a6, a7, i8, ws =>
    if 6 ≤ i8 then
      if i3 = i1 then
        if i4 = i2 then
          m_X11_fewest_b116 a0 i1 i2 i3 i4 i5 a6 a7 0 ws
        else
          m_X11_fewest_b115 a0 i1 i2 i3 i4 i5 a6 a7 ws
      else
        m_X11_fewest_b115 a0 i1 i2 i3 i4 i5 a6 a7 ws
    else
      (fR ws a0 11 15).bind fun x4 =>
      (aI ws x4 i8).bind fun x6 =>
      (sI ws a6 i8 x6).bind fun w8 =>
      (fR w8 a0 11 16).bind fun x10 =>
      (aI w8 x10 i8).bind fun x12 =>
      (sI w8 a7 i8 x12).bind fun w14 =>
      m_X11_fewest_l63 fu a0 i1 i2 i3 i4 i5 a6 a7 (i8 + 1) w14
set_option maxRecDepth 100000 in
set_option maxHeartbeats 4000000 in
theorem jm_X11_fewest_l63 {n0 : Nat} {rr : Int32} {ws' : LWd} : ∀ (fu : Nat) (a0 : Nat) (i1 : Int32) (i2 : Int32) (i3 : Int32) (i4 : Int32) (i5 : Int32) (a6 : Nat) (a7 : Nat) (i8 : Int32) (ws : LWd), m_X11_fewest_l63 fu a0 i1 i2 i3 i4 i5 a6 a7 i8 ws = some (rr, ws') → JG (.inl false) cX11_fewest 15 RX11 wsX11_fewest (some .int) "fewest" 6 2 800 n0 (.inl (some (.int rr)), ws') 63 [some (.ref a0), some (.int i1), some (.int i2), some (.int i3), some (.int i4), some (.int i5), some (.ref a6), some (.ref a7), some (.int i8), none, none, none, none, none, none] [] ws 2 800 := by
  intro fu
  induction fu with
  | zero => intro a0 i1 i2 i3 i4 i5 a6 a7 i8 ws h; cases h
  | succ fu ih =>
    intro a0 i1 i2 i3 i4 i5 a6 a7 i8 ws h
    rw [m_X11_fewest_l63] at h
    refine j_iload (pc := 63) dX11_fewest_63 rfl ?_
    refine j_bipush (pc := 65) dX11_fewest_65 (v := 6) (by decide) ?_
    refine j_icmp_ge (pc := 67) (tgt := 100) dX11_fewest_67 (by decide) (fun c1 => ?_) (fun c1 => ?_)
    · rw [if_pos c1] at h
      refine j_iload_n (pc := 100) dX11_fewest_100 rfl ?_
      refine j_iload_n (pc := 101) dX11_fewest_101 rfl ?_
      refine j_icmp_ne (pc := 102) (tgt := 115) dX11_fewest_102 (by decide) (fun c2 => ?_) (fun c2 => ?_)
      · rw [if_neg c2] at h
        refine j_mask [true, true, true, true, true, true, true, true, false, false, false, false, false, false, false] ?_
        exact jm_X11_fewest_b115 _ _ _ _ _ _ _ _ ws h
      · rw [if_pos c2] at h
        refine j_iload (pc := 105) dX11_fewest_105 rfl ?_
        refine j_iload_n (pc := 107) dX11_fewest_107 rfl ?_
        refine j_icmp_ne (pc := 108) (tgt := 115) dX11_fewest_108 (by decide) (fun c3 => ?_) (fun c3 => ?_)
        · rw [if_neg c3] at h
          refine j_mask [true, true, true, true, true, true, true, true, false, false, false, false, false, false, false] ?_
          exact jm_X11_fewest_b115 _ _ _ _ _ _ _ _ ws h
        · rw [if_pos c3] at h
          refine j_iconst (pc := 111) dX11_fewest_111 (v := 0) (by decide) ?_
          refine j_goto (pc := 112) (tgt := 116) dX11_fewest_112 (by decide) ?_
          refine j_mask [true, true, true, true, true, true, true, true, false, false, false, false, false, false, false] ?_
          exact jm_X11_fewest_b116 _ _ _ _ _ _ _ _ _ ws h
    · rw [if_neg c1] at h
      refine j_aload (pc := 70) dX11_fewest_70 rfl ?_
      refine j_iload (pc := 72) dX11_fewest_72 rfl ?_
      refine j_aload_n (pc := 74) dX11_fewest_74 rfl ?_
      obtain ⟨x4, e5, h⟩ := obS h
      refine j_getR (pc := 75) dX11_fewest_75 (ci := 11) (kf := 15) rfl (jwi hw_X11) (by decide) (jwm lw_535) e5 ?_
      refine j_iload (pc := 78) dX11_fewest_78 rfl ?_
      obtain ⟨x6, e7, h⟩ := obS h
      refine j_iald (pc := 80) dX11_fewest_80 e7 ?_
      obtain ⟨w8, e9, h⟩ := obS h
      refine j_iast (pc := 81) dX11_fewest_81 e9 ?_
      refine j_aload (pc := 82) dX11_fewest_82 rfl ?_
      refine j_iload (pc := 84) dX11_fewest_84 rfl ?_
      refine j_aload_n (pc := 86) dX11_fewest_86 rfl ?_
      obtain ⟨x10, e11, h⟩ := obS h
      refine j_getR (pc := 87) dX11_fewest_87 (ci := 11) (kf := 16) rfl (jwi hw_X11) (by decide) (jwm lw_536) e11 ?_
      refine j_iload (pc := 90) dX11_fewest_90 rfl ?_
      obtain ⟨x12, e13, h⟩ := obS h
      refine j_iald (pc := 92) dX11_fewest_92 e13 ?_
      obtain ⟨w14, e15, h⟩ := obS h
      refine j_iast (pc := 93) dX11_fewest_93 e15 ?_
      refine j_iinc_8 (pc := 94) dX11_fewest_94 (y := i8 + 1) rfl (by decide) rfl ?_
      refine j_goto (pc := 97) (tgt := 63) dX11_fewest_97 (by decide) ?_
      exact ih _ _ _ _ _ _ _ _ _ w14 h
def m_X11_fewest_b14 (a0 : Nat) (i1 : Int32) (i2 : Int32) (s0 : Nat) (s1 : Int32) (ws : LWd) : Option (Int32 × LWd) :=
  bn2 (calSR ws (m_X11_fails s0 s1 ws)) fun x3 w1 =>
  if x3 = 0 then
    (fI w1 a0 11 4).bind fun x5 =>
    if x5 = 0 then
      some ((-1), w1)
    else
      (fI w1 a0 11 5).bind fun x8 =>
      (fI w1 a0 11 6).bind fun x10 =>
      (fI w1 a0 11 17).bind fun x12 =>
      bn2 (nA w1 [some (.ref a0), some (.int i1), some (.int i2), some (.int x8), some (.int x10), some (.int x12), none, none, none, none, none, none, none, none, none] [] 400 6) fun q14 w15 =>
      bn2 (nA w15 [some (.ref a0), some (.int i1), some (.int i2), some (.int x8), some (.int x10), some (.int x12), some (.ref q14), none, none, none, none, none, none, none, none] [] 400 6) fun q17 w18 =>
      m_X11_fewest_l63 FU a0 i1 i2 x8 x10 x12 q14 q17 0 w18
  else
    some (0, w1)
set_option maxRecDepth 100000 in
set_option maxHeartbeats 4000000 in
theorem jm_X11_fewest_b14 {n0 : Nat} {rr : Int32} {ws' : LWd} (a0 : Nat) (i1 : Int32) (i2 : Int32) (s0 : Nat) (s1 : Int32) (ws : LWd) (h : m_X11_fewest_b14 a0 i1 i2 s0 s1 ws = some (rr, ws')) : JG (.inl false) cX11_fewest 15 RX11 wsX11_fewest (some .int) "fewest" 6 2 800 n0 (.inl (some (.int rr)), ws') 14 [some (.ref a0), some (.int i1), some (.int i2), none, none, none, none, none, none, none, none, none, none, none, none] [.int s1, .ref s0] ws 0 0 := by
  unfold m_X11_fewest_b14 at h
  obtain ⟨x3, w1, e2, h⟩ := obS2 h
  have ge2 := calSR_of e2
  refine j_callV_g (pc := 14) (As := [.int s1]) (k' := 0) (n' := 0) dX11_fewest_14 (s_X11_fails ge2.1) (jgV lw_552 lw_553 lw_554 lw_544 lw_551) rfl hv_X11_fails rfl (r_X11_fails ge2.1) rfl (by decide) (by decide) (Nat.le_of_ble_eq_true rfl) (by decide) (by decide) (by decide) (by decide) (Or.inl ge2.2) ?_
  refine j_if_eq (pc := 17) (tgt := 22) dX11_fewest_17 (by decide) (fun c4 => ?_) (fun c4 => ?_)
  · rw [if_pos c4] at h
    refine j_aload_n (pc := 22) dX11_fewest_22 rfl ?_
    obtain ⟨x5, e6, h⟩ := obS h
    refine j_getI (pc := 23) dX11_fewest_23 (ci := 11) (kf := 4) rfl (jwi hw_X11) (by decide) (jwm lw_565) e6 ?_
    refine j_if_ne (pc := 26) (tgt := 31) dX11_fewest_26 (by decide) (fun c7 => ?_) (fun c7 => ?_)
    · rw [if_neg c7] at h
      refine j_aload_n (pc := 31) dX11_fewest_31 rfl ?_
      obtain ⟨x8, e9, h⟩ := obS h
      refine j_getI (pc := 32) dX11_fewest_32 (ci := 11) (kf := 5) rfl (jwi hw_X11) (by decide) (jwm lw_529) e9 ?_
      refine j_istore_n_3 (pc := 35) dX11_fewest_35 (by decide) rfl ?_
      refine j_aload_n (pc := 36) dX11_fewest_36 rfl ?_
      obtain ⟨x10, e11, h⟩ := obS h
      refine j_getI (pc := 37) dX11_fewest_37 (ci := 11) (kf := 6) rfl (jwi hw_X11) (by decide) (jwm lw_530) e11 ?_
      refine j_istore_4 (pc := 40) dX11_fewest_40 (by decide) rfl ?_
      refine j_aload_n (pc := 42) dX11_fewest_42 rfl ?_
      obtain ⟨x12, e13, h⟩ := obS h
      refine j_getI (pc := 43) dX11_fewest_43 (ci := 11) (kf := 17) rfl (jwi hw_X11) (by decide) (jwm lw_546) e13 ?_
      refine j_istore_5 (pc := 46) dX11_fewest_46 (by decide) rfl ?_
      refine j_bipush (pc := 48) dX11_fewest_48 (v := 6) (by decide) ?_
      obtain ⟨q14, w15, e16, h⟩ := obS2 h
      refine j_newA (pc := 50) (B := 400) (jwm lw_0) dX11_fewest_50 (by decide) (by decide) (by decide) e16 ?_
      refine j_astore_6 (pc := 52) dX11_fewest_52 (by decide) rfl ?_
      refine j_bipush (pc := 54) dX11_fewest_54 (v := 6) (by decide) ?_
      obtain ⟨q17, w18, e19, h⟩ := obS2 h
      refine j_newA (pc := 56) (B := 400) (jwm lw_0) dX11_fewest_56 (by decide) (by decide) (by decide) e19 ?_
      refine j_astore_7 (pc := 58) dX11_fewest_58 (by decide) rfl ?_
      refine j_iconst (pc := 60) dX11_fewest_60 (v := 0) (by decide) ?_
      refine j_istore_8 (pc := 61) dX11_fewest_61 (by decide) rfl ?_
      exact jm_X11_fewest_l63 FU _ _ _ _ _ _ _ _ _ w18 h
    · rw [if_pos c7] at h
      refine j_iconst (pc := 29) dX11_fewest_29 (v := (-1)) (by decide) ?_
      obtain ⟨rfl, rfl⟩ := jretS h
      exact j_iret (pc := 30) rfl dX11_fewest_30 (by decide) (by decide) rfl
  · rw [if_neg c4] at h
    refine j_iconst (pc := 20) dX11_fewest_20 (v := 0) (by decide) ?_
    obtain ⟨rfl, rfl⟩ := jretS h
    exact j_iret (pc := 21) rfl dX11_fewest_21 (by decide) (by decide) rfl
def m_X11_fewest (a0 : Nat) (i1 : Int32) (i2 : Int32) (ws : LWd) : Option (Int32 × LWd) :=
  (rcv ws a0 11).bind fun _ =>
  bn2 (calSR ws (m_X11_isPoint i1 i2 ws)) fun x3 w1 =>
  if x3 = 0 then
    m_X11_fewest_b14 a0 i1 i2 a0 1 w1
  else
    m_X11_fewest_b14 a0 i1 i2 a0 0 w1
set_option maxRecDepth 100000 in
set_option maxHeartbeats 4000000 in
theorem s_X11_fewest {a0 : Nat} {i1 : Int32} {i2 : Int32} {ws : LWd} {rr : Int32} {ws' : LWd} (h : m_X11_fewest a0 i1 i2 ws = some (rr, ws')) : jSp yX11_fewest wsX11_fewest 6 2 800 [.ref a0, .int i1, .int i2] ws (.inl (some (.int rr)), ws') := by
  unfold m_X11_fewest at h
  refine j_entry (ret := (some .int)) (nm := "fewest") (own := RX11) pl_X11 rfl rfl rfl (jcats (by rfl)) (Nat.le_of_ble_eq_true rfl) ?_
  show JG (.inl false) cX11_fewest 15 RX11 wsX11_fewest (some .int) "fewest" 6 2 800 ws.length (.inl (some (.int rr)), ws') 0 [some (.ref a0), some (.int i1), some (.int i2), none, none, none, none, none, none, none, none, none, none, none, none] [] ws 0 0
  obtain ⟨_, _, h⟩ := obS h
  refine j_aload_n (pc := 0) dX11_fewest_0 rfl ?_
  refine j_iload_n (pc := 1) dX11_fewest_1 rfl ?_
  refine j_iload_n (pc := 2) dX11_fewest_2 rfl ?_
  obtain ⟨x3, w1, e2, h⟩ := obS2 h
  have ge2 := calSR_of e2
  refine j_callS_g (pc := 3) (As := [.int i1, .int i2]) (k' := 0) (n' := 0) dX11_fewest_3 (s_X11_isPoint ge2.1) (jgS lw_563 lw_564 lw_544 lw_562) rfl hy_X11_isPoint rfl (by decide) (by decide) (Nat.le_of_ble_eq_true rfl) (by decide) (by decide) (by decide) (by decide) (Or.inl ge2.2) ?_
  refine j_if_eq (pc := 6) (tgt := 13) dX11_fewest_6 (by decide) (fun c4 => ?_) (fun c4 => ?_)
  · rw [if_pos c4] at h
    refine j_iconst (pc := 13) dX11_fewest_13 (v := 1) (by decide) ?_
    exact jm_X11_fewest_b14 _ _ _ _ _ w1 h
  · rw [if_neg c4] at h
    refine j_iconst (pc := 9) dX11_fewest_9 (v := 0) (by decide) ?_
    refine j_goto (pc := 10) (tgt := 14) dX11_fewest_10 (by decide) ?_
    exact jm_X11_fewest_b14 _ _ _ _ _ w1 h
theorem r_X11_fewest {a0 : Nat} {i1 : Int32} {i2 : Int32} {ws : LWd} {o : (Int32 × LWd)} (h : m_X11_fewest a0 i1 i2 ws = some o) : ∃ fs, ws[a0]? = some (.inr (11, fs)) := rcv_in h
def wsX11_fewestAnew : List Cond := Cond.code yX11_fewestAnew cX11_fewestAnew 3 (some .int) :: jW
def m_X11_fewestAnew (a0 : Nat) (i1 : Int32) (i2 : Int32) (ws : LWd) : Option (Int32 × LWd) :=
  (rcv ws a0 11).bind fun _ =>
  bn2 (calGR ws [some (.ref a0), some (.int i1), some (.int i2)] [] (m_X11_fewest a0 i1 i2 ws)) fun x3 w1 =>
  some (x3, w1)
set_option maxRecDepth 100000 in
set_option maxHeartbeats 4000000 in
theorem s_X11_fewestAnew {a0 : Nat} {i1 : Int32} {i2 : Int32} {ws : LWd} {rr : Int32} {ws' : LWd} (h : m_X11_fewestAnew a0 i1 i2 ws = some (rr, ws')) : jSp yX11_fewestAnew wsX11_fewestAnew 7 2 800 [.ref a0, .int i1, .int i2] ws (.inl (some (.int rr)), ws') := by
  unfold m_X11_fewestAnew at h
  refine j_entry (ret := (some .int)) (nm := "fewestAnew") (own := RX11) pl_X11 rfl rfl rfl (jcats (by rfl)) (Nat.le_of_ble_eq_true rfl) ?_
  show JG (.inl false) cX11_fewestAnew 3 RX11 wsX11_fewestAnew (some .int) "fewestAnew" 7 2 800 ws.length (.inl (some (.int rr)), ws') 0 [some (.ref a0), some (.int i1), some (.int i2)] [] ws 0 0
  obtain ⟨_, _, h⟩ := obS h
  refine j_aload_n (pc := 0) dX11_fewestAnew_0 rfl ?_
  refine j_iload_n (pc := 1) dX11_fewestAnew_1 rfl ?_
  refine j_iload_n (pc := 2) dX11_fewestAnew_2 rfl ?_
  obtain ⟨x3, w1, e2, h⟩ := obS2 h
  have ge2 := calGR_of e2
  refine j_callV_g (pc := 3) (As := [.int i1, .int i2]) (k' := 2) (n' := 800) dX11_fewestAnew_3 (s_X11_fewest ge2.1) (jgV lw_721 lw_722 lw_723 lw_544 lw_720) rfl hv_X11_fewest rfl (r_X11_fewest ge2.1) rfl (by decide) (by decide) (Nat.le_of_ble_eq_true rfl) (by decide) (by decide) (by decide) (by decide) ge2.2 ?_
  obtain ⟨rfl, rfl⟩ := jretS h
  exact j_iret (pc := 6) rfl dX11_fewestAnew_6 (by decide) (by decide) rfl
theorem r_X11_fewestAnew {a0 : Nat} {i1 : Int32} {i2 : Int32} {ws : LWd} {o : (Int32 × LWd)} (h : m_X11_fewestAnew a0 i1 i2 ws = some o) : ∃ fs, ws[a0]? = some (.inr (11, fs)) := rcv_in h
def wsX11_fall : List Cond := Cond.code yX11_fall cX11_fall 4 (some .int) :: jW
def m_X11_fall_b49 (a0 : Nat) (i1 : Int32) (i2 : Int32) (s0 : Nat) (s1 : Int32) (ws : LWd) : Option (Int32 × LWd) :=
  bn2 (calSR ws (m_X11_fails s0 s1 ws)) fun x3 w1 =>
  if x3 = 0 then
    (fR w1 a0 11 24).bind fun x5 =>
    (aI w1 x5 ((4 * i1) + i2)).bind fun x7 =>
    some (x7, w1)
  else
    some (0, w1)
set_option maxRecDepth 100000 in
set_option maxHeartbeats 4000000 in
theorem jm_X11_fall_b49 {n0 : Nat} {rr : Int32} {ws' : LWd} (a0 : Nat) (i1 : Int32) (i2 : Int32) (s0 : Nat) (s1 : Int32) (ws : LWd) (h : m_X11_fall_b49 a0 i1 i2 s0 s1 ws = some (rr, ws')) : JG (.inl false) cX11_fall 4 RX11 wsX11_fall (some .int) "fall" 1 0 0 n0 (.inl (some (.int rr)), ws') 49 [some (.ref a0), some (.int i1), some (.int i2), none] [.int s1, .ref s0] ws 0 0 := by
  unfold m_X11_fall_b49 at h
  obtain ⟨x3, w1, e2, h⟩ := obS2 h
  have ge2 := calSR_of e2
  refine j_callV_g (pc := 49) (As := [.int s1]) (k' := 0) (n' := 0) dX11_fall_49 (s_X11_fails ge2.1) (jgV lw_552 lw_553 lw_554 lw_544 lw_551) rfl hv_X11_fails rfl (r_X11_fails ge2.1) rfl (by decide) (by decide) (Nat.le_of_ble_eq_true rfl) (by decide) (by decide) (by decide) (by decide) (Or.inl ge2.2) ?_
  refine j_if_eq (pc := 52) (tgt := 57) dX11_fall_52 (by decide) (fun c4 => ?_) (fun c4 => ?_)
  · rw [if_pos c4] at h
    refine j_aload_n (pc := 57) dX11_fall_57 rfl ?_
    obtain ⟨x5, e6, h⟩ := obS h
    refine j_getR (pc := 58) dX11_fall_58 (ci := 11) (kf := 24) rfl (jwi hw_X11) (by decide) (jwm lw_537) e6 ?_
    refine j_iconst (pc := 61) dX11_fall_61 (v := 4) (by decide) ?_
    refine j_iload_n (pc := 62) dX11_fall_62 rfl ?_
    refine j_imul (pc := 63) dX11_fall_63 ?_
    refine j_iload_n (pc := 64) dX11_fall_64 rfl ?_
    refine j_iadd (pc := 65) dX11_fall_65 ?_
    obtain ⟨x7, e8, h⟩ := obS h
    refine j_iald (pc := 66) dX11_fall_66 e8 ?_
    obtain ⟨rfl, rfl⟩ := jretS h
    exact j_iret (pc := 67) rfl dX11_fall_67 (by decide) (by decide) rfl
  · rw [if_neg c4] at h
    refine j_iconst (pc := 55) dX11_fall_55 (v := 0) (by decide) ?_
    obtain ⟨rfl, rfl⟩ := jretS h
    exact j_iret (pc := 56) rfl dX11_fall_56 (by decide) (by decide) rfl
def m_X11_fall_b18 (a0 : Nat) (i1 : Int32) (i2 : Int32) (s0 : Int32) (ws : LWd) : Option (Int32 × LWd) :=
  bn2 (calSR ws (m_X11_isIn i1 0 (s0 - 1) ws)) fun x3 w1 =>
  if x3 = 0 then
    m_X11_fall_b49 a0 i1 i2 a0 1 w1
  else
    bn2 (calSR w1 (m_X11_isIn i2 0 3 w1)) fun x7 w5 =>
    if x7 = 0 then
      m_X11_fall_b49 a0 i1 i2 a0 2 w5
    else
      m_X11_fall_b49 a0 i1 i2 a0 0 w5
set_option maxRecDepth 100000 in
set_option maxHeartbeats 4000000 in
theorem jm_X11_fall_b18 {n0 : Nat} {rr : Int32} {ws' : LWd} (a0 : Nat) (i1 : Int32) (i2 : Int32) (s0 : Int32) (ws : LWd) (h : m_X11_fall_b18 a0 i1 i2 s0 ws = some (rr, ws')) : JG (.inl false) cX11_fall 4 RX11 wsX11_fall (some .int) "fall" 1 0 0 n0 (.inl (some (.int rr)), ws') 18 [some (.ref a0), some (.int i1), some (.int i2), none] [.int s0] ws 0 0 := by
  unfold m_X11_fall_b18 at h
  refine j_istore_n_3 (pc := 18) dX11_fall_18 (by decide) rfl ?_
  refine j_aload_n (pc := 19) dX11_fall_19 rfl ?_
  refine j_iload_n (pc := 20) dX11_fall_20 rfl ?_
  refine j_iconst (pc := 21) dX11_fall_21 (v := 0) (by decide) ?_
  refine j_iload_n (pc := 22) dX11_fall_22 rfl ?_
  refine j_iconst (pc := 23) dX11_fall_23 (v := 1) (by decide) ?_
  refine j_isub (pc := 24) dX11_fall_24 ?_
  obtain ⟨x3, w1, e2, h⟩ := obS2 h
  have ge2 := calSR_of e2
  refine j_callS_g (pc := 25) (As := [.int i1, .int 0, .int (s0 - 1)]) (k' := 0) (n' := 0) dX11_fall_25 (s_X11_isIn ge2.1) (jgS lw_542 lw_543 lw_544 lw_541) rfl hy_X11_isIn rfl (by decide) (by decide) (Nat.le_of_ble_eq_true rfl) (by decide) (by decide) (by decide) (by decide) (Or.inl ge2.2) ?_
  refine j_if_ne (pc := 28) (tgt := 35) dX11_fall_28 (by decide) (fun c4 => ?_) (fun c4 => ?_)
  · rw [if_neg c4] at h
    refine j_iload_n (pc := 35) dX11_fall_35 rfl ?_
    refine j_iconst (pc := 36) dX11_fall_36 (v := 0) (by decide) ?_
    refine j_iconst (pc := 37) dX11_fall_37 (v := 3) (by decide) ?_
    obtain ⟨x7, w5, e6, h⟩ := obS2 h
    have ge6 := calSR_of e6
    refine j_callS_g (pc := 38) (As := [.int i2, .int 0, .int 3]) (k' := 0) (n' := 0) dX11_fall_38 (s_X11_isIn ge6.1) (jgS lw_542 lw_543 lw_544 lw_541) rfl hy_X11_isIn rfl (by decide) (by decide) (Nat.le_of_ble_eq_true rfl) (by decide) (by decide) (by decide) (by decide) (Or.inl ge6.2) ?_
    refine j_if_eq (pc := 41) (tgt := 48) dX11_fall_41 (by decide) (fun c8 => ?_) (fun c8 => ?_)
    · rw [if_pos c8] at h
      refine j_iconst (pc := 48) dX11_fall_48 (v := 2) (by decide) ?_
      refine j_mask [true, true, true, false] ?_
      exact jm_X11_fall_b49 _ _ _ _ _ w5 h
    · rw [if_neg c8] at h
      refine j_iconst (pc := 44) dX11_fall_44 (v := 0) (by decide) ?_
      refine j_goto (pc := 45) (tgt := 49) dX11_fall_45 (by decide) ?_
      refine j_mask [true, true, true, false] ?_
      exact jm_X11_fall_b49 _ _ _ _ _ w5 h
  · rw [if_pos c4] at h
    refine j_iconst (pc := 31) dX11_fall_31 (v := 1) (by decide) ?_
    refine j_goto (pc := 32) (tgt := 49) dX11_fall_32 (by decide) ?_
    refine j_mask [true, true, true, false] ?_
    exact jm_X11_fall_b49 _ _ _ _ _ w1 h
def m_X11_fall (a0 : Nat) (i1 : Int32) (i2 : Int32) (ws : LWd) : Option (Int32 × LWd) :=
  (rcv ws a0 11).bind fun _ =>
  (fI ws a0 11 23).bind fun x1 =>
  if 40 ≤ x1 then
    m_X11_fall_b18 a0 i1 i2 40 ws
  else
    (fI ws a0 11 23).bind fun x4 =>
    m_X11_fall_b18 a0 i1 i2 x4 ws
set_option maxRecDepth 100000 in
set_option maxHeartbeats 4000000 in
theorem s_X11_fall {a0 : Nat} {i1 : Int32} {i2 : Int32} {ws : LWd} {rr : Int32} {ws' : LWd} (h : m_X11_fall a0 i1 i2 ws = some (rr, ws')) : jSp yX11_fall wsX11_fall 1 0 0 [.ref a0, .int i1, .int i2] ws (.inl (some (.int rr)), ws') := by
  unfold m_X11_fall at h
  refine j_entry (ret := (some .int)) (nm := "fall") (own := RX11) pl_X11 rfl rfl rfl (jcats (by rfl)) (Nat.le_of_ble_eq_true rfl) ?_
  show JG (.inl false) cX11_fall 4 RX11 wsX11_fall (some .int) "fall" 1 0 0 ws.length (.inl (some (.int rr)), ws') 0 [some (.ref a0), some (.int i1), some (.int i2), none] [] ws 0 0
  obtain ⟨_, _, h⟩ := obS h
  refine j_aload_n (pc := 0) dX11_fall_0 rfl ?_
  obtain ⟨x1, e2, h⟩ := obS h
  refine j_getI (pc := 1) dX11_fall_1 (ci := 11) (kf := 23) rfl (jwi hw_X11) (by decide) (jwm lw_639) e2 ?_
  refine j_bipush (pc := 4) dX11_fall_4 (v := 40) (by decide) ?_
  refine j_icmp_ge (pc := 6) (tgt := 16) dX11_fall_6 (by decide) (fun c3 => ?_) (fun c3 => ?_)
  · rw [if_pos c3] at h
    refine j_bipush (pc := 16) dX11_fall_16 (v := 40) (by decide) ?_
    exact jm_X11_fall_b18 _ _ _ _ ws h
  · rw [if_neg c3] at h
    refine j_aload_n (pc := 9) dX11_fall_9 rfl ?_
    obtain ⟨x4, e5, h⟩ := obS h
    refine j_getI (pc := 10) dX11_fall_10 (ci := 11) (kf := 23) rfl (jwi hw_X11) (by decide) (jwm lw_639) e5 ?_
    refine j_goto (pc := 13) (tgt := 18) dX11_fall_13 (by decide) ?_
    exact jm_X11_fall_b18 _ _ _ _ ws h
theorem r_X11_fall {a0 : Nat} {i1 : Int32} {i2 : Int32} {ws : LWd} {o : (Int32 × LWd)} (h : m_X11_fall a0 i1 i2 ws = some o) : ∃ fs, ws[a0]? = some (.inr (11, fs)) := rcv_in h
