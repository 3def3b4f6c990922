/-! methods: written by wip/whole/make.py -/
def wsX11_walks : List Cond := Cond.code yX11_walks cX11_walks 6 (some .boolean) :: jW
def m_X11_walks_b128 (a0 : Nat) (i1 : Int32) (s0 : Int32) (ws : LWd) : Option (Int32 × LWd) :=
  if s0 = 0 then
    some (1, ws)
  else
    (fR ws a0 11 27).bind fun x2 =>
    (aI ws x2 (i1 + 3)).bind fun x4 =>
    (fR ws a0 11 27).bind fun x6 =>
    (aI ws x6 (i1 + 4)).bind fun x8 =>
    bn2 (calSR ws (m_X11_shifts a0 x4 x8 ws)) fun x12 w10 =>
    if x12 = 0 then
      some (0, w10)
    else
      (fI w10 a0 11 22).bind fun x14 =>
      if x14 = 0 then
        some (1, w10)
      else
        some (0, w10)
set_option maxRecDepth 100000 in
set_option maxHeartbeats 4000000 in
theorem jm_X11_walks_b128 {n0 : Nat} {rr : Int32} {ws' : LWd} (a0 : Nat) (i1 : Int32) (s0 : Int32) (ws : LWd) (h : m_X11_walks_b128 a0 i1 s0 ws = some (rr, ws')) : JG (.inl false) cX11_walks 6 RX11 wsX11_walks (some .boolean) "walks" 6 0 0 n0 (.inl (some (.int rr)), ws') 128 [some (.ref a0), some (.int i1), none, none, none, none] [.int s0] ws 0 0 := by
  unfold m_X11_walks_b128 at h
  refine j_istore_5 (pc := 128) dX11_walks_128 (by decide) rfl ?_
  refine j_iload (pc := 130) dX11_walks_130 rfl ?_
  refine j_if_eq (pc := 132) (tgt := 165) dX11_walks_132 (by decide) (fun c1 => ?_) (fun c1 => ?_)
  · rw [if_pos c1] at h
    refine j_iconst (pc := 165) dX11_walks_165 (v := 1) (by decide) ?_
    refine j_goto (pc := 166) (tgt := 170) dX11_walks_166 (by decide) ?_
    obtain ⟨rfl, rfl⟩ := jretS h
    exact j_zretL (pc := 170) (by decide) rfl dX11_walks_170 (by decide) (by decide) rfl
  · rw [if_neg c1] at h
    refine j_aload_n (pc := 135) dX11_walks_135 rfl ?_
    refine j_aload_n (pc := 136) dX11_walks_136 rfl ?_
    obtain ⟨x2, e3, h⟩ := obS h
    refine j_getR (pc := 137) dX11_walks_137 (ci := 11) (kf := 27) rfl (jwi hw_X11) (by decide) (jwm lw_538) e3 ?_
    refine j_iload_n (pc := 140) dX11_walks_140 rfl ?_
    refine j_iconst (pc := 141) dX11_walks_141 (v := 3) (by decide) ?_
    refine j_iadd (pc := 142) dX11_walks_142 ?_
    obtain ⟨x4, e5, h⟩ := obS h
    refine j_iald (pc := 143) dX11_walks_143 e5 ?_
    refine j_aload_n (pc := 144) dX11_walks_144 rfl ?_
    obtain ⟨x6, e7, h⟩ := obS h
    refine j_getR (pc := 145) dX11_walks_145 (ci := 11) (kf := 27) rfl (jwi hw_X11) (by decide) (jwm lw_538) e7 ?_
    refine j_iload_n (pc := 148) dX11_walks_148 rfl ?_
    refine j_iconst (pc := 149) dX11_walks_149 (v := 4) (by decide) ?_
    refine j_iadd (pc := 150) dX11_walks_150 ?_
    obtain ⟨x8, e9, h⟩ := obS h
    refine j_iald (pc := 151) dX11_walks_151 e9 ?_
    obtain ⟨x12, w10, e11, h⟩ := obS2 h
    have ge11 := calSR_of e11
    refine j_callV_g (pc := 152) (As := [.int x4, .int x8]) (k' := 0) (n' := 0) dX11_walks_152 (s_X11_shifts ge11.1) (jgV lw_689 lw_690 lw_691 lw_544 lw_688) rfl hv_X11_shifts rfl (r_X11_shifts ge11.1) rfl (by decide) (by decide) (Nat.le_of_ble_eq_true rfl) (by decide) (by decide) (by decide) (by decide) (Or.inl ge11.2) ?_
    refine j_if_eq (pc := 155) (tgt := 169) dX11_walks_155 (by decide) (fun c13 => ?_) (fun c13 => ?_)
    · rw [if_pos c13] at h
      refine j_iconst (pc := 169) dX11_walks_169 (v := 0) (by decide) ?_
      obtain ⟨rfl, rfl⟩ := jretS h
      exact j_zretL (pc := 170) (by decide) rfl dX11_walks_170 (by decide) (by decide) rfl
    · rw [if_neg c13] at h
      refine j_aload_n (pc := 158) dX11_walks_158 rfl ?_
      obtain ⟨x14, e15, h⟩ := obS h
      refine j_getI (pc := 159) dX11_walks_159 (ci := 11) (kf := 22) rfl (jwi hw_X11) (by decide) (jwm lw_607) e15 ?_
      refine j_if_ne (pc := 162) (tgt := 169) dX11_walks_162 (by decide) (fun c16 => ?_) (fun c16 => ?_)
      · rw [if_neg c16] at h
        refine j_iconst (pc := 169) dX11_walks_169 (v := 0) (by decide) ?_
        obtain ⟨rfl, rfl⟩ := jretS h
        exact j_zretL (pc := 170) (by decide) rfl dX11_walks_170 (by decide) (by decide) rfl
      · rw [if_pos c16] at h
        refine j_iconst (pc := 165) dX11_walks_165 (v := 1) (by decide) ?_
        refine j_goto (pc := 166) (tgt := 170) dX11_walks_166 (by decide) ?_
        obtain ⟨rfl, rfl⟩ := jretS h
        exact j_zretL (pc := 170) (by decide) rfl dX11_walks_170 (by decide) (by decide) rfl
def m_X11_walks_b123 (a0 : Nat) (i1 : Int32) (ws : LWd) : Option (Int32 × LWd) :=
  m_X11_walks_b128 a0 i1 1 ws
set_option maxRecDepth 100000 in
set_option maxHeartbeats 4000000 in
theorem jm_X11_walks_b123 {n0 : Nat} {rr : Int32} {ws' : LWd} (a0 : Nat) (i1 : Int32) (ws : LWd) (h : m_X11_walks_b123 a0 i1 ws = some (rr, ws')) : JG (.inl false) cX11_walks 6 RX11 wsX11_walks (some .boolean) "walks" 6 0 0 n0 (.inl (some (.int rr)), ws') 123 [some (.ref a0), some (.int i1), none, none, none, none] [] ws 0 0 := by
  unfold m_X11_walks_b123 at h
  refine j_iconst (pc := 123) dX11_walks_123 (v := 1) (by decide) ?_
  refine j_goto (pc := 124) (tgt := 128) dX11_walks_124 (by decide) ?_
  exact jm_X11_walks_b128 _ _ _ ws h
def m_X11_walks (a0 : Nat) (ws : LWd) : Option (Int32 × LWd) :=
  (rcv ws a0 11).bind fun _ =>
  (fI ws a0 11 26).bind fun x1 =>
  (fR ws a0 11 27).bind fun x3 =>
  (aI ws x3 (5 * x1)).bind fun x5 =>
  bn2 (calSR ws (m_X11_isDown a0 x5 ws)) fun x9 w7 =>
  if x9 = 0 then
    some (0, w7)
  else
    (fR w7 a0 11 15).bind fun x11 =>
    (aI w7 x11 x5).bind fun x13 =>
    (fR w7 a0 11 27).bind fun x15 =>
    (aI w7 x15 ((5 * x1) + 1)).bind fun x17 =>
    (fR w7 a0 11 16).bind fun x19 =>
    (aI w7 x19 x5).bind fun x21 =>
    (fR w7 a0 11 27).bind fun x23 =>
    (aI w7 x23 ((5 * x1) + 2)).bind fun x25 =>
    bn2 (calSR w7 (m_X11_lifts a0 x5 w7)) fun x29 w27 =>
    if x29 = 0 then
      some (0, w27)
    else
      (fI w27 a0 11 22).bind fun x31 =>
      if 0 < x31 then
        some (0, w27)
      else
        bn2 (calSR w27 (m_X11_isPoint (x13 + x17) (x21 + x25) w27)) fun x36 w34 =>
        if x36 = 0 then
          some (0, w34)
        else
          bn2 (calSR w34 (m_X11_places a0 x5 (x13 + x17) (x21 + x25) w34)) fun x40 w38 =>
          if x40 = 0 then
            some (0, w38)
          else
            (fI w38 a0 11 22).bind fun x42 =>
            if x42 ≤ 0 then
              (fR w38 a0 11 27).bind fun x45 =>
              (aI w38 x45 ((5 * x1) + 3)).bind fun x47 =>
              if x47 = 0 then
                (fR w38 a0 11 27).bind fun x50 =>
                (aI w38 x50 ((5 * x1) + 4)).bind fun x52 =>
                if x52 = 0 then
                  m_X11_walks_b128 a0 (5 * x1) 0 w38
                else
                  m_X11_walks_b123 a0 (5 * x1) w38
              else
                m_X11_walks_b123 a0 (5 * x1) w38
            else
              some (0, w38)
set_option maxRecDepth 100000 in
set_option maxHeartbeats 4000000 in
theorem s_X11_walks {a0 : Nat} {ws : LWd} {rr : Int32} {ws' : LWd} (h : m_X11_walks a0 ws = some (rr, ws')) : jSp yX11_walks wsX11_walks 6 0 0 [.ref a0] ws (.inl (some (.int rr)), ws') := by
  unfold m_X11_walks at h
  refine j_entry (ret := (some .boolean)) (nm := "walks") (own := RX11) pl_X11 rfl rfl rfl (jcats (by rfl)) (Nat.le_of_ble_eq_true rfl) ?_
  show JG (.inl false) cX11_walks 6 RX11 wsX11_walks (some .boolean) "walks" 6 0 0 ws.length (.inl (some (.int rr)), ws') 0 [some (.ref a0), none, none, none, none, none] [] ws 0 0
  obtain ⟨_, _, h⟩ := obS h
  refine j_iconst (pc := 0) dX11_walks_0 (v := 5) (by decide) ?_
  refine j_aload_n (pc := 1) dX11_walks_1 rfl ?_
  obtain ⟨x1, e2, h⟩ := obS h
  refine j_getI (pc := 2) dX11_walks_2 (ci := 11) (kf := 26) rfl (jwi hw_X11) (by decide) (jwm lw_571) e2 ?_
  refine j_imul (pc := 5) dX11_walks_5 ?_
  refine j_istore_n_1 (pc := 6) dX11_walks_6 (by decide) rfl ?_
  refine j_aload_n (pc := 7) dX11_walks_7 rfl ?_
  obtain ⟨x3, e4, h⟩ := obS h
  refine j_getR (pc := 8) dX11_walks_8 (ci := 11) (kf := 27) rfl (jwi hw_X11) (by decide) (jwm lw_538) e4 ?_
  refine j_iload_n (pc := 11) dX11_walks_11 rfl ?_
  obtain ⟨x5, e6, h⟩ := obS h
  refine j_iald (pc := 12) dX11_walks_12 e6 ?_
  refine j_istore_n_2 (pc := 13) dX11_walks_13 (by decide) rfl ?_
  refine j_aload_n (pc := 14) dX11_walks_14 rfl ?_
  refine j_iload_n (pc := 15) dX11_walks_15 rfl ?_
  obtain ⟨x9, w7, e8, h⟩ := obS2 h
  have ge8 := calSR_of e8
  refine j_callV_g (pc := 16) (As := [.int x5]) (k' := 0) (n' := 0) dX11_walks_16 (s_X11_isDown ge8.1) (jgV lw_548 lw_549 lw_550 lw_544 lw_547) rfl hv_X11_isDown rfl (r_X11_isDown ge8.1) rfl (by decide) (by decide) (Nat.le_of_ble_eq_true rfl) (by decide) (by decide) (by decide) (by decide) (Or.inl ge8.2) ?_
  refine j_if_ne (pc := 19) (tgt := 24) dX11_walks_19 (by decide) (fun c10 => ?_) (fun c10 => ?_)
  · rw [if_neg c10] at h
    refine j_aload_n (pc := 24) dX11_walks_24 rfl ?_
    obtain ⟨x11, e12, h⟩ := obS h
    refine j_getR (pc := 25) dX11_walks_25 (ci := 11) (kf := 15) rfl (jwi hw_X11) (by decide) (jwm lw_535) e12 ?_
    refine j_iload_n (pc := 28) dX11_walks_28 rfl ?_
    obtain ⟨x13, e14, h⟩ := obS h
    refine j_iald (pc := 29) dX11_walks_29 e14 ?_
    refine j_aload_n (pc := 30) dX11_walks_30 rfl ?_
    obtain ⟨x15, e16, h⟩ := obS h
    refine j_getR (pc := 31) dX11_walks_31 (ci := 11) (kf := 27) rfl (jwi hw_X11) (by decide) (jwm lw_538) e16 ?_
    refine j_iload_n (pc := 34) dX11_walks_34 rfl ?_
    refine j_iconst (pc := 35) dX11_walks_35 (v := 1) (by decide) ?_
    refine j_iadd (pc := 36) dX11_walks_36 ?_
    obtain ⟨x17, e18, h⟩ := obS h
    refine j_iald (pc := 37) dX11_walks_37 e18 ?_
    refine j_iadd (pc := 38) dX11_walks_38 ?_
    refine j_istore_n_3 (pc := 39) dX11_walks_39 (by decide) rfl ?_
    refine j_aload_n (pc := 40) dX11_walks_40 rfl ?_
    obtain ⟨x19, e20, h⟩ := obS h
    refine j_getR (pc := 41) dX11_walks_41 (ci := 11) (kf := 16) rfl (jwi hw_X11) (by decide) (jwm lw_536) e20 ?_
    refine j_iload_n (pc := 44) dX11_walks_44 rfl ?_
    obtain ⟨x21, e22, h⟩ := obS h
    refine j_iald (pc := 45) dX11_walks_45 e22 ?_
    refine j_aload_n (pc := 46) dX11_walks_46 rfl ?_
    obtain ⟨x23, e24, h⟩ := obS h
    refine j_getR (pc := 47) dX11_walks_47 (ci := 11) (kf := 27) rfl (jwi hw_X11) (by decide) (jwm lw_538) e24 ?_
    refine j_iload_n (pc := 50) dX11_walks_50 rfl ?_
    refine j_iconst (pc := 51) dX11_walks_51 (v := 2) (by decide) ?_
    refine j_iadd (pc := 52) dX11_walks_52 ?_
    obtain ⟨x25, e26, h⟩ := obS h
    refine j_iald (pc := 53) dX11_walks_53 e26 ?_
    refine j_iadd (pc := 54) dX11_walks_54 ?_
    refine j_istore_4 (pc := 55) dX11_walks_55 (by decide) rfl ?_
    refine j_aload_n (pc := 57) dX11_walks_57 rfl ?_
    refine j_iload_n (pc := 58) dX11_walks_58 rfl ?_
    obtain ⟨x29, w27, e28, h⟩ := obS2 h
    have ge28 := calSR_of e28
    refine j_callV_g (pc := 59) (As := [.int x5]) (k' := 0) (n' := 0) dX11_walks_59 (s_X11_lifts ge28.1) (jgV lw_681 lw_682 lw_683 lw_544 lw_680) rfl hv_X11_lifts rfl (r_X11_lifts ge28.1) rfl (by decide) (by decide) (Nat.le_of_ble_eq_true rfl) (by decide) (by decide) (by decide) (by decide) (Or.inl ge28.2) ?_
    refine j_if_eq (pc := 62) (tgt := 99) dX11_walks_62 (by decide) (fun c30 => ?_) (fun c30 => ?_)
    · rw [if_pos c30] at h
      refine j_iconst (pc := 99) dX11_walks_99 (v := 0) (by decide) ?_
      obtain ⟨rfl, rfl⟩ := jretS h
      exact j_zretL (pc := 100) (by decide) rfl dX11_walks_100 (by decide) (by decide) rfl
    · rw [if_neg c30] at h
      refine j_aload_n (pc := 65) dX11_walks_65 rfl ?_
      obtain ⟨x31, e32, h⟩ := obS h
      refine j_getI (pc := 66) dX11_walks_66 (ci := 11) (kf := 22) rfl (jwi hw_X11) (by decide) (jwm lw_607) e32 ?_
      refine j_if_gt (pc := 69) (tgt := 99) dX11_walks_69 (by decide) (fun c33 => ?_) (fun c33 => ?_)
      · rw [if_pos c33] at h
        refine j_iconst (pc := 99) dX11_walks_99 (v := 0) (by decide) ?_
        obtain ⟨rfl, rfl⟩ := jretS h
        exact j_zretL (pc := 100) (by decide) rfl dX11_walks_100 (by decide) (by decide) rfl
      · rw [if_neg c33] at h
        refine j_iload_n (pc := 72) dX11_walks_72 rfl ?_
        refine j_iload (pc := 73) dX11_walks_73 rfl ?_
        obtain ⟨x36, w34, e35, h⟩ := obS2 h
        have ge35 := calSR_of e35
        refine j_callS_g (pc := 75) (As := [.int (x13 + x17), .int (x21 + x25)]) (k' := 0) (n' := 0) dX11_walks_75 (s_X11_isPoint ge35.1) (jgS lw_563 lw_564 lw_544 lw_562) rfl hy_X11_isPoint rfl (by decide) (by decide) (Nat.le_of_ble_eq_true rfl) (by decide) (by decide) (by decide) (by decide) (Or.inl ge35.2) ?_
        refine j_if_eq (pc := 78) (tgt := 99) dX11_walks_78 (by decide) (fun c37 => ?_) (fun c37 => ?_)
        · rw [if_pos c37] at h
          refine j_iconst (pc := 99) dX11_walks_99 (v := 0) (by decide) ?_
          obtain ⟨rfl, rfl⟩ := jretS h
          exact j_zretL (pc := 100) (by decide) rfl dX11_walks_100 (by decide) (by decide) rfl
        · rw [if_neg c37] at h
          refine j_aload_n (pc := 81) dX11_walks_81 rfl ?_
          refine j_iload_n (pc := 82) dX11_walks_82 rfl ?_
          refine j_iload_n (pc := 83) dX11_walks_83 rfl ?_
          refine j_iload (pc := 84) dX11_walks_84 rfl ?_
          obtain ⟨x40, w38, e39, h⟩ := obS2 h
          have ge39 := calSR_of e39
          refine j_callV_g (pc := 86) (As := [.int x5, .int (x13 + x17), .int (x21 + x25)]) (k' := 0) (n' := 0) dX11_walks_86 (s_X11_places ge39.1) (jgV lw_685 lw_686 lw_687 lw_544 lw_684) rfl hv_X11_places rfl (r_X11_places ge39.1) rfl (by decide) (by decide) (Nat.le_of_ble_eq_true rfl) (by decide) (by decide) (by decide) (by decide) (Or.inl ge39.2) ?_
          refine j_if_eq (pc := 89) (tgt := 99) dX11_walks_89 (by decide) (fun c41 => ?_) (fun c41 => ?_)
          · rw [if_pos c41] at h
            refine j_iconst (pc := 99) dX11_walks_99 (v := 0) (by decide) ?_
            obtain ⟨rfl, rfl⟩ := jretS h
            exact j_zretL (pc := 100) (by decide) rfl dX11_walks_100 (by decide) (by decide) rfl
          · rw [if_neg c41] at h
            refine j_aload_n (pc := 92) dX11_walks_92 rfl ?_
            obtain ⟨x42, e43, h⟩ := obS h
            refine j_getI (pc := 93) dX11_walks_93 (ci := 11) (kf := 22) rfl (jwi hw_X11) (by decide) (jwm lw_607) e43 ?_
            refine j_if_le (pc := 96) (tgt := 101) dX11_walks_96 (by decide) (fun c44 => ?_) (fun c44 => ?_)
            · rw [if_pos c44] at h
              refine j_aload_n (pc := 101) dX11_walks_101 rfl ?_
              obtain ⟨x45, e46, h⟩ := obS h
              refine j_getR (pc := 102) dX11_walks_102 (ci := 11) (kf := 27) rfl (jwi hw_X11) (by decide) (jwm lw_538) e46 ?_
              refine j_iload_n (pc := 105) dX11_walks_105 rfl ?_
              refine j_iconst (pc := 106) dX11_walks_106 (v := 3) (by decide) ?_
              refine j_iadd (pc := 107) dX11_walks_107 ?_
              obtain ⟨x47, e48, h⟩ := obS h
              refine j_iald (pc := 108) dX11_walks_108 e48 ?_
              refine j_if_ne (pc := 109) (tgt := 123) dX11_walks_109 (by decide) (fun c49 => ?_) (fun c49 => ?_)
              · rw [if_neg c49] at h
                refine j_mask [true, true, false, false, false, false] ?_
                exact jm_X11_walks_b123 _ _ w38 h
              · rw [if_pos c49] at h
                refine j_aload_n (pc := 112) dX11_walks_112 rfl ?_
                obtain ⟨x50, e51, h⟩ := obS h
                refine j_getR (pc := 113) dX11_walks_113 (ci := 11) (kf := 27) rfl (jwi hw_X11) (by decide) (jwm lw_538) e51 ?_
                refine j_iload_n (pc := 116) dX11_walks_116 rfl ?_
                refine j_iconst (pc := 117) dX11_walks_117 (v := 4) (by decide) ?_
                refine j_iadd (pc := 118) dX11_walks_118 ?_
                obtain ⟨x52, e53, h⟩ := obS h
                refine j_iald (pc := 119) dX11_walks_119 e53 ?_
                refine j_if_eq (pc := 120) (tgt := 127) dX11_walks_120 (by decide) (fun c54 => ?_) (fun c54 => ?_)
                · rw [if_pos c54] at h
                  refine j_iconst (pc := 127) dX11_walks_127 (v := 0) (by decide) ?_
                  refine j_mask [true, true, false, false, false, false] ?_
                  exact jm_X11_walks_b128 _ _ _ w38 h
                · rw [if_neg c54] at h
                  refine j_mask [true, true, false, false, false, false] ?_
                  exact jm_X11_walks_b123 _ _ w38 h
            · rw [if_neg c44] at h
              refine j_iconst (pc := 99) dX11_walks_99 (v := 0) (by decide) ?_
              obtain ⟨rfl, rfl⟩ := jretS h
              exact j_zretL (pc := 100) (by decide) rfl dX11_walks_100 (by decide) (by decide) rfl
  · rw [if_pos c10] at h
    refine j_iconst (pc := 22) dX11_walks_22 (v := 0) (by decide) ?_
    obtain ⟨rfl, rfl⟩ := jretS h
    exact j_zretL (pc := 23) (by decide) rfl dX11_walks_23 (by decide) (by decide) rfl
theorem r_X11_walks {a0 : Nat} {ws : LWd} {o : (Int32 × LWd)} (h : m_X11_walks a0 ws = some o) : ∃ fs, ws[a0]? = some (.inr (11, fs)) := rcv_in h
def wsX11_walk : List Cond := Cond.code yX11_walk cX11_walk 3 (some .int) :: jW
def m_X11_walk_l37 : Nat → Nat → Int32 → Int32 → LWd → Option (Int32 × LWd)
  | 0, _, _, _, _ => none
  | fu + 1, a0, i1, i2, ws =>
    if i1 ≤ i2 then
      some (i2, ws)
    else
      bn2 (calSR ws (m_X11_walks a0 ws)) fun x4 w2 =>
      if x4 = 0 then
        some (i2, w2)
      else
        (fI w2 a0 11 26).bind fun x6 =>
        (fI w2 a0 11 25).bind fun x8 =>
        if x8 = 0 then none else
        (pV w2 a0 11 26 (.int (jrem (x6 + 1) x8))).bind fun w11 =>
        m_X11_walk_l37 fu a0 i1 (i2 + 1) w11
set_option maxRecDepth 100000 in
set_option maxHeartbeats 4000000 in
theorem jm_X11_walk_l37 {n0 : Nat} {rr : Int32} {ws' : LWd} : ∀ (fu : Nat) (a0 : Nat) (i1 : Int32) (i2 : Int32) (ws : LWd), m_X11_walk_l37 fu a0 i1 i2 ws = some (rr, ws') → JG (.inl false) cX11_walk 3 RX11 wsX11_walk (some .int) "walk" 7 0 0 n0 (.inl (some (.int rr)), ws') 37 [some (.ref a0), some (.int i1), some (.int i2)] [] ws 0 0 := by
  intro fu
  induction fu with
  | zero => intro a0 i1 i2 ws h; cases h
  | succ fu ih =>
    intro a0 i1 i2 ws h
    rw [m_X11_walk_l37] at h
    refine j_iload_n (pc := 37) dX11_walk_37 rfl ?_
    refine j_iload_n (pc := 38) dX11_walk_38 rfl ?_
    refine j_icmp_ge (pc := 39) (tgt := 70) dX11_walk_39 (by decide) (fun c1 => ?_) (fun c1 => ?_)
    · rw [if_pos c1] at h
      refine j_iload_n (pc := 70) dX11_walk_70 rfl ?_
      obtain ⟨rfl, rfl⟩ := jretS h
      exact j_iret (pc := 71) rfl dX11_walk_71 (by decide) (by decide) rfl
    · rw [if_neg c1] at h
      refine j_aload_n (pc := 42) dX11_walk_42 rfl ?_
      obtain ⟨x4, w2, e3, h⟩ := obS2 h
      have ge3 := calSR_of e3
      refine j_callV_g (pc := 43) (As := []) (k' := 0) (n' := 0) dX11_walk_43 (s_X11_walks ge3.1) (jgV lw_693 lw_694 lw_695 lw_544 lw_692) rfl hv_X11_walks rfl (r_X11_walks ge3.1) rfl (by decide) (by decide) (Nat.le_of_ble_eq_true rfl) (by decide) (by decide) (by decide) (by decide) (Or.inl ge3.2) ?_
      refine j_if_eq (pc := 46) (tgt := 70) dX11_walk_46 (by decide) (fun c5 => ?_) (fun c5 => ?_)
      · rw [if_pos c5] at h
        refine j_iload_n (pc := 70) dX11_walk_70 rfl ?_
        obtain ⟨rfl, rfl⟩ := jretS h
        exact j_iret (pc := 71) rfl dX11_walk_71 (by decide) (by decide) rfl
      · rw [if_neg c5] at h
        refine j_iinc_2 (pc := 49) dX11_walk_49 (y := i2 + 1) rfl (by decide) rfl ?_
        refine j_aload_n (pc := 52) dX11_walk_52 rfl ?_
        refine j_aload_n (pc := 53) dX11_walk_53 rfl ?_
        obtain ⟨x6, e7, h⟩ := obS h
        refine j_getI (pc := 54) dX11_walk_54 (ci := 11) (kf := 26) rfl (jwi hw_X11) (by decide) (jwm lw_571) e7 ?_
        refine j_iconst (pc := 57) dX11_walk_57 (v := 1) (by decide) ?_
        refine j_iadd (pc := 58) dX11_walk_58 ?_
        refine j_aload_n (pc := 59) dX11_walk_59 rfl ?_
        obtain ⟨x8, e9, h⟩ := obS h
        refine j_getI (pc := 60) dX11_walk_60 (ci := 11) (kf := 25) rfl (jwi hw_X11) (by decide) (jwm lw_566) e9 ?_
        have c10 := jneS h
        rw [if_neg c10] at h
        refine j_irem (pc := 63) dX11_walk_63 c10 ?_
        obtain ⟨w11, e12, h⟩ := obS h
        refine j_putV (pc := 64) (ci := 11) (kf := 26) tyX11 tyX11_ok nmX11 dX11_walk_64 rfl (jwi hw_X11) (by decide) (jwm lw_571) rfl (fun _ => rfl) (fun _ => rfl) e12 ?_
        refine j_goto (pc := 67) (tgt := 37) dX11_walk_67 (by decide) ?_
        exact ih _ _ _ w11 h
def m_X11_walk_b27 (a0 : Nat) (i1 : Int32) (s0 : Nat) (s1 : Int32) (ws : LWd) : Option (Int32 × LWd) :=
  bn2 (calSR ws (m_X11_fails s0 s1 ws)) fun x3 w1 =>
  if x3 = 0 then
    m_X11_walk_l37 FU a0 i1 0 w1
  else
    some (0, w1)
set_option maxRecDepth 100000 in
set_option maxHeartbeats 4000000 in
theorem jm_X11_walk_b27 {n0 : Nat} {rr : Int32} {ws' : LWd} (a0 : Nat) (i1 : Int32) (s0 : Nat) (s1 : Int32) (ws : LWd) (h : m_X11_walk_b27 a0 i1 s0 s1 ws = some (rr, ws')) : JG (.inl false) cX11_walk 3 RX11 wsX11_walk (some .int) "walk" 7 0 0 n0 (.inl (some (.int rr)), ws') 27 [some (.ref a0), some (.int i1), none] [.int s1, .ref s0] ws 0 0 := by
  unfold m_X11_walk_b27 at h
  obtain ⟨x3, w1, e2, h⟩ := obS2 h
  have ge2 := calSR_of e2
  refine j_callV_g (pc := 27) (As := [.int s1]) (k' := 0) (n' := 0) dX11_walk_27 (s_X11_fails ge2.1) (jgV lw_552 lw_553 lw_554 lw_544 lw_551) rfl hv_X11_fails rfl (r_X11_fails ge2.1) rfl (by decide) (by decide) (Nat.le_of_ble_eq_true rfl) (by decide) (by decide) (by decide) (by decide) (Or.inl ge2.2) ?_
  refine j_if_eq (pc := 30) (tgt := 35) dX11_walk_30 (by decide) (fun c4 => ?_) (fun c4 => ?_)
  · rw [if_pos c4] at h
    refine j_iconst (pc := 35) dX11_walk_35 (v := 0) (by decide) ?_
    refine j_istore_n_2 (pc := 36) dX11_walk_36 (by decide) rfl ?_
    exact jm_X11_walk_l37 FU _ _ _ w1 h
  · rw [if_neg c4] at h
    refine j_iconst (pc := 33) dX11_walk_33 (v := 0) (by decide) ?_
    obtain ⟨rfl, rfl⟩ := jretS h
    exact j_iret (pc := 34) rfl dX11_walk_34 (by decide) (by decide) rfl
def m_X11_walk (a0 : Nat) (i1 : Int32) (ws : LWd) : Option (Int32 × LWd) :=
  (rcv ws a0 11).bind fun _ =>
  bn2 (calSR ws (m_X11_isIn i1 1 20 ws)) fun x3 w1 =>
  if x3 = 0 then
    m_X11_walk_b27 a0 i1 a0 1 w1
  else
    (fI w1 a0 11 25).bind fun x5 =>
    if x5 = 0 then
      m_X11_walk_b27 a0 i1 a0 2 w1
    else
      m_X11_walk_b27 a0 i1 a0 0 w1
set_option maxRecDepth 100000 in
set_option maxHeartbeats 4000000 in
theorem s_X11_walk {a0 : Nat} {i1 : Int32} {ws : LWd} {rr : Int32} {ws' : LWd} (h : m_X11_walk a0 i1 ws = some (rr, ws')) : jSp yX11_walk wsX11_walk 7 0 0 [.ref a0, .int i1] ws (.inl (some (.int rr)), ws') := by
  unfold m_X11_walk at h
  refine j_entry (ret := (some .int)) (nm := "walk") (own := RX11) pl_X11 rfl rfl rfl (jcats (by rfl)) (Nat.le_of_ble_eq_true rfl) ?_
  show JG (.inl false) cX11_walk 3 RX11 wsX11_walk (some .int) "walk" 7 0 0 ws.length (.inl (some (.int rr)), ws') 0 [some (.ref a0), some (.int i1), none] [] ws 0 0
  obtain ⟨_, _, h⟩ := obS h
  refine j_aload_n (pc := 0) dX11_walk_0 rfl ?_
  refine j_iload_n (pc := 1) dX11_walk_1 rfl ?_
  refine j_iconst (pc := 2) dX11_walk_2 (v := 1) (by decide) ?_
  refine j_bipush (pc := 3) dX11_walk_3 (v := 20) (by decide) ?_
  obtain ⟨x3, w1, e2, h⟩ := obS2 h
  have ge2 := calSR_of e2
  refine j_callS_g (pc := 5) (As := [.int i1, .int 1, .int 20]) (k' := 0) (n' := 0) dX11_walk_5 (s_X11_isIn ge2.1) (jgS lw_542 lw_543 lw_544 lw_541) rfl hy_X11_isIn rfl (by decide) (by decide) (Nat.le_of_ble_eq_true rfl) (by decide) (by decide) (by decide) (by decide) (Or.inl ge2.2) ?_
  refine j_if_ne (pc := 8) (tgt := 15) dX11_walk_8 (by decide) (fun c4 => ?_) (fun c4 => ?_)
  · rw [if_neg c4] at h
    refine j_aload_n (pc := 15) dX11_walk_15 rfl ?_
    obtain ⟨x5, e6, h⟩ := obS h
    refine j_getI (pc := 16) dX11_walk_16 (ci := 11) (kf := 25) rfl (jwi hw_X11) (by decide) (jwm lw_566) e6 ?_
    refine j_if_ne (pc := 19) (tgt := 26) dX11_walk_19 (by decide) (fun c7 => ?_) (fun c7 => ?_)
    · rw [if_neg c7] at h
      refine j_iconst (pc := 26) dX11_walk_26 (v := 0) (by decide) ?_
      exact jm_X11_walk_b27 _ _ _ _ w1 h
    · rw [if_pos c7] at h
      refine j_iconst (pc := 22) dX11_walk_22 (v := 2) (by decide) ?_
      refine j_goto (pc := 23) (tgt := 27) dX11_walk_23 (by decide) ?_
      exact jm_X11_walk_b27 _ _ _ _ w1 h
  · rw [if_pos c4] at h
    refine j_iconst (pc := 11) dX11_walk_11 (v := 1) (by decide) ?_
    refine j_goto (pc := 12) (tgt := 27) dX11_walk_12 (by decide) ?_
    exact jm_X11_walk_b27 _ _ _ _ w1 h
theorem r_X11_walk {a0 : Nat} {i1 : Int32} {ws : LWd} {o : (Int32 × LWd)} (h : m_X11_walk a0 i1 ws = some o) : ∃ fs, ws[a0]? = some (.inr (11, fs)) := rcv_in h
def wsX11_machine : List Cond := Cond.code yX11_machine cX11_machine 2 (some .int) :: jW
def m_X11_machine_b16 (a0 : Nat) (i1 : Int32) (s0 : Nat) (s1 : Int32) (ws : LWd) : Option (Int32 × LWd) :=
  bn2 (calSR ws (m_X11_fails s0 s1 ws)) fun x3 w1 =>
  if x3 = 0 then
    if i1 = 0 then
      (fI w1 a0 11 5).bind fun x6 =>
      some (x6, w1)
    else
      if i1 = 1 then
        (fI w1 a0 11 6).bind fun x9 =>
        some (x9, w1)
      else
        if i1 = 2 then
          (fI w1 a0 11 4).bind fun x12 =>
          if x12 = 0 then
            some (0, w1)
          else
            some (1, w1)
        else
          if i1 = 3 then
            (fI w1 a0 11 7).bind fun x16 =>
            some (x16, w1)
          else
            if i1 = 4 then
              (fI w1 a0 11 8).bind fun x19 =>
              some (x19, w1)
            else
              if i1 = 5 then
                (fI w1 a0 11 17).bind fun x22 =>
                bn2 (calSR w1 (m_X11_level a0 x22 w1)) fun x26 w24 =>
                some (x26, w24)
              else
                if i1 = 6 then
                  (fI w1 a0 11 17).bind fun x28 =>
                  bn2 (calSR w1 (m_X11_pressure a0 x28 w1)) fun x32 w30 =>
                  some (x32, w30)
                else
                  if i1 = 7 then
                    (fI w1 a0 11 17).bind fun x34 =>
                    bn2 (calSR w1 (m_X11_count x34 w1)) fun x38 w36 =>
                    some (x38, w36)
                  else
                    if i1 = 8 then
                      (fI w1 a0 11 18).bind fun x40 =>
                      some (x40, w1)
                    else
                      if i1 = 9 then
                        (fI w1 a0 11 23).bind fun x43 =>
                        some (x43, w1)
                      else
                        if i1 = 10 then
                          (fI w1 a0 11 11).bind fun x46 =>
                          some (x46, w1)
                        else
                          (fI w1 a0 11 25).bind fun x48 =>
                          if x48 = 0 then
                            some ((-1), w1)
                          else
                            (fI w1 a0 11 26).bind fun x51 =>
                            some (x51, w1)
  else
    some (0, w1)
set_option maxRecDepth 100000 in
set_option maxHeartbeats 4000000 in
theorem jm_X11_machine_b16 {n0 : Nat} {rr : Int32} {ws' : LWd} (a0 : Nat) (i1 : Int32) (s0 : Nat) (s1 : Int32) (ws : LWd) (h : m_X11_machine_b16 a0 i1 s0 s1 ws = some (rr, ws')) : JG (.inl false) cX11_machine 2 RX11 wsX11_machine (some .int) "machine" 2 0 0 n0 (.inl (some (.int rr)), ws') 16 [some (.ref a0), some (.int i1)] [.int s1, .ref s0] ws 0 0 := by
  unfold m_X11_machine_b16 at h
  obtain ⟨x3, w1, e2, h⟩ := obS2 h
  have ge2 := calSR_of e2
  refine j_callV_g (pc := 16) (As := [.int s1]) (k' := 0) (n' := 0) dX11_machine_16 (s_X11_fails ge2.1) (jgV lw_552 lw_553 lw_554 lw_544 lw_551) rfl hv_X11_fails rfl (r_X11_fails ge2.1) rfl (by decide) (by decide) (Nat.le_of_ble_eq_true rfl) (by decide) (by decide) (by decide) (by decide) (Or.inl ge2.2) ?_
  refine j_if_eq (pc := 19) (tgt := 24) dX11_machine_19 (by decide) (fun c4 => ?_) (fun c4 => ?_)
  · rw [if_pos c4] at h
    refine j_iload_n (pc := 24) dX11_machine_24 rfl ?_
    by_cases c5 : i1 = 0
    · rw [if_pos c5] at h
      refine j_tabEq (pc := 25) (tgt := 84) (a := 0) dX11_machine_25 c5 rfl (by decide) (by decide) rfl (by decide) ?_
      refine j_aload_n (pc := 84) dX11_machine_84 rfl ?_
      obtain ⟨x6, e7, h⟩ := obS h
      refine j_getI (pc := 85) dX11_machine_85 (ci := 11) (kf := 5) rfl (jwi hw_X11) (by decide) (jwm lw_529) e7 ?_
      obtain ⟨rfl, rfl⟩ := jretS h
      exact j_iret (pc := 88) rfl dX11_machine_88 (by decide) (by decide) rfl
    · rw [if_neg c5] at h
      by_cases c8 : i1 = 1
      · rw [if_pos c8] at h
        refine j_tabEq (pc := 25) (tgt := 89) (a := 1) dX11_machine_25 c8 rfl (by decide) (by decide) rfl (by decide) ?_
        refine j_aload_n (pc := 89) dX11_machine_89 rfl ?_
        obtain ⟨x9, e10, h⟩ := obS h
        refine j_getI (pc := 90) dX11_machine_90 (ci := 11) (kf := 6) rfl (jwi hw_X11) (by decide) (jwm lw_530) e10 ?_
        obtain ⟨rfl, rfl⟩ := jretS h
        exact j_iret (pc := 93) rfl dX11_machine_93 (by decide) (by decide) rfl
      · rw [if_neg c8] at h
        by_cases c11 : i1 = 2
        · rw [if_pos c11] at h
          refine j_tabEq (pc := 25) (tgt := 94) (a := 2) dX11_machine_25 c11 rfl (by decide) (by decide) rfl (by decide) ?_
          refine j_aload_n (pc := 94) dX11_machine_94 rfl ?_
          obtain ⟨x12, e13, h⟩ := obS h
          refine j_getI (pc := 95) dX11_machine_95 (ci := 11) (kf := 4) rfl (jwi hw_X11) (by decide) (jwm lw_565) e13 ?_
          refine j_if_eq (pc := 98) (tgt := 105) dX11_machine_98 (by decide) (fun c14 => ?_) (fun c14 => ?_)
          · rw [if_pos c14] at h
            refine j_iconst (pc := 105) dX11_machine_105 (v := 0) (by decide) ?_
            obtain ⟨rfl, rfl⟩ := jretS h
            exact j_iret (pc := 106) rfl dX11_machine_106 (by decide) (by decide) rfl
          · rw [if_neg c14] at h
            refine j_iconst (pc := 101) dX11_machine_101 (v := 1) (by decide) ?_
            refine j_goto (pc := 102) (tgt := 106) dX11_machine_102 (by decide) ?_
            obtain ⟨rfl, rfl⟩ := jretS h
            exact j_iret (pc := 106) rfl dX11_machine_106 (by decide) (by decide) rfl
        · rw [if_neg c11] at h
          by_cases c15 : i1 = 3
          · rw [if_pos c15] at h
            refine j_tabEq (pc := 25) (tgt := 107) (a := 3) dX11_machine_25 c15 rfl (by decide) (by decide) rfl (by decide) ?_
            refine j_aload_n (pc := 107) dX11_machine_107 rfl ?_
            obtain ⟨x16, e17, h⟩ := obS h
            refine j_getI (pc := 108) dX11_machine_108 (ci := 11) (kf := 7) rfl (jwi hw_X11) (by decide) (jwm lw_531) e17 ?_
            obtain ⟨rfl, rfl⟩ := jretS h
            exact j_iret (pc := 111) rfl dX11_machine_111 (by decide) (by decide) rfl
          · rw [if_neg c15] at h
            by_cases c18 : i1 = 4
            · rw [if_pos c18] at h
              refine j_tabEq (pc := 25) (tgt := 112) (a := 4) dX11_machine_25 c18 rfl (by decide) (by decide) rfl (by decide) ?_
              refine j_aload_n (pc := 112) dX11_machine_112 rfl ?_
              obtain ⟨x19, e20, h⟩ := obS h
              refine j_getI (pc := 113) dX11_machine_113 (ci := 11) (kf := 8) rfl (jwi hw_X11) (by decide) (jwm lw_572) e20 ?_
              obtain ⟨rfl, rfl⟩ := jretS h
              exact j_iret (pc := 116) rfl dX11_machine_116 (by decide) (by decide) rfl
            · rw [if_neg c18] at h
              by_cases c21 : i1 = 5
              · rw [if_pos c21] at h
                refine j_tabEq (pc := 25) (tgt := 117) (a := 5) dX11_machine_25 c21 rfl (by decide) (by decide) rfl (by decide) ?_
                refine j_aload_n (pc := 117) dX11_machine_117 rfl ?_
                refine j_aload_n (pc := 118) dX11_machine_118 rfl ?_
                obtain ⟨x22, e23, h⟩ := obS h
                refine j_getI (pc := 119) dX11_machine_119 (ci := 11) (kf := 17) rfl (jwi hw_X11) (by decide) (jwm lw_546) e23 ?_
                obtain ⟨x26, w24, e25, h⟩ := obS2 h
                have ge25 := calSR_of e25
                refine j_callV_g (pc := 122) (As := [.int x22]) (k' := 0) (n' := 0) dX11_machine_122 (s_X11_level ge25.1) (jgV lw_657 lw_658 lw_659 lw_544 lw_656) rfl hv_X11_level rfl (r_X11_level ge25.1) rfl (by decide) (by decide) (Nat.le_of_ble_eq_true rfl) (by decide) (by decide) (by decide) (by decide) (Or.inl ge25.2) ?_
                obtain ⟨rfl, rfl⟩ := jretS h
                exact j_iret (pc := 125) rfl dX11_machine_125 (by decide) (by decide) rfl
              · rw [if_neg c21] at h
                by_cases c27 : i1 = 6
                · rw [if_pos c27] at h
                  refine j_tabEq (pc := 25) (tgt := 126) (a := 6) dX11_machine_25 c27 rfl (by decide) (by decide) rfl (by decide) ?_
                  refine j_aload_n (pc := 126) dX11_machine_126 rfl ?_
                  refine j_aload_n (pc := 127) dX11_machine_127 rfl ?_
                  obtain ⟨x28, e29, h⟩ := obS h
                  refine j_getI (pc := 128) dX11_machine_128 (ci := 11) (kf := 17) rfl (jwi hw_X11) (by decide) (jwm lw_546) e29 ?_
                  obtain ⟨x32, w30, e31, h⟩ := obS2 h
                  have ge31 := calSR_of e31
                  refine j_callV_g (pc := 131) (As := [.int x28]) (k' := 0) (n' := 0) dX11_machine_131 (s_X11_pressure ge31.1) (jgV lw_629 lw_630 lw_631 lw_544 lw_628) rfl hv_X11_pressure rfl (r_X11_pressure ge31.1) rfl (by decide) (by decide) (Nat.le_of_ble_eq_true rfl) (by decide) (by decide) (by decide) (by decide) (Or.inl ge31.2) ?_
                  obtain ⟨rfl, rfl⟩ := jretS h
                  exact j_iret (pc := 134) rfl dX11_machine_134 (by decide) (by decide) rfl
                · rw [if_neg c27] at h
                  by_cases c33 : i1 = 7
                  · rw [if_pos c33] at h
                    refine j_tabEq (pc := 25) (tgt := 135) (a := 7) dX11_machine_25 c33 rfl (by decide) (by decide) rfl (by decide) ?_
                    refine j_aload_n (pc := 135) dX11_machine_135 rfl ?_
                    obtain ⟨x34, e35, h⟩ := obS h
                    refine j_getI (pc := 136) dX11_machine_136 (ci := 11) (kf := 17) rfl (jwi hw_X11) (by decide) (jwm lw_546) e35 ?_
                    obtain ⟨x38, w36, e37, h⟩ := obS2 h
                    have ge37 := calSR_of e37
                    refine j_callS_g (pc := 139) (As := [.int x34]) (k' := 0) (n' := 0) dX11_machine_139 (s_X11_count ge37.1) (jgS lw_605 lw_606 lw_544 lw_604) rfl hy_X11_count rfl (by decide) (by decide) (Nat.le_of_ble_eq_true rfl) (by decide) (by decide) (by decide) (by decide) (Or.inl ge37.2) ?_
                    obtain ⟨rfl, rfl⟩ := jretS h
                    exact j_iret (pc := 142) rfl dX11_machine_142 (by decide) (by decide) rfl
                  · rw [if_neg c33] at h
                    by_cases c39 : i1 = 8
                    · rw [if_pos c39] at h
                      refine j_tabEq (pc := 25) (tgt := 143) (a := 8) dX11_machine_25 c39 rfl (by decide) (by decide) rfl (by decide) ?_
                      refine j_aload_n (pc := 143) dX11_machine_143 rfl ?_
                      obtain ⟨x40, e41, h⟩ := obS h
                      refine j_getI (pc := 144) dX11_machine_144 (ci := 11) (kf := 18) rfl (jwi hw_X11) (by decide) (jwm lw_608) e41 ?_
                      obtain ⟨rfl, rfl⟩ := jretS h
                      exact j_iret (pc := 147) rfl dX11_machine_147 (by decide) (by decide) rfl
                    · rw [if_neg c39] at h
                      by_cases c42 : i1 = 9
                      · rw [if_pos c42] at h
                        refine j_tabEq (pc := 25) (tgt := 148) (a := 9) dX11_machine_25 c42 rfl (by decide) (by decide) rfl (by decide) ?_
                        refine j_aload_n (pc := 148) dX11_machine_148 rfl ?_
                        obtain ⟨x43, e44, h⟩ := obS h
                        refine j_getI (pc := 149) dX11_machine_149 (ci := 11) (kf := 23) rfl (jwi hw_X11) (by decide) (jwm lw_639) e44 ?_
                        obtain ⟨rfl, rfl⟩ := jretS h
                        exact j_iret (pc := 152) rfl dX11_machine_152 (by decide) (by decide) rfl
                      · rw [if_neg c42] at h
                        by_cases c45 : i1 = 10
                        · rw [if_pos c45] at h
                          refine j_tabEq (pc := 25) (tgt := 153) (a := 10) dX11_machine_25 c45 rfl (by decide) (by decide) rfl (by decide) ?_
                          refine j_aload_n (pc := 153) dX11_machine_153 rfl ?_
                          obtain ⟨x46, e47, h⟩ := obS h
                          refine j_getI (pc := 154) dX11_machine_154 (ci := 11) (kf := 11) rfl (jwi hw_X11) (by decide) (jwm lw_545) e47 ?_
                          obtain ⟨rfl, rfl⟩ := jretS h
                          exact j_iret (pc := 157) rfl dX11_machine_157 (by decide) (by decide) rfl
                        · rw [if_neg c45] at h
                          refine j_tabOut (pc := 25) (tgt := 158) dX11_machine_25 (jout11 c5 c8 c11 c15 c18 c21 c27 c33 c39 c42 c45) (by decide) ?_
                          refine j_aload_n (pc := 158) dX11_machine_158 rfl ?_
                          obtain ⟨x48, e49, h⟩ := obS h
                          refine j_getI (pc := 159) dX11_machine_159 (ci := 11) (kf := 25) rfl (jwi hw_X11) (by decide) (jwm lw_566) e49 ?_
                          refine j_if_ne (pc := 162) (tgt := 169) dX11_machine_162 (by decide) (fun c50 => ?_) (fun c50 => ?_)
                          · rw [if_neg c50] at h
                            refine j_aload_n (pc := 169) dX11_machine_169 rfl ?_
                            obtain ⟨x51, e52, h⟩ := obS h
                            refine j_getI (pc := 170) dX11_machine_170 (ci := 11) (kf := 26) rfl (jwi hw_X11) (by decide) (jwm lw_571) e52 ?_
                            obtain ⟨rfl, rfl⟩ := jretS h
                            exact j_iret (pc := 173) rfl dX11_machine_173 (by decide) (by decide) rfl
                          · rw [if_pos c50] at h
                            refine j_iconst (pc := 165) dX11_machine_165 (v := (-1)) (by decide) ?_
                            refine j_goto (pc := 166) (tgt := 173) dX11_machine_166 (by decide) ?_
                            obtain ⟨rfl, rfl⟩ := jretS h
                            exact j_iret (pc := 173) rfl dX11_machine_173 (by decide) (by decide) rfl
  · rw [if_neg c4] at h
    refine j_iconst (pc := 22) dX11_machine_22 (v := 0) (by decide) ?_
    obtain ⟨rfl, rfl⟩ := jretS h
    exact j_iret (pc := 23) rfl dX11_machine_23 (by decide) (by decide) rfl
def m_X11_machine (a0 : Nat) (i1 : Int32) (ws : LWd) : Option (Int32 × LWd) :=
  (rcv ws a0 11).bind fun _ =>
  bn2 (calSR ws (m_X11_isIn i1 0 11 ws)) fun x3 w1 =>
  if x3 = 0 then
    m_X11_machine_b16 a0 i1 a0 1 w1
  else
    m_X11_machine_b16 a0 i1 a0 0 w1
set_option maxRecDepth 100000 in
set_option maxHeartbeats 4000000 in
theorem s_X11_machine {a0 : Nat} {i1 : Int32} {ws : LWd} {rr : Int32} {ws' : LWd} (h : m_X11_machine a0 i1 ws = some (rr, ws')) : jSp yX11_machine wsX11_machine 2 0 0 [.ref a0, .int i1] ws (.inl (some (.int rr)), ws') := by
  unfold m_X11_machine at h
  refine j_entry (ret := (some .int)) (nm := "machine") (own := RX11) pl_X11 rfl rfl rfl (jcats (by rfl)) (Nat.le_of_ble_eq_true rfl) ?_
  show JG (.inl false) cX11_machine 2 RX11 wsX11_machine (some .int) "machine" 2 0 0 ws.length (.inl (some (.int rr)), ws') 0 [some (.ref a0), some (.int i1)] [] ws 0 0
  obtain ⟨_, _, h⟩ := obS h
  refine j_aload_n (pc := 0) dX11_machine_0 rfl ?_
  refine j_iload_n (pc := 1) dX11_machine_1 rfl ?_
  refine j_iconst (pc := 2) dX11_machine_2 (v := 0) (by decide) ?_
  refine j_bipush (pc := 3) dX11_machine_3 (v := 11) (by decide) ?_
  obtain ⟨x3, w1, e2, h⟩ := obS2 h
  have ge2 := calSR_of e2
  refine j_callS_g (pc := 5) (As := [.int i1, .int 0, .int 11]) (k' := 0) (n' := 0) dX11_machine_5 (s_X11_isIn ge2.1) (jgS lw_542 lw_543 lw_544 lw_541) rfl hy_X11_isIn rfl (by decide) (by decide) (Nat.le_of_ble_eq_true rfl) (by decide) (by decide) (by decide) (by decide) (Or.inl ge2.2) ?_
  refine j_if_eq (pc := 8) (tgt := 15) dX11_machine_8 (by decide) (fun c4 => ?_) (fun c4 => ?_)
  · rw [if_pos c4] at h
    refine j_iconst (pc := 15) dX11_machine_15 (v := 1) (by decide) ?_
    exact jm_X11_machine_b16 _ _ _ _ w1 h
  · rw [if_neg c4] at h
    refine j_iconst (pc := 11) dX11_machine_11 (v := 0) (by decide) ?_
    refine j_goto (pc := 12) (tgt := 16) dX11_machine_12 (by decide) ?_
    exact jm_X11_machine_b16 _ _ _ _ w1 h
theorem r_X11_machine {a0 : Nat} {i1 : Int32} {ws : LWd} {o : (Int32 × LWd)} (h : m_X11_machine a0 i1 ws = some o) : ∃ fs, ws[a0]? = some (.inr (11, fs)) := rcv_in h
def wsX11_foot : List Cond := Cond.code yX11_foot cX11_foot 3 (some .int) :: jW
def m_X11_foot_b27 (a0 : Nat) (i1 : Int32) (i2 : Int32) (s0 : Nat) (s1 : Int32) (ws : LWd) : Option (Int32 × LWd) :=
  bn2 (calSR ws (m_X11_fails s0 s1 ws)) fun x3 w1 =>
  if x3 = 0 then
    if i2 = 0 then
      bn2 (calSR w1 (m_X11_isDown a0 i1 w1)) fun x21 w19 =>
      if x21 = 0 then
        some (0, w19)
      else
        some (1, w19)
    else
      bn2 (calSR w1 (m_X11_isDown a0 i1 w1)) fun x8 w6 =>
      if x8 = 0 then
        some ((-1), w6)
      else
        if i2 = 1 then
          (fR w6 a0 11 15).bind fun x15 =>
          (aI w6 x15 i1).bind fun x17 =>
          some (x17, w6)
        else
          (fR w6 a0 11 16).bind fun x11 =>
          (aI w6 x11 i1).bind fun x13 =>
          some (x13, w6)
  else
    some (0, w1)
set_option maxRecDepth 100000 in
set_option maxHeartbeats 4000000 in
theorem jm_X11_foot_b27 {n0 : Nat} {rr : Int32} {ws' : LWd} (a0 : Nat) (i1 : Int32) (i2 : Int32) (s0 : Nat) (s1 : Int32) (ws : LWd) (h : m_X11_foot_b27 a0 i1 i2 s0 s1 ws = some (rr, ws')) : JG (.inl false) cX11_foot 3 RX11 wsX11_foot (some .int) "foot" 2 0 0 n0 (.inl (some (.int rr)), ws') 27 [some (.ref a0), some (.int i1), some (.int i2)] [.int s1, .ref s0] ws 0 0 := by
  unfold m_X11_foot_b27 at h
  obtain ⟨x3, w1, e2, h⟩ := obS2 h
  have ge2 := calSR_of e2
  refine j_callV_g (pc := 27) (As := [.int s1]) (k' := 0) (n' := 0) dX11_foot_27 (s_X11_fails ge2.1) (jgV lw_552 lw_553 lw_554 lw_544 lw_551) rfl hv_X11_fails rfl (r_X11_fails ge2.1) rfl (by decide) (by decide) (Nat.le_of_ble_eq_true rfl) (by decide) (by decide) (by decide) (by decide) (Or.inl ge2.2) ?_
  refine j_if_eq (pc := 30) (tgt := 35) dX11_foot_30 (by decide) (fun c4 => ?_) (fun c4 => ?_)
  · rw [if_pos c4] at h
    refine j_iload_n (pc := 35) dX11_foot_35 rfl ?_
    refine j_if_ne (pc := 36) (tgt := 55) dX11_foot_36 (by decide) (fun c5 => ?_) (fun c5 => ?_)
    · rw [if_neg c5] at h
      refine j_aload_n (pc := 55) dX11_foot_55 rfl ?_
      refine j_iload_n (pc := 56) dX11_foot_56 rfl ?_
      obtain ⟨x8, w6, e7, h⟩ := obS2 h
      have ge7 := calSR_of e7
      refine j_callV_g (pc := 57) (As := [.int i1]) (k' := 0) (n' := 0) dX11_foot_57 (s_X11_isDown ge7.1) (jgV lw_548 lw_549 lw_550 lw_544 lw_547) rfl hv_X11_isDown rfl (r_X11_isDown ge7.1) rfl (by decide) (by decide) (Nat.le_of_ble_eq_true rfl) (by decide) (by decide) (by decide) (by decide) (Or.inl ge7.2) ?_
      refine j_if_ne (pc := 60) (tgt := 67) dX11_foot_60 (by decide) (fun c9 => ?_) (fun c9 => ?_)
      · rw [if_neg c9] at h
        refine j_iload_n (pc := 67) dX11_foot_67 rfl ?_
        refine j_iconst (pc := 68) dX11_foot_68 (v := 1) (by decide) ?_
        refine j_icmp_ne (pc := 69) (tgt := 81) dX11_foot_69 (by decide) (fun c10 => ?_) (fun c10 => ?_)
        · rw [if_neg c10] at h
          refine j_aload_n (pc := 81) dX11_foot_81 rfl ?_
          obtain ⟨x11, e12, h⟩ := obS h
          refine j_getR (pc := 82) dX11_foot_82 (ci := 11) (kf := 16) rfl (jwi hw_X11) (by decide) (jwm lw_536) e12 ?_
          refine j_iload_n (pc := 85) dX11_foot_85 rfl ?_
          obtain ⟨x13, e14, h⟩ := obS h
          refine j_iald (pc := 86) dX11_foot_86 e14 ?_
          obtain ⟨rfl, rfl⟩ := jretS h
          exact j_iret (pc := 87) rfl dX11_foot_87 (by decide) (by decide) rfl
        · rw [if_pos c10] at h
          refine j_aload_n (pc := 72) dX11_foot_72 rfl ?_
          obtain ⟨x15, e16, h⟩ := obS h
          refine j_getR (pc := 73) dX11_foot_73 (ci := 11) (kf := 15) rfl (jwi hw_X11) (by decide) (jwm lw_535) e16 ?_
          refine j_iload_n (pc := 76) dX11_foot_76 rfl ?_
          obtain ⟨x17, e18, h⟩ := obS h
          refine j_iald (pc := 77) dX11_foot_77 e18 ?_
          refine j_goto (pc := 78) (tgt := 87) dX11_foot_78 (by decide) ?_
          obtain ⟨rfl, rfl⟩ := jretS h
          exact j_iret (pc := 87) rfl dX11_foot_87 (by decide) (by decide) rfl
      · rw [if_pos c9] at h
        refine j_iconst (pc := 63) dX11_foot_63 (v := (-1)) (by decide) ?_
        refine j_goto (pc := 64) (tgt := 87) dX11_foot_64 (by decide) ?_
        obtain ⟨rfl, rfl⟩ := jretS h
        exact j_iret (pc := 87) rfl dX11_foot_87 (by decide) (by decide) rfl
    · rw [if_pos c5] at h
      refine j_aload_n (pc := 39) dX11_foot_39 rfl ?_
      refine j_iload_n (pc := 40) dX11_foot_40 rfl ?_
      obtain ⟨x21, w19, e20, h⟩ := obS2 h
      have ge20 := calSR_of e20
      refine j_callV_g (pc := 41) (As := [.int i1]) (k' := 0) (n' := 0) dX11_foot_41 (s_X11_isDown ge20.1) (jgV lw_548 lw_549 lw_550 lw_544 lw_547) rfl hv_X11_isDown rfl (r_X11_isDown ge20.1) rfl (by decide) (by decide) (Nat.le_of_ble_eq_true rfl) (by decide) (by decide) (by decide) (by decide) (Or.inl ge20.2) ?_
      refine j_if_eq (pc := 44) (tgt := 51) dX11_foot_44 (by decide) (fun c22 => ?_) (fun c22 => ?_)
      · rw [if_pos c22] at h
        refine j_iconst (pc := 51) dX11_foot_51 (v := 0) (by decide) ?_
        refine j_goto (pc := 52) (tgt := 87) dX11_foot_52 (by decide) ?_
        obtain ⟨rfl, rfl⟩ := jretS h
        exact j_iret (pc := 87) rfl dX11_foot_87 (by decide) (by decide) rfl
      · rw [if_neg c22] at h
        refine j_iconst (pc := 47) dX11_foot_47 (v := 1) (by decide) ?_
        refine j_goto (pc := 48) (tgt := 87) dX11_foot_48 (by decide) ?_
        obtain ⟨rfl, rfl⟩ := jretS h
        exact j_iret (pc := 87) rfl dX11_foot_87 (by decide) (by decide) rfl
  · rw [if_neg c4] at h
    refine j_iconst (pc := 33) dX11_foot_33 (v := 0) (by decide) ?_
    obtain ⟨rfl, rfl⟩ := jretS h
    exact j_iret (pc := 34) rfl dX11_foot_34 (by decide) (by decide) rfl
def m_X11_foot (a0 : Nat) (i1 : Int32) (i2 : Int32) (ws : LWd) : Option (Int32 × LWd) :=
  (rcv ws a0 11).bind fun _ =>
  bn2 (calSR ws (m_X11_isLeg a0 i1 ws)) fun x3 w1 =>
  if x3 = 0 then
    m_X11_foot_b27 a0 i1 i2 a0 1 w1
  else
    bn2 (calSR w1 (m_X11_isIn i2 0 2 w1)) fun x7 w5 =>
    if x7 = 0 then
      m_X11_foot_b27 a0 i1 i2 a0 2 w5
    else
      m_X11_foot_b27 a0 i1 i2 a0 0 w5
set_option maxRecDepth 100000 in
set_option maxHeartbeats 4000000 in
theorem s_X11_foot {a0 : Nat} {i1 : Int32} {i2 : Int32} {ws : LWd} {rr : Int32} {ws' : LWd} (h : m_X11_foot a0 i1 i2 ws = some (rr, ws')) : jSp yX11_foot wsX11_foot 2 0 0 [.ref a0, .int i1, .int i2] ws (.inl (some (.int rr)), ws') := by
  unfold m_X11_foot at h
  refine j_entry (ret := (some .int)) (nm := "foot") (own := RX11) pl_X11 rfl rfl rfl (jcats (by rfl)) (Nat.le_of_ble_eq_true rfl) ?_
  show JG (.inl false) cX11_foot 3 RX11 wsX11_foot (some .int) "foot" 2 0 0 ws.length (.inl (some (.int rr)), ws') 0 [some (.ref a0), some (.int i1), some (.int i2)] [] ws 0 0
  obtain ⟨_, _, h⟩ := obS h
  refine j_aload_n (pc := 0) dX11_foot_0 rfl ?_
  refine j_aload_n (pc := 1) dX11_foot_1 rfl ?_
  refine j_iload_n (pc := 2) dX11_foot_2 rfl ?_
  obtain ⟨x3, w1, e2, h⟩ := obS2 h
  have ge2 := calSR_of e2
  refine j_callV_g (pc := 3) (As := [.int i1]) (k' := 0) (n' := 0) dX11_foot_3 (s_X11_isLeg ge2.1) (jgV lw_568 lw_569 lw_570 lw_544 lw_567) rfl hv_X11_isLeg rfl (r_X11_isLeg ge2.1) rfl (by decide) (by decide) (Nat.le_of_ble_eq_true rfl) (by decide) (by decide) (by decide) (by decide) (Or.inl ge2.2) ?_
  refine j_if_ne (pc := 6) (tgt := 13) dX11_foot_6 (by decide) (fun c4 => ?_) (fun c4 => ?_)
  · rw [if_neg c4] at h
    refine j_iload_n (pc := 13) dX11_foot_13 rfl ?_
    refine j_iconst (pc := 14) dX11_foot_14 (v := 0) (by decide) ?_
    refine j_iconst (pc := 15) dX11_foot_15 (v := 2) (by decide) ?_
    obtain ⟨x7, w5, e6, h⟩ := obS2 h
    have ge6 := calSR_of e6
    refine j_callS_g (pc := 16) (As := [.int i2, .int 0, .int 2]) (k' := 0) (n' := 0) dX11_foot_16 (s_X11_isIn ge6.1) (jgS lw_542 lw_543 lw_544 lw_541) rfl hy_X11_isIn rfl (by decide) (by decide) (Nat.le_of_ble_eq_true rfl) (by decide) (by decide) (by decide) (by decide) (Or.inl ge6.2) ?_
    refine j_if_eq (pc := 19) (tgt := 26) dX11_foot_19 (by decide) (fun c8 => ?_) (fun c8 => ?_)
    · rw [if_pos c8] at h
      refine j_iconst (pc := 26) dX11_foot_26 (v := 2) (by decide) ?_
      exact jm_X11_foot_b27 _ _ _ _ _ w5 h
    · rw [if_neg c8] at h
      refine j_iconst (pc := 22) dX11_foot_22 (v := 0) (by decide) ?_
      refine j_goto (pc := 23) (tgt := 27) dX11_foot_23 (by decide) ?_
      exact jm_X11_foot_b27 _ _ _ _ _ w5 h
  · rw [if_pos c4] at h
    refine j_iconst (pc := 9) dX11_foot_9 (v := 1) (by decide) ?_
    refine j_goto (pc := 10) (tgt := 27) dX11_foot_10 (by decide) ?_
    exact jm_X11_foot_b27 _ _ _ _ _ w1 h
theorem r_X11_foot {a0 : Nat} {i1 : Int32} {i2 : Int32} {ws : LWd} {o : (Int32 × LWd)} (h : m_X11_foot a0 i1 i2 ws = some o) : ∃ fs, ws[a0]? = some (.inr (11, fs)) := rcv_in h
def wsX11_point : List Cond := Cond.code yX11_point cX11_point 5 (some .int) :: jW
def m_X11_point_b23 (a0 : Nat) (i1 : Int32) (i2 : Int32) (i3 : Int32) (s0 : Nat) (s1 : Int32) (ws : LWd) : Option (Int32 × LWd) :=
  bn2 (calSR ws (m_X11_fails s0 s1 ws)) fun x3 w1 =>
  if x3 = 0 then
    bn2 (calSR w1 (m_X11_at i1 i2 w1)) fun x7 w5 =>
    if i3 = 0 then
      (fR w5 a0 11 0).bind fun x23 =>
      (aI w5 x23 x7).bind fun x25 =>
      some (x25, w5)
    else
      if i3 = 1 then
        (fR w5 a0 11 1).bind fun x19 =>
        (aI w5 x19 x7).bind fun x21 =>
        some (x21, w5)
      else
        if i3 = 2 then
          (fR w5 a0 11 2).bind fun x15 =>
          (aI w5 x15 x7).bind fun x17 =>
          some (x17, w5)
        else
          (fR w5 a0 11 3).bind fun x11 =>
          (aI w5 x11 x7).bind fun x13 =>
          some (x13, w5)
  else
    some (0, w1)
set_option maxRecDepth 100000 in
set_option maxHeartbeats 4000000 in
theorem jm_X11_point_b23 {n0 : Nat} {rr : Int32} {ws' : LWd} (a0 : Nat) (i1 : Int32) (i2 : Int32) (i3 : Int32) (s0 : Nat) (s1 : Int32) (ws : LWd) (h : m_X11_point_b23 a0 i1 i2 i3 s0 s1 ws = some (rr, ws')) : JG (.inl false) cX11_point 5 RX11 wsX11_point (some .int) "point" 2 0 0 n0 (.inl (some (.int rr)), ws') 23 [some (.ref a0), some (.int i1), some (.int i2), some (.int i3), none] [.int s1, .ref s0] ws 0 0 := by
  unfold m_X11_point_b23 at h
  obtain ⟨x3, w1, e2, h⟩ := obS2 h
  have ge2 := calSR_of e2
  refine j_callV_g (pc := 23) (As := [.int s1]) (k' := 0) (n' := 0) dX11_point_23 (s_X11_fails ge2.1) (jgV lw_552 lw_553 lw_554 lw_544 lw_551) rfl hv_X11_fails rfl (r_X11_fails ge2.1) rfl (by decide) (by decide) (Nat.le_of_ble_eq_true rfl) (by decide) (by decide) (by decide) (by decide) (Or.inl ge2.2) ?_
  refine j_if_eq (pc := 26) (tgt := 31) dX11_point_26 (by decide) (fun c4 => ?_) (fun c4 => ?_)
  · rw [if_pos c4] at h
    refine j_iload_n (pc := 31) dX11_point_31 rfl ?_
    refine j_iload_n (pc := 32) dX11_point_32 rfl ?_
    obtain ⟨x7, w5, e6, h⟩ := obS2 h
    have ge6 := calSR_of e6
    refine j_callS_g (pc := 33) (As := [.int i1, .int i2]) (k' := 0) (n' := 0) dX11_point_33 (s_X11_at ge6.1) (jgS lw_556 lw_557 lw_544 lw_555) rfl hy_X11_at rfl (by decide) (by decide) (Nat.le_of_ble_eq_true rfl) (by decide) (by decide) (by decide) (by decide) (Or.inl ge6.2) ?_
    refine j_istore_4 (pc := 36) dX11_point_36 (by decide) rfl ?_
    refine j_iload_n (pc := 38) dX11_point_38 rfl ?_
    refine j_if_ne (pc := 39) (tgt := 52) dX11_point_39 (by decide) (fun c8 => ?_) (fun c8 => ?_)
    · rw [if_neg c8] at h
      refine j_iload_n (pc := 52) dX11_point_52 rfl ?_
      refine j_iconst (pc := 53) dX11_point_53 (v := 1) (by decide) ?_
      refine j_icmp_ne (pc := 54) (tgt := 67) dX11_point_54 (by decide) (fun c9 => ?_) (fun c9 => ?_)
      · rw [if_neg c9] at h
        refine j_iload_n (pc := 67) dX11_point_67 rfl ?_
        refine j_iconst (pc := 68) dX11_point_68 (v := 2) (by decide) ?_
        refine j_icmp_ne (pc := 69) (tgt := 82) dX11_point_69 (by decide) (fun c10 => ?_) (fun c10 => ?_)
        · rw [if_neg c10] at h
          refine j_aload_n (pc := 82) dX11_point_82 rfl ?_
          obtain ⟨x11, e12, h⟩ := obS h
          refine j_getR (pc := 83) dX11_point_83 (ci := 11) (kf := 3) rfl (jwi hw_X11) (by decide) (jwm lw_528) e12 ?_
          refine j_iload (pc := 86) dX11_point_86 rfl ?_
          obtain ⟨x13, e14, h⟩ := obS h
          refine j_iald (pc := 88) dX11_point_88 e14 ?_
          obtain ⟨rfl, rfl⟩ := jretS h
          exact j_iret (pc := 89) rfl dX11_point_89 (by decide) (by decide) rfl
        · rw [if_pos c10] at h
          refine j_aload_n (pc := 72) dX11_point_72 rfl ?_
          obtain ⟨x15, e16, h⟩ := obS h
          refine j_getR (pc := 73) dX11_point_73 (ci := 11) (kf := 2) rfl (jwi hw_X11) (by decide) (jwm lw_525) e16 ?_
          refine j_iload (pc := 76) dX11_point_76 rfl ?_
          obtain ⟨x17, e18, h⟩ := obS h
          refine j_iald (pc := 78) dX11_point_78 e18 ?_
          refine j_goto (pc := 79) (tgt := 89) dX11_point_79 (by decide) ?_
          obtain ⟨rfl, rfl⟩ := jretS h
          exact j_iret (pc := 89) rfl dX11_point_89 (by decide) (by decide) rfl
      · rw [if_pos c9] at h
        refine j_aload_n (pc := 57) dX11_point_57 rfl ?_
        obtain ⟨x19, e20, h⟩ := obS h
        refine j_getR (pc := 58) dX11_point_58 (ci := 11) (kf := 1) rfl (jwi hw_X11) (by decide) (jwm lw_524) e20 ?_
        refine j_iload (pc := 61) dX11_point_61 rfl ?_
        obtain ⟨x21, e22, h⟩ := obS h
        refine j_iald (pc := 63) dX11_point_63 e22 ?_
        refine j_goto (pc := 64) (tgt := 89) dX11_point_64 (by decide) ?_
        obtain ⟨rfl, rfl⟩ := jretS h
        exact j_iret (pc := 89) rfl dX11_point_89 (by decide) (by decide) rfl
    · rw [if_pos c8] at h
      refine j_aload_n (pc := 42) dX11_point_42 rfl ?_
      obtain ⟨x23, e24, h⟩ := obS h
      refine j_getR (pc := 43) dX11_point_43 (ci := 11) (kf := 0) rfl (jwi hw_X11) (by decide) (jwm lw_527) e24 ?_
      refine j_iload (pc := 46) dX11_point_46 rfl ?_
      obtain ⟨x25, e26, h⟩ := obS h
      refine j_iald (pc := 48) dX11_point_48 e26 ?_
      refine j_goto (pc := 49) (tgt := 89) dX11_point_49 (by decide) ?_
      obtain ⟨rfl, rfl⟩ := jretS h
      exact j_iret (pc := 89) rfl dX11_point_89 (by decide) (by decide) rfl
  · rw [if_neg c4] at h
    refine j_iconst (pc := 29) dX11_point_29 (v := 0) (by decide) ?_
    obtain ⟨rfl, rfl⟩ := jretS h
    exact j_iret (pc := 30) rfl dX11_point_30 (by decide) (by decide) rfl
def m_X11_point_b22 (a0 : Nat) (i1 : Int32) (i2 : Int32) (i3 : Int32) (s0 : Nat) (ws : LWd) : Option (Int32 × LWd) :=
  m_X11_point_b23 a0 i1 i2 i3 s0 1 ws
set_option maxRecDepth 100000 in
set_option maxHeartbeats 4000000 in
theorem jm_X11_point_b22 {n0 : Nat} {rr : Int32} {ws' : LWd} (a0 : Nat) (i1 : Int32) (i2 : Int32) (i3 : Int32) (s0 : Nat) (ws : LWd) (h : m_X11_point_b22 a0 i1 i2 i3 s0 ws = some (rr, ws')) : JG (.inl false) cX11_point 5 RX11 wsX11_point (some .int) "point" 2 0 0 n0 (.inl (some (.int rr)), ws') 22 [some (.ref a0), some (.int i1), some (.int i2), some (.int i3), none] [.ref s0] ws 0 0 := by
  unfold m_X11_point_b22 at h
  refine j_iconst (pc := 22) dX11_point_22 (v := 1) (by decide) ?_
  exact jm_X11_point_b23 _ _ _ _ _ _ ws h
def m_X11_point (a0 : Nat) (i1 : Int32) (i2 : Int32) (i3 : Int32) (ws : LWd) : Option (Int32 × LWd) :=
  (rcv ws a0 11).bind fun _ =>
  bn2 (calSR ws (m_X11_isPoint i1 i2 ws)) fun x3 w1 =>
  if x3 = 0 then
    m_X11_point_b22 a0 i1 i2 i3 a0 w1
  else
    bn2 (calSR w1 (m_X11_isIn i3 0 3 w1)) fun x7 w5 =>
    if x7 = 0 then
      m_X11_point_b22 a0 i1 i2 i3 a0 w5
    else
      m_X11_point_b23 a0 i1 i2 i3 a0 0 w5
set_option maxRecDepth 100000 in
set_option maxHeartbeats 4000000 in
theorem s_X11_point {a0 : Nat} {i1 : Int32} {i2 : Int32} {i3 : Int32} {ws : LWd} {rr : Int32} {ws' : LWd} (h : m_X11_point a0 i1 i2 i3 ws = some (rr, ws')) : jSp yX11_point wsX11_point 2 0 0 [.ref a0, .int i1, .int i2, .int i3] ws (.inl (some (.int rr)), ws') := by
  unfold m_X11_point at h
  refine j_entry (ret := (some .int)) (nm := "point") (own := RX11) pl_X11 rfl rfl rfl (jcats (by rfl)) (Nat.le_of_ble_eq_true rfl) ?_
  show JG (.inl false) cX11_point 5 RX11 wsX11_point (some .int) "point" 2 0 0 ws.length (.inl (some (.int rr)), ws') 0 [some (.ref a0), some (.int i1), some (.int i2), some (.int i3), none] [] ws 0 0
  obtain ⟨_, _, h⟩ := obS h
  refine j_aload_n (pc := 0) dX11_point_0 rfl ?_
  refine j_iload_n (pc := 1) dX11_point_1 rfl ?_
  refine j_iload_n (pc := 2) dX11_point_2 rfl ?_
  obtain ⟨x3, w1, e2, h⟩ := obS2 h
  have ge2 := calSR_of e2
  refine j_callS_g (pc := 3) (As := [.int i1, .int i2]) (k' := 0) (n' := 0) dX11_point_3 (s_X11_isPoint ge2.1) (jgS lw_563 lw_564 lw_544 lw_562) rfl hy_X11_isPoint rfl (by decide) (by decide) (Nat.le_of_ble_eq_true rfl) (by decide) (by decide) (by decide) (by decide) (Or.inl ge2.2) ?_
  refine j_if_eq (pc := 6) (tgt := 22) dX11_point_6 (by decide) (fun c4 => ?_) (fun c4 => ?_)
  · rw [if_pos c4] at h
    exact jm_X11_point_b22 _ _ _ _ _ w1 h
  · rw [if_neg c4] at h
    refine j_iload_n (pc := 9) dX11_point_9 rfl ?_
    refine j_iconst (pc := 10) dX11_point_10 (v := 0) (by decide) ?_
    refine j_iconst (pc := 11) dX11_point_11 (v := 3) (by decide) ?_
    obtain ⟨x7, w5, e6, h⟩ := obS2 h
    have ge6 := calSR_of e6
    refine j_callS_g (pc := 12) (As := [.int i3, .int 0, .int 3]) (k' := 0) (n' := 0) dX11_point_12 (s_X11_isIn ge6.1) (jgS lw_542 lw_543 lw_544 lw_541) rfl hy_X11_isIn rfl (by decide) (by decide) (Nat.le_of_ble_eq_true rfl) (by decide) (by decide) (by decide) (by decide) (Or.inl ge6.2) ?_
    refine j_if_eq (pc := 15) (tgt := 22) dX11_point_15 (by decide) (fun c8 => ?_) (fun c8 => ?_)
    · rw [if_pos c8] at h
      exact jm_X11_point_b22 _ _ _ _ _ w5 h
    · rw [if_neg c8] at h
      refine j_iconst (pc := 18) dX11_point_18 (v := 0) (by decide) ?_
      refine j_goto (pc := 19) (tgt := 23) dX11_point_19 (by decide) ?_
      exact jm_X11_point_b23 _ _ _ _ _ _ w5 h
theorem r_X11_point {a0 : Nat} {i1 : Int32} {i2 : Int32} {i3 : Int32} {ws : LWd} {o : (Int32 × LWd)} (h : m_X11_point a0 i1 i2 i3 ws = some o) : ∃ fs, ws[a0]? = some (.inr (11, fs)) := rcv_in h
def wsX11_isStable : List Cond := Cond.code yX11_isStable cX11_isStable 1 (some .boolean) :: jW
def m_X11_isStable (a0 : Nat) (ws : LWd) : Option (Int32 × LWd) :=
  (rcv ws a0 11).bind fun _ =>
  (pV ws a0 11 30 (.int 0)).bind fun w1 =>
  (fI w1 a0 11 17).bind fun x3 =>
  bn2 (calSR w1 (m_X11_holds a0 x3 w1)) fun x7 w5 =>
  retZ x7 w5
set_option maxRecDepth 100000 in
set_option maxHeartbeats 4000000 in
theorem s_X11_isStable {a0 : Nat} {ws : LWd} {rr : Int32} {ws' : LWd} (h : m_X11_isStable a0 ws = some (rr, ws')) : jSp yX11_isStable wsX11_isStable 4 0 0 [.ref a0] ws (.inl (some (.int rr)), ws') := by
  unfold m_X11_isStable at h
  refine j_entry (ret := (some .boolean)) (nm := "isStable") (own := RX11) pl_X11 rfl rfl rfl (jcats (by rfl)) (Nat.le_of_ble_eq_true rfl) ?_
  show JG (.inl false) cX11_isStable 1 RX11 wsX11_isStable (some .boolean) "isStable" 4 0 0 ws.length (.inl (some (.int rr)), ws') 0 [some (.ref a0)] [] ws 0 0
  obtain ⟨_, _, h⟩ := obS h
  refine j_aload_n (pc := 0) dX11_isStable_0 rfl ?_
  refine j_iconst (pc := 1) dX11_isStable_1 (v := 0) (by decide) ?_
  obtain ⟨w1, e2, h⟩ := obS h
  refine j_putV (pc := 2) (ci := 11) (kf := 30) tyX11 tyX11_ok nmX11 dX11_isStable_2 rfl (jwi hw_X11) (by decide) (jwm lw_540) rfl (fun _ => rfl) (fun _ => rfl) e2 ?_
  refine j_aload_n (pc := 5) dX11_isStable_5 rfl ?_
  refine j_aload_n (pc := 6) dX11_isStable_6 rfl ?_
  obtain ⟨x3, e4, h⟩ := obS h
  refine j_getI (pc := 7) dX11_isStable_7 (ci := 11) (kf := 17) rfl (jwi hw_X11) (by decide) (jwm lw_546) e4 ?_
  obtain ⟨x7, w5, e6, h⟩ := obS2 h
  have ge6 := calSR_of e6
  refine j_callV_g (pc := 10) (As := [.int x3]) (k' := 0) (n' := 0) dX11_isStable_10 (s_X11_holds ge6.1) (jgV lw_645 lw_646 lw_647 lw_544 lw_644) rfl hv_X11_holds rfl (r_X11_holds ge6.1) rfl (by decide) (by decide) (Nat.le_of_ble_eq_true rfl) (by decide) (by decide) (by decide) (by decide) (Or.inl ge6.2) ?_
  exact j_zret (pc := 13) rfl dX11_isStable_13 (by decide) (by decide) h rfl rfl
theorem r_X11_isStable {a0 : Nat} {ws : LWd} {o : (Int32 × LWd)} (h : m_X11_isStable a0 ws = some o) : ∃ fs, ws[a0]? = some (.inr (11, fs)) := rcv_in h
def wsX11_isStableAnew : List Cond := Cond.code yX11_isStableAnew cX11_isStableAnew 1 (some .boolean) :: jW
def m_X11_isStableAnew (a0 : Nat) (ws : LWd) : Option (Int32 × LWd) :=
  (rcv ws a0 11).bind fun _ =>
  bn2 (calSR ws (m_X11_isStable a0 ws)) fun x3 w1 =>
  retZ x3 w1
set_option maxRecDepth 100000 in
set_option maxHeartbeats 4000000 in
theorem s_X11_isStableAnew {a0 : Nat} {ws : LWd} {rr : Int32} {ws' : LWd} (h : m_X11_isStableAnew a0 ws = some (rr, ws')) : jSp yX11_isStableAnew wsX11_isStableAnew 5 0 0 [.ref a0] ws (.inl (some (.int rr)), ws') := by
  unfold m_X11_isStableAnew at h
  refine j_entry (ret := (some .boolean)) (nm := "isStableAnew") (own := RX11) pl_X11 rfl rfl rfl (jcats (by rfl)) (Nat.le_of_ble_eq_true rfl) ?_
  show JG (.inl false) cX11_isStableAnew 1 RX11 wsX11_isStableAnew (some .boolean) "isStableAnew" 5 0 0 ws.length (.inl (some (.int rr)), ws') 0 [some (.ref a0)] [] ws 0 0
  obtain ⟨_, _, h⟩ := obS h
  refine j_aload_n (pc := 0) dX11_isStableAnew_0 rfl ?_
  obtain ⟨x3, w1, e2, h⟩ := obS2 h
  have ge2 := calSR_of e2
  refine j_callV_g (pc := 1) (As := []) (k' := 0) (n' := 0) dX11_isStableAnew_1 (s_X11_isStable ge2.1) (jgV lw_697 lw_698 lw_699 lw_544 lw_696) rfl hv_X11_isStable rfl (r_X11_isStable ge2.1) rfl (by decide) (by decide) (Nat.le_of_ble_eq_true rfl) (by decide) (by decide) (by decide) (by decide) (Or.inl ge2.2) ?_
  exact j_zret (pc := 4) rfl dX11_isStableAnew_4 (by decide) (by decide) h rfl rfl
theorem r_X11_isStableAnew {a0 : Nat} {ws : LWd} {o : (Int32 × LWd)} (h : m_X11_isStableAnew a0 ws = some o) : ∃ fs, ws[a0]? = some (.inr (11, fs)) := rcv_in h
def wsX11_margin : List Cond := Cond.code yX11_margin cX11_margin 8 (some .int) :: jW
def m_X11_margin_b121 (f1 : UInt32) (ws : LWd) : Option (Int32 × LWd) :=
  (jfib f1).bind fun x1 =>
  some (x1, ws)
set_option maxRecDepth 100000 in
set_option maxHeartbeats 4000000 in
theorem jm_X11_margin_b121 {n0 : Nat} {rr : Int32} {ws' : LWd} (f1 : UInt32) (ws : LWd) (h : m_X11_margin_b121 f1 ws = some (rr, ws')) : JG (.inl false) cX11_margin 8 RX11 wsX11_margin (some .int) "margin" 4 0 0 n0 (.inl (some (.int rr)), ws') 121 [none, some (.float f1), none, none, none, none, none, none] [] ws 0 0 := by
  unfold m_X11_margin_b121 at h
  refine j_fload_n (pc := 121) dX11_margin_121 rfl ?_
  obtain ⟨x1, e2, h⟩ := obS h
  refine j_fib (pc := 122) dX11_margin_122 (jwm lw_700) (jwm lw_701) (jwm lw_702) (jwm lw_703) (jwm lw_704) (jwm lw_705) (jwm lw_706) (jwm lw_707) (jwm lw_708) (jwm lw_709) (jwm lw_710) (by decide) (Nat.le_of_ble_eq_true rfl) (by decide) (by decide) e2 ?_
  obtain ⟨rfl, rfl⟩ := jretS h
  exact j_iret (pc := 125) rfl dX11_margin_125 (by decide) (by decide) rfl
def m_X11_margin_b114 (k26 : Nat → UInt32 → Int32 → LWd → Option (Int32 × LWd)) (a0 : Nat) (i2 : Int32) (s0 : UInt32) (ws : LWd) : Option (Int32 × LWd) :=
  k26 a0 s0 (i2 + 1) ws
set_option maxRecDepth 100000 in
set_option maxHeartbeats 4000000 in
theorem jm_X11_margin_b114 {n0 : Nat} {rr : Int32} {ws' : LWd} {k26 : Nat → UInt32 → Int32 → LWd → Option (Int32 × LWd)} (hk26 : ∀ (a0 : Nat) (f1 : UInt32) (i2 : Int32) (ws : LWd), k26 a0 f1 i2 ws = some (rr, ws') → JG (.inl false) cX11_margin 8 RX11 wsX11_margin (some .int) "margin" 4 0 0 n0 (.inl (some (.int rr)), ws') 26 [some (.ref a0), some (.float f1), some (.int i2), none, none, none, none, none] [] ws 0 0) (a0 : Nat) (i2 : Int32) (s0 : UInt32) (ws : LWd) (h : m_X11_margin_b114 k26 a0 i2 s0 ws = some (rr, ws')) : JG (.inl false) cX11_margin 8 RX11 wsX11_margin (some .int) "margin" 4 0 0 n0 (.inl (some (.int rr)), ws') 114 [some (.ref a0), none, some (.int i2), none, none, none, none, none] [.float s0] ws 0 0 := by
  unfold m_X11_margin_b114 at h
  refine j_fstore_n_1 (pc := 114) dX11_margin_114 (by decide) rfl ?_
  refine j_iinc_2 (pc := 115) dX11_margin_115 (y := i2 + 1) rfl (by decide) rfl ?_
  refine j_goto (pc := 118) (tgt := 26) dX11_margin_118 (by decide) ?_
  exact hk26 _ _ _ ws h
def m_X11_margin_b108 (k26 : Nat → UInt32 → Int32 → LWd → Option (Int32 × LWd)) (a0 : Nat) (i2 : Int32) (f7 : UInt32) (ws : LWd) : Option (Int32 × LWd) :=
  m_X11_margin_b114 k26 a0 i2 f7 ws
set_option maxRecDepth 100000 in
set_option maxHeartbeats 4000000 in
theorem jm_X11_margin_b108 {n0 : Nat} {rr : Int32} {ws' : LWd} {k26 : Nat → UInt32 → Int32 → LWd → Option (Int32 × LWd)} (hk26 : ∀ (a0 : Nat) (f1 : UInt32) (i2 : Int32) (ws : LWd), k26 a0 f1 i2 ws = some (rr, ws') → JG (.inl false) cX11_margin 8 RX11 wsX11_margin (some .int) "margin" 4 0 0 n0 (.inl (some (.int rr)), ws') 26 [some (.ref a0), some (.float f1), some (.int i2), none, none, none, none, none] [] ws 0 0) (a0 : Nat) (i2 : Int32) (f7 : UInt32) (ws : LWd) (h : m_X11_margin_b108 k26 a0 i2 f7 ws = some (rr, ws')) : JG (.inl false) cX11_margin 8 RX11 wsX11_margin (some .int) "margin" 4 0 0 n0 (.inl (some (.int rr)), ws') 108 [some (.ref a0), none, some (.int i2), none, none, none, none, some (.float f7)] [] ws 0 0 := by
  unfold m_X11_margin_b108 at h
  refine j_fload (pc := 108) dX11_margin_108 rfl ?_
  refine j_goto (pc := 110) (tgt := 114) dX11_margin_110 (by decide) ?_
  refine j_mask [true, false, true, false, false, false, false, false] ?_
  exact jm_X11_margin_b114 (hk26 := hk26) _ _ _ ws h
def m_X11_margin_l26 : Nat → Nat → UInt32 → Int32 → LWd → Option (Int32 × LWd)
  | 0, _, _, _, _ => none
  | fu + 1, a0, f1, i2, ws =>
    (fI ws a0 11 28).bind fun x1 =>
    if x1 ≤ i2 then
      m_X11_margin_b121 f1 ws
    else
      (fI ws a0 11 28).bind fun x4 =>
      if x4 ≤ 2 then
        m_X11_margin_b121 f1 ws
      else
        bn2 (calSR ws (m_X11_makes a0 i2 ws)) fun x9 w7 =>
        (fR w7 a0 11 29).bind fun x10 =>
        (aI w7 x10 i2).bind fun x12 =>
        (fR w7 a0 11 29).bind fun x14 =>
        (fI w7 a0 11 28).bind fun x16 =>
        if x16 = 0 then none else
        (aI w7 x14 (jrem (i2 + 1) x16)).bind fun x19 =>
        bn2 (calSR w7 (m_X11_square a0 x12 x19 w7)) fun x23 w21 =>
        bn2 (calSR w21 (m_X11_weight a0 w21)) fun x26 w24 =>
        bn2 (calSR w24 (m_X11_weight a0 w24)) fun x29 w27 =>
        (jnn (FP.fdiv (FP.l2f (x9.toInt64 * x9.toInt64)) (FP.l2f ((x23.toInt64 * x26.toInt64) * x29.toInt64)))).bind fun x30 =>
        if i2 = 0 then
          m_X11_margin_b108 (fun z0 z1 z2 w => m_X11_margin_l26 fu z0 z1 z2 w) a0 i2 x30 w27
        else
          if 0 ≤ (Op.cmpValue (FP.fcmp x30 f1) .g) then
            m_X11_margin_b114 (fun z0 z1 z2 w => m_X11_margin_l26 fu z0 z1 z2 w) a0 i2 f1 w27
          else
            m_X11_margin_b108 (fun z0 z1 z2 w => m_X11_margin_l26 fu z0 z1 z2 w) a0 i2 x30 w27
set_option maxRecDepth 100000 in
set_option maxHeartbeats 4000000 in
theorem jm_X11_margin_l26 {n0 : Nat} {rr : Int32} {ws' : LWd} : ∀ (fu : Nat) (a0 : Nat) (f1 : UInt32) (i2 : Int32) (ws : LWd), m_X11_margin_l26 fu a0 f1 i2 ws = some (rr, ws') → JG (.inl false) cX11_margin 8 RX11 wsX11_margin (some .int) "margin" 4 0 0 n0 (.inl (some (.int rr)), ws') 26 [some (.ref a0), some (.float f1), some (.int i2), none, none, none, none, none] [] ws 0 0 := by
  intro fu
  induction fu with
  | zero => intro a0 f1 i2 ws h; cases h
  | succ fu ih =>
    intro a0 f1 i2 ws h
    rw [m_X11_margin_l26] at h
    refine j_iload_n (pc := 26) dX11_margin_26 rfl ?_
    refine j_aload_n (pc := 27) dX11_margin_27 rfl ?_
    obtain ⟨x1, e2, h⟩ := obS h
    refine j_getI (pc := 28) dX11_margin_28 (ci := 11) (kf := 28) rfl (jwi hw_X11) (by decide) (jwm lw_587) e2 ?_
    refine j_icmp_ge (pc := 31) (tgt := 121) dX11_margin_31 (by decide) (fun c3 => ?_) (fun c3 => ?_)
    · rw [if_pos c3] at h
      refine j_mask [false, true, false, false, false, false, false, false] ?_
      exact jm_X11_margin_b121 _ ws h
    · rw [if_neg c3] at h
      refine j_aload_n (pc := 34) dX11_margin_34 rfl ?_
      obtain ⟨x4, e5, h⟩ := obS h
      refine j_getI (pc := 35) dX11_margin_35 (ci := 11) (kf := 28) rfl (jwi hw_X11) (by decide) (jwm lw_587) e5 ?_
      refine j_iconst (pc := 38) dX11_margin_38 (v := 2) (by decide) ?_
      refine j_icmp_le (pc := 39) (tgt := 121) dX11_margin_39 (by decide) (fun c6 => ?_) (fun c6 => ?_)
      · rw [if_pos c6] at h
        refine j_mask [false, true, false, false, false, false, false, false] ?_
        exact jm_X11_margin_b121 _ ws h
      · rw [if_neg c6] at h
        refine j_aload_n (pc := 42) dX11_margin_42 rfl ?_
        refine j_iload_n (pc := 43) dX11_margin_43 rfl ?_
        obtain ⟨x9, w7, e8, h⟩ := obS2 h
        have ge8 := calSR_of e8
        refine j_callV_g (pc := 44) (As := [.int i2]) (k' := 0) (n' := 0) dX11_margin_44 (s_X11_makes ge8.1) (jgV lw_597 lw_598 lw_599 lw_544 lw_596) rfl hv_X11_makes rfl (r_X11_makes ge8.1) rfl (by decide) (by decide) (Nat.le_of_ble_eq_true rfl) (by decide) (by decide) (by decide) (by decide) (Or.inl ge8.2) ?_
        refine j_i2l (pc := 47) dX11_margin_47 ?_
        refine j_lstore_n_3 (pc := 48) dX11_margin_48 (by decide) rfl ?_
        refine j_aload_n (pc := 49) dX11_margin_49 rfl ?_
        refine j_aload_n (pc := 50) dX11_margin_50 rfl ?_
        obtain ⟨x10, e11, h⟩ := obS h
        refine j_getR (pc := 51) dX11_margin_51 (ci := 11) (kf := 29) rfl (jwi hw_X11) (by decide) (jwm lw_539) e11 ?_
        refine j_iload_n (pc := 54) dX11_margin_54 rfl ?_
        obtain ⟨x12, e13, h⟩ := obS h
        refine j_iald (pc := 55) dX11_margin_55 e13 ?_
        refine j_aload_n (pc := 56) dX11_margin_56 rfl ?_
        obtain ⟨x14, e15, h⟩ := obS h
        refine j_getR (pc := 57) dX11_margin_57 (ci := 11) (kf := 29) rfl (jwi hw_X11) (by decide) (jwm lw_539) e15 ?_
        refine j_iload_n (pc := 60) dX11_margin_60 rfl ?_
        refine j_iconst (pc := 61) dX11_margin_61 (v := 1) (by decide) ?_
        refine j_iadd (pc := 62) dX11_margin_62 ?_
        refine j_aload_n (pc := 63) dX11_margin_63 rfl ?_
        obtain ⟨x16, e17, h⟩ := obS h
        refine j_getI (pc := 64) dX11_margin_64 (ci := 11) (kf := 28) rfl (jwi hw_X11) (by decide) (jwm lw_587) e17 ?_
        have c18 := jneS h
        rw [if_neg c18] at h
        refine j_irem (pc := 67) dX11_margin_67 c18 ?_
        obtain ⟨x19, e20, h⟩ := obS h
        refine j_iald (pc := 68) dX11_margin_68 e20 ?_
        obtain ⟨x23, w21, e22, h⟩ := obS2 h
        have ge22 := calSR_of e22
        refine j_callV_g (pc := 69) (As := [.int x12, .int x19]) (k' := 0) (n' := 0) dX11_margin_69 (s_X11_square ge22.1) (jgV lw_580 lw_581 lw_582 lw_544 lw_579) rfl hv_X11_square rfl (r_X11_square ge22.1) rfl (by decide) (by decide) (Nat.le_of_ble_eq_true rfl) (by decide) (by decide) (by decide) (by decide) (Or.inl ge22.2) ?_
        refine j_i2l (pc := 72) dX11_margin_72 ?_
        refine j_aload_n (pc := 73) dX11_margin_73 rfl ?_
        obtain ⟨x26, w24, e25, h⟩ := obS2 h
        have ge25 := calSR_of e25
        refine j_callV_g (pc := 74) (As := []) (k' := 0) (n' := 0) dX11_margin_74 (s_X11_weight ge25.1) (jgV lw_574 lw_575 lw_576 lw_544 lw_573) rfl hv_X11_weight rfl (r_X11_weight ge25.1) rfl (by decide) (by decide) (Nat.le_of_ble_eq_true rfl) (by decide) (by decide) (by decide) (by decide) (Or.inl ge25.2) ?_
        refine j_i2l (pc := 77) dX11_margin_77 ?_
        refine j_lmul (pc := 78) dX11_margin_78 ?_
        refine j_aload_n (pc := 79) dX11_margin_79 rfl ?_
        obtain ⟨x29, w27, e28, h⟩ := obS2 h
        have ge28 := calSR_of e28
        refine j_callV_g (pc := 80) (As := []) (k' := 0) (n' := 0) dX11_margin_80 (s_X11_weight ge28.1) (jgV lw_574 lw_575 lw_576 lw_544 lw_573) rfl hv_X11_weight rfl (r_X11_weight ge28.1) rfl (by decide) (by decide) (Nat.le_of_ble_eq_true rfl) (by decide) (by decide) (by decide) (by decide) (Or.inl ge28.2) ?_
        refine j_i2l (pc := 83) dX11_margin_83 ?_
        refine j_lmul (pc := 84) dX11_margin_84 ?_
        refine j_lstore_5 (pc := 85) dX11_margin_85 (by decide) rfl ?_
        refine j_lload_n (pc := 87) dX11_margin_87 rfl ?_
        refine j_lload_n (pc := 88) dX11_margin_88 rfl ?_
        refine j_lmul (pc := 89) dX11_margin_89 ?_
        refine j_l2f (pc := 90) dX11_margin_90 ?_
        refine j_lload (pc := 91) dX11_margin_91 rfl ?_
        refine j_l2f (pc := 93) dX11_margin_93 ?_
        obtain ⟨x30, e31, h⟩ := obS h
        obtain ⟨e31n, rfl⟩ := jnn_of e31
        refine j_fdiv (pc := 94) dX11_margin_94 e31n ?_
        refine j_fstore_7 (pc := 95) dX11_margin_95 (by decide) rfl ?_
        refine j_iload_n (pc := 97) dX11_margin_97 rfl ?_
        refine j_if_eq (pc := 98) (tgt := 108) dX11_margin_98 (by decide) (fun c32 => ?_) (fun c32 => ?_)
        · rw [if_pos c32] at h
          refine j_mask [true, false, true, false, false, false, false, true] ?_
          exact jm_X11_margin_b108 (hk26 := ih) _ _ _ w27 h
        · rw [if_neg c32] at h
          refine j_fload (pc := 101) dX11_margin_101 rfl ?_
          refine j_fload_n (pc := 103) dX11_margin_103 rfl ?_
          refine j_fcmp (pc := 104) dX11_margin_104 ?_
          refine j_if_ge (pc := 105) (tgt := 113) dX11_margin_105 (by decide) (fun c33 => ?_) (fun c33 => ?_)
          · rw [if_pos c33] at h
            refine j_fload_n (pc := 113) dX11_margin_113 rfl ?_
            refine j_mask [true, false, true, false, false, false, false, false] ?_
            exact jm_X11_margin_b114 (hk26 := ih) _ _ _ w27 h
          · rw [if_neg c33] at h
            refine j_mask [true, false, true, false, false, false, false, true] ?_
            exact jm_X11_margin_b108 (hk26 := ih) _ _ _ w27 h
def m_X11_margin (a0 : Nat) (ws : LWd) : Option (Int32 × LWd) :=
  (rcv ws a0 11).bind fun _ =>
  (pV ws a0 11 30 (.int 0)).bind fun w1 =>
  (fI w1 a0 11 17).bind fun x3 =>
  bn2 (calSR w1 (m_X11_holds a0 x3 w1)) fun x7 w5 =>
  if x7 = 0 then
    (jfib 3212836864).bind fun x9 =>
    some (x9, w5)
  else
    m_X11_margin_l26 FU a0 FP.fconst0 0 w5
set_option maxRecDepth 100000 in
set_option maxHeartbeats 4000000 in
theorem s_X11_margin {a0 : Nat} {ws : LWd} {rr : Int32} {ws' : LWd} (h : m_X11_margin a0 ws = some (rr, ws')) : jSp yX11_margin wsX11_margin 4 0 0 [.ref a0] ws (.inl (some (.int rr)), ws') := by
  unfold m_X11_margin at h
  refine j_entry (ret := (some .int)) (nm := "margin") (own := RX11) pl_X11 rfl rfl rfl (jcats (by rfl)) (Nat.le_of_ble_eq_true rfl) ?_
  show JG (.inl false) cX11_margin 8 RX11 wsX11_margin (some .int) "margin" 4 0 0 ws.length (.inl (some (.int rr)), ws') 0 [some (.ref a0), none, none, none, none, none, none, none] [] ws 0 0
  obtain ⟨_, _, h⟩ := obS h
  refine j_aload_n (pc := 0) dX11_margin_0 rfl ?_
  refine j_iconst (pc := 1) dX11_margin_1 (v := 0) (by decide) ?_
  obtain ⟨w1, e2, h⟩ := obS h
  refine j_putV (pc := 2) (ci := 11) (kf := 30) tyX11 tyX11_ok nmX11 dX11_margin_2 rfl (jwi hw_X11) (by decide) (jwm lw_540) rfl (fun _ => rfl) (fun _ => rfl) e2 ?_
  refine j_aload_n (pc := 5) dX11_margin_5 rfl ?_
  refine j_aload_n (pc := 6) dX11_margin_6 rfl ?_
  obtain ⟨x3, e4, h⟩ := obS h
  refine j_getI (pc := 7) dX11_margin_7 (ci := 11) (kf := 17) rfl (jwi hw_X11) (by decide) (jwm lw_546) e4 ?_
  obtain ⟨x7, w5, e6, h⟩ := obS2 h
  have ge6 := calSR_of e6
  refine j_callV_g (pc := 10) (As := [.int x3]) (k' := 0) (n' := 0) dX11_margin_10 (s_X11_holds ge6.1) (jgV lw_645 lw_646 lw_647 lw_544 lw_644) rfl hv_X11_holds rfl (r_X11_holds ge6.1) rfl (by decide) (by decide) (Nat.le_of_ble_eq_true rfl) (by decide) (by decide) (by decide) (by decide) (Or.inl ge6.2) ?_
  refine j_if_ne (pc := 13) (tgt := 22) dX11_margin_13 (by decide) (fun c8 => ?_) (fun c8 => ?_)
  · rw [if_neg c8] at h
    refine j_fconst0 (pc := 22) dX11_margin_22 ?_
    refine j_fstore_n_1 (pc := 23) dX11_margin_23 (by decide) rfl ?_
    refine j_iconst (pc := 24) dX11_margin_24 (v := 0) (by decide) ?_
    refine j_istore_n_2 (pc := 25) dX11_margin_25 (by decide) rfl ?_
    exact jm_X11_margin_l26 FU _ _ _ w5 h
  · rw [if_pos c8] at h
    refine j_ldcf (pc := 16) dX11_margin_16 (v := 3212836864) (jwm lw_711) ?_
    obtain ⟨x9, e10, h⟩ := obS h
    refine j_fib (pc := 18) dX11_margin_18 (jwm lw_700) (jwm lw_701) (jwm lw_702) (jwm lw_703) (jwm lw_704) (jwm lw_705) (jwm lw_706) (jwm lw_707) (jwm lw_708) (jwm lw_709) (jwm lw_710) (by decide) (Nat.le_of_ble_eq_true rfl) (by decide) (by decide) e10 ?_
    obtain ⟨rfl, rfl⟩ := jretS h
    exact j_iret (pc := 21) rfl dX11_margin_21 (by decide) (by decide) rfl
theorem r_X11_margin {a0 : Nat} {ws : LWd} {o : (Int32 × LWd)} (h : m_X11_margin a0 ws = some o) : ∃ fs, ws[a0]? = some (.inr (11, fs)) := rcv_in h
def wsX11_corner : List Cond := Cond.code yX11_corner cX11_corner 2 (some .int) :: jW
def m_X11_corner_b10 (a0 : Nat) (i1 : Int32) (s0 : Nat) (s1 : Int32) (ws : LWd) : Option (Int32 × LWd) :=
  bn2 (calSR ws (m_X11_fails s0 s1 ws)) fun x3 w1 =>
  if x3 = 0 then
    (fI w1 a0 11 17).bind fun x5 =>
    (calSV w1 (m_X11_hull a0 x5 w1)).bind fun w7 =>
    (fI w7 a0 11 28).bind fun x9 =>
    if x9 ≤ i1 then
      some ((-1), w7)
    else
      (fR w7 a0 11 15).bind fun x12 =>
      (fR w7 a0 11 29).bind fun x14 =>
      (aI w7 x14 i1).bind fun x16 =>
      (aI w7 x12 x16).bind fun x18 =>
      (fR w7 a0 11 16).bind fun x20 =>
      (fR w7 a0 11 29).bind fun x22 =>
      (aI w7 x22 i1).bind fun x24 =>
      (aI w7 x20 x24).bind fun x26 =>
      bn2 (calSR w7 (m_X11_at x18 x26 w7)) fun x30 w28 =>
      some (x30, w28)
  else
    some (0, w1)
set_option maxRecDepth 100000 in
set_option maxHeartbeats 4000000 in
theorem jm_X11_corner_b10 {n0 : Nat} {rr : Int32} {ws' : LWd} (a0 : Nat) (i1 : Int32) (s0 : Nat) (s1 : Int32) (ws : LWd) (h : m_X11_corner_b10 a0 i1 s0 s1 ws = some (rr, ws')) : JG (.inl false) cX11_corner 2 RX11 wsX11_corner (some .int) "corner" 2 0 0 n0 (.inl (some (.int rr)), ws') 10 [some (.ref a0), some (.int i1)] [.int s1, .ref s0] ws 0 0 := by
  unfold m_X11_corner_b10 at h
  obtain ⟨x3, w1, e2, h⟩ := obS2 h
  have ge2 := calSR_of e2
  refine j_callV_g (pc := 10) (As := [.int s1]) (k' := 0) (n' := 0) dX11_corner_10 (s_X11_fails ge2.1) (jgV lw_552 lw_553 lw_554 lw_544 lw_551) rfl hv_X11_fails rfl (r_X11_fails ge2.1) rfl (by decide) (by decide) (Nat.le_of_ble_eq_true rfl) (by decide) (by decide) (by decide) (by decide) (Or.inl ge2.2) ?_
  refine j_if_eq (pc := 13) (tgt := 18) dX11_corner_13 (by decide) (fun c4 => ?_) (fun c4 => ?_)
  · rw [if_pos c4] at h
    refine j_aload_n (pc := 18) dX11_corner_18 rfl ?_
    refine j_aload_n (pc := 19) dX11_corner_19 rfl ?_
    obtain ⟨x5, e6, h⟩ := obS h
    refine j_getI (pc := 20) dX11_corner_20 (ci := 11) (kf := 17) rfl (jwi hw_X11) (by decide) (jwm lw_546) e6 ?_
    obtain ⟨w7, e8, h⟩ := obS h
    have ge8 := calSV_of e8
    refine j_callV_g (pc := 23) (As := [.int x5]) (k' := 0) (n' := 0) dX11_corner_23 (s_X11_hull ge8.1) (jgV lw_601 lw_602 lw_603 lw_544 lw_600) rfl hv_X11_hull rfl (r_X11_hull ge8.1) rfl (by decide) (by decide) (Nat.le_of_ble_eq_true rfl) (by decide) (by decide) (by decide) (by decide) (Or.inl ge8.2) ?_
    refine j_iload_n (pc := 26) dX11_corner_26 rfl ?_
    refine j_aload_n (pc := 27) dX11_corner_27 rfl ?_
    obtain ⟨x9, e10, h⟩ := obS h
    refine j_getI (pc := 28) dX11_corner_28 (ci := 11) (kf := 28) rfl (jwi hw_X11) (by decide) (jwm lw_587) e10 ?_
    refine j_icmp_ge (pc := 31) (tgt := 62) dX11_corner_31 (by decide) (fun c11 => ?_) (fun c11 => ?_)
    · rw [if_pos c11] at h
      refine j_iconst (pc := 62) dX11_corner_62 (v := (-1)) (by decide) ?_
      obtain ⟨rfl, rfl⟩ := jretS h
      exact j_iret (pc := 63) rfl dX11_corner_63 (by decide) (by decide) rfl
    · rw [if_neg c11] at h
      refine j_aload_n (pc := 34) dX11_corner_34 rfl ?_
      obtain ⟨x12, e13, h⟩ := obS h
      refine j_getR (pc := 35) dX11_corner_35 (ci := 11) (kf := 15) rfl (jwi hw_X11) (by decide) (jwm lw_535) e13 ?_
      refine j_aload_n (pc := 38) dX11_corner_38 rfl ?_
      obtain ⟨x14, e15, h⟩ := obS h
      refine j_getR (pc := 39) dX11_corner_39 (ci := 11) (kf := 29) rfl (jwi hw_X11) (by decide) (jwm lw_539) e15 ?_
      refine j_iload_n (pc := 42) dX11_corner_42 rfl ?_
      obtain ⟨x16, e17, h⟩ := obS h
      refine j_iald (pc := 43) dX11_corner_43 e17 ?_
      obtain ⟨x18, e19, h⟩ := obS h
      refine j_iald (pc := 44) dX11_corner_44 e19 ?_
      refine j_aload_n (pc := 45) dX11_corner_45 rfl ?_
      obtain ⟨x20, e21, h⟩ := obS h
      refine j_getR (pc := 46) dX11_corner_46 (ci := 11) (kf := 16) rfl (jwi hw_X11) (by decide) (jwm lw_536) e21 ?_
      refine j_aload_n (pc := 49) dX11_corner_49 rfl ?_
      obtain ⟨x22, e23, h⟩ := obS h
      refine j_getR (pc := 50) dX11_corner_50 (ci := 11) (kf := 29) rfl (jwi hw_X11) (by decide) (jwm lw_539) e23 ?_
      refine j_iload_n (pc := 53) dX11_corner_53 rfl ?_
      obtain ⟨x24, e25, h⟩ := obS h
      refine j_iald (pc := 54) dX11_corner_54 e25 ?_
      obtain ⟨x26, e27, h⟩ := obS h
      refine j_iald (pc := 55) dX11_corner_55 e27 ?_
      obtain ⟨x30, w28, e29, h⟩ := obS2 h
      have ge29 := calSR_of e29
      refine j_callS_g (pc := 56) (As := [.int x18, .int x26]) (k' := 0) (n' := 0) dX11_corner_56 (s_X11_at ge29.1) (jgS lw_556 lw_557 lw_544 lw_555) rfl hy_X11_at rfl (by decide) (by decide) (Nat.le_of_ble_eq_true rfl) (by decide) (by decide) (by decide) (by decide) (Or.inl ge29.2) ?_
      refine j_goto (pc := 59) (tgt := 63) dX11_corner_59 (by decide) ?_
      obtain ⟨rfl, rfl⟩ := jretS h
      exact j_iret (pc := 63) rfl dX11_corner_63 (by decide) (by decide) rfl
  · rw [if_neg c4] at h
    refine j_iconst (pc := 16) dX11_corner_16 (v := 0) (by decide) ?_
    obtain ⟨rfl, rfl⟩ := jretS h
    exact j_iret (pc := 17) rfl dX11_corner_17 (by decide) (by decide) rfl
def m_X11_corner (a0 : Nat) (i1 : Int32) (ws : LWd) : Option (Int32 × LWd) :=
  (rcv ws a0 11).bind fun _ =>
  if i1 < 0 then
    m_X11_corner_b10 a0 i1 a0 1 ws
  else
    m_X11_corner_b10 a0 i1 a0 0 ws
set_option maxRecDepth 100000 in
set_option maxHeartbeats 4000000 in
theorem s_X11_corner {a0 : Nat} {i1 : Int32} {ws : LWd} {rr : Int32} {ws' : LWd} (h : m_X11_corner a0 i1 ws = some (rr, ws')) : jSp yX11_corner wsX11_corner 2 0 0 [.ref a0, .int i1] ws (.inl (some (.int rr)), ws') := by
  unfold m_X11_corner at h
  refine j_entry (ret := (some .int)) (nm := "corner") (own := RX11) pl_X11 rfl rfl rfl (jcats (by rfl)) (Nat.le_of_ble_eq_true rfl) ?_
  show JG (.inl false) cX11_corner 2 RX11 wsX11_corner (some .int) "corner" 2 0 0 ws.length (.inl (some (.int rr)), ws') 0 [some (.ref a0), some (.int i1)] [] ws 0 0
  obtain ⟨_, _, h⟩ := obS h
  refine j_aload_n (pc := 0) dX11_corner_0 rfl ?_
  refine j_iload_n (pc := 1) dX11_corner_1 rfl ?_
  refine j_if_lt (pc := 2) (tgt := 9) dX11_corner_2 (by decide) (fun c1 => ?_) (fun c1 => ?_)
  · rw [if_pos c1] at h
    refine j_iconst (pc := 9) dX11_corner_9 (v := 1) (by decide) ?_
    exact jm_X11_corner_b10 _ _ _ _ ws h
  · rw [if_neg c1] at h
    refine j_iconst (pc := 5) dX11_corner_5 (v := 0) (by decide) ?_
    refine j_goto (pc := 6) (tgt := 10) dX11_corner_6 (by decide) ?_
    exact jm_X11_corner_b10 _ _ _ _ ws h
theorem r_X11_corner {a0 : Nat} {i1 : Int32} {ws : LWd} {o : (Int32 × LWd)} (h : m_X11_corner a0 i1 ws = some o) : ∃ fs, ws[a0]? = some (.inr (11, fs)) := rcv_in h
def wsX11_footholdOf : List Cond := Cond.code yX11_footholdOf cX11_footholdOf 14 (some .int) :: jW
def m_X11_footholdOf_b197 (k26 : Nat → Int32 → Int32 → Int32 → Int32 → Int32 → LWd → Option (Int32 × LWd)) (a0 : Nat) (i1 : Int32) (i3 : Int32) (i4 : Int32) (i6 : Int32) (s0 : Int32) (ws : LWd) : Option (Int32 × LWd) :=
  k26 a0 i1 i3 i4 s0 (i6 + 1) ws
set_option maxRecDepth 100000 in
set_option maxHeartbeats 4000000 in
theorem jm_X11_footholdOf_b197 {n0 : Nat} {rr : Int32} {ws' : LWd} {k26 : Nat → Int32 → Int32 → Int32 → Int32 → Int32 → LWd → Option (Int32 × LWd)} (hk26 : ∀ (a0 : Nat) (i1 : Int32) (i3 : Int32) (i4 : Int32) (i5 : Int32) (i6 : Int32) (ws : LWd), k26 a0 i1 i3 i4 i5 i6 ws = some (rr, ws') → JG (.inl false) cX11_footholdOf 14 RX11 wsX11_footholdOf (some .int) "footholdOf" 2 0 0 n0 (.inl (some (.int rr)), ws') 26 [some (.ref a0), some (.int i1), none, some (.int i3), some (.int i4), some (.int i5), some (.int i6), none, none, none, none, none, none, none] [] ws 0 0) (a0 : Nat) (i1 : Int32) (i3 : Int32) (i4 : Int32) (i6 : Int32) (s0 : Int32) (ws : LWd) (h : m_X11_footholdOf_b197 k26 a0 i1 i3 i4 i6 s0 ws = some (rr, ws')) : JG (.inl false) cX11_footholdOf 14 RX11 wsX11_footholdOf (some .int) "footholdOf" 2 0 0 n0 (.inl (some (.int rr)), ws') 197 [some (.ref a0), some (.int i1), none, some (.int i3), some (.int i4), none, some (.int i6), none, none, none, none, none, none, none] [.int s0] ws 0 0 := by
  unfold m_X11_footholdOf_b197 at h
  refine j_istore_5 (pc := 197) dX11_footholdOf_197 (by decide) rfl ?_
  refine j_iinc_6 (pc := 199) dX11_footholdOf_199 (y := i6 + 1) rfl (by decide) rfl ?_
  refine j_goto (pc := 202) (tgt := 26) dX11_footholdOf_202 (by decide) ?_
  exact hk26 _ _ _ _ _ _ ws h
def m_X11_footholdOf_b183 (k26 : Nat → Int32 → Int32 → Int32 → Int32 → Int32 → LWd → Option (Int32 × LWd)) (a0 : Nat) (i1 : Int32) (i3 : Int32) (i5 : Int32) (i6 : Int32) (i12 : Int32) (i13 : Int32) (s0 : Int32) (ws : LWd) : Option (Int32 × LWd) :=
  if i13 = 0 then
    m_X11_footholdOf_b197 k26 a0 i1 i3 s0 i6 i5 ws
  else
    m_X11_footholdOf_b197 k26 a0 i1 i3 s0 i6 i12 ws
set_option maxRecDepth 100000 in
set_option maxHeartbeats 4000000 in
theorem jm_X11_footholdOf_b183 {n0 : Nat} {rr : Int32} {ws' : LWd} {k26 : Nat → Int32 → Int32 → Int32 → Int32 → Int32 → LWd → Option (Int32 × LWd)} (hk26 : ∀ (a0 : Nat) (i1 : Int32) (i3 : Int32) (i4 : Int32) (i5 : Int32) (i6 : Int32) (ws : LWd), k26 a0 i1 i3 i4 i5 i6 ws = some (rr, ws') → JG (.inl false) cX11_footholdOf 14 RX11 wsX11_footholdOf (some .int) "footholdOf" 2 0 0 n0 (.inl (some (.int rr)), ws') 26 [some (.ref a0), some (.int i1), none, some (.int i3), some (.int i4), some (.int i5), some (.int i6), none, none, none, none, none, none, none] [] ws 0 0) (a0 : Nat) (i1 : Int32) (i3 : Int32) (i5 : Int32) (i6 : Int32) (i12 : Int32) (i13 : Int32) (s0 : Int32) (ws : LWd) (h : m_X11_footholdOf_b183 k26 a0 i1 i3 i5 i6 i12 i13 s0 ws = some (rr, ws')) : JG (.inl false) cX11_footholdOf 14 RX11 wsX11_footholdOf (some .int) "footholdOf" 2 0 0 n0 (.inl (some (.int rr)), ws') 183 [some (.ref a0), some (.int i1), none, some (.int i3), none, some (.int i5), some (.int i6), none, none, none, none, none, some (.int i12), some (.int i13)] [.int s0] ws 0 0 := by
  unfold m_X11_footholdOf_b183 at h
  refine j_istore_4 (pc := 183) dX11_footholdOf_183 (by decide) rfl ?_
  refine j_iload (pc := 185) dX11_footholdOf_185 rfl ?_
  refine j_if_eq (pc := 187) (tgt := 195) dX11_footholdOf_187 (by decide) (fun c1 => ?_) (fun c1 => ?_)
  · rw [if_pos c1] at h
    refine j_iload (pc := 195) dX11_footholdOf_195 rfl ?_
    refine j_mask [true, true, false, true, true, false, true, false, false, false, false, false, false, false] ?_
    exact jm_X11_footholdOf_b197 (hk26 := hk26) _ _ _ _ _ _ ws h
  · rw [if_neg c1] at h
    refine j_iload (pc := 190) dX11_footholdOf_190 rfl ?_
    refine j_goto (pc := 192) (tgt := 197) dX11_footholdOf_192 (by decide) ?_
    refine j_mask [true, true, false, true, true, false, true, false, false, false, false, false, false, false] ?_
    exact jm_X11_footholdOf_b197 (hk26 := hk26) _ _ _ _ _ _ ws h
def m_X11_footholdOf_b169 (k26 : Nat → Int32 → Int32 → Int32 → Int32 → Int32 → LWd → Option (Int32 × LWd)) (a0 : Nat) (i1 : Int32) (i3 : Int32) (i4 : Int32) (i5 : Int32) (i6 : Int32) (i12 : Int32) (s0 : Int32) (ws : LWd) : Option (Int32 × LWd) :=
  if s0 = 0 then
    m_X11_footholdOf_b183 k26 a0 i1 i3 i5 i6 i12 s0 i4 ws
  else
    m_X11_footholdOf_b183 k26 a0 i1 i3 i5 i6 i12 s0 i6 ws
set_option maxRecDepth 100000 in
set_option maxHeartbeats 4000000 in
theorem jm_X11_footholdOf_b169 {n0 : Nat} {rr : Int32} {ws' : LWd} {k26 : Nat → Int32 → Int32 → Int32 → Int32 → Int32 → LWd → Option (Int32 × LWd)} (hk26 : ∀ (a0 : Nat) (i1 : Int32) (i3 : Int32) (i4 : Int32) (i5 : Int32) (i6 : Int32) (ws : LWd), k26 a0 i1 i3 i4 i5 i6 ws = some (rr, ws') → JG (.inl false) cX11_footholdOf 14 RX11 wsX11_footholdOf (some .int) "footholdOf" 2 0 0 n0 (.inl (some (.int rr)), ws') 26 [some (.ref a0), some (.int i1), none, some (.int i3), some (.int i4), some (.int i5), some (.int i6), none, none, none, none, none, none, none] [] ws 0 0) (a0 : Nat) (i1 : Int32) (i3 : Int32) (i4 : Int32) (i5 : Int32) (i6 : Int32) (i12 : Int32) (s0 : Int32) (ws : LWd) (h : m_X11_footholdOf_b169 k26 a0 i1 i3 i4 i5 i6 i12 s0 ws = some (rr, ws')) : JG (.inl false) cX11_footholdOf 14 RX11 wsX11_footholdOf (some .int) "footholdOf" 2 0 0 n0 (.inl (some (.int rr)), ws') 169 [some (.ref a0), some (.int i1), none, some (.int i3), some (.int i4), some (.int i5), some (.int i6), none, none, none, none, none, some (.int i12), none] [.int s0] ws 0 0 := by
  unfold m_X11_footholdOf_b169 at h
  refine j_istore_13 (pc := 169) dX11_footholdOf_169 (by decide) rfl ?_
  refine j_iload (pc := 171) dX11_footholdOf_171 rfl ?_
  refine j_if_eq (pc := 173) (tgt := 181) dX11_footholdOf_173 (by decide) (fun c1 => ?_) (fun c1 => ?_)
  · rw [if_pos c1] at h
    refine j_iload (pc := 181) dX11_footholdOf_181 rfl ?_
    refine j_mask [true, true, false, true, false, true, true, false, false, false, false, false, true, true] ?_
    exact jm_X11_footholdOf_b183 (hk26 := hk26) _ _ _ _ _ _ _ _ ws h
  · rw [if_neg c1] at h
    refine j_iload (pc := 176) dX11_footholdOf_176 rfl ?_
    refine j_goto (pc := 178) (tgt := 183) dX11_footholdOf_178 (by decide) ?_
    refine j_mask [true, true, false, true, false, true, true, false, false, false, false, false, true, true] ?_
    exact jm_X11_footholdOf_b183 (hk26 := hk26) _ _ _ _ _ _ _ _ ws h
def m_X11_footholdOf_b168 (k26 : Nat → Int32 → Int32 → Int32 → Int32 → Int32 → LWd → Option (Int32 × LWd)) (a0 : Nat) (i1 : Int32) (i3 : Int32) (i4 : Int32) (i5 : Int32) (i6 : Int32) (i12 : Int32) (ws : LWd) : Option (Int32 × LWd) :=
  m_X11_footholdOf_b169 k26 a0 i1 i3 i4 i5 i6 i12 0 ws
set_option maxRecDepth 100000 in
set_option maxHeartbeats 4000000 in
theorem jm_X11_footholdOf_b168 {n0 : Nat} {rr : Int32} {ws' : LWd} {k26 : Nat → Int32 → Int32 → Int32 → Int32 → Int32 → LWd → Option (Int32 × LWd)} (hk26 : ∀ (a0 : Nat) (i1 : Int32) (i3 : Int32) (i4 : Int32) (i5 : Int32) (i6 : Int32) (ws : LWd), k26 a0 i1 i3 i4 i5 i6 ws = some (rr, ws') → JG (.inl false) cX11_footholdOf 14 RX11 wsX11_footholdOf (some .int) "footholdOf" 2 0 0 n0 (.inl (some (.int rr)), ws') 26 [some (.ref a0), some (.int i1), none, some (.int i3), some (.int i4), some (.int i5), some (.int i6), none, none, none, none, none, none, none] [] ws 0 0) (a0 : Nat) (i1 : Int32) (i3 : Int32) (i4 : Int32) (i5 : Int32) (i6 : Int32) (i12 : Int32) (ws : LWd) (h : m_X11_footholdOf_b168 k26 a0 i1 i3 i4 i5 i6 i12 ws = some (rr, ws')) : JG (.inl false) cX11_footholdOf 14 RX11 wsX11_footholdOf (some .int) "footholdOf" 2 0 0 n0 (.inl (some (.int rr)), ws') 168 [some (.ref a0), some (.int i1), none, some (.int i3), some (.int i4), some (.int i5), some (.int i6), none, none, none, none, none, some (.int i12), none] [] ws 0 0 := by
  unfold m_X11_footholdOf_b168 at h
  refine j_iconst (pc := 168) dX11_footholdOf_168 (v := 0) (by decide) ?_
  exact jm_X11_footholdOf_b169 (hk26 := hk26) _ _ _ _ _ _ _ _ ws h
def m_X11_footholdOf_b164 (k26 : Nat → Int32 → Int32 → Int32 → Int32 → Int32 → LWd → Option (Int32 × LWd)) (a0 : Nat) (i1 : Int32) (i3 : Int32) (i4 : Int32) (i5 : Int32) (i6 : Int32) (i12 : Int32) (ws : LWd) : Option (Int32 × LWd) :=
  m_X11_footholdOf_b169 k26 a0 i1 i3 i4 i5 i6 i12 1 ws
set_option maxRecDepth 100000 in
set_option maxHeartbeats 4000000 in
theorem jm_X11_footholdOf_b164 {n0 : Nat} {rr : Int32} {ws' : LWd} {k26 : Nat → Int32 → Int32 → Int32 → Int32 → Int32 → LWd → Option (Int32 × LWd)} (hk26 : ∀ (a0 : Nat) (i1 : Int32) (i3 : Int32) (i4 : Int32) (i5 : Int32) (i6 : Int32) (ws : LWd), k26 a0 i1 i3 i4 i5 i6 ws = some (rr, ws') → JG (.inl false) cX11_footholdOf 14 RX11 wsX11_footholdOf (some .int) "footholdOf" 2 0 0 n0 (.inl (some (.int rr)), ws') 26 [some (.ref a0), some (.int i1), none, some (.int i3), some (.int i4), some (.int i5), some (.int i6), none, none, none, none, none, none, none] [] ws 0 0) (a0 : Nat) (i1 : Int32) (i3 : Int32) (i4 : Int32) (i5 : Int32) (i6 : Int32) (i12 : Int32) (ws : LWd) (h : m_X11_footholdOf_b164 k26 a0 i1 i3 i4 i5 i6 i12 ws = some (rr, ws')) : JG (.inl false) cX11_footholdOf 14 RX11 wsX11_footholdOf (some .int) "footholdOf" 2 0 0 n0 (.inl (some (.int rr)), ws') 164 [some (.ref a0), some (.int i1), none, some (.int i3), some (.int i4), some (.int i5), some (.int i6), none, none, none, none, none, some (.int i12), none] [] ws 0 0 := by
  unfold m_X11_footholdOf_b164 at h
  refine j_iconst (pc := 164) dX11_footholdOf_164 (v := 1) (by decide) ?_
  refine j_goto (pc := 165) (tgt := 169) dX11_footholdOf_165 (by decide) ?_
  exact jm_X11_footholdOf_b169 (hk26 := hk26) _ _ _ _ _ _ _ _ ws h
def m_X11_footholdOf_b127 (k26 : Nat → Int32 → Int32 → Int32 → Int32 → Int32 → LWd → Option (Int32 × LWd)) (a0 : Nat) (i1 : Int32) (i3 : Int32) (i4 : Int32) (i5 : Int32) (i6 : Int32) (i7 : Int32) (i8 : Int32) (i9 : Int32) (s0 : Int32) (ws : LWd) : Option (Int32 × LWd) :=
  bn2 (calSR ws (m_X11_far a0 i1 i7 i8 ws)) fun x3 w1 =>
  if s0 = 0 then
    m_X11_footholdOf_b168 k26 a0 i1 i3 i4 i5 i6 ((10 * i9) + x3) w1
  else
    if i4 = ((-1)) then
      m_X11_footholdOf_b164 k26 a0 i1 i3 i4 i5 i6 ((10 * i9) + x3) w1
    else
      if i5 ≤ ((10 * i9) + x3) then
        m_X11_footholdOf_b168 k26 a0 i1 i3 i4 i5 i6 ((10 * i9) + x3) w1
      else
        m_X11_footholdOf_b164 k26 a0 i1 i3 i4 i5 i6 ((10 * i9) + x3) w1
set_option maxRecDepth 100000 in
set_option maxHeartbeats 4000000 in
theorem jm_X11_footholdOf_b127 {n0 : Nat} {rr : Int32} {ws' : LWd} {k26 : Nat → Int32 → Int32 → Int32 → Int32 → Int32 → LWd → Option (Int32 × LWd)} (hk26 : ∀ (a0 : Nat) (i1 : Int32) (i3 : Int32) (i4 : Int32) (i5 : Int32) (i6 : Int32) (ws : LWd), k26 a0 i1 i3 i4 i5 i6 ws = some (rr, ws') → JG (.inl false) cX11_footholdOf 14 RX11 wsX11_footholdOf (some .int) "footholdOf" 2 0 0 n0 (.inl (some (.int rr)), ws') 26 [some (.ref a0), some (.int i1), none, some (.int i3), some (.int i4), some (.int i5), some (.int i6), none, none, none, none, none, none, none] [] ws 0 0) (a0 : Nat) (i1 : Int32) (i3 : Int32) (i4 : Int32) (i5 : Int32) (i6 : Int32) (i7 : Int32) (i8 : Int32) (i9 : Int32) (s0 : Int32) (ws : LWd) (h : m_X11_footholdOf_b127 k26 a0 i1 i3 i4 i5 i6 i7 i8 i9 s0 ws = some (rr, ws')) : JG (.inl false) cX11_footholdOf 14 RX11 wsX11_footholdOf (some .int) "footholdOf" 2 0 0 n0 (.inl (some (.int rr)), ws') 127 [some (.ref a0), some (.int i1), none, some (.int i3), some (.int i4), some (.int i5), some (.int i6), some (.int i7), some (.int i8), some (.int i9), none, none, none, none] [.int s0] ws 0 0 := by
  unfold m_X11_footholdOf_b127 at h
  refine j_istore_11 (pc := 127) dX11_footholdOf_127 (by decide) rfl ?_
  refine j_bipush (pc := 129) dX11_footholdOf_129 (v := 10) (by decide) ?_
  refine j_iload (pc := 131) dX11_footholdOf_131 rfl ?_
  refine j_imul (pc := 133) dX11_footholdOf_133 ?_
  refine j_aload_n (pc := 134) dX11_footholdOf_134 rfl ?_
  refine j_iload_n (pc := 135) dX11_footholdOf_135 rfl ?_
  refine j_iload (pc := 136) dX11_footholdOf_136 rfl ?_
  refine j_iload (pc := 138) dX11_footholdOf_138 rfl ?_
  obtain ⟨x3, w1, e2, h⟩ := obS2 h
  have ge2 := calSR_of e2
  refine j_callV_g (pc := 140) (As := [.int i1, .int i7, .int i8]) (k' := 0) (n' := 0) dX11_footholdOf_140 (s_X11_far ge2.1) (jgV lw_661 lw_662 lw_663 lw_544 lw_660) rfl hv_X11_far rfl (r_X11_far ge2.1) rfl (by decide) (by decide) (Nat.le_of_ble_eq_true rfl) (by decide) (by decide) (by decide) (by decide) (Or.inl ge2.2) ?_
  refine j_iadd (pc := 143) dX11_footholdOf_143 ?_
  refine j_istore_12 (pc := 144) dX11_footholdOf_144 (by decide) rfl ?_
  refine j_iload (pc := 146) dX11_footholdOf_146 rfl ?_
  refine j_if_eq (pc := 148) (tgt := 168) dX11_footholdOf_148 (by decide) (fun c4 => ?_) (fun c4 => ?_)
  · rw [if_pos c4] at h
    refine j_mask [true, true, false, true, true, true, true, false, false, false, false, false, true, false] ?_
    exact jm_X11_footholdOf_b168 (hk26 := hk26) _ _ _ _ _ _ _ w1 h
  · rw [if_neg c4] at h
    refine j_iload (pc := 151) dX11_footholdOf_151 rfl ?_
    refine j_iconst (pc := 153) dX11_footholdOf_153 (v := (-1)) (by decide) ?_
    refine j_icmp_eq (pc := 154) (tgt := 164) dX11_footholdOf_154 (by decide) (fun c5 => ?_) (fun c5 => ?_)
    · rw [if_pos c5] at h
      refine j_mask [true, true, false, true, true, true, true, false, false, false, false, false, true, false] ?_
      exact jm_X11_footholdOf_b164 (hk26 := hk26) _ _ _ _ _ _ _ w1 h
    · rw [if_neg c5] at h
      refine j_iload (pc := 157) dX11_footholdOf_157 rfl ?_
      refine j_iload (pc := 159) dX11_footholdOf_159 rfl ?_
      refine j_icmp_ge (pc := 161) (tgt := 168) dX11_footholdOf_161 (by decide) (fun c6 => ?_) (fun c6 => ?_)
      · rw [if_pos c6] at h
        refine j_mask [true, true, false, true, true, true, true, false, false, false, false, false, true, false] ?_
        exact jm_X11_footholdOf_b168 (hk26 := hk26) _ _ _ _ _ _ _ w1 h
      · rw [if_neg c6] at h
        refine j_mask [true, true, false, true, true, true, true, false, false, false, false, false, true, false] ?_
        exact jm_X11_footholdOf_b164 (hk26 := hk26) _ _ _ _ _ _ _ w1 h
def m_X11_footholdOf_b126 (k26 : Nat → Int32 → Int32 → Int32 → Int32 → Int32 → LWd → Option (Int32 × LWd)) (a0 : Nat) (i1 : Int32) (i3 : Int32) (i4 : Int32) (i5 : Int32) (i6 : Int32) (i7 : Int32) (i8 : Int32) (i9 : Int32) (ws : LWd) : Option (Int32 × LWd) :=
  m_X11_footholdOf_b127 k26 a0 i1 i3 i4 i5 i6 i7 i8 i9 0 ws
set_option maxRecDepth 100000 in
set_option maxHeartbeats 4000000 in
theorem jm_X11_footholdOf_b126 {n0 : Nat} {rr : Int32} {ws' : LWd} {k26 : Nat → Int32 → Int32 → Int32 → Int32 → Int32 → LWd → Option (Int32 × LWd)} (hk26 : ∀ (a0 : Nat) (i1 : Int32) (i3 : Int32) (i4 : Int32) (i5 : Int32) (i6 : Int32) (ws : LWd), k26 a0 i1 i3 i4 i5 i6 ws = some (rr, ws') → JG (.inl false) cX11_footholdOf 14 RX11 wsX11_footholdOf (some .int) "footholdOf" 2 0 0 n0 (.inl (some (.int rr)), ws') 26 [some (.ref a0), some (.int i1), none, some (.int i3), some (.int i4), some (.int i5), some (.int i6), none, none, none, none, none, none, none] [] ws 0 0) (a0 : Nat) (i1 : Int32) (i3 : Int32) (i4 : Int32) (i5 : Int32) (i6 : Int32) (i7 : Int32) (i8 : Int32) (i9 : Int32) (ws : LWd) (h : m_X11_footholdOf_b126 k26 a0 i1 i3 i4 i5 i6 i7 i8 i9 ws = some (rr, ws')) : JG (.inl false) cX11_footholdOf 14 RX11 wsX11_footholdOf (some .int) "footholdOf" 2 0 0 n0 (.inl (some (.int rr)), ws') 126 [some (.ref a0), some (.int i1), none, some (.int i3), some (.int i4), some (.int i5), some (.int i6), some (.int i7), some (.int i8), some (.int i9), none, none, none, none] [] ws 0 0 := by
  unfold m_X11_footholdOf_b126 at h
  refine j_iconst (pc := 126) dX11_footholdOf_126 (v := 0) (by decide) ?_
  exact jm_X11_footholdOf_b127 (hk26 := hk26) _ _ _ _ _ _ _ _ _ _ ws h
def m_X11_footholdOf_b122 (k26 : Nat → Int32 → Int32 → Int32 → Int32 → Int32 → LWd → Option (Int32 × LWd)) (a0 : Nat) (i1 : Int32) (i3 : Int32) (i4 : Int32) (i5 : Int32) (i6 : Int32) (i7 : Int32) (i8 : Int32) (i9 : Int32) (ws : LWd) : Option (Int32 × LWd) :=
  m_X11_footholdOf_b127 k26 a0 i1 i3 i4 i5 i6 i7 i8 i9 1 ws
set_option maxRecDepth 100000 in
set_option maxHeartbeats 4000000 in
theorem jm_X11_footholdOf_b122 {n0 : Nat} {rr : Int32} {ws' : LWd} {k26 : Nat → Int32 → Int32 → Int32 → Int32 → Int32 → LWd → Option (Int32 × LWd)} (hk26 : ∀ (a0 : Nat) (i1 : Int32) (i3 : Int32) (i4 : Int32) (i5 : Int32) (i6 : Int32) (ws : LWd), k26 a0 i1 i3 i4 i5 i6 ws = some (rr, ws') → JG (.inl false) cX11_footholdOf 14 RX11 wsX11_footholdOf (some .int) "footholdOf" 2 0 0 n0 (.inl (some (.int rr)), ws') 26 [some (.ref a0), some (.int i1), none, some (.int i3), some (.int i4), some (.int i5), some (.int i6), none, none, none, none, none, none, none] [] ws 0 0) (a0 : Nat) (i1 : Int32) (i3 : Int32) (i4 : Int32) (i5 : Int32) (i6 : Int32) (i7 : Int32) (i8 : Int32) (i9 : Int32) (ws : LWd) (h : m_X11_footholdOf_b122 k26 a0 i1 i3 i4 i5 i6 i7 i8 i9 ws = some (rr, ws')) : JG (.inl false) cX11_footholdOf 14 RX11 wsX11_footholdOf (some .int) "footholdOf" 2 0 0 n0 (.inl (some (.int rr)), ws') 122 [some (.ref a0), some (.int i1), none, some (.int i3), some (.int i4), some (.int i5), some (.int i6), some (.int i7), some (.int i8), some (.int i9), none, none, none, none] [] ws 0 0 := by
  unfold m_X11_footholdOf_b122 at h
  refine j_iconst (pc := 122) dX11_footholdOf_122 (v := 1) (by decide) ?_
  refine j_goto (pc := 123) (tgt := 127) dX11_footholdOf_123 (by decide) ?_
  exact jm_X11_footholdOf_b127 (hk26 := hk26) _ _ _ _ _ _ _ _ _ _ ws h
def m_X11_footholdOf_b80 (k26 : Nat → Int32 → Int32 → Int32 → Int32 → Int32 → LWd → Option (Int32 × LWd)) (a0 : Nat) (i1 : Int32) (i3 : Int32) (i4 : Int32) (i5 : Int32) (i6 : Int32) (i7 : Int32) (i8 : Int32) (s0 : Int32) (ws : LWd) : Option (Int32 × LWd) :=
  bn2 (calSR ws (m_X11_footAt a0 i7 i8 ws)) fun x3 w1 =>
  if 2 < s0 then
    m_X11_footholdOf_b126 k26 a0 i1 i3 i4 i5 i6 i7 i8 s0 w1
  else
    bn2 (calSR w1 (m_X11_isInReach a0 i1 i7 i8 w1)) fun x7 w5 =>
    if x7 = 0 then
      m_X11_footholdOf_b126 k26 a0 i1 i3 i4 i5 i6 i7 i8 s0 w5
    else
      if x3 = ((-1)) then
        m_X11_footholdOf_b122 k26 a0 i1 i3 i4 i5 i6 i7 i8 s0 w5
      else
        if x3 = i1 then
          m_X11_footholdOf_b122 k26 a0 i1 i3 i4 i5 i6 i7 i8 s0 w5
        else
          m_X11_footholdOf_b126 k26 a0 i1 i3 i4 i5 i6 i7 i8 s0 w5
set_option maxRecDepth 100000 in
set_option maxHeartbeats 4000000 in
theorem jm_X11_footholdOf_b80 {n0 : Nat} {rr : Int32} {ws' : LWd} {k26 : Nat → Int32 → Int32 → Int32 → Int32 → Int32 → LWd → Option (Int32 × LWd)} (hk26 : ∀ (a0 : Nat) (i1 : Int32) (i3 : Int32) (i4 : Int32) (i5 : Int32) (i6 : Int32) (ws : LWd), k26 a0 i1 i3 i4 i5 i6 ws = some (rr, ws') → JG (.inl false) cX11_footholdOf 14 RX11 wsX11_footholdOf (some .int) "footholdOf" 2 0 0 n0 (.inl (some (.int rr)), ws') 26 [some (.ref a0), some (.int i1), none, some (.int i3), some (.int i4), some (.int i5), some (.int i6), none, none, none, none, none, none, none] [] ws 0 0) (a0 : Nat) (i1 : Int32) (i3 : Int32) (i4 : Int32) (i5 : Int32) (i6 : Int32) (i7 : Int32) (i8 : Int32) (s0 : Int32) (ws : LWd) (h : m_X11_footholdOf_b80 k26 a0 i1 i3 i4 i5 i6 i7 i8 s0 ws = some (rr, ws')) : JG (.inl false) cX11_footholdOf 14 RX11 wsX11_footholdOf (some .int) "footholdOf" 2 0 0 n0 (.inl (some (.int rr)), ws') 80 [some (.ref a0), some (.int i1), none, some (.int i3), some (.int i4), some (.int i5), some (.int i6), some (.int i7), some (.int i8), none, none, none, none, none] [.int s0] ws 0 0 := by
  unfold m_X11_footholdOf_b80 at h
  refine j_istore_9 (pc := 80) dX11_footholdOf_80 (by decide) rfl ?_
  refine j_aload_n (pc := 82) dX11_footholdOf_82 rfl ?_
  refine j_iload (pc := 83) dX11_footholdOf_83 rfl ?_
  refine j_iload (pc := 85) dX11_footholdOf_85 rfl ?_
  obtain ⟨x3, w1, e2, h⟩ := obS2 h
  have ge2 := calSR_of e2
  refine j_callV_g (pc := 87) (As := [.int i7, .int i8]) (k' := 0) (n' := 0) dX11_footholdOf_87 (s_X11_footAt ge2.1) (jgV lw_559 lw_560 lw_561 lw_544 lw_558) rfl hv_X11_footAt rfl (r_X11_footAt ge2.1) rfl (by decide) (by decide) (Nat.le_of_ble_eq_true rfl) (by decide) (by decide) (by decide) (by decide) (Or.inl ge2.2) ?_
  refine j_istore_10 (pc := 90) dX11_footholdOf_90 (by decide) rfl ?_
  refine j_iload (pc := 92) dX11_footholdOf_92 rfl ?_
  refine j_iconst (pc := 94) dX11_footholdOf_94 (v := 2) (by decide) ?_
  refine j_icmp_gt (pc := 95) (tgt := 126) dX11_footholdOf_95 (by decide) (fun c4 => ?_) (fun c4 => ?_)
  · rw [if_pos c4] at h
    refine j_mask [true, true, false, true, true, true, true, true, true, true, false, false, false, false] ?_
    exact jm_X11_footholdOf_b126 (hk26 := hk26) _ _ _ _ _ _ _ _ _ w1 h
  · rw [if_neg c4] at h
    refine j_aload_n (pc := 98) dX11_footholdOf_98 rfl ?_
    refine j_iload_n (pc := 99) dX11_footholdOf_99 rfl ?_
    refine j_iload (pc := 100) dX11_footholdOf_100 rfl ?_
    refine j_iload (pc := 102) dX11_footholdOf_102 rfl ?_
    obtain ⟨x7, w5, e6, h⟩ := obS2 h
    have ge6 := calSR_of e6
    refine j_callV_g (pc := 104) (As := [.int i1, .int i7, .int i8]) (k' := 0) (n' := 0) dX11_footholdOf_104 (s_X11_isInReach ge6.1) (jgV lw_625 lw_626 lw_627 lw_544 lw_624) rfl hv_X11_isInReach rfl (r_X11_isInReach ge6.1) rfl (by decide) (by decide) (Nat.le_of_ble_eq_true rfl) (by decide) (by decide) (by decide) (by decide) (Or.inl ge6.2) ?_
    refine j_if_eq (pc := 107) (tgt := 126) dX11_footholdOf_107 (by decide) (fun c8 => ?_) (fun c8 => ?_)
    · rw [if_pos c8] at h
      refine j_mask [true, true, false, true, true, true, true, true, true, true, false, false, false, false] ?_
      exact jm_X11_footholdOf_b126 (hk26 := hk26) _ _ _ _ _ _ _ _ _ w5 h
    · rw [if_neg c8] at h
      refine j_iload (pc := 110) dX11_footholdOf_110 rfl ?_
      refine j_iconst (pc := 112) dX11_footholdOf_112 (v := (-1)) (by decide) ?_
      refine j_icmp_eq (pc := 113) (tgt := 122) dX11_footholdOf_113 (by decide) (fun c9 => ?_) (fun c9 => ?_)
      · rw [if_pos c9] at h
        refine j_mask [true, true, false, true, true, true, true, true, true, true, false, false, false, false] ?_
        exact jm_X11_footholdOf_b122 (hk26 := hk26) _ _ _ _ _ _ _ _ _ w5 h
      · rw [if_neg c9] at h
        refine j_iload (pc := 116) dX11_footholdOf_116 rfl ?_
        refine j_iload_n (pc := 118) dX11_footholdOf_118 rfl ?_
        refine j_icmp_ne (pc := 119) (tgt := 126) dX11_footholdOf_119 (by decide) (fun c10 => ?_) (fun c10 => ?_)
        · rw [if_neg c10] at h
          refine j_mask [true, true, false, true, true, true, true, true, true, true, false, false, false, false] ?_
          exact jm_X11_footholdOf_b126 (hk26 := hk26) _ _ _ _ _ _ _ _ _ w5 h
        · rw [if_pos c10] at h
          refine j_mask [true, true, false, true, true, true, true, true, true, true, false, false, false, false] ?_
          exact jm_X11_footholdOf_b122 (hk26 := hk26) _ _ _ _ _ _ _ _ _ w5 h
def m_X11_footholdOf_l26 : Nat → Nat → Int32 → Int32 → Int32 → Int32 → Int32 → LWd → Option (Int32 × LWd)
  | 0, _, _, _, _, _, _, _ => none
  | fu + 1, a0, i1, i3, i4, i5, i6, ws =>
    if 400 ≤ i6 then
      some (i4, ws)
    else
      (fR ws a0 11 3).bind fun x2 =>
      (aI ws x2 i6).bind fun x4 =>
      if x4 ≤ i3 then
        (fR ws a0 11 3).bind fun x7 =>
        (aI ws x7 i6).bind fun x9 =>
        m_X11_footholdOf_b80 (fun z0 z1 z2 z3 z4 z5 w => m_X11_footholdOf_l26 fu z0 z1 z2 z3 z4 z5 w) a0 i1 i3 i4 i5 i6 (jrem i6 20) (i6 / 20) (i3 - x9) ws
      else
        (fR ws a0 11 3).bind fun x11 =>
        (aI ws x11 i6).bind fun x13 =>
        m_X11_footholdOf_b80 (fun z0 z1 z2 z3 z4 z5 w => m_X11_footholdOf_l26 fu z0 z1 z2 z3 z4 z5 w) a0 i1 i3 i4 i5 i6 (jrem i6 20) (i6 / 20) (x13 - i3) ws
set_option maxRecDepth 100000 in
set_option maxHeartbeats 4000000 in
theorem jm_X11_footholdOf_l26 {n0 : Nat} {rr : Int32} {ws' : LWd} : ∀ (fu : Nat) (a0 : Nat) (i1 : Int32) (i3 : Int32) (i4 : Int32) (i5 : Int32) (i6 : Int32) (ws : LWd), m_X11_footholdOf_l26 fu a0 i1 i3 i4 i5 i6 ws = some (rr, ws') → JG (.inl false) cX11_footholdOf 14 RX11 wsX11_footholdOf (some .int) "footholdOf" 2 0 0 n0 (.inl (some (.int rr)), ws') 26 [some (.ref a0), some (.int i1), none, some (.int i3), some (.int i4), some (.int i5), some (.int i6), none, none, none, none, none, none, none] [] ws 0 0 := by
  intro fu
  induction fu with
  | zero => intro a0 i1 i3 i4 i5 i6 ws h; cases h
  | succ fu ih =>
    intro a0 i1 i3 i4 i5 i6 ws h
    rw [m_X11_footholdOf_l26] at h
    refine j_iload (pc := 26) dX11_footholdOf_26 rfl ?_
    refine j_sipush (pc := 28) dX11_footholdOf_28 (v := 400) (by decide) ?_
    refine j_icmp_ge (pc := 31) (tgt := 205) dX11_footholdOf_31 (by decide) (fun c1 => ?_) (fun c1 => ?_)
    · rw [if_pos c1] at h
      refine j_iload (pc := 205) dX11_footholdOf_205 rfl ?_
      obtain ⟨rfl, rfl⟩ := jretS h
      exact j_iret (pc := 207) rfl dX11_footholdOf_207 (by decide) (by decide) rfl
    · rw [if_neg c1] at h
      refine j_iload (pc := 34) dX11_footholdOf_34 rfl ?_
      refine j_bipush (pc := 36) dX11_footholdOf_36 (v := 20) (by decide) ?_
      refine j_irem (pc := 38) dX11_footholdOf_38 (by decide) ?_
      refine j_istore_7 (pc := 39) dX11_footholdOf_39 (by decide) rfl ?_
      refine j_iload (pc := 41) dX11_footholdOf_41 rfl ?_
      refine j_bipush (pc := 43) dX11_footholdOf_43 (v := 20) (by decide) ?_
      refine j_idiv (pc := 45) dX11_footholdOf_45 (by decide) ?_
      refine j_istore_8 (pc := 46) dX11_footholdOf_46 (by decide) rfl ?_
      refine j_aload_n (pc := 48) dX11_footholdOf_48 rfl ?_
      obtain ⟨x2, e3, h⟩ := obS h
      refine j_getR (pc := 49) dX11_footholdOf_49 (ci := 11) (kf := 3) rfl (jwi hw_X11) (by decide) (jwm lw_528) e3 ?_
      refine j_iload (pc := 52) dX11_footholdOf_52 rfl ?_
      obtain ⟨x4, e5, h⟩ := obS h
      refine j_iald (pc := 54) dX11_footholdOf_54 e5 ?_
      refine j_iload_n (pc := 55) dX11_footholdOf_55 rfl ?_
      refine j_icmp_le (pc := 56) (tgt := 71) dX11_footholdOf_56 (by decide) (fun c6 => ?_) (fun c6 => ?_)
      · rw [if_pos c6] at h
        refine j_iload_n (pc := 71) dX11_footholdOf_71 rfl ?_
        refine j_aload_n (pc := 72) dX11_footholdOf_72 rfl ?_
        obtain ⟨x7, e8, h⟩ := obS h
        refine j_getR (pc := 73) dX11_footholdOf_73 (ci := 11) (kf := 3) rfl (jwi hw_X11) (by decide) (jwm lw_528) e8 ?_
        refine j_iload (pc := 76) dX11_footholdOf_76 rfl ?_
        obtain ⟨x9, e10, h⟩ := obS h
        refine j_iald (pc := 78) dX11_footholdOf_78 e10 ?_
        refine j_isub (pc := 79) dX11_footholdOf_79 ?_
        exact jm_X11_footholdOf_b80 (hk26 := ih) _ _ _ _ _ _ _ _ _ ws h
      · rw [if_neg c6] at h
        refine j_aload_n (pc := 59) dX11_footholdOf_59 rfl ?_
        obtain ⟨x11, e12, h⟩ := obS h
        refine j_getR (pc := 60) dX11_footholdOf_60 (ci := 11) (kf := 3) rfl (jwi hw_X11) (by decide) (jwm lw_528) e12 ?_
        refine j_iload (pc := 63) dX11_footholdOf_63 rfl ?_
        obtain ⟨x13, e14, h⟩ := obS h
        refine j_iald (pc := 65) dX11_footholdOf_65 e14 ?_
        refine j_iload_n (pc := 66) dX11_footholdOf_66 rfl ?_
        refine j_isub (pc := 67) dX11_footholdOf_67 ?_
        refine j_goto (pc := 68) (tgt := 80) dX11_footholdOf_68 (by decide) ?_
        exact jm_X11_footholdOf_b80 (hk26 := ih) _ _ _ _ _ _ _ _ _ ws h
def m_X11_footholdOf (a0 : Nat) (i1 : Int32) (ws : LWd) : Option (Int32 × LWd) :=
  (rcv ws a0 11).bind fun _ =>
  (fI ws a0 11 17).bind fun x1 =>
  bn2 (calSR ws (m_X11_level a0 (x1 &&& ((1 <<< (i1 &&& 31)) ^^^ ((-1)))) ws)) fun x5 w3 =>
  m_X11_footholdOf_l26 FU a0 i1 x5 ((-1)) 0 0 w3
set_option maxRecDepth 100000 in
set_option maxHeartbeats 4000000 in
theorem s_X11_footholdOf {a0 : Nat} {i1 : Int32} {ws : LWd} {rr : Int32} {ws' : LWd} (h : m_X11_footholdOf a0 i1 ws = some (rr, ws')) : jSp yX11_footholdOf wsX11_footholdOf 2 0 0 [.ref a0, .int i1] ws (.inl (some (.int rr)), ws') := by
  unfold m_X11_footholdOf at h
  refine j_entry (ret := (some .int)) (nm := "footholdOf") (own := RX11) pl_X11 rfl rfl rfl (jcats (by rfl)) (Nat.le_of_ble_eq_true rfl) ?_
  show JG (.inl false) cX11_footholdOf 14 RX11 wsX11_footholdOf (some .int) "footholdOf" 2 0 0 ws.length (.inl (some (.int rr)), ws') 0 [some (.ref a0), some (.int i1), none, none, none, none, none, none, none, none, none, none, none, none] [] ws 0 0
  obtain ⟨_, _, h⟩ := obS h
  refine j_aload_n (pc := 0) dX11_footholdOf_0 rfl ?_
  obtain ⟨x1, e2, h⟩ := obS h
  refine j_getI (pc := 1) dX11_footholdOf_1 (ci := 11) (kf := 17) rfl (jwi hw_X11) (by decide) (jwm lw_546) e2 ?_
  refine j_iconst (pc := 4) dX11_footholdOf_4 (v := 1) (by decide) ?_
  refine j_iload_n (pc := 5) dX11_footholdOf_5 rfl ?_
  refine j_ishl (pc := 6) dX11_footholdOf_6 ?_
  refine j_iconst (pc := 7) dX11_footholdOf_7 (v := (-1)) (by decide) ?_
  refine j_ixor (pc := 8) dX11_footholdOf_8 ?_
  refine j_iand (pc := 9) dX11_footholdOf_9 ?_
  refine j_istore_n_2 (pc := 10) dX11_footholdOf_10 (by decide) rfl ?_
  refine j_aload_n (pc := 11) dX11_footholdOf_11 rfl ?_
  refine j_iload_n (pc := 12) dX11_footholdOf_12 rfl ?_
  obtain ⟨x5, w3, e4, h⟩ := obS2 h
  have ge4 := calSR_of e4
  refine j_callV_g (pc := 13) (As := [.int (x1 &&& ((1 <<< (i1 &&& 31)) ^^^ ((-1))))]) (k' := 0) (n' := 0) dX11_footholdOf_13 (s_X11_level ge4.1) (jgV lw_657 lw_658 lw_659 lw_544 lw_656) rfl hv_X11_level rfl (r_X11_level ge4.1) rfl (by decide) (by decide) (Nat.le_of_ble_eq_true rfl) (by decide) (by decide) (by decide) (by decide) (Or.inl ge4.2) ?_
  refine j_istore_n_3 (pc := 16) dX11_footholdOf_16 (by decide) rfl ?_
  refine j_iconst (pc := 17) dX11_footholdOf_17 (v := (-1)) (by decide) ?_
  refine j_istore_4 (pc := 18) dX11_footholdOf_18 (by decide) rfl ?_
  refine j_iconst (pc := 20) dX11_footholdOf_20 (v := 0) (by decide) ?_
  refine j_istore_5 (pc := 21) dX11_footholdOf_21 (by decide) rfl ?_
  refine j_iconst (pc := 23) dX11_footholdOf_23 (v := 0) (by decide) ?_
  refine j_istore_6 (pc := 24) dX11_footholdOf_24 (by decide) rfl ?_
  refine j_mask [true, true, false, true, true, true, true, false, false, false, false, false, false, false] ?_
  exact jm_X11_footholdOf_l26 FU _ _ _ _ _ _ w3 h
theorem r_X11_footholdOf {a0 : Nat} {i1 : Int32} {ws : LWd} {o : (Int32 × LWd)} (h : m_X11_footholdOf a0 i1 ws = some o) : ∃ fs, ws[a0]? = some (.inr (11, fs)) := rcv_in h
def wsX11_foothold : List Cond := Cond.code yX11_foothold cX11_foothold 2 (some .int) :: jW
def m_X11_foothold_b14 (a0 : Nat) (i1 : Int32) (s0 : Nat) (s1 : Int32) (ws : LWd) : Option (Int32 × LWd) :=
  bn2 (calSR ws (m_X11_fails s0 s1 ws)) fun x3 w1 =>
  if x3 = 0 then
    bn2 (calSR w1 (m_X11_footholdOf a0 i1 w1)) fun x7 w5 =>
    some (x7, w5)
  else
    some (0, w1)
set_option maxRecDepth 100000 in
set_option maxHeartbeats 4000000 in
theorem jm_X11_foothold_b14 {n0 : Nat} {rr : Int32} {ws' : LWd} (a0 : Nat) (i1 : Int32) (s0 : Nat) (s1 : Int32) (ws : LWd) (h : m_X11_foothold_b14 a0 i1 s0 s1 ws = some (rr, ws')) : JG (.inl false) cX11_foothold 2 RX11 wsX11_foothold (some .int) "foothold" 3 0 0 n0 (.inl (some (.int rr)), ws') 14 [some (.ref a0), some (.int i1)] [.int s1, .ref s0] ws 0 0 := by
  unfold m_X11_foothold_b14 at h
  obtain ⟨x3, w1, e2, h⟩ := obS2 h
  have ge2 := calSR_of e2
  refine j_callV_g (pc := 14) (As := [.int s1]) (k' := 0) (n' := 0) dX11_foothold_14 (s_X11_fails ge2.1) (jgV lw_552 lw_553 lw_554 lw_544 lw_551) rfl hv_X11_fails rfl (r_X11_fails ge2.1) rfl (by decide) (by decide) (Nat.le_of_ble_eq_true rfl) (by decide) (by decide) (by decide) (by decide) (Or.inl ge2.2) ?_
  refine j_if_eq (pc := 17) (tgt := 24) dX11_foothold_17 (by decide) (fun c4 => ?_) (fun c4 => ?_)
  · rw [if_pos c4] at h
    refine j_aload_n (pc := 24) dX11_foothold_24 rfl ?_
    refine j_iload_n (pc := 25) dX11_foothold_25 rfl ?_
    obtain ⟨x7, w5, e6, h⟩ := obS2 h
    have ge6 := calSR_of e6
    refine j_callV_g (pc := 26) (As := [.int i1]) (k' := 0) (n' := 0) dX11_foothold_26 (s_X11_footholdOf ge6.1) (jgV lw_713 lw_714 lw_715 lw_544 lw_712) rfl hv_X11_footholdOf rfl (r_X11_footholdOf ge6.1) rfl (by decide) (by decide) (Nat.le_of_ble_eq_true rfl) (by decide) (by decide) (by decide) (by decide) (Or.inl ge6.2) ?_
    obtain ⟨rfl, rfl⟩ := jretS h
    exact j_iret (pc := 29) rfl dX11_foothold_29 (by decide) (by decide) rfl
  · rw [if_neg c4] at h
    refine j_iconst (pc := 20) dX11_foothold_20 (v := 0) (by decide) ?_
    refine j_goto (pc := 21) (tgt := 29) dX11_foothold_21 (by decide) ?_
    obtain ⟨rfl, rfl⟩ := jretS h
    exact j_iret (pc := 29) rfl dX11_foothold_29 (by decide) (by decide) rfl
def m_X11_foothold (a0 : Nat) (i1 : Int32) (ws : LWd) : Option (Int32 × LWd) :=
  (rcv ws a0 11).bind fun _ =>
  bn2 (calSR ws (m_X11_isLeg a0 i1 ws)) fun x3 w1 =>
  if x3 = 0 then
    m_X11_foothold_b14 a0 i1 a0 1 w1
  else
    m_X11_foothold_b14 a0 i1 a0 0 w1
set_option maxRecDepth 100000 in
set_option maxHeartbeats 4000000 in
theorem s_X11_foothold {a0 : Nat} {i1 : Int32} {ws : LWd} {rr : Int32} {ws' : LWd} (h : m_X11_foothold a0 i1 ws = some (rr, ws')) : jSp yX11_foothold wsX11_foothold 3 0 0 [.ref a0, .int i1] ws (.inl (some (.int rr)), ws') := by
  unfold m_X11_foothold at h
  refine j_entry (ret := (some .int)) (nm := "foothold") (own := RX11) pl_X11 rfl rfl rfl (jcats (by rfl)) (Nat.le_of_ble_eq_true rfl) ?_
  show JG (.inl false) cX11_foothold 2 RX11 wsX11_foothold (some .int) "foothold" 3 0 0 ws.length (.inl (some (.int rr)), ws') 0 [some (.ref a0), some (.int i1)] [] ws 0 0
  obtain ⟨_, _, h⟩ := obS h
  refine j_aload_n (pc := 0) dX11_foothold_0 rfl ?_
  refine j_aload_n (pc := 1) dX11_foothold_1 rfl ?_
  refine j_iload_n (pc := 2) dX11_foothold_2 rfl ?_
  obtain ⟨x3, w1, e2, h⟩ := obS2 h
  have ge2 := calSR_of e2
  refine j_callV_g (pc := 3) (As := [.int i1]) (k' := 0) (n' := 0) dX11_foothold_3 (s_X11_isLeg ge2.1) (jgV lw_568 lw_569 lw_570 lw_544 lw_567) rfl hv_X11_isLeg rfl (r_X11_isLeg ge2.1) rfl (by decide) (by decide) (Nat.le_of_ble_eq_true rfl) (by decide) (by decide) (by decide) (by decide) (Or.inl ge2.2) ?_
  refine j_if_eq (pc := 6) (tgt := 13) dX11_foothold_6 (by decide) (fun c4 => ?_) (fun c4 => ?_)
  · rw [if_pos c4] at h
    refine j_iconst (pc := 13) dX11_foothold_13 (v := 1) (by decide) ?_
    exact jm_X11_foothold_b14 _ _ _ _ w1 h
  · rw [if_neg c4] at h
    refine j_iconst (pc := 9) dX11_foothold_9 (v := 0) (by decide) ?_
    refine j_goto (pc := 10) (tgt := 14) dX11_foothold_10 (by decide) ?_
    exact jm_X11_foothold_b14 _ _ _ _ w1 h
theorem r_X11_foothold {a0 : Nat} {i1 : Int32} {ws : LWd} {o : (Int32 × LWd)} (h : m_X11_foothold a0 i1 ws = some o) : ∃ fs, ws[a0]? = some (.inr (11, fs)) := rcv_in h
def wsX11_wouldLift : List Cond := Cond.code yX11_wouldLift cX11_wouldLift 5 (some .int) :: jW
def m_X11_wouldLift_l75 : Nat → Nat → Int32 → Int32 → Int32 → LWd → Option (Int32 × LWd)
  | 0, _, _, _, _, _ => none
  | fu + 1, a0, i2, i3, i4, ws =>
    if i4 = 0 then
      bn2 (calSR ws (m_X11_holds a0 i2 ws)) fun x4 w2 =>
      if x4 = 0 then
        some (2, w2)
      else
        if i3 = 0 then
          some (0, w2)
        else
          some (1, w2)
    else
      bn2 (calSR ws (m_X11_sinking a0 (i2 &&& (i4 ^^^ ((-1)))) ws)) fun x9 w7 =>
      m_X11_wouldLift_l75 fu a0 (i2 &&& (i4 ^^^ ((-1)))) 1 x9 w7
set_option maxRecDepth 100000 in
set_option maxHeartbeats 4000000 in
theorem jm_X11_wouldLift_l75 {n0 : Nat} {rr : Int32} {ws' : LWd} : ∀ (fu : Nat) (a0 : Nat) (i2 : Int32) (i3 : Int32) (i4 : Int32) (ws : LWd), m_X11_wouldLift_l75 fu a0 i2 i3 i4 ws = some (rr, ws') → JG (.inl false) cX11_wouldLift 5 RX11 wsX11_wouldLift (some .int) "wouldLift" 4 0 0 n0 (.inl (some (.int rr)), ws') 75 [some (.ref a0), none, some (.int i2), some (.int i3), some (.int i4)] [] ws 0 0 := by
  intro fu
  induction fu with
  | zero => intro a0 i2 i3 i4 ws h; cases h
  | succ fu ih =>
    intro a0 i2 i3 i4 ws h
    rw [m_X11_wouldLift_l75] at h
    refine j_iload (pc := 75) dX11_wouldLift_75 rfl ?_
    refine j_if_eq (pc := 77) (tgt := 99) dX11_wouldLift_77 (by decide) (fun c1 => ?_) (fun c1 => ?_)
    · rw [if_pos c1] at h
      refine j_aload_n (pc := 99) dX11_wouldLift_99 rfl ?_
      refine j_iload_n (pc := 100) dX11_wouldLift_100 rfl ?_
      obtain ⟨x4, w2, e3, h⟩ := obS2 h
      have ge3 := calSR_of e3
      refine j_callV_g (pc := 101) (As := [.int i2]) (k' := 0) (n' := 0) dX11_wouldLift_101 (s_X11_holds ge3.1) (jgV lw_645 lw_646 lw_647 lw_544 lw_644) rfl hv_X11_holds rfl (r_X11_holds ge3.1) rfl (by decide) (by decide) (Nat.le_of_ble_eq_true rfl) (by decide) (by decide) (by decide) (by decide) (Or.inl ge3.2) ?_
      refine j_if_ne (pc := 104) (tgt := 111) dX11_wouldLift_104 (by decide) (fun c5 => ?_) (fun c5 => ?_)
      · rw [if_neg c5] at h
        refine j_iload_n (pc := 111) dX11_wouldLift_111 rfl ?_
        refine j_if_eq (pc := 112) (tgt := 119) dX11_wouldLift_112 (by decide) (fun c6 => ?_) (fun c6 => ?_)
        · rw [if_pos c6] at h
          refine j_iconst (pc := 119) dX11_wouldLift_119 (v := 0) (by decide) ?_
          obtain ⟨rfl, rfl⟩ := jretS h
          exact j_iret (pc := 120) rfl dX11_wouldLift_120 (by decide) (by decide) rfl
        · rw [if_neg c6] at h
          refine j_iconst (pc := 115) dX11_wouldLift_115 (v := 1) (by decide) ?_
          refine j_goto (pc := 116) (tgt := 120) dX11_wouldLift_116 (by decide) ?_
          obtain ⟨rfl, rfl⟩ := jretS h
          exact j_iret (pc := 120) rfl dX11_wouldLift_120 (by decide) (by decide) rfl
      · rw [if_pos c5] at h
        refine j_iconst (pc := 107) dX11_wouldLift_107 (v := 2) (by decide) ?_
        refine j_goto (pc := 108) (tgt := 120) dX11_wouldLift_108 (by decide) ?_
        obtain ⟨rfl, rfl⟩ := jretS h
        exact j_iret (pc := 120) rfl dX11_wouldLift_120 (by decide) (by decide) rfl
    · rw [if_neg c1] at h
      refine j_iconst (pc := 80) dX11_wouldLift_80 (v := 1) (by decide) ?_
      refine j_istore_n_3 (pc := 81) dX11_wouldLift_81 (by decide) rfl ?_
      refine j_iload_n (pc := 82) dX11_wouldLift_82 rfl ?_
      refine j_iload (pc := 83) dX11_wouldLift_83 rfl ?_
      refine j_iconst (pc := 85) dX11_wouldLift_85 (v := (-1)) (by decide) ?_
      refine j_ixor (pc := 86) dX11_wouldLift_86 ?_
      refine j_iand (pc := 87) dX11_wouldLift_87 ?_
      refine j_istore_n_2 (pc := 88) dX11_wouldLift_88 (by decide) rfl ?_
      refine j_aload_n (pc := 89) dX11_wouldLift_89 rfl ?_
      refine j_iload_n (pc := 90) dX11_wouldLift_90 rfl ?_
      obtain ⟨x9, w7, e8, h⟩ := obS2 h
      have ge8 := calSR_of e8
      refine j_callV_g (pc := 91) (As := [.int (i2 &&& (i4 ^^^ ((-1))))]) (k' := 0) (n' := 0) dX11_wouldLift_91 (s_X11_sinking ge8.1) (jgV lw_633 lw_634 lw_635 lw_544 lw_632) rfl hv_X11_sinking rfl (r_X11_sinking ge8.1) rfl (by decide) (by decide) (Nat.le_of_ble_eq_true rfl) (by decide) (by decide) (by decide) (by decide) (Or.inl ge8.2) ?_
      refine j_istore_4 (pc := 94) dX11_wouldLift_94 (by decide) rfl ?_
      refine j_goto (pc := 96) (tgt := 75) dX11_wouldLift_96 (by decide) ?_
      exact ih _ _ _ _ w7 h
def m_X11_wouldLift_b14 (a0 : Nat) (i1 : Int32) (s0 : Nat) (s1 : Int32) (ws : LWd) : Option (Int32 × LWd) :=
  bn2 (calSR ws (m_X11_fails s0 s1 ws)) fun x3 w1 =>
  if x3 = 0 then
    (fI w1 a0 11 17).bind fun x5 =>
    (fI w1 a0 11 4).bind fun x7 =>
    if x7 = 0 then
      some ((-1), w1)
    else
      (fI w1 a0 11 7).bind fun x10 =>
      if x10 < 1 then
        some ((-1), w1)
      else
        bn2 (calSR w1 (m_X11_isDown a0 i1 w1)) fun x15 w13 =>
        if x15 = 0 then
          some ((-1), w13)
        else
          bn2 (calSR w13 (m_X11_holds a0 (x5 &&& ((1 <<< (i1 &&& 31)) ^^^ ((-1)))) w13)) fun x19 w17 =>
          if x19 = 0 then
            some ((-1), w17)
          else
            bn2 (calSR w17 (m_X11_sinking a0 (x5 &&& ((1 <<< (i1 &&& 31)) ^^^ ((-1)))) w17)) fun x23 w21 =>
            m_X11_wouldLift_l75 FU a0 (x5 &&& ((1 <<< (i1 &&& 31)) ^^^ ((-1)))) 0 x23 w21
  else
    some (0, w1)
set_option maxRecDepth 100000 in
set_option maxHeartbeats 4000000 in
theorem jm_X11_wouldLift_b14 {n0 : Nat} {rr : Int32} {ws' : LWd} (a0 : Nat) (i1 : Int32) (s0 : Nat) (s1 : Int32) (ws : LWd) (h : m_X11_wouldLift_b14 a0 i1 s0 s1 ws = some (rr, ws')) : JG (.inl false) cX11_wouldLift 5 RX11 wsX11_wouldLift (some .int) "wouldLift" 4 0 0 n0 (.inl (some (.int rr)), ws') 14 [some (.ref a0), some (.int i1), none, none, none] [.int s1, .ref s0] ws 0 0 := by
  unfold m_X11_wouldLift_b14 at h
  obtain ⟨x3, w1, e2, h⟩ := obS2 h
  have ge2 := calSR_of e2
  refine j_callV_g (pc := 14) (As := [.int s1]) (k' := 0) (n' := 0) dX11_wouldLift_14 (s_X11_fails ge2.1) (jgV lw_552 lw_553 lw_554 lw_544 lw_551) rfl hv_X11_fails rfl (r_X11_fails ge2.1) rfl (by decide) (by decide) (Nat.le_of_ble_eq_true rfl) (by decide) (by decide) (by decide) (by decide) (Or.inl ge2.2) ?_
  refine j_if_eq (pc := 17) (tgt := 22) dX11_wouldLift_17 (by decide) (fun c4 => ?_) (fun c4 => ?_)
  · rw [if_pos c4] at h
    refine j_aload_n (pc := 22) dX11_wouldLift_22 rfl ?_
    obtain ⟨x5, e6, h⟩ := obS h
    refine j_getI (pc := 23) dX11_wouldLift_23 (ci := 11) (kf := 17) rfl (jwi hw_X11) (by decide) (jwm lw_546) e6 ?_
    refine j_iconst (pc := 26) dX11_wouldLift_26 (v := 1) (by decide) ?_
    refine j_iload_n (pc := 27) dX11_wouldLift_27 rfl ?_
    refine j_ishl (pc := 28) dX11_wouldLift_28 ?_
    refine j_iconst (pc := 29) dX11_wouldLift_29 (v := (-1)) (by decide) ?_
    refine j_ixor (pc := 30) dX11_wouldLift_30 ?_
    refine j_iand (pc := 31) dX11_wouldLift_31 ?_
    refine j_istore_n_2 (pc := 32) dX11_wouldLift_32 (by decide) rfl ?_
    refine j_aload_n (pc := 33) dX11_wouldLift_33 rfl ?_
    obtain ⟨x7, e8, h⟩ := obS h
    refine j_getI (pc := 34) dX11_wouldLift_34 (ci := 11) (kf := 4) rfl (jwi hw_X11) (by decide) (jwm lw_565) e8 ?_
    refine j_if_eq (pc := 37) (tgt := 64) dX11_wouldLift_37 (by decide) (fun c9 => ?_) (fun c9 => ?_)
    · rw [if_pos c9] at h
      refine j_iconst (pc := 64) dX11_wouldLift_64 (v := (-1)) (by decide) ?_
      obtain ⟨rfl, rfl⟩ := jretS h
      exact j_iret (pc := 65) rfl dX11_wouldLift_65 (by decide) (by decide) rfl
    · rw [if_neg c9] at h
      refine j_aload_n (pc := 40) dX11_wouldLift_40 rfl ?_
      obtain ⟨x10, e11, h⟩ := obS h
      refine j_getI (pc := 41) dX11_wouldLift_41 (ci := 11) (kf := 7) rfl (jwi hw_X11) (by decide) (jwm lw_531) e11 ?_
      refine j_iconst (pc := 44) dX11_wouldLift_44 (v := 1) (by decide) ?_
      refine j_icmp_lt (pc := 45) (tgt := 64) dX11_wouldLift_45 (by decide) (fun c12 => ?_) (fun c12 => ?_)
      · rw [if_pos c12] at h
        refine j_iconst (pc := 64) dX11_wouldLift_64 (v := (-1)) (by decide) ?_
        obtain ⟨rfl, rfl⟩ := jretS h
        exact j_iret (pc := 65) rfl dX11_wouldLift_65 (by decide) (by decide) rfl
      · rw [if_neg c12] at h
        refine j_aload_n (pc := 48) dX11_wouldLift_48 rfl ?_
        refine j_iload_n (pc := 49) dX11_wouldLift_49 rfl ?_
        obtain ⟨x15, w13, e14, h⟩ := obS2 h
        have ge14 := calSR_of e14
        refine j_callV_g (pc := 50) (As := [.int i1]) (k' := 0) (n' := 0) dX11_wouldLift_50 (s_X11_isDown ge14.1) (jgV lw_548 lw_549 lw_550 lw_544 lw_547) rfl hv_X11_isDown rfl (r_X11_isDown ge14.1) rfl (by decide) (by decide) (Nat.le_of_ble_eq_true rfl) (by decide) (by decide) (by decide) (by decide) (Or.inl ge14.2) ?_
        refine j_if_eq (pc := 53) (tgt := 64) dX11_wouldLift_53 (by decide) (fun c16 => ?_) (fun c16 => ?_)
        · rw [if_pos c16] at h
          refine j_iconst (pc := 64) dX11_wouldLift_64 (v := (-1)) (by decide) ?_
          obtain ⟨rfl, rfl⟩ := jretS h
          exact j_iret (pc := 65) rfl dX11_wouldLift_65 (by decide) (by decide) rfl
        · rw [if_neg c16] at h
          refine j_aload_n (pc := 56) dX11_wouldLift_56 rfl ?_
          refine j_iload_n (pc := 57) dX11_wouldLift_57 rfl ?_
          obtain ⟨x19, w17, e18, h⟩ := obS2 h
          have ge18 := calSR_of e18
          refine j_callV_g (pc := 58) (As := [.int (x5 &&& ((1 <<< (i1 &&& 31)) ^^^ ((-1))))]) (k' := 0) (n' := 0) dX11_wouldLift_58 (s_X11_holds ge18.1) (jgV lw_645 lw_646 lw_647 lw_544 lw_644) rfl hv_X11_holds rfl (r_X11_holds ge18.1) rfl (by decide) (by decide) (Nat.le_of_ble_eq_true rfl) (by decide) (by decide) (by decide) (by decide) (Or.inl ge18.2) ?_
          refine j_if_ne (pc := 61) (tgt := 66) dX11_wouldLift_61 (by decide) (fun c20 => ?_) (fun c20 => ?_)
          · rw [if_neg c20] at h
            refine j_iconst (pc := 66) dX11_wouldLift_66 (v := 0) (by decide) ?_
            refine j_istore_n_3 (pc := 67) dX11_wouldLift_67 (by decide) rfl ?_
            refine j_aload_n (pc := 68) dX11_wouldLift_68 rfl ?_
            refine j_iload_n (pc := 69) dX11_wouldLift_69 rfl ?_
            obtain ⟨x23, w21, e22, h⟩ := obS2 h
            have ge22 := calSR_of e22
            refine j_callV_g (pc := 70) (As := [.int (x5 &&& ((1 <<< (i1 &&& 31)) ^^^ ((-1))))]) (k' := 0) (n' := 0) dX11_wouldLift_70 (s_X11_sinking ge22.1) (jgV lw_633 lw_634 lw_635 lw_544 lw_632) rfl hv_X11_sinking rfl (r_X11_sinking ge22.1) rfl (by decide) (by decide) (Nat.le_of_ble_eq_true rfl) (by decide) (by decide) (by decide) (by decide) (Or.inl ge22.2) ?_
            refine j_istore_4 (pc := 73) dX11_wouldLift_73 (by decide) rfl ?_
            refine j_mask [true, false, true, true, true] ?_
            exact jm_X11_wouldLift_l75 FU _ _ _ _ w21 h
          · rw [if_pos c20] at h
            refine j_iconst (pc := 64) dX11_wouldLift_64 (v := (-1)) (by decide) ?_
            obtain ⟨rfl, rfl⟩ := jretS h
            exact j_iret (pc := 65) rfl dX11_wouldLift_65 (by decide) (by decide) rfl
  · rw [if_neg c4] at h
    refine j_iconst (pc := 20) dX11_wouldLift_20 (v := 0) (by decide) ?_
    obtain ⟨rfl, rfl⟩ := jretS h
    exact j_iret (pc := 21) rfl dX11_wouldLift_21 (by decide) (by decide) rfl
def m_X11_wouldLift (a0 : Nat) (i1 : Int32) (ws : LWd) : Option (Int32 × LWd) :=
  (rcv ws a0 11).bind fun _ =>
  bn2 (calSR ws (m_X11_isLeg a0 i1 ws)) fun x3 w1 =>
  if x3 = 0 then
    m_X11_wouldLift_b14 a0 i1 a0 1 w1
  else
    m_X11_wouldLift_b14 a0 i1 a0 0 w1
set_option maxRecDepth 100000 in
set_option maxHeartbeats 4000000 in
theorem s_X11_wouldLift {a0 : Nat} {i1 : Int32} {ws : LWd} {rr : Int32} {ws' : LWd} (h : m_X11_wouldLift a0 i1 ws = some (rr, ws')) : jSp yX11_wouldLift wsX11_wouldLift 4 0 0 [.ref a0, .int i1] ws (.inl (some (.int rr)), ws') := by
  unfold m_X11_wouldLift at h
  refine j_entry (ret := (some .int)) (nm := "wouldLift") (own := RX11) pl_X11 rfl rfl rfl (jcats (by rfl)) (Nat.le_of_ble_eq_true rfl) ?_
  show JG (.inl false) cX11_wouldLift 5 RX11 wsX11_wouldLift (some .int) "wouldLift" 4 0 0 ws.length (.inl (some (.int rr)), ws') 0 [some (.ref a0), some (.int i1), none, none, none] [] ws 0 0
  obtain ⟨_, _, h⟩ := obS h
  refine j_aload_n (pc := 0) dX11_wouldLift_0 rfl ?_
  refine j_aload_n (pc := 1) dX11_wouldLift_1 rfl ?_
  refine j_iload_n (pc := 2) dX11_wouldLift_2 rfl ?_
  obtain ⟨x3, w1, e2, h⟩ := obS2 h
  have ge2 := calSR_of e2
  refine j_callV_g (pc := 3) (As := [.int i1]) (k' := 0) (n' := 0) dX11_wouldLift_3 (s_X11_isLeg ge2.1) (jgV lw_568 lw_569 lw_570 lw_544 lw_567) rfl hv_X11_isLeg rfl (r_X11_isLeg ge2.1) rfl (by decide) (by decide) (Nat.le_of_ble_eq_true rfl) (by decide) (by decide) (by decide) (by decide) (Or.inl ge2.2) ?_
  refine j_if_eq (pc := 6) (tgt := 13) dX11_wouldLift_6 (by decide) (fun c4 => ?_) (fun c4 => ?_)
  · rw [if_pos c4] at h
    refine j_iconst (pc := 13) dX11_wouldLift_13 (v := 1) (by decide) ?_
    exact jm_X11_wouldLift_b14 _ _ _ _ w1 h
  · rw [if_neg c4] at h
    refine j_iconst (pc := 9) dX11_wouldLift_9 (v := 0) (by decide) ?_
    refine j_goto (pc := 10) (tgt := 14) dX11_wouldLift_10 (by decide) ?_
    exact jm_X11_wouldLift_b14 _ _ _ _ w1 h
theorem r_X11_wouldLift {a0 : Nat} {i1 : Int32} {ws : LWd} {o : (Int32 × LWd)} (h : m_X11_wouldLift a0 i1 ws = some o) : ∃ fs, ws[a0]? = some (.inr (11, fs)) := rcv_in h
