/-! methods: written by wip/p27/make.py -/
def wsL_isEdge : List Cond := Cond.code yL_isEdge cL_isEdge 9 (some .boolean) :: jW
def m_L_isEdge_b147 (k30 : Nat → Nat → Int32 → Int32 → Int32 → Int32 → Int32 → LWd → Option (Int32 × LWd)) (a0 : Nat) (a1 : Nat) (i2 : Int32) (i3 : Int32) (i4 : Int32) (i6 : Int32) (s0 : Int32) (ws : LWd) : Option (Int32 × LWd) :=
  k30 a0 a1 i2 i3 i4 s0 (i6 + 1) ws
set_option maxRecDepth 100000 in
set_option maxHeartbeats 4000000 in
theorem jm_L_isEdge_b147 {n0 : Nat} {rr : Int32} {ws' : LWd} {k30 : Nat → Nat → Int32 → Int32 → Int32 → Int32 → Int32 → LWd → Option (Int32 × LWd)} (hk30 : ∀ (a0 : Nat) (a1 : Nat) (i2 : Int32) (i3 : Int32) (i4 : Int32) (i5 : Int32) (i6 : Int32) (ws : LWd), k30 a0 a1 i2 i3 i4 i5 i6 ws = some (rr, ws') → JG (.inl false) cL_isEdge 9 RL wsL_isEdge (some .boolean) "isEdge" 0 0 0 n0 (.inl (some (.int rr)), ws') 30 [some (.ref a0), some (.ref a1), some (.int i2), some (.int i3), some (.int i4), some (.int i5), some (.int i6), none, none] [] ws 0 0) (a0 : Nat) (a1 : Nat) (i2 : Int32) (i3 : Int32) (i4 : Int32) (i6 : Int32) (s0 : Int32) (ws : LWd) (h : m_L_isEdge_b147 k30 a0 a1 i2 i3 i4 i6 s0 ws = some (rr, ws')) : JG (.inl false) cL_isEdge 9 RL wsL_isEdge (some .boolean) "isEdge" 0 0 0 n0 (.inl (some (.int rr)), ws') 147 [some (.ref a0), some (.ref a1), some (.int i2), some (.int i3), some (.int i4), none, some (.int i6), none, none] [.int s0] ws 0 0 := by
  unfold m_L_isEdge_b147 at h
  refine j_istore_5 (pc := 147) dL_isEdge_147 (by decide) rfl ?_
  refine j_iinc_6 (pc := 149) dL_isEdge_149 (y := i6 + 1) rfl (by decide) rfl ?_
  refine j_goto (pc := 152) (tgt := 30) dL_isEdge_152 (by decide) ?_
  exact hk30 _ _ _ _ _ _ _ ws h
def m_L_isEdge_b142 (k30 : Nat → Nat → Int32 → Int32 → Int32 → Int32 → Int32 → LWd → Option (Int32 × LWd)) (a0 : Nat) (a1 : Nat) (i2 : Int32) (i3 : Int32) (i4 : Int32) (i6 : Int32) (ws : LWd) : Option (Int32 × LWd) :=
  m_L_isEdge_b147 k30 a0 a1 i2 i3 i4 i6 1 ws
set_option maxRecDepth 100000 in
set_option maxHeartbeats 4000000 in
theorem jm_L_isEdge_b142 {n0 : Nat} {rr : Int32} {ws' : LWd} {k30 : Nat → Nat → Int32 → Int32 → Int32 → Int32 → Int32 → LWd → Option (Int32 × LWd)} (hk30 : ∀ (a0 : Nat) (a1 : Nat) (i2 : Int32) (i3 : Int32) (i4 : Int32) (i5 : Int32) (i6 : Int32) (ws : LWd), k30 a0 a1 i2 i3 i4 i5 i6 ws = some (rr, ws') → JG (.inl false) cL_isEdge 9 RL wsL_isEdge (some .boolean) "isEdge" 0 0 0 n0 (.inl (some (.int rr)), ws') 30 [some (.ref a0), some (.ref a1), some (.int i2), some (.int i3), some (.int i4), some (.int i5), some (.int i6), none, none] [] ws 0 0) (a0 : Nat) (a1 : Nat) (i2 : Int32) (i3 : Int32) (i4 : Int32) (i6 : Int32) (ws : LWd) (h : m_L_isEdge_b142 k30 a0 a1 i2 i3 i4 i6 ws = some (rr, ws')) : JG (.inl false) cL_isEdge 9 RL wsL_isEdge (some .boolean) "isEdge" 0 0 0 n0 (.inl (some (.int rr)), ws') 142 [some (.ref a0), some (.ref a1), some (.int i2), some (.int i3), some (.int i4), none, some (.int i6), none, none] [] ws 0 0 := by
  unfold m_L_isEdge_b142 at h
  refine j_iconst (pc := 142) dL_isEdge_142 (v := 1) (by decide) ?_
  refine j_goto (pc := 143) (tgt := 147) dL_isEdge_143 (by decide) ?_
  exact jm_L_isEdge_b147 (hk30 := hk30) _ _ _ _ _ _ _ ws h
def m_L_isEdge_b146 (k30 : Nat → Nat → Int32 → Int32 → Int32 → Int32 → Int32 → LWd → Option (Int32 × LWd)) (a0 : Nat) (a1 : Nat) (i2 : Int32) (i3 : Int32) (i4 : Int32) (i6 : Int32) (ws : LWd) : Option (Int32 × LWd) :=
  m_L_isEdge_b147 k30 a0 a1 i2 i3 i4 i6 0 ws
set_option maxRecDepth 100000 in
set_option maxHeartbeats 4000000 in
theorem jm_L_isEdge_b146 {n0 : Nat} {rr : Int32} {ws' : LWd} {k30 : Nat → Nat → Int32 → Int32 → Int32 → Int32 → Int32 → LWd → Option (Int32 × LWd)} (hk30 : ∀ (a0 : Nat) (a1 : Nat) (i2 : Int32) (i3 : Int32) (i4 : Int32) (i5 : Int32) (i6 : Int32) (ws : LWd), k30 a0 a1 i2 i3 i4 i5 i6 ws = some (rr, ws') → JG (.inl false) cL_isEdge 9 RL wsL_isEdge (some .boolean) "isEdge" 0 0 0 n0 (.inl (some (.int rr)), ws') 30 [some (.ref a0), some (.ref a1), some (.int i2), some (.int i3), some (.int i4), some (.int i5), some (.int i6), none, none] [] ws 0 0) (a0 : Nat) (a1 : Nat) (i2 : Int32) (i3 : Int32) (i4 : Int32) (i6 : Int32) (ws : LWd) (h : m_L_isEdge_b146 k30 a0 a1 i2 i3 i4 i6 ws = some (rr, ws')) : JG (.inl false) cL_isEdge 9 RL wsL_isEdge (some .boolean) "isEdge" 0 0 0 n0 (.inl (some (.int rr)), ws') 146 [some (.ref a0), some (.ref a1), some (.int i2), some (.int i3), some (.int i4), none, some (.int i6), none, none] [] ws 0 0 := by
  unfold m_L_isEdge_b146 at h
  refine j_iconst (pc := 146) dL_isEdge_146 (v := 0) (by decide) ?_
  exact jm_L_isEdge_b147 (hk30 := hk30) _ _ _ _ _ _ _ ws h
def m_L_isEdge_l30 : Nat → Nat → Nat → Int32 → Int32 → Int32 → Int32 → Int32 → LWd → Option (Int32 × LWd)
  | 0, _, _, _, _, _, _, _, _ => none
  | fu + 1, a0, a1, i2, i3, i4, i5, i6, ws =>
    if 6 ≤ i6 then
      retZ i5 ws
    else
      if i5 = 0 then
        retZ i5 ws
      else
        (aI ws a0 i4).bind fun x3 =>
        (aI ws a0 i3).bind fun x5 =>
        (aI ws a1 i6).bind fun x7 =>
        (aI ws a1 i3).bind fun x9 =>
        (aI ws a1 i4).bind fun x11 =>
        (aI ws a1 i3).bind fun x13 =>
        (aI ws a0 i6).bind fun x15 =>
        (aI ws a0 i3).bind fun x17 =>
        (aI ws a0 i6).bind fun x19 =>
        (aI ws a0 i3).bind fun x21 =>
        (aI ws a0 i6).bind fun x23 =>
        (aI ws a0 i4).bind fun x25 =>
        (aI ws a1 i6).bind fun x27 =>
        (aI ws a1 i3).bind fun x29 =>
        (aI ws a1 i6).bind fun x31 =>
        (aI ws a1 i4).bind fun x33 =>
        if ((i2 >>> (i6 &&& 31)) &&& 1) = 0 then
          m_L_isEdge_b142 (fun z0 z1 z2 z3 z4 z5 z6 w => m_L_isEdge_l30 fu z0 z1 z2 z3 z4 z5 z6 w) a0 a1 i2 i3 i4 i6 ws
        else
          if 0 < (((x3 - x5) * (x7 - x9)) - ((x11 - x13) * (x15 - x17))) then
            m_L_isEdge_b142 (fun z0 z1 z2 z3 z4 z5 z6 w => m_L_isEdge_l30 fu z0 z1 z2 z3 z4 z5 z6 w) a0 a1 i2 i3 i4 i6 ws
          else
            if (((x3 - x5) * (x7 - x9)) - ((x11 - x13) * (x15 - x17))) = 0 then
              if 0 < (((x19 - x21) * (x23 - x25)) + ((x27 - x29) * (x31 - x33))) then
                m_L_isEdge_b146 (fun z0 z1 z2 z3 z4 z5 z6 w => m_L_isEdge_l30 fu z0 z1 z2 z3 z4 z5 z6 w) a0 a1 i2 i3 i4 i6 ws
              else
                m_L_isEdge_b142 (fun z0 z1 z2 z3 z4 z5 z6 w => m_L_isEdge_l30 fu z0 z1 z2 z3 z4 z5 z6 w) a0 a1 i2 i3 i4 i6 ws
            else
              m_L_isEdge_b146 (fun z0 z1 z2 z3 z4 z5 z6 w => m_L_isEdge_l30 fu z0 z1 z2 z3 z4 z5 z6 w) a0 a1 i2 i3 i4 i6 ws
set_option maxRecDepth 100000 in
set_option maxHeartbeats 4000000 in
theorem jm_L_isEdge_l30 {n0 : Nat} {rr : Int32} {ws' : LWd} : ∀ (fu : Nat) (a0 : Nat) (a1 : Nat) (i2 : Int32) (i3 : Int32) (i4 : Int32) (i5 : Int32) (i6 : Int32) (ws : LWd), m_L_isEdge_l30 fu a0 a1 i2 i3 i4 i5 i6 ws = some (rr, ws') → JG (.inl false) cL_isEdge 9 RL wsL_isEdge (some .boolean) "isEdge" 0 0 0 n0 (.inl (some (.int rr)), ws') 30 [some (.ref a0), some (.ref a1), some (.int i2), some (.int i3), some (.int i4), some (.int i5), some (.int i6), none, none] [] ws 0 0 := by
  intro fu
  induction fu with
  | zero => intro a0 a1 i2 i3 i4 i5 i6 ws h; first | (cases h; done) | (rw [m_L_isEdge_l30] at h; cases h)
  | succ fu ih =>
    intro a0 a1 i2 i3 i4 i5 i6 ws h
    rw [m_L_isEdge_l30] at h
    refine j_iload (pc := 30) dL_isEdge_30 rfl ?_
    refine j_bipush (pc := 32) dL_isEdge_32 (v := 6) (by decide) ?_
    refine j_icmp_ge (pc := 34) (tgt := 155) dL_isEdge_34 (by decide) (fun c1 => ?_) (fun c1 => ?_)
    · rw [if_pos c1] at h
      refine j_iload (pc := 155) dL_isEdge_155 rfl ?_
      exact j_zret (pc := 157) rfl dL_isEdge_157 (by decide) (by decide) h rfl rfl
    · rw [if_neg c1] at h
      refine j_iload (pc := 37) dL_isEdge_37 rfl ?_
      refine j_if_eq (pc := 39) (tgt := 155) dL_isEdge_39 (by decide) (fun c2 => ?_) (fun c2 => ?_)
      · rw [if_pos c2] at h
        refine j_iload (pc := 155) dL_isEdge_155 rfl ?_
        exact j_zret (pc := 157) rfl dL_isEdge_157 (by decide) (by decide) h rfl rfl
      · rw [if_neg c2] at h
        refine j_aload_n (pc := 42) dL_isEdge_42 rfl ?_
        refine j_iload (pc := 43) dL_isEdge_43 rfl ?_
        obtain ⟨x3, e4, h⟩ := obS h
        refine j_iald (pc := 45) dL_isEdge_45 e4 ?_
        refine j_aload_n (pc := 46) dL_isEdge_46 rfl ?_
        refine j_iload_n (pc := 47) dL_isEdge_47 rfl ?_
        obtain ⟨x5, e6, h⟩ := obS h
        refine j_iald (pc := 48) dL_isEdge_48 e6 ?_
        refine j_isub (pc := 49) dL_isEdge_49 ?_
        refine j_aload_n (pc := 50) dL_isEdge_50 rfl ?_
        refine j_iload (pc := 51) dL_isEdge_51 rfl ?_
        obtain ⟨x7, e8, h⟩ := obS h
        refine j_iald (pc := 53) dL_isEdge_53 e8 ?_
        refine j_aload_n (pc := 54) dL_isEdge_54 rfl ?_
        refine j_iload_n (pc := 55) dL_isEdge_55 rfl ?_
        obtain ⟨x9, e10, h⟩ := obS h
        refine j_iald (pc := 56) dL_isEdge_56 e10 ?_
        refine j_isub (pc := 57) dL_isEdge_57 ?_
        refine j_imul (pc := 58) dL_isEdge_58 ?_
        refine j_aload_n (pc := 59) dL_isEdge_59 rfl ?_
        refine j_iload (pc := 60) dL_isEdge_60 rfl ?_
        obtain ⟨x11, e12, h⟩ := obS h
        refine j_iald (pc := 62) dL_isEdge_62 e12 ?_
        refine j_aload_n (pc := 63) dL_isEdge_63 rfl ?_
        refine j_iload_n (pc := 64) dL_isEdge_64 rfl ?_
        obtain ⟨x13, e14, h⟩ := obS h
        refine j_iald (pc := 65) dL_isEdge_65 e14 ?_
        refine j_isub (pc := 66) dL_isEdge_66 ?_
        refine j_aload_n (pc := 67) dL_isEdge_67 rfl ?_
        refine j_iload (pc := 68) dL_isEdge_68 rfl ?_
        obtain ⟨x15, e16, h⟩ := obS h
        refine j_iald (pc := 70) dL_isEdge_70 e16 ?_
        refine j_aload_n (pc := 71) dL_isEdge_71 rfl ?_
        refine j_iload_n (pc := 72) dL_isEdge_72 rfl ?_
        obtain ⟨x17, e18, h⟩ := obS h
        refine j_iald (pc := 73) dL_isEdge_73 e18 ?_
        refine j_isub (pc := 74) dL_isEdge_74 ?_
        refine j_imul (pc := 75) dL_isEdge_75 ?_
        refine j_isub (pc := 76) dL_isEdge_76 ?_
        refine j_istore_7 (pc := 77) dL_isEdge_77 (by decide) rfl ?_
        refine j_aload_n (pc := 79) dL_isEdge_79 rfl ?_
        refine j_iload (pc := 80) dL_isEdge_80 rfl ?_
        obtain ⟨x19, e20, h⟩ := obS h
        refine j_iald (pc := 82) dL_isEdge_82 e20 ?_
        refine j_aload_n (pc := 83) dL_isEdge_83 rfl ?_
        refine j_iload_n (pc := 84) dL_isEdge_84 rfl ?_
        obtain ⟨x21, e22, h⟩ := obS h
        refine j_iald (pc := 85) dL_isEdge_85 e22 ?_
        refine j_isub (pc := 86) dL_isEdge_86 ?_
        refine j_aload_n (pc := 87) dL_isEdge_87 rfl ?_
        refine j_iload (pc := 88) dL_isEdge_88 rfl ?_
        obtain ⟨x23, e24, h⟩ := obS h
        refine j_iald (pc := 90) dL_isEdge_90 e24 ?_
        refine j_aload_n (pc := 91) dL_isEdge_91 rfl ?_
        refine j_iload (pc := 92) dL_isEdge_92 rfl ?_
        obtain ⟨x25, e26, h⟩ := obS h
        refine j_iald (pc := 94) dL_isEdge_94 e26 ?_
        refine j_isub (pc := 95) dL_isEdge_95 ?_
        refine j_imul (pc := 96) dL_isEdge_96 ?_
        refine j_aload_n (pc := 97) dL_isEdge_97 rfl ?_
        refine j_iload (pc := 98) dL_isEdge_98 rfl ?_
        obtain ⟨x27, e28, h⟩ := obS h
        refine j_iald (pc := 100) dL_isEdge_100 e28 ?_
        refine j_aload_n (pc := 101) dL_isEdge_101 rfl ?_
        refine j_iload_n (pc := 102) dL_isEdge_102 rfl ?_
        obtain ⟨x29, e30, h⟩ := obS h
        refine j_iald (pc := 103) dL_isEdge_103 e30 ?_
        refine j_isub (pc := 104) dL_isEdge_104 ?_
        refine j_aload_n (pc := 105) dL_isEdge_105 rfl ?_
        refine j_iload (pc := 106) dL_isEdge_106 rfl ?_
        obtain ⟨x31, e32, h⟩ := obS h
        refine j_iald (pc := 108) dL_isEdge_108 e32 ?_
        refine j_aload_n (pc := 109) dL_isEdge_109 rfl ?_
        refine j_iload (pc := 110) dL_isEdge_110 rfl ?_
        obtain ⟨x33, e34, h⟩ := obS h
        refine j_iald (pc := 112) dL_isEdge_112 e34 ?_
        refine j_isub (pc := 113) dL_isEdge_113 ?_
        refine j_imul (pc := 114) dL_isEdge_114 ?_
        refine j_iadd (pc := 115) dL_isEdge_115 ?_
        refine j_istore_8 (pc := 116) dL_isEdge_116 (by decide) rfl ?_
        refine j_iload_n (pc := 118) dL_isEdge_118 rfl ?_
        refine j_iload (pc := 119) dL_isEdge_119 rfl ?_
        refine j_ishr (pc := 121) dL_isEdge_121 ?_
        refine j_iconst (pc := 122) dL_isEdge_122 (v := 1) (by decide) ?_
        refine j_iand (pc := 123) dL_isEdge_123 ?_
        refine j_if_eq (pc := 124) (tgt := 142) dL_isEdge_124 (by decide) (fun c35 => ?_) (fun c35 => ?_)
        · rw [if_pos c35] at h
          refine j_mask [true, true, true, true, true, false, true, false, false] ?_
          exact jm_L_isEdge_b142 (hk30 := ih) _ _ _ _ _ _ ws h
        · rw [if_neg c35] at h
          refine j_iload (pc := 127) dL_isEdge_127 rfl ?_
          refine j_if_gt (pc := 129) (tgt := 142) dL_isEdge_129 (by decide) (fun c36 => ?_) (fun c36 => ?_)
          · rw [if_pos c36] at h
            refine j_mask [true, true, true, true, true, false, true, false, false] ?_
            exact jm_L_isEdge_b142 (hk30 := ih) _ _ _ _ _ _ ws h
          · rw [if_neg c36] at h
            refine j_iload (pc := 132) dL_isEdge_132 rfl ?_
            refine j_if_ne (pc := 134) (tgt := 146) dL_isEdge_134 (by decide) (fun c37 => ?_) (fun c37 => ?_)
            · rw [if_neg c37] at h
              refine j_mask [true, true, true, true, true, false, true, false, false] ?_
              exact jm_L_isEdge_b146 (hk30 := ih) _ _ _ _ _ _ ws h
            · rw [if_pos c37] at h
              refine j_iload (pc := 137) dL_isEdge_137 rfl ?_
              refine j_if_gt (pc := 139) (tgt := 146) dL_isEdge_139 (by decide) (fun c38 => ?_) (fun c38 => ?_)
              · rw [if_pos c38] at h
                refine j_mask [true, true, true, true, true, false, true, false, false] ?_
                exact jm_L_isEdge_b146 (hk30 := ih) _ _ _ _ _ _ ws h
              · rw [if_neg c38] at h
                refine j_mask [true, true, true, true, true, false, true, false, false] ?_
                exact jm_L_isEdge_b142 (hk30 := ih) _ _ _ _ _ _ ws h
def m_L_isEdge_b25 (a0 : Nat) (a1 : Nat) (i2 : Int32) (i3 : Int32) (i4 : Int32) (s0 : Int32) (ws : LWd) : Option (Int32 × LWd) :=
  m_L_isEdge_l30 FU a0 a1 i2 i3 i4 s0 0 ws
set_option maxRecDepth 100000 in
set_option maxHeartbeats 4000000 in
theorem jm_L_isEdge_b25 {n0 : Nat} {rr : Int32} {ws' : LWd} (a0 : Nat) (a1 : Nat) (i2 : Int32) (i3 : Int32) (i4 : Int32) (s0 : Int32) (ws : LWd) (h : m_L_isEdge_b25 a0 a1 i2 i3 i4 s0 ws = some (rr, ws')) : JG (.inl false) cL_isEdge 9 RL wsL_isEdge (some .boolean) "isEdge" 0 0 0 n0 (.inl (some (.int rr)), ws') 25 [some (.ref a0), some (.ref a1), some (.int i2), some (.int i3), some (.int i4), none, none, none, none] [.int s0] ws 0 0 := by
  unfold m_L_isEdge_b25 at h
  refine j_istore_5 (pc := 25) dL_isEdge_25 (by decide) rfl ?_
  refine j_iconst (pc := 27) dL_isEdge_27 (v := 0) (by decide) ?_
  refine j_istore_6 (pc := 28) dL_isEdge_28 (by decide) rfl ?_
  exact jm_L_isEdge_l30 FU _ _ _ _ _ _ _ ws h
def m_L_isEdge_b24 (a0 : Nat) (a1 : Nat) (i2 : Int32) (i3 : Int32) (i4 : Int32) (ws : LWd) : Option (Int32 × LWd) :=
  m_L_isEdge_b25 a0 a1 i2 i3 i4 0 ws
set_option maxRecDepth 100000 in
set_option maxHeartbeats 4000000 in
theorem jm_L_isEdge_b24 {n0 : Nat} {rr : Int32} {ws' : LWd} (a0 : Nat) (a1 : Nat) (i2 : Int32) (i3 : Int32) (i4 : Int32) (ws : LWd) (h : m_L_isEdge_b24 a0 a1 i2 i3 i4 ws = some (rr, ws')) : JG (.inl false) cL_isEdge 9 RL wsL_isEdge (some .boolean) "isEdge" 0 0 0 n0 (.inl (some (.int rr)), ws') 24 [some (.ref a0), some (.ref a1), some (.int i2), some (.int i3), some (.int i4), none, none, none, none] [] ws 0 0 := by
  unfold m_L_isEdge_b24 at h
  refine j_iconst (pc := 24) dL_isEdge_24 (v := 0) (by decide) ?_
  exact jm_L_isEdge_b25 _ _ _ _ _ _ ws h
def m_L_isEdge (a0 : Nat) (a1 : Nat) (i2 : Int32) (i3 : Int32) (i4 : Int32) (ws : LWd) : Option (Int32 × LWd) :=
  if i3 = i4 then
    m_L_isEdge_b24 a0 a1 i2 i3 i4 ws
  else
    if (((i2 >>> (i3 &&& 31)) &&& (i2 >>> (i4 &&& 31))) &&& 1) = 1 then
      m_L_isEdge_b25 a0 a1 i2 i3 i4 1 ws
    else
      m_L_isEdge_b24 a0 a1 i2 i3 i4 ws
set_option maxRecDepth 100000 in
set_option maxHeartbeats 4000000 in
theorem s_L_isEdge {a0 : Nat} {a1 : Nat} {i2 : Int32} {i3 : Int32} {i4 : Int32} {ws : LWd} {rr : Int32} {ws' : LWd} (h : m_L_isEdge a0 a1 i2 i3 i4 ws = some (rr, ws')) : jSp yL_isEdge wsL_isEdge 0 0 0 [.ref a0, .ref a1, .int i2, .int i3, .int i4] ws (.inl (some (.int rr)), ws') := by
  unfold m_L_isEdge at h
  refine j_entry (ret := (some .boolean)) (nm := "isEdge") (own := RL) pl_L rfl rfl rfl (jcats (by rfl)) (Nat.le_of_ble_eq_true rfl) ?_
  show JG (.inl false) cL_isEdge 9 RL wsL_isEdge (some .boolean) "isEdge" 0 0 0 ws.length (.inl (some (.int rr)), ws') 0 [some (.ref a0), some (.ref a1), some (.int i2), some (.int i3), some (.int i4), none, none, none, none] [] ws 0 0
  refine j_iload_n (pc := 0) dL_isEdge_0 rfl ?_
  refine j_iload (pc := 1) dL_isEdge_1 rfl ?_
  refine j_icmp_eq (pc := 3) (tgt := 24) dL_isEdge_3 (by decide) (fun c1 => ?_) (fun c1 => ?_)
  · rw [if_pos c1] at h
    exact jm_L_isEdge_b24 _ _ _ _ _ ws h
  · rw [if_neg c1] at h
    refine j_iload_n (pc := 6) dL_isEdge_6 rfl ?_
    refine j_iload_n (pc := 7) dL_isEdge_7 rfl ?_
    refine j_ishr (pc := 8) dL_isEdge_8 ?_
    refine j_iload_n (pc := 9) dL_isEdge_9 rfl ?_
    refine j_iload (pc := 10) dL_isEdge_10 rfl ?_
    refine j_ishr (pc := 12) dL_isEdge_12 ?_
    refine j_iand (pc := 13) dL_isEdge_13 ?_
    refine j_iconst (pc := 14) dL_isEdge_14 (v := 1) (by decide) ?_
    refine j_iand (pc := 15) dL_isEdge_15 ?_
    refine j_iconst (pc := 16) dL_isEdge_16 (v := 1) (by decide) ?_
    refine j_icmp_ne (pc := 17) (tgt := 24) dL_isEdge_17 (by decide) (fun c2 => ?_) (fun c2 => ?_)
    · rw [if_neg c2] at h
      exact jm_L_isEdge_b24 _ _ _ _ _ ws h
    · rw [if_pos c2] at h
      refine j_iconst (pc := 20) dL_isEdge_20 (v := 1) (by decide) ?_
      refine j_goto (pc := 21) (tgt := 25) dL_isEdge_21 (by decide) ?_
      exact jm_L_isEdge_b25 _ _ _ _ _ _ ws h
def wsL_isSo : List Cond := Cond.code yL_isSo cL_isSo 30 (some .boolean) :: jW
def m_L_isSo_b1666 (a0 : Nat) (a8 : Nat) (i13 : Int32) (ws : LWd) : Option (Int32 × LWd) :=
  if i13 = 0 then
    some (0, ws)
  else
    (aI ws a8 11).bind fun x2 =>
    bn2 (calSR ws (m_L_does a0 12 x2 0 0 0 0 ws)) fun x6 w4 =>
    if x6 = ((-3000000)) then
      (aI w4 a8 7).bind fun x8 =>
      bn2 (calSR w4 (m_L_does a0 14 x8 0 0 0 0 w4)) fun x12 w10 =>
      if x12 = ((-3000000)) then
        some (1, w10)
      else
        some (0, w10)
    else
      some (0, w4)
set_option maxRecDepth 100000 in
set_option maxHeartbeats 4000000 in
theorem jm_L_isSo_b1666 {n0 : Nat} {rr : Int32} {ws' : LWd} (a0 : Nat) (a8 : Nat) (i13 : Int32) (ws : LWd) (h : m_L_isSo_b1666 a0 a8 i13 ws = some (rr, ws')) : JG (.inr none) cL_isSo 30 RL wsL_isSo (some .boolean) "isSo" 11 2 12 n0 (.inl (some (.int rr)), ws') 1666 [some (.ref a0), none, none, none, none, none, none, none, some (.ref a8), none, none, none, none, some (.int i13), none, none, none, none, none, none, none, none, none, none, none, none, none, none, none, none] [] ws 0 0 := by
  unfold m_L_isSo_b1666 at h
  refine j_iload (pc := 1666) dL_isSo_1666 rfl ?_
  refine j_if_eq (pc := 1668) (tgt := 1715) dL_isSo_1668 (by decide) (fun c1 => ?_) (fun c1 => ?_)
  · rw [if_pos c1] at h
    refine j_iconst (pc := 1715) dL_isSo_1715 (v := 0) (by decide) ?_
    obtain ⟨rfl, rfl⟩ := jretS h
    exact j_zretL (pc := 1716) (by decide) rfl dL_isSo_1716 (by decide) (by decide) rfl
  · rw [if_neg c1] at h
    refine j_aload_n (pc := 1671) dL_isSo_1671 rfl ?_
    refine j_bipush (pc := 1672) dL_isSo_1672 (v := 12) (by decide) ?_
    refine j_aload (pc := 1674) dL_isSo_1674 rfl ?_
    refine j_bipush (pc := 1676) dL_isSo_1676 (v := 11) (by decide) ?_
    obtain ⟨x2, e3, h⟩ := obS h
    refine j_iald (pc := 1678) dL_isSo_1678 e3 ?_
    refine j_iconst (pc := 1679) dL_isSo_1679 (v := 0) (by decide) ?_
    refine j_iconst (pc := 1680) dL_isSo_1680 (v := 0) (by decide) ?_
    refine j_iconst (pc := 1681) dL_isSo_1681 (v := 0) (by decide) ?_
    refine j_iconst (pc := 1682) dL_isSo_1682 (v := 0) (by decide) ?_
    obtain ⟨x6, w4, e5, h⟩ := obS2 h
    have ge5 := calSR_of e5
    refine j_callSW (pc := 1683) (As := [.ref a0, .int 12, .int x2, .int 0, .int 0, .int 0, .int 0]) (k' := 1) (n' := 6) dL_isSo_1683 (fun q h => by cases h) (s_L_does ge5.1) (jgS lw_657 lw_658 lw_597 lw_656) rfl hy_L_does rfl (by decide) (by decide) (Nat.le_of_ble_eq_true rfl) (by decide) (by decide) (by decide) (by decide) ge5.2 ?_
    refine j_ldc (pc := 1686) dL_isSo_1686 (v := (-3000000)) (jwm lw_526) ?_
    refine j_icmp_ne (pc := 1688) (tgt := 1715) dL_isSo_1688 (by decide) (fun c7 => ?_) (fun c7 => ?_)
    · rw [if_neg c7] at h
      refine j_iconst (pc := 1715) dL_isSo_1715 (v := 0) (by decide) ?_
      obtain ⟨rfl, rfl⟩ := jretS h
      exact j_zretL (pc := 1716) (by decide) rfl dL_isSo_1716 (by decide) (by decide) rfl
    · rw [if_pos c7] at h
      refine j_aload_n (pc := 1691) dL_isSo_1691 rfl ?_
      refine j_bipush (pc := 1692) dL_isSo_1692 (v := 14) (by decide) ?_
      refine j_aload (pc := 1694) dL_isSo_1694 rfl ?_
      refine j_bipush (pc := 1696) dL_isSo_1696 (v := 7) (by decide) ?_
      obtain ⟨x8, e9, h⟩ := obS h
      refine j_iald (pc := 1698) dL_isSo_1698 e9 ?_
      refine j_iconst (pc := 1699) dL_isSo_1699 (v := 0) (by decide) ?_
      refine j_iconst (pc := 1700) dL_isSo_1700 (v := 0) (by decide) ?_
      refine j_iconst (pc := 1701) dL_isSo_1701 (v := 0) (by decide) ?_
      refine j_iconst (pc := 1702) dL_isSo_1702 (v := 0) (by decide) ?_
      obtain ⟨x12, w10, e11, h⟩ := obS2 h
      have ge11 := calSR_of e11
      refine j_callSW (pc := 1703) (As := [.ref a0, .int 14, .int x8, .int 0, .int 0, .int 0, .int 0]) (k' := 2) (n' := 12) dL_isSo_1703 (fun q h => by cases h) (s_L_does ge11.1) (jgS lw_657 lw_658 lw_597 lw_656) rfl hy_L_does rfl (by decide) (by decide) (Nat.le_of_ble_eq_true rfl) (by decide) (by decide) (by decide) (by decide) ge11.2 ?_
      refine j_ldc (pc := 1706) dL_isSo_1706 (v := (-3000000)) (jwm lw_526) ?_
      refine j_icmp_ne (pc := 1708) (tgt := 1715) dL_isSo_1708 (by decide) (fun c13 => ?_) (fun c13 => ?_)
      · rw [if_neg c13] at h
        refine j_iconst (pc := 1715) dL_isSo_1715 (v := 0) (by decide) ?_
        obtain ⟨rfl, rfl⟩ := jretS h
        exact j_zretL (pc := 1716) (by decide) rfl dL_isSo_1716 (by decide) (by decide) rfl
      · rw [if_pos c13] at h
        refine j_iconst (pc := 1711) dL_isSo_1711 (v := 1) (by decide) ?_
        refine j_goto (pc := 1712) (tgt := 1716) dL_isSo_1712 (by decide) ?_
        obtain ⟨rfl, rfl⟩ := jretS h
        exact j_zretL (pc := 1716) (by decide) rfl dL_isSo_1716 (by decide) (by decide) rfl
def m_L_isSo_b1664 (a0 : Nat) (a8 : Nat) (s0 : Int32) (ws : LWd) : Option (Int32 × LWd) :=
  m_L_isSo_b1666 a0 a8 s0 ws
set_option maxRecDepth 100000 in
set_option maxHeartbeats 4000000 in
theorem jm_L_isSo_b1664 {n0 : Nat} {rr : Int32} {ws' : LWd} (a0 : Nat) (a8 : Nat) (s0 : Int32) (ws : LWd) (h : m_L_isSo_b1664 a0 a8 s0 ws = some (rr, ws')) : JG (.inr none) cL_isSo 30 RL wsL_isSo (some .boolean) "isSo" 11 2 12 n0 (.inl (some (.int rr)), ws') 1664 [some (.ref a0), none, none, none, none, none, none, none, some (.ref a8), none, none, none, none, none, none, none, none, none, none, none, none, none, none, none, none, none, none, none, none, none] [.int s0] ws 0 0 := by
  unfold m_L_isSo_b1664 at h
  refine j_istore_13 (pc := 1664) dL_isSo_1664 (by decide) rfl ?_
  exact jm_L_isSo_b1666 _ _ _ ws h
def m_L_isSo_b1663 (a0 : Nat) (a8 : Nat) (ws : LWd) : Option (Int32 × LWd) :=
  m_L_isSo_b1664 a0 a8 0 ws
set_option maxRecDepth 100000 in
set_option maxHeartbeats 4000000 in
theorem jm_L_isSo_b1663 {n0 : Nat} {rr : Int32} {ws' : LWd} (a0 : Nat) (a8 : Nat) (ws : LWd) (h : m_L_isSo_b1663 a0 a8 ws = some (rr, ws')) : JG (.inr none) cL_isSo 30 RL wsL_isSo (some .boolean) "isSo" 11 2 12 n0 (.inl (some (.int rr)), ws') 1663 [some (.ref a0), none, none, none, none, none, none, none, some (.ref a8), none, none, none, none, none, none, none, none, none, none, none, none, none, none, none, none, none, none, none, none, none] [] ws 0 0 := by
  unfold m_L_isSo_b1663 at h
  refine j_iconst (pc := 1663) dL_isSo_1663 (v := 0) (by decide) ?_
  exact jm_L_isSo_b1664 _ _ _ ws h
def m_L_isSo_b1659 (a0 : Nat) (a8 : Nat) (ws : LWd) : Option (Int32 × LWd) :=
  m_L_isSo_b1664 a0 a8 1 ws
set_option maxRecDepth 100000 in
set_option maxHeartbeats 4000000 in
theorem jm_L_isSo_b1659 {n0 : Nat} {rr : Int32} {ws' : LWd} (a0 : Nat) (a8 : Nat) (ws : LWd) (h : m_L_isSo_b1659 a0 a8 ws = some (rr, ws')) : JG (.inr none) cL_isSo 30 RL wsL_isSo (some .boolean) "isSo" 11 2 12 n0 (.inl (some (.int rr)), ws') 1659 [some (.ref a0), none, none, none, none, none, none, none, some (.ref a8), none, none, none, none, none, none, none, none, none, none, none, none, none, none, none, none, none, none, none, none, none] [] ws 0 0 := by
  unfold m_L_isSo_b1659 at h
  refine j_iconst (pc := 1659) dL_isSo_1659 (v := 1) (by decide) ?_
  refine j_goto (pc := 1660) (tgt := 1664) dL_isSo_1660 (by decide) ?_
  exact jm_L_isSo_b1664 _ _ _ ws h
def m_L_isSo_b1647 (a0 : Nat) (a8 : Nat) (s0 : Int32) (s1 : Int32) (ws : LWd) : Option (Int32 × LWd) :=
  if s0 = s1 then
    m_L_isSo_b1659 a0 a8 ws
  else
    m_L_isSo_b1663 a0 a8 ws
set_option maxRecDepth 100000 in
set_option maxHeartbeats 4000000 in
theorem jm_L_isSo_b1647 {n0 : Nat} {rr : Int32} {ws' : LWd} (a0 : Nat) (a8 : Nat) (s0 : Int32) (s1 : Int32) (ws : LWd) (h : m_L_isSo_b1647 a0 a8 s0 s1 ws = some (rr, ws')) : JG (.inr none) cL_isSo 30 RL wsL_isSo (some .boolean) "isSo" 11 2 12 n0 (.inl (some (.int rr)), ws') 1647 [some (.ref a0), none, none, none, none, none, none, none, some (.ref a8), none, none, none, none, none, none, none, none, none, none, none, none, none, none, none, none, none, none, none, none, none] [.int s1, .int s0] ws 0 0 := by
  unfold m_L_isSo_b1647 at h
  refine j_icmp_ne (pc := 1647) (tgt := 1663) dL_isSo_1647 (by decide) (fun c1 => ?_) (fun c1 => ?_)
  · rw [if_neg c1] at h
    exact jm_L_isSo_b1663 _ _ ws h
  · rw [if_pos c1] at h
    refine j_goto (pc := 1650) (tgt := 1659) dL_isSo_1650 (by decide) ?_
    exact jm_L_isSo_b1659 _ _ ws h
def m_L_isSo_b1600 (a0 : Nat) (a8 : Nat) (i21 : Int32) (i22 : Int32) (i23 : Int32) (i24 : Int32) (s0 : Int32) (s1 : Int32) (ws : LWd) : Option (Int32 × LWd) :=
  if s0 = s1 then
    (aI ws a8 1).bind fun x2 =>
    (aI ws a8 2).bind fun x4 =>
    bn2 (calSR ws (nthr (m_X10_fewestAnew a0 (x2 + i21) (x4 + i22) ws))) fun x8 w6 =>
    if x8 = i23 then
      (aI w6 a8 0).bind fun x10 =>
      if x10 = 1 then
        if i23 = 1 then
          m_L_isSo_b1647 a0 a8 i24 1 w6
        else
          m_L_isSo_b1647 a0 a8 i24 0 w6
      else
        if i23 = ((-1)) then
          m_L_isSo_b1659 a0 a8 w6
        else
          m_L_isSo_b1663 a0 a8 w6
    else
      m_L_isSo_b1663 a0 a8 w6
  else
    m_L_isSo_b1663 a0 a8 ws
set_option maxRecDepth 100000 in
set_option maxHeartbeats 4000000 in
theorem jm_L_isSo_b1600 {n0 : Nat} {rr : Int32} {ws' : LWd} (a0 : Nat) (a8 : Nat) (i21 : Int32) (i22 : Int32) (i23 : Int32) (i24 : Int32) (s0 : Int32) (s1 : Int32) (ws : LWd) (h : m_L_isSo_b1600 a0 a8 i21 i22 i23 i24 s0 s1 ws = some (rr, ws')) : JG (.inr none) cL_isSo 30 RL wsL_isSo (some .boolean) "isSo" 11 2 12 n0 (.inl (some (.int rr)), ws') 1600 [some (.ref a0), none, none, none, none, none, none, none, some (.ref a8), none, none, none, none, none, none, none, none, none, none, none, none, some (.int i21), some (.int i22), some (.int i23), some (.int i24), none, none, none, none, none] [.int s1, .int s0] ws 0 0 := by
  unfold m_L_isSo_b1600 at h
  refine j_icmp_ne (pc := 1600) (tgt := 1663) dL_isSo_1600 (by decide) (fun c1 => ?_) (fun c1 => ?_)
  · rw [if_neg c1] at h
    refine j_mask [true, false, false, false, false, false, false, false, true, false, false, false, false, false, false, false, false, false, false, false, false, false, false, false, false, false, false, false, false, false] ?_
    exact jm_L_isSo_b1663 _ _ ws h
  · rw [if_pos c1] at h
    refine j_aload_n (pc := 1603) dL_isSo_1603 rfl ?_
    refine j_aload (pc := 1604) dL_isSo_1604 rfl ?_
    refine j_iconst (pc := 1606) dL_isSo_1606 (v := 1) (by decide) ?_
    obtain ⟨x2, e3, h⟩ := obS h
    refine j_iald (pc := 1607) dL_isSo_1607 e3 ?_
    refine j_iload (pc := 1608) dL_isSo_1608 rfl ?_
    refine j_iadd (pc := 1610) dL_isSo_1610 ?_
    refine j_aload (pc := 1611) dL_isSo_1611 rfl ?_
    refine j_iconst (pc := 1613) dL_isSo_1613 (v := 2) (by decide) ?_
    obtain ⟨x4, e5, h⟩ := obS h
    refine j_iald (pc := 1614) dL_isSo_1614 e5 ?_
    refine j_iload (pc := 1615) dL_isSo_1615 rfl ?_
    refine j_iadd (pc := 1617) dL_isSo_1617 ?_
    obtain ⟨x8, w6, e7, h⟩ := obS2 h
    have ge7 := calSR_of e7
    refine j_callV_g (pc := 1618) (As := [.int (x2 + i21), .int (x4 + i22)]) (k' := 0) (n' := 0) dL_isSo_1618 (sn_X10_fewestAnew (nthr_of ge7.1)) (jgV lw_660 lw_661 lw_662 lw_147 lw_659) rfl hv_X10_fewestAnew rfl (r_X10_fewestAnew (nthr_of ge7.1)) rfl (by decide) (by decide) (Nat.le_of_ble_eq_true rfl) (by decide) (by decide) (by decide) (by decide) (Or.inl ge7.2) ?_
    refine j_iload (pc := 1621) dL_isSo_1621 rfl ?_
    refine j_icmp_ne (pc := 1623) (tgt := 1663) dL_isSo_1623 (by decide) (fun c9 => ?_) (fun c9 => ?_)
    · rw [if_neg c9] at h
      refine j_mask [true, false, false, false, false, false, false, false, true, false, false, false, false, false, false, false, false, false, false, false, false, false, false, false, false, false, false, false, false, false] ?_
      exact jm_L_isSo_b1663 _ _ w6 h
    · rw [if_pos c9] at h
      refine j_aload (pc := 1626) dL_isSo_1626 rfl ?_
      refine j_iconst (pc := 1628) dL_isSo_1628 (v := 0) (by decide) ?_
      obtain ⟨x10, e11, h⟩ := obS h
      refine j_iald (pc := 1629) dL_isSo_1629 e11 ?_
      refine j_iconst (pc := 1630) dL_isSo_1630 (v := 1) (by decide) ?_
      refine j_icmp_ne (pc := 1631) (tgt := 1653) dL_isSo_1631 (by decide) (fun c12 => ?_) (fun c12 => ?_)
      · rw [if_neg c12] at h
        refine j_iload (pc := 1653) dL_isSo_1653 rfl ?_
        refine j_iconst (pc := 1655) dL_isSo_1655 (v := (-1)) (by decide) ?_
        refine j_icmp_ne (pc := 1656) (tgt := 1663) dL_isSo_1656 (by decide) (fun c13 => ?_) (fun c13 => ?_)
        · rw [if_neg c13] at h
          refine j_mask [true, false, false, false, false, false, false, false, true, false, false, false, false, false, false, false, false, false, false, false, false, false, false, false, false, false, false, false, false, false] ?_
          exact jm_L_isSo_b1663 _ _ w6 h
        · rw [if_pos c13] at h
          refine j_mask [true, false, false, false, false, false, false, false, true, false, false, false, false, false, false, false, false, false, false, false, false, false, false, false, false, false, false, false, false, false] ?_
          exact jm_L_isSo_b1659 _ _ w6 h
      · rw [if_pos c12] at h
        refine j_iload (pc := 1634) dL_isSo_1634 rfl ?_
        refine j_iload (pc := 1636) dL_isSo_1636 rfl ?_
        refine j_iconst (pc := 1638) dL_isSo_1638 (v := 1) (by decide) ?_
        refine j_icmp_ne (pc := 1639) (tgt := 1646) dL_isSo_1639 (by decide) (fun c14 => ?_) (fun c14 => ?_)
        · rw [if_neg c14] at h
          refine j_iconst (pc := 1646) dL_isSo_1646 (v := 0) (by decide) ?_
          refine j_mask [true, false, false, false, false, false, false, false, true, false, false, false, false, false, false, false, false, false, false, false, false, false, false, false, false, false, false, false, false, false] ?_
          exact jm_L_isSo_b1647 _ _ _ _ w6 h
        · rw [if_pos c14] at h
          refine j_iconst (pc := 1642) dL_isSo_1642 (v := 1) (by decide) ?_
          refine j_goto (pc := 1643) (tgt := 1647) dL_isSo_1643 (by decide) ?_
          refine j_mask [true, false, false, false, false, false, false, false, true, false, false, false, false, false, false, false, false, false, false, false, false, false, false, false, false, false, false, false, false, false] ?_
          exact jm_L_isSo_b1647 _ _ _ _ w6 h
def m_L_isSo_b1503 (a0 : Nat) (a4 : Nat) (a5 : Nat) (a6 : Nat) (a8 : Nat) (i10 : Int32) (i13 : Int32) (i21 : Int32) (s0 : Int32) (ws : LWd) : Option (Int32 × LWd) :=
  if i13 = 0 then
    m_L_isSo_b1666 a0 a8 i13 ws
  else
    if (jrem i10 16) = 0 then
      (aI ws a8 1).bind fun x3 =>
      (aI ws a8 2).bind fun x5 =>
      bn2 (calSR ws (m_L_isIn (x3 + i21) (x5 + s0) ws)) fun x9 w7 =>
      if x9 = 0 then
        m_L_isSo_b1666 a0 a8 i13 w7
      else
        (aI w7 a8 1).bind fun x11 =>
        (aI w7 a8 2).bind fun x13 =>
        bn2 (calSR w7 (nthr (m_X10_fewest a0 (x11 + i21) (x13 + s0) w7))) fun x17 w15 =>
        bn2 (calSR w15 (m_L_canShift a4 a5 a6 a8 i21 s0 w15)) fun x20 w18 =>
        (aI w18 a8 1).bind fun x21 =>
        (aI w18 a8 2).bind fun x23 =>
        bn2 (calSR w18 (nthr (m_X10_fewest a0 x21 x23 w18))) fun x27 w25 =>
        (aI w25 a8 0).bind fun x28 =>
        if x28 = 1 then
          m_L_isSo_b1600 a0 a8 i21 s0 x17 x20 x27 0 w25
        else
          m_L_isSo_b1600 a0 a8 i21 s0 x17 x20 x27 ((-1)) w25
    else
      m_L_isSo_b1666 a0 a8 i13 ws
set_option maxRecDepth 100000 in
set_option maxHeartbeats 4000000 in
theorem jm_L_isSo_b1503 {n0 : Nat} {rr : Int32} {ws' : LWd} (a0 : Nat) (a4 : Nat) (a5 : Nat) (a6 : Nat) (a8 : Nat) (i10 : Int32) (i13 : Int32) (i21 : Int32) (s0 : Int32) (ws : LWd) (h : m_L_isSo_b1503 a0 a4 a5 a6 a8 i10 i13 i21 s0 ws = some (rr, ws')) : JG (.inr none) cL_isSo 30 RL wsL_isSo (some .boolean) "isSo" 11 2 12 n0 (.inl (some (.int rr)), ws') 1503 [some (.ref a0), none, none, none, some (.ref a4), some (.ref a5), some (.ref a6), none, some (.ref a8), none, some (.int i10), none, none, some (.int i13), none, none, none, none, none, none, none, some (.int i21), none, none, none, none, none, none, none, none] [.int s0] ws 0 0 := by
  unfold m_L_isSo_b1503 at h
  refine j_istore_22 (pc := 1503) dL_isSo_1503 (by decide) rfl ?_
  refine j_iload (pc := 1505) dL_isSo_1505 rfl ?_
  refine j_if_eq (pc := 1507) (tgt := 1666) dL_isSo_1507 (by decide) (fun c1 => ?_) (fun c1 => ?_)
  · rw [if_pos c1] at h
    refine j_mask [true, false, false, false, false, false, false, false, true, false, false, false, false, true, false, false, false, false, false, false, false, false, false, false, false, false, false, false, false, false] ?_
    exact jm_L_isSo_b1666 _ _ _ ws h
  · rw [if_neg c1] at h
    refine j_iload (pc := 1510) dL_isSo_1510 rfl ?_
    refine j_bipush (pc := 1512) dL_isSo_1512 (v := 16) (by decide) ?_
    refine j_irem (pc := 1514) dL_isSo_1514 (by decide) ?_
    refine j_if_ne (pc := 1515) (tgt := 1666) dL_isSo_1515 (by decide) (fun c2 => ?_) (fun c2 => ?_)
    · rw [if_neg c2] at h
      refine j_mask [true, false, false, false, false, false, false, false, true, false, false, false, false, true, false, false, false, false, false, false, false, false, false, false, false, false, false, false, false, false] ?_
      exact jm_L_isSo_b1666 _ _ _ ws h
    · rw [if_pos c2] at h
      refine j_aload (pc := 1518) dL_isSo_1518 rfl ?_
      refine j_iconst (pc := 1520) dL_isSo_1520 (v := 1) (by decide) ?_
      obtain ⟨x3, e4, h⟩ := obS h
      refine j_iald (pc := 1521) dL_isSo_1521 e4 ?_
      refine j_iload (pc := 1522) dL_isSo_1522 rfl ?_
      refine j_iadd (pc := 1524) dL_isSo_1524 ?_
      refine j_aload (pc := 1525) dL_isSo_1525 rfl ?_
      refine j_iconst (pc := 1527) dL_isSo_1527 (v := 2) (by decide) ?_
      obtain ⟨x5, e6, h⟩ := obS h
      refine j_iald (pc := 1528) dL_isSo_1528 e6 ?_
      refine j_iload (pc := 1529) dL_isSo_1529 rfl ?_
      refine j_iadd (pc := 1531) dL_isSo_1531 ?_
      obtain ⟨x9, w7, e8, h⟩ := obS2 h
      have ge8 := calSR_of e8
      refine j_callS_g (pc := 1532) (As := [.int (x3 + i21), .int (x5 + s0)]) (k' := 0) (n' := 0) dL_isSo_1532 (s_L_isIn ge8.1) (jgS lw_644 lw_645 lw_597 lw_643) rfl hy_L_isIn rfl (by decide) (by decide) (Nat.le_of_ble_eq_true rfl) (by decide) (by decide) (by decide) (by decide) (Or.inl ge8.2) ?_
      refine j_if_eq (pc := 1535) (tgt := 1666) dL_isSo_1535 (by decide) (fun c10 => ?_) (fun c10 => ?_)
      · rw [if_pos c10] at h
        refine j_mask [true, false, false, false, false, false, false, false, true, false, false, false, false, true, false, false, false, false, false, false, false, false, false, false, false, false, false, false, false, false] ?_
        exact jm_L_isSo_b1666 _ _ _ w7 h
      · rw [if_neg c10] at h
        refine j_aload_n (pc := 1538) dL_isSo_1538 rfl ?_
        refine j_aload (pc := 1539) dL_isSo_1539 rfl ?_
        refine j_iconst (pc := 1541) dL_isSo_1541 (v := 1) (by decide) ?_
        obtain ⟨x11, e12, h⟩ := obS h
        refine j_iald (pc := 1542) dL_isSo_1542 e12 ?_
        refine j_iload (pc := 1543) dL_isSo_1543 rfl ?_
        refine j_iadd (pc := 1545) dL_isSo_1545 ?_
        refine j_aload (pc := 1546) dL_isSo_1546 rfl ?_
        refine j_iconst (pc := 1548) dL_isSo_1548 (v := 2) (by decide) ?_
        obtain ⟨x13, e14, h⟩ := obS h
        refine j_iald (pc := 1549) dL_isSo_1549 e14 ?_
        refine j_iload (pc := 1550) dL_isSo_1550 rfl ?_
        refine j_iadd (pc := 1552) dL_isSo_1552 ?_
        obtain ⟨x17, w15, e16, h⟩ := obS2 h
        have ge16 := calSR_of e16
        refine j_callV_g (pc := 1553) (As := [.int (x11 + i21), .int (x13 + s0)]) (k' := 0) (n' := 0) dL_isSo_1553 (sn_X10_fewest (nthr_of ge16.1)) (jgV lw_664 lw_665 lw_666 lw_147 lw_663) rfl hv_X10_fewest rfl (r_X10_fewest (nthr_of ge16.1)) rfl (by decide) (by decide) (Nat.le_of_ble_eq_true rfl) (by decide) (by decide) (by decide) (by decide) (Or.inl ge16.2) ?_
        refine j_istore_23 (pc := 1556) dL_isSo_1556 (by decide) rfl ?_
        refine j_aload (pc := 1558) dL_isSo_1558 rfl ?_
        refine j_aload (pc := 1560) dL_isSo_1560 rfl ?_
        refine j_aload (pc := 1562) dL_isSo_1562 rfl ?_
        refine j_aload (pc := 1564) dL_isSo_1564 rfl ?_
        refine j_iload (pc := 1566) dL_isSo_1566 rfl ?_
        refine j_iload (pc := 1568) dL_isSo_1568 rfl ?_
        obtain ⟨x20, w18, e19, h⟩ := obS2 h
        have ge19 := calSR_of e19
        refine j_callS_g (pc := 1570) (As := [.ref a4, .ref a5, .ref a6, .ref a8, .int i21, .int s0]) (k' := 0) (n' := 0) dL_isSo_1570 (s_L_canShift ge19.1) (jgS lw_647 lw_648 lw_597 lw_646) rfl hy_L_canShift rfl (by decide) (by decide) (Nat.le_of_ble_eq_true rfl) (by decide) (by decide) (by decide) (by decide) (Or.inl ge19.2) ?_
        refine j_istore_24 (pc := 1573) dL_isSo_1573 (by decide) rfl ?_
        refine j_aload_n (pc := 1575) dL_isSo_1575 rfl ?_
        refine j_aload (pc := 1576) dL_isSo_1576 rfl ?_
        refine j_iconst (pc := 1578) dL_isSo_1578 (v := 1) (by decide) ?_
        obtain ⟨x21, e22, h⟩ := obS h
        refine j_iald (pc := 1579) dL_isSo_1579 e22 ?_
        refine j_aload (pc := 1580) dL_isSo_1580 rfl ?_
        refine j_iconst (pc := 1582) dL_isSo_1582 (v := 2) (by decide) ?_
        obtain ⟨x23, e24, h⟩ := obS h
        refine j_iald (pc := 1583) dL_isSo_1583 e24 ?_
        obtain ⟨x27, w25, e26, h⟩ := obS2 h
        have ge26 := calSR_of e26
        refine j_callV_g (pc := 1584) (As := [.int x21, .int x23]) (k' := 0) (n' := 0) dL_isSo_1584 (sn_X10_fewest (nthr_of ge26.1)) (jgV lw_664 lw_665 lw_666 lw_147 lw_663) rfl hv_X10_fewest rfl (r_X10_fewest (nthr_of ge26.1)) rfl (by decide) (by decide) (Nat.le_of_ble_eq_true rfl) (by decide) (by decide) (by decide) (by decide) (Or.inl ge26.2) ?_
        refine j_aload (pc := 1587) dL_isSo_1587 rfl ?_
        refine j_iconst (pc := 1589) dL_isSo_1589 (v := 0) (by decide) ?_
        obtain ⟨x28, e29, h⟩ := obS h
        refine j_iald (pc := 1590) dL_isSo_1590 e29 ?_
        refine j_iconst (pc := 1591) dL_isSo_1591 (v := 1) (by decide) ?_
        refine j_icmp_ne (pc := 1592) (tgt := 1599) dL_isSo_1592 (by decide) (fun c30 => ?_) (fun c30 => ?_)
        · rw [if_neg c30] at h
          refine j_iconst (pc := 1599) dL_isSo_1599 (v := (-1)) (by decide) ?_
          refine j_mask [true, false, false, false, false, false, false, false, true, false, false, false, false, false, false, false, false, false, false, false, false, true, true, true, true, false, false, false, false, false] ?_
          exact jm_L_isSo_b1600 _ _ _ _ _ _ _ _ w25 h
        · rw [if_pos c30] at h
          refine j_iconst (pc := 1595) dL_isSo_1595 (v := 0) (by decide) ?_
          refine j_goto (pc := 1596) (tgt := 1600) dL_isSo_1596 (by decide) ?_
          refine j_mask [true, false, false, false, false, false, false, false, true, false, false, false, false, false, false, false, false, false, false, false, false, true, true, true, true, false, false, false, false, false] ?_
          exact jm_L_isSo_b1600 _ _ _ _ _ _ _ _ w25 h
def m_L_isSo_b1480 (a0 : Nat) (a4 : Nat) (a5 : Nat) (a6 : Nat) (a8 : Nat) (i10 : Int32) (i13 : Int32) (i20 : Int32) (s0 : Int32) (ws : LWd) : Option (Int32 × LWd) :=
  if i20 = 2 then
    m_L_isSo_b1503 a0 a4 a5 a6 a8 i10 i13 s0 1 ws
  else
    if i20 = 3 then
      m_L_isSo_b1503 a0 a4 a5 a6 a8 i10 i13 s0 ((-1)) ws
    else
      m_L_isSo_b1503 a0 a4 a5 a6 a8 i10 i13 s0 0 ws
set_option maxRecDepth 100000 in
set_option maxHeartbeats 4000000 in
theorem jm_L_isSo_b1480 {n0 : Nat} {rr : Int32} {ws' : LWd} (a0 : Nat) (a4 : Nat) (a5 : Nat) (a6 : Nat) (a8 : Nat) (i10 : Int32) (i13 : Int32) (i20 : Int32) (s0 : Int32) (ws : LWd) (h : m_L_isSo_b1480 a0 a4 a5 a6 a8 i10 i13 i20 s0 ws = some (rr, ws')) : JG (.inr none) cL_isSo 30 RL wsL_isSo (some .boolean) "isSo" 11 2 12 n0 (.inl (some (.int rr)), ws') 1480 [some (.ref a0), none, none, none, some (.ref a4), some (.ref a5), some (.ref a6), none, some (.ref a8), none, some (.int i10), none, none, some (.int i13), none, none, none, none, none, none, some (.int i20), none, none, none, none, none, none, none, none, none] [.int s0] ws 0 0 := by
  unfold m_L_isSo_b1480 at h
  refine j_istore_21 (pc := 1480) dL_isSo_1480 (by decide) rfl ?_
  refine j_iload (pc := 1482) dL_isSo_1482 rfl ?_
  refine j_iconst (pc := 1484) dL_isSo_1484 (v := 2) (by decide) ?_
  refine j_icmp_ne (pc := 1485) (tgt := 1492) dL_isSo_1485 (by decide) (fun c1 => ?_) (fun c1 => ?_)
  · rw [if_neg c1] at h
    refine j_iload (pc := 1492) dL_isSo_1492 rfl ?_
    refine j_iconst (pc := 1494) dL_isSo_1494 (v := 3) (by decide) ?_
    refine j_icmp_ne (pc := 1495) (tgt := 1502) dL_isSo_1495 (by decide) (fun c2 => ?_) (fun c2 => ?_)
    · rw [if_neg c2] at h
      refine j_iconst (pc := 1502) dL_isSo_1502 (v := 0) (by decide) ?_
      refine j_mask [true, false, false, false, true, true, true, false, true, false, true, false, false, true, false, false, false, false, false, false, false, true, false, false, false, false, false, false, false, false] ?_
      exact jm_L_isSo_b1503 _ _ _ _ _ _ _ _ _ ws h
    · rw [if_pos c2] at h
      refine j_iconst (pc := 1498) dL_isSo_1498 (v := (-1)) (by decide) ?_
      refine j_goto (pc := 1499) (tgt := 1503) dL_isSo_1499 (by decide) ?_
      refine j_mask [true, false, false, false, true, true, true, false, true, false, true, false, false, true, false, false, false, false, false, false, false, true, false, false, false, false, false, false, false, false] ?_
      exact jm_L_isSo_b1503 _ _ _ _ _ _ _ _ _ ws h
  · rw [if_pos c1] at h
    refine j_iconst (pc := 1488) dL_isSo_1488 (v := 1) (by decide) ?_
    refine j_goto (pc := 1489) (tgt := 1503) dL_isSo_1489 (by decide) ?_
    refine j_mask [true, false, false, false, true, true, true, false, true, false, true, false, false, true, false, false, false, false, false, false, false, true, false, false, false, false, false, false, false, false] ?_
    exact jm_L_isSo_b1503 _ _ _ _ _ _ _ _ _ ws h
def m_L_isSo_b1454 (a0 : Nat) (a4 : Nat) (a5 : Nat) (a6 : Nat) (a8 : Nat) (i9 : Int32) (i10 : Int32) (i13 : Int32) (ws : LWd) : Option (Int32 × LWd) :=
  if (jrem i9 4) = 0 then
    m_L_isSo_b1480 a0 a4 a5 a6 a8 i10 i13 (jrem i9 4) 1 ws
  else
    if (jrem i9 4) = 1 then
      m_L_isSo_b1480 a0 a4 a5 a6 a8 i10 i13 (jrem i9 4) ((-1)) ws
    else
      m_L_isSo_b1480 a0 a4 a5 a6 a8 i10 i13 (jrem i9 4) 0 ws
set_option maxRecDepth 100000 in
set_option maxHeartbeats 4000000 in
theorem jm_L_isSo_b1454 {n0 : Nat} {rr : Int32} {ws' : LWd} (a0 : Nat) (a4 : Nat) (a5 : Nat) (a6 : Nat) (a8 : Nat) (i9 : Int32) (i10 : Int32) (i13 : Int32) (ws : LWd) (h : m_L_isSo_b1454 a0 a4 a5 a6 a8 i9 i10 i13 ws = some (rr, ws')) : JG (.inr none) cL_isSo 30 RL wsL_isSo (some .boolean) "isSo" 11 2 12 n0 (.inl (some (.int rr)), ws') 1454 [some (.ref a0), none, none, none, some (.ref a4), some (.ref a5), some (.ref a6), none, some (.ref a8), some (.int i9), some (.int i10), none, none, some (.int i13), none, none, none, none, none, none, none, none, none, none, none, none, none, none, none, none] [] ws 0 0 := by
  unfold m_L_isSo_b1454 at h
  refine j_iload (pc := 1454) dL_isSo_1454 rfl ?_
  refine j_iconst (pc := 1456) dL_isSo_1456 (v := 4) (by decide) ?_
  refine j_irem (pc := 1457) dL_isSo_1457 (by decide) ?_
  refine j_istore_20 (pc := 1458) dL_isSo_1458 (by decide) rfl ?_
  refine j_iload (pc := 1460) dL_isSo_1460 rfl ?_
  refine j_if_ne (pc := 1462) (tgt := 1469) dL_isSo_1462 (by decide) (fun c1 => ?_) (fun c1 => ?_)
  · rw [if_neg c1] at h
    refine j_iload (pc := 1469) dL_isSo_1469 rfl ?_
    refine j_iconst (pc := 1471) dL_isSo_1471 (v := 1) (by decide) ?_
    refine j_icmp_ne (pc := 1472) (tgt := 1479) dL_isSo_1472 (by decide) (fun c2 => ?_) (fun c2 => ?_)
    · rw [if_neg c2] at h
      refine j_iconst (pc := 1479) dL_isSo_1479 (v := 0) (by decide) ?_
      refine j_mask [true, false, false, false, true, true, true, false, true, false, true, false, false, true, false, false, false, false, false, false, true, false, false, false, false, false, false, false, false, false] ?_
      exact jm_L_isSo_b1480 _ _ _ _ _ _ _ _ _ ws h
    · rw [if_pos c2] at h
      refine j_iconst (pc := 1475) dL_isSo_1475 (v := (-1)) (by decide) ?_
      refine j_goto (pc := 1476) (tgt := 1480) dL_isSo_1476 (by decide) ?_
      refine j_mask [true, false, false, false, true, true, true, false, true, false, true, false, false, true, false, false, false, false, false, false, true, false, false, false, false, false, false, false, false, false] ?_
      exact jm_L_isSo_b1480 _ _ _ _ _ _ _ _ _ ws h
  · rw [if_pos c1] at h
    refine j_iconst (pc := 1465) dL_isSo_1465 (v := 1) (by decide) ?_
    refine j_goto (pc := 1466) (tgt := 1480) dL_isSo_1466 (by decide) ?_
    refine j_mask [true, false, false, false, true, true, true, false, true, false, true, false, false, true, false, false, false, false, false, false, true, false, false, false, false, false, false, false, false, false] ?_
    exact jm_L_isSo_b1480 _ _ _ _ _ _ _ _ _ ws h
def m_L_isSo_b1452 (a0 : Nat) (a4 : Nat) (a5 : Nat) (a6 : Nat) (a8 : Nat) (i9 : Int32) (i10 : Int32) (s0 : Int32) (ws : LWd) : Option (Int32 × LWd) :=
  m_L_isSo_b1454 a0 a4 a5 a6 a8 i9 i10 s0 ws
set_option maxRecDepth 100000 in
set_option maxHeartbeats 4000000 in
theorem jm_L_isSo_b1452 {n0 : Nat} {rr : Int32} {ws' : LWd} (a0 : Nat) (a4 : Nat) (a5 : Nat) (a6 : Nat) (a8 : Nat) (i9 : Int32) (i10 : Int32) (s0 : Int32) (ws : LWd) (h : m_L_isSo_b1452 a0 a4 a5 a6 a8 i9 i10 s0 ws = some (rr, ws')) : JG (.inr none) cL_isSo 30 RL wsL_isSo (some .boolean) "isSo" 11 2 12 n0 (.inl (some (.int rr)), ws') 1452 [some (.ref a0), none, none, none, some (.ref a4), some (.ref a5), some (.ref a6), none, some (.ref a8), some (.int i9), some (.int i10), none, none, none, none, none, none, none, none, none, none, none, none, none, none, none, none, none, none, none] [.int s0] ws 0 0 := by
  unfold m_L_isSo_b1452 at h
  refine j_istore_13 (pc := 1452) dL_isSo_1452 (by decide) rfl ?_
  exact jm_L_isSo_b1454 _ _ _ _ _ _ _ _ ws h
def m_L_isSo_b1451 (a0 : Nat) (a4 : Nat) (a5 : Nat) (a6 : Nat) (a8 : Nat) (i9 : Int32) (i10 : Int32) (ws : LWd) : Option (Int32 × LWd) :=
  m_L_isSo_b1452 a0 a4 a5 a6 a8 i9 i10 0 ws
set_option maxRecDepth 100000 in
set_option maxHeartbeats 4000000 in
theorem jm_L_isSo_b1451 {n0 : Nat} {rr : Int32} {ws' : LWd} (a0 : Nat) (a4 : Nat) (a5 : Nat) (a6 : Nat) (a8 : Nat) (i9 : Int32) (i10 : Int32) (ws : LWd) (h : m_L_isSo_b1451 a0 a4 a5 a6 a8 i9 i10 ws = some (rr, ws')) : JG (.inr none) cL_isSo 30 RL wsL_isSo (some .boolean) "isSo" 11 2 12 n0 (.inl (some (.int rr)), ws') 1451 [some (.ref a0), none, none, none, some (.ref a4), some (.ref a5), some (.ref a6), none, some (.ref a8), some (.int i9), some (.int i10), none, none, none, none, none, none, none, none, none, none, none, none, none, none, none, none, none, none, none] [] ws 0 0 := by
  unfold m_L_isSo_b1451 at h
  refine j_iconst (pc := 1451) dL_isSo_1451 (v := 0) (by decide) ?_
  exact jm_L_isSo_b1452 _ _ _ _ _ _ _ _ ws h
def m_L_isSo_b1348 (a0 : Nat) (a4 : Nat) (a5 : Nat) (a6 : Nat) (a7 : Nat) (a8 : Nat) (i9 : Int32) (i10 : Int32) (i13 : Int32) (ws : LWd) : Option (Int32 × LWd) :=
  (aI ws a8 11).bind fun x1 =>
  if (x1 - 1) < 0 then
    m_L_isSo_b1454 a0 a4 a5 a6 a8 i9 i10 i13 ws
  else
    if 40 ≤ (x1 - 1) then
      m_L_isSo_b1454 a0 a4 a5 a6 a8 i9 i10 i13 ws
    else
      if i13 = 0 then
        m_L_isSo_b1454 a0 a4 a5 a6 a8 i9 i10 i13 ws
      else
        (aI ws a7 (x1 - 1)).bind fun x6 =>
        bn2 (calSR ws (nthr (m_X10_fall a0 (x1 - 1) 0 ws))) fun x10 w8 =>
        if x10 = (jrem x6 9) then
          bn2 (calSR w8 (nthr (m_X10_fall a0 (x1 - 1) 1 w8))) fun x14 w12 =>
          if x14 = (jrem (x6 / 9) 4) then
            bn2 (calSR w12 (nthr (m_X10_fall a0 (x1 - 1) 2 w12))) fun x18 w16 =>
            if x18 = (jrem (x6 / 36) 20) then
              bn2 (calSR w16 (nthr (m_X10_fall a0 (x1 - 1) 3 w16))) fun x22 w20 =>
              if x22 = (x6 / 720) then
                m_L_isSo_b1452 a0 a4 a5 a6 a8 i9 i10 1 w20
              else
                m_L_isSo_b1451 a0 a4 a5 a6 a8 i9 i10 w20
            else
              m_L_isSo_b1451 a0 a4 a5 a6 a8 i9 i10 w16
          else
            m_L_isSo_b1451 a0 a4 a5 a6 a8 i9 i10 w12
        else
          m_L_isSo_b1451 a0 a4 a5 a6 a8 i9 i10 w8
set_option maxRecDepth 100000 in
set_option maxHeartbeats 4000000 in
theorem jm_L_isSo_b1348 {n0 : Nat} {rr : Int32} {ws' : LWd} (a0 : Nat) (a4 : Nat) (a5 : Nat) (a6 : Nat) (a7 : Nat) (a8 : Nat) (i9 : Int32) (i10 : Int32) (i13 : Int32) (ws : LWd) (h : m_L_isSo_b1348 a0 a4 a5 a6 a7 a8 i9 i10 i13 ws = some (rr, ws')) : JG (.inr none) cL_isSo 30 RL wsL_isSo (some .boolean) "isSo" 11 2 12 n0 (.inl (some (.int rr)), ws') 1348 [some (.ref a0), none, none, none, some (.ref a4), some (.ref a5), some (.ref a6), some (.ref a7), some (.ref a8), some (.int i9), some (.int i10), none, none, some (.int i13), none, none, none, none, none, none, none, none, none, none, none, none, none, none, none, none] [] ws 0 0 := by
  unfold m_L_isSo_b1348 at h
  refine j_aload (pc := 1348) dL_isSo_1348 rfl ?_
  refine j_bipush (pc := 1350) dL_isSo_1350 (v := 11) (by decide) ?_
  obtain ⟨x1, e2, h⟩ := obS h
  refine j_iald (pc := 1352) dL_isSo_1352 e2 ?_
  refine j_iconst (pc := 1353) dL_isSo_1353 (v := 1) (by decide) ?_
  refine j_isub (pc := 1354) dL_isSo_1354 ?_
  refine j_istore_19 (pc := 1355) dL_isSo_1355 (by decide) rfl ?_
  refine j_iload (pc := 1357) dL_isSo_1357 rfl ?_
  refine j_if_lt (pc := 1359) (tgt := 1454) dL_isSo_1359 (by decide) (fun c3 => ?_) (fun c3 => ?_)
  · rw [if_pos c3] at h
    refine j_mask [true, false, false, false, true, true, true, false, true, true, true, false, false, true, false, false, false, false, false, false, false, false, false, false, false, false, false, false, false, false] ?_
    exact jm_L_isSo_b1454 _ _ _ _ _ _ _ _ ws h
  · rw [if_neg c3] at h
    refine j_iload (pc := 1362) dL_isSo_1362 rfl ?_
    refine j_bipush (pc := 1364) dL_isSo_1364 (v := 40) (by decide) ?_
    refine j_icmp_ge (pc := 1366) (tgt := 1454) dL_isSo_1366 (by decide) (fun c4 => ?_) (fun c4 => ?_)
    · rw [if_pos c4] at h
      refine j_mask [true, false, false, false, true, true, true, false, true, true, true, false, false, true, false, false, false, false, false, false, false, false, false, false, false, false, false, false, false, false] ?_
      exact jm_L_isSo_b1454 _ _ _ _ _ _ _ _ ws h
    · rw [if_neg c4] at h
      refine j_iload (pc := 1369) dL_isSo_1369 rfl ?_
      refine j_if_eq (pc := 1371) (tgt := 1454) dL_isSo_1371 (by decide) (fun c5 => ?_) (fun c5 => ?_)
      · rw [if_pos c5] at h
        refine j_mask [true, false, false, false, true, true, true, false, true, true, true, false, false, true, false, false, false, false, false, false, false, false, false, false, false, false, false, false, false, false] ?_
        exact jm_L_isSo_b1454 _ _ _ _ _ _ _ _ ws h
      · rw [if_neg c5] at h
        refine j_aload (pc := 1374) dL_isSo_1374 rfl ?_
        refine j_iload (pc := 1376) dL_isSo_1376 rfl ?_
        obtain ⟨x6, e7, h⟩ := obS h
        refine j_iald (pc := 1378) dL_isSo_1378 e7 ?_
        refine j_istore_20 (pc := 1379) dL_isSo_1379 (by decide) rfl ?_
        refine j_aload_n (pc := 1381) dL_isSo_1381 rfl ?_
        refine j_iload (pc := 1382) dL_isSo_1382 rfl ?_
        refine j_iconst (pc := 1384) dL_isSo_1384 (v := 0) (by decide) ?_
        obtain ⟨x10, w8, e9, h⟩ := obS2 h
        have ge9 := calSR_of e9
        refine j_callV_g (pc := 1385) (As := [.int (x1 - 1), .int 0]) (k' := 0) (n' := 0) dL_isSo_1385 (sn_X10_fall (nthr_of ge9.1)) (jgV lw_540 lw_541 lw_542 lw_147 lw_539) rfl hv_X10_fall rfl (r_X10_fall (nthr_of ge9.1)) rfl (by decide) (by decide) (Nat.le_of_ble_eq_true rfl) (by decide) (by decide) (by decide) (by decide) (Or.inl ge9.2) ?_
        refine j_iload (pc := 1388) dL_isSo_1388 rfl ?_
        refine j_bipush (pc := 1390) dL_isSo_1390 (v := 9) (by decide) ?_
        refine j_irem (pc := 1392) dL_isSo_1392 (by decide) ?_
        refine j_icmp_ne (pc := 1393) (tgt := 1451) dL_isSo_1393 (by decide) (fun c11 => ?_) (fun c11 => ?_)
        · rw [if_neg c11] at h
          refine j_mask [true, false, false, false, true, true, true, false, true, true, true, false, false, false, false, false, false, false, false, false, false, false, false, false, false, false, false, false, false, false] ?_
          exact jm_L_isSo_b1451 _ _ _ _ _ _ _ w8 h
        · rw [if_pos c11] at h
          refine j_aload_n (pc := 1396) dL_isSo_1396 rfl ?_
          refine j_iload (pc := 1397) dL_isSo_1397 rfl ?_
          refine j_iconst (pc := 1399) dL_isSo_1399 (v := 1) (by decide) ?_
          obtain ⟨x14, w12, e13, h⟩ := obS2 h
          have ge13 := calSR_of e13
          refine j_callV_g (pc := 1400) (As := [.int (x1 - 1), .int 1]) (k' := 0) (n' := 0) dL_isSo_1400 (sn_X10_fall (nthr_of ge13.1)) (jgV lw_540 lw_541 lw_542 lw_147 lw_539) rfl hv_X10_fall rfl (r_X10_fall (nthr_of ge13.1)) rfl (by decide) (by decide) (Nat.le_of_ble_eq_true rfl) (by decide) (by decide) (by decide) (by decide) (Or.inl ge13.2) ?_
          refine j_iload (pc := 1403) dL_isSo_1403 rfl ?_
          refine j_bipush (pc := 1405) dL_isSo_1405 (v := 9) (by decide) ?_
          refine j_idiv (pc := 1407) dL_isSo_1407 (by decide) ?_
          refine j_iconst (pc := 1408) dL_isSo_1408 (v := 4) (by decide) ?_
          refine j_irem (pc := 1409) dL_isSo_1409 (by decide) ?_
          refine j_icmp_ne (pc := 1410) (tgt := 1451) dL_isSo_1410 (by decide) (fun c15 => ?_) (fun c15 => ?_)
          · rw [if_neg c15] at h
            refine j_mask [true, false, false, false, true, true, true, false, true, true, true, false, false, false, false, false, false, false, false, false, false, false, false, false, false, false, false, false, false, false] ?_
            exact jm_L_isSo_b1451 _ _ _ _ _ _ _ w12 h
          · rw [if_pos c15] at h
            refine j_aload_n (pc := 1413) dL_isSo_1413 rfl ?_
            refine j_iload (pc := 1414) dL_isSo_1414 rfl ?_
            refine j_iconst (pc := 1416) dL_isSo_1416 (v := 2) (by decide) ?_
            obtain ⟨x18, w16, e17, h⟩ := obS2 h
            have ge17 := calSR_of e17
            refine j_callV_g (pc := 1417) (As := [.int (x1 - 1), .int 2]) (k' := 0) (n' := 0) dL_isSo_1417 (sn_X10_fall (nthr_of ge17.1)) (jgV lw_540 lw_541 lw_542 lw_147 lw_539) rfl hv_X10_fall rfl (r_X10_fall (nthr_of ge17.1)) rfl (by decide) (by decide) (Nat.le_of_ble_eq_true rfl) (by decide) (by decide) (by decide) (by decide) (Or.inl ge17.2) ?_
            refine j_iload (pc := 1420) dL_isSo_1420 rfl ?_
            refine j_bipush (pc := 1422) dL_isSo_1422 (v := 36) (by decide) ?_
            refine j_idiv (pc := 1424) dL_isSo_1424 (by decide) ?_
            refine j_bipush (pc := 1425) dL_isSo_1425 (v := 20) (by decide) ?_
            refine j_irem (pc := 1427) dL_isSo_1427 (by decide) ?_
            refine j_icmp_ne (pc := 1428) (tgt := 1451) dL_isSo_1428 (by decide) (fun c19 => ?_) (fun c19 => ?_)
            · rw [if_neg c19] at h
              refine j_mask [true, false, false, false, true, true, true, false, true, true, true, false, false, false, false, false, false, false, false, false, false, false, false, false, false, false, false, false, false, false] ?_
              exact jm_L_isSo_b1451 _ _ _ _ _ _ _ w16 h
            · rw [if_pos c19] at h
              refine j_aload_n (pc := 1431) dL_isSo_1431 rfl ?_
              refine j_iload (pc := 1432) dL_isSo_1432 rfl ?_
              refine j_iconst (pc := 1434) dL_isSo_1434 (v := 3) (by decide) ?_
              obtain ⟨x22, w20, e21, h⟩ := obS2 h
              have ge21 := calSR_of e21
              refine j_callV_g (pc := 1435) (As := [.int (x1 - 1), .int 3]) (k' := 0) (n' := 0) dL_isSo_1435 (sn_X10_fall (nthr_of ge21.1)) (jgV lw_540 lw_541 lw_542 lw_147 lw_539) rfl hv_X10_fall rfl (r_X10_fall (nthr_of ge21.1)) rfl (by decide) (by decide) (Nat.le_of_ble_eq_true rfl) (by decide) (by decide) (by decide) (by decide) (Or.inl ge21.2) ?_
              refine j_iload (pc := 1438) dL_isSo_1438 rfl ?_
              refine j_sipush (pc := 1440) dL_isSo_1440 (v := 720) (by decide) ?_
              refine j_idiv (pc := 1443) dL_isSo_1443 (by decide) ?_
              refine j_icmp_ne (pc := 1444) (tgt := 1451) dL_isSo_1444 (by decide) (fun c23 => ?_) (fun c23 => ?_)
              · rw [if_neg c23] at h
                refine j_mask [true, false, false, false, true, true, true, false, true, true, true, false, false, false, false, false, false, false, false, false, false, false, false, false, false, false, false, false, false, false] ?_
                exact jm_L_isSo_b1451 _ _ _ _ _ _ _ w20 h
              · rw [if_pos c23] at h
                refine j_iconst (pc := 1447) dL_isSo_1447 (v := 1) (by decide) ?_
                refine j_goto (pc := 1448) (tgt := 1452) dL_isSo_1448 (by decide) ?_
                refine j_mask [true, false, false, false, true, true, true, false, true, true, true, false, false, false, false, false, false, false, false, false, false, false, false, false, false, false, false, false, false, false] ?_
                exact jm_L_isSo_b1452 _ _ _ _ _ _ _ _ w20 h
def m_L_isSo_b1340 (k1191 : Nat → Nat → Nat → Nat → Nat → Nat → Nat → Nat → Nat → Int32 → Int32 → Int32 → Int32 → LWd → Option (Int32 × LWd)) (a0 : Nat) (a1 : Nat) (a2 : Nat) (a3 : Nat) (a4 : Nat) (a5 : Nat) (a6 : Nat) (a7 : Nat) (a8 : Nat) (i9 : Int32) (i10 : Int32) (i19 : Int32) (s0 : Int32) (ws : LWd) : Option (Int32 × LWd) :=
  k1191 a0 a1 a2 a3 a4 a5 a6 a7 a8 i9 i10 s0 (i19 + 1) ws
set_option maxRecDepth 100000 in
set_option maxHeartbeats 4000000 in
theorem jm_L_isSo_b1340 {n0 : Nat} {rr : Int32} {ws' : LWd} {k1191 : Nat → Nat → Nat → Nat → Nat → Nat → Nat → Nat → Nat → Int32 → Int32 → Int32 → Int32 → LWd → Option (Int32 × LWd)} (hk1191 : ∀ (a0 : Nat) (a1 : Nat) (a2 : Nat) (a3 : Nat) (a4 : Nat) (a5 : Nat) (a6 : Nat) (a7 : Nat) (a8 : Nat) (i9 : Int32) (i10 : Int32) (i13 : Int32) (i19 : Int32) (ws : LWd), k1191 a0 a1 a2 a3 a4 a5 a6 a7 a8 i9 i10 i13 i19 ws = some (rr, ws') → JG (.inr none) cL_isSo 30 RL wsL_isSo (some .boolean) "isSo" 11 2 12 n0 (.inl (some (.int rr)), ws') 1191 [some (.ref a0), some (.ref a1), some (.ref a2), some (.ref a3), some (.ref a4), some (.ref a5), some (.ref a6), some (.ref a7), some (.ref a8), some (.int i9), some (.int i10), none, none, some (.int i13), none, none, none, none, none, some (.int i19), none, none, none, none, none, none, none, none, none, none] [] ws 0 0) (a0 : Nat) (a1 : Nat) (a2 : Nat) (a3 : Nat) (a4 : Nat) (a5 : Nat) (a6 : Nat) (a7 : Nat) (a8 : Nat) (i9 : Int32) (i10 : Int32) (i19 : Int32) (s0 : Int32) (ws : LWd) (h : m_L_isSo_b1340 k1191 a0 a1 a2 a3 a4 a5 a6 a7 a8 i9 i10 i19 s0 ws = some (rr, ws')) : JG (.inr none) cL_isSo 30 RL wsL_isSo (some .boolean) "isSo" 11 2 12 n0 (.inl (some (.int rr)), ws') 1340 [some (.ref a0), some (.ref a1), some (.ref a2), some (.ref a3), some (.ref a4), some (.ref a5), some (.ref a6), some (.ref a7), some (.ref a8), some (.int i9), some (.int i10), none, none, none, none, none, none, none, none, some (.int i19), none, none, none, none, none, none, none, none, none, none] [.int s0] ws 0 0 := by
  unfold m_L_isSo_b1340 at h
  refine j_istore_13 (pc := 1340) dL_isSo_1340 (by decide) rfl ?_
  refine j_iinc_19 (pc := 1342) dL_isSo_1342 (y := i19 + 1) rfl (by decide) rfl ?_
  refine j_goto (pc := 1345) (tgt := 1191) dL_isSo_1345 (by decide) ?_
  exact hk1191 _ _ _ _ _ _ _ _ _ _ _ _ _ ws h
def m_L_isSo_b1335 (k1191 : Nat → Nat → Nat → Nat → Nat → Nat → Nat → Nat → Nat → Int32 → Int32 → Int32 → Int32 → LWd → Option (Int32 × LWd)) (a0 : Nat) (a1 : Nat) (a2 : Nat) (a3 : Nat) (a4 : Nat) (a5 : Nat) (a6 : Nat) (a7 : Nat) (a8 : Nat) (i9 : Int32) (i10 : Int32) (i19 : Int32) (ws : LWd) : Option (Int32 × LWd) :=
  m_L_isSo_b1340 k1191 a0 a1 a2 a3 a4 a5 a6 a7 a8 i9 i10 i19 1 ws
set_option maxRecDepth 100000 in
set_option maxHeartbeats 4000000 in
theorem jm_L_isSo_b1335 {n0 : Nat} {rr : Int32} {ws' : LWd} {k1191 : Nat → Nat → Nat → Nat → Nat → Nat → Nat → Nat → Nat → Int32 → Int32 → Int32 → Int32 → LWd → Option (Int32 × LWd)} (hk1191 : ∀ (a0 : Nat) (a1 : Nat) (a2 : Nat) (a3 : Nat) (a4 : Nat) (a5 : Nat) (a6 : Nat) (a7 : Nat) (a8 : Nat) (i9 : Int32) (i10 : Int32) (i13 : Int32) (i19 : Int32) (ws : LWd), k1191 a0 a1 a2 a3 a4 a5 a6 a7 a8 i9 i10 i13 i19 ws = some (rr, ws') → JG (.inr none) cL_isSo 30 RL wsL_isSo (some .boolean) "isSo" 11 2 12 n0 (.inl (some (.int rr)), ws') 1191 [some (.ref a0), some (.ref a1), some (.ref a2), some (.ref a3), some (.ref a4), some (.ref a5), some (.ref a6), some (.ref a7), some (.ref a8), some (.int i9), some (.int i10), none, none, some (.int i13), none, none, none, none, none, some (.int i19), none, none, none, none, none, none, none, none, none, none] [] ws 0 0) (a0 : Nat) (a1 : Nat) (a2 : Nat) (a3 : Nat) (a4 : Nat) (a5 : Nat) (a6 : Nat) (a7 : Nat) (a8 : Nat) (i9 : Int32) (i10 : Int32) (i19 : Int32) (ws : LWd) (h : m_L_isSo_b1335 k1191 a0 a1 a2 a3 a4 a5 a6 a7 a8 i9 i10 i19 ws = some (rr, ws')) : JG (.inr none) cL_isSo 30 RL wsL_isSo (some .boolean) "isSo" 11 2 12 n0 (.inl (some (.int rr)), ws') 1335 [some (.ref a0), some (.ref a1), some (.ref a2), some (.ref a3), some (.ref a4), some (.ref a5), some (.ref a6), some (.ref a7), some (.ref a8), some (.int i9), some (.int i10), none, none, none, none, none, none, none, none, some (.int i19), none, none, none, none, none, none, none, none, none, none] [] ws 0 0 := by
  unfold m_L_isSo_b1335 at h
  refine j_iconst (pc := 1335) dL_isSo_1335 (v := 1) (by decide) ?_
  refine j_goto (pc := 1336) (tgt := 1340) dL_isSo_1336 (by decide) ?_
  exact jm_L_isSo_b1340 (hk1191 := hk1191) _ _ _ _ _ _ _ _ _ _ _ _ _ ws h
def m_L_isSo_b1339 (k1191 : Nat → Nat → Nat → Nat → Nat → Nat → Nat → Nat → Nat → Int32 → Int32 → Int32 → Int32 → LWd → Option (Int32 × LWd)) (a0 : Nat) (a1 : Nat) (a2 : Nat) (a3 : Nat) (a4 : Nat) (a5 : Nat) (a6 : Nat) (a7 : Nat) (a8 : Nat) (i9 : Int32) (i10 : Int32) (i19 : Int32) (ws : LWd) : Option (Int32 × LWd) :=
  m_L_isSo_b1340 k1191 a0 a1 a2 a3 a4 a5 a6 a7 a8 i9 i10 i19 0 ws
set_option maxRecDepth 100000 in
set_option maxHeartbeats 4000000 in
theorem jm_L_isSo_b1339 {n0 : Nat} {rr : Int32} {ws' : LWd} {k1191 : Nat → Nat → Nat → Nat → Nat → Nat → Nat → Nat → Nat → Int32 → Int32 → Int32 → Int32 → LWd → Option (Int32 × LWd)} (hk1191 : ∀ (a0 : Nat) (a1 : Nat) (a2 : Nat) (a3 : Nat) (a4 : Nat) (a5 : Nat) (a6 : Nat) (a7 : Nat) (a8 : Nat) (i9 : Int32) (i10 : Int32) (i13 : Int32) (i19 : Int32) (ws : LWd), k1191 a0 a1 a2 a3 a4 a5 a6 a7 a8 i9 i10 i13 i19 ws = some (rr, ws') → JG (.inr none) cL_isSo 30 RL wsL_isSo (some .boolean) "isSo" 11 2 12 n0 (.inl (some (.int rr)), ws') 1191 [some (.ref a0), some (.ref a1), some (.ref a2), some (.ref a3), some (.ref a4), some (.ref a5), some (.ref a6), some (.ref a7), some (.ref a8), some (.int i9), some (.int i10), none, none, some (.int i13), none, none, none, none, none, some (.int i19), none, none, none, none, none, none, none, none, none, none] [] ws 0 0) (a0 : Nat) (a1 : Nat) (a2 : Nat) (a3 : Nat) (a4 : Nat) (a5 : Nat) (a6 : Nat) (a7 : Nat) (a8 : Nat) (i9 : Int32) (i10 : Int32) (i19 : Int32) (ws : LWd) (h : m_L_isSo_b1339 k1191 a0 a1 a2 a3 a4 a5 a6 a7 a8 i9 i10 i19 ws = some (rr, ws')) : JG (.inr none) cL_isSo 30 RL wsL_isSo (some .boolean) "isSo" 11 2 12 n0 (.inl (some (.int rr)), ws') 1339 [some (.ref a0), some (.ref a1), some (.ref a2), some (.ref a3), some (.ref a4), some (.ref a5), some (.ref a6), some (.ref a7), some (.ref a8), some (.int i9), some (.int i10), none, none, none, none, none, none, none, none, some (.int i19), none, none, none, none, none, none, none, none, none, none] [] ws 0 0 := by
  unfold m_L_isSo_b1339 at h
  refine j_iconst (pc := 1339) dL_isSo_1339 (v := 0) (by decide) ?_
  exact jm_L_isSo_b1340 (hk1191 := hk1191) _ _ _ _ _ _ _ _ _ _ _ _ _ ws h
def m_L_isSo_l1191 : Nat → Nat → Nat → Nat → Nat → Nat → Nat → Nat → Nat → Nat → Int32 → Int32 → Int32 → Int32 → LWd → Option (Int32 × LWd)
  | 0, _, _, _, _, _, _, _, _, _, _, _, _, _, _ => none
  | fu + 1, a0, a1, a2, a3, a4, a5, a6, a7, a8, i9, i10, i13, i19, ws =>
    if 9 ≤ i19 then
      m_L_isSo_b1348 a0 a4 a5 a6 a7 a8 i9 i10 i13 ws
    else
      if i13 = 0 then
        m_L_isSo_b1348 a0 a4 a5 a6 a7 a8 i9 i10 i13 ws
      else
        (aI ws a8 1).bind fun x3 =>
        (aI ws a8 2).bind fun x5 =>
        bn2 (calSR ws (m_L_isIn ((x3 - 4) + (jrem (i9 + i19) 9)) ((x5 - 4) + (jrem (i10 + (2 * i19)) 9)) ws)) fun x9 w7 =>
        if x9 = 0 then
          m_L_isSo_b1335 (fun z0 z1 z2 z3 z4 z5 z6 z7 z8 z9 z10 z11 z12 w => m_L_isSo_l1191 fu z0 z1 z2 z3 z4 z5 z6 z7 z8 z9 z10 z11 z12 w) a0 a1 a2 a3 a4 a5 a6 a7 a8 i9 i10 i19 w7
        else
          bn2 (calSR w7 (nthr (m_X10_point a0 ((x3 - 4) + (jrem (i9 + i19) 9)) ((x5 - 4) + (jrem (i10 + (2 * i19)) 9)) 0 w7))) fun x13 w11 =>
          bn2 (calSR w11 (m_L_four a1 ((20 * ((x5 - 4) + (jrem (i10 + (2 * i19)) 9))) + ((x3 - 4) + (jrem (i9 + i19) 9))) w11)) fun x16 w14 =>
          if x13 = x16 then
            bn2 (calSR w14 (nthr (m_X10_point a0 ((x3 - 4) + (jrem (i9 + i19) 9)) ((x5 - 4) + (jrem (i10 + (2 * i19)) 9)) 1 w14))) fun x20 w18 =>
            bn2 (calSR w18 (m_L_firm a3 ((20 * ((x5 - 4) + (jrem (i10 + (2 * i19)) 9))) + ((x3 - 4) + (jrem (i9 + i19) 9))) w18)) fun x23 w21 =>
            if x20 = x23 then
              bn2 (calSR w21 (nthr (m_X10_point a0 ((x3 - 4) + (jrem (i9 + i19) 9)) ((x5 - 4) + (jrem (i10 + (2 * i19)) 9)) 2 w21))) fun x27 w25 =>
              bn2 (calSR w25 (m_L_four a2 ((20 * ((x5 - 4) + (jrem (i10 + (2 * i19)) 9))) + ((x3 - 4) + (jrem (i9 + i19) 9))) w25)) fun x30 w28 =>
              if x27 = x30 then
                bn2 (calSR w28 (nthr (m_X10_point a0 ((x3 - 4) + (jrem (i9 + i19) 9)) ((x5 - 4) + (jrem (i10 + (2 * i19)) 9)) 3 w28))) fun x34 w32 =>
                bn2 (calSR w32 (m_L_four a1 (400 + ((20 * ((x5 - 4) + (jrem (i10 + (2 * i19)) 9))) + ((x3 - 4) + (jrem (i9 + i19) 9)))) w32)) fun x37 w35 =>
                if x34 = x37 then
                  m_L_isSo_b1335 (fun z0 z1 z2 z3 z4 z5 z6 z7 z8 z9 z10 z11 z12 w => m_L_isSo_l1191 fu z0 z1 z2 z3 z4 z5 z6 z7 z8 z9 z10 z11 z12 w) a0 a1 a2 a3 a4 a5 a6 a7 a8 i9 i10 i19 w35
                else
                  m_L_isSo_b1339 (fun z0 z1 z2 z3 z4 z5 z6 z7 z8 z9 z10 z11 z12 w => m_L_isSo_l1191 fu z0 z1 z2 z3 z4 z5 z6 z7 z8 z9 z10 z11 z12 w) a0 a1 a2 a3 a4 a5 a6 a7 a8 i9 i10 i19 w35
              else
                m_L_isSo_b1339 (fun z0 z1 z2 z3 z4 z5 z6 z7 z8 z9 z10 z11 z12 w => m_L_isSo_l1191 fu z0 z1 z2 z3 z4 z5 z6 z7 z8 z9 z10 z11 z12 w) a0 a1 a2 a3 a4 a5 a6 a7 a8 i9 i10 i19 w28
            else
              m_L_isSo_b1339 (fun z0 z1 z2 z3 z4 z5 z6 z7 z8 z9 z10 z11 z12 w => m_L_isSo_l1191 fu z0 z1 z2 z3 z4 z5 z6 z7 z8 z9 z10 z11 z12 w) a0 a1 a2 a3 a4 a5 a6 a7 a8 i9 i10 i19 w21
          else
            m_L_isSo_b1339 (fun z0 z1 z2 z3 z4 z5 z6 z7 z8 z9 z10 z11 z12 w => m_L_isSo_l1191 fu z0 z1 z2 z3 z4 z5 z6 z7 z8 z9 z10 z11 z12 w) a0 a1 a2 a3 a4 a5 a6 a7 a8 i9 i10 i19 w14
set_option maxRecDepth 100000 in
set_option maxHeartbeats 4000000 in
theorem jm_L_isSo_l1191 {n0 : Nat} {rr : Int32} {ws' : LWd} : ∀ (fu : Nat) (a0 : Nat) (a1 : Nat) (a2 : Nat) (a3 : Nat) (a4 : Nat) (a5 : Nat) (a6 : Nat) (a7 : Nat) (a8 : Nat) (i9 : Int32) (i10 : Int32) (i13 : Int32) (i19 : Int32) (ws : LWd), m_L_isSo_l1191 fu a0 a1 a2 a3 a4 a5 a6 a7 a8 i9 i10 i13 i19 ws = some (rr, ws') → JG (.inr none) cL_isSo 30 RL wsL_isSo (some .boolean) "isSo" 11 2 12 n0 (.inl (some (.int rr)), ws') 1191 [some (.ref a0), some (.ref a1), some (.ref a2), some (.ref a3), some (.ref a4), some (.ref a5), some (.ref a6), some (.ref a7), some (.ref a8), some (.int i9), some (.int i10), none, none, some (.int i13), none, none, none, none, none, some (.int i19), none, none, none, none, none, none, none, none, none, none] [] ws 0 0 := by
  intro fu
  induction fu with
  | zero => intro a0 a1 a2 a3 a4 a5 a6 a7 a8 i9 i10 i13 i19 ws h; first | (cases h; done) | (rw [m_L_isSo_l1191] at h; cases h)
  | succ fu ih =>
    intro a0 a1 a2 a3 a4 a5 a6 a7 a8 i9 i10 i13 i19 ws h
    rw [m_L_isSo_l1191] at h
    refine j_iload (pc := 1191) dL_isSo_1191 rfl ?_
    refine j_bipush (pc := 1193) dL_isSo_1193 (v := 9) (by decide) ?_
    refine j_icmp_ge (pc := 1195) (tgt := 1348) dL_isSo_1195 (by decide) (fun c1 => ?_) (fun c1 => ?_)
    · rw [if_pos c1] at h
      refine j_mask [true, false, false, false, true, true, true, true, true, true, true, false, false, true, false, false, false, false, false, false, false, false, false, false, false, false, false, false, false, false] ?_
      exact jm_L_isSo_b1348 _ _ _ _ _ _ _ _ _ ws h
    · rw [if_neg c1] at h
      refine j_iload (pc := 1198) dL_isSo_1198 rfl ?_
      refine j_if_eq (pc := 1200) (tgt := 1348) dL_isSo_1200 (by decide) (fun c2 => ?_) (fun c2 => ?_)
      · rw [if_pos c2] at h
        refine j_mask [true, false, false, false, true, true, true, true, true, true, true, false, false, true, false, false, false, false, false, false, false, false, false, false, false, false, false, false, false, false] ?_
        exact jm_L_isSo_b1348 _ _ _ _ _ _ _ _ _ ws h
      · rw [if_neg c2] at h
        refine j_aload (pc := 1203) dL_isSo_1203 rfl ?_
        refine j_iconst (pc := 1205) dL_isSo_1205 (v := 1) (by decide) ?_
        obtain ⟨x3, e4, h⟩ := obS h
        refine j_iald (pc := 1206) dL_isSo_1206 e4 ?_
        refine j_iconst (pc := 1207) dL_isSo_1207 (v := 4) (by decide) ?_
        refine j_isub (pc := 1208) dL_isSo_1208 ?_
        refine j_iload (pc := 1209) dL_isSo_1209 rfl ?_
        refine j_iload (pc := 1211) dL_isSo_1211 rfl ?_
        refine j_iadd (pc := 1213) dL_isSo_1213 ?_
        refine j_bipush (pc := 1214) dL_isSo_1214 (v := 9) (by decide) ?_
        refine j_irem (pc := 1216) dL_isSo_1216 (by decide) ?_
        refine j_iadd (pc := 1217) dL_isSo_1217 ?_
        refine j_istore_20 (pc := 1218) dL_isSo_1218 (by decide) rfl ?_
        refine j_aload (pc := 1220) dL_isSo_1220 rfl ?_
        refine j_iconst (pc := 1222) dL_isSo_1222 (v := 2) (by decide) ?_
        obtain ⟨x5, e6, h⟩ := obS h
        refine j_iald (pc := 1223) dL_isSo_1223 e6 ?_
        refine j_iconst (pc := 1224) dL_isSo_1224 (v := 4) (by decide) ?_
        refine j_isub (pc := 1225) dL_isSo_1225 ?_
        refine j_iload (pc := 1226) dL_isSo_1226 rfl ?_
        refine j_iconst (pc := 1228) dL_isSo_1228 (v := 2) (by decide) ?_
        refine j_iload (pc := 1229) dL_isSo_1229 rfl ?_
        refine j_imul (pc := 1231) dL_isSo_1231 ?_
        refine j_iadd (pc := 1232) dL_isSo_1232 ?_
        refine j_bipush (pc := 1233) dL_isSo_1233 (v := 9) (by decide) ?_
        refine j_irem (pc := 1235) dL_isSo_1235 (by decide) ?_
        refine j_iadd (pc := 1236) dL_isSo_1236 ?_
        refine j_istore_21 (pc := 1237) dL_isSo_1237 (by decide) rfl ?_
        refine j_bipush (pc := 1239) dL_isSo_1239 (v := 20) (by decide) ?_
        refine j_iload (pc := 1241) dL_isSo_1241 rfl ?_
        refine j_imul (pc := 1243) dL_isSo_1243 ?_
        refine j_iload (pc := 1244) dL_isSo_1244 rfl ?_
        refine j_iadd (pc := 1246) dL_isSo_1246 ?_
        refine j_istore_22 (pc := 1247) dL_isSo_1247 (by decide) rfl ?_
        refine j_iload (pc := 1249) dL_isSo_1249 rfl ?_
        refine j_iload (pc := 1251) dL_isSo_1251 rfl ?_
        obtain ⟨x9, w7, e8, h⟩ := obS2 h
        have ge8 := calSR_of e8
        refine j_callS_g (pc := 1253) (As := [.int ((x3 - 4) + (jrem (i9 + i19) 9)), .int ((x5 - 4) + (jrem (i10 + (2 * i19)) 9))]) (k' := 0) (n' := 0) dL_isSo_1253 (s_L_isIn ge8.1) (jgS lw_644 lw_645 lw_597 lw_643) rfl hy_L_isIn rfl (by decide) (by decide) (Nat.le_of_ble_eq_true rfl) (by decide) (by decide) (by decide) (by decide) (Or.inl ge8.2) ?_
        refine j_if_eq (pc := 1256) (tgt := 1335) dL_isSo_1256 (by decide) (fun c10 => ?_) (fun c10 => ?_)
        · rw [if_pos c10] at h
          refine j_mask [true, true, true, true, true, true, true, true, true, true, true, false, false, false, false, false, false, false, false, true, false, false, false, false, false, false, false, false, false, false] ?_
          exact jm_L_isSo_b1335 (hk1191 := ih) _ _ _ _ _ _ _ _ _ _ _ _ w7 h
        · rw [if_neg c10] at h
          refine j_aload_n (pc := 1259) dL_isSo_1259 rfl ?_
          refine j_iload (pc := 1260) dL_isSo_1260 rfl ?_
          refine j_iload (pc := 1262) dL_isSo_1262 rfl ?_
          refine j_iconst (pc := 1264) dL_isSo_1264 (v := 0) (by decide) ?_
          obtain ⟨x13, w11, e12, h⟩ := obS2 h
          have ge12 := calSR_of e12
          refine j_callV_g (pc := 1265) (As := [.int ((x3 - 4) + (jrem (i9 + i19) 9)), .int ((x5 - 4) + (jrem (i10 + (2 * i19)) 9)), .int 0]) (k' := 0) (n' := 0) dL_isSo_1265 (sn_X10_point (nthr_of ge12.1)) (jgV lw_536 lw_537 lw_538 lw_147 lw_535) rfl hv_X10_point rfl (r_X10_point (nthr_of ge12.1)) rfl (by decide) (by decide) (Nat.le_of_ble_eq_true rfl) (by decide) (by decide) (by decide) (by decide) (Or.inl ge12.2) ?_
          refine j_aload_n (pc := 1268) dL_isSo_1268 rfl ?_
          refine j_iload (pc := 1269) dL_isSo_1269 rfl ?_
          obtain ⟨x16, w14, e15, h⟩ := obS2 h
          have ge15 := calSR_of e15
          refine j_callS_g (pc := 1271) (As := [.ref a1, .int ((20 * ((x5 - 4) + (jrem (i10 + (2 * i19)) 9))) + ((x3 - 4) + (jrem (i9 + i19) 9)))]) (k' := 0) (n' := 0) dL_isSo_1271 (s_L_four ge15.1) (jgS lw_605 lw_606 lw_597 lw_604) rfl hy_L_four rfl (by decide) (by decide) (Nat.le_of_ble_eq_true rfl) (by decide) (by decide) (by decide) (by decide) (Or.inl ge15.2) ?_
          refine j_icmp_ne (pc := 1274) (tgt := 1339) dL_isSo_1274 (by decide) (fun c17 => ?_) (fun c17 => ?_)
          · rw [if_neg c17] at h
            refine j_mask [true, true, true, true, true, true, true, true, true, true, true, false, false, false, false, false, false, false, false, true, false, false, false, false, false, false, false, false, false, false] ?_
            exact jm_L_isSo_b1339 (hk1191 := ih) _ _ _ _ _ _ _ _ _ _ _ _ w14 h
          · rw [if_pos c17] at h
            refine j_aload_n (pc := 1277) dL_isSo_1277 rfl ?_
            refine j_iload (pc := 1278) dL_isSo_1278 rfl ?_
            refine j_iload (pc := 1280) dL_isSo_1280 rfl ?_
            refine j_iconst (pc := 1282) dL_isSo_1282 (v := 1) (by decide) ?_
            obtain ⟨x20, w18, e19, h⟩ := obS2 h
            have ge19 := calSR_of e19
            refine j_callV_g (pc := 1283) (As := [.int ((x3 - 4) + (jrem (i9 + i19) 9)), .int ((x5 - 4) + (jrem (i10 + (2 * i19)) 9)), .int 1]) (k' := 0) (n' := 0) dL_isSo_1283 (sn_X10_point (nthr_of ge19.1)) (jgV lw_536 lw_537 lw_538 lw_147 lw_535) rfl hv_X10_point rfl (r_X10_point (nthr_of ge19.1)) rfl (by decide) (by decide) (Nat.le_of_ble_eq_true rfl) (by decide) (by decide) (by decide) (by decide) (Or.inl ge19.2) ?_
            refine j_aload_n (pc := 1286) dL_isSo_1286 rfl ?_
            refine j_iload (pc := 1287) dL_isSo_1287 rfl ?_
            obtain ⟨x23, w21, e22, h⟩ := obS2 h
            have ge22 := calSR_of e22
            refine j_callS_g (pc := 1289) (As := [.ref a3, .int ((20 * ((x5 - 4) + (jrem (i10 + (2 * i19)) 9))) + ((x3 - 4) + (jrem (i9 + i19) 9)))]) (k' := 0) (n' := 0) dL_isSo_1289 (s_L_firm ge22.1) (jgS lw_608 lw_609 lw_597 lw_607) rfl hy_L_firm rfl (by decide) (by decide) (Nat.le_of_ble_eq_true rfl) (by decide) (by decide) (by decide) (by decide) (Or.inl ge22.2) ?_
            refine j_icmp_ne (pc := 1292) (tgt := 1339) dL_isSo_1292 (by decide) (fun c24 => ?_) (fun c24 => ?_)
            · rw [if_neg c24] at h
              refine j_mask [true, true, true, true, true, true, true, true, true, true, true, false, false, false, false, false, false, false, false, true, false, false, false, false, false, false, false, false, false, false] ?_
              exact jm_L_isSo_b1339 (hk1191 := ih) _ _ _ _ _ _ _ _ _ _ _ _ w21 h
            · rw [if_pos c24] at h
              refine j_aload_n (pc := 1295) dL_isSo_1295 rfl ?_
              refine j_iload (pc := 1296) dL_isSo_1296 rfl ?_
              refine j_iload (pc := 1298) dL_isSo_1298 rfl ?_
              refine j_iconst (pc := 1300) dL_isSo_1300 (v := 2) (by decide) ?_
              obtain ⟨x27, w25, e26, h⟩ := obS2 h
              have ge26 := calSR_of e26
              refine j_callV_g (pc := 1301) (As := [.int ((x3 - 4) + (jrem (i9 + i19) 9)), .int ((x5 - 4) + (jrem (i10 + (2 * i19)) 9)), .int 2]) (k' := 0) (n' := 0) dL_isSo_1301 (sn_X10_point (nthr_of ge26.1)) (jgV lw_536 lw_537 lw_538 lw_147 lw_535) rfl hv_X10_point rfl (r_X10_point (nthr_of ge26.1)) rfl (by decide) (by decide) (Nat.le_of_ble_eq_true rfl) (by decide) (by decide) (by decide) (by decide) (Or.inl ge26.2) ?_
              refine j_aload_n (pc := 1304) dL_isSo_1304 rfl ?_
              refine j_iload (pc := 1305) dL_isSo_1305 rfl ?_
              obtain ⟨x30, w28, e29, h⟩ := obS2 h
              have ge29 := calSR_of e29
              refine j_callS_g (pc := 1307) (As := [.ref a2, .int ((20 * ((x5 - 4) + (jrem (i10 + (2 * i19)) 9))) + ((x3 - 4) + (jrem (i9 + i19) 9)))]) (k' := 0) (n' := 0) dL_isSo_1307 (s_L_four ge29.1) (jgS lw_605 lw_606 lw_597 lw_604) rfl hy_L_four rfl (by decide) (by decide) (Nat.le_of_ble_eq_true rfl) (by decide) (by decide) (by decide) (by decide) (Or.inl ge29.2) ?_
              refine j_icmp_ne (pc := 1310) (tgt := 1339) dL_isSo_1310 (by decide) (fun c31 => ?_) (fun c31 => ?_)
              · rw [if_neg c31] at h
                refine j_mask [true, true, true, true, true, true, true, true, true, true, true, false, false, false, false, false, false, false, false, true, false, false, false, false, false, false, false, false, false, false] ?_
                exact jm_L_isSo_b1339 (hk1191 := ih) _ _ _ _ _ _ _ _ _ _ _ _ w28 h
              · rw [if_pos c31] at h
                refine j_aload_n (pc := 1313) dL_isSo_1313 rfl ?_
                refine j_iload (pc := 1314) dL_isSo_1314 rfl ?_
                refine j_iload (pc := 1316) dL_isSo_1316 rfl ?_
                refine j_iconst (pc := 1318) dL_isSo_1318 (v := 3) (by decide) ?_
                obtain ⟨x34, w32, e33, h⟩ := obS2 h
                have ge33 := calSR_of e33
                refine j_callV_g (pc := 1319) (As := [.int ((x3 - 4) + (jrem (i9 + i19) 9)), .int ((x5 - 4) + (jrem (i10 + (2 * i19)) 9)), .int 3]) (k' := 0) (n' := 0) dL_isSo_1319 (sn_X10_point (nthr_of ge33.1)) (jgV lw_536 lw_537 lw_538 lw_147 lw_535) rfl hv_X10_point rfl (r_X10_point (nthr_of ge33.1)) rfl (by decide) (by decide) (Nat.le_of_ble_eq_true rfl) (by decide) (by decide) (by decide) (by decide) (Or.inl ge33.2) ?_
                refine j_aload_n (pc := 1322) dL_isSo_1322 rfl ?_
                refine j_sipush (pc := 1323) dL_isSo_1323 (v := 400) (by decide) ?_
                refine j_iload (pc := 1326) dL_isSo_1326 rfl ?_
                refine j_iadd (pc := 1328) dL_isSo_1328 ?_
                obtain ⟨x37, w35, e36, h⟩ := obS2 h
                have ge36 := calSR_of e36
                refine j_callS_g (pc := 1329) (As := [.ref a1, .int (400 + ((20 * ((x5 - 4) + (jrem (i10 + (2 * i19)) 9))) + ((x3 - 4) + (jrem (i9 + i19) 9))))]) (k' := 0) (n' := 0) dL_isSo_1329 (s_L_four ge36.1) (jgS lw_605 lw_606 lw_597 lw_604) rfl hy_L_four rfl (by decide) (by decide) (Nat.le_of_ble_eq_true rfl) (by decide) (by decide) (by decide) (by decide) (Or.inl ge36.2) ?_
                refine j_icmp_ne (pc := 1332) (tgt := 1339) dL_isSo_1332 (by decide) (fun c38 => ?_) (fun c38 => ?_)
                · rw [if_neg c38] at h
                  refine j_mask [true, true, true, true, true, true, true, true, true, true, true, false, false, false, false, false, false, false, false, true, false, false, false, false, false, false, false, false, false, false] ?_
                  exact jm_L_isSo_b1339 (hk1191 := ih) _ _ _ _ _ _ _ _ _ _ _ _ w35 h
                · rw [if_pos c38] at h
                  refine j_mask [true, true, true, true, true, true, true, true, true, true, true, false, false, false, false, false, false, false, false, true, false, false, false, false, false, false, false, false, false, false] ?_
                  exact jm_L_isSo_b1335 (hk1191 := ih) _ _ _ _ _ _ _ _ _ _ _ _ w35 h
def m_L_isSo_b1186 (a0 : Nat) (a1 : Nat) (a2 : Nat) (a3 : Nat) (a4 : Nat) (a5 : Nat) (a6 : Nat) (a7 : Nat) (a8 : Nat) (i9 : Int32) (i10 : Int32) (s0 : Int32) (ws : LWd) : Option (Int32 × LWd) :=
  m_L_isSo_l1191 FU a0 a1 a2 a3 a4 a5 a6 a7 a8 i9 i10 s0 0 ws
set_option maxRecDepth 100000 in
set_option maxHeartbeats 4000000 in
theorem jm_L_isSo_b1186 {n0 : Nat} {rr : Int32} {ws' : LWd} (a0 : Nat) (a1 : Nat) (a2 : Nat) (a3 : Nat) (a4 : Nat) (a5 : Nat) (a6 : Nat) (a7 : Nat) (a8 : Nat) (i9 : Int32) (i10 : Int32) (s0 : Int32) (ws : LWd) (h : m_L_isSo_b1186 a0 a1 a2 a3 a4 a5 a6 a7 a8 i9 i10 s0 ws = some (rr, ws')) : JG (.inr none) cL_isSo 30 RL wsL_isSo (some .boolean) "isSo" 11 2 12 n0 (.inl (some (.int rr)), ws') 1186 [some (.ref a0), some (.ref a1), some (.ref a2), some (.ref a3), some (.ref a4), some (.ref a5), some (.ref a6), some (.ref a7), some (.ref a8), some (.int i9), some (.int i10), none, none, none, none, none, none, none, none, none, none, none, none, none, none, none, none, none, none, none] [.int s0] ws 0 0 := by
  unfold m_L_isSo_b1186 at h
  refine j_istore_13 (pc := 1186) dL_isSo_1186 (by decide) rfl ?_
  refine j_iconst (pc := 1188) dL_isSo_1188 (v := 0) (by decide) ?_
  refine j_istore_19 (pc := 1189) dL_isSo_1189 (by decide) rfl ?_
  exact jm_L_isSo_l1191 FU _ _ _ _ _ _ _ _ _ _ _ _ _ ws h
def m_L_isSo_b1185 (a0 : Nat) (a1 : Nat) (a2 : Nat) (a3 : Nat) (a4 : Nat) (a5 : Nat) (a6 : Nat) (a7 : Nat) (a8 : Nat) (i9 : Int32) (i10 : Int32) (ws : LWd) : Option (Int32 × LWd) :=
  m_L_isSo_b1186 a0 a1 a2 a3 a4 a5 a6 a7 a8 i9 i10 0 ws
set_option maxRecDepth 100000 in
set_option maxHeartbeats 4000000 in
theorem jm_L_isSo_b1185 {n0 : Nat} {rr : Int32} {ws' : LWd} (a0 : Nat) (a1 : Nat) (a2 : Nat) (a3 : Nat) (a4 : Nat) (a5 : Nat) (a6 : Nat) (a7 : Nat) (a8 : Nat) (i9 : Int32) (i10 : Int32) (ws : LWd) (h : m_L_isSo_b1185 a0 a1 a2 a3 a4 a5 a6 a7 a8 i9 i10 ws = some (rr, ws')) : JG (.inr none) cL_isSo 30 RL wsL_isSo (some .boolean) "isSo" 11 2 12 n0 (.inl (some (.int rr)), ws') 1185 [some (.ref a0), some (.ref a1), some (.ref a2), some (.ref a3), some (.ref a4), some (.ref a5), some (.ref a6), some (.ref a7), some (.ref a8), some (.int i9), some (.int i10), none, none, none, none, none, none, none, none, none, none, none, none, none, none, none, none, none, none, none] [] ws 0 0 := by
  unfold m_L_isSo_b1185 at h
  refine j_iconst (pc := 1185) dL_isSo_1185 (v := 0) (by decide) ?_
  exact jm_L_isSo_b1186 _ _ _ _ _ _ _ _ _ _ _ _ ws h
def m_L_isSo_b1178 (a0 : Nat) (a1 : Nat) (a2 : Nat) (a3 : Nat) (a4 : Nat) (a5 : Nat) (a6 : Nat) (a7 : Nat) (a8 : Nat) (i9 : Int32) (i10 : Int32) (s0 : Int32) (s1 : Int32) (ws : LWd) : Option (Int32 × LWd) :=
  if s0 = s1 then
    m_L_isSo_b1186 a0 a1 a2 a3 a4 a5 a6 a7 a8 i9 i10 1 ws
  else
    m_L_isSo_b1185 a0 a1 a2 a3 a4 a5 a6 a7 a8 i9 i10 ws
set_option maxRecDepth 100000 in
set_option maxHeartbeats 4000000 in
theorem jm_L_isSo_b1178 {n0 : Nat} {rr : Int32} {ws' : LWd} (a0 : Nat) (a1 : Nat) (a2 : Nat) (a3 : Nat) (a4 : Nat) (a5 : Nat) (a6 : Nat) (a7 : Nat) (a8 : Nat) (i9 : Int32) (i10 : Int32) (s0 : Int32) (s1 : Int32) (ws : LWd) (h : m_L_isSo_b1178 a0 a1 a2 a3 a4 a5 a6 a7 a8 i9 i10 s0 s1 ws = some (rr, ws')) : JG (.inr none) cL_isSo 30 RL wsL_isSo (some .boolean) "isSo" 11 2 12 n0 (.inl (some (.int rr)), ws') 1178 [some (.ref a0), some (.ref a1), some (.ref a2), some (.ref a3), some (.ref a4), some (.ref a5), some (.ref a6), some (.ref a7), some (.ref a8), some (.int i9), some (.int i10), none, none, none, none, none, none, none, none, none, none, none, none, none, none, none, none, none, none, none] [.int s1, .int s0] ws 0 0 := by
  unfold m_L_isSo_b1178 at h
  refine j_icmp_ne (pc := 1178) (tgt := 1185) dL_isSo_1178 (by decide) (fun c1 => ?_) (fun c1 => ?_)
  · rw [if_neg c1] at h
    exact jm_L_isSo_b1185 _ _ _ _ _ _ _ _ _ _ _ ws h
  · rw [if_pos c1] at h
    refine j_iconst (pc := 1181) dL_isSo_1181 (v := 1) (by decide) ?_
    refine j_goto (pc := 1182) (tgt := 1186) dL_isSo_1182 (by decide) ?_
    exact jm_L_isSo_b1186 _ _ _ _ _ _ _ _ _ _ _ _ ws h
def m_L_isSo_b1138 (a0 : Nat) (a1 : Nat) (a2 : Nat) (a3 : Nat) (a4 : Nat) (a5 : Nat) (a6 : Nat) (a7 : Nat) (a8 : Nat) (i9 : Int32) (i10 : Int32) (i12 : Int32) (i13 : Int32) (i16 : Int32) (i17 : Int32) (i18 : Int32) (ws : LWd) : Option (Int32 × LWd) :=
  if i13 = 0 then
    m_L_isSo_b1185 a0 a1 a2 a3 a4 a5 a6 a7 a8 i9 i10 ws
  else
    bn2 (calSR ws (nthr (m_X10_corner a0 i16 ws))) fun x4 w2 =>
    if x4 = ((-1)) then
      bn2 (calSR w2 (m_X10_margin a0 w2)) fun x8 w6 =>
      if i12 = 0 then
        m_L_isSo_b1178 a0 a1 a2 a3 a4 a5 a6 a7 a8 i9 i10 x8 ((-1082130432)) w6
      else
        if i18 = 0 then
          m_L_isSo_b1178 a0 a1 a2 a3 a4 a5 a6 a7 a8 i9 i10 x8 0 w6
        else
          m_L_isSo_b1178 a0 a1 a2 a3 a4 a5 a6 a7 a8 i9 i10 x8 i17 w6
    else
      m_L_isSo_b1185 a0 a1 a2 a3 a4 a5 a6 a7 a8 i9 i10 w2
set_option maxRecDepth 100000 in
set_option maxHeartbeats 4000000 in
theorem jm_L_isSo_b1138 {n0 : Nat} {rr : Int32} {ws' : LWd} (a0 : Nat) (a1 : Nat) (a2 : Nat) (a3 : Nat) (a4 : Nat) (a5 : Nat) (a6 : Nat) (a7 : Nat) (a8 : Nat) (i9 : Int32) (i10 : Int32) (i12 : Int32) (i13 : Int32) (i16 : Int32) (i17 : Int32) (i18 : Int32) (ws : LWd) (h : m_L_isSo_b1138 a0 a1 a2 a3 a4 a5 a6 a7 a8 i9 i10 i12 i13 i16 i17 i18 ws = some (rr, ws')) : JG (.inr none) cL_isSo 30 RL wsL_isSo (some .boolean) "isSo" 11 2 12 n0 (.inl (some (.int rr)), ws') 1138 [some (.ref a0), some (.ref a1), some (.ref a2), some (.ref a3), some (.ref a4), some (.ref a5), some (.ref a6), some (.ref a7), some (.ref a8), some (.int i9), some (.int i10), none, some (.int i12), some (.int i13), none, none, some (.int i16), some (.int i17), some (.int i18), none, none, none, none, none, none, none, none, none, none, none] [] ws 0 0 := by
  unfold m_L_isSo_b1138 at h
  refine j_iload (pc := 1138) dL_isSo_1138 rfl ?_
  refine j_if_eq (pc := 1140) (tgt := 1185) dL_isSo_1140 (by decide) (fun c1 => ?_) (fun c1 => ?_)
  · rw [if_pos c1] at h
    refine j_mask [true, true, true, true, true, true, true, true, true, true, true, false, false, false, false, false, false, false, false, false, false, false, false, false, false, false, false, false, false, false] ?_
    exact jm_L_isSo_b1185 _ _ _ _ _ _ _ _ _ _ _ ws h
  · rw [if_neg c1] at h
    refine j_aload_n (pc := 1143) dL_isSo_1143 rfl ?_
    refine j_iload (pc := 1144) dL_isSo_1144 rfl ?_
    obtain ⟨x4, w2, e3, h⟩ := obS2 h
    have ge3 := calSR_of e3
    refine j_callV_g (pc := 1146) (As := [.int i16]) (k' := 0) (n' := 0) dL_isSo_1146 (sn_X10_corner (nthr_of ge3.1)) (jgV lw_544 lw_545 lw_546 lw_147 lw_543) rfl hv_X10_corner rfl (r_X10_corner (nthr_of ge3.1)) rfl (by decide) (by decide) (Nat.le_of_ble_eq_true rfl) (by decide) (by decide) (by decide) (by decide) (Or.inl ge3.2) ?_
    refine j_iconst (pc := 1149) dL_isSo_1149 (v := (-1)) (by decide) ?_
    refine j_icmp_ne (pc := 1150) (tgt := 1185) dL_isSo_1150 (by decide) (fun c5 => ?_) (fun c5 => ?_)
    · rw [if_neg c5] at h
      refine j_mask [true, true, true, true, true, true, true, true, true, true, true, false, false, false, false, false, false, false, false, false, false, false, false, false, false, false, false, false, false, false] ?_
      exact jm_L_isSo_b1185 _ _ _ _ _ _ _ _ _ _ _ w2 h
    · rw [if_pos c5] at h
      refine j_aload_n (pc := 1153) dL_isSo_1153 rfl ?_
      obtain ⟨x8, w6, e7, h⟩ := obS2 h
      have ge7 := calSR_of e7
      refine j_callV_g (pc := 1154) (As := []) (k' := 0) (n' := 0) dL_isSo_1154 (s_X10_margin ge7.1) (jgV lw_668 lw_669 lw_670 lw_147 lw_667) rfl hv_X10_margin rfl (r_X10_margin ge7.1) rfl (by decide) (by decide) (Nat.le_of_ble_eq_true rfl) (by decide) (by decide) (by decide) (by decide) (Or.inl ge7.2) ?_
      refine j_iload (pc := 1157) dL_isSo_1157 rfl ?_
      refine j_if_ne (pc := 1159) (tgt := 1167) dL_isSo_1159 (by decide) (fun c9 => ?_) (fun c9 => ?_)
      · rw [if_neg c9] at h
        refine j_iload (pc := 1167) dL_isSo_1167 rfl ?_
        refine j_if_eq (pc := 1169) (tgt := 1177) dL_isSo_1169 (by decide) (fun c10 => ?_) (fun c10 => ?_)
        · rw [if_pos c10] at h
          refine j_iconst (pc := 1177) dL_isSo_1177 (v := 0) (by decide) ?_
          refine j_mask [true, true, true, true, true, true, true, true, true, true, true, false, false, false, false, false, false, false, false, false, false, false, false, false, false, false, false, false, false, false] ?_
          exact jm_L_isSo_b1178 _ _ _ _ _ _ _ _ _ _ _ _ _ w6 h
        · rw [if_neg c10] at h
          refine j_iload (pc := 1172) dL_isSo_1172 rfl ?_
          refine j_goto (pc := 1174) (tgt := 1178) dL_isSo_1174 (by decide) ?_
          refine j_mask [true, true, true, true, true, true, true, true, true, true, true, false, false, false, false, false, false, false, false, false, false, false, false, false, false, false, false, false, false, false] ?_
          exact jm_L_isSo_b1178 _ _ _ _ _ _ _ _ _ _ _ _ _ w6 h
      · rw [if_pos c9] at h
        refine j_ldc (pc := 1162) dL_isSo_1162 (v := (-1082130432)) (jwm lw_671) ?_
        refine j_goto (pc := 1164) (tgt := 1178) dL_isSo_1164 (by decide) ?_
        refine j_mask [true, true, true, true, true, true, true, true, true, true, true, false, false, false, false, false, false, false, false, false, false, false, false, false, false, false, false, false, false, false] ?_
        exact jm_L_isSo_b1178 _ _ _ _ _ _ _ _ _ _ _ _ _ w6 h
def m_L_isSo_b1131 (k806 : Nat → Nat → Nat → Nat → Nat → Nat → Nat → Nat → Nat → Int32 → Int32 → Int32 → Int32 → Int32 → Int32 → Int32 → Int32 → Int32 → Int32 → LWd → Option (Int32 × LWd)) (a0 : Nat) (a1 : Nat) (a2 : Nat) (a3 : Nat) (a4 : Nat) (a5 : Nat) (a6 : Nat) (a7 : Nat) (a8 : Nat) (i9 : Int32) (i10 : Int32) (i11 : Int32) (i12 : Int32) (i13 : Int32) (i15 : Int32) (i16 : Int32) (i17 : Int32) (i18 : Int32) (i19 : Int32) (ws : LWd) : Option (Int32 × LWd) :=
  k806 a0 a1 a2 a3 a4 a5 a6 a7 a8 i9 i10 i11 i12 i13 i19 i15 i16 i17 i18 ws
set_option maxRecDepth 100000 in
set_option maxHeartbeats 4000000 in
theorem jm_L_isSo_b1131 {n0 : Nat} {rr : Int32} {ws' : LWd} {k806 : Nat → Nat → Nat → Nat → Nat → Nat → Nat → Nat → Nat → Int32 → Int32 → Int32 → Int32 → Int32 → Int32 → Int32 → Int32 → Int32 → Int32 → LWd → Option (Int32 × LWd)} (hk806 : ∀ (a0 : Nat) (a1 : Nat) (a2 : Nat) (a3 : Nat) (a4 : Nat) (a5 : Nat) (a6 : Nat) (a7 : Nat) (a8 : Nat) (i9 : Int32) (i10 : Int32) (i11 : Int32) (i12 : Int32) (i13 : Int32) (i14 : Int32) (i15 : Int32) (i16 : Int32) (i17 : Int32) (i18 : Int32) (ws : LWd), k806 a0 a1 a2 a3 a4 a5 a6 a7 a8 i9 i10 i11 i12 i13 i14 i15 i16 i17 i18 ws = some (rr, ws') → JG (.inr none) cL_isSo 30 RL wsL_isSo (some .boolean) "isSo" 11 2 12 n0 (.inl (some (.int rr)), ws') 806 [some (.ref a0), some (.ref a1), some (.ref a2), some (.ref a3), some (.ref a4), some (.ref a5), some (.ref a6), some (.ref a7), some (.ref a8), some (.int i9), some (.int i10), some (.int i11), some (.int i12), some (.int i13), some (.int i14), some (.int i15), some (.int i16), some (.int i17), some (.int i18), none, none, none, none, none, none, none, none, none, none, none] [] ws 0 0) (a0 : Nat) (a1 : Nat) (a2 : Nat) (a3 : Nat) (a4 : Nat) (a5 : Nat) (a6 : Nat) (a7 : Nat) (a8 : Nat) (i9 : Int32) (i10 : Int32) (i11 : Int32) (i12 : Int32) (i13 : Int32) (i15 : Int32) (i16 : Int32) (i17 : Int32) (i18 : Int32) (i19 : Int32) (ws : LWd) (h : m_L_isSo_b1131 k806 a0 a1 a2 a3 a4 a5 a6 a7 a8 i9 i10 i11 i12 i13 i15 i16 i17 i18 i19 ws = some (rr, ws')) : JG (.inr none) cL_isSo 30 RL wsL_isSo (some .boolean) "isSo" 11 2 12 n0 (.inl (some (.int rr)), ws') 1131 [some (.ref a0), some (.ref a1), some (.ref a2), some (.ref a3), some (.ref a4), some (.ref a5), some (.ref a6), some (.ref a7), some (.ref a8), some (.int i9), some (.int i10), some (.int i11), some (.int i12), some (.int i13), none, some (.int i15), some (.int i16), some (.int i17), some (.int i18), some (.int i19), none, none, none, none, none, none, none, none, none, none] [] ws 0 0 := by
  unfold m_L_isSo_b1131 at h
  refine j_iload (pc := 1131) dL_isSo_1131 rfl ?_
  refine j_istore_14 (pc := 1133) dL_isSo_1133 (by decide) rfl ?_
  refine j_goto (pc := 1135) (tgt := 806) dL_isSo_1135 (by decide) ?_
  refine j_mask [true, true, true, true, true, true, true, true, true, true, true, true, true, true, true, true, true, true, true, false, false, false, false, false, false, false, false, false, false, false] ?_
  exact hk806 _ _ _ _ _ _ _ _ _ _ _ _ _ _ _ _ _ _ _ ws h
def m_L_isSo_b1129 (k806 : Nat → Nat → Nat → Nat → Nat → Nat → Nat → Nat → Nat → Int32 → Int32 → Int32 → Int32 → Int32 → Int32 → Int32 → Int32 → Int32 → Int32 → LWd → Option (Int32 × LWd)) (a0 : Nat) (a1 : Nat) (a2 : Nat) (a3 : Nat) (a4 : Nat) (a5 : Nat) (a6 : Nat) (a7 : Nat) (a8 : Nat) (i9 : Int32) (i10 : Int32) (i11 : Int32) (i12 : Int32) (i13 : Int32) (i15 : Int32) (i16 : Int32) (i17 : Int32) (i19 : Int32) (s0 : Int32) (ws : LWd) : Option (Int32 × LWd) :=
  m_L_isSo_b1131 k806 a0 a1 a2 a3 a4 a5 a6 a7 a8 i9 i10 i11 i12 i13 i15 i16 i17 s0 i19 ws
set_option maxRecDepth 100000 in
set_option maxHeartbeats 4000000 in
theorem jm_L_isSo_b1129 {n0 : Nat} {rr : Int32} {ws' : LWd} {k806 : Nat → Nat → Nat → Nat → Nat → Nat → Nat → Nat → Nat → Int32 → Int32 → Int32 → Int32 → Int32 → Int32 → Int32 → Int32 → Int32 → Int32 → LWd → Option (Int32 × LWd)} (hk806 : ∀ (a0 : Nat) (a1 : Nat) (a2 : Nat) (a3 : Nat) (a4 : Nat) (a5 : Nat) (a6 : Nat) (a7 : Nat) (a8 : Nat) (i9 : Int32) (i10 : Int32) (i11 : Int32) (i12 : Int32) (i13 : Int32) (i14 : Int32) (i15 : Int32) (i16 : Int32) (i17 : Int32) (i18 : Int32) (ws : LWd), k806 a0 a1 a2 a3 a4 a5 a6 a7 a8 i9 i10 i11 i12 i13 i14 i15 i16 i17 i18 ws = some (rr, ws') → JG (.inr none) cL_isSo 30 RL wsL_isSo (some .boolean) "isSo" 11 2 12 n0 (.inl (some (.int rr)), ws') 806 [some (.ref a0), some (.ref a1), some (.ref a2), some (.ref a3), some (.ref a4), some (.ref a5), some (.ref a6), some (.ref a7), some (.ref a8), some (.int i9), some (.int i10), some (.int i11), some (.int i12), some (.int i13), some (.int i14), some (.int i15), some (.int i16), some (.int i17), some (.int i18), none, none, none, none, none, none, none, none, none, none, none] [] ws 0 0) (a0 : Nat) (a1 : Nat) (a2 : Nat) (a3 : Nat) (a4 : Nat) (a5 : Nat) (a6 : Nat) (a7 : Nat) (a8 : Nat) (i9 : Int32) (i10 : Int32) (i11 : Int32) (i12 : Int32) (i13 : Int32) (i15 : Int32) (i16 : Int32) (i17 : Int32) (i19 : Int32) (s0 : Int32) (ws : LWd) (h : m_L_isSo_b1129 k806 a0 a1 a2 a3 a4 a5 a6 a7 a8 i9 i10 i11 i12 i13 i15 i16 i17 i19 s0 ws = some (rr, ws')) : JG (.inr none) cL_isSo 30 RL wsL_isSo (some .boolean) "isSo" 11 2 12 n0 (.inl (some (.int rr)), ws') 1129 [some (.ref a0), some (.ref a1), some (.ref a2), some (.ref a3), some (.ref a4), some (.ref a5), some (.ref a6), some (.ref a7), some (.ref a8), some (.int i9), some (.int i10), some (.int i11), some (.int i12), some (.int i13), none, some (.int i15), some (.int i16), some (.int i17), none, some (.int i19), none, none, none, none, none, none, none, none, none, none] [.int s0] ws 0 0 := by
  unfold m_L_isSo_b1129 at h
  refine j_istore_18 (pc := 1129) dL_isSo_1129 (by decide) rfl ?_
  exact jm_L_isSo_b1131 (hk806 := hk806) _ _ _ _ _ _ _ _ _ _ _ _ _ _ _ _ _ _ _ ws h
def m_L_isSo_b1124 (k806 : Nat → Nat → Nat → Nat → Nat → Nat → Nat → Nat → Nat → Int32 → Int32 → Int32 → Int32 → Int32 → Int32 → Int32 → Int32 → Int32 → Int32 → LWd → Option (Int32 × LWd)) (a0 : Nat) (a1 : Nat) (a2 : Nat) (a3 : Nat) (a4 : Nat) (a5 : Nat) (a6 : Nat) (a7 : Nat) (a8 : Nat) (i9 : Int32) (i10 : Int32) (i11 : Int32) (i12 : Int32) (i13 : Int32) (i15 : Int32) (i16 : Int32) (i17 : Int32) (i19 : Int32) (ws : LWd) : Option (Int32 × LWd) :=
  m_L_isSo_b1129 k806 a0 a1 a2 a3 a4 a5 a6 a7 a8 i9 i10 i11 i12 i13 i15 i16 i17 i19 1 ws
set_option maxRecDepth 100000 in
set_option maxHeartbeats 4000000 in
theorem jm_L_isSo_b1124 {n0 : Nat} {rr : Int32} {ws' : LWd} {k806 : Nat → Nat → Nat → Nat → Nat → Nat → Nat → Nat → Nat → Int32 → Int32 → Int32 → Int32 → Int32 → Int32 → Int32 → Int32 → Int32 → Int32 → LWd → Option (Int32 × LWd)} (hk806 : ∀ (a0 : Nat) (a1 : Nat) (a2 : Nat) (a3 : Nat) (a4 : Nat) (a5 : Nat) (a6 : Nat) (a7 : Nat) (a8 : Nat) (i9 : Int32) (i10 : Int32) (i11 : Int32) (i12 : Int32) (i13 : Int32) (i14 : Int32) (i15 : Int32) (i16 : Int32) (i17 : Int32) (i18 : Int32) (ws : LWd), k806 a0 a1 a2 a3 a4 a5 a6 a7 a8 i9 i10 i11 i12 i13 i14 i15 i16 i17 i18 ws = some (rr, ws') → JG (.inr none) cL_isSo 30 RL wsL_isSo (some .boolean) "isSo" 11 2 12 n0 (.inl (some (.int rr)), ws') 806 [some (.ref a0), some (.ref a1), some (.ref a2), some (.ref a3), some (.ref a4), some (.ref a5), some (.ref a6), some (.ref a7), some (.ref a8), some (.int i9), some (.int i10), some (.int i11), some (.int i12), some (.int i13), some (.int i14), some (.int i15), some (.int i16), some (.int i17), some (.int i18), none, none, none, none, none, none, none, none, none, none, none] [] ws 0 0) (a0 : Nat) (a1 : Nat) (a2 : Nat) (a3 : Nat) (a4 : Nat) (a5 : Nat) (a6 : Nat) (a7 : Nat) (a8 : Nat) (i9 : Int32) (i10 : Int32) (i11 : Int32) (i12 : Int32) (i13 : Int32) (i15 : Int32) (i16 : Int32) (i17 : Int32) (i19 : Int32) (ws : LWd) (h : m_L_isSo_b1124 k806 a0 a1 a2 a3 a4 a5 a6 a7 a8 i9 i10 i11 i12 i13 i15 i16 i17 i19 ws = some (rr, ws')) : JG (.inr none) cL_isSo 30 RL wsL_isSo (some .boolean) "isSo" 11 2 12 n0 (.inl (some (.int rr)), ws') 1124 [some (.ref a0), some (.ref a1), some (.ref a2), some (.ref a3), some (.ref a4), some (.ref a5), some (.ref a6), some (.ref a7), some (.ref a8), some (.int i9), some (.int i10), some (.int i11), some (.int i12), some (.int i13), none, some (.int i15), some (.int i16), some (.int i17), none, some (.int i19), none, none, none, none, none, none, none, none, none, none] [] ws 0 0 := by
  unfold m_L_isSo_b1124 at h
  refine j_iconst (pc := 1124) dL_isSo_1124 (v := 1) (by decide) ?_
  refine j_goto (pc := 1125) (tgt := 1129) dL_isSo_1125 (by decide) ?_
  exact jm_L_isSo_b1129 (hk806 := hk806) _ _ _ _ _ _ _ _ _ _ _ _ _ _ _ _ _ _ _ ws h
def m_L_isSo_b1101 (k806 : Nat → Nat → Nat → Nat → Nat → Nat → Nat → Nat → Nat → Int32 → Int32 → Int32 → Int32 → Int32 → Int32 → Int32 → Int32 → Int32 → Int32 → LWd → Option (Int32 × LWd)) (a0 : Nat) (a1 : Nat) (a2 : Nat) (a3 : Nat) (a4 : Nat) (a5 : Nat) (a6 : Nat) (a7 : Nat) (a8 : Nat) (i9 : Int32) (i10 : Int32) (i11 : Int32) (i12 : Int32) (i13 : Int32) (i14 : Int32) (i15 : Int32) (i16 : Int32) (i18 : Int32) (i19 : Int32) (s0 : Int32) (ws : LWd) : Option (Int32 × LWd) :=
  if i18 = 0 then
    bn2 (calSR ws (m_L_isEdge a5 a6 i11 i19 i14 ws)) fun x4 w2 =>
    if x4 = 0 then
      m_L_isSo_b1124 k806 a0 a1 a2 a3 a4 a5 a6 a7 a8 i9 i10 i11 i12 i13 i15 i16 s0 i19 w2
    else
      m_L_isSo_b1129 k806 a0 a1 a2 a3 a4 a5 a6 a7 a8 i9 i10 i11 i12 i13 i15 i16 s0 i19 0 w2
  else
    m_L_isSo_b1124 k806 a0 a1 a2 a3 a4 a5 a6 a7 a8 i9 i10 i11 i12 i13 i15 i16 s0 i19 ws
set_option maxRecDepth 100000 in
set_option maxHeartbeats 4000000 in
theorem jm_L_isSo_b1101 {n0 : Nat} {rr : Int32} {ws' : LWd} {k806 : Nat → Nat → Nat → Nat → Nat → Nat → Nat → Nat → Nat → Int32 → Int32 → Int32 → Int32 → Int32 → Int32 → Int32 → Int32 → Int32 → Int32 → LWd → Option (Int32 × LWd)} (hk806 : ∀ (a0 : Nat) (a1 : Nat) (a2 : Nat) (a3 : Nat) (a4 : Nat) (a5 : Nat) (a6 : Nat) (a7 : Nat) (a8 : Nat) (i9 : Int32) (i10 : Int32) (i11 : Int32) (i12 : Int32) (i13 : Int32) (i14 : Int32) (i15 : Int32) (i16 : Int32) (i17 : Int32) (i18 : Int32) (ws : LWd), k806 a0 a1 a2 a3 a4 a5 a6 a7 a8 i9 i10 i11 i12 i13 i14 i15 i16 i17 i18 ws = some (rr, ws') → JG (.inr none) cL_isSo 30 RL wsL_isSo (some .boolean) "isSo" 11 2 12 n0 (.inl (some (.int rr)), ws') 806 [some (.ref a0), some (.ref a1), some (.ref a2), some (.ref a3), some (.ref a4), some (.ref a5), some (.ref a6), some (.ref a7), some (.ref a8), some (.int i9), some (.int i10), some (.int i11), some (.int i12), some (.int i13), some (.int i14), some (.int i15), some (.int i16), some (.int i17), some (.int i18), none, none, none, none, none, none, none, none, none, none, none] [] ws 0 0) (a0 : Nat) (a1 : Nat) (a2 : Nat) (a3 : Nat) (a4 : Nat) (a5 : Nat) (a6 : Nat) (a7 : Nat) (a8 : Nat) (i9 : Int32) (i10 : Int32) (i11 : Int32) (i12 : Int32) (i13 : Int32) (i14 : Int32) (i15 : Int32) (i16 : Int32) (i18 : Int32) (i19 : Int32) (s0 : Int32) (ws : LWd) (h : m_L_isSo_b1101 k806 a0 a1 a2 a3 a4 a5 a6 a7 a8 i9 i10 i11 i12 i13 i14 i15 i16 i18 i19 s0 ws = some (rr, ws')) : JG (.inr none) cL_isSo 30 RL wsL_isSo (some .boolean) "isSo" 11 2 12 n0 (.inl (some (.int rr)), ws') 1101 [some (.ref a0), some (.ref a1), some (.ref a2), some (.ref a3), some (.ref a4), some (.ref a5), some (.ref a6), some (.ref a7), some (.ref a8), some (.int i9), some (.int i10), some (.int i11), some (.int i12), some (.int i13), some (.int i14), some (.int i15), some (.int i16), none, some (.int i18), some (.int i19), none, none, none, none, none, none, none, none, none, none] [.int s0] ws 0 0 := by
  unfold m_L_isSo_b1101 at h
  refine j_istore_17 (pc := 1101) dL_isSo_1101 (by decide) rfl ?_
  refine j_iload (pc := 1103) dL_isSo_1103 rfl ?_
  refine j_if_ne (pc := 1105) (tgt := 1124) dL_isSo_1105 (by decide) (fun c1 => ?_) (fun c1 => ?_)
  · rw [if_neg c1] at h
    refine j_mask [true, true, true, true, true, true, true, true, true, true, true, true, true, true, false, true, true, true, false, true, false, false, false, false, false, false, false, false, false, false] ?_
    exact jm_L_isSo_b1124 (hk806 := hk806) _ _ _ _ _ _ _ _ _ _ _ _ _ _ _ _ _ _ ws h
  · rw [if_pos c1] at h
    refine j_aload (pc := 1108) dL_isSo_1108 rfl ?_
    refine j_aload (pc := 1110) dL_isSo_1110 rfl ?_
    refine j_iload (pc := 1112) dL_isSo_1112 rfl ?_
    refine j_iload (pc := 1114) dL_isSo_1114 rfl ?_
    refine j_iload (pc := 1116) dL_isSo_1116 rfl ?_
    obtain ⟨x4, w2, e3, h⟩ := obS2 h
    have ge3 := calSR_of e3
    refine j_callS_g (pc := 1118) (As := [.ref a5, .ref a6, .int i11, .int i19, .int i14]) (k' := 0) (n' := 0) dL_isSo_1118 (s_L_isEdge ge3.1) (jgS lw_673 lw_674 lw_597 lw_672) rfl hy_L_isEdge rfl (by decide) (by decide) (Nat.le_of_ble_eq_true rfl) (by decide) (by decide) (by decide) (by decide) (Or.inl ge3.2) ?_
    refine j_if_ne (pc := 1121) (tgt := 1128) dL_isSo_1121 (by decide) (fun c5 => ?_) (fun c5 => ?_)
    · rw [if_neg c5] at h
      refine j_iconst (pc := 1128) dL_isSo_1128 (v := 0) (by decide) ?_
      refine j_mask [true, true, true, true, true, true, true, true, true, true, true, true, true, true, false, true, true, true, false, true, false, false, false, false, false, false, false, false, false, false] ?_
      exact jm_L_isSo_b1129 (hk806 := hk806) _ _ _ _ _ _ _ _ _ _ _ _ _ _ _ _ _ _ _ w2 h
    · rw [if_pos c5] at h
      refine j_mask [true, true, true, true, true, true, true, true, true, true, true, true, true, true, false, true, true, true, false, true, false, false, false, false, false, false, false, false, false, false] ?_
      exact jm_L_isSo_b1124 (hk806 := hk806) _ _ _ _ _ _ _ _ _ _ _ _ _ _ _ _ _ _ w2 h
def m_L_isSo_b1094 (k806 : Nat → Nat → Nat → Nat → Nat → Nat → Nat → Nat → Nat → Int32 → Int32 → Int32 → Int32 → Int32 → Int32 → Int32 → Int32 → Int32 → Int32 → LWd → Option (Int32 × LWd)) (a0 : Nat) (a1 : Nat) (a2 : Nat) (a3 : Nat) (a4 : Nat) (a5 : Nat) (a6 : Nat) (a7 : Nat) (a8 : Nat) (i9 : Int32) (i10 : Int32) (i11 : Int32) (i12 : Int32) (i13 : Int32) (i14 : Int32) (i15 : Int32) (i16 : Int32) (i18 : Int32) (i19 : Int32) (i29 : Int32) (ws : LWd) : Option (Int32 × LWd) :=
  m_L_isSo_b1101 k806 a0 a1 a2 a3 a4 a5 a6 a7 a8 i9 i10 i11 i12 i13 i14 i15 i16 i18 i19 i29 ws
set_option maxRecDepth 100000 in
set_option maxHeartbeats 4000000 in
theorem jm_L_isSo_b1094 {n0 : Nat} {rr : Int32} {ws' : LWd} {k806 : Nat → Nat → Nat → Nat → Nat → Nat → Nat → Nat → Nat → Int32 → Int32 → Int32 → Int32 → Int32 → Int32 → Int32 → Int32 → Int32 → Int32 → LWd → Option (Int32 × LWd)} (hk806 : ∀ (a0 : Nat) (a1 : Nat) (a2 : Nat) (a3 : Nat) (a4 : Nat) (a5 : Nat) (a6 : Nat) (a7 : Nat) (a8 : Nat) (i9 : Int32) (i10 : Int32) (i11 : Int32) (i12 : Int32) (i13 : Int32) (i14 : Int32) (i15 : Int32) (i16 : Int32) (i17 : Int32) (i18 : Int32) (ws : LWd), k806 a0 a1 a2 a3 a4 a5 a6 a7 a8 i9 i10 i11 i12 i13 i14 i15 i16 i17 i18 ws = some (rr, ws') → JG (.inr none) cL_isSo 30 RL wsL_isSo (some .boolean) "isSo" 11 2 12 n0 (.inl (some (.int rr)), ws') 806 [some (.ref a0), some (.ref a1), some (.ref a2), some (.ref a3), some (.ref a4), some (.ref a5), some (.ref a6), some (.ref a7), some (.ref a8), some (.int i9), some (.int i10), some (.int i11), some (.int i12), some (.int i13), some (.int i14), some (.int i15), some (.int i16), some (.int i17), some (.int i18), none, none, none, none, none, none, none, none, none, none, none] [] ws 0 0) (a0 : Nat) (a1 : Nat) (a2 : Nat) (a3 : Nat) (a4 : Nat) (a5 : Nat) (a6 : Nat) (a7 : Nat) (a8 : Nat) (i9 : Int32) (i10 : Int32) (i11 : Int32) (i12 : Int32) (i13 : Int32) (i14 : Int32) (i15 : Int32) (i16 : Int32) (i18 : Int32) (i19 : Int32) (i29 : Int32) (ws : LWd) (h : m_L_isSo_b1094 k806 a0 a1 a2 a3 a4 a5 a6 a7 a8 i9 i10 i11 i12 i13 i14 i15 i16 i18 i19 i29 ws = some (rr, ws')) : JG (.inr none) cL_isSo 30 RL wsL_isSo (some .boolean) "isSo" 11 2 12 n0 (.inl (some (.int rr)), ws') 1094 [some (.ref a0), some (.ref a1), some (.ref a2), some (.ref a3), some (.ref a4), some (.ref a5), some (.ref a6), some (.ref a7), some (.ref a8), some (.int i9), some (.int i10), some (.int i11), some (.int i12), some (.int i13), some (.int i14), some (.int i15), some (.int i16), none, some (.int i18), some (.int i19), none, none, none, none, none, none, none, none, none, some (.int i29)] [] ws 0 0 := by
  unfold m_L_isSo_b1094 at h
  refine j_iload (pc := 1094) dL_isSo_1094 rfl ?_
  refine j_goto (pc := 1096) (tgt := 1101) dL_isSo_1096 (by decide) ?_
  refine j_mask [true, true, true, true, true, true, true, true, true, true, true, true, true, true, true, true, true, false, true, true, false, false, false, false, false, false, false, false, false, false] ?_
  exact jm_L_isSo_b1101 (hk806 := hk806) _ _ _ _ _ _ _ _ _ _ _ _ _ _ _ _ _ _ _ _ ws h
def m_L_isSo_b897 (k806 : Nat → Nat → Nat → Nat → Nat → Nat → Nat → Nat → Nat → Int32 → Int32 → Int32 → Int32 → Int32 → Int32 → Int32 → Int32 → Int32 → Int32 → LWd → Option (Int32 × LWd)) (k867 : Nat → Nat → Nat → Nat → Nat → Nat → Nat → Nat → Nat → Int32 → Int32 → Int32 → Int32 → Int32 → Int32 → Int32 → Int32 → Int32 → Int32 → Int32 → Int32 → LWd → Option (Int32 × LWd)) (a0 : Nat) (a1 : Nat) (a2 : Nat) (a3 : Nat) (a4 : Nat) (a5 : Nat) (a6 : Nat) (a7 : Nat) (a8 : Nat) (i9 : Int32) (i10 : Int32) (i11 : Int32) (i12 : Int32) (i13 : Int32) (i14 : Int32) (i15 : Int32) (i16 : Int32) (i17 : Int32) (i18 : Int32) (i20 : Int32) (s0 : Int32) (ws : LWd) : Option (Int32 × LWd) :=
  k867 a0 a1 a2 a3 a4 a5 a6 a7 a8 i9 i10 i11 i12 i13 i14 i15 i16 i17 i18 s0 (i20 + 1) ws
set_option maxRecDepth 100000 in
set_option maxHeartbeats 4000000 in
theorem jm_L_isSo_b897 {n0 : Nat} {rr : Int32} {ws' : LWd} {k806 : Nat → Nat → Nat → Nat → Nat → Nat → Nat → Nat → Nat → Int32 → Int32 → Int32 → Int32 → Int32 → Int32 → Int32 → Int32 → Int32 → Int32 → LWd → Option (Int32 × LWd)} {k867 : Nat → Nat → Nat → Nat → Nat → Nat → Nat → Nat → Nat → Int32 → Int32 → Int32 → Int32 → Int32 → Int32 → Int32 → Int32 → Int32 → Int32 → Int32 → Int32 → LWd → Option (Int32 × LWd)} (hk806 : ∀ (a0 : Nat) (a1 : Nat) (a2 : Nat) (a3 : Nat) (a4 : Nat) (a5 : Nat) (a6 : Nat) (a7 : Nat) (a8 : Nat) (i9 : Int32) (i10 : Int32) (i11 : Int32) (i12 : Int32) (i13 : Int32) (i14 : Int32) (i15 : Int32) (i16 : Int32) (i17 : Int32) (i18 : Int32) (ws : LWd), k806 a0 a1 a2 a3 a4 a5 a6 a7 a8 i9 i10 i11 i12 i13 i14 i15 i16 i17 i18 ws = some (rr, ws') → JG (.inr none) cL_isSo 30 RL wsL_isSo (some .boolean) "isSo" 11 2 12 n0 (.inl (some (.int rr)), ws') 806 [some (.ref a0), some (.ref a1), some (.ref a2), some (.ref a3), some (.ref a4), some (.ref a5), some (.ref a6), some (.ref a7), some (.ref a8), some (.int i9), some (.int i10), some (.int i11), some (.int i12), some (.int i13), some (.int i14), some (.int i15), some (.int i16), some (.int i17), some (.int i18), none, none, none, none, none, none, none, none, none, none, none] [] ws 0 0) (hk867 : ∀ (a0 : Nat) (a1 : Nat) (a2 : Nat) (a3 : Nat) (a4 : Nat) (a5 : Nat) (a6 : Nat) (a7 : Nat) (a8 : Nat) (i9 : Int32) (i10 : Int32) (i11 : Int32) (i12 : Int32) (i13 : Int32) (i14 : Int32) (i15 : Int32) (i16 : Int32) (i17 : Int32) (i18 : Int32) (i19 : Int32) (i20 : Int32) (ws : LWd), k867 a0 a1 a2 a3 a4 a5 a6 a7 a8 i9 i10 i11 i12 i13 i14 i15 i16 i17 i18 i19 i20 ws = some (rr, ws') → JG (.inr none) cL_isSo 30 RL wsL_isSo (some .boolean) "isSo" 11 2 12 n0 (.inl (some (.int rr)), ws') 867 [some (.ref a0), some (.ref a1), some (.ref a2), some (.ref a3), some (.ref a4), some (.ref a5), some (.ref a6), some (.ref a7), some (.ref a8), some (.int i9), some (.int i10), some (.int i11), some (.int i12), some (.int i13), some (.int i14), some (.int i15), some (.int i16), some (.int i17), some (.int i18), some (.int i19), some (.int i20), none, none, none, none, none, none, none, none, none] [] ws 0 0) (a0 : Nat) (a1 : Nat) (a2 : Nat) (a3 : Nat) (a4 : Nat) (a5 : Nat) (a6 : Nat) (a7 : Nat) (a8 : Nat) (i9 : Int32) (i10 : Int32) (i11 : Int32) (i12 : Int32) (i13 : Int32) (i14 : Int32) (i15 : Int32) (i16 : Int32) (i17 : Int32) (i18 : Int32) (i20 : Int32) (s0 : Int32) (ws : LWd) (h : m_L_isSo_b897 k806 k867 a0 a1 a2 a3 a4 a5 a6 a7 a8 i9 i10 i11 i12 i13 i14 i15 i16 i17 i18 i20 s0 ws = some (rr, ws')) : JG (.inr none) cL_isSo 30 RL wsL_isSo (some .boolean) "isSo" 11 2 12 n0 (.inl (some (.int rr)), ws') 897 [some (.ref a0), some (.ref a1), some (.ref a2), some (.ref a3), some (.ref a4), some (.ref a5), some (.ref a6), some (.ref a7), some (.ref a8), some (.int i9), some (.int i10), some (.int i11), some (.int i12), some (.int i13), some (.int i14), some (.int i15), some (.int i16), some (.int i17), some (.int i18), none, some (.int i20), none, none, none, none, none, none, none, none, none] [.int s0] ws 0 0 := by
  unfold m_L_isSo_b897 at h
  refine j_istore_19 (pc := 897) dL_isSo_897 (by decide) rfl ?_
  refine j_iinc_20 (pc := 899) dL_isSo_899 (y := i20 + 1) rfl (by decide) rfl ?_
  refine j_goto (pc := 902) (tgt := 867) dL_isSo_902 (by decide) ?_
  exact hk867 _ _ _ _ _ _ _ _ _ _ _ _ _ _ _ _ _ _ _ _ _ ws h
def m_L_isSo_l867 (k806 : Nat → Nat → Nat → Nat → Nat → Nat → Nat → Nat → Nat → Int32 → Int32 → Int32 → Int32 → Int32 → Int32 → Int32 → Int32 → Int32 → Int32 → LWd → Option (Int32 × LWd)) : Nat → Nat → Nat → Nat → Nat → Nat → Nat → Nat → Nat → Nat → Int32 → Int32 → Int32 → Int32 → Int32 → Int32 → Int32 → Int32 → Int32 → Int32 → Int32 → Int32 → LWd → Option (Int32 × LWd)
  | 0, _, _, _, _, _, _, _, _, _, _, _, _, _, _, _, _, _, _, _, _, _, _ => none
  | fu + 1, a0, a1, a2, a3, a4, a5, a6, a7, a8, i9, i10, i11, i12, i13, i14, i15, i16, i17, i18, i19, i20, ws =>
    if 6 ≤ i20 then
      if i19 < 0 then
        m_L_isSo_b1131 k806 a0 a1 a2 a3 a4 a5 a6 a7 a8 i9 i10 i11 i12 i13 i15 i16 i17 i18 i19 ws
      else
        (aI ws a8 4).bind fun x3 =>
        (aI ws a8 1).bind fun x5 =>
        (aI ws a8 4).bind fun x7 =>
        (aI ws a8 5).bind fun x9 =>
        (aI ws a5 i14).bind fun x11 =>
        (aI ws a8 2).bind fun x13 =>
        (aI ws a8 4).bind fun x15 =>
        (aI ws a8 6).bind fun x17 =>
        (aI ws a6 i14).bind fun x19 =>
        (aI ws a5 i19).bind fun x21 =>
        (aI ws a5 i14).bind fun x23 =>
        (aI ws a6 i19).bind fun x25 =>
        (aI ws a6 i14).bind fun x27 =>
        (aI ws a5 i19).bind fun x29 =>
        (aI ws a5 i14).bind fun x31 =>
        (aI ws a5 i19).bind fun x33 =>
        (aI ws a5 i14).bind fun x35 =>
        (aI ws a6 i19).bind fun x37 =>
        (aI ws a6 i14).bind fun x39 =>
        (aI ws a6 i19).bind fun x41 =>
        (aI ws a6 i14).bind fun x43 =>
        bn2 (calSR ws (m_L_bits ((((Int32.toInt64 (x21 - x23)) * (Int32.toInt64 ((((10 + x3) * x13) + (x15 * x17)) - ((10 + x3) * x19)))) - ((Int32.toInt64 (x25 - x27)) * (Int32.toInt64 ((((10 + x3) * x5) + (x7 * x9)) - ((10 + x3) * x11))))) * (((Int32.toInt64 (x21 - x23)) * (Int32.toInt64 ((((10 + x3) * x13) + (x15 * x17)) - ((10 + x3) * x19)))) - ((Int32.toInt64 (x25 - x27)) * (Int32.toInt64 ((((10 + x3) * x5) + (x7 * x9)) - ((10 + x3) * x11)))))) (((Int32.toInt64 (((x29 - x31) * (x33 - x35)) + ((x37 - x39) * (x41 - x43)))) * (Int32.toInt64 (10 + x3))) * (Int32.toInt64 (10 + x3))) ws)) fun x47 w45 =>
        if i16 = 1 then
          m_L_isSo_b1094 k806 a0 a1 a2 a3 a4 a5 a6 a7 a8 i9 i10 i11 i12 i13 i14 i15 i16 i18 i19 x47 w45
        else
          if i17 ≤ x47 then
            m_L_isSo_b1101 k806 a0 a1 a2 a3 a4 a5 a6 a7 a8 i9 i10 i11 i12 i13 i14 i15 i16 i18 i19 i17 w45
          else
            m_L_isSo_b1094 k806 a0 a1 a2 a3 a4 a5 a6 a7 a8 i9 i10 i11 i12 i13 i14 i15 i16 i18 i19 x47 w45
    else
      bn2 (calSR ws (m_L_isEdge a5 a6 i11 i14 i20 ws)) fun x52 w50 =>
      if x52 = 0 then
        m_L_isSo_b897 k806 (fun z0 z1 z2 z3 z4 z5 z6 z7 z8 z9 z10 z11 z12 z13 z14 z15 z16 z17 z18 z19 z20 w => m_L_isSo_l867 k806 fu z0 z1 z2 z3 z4 z5 z6 z7 z8 z9 z10 z11 z12 z13 z14 z15 z16 z17 z18 z19 z20 w) a0 a1 a2 a3 a4 a5 a6 a7 a8 i9 i10 i11 i12 i13 i14 i15 i16 i17 i18 i20 i19 w50
      else
        m_L_isSo_b897 k806 (fun z0 z1 z2 z3 z4 z5 z6 z7 z8 z9 z10 z11 z12 z13 z14 z15 z16 z17 z18 z19 z20 w => m_L_isSo_l867 k806 fu z0 z1 z2 z3 z4 z5 z6 z7 z8 z9 z10 z11 z12 z13 z14 z15 z16 z17 z18 z19 z20 w) a0 a1 a2 a3 a4 a5 a6 a7 a8 i9 i10 i11 i12 i13 i14 i15 i16 i17 i18 i20 i20 w50
set_option maxRecDepth 100000 in
set_option maxHeartbeats 4000000 in
theorem jm_L_isSo_l867 {n0 : Nat} {rr : Int32} {ws' : LWd} {k806 : Nat → Nat → Nat → Nat → Nat → Nat → Nat → Nat → Nat → Int32 → Int32 → Int32 → Int32 → Int32 → Int32 → Int32 → Int32 → Int32 → Int32 → LWd → Option (Int32 × LWd)} (hk806 : ∀ (a0 : Nat) (a1 : Nat) (a2 : Nat) (a3 : Nat) (a4 : Nat) (a5 : Nat) (a6 : Nat) (a7 : Nat) (a8 : Nat) (i9 : Int32) (i10 : Int32) (i11 : Int32) (i12 : Int32) (i13 : Int32) (i14 : Int32) (i15 : Int32) (i16 : Int32) (i17 : Int32) (i18 : Int32) (ws : LWd), k806 a0 a1 a2 a3 a4 a5 a6 a7 a8 i9 i10 i11 i12 i13 i14 i15 i16 i17 i18 ws = some (rr, ws') → JG (.inr none) cL_isSo 30 RL wsL_isSo (some .boolean) "isSo" 11 2 12 n0 (.inl (some (.int rr)), ws') 806 [some (.ref a0), some (.ref a1), some (.ref a2), some (.ref a3), some (.ref a4), some (.ref a5), some (.ref a6), some (.ref a7), some (.ref a8), some (.int i9), some (.int i10), some (.int i11), some (.int i12), some (.int i13), some (.int i14), some (.int i15), some (.int i16), some (.int i17), some (.int i18), none, none, none, none, none, none, none, none, none, none, none] [] ws 0 0) : ∀ (fu : Nat) (a0 : Nat) (a1 : Nat) (a2 : Nat) (a3 : Nat) (a4 : Nat) (a5 : Nat) (a6 : Nat) (a7 : Nat) (a8 : Nat) (i9 : Int32) (i10 : Int32) (i11 : Int32) (i12 : Int32) (i13 : Int32) (i14 : Int32) (i15 : Int32) (i16 : Int32) (i17 : Int32) (i18 : Int32) (i19 : Int32) (i20 : Int32) (ws : LWd), m_L_isSo_l867 k806 fu a0 a1 a2 a3 a4 a5 a6 a7 a8 i9 i10 i11 i12 i13 i14 i15 i16 i17 i18 i19 i20 ws = some (rr, ws') → JG (.inr none) cL_isSo 30 RL wsL_isSo (some .boolean) "isSo" 11 2 12 n0 (.inl (some (.int rr)), ws') 867 [some (.ref a0), some (.ref a1), some (.ref a2), some (.ref a3), some (.ref a4), some (.ref a5), some (.ref a6), some (.ref a7), some (.ref a8), some (.int i9), some (.int i10), some (.int i11), some (.int i12), some (.int i13), some (.int i14), some (.int i15), some (.int i16), some (.int i17), some (.int i18), some (.int i19), some (.int i20), none, none, none, none, none, none, none, none, none] [] ws 0 0 := by
  intro fu
  induction fu with
  | zero => intro a0 a1 a2 a3 a4 a5 a6 a7 a8 i9 i10 i11 i12 i13 i14 i15 i16 i17 i18 i19 i20 ws h; first | (cases h; done) | (rw [m_L_isSo_l867] at h; cases h)
  | succ fu ih =>
    intro a0 a1 a2 a3 a4 a5 a6 a7 a8 i9 i10 i11 i12 i13 i14 i15 i16 i17 i18 i19 i20 ws h
    rw [m_L_isSo_l867] at h
    refine j_iload (pc := 867) dL_isSo_867 rfl ?_
    refine j_bipush (pc := 869) dL_isSo_869 (v := 6) (by decide) ?_
    refine j_icmp_ge (pc := 871) (tgt := 905) dL_isSo_871 (by decide) (fun c1 => ?_) (fun c1 => ?_)
    · rw [if_pos c1] at h
      refine j_iload (pc := 905) dL_isSo_905 rfl ?_
      refine j_if_lt (pc := 907) (tgt := 1131) dL_isSo_907 (by decide) (fun c2 => ?_) (fun c2 => ?_)
      · rw [if_pos c2] at h
        refine j_mask [true, true, true, true, true, true, true, true, true, true, true, true, true, true, false, true, true, true, true, true, false, false, false, false, false, false, false, false, false, false] ?_
        exact jm_L_isSo_b1131 (hk806 := hk806) _ _ _ _ _ _ _ _ _ _ _ _ _ _ _ _ _ _ _ ws h
      · rw [if_neg c2] at h
        refine j_bipush (pc := 910) dL_isSo_910 (v := 10) (by decide) ?_
        refine j_aload (pc := 912) dL_isSo_912 rfl ?_
        refine j_iconst (pc := 914) dL_isSo_914 (v := 4) (by decide) ?_
        obtain ⟨x3, e4, h⟩ := obS h
        refine j_iald (pc := 915) dL_isSo_915 e4 ?_
        refine j_iadd (pc := 916) dL_isSo_916 ?_
        refine j_istore_20 (pc := 917) dL_isSo_917 (by decide) rfl ?_
        refine j_iload (pc := 919) dL_isSo_919 rfl ?_
        refine j_aload (pc := 921) dL_isSo_921 rfl ?_
        refine j_iconst (pc := 923) dL_isSo_923 (v := 1) (by decide) ?_
        obtain ⟨x5, e6, h⟩ := obS h
        refine j_iald (pc := 924) dL_isSo_924 e6 ?_
        refine j_imul (pc := 925) dL_isSo_925 ?_
        refine j_aload (pc := 926) dL_isSo_926 rfl ?_
        refine j_iconst (pc := 928) dL_isSo_928 (v := 4) (by decide) ?_
        obtain ⟨x7, e8, h⟩ := obS h
        refine j_iald (pc := 929) dL_isSo_929 e8 ?_
        refine j_aload (pc := 930) dL_isSo_930 rfl ?_
        refine j_iconst (pc := 932) dL_isSo_932 (v := 5) (by decide) ?_
        obtain ⟨x9, e10, h⟩ := obS h
        refine j_iald (pc := 933) dL_isSo_933 e10 ?_
        refine j_imul (pc := 934) dL_isSo_934 ?_
        refine j_iadd (pc := 935) dL_isSo_935 ?_
        refine j_iload (pc := 936) dL_isSo_936 rfl ?_
        refine j_aload (pc := 938) dL_isSo_938 rfl ?_
        refine j_iload (pc := 940) dL_isSo_940 rfl ?_
        obtain ⟨x11, e12, h⟩ := obS h
        refine j_iald (pc := 942) dL_isSo_942 e12 ?_
        refine j_imul (pc := 943) dL_isSo_943 ?_
        refine j_isub (pc := 944) dL_isSo_944 ?_
        refine j_i2l (pc := 945) dL_isSo_945 ?_
        refine j_lstore_21 (pc := 946) dL_isSo_946 (by decide) rfl ?_
        refine j_iload (pc := 948) dL_isSo_948 rfl ?_
        refine j_aload (pc := 950) dL_isSo_950 rfl ?_
        refine j_iconst (pc := 952) dL_isSo_952 (v := 2) (by decide) ?_
        obtain ⟨x13, e14, h⟩ := obS h
        refine j_iald (pc := 953) dL_isSo_953 e14 ?_
        refine j_imul (pc := 954) dL_isSo_954 ?_
        refine j_aload (pc := 955) dL_isSo_955 rfl ?_
        refine j_iconst (pc := 957) dL_isSo_957 (v := 4) (by decide) ?_
        obtain ⟨x15, e16, h⟩ := obS h
        refine j_iald (pc := 958) dL_isSo_958 e16 ?_
        refine j_aload (pc := 959) dL_isSo_959 rfl ?_
        refine j_bipush (pc := 961) dL_isSo_961 (v := 6) (by decide) ?_
        obtain ⟨x17, e18, h⟩ := obS h
        refine j_iald (pc := 963) dL_isSo_963 e18 ?_
        refine j_imul (pc := 964) dL_isSo_964 ?_
        refine j_iadd (pc := 965) dL_isSo_965 ?_
        refine j_iload (pc := 966) dL_isSo_966 rfl ?_
        refine j_aload (pc := 968) dL_isSo_968 rfl ?_
        refine j_iload (pc := 970) dL_isSo_970 rfl ?_
        obtain ⟨x19, e20, h⟩ := obS h
        refine j_iald (pc := 972) dL_isSo_972 e20 ?_
        refine j_imul (pc := 973) dL_isSo_973 ?_
        refine j_isub (pc := 974) dL_isSo_974 ?_
        refine j_i2l (pc := 975) dL_isSo_975 ?_
        refine j_lstore_23 (pc := 976) dL_isSo_976 (by decide) rfl ?_
        refine j_aload (pc := 978) dL_isSo_978 rfl ?_
        refine j_iload (pc := 980) dL_isSo_980 rfl ?_
        obtain ⟨x21, e22, h⟩ := obS h
        refine j_iald (pc := 982) dL_isSo_982 e22 ?_
        refine j_aload (pc := 983) dL_isSo_983 rfl ?_
        refine j_iload (pc := 985) dL_isSo_985 rfl ?_
        obtain ⟨x23, e24, h⟩ := obS h
        refine j_iald (pc := 987) dL_isSo_987 e24 ?_
        refine j_isub (pc := 988) dL_isSo_988 ?_
        refine j_i2l (pc := 989) dL_isSo_989 ?_
        refine j_lload (pc := 990) dL_isSo_990 rfl ?_
        refine j_lmul (pc := 992) dL_isSo_992 ?_
        refine j_aload (pc := 993) dL_isSo_993 rfl ?_
        refine j_iload (pc := 995) dL_isSo_995 rfl ?_
        obtain ⟨x25, e26, h⟩ := obS h
        refine j_iald (pc := 997) dL_isSo_997 e26 ?_
        refine j_aload (pc := 998) dL_isSo_998 rfl ?_
        refine j_iload (pc := 1000) dL_isSo_1000 rfl ?_
        obtain ⟨x27, e28, h⟩ := obS h
        refine j_iald (pc := 1002) dL_isSo_1002 e28 ?_
        refine j_isub (pc := 1003) dL_isSo_1003 ?_
        refine j_i2l (pc := 1004) dL_isSo_1004 ?_
        refine j_lload (pc := 1005) dL_isSo_1005 rfl ?_
        refine j_lmul (pc := 1007) dL_isSo_1007 ?_
        refine j_lsub (pc := 1008) dL_isSo_1008 ?_
        refine j_lstore_25 (pc := 1009) dL_isSo_1009 (by decide) rfl ?_
        refine j_aload (pc := 1011) dL_isSo_1011 rfl ?_
        refine j_iload (pc := 1013) dL_isSo_1013 rfl ?_
        obtain ⟨x29, e30, h⟩ := obS h
        refine j_iald (pc := 1015) dL_isSo_1015 e30 ?_
        refine j_aload (pc := 1016) dL_isSo_1016 rfl ?_
        refine j_iload (pc := 1018) dL_isSo_1018 rfl ?_
        obtain ⟨x31, e32, h⟩ := obS h
        refine j_iald (pc := 1020) dL_isSo_1020 e32 ?_
        refine j_isub (pc := 1021) dL_isSo_1021 ?_
        refine j_aload (pc := 1022) dL_isSo_1022 rfl ?_
        refine j_iload (pc := 1024) dL_isSo_1024 rfl ?_
        obtain ⟨x33, e34, h⟩ := obS h
        refine j_iald (pc := 1026) dL_isSo_1026 e34 ?_
        refine j_aload (pc := 1027) dL_isSo_1027 rfl ?_
        refine j_iload (pc := 1029) dL_isSo_1029 rfl ?_
        obtain ⟨x35, e36, h⟩ := obS h
        refine j_iald (pc := 1031) dL_isSo_1031 e36 ?_
        refine j_isub (pc := 1032) dL_isSo_1032 ?_
        refine j_imul (pc := 1033) dL_isSo_1033 ?_
        refine j_aload (pc := 1034) dL_isSo_1034 rfl ?_
        refine j_iload (pc := 1036) dL_isSo_1036 rfl ?_
        obtain ⟨x37, e38, h⟩ := obS h
        refine j_iald (pc := 1038) dL_isSo_1038 e38 ?_
        refine j_aload (pc := 1039) dL_isSo_1039 rfl ?_
        refine j_iload (pc := 1041) dL_isSo_1041 rfl ?_
        obtain ⟨x39, e40, h⟩ := obS h
        refine j_iald (pc := 1043) dL_isSo_1043 e40 ?_
        refine j_isub (pc := 1044) dL_isSo_1044 ?_
        refine j_aload (pc := 1045) dL_isSo_1045 rfl ?_
        refine j_iload (pc := 1047) dL_isSo_1047 rfl ?_
        obtain ⟨x41, e42, h⟩ := obS h
        refine j_iald (pc := 1049) dL_isSo_1049 e42 ?_
        refine j_aload (pc := 1050) dL_isSo_1050 rfl ?_
        refine j_iload (pc := 1052) dL_isSo_1052 rfl ?_
        obtain ⟨x43, e44, h⟩ := obS h
        refine j_iald (pc := 1054) dL_isSo_1054 e44 ?_
        refine j_isub (pc := 1055) dL_isSo_1055 ?_
        refine j_imul (pc := 1056) dL_isSo_1056 ?_
        refine j_iadd (pc := 1057) dL_isSo_1057 ?_
        refine j_i2l (pc := 1058) dL_isSo_1058 ?_
        refine j_lstore_27 (pc := 1059) dL_isSo_1059 (by decide) rfl ?_
        refine j_lload (pc := 1061) dL_isSo_1061 rfl ?_
        refine j_lload (pc := 1063) dL_isSo_1063 rfl ?_
        refine j_lmul (pc := 1065) dL_isSo_1065 ?_
        refine j_lload (pc := 1066) dL_isSo_1066 rfl ?_
        refine j_iload (pc := 1068) dL_isSo_1068 rfl ?_
        refine j_i2l (pc := 1070) dL_isSo_1070 ?_
        refine j_lmul (pc := 1071) dL_isSo_1071 ?_
        refine j_iload (pc := 1072) dL_isSo_1072 rfl ?_
        refine j_i2l (pc := 1074) dL_isSo_1074 ?_
        refine j_lmul (pc := 1075) dL_isSo_1075 ?_
        obtain ⟨x47, w45, e46, h⟩ := obS2 h
        have ge46 := calSR_of e46
        refine j_callS_g (pc := 1076) (As := [.long ((((Int32.toInt64 (x21 - x23)) * (Int32.toInt64 ((((10 + x3) * x13) + (x15 * x17)) - ((10 + x3) * x19)))) - ((Int32.toInt64 (x25 - x27)) * (Int32.toInt64 ((((10 + x3) * x5) + (x7 * x9)) - ((10 + x3) * x11))))) * (((Int32.toInt64 (x21 - x23)) * (Int32.toInt64 ((((10 + x3) * x13) + (x15 * x17)) - ((10 + x3) * x19)))) - ((Int32.toInt64 (x25 - x27)) * (Int32.toInt64 ((((10 + x3) * x5) + (x7 * x9)) - ((10 + x3) * x11)))))), .long (((Int32.toInt64 (((x29 - x31) * (x33 - x35)) + ((x37 - x39) * (x41 - x43)))) * (Int32.toInt64 (10 + x3))) * (Int32.toInt64 (10 + x3)))]) (k' := 0) (n' := 0) dL_isSo_1076 (s_L_bits ge46.1) (jgS lw_676 lw_677 lw_597 lw_675) rfl hy_L_bits rfl (by decide) (by decide) (Nat.le_of_ble_eq_true rfl) (by decide) (by decide) (by decide) (by decide) (Or.inl ge46.2) ?_
        refine j_istore_29 (pc := 1079) dL_isSo_1079 (by decide) rfl ?_
        refine j_iload (pc := 1081) dL_isSo_1081 rfl ?_
        refine j_iconst (pc := 1083) dL_isSo_1083 (v := 1) (by decide) ?_
        refine j_icmp_eq (pc := 1084) (tgt := 1094) dL_isSo_1084 (by decide) (fun c48 => ?_) (fun c48 => ?_)
        · rw [if_pos c48] at h
          refine j_mask [true, true, true, true, true, true, true, true, true, true, true, true, true, true, true, true, true, false, true, true, false, false, false, false, false, false, false, false, false, true] ?_
          exact jm_L_isSo_b1094 (hk806 := hk806) _ _ _ _ _ _ _ _ _ _ _ _ _ _ _ _ _ _ _ _ w45 h
        · rw [if_neg c48] at h
          refine j_iload (pc := 1087) dL_isSo_1087 rfl ?_
          refine j_iload (pc := 1089) dL_isSo_1089 rfl ?_
          refine j_icmp_ge (pc := 1091) (tgt := 1099) dL_isSo_1091 (by decide) (fun c49 => ?_) (fun c49 => ?_)
          · rw [if_pos c49] at h
            refine j_iload (pc := 1099) dL_isSo_1099 rfl ?_
            refine j_mask [true, true, true, true, true, true, true, true, true, true, true, true, true, true, true, true, true, false, true, true, false, false, false, false, false, false, false, false, false, false] ?_
            exact jm_L_isSo_b1101 (hk806 := hk806) _ _ _ _ _ _ _ _ _ _ _ _ _ _ _ _ _ _ _ _ w45 h
          · rw [if_neg c49] at h
            refine j_mask [true, true, true, true, true, true, true, true, true, true, true, true, true, true, true, true, true, false, true, true, false, false, false, false, false, false, false, false, false, true] ?_
            exact jm_L_isSo_b1094 (hk806 := hk806) _ _ _ _ _ _ _ _ _ _ _ _ _ _ _ _ _ _ _ _ w45 h
    · rw [if_neg c1] at h
      refine j_aload (pc := 874) dL_isSo_874 rfl ?_
      refine j_aload (pc := 876) dL_isSo_876 rfl ?_
      refine j_iload (pc := 878) dL_isSo_878 rfl ?_
      refine j_iload (pc := 880) dL_isSo_880 rfl ?_
      refine j_iload (pc := 882) dL_isSo_882 rfl ?_
      obtain ⟨x52, w50, e51, h⟩ := obS2 h
      have ge51 := calSR_of e51
      refine j_callS_g (pc := 884) (As := [.ref a5, .ref a6, .int i11, .int i14, .int i20]) (k' := 0) (n' := 0) dL_isSo_884 (s_L_isEdge ge51.1) (jgS lw_673 lw_674 lw_597 lw_672) rfl hy_L_isEdge rfl (by decide) (by decide) (Nat.le_of_ble_eq_true rfl) (by decide) (by decide) (by decide) (by decide) (Or.inl ge51.2) ?_
      refine j_if_eq (pc := 887) (tgt := 895) dL_isSo_887 (by decide) (fun c53 => ?_) (fun c53 => ?_)
      · rw [if_pos c53] at h
        refine j_iload (pc := 895) dL_isSo_895 rfl ?_
        refine j_mask [true, true, true, true, true, true, true, true, true, true, true, true, true, true, true, true, true, true, true, false, true, false, false, false, false, false, false, false, false, false] ?_
        exact jm_L_isSo_b897 (hk806 := hk806) (hk867 := ih) _ _ _ _ _ _ _ _ _ _ _ _ _ _ _ _ _ _ _ _ _ w50 h
      · rw [if_neg c53] at h
        refine j_iload (pc := 890) dL_isSo_890 rfl ?_
        refine j_goto (pc := 892) (tgt := 897) dL_isSo_892 (by decide) ?_
        refine j_mask [true, true, true, true, true, true, true, true, true, true, true, true, true, true, true, true, true, true, true, false, true, false, false, false, false, false, false, false, false, false] ?_
        exact jm_L_isSo_b897 (hk806 := hk806) (hk867 := ih) _ _ _ _ _ _ _ _ _ _ _ _ _ _ _ _ _ _ _ _ _ w50 h
def m_L_isSo_b856 (k806 : Nat → Nat → Nat → Nat → Nat → Nat → Nat → Nat → Nat → Int32 → Int32 → Int32 → Int32 → Int32 → Int32 → Int32 → Int32 → Int32 → Int32 → LWd → Option (Int32 × LWd)) (a0 : Nat) (a1 : Nat) (a2 : Nat) (a3 : Nat) (a4 : Nat) (a5 : Nat) (a6 : Nat) (a7 : Nat) (a8 : Nat) (i9 : Int32) (i10 : Int32) (i11 : Int32) (i12 : Int32) (i14 : Int32) (i15 : Int32) (i16 : Int32) (i17 : Int32) (i18 : Int32) (s0 : Int32) (ws : LWd) : Option (Int32 × LWd) :=
  m_L_isSo_l867 k806 FU a0 a1 a2 a3 a4 a5 a6 a7 a8 i9 i10 i11 i12 s0 i14 i15 (i16 + 1) i17 i18 ((-1)) 0 ws
set_option maxRecDepth 100000 in
set_option maxHeartbeats 4000000 in
theorem jm_L_isSo_b856 {n0 : Nat} {rr : Int32} {ws' : LWd} {k806 : Nat → Nat → Nat → Nat → Nat → Nat → Nat → Nat → Nat → Int32 → Int32 → Int32 → Int32 → Int32 → Int32 → Int32 → Int32 → Int32 → Int32 → LWd → Option (Int32 × LWd)} (hk806 : ∀ (a0 : Nat) (a1 : Nat) (a2 : Nat) (a3 : Nat) (a4 : Nat) (a5 : Nat) (a6 : Nat) (a7 : Nat) (a8 : Nat) (i9 : Int32) (i10 : Int32) (i11 : Int32) (i12 : Int32) (i13 : Int32) (i14 : Int32) (i15 : Int32) (i16 : Int32) (i17 : Int32) (i18 : Int32) (ws : LWd), k806 a0 a1 a2 a3 a4 a5 a6 a7 a8 i9 i10 i11 i12 i13 i14 i15 i16 i17 i18 ws = some (rr, ws') → JG (.inr none) cL_isSo 30 RL wsL_isSo (some .boolean) "isSo" 11 2 12 n0 (.inl (some (.int rr)), ws') 806 [some (.ref a0), some (.ref a1), some (.ref a2), some (.ref a3), some (.ref a4), some (.ref a5), some (.ref a6), some (.ref a7), some (.ref a8), some (.int i9), some (.int i10), some (.int i11), some (.int i12), some (.int i13), some (.int i14), some (.int i15), some (.int i16), some (.int i17), some (.int i18), none, none, none, none, none, none, none, none, none, none, none] [] ws 0 0) (a0 : Nat) (a1 : Nat) (a2 : Nat) (a3 : Nat) (a4 : Nat) (a5 : Nat) (a6 : Nat) (a7 : Nat) (a8 : Nat) (i9 : Int32) (i10 : Int32) (i11 : Int32) (i12 : Int32) (i14 : Int32) (i15 : Int32) (i16 : Int32) (i17 : Int32) (i18 : Int32) (s0 : Int32) (ws : LWd) (h : m_L_isSo_b856 k806 a0 a1 a2 a3 a4 a5 a6 a7 a8 i9 i10 i11 i12 i14 i15 i16 i17 i18 s0 ws = some (rr, ws')) : JG (.inr none) cL_isSo 30 RL wsL_isSo (some .boolean) "isSo" 11 2 12 n0 (.inl (some (.int rr)), ws') 856 [some (.ref a0), some (.ref a1), some (.ref a2), some (.ref a3), some (.ref a4), some (.ref a5), some (.ref a6), some (.ref a7), some (.ref a8), some (.int i9), some (.int i10), some (.int i11), some (.int i12), none, some (.int i14), some (.int i15), some (.int i16), some (.int i17), some (.int i18), none, none, none, none, none, none, none, none, none, none, none] [.int s0] ws 0 0 := by
  unfold m_L_isSo_b856 at h
  refine j_istore_13 (pc := 856) dL_isSo_856 (by decide) rfl ?_
  refine j_iinc_16 (pc := 858) dL_isSo_858 (y := i16 + 1) rfl (by decide) rfl ?_
  refine j_iconst (pc := 861) dL_isSo_861 (v := (-1)) (by decide) ?_
  refine j_istore_19 (pc := 862) dL_isSo_862 (by decide) rfl ?_
  refine j_iconst (pc := 864) dL_isSo_864 (v := 0) (by decide) ?_
  refine j_istore_20 (pc := 865) dL_isSo_865 (by decide) rfl ?_
  exact jm_L_isSo_l867 (hk806 := hk806) FU _ _ _ _ _ _ _ _ _ _ _ _ _ _ _ _ _ _ _ _ _ ws h
def m_L_isSo_b828 (k806 : Nat → Nat → Nat → Nat → Nat → Nat → Nat → Nat → Nat → Int32 → Int32 → Int32 → Int32 → Int32 → Int32 → Int32 → Int32 → Int32 → Int32 → LWd → Option (Int32 × LWd)) (a0 : Nat) (a1 : Nat) (a2 : Nat) (a3 : Nat) (a4 : Nat) (a5 : Nat) (a6 : Nat) (a7 : Nat) (a8 : Nat) (i9 : Int32) (i10 : Int32) (i11 : Int32) (i12 : Int32) (i14 : Int32) (i15 : Int32) (i16 : Int32) (i17 : Int32) (i18 : Int32) (ws : LWd) : Option (Int32 × LWd) :=
  bn2 (calSR ws (nthr (m_X10_corner a0 i16 ws))) fun x3 w1 =>
  (aI w1 a6 i14).bind fun x4 =>
  (aI w1 a5 i14).bind fun x6 =>
  if x3 = ((20 * x4) + x6) then
    m_L_isSo_b856 k806 a0 a1 a2 a3 a4 a5 a6 a7 a8 i9 i10 i11 i12 i14 i15 i16 i17 i18 1 w1
  else
    m_L_isSo_b856 k806 a0 a1 a2 a3 a4 a5 a6 a7 a8 i9 i10 i11 i12 i14 i15 i16 i17 i18 0 w1
set_option maxRecDepth 100000 in
set_option maxHeartbeats 4000000 in
theorem jm_L_isSo_b828 {n0 : Nat} {rr : Int32} {ws' : LWd} {k806 : Nat → Nat → Nat → Nat → Nat → Nat → Nat → Nat → Nat → Int32 → Int32 → Int32 → Int32 → Int32 → Int32 → Int32 → Int32 → Int32 → Int32 → LWd → Option (Int32 × LWd)} (hk806 : ∀ (a0 : Nat) (a1 : Nat) (a2 : Nat) (a3 : Nat) (a4 : Nat) (a5 : Nat) (a6 : Nat) (a7 : Nat) (a8 : Nat) (i9 : Int32) (i10 : Int32) (i11 : Int32) (i12 : Int32) (i13 : Int32) (i14 : Int32) (i15 : Int32) (i16 : Int32) (i17 : Int32) (i18 : Int32) (ws : LWd), k806 a0 a1 a2 a3 a4 a5 a6 a7 a8 i9 i10 i11 i12 i13 i14 i15 i16 i17 i18 ws = some (rr, ws') → JG (.inr none) cL_isSo 30 RL wsL_isSo (some .boolean) "isSo" 11 2 12 n0 (.inl (some (.int rr)), ws') 806 [some (.ref a0), some (.ref a1), some (.ref a2), some (.ref a3), some (.ref a4), some (.ref a5), some (.ref a6), some (.ref a7), some (.ref a8), some (.int i9), some (.int i10), some (.int i11), some (.int i12), some (.int i13), some (.int i14), some (.int i15), some (.int i16), some (.int i17), some (.int i18), none, none, none, none, none, none, none, none, none, none, none] [] ws 0 0) (a0 : Nat) (a1 : Nat) (a2 : Nat) (a3 : Nat) (a4 : Nat) (a5 : Nat) (a6 : Nat) (a7 : Nat) (a8 : Nat) (i9 : Int32) (i10 : Int32) (i11 : Int32) (i12 : Int32) (i14 : Int32) (i15 : Int32) (i16 : Int32) (i17 : Int32) (i18 : Int32) (ws : LWd) (h : m_L_isSo_b828 k806 a0 a1 a2 a3 a4 a5 a6 a7 a8 i9 i10 i11 i12 i14 i15 i16 i17 i18 ws = some (rr, ws')) : JG (.inr none) cL_isSo 30 RL wsL_isSo (some .boolean) "isSo" 11 2 12 n0 (.inl (some (.int rr)), ws') 828 [some (.ref a0), some (.ref a1), some (.ref a2), some (.ref a3), some (.ref a4), some (.ref a5), some (.ref a6), some (.ref a7), some (.ref a8), some (.int i9), some (.int i10), some (.int i11), some (.int i12), none, some (.int i14), some (.int i15), some (.int i16), some (.int i17), some (.int i18), none, none, none, none, none, none, none, none, none, none, none] [] ws 0 0 := by
  unfold m_L_isSo_b828 at h
  refine j_aload_n (pc := 828) dL_isSo_828 rfl ?_
  refine j_iload (pc := 829) dL_isSo_829 rfl ?_
  obtain ⟨x3, w1, e2, h⟩ := obS2 h
  have ge2 := calSR_of e2
  refine j_callV_g (pc := 831) (As := [.int i16]) (k' := 0) (n' := 0) dL_isSo_831 (sn_X10_corner (nthr_of ge2.1)) (jgV lw_544 lw_545 lw_546 lw_147 lw_543) rfl hv_X10_corner rfl (r_X10_corner (nthr_of ge2.1)) rfl (by decide) (by decide) (Nat.le_of_ble_eq_true rfl) (by decide) (by decide) (by decide) (by decide) (Or.inl ge2.2) ?_
  refine j_bipush (pc := 834) dL_isSo_834 (v := 20) (by decide) ?_
  refine j_aload (pc := 836) dL_isSo_836 rfl ?_
  refine j_iload (pc := 838) dL_isSo_838 rfl ?_
  obtain ⟨x4, e5, h⟩ := obS h
  refine j_iald (pc := 840) dL_isSo_840 e5 ?_
  refine j_imul (pc := 841) dL_isSo_841 ?_
  refine j_aload (pc := 842) dL_isSo_842 rfl ?_
  refine j_iload (pc := 844) dL_isSo_844 rfl ?_
  obtain ⟨x6, e7, h⟩ := obS h
  refine j_iald (pc := 846) dL_isSo_846 e7 ?_
  refine j_iadd (pc := 847) dL_isSo_847 ?_
  refine j_icmp_ne (pc := 848) (tgt := 855) dL_isSo_848 (by decide) (fun c8 => ?_) (fun c8 => ?_)
  · rw [if_neg c8] at h
    refine j_iconst (pc := 855) dL_isSo_855 (v := 0) (by decide) ?_
    exact jm_L_isSo_b856 (hk806 := hk806) _ _ _ _ _ _ _ _ _ _ _ _ _ _ _ _ _ _ _ w1 h
  · rw [if_pos c8] at h
    refine j_iconst (pc := 851) dL_isSo_851 (v := 1) (by decide) ?_
    refine j_goto (pc := 852) (tgt := 856) dL_isSo_852 (by decide) ?_
    exact jm_L_isSo_b856 (hk806 := hk806) _ _ _ _ _ _ _ _ _ _ _ _ _ _ _ _ _ _ _ w1 h
def m_L_isSo_l806 : Nat → Nat → Nat → Nat → Nat → Nat → Nat → Nat → Nat → Nat → Int32 → Int32 → Int32 → Int32 → Int32 → Int32 → Int32 → Int32 → Int32 → Int32 → LWd → Option (Int32 × LWd)
  | 0, _, _, _, _, _, _, _, _, _, _, _, _, _, _, _, _, _, _, _, _ => none
  | fu + 1, a0, a1, a2, a3, a4, a5, a6, a7, a8, i9, i10, i11, i12, i13, i14, i15, i16, i17, i18, ws =>
    if i14 < 0 then
      m_L_isSo_b1138 a0 a1 a2 a3 a4 a5 a6 a7 a8 i9 i10 i12 i13 i16 i17 i18 ws
    else
      if i13 = 0 then
        m_L_isSo_b1138 a0 a1 a2 a3 a4 a5 a6 a7 a8 i9 i10 i12 i13 i16 i17 i18 ws
      else
        if i16 = 0 then
          m_L_isSo_b828 (fun z0 z1 z2 z3 z4 z5 z6 z7 z8 z9 z10 z11 z12 z13 z14 z15 z16 z17 z18 w => m_L_isSo_l806 fu z0 z1 z2 z3 z4 z5 z6 z7 z8 z9 z10 z11 z12 z13 z14 z15 z16 z17 z18 w) a0 a1 a2 a3 a4 a5 a6 a7 a8 i9 i10 i11 i12 i14 i15 i16 i17 i18 ws
        else
          if i14 = i15 then
            m_L_isSo_b1138 a0 a1 a2 a3 a4 a5 a6 a7 a8 i9 i10 i12 i13 i16 i17 i18 ws
          else
            m_L_isSo_b828 (fun z0 z1 z2 z3 z4 z5 z6 z7 z8 z9 z10 z11 z12 z13 z14 z15 z16 z17 z18 w => m_L_isSo_l806 fu z0 z1 z2 z3 z4 z5 z6 z7 z8 z9 z10 z11 z12 z13 z14 z15 z16 z17 z18 w) a0 a1 a2 a3 a4 a5 a6 a7 a8 i9 i10 i11 i12 i14 i15 i16 i17 i18 ws
set_option maxRecDepth 100000 in
set_option maxHeartbeats 4000000 in
theorem jm_L_isSo_l806 {n0 : Nat} {rr : Int32} {ws' : LWd} : ∀ (fu : Nat) (a0 : Nat) (a1 : Nat) (a2 : Nat) (a3 : Nat) (a4 : Nat) (a5 : Nat) (a6 : Nat) (a7 : Nat) (a8 : Nat) (i9 : Int32) (i10 : Int32) (i11 : Int32) (i12 : Int32) (i13 : Int32) (i14 : Int32) (i15 : Int32) (i16 : Int32) (i17 : Int32) (i18 : Int32) (ws : LWd), m_L_isSo_l806 fu a0 a1 a2 a3 a4 a5 a6 a7 a8 i9 i10 i11 i12 i13 i14 i15 i16 i17 i18 ws = some (rr, ws') → JG (.inr none) cL_isSo 30 RL wsL_isSo (some .boolean) "isSo" 11 2 12 n0 (.inl (some (.int rr)), ws') 806 [some (.ref a0), some (.ref a1), some (.ref a2), some (.ref a3), some (.ref a4), some (.ref a5), some (.ref a6), some (.ref a7), some (.ref a8), some (.int i9), some (.int i10), some (.int i11), some (.int i12), some (.int i13), some (.int i14), some (.int i15), some (.int i16), some (.int i17), some (.int i18), none, none, none, none, none, none, none, none, none, none, none] [] ws 0 0 := by
  intro fu
  induction fu with
  | zero => intro a0 a1 a2 a3 a4 a5 a6 a7 a8 i9 i10 i11 i12 i13 i14 i15 i16 i17 i18 ws h; first | (cases h; done) | (rw [m_L_isSo_l806] at h; cases h)
  | succ fu ih =>
    intro a0 a1 a2 a3 a4 a5 a6 a7 a8 i9 i10 i11 i12 i13 i14 i15 i16 i17 i18 ws h
    rw [m_L_isSo_l806] at h
    refine j_iload (pc := 806) dL_isSo_806 rfl ?_
    refine j_if_lt (pc := 808) (tgt := 1138) dL_isSo_808 (by decide) (fun c1 => ?_) (fun c1 => ?_)
    · rw [if_pos c1] at h
      refine j_mask [true, true, true, true, true, true, true, true, true, true, true, false, true, true, false, false, true, true, true, false, false, false, false, false, false, false, false, false, false, false] ?_
      exact jm_L_isSo_b1138 _ _ _ _ _ _ _ _ _ _ _ _ _ _ _ _ ws h
    · rw [if_neg c1] at h
      refine j_iload (pc := 811) dL_isSo_811 rfl ?_
      refine j_if_eq (pc := 813) (tgt := 1138) dL_isSo_813 (by decide) (fun c2 => ?_) (fun c2 => ?_)
      · rw [if_pos c2] at h
        refine j_mask [true, true, true, true, true, true, true, true, true, true, true, false, true, true, false, false, true, true, true, false, false, false, false, false, false, false, false, false, false, false] ?_
        exact jm_L_isSo_b1138 _ _ _ _ _ _ _ _ _ _ _ _ _ _ _ _ ws h
      · rw [if_neg c2] at h
        refine j_iload (pc := 816) dL_isSo_816 rfl ?_
        refine j_if_eq (pc := 818) (tgt := 828) dL_isSo_818 (by decide) (fun c3 => ?_) (fun c3 => ?_)
        · rw [if_pos c3] at h
          refine j_mask [true, true, true, true, true, true, true, true, true, true, true, true, true, false, true, true, true, true, true, false, false, false, false, false, false, false, false, false, false, false] ?_
          exact jm_L_isSo_b828 (hk806 := ih) _ _ _ _ _ _ _ _ _ _ _ _ _ _ _ _ _ _ ws h
        · rw [if_neg c3] at h
          refine j_iload (pc := 821) dL_isSo_821 rfl ?_
          refine j_iload (pc := 823) dL_isSo_823 rfl ?_
          refine j_icmp_eq (pc := 825) (tgt := 1138) dL_isSo_825 (by decide) (fun c4 => ?_) (fun c4 => ?_)
          · rw [if_pos c4] at h
            refine j_mask [true, true, true, true, true, true, true, true, true, true, true, false, true, true, false, false, true, true, true, false, false, false, false, false, false, false, false, false, false, false] ?_
            exact jm_L_isSo_b1138 _ _ _ _ _ _ _ _ _ _ _ _ _ _ _ _ ws h
          · rw [if_neg c4] at h
            refine j_mask [true, true, true, true, true, true, true, true, true, true, true, true, true, false, true, true, true, true, true, false, false, false, false, false, false, false, false, false, false, false] ?_
            exact jm_L_isSo_b828 (hk806 := ih) _ _ _ _ _ _ _ _ _ _ _ _ _ _ _ _ _ _ ws h
def m_L_isSo_b785 (k712 : Nat → Nat → Nat → Nat → Nat → Nat → Nat → Nat → Nat → Int32 → Int32 → Int32 → Int32 → Int32 → Int32 → Int32 → LWd → Option (Int32 × LWd)) (a0 : Nat) (a1 : Nat) (a2 : Nat) (a3 : Nat) (a4 : Nat) (a5 : Nat) (a6 : Nat) (a7 : Nat) (a8 : Nat) (i9 : Int32) (i10 : Int32) (i11 : Int32) (i12 : Int32) (i13 : Int32) (i15 : Int32) (s0 : Int32) (ws : LWd) : Option (Int32 × LWd) :=
  k712 a0 a1 a2 a3 a4 a5 a6 a7 a8 i9 i10 i11 i12 i13 s0 (i15 + 1) ws
set_option maxRecDepth 100000 in
set_option maxHeartbeats 4000000 in
theorem jm_L_isSo_b785 {n0 : Nat} {rr : Int32} {ws' : LWd} {k712 : Nat → Nat → Nat → Nat → Nat → Nat → Nat → Nat → Nat → Int32 → Int32 → Int32 → Int32 → Int32 → Int32 → Int32 → LWd → Option (Int32 × LWd)} (hk712 : ∀ (a0 : Nat) (a1 : Nat) (a2 : Nat) (a3 : Nat) (a4 : Nat) (a5 : Nat) (a6 : Nat) (a7 : Nat) (a8 : Nat) (i9 : Int32) (i10 : Int32) (i11 : Int32) (i12 : Int32) (i13 : Int32) (i14 : Int32) (i15 : Int32) (ws : LWd), k712 a0 a1 a2 a3 a4 a5 a6 a7 a8 i9 i10 i11 i12 i13 i14 i15 ws = some (rr, ws') → JG (.inr none) cL_isSo 30 RL wsL_isSo (some .boolean) "isSo" 11 2 12 n0 (.inl (some (.int rr)), ws') 712 [some (.ref a0), some (.ref a1), some (.ref a2), some (.ref a3), some (.ref a4), some (.ref a5), some (.ref a6), some (.ref a7), some (.ref a8), some (.int i9), some (.int i10), some (.int i11), some (.int i12), some (.int i13), some (.int i14), some (.int i15), none, none, none, none, none, none, none, none, none, none, none, none, none, none] [] ws 0 0) (a0 : Nat) (a1 : Nat) (a2 : Nat) (a3 : Nat) (a4 : Nat) (a5 : Nat) (a6 : Nat) (a7 : Nat) (a8 : Nat) (i9 : Int32) (i10 : Int32) (i11 : Int32) (i12 : Int32) (i13 : Int32) (i15 : Int32) (s0 : Int32) (ws : LWd) (h : m_L_isSo_b785 k712 a0 a1 a2 a3 a4 a5 a6 a7 a8 i9 i10 i11 i12 i13 i15 s0 ws = some (rr, ws')) : JG (.inr none) cL_isSo 30 RL wsL_isSo (some .boolean) "isSo" 11 2 12 n0 (.inl (some (.int rr)), ws') 785 [some (.ref a0), some (.ref a1), some (.ref a2), some (.ref a3), some (.ref a4), some (.ref a5), some (.ref a6), some (.ref a7), some (.ref a8), some (.int i9), some (.int i10), some (.int i11), some (.int i12), some (.int i13), none, some (.int i15), none, none, none, none, none, none, none, none, none, none, none, none, none, none] [.int s0] ws 0 0 := by
  unfold m_L_isSo_b785 at h
  refine j_istore_14 (pc := 785) dL_isSo_785 (by decide) rfl ?_
  refine j_iinc_15 (pc := 787) dL_isSo_787 (y := i15 + 1) rfl (by decide) rfl ?_
  refine j_goto (pc := 790) (tgt := 712) dL_isSo_790 (by decide) ?_
  exact hk712 _ _ _ _ _ _ _ _ _ _ _ _ _ _ _ _ ws h
def m_L_isSo_b771 (k712 : Nat → Nat → Nat → Nat → Nat → Nat → Nat → Nat → Nat → Int32 → Int32 → Int32 → Int32 → Int32 → Int32 → Int32 → LWd → Option (Int32 × LWd)) (a0 : Nat) (a1 : Nat) (a2 : Nat) (a3 : Nat) (a4 : Nat) (a5 : Nat) (a6 : Nat) (a7 : Nat) (a8 : Nat) (i9 : Int32) (i10 : Int32) (i11 : Int32) (i12 : Int32) (i13 : Int32) (i14 : Int32) (i15 : Int32) (s0 : Int32) (ws : LWd) : Option (Int32 × LWd) :=
  if s0 = 0 then
    m_L_isSo_b785 k712 a0 a1 a2 a3 a4 a5 a6 a7 a8 i9 i10 i11 i12 i13 i15 i14 ws
  else
    m_L_isSo_b785 k712 a0 a1 a2 a3 a4 a5 a6 a7 a8 i9 i10 i11 i12 i13 i15 i15 ws
set_option maxRecDepth 100000 in
set_option maxHeartbeats 4000000 in
theorem jm_L_isSo_b771 {n0 : Nat} {rr : Int32} {ws' : LWd} {k712 : Nat → Nat → Nat → Nat → Nat → Nat → Nat → Nat → Nat → Int32 → Int32 → Int32 → Int32 → Int32 → Int32 → Int32 → LWd → Option (Int32 × LWd)} (hk712 : ∀ (a0 : Nat) (a1 : Nat) (a2 : Nat) (a3 : Nat) (a4 : Nat) (a5 : Nat) (a6 : Nat) (a7 : Nat) (a8 : Nat) (i9 : Int32) (i10 : Int32) (i11 : Int32) (i12 : Int32) (i13 : Int32) (i14 : Int32) (i15 : Int32) (ws : LWd), k712 a0 a1 a2 a3 a4 a5 a6 a7 a8 i9 i10 i11 i12 i13 i14 i15 ws = some (rr, ws') → JG (.inr none) cL_isSo 30 RL wsL_isSo (some .boolean) "isSo" 11 2 12 n0 (.inl (some (.int rr)), ws') 712 [some (.ref a0), some (.ref a1), some (.ref a2), some (.ref a3), some (.ref a4), some (.ref a5), some (.ref a6), some (.ref a7), some (.ref a8), some (.int i9), some (.int i10), some (.int i11), some (.int i12), some (.int i13), some (.int i14), some (.int i15), none, none, none, none, none, none, none, none, none, none, none, none, none, none] [] ws 0 0) (a0 : Nat) (a1 : Nat) (a2 : Nat) (a3 : Nat) (a4 : Nat) (a5 : Nat) (a6 : Nat) (a7 : Nat) (a8 : Nat) (i9 : Int32) (i10 : Int32) (i11 : Int32) (i12 : Int32) (i13 : Int32) (i14 : Int32) (i15 : Int32) (s0 : Int32) (ws : LWd) (h : m_L_isSo_b771 k712 a0 a1 a2 a3 a4 a5 a6 a7 a8 i9 i10 i11 i12 i13 i14 i15 s0 ws = some (rr, ws')) : JG (.inr none) cL_isSo 30 RL wsL_isSo (some .boolean) "isSo" 11 2 12 n0 (.inl (some (.int rr)), ws') 771 [some (.ref a0), some (.ref a1), some (.ref a2), some (.ref a3), some (.ref a4), some (.ref a5), some (.ref a6), some (.ref a7), some (.ref a8), some (.int i9), some (.int i10), some (.int i11), some (.int i12), some (.int i13), some (.int i14), some (.int i15), none, none, none, none, none, none, none, none, none, none, none, none, none, none] [.int s0] ws 0 0 := by
  unfold m_L_isSo_b771 at h
  refine j_istore_16 (pc := 771) dL_isSo_771 (by decide) rfl ?_
  refine j_iload (pc := 773) dL_isSo_773 rfl ?_
  refine j_if_eq (pc := 775) (tgt := 783) dL_isSo_775 (by decide) (fun c1 => ?_) (fun c1 => ?_)
  · rw [if_pos c1] at h
    refine j_iload (pc := 783) dL_isSo_783 rfl ?_
    refine j_mask [true, true, true, true, true, true, true, true, true, true, true, true, true, true, false, true, false, false, false, false, false, false, false, false, false, false, false, false, false, false] ?_
    exact jm_L_isSo_b785 (hk712 := hk712) _ _ _ _ _ _ _ _ _ _ _ _ _ _ _ _ ws h
  · rw [if_neg c1] at h
    refine j_iload (pc := 778) dL_isSo_778 rfl ?_
    refine j_goto (pc := 780) (tgt := 785) dL_isSo_780 (by decide) ?_
    refine j_mask [true, true, true, true, true, true, true, true, true, true, true, true, true, true, false, true, false, false, false, false, false, false, false, false, false, false, false, false, false, false] ?_
    exact jm_L_isSo_b785 (hk712 := hk712) _ _ _ _ _ _ _ _ _ _ _ _ _ _ _ _ ws h
def m_L_isSo_b770 (k712 : Nat → Nat → Nat → Nat → Nat → Nat → Nat → Nat → Nat → Int32 → Int32 → Int32 → Int32 → Int32 → Int32 → Int32 → LWd → Option (Int32 × LWd)) (a0 : Nat) (a1 : Nat) (a2 : Nat) (a3 : Nat) (a4 : Nat) (a5 : Nat) (a6 : Nat) (a7 : Nat) (a8 : Nat) (i9 : Int32) (i10 : Int32) (i11 : Int32) (i12 : Int32) (i13 : Int32) (i14 : Int32) (i15 : Int32) (ws : LWd) : Option (Int32 × LWd) :=
  m_L_isSo_b771 k712 a0 a1 a2 a3 a4 a5 a6 a7 a8 i9 i10 i11 i12 i13 i14 i15 0 ws
set_option maxRecDepth 100000 in
set_option maxHeartbeats 4000000 in
theorem jm_L_isSo_b770 {n0 : Nat} {rr : Int32} {ws' : LWd} {k712 : Nat → Nat → Nat → Nat → Nat → Nat → Nat → Nat → Nat → Int32 → Int32 → Int32 → Int32 → Int32 → Int32 → Int32 → LWd → Option (Int32 × LWd)} (hk712 : ∀ (a0 : Nat) (a1 : Nat) (a2 : Nat) (a3 : Nat) (a4 : Nat) (a5 : Nat) (a6 : Nat) (a7 : Nat) (a8 : Nat) (i9 : Int32) (i10 : Int32) (i11 : Int32) (i12 : Int32) (i13 : Int32) (i14 : Int32) (i15 : Int32) (ws : LWd), k712 a0 a1 a2 a3 a4 a5 a6 a7 a8 i9 i10 i11 i12 i13 i14 i15 ws = some (rr, ws') → JG (.inr none) cL_isSo 30 RL wsL_isSo (some .boolean) "isSo" 11 2 12 n0 (.inl (some (.int rr)), ws') 712 [some (.ref a0), some (.ref a1), some (.ref a2), some (.ref a3), some (.ref a4), some (.ref a5), some (.ref a6), some (.ref a7), some (.ref a8), some (.int i9), some (.int i10), some (.int i11), some (.int i12), some (.int i13), some (.int i14), some (.int i15), none, none, none, none, none, none, none, none, none, none, none, none, none, none] [] ws 0 0) (a0 : Nat) (a1 : Nat) (a2 : Nat) (a3 : Nat) (a4 : Nat) (a5 : Nat) (a6 : Nat) (a7 : Nat) (a8 : Nat) (i9 : Int32) (i10 : Int32) (i11 : Int32) (i12 : Int32) (i13 : Int32) (i14 : Int32) (i15 : Int32) (ws : LWd) (h : m_L_isSo_b770 k712 a0 a1 a2 a3 a4 a5 a6 a7 a8 i9 i10 i11 i12 i13 i14 i15 ws = some (rr, ws')) : JG (.inr none) cL_isSo 30 RL wsL_isSo (some .boolean) "isSo" 11 2 12 n0 (.inl (some (.int rr)), ws') 770 [some (.ref a0), some (.ref a1), some (.ref a2), some (.ref a3), some (.ref a4), some (.ref a5), some (.ref a6), some (.ref a7), some (.ref a8), some (.int i9), some (.int i10), some (.int i11), some (.int i12), some (.int i13), some (.int i14), some (.int i15), none, none, none, none, none, none, none, none, none, none, none, none, none, none] [] ws 0 0 := by
  unfold m_L_isSo_b770 at h
  refine j_iconst (pc := 770) dL_isSo_770 (v := 0) (by decide) ?_
  exact jm_L_isSo_b771 (hk712 := hk712) _ _ _ _ _ _ _ _ _ _ _ _ _ _ _ _ _ ws h
def m_L_isSo_b766 (k712 : Nat → Nat → Nat → Nat → Nat → Nat → Nat → Nat → Nat → Int32 → Int32 → Int32 → Int32 → Int32 → Int32 → Int32 → LWd → Option (Int32 × LWd)) (a0 : Nat) (a1 : Nat) (a2 : Nat) (a3 : Nat) (a4 : Nat) (a5 : Nat) (a6 : Nat) (a7 : Nat) (a8 : Nat) (i9 : Int32) (i10 : Int32) (i11 : Int32) (i12 : Int32) (i13 : Int32) (i14 : Int32) (i15 : Int32) (ws : LWd) : Option (Int32 × LWd) :=
  m_L_isSo_b771 k712 a0 a1 a2 a3 a4 a5 a6 a7 a8 i9 i10 i11 i12 i13 i14 i15 1 ws
set_option maxRecDepth 100000 in
set_option maxHeartbeats 4000000 in
theorem jm_L_isSo_b766 {n0 : Nat} {rr : Int32} {ws' : LWd} {k712 : Nat → Nat → Nat → Nat → Nat → Nat → Nat → Nat → Nat → Int32 → Int32 → Int32 → Int32 → Int32 → Int32 → Int32 → LWd → Option (Int32 × LWd)} (hk712 : ∀ (a0 : Nat) (a1 : Nat) (a2 : Nat) (a3 : Nat) (a4 : Nat) (a5 : Nat) (a6 : Nat) (a7 : Nat) (a8 : Nat) (i9 : Int32) (i10 : Int32) (i11 : Int32) (i12 : Int32) (i13 : Int32) (i14 : Int32) (i15 : Int32) (ws : LWd), k712 a0 a1 a2 a3 a4 a5 a6 a7 a8 i9 i10 i11 i12 i13 i14 i15 ws = some (rr, ws') → JG (.inr none) cL_isSo 30 RL wsL_isSo (some .boolean) "isSo" 11 2 12 n0 (.inl (some (.int rr)), ws') 712 [some (.ref a0), some (.ref a1), some (.ref a2), some (.ref a3), some (.ref a4), some (.ref a5), some (.ref a6), some (.ref a7), some (.ref a8), some (.int i9), some (.int i10), some (.int i11), some (.int i12), some (.int i13), some (.int i14), some (.int i15), none, none, none, none, none, none, none, none, none, none, none, none, none, none] [] ws 0 0) (a0 : Nat) (a1 : Nat) (a2 : Nat) (a3 : Nat) (a4 : Nat) (a5 : Nat) (a6 : Nat) (a7 : Nat) (a8 : Nat) (i9 : Int32) (i10 : Int32) (i11 : Int32) (i12 : Int32) (i13 : Int32) (i14 : Int32) (i15 : Int32) (ws : LWd) (h : m_L_isSo_b766 k712 a0 a1 a2 a3 a4 a5 a6 a7 a8 i9 i10 i11 i12 i13 i14 i15 ws = some (rr, ws')) : JG (.inr none) cL_isSo 30 RL wsL_isSo (some .boolean) "isSo" 11 2 12 n0 (.inl (some (.int rr)), ws') 766 [some (.ref a0), some (.ref a1), some (.ref a2), some (.ref a3), some (.ref a4), some (.ref a5), some (.ref a6), some (.ref a7), some (.ref a8), some (.int i9), some (.int i10), some (.int i11), some (.int i12), some (.int i13), some (.int i14), some (.int i15), none, none, none, none, none, none, none, none, none, none, none, none, none, none] [] ws 0 0 := by
  unfold m_L_isSo_b766 at h
  refine j_iconst (pc := 766) dL_isSo_766 (v := 1) (by decide) ?_
  refine j_goto (pc := 767) (tgt := 771) dL_isSo_767 (by decide) ?_
  exact jm_L_isSo_b771 (hk712 := hk712) _ _ _ _ _ _ _ _ _ _ _ _ _ _ _ _ _ ws h
def m_L_isSo_l712 : Nat → Nat → Nat → Nat → Nat → Nat → Nat → Nat → Nat → Nat → Int32 → Int32 → Int32 → Int32 → Int32 → Int32 → Int32 → LWd → Option (Int32 × LWd)
  | 0, _, _, _, _, _, _, _, _, _, _, _, _, _, _, _, _, _ => none
  | fu + 1, a0, a1, a2, a3, a4, a5, a6, a7, a8, i9, i10, i11, i12, i13, i14, i15, ws =>
    if 6 ≤ i15 then
      m_L_isSo_l806 FU a0 a1 a2 a3 a4 a5 a6 a7 a8 i9 i10 i11 i12 i13 i14 i14 0 0 0 ws
    else
      if ((i11 >>> (i15 &&& 31)) &&& 1) = 1 then
        if i14 < 0 then
          m_L_isSo_b766 (fun z0 z1 z2 z3 z4 z5 z6 z7 z8 z9 z10 z11 z12 z13 z14 z15 w => m_L_isSo_l712 fu z0 z1 z2 z3 z4 z5 z6 z7 z8 z9 z10 z11 z12 z13 z14 z15 w) a0 a1 a2 a3 a4 a5 a6 a7 a8 i9 i10 i11 i12 i13 i14 i15 ws
        else
          (aI ws a6 i15).bind fun x4 =>
          (aI ws a5 i15).bind fun x6 =>
          (aI ws a6 i14).bind fun x8 =>
          (aI ws a5 i14).bind fun x10 =>
          if ((20 * x8) + x10) ≤ ((20 * x4) + x6) then
            m_L_isSo_b770 (fun z0 z1 z2 z3 z4 z5 z6 z7 z8 z9 z10 z11 z12 z13 z14 z15 w => m_L_isSo_l712 fu z0 z1 z2 z3 z4 z5 z6 z7 z8 z9 z10 z11 z12 z13 z14 z15 w) a0 a1 a2 a3 a4 a5 a6 a7 a8 i9 i10 i11 i12 i13 i14 i15 ws
          else
            m_L_isSo_b766 (fun z0 z1 z2 z3 z4 z5 z6 z7 z8 z9 z10 z11 z12 z13 z14 z15 w => m_L_isSo_l712 fu z0 z1 z2 z3 z4 z5 z6 z7 z8 z9 z10 z11 z12 z13 z14 z15 w) a0 a1 a2 a3 a4 a5 a6 a7 a8 i9 i10 i11 i12 i13 i14 i15 ws
      else
        m_L_isSo_b770 (fun z0 z1 z2 z3 z4 z5 z6 z7 z8 z9 z10 z11 z12 z13 z14 z15 w => m_L_isSo_l712 fu z0 z1 z2 z3 z4 z5 z6 z7 z8 z9 z10 z11 z12 z13 z14 z15 w) a0 a1 a2 a3 a4 a5 a6 a7 a8 i9 i10 i11 i12 i13 i14 i15 ws
set_option maxRecDepth 100000 in
set_option maxHeartbeats 4000000 in
theorem jm_L_isSo_l712 {n0 : Nat} {rr : Int32} {ws' : LWd} : ∀ (fu : Nat) (a0 : Nat) (a1 : Nat) (a2 : Nat) (a3 : Nat) (a4 : Nat) (a5 : Nat) (a6 : Nat) (a7 : Nat) (a8 : Nat) (i9 : Int32) (i10 : Int32) (i11 : Int32) (i12 : Int32) (i13 : Int32) (i14 : Int32) (i15 : Int32) (ws : LWd), m_L_isSo_l712 fu a0 a1 a2 a3 a4 a5 a6 a7 a8 i9 i10 i11 i12 i13 i14 i15 ws = some (rr, ws') → JG (.inr none) cL_isSo 30 RL wsL_isSo (some .boolean) "isSo" 11 2 12 n0 (.inl (some (.int rr)), ws') 712 [some (.ref a0), some (.ref a1), some (.ref a2), some (.ref a3), some (.ref a4), some (.ref a5), some (.ref a6), some (.ref a7), some (.ref a8), some (.int i9), some (.int i10), some (.int i11), some (.int i12), some (.int i13), some (.int i14), some (.int i15), none, none, none, none, none, none, none, none, none, none, none, none, none, none] [] ws 0 0 := by
  intro fu
  induction fu with
  | zero => intro a0 a1 a2 a3 a4 a5 a6 a7 a8 i9 i10 i11 i12 i13 i14 i15 ws h; first | (cases h; done) | (rw [m_L_isSo_l712] at h; cases h)
  | succ fu ih =>
    intro a0 a1 a2 a3 a4 a5 a6 a7 a8 i9 i10 i11 i12 i13 i14 i15 ws h
    rw [m_L_isSo_l712] at h
    refine j_iload (pc := 712) dL_isSo_712 rfl ?_
    refine j_bipush (pc := 714) dL_isSo_714 (v := 6) (by decide) ?_
    refine j_icmp_ge (pc := 716) (tgt := 793) dL_isSo_716 (by decide) (fun c1 => ?_) (fun c1 => ?_)
    · rw [if_pos c1] at h
      refine j_iload (pc := 793) dL_isSo_793 rfl ?_
      refine j_istore_15 (pc := 795) dL_isSo_795 (by decide) rfl ?_
      refine j_iconst (pc := 797) dL_isSo_797 (v := 0) (by decide) ?_
      refine j_istore_16 (pc := 798) dL_isSo_798 (by decide) rfl ?_
      refine j_iconst (pc := 800) dL_isSo_800 (v := 0) (by decide) ?_
      refine j_istore_17 (pc := 801) dL_isSo_801 (by decide) rfl ?_
      refine j_iconst (pc := 803) dL_isSo_803 (v := 0) (by decide) ?_
      refine j_istore_18 (pc := 804) dL_isSo_804 (by decide) rfl ?_
      exact jm_L_isSo_l806 FU _ _ _ _ _ _ _ _ _ _ _ _ _ _ _ _ _ _ _ ws h
    · rw [if_neg c1] at h
      refine j_iload (pc := 719) dL_isSo_719 rfl ?_
      refine j_iload (pc := 721) dL_isSo_721 rfl ?_
      refine j_ishr (pc := 723) dL_isSo_723 ?_
      refine j_iconst (pc := 724) dL_isSo_724 (v := 1) (by decide) ?_
      refine j_iand (pc := 725) dL_isSo_725 ?_
      refine j_iconst (pc := 726) dL_isSo_726 (v := 1) (by decide) ?_
      refine j_icmp_ne (pc := 727) (tgt := 770) dL_isSo_727 (by decide) (fun c2 => ?_) (fun c2 => ?_)
      · rw [if_neg c2] at h
        exact jm_L_isSo_b770 (hk712 := ih) _ _ _ _ _ _ _ _ _ _ _ _ _ _ _ _ ws h
      · rw [if_pos c2] at h
        refine j_iload (pc := 730) dL_isSo_730 rfl ?_
        refine j_if_lt (pc := 732) (tgt := 766) dL_isSo_732 (by decide) (fun c3 => ?_) (fun c3 => ?_)
        · rw [if_pos c3] at h
          exact jm_L_isSo_b766 (hk712 := ih) _ _ _ _ _ _ _ _ _ _ _ _ _ _ _ _ ws h
        · rw [if_neg c3] at h
          refine j_bipush (pc := 735) dL_isSo_735 (v := 20) (by decide) ?_
          refine j_aload (pc := 737) dL_isSo_737 rfl ?_
          refine j_iload (pc := 739) dL_isSo_739 rfl ?_
          obtain ⟨x4, e5, h⟩ := obS h
          refine j_iald (pc := 741) dL_isSo_741 e5 ?_
          refine j_imul (pc := 742) dL_isSo_742 ?_
          refine j_aload (pc := 743) dL_isSo_743 rfl ?_
          refine j_iload (pc := 745) dL_isSo_745 rfl ?_
          obtain ⟨x6, e7, h⟩ := obS h
          refine j_iald (pc := 747) dL_isSo_747 e7 ?_
          refine j_iadd (pc := 748) dL_isSo_748 ?_
          refine j_bipush (pc := 749) dL_isSo_749 (v := 20) (by decide) ?_
          refine j_aload (pc := 751) dL_isSo_751 rfl ?_
          refine j_iload (pc := 753) dL_isSo_753 rfl ?_
          obtain ⟨x8, e9, h⟩ := obS h
          refine j_iald (pc := 755) dL_isSo_755 e9 ?_
          refine j_imul (pc := 756) dL_isSo_756 ?_
          refine j_aload (pc := 757) dL_isSo_757 rfl ?_
          refine j_iload (pc := 759) dL_isSo_759 rfl ?_
          obtain ⟨x10, e11, h⟩ := obS h
          refine j_iald (pc := 761) dL_isSo_761 e11 ?_
          refine j_iadd (pc := 762) dL_isSo_762 ?_
          refine j_icmp_ge (pc := 763) (tgt := 770) dL_isSo_763 (by decide) (fun c12 => ?_) (fun c12 => ?_)
          · rw [if_pos c12] at h
            exact jm_L_isSo_b770 (hk712 := ih) _ _ _ _ _ _ _ _ _ _ _ _ _ _ _ _ ws h
          · rw [if_neg c12] at h
            exact jm_L_isSo_b766 (hk712 := ih) _ _ _ _ _ _ _ _ _ _ _ _ _ _ _ _ ws h
def m_L_isSo_b706 (a0 : Nat) (a1 : Nat) (a2 : Nat) (a3 : Nat) (a4 : Nat) (a5 : Nat) (a6 : Nat) (a7 : Nat) (a8 : Nat) (i9 : Int32) (i10 : Int32) (i11 : Int32) (i12 : Int32) (i13 : Int32) (ws : LWd) : Option (Int32 × LWd) :=
  m_L_isSo_l712 FU a0 a1 a2 a3 a4 a5 a6 a7 a8 i9 i10 i11 i12 i13 ((-1)) 0 ws
set_option maxRecDepth 100000 in
set_option maxHeartbeats 4000000 in
theorem jm_L_isSo_b706 {n0 : Nat} {rr : Int32} {ws' : LWd} (a0 : Nat) (a1 : Nat) (a2 : Nat) (a3 : Nat) (a4 : Nat) (a5 : Nat) (a6 : Nat) (a7 : Nat) (a8 : Nat) (i9 : Int32) (i10 : Int32) (i11 : Int32) (i12 : Int32) (i13 : Int32) (ws : LWd) (h : m_L_isSo_b706 a0 a1 a2 a3 a4 a5 a6 a7 a8 i9 i10 i11 i12 i13 ws = some (rr, ws')) : JG (.inr none) cL_isSo 30 RL wsL_isSo (some .boolean) "isSo" 11 2 12 n0 (.inl (some (.int rr)), ws') 706 [some (.ref a0), some (.ref a1), some (.ref a2), some (.ref a3), some (.ref a4), some (.ref a5), some (.ref a6), some (.ref a7), some (.ref a8), some (.int i9), some (.int i10), some (.int i11), some (.int i12), some (.int i13), none, none, none, none, none, none, none, none, none, none, none, none, none, none, none, none] [] ws 0 0 := by
  unfold m_L_isSo_b706 at h
  refine j_iconst (pc := 706) dL_isSo_706 (v := (-1)) (by decide) ?_
  refine j_istore_14 (pc := 707) dL_isSo_707 (by decide) rfl ?_
  refine j_iconst (pc := 709) dL_isSo_709 (v := 0) (by decide) ?_
  refine j_istore_15 (pc := 710) dL_isSo_710 (by decide) rfl ?_
  exact jm_L_isSo_l712 FU _ _ _ _ _ _ _ _ _ _ _ _ _ _ _ _ ws h
def m_L_isSo_b698 (k224 : Nat → Nat → Nat → Nat → Nat → Nat → Nat → Nat → Nat → Int32 → Int32 → Int32 → Int32 → Int32 → Int32 → LWd → Option (Int32 × LWd)) (a0 : Nat) (a1 : Nat) (a2 : Nat) (a3 : Nat) (a4 : Nat) (a5 : Nat) (a6 : Nat) (a7 : Nat) (a8 : Nat) (i9 : Int32) (i10 : Int32) (i11 : Int32) (i12 : Int32) (i14 : Int32) (s0 : Int32) (ws : LWd) : Option (Int32 × LWd) :=
  k224 a0 a1 a2 a3 a4 a5 a6 a7 a8 i9 i10 i11 i12 s0 (i14 + 1) ws
set_option maxRecDepth 100000 in
set_option maxHeartbeats 4000000 in
theorem jm_L_isSo_b698 {n0 : Nat} {rr : Int32} {ws' : LWd} {k224 : Nat → Nat → Nat → Nat → Nat → Nat → Nat → Nat → Nat → Int32 → Int32 → Int32 → Int32 → Int32 → Int32 → LWd → Option (Int32 × LWd)} (hk224 : ∀ (a0 : Nat) (a1 : Nat) (a2 : Nat) (a3 : Nat) (a4 : Nat) (a5 : Nat) (a6 : Nat) (a7 : Nat) (a8 : Nat) (i9 : Int32) (i10 : Int32) (i11 : Int32) (i12 : Int32) (i13 : Int32) (i14 : Int32) (ws : LWd), k224 a0 a1 a2 a3 a4 a5 a6 a7 a8 i9 i10 i11 i12 i13 i14 ws = some (rr, ws') → JG (.inr none) cL_isSo 30 RL wsL_isSo (some .boolean) "isSo" 11 2 12 n0 (.inl (some (.int rr)), ws') 224 [some (.ref a0), some (.ref a1), some (.ref a2), some (.ref a3), some (.ref a4), some (.ref a5), some (.ref a6), some (.ref a7), some (.ref a8), some (.int i9), some (.int i10), some (.int i11), some (.int i12), some (.int i13), some (.int i14), none, none, none, none, none, none, none, none, none, none, none, none, none, none, none] [] ws 0 0) (a0 : Nat) (a1 : Nat) (a2 : Nat) (a3 : Nat) (a4 : Nat) (a5 : Nat) (a6 : Nat) (a7 : Nat) (a8 : Nat) (i9 : Int32) (i10 : Int32) (i11 : Int32) (i12 : Int32) (i14 : Int32) (s0 : Int32) (ws : LWd) (h : m_L_isSo_b698 k224 a0 a1 a2 a3 a4 a5 a6 a7 a8 i9 i10 i11 i12 i14 s0 ws = some (rr, ws')) : JG (.inr none) cL_isSo 30 RL wsL_isSo (some .boolean) "isSo" 11 2 12 n0 (.inl (some (.int rr)), ws') 698 [some (.ref a0), some (.ref a1), some (.ref a2), some (.ref a3), some (.ref a4), some (.ref a5), some (.ref a6), some (.ref a7), some (.ref a8), some (.int i9), some (.int i10), some (.int i11), some (.int i12), none, some (.int i14), none, none, none, none, none, none, none, none, none, none, none, none, none, none, none] [.int s0] ws 0 0 := by
  unfold m_L_isSo_b698 at h
  refine j_istore_13 (pc := 698) dL_isSo_698 (by decide) rfl ?_
  refine j_iinc_14 (pc := 700) dL_isSo_700 (y := i14 + 1) rfl (by decide) rfl ?_
  refine j_goto (pc := 703) (tgt := 224) dL_isSo_703 (by decide) ?_
  exact hk224 _ _ _ _ _ _ _ _ _ _ _ _ _ _ _ ws h
def m_L_isSo_b697 (k224 : Nat → Nat → Nat → Nat → Nat → Nat → Nat → Nat → Nat → Int32 → Int32 → Int32 → Int32 → Int32 → Int32 → LWd → Option (Int32 × LWd)) (a0 : Nat) (a1 : Nat) (a2 : Nat) (a3 : Nat) (a4 : Nat) (a5 : Nat) (a6 : Nat) (a7 : Nat) (a8 : Nat) (i9 : Int32) (i10 : Int32) (i11 : Int32) (i12 : Int32) (i14 : Int32) (ws : LWd) : Option (Int32 × LWd) :=
  m_L_isSo_b698 k224 a0 a1 a2 a3 a4 a5 a6 a7 a8 i9 i10 i11 i12 i14 0 ws
set_option maxRecDepth 100000 in
set_option maxHeartbeats 4000000 in
theorem jm_L_isSo_b697 {n0 : Nat} {rr : Int32} {ws' : LWd} {k224 : Nat → Nat → Nat → Nat → Nat → Nat → Nat → Nat → Nat → Int32 → Int32 → Int32 → Int32 → Int32 → Int32 → LWd → Option (Int32 × LWd)} (hk224 : ∀ (a0 : Nat) (a1 : Nat) (a2 : Nat) (a3 : Nat) (a4 : Nat) (a5 : Nat) (a6 : Nat) (a7 : Nat) (a8 : Nat) (i9 : Int32) (i10 : Int32) (i11 : Int32) (i12 : Int32) (i13 : Int32) (i14 : Int32) (ws : LWd), k224 a0 a1 a2 a3 a4 a5 a6 a7 a8 i9 i10 i11 i12 i13 i14 ws = some (rr, ws') → JG (.inr none) cL_isSo 30 RL wsL_isSo (some .boolean) "isSo" 11 2 12 n0 (.inl (some (.int rr)), ws') 224 [some (.ref a0), some (.ref a1), some (.ref a2), some (.ref a3), some (.ref a4), some (.ref a5), some (.ref a6), some (.ref a7), some (.ref a8), some (.int i9), some (.int i10), some (.int i11), some (.int i12), some (.int i13), some (.int i14), none, none, none, none, none, none, none, none, none, none, none, none, none, none, none] [] ws 0 0) (a0 : Nat) (a1 : Nat) (a2 : Nat) (a3 : Nat) (a4 : Nat) (a5 : Nat) (a6 : Nat) (a7 : Nat) (a8 : Nat) (i9 : Int32) (i10 : Int32) (i11 : Int32) (i12 : Int32) (i14 : Int32) (ws : LWd) (h : m_L_isSo_b697 k224 a0 a1 a2 a3 a4 a5 a6 a7 a8 i9 i10 i11 i12 i14 ws = some (rr, ws')) : JG (.inr none) cL_isSo 30 RL wsL_isSo (some .boolean) "isSo" 11 2 12 n0 (.inl (some (.int rr)), ws') 697 [some (.ref a0), some (.ref a1), some (.ref a2), some (.ref a3), some (.ref a4), some (.ref a5), some (.ref a6), some (.ref a7), some (.ref a8), some (.int i9), some (.int i10), some (.int i11), some (.int i12), none, some (.int i14), none, none, none, none, none, none, none, none, none, none, none, none, none, none, none] [] ws 0 0 := by
  unfold m_L_isSo_b697 at h
  refine j_iconst (pc := 697) dL_isSo_697 (v := 0) (by decide) ?_
  exact jm_L_isSo_b698 (hk224 := hk224) _ _ _ _ _ _ _ _ _ _ _ _ _ _ _ ws h
def m_L_isSo_b677 (k224 : Nat → Nat → Nat → Nat → Nat → Nat → Nat → Nat → Nat → Int32 → Int32 → Int32 → Int32 → Int32 → Int32 → LWd → Option (Int32 × LWd)) (a0 : Nat) (a1 : Nat) (a2 : Nat) (a3 : Nat) (a4 : Nat) (a5 : Nat) (a6 : Nat) (a7 : Nat) (a8 : Nat) (i9 : Int32) (i10 : Int32) (i11 : Int32) (i12 : Int32) (i13 : Int32) (i14 : Int32) (i21 : Int32) (ws : LWd) : Option (Int32 × LWd) :=
  if i13 = 0 then
    m_L_isSo_b697 k224 a0 a1 a2 a3 a4 a5 a6 a7 a8 i9 i10 i11 i12 i14 ws
  else
    bn2 (calSR ws (nthr (m_X10_wouldLift a0 i14 ws))) fun x4 w2 =>
    if x4 = i21 then
      m_L_isSo_b698 k224 a0 a1 a2 a3 a4 a5 a6 a7 a8 i9 i10 i11 i12 i14 1 w2
    else
      m_L_isSo_b697 k224 a0 a1 a2 a3 a4 a5 a6 a7 a8 i9 i10 i11 i12 i14 w2
set_option maxRecDepth 100000 in
set_option maxHeartbeats 4000000 in
theorem jm_L_isSo_b677 {n0 : Nat} {rr : Int32} {ws' : LWd} {k224 : Nat → Nat → Nat → Nat → Nat → Nat → Nat → Nat → Nat → Int32 → Int32 → Int32 → Int32 → Int32 → Int32 → LWd → Option (Int32 × LWd)} (hk224 : ∀ (a0 : Nat) (a1 : Nat) (a2 : Nat) (a3 : Nat) (a4 : Nat) (a5 : Nat) (a6 : Nat) (a7 : Nat) (a8 : Nat) (i9 : Int32) (i10 : Int32) (i11 : Int32) (i12 : Int32) (i13 : Int32) (i14 : Int32) (ws : LWd), k224 a0 a1 a2 a3 a4 a5 a6 a7 a8 i9 i10 i11 i12 i13 i14 ws = some (rr, ws') → JG (.inr none) cL_isSo 30 RL wsL_isSo (some .boolean) "isSo" 11 2 12 n0 (.inl (some (.int rr)), ws') 224 [some (.ref a0), some (.ref a1), some (.ref a2), some (.ref a3), some (.ref a4), some (.ref a5), some (.ref a6), some (.ref a7), some (.ref a8), some (.int i9), some (.int i10), some (.int i11), some (.int i12), some (.int i13), some (.int i14), none, none, none, none, none, none, none, none, none, none, none, none, none, none, none] [] ws 0 0) (a0 : Nat) (a1 : Nat) (a2 : Nat) (a3 : Nat) (a4 : Nat) (a5 : Nat) (a6 : Nat) (a7 : Nat) (a8 : Nat) (i9 : Int32) (i10 : Int32) (i11 : Int32) (i12 : Int32) (i13 : Int32) (i14 : Int32) (i21 : Int32) (ws : LWd) (h : m_L_isSo_b677 k224 a0 a1 a2 a3 a4 a5 a6 a7 a8 i9 i10 i11 i12 i13 i14 i21 ws = some (rr, ws')) : JG (.inr none) cL_isSo 30 RL wsL_isSo (some .boolean) "isSo" 11 2 12 n0 (.inl (some (.int rr)), ws') 677 [some (.ref a0), some (.ref a1), some (.ref a2), some (.ref a3), some (.ref a4), some (.ref a5), some (.ref a6), some (.ref a7), some (.ref a8), some (.int i9), some (.int i10), some (.int i11), some (.int i12), some (.int i13), some (.int i14), none, none, none, none, none, none, some (.int i21), none, none, none, none, none, none, none, none] [] ws 0 0 := by
  unfold m_L_isSo_b677 at h
  refine j_iload (pc := 677) dL_isSo_677 rfl ?_
  refine j_if_eq (pc := 679) (tgt := 697) dL_isSo_679 (by decide) (fun c1 => ?_) (fun c1 => ?_)
  · rw [if_pos c1] at h
    refine j_mask [true, true, true, true, true, true, true, true, true, true, true, true, true, false, true, false, false, false, false, false, false, false, false, false, false, false, false, false, false, false] ?_
    exact jm_L_isSo_b697 (hk224 := hk224) _ _ _ _ _ _ _ _ _ _ _ _ _ _ ws h
  · rw [if_neg c1] at h
    refine j_aload_n (pc := 682) dL_isSo_682 rfl ?_
    refine j_iload (pc := 683) dL_isSo_683 rfl ?_
    obtain ⟨x4, w2, e3, h⟩ := obS2 h
    have ge3 := calSR_of e3
    refine j_callV_g (pc := 685) (As := [.int i14]) (k' := 0) (n' := 0) dL_isSo_685 (sn_X10_wouldLift (nthr_of ge3.1)) (jgV lw_679 lw_680 lw_681 lw_147 lw_678) rfl hv_X10_wouldLift rfl (r_X10_wouldLift (nthr_of ge3.1)) rfl (by decide) (by decide) (Nat.le_of_ble_eq_true rfl) (by decide) (by decide) (by decide) (by decide) (Or.inl ge3.2) ?_
    refine j_iload (pc := 688) dL_isSo_688 rfl ?_
    refine j_icmp_ne (pc := 690) (tgt := 697) dL_isSo_690 (by decide) (fun c5 => ?_) (fun c5 => ?_)
    · rw [if_neg c5] at h
      refine j_mask [true, true, true, true, true, true, true, true, true, true, true, true, true, false, true, false, false, false, false, false, false, false, false, false, false, false, false, false, false, false] ?_
      exact jm_L_isSo_b697 (hk224 := hk224) _ _ _ _ _ _ _ _ _ _ _ _ _ _ w2 h
    · rw [if_pos c5] at h
      refine j_iconst (pc := 693) dL_isSo_693 (v := 1) (by decide) ?_
      refine j_goto (pc := 694) (tgt := 698) dL_isSo_694 (by decide) ?_
      refine j_mask [true, true, true, true, true, true, true, true, true, true, true, true, true, false, true, false, false, false, false, false, false, false, false, false, false, false, false, false, false, false] ?_
      exact jm_L_isSo_b698 (hk224 := hk224) _ _ _ _ _ _ _ _ _ _ _ _ _ _ _ w2 h
def m_L_isSo_b675 (k224 : Nat → Nat → Nat → Nat → Nat → Nat → Nat → Nat → Nat → Int32 → Int32 → Int32 → Int32 → Int32 → Int32 → LWd → Option (Int32 × LWd)) (a0 : Nat) (a1 : Nat) (a2 : Nat) (a3 : Nat) (a4 : Nat) (a5 : Nat) (a6 : Nat) (a7 : Nat) (a8 : Nat) (i9 : Int32) (i10 : Int32) (i11 : Int32) (i12 : Int32) (i13 : Int32) (i14 : Int32) (s0 : Int32) (ws : LWd) : Option (Int32 × LWd) :=
  m_L_isSo_b677 k224 a0 a1 a2 a3 a4 a5 a6 a7 a8 i9 i10 i11 i12 i13 i14 s0 ws
set_option maxRecDepth 100000 in
set_option maxHeartbeats 4000000 in
theorem jm_L_isSo_b675 {n0 : Nat} {rr : Int32} {ws' : LWd} {k224 : Nat → Nat → Nat → Nat → Nat → Nat → Nat → Nat → Nat → Int32 → Int32 → Int32 → Int32 → Int32 → Int32 → LWd → Option (Int32 × LWd)} (hk224 : ∀ (a0 : Nat) (a1 : Nat) (a2 : Nat) (a3 : Nat) (a4 : Nat) (a5 : Nat) (a6 : Nat) (a7 : Nat) (a8 : Nat) (i9 : Int32) (i10 : Int32) (i11 : Int32) (i12 : Int32) (i13 : Int32) (i14 : Int32) (ws : LWd), k224 a0 a1 a2 a3 a4 a5 a6 a7 a8 i9 i10 i11 i12 i13 i14 ws = some (rr, ws') → JG (.inr none) cL_isSo 30 RL wsL_isSo (some .boolean) "isSo" 11 2 12 n0 (.inl (some (.int rr)), ws') 224 [some (.ref a0), some (.ref a1), some (.ref a2), some (.ref a3), some (.ref a4), some (.ref a5), some (.ref a6), some (.ref a7), some (.ref a8), some (.int i9), some (.int i10), some (.int i11), some (.int i12), some (.int i13), some (.int i14), none, none, none, none, none, none, none, none, none, none, none, none, none, none, none] [] ws 0 0) (a0 : Nat) (a1 : Nat) (a2 : Nat) (a3 : Nat) (a4 : Nat) (a5 : Nat) (a6 : Nat) (a7 : Nat) (a8 : Nat) (i9 : Int32) (i10 : Int32) (i11 : Int32) (i12 : Int32) (i13 : Int32) (i14 : Int32) (s0 : Int32) (ws : LWd) (h : m_L_isSo_b675 k224 a0 a1 a2 a3 a4 a5 a6 a7 a8 i9 i10 i11 i12 i13 i14 s0 ws = some (rr, ws')) : JG (.inr none) cL_isSo 30 RL wsL_isSo (some .boolean) "isSo" 11 2 12 n0 (.inl (some (.int rr)), ws') 675 [some (.ref a0), some (.ref a1), some (.ref a2), some (.ref a3), some (.ref a4), some (.ref a5), some (.ref a6), some (.ref a7), some (.ref a8), some (.int i9), some (.int i10), some (.int i11), some (.int i12), some (.int i13), some (.int i14), none, none, none, none, none, none, none, none, none, none, none, none, none, none, none] [.int s0] ws 0 0 := by
  unfold m_L_isSo_b675 at h
  refine j_istore_21 (pc := 675) dL_isSo_675 (by decide) rfl ?_
  exact jm_L_isSo_b677 (hk224 := hk224) _ _ _ _ _ _ _ _ _ _ _ _ _ _ _ _ ws h
def m_L_isSo_l623 (k224 : Nat → Nat → Nat → Nat → Nat → Nat → Nat → Nat → Nat → Int32 → Int32 → Int32 → Int32 → Int32 → Int32 → LWd → Option (Int32 × LWd)) : Nat → Nat → Nat → Nat → Nat → Nat → Nat → Nat → Nat → Nat → Int32 → Int32 → Int32 → Int32 → Int32 → Int32 → Int32 → Int32 → Int32 → LWd → Option (Int32 × LWd)
  | 0, _, _, _, _, _, _, _, _, _, _, _, _, _, _, _, _, _, _, _ => none
  | fu + 1, a0, a1, a2, a3, a4, a5, a6, a7, a8, i9, i10, i11, i12, i13, i14, i20, i21, i22, ws =>
    if i22 ≤ 0 then
      bn2 (calSR ws (m_L_holds a5 a6 a8 i20 ws)) fun x4 w2 =>
      if x4 = 0 then
        m_L_isSo_b675 k224 a0 a1 a2 a3 a4 a5 a6 a7 a8 i9 i10 i11 i12 i13 i14 2 w2
      else
        m_L_isSo_b675 k224 a0 a1 a2 a3 a4 a5 a6 a7 a8 i9 i10 i11 i12 i13 i14 i21 w2
    else
      bn2 (calSR ws (m_L_sinking a3 a5 a6 a8 (i20 - i22) ws)) fun x8 w6 =>
      m_L_isSo_l623 k224 fu a0 a1 a2 a3 a4 a5 a6 a7 a8 i9 i10 i11 i12 i13 i14 (i20 - i22) 1 x8 w6
set_option maxRecDepth 100000 in
set_option maxHeartbeats 4000000 in
theorem jm_L_isSo_l623 {n0 : Nat} {rr : Int32} {ws' : LWd} {k224 : Nat → Nat → Nat → Nat → Nat → Nat → Nat → Nat → Nat → Int32 → Int32 → Int32 → Int32 → Int32 → Int32 → LWd → Option (Int32 × LWd)} (hk224 : ∀ (a0 : Nat) (a1 : Nat) (a2 : Nat) (a3 : Nat) (a4 : Nat) (a5 : Nat) (a6 : Nat) (a7 : Nat) (a8 : Nat) (i9 : Int32) (i10 : Int32) (i11 : Int32) (i12 : Int32) (i13 : Int32) (i14 : Int32) (ws : LWd), k224 a0 a1 a2 a3 a4 a5 a6 a7 a8 i9 i10 i11 i12 i13 i14 ws = some (rr, ws') → JG (.inr none) cL_isSo 30 RL wsL_isSo (some .boolean) "isSo" 11 2 12 n0 (.inl (some (.int rr)), ws') 224 [some (.ref a0), some (.ref a1), some (.ref a2), some (.ref a3), some (.ref a4), some (.ref a5), some (.ref a6), some (.ref a7), some (.ref a8), some (.int i9), some (.int i10), some (.int i11), some (.int i12), some (.int i13), some (.int i14), none, none, none, none, none, none, none, none, none, none, none, none, none, none, none] [] ws 0 0) : ∀ (fu : Nat) (a0 : Nat) (a1 : Nat) (a2 : Nat) (a3 : Nat) (a4 : Nat) (a5 : Nat) (a6 : Nat) (a7 : Nat) (a8 : Nat) (i9 : Int32) (i10 : Int32) (i11 : Int32) (i12 : Int32) (i13 : Int32) (i14 : Int32) (i20 : Int32) (i21 : Int32) (i22 : Int32) (ws : LWd), m_L_isSo_l623 k224 fu a0 a1 a2 a3 a4 a5 a6 a7 a8 i9 i10 i11 i12 i13 i14 i20 i21 i22 ws = some (rr, ws') → JG (.inr none) cL_isSo 30 RL wsL_isSo (some .boolean) "isSo" 11 2 12 n0 (.inl (some (.int rr)), ws') 623 [some (.ref a0), some (.ref a1), some (.ref a2), some (.ref a3), some (.ref a4), some (.ref a5), some (.ref a6), some (.ref a7), some (.ref a8), some (.int i9), some (.int i10), some (.int i11), some (.int i12), some (.int i13), some (.int i14), none, none, none, none, none, some (.int i20), some (.int i21), some (.int i22), none, none, none, none, none, none, none] [] ws 0 0 := by
  intro fu
  induction fu with
  | zero => intro a0 a1 a2 a3 a4 a5 a6 a7 a8 i9 i10 i11 i12 i13 i14 i20 i21 i22 ws h; first | (cases h; done) | (rw [m_L_isSo_l623] at h; cases h)
  | succ fu ih =>
    intro a0 a1 a2 a3 a4 a5 a6 a7 a8 i9 i10 i11 i12 i13 i14 i20 i21 i22 ws h
    rw [m_L_isSo_l623] at h
    refine j_iload (pc := 623) dL_isSo_623 rfl ?_
    refine j_if_le (pc := 625) (tgt := 655) dL_isSo_625 (by decide) (fun c1 => ?_) (fun c1 => ?_)
    · rw [if_pos c1] at h
      refine j_aload (pc := 655) dL_isSo_655 rfl ?_
      refine j_aload (pc := 657) dL_isSo_657 rfl ?_
      refine j_aload (pc := 659) dL_isSo_659 rfl ?_
      refine j_iload (pc := 661) dL_isSo_661 rfl ?_
      obtain ⟨x4, w2, e3, h⟩ := obS2 h
      have ge3 := calSR_of e3
      refine j_callS_g (pc := 663) (As := [.ref a5, .ref a6, .ref a8, .int i20]) (k' := 0) (n' := 0) dL_isSo_663 (s_L_holds ge3.1) (jgS lw_623 lw_624 lw_597 lw_622) rfl hy_L_holds rfl (by decide) (by decide) (Nat.le_of_ble_eq_true rfl) (by decide) (by decide) (by decide) (by decide) (Or.inl ge3.2) ?_
      refine j_if_eq (pc := 666) (tgt := 674) dL_isSo_666 (by decide) (fun c5 => ?_) (fun c5 => ?_)
      · rw [if_pos c5] at h
        refine j_iconst (pc := 674) dL_isSo_674 (v := 2) (by decide) ?_
        refine j_mask [true, true, true, true, true, true, true, true, true, true, true, true, true, true, true, false, false, false, false, false, false, false, false, false, false, false, false, false, false, false] ?_
        exact jm_L_isSo_b675 (hk224 := hk224) _ _ _ _ _ _ _ _ _ _ _ _ _ _ _ _ w2 h
      · rw [if_neg c5] at h
        refine j_iload (pc := 669) dL_isSo_669 rfl ?_
        refine j_goto (pc := 671) (tgt := 675) dL_isSo_671 (by decide) ?_
        refine j_mask [true, true, true, true, true, true, true, true, true, true, true, true, true, true, true, false, false, false, false, false, false, false, false, false, false, false, false, false, false, false] ?_
        exact jm_L_isSo_b675 (hk224 := hk224) _ _ _ _ _ _ _ _ _ _ _ _ _ _ _ _ w2 h
    · rw [if_neg c1] at h
      refine j_iconst (pc := 628) dL_isSo_628 (v := 1) (by decide) ?_
      refine j_istore_21 (pc := 629) dL_isSo_629 (by decide) rfl ?_
      refine j_iload (pc := 631) dL_isSo_631 rfl ?_
      refine j_iload (pc := 633) dL_isSo_633 rfl ?_
      refine j_isub (pc := 635) dL_isSo_635 ?_
      refine j_istore_20 (pc := 636) dL_isSo_636 (by decide) rfl ?_
      refine j_aload_n (pc := 638) dL_isSo_638 rfl ?_
      refine j_aload (pc := 639) dL_isSo_639 rfl ?_
      refine j_aload (pc := 641) dL_isSo_641 rfl ?_
      refine j_aload (pc := 643) dL_isSo_643 rfl ?_
      refine j_iload (pc := 645) dL_isSo_645 rfl ?_
      obtain ⟨x8, w6, e7, h⟩ := obS2 h
      have ge7 := calSR_of e7
      refine j_callS_g (pc := 647) (As := [.ref a3, .ref a5, .ref a6, .ref a8, .int (i20 - i22)]) (k' := 0) (n' := 0) dL_isSo_647 (s_L_sinking ge7.1) (jgS lw_620 lw_621 lw_597 lw_619) rfl hy_L_sinking rfl (by decide) (by decide) (Nat.le_of_ble_eq_true rfl) (by decide) (by decide) (by decide) (by decide) (Or.inl ge7.2) ?_
      refine j_istore_22 (pc := 650) dL_isSo_650 (by decide) rfl ?_
      refine j_goto (pc := 652) (tgt := 623) dL_isSo_652 (by decide) ?_
      exact ih _ _ _ _ _ _ _ _ _ _ _ _ _ _ _ _ _ _ w6 h
def m_L_isSo_b602 (k224 : Nat → Nat → Nat → Nat → Nat → Nat → Nat → Nat → Nat → Int32 → Int32 → Int32 → Int32 → Int32 → Int32 → LWd → Option (Int32 × LWd)) (a0 : Nat) (a1 : Nat) (a2 : Nat) (a3 : Nat) (a4 : Nat) (a5 : Nat) (a6 : Nat) (a7 : Nat) (a8 : Nat) (i9 : Int32) (i10 : Int32) (i11 : Int32) (i12 : Int32) (i13 : Int32) (i14 : Int32) (i20 : Int32) (s0 : Int32) (ws : LWd) : Option (Int32 × LWd) :=
  if s0 = 0 then
    bn2 (calSR ws (m_L_sinking a3 a5 a6 a8 i20 ws)) fun x4 w2 =>
    m_L_isSo_l623 k224 FU a0 a1 a2 a3 a4 a5 a6 a7 a8 i9 i10 i11 i12 i13 i14 i20 s0 x4 w2
  else
    m_L_isSo_b677 k224 a0 a1 a2 a3 a4 a5 a6 a7 a8 i9 i10 i11 i12 i13 i14 s0 ws
set_option maxRecDepth 100000 in
set_option maxHeartbeats 4000000 in
theorem jm_L_isSo_b602 {n0 : Nat} {rr : Int32} {ws' : LWd} {k224 : Nat → Nat → Nat → Nat → Nat → Nat → Nat → Nat → Nat → Int32 → Int32 → Int32 → Int32 → Int32 → Int32 → LWd → Option (Int32 × LWd)} (hk224 : ∀ (a0 : Nat) (a1 : Nat) (a2 : Nat) (a3 : Nat) (a4 : Nat) (a5 : Nat) (a6 : Nat) (a7 : Nat) (a8 : Nat) (i9 : Int32) (i10 : Int32) (i11 : Int32) (i12 : Int32) (i13 : Int32) (i14 : Int32) (ws : LWd), k224 a0 a1 a2 a3 a4 a5 a6 a7 a8 i9 i10 i11 i12 i13 i14 ws = some (rr, ws') → JG (.inr none) cL_isSo 30 RL wsL_isSo (some .boolean) "isSo" 11 2 12 n0 (.inl (some (.int rr)), ws') 224 [some (.ref a0), some (.ref a1), some (.ref a2), some (.ref a3), some (.ref a4), some (.ref a5), some (.ref a6), some (.ref a7), some (.ref a8), some (.int i9), some (.int i10), some (.int i11), some (.int i12), some (.int i13), some (.int i14), none, none, none, none, none, none, none, none, none, none, none, none, none, none, none] [] ws 0 0) (a0 : Nat) (a1 : Nat) (a2 : Nat) (a3 : Nat) (a4 : Nat) (a5 : Nat) (a6 : Nat) (a7 : Nat) (a8 : Nat) (i9 : Int32) (i10 : Int32) (i11 : Int32) (i12 : Int32) (i13 : Int32) (i14 : Int32) (i20 : Int32) (s0 : Int32) (ws : LWd) (h : m_L_isSo_b602 k224 a0 a1 a2 a3 a4 a5 a6 a7 a8 i9 i10 i11 i12 i13 i14 i20 s0 ws = some (rr, ws')) : JG (.inr none) cL_isSo 30 RL wsL_isSo (some .boolean) "isSo" 11 2 12 n0 (.inl (some (.int rr)), ws') 602 [some (.ref a0), some (.ref a1), some (.ref a2), some (.ref a3), some (.ref a4), some (.ref a5), some (.ref a6), some (.ref a7), some (.ref a8), some (.int i9), some (.int i10), some (.int i11), some (.int i12), some (.int i13), some (.int i14), none, none, none, none, none, some (.int i20), none, none, none, none, none, none, none, none, none] [.int s0] ws 0 0 := by
  unfold m_L_isSo_b602 at h
  refine j_istore_21 (pc := 602) dL_isSo_602 (by decide) rfl ?_
  refine j_iload (pc := 604) dL_isSo_604 rfl ?_
  refine j_if_ne (pc := 606) (tgt := 677) dL_isSo_606 (by decide) (fun c1 => ?_) (fun c1 => ?_)
  · rw [if_neg c1] at h
    refine j_mask [true, true, true, true, true, true, true, true, true, true, true, true, true, true, true, false, false, false, false, false, false, true, false, false, false, false, false, false, false, false] ?_
    exact jm_L_isSo_b677 (hk224 := hk224) _ _ _ _ _ _ _ _ _ _ _ _ _ _ _ _ ws h
  · rw [if_pos c1] at h
    refine j_aload_n (pc := 609) dL_isSo_609 rfl ?_
    refine j_aload (pc := 610) dL_isSo_610 rfl ?_
    refine j_aload (pc := 612) dL_isSo_612 rfl ?_
    refine j_aload (pc := 614) dL_isSo_614 rfl ?_
    refine j_iload (pc := 616) dL_isSo_616 rfl ?_
    obtain ⟨x4, w2, e3, h⟩ := obS2 h
    have ge3 := calSR_of e3
    refine j_callS_g (pc := 618) (As := [.ref a3, .ref a5, .ref a6, .ref a8, .int i20]) (k' := 0) (n' := 0) dL_isSo_618 (s_L_sinking ge3.1) (jgS lw_620 lw_621 lw_597 lw_619) rfl hy_L_sinking rfl (by decide) (by decide) (Nat.le_of_ble_eq_true rfl) (by decide) (by decide) (by decide) (by decide) (Or.inl ge3.2) ?_
    refine j_istore_22 (pc := 621) dL_isSo_621 (by decide) rfl ?_
    exact jm_L_isSo_l623 (hk224 := hk224) FU _ _ _ _ _ _ _ _ _ _ _ _ _ _ _ _ _ _ w2 h
def m_L_isSo_b601 (k224 : Nat → Nat → Nat → Nat → Nat → Nat → Nat → Nat → Nat → Int32 → Int32 → Int32 → Int32 → Int32 → Int32 → LWd → Option (Int32 × LWd)) (a0 : Nat) (a1 : Nat) (a2 : Nat) (a3 : Nat) (a4 : Nat) (a5 : Nat) (a6 : Nat) (a7 : Nat) (a8 : Nat) (i9 : Int32) (i10 : Int32) (i11 : Int32) (i12 : Int32) (i13 : Int32) (i14 : Int32) (i20 : Int32) (ws : LWd) : Option (Int32 × LWd) :=
  m_L_isSo_b602 k224 a0 a1 a2 a3 a4 a5 a6 a7 a8 i9 i10 i11 i12 i13 i14 i20 ((-1)) ws
set_option maxRecDepth 100000 in
set_option maxHeartbeats 4000000 in
theorem jm_L_isSo_b601 {n0 : Nat} {rr : Int32} {ws' : LWd} {k224 : Nat → Nat → Nat → Nat → Nat → Nat → Nat → Nat → Nat → Int32 → Int32 → Int32 → Int32 → Int32 → Int32 → LWd → Option (Int32 × LWd)} (hk224 : ∀ (a0 : Nat) (a1 : Nat) (a2 : Nat) (a3 : Nat) (a4 : Nat) (a5 : Nat) (a6 : Nat) (a7 : Nat) (a8 : Nat) (i9 : Int32) (i10 : Int32) (i11 : Int32) (i12 : Int32) (i13 : Int32) (i14 : Int32) (ws : LWd), k224 a0 a1 a2 a3 a4 a5 a6 a7 a8 i9 i10 i11 i12 i13 i14 ws = some (rr, ws') → JG (.inr none) cL_isSo 30 RL wsL_isSo (some .boolean) "isSo" 11 2 12 n0 (.inl (some (.int rr)), ws') 224 [some (.ref a0), some (.ref a1), some (.ref a2), some (.ref a3), some (.ref a4), some (.ref a5), some (.ref a6), some (.ref a7), some (.ref a8), some (.int i9), some (.int i10), some (.int i11), some (.int i12), some (.int i13), some (.int i14), none, none, none, none, none, none, none, none, none, none, none, none, none, none, none] [] ws 0 0) (a0 : Nat) (a1 : Nat) (a2 : Nat) (a3 : Nat) (a4 : Nat) (a5 : Nat) (a6 : Nat) (a7 : Nat) (a8 : Nat) (i9 : Int32) (i10 : Int32) (i11 : Int32) (i12 : Int32) (i13 : Int32) (i14 : Int32) (i20 : Int32) (ws : LWd) (h : m_L_isSo_b601 k224 a0 a1 a2 a3 a4 a5 a6 a7 a8 i9 i10 i11 i12 i13 i14 i20 ws = some (rr, ws')) : JG (.inr none) cL_isSo 30 RL wsL_isSo (some .boolean) "isSo" 11 2 12 n0 (.inl (some (.int rr)), ws') 601 [some (.ref a0), some (.ref a1), some (.ref a2), some (.ref a3), some (.ref a4), some (.ref a5), some (.ref a6), some (.ref a7), some (.ref a8), some (.int i9), some (.int i10), some (.int i11), some (.int i12), some (.int i13), some (.int i14), none, none, none, none, none, some (.int i20), none, none, none, none, none, none, none, none, none] [] ws 0 0 := by
  unfold m_L_isSo_b601 at h
  refine j_iconst (pc := 601) dL_isSo_601 (v := (-1)) (by decide) ?_
  exact jm_L_isSo_b602 (hk224 := hk224) _ _ _ _ _ _ _ _ _ _ _ _ _ _ _ _ _ ws h
def m_L_isSo_b557 (k224 : Nat → Nat → Nat → Nat → Nat → Nat → Nat → Nat → Nat → Int32 → Int32 → Int32 → Int32 → Int32 → Int32 → LWd → Option (Int32 × LWd)) (a0 : Nat) (a1 : Nat) (a2 : Nat) (a3 : Nat) (a4 : Nat) (a5 : Nat) (a6 : Nat) (a7 : Nat) (a8 : Nat) (i9 : Int32) (i10 : Int32) (i11 : Int32) (i12 : Int32) (i14 : Int32) (i15 : Int32) (i16 : Int32) (s0 : Int32) (ws : LWd) : Option (Int32 × LWd) :=
  (aI ws a8 0).bind fun x1 =>
  if x1 = 1 then
    if i15 = 0 then
      m_L_isSo_b601 k224 a0 a1 a2 a3 a4 a5 a6 a7 a8 i9 i10 i11 i12 s0 i14 i16 ws
    else
      (aI ws a8 3).bind fun x5 =>
      if x5 ≤ 0 then
        m_L_isSo_b601 k224 a0 a1 a2 a3 a4 a5 a6 a7 a8 i9 i10 i11 i12 s0 i14 i16 ws
      else
        bn2 (calSR ws (m_L_holds a5 a6 a8 i16 ws)) fun x10 w8 =>
        if x10 = 0 then
          m_L_isSo_b601 k224 a0 a1 a2 a3 a4 a5 a6 a7 a8 i9 i10 i11 i12 s0 i14 i16 w8
        else
          m_L_isSo_b602 k224 a0 a1 a2 a3 a4 a5 a6 a7 a8 i9 i10 i11 i12 s0 i14 i16 0 w8
  else
    m_L_isSo_b601 k224 a0 a1 a2 a3 a4 a5 a6 a7 a8 i9 i10 i11 i12 s0 i14 i16 ws
set_option maxRecDepth 100000 in
set_option maxHeartbeats 4000000 in
theorem jm_L_isSo_b557 {n0 : Nat} {rr : Int32} {ws' : LWd} {k224 : Nat → Nat → Nat → Nat → Nat → Nat → Nat → Nat → Nat → Int32 → Int32 → Int32 → Int32 → Int32 → Int32 → LWd → Option (Int32 × LWd)} (hk224 : ∀ (a0 : Nat) (a1 : Nat) (a2 : Nat) (a3 : Nat) (a4 : Nat) (a5 : Nat) (a6 : Nat) (a7 : Nat) (a8 : Nat) (i9 : Int32) (i10 : Int32) (i11 : Int32) (i12 : Int32) (i13 : Int32) (i14 : Int32) (ws : LWd), k224 a0 a1 a2 a3 a4 a5 a6 a7 a8 i9 i10 i11 i12 i13 i14 ws = some (rr, ws') → JG (.inr none) cL_isSo 30 RL wsL_isSo (some .boolean) "isSo" 11 2 12 n0 (.inl (some (.int rr)), ws') 224 [some (.ref a0), some (.ref a1), some (.ref a2), some (.ref a3), some (.ref a4), some (.ref a5), some (.ref a6), some (.ref a7), some (.ref a8), some (.int i9), some (.int i10), some (.int i11), some (.int i12), some (.int i13), some (.int i14), none, none, none, none, none, none, none, none, none, none, none, none, none, none, none] [] ws 0 0) (a0 : Nat) (a1 : Nat) (a2 : Nat) (a3 : Nat) (a4 : Nat) (a5 : Nat) (a6 : Nat) (a7 : Nat) (a8 : Nat) (i9 : Int32) (i10 : Int32) (i11 : Int32) (i12 : Int32) (i14 : Int32) (i15 : Int32) (i16 : Int32) (s0 : Int32) (ws : LWd) (h : m_L_isSo_b557 k224 a0 a1 a2 a3 a4 a5 a6 a7 a8 i9 i10 i11 i12 i14 i15 i16 s0 ws = some (rr, ws')) : JG (.inr none) cL_isSo 30 RL wsL_isSo (some .boolean) "isSo" 11 2 12 n0 (.inl (some (.int rr)), ws') 557 [some (.ref a0), some (.ref a1), some (.ref a2), some (.ref a3), some (.ref a4), some (.ref a5), some (.ref a6), some (.ref a7), some (.ref a8), some (.int i9), some (.int i10), some (.int i11), some (.int i12), none, some (.int i14), some (.int i15), some (.int i16), none, none, none, none, none, none, none, none, none, none, none, none, none] [.int s0] ws 0 0 := by
  unfold m_L_isSo_b557 at h
  refine j_istore_13 (pc := 557) dL_isSo_557 (by decide) rfl ?_
  refine j_iload (pc := 559) dL_isSo_559 rfl ?_
  refine j_istore_20 (pc := 561) dL_isSo_561 (by decide) rfl ?_
  refine j_aload (pc := 563) dL_isSo_563 rfl ?_
  refine j_iconst (pc := 565) dL_isSo_565 (v := 0) (by decide) ?_
  obtain ⟨x1, e2, h⟩ := obS h
  refine j_iald (pc := 566) dL_isSo_566 e2 ?_
  refine j_iconst (pc := 567) dL_isSo_567 (v := 1) (by decide) ?_
  refine j_icmp_ne (pc := 568) (tgt := 601) dL_isSo_568 (by decide) (fun c3 => ?_) (fun c3 => ?_)
  · rw [if_neg c3] at h
    refine j_mask [true, true, true, true, true, true, true, true, true, true, true, true, true, true, true, false, false, false, false, false, true, false, false, false, false, false, false, false, false, false] ?_
    exact jm_L_isSo_b601 (hk224 := hk224) _ _ _ _ _ _ _ _ _ _ _ _ _ _ _ _ ws h
  · rw [if_pos c3] at h
    refine j_iload (pc := 571) dL_isSo_571 rfl ?_
    refine j_if_eq (pc := 573) (tgt := 601) dL_isSo_573 (by decide) (fun c4 => ?_) (fun c4 => ?_)
    · rw [if_pos c4] at h
      refine j_mask [true, true, true, true, true, true, true, true, true, true, true, true, true, true, true, false, false, false, false, false, true, false, false, false, false, false, false, false, false, false] ?_
      exact jm_L_isSo_b601 (hk224 := hk224) _ _ _ _ _ _ _ _ _ _ _ _ _ _ _ _ ws h
    · rw [if_neg c4] at h
      refine j_aload (pc := 576) dL_isSo_576 rfl ?_
      refine j_iconst (pc := 578) dL_isSo_578 (v := 3) (by decide) ?_
      obtain ⟨x5, e6, h⟩ := obS h
      refine j_iald (pc := 579) dL_isSo_579 e6 ?_
      refine j_if_le (pc := 580) (tgt := 601) dL_isSo_580 (by decide) (fun c7 => ?_) (fun c7 => ?_)
      · rw [if_pos c7] at h
        refine j_mask [true, true, true, true, true, true, true, true, true, true, true, true, true, true, true, false, false, false, false, false, true, false, false, false, false, false, false, false, false, false] ?_
        exact jm_L_isSo_b601 (hk224 := hk224) _ _ _ _ _ _ _ _ _ _ _ _ _ _ _ _ ws h
      · rw [if_neg c7] at h
        refine j_aload (pc := 583) dL_isSo_583 rfl ?_
        refine j_aload (pc := 585) dL_isSo_585 rfl ?_
        refine j_aload (pc := 587) dL_isSo_587 rfl ?_
        refine j_iload (pc := 589) dL_isSo_589 rfl ?_
        obtain ⟨x10, w8, e9, h⟩ := obS2 h
        have ge9 := calSR_of e9
        refine j_callS_g (pc := 591) (As := [.ref a5, .ref a6, .ref a8, .int i16]) (k' := 0) (n' := 0) dL_isSo_591 (s_L_holds ge9.1) (jgS lw_623 lw_624 lw_597 lw_622) rfl hy_L_holds rfl (by decide) (by decide) (Nat.le_of_ble_eq_true rfl) (by decide) (by decide) (by decide) (by decide) (Or.inl ge9.2) ?_
        refine j_if_eq (pc := 594) (tgt := 601) dL_isSo_594 (by decide) (fun c11 => ?_) (fun c11 => ?_)
        · rw [if_pos c11] at h
          refine j_mask [true, true, true, true, true, true, true, true, true, true, true, true, true, true, true, false, false, false, false, false, true, false, false, false, false, false, false, false, false, false] ?_
          exact jm_L_isSo_b601 (hk224 := hk224) _ _ _ _ _ _ _ _ _ _ _ _ _ _ _ _ w8 h
        · rw [if_neg c11] at h
          refine j_iconst (pc := 597) dL_isSo_597 (v := 0) (by decide) ?_
          refine j_goto (pc := 598) (tgt := 602) dL_isSo_598 (by decide) ?_
          refine j_mask [true, true, true, true, true, true, true, true, true, true, true, true, true, true, true, false, false, false, false, false, true, false, false, false, false, false, false, false, false, false] ?_
          exact jm_L_isSo_b602 (hk224 := hk224) _ _ _ _ _ _ _ _ _ _ _ _ _ _ _ _ _ w8 h
def m_L_isSo_b556 (k224 : Nat → Nat → Nat → Nat → Nat → Nat → Nat → Nat → Nat → Int32 → Int32 → Int32 → Int32 → Int32 → Int32 → LWd → Option (Int32 × LWd)) (a0 : Nat) (a1 : Nat) (a2 : Nat) (a3 : Nat) (a4 : Nat) (a5 : Nat) (a6 : Nat) (a7 : Nat) (a8 : Nat) (i9 : Int32) (i10 : Int32) (i11 : Int32) (i12 : Int32) (i14 : Int32) (i15 : Int32) (i16 : Int32) (ws : LWd) : Option (Int32 × LWd) :=
  m_L_isSo_b557 k224 a0 a1 a2 a3 a4 a5 a6 a7 a8 i9 i10 i11 i12 i14 i15 i16 0 ws
set_option maxRecDepth 100000 in
set_option maxHeartbeats 4000000 in
theorem jm_L_isSo_b556 {n0 : Nat} {rr : Int32} {ws' : LWd} {k224 : Nat → Nat → Nat → Nat → Nat → Nat → Nat → Nat → Nat → Int32 → Int32 → Int32 → Int32 → Int32 → Int32 → LWd → Option (Int32 × LWd)} (hk224 : ∀ (a0 : Nat) (a1 : Nat) (a2 : Nat) (a3 : Nat) (a4 : Nat) (a5 : Nat) (a6 : Nat) (a7 : Nat) (a8 : Nat) (i9 : Int32) (i10 : Int32) (i11 : Int32) (i12 : Int32) (i13 : Int32) (i14 : Int32) (ws : LWd), k224 a0 a1 a2 a3 a4 a5 a6 a7 a8 i9 i10 i11 i12 i13 i14 ws = some (rr, ws') → JG (.inr none) cL_isSo 30 RL wsL_isSo (some .boolean) "isSo" 11 2 12 n0 (.inl (some (.int rr)), ws') 224 [some (.ref a0), some (.ref a1), some (.ref a2), some (.ref a3), some (.ref a4), some (.ref a5), some (.ref a6), some (.ref a7), some (.ref a8), some (.int i9), some (.int i10), some (.int i11), some (.int i12), some (.int i13), some (.int i14), none, none, none, none, none, none, none, none, none, none, none, none, none, none, none] [] ws 0 0) (a0 : Nat) (a1 : Nat) (a2 : Nat) (a3 : Nat) (a4 : Nat) (a5 : Nat) (a6 : Nat) (a7 : Nat) (a8 : Nat) (i9 : Int32) (i10 : Int32) (i11 : Int32) (i12 : Int32) (i14 : Int32) (i15 : Int32) (i16 : Int32) (ws : LWd) (h : m_L_isSo_b556 k224 a0 a1 a2 a3 a4 a5 a6 a7 a8 i9 i10 i11 i12 i14 i15 i16 ws = some (rr, ws')) : JG (.inr none) cL_isSo 30 RL wsL_isSo (some .boolean) "isSo" 11 2 12 n0 (.inl (some (.int rr)), ws') 556 [some (.ref a0), some (.ref a1), some (.ref a2), some (.ref a3), some (.ref a4), some (.ref a5), some (.ref a6), some (.ref a7), some (.ref a8), some (.int i9), some (.int i10), some (.int i11), some (.int i12), none, some (.int i14), some (.int i15), some (.int i16), none, none, none, none, none, none, none, none, none, none, none, none, none] [] ws 0 0 := by
  unfold m_L_isSo_b556 at h
  refine j_iconst (pc := 556) dL_isSo_556 (v := 0) (by decide) ?_
  exact jm_L_isSo_b557 (hk224 := hk224) _ _ _ _ _ _ _ _ _ _ _ _ _ _ _ _ _ ws h
def m_L_isSo_b528 (k224 : Nat → Nat → Nat → Nat → Nat → Nat → Nat → Nat → Nat → Int32 → Int32 → Int32 → Int32 → Int32 → Int32 → LWd → Option (Int32 × LWd)) (k366 : Nat → Nat → Nat → Nat → Nat → Nat → Nat → Nat → Nat → Int32 → Int32 → Int32 → Int32 → Int32 → Int32 → Int32 → Int32 → Int32 → Int32 → Int32 → Int32 → LWd → Option (Int32 × LWd)) (a0 : Nat) (a1 : Nat) (a2 : Nat) (a3 : Nat) (a4 : Nat) (a5 : Nat) (a6 : Nat) (a7 : Nat) (a8 : Nat) (i9 : Int32) (i10 : Int32) (i11 : Int32) (i12 : Int32) (i13 : Int32) (i14 : Int32) (i15 : Int32) (i16 : Int32) (i17 : Int32) (i18 : Int32) (i20 : Int32) (s0 : Int32) (ws : LWd) : Option (Int32 × LWd) :=
  k366 a0 a1 a2 a3 a4 a5 a6 a7 a8 i9 i10 i11 i12 i13 i14 i15 i16 i17 i18 s0 (i20 + 1) ws
set_option maxRecDepth 100000 in
set_option maxHeartbeats 4000000 in
theorem jm_L_isSo_b528 {n0 : Nat} {rr : Int32} {ws' : LWd} {k224 : Nat → Nat → Nat → Nat → Nat → Nat → Nat → Nat → Nat → Int32 → Int32 → Int32 → Int32 → Int32 → Int32 → LWd → Option (Int32 × LWd)} {k366 : Nat → Nat → Nat → Nat → Nat → Nat → Nat → Nat → Nat → Int32 → Int32 → Int32 → Int32 → Int32 → Int32 → Int32 → Int32 → Int32 → Int32 → Int32 → Int32 → LWd → Option (Int32 × LWd)} (hk224 : ∀ (a0 : Nat) (a1 : Nat) (a2 : Nat) (a3 : Nat) (a4 : Nat) (a5 : Nat) (a6 : Nat) (a7 : Nat) (a8 : Nat) (i9 : Int32) (i10 : Int32) (i11 : Int32) (i12 : Int32) (i13 : Int32) (i14 : Int32) (ws : LWd), k224 a0 a1 a2 a3 a4 a5 a6 a7 a8 i9 i10 i11 i12 i13 i14 ws = some (rr, ws') → JG (.inr none) cL_isSo 30 RL wsL_isSo (some .boolean) "isSo" 11 2 12 n0 (.inl (some (.int rr)), ws') 224 [some (.ref a0), some (.ref a1), some (.ref a2), some (.ref a3), some (.ref a4), some (.ref a5), some (.ref a6), some (.ref a7), some (.ref a8), some (.int i9), some (.int i10), some (.int i11), some (.int i12), some (.int i13), some (.int i14), none, none, none, none, none, none, none, none, none, none, none, none, none, none, none] [] ws 0 0) (hk366 : ∀ (a0 : Nat) (a1 : Nat) (a2 : Nat) (a3 : Nat) (a4 : Nat) (a5 : Nat) (a6 : Nat) (a7 : Nat) (a8 : Nat) (i9 : Int32) (i10 : Int32) (i11 : Int32) (i12 : Int32) (i13 : Int32) (i14 : Int32) (i15 : Int32) (i16 : Int32) (i17 : Int32) (i18 : Int32) (i19 : Int32) (i20 : Int32) (ws : LWd), k366 a0 a1 a2 a3 a4 a5 a6 a7 a8 i9 i10 i11 i12 i13 i14 i15 i16 i17 i18 i19 i20 ws = some (rr, ws') → JG (.inr none) cL_isSo 30 RL wsL_isSo (some .boolean) "isSo" 11 2 12 n0 (.inl (some (.int rr)), ws') 366 [some (.ref a0), some (.ref a1), some (.ref a2), some (.ref a3), some (.ref a4), some (.ref a5), some (.ref a6), some (.ref a7), some (.ref a8), some (.int i9), some (.int i10), some (.int i11), some (.int i12), some (.int i13), some (.int i14), some (.int i15), some (.int i16), some (.int i17), some (.int i18), some (.int i19), some (.int i20), none, none, none, none, none, none, none, none, none] [] ws 0 0) (a0 : Nat) (a1 : Nat) (a2 : Nat) (a3 : Nat) (a4 : Nat) (a5 : Nat) (a6 : Nat) (a7 : Nat) (a8 : Nat) (i9 : Int32) (i10 : Int32) (i11 : Int32) (i12 : Int32) (i13 : Int32) (i14 : Int32) (i15 : Int32) (i16 : Int32) (i17 : Int32) (i18 : Int32) (i20 : Int32) (s0 : Int32) (ws : LWd) (h : m_L_isSo_b528 k224 k366 a0 a1 a2 a3 a4 a5 a6 a7 a8 i9 i10 i11 i12 i13 i14 i15 i16 i17 i18 i20 s0 ws = some (rr, ws')) : JG (.inr none) cL_isSo 30 RL wsL_isSo (some .boolean) "isSo" 11 2 12 n0 (.inl (some (.int rr)), ws') 528 [some (.ref a0), some (.ref a1), some (.ref a2), some (.ref a3), some (.ref a4), some (.ref a5), some (.ref a6), some (.ref a7), some (.ref a8), some (.int i9), some (.int i10), some (.int i11), some (.int i12), some (.int i13), some (.int i14), some (.int i15), some (.int i16), some (.int i17), some (.int i18), none, some (.int i20), none, none, none, none, none, none, none, none, none] [.int s0] ws 0 0 := by
  unfold m_L_isSo_b528 at h
  refine j_istore_19 (pc := 528) dL_isSo_528 (by decide) rfl ?_
  refine j_iinc_20 (pc := 530) dL_isSo_530 (y := i20 + 1) rfl (by decide) rfl ?_
  refine j_goto (pc := 533) (tgt := 366) dL_isSo_533 (by decide) ?_
  exact hk366 _ _ _ _ _ _ _ _ _ _ _ _ _ _ _ _ _ _ _ _ _ ws h
def m_L_isSo_b526 (k224 : Nat → Nat → Nat → Nat → Nat → Nat → Nat → Nat → Nat → Int32 → Int32 → Int32 → Int32 → Int32 → Int32 → LWd → Option (Int32 × LWd)) (k366 : Nat → Nat → Nat → Nat → Nat → Nat → Nat → Nat → Nat → Int32 → Int32 → Int32 → Int32 → Int32 → Int32 → Int32 → Int32 → Int32 → Int32 → Int32 → Int32 → LWd → Option (Int32 × LWd)) (a0 : Nat) (a1 : Nat) (a2 : Nat) (a3 : Nat) (a4 : Nat) (a5 : Nat) (a6 : Nat) (a7 : Nat) (a8 : Nat) (i9 : Int32) (i10 : Int32) (i11 : Int32) (i12 : Int32) (i13 : Int32) (i14 : Int32) (i15 : Int32) (i16 : Int32) (i17 : Int32) (i18 : Int32) (i19 : Int32) (i20 : Int32) (ws : LWd) : Option (Int32 × LWd) :=
  m_L_isSo_b528 k224 k366 a0 a1 a2 a3 a4 a5 a6 a7 a8 i9 i10 i11 i12 i13 i14 i15 i16 i17 i18 i20 i19 ws
set_option maxRecDepth 100000 in
set_option maxHeartbeats 4000000 in
theorem jm_L_isSo_b526 {n0 : Nat} {rr : Int32} {ws' : LWd} {k224 : Nat → Nat → Nat → Nat → Nat → Nat → Nat → Nat → Nat → Int32 → Int32 → Int32 → Int32 → Int32 → Int32 → LWd → Option (Int32 × LWd)} {k366 : Nat → Nat → Nat → Nat → Nat → Nat → Nat → Nat → Nat → Int32 → Int32 → Int32 → Int32 → Int32 → Int32 → Int32 → Int32 → Int32 → Int32 → Int32 → Int32 → LWd → Option (Int32 × LWd)} (hk224 : ∀ (a0 : Nat) (a1 : Nat) (a2 : Nat) (a3 : Nat) (a4 : Nat) (a5 : Nat) (a6 : Nat) (a7 : Nat) (a8 : Nat) (i9 : Int32) (i10 : Int32) (i11 : Int32) (i12 : Int32) (i13 : Int32) (i14 : Int32) (ws : LWd), k224 a0 a1 a2 a3 a4 a5 a6 a7 a8 i9 i10 i11 i12 i13 i14 ws = some (rr, ws') → JG (.inr none) cL_isSo 30 RL wsL_isSo (some .boolean) "isSo" 11 2 12 n0 (.inl (some (.int rr)), ws') 224 [some (.ref a0), some (.ref a1), some (.ref a2), some (.ref a3), some (.ref a4), some (.ref a5), some (.ref a6), some (.ref a7), some (.ref a8), some (.int i9), some (.int i10), some (.int i11), some (.int i12), some (.int i13), some (.int i14), none, none, none, none, none, none, none, none, none, none, none, none, none, none, none] [] ws 0 0) (hk366 : ∀ (a0 : Nat) (a1 : Nat) (a2 : Nat) (a3 : Nat) (a4 : Nat) (a5 : Nat) (a6 : Nat) (a7 : Nat) (a8 : Nat) (i9 : Int32) (i10 : Int32) (i11 : Int32) (i12 : Int32) (i13 : Int32) (i14 : Int32) (i15 : Int32) (i16 : Int32) (i17 : Int32) (i18 : Int32) (i19 : Int32) (i20 : Int32) (ws : LWd), k366 a0 a1 a2 a3 a4 a5 a6 a7 a8 i9 i10 i11 i12 i13 i14 i15 i16 i17 i18 i19 i20 ws = some (rr, ws') → JG (.inr none) cL_isSo 30 RL wsL_isSo (some .boolean) "isSo" 11 2 12 n0 (.inl (some (.int rr)), ws') 366 [some (.ref a0), some (.ref a1), some (.ref a2), some (.ref a3), some (.ref a4), some (.ref a5), some (.ref a6), some (.ref a7), some (.ref a8), some (.int i9), some (.int i10), some (.int i11), some (.int i12), some (.int i13), some (.int i14), some (.int i15), some (.int i16), some (.int i17), some (.int i18), some (.int i19), some (.int i20), none, none, none, none, none, none, none, none, none] [] ws 0 0) (a0 : Nat) (a1 : Nat) (a2 : Nat) (a3 : Nat) (a4 : Nat) (a5 : Nat) (a6 : Nat) (a7 : Nat) (a8 : Nat) (i9 : Int32) (i10 : Int32) (i11 : Int32) (i12 : Int32) (i13 : Int32) (i14 : Int32) (i15 : Int32) (i16 : Int32) (i17 : Int32) (i18 : Int32) (i19 : Int32) (i20 : Int32) (ws : LWd) (h : m_L_isSo_b526 k224 k366 a0 a1 a2 a3 a4 a5 a6 a7 a8 i9 i10 i11 i12 i13 i14 i15 i16 i17 i18 i19 i20 ws = some (rr, ws')) : JG (.inr none) cL_isSo 30 RL wsL_isSo (some .boolean) "isSo" 11 2 12 n0 (.inl (some (.int rr)), ws') 526 [some (.ref a0), some (.ref a1), some (.ref a2), some (.ref a3), some (.ref a4), some (.ref a5), some (.ref a6), some (.ref a7), some (.ref a8), some (.int i9), some (.int i10), some (.int i11), some (.int i12), some (.int i13), some (.int i14), some (.int i15), some (.int i16), some (.int i17), some (.int i18), some (.int i19), some (.int i20), none, none, none, none, none, none, none, none, none] [] ws 0 0 := by
  unfold m_L_isSo_b526 at h
  refine j_iload (pc := 526) dL_isSo_526 rfl ?_
  refine j_mask [true, true, true, true, true, true, true, true, true, true, true, true, true, true, true, true, true, true, true, false, true, false, false, false, false, false, false, false, false, false] ?_
  exact jm_L_isSo_b528 (hk224 := hk224) (hk366 := hk366) _ _ _ _ _ _ _ _ _ _ _ _ _ _ _ _ _ _ _ _ _ ws h
def m_L_isSo_b507 (k224 : Nat → Nat → Nat → Nat → Nat → Nat → Nat → Nat → Nat → Int32 → Int32 → Int32 → Int32 → Int32 → Int32 → LWd → Option (Int32 × LWd)) (k366 : Nat → Nat → Nat → Nat → Nat → Nat → Nat → Nat → Nat → Int32 → Int32 → Int32 → Int32 → Int32 → Int32 → Int32 → Int32 → Int32 → Int32 → Int32 → Int32 → LWd → Option (Int32 × LWd)) (a0 : Nat) (a1 : Nat) (a2 : Nat) (a3 : Nat) (a4 : Nat) (a5 : Nat) (a6 : Nat) (a7 : Nat) (a8 : Nat) (i9 : Int32) (i10 : Int32) (i11 : Int32) (i12 : Int32) (i13 : Int32) (i14 : Int32) (i15 : Int32) (i16 : Int32) (i17 : Int32) (i19 : Int32) (i20 : Int32) (i22 : Int32) (i23 : Int32) (s0 : Int32) (ws : LWd) : Option (Int32 × LWd) :=
  if i22 = 0 then
    m_L_isSo_b526 k224 k366 a0 a1 a2 a3 a4 a5 a6 a7 a8 i9 i10 i11 i12 i13 i14 i15 i16 i17 s0 i19 i20 ws
  else
    if i19 ≤ i23 then
      m_L_isSo_b526 k224 k366 a0 a1 a2 a3 a4 a5 a6 a7 a8 i9 i10 i11 i12 i13 i14 i15 i16 i17 s0 i19 i20 ws
    else
      m_L_isSo_b528 k224 k366 a0 a1 a2 a3 a4 a5 a6 a7 a8 i9 i10 i11 i12 i13 i14 i15 i16 i17 s0 i20 i23 ws
set_option maxRecDepth 100000 in
set_option maxHeartbeats 4000000 in
theorem jm_L_isSo_b507 {n0 : Nat} {rr : Int32} {ws' : LWd} {k224 : Nat → Nat → Nat → Nat → Nat → Nat → Nat → Nat → Nat → Int32 → Int32 → Int32 → Int32 → Int32 → Int32 → LWd → Option (Int32 × LWd)} {k366 : Nat → Nat → Nat → Nat → Nat → Nat → Nat → Nat → Nat → Int32 → Int32 → Int32 → Int32 → Int32 → Int32 → Int32 → Int32 → Int32 → Int32 → Int32 → Int32 → LWd → Option (Int32 × LWd)} (hk224 : ∀ (a0 : Nat) (a1 : Nat) (a2 : Nat) (a3 : Nat) (a4 : Nat) (a5 : Nat) (a6 : Nat) (a7 : Nat) (a8 : Nat) (i9 : Int32) (i10 : Int32) (i11 : Int32) (i12 : Int32) (i13 : Int32) (i14 : Int32) (ws : LWd), k224 a0 a1 a2 a3 a4 a5 a6 a7 a8 i9 i10 i11 i12 i13 i14 ws = some (rr, ws') → JG (.inr none) cL_isSo 30 RL wsL_isSo (some .boolean) "isSo" 11 2 12 n0 (.inl (some (.int rr)), ws') 224 [some (.ref a0), some (.ref a1), some (.ref a2), some (.ref a3), some (.ref a4), some (.ref a5), some (.ref a6), some (.ref a7), some (.ref a8), some (.int i9), some (.int i10), some (.int i11), some (.int i12), some (.int i13), some (.int i14), none, none, none, none, none, none, none, none, none, none, none, none, none, none, none] [] ws 0 0) (hk366 : ∀ (a0 : Nat) (a1 : Nat) (a2 : Nat) (a3 : Nat) (a4 : Nat) (a5 : Nat) (a6 : Nat) (a7 : Nat) (a8 : Nat) (i9 : Int32) (i10 : Int32) (i11 : Int32) (i12 : Int32) (i13 : Int32) (i14 : Int32) (i15 : Int32) (i16 : Int32) (i17 : Int32) (i18 : Int32) (i19 : Int32) (i20 : Int32) (ws : LWd), k366 a0 a1 a2 a3 a4 a5 a6 a7 a8 i9 i10 i11 i12 i13 i14 i15 i16 i17 i18 i19 i20 ws = some (rr, ws') → JG (.inr none) cL_isSo 30 RL wsL_isSo (some .boolean) "isSo" 11 2 12 n0 (.inl (some (.int rr)), ws') 366 [some (.ref a0), some (.ref a1), some (.ref a2), some (.ref a3), some (.ref a4), some (.ref a5), some (.ref a6), some (.ref a7), some (.ref a8), some (.int i9), some (.int i10), some (.int i11), some (.int i12), some (.int i13), some (.int i14), some (.int i15), some (.int i16), some (.int i17), some (.int i18), some (.int i19), some (.int i20), none, none, none, none, none, none, none, none, none] [] ws 0 0) (a0 : Nat) (a1 : Nat) (a2 : Nat) (a3 : Nat) (a4 : Nat) (a5 : Nat) (a6 : Nat) (a7 : Nat) (a8 : Nat) (i9 : Int32) (i10 : Int32) (i11 : Int32) (i12 : Int32) (i13 : Int32) (i14 : Int32) (i15 : Int32) (i16 : Int32) (i17 : Int32) (i19 : Int32) (i20 : Int32) (i22 : Int32) (i23 : Int32) (s0 : Int32) (ws : LWd) (h : m_L_isSo_b507 k224 k366 a0 a1 a2 a3 a4 a5 a6 a7 a8 i9 i10 i11 i12 i13 i14 i15 i16 i17 i19 i20 i22 i23 s0 ws = some (rr, ws')) : JG (.inr none) cL_isSo 30 RL wsL_isSo (some .boolean) "isSo" 11 2 12 n0 (.inl (some (.int rr)), ws') 507 [some (.ref a0), some (.ref a1), some (.ref a2), some (.ref a3), some (.ref a4), some (.ref a5), some (.ref a6), some (.ref a7), some (.ref a8), some (.int i9), some (.int i10), some (.int i11), some (.int i12), some (.int i13), some (.int i14), some (.int i15), some (.int i16), some (.int i17), none, some (.int i19), some (.int i20), none, some (.int i22), some (.int i23), none, none, none, none, none, none] [.int s0] ws 0 0 := by
  unfold m_L_isSo_b507 at h
  refine j_istore_18 (pc := 507) dL_isSo_507 (by decide) rfl ?_
  refine j_iload (pc := 509) dL_isSo_509 rfl ?_
  refine j_if_eq (pc := 511) (tgt := 526) dL_isSo_511 (by decide) (fun c1 => ?_) (fun c1 => ?_)
  · rw [if_pos c1] at h
    refine j_mask [true, true, true, true, true, true, true, true, true, true, true, true, true, true, true, true, true, true, true, true, true, false, false, false, false, false, false, false, false, false] ?_
    exact jm_L_isSo_b526 (hk224 := hk224) (hk366 := hk366) _ _ _ _ _ _ _ _ _ _ _ _ _ _ _ _ _ _ _ _ _ ws h
  · rw [if_neg c1] at h
    refine j_iload (pc := 514) dL_isSo_514 rfl ?_
    refine j_iload (pc := 516) dL_isSo_516 rfl ?_
    refine j_icmp_ge (pc := 518) (tgt := 526) dL_isSo_518 (by decide) (fun c2 => ?_) (fun c2 => ?_)
    · rw [if_pos c2] at h
      refine j_mask [true, true, true, true, true, true, true, true, true, true, true, true, true, true, true, true, true, true, true, true, true, false, false, false, false, false, false, false, false, false] ?_
      exact jm_L_isSo_b526 (hk224 := hk224) (hk366 := hk366) _ _ _ _ _ _ _ _ _ _ _ _ _ _ _ _ _ _ _ _ _ ws h
    · rw [if_neg c2] at h
      refine j_iload (pc := 521) dL_isSo_521 rfl ?_
      refine j_goto (pc := 523) (tgt := 528) dL_isSo_523 (by decide) ?_
      refine j_mask [true, true, true, true, true, true, true, true, true, true, true, true, true, true, true, true, true, true, true, false, true, false, false, false, false, false, false, false, false, false] ?_
      exact jm_L_isSo_b528 (hk224 := hk224) (hk366 := hk366) _ _ _ _ _ _ _ _ _ _ _ _ _ _ _ _ _ _ _ _ _ ws h
def m_L_isSo_b505 (k224 : Nat → Nat → Nat → Nat → Nat → Nat → Nat → Nat → Nat → Int32 → Int32 → Int32 → Int32 → Int32 → Int32 → LWd → Option (Int32 × LWd)) (k366 : Nat → Nat → Nat → Nat → Nat → Nat → Nat → Nat → Nat → Int32 → Int32 → Int32 → Int32 → Int32 → Int32 → Int32 → Int32 → Int32 → Int32 → Int32 → Int32 → LWd → Option (Int32 × LWd)) (a0 : Nat) (a1 : Nat) (a2 : Nat) (a3 : Nat) (a4 : Nat) (a5 : Nat) (a6 : Nat) (a7 : Nat) (a8 : Nat) (i9 : Int32) (i10 : Int32) (i11 : Int32) (i12 : Int32) (i13 : Int32) (i14 : Int32) (i15 : Int32) (i16 : Int32) (i17 : Int32) (i18 : Int32) (i19 : Int32) (i20 : Int32) (i22 : Int32) (i23 : Int32) (ws : LWd) : Option (Int32 × LWd) :=
  m_L_isSo_b507 k224 k366 a0 a1 a2 a3 a4 a5 a6 a7 a8 i9 i10 i11 i12 i13 i14 i15 i16 i17 i19 i20 i22 i23 i18 ws
set_option maxRecDepth 100000 in
set_option maxHeartbeats 4000000 in
theorem jm_L_isSo_b505 {n0 : Nat} {rr : Int32} {ws' : LWd} {k224 : Nat → Nat → Nat → Nat → Nat → Nat → Nat → Nat → Nat → Int32 → Int32 → Int32 → Int32 → Int32 → Int32 → LWd → Option (Int32 × LWd)} {k366 : Nat → Nat → Nat → Nat → Nat → Nat → Nat → Nat → Nat → Int32 → Int32 → Int32 → Int32 → Int32 → Int32 → Int32 → Int32 → Int32 → Int32 → Int32 → Int32 → LWd → Option (Int32 × LWd)} (hk224 : ∀ (a0 : Nat) (a1 : Nat) (a2 : Nat) (a3 : Nat) (a4 : Nat) (a5 : Nat) (a6 : Nat) (a7 : Nat) (a8 : Nat) (i9 : Int32) (i10 : Int32) (i11 : Int32) (i12 : Int32) (i13 : Int32) (i14 : Int32) (ws : LWd), k224 a0 a1 a2 a3 a4 a5 a6 a7 a8 i9 i10 i11 i12 i13 i14 ws = some (rr, ws') → JG (.inr none) cL_isSo 30 RL wsL_isSo (some .boolean) "isSo" 11 2 12 n0 (.inl (some (.int rr)), ws') 224 [some (.ref a0), some (.ref a1), some (.ref a2), some (.ref a3), some (.ref a4), some (.ref a5), some (.ref a6), some (.ref a7), some (.ref a8), some (.int i9), some (.int i10), some (.int i11), some (.int i12), some (.int i13), some (.int i14), none, none, none, none, none, none, none, none, none, none, none, none, none, none, none] [] ws 0 0) (hk366 : ∀ (a0 : Nat) (a1 : Nat) (a2 : Nat) (a3 : Nat) (a4 : Nat) (a5 : Nat) (a6 : Nat) (a7 : Nat) (a8 : Nat) (i9 : Int32) (i10 : Int32) (i11 : Int32) (i12 : Int32) (i13 : Int32) (i14 : Int32) (i15 : Int32) (i16 : Int32) (i17 : Int32) (i18 : Int32) (i19 : Int32) (i20 : Int32) (ws : LWd), k366 a0 a1 a2 a3 a4 a5 a6 a7 a8 i9 i10 i11 i12 i13 i14 i15 i16 i17 i18 i19 i20 ws = some (rr, ws') → JG (.inr none) cL_isSo 30 RL wsL_isSo (some .boolean) "isSo" 11 2 12 n0 (.inl (some (.int rr)), ws') 366 [some (.ref a0), some (.ref a1), some (.ref a2), some (.ref a3), some (.ref a4), some (.ref a5), some (.ref a6), some (.ref a7), some (.ref a8), some (.int i9), some (.int i10), some (.int i11), some (.int i12), some (.int i13), some (.int i14), some (.int i15), some (.int i16), some (.int i17), some (.int i18), some (.int i19), some (.int i20), none, none, none, none, none, none, none, none, none] [] ws 0 0) (a0 : Nat) (a1 : Nat) (a2 : Nat) (a3 : Nat) (a4 : Nat) (a5 : Nat) (a6 : Nat) (a7 : Nat) (a8 : Nat) (i9 : Int32) (i10 : Int32) (i11 : Int32) (i12 : Int32) (i13 : Int32) (i14 : Int32) (i15 : Int32) (i16 : Int32) (i17 : Int32) (i18 : Int32) (i19 : Int32) (i20 : Int32) (i22 : Int32) (i23 : Int32) (ws : LWd) (h : m_L_isSo_b505 k224 k366 a0 a1 a2 a3 a4 a5 a6 a7 a8 i9 i10 i11 i12 i13 i14 i15 i16 i17 i18 i19 i20 i22 i23 ws = some (rr, ws')) : JG (.inr none) cL_isSo 30 RL wsL_isSo (some .boolean) "isSo" 11 2 12 n0 (.inl (some (.int rr)), ws') 505 [some (.ref a0), some (.ref a1), some (.ref a2), some (.ref a3), some (.ref a4), some (.ref a5), some (.ref a6), some (.ref a7), some (.ref a8), some (.int i9), some (.int i10), some (.int i11), some (.int i12), some (.int i13), some (.int i14), some (.int i15), some (.int i16), some (.int i17), some (.int i18), some (.int i19), some (.int i20), none, some (.int i22), some (.int i23), none, none, none, none, none, none] [] ws 0 0 := by
  unfold m_L_isSo_b505 at h
  refine j_iload (pc := 505) dL_isSo_505 rfl ?_
  refine j_mask [true, true, true, true, true, true, true, true, true, true, true, true, true, true, true, true, true, true, false, true, true, false, true, true, false, false, false, false, false, false] ?_
  exact jm_L_isSo_b507 (hk224 := hk224) (hk366 := hk366) _ _ _ _ _ _ _ _ _ _ _ _ _ _ _ _ _ _ _ _ _ _ _ ws h
def m_L_isSo_b459 (k224 : Nat → Nat → Nat → Nat → Nat → Nat → Nat → Nat → Nat → Int32 → Int32 → Int32 → Int32 → Int32 → Int32 → LWd → Option (Int32 × LWd)) (k366 : Nat → Nat → Nat → Nat → Nat → Nat → Nat → Nat → Nat → Int32 → Int32 → Int32 → Int32 → Int32 → Int32 → Int32 → Int32 → Int32 → Int32 → Int32 → Int32 → LWd → Option (Int32 × LWd)) (a0 : Nat) (a1 : Nat) (a2 : Nat) (a3 : Nat) (a4 : Nat) (a5 : Nat) (a6 : Nat) (a7 : Nat) (a8 : Nat) (i9 : Int32) (i10 : Int32) (i11 : Int32) (i12 : Int32) (i13 : Int32) (i14 : Int32) (i15 : Int32) (i16 : Int32) (i17 : Int32) (i18 : Int32) (i19 : Int32) (i20 : Int32) (i21 : Int32) (s0 : Int32) (ws : LWd) : Option (Int32 × LWd) :=
  bn2 (calSR ws (m_L_far a4 a8 i14 (jrem i20 20) (i20 / 20) ws)) fun x3 w1 =>
  if s0 = 0 then
    m_L_isSo_b505 k224 k366 a0 a1 a2 a3 a4 a5 a6 a7 a8 i9 i10 i11 i12 i13 i14 i15 i16 i17 i18 i19 i20 s0 ((10 * i21) + x3) w1
  else
    if i19 ≤ ((10 * i21) + x3) then
      m_L_isSo_b505 k224 k366 a0 a1 a2 a3 a4 a5 a6 a7 a8 i9 i10 i11 i12 i13 i14 i15 i16 i17 i18 i19 i20 s0 ((10 * i21) + x3) w1
    else
      m_L_isSo_b507 k224 k366 a0 a1 a2 a3 a4 a5 a6 a7 a8 i9 i10 i11 i12 i13 i14 i15 i16 i17 i19 i20 s0 ((10 * i21) + x3) i20 w1
set_option maxRecDepth 100000 in
set_option maxHeartbeats 4000000 in
theorem jm_L_isSo_b459 {n0 : Nat} {rr : Int32} {ws' : LWd} {k224 : Nat → Nat → Nat → Nat → Nat → Nat → Nat → Nat → Nat → Int32 → Int32 → Int32 → Int32 → Int32 → Int32 → LWd → Option (Int32 × LWd)} {k366 : Nat → Nat → Nat → Nat → Nat → Nat → Nat → Nat → Nat → Int32 → Int32 → Int32 → Int32 → Int32 → Int32 → Int32 → Int32 → Int32 → Int32 → Int32 → Int32 → LWd → Option (Int32 × LWd)} (hk224 : ∀ (a0 : Nat) (a1 : Nat) (a2 : Nat) (a3 : Nat) (a4 : Nat) (a5 : Nat) (a6 : Nat) (a7 : Nat) (a8 : Nat) (i9 : Int32) (i10 : Int32) (i11 : Int32) (i12 : Int32) (i13 : Int32) (i14 : Int32) (ws : LWd), k224 a0 a1 a2 a3 a4 a5 a6 a7 a8 i9 i10 i11 i12 i13 i14 ws = some (rr, ws') → JG (.inr none) cL_isSo 30 RL wsL_isSo (some .boolean) "isSo" 11 2 12 n0 (.inl (some (.int rr)), ws') 224 [some (.ref a0), some (.ref a1), some (.ref a2), some (.ref a3), some (.ref a4), some (.ref a5), some (.ref a6), some (.ref a7), some (.ref a8), some (.int i9), some (.int i10), some (.int i11), some (.int i12), some (.int i13), some (.int i14), none, none, none, none, none, none, none, none, none, none, none, none, none, none, none] [] ws 0 0) (hk366 : ∀ (a0 : Nat) (a1 : Nat) (a2 : Nat) (a3 : Nat) (a4 : Nat) (a5 : Nat) (a6 : Nat) (a7 : Nat) (a8 : Nat) (i9 : Int32) (i10 : Int32) (i11 : Int32) (i12 : Int32) (i13 : Int32) (i14 : Int32) (i15 : Int32) (i16 : Int32) (i17 : Int32) (i18 : Int32) (i19 : Int32) (i20 : Int32) (ws : LWd), k366 a0 a1 a2 a3 a4 a5 a6 a7 a8 i9 i10 i11 i12 i13 i14 i15 i16 i17 i18 i19 i20 ws = some (rr, ws') → JG (.inr none) cL_isSo 30 RL wsL_isSo (some .boolean) "isSo" 11 2 12 n0 (.inl (some (.int rr)), ws') 366 [some (.ref a0), some (.ref a1), some (.ref a2), some (.ref a3), some (.ref a4), some (.ref a5), some (.ref a6), some (.ref a7), some (.ref a8), some (.int i9), some (.int i10), some (.int i11), some (.int i12), some (.int i13), some (.int i14), some (.int i15), some (.int i16), some (.int i17), some (.int i18), some (.int i19), some (.int i20), none, none, none, none, none, none, none, none, none] [] ws 0 0) (a0 : Nat) (a1 : Nat) (a2 : Nat) (a3 : Nat) (a4 : Nat) (a5 : Nat) (a6 : Nat) (a7 : Nat) (a8 : Nat) (i9 : Int32) (i10 : Int32) (i11 : Int32) (i12 : Int32) (i13 : Int32) (i14 : Int32) (i15 : Int32) (i16 : Int32) (i17 : Int32) (i18 : Int32) (i19 : Int32) (i20 : Int32) (i21 : Int32) (s0 : Int32) (ws : LWd) (h : m_L_isSo_b459 k224 k366 a0 a1 a2 a3 a4 a5 a6 a7 a8 i9 i10 i11 i12 i13 i14 i15 i16 i17 i18 i19 i20 i21 s0 ws = some (rr, ws')) : JG (.inr none) cL_isSo 30 RL wsL_isSo (some .boolean) "isSo" 11 2 12 n0 (.inl (some (.int rr)), ws') 459 [some (.ref a0), some (.ref a1), some (.ref a2), some (.ref a3), some (.ref a4), some (.ref a5), some (.ref a6), some (.ref a7), some (.ref a8), some (.int i9), some (.int i10), some (.int i11), some (.int i12), some (.int i13), some (.int i14), some (.int i15), some (.int i16), some (.int i17), some (.int i18), some (.int i19), some (.int i20), some (.int i21), none, none, none, none, none, none, none, none] [.int s0] ws 0 0 := by
  unfold m_L_isSo_b459 at h
  refine j_istore_22 (pc := 459) dL_isSo_459 (by decide) rfl ?_
  refine j_bipush (pc := 461) dL_isSo_461 (v := 10) (by decide) ?_
  refine j_iload (pc := 463) dL_isSo_463 rfl ?_
  refine j_imul (pc := 465) dL_isSo_465 ?_
  refine j_aload (pc := 466) dL_isSo_466 rfl ?_
  refine j_aload (pc := 468) dL_isSo_468 rfl ?_
  refine j_iload (pc := 470) dL_isSo_470 rfl ?_
  refine j_iload (pc := 472) dL_isSo_472 rfl ?_
  refine j_bipush (pc := 474) dL_isSo_474 (v := 20) (by decide) ?_
  refine j_irem (pc := 476) dL_isSo_476 (by decide) ?_
  refine j_iload (pc := 477) dL_isSo_477 rfl ?_
  refine j_bipush (pc := 479) dL_isSo_479 (v := 20) (by decide) ?_
  refine j_idiv (pc := 481) dL_isSo_481 (by decide) ?_
  obtain ⟨x3, w1, e2, h⟩ := obS2 h
  have ge2 := calSR_of e2
  refine j_callS_g (pc := 482) (As := [.ref a4, .ref a8, .int i14, .int (jrem i20 20), .int (i20 / 20)]) (k' := 0) (n' := 0) dL_isSo_482 (s_L_far ge2.1) (jgS lw_641 lw_642 lw_597 lw_640) rfl hy_L_far rfl (by decide) (by decide) (Nat.le_of_ble_eq_true rfl) (by decide) (by decide) (by decide) (by decide) (Or.inl ge2.2) ?_
  refine j_iadd (pc := 485) dL_isSo_485 ?_
  refine j_istore_23 (pc := 486) dL_isSo_486 (by decide) rfl ?_
  refine j_iload (pc := 488) dL_isSo_488 rfl ?_
  refine j_if_eq (pc := 490) (tgt := 505) dL_isSo_490 (by decide) (fun c4 => ?_) (fun c4 => ?_)
  · rw [if_pos c4] at h
    refine j_mask [true, true, true, true, true, true, true, true, true, true, true, true, true, true, true, true, true, true, true, true, true, false, true, true, false, false, false, false, false, false] ?_
    exact jm_L_isSo_b505 (hk224 := hk224) (hk366 := hk366) _ _ _ _ _ _ _ _ _ _ _ _ _ _ _ _ _ _ _ _ _ _ _ w1 h
  · rw [if_neg c4] at h
    refine j_iload (pc := 493) dL_isSo_493 rfl ?_
    refine j_iload (pc := 495) dL_isSo_495 rfl ?_
    refine j_icmp_ge (pc := 497) (tgt := 505) dL_isSo_497 (by decide) (fun c5 => ?_) (fun c5 => ?_)
    · rw [if_pos c5] at h
      refine j_mask [true, true, true, true, true, true, true, true, true, true, true, true, true, true, true, true, true, true, true, true, true, false, true, true, false, false, false, false, false, false] ?_
      exact jm_L_isSo_b505 (hk224 := hk224) (hk366 := hk366) _ _ _ _ _ _ _ _ _ _ _ _ _ _ _ _ _ _ _ _ _ _ _ w1 h
    · rw [if_neg c5] at h
      refine j_iload (pc := 500) dL_isSo_500 rfl ?_
      refine j_goto (pc := 502) (tgt := 507) dL_isSo_502 (by decide) ?_
      refine j_mask [true, true, true, true, true, true, true, true, true, true, true, true, true, true, true, true, true, true, false, true, true, false, true, true, false, false, false, false, false, false] ?_
      exact jm_L_isSo_b507 (hk224 := hk224) (hk366 := hk366) _ _ _ _ _ _ _ _ _ _ _ _ _ _ _ _ _ _ _ _ _ _ _ w1 h
def m_L_isSo_b458 (k224 : Nat → Nat → Nat → Nat → Nat → Nat → Nat → Nat → Nat → Int32 → Int32 → Int32 → Int32 → Int32 → Int32 → LWd → Option (Int32 × LWd)) (k366 : Nat → Nat → Nat → Nat → Nat → Nat → Nat → Nat → Nat → Int32 → Int32 → Int32 → Int32 → Int32 → Int32 → Int32 → Int32 → Int32 → Int32 → Int32 → Int32 → LWd → Option (Int32 × LWd)) (a0 : Nat) (a1 : Nat) (a2 : Nat) (a3 : Nat) (a4 : Nat) (a5 : Nat) (a6 : Nat) (a7 : Nat) (a8 : Nat) (i9 : Int32) (i10 : Int32) (i11 : Int32) (i12 : Int32) (i13 : Int32) (i14 : Int32) (i15 : Int32) (i16 : Int32) (i17 : Int32) (i18 : Int32) (i19 : Int32) (i20 : Int32) (i21 : Int32) (ws : LWd) : Option (Int32 × LWd) :=
  m_L_isSo_b459 k224 k366 a0 a1 a2 a3 a4 a5 a6 a7 a8 i9 i10 i11 i12 i13 i14 i15 i16 i17 i18 i19 i20 i21 0 ws
set_option maxRecDepth 100000 in
set_option maxHeartbeats 4000000 in
theorem jm_L_isSo_b458 {n0 : Nat} {rr : Int32} {ws' : LWd} {k224 : Nat → Nat → Nat → Nat → Nat → Nat → Nat → Nat → Nat → Int32 → Int32 → Int32 → Int32 → Int32 → Int32 → LWd → Option (Int32 × LWd)} {k366 : Nat → Nat → Nat → Nat → Nat → Nat → Nat → Nat → Nat → Int32 → Int32 → Int32 → Int32 → Int32 → Int32 → Int32 → Int32 → Int32 → Int32 → Int32 → Int32 → LWd → Option (Int32 × LWd)} (hk224 : ∀ (a0 : Nat) (a1 : Nat) (a2 : Nat) (a3 : Nat) (a4 : Nat) (a5 : Nat) (a6 : Nat) (a7 : Nat) (a8 : Nat) (i9 : Int32) (i10 : Int32) (i11 : Int32) (i12 : Int32) (i13 : Int32) (i14 : Int32) (ws : LWd), k224 a0 a1 a2 a3 a4 a5 a6 a7 a8 i9 i10 i11 i12 i13 i14 ws = some (rr, ws') → JG (.inr none) cL_isSo 30 RL wsL_isSo (some .boolean) "isSo" 11 2 12 n0 (.inl (some (.int rr)), ws') 224 [some (.ref a0), some (.ref a1), some (.ref a2), some (.ref a3), some (.ref a4), some (.ref a5), some (.ref a6), some (.ref a7), some (.ref a8), some (.int i9), some (.int i10), some (.int i11), some (.int i12), some (.int i13), some (.int i14), none, none, none, none, none, none, none, none, none, none, none, none, none, none, none] [] ws 0 0) (hk366 : ∀ (a0 : Nat) (a1 : Nat) (a2 : Nat) (a3 : Nat) (a4 : Nat) (a5 : Nat) (a6 : Nat) (a7 : Nat) (a8 : Nat) (i9 : Int32) (i10 : Int32) (i11 : Int32) (i12 : Int32) (i13 : Int32) (i14 : Int32) (i15 : Int32) (i16 : Int32) (i17 : Int32) (i18 : Int32) (i19 : Int32) (i20 : Int32) (ws : LWd), k366 a0 a1 a2 a3 a4 a5 a6 a7 a8 i9 i10 i11 i12 i13 i14 i15 i16 i17 i18 i19 i20 ws = some (rr, ws') → JG (.inr none) cL_isSo 30 RL wsL_isSo (some .boolean) "isSo" 11 2 12 n0 (.inl (some (.int rr)), ws') 366 [some (.ref a0), some (.ref a1), some (.ref a2), some (.ref a3), some (.ref a4), some (.ref a5), some (.ref a6), some (.ref a7), some (.ref a8), some (.int i9), some (.int i10), some (.int i11), some (.int i12), some (.int i13), some (.int i14), some (.int i15), some (.int i16), some (.int i17), some (.int i18), some (.int i19), some (.int i20), none, none, none, none, none, none, none, none, none] [] ws 0 0) (a0 : Nat) (a1 : Nat) (a2 : Nat) (a3 : Nat) (a4 : Nat) (a5 : Nat) (a6 : Nat) (a7 : Nat) (a8 : Nat) (i9 : Int32) (i10 : Int32) (i11 : Int32) (i12 : Int32) (i13 : Int32) (i14 : Int32) (i15 : Int32) (i16 : Int32) (i17 : Int32) (i18 : Int32) (i19 : Int32) (i20 : Int32) (i21 : Int32) (ws : LWd) (h : m_L_isSo_b458 k224 k366 a0 a1 a2 a3 a4 a5 a6 a7 a8 i9 i10 i11 i12 i13 i14 i15 i16 i17 i18 i19 i20 i21 ws = some (rr, ws')) : JG (.inr none) cL_isSo 30 RL wsL_isSo (some .boolean) "isSo" 11 2 12 n0 (.inl (some (.int rr)), ws') 458 [some (.ref a0), some (.ref a1), some (.ref a2), some (.ref a3), some (.ref a4), some (.ref a5), some (.ref a6), some (.ref a7), some (.ref a8), some (.int i9), some (.int i10), some (.int i11), some (.int i12), some (.int i13), some (.int i14), some (.int i15), some (.int i16), some (.int i17), some (.int i18), some (.int i19), some (.int i20), some (.int i21), none, none, none, none, none, none, none, none] [] ws 0 0 := by
  unfold m_L_isSo_b458 at h
  refine j_iconst (pc := 458) dL_isSo_458 (v := 0) (by decide) ?_
  exact jm_L_isSo_b459 (hk224 := hk224) (hk366 := hk366) _ _ _ _ _ _ _ _ _ _ _ _ _ _ _ _ _ _ _ _ _ _ _ ws h
def m_L_isSo_b402 (k224 : Nat → Nat → Nat → Nat → Nat → Nat → Nat → Nat → Nat → Int32 → Int32 → Int32 → Int32 → Int32 → Int32 → LWd → Option (Int32 × LWd)) (k366 : Nat → Nat → Nat → Nat → Nat → Nat → Nat → Nat → Nat → Int32 → Int32 → Int32 → Int32 → Int32 → Int32 → Int32 → Int32 → Int32 → Int32 → Int32 → Int32 → LWd → Option (Int32 × LWd)) (a0 : Nat) (a1 : Nat) (a2 : Nat) (a3 : Nat) (a4 : Nat) (a5 : Nat) (a6 : Nat) (a7 : Nat) (a8 : Nat) (i9 : Int32) (i10 : Int32) (i11 : Int32) (i12 : Int32) (i13 : Int32) (i14 : Int32) (i15 : Int32) (i16 : Int32) (i17 : Int32) (i18 : Int32) (i19 : Int32) (i20 : Int32) (s0 : Int32) (ws : LWd) : Option (Int32 × LWd) :=
  if 3 ≤ s0 then
    m_L_isSo_b458 k224 k366 a0 a1 a2 a3 a4 a5 a6 a7 a8 i9 i10 i11 i12 i13 i14 i15 i16 i17 i18 i19 i20 s0 ws
  else
    bn2 (calSR ws (m_L_isNear a4 a8 i14 (jrem i20 20) (i20 / 20) ws)) fun x4 w2 =>
    if x4 = 0 then
      m_L_isSo_b458 k224 k366 a0 a1 a2 a3 a4 a5 a6 a7 a8 i9 i10 i11 i12 i13 i14 i15 i16 i17 i18 i19 i20 s0 w2
    else
      bn2 (calSR w2 (m_L_isTaken a5 a6 i16 (jrem i20 20) (i20 / 20) w2)) fun x8 w6 =>
      if x8 = 0 then
        m_L_isSo_b459 k224 k366 a0 a1 a2 a3 a4 a5 a6 a7 a8 i9 i10 i11 i12 i13 i14 i15 i16 i17 i18 i19 i20 s0 1 w6
      else
        m_L_isSo_b458 k224 k366 a0 a1 a2 a3 a4 a5 a6 a7 a8 i9 i10 i11 i12 i13 i14 i15 i16 i17 i18 i19 i20 s0 w6
set_option maxRecDepth 100000 in
set_option maxHeartbeats 4000000 in
theorem jm_L_isSo_b402 {n0 : Nat} {rr : Int32} {ws' : LWd} {k224 : Nat → Nat → Nat → Nat → Nat → Nat → Nat → Nat → Nat → Int32 → Int32 → Int32 → Int32 → Int32 → Int32 → LWd → Option (Int32 × LWd)} {k366 : Nat → Nat → Nat → Nat → Nat → Nat → Nat → Nat → Nat → Int32 → Int32 → Int32 → Int32 → Int32 → Int32 → Int32 → Int32 → Int32 → Int32 → Int32 → Int32 → LWd → Option (Int32 × LWd)} (hk224 : ∀ (a0 : Nat) (a1 : Nat) (a2 : Nat) (a3 : Nat) (a4 : Nat) (a5 : Nat) (a6 : Nat) (a7 : Nat) (a8 : Nat) (i9 : Int32) (i10 : Int32) (i11 : Int32) (i12 : Int32) (i13 : Int32) (i14 : Int32) (ws : LWd), k224 a0 a1 a2 a3 a4 a5 a6 a7 a8 i9 i10 i11 i12 i13 i14 ws = some (rr, ws') → JG (.inr none) cL_isSo 30 RL wsL_isSo (some .boolean) "isSo" 11 2 12 n0 (.inl (some (.int rr)), ws') 224 [some (.ref a0), some (.ref a1), some (.ref a2), some (.ref a3), some (.ref a4), some (.ref a5), some (.ref a6), some (.ref a7), some (.ref a8), some (.int i9), some (.int i10), some (.int i11), some (.int i12), some (.int i13), some (.int i14), none, none, none, none, none, none, none, none, none, none, none, none, none, none, none] [] ws 0 0) (hk366 : ∀ (a0 : Nat) (a1 : Nat) (a2 : Nat) (a3 : Nat) (a4 : Nat) (a5 : Nat) (a6 : Nat) (a7 : Nat) (a8 : Nat) (i9 : Int32) (i10 : Int32) (i11 : Int32) (i12 : Int32) (i13 : Int32) (i14 : Int32) (i15 : Int32) (i16 : Int32) (i17 : Int32) (i18 : Int32) (i19 : Int32) (i20 : Int32) (ws : LWd), k366 a0 a1 a2 a3 a4 a5 a6 a7 a8 i9 i10 i11 i12 i13 i14 i15 i16 i17 i18 i19 i20 ws = some (rr, ws') → JG (.inr none) cL_isSo 30 RL wsL_isSo (some .boolean) "isSo" 11 2 12 n0 (.inl (some (.int rr)), ws') 366 [some (.ref a0), some (.ref a1), some (.ref a2), some (.ref a3), some (.ref a4), some (.ref a5), some (.ref a6), some (.ref a7), some (.ref a8), some (.int i9), some (.int i10), some (.int i11), some (.int i12), some (.int i13), some (.int i14), some (.int i15), some (.int i16), some (.int i17), some (.int i18), some (.int i19), some (.int i20), none, none, none, none, none, none, none, none, none] [] ws 0 0) (a0 : Nat) (a1 : Nat) (a2 : Nat) (a3 : Nat) (a4 : Nat) (a5 : Nat) (a6 : Nat) (a7 : Nat) (a8 : Nat) (i9 : Int32) (i10 : Int32) (i11 : Int32) (i12 : Int32) (i13 : Int32) (i14 : Int32) (i15 : Int32) (i16 : Int32) (i17 : Int32) (i18 : Int32) (i19 : Int32) (i20 : Int32) (s0 : Int32) (ws : LWd) (h : m_L_isSo_b402 k224 k366 a0 a1 a2 a3 a4 a5 a6 a7 a8 i9 i10 i11 i12 i13 i14 i15 i16 i17 i18 i19 i20 s0 ws = some (rr, ws')) : JG (.inr none) cL_isSo 30 RL wsL_isSo (some .boolean) "isSo" 11 2 12 n0 (.inl (some (.int rr)), ws') 402 [some (.ref a0), some (.ref a1), some (.ref a2), some (.ref a3), some (.ref a4), some (.ref a5), some (.ref a6), some (.ref a7), some (.ref a8), some (.int i9), some (.int i10), some (.int i11), some (.int i12), some (.int i13), some (.int i14), some (.int i15), some (.int i16), some (.int i17), some (.int i18), some (.int i19), some (.int i20), none, none, none, none, none, none, none, none, none] [.int s0] ws 0 0 := by
  unfold m_L_isSo_b402 at h
  refine j_istore_21 (pc := 402) dL_isSo_402 (by decide) rfl ?_
  refine j_iload (pc := 404) dL_isSo_404 rfl ?_
  refine j_iconst (pc := 406) dL_isSo_406 (v := 3) (by decide) ?_
  refine j_icmp_ge (pc := 407) (tgt := 458) dL_isSo_407 (by decide) (fun c1 => ?_) (fun c1 => ?_)
  · rw [if_pos c1] at h
    exact jm_L_isSo_b458 (hk224 := hk224) (hk366 := hk366) _ _ _ _ _ _ _ _ _ _ _ _ _ _ _ _ _ _ _ _ _ _ ws h
  · rw [if_neg c1] at h
    refine j_aload (pc := 410) dL_isSo_410 rfl ?_
    refine j_aload (pc := 412) dL_isSo_412 rfl ?_
    refine j_iload (pc := 414) dL_isSo_414 rfl ?_
    refine j_iload (pc := 416) dL_isSo_416 rfl ?_
    refine j_bipush (pc := 418) dL_isSo_418 (v := 20) (by decide) ?_
    refine j_irem (pc := 420) dL_isSo_420 (by decide) ?_
    refine j_iload (pc := 421) dL_isSo_421 rfl ?_
    refine j_bipush (pc := 423) dL_isSo_423 (v := 20) (by decide) ?_
    refine j_idiv (pc := 425) dL_isSo_425 (by decide) ?_
    obtain ⟨x4, w2, e3, h⟩ := obS2 h
    have ge3 := calSR_of e3
    refine j_callS_g (pc := 426) (As := [.ref a4, .ref a8, .int i14, .int (jrem i20 20), .int (i20 / 20)]) (k' := 0) (n' := 0) dL_isSo_426 (s_L_isNear ge3.1) (jgS lw_626 lw_627 lw_597 lw_625) rfl hy_L_isNear rfl (by decide) (by decide) (Nat.le_of_ble_eq_true rfl) (by decide) (by decide) (by decide) (by decide) (Or.inl ge3.2) ?_
    refine j_if_eq (pc := 429) (tgt := 458) dL_isSo_429 (by decide) (fun c5 => ?_) (fun c5 => ?_)
    · rw [if_pos c5] at h
      exact jm_L_isSo_b458 (hk224 := hk224) (hk366 := hk366) _ _ _ _ _ _ _ _ _ _ _ _ _ _ _ _ _ _ _ _ _ _ w2 h
    · rw [if_neg c5] at h
      refine j_aload (pc := 432) dL_isSo_432 rfl ?_
      refine j_aload (pc := 434) dL_isSo_434 rfl ?_
      refine j_iload (pc := 436) dL_isSo_436 rfl ?_
      refine j_iload (pc := 438) dL_isSo_438 rfl ?_
      refine j_bipush (pc := 440) dL_isSo_440 (v := 20) (by decide) ?_
      refine j_irem (pc := 442) dL_isSo_442 (by decide) ?_
      refine j_iload (pc := 443) dL_isSo_443 rfl ?_
      refine j_bipush (pc := 445) dL_isSo_445 (v := 20) (by decide) ?_
      refine j_idiv (pc := 447) dL_isSo_447 (by decide) ?_
      obtain ⟨x8, w6, e7, h⟩ := obS2 h
      have ge7 := calSR_of e7
      refine j_callS_g (pc := 448) (As := [.ref a5, .ref a6, .int i16, .int (jrem i20 20), .int (i20 / 20)]) (k' := 0) (n' := 0) dL_isSo_448 (s_L_isTaken ge7.1) (jgS lw_629 lw_630 lw_597 lw_628) rfl hy_L_isTaken rfl (by decide) (by decide) (Nat.le_of_ble_eq_true rfl) (by decide) (by decide) (by decide) (by decide) (Or.inl ge7.2) ?_
      refine j_if_ne (pc := 451) (tgt := 458) dL_isSo_451 (by decide) (fun c9 => ?_) (fun c9 => ?_)
      · rw [if_neg c9] at h
        exact jm_L_isSo_b458 (hk224 := hk224) (hk366 := hk366) _ _ _ _ _ _ _ _ _ _ _ _ _ _ _ _ _ _ _ _ _ _ w6 h
      · rw [if_pos c9] at h
        refine j_iconst (pc := 454) dL_isSo_454 (v := 1) (by decide) ?_
        refine j_goto (pc := 455) (tgt := 459) dL_isSo_455 (by decide) ?_
        exact jm_L_isSo_b459 (hk224 := hk224) (hk366 := hk366) _ _ _ _ _ _ _ _ _ _ _ _ _ _ _ _ _ _ _ _ _ _ _ w6 h
def m_L_isSo_l366 (k224 : Nat → Nat → Nat → Nat → Nat → Nat → Nat → Nat → Nat → Int32 → Int32 → Int32 → Int32 → Int32 → Int32 → LWd → Option (Int32 × LWd)) : Nat → Nat → Nat → Nat → Nat → Nat → Nat → Nat → Nat → Nat → Int32 → Int32 → Int32 → Int32 → Int32 → Int32 → Int32 → Int32 → Int32 → Int32 → Int32 → Int32 → LWd → Option (Int32 × LWd)
  | 0, _, _, _, _, _, _, _, _, _, _, _, _, _, _, _, _, _, _, _, _, _, _ => none
  | fu + 1, a0, a1, a2, a3, a4, a5, a6, a7, a8, i9, i10, i11, i12, i13, i14, i15, i16, i17, i18, i19, i20, ws =>
    if 400 ≤ i20 then
      if i13 = 0 then
        m_L_isSo_b556 k224 a0 a1 a2 a3 a4 a5 a6 a7 a8 i9 i10 i11 i12 i14 i15 i16 ws
      else
        bn2 (calSR ws (nthr (m_X10_foothold a0 i14 ws))) fun x5 w3 =>
        if x5 = i18 then
          m_L_isSo_b557 k224 a0 a1 a2 a3 a4 a5 a6 a7 a8 i9 i10 i11 i12 i14 i15 i16 1 w3
        else
          m_L_isSo_b556 k224 a0 a1 a2 a3 a4 a5 a6 a7 a8 i9 i10 i11 i12 i14 i15 i16 w3
    else
      bn2 (calSR ws (m_L_four a1 (400 + i20) ws)) fun x9 w7 =>
      if 0 ≤ (x9 - i17) then
        m_L_isSo_b402 k224 (fun z0 z1 z2 z3 z4 z5 z6 z7 z8 z9 z10 z11 z12 z13 z14 z15 z16 z17 z18 z19 z20 w => m_L_isSo_l366 k224 fu z0 z1 z2 z3 z4 z5 z6 z7 z8 z9 z10 z11 z12 z13 z14 z15 z16 z17 z18 z19 z20 w) a0 a1 a2 a3 a4 a5 a6 a7 a8 i9 i10 i11 i12 i13 i14 i15 i16 i17 i18 i19 i20 (x9 - i17) w7
      else
        m_L_isSo_b402 k224 (fun z0 z1 z2 z3 z4 z5 z6 z7 z8 z9 z10 z11 z12 z13 z14 z15 z16 z17 z18 z19 z20 w => m_L_isSo_l366 k224 fu z0 z1 z2 z3 z4 z5 z6 z7 z8 z9 z10 z11 z12 z13 z14 z15 z16 z17 z18 z19 z20 w) a0 a1 a2 a3 a4 a5 a6 a7 a8 i9 i10 i11 i12 i13 i14 i15 i16 i17 i18 i19 i20 (-(x9 - i17)) w7
set_option maxRecDepth 100000 in
set_option maxHeartbeats 4000000 in
theorem jm_L_isSo_l366 {n0 : Nat} {rr : Int32} {ws' : LWd} {k224 : Nat → Nat → Nat → Nat → Nat → Nat → Nat → Nat → Nat → Int32 → Int32 → Int32 → Int32 → Int32 → Int32 → LWd → Option (Int32 × LWd)} (hk224 : ∀ (a0 : Nat) (a1 : Nat) (a2 : Nat) (a3 : Nat) (a4 : Nat) (a5 : Nat) (a6 : Nat) (a7 : Nat) (a8 : Nat) (i9 : Int32) (i10 : Int32) (i11 : Int32) (i12 : Int32) (i13 : Int32) (i14 : Int32) (ws : LWd), k224 a0 a1 a2 a3 a4 a5 a6 a7 a8 i9 i10 i11 i12 i13 i14 ws = some (rr, ws') → JG (.inr none) cL_isSo 30 RL wsL_isSo (some .boolean) "isSo" 11 2 12 n0 (.inl (some (.int rr)), ws') 224 [some (.ref a0), some (.ref a1), some (.ref a2), some (.ref a3), some (.ref a4), some (.ref a5), some (.ref a6), some (.ref a7), some (.ref a8), some (.int i9), some (.int i10), some (.int i11), some (.int i12), some (.int i13), some (.int i14), none, none, none, none, none, none, none, none, none, none, none, none, none, none, none] [] ws 0 0) : ∀ (fu : Nat) (a0 : Nat) (a1 : Nat) (a2 : Nat) (a3 : Nat) (a4 : Nat) (a5 : Nat) (a6 : Nat) (a7 : Nat) (a8 : Nat) (i9 : Int32) (i10 : Int32) (i11 : Int32) (i12 : Int32) (i13 : Int32) (i14 : Int32) (i15 : Int32) (i16 : Int32) (i17 : Int32) (i18 : Int32) (i19 : Int32) (i20 : Int32) (ws : LWd), m_L_isSo_l366 k224 fu a0 a1 a2 a3 a4 a5 a6 a7 a8 i9 i10 i11 i12 i13 i14 i15 i16 i17 i18 i19 i20 ws = some (rr, ws') → JG (.inr none) cL_isSo 30 RL wsL_isSo (some .boolean) "isSo" 11 2 12 n0 (.inl (some (.int rr)), ws') 366 [some (.ref a0), some (.ref a1), some (.ref a2), some (.ref a3), some (.ref a4), some (.ref a5), some (.ref a6), some (.ref a7), some (.ref a8), some (.int i9), some (.int i10), some (.int i11), some (.int i12), some (.int i13), some (.int i14), some (.int i15), some (.int i16), some (.int i17), some (.int i18), some (.int i19), some (.int i20), none, none, none, none, none, none, none, none, none] [] ws 0 0 := by
  intro fu
  induction fu with
  | zero => intro a0 a1 a2 a3 a4 a5 a6 a7 a8 i9 i10 i11 i12 i13 i14 i15 i16 i17 i18 i19 i20 ws h; first | (cases h; done) | (rw [m_L_isSo_l366] at h; cases h)
  | succ fu ih =>
    intro a0 a1 a2 a3 a4 a5 a6 a7 a8 i9 i10 i11 i12 i13 i14 i15 i16 i17 i18 i19 i20 ws h
    rw [m_L_isSo_l366] at h
    refine j_iload (pc := 366) dL_isSo_366 rfl ?_
    refine j_sipush (pc := 368) dL_isSo_368 (v := 400) (by decide) ?_
    refine j_icmp_ge (pc := 371) (tgt := 536) dL_isSo_371 (by decide) (fun c1 => ?_) (fun c1 => ?_)
    · rw [if_pos c1] at h
      refine j_iload (pc := 536) dL_isSo_536 rfl ?_
      refine j_if_eq (pc := 538) (tgt := 556) dL_isSo_538 (by decide) (fun c2 => ?_) (fun c2 => ?_)
      · rw [if_pos c2] at h
        refine j_mask [true, true, true, true, true, true, true, true, true, true, true, true, true, false, true, true, true, false, false, false, false, false, false, false, false, false, false, false, false, false] ?_
        exact jm_L_isSo_b556 (hk224 := hk224) _ _ _ _ _ _ _ _ _ _ _ _ _ _ _ _ ws h
      · rw [if_neg c2] at h
        refine j_aload_n (pc := 541) dL_isSo_541 rfl ?_
        refine j_iload (pc := 542) dL_isSo_542 rfl ?_
        obtain ⟨x5, w3, e4, h⟩ := obS2 h
        have ge4 := calSR_of e4
        refine j_callV_g (pc := 544) (As := [.int i14]) (k' := 0) (n' := 0) dL_isSo_544 (sn_X10_foothold (nthr_of ge4.1)) (jgV lw_683 lw_684 lw_685 lw_147 lw_682) rfl hv_X10_foothold rfl (r_X10_foothold (nthr_of ge4.1)) rfl (by decide) (by decide) (Nat.le_of_ble_eq_true rfl) (by decide) (by decide) (by decide) (by decide) (Or.inl ge4.2) ?_
        refine j_iload (pc := 547) dL_isSo_547 rfl ?_
        refine j_icmp_ne (pc := 549) (tgt := 556) dL_isSo_549 (by decide) (fun c6 => ?_) (fun c6 => ?_)
        · rw [if_neg c6] at h
          refine j_mask [true, true, true, true, true, true, true, true, true, true, true, true, true, false, true, true, true, false, false, false, false, false, false, false, false, false, false, false, false, false] ?_
          exact jm_L_isSo_b556 (hk224 := hk224) _ _ _ _ _ _ _ _ _ _ _ _ _ _ _ _ w3 h
        · rw [if_pos c6] at h
          refine j_iconst (pc := 552) dL_isSo_552 (v := 1) (by decide) ?_
          refine j_goto (pc := 553) (tgt := 557) dL_isSo_553 (by decide) ?_
          refine j_mask [true, true, true, true, true, true, true, true, true, true, true, true, true, false, true, true, true, false, false, false, false, false, false, false, false, false, false, false, false, false] ?_
          exact jm_L_isSo_b557 (hk224 := hk224) _ _ _ _ _ _ _ _ _ _ _ _ _ _ _ _ _ w3 h
    · rw [if_neg c1] at h
      refine j_aload_n (pc := 374) dL_isSo_374 rfl ?_
      refine j_sipush (pc := 375) dL_isSo_375 (v := 400) (by decide) ?_
      refine j_iload (pc := 378) dL_isSo_378 rfl ?_
      refine j_iadd (pc := 380) dL_isSo_380 ?_
      obtain ⟨x9, w7, e8, h⟩ := obS2 h
      have ge8 := calSR_of e8
      refine j_callS_g (pc := 381) (As := [.ref a1, .int (400 + i20)]) (k' := 0) (n' := 0) dL_isSo_381 (s_L_four ge8.1) (jgS lw_605 lw_606 lw_597 lw_604) rfl hy_L_four rfl (by decide) (by decide) (Nat.le_of_ble_eq_true rfl) (by decide) (by decide) (by decide) (by decide) (Or.inl ge8.2) ?_
      refine j_iload (pc := 384) dL_isSo_384 rfl ?_
      refine j_isub (pc := 386) dL_isSo_386 ?_
      refine j_istore_21 (pc := 387) dL_isSo_387 (by decide) rfl ?_
      refine j_iload (pc := 389) dL_isSo_389 rfl ?_
      refine j_if_ge (pc := 391) (tgt := 400) dL_isSo_391 (by decide) (fun c10 => ?_) (fun c10 => ?_)
      · rw [if_pos c10] at h
        refine j_iload (pc := 400) dL_isSo_400 rfl ?_
        refine j_mask [true, true, true, true, true, true, true, true, true, true, true, true, true, true, true, true, true, true, true, true, true, false, false, false, false, false, false, false, false, false] ?_
        exact jm_L_isSo_b402 (hk224 := hk224) (hk366 := ih) _ _ _ _ _ _ _ _ _ _ _ _ _ _ _ _ _ _ _ _ _ _ w7 h
      · rw [if_neg c10] at h
        refine j_iload (pc := 394) dL_isSo_394 rfl ?_
        refine j_ineg (pc := 396) dL_isSo_396 ?_
        refine j_goto (pc := 397) (tgt := 402) dL_isSo_397 (by decide) ?_
        refine j_mask [true, true, true, true, true, true, true, true, true, true, true, true, true, true, true, true, true, true, true, true, true, false, false, false, false, false, false, false, false, false] ?_
        exact jm_L_isSo_b402 (hk224 := hk224) (hk366 := ih) _ _ _ _ _ _ _ _ _ _ _ _ _ _ _ _ _ _ _ _ _ _ w7 h
def m_L_isSo_b330 (k224 : Nat → Nat → Nat → Nat → Nat → Nat → Nat → Nat → Nat → Int32 → Int32 → Int32 → Int32 → Int32 → Int32 → LWd → Option (Int32 × LWd)) (a0 : Nat) (a1 : Nat) (a2 : Nat) (a3 : Nat) (a4 : Nat) (a5 : Nat) (a6 : Nat) (a7 : Nat) (a8 : Nat) (i9 : Int32) (i10 : Int32) (i11 : Int32) (i12 : Int32) (i14 : Int32) (i15 : Int32) (s0 : Int32) (ws : LWd) : Option (Int32 × LWd) :=
  bn2 (calSR ws (m_L_level a1 a5 a6 (i11 &&& ((1 <<< (i14 &&& 31)) ^^^ ((-1)))) ws)) fun x3 w1 =>
  m_L_isSo_l366 k224 FU a0 a1 a2 a3 a4 a5 a6 a7 a8 i9 i10 i11 i12 s0 i14 i15 (i11 &&& ((1 <<< (i14 &&& 31)) ^^^ ((-1)))) x3 ((-1)) 10000 0 w1
set_option maxRecDepth 100000 in
set_option maxHeartbeats 4000000 in
theorem jm_L_isSo_b330 {n0 : Nat} {rr : Int32} {ws' : LWd} {k224 : Nat → Nat → Nat → Nat → Nat → Nat → Nat → Nat → Nat → Int32 → Int32 → Int32 → Int32 → Int32 → Int32 → LWd → Option (Int32 × LWd)} (hk224 : ∀ (a0 : Nat) (a1 : Nat) (a2 : Nat) (a3 : Nat) (a4 : Nat) (a5 : Nat) (a6 : Nat) (a7 : Nat) (a8 : Nat) (i9 : Int32) (i10 : Int32) (i11 : Int32) (i12 : Int32) (i13 : Int32) (i14 : Int32) (ws : LWd), k224 a0 a1 a2 a3 a4 a5 a6 a7 a8 i9 i10 i11 i12 i13 i14 ws = some (rr, ws') → JG (.inr none) cL_isSo 30 RL wsL_isSo (some .boolean) "isSo" 11 2 12 n0 (.inl (some (.int rr)), ws') 224 [some (.ref a0), some (.ref a1), some (.ref a2), some (.ref a3), some (.ref a4), some (.ref a5), some (.ref a6), some (.ref a7), some (.ref a8), some (.int i9), some (.int i10), some (.int i11), some (.int i12), some (.int i13), some (.int i14), none, none, none, none, none, none, none, none, none, none, none, none, none, none, none] [] ws 0 0) (a0 : Nat) (a1 : Nat) (a2 : Nat) (a3 : Nat) (a4 : Nat) (a5 : Nat) (a6 : Nat) (a7 : Nat) (a8 : Nat) (i9 : Int32) (i10 : Int32) (i11 : Int32) (i12 : Int32) (i14 : Int32) (i15 : Int32) (s0 : Int32) (ws : LWd) (h : m_L_isSo_b330 k224 a0 a1 a2 a3 a4 a5 a6 a7 a8 i9 i10 i11 i12 i14 i15 s0 ws = some (rr, ws')) : JG (.inr none) cL_isSo 30 RL wsL_isSo (some .boolean) "isSo" 11 2 12 n0 (.inl (some (.int rr)), ws') 330 [some (.ref a0), some (.ref a1), some (.ref a2), some (.ref a3), some (.ref a4), some (.ref a5), some (.ref a6), some (.ref a7), some (.ref a8), some (.int i9), some (.int i10), some (.int i11), some (.int i12), none, some (.int i14), some (.int i15), none, none, none, none, none, none, none, none, none, none, none, none, none, none] [.int s0] ws 0 0 := by
  unfold m_L_isSo_b330 at h
  refine j_istore_13 (pc := 330) dL_isSo_330 (by decide) rfl ?_
  refine j_iload (pc := 332) dL_isSo_332 rfl ?_
  refine j_iconst (pc := 334) dL_isSo_334 (v := 1) (by decide) ?_
  refine j_iload (pc := 335) dL_isSo_335 rfl ?_
  refine j_ishl (pc := 337) dL_isSo_337 ?_
  refine j_iconst (pc := 338) dL_isSo_338 (v := (-1)) (by decide) ?_
  refine j_ixor (pc := 339) dL_isSo_339 ?_
  refine j_iand (pc := 340) dL_isSo_340 ?_
  refine j_istore_16 (pc := 341) dL_isSo_341 (by decide) rfl ?_
  refine j_aload_n (pc := 343) dL_isSo_343 rfl ?_
  refine j_aload (pc := 344) dL_isSo_344 rfl ?_
  refine j_aload (pc := 346) dL_isSo_346 rfl ?_
  refine j_iload (pc := 348) dL_isSo_348 rfl ?_
  obtain ⟨x3, w1, e2, h⟩ := obS2 h
  have ge2 := calSR_of e2
  refine j_callS_g (pc := 350) (As := [.ref a1, .ref a5, .ref a6, .int (i11 &&& ((1 <<< (i14 &&& 31)) ^^^ ((-1))))]) (k' := 0) (n' := 0) dL_isSo_350 (s_L_level ge2.1) (jgS lw_638 lw_639 lw_597 lw_637) rfl hy_L_level rfl (by decide) (by decide) (Nat.le_of_ble_eq_true rfl) (by decide) (by decide) (by decide) (by decide) (Or.inl ge2.2) ?_
  refine j_istore_17 (pc := 353) dL_isSo_353 (by decide) rfl ?_
  refine j_iconst (pc := 355) dL_isSo_355 (v := (-1)) (by decide) ?_
  refine j_istore_18 (pc := 356) dL_isSo_356 (by decide) rfl ?_
  refine j_sipush (pc := 358) dL_isSo_358 (v := 10000) (by decide) ?_
  refine j_istore_19 (pc := 361) dL_isSo_361 (by decide) rfl ?_
  refine j_iconst (pc := 363) dL_isSo_363 (v := 0) (by decide) ?_
  refine j_istore_20 (pc := 364) dL_isSo_364 (by decide) rfl ?_
  exact jm_L_isSo_l366 (hk224 := hk224) FU _ _ _ _ _ _ _ _ _ _ _ _ _ _ _ _ _ _ _ _ _ w1 h
def m_L_isSo_b329 (k224 : Nat → Nat → Nat → Nat → Nat → Nat → Nat → Nat → Nat → Int32 → Int32 → Int32 → Int32 → Int32 → Int32 → LWd → Option (Int32 × LWd)) (a0 : Nat) (a1 : Nat) (a2 : Nat) (a3 : Nat) (a4 : Nat) (a5 : Nat) (a6 : Nat) (a7 : Nat) (a8 : Nat) (i9 : Int32) (i10 : Int32) (i11 : Int32) (i12 : Int32) (i14 : Int32) (i15 : Int32) (ws : LWd) : Option (Int32 × LWd) :=
  m_L_isSo_b330 k224 a0 a1 a2 a3 a4 a5 a6 a7 a8 i9 i10 i11 i12 i14 i15 0 ws
set_option maxRecDepth 100000 in
set_option maxHeartbeats 4000000 in
theorem jm_L_isSo_b329 {n0 : Nat} {rr : Int32} {ws' : LWd} {k224 : Nat → Nat → Nat → Nat → Nat → Nat → Nat → Nat → Nat → Int32 → Int32 → Int32 → Int32 → Int32 → Int32 → LWd → Option (Int32 × LWd)} (hk224 : ∀ (a0 : Nat) (a1 : Nat) (a2 : Nat) (a3 : Nat) (a4 : Nat) (a5 : Nat) (a6 : Nat) (a7 : Nat) (a8 : Nat) (i9 : Int32) (i10 : Int32) (i11 : Int32) (i12 : Int32) (i13 : Int32) (i14 : Int32) (ws : LWd), k224 a0 a1 a2 a3 a4 a5 a6 a7 a8 i9 i10 i11 i12 i13 i14 ws = some (rr, ws') → JG (.inr none) cL_isSo 30 RL wsL_isSo (some .boolean) "isSo" 11 2 12 n0 (.inl (some (.int rr)), ws') 224 [some (.ref a0), some (.ref a1), some (.ref a2), some (.ref a3), some (.ref a4), some (.ref a5), some (.ref a6), some (.ref a7), some (.ref a8), some (.int i9), some (.int i10), some (.int i11), some (.int i12), some (.int i13), some (.int i14), none, none, none, none, none, none, none, none, none, none, none, none, none, none, none] [] ws 0 0) (a0 : Nat) (a1 : Nat) (a2 : Nat) (a3 : Nat) (a4 : Nat) (a5 : Nat) (a6 : Nat) (a7 : Nat) (a8 : Nat) (i9 : Int32) (i10 : Int32) (i11 : Int32) (i12 : Int32) (i14 : Int32) (i15 : Int32) (ws : LWd) (h : m_L_isSo_b329 k224 a0 a1 a2 a3 a4 a5 a6 a7 a8 i9 i10 i11 i12 i14 i15 ws = some (rr, ws')) : JG (.inr none) cL_isSo 30 RL wsL_isSo (some .boolean) "isSo" 11 2 12 n0 (.inl (some (.int rr)), ws') 329 [some (.ref a0), some (.ref a1), some (.ref a2), some (.ref a3), some (.ref a4), some (.ref a5), some (.ref a6), some (.ref a7), some (.ref a8), some (.int i9), some (.int i10), some (.int i11), some (.int i12), none, some (.int i14), some (.int i15), none, none, none, none, none, none, none, none, none, none, none, none, none, none] [] ws 0 0 := by
  unfold m_L_isSo_b329 at h
  refine j_iconst (pc := 329) dL_isSo_329 (v := 0) (by decide) ?_
  exact jm_L_isSo_b330 (hk224 := hk224) _ _ _ _ _ _ _ _ _ _ _ _ _ _ _ _ ws h
def m_L_isSo_b322 (k224 : Nat → Nat → Nat → Nat → Nat → Nat → Nat → Nat → Nat → Int32 → Int32 → Int32 → Int32 → Int32 → Int32 → LWd → Option (Int32 × LWd)) (a0 : Nat) (a1 : Nat) (a2 : Nat) (a3 : Nat) (a4 : Nat) (a5 : Nat) (a6 : Nat) (a7 : Nat) (a8 : Nat) (i9 : Int32) (i10 : Int32) (i11 : Int32) (i12 : Int32) (i14 : Int32) (i15 : Int32) (s0 : Int32) (s1 : Int32) (ws : LWd) : Option (Int32 × LWd) :=
  if s0 = s1 then
    m_L_isSo_b330 k224 a0 a1 a2 a3 a4 a5 a6 a7 a8 i9 i10 i11 i12 i14 i15 1 ws
  else
    m_L_isSo_b329 k224 a0 a1 a2 a3 a4 a5 a6 a7 a8 i9 i10 i11 i12 i14 i15 ws
set_option maxRecDepth 100000 in
set_option maxHeartbeats 4000000 in
theorem jm_L_isSo_b322 {n0 : Nat} {rr : Int32} {ws' : LWd} {k224 : Nat → Nat → Nat → Nat → Nat → Nat → Nat → Nat → Nat → Int32 → Int32 → Int32 → Int32 → Int32 → Int32 → LWd → Option (Int32 × LWd)} (hk224 : ∀ (a0 : Nat) (a1 : Nat) (a2 : Nat) (a3 : Nat) (a4 : Nat) (a5 : Nat) (a6 : Nat) (a7 : Nat) (a8 : Nat) (i9 : Int32) (i10 : Int32) (i11 : Int32) (i12 : Int32) (i13 : Int32) (i14 : Int32) (ws : LWd), k224 a0 a1 a2 a3 a4 a5 a6 a7 a8 i9 i10 i11 i12 i13 i14 ws = some (rr, ws') → JG (.inr none) cL_isSo 30 RL wsL_isSo (some .boolean) "isSo" 11 2 12 n0 (.inl (some (.int rr)), ws') 224 [some (.ref a0), some (.ref a1), some (.ref a2), some (.ref a3), some (.ref a4), some (.ref a5), some (.ref a6), some (.ref a7), some (.ref a8), some (.int i9), some (.int i10), some (.int i11), some (.int i12), some (.int i13), some (.int i14), none, none, none, none, none, none, none, none, none, none, none, none, none, none, none] [] ws 0 0) (a0 : Nat) (a1 : Nat) (a2 : Nat) (a3 : Nat) (a4 : Nat) (a5 : Nat) (a6 : Nat) (a7 : Nat) (a8 : Nat) (i9 : Int32) (i10 : Int32) (i11 : Int32) (i12 : Int32) (i14 : Int32) (i15 : Int32) (s0 : Int32) (s1 : Int32) (ws : LWd) (h : m_L_isSo_b322 k224 a0 a1 a2 a3 a4 a5 a6 a7 a8 i9 i10 i11 i12 i14 i15 s0 s1 ws = some (rr, ws')) : JG (.inr none) cL_isSo 30 RL wsL_isSo (some .boolean) "isSo" 11 2 12 n0 (.inl (some (.int rr)), ws') 322 [some (.ref a0), some (.ref a1), some (.ref a2), some (.ref a3), some (.ref a4), some (.ref a5), some (.ref a6), some (.ref a7), some (.ref a8), some (.int i9), some (.int i10), some (.int i11), some (.int i12), none, some (.int i14), some (.int i15), none, none, none, none, none, none, none, none, none, none, none, none, none, none] [.int s1, .int s0] ws 0 0 := by
  unfold m_L_isSo_b322 at h
  refine j_icmp_ne (pc := 322) (tgt := 329) dL_isSo_322 (by decide) (fun c1 => ?_) (fun c1 => ?_)
  · rw [if_neg c1] at h
    exact jm_L_isSo_b329 (hk224 := hk224) _ _ _ _ _ _ _ _ _ _ _ _ _ _ _ ws h
  · rw [if_pos c1] at h
    refine j_iconst (pc := 325) dL_isSo_325 (v := 1) (by decide) ?_
    refine j_goto (pc := 326) (tgt := 330) dL_isSo_326 (by decide) ?_
    exact jm_L_isSo_b330 (hk224 := hk224) _ _ _ _ _ _ _ _ _ _ _ _ _ _ _ _ ws h
def m_L_isSo_b298 (k224 : Nat → Nat → Nat → Nat → Nat → Nat → Nat → Nat → Nat → Int32 → Int32 → Int32 → Int32 → Int32 → Int32 → LWd → Option (Int32 × LWd)) (a0 : Nat) (a1 : Nat) (a2 : Nat) (a3 : Nat) (a4 : Nat) (a5 : Nat) (a6 : Nat) (a7 : Nat) (a8 : Nat) (i9 : Int32) (i10 : Int32) (i11 : Int32) (i12 : Int32) (i14 : Int32) (i15 : Int32) (s0 : Int32) (s1 : Int32) (ws : LWd) : Option (Int32 × LWd) :=
  if s0 = s1 then
    bn2 (calSR ws (nthr (m_X10_foot a0 i14 2 ws))) fun x4 w2 =>
    if i15 = 0 then
      m_L_isSo_b322 k224 a0 a1 a2 a3 a4 a5 a6 a7 a8 i9 i10 i11 i12 i14 i15 x4 ((-1)) w2
    else
      (aI w2 a6 i14).bind fun x6 =>
      m_L_isSo_b322 k224 a0 a1 a2 a3 a4 a5 a6 a7 a8 i9 i10 i11 i12 i14 i15 x4 x6 w2
  else
    m_L_isSo_b329 k224 a0 a1 a2 a3 a4 a5 a6 a7 a8 i9 i10 i11 i12 i14 i15 ws
set_option maxRecDepth 100000 in
set_option maxHeartbeats 4000000 in
theorem jm_L_isSo_b298 {n0 : Nat} {rr : Int32} {ws' : LWd} {k224 : Nat → Nat → Nat → Nat → Nat → Nat → Nat → Nat → Nat → Int32 → Int32 → Int32 → Int32 → Int32 → Int32 → LWd → Option (Int32 × LWd)} (hk224 : ∀ (a0 : Nat) (a1 : Nat) (a2 : Nat) (a3 : Nat) (a4 : Nat) (a5 : Nat) (a6 : Nat) (a7 : Nat) (a8 : Nat) (i9 : Int32) (i10 : Int32) (i11 : Int32) (i12 : Int32) (i13 : Int32) (i14 : Int32) (ws : LWd), k224 a0 a1 a2 a3 a4 a5 a6 a7 a8 i9 i10 i11 i12 i13 i14 ws = some (rr, ws') → JG (.inr none) cL_isSo 30 RL wsL_isSo (some .boolean) "isSo" 11 2 12 n0 (.inl (some (.int rr)), ws') 224 [some (.ref a0), some (.ref a1), some (.ref a2), some (.ref a3), some (.ref a4), some (.ref a5), some (.ref a6), some (.ref a7), some (.ref a8), some (.int i9), some (.int i10), some (.int i11), some (.int i12), some (.int i13), some (.int i14), none, none, none, none, none, none, none, none, none, none, none, none, none, none, none] [] ws 0 0) (a0 : Nat) (a1 : Nat) (a2 : Nat) (a3 : Nat) (a4 : Nat) (a5 : Nat) (a6 : Nat) (a7 : Nat) (a8 : Nat) (i9 : Int32) (i10 : Int32) (i11 : Int32) (i12 : Int32) (i14 : Int32) (i15 : Int32) (s0 : Int32) (s1 : Int32) (ws : LWd) (h : m_L_isSo_b298 k224 a0 a1 a2 a3 a4 a5 a6 a7 a8 i9 i10 i11 i12 i14 i15 s0 s1 ws = some (rr, ws')) : JG (.inr none) cL_isSo 30 RL wsL_isSo (some .boolean) "isSo" 11 2 12 n0 (.inl (some (.int rr)), ws') 298 [some (.ref a0), some (.ref a1), some (.ref a2), some (.ref a3), some (.ref a4), some (.ref a5), some (.ref a6), some (.ref a7), some (.ref a8), some (.int i9), some (.int i10), some (.int i11), some (.int i12), none, some (.int i14), some (.int i15), none, none, none, none, none, none, none, none, none, none, none, none, none, none] [.int s1, .int s0] ws 0 0 := by
  unfold m_L_isSo_b298 at h
  refine j_icmp_ne (pc := 298) (tgt := 329) dL_isSo_298 (by decide) (fun c1 => ?_) (fun c1 => ?_)
  · rw [if_neg c1] at h
    exact jm_L_isSo_b329 (hk224 := hk224) _ _ _ _ _ _ _ _ _ _ _ _ _ _ _ ws h
  · rw [if_pos c1] at h
    refine j_aload_n (pc := 301) dL_isSo_301 rfl ?_
    refine j_iload (pc := 302) dL_isSo_302 rfl ?_
    refine j_iconst (pc := 304) dL_isSo_304 (v := 2) (by decide) ?_
    obtain ⟨x4, w2, e3, h⟩ := obS2 h
    have ge3 := calSR_of e3
    refine j_callV_g (pc := 305) (As := [.int i14, .int 2]) (k' := 0) (n' := 0) dL_isSo_305 (sn_X10_foot (nthr_of ge3.1)) (jgV lw_532 lw_533 lw_534 lw_147 lw_531) rfl hv_X10_foot rfl (r_X10_foot (nthr_of ge3.1)) rfl (by decide) (by decide) (Nat.le_of_ble_eq_true rfl) (by decide) (by decide) (by decide) (by decide) (Or.inl ge3.2) ?_
    refine j_iload (pc := 308) dL_isSo_308 rfl ?_
    refine j_if_eq (pc := 310) (tgt := 321) dL_isSo_310 (by decide) (fun c5 => ?_) (fun c5 => ?_)
    · rw [if_pos c5] at h
      refine j_iconst (pc := 321) dL_isSo_321 (v := (-1)) (by decide) ?_
      exact jm_L_isSo_b322 (hk224 := hk224) _ _ _ _ _ _ _ _ _ _ _ _ _ _ _ _ _ w2 h
    · rw [if_neg c5] at h
      refine j_aload (pc := 313) dL_isSo_313 rfl ?_
      refine j_iload (pc := 315) dL_isSo_315 rfl ?_
      obtain ⟨x6, e7, h⟩ := obS h
      refine j_iald (pc := 317) dL_isSo_317 e7 ?_
      refine j_goto (pc := 318) (tgt := 322) dL_isSo_318 (by decide) ?_
      exact jm_L_isSo_b322 (hk224 := hk224) _ _ _ _ _ _ _ _ _ _ _ _ _ _ _ _ _ w2 h
def m_L_isSo_b274 (k224 : Nat → Nat → Nat → Nat → Nat → Nat → Nat → Nat → Nat → Int32 → Int32 → Int32 → Int32 → Int32 → Int32 → LWd → Option (Int32 × LWd)) (a0 : Nat) (a1 : Nat) (a2 : Nat) (a3 : Nat) (a4 : Nat) (a5 : Nat) (a6 : Nat) (a7 : Nat) (a8 : Nat) (i9 : Int32) (i10 : Int32) (i11 : Int32) (i12 : Int32) (i14 : Int32) (i15 : Int32) (s0 : Int32) (s1 : Int32) (ws : LWd) : Option (Int32 × LWd) :=
  if s0 = s1 then
    bn2 (calSR ws (nthr (m_X10_foot a0 i14 1 ws))) fun x4 w2 =>
    if i15 = 0 then
      m_L_isSo_b298 k224 a0 a1 a2 a3 a4 a5 a6 a7 a8 i9 i10 i11 i12 i14 i15 x4 ((-1)) w2
    else
      (aI w2 a5 i14).bind fun x6 =>
      m_L_isSo_b298 k224 a0 a1 a2 a3 a4 a5 a6 a7 a8 i9 i10 i11 i12 i14 i15 x4 x6 w2
  else
    m_L_isSo_b329 k224 a0 a1 a2 a3 a4 a5 a6 a7 a8 i9 i10 i11 i12 i14 i15 ws
set_option maxRecDepth 100000 in
set_option maxHeartbeats 4000000 in
theorem jm_L_isSo_b274 {n0 : Nat} {rr : Int32} {ws' : LWd} {k224 : Nat → Nat → Nat → Nat → Nat → Nat → Nat → Nat → Nat → Int32 → Int32 → Int32 → Int32 → Int32 → Int32 → LWd → Option (Int32 × LWd)} (hk224 : ∀ (a0 : Nat) (a1 : Nat) (a2 : Nat) (a3 : Nat) (a4 : Nat) (a5 : Nat) (a6 : Nat) (a7 : Nat) (a8 : Nat) (i9 : Int32) (i10 : Int32) (i11 : Int32) (i12 : Int32) (i13 : Int32) (i14 : Int32) (ws : LWd), k224 a0 a1 a2 a3 a4 a5 a6 a7 a8 i9 i10 i11 i12 i13 i14 ws = some (rr, ws') → JG (.inr none) cL_isSo 30 RL wsL_isSo (some .boolean) "isSo" 11 2 12 n0 (.inl (some (.int rr)), ws') 224 [some (.ref a0), some (.ref a1), some (.ref a2), some (.ref a3), some (.ref a4), some (.ref a5), some (.ref a6), some (.ref a7), some (.ref a8), some (.int i9), some (.int i10), some (.int i11), some (.int i12), some (.int i13), some (.int i14), none, none, none, none, none, none, none, none, none, none, none, none, none, none, none] [] ws 0 0) (a0 : Nat) (a1 : Nat) (a2 : Nat) (a3 : Nat) (a4 : Nat) (a5 : Nat) (a6 : Nat) (a7 : Nat) (a8 : Nat) (i9 : Int32) (i10 : Int32) (i11 : Int32) (i12 : Int32) (i14 : Int32) (i15 : Int32) (s0 : Int32) (s1 : Int32) (ws : LWd) (h : m_L_isSo_b274 k224 a0 a1 a2 a3 a4 a5 a6 a7 a8 i9 i10 i11 i12 i14 i15 s0 s1 ws = some (rr, ws')) : JG (.inr none) cL_isSo 30 RL wsL_isSo (some .boolean) "isSo" 11 2 12 n0 (.inl (some (.int rr)), ws') 274 [some (.ref a0), some (.ref a1), some (.ref a2), some (.ref a3), some (.ref a4), some (.ref a5), some (.ref a6), some (.ref a7), some (.ref a8), some (.int i9), some (.int i10), some (.int i11), some (.int i12), none, some (.int i14), some (.int i15), none, none, none, none, none, none, none, none, none, none, none, none, none, none] [.int s1, .int s0] ws 0 0 := by
  unfold m_L_isSo_b274 at h
  refine j_icmp_ne (pc := 274) (tgt := 329) dL_isSo_274 (by decide) (fun c1 => ?_) (fun c1 => ?_)
  · rw [if_neg c1] at h
    exact jm_L_isSo_b329 (hk224 := hk224) _ _ _ _ _ _ _ _ _ _ _ _ _ _ _ ws h
  · rw [if_pos c1] at h
    refine j_aload_n (pc := 277) dL_isSo_277 rfl ?_
    refine j_iload (pc := 278) dL_isSo_278 rfl ?_
    refine j_iconst (pc := 280) dL_isSo_280 (v := 1) (by decide) ?_
    obtain ⟨x4, w2, e3, h⟩ := obS2 h
    have ge3 := calSR_of e3
    refine j_callV_g (pc := 281) (As := [.int i14, .int 1]) (k' := 0) (n' := 0) dL_isSo_281 (sn_X10_foot (nthr_of ge3.1)) (jgV lw_532 lw_533 lw_534 lw_147 lw_531) rfl hv_X10_foot rfl (r_X10_foot (nthr_of ge3.1)) rfl (by decide) (by decide) (Nat.le_of_ble_eq_true rfl) (by decide) (by decide) (by decide) (by decide) (Or.inl ge3.2) ?_
    refine j_iload (pc := 284) dL_isSo_284 rfl ?_
    refine j_if_eq (pc := 286) (tgt := 297) dL_isSo_286 (by decide) (fun c5 => ?_) (fun c5 => ?_)
    · rw [if_pos c5] at h
      refine j_iconst (pc := 297) dL_isSo_297 (v := (-1)) (by decide) ?_
      exact jm_L_isSo_b298 (hk224 := hk224) _ _ _ _ _ _ _ _ _ _ _ _ _ _ _ _ _ w2 h
    · rw [if_neg c5] at h
      refine j_aload (pc := 289) dL_isSo_289 rfl ?_
      refine j_iload (pc := 291) dL_isSo_291 rfl ?_
      obtain ⟨x6, e7, h⟩ := obS h
      refine j_iald (pc := 293) dL_isSo_293 e7 ?_
      refine j_goto (pc := 294) (tgt := 298) dL_isSo_294 (by decide) ?_
      exact jm_L_isSo_b298 (hk224 := hk224) _ _ _ _ _ _ _ _ _ _ _ _ _ _ _ _ _ w2 h
def m_L_isSo_b255 (k224 : Nat → Nat → Nat → Nat → Nat → Nat → Nat → Nat → Nat → Int32 → Int32 → Int32 → Int32 → Int32 → Int32 → LWd → Option (Int32 × LWd)) (a0 : Nat) (a1 : Nat) (a2 : Nat) (a3 : Nat) (a4 : Nat) (a5 : Nat) (a6 : Nat) (a7 : Nat) (a8 : Nat) (i9 : Int32) (i10 : Int32) (i11 : Int32) (i12 : Int32) (i14 : Int32) (s0 : Int32) (ws : LWd) : Option (Int32 × LWd) :=
  bn2 (calSR ws (nthr (m_X10_foot a0 i14 0 ws))) fun x3 w1 =>
  if s0 = 0 then
    m_L_isSo_b274 k224 a0 a1 a2 a3 a4 a5 a6 a7 a8 i9 i10 i11 i12 i14 s0 x3 0 w1
  else
    m_L_isSo_b274 k224 a0 a1 a2 a3 a4 a5 a6 a7 a8 i9 i10 i11 i12 i14 s0 x3 1 w1
set_option maxRecDepth 100000 in
set_option maxHeartbeats 4000000 in
theorem jm_L_isSo_b255 {n0 : Nat} {rr : Int32} {ws' : LWd} {k224 : Nat → Nat → Nat → Nat → Nat → Nat → Nat → Nat → Nat → Int32 → Int32 → Int32 → Int32 → Int32 → Int32 → LWd → Option (Int32 × LWd)} (hk224 : ∀ (a0 : Nat) (a1 : Nat) (a2 : Nat) (a3 : Nat) (a4 : Nat) (a5 : Nat) (a6 : Nat) (a7 : Nat) (a8 : Nat) (i9 : Int32) (i10 : Int32) (i11 : Int32) (i12 : Int32) (i13 : Int32) (i14 : Int32) (ws : LWd), k224 a0 a1 a2 a3 a4 a5 a6 a7 a8 i9 i10 i11 i12 i13 i14 ws = some (rr, ws') → JG (.inr none) cL_isSo 30 RL wsL_isSo (some .boolean) "isSo" 11 2 12 n0 (.inl (some (.int rr)), ws') 224 [some (.ref a0), some (.ref a1), some (.ref a2), some (.ref a3), some (.ref a4), some (.ref a5), some (.ref a6), some (.ref a7), some (.ref a8), some (.int i9), some (.int i10), some (.int i11), some (.int i12), some (.int i13), some (.int i14), none, none, none, none, none, none, none, none, none, none, none, none, none, none, none] [] ws 0 0) (a0 : Nat) (a1 : Nat) (a2 : Nat) (a3 : Nat) (a4 : Nat) (a5 : Nat) (a6 : Nat) (a7 : Nat) (a8 : Nat) (i9 : Int32) (i10 : Int32) (i11 : Int32) (i12 : Int32) (i14 : Int32) (s0 : Int32) (ws : LWd) (h : m_L_isSo_b255 k224 a0 a1 a2 a3 a4 a5 a6 a7 a8 i9 i10 i11 i12 i14 s0 ws = some (rr, ws')) : JG (.inr none) cL_isSo 30 RL wsL_isSo (some .boolean) "isSo" 11 2 12 n0 (.inl (some (.int rr)), ws') 255 [some (.ref a0), some (.ref a1), some (.ref a2), some (.ref a3), some (.ref a4), some (.ref a5), some (.ref a6), some (.ref a7), some (.ref a8), some (.int i9), some (.int i10), some (.int i11), some (.int i12), none, some (.int i14), none, none, none, none, none, none, none, none, none, none, none, none, none, none, none] [.int s0] ws 0 0 := by
  unfold m_L_isSo_b255 at h
  refine j_istore_15 (pc := 255) dL_isSo_255 (by decide) rfl ?_
  refine j_aload_n (pc := 257) dL_isSo_257 rfl ?_
  refine j_iload (pc := 258) dL_isSo_258 rfl ?_
  refine j_iconst (pc := 260) dL_isSo_260 (v := 0) (by decide) ?_
  obtain ⟨x3, w1, e2, h⟩ := obS2 h
  have ge2 := calSR_of e2
  refine j_callV_g (pc := 261) (As := [.int i14, .int 0]) (k' := 0) (n' := 0) dL_isSo_261 (sn_X10_foot (nthr_of ge2.1)) (jgV lw_532 lw_533 lw_534 lw_147 lw_531) rfl hv_X10_foot rfl (r_X10_foot (nthr_of ge2.1)) rfl (by decide) (by decide) (Nat.le_of_ble_eq_true rfl) (by decide) (by decide) (by decide) (by decide) (Or.inl ge2.2) ?_
  refine j_iload (pc := 264) dL_isSo_264 rfl ?_
  refine j_if_eq (pc := 266) (tgt := 273) dL_isSo_266 (by decide) (fun c4 => ?_) (fun c4 => ?_)
  · rw [if_pos c4] at h
    refine j_iconst (pc := 273) dL_isSo_273 (v := 0) (by decide) ?_
    exact jm_L_isSo_b274 (hk224 := hk224) _ _ _ _ _ _ _ _ _ _ _ _ _ _ _ _ _ w1 h
  · rw [if_neg c4] at h
    refine j_iconst (pc := 269) dL_isSo_269 (v := 1) (by decide) ?_
    refine j_goto (pc := 270) (tgt := 274) dL_isSo_270 (by decide) ?_
    exact jm_L_isSo_b274 (hk224 := hk224) _ _ _ _ _ _ _ _ _ _ _ _ _ _ _ _ _ w1 h
def m_L_isSo_l224 : Nat → Nat → Nat → Nat → Nat → Nat → Nat → Nat → Nat → Nat → Int32 → Int32 → Int32 → Int32 → Int32 → Int32 → LWd → Option (Int32 × LWd)
  | 0, _, _, _, _, _, _, _, _, _, _, _, _, _, _, _, _ => none
  | fu + 1, a0, a1, a2, a3, a4, a5, a6, a7, a8, i9, i10, i11, i12, i13, i14, ws =>
    (aI ws a8 7).bind fun x1 =>
    if x1 ≤ i14 then
      m_L_isSo_b706 a0 a1 a2 a3 a4 a5 a6 a7 a8 i9 i10 i11 i12 i13 ws
    else
      if i13 = 0 then
        m_L_isSo_b706 a0 a1 a2 a3 a4 a5 a6 a7 a8 i9 i10 i11 i12 i13 ws
      else
        if ((i11 >>> (i14 &&& 31)) &&& 1) = 1 then
          m_L_isSo_b255 (fun z0 z1 z2 z3 z4 z5 z6 z7 z8 z9 z10 z11 z12 z13 z14 w => m_L_isSo_l224 fu z0 z1 z2 z3 z4 z5 z6 z7 z8 z9 z10 z11 z12 z13 z14 w) a0 a1 a2 a3 a4 a5 a6 a7 a8 i9 i10 i11 i12 i14 1 ws
        else
          m_L_isSo_b255 (fun z0 z1 z2 z3 z4 z5 z6 z7 z8 z9 z10 z11 z12 z13 z14 w => m_L_isSo_l224 fu z0 z1 z2 z3 z4 z5 z6 z7 z8 z9 z10 z11 z12 z13 z14 w) a0 a1 a2 a3 a4 a5 a6 a7 a8 i9 i10 i11 i12 i14 0 ws
set_option maxRecDepth 100000 in
set_option maxHeartbeats 4000000 in
theorem jm_L_isSo_l224 {n0 : Nat} {rr : Int32} {ws' : LWd} : ∀ (fu : Nat) (a0 : Nat) (a1 : Nat) (a2 : Nat) (a3 : Nat) (a4 : Nat) (a5 : Nat) (a6 : Nat) (a7 : Nat) (a8 : Nat) (i9 : Int32) (i10 : Int32) (i11 : Int32) (i12 : Int32) (i13 : Int32) (i14 : Int32) (ws : LWd), m_L_isSo_l224 fu a0 a1 a2 a3 a4 a5 a6 a7 a8 i9 i10 i11 i12 i13 i14 ws = some (rr, ws') → JG (.inr none) cL_isSo 30 RL wsL_isSo (some .boolean) "isSo" 11 2 12 n0 (.inl (some (.int rr)), ws') 224 [some (.ref a0), some (.ref a1), some (.ref a2), some (.ref a3), some (.ref a4), some (.ref a5), some (.ref a6), some (.ref a7), some (.ref a8), some (.int i9), some (.int i10), some (.int i11), some (.int i12), some (.int i13), some (.int i14), none, none, none, none, none, none, none, none, none, none, none, none, none, none, none] [] ws 0 0 := by
  intro fu
  induction fu with
  | zero => intro a0 a1 a2 a3 a4 a5 a6 a7 a8 i9 i10 i11 i12 i13 i14 ws h; first | (cases h; done) | (rw [m_L_isSo_l224] at h; cases h)
  | succ fu ih =>
    intro a0 a1 a2 a3 a4 a5 a6 a7 a8 i9 i10 i11 i12 i13 i14 ws h
    rw [m_L_isSo_l224] at h
    refine j_iload (pc := 224) dL_isSo_224 rfl ?_
    refine j_aload (pc := 226) dL_isSo_226 rfl ?_
    refine j_bipush (pc := 228) dL_isSo_228 (v := 7) (by decide) ?_
    obtain ⟨x1, e2, h⟩ := obS h
    refine j_iald (pc := 230) dL_isSo_230 e2 ?_
    refine j_icmp_ge (pc := 231) (tgt := 706) dL_isSo_231 (by decide) (fun c3 => ?_) (fun c3 => ?_)
    · rw [if_pos c3] at h
      refine j_mask [true, true, true, true, true, true, true, true, true, true, true, true, true, true, false, false, false, false, false, false, false, false, false, false, false, false, false, false, false, false] ?_
      exact jm_L_isSo_b706 _ _ _ _ _ _ _ _ _ _ _ _ _ _ ws h
    · rw [if_neg c3] at h
      refine j_iload (pc := 234) dL_isSo_234 rfl ?_
      refine j_if_eq (pc := 236) (tgt := 706) dL_isSo_236 (by decide) (fun c4 => ?_) (fun c4 => ?_)
      · rw [if_pos c4] at h
        refine j_mask [true, true, true, true, true, true, true, true, true, true, true, true, true, true, false, false, false, false, false, false, false, false, false, false, false, false, false, false, false, false] ?_
        exact jm_L_isSo_b706 _ _ _ _ _ _ _ _ _ _ _ _ _ _ ws h
      · rw [if_neg c4] at h
        refine j_iload (pc := 239) dL_isSo_239 rfl ?_
        refine j_iload (pc := 241) dL_isSo_241 rfl ?_
        refine j_ishr (pc := 243) dL_isSo_243 ?_
        refine j_iconst (pc := 244) dL_isSo_244 (v := 1) (by decide) ?_
        refine j_iand (pc := 245) dL_isSo_245 ?_
        refine j_iconst (pc := 246) dL_isSo_246 (v := 1) (by decide) ?_
        refine j_icmp_ne (pc := 247) (tgt := 254) dL_isSo_247 (by decide) (fun c5 => ?_) (fun c5 => ?_)
        · rw [if_neg c5] at h
          refine j_iconst (pc := 254) dL_isSo_254 (v := 0) (by decide) ?_
          refine j_mask [true, true, true, true, true, true, true, true, true, true, true, true, true, false, true, false, false, false, false, false, false, false, false, false, false, false, false, false, false, false] ?_
          exact jm_L_isSo_b255 (hk224 := ih) _ _ _ _ _ _ _ _ _ _ _ _ _ _ _ ws h
        · rw [if_pos c5] at h
          refine j_iconst (pc := 250) dL_isSo_250 (v := 1) (by decide) ?_
          refine j_goto (pc := 251) (tgt := 255) dL_isSo_251 (by decide) ?_
          refine j_mask [true, true, true, true, true, true, true, true, true, true, true, true, true, false, true, false, false, false, false, false, false, false, false, false, false, false, false, false, false, false] ?_
          exact jm_L_isSo_b255 (hk224 := ih) _ _ _ _ _ _ _ _ _ _ _ _ _ _ _ ws h
def m_L_isSo_b219 (a0 : Nat) (a1 : Nat) (a2 : Nat) (a3 : Nat) (a4 : Nat) (a5 : Nat) (a6 : Nat) (a7 : Nat) (a8 : Nat) (i9 : Int32) (i10 : Int32) (i11 : Int32) (i12 : Int32) (s0 : Int32) (ws : LWd) : Option (Int32 × LWd) :=
  m_L_isSo_l224 FU a0 a1 a2 a3 a4 a5 a6 a7 a8 i9 i10 i11 i12 s0 0 ws
set_option maxRecDepth 100000 in
set_option maxHeartbeats 4000000 in
theorem jm_L_isSo_b219 {n0 : Nat} {rr : Int32} {ws' : LWd} (a0 : Nat) (a1 : Nat) (a2 : Nat) (a3 : Nat) (a4 : Nat) (a5 : Nat) (a6 : Nat) (a7 : Nat) (a8 : Nat) (i9 : Int32) (i10 : Int32) (i11 : Int32) (i12 : Int32) (s0 : Int32) (ws : LWd) (h : m_L_isSo_b219 a0 a1 a2 a3 a4 a5 a6 a7 a8 i9 i10 i11 i12 s0 ws = some (rr, ws')) : JG (.inr none) cL_isSo 30 RL wsL_isSo (some .boolean) "isSo" 11 2 12 n0 (.inl (some (.int rr)), ws') 219 [some (.ref a0), some (.ref a1), some (.ref a2), some (.ref a3), some (.ref a4), some (.ref a5), some (.ref a6), some (.ref a7), some (.ref a8), some (.int i9), some (.int i10), some (.int i11), some (.int i12), none, none, none, none, none, none, none, none, none, none, none, none, none, none, none, none, none] [.int s0] ws 0 0 := by
  unfold m_L_isSo_b219 at h
  refine j_istore_13 (pc := 219) dL_isSo_219 (by decide) rfl ?_
  refine j_iconst (pc := 221) dL_isSo_221 (v := 0) (by decide) ?_
  refine j_istore_14 (pc := 222) dL_isSo_222 (by decide) rfl ?_
  exact jm_L_isSo_l224 FU _ _ _ _ _ _ _ _ _ _ _ _ _ _ _ ws h
def m_L_isSo_b218 (a0 : Nat) (a1 : Nat) (a2 : Nat) (a3 : Nat) (a4 : Nat) (a5 : Nat) (a6 : Nat) (a7 : Nat) (a8 : Nat) (i9 : Int32) (i10 : Int32) (i11 : Int32) (i12 : Int32) (ws : LWd) : Option (Int32 × LWd) :=
  m_L_isSo_b219 a0 a1 a2 a3 a4 a5 a6 a7 a8 i9 i10 i11 i12 0 ws
set_option maxRecDepth 100000 in
set_option maxHeartbeats 4000000 in
theorem jm_L_isSo_b218 {n0 : Nat} {rr : Int32} {ws' : LWd} (a0 : Nat) (a1 : Nat) (a2 : Nat) (a3 : Nat) (a4 : Nat) (a5 : Nat) (a6 : Nat) (a7 : Nat) (a8 : Nat) (i9 : Int32) (i10 : Int32) (i11 : Int32) (i12 : Int32) (ws : LWd) (h : m_L_isSo_b218 a0 a1 a2 a3 a4 a5 a6 a7 a8 i9 i10 i11 i12 ws = some (rr, ws')) : JG (.inr none) cL_isSo 30 RL wsL_isSo (some .boolean) "isSo" 11 2 12 n0 (.inl (some (.int rr)), ws') 218 [some (.ref a0), some (.ref a1), some (.ref a2), some (.ref a3), some (.ref a4), some (.ref a5), some (.ref a6), some (.ref a7), some (.ref a8), some (.int i9), some (.int i10), some (.int i11), some (.int i12), none, none, none, none, none, none, none, none, none, none, none, none, none, none, none, none, none] [] ws 0 0 := by
  unfold m_L_isSo_b218 at h
  refine j_iconst (pc := 218) dL_isSo_218 (v := 0) (by decide) ?_
  exact jm_L_isSo_b219 _ _ _ _ _ _ _ _ _ _ _ _ _ _ ws h
def m_L_isSo_b193 (a0 : Nat) (a1 : Nat) (a2 : Nat) (a3 : Nat) (a4 : Nat) (a5 : Nat) (a6 : Nat) (a7 : Nat) (a8 : Nat) (i9 : Int32) (i10 : Int32) (i11 : Int32) (i12 : Int32) (s0 : Int32) (s1 : Int32) (ws : LWd) : Option (Int32 × LWd) :=
  if s0 = s1 then
    bn2 (calSR ws (m_X10_isStable a0 ws)) fun x4 w2 =>
    if x4 = i12 then
      bn2 (calSR w2 (m_X10_isStableAnew a0 w2)) fun x8 w6 =>
      if x8 = i12 then
        m_L_isSo_b219 a0 a1 a2 a3 a4 a5 a6 a7 a8 i9 i10 i11 i12 1 w6
      else
        m_L_isSo_b218 a0 a1 a2 a3 a4 a5 a6 a7 a8 i9 i10 i11 i12 w6
    else
      m_L_isSo_b218 a0 a1 a2 a3 a4 a5 a6 a7 a8 i9 i10 i11 i12 w2
  else
    m_L_isSo_b218 a0 a1 a2 a3 a4 a5 a6 a7 a8 i9 i10 i11 i12 ws
set_option maxRecDepth 100000 in
set_option maxHeartbeats 4000000 in
theorem jm_L_isSo_b193 {n0 : Nat} {rr : Int32} {ws' : LWd} (a0 : Nat) (a1 : Nat) (a2 : Nat) (a3 : Nat) (a4 : Nat) (a5 : Nat) (a6 : Nat) (a7 : Nat) (a8 : Nat) (i9 : Int32) (i10 : Int32) (i11 : Int32) (i12 : Int32) (s0 : Int32) (s1 : Int32) (ws : LWd) (h : m_L_isSo_b193 a0 a1 a2 a3 a4 a5 a6 a7 a8 i9 i10 i11 i12 s0 s1 ws = some (rr, ws')) : JG (.inr none) cL_isSo 30 RL wsL_isSo (some .boolean) "isSo" 11 2 12 n0 (.inl (some (.int rr)), ws') 193 [some (.ref a0), some (.ref a1), some (.ref a2), some (.ref a3), some (.ref a4), some (.ref a5), some (.ref a6), some (.ref a7), some (.ref a8), some (.int i9), some (.int i10), some (.int i11), some (.int i12), none, none, none, none, none, none, none, none, none, none, none, none, none, none, none, none, none] [.int s1, .int s0] ws 0 0 := by
  unfold m_L_isSo_b193 at h
  refine j_icmp_ne (pc := 193) (tgt := 218) dL_isSo_193 (by decide) (fun c1 => ?_) (fun c1 => ?_)
  · rw [if_neg c1] at h
    exact jm_L_isSo_b218 _ _ _ _ _ _ _ _ _ _ _ _ _ ws h
  · rw [if_pos c1] at h
    refine j_aload_n (pc := 196) dL_isSo_196 rfl ?_
    obtain ⟨x4, w2, e3, h⟩ := obS2 h
    have ge3 := calSR_of e3
    refine j_callV_g (pc := 197) (As := []) (k' := 0) (n' := 0) dL_isSo_197 (s_X10_isStable ge3.1) (jgV lw_687 lw_688 lw_689 lw_147 lw_686) rfl hv_X10_isStable rfl (r_X10_isStable ge3.1) rfl (by decide) (by decide) (Nat.le_of_ble_eq_true rfl) (by decide) (by decide) (by decide) (by decide) (Or.inl ge3.2) ?_
    refine j_iload (pc := 200) dL_isSo_200 rfl ?_
    refine j_icmp_ne (pc := 202) (tgt := 218) dL_isSo_202 (by decide) (fun c5 => ?_) (fun c5 => ?_)
    · rw [if_neg c5] at h
      exact jm_L_isSo_b218 _ _ _ _ _ _ _ _ _ _ _ _ _ w2 h
    · rw [if_pos c5] at h
      refine j_aload_n (pc := 205) dL_isSo_205 rfl ?_
      obtain ⟨x8, w6, e7, h⟩ := obS2 h
      have ge7 := calSR_of e7
      refine j_callV_g (pc := 206) (As := []) (k' := 0) (n' := 0) dL_isSo_206 (s_X10_isStableAnew ge7.1) (jgV lw_691 lw_692 lw_693 lw_147 lw_690) rfl hv_X10_isStableAnew rfl (r_X10_isStableAnew ge7.1) rfl (by decide) (by decide) (Nat.le_of_ble_eq_true rfl) (by decide) (by decide) (by decide) (by decide) (Or.inl ge7.2) ?_
      refine j_iload (pc := 209) dL_isSo_209 rfl ?_
      refine j_icmp_ne (pc := 211) (tgt := 218) dL_isSo_211 (by decide) (fun c9 => ?_) (fun c9 => ?_)
      · rw [if_neg c9] at h
        exact jm_L_isSo_b218 _ _ _ _ _ _ _ _ _ _ _ _ _ w6 h
      · rw [if_pos c9] at h
        refine j_iconst (pc := 214) dL_isSo_214 (v := 1) (by decide) ?_
        refine j_goto (pc := 215) (tgt := 219) dL_isSo_215 (by decide) ?_
        exact jm_L_isSo_b219 _ _ _ _ _ _ _ _ _ _ _ _ _ _ w6 h
def m_L_isSo (a0 : Nat) (a1 : Nat) (a2 : Nat) (a3 : Nat) (a4 : Nat) (a5 : Nat) (a6 : Nat) (a7 : Nat) (a8 : Nat) (i9 : Int32) (i10 : Int32) (ws : LWd) : Option (Int32 × LWd) :=
  (aI ws a8 8).bind fun x1 =>
  bn2 (calSR ws (m_L_holds a5 a6 a8 x1 ws)) fun x5 w3 =>
  bn2 (calSR w3 (nthr (m_X10_machine a0 0 w3))) fun x8 w6 =>
  (aI w6 a8 1).bind fun x9 =>
  if x8 = x9 then
    bn2 (calSR w6 (nthr (m_X10_machine a0 1 w6))) fun x14 w12 =>
    (aI w12 a8 2).bind fun x15 =>
    if x14 = x15 then
      bn2 (calSR w12 (nthr (m_X10_machine a0 2 w12))) fun x20 w18 =>
      (aI w18 a8 0).bind fun x21 =>
      if x20 = x21 then
        bn2 (calSR w18 (nthr (m_X10_machine a0 3 w18))) fun x26 w24 =>
        (aI w24 a8 3).bind fun x27 =>
        if x26 = x27 then
          bn2 (calSR w24 (nthr (m_X10_machine a0 4 w24))) fun x32 w30 =>
          (aI w30 a8 4).bind fun x33 =>
          if x32 = x33 then
            bn2 (calSR w30 (nthr (m_X10_machine a0 5 w30))) fun x38 w36 =>
            bn2 (calSR w36 (m_L_level a1 a5 a6 x1 w36)) fun x41 w39 =>
            if x38 = x41 then
              bn2 (calSR w39 (nthr (m_X10_machine a0 6 w39))) fun x45 w43 =>
              bn2 (calSR w43 (m_L_pressure a8 x1 w43)) fun x48 w46 =>
              if x45 = x48 then
                bn2 (calSR w46 (nthr (m_X10_machine a0 7 w46))) fun x52 w50 =>
                bn2 (calSR w50 (m_L_many x1 w50)) fun x55 w53 =>
                if x52 = x55 then
                  bn2 (calSR w53 (nthr (m_X10_machine a0 8 w53))) fun x59 w57 =>
                  (aI w57 a8 9).bind fun x60 =>
                  if x59 = x60 then
                    bn2 (calSR w57 (nthr (m_X10_machine a0 9 w57))) fun x65 w63 =>
                    (aI w63 a8 11).bind fun x66 =>
                    if x65 = x66 then
                      bn2 (calSR w63 (nthr (m_X10_machine a0 10 w63))) fun x71 w69 =>
                      (aI w69 a8 7).bind fun x72 =>
                      if x71 = x72 then
                        bn2 (calSR w69 (nthr (m_X10_machine a0 11 w69))) fun x77 w75 =>
                        (aI w75 a8 12).bind fun x78 =>
                        if x78 = 0 then
                          m_L_isSo_b193 a0 a1 a2 a3 a4 a5 a6 a7 a8 i9 i10 x1 x5 x77 ((-1)) w75
                        else
                          (aI w75 a8 13).bind fun x81 =>
                          m_L_isSo_b193 a0 a1 a2 a3 a4 a5 a6 a7 a8 i9 i10 x1 x5 x77 x81 w75
                      else
                        m_L_isSo_b218 a0 a1 a2 a3 a4 a5 a6 a7 a8 i9 i10 x1 x5 w69
                    else
                      m_L_isSo_b218 a0 a1 a2 a3 a4 a5 a6 a7 a8 i9 i10 x1 x5 w63
                  else
                    m_L_isSo_b218 a0 a1 a2 a3 a4 a5 a6 a7 a8 i9 i10 x1 x5 w57
                else
                  m_L_isSo_b218 a0 a1 a2 a3 a4 a5 a6 a7 a8 i9 i10 x1 x5 w53
              else
                m_L_isSo_b218 a0 a1 a2 a3 a4 a5 a6 a7 a8 i9 i10 x1 x5 w46
            else
              m_L_isSo_b218 a0 a1 a2 a3 a4 a5 a6 a7 a8 i9 i10 x1 x5 w39
          else
            m_L_isSo_b218 a0 a1 a2 a3 a4 a5 a6 a7 a8 i9 i10 x1 x5 w30
        else
          m_L_isSo_b218 a0 a1 a2 a3 a4 a5 a6 a7 a8 i9 i10 x1 x5 w24
      else
        m_L_isSo_b218 a0 a1 a2 a3 a4 a5 a6 a7 a8 i9 i10 x1 x5 w18
    else
      m_L_isSo_b218 a0 a1 a2 a3 a4 a5 a6 a7 a8 i9 i10 x1 x5 w12
  else
    m_L_isSo_b218 a0 a1 a2 a3 a4 a5 a6 a7 a8 i9 i10 x1 x5 w6
set_option maxRecDepth 100000 in
set_option maxHeartbeats 4000000 in
theorem s_L_isSo {a0 : Nat} {a1 : Nat} {a2 : Nat} {a3 : Nat} {a4 : Nat} {a5 : Nat} {a6 : Nat} {a7 : Nat} {a8 : Nat} {i9 : Int32} {i10 : Int32} {ws : LWd} {rr : Int32} {ws' : LWd} (h : m_L_isSo a0 a1 a2 a3 a4 a5 a6 a7 a8 i9 i10 ws = some (rr, ws')) : jSW  none yL_isSo wsL_isSo 11 2 12 [.ref a0, .ref a1, .ref a2, .ref a3, .ref a4, .ref a5, .ref a6, .ref a7, .ref a8, .int i9, .int i10] ws (.inl (some (.int rr)), ws') := by
  unfold m_L_isSo at h
  refine j_entryW (ret := (some .boolean)) (nm := "isSo") (own := RL) pl_L rfl rfl rfl (jcats (by rfl)) (Nat.le_of_ble_eq_true rfl) ?_
  show JG (.inr none) cL_isSo 30 RL wsL_isSo (some .boolean) "isSo" 11 2 12 ws.length (.inl (some (.int rr)), ws') 0 [some (.ref a0), some (.ref a1), some (.ref a2), some (.ref a3), some (.ref a4), some (.ref a5), some (.ref a6), some (.ref a7), some (.ref a8), some (.int i9), some (.int i10), none, none, none, none, none, none, none, none, none, none, none, none, none, none, none, none, none, none, none] [] ws 0 0
  refine j_aload (pc := 0) dL_isSo_0 rfl ?_
  refine j_bipush (pc := 2) dL_isSo_2 (v := 8) (by decide) ?_
  obtain ⟨x1, e2, h⟩ := obS h
  refine j_iald (pc := 4) dL_isSo_4 e2 ?_
  refine j_istore_11 (pc := 5) dL_isSo_5 (by decide) rfl ?_
  refine j_aload (pc := 7) dL_isSo_7 rfl ?_
  refine j_aload (pc := 9) dL_isSo_9 rfl ?_
  refine j_aload (pc := 11) dL_isSo_11 rfl ?_
  refine j_iload (pc := 13) dL_isSo_13 rfl ?_
  obtain ⟨x5, w3, e4, h⟩ := obS2 h
  have ge4 := calSR_of e4
  refine j_callS_g (pc := 15) (As := [.ref a5, .ref a6, .ref a8, .int x1]) (k' := 0) (n' := 0) dL_isSo_15 (s_L_holds ge4.1) (jgS lw_623 lw_624 lw_597 lw_622) rfl hy_L_holds rfl (by decide) (by decide) (Nat.le_of_ble_eq_true rfl) (by decide) (by decide) (by decide) (by decide) (Or.inl ge4.2) ?_
  refine j_istore_12 (pc := 18) dL_isSo_18 (by decide) rfl ?_
  refine j_aload_n (pc := 20) dL_isSo_20 rfl ?_
  refine j_iconst (pc := 21) dL_isSo_21 (v := 0) (by decide) ?_
  obtain ⟨x8, w6, e7, h⟩ := obS2 h
  have ge7 := calSR_of e7
  refine j_callV_g (pc := 22) (As := [.int 0]) (k' := 0) (n' := 0) dL_isSo_22 (sn_X10_machine (nthr_of ge7.1)) (jgV lw_695 lw_696 lw_697 lw_147 lw_694) rfl hv_X10_machine rfl (r_X10_machine (nthr_of ge7.1)) rfl (by decide) (by decide) (Nat.le_of_ble_eq_true rfl) (by decide) (by decide) (by decide) (by decide) (Or.inl ge7.2) ?_
  refine j_aload (pc := 25) dL_isSo_25 rfl ?_
  refine j_iconst (pc := 27) dL_isSo_27 (v := 1) (by decide) ?_
  obtain ⟨x9, e10, h⟩ := obS h
  refine j_iald (pc := 28) dL_isSo_28 e10 ?_
  refine j_icmp_ne (pc := 29) (tgt := 218) dL_isSo_29 (by decide) (fun c11 => ?_) (fun c11 => ?_)
  · rw [if_neg c11] at h
    exact jm_L_isSo_b218 _ _ _ _ _ _ _ _ _ _ _ _ _ w6 h
  · rw [if_pos c11] at h
    refine j_aload_n (pc := 32) dL_isSo_32 rfl ?_
    refine j_iconst (pc := 33) dL_isSo_33 (v := 1) (by decide) ?_
    obtain ⟨x14, w12, e13, h⟩ := obS2 h
    have ge13 := calSR_of e13
    refine j_callV_g (pc := 34) (As := [.int 1]) (k' := 0) (n' := 0) dL_isSo_34 (sn_X10_machine (nthr_of ge13.1)) (jgV lw_695 lw_696 lw_697 lw_147 lw_694) rfl hv_X10_machine rfl (r_X10_machine (nthr_of ge13.1)) rfl (by decide) (by decide) (Nat.le_of_ble_eq_true rfl) (by decide) (by decide) (by decide) (by decide) (Or.inl ge13.2) ?_
    refine j_aload (pc := 37) dL_isSo_37 rfl ?_
    refine j_iconst (pc := 39) dL_isSo_39 (v := 2) (by decide) ?_
    obtain ⟨x15, e16, h⟩ := obS h
    refine j_iald (pc := 40) dL_isSo_40 e16 ?_
    refine j_icmp_ne (pc := 41) (tgt := 218) dL_isSo_41 (by decide) (fun c17 => ?_) (fun c17 => ?_)
    · rw [if_neg c17] at h
      exact jm_L_isSo_b218 _ _ _ _ _ _ _ _ _ _ _ _ _ w12 h
    · rw [if_pos c17] at h
      refine j_aload_n (pc := 44) dL_isSo_44 rfl ?_
      refine j_iconst (pc := 45) dL_isSo_45 (v := 2) (by decide) ?_
      obtain ⟨x20, w18, e19, h⟩ := obS2 h
      have ge19 := calSR_of e19
      refine j_callV_g (pc := 46) (As := [.int 2]) (k' := 0) (n' := 0) dL_isSo_46 (sn_X10_machine (nthr_of ge19.1)) (jgV lw_695 lw_696 lw_697 lw_147 lw_694) rfl hv_X10_machine rfl (r_X10_machine (nthr_of ge19.1)) rfl (by decide) (by decide) (Nat.le_of_ble_eq_true rfl) (by decide) (by decide) (by decide) (by decide) (Or.inl ge19.2) ?_
      refine j_aload (pc := 49) dL_isSo_49 rfl ?_
      refine j_iconst (pc := 51) dL_isSo_51 (v := 0) (by decide) ?_
      obtain ⟨x21, e22, h⟩ := obS h
      refine j_iald (pc := 52) dL_isSo_52 e22 ?_
      refine j_icmp_ne (pc := 53) (tgt := 218) dL_isSo_53 (by decide) (fun c23 => ?_) (fun c23 => ?_)
      · rw [if_neg c23] at h
        exact jm_L_isSo_b218 _ _ _ _ _ _ _ _ _ _ _ _ _ w18 h
      · rw [if_pos c23] at h
        refine j_aload_n (pc := 56) dL_isSo_56 rfl ?_
        refine j_iconst (pc := 57) dL_isSo_57 (v := 3) (by decide) ?_
        obtain ⟨x26, w24, e25, h⟩ := obS2 h
        have ge25 := calSR_of e25
        refine j_callV_g (pc := 58) (As := [.int 3]) (k' := 0) (n' := 0) dL_isSo_58 (sn_X10_machine (nthr_of ge25.1)) (jgV lw_695 lw_696 lw_697 lw_147 lw_694) rfl hv_X10_machine rfl (r_X10_machine (nthr_of ge25.1)) rfl (by decide) (by decide) (Nat.le_of_ble_eq_true rfl) (by decide) (by decide) (by decide) (by decide) (Or.inl ge25.2) ?_
        refine j_aload (pc := 61) dL_isSo_61 rfl ?_
        refine j_iconst (pc := 63) dL_isSo_63 (v := 3) (by decide) ?_
        obtain ⟨x27, e28, h⟩ := obS h
        refine j_iald (pc := 64) dL_isSo_64 e28 ?_
        refine j_icmp_ne (pc := 65) (tgt := 218) dL_isSo_65 (by decide) (fun c29 => ?_) (fun c29 => ?_)
        · rw [if_neg c29] at h
          exact jm_L_isSo_b218 _ _ _ _ _ _ _ _ _ _ _ _ _ w24 h
        · rw [if_pos c29] at h
          refine j_aload_n (pc := 68) dL_isSo_68 rfl ?_
          refine j_iconst (pc := 69) dL_isSo_69 (v := 4) (by decide) ?_
          obtain ⟨x32, w30, e31, h⟩ := obS2 h
          have ge31 := calSR_of e31
          refine j_callV_g (pc := 70) (As := [.int 4]) (k' := 0) (n' := 0) dL_isSo_70 (sn_X10_machine (nthr_of ge31.1)) (jgV lw_695 lw_696 lw_697 lw_147 lw_694) rfl hv_X10_machine rfl (r_X10_machine (nthr_of ge31.1)) rfl (by decide) (by decide) (Nat.le_of_ble_eq_true rfl) (by decide) (by decide) (by decide) (by decide) (Or.inl ge31.2) ?_
          refine j_aload (pc := 73) dL_isSo_73 rfl ?_
          refine j_iconst (pc := 75) dL_isSo_75 (v := 4) (by decide) ?_
          obtain ⟨x33, e34, h⟩ := obS h
          refine j_iald (pc := 76) dL_isSo_76 e34 ?_
          refine j_icmp_ne (pc := 77) (tgt := 218) dL_isSo_77 (by decide) (fun c35 => ?_) (fun c35 => ?_)
          · rw [if_neg c35] at h
            exact jm_L_isSo_b218 _ _ _ _ _ _ _ _ _ _ _ _ _ w30 h
          · rw [if_pos c35] at h
            refine j_aload_n (pc := 80) dL_isSo_80 rfl ?_
            refine j_iconst (pc := 81) dL_isSo_81 (v := 5) (by decide) ?_
            obtain ⟨x38, w36, e37, h⟩ := obS2 h
            have ge37 := calSR_of e37
            refine j_callV_g (pc := 82) (As := [.int 5]) (k' := 0) (n' := 0) dL_isSo_82 (sn_X10_machine (nthr_of ge37.1)) (jgV lw_695 lw_696 lw_697 lw_147 lw_694) rfl hv_X10_machine rfl (r_X10_machine (nthr_of ge37.1)) rfl (by decide) (by decide) (Nat.le_of_ble_eq_true rfl) (by decide) (by decide) (by decide) (by decide) (Or.inl ge37.2) ?_
            refine j_aload_n (pc := 85) dL_isSo_85 rfl ?_
            refine j_aload (pc := 86) dL_isSo_86 rfl ?_
            refine j_aload (pc := 88) dL_isSo_88 rfl ?_
            refine j_iload (pc := 90) dL_isSo_90 rfl ?_
            obtain ⟨x41, w39, e40, h⟩ := obS2 h
            have ge40 := calSR_of e40
            refine j_callS_g (pc := 92) (As := [.ref a1, .ref a5, .ref a6, .int x1]) (k' := 0) (n' := 0) dL_isSo_92 (s_L_level ge40.1) (jgS lw_638 lw_639 lw_597 lw_637) rfl hy_L_level rfl (by decide) (by decide) (Nat.le_of_ble_eq_true rfl) (by decide) (by decide) (by decide) (by decide) (Or.inl ge40.2) ?_
            refine j_icmp_ne (pc := 95) (tgt := 218) dL_isSo_95 (by decide) (fun c42 => ?_) (fun c42 => ?_)
            · rw [if_neg c42] at h
              exact jm_L_isSo_b218 _ _ _ _ _ _ _ _ _ _ _ _ _ w39 h
            · rw [if_pos c42] at h
              refine j_aload_n (pc := 98) dL_isSo_98 rfl ?_
              refine j_bipush (pc := 99) dL_isSo_99 (v := 6) (by decide) ?_
              obtain ⟨x45, w43, e44, h⟩ := obS2 h
              have ge44 := calSR_of e44
              refine j_callV_g (pc := 101) (As := [.int 6]) (k' := 0) (n' := 0) dL_isSo_101 (sn_X10_machine (nthr_of ge44.1)) (jgV lw_695 lw_696 lw_697 lw_147 lw_694) rfl hv_X10_machine rfl (r_X10_machine (nthr_of ge44.1)) rfl (by decide) (by decide) (Nat.le_of_ble_eq_true rfl) (by decide) (by decide) (by decide) (by decide) (Or.inl ge44.2) ?_
              refine j_aload (pc := 104) dL_isSo_104 rfl ?_
              refine j_iload (pc := 106) dL_isSo_106 rfl ?_
              obtain ⟨x48, w46, e47, h⟩ := obS2 h
              have ge47 := calSR_of e47
              refine j_callS_g (pc := 108) (As := [.ref a8, .int x1]) (k' := 0) (n' := 0) dL_isSo_108 (s_L_pressure ge47.1) (jgS lw_611 lw_612 lw_597 lw_610) rfl hy_L_pressure rfl (by decide) (by decide) (Nat.le_of_ble_eq_true rfl) (by decide) (by decide) (by decide) (by decide) (Or.inl ge47.2) ?_
              refine j_icmp_ne (pc := 111) (tgt := 218) dL_isSo_111 (by decide) (fun c49 => ?_) (fun c49 => ?_)
              · rw [if_neg c49] at h
                exact jm_L_isSo_b218 _ _ _ _ _ _ _ _ _ _ _ _ _ w46 h
              · rw [if_pos c49] at h
                refine j_aload_n (pc := 114) dL_isSo_114 rfl ?_
                refine j_bipush (pc := 115) dL_isSo_115 (v := 7) (by decide) ?_
                obtain ⟨x52, w50, e51, h⟩ := obS2 h
                have ge51 := calSR_of e51
                refine j_callV_g (pc := 117) (As := [.int 7]) (k' := 0) (n' := 0) dL_isSo_117 (sn_X10_machine (nthr_of ge51.1)) (jgV lw_695 lw_696 lw_697 lw_147 lw_694) rfl hv_X10_machine rfl (r_X10_machine (nthr_of ge51.1)) rfl (by decide) (by decide) (Nat.le_of_ble_eq_true rfl) (by decide) (by decide) (by decide) (by decide) (Or.inl ge51.2) ?_
                refine j_iload (pc := 120) dL_isSo_120 rfl ?_
                obtain ⟨x55, w53, e54, h⟩ := obS2 h
                have ge54 := calSR_of e54
                refine j_callS_g (pc := 122) (As := [.int x1]) (k' := 0) (n' := 0) dL_isSo_122 (s_L_many ge54.1) (jgS lw_602 lw_603 lw_597 lw_601) rfl hy_L_many rfl (by decide) (by decide) (Nat.le_of_ble_eq_true rfl) (by decide) (by decide) (by decide) (by decide) (Or.inl ge54.2) ?_
                refine j_icmp_ne (pc := 125) (tgt := 218) dL_isSo_125 (by decide) (fun c56 => ?_) (fun c56 => ?_)
                · rw [if_neg c56] at h
                  exact jm_L_isSo_b218 _ _ _ _ _ _ _ _ _ _ _ _ _ w53 h
                · rw [if_pos c56] at h
                  refine j_aload_n (pc := 128) dL_isSo_128 rfl ?_
                  refine j_bipush (pc := 129) dL_isSo_129 (v := 8) (by decide) ?_
                  obtain ⟨x59, w57, e58, h⟩ := obS2 h
                  have ge58 := calSR_of e58
                  refine j_callV_g (pc := 131) (As := [.int 8]) (k' := 0) (n' := 0) dL_isSo_131 (sn_X10_machine (nthr_of ge58.1)) (jgV lw_695 lw_696 lw_697 lw_147 lw_694) rfl hv_X10_machine rfl (r_X10_machine (nthr_of ge58.1)) rfl (by decide) (by decide) (Nat.le_of_ble_eq_true rfl) (by decide) (by decide) (by decide) (by decide) (Or.inl ge58.2) ?_
                  refine j_aload (pc := 134) dL_isSo_134 rfl ?_
                  refine j_bipush (pc := 136) dL_isSo_136 (v := 9) (by decide) ?_
                  obtain ⟨x60, e61, h⟩ := obS h
                  refine j_iald (pc := 138) dL_isSo_138 e61 ?_
                  refine j_icmp_ne (pc := 139) (tgt := 218) dL_isSo_139 (by decide) (fun c62 => ?_) (fun c62 => ?_)
                  · rw [if_neg c62] at h
                    exact jm_L_isSo_b218 _ _ _ _ _ _ _ _ _ _ _ _ _ w57 h
                  · rw [if_pos c62] at h
                    refine j_aload_n (pc := 142) dL_isSo_142 rfl ?_
                    refine j_bipush (pc := 143) dL_isSo_143 (v := 9) (by decide) ?_
                    obtain ⟨x65, w63, e64, h⟩ := obS2 h
                    have ge64 := calSR_of e64
                    refine j_callV_g (pc := 145) (As := [.int 9]) (k' := 0) (n' := 0) dL_isSo_145 (sn_X10_machine (nthr_of ge64.1)) (jgV lw_695 lw_696 lw_697 lw_147 lw_694) rfl hv_X10_machine rfl (r_X10_machine (nthr_of ge64.1)) rfl (by decide) (by decide) (Nat.le_of_ble_eq_true rfl) (by decide) (by decide) (by decide) (by decide) (Or.inl ge64.2) ?_
                    refine j_aload (pc := 148) dL_isSo_148 rfl ?_
                    refine j_bipush (pc := 150) dL_isSo_150 (v := 11) (by decide) ?_
                    obtain ⟨x66, e67, h⟩ := obS h
                    refine j_iald (pc := 152) dL_isSo_152 e67 ?_
                    refine j_icmp_ne (pc := 153) (tgt := 218) dL_isSo_153 (by decide) (fun c68 => ?_) (fun c68 => ?_)
                    · rw [if_neg c68] at h
                      exact jm_L_isSo_b218 _ _ _ _ _ _ _ _ _ _ _ _ _ w63 h
                    · rw [if_pos c68] at h
                      refine j_aload_n (pc := 156) dL_isSo_156 rfl ?_
                      refine j_bipush (pc := 157) dL_isSo_157 (v := 10) (by decide) ?_
                      obtain ⟨x71, w69, e70, h⟩ := obS2 h
                      have ge70 := calSR_of e70
                      refine j_callV_g (pc := 159) (As := [.int 10]) (k' := 0) (n' := 0) dL_isSo_159 (sn_X10_machine (nthr_of ge70.1)) (jgV lw_695 lw_696 lw_697 lw_147 lw_694) rfl hv_X10_machine rfl (r_X10_machine (nthr_of ge70.1)) rfl (by decide) (by decide) (Nat.le_of_ble_eq_true rfl) (by decide) (by decide) (by decide) (by decide) (Or.inl ge70.2) ?_
                      refine j_aload (pc := 162) dL_isSo_162 rfl ?_
                      refine j_bipush (pc := 164) dL_isSo_164 (v := 7) (by decide) ?_
                      obtain ⟨x72, e73, h⟩ := obS h
                      refine j_iald (pc := 166) dL_isSo_166 e73 ?_
                      refine j_icmp_ne (pc := 167) (tgt := 218) dL_isSo_167 (by decide) (fun c74 => ?_) (fun c74 => ?_)
                      · rw [if_neg c74] at h
                        exact jm_L_isSo_b218 _ _ _ _ _ _ _ _ _ _ _ _ _ w69 h
                      · rw [if_pos c74] at h
                        refine j_aload_n (pc := 170) dL_isSo_170 rfl ?_
                        refine j_bipush (pc := 171) dL_isSo_171 (v := 11) (by decide) ?_
                        obtain ⟨x77, w75, e76, h⟩ := obS2 h
                        have ge76 := calSR_of e76
                        refine j_callV_g (pc := 173) (As := [.int 11]) (k' := 0) (n' := 0) dL_isSo_173 (sn_X10_machine (nthr_of ge76.1)) (jgV lw_695 lw_696 lw_697 lw_147 lw_694) rfl hv_X10_machine rfl (r_X10_machine (nthr_of ge76.1)) rfl (by decide) (by decide) (Nat.le_of_ble_eq_true rfl) (by decide) (by decide) (by decide) (by decide) (Or.inl ge76.2) ?_
                        refine j_aload (pc := 176) dL_isSo_176 rfl ?_
                        refine j_bipush (pc := 178) dL_isSo_178 (v := 12) (by decide) ?_
                        obtain ⟨x78, e79, h⟩ := obS h
                        refine j_iald (pc := 180) dL_isSo_180 e79 ?_
                        refine j_if_ne (pc := 181) (tgt := 188) dL_isSo_181 (by decide) (fun c80 => ?_) (fun c80 => ?_)
                        · rw [if_neg c80] at h
                          refine j_aload (pc := 188) dL_isSo_188 rfl ?_
                          refine j_bipush (pc := 190) dL_isSo_190 (v := 13) (by decide) ?_
                          obtain ⟨x81, e82, h⟩ := obS h
                          refine j_iald (pc := 192) dL_isSo_192 e82 ?_
                          exact jm_L_isSo_b193 _ _ _ _ _ _ _ _ _ _ _ _ _ _ _ w75 h
                        · rw [if_pos c80] at h
                          refine j_iconst (pc := 184) dL_isSo_184 (v := (-1)) (by decide) ?_
                          refine j_goto (pc := 185) (tgt := 193) dL_isSo_185 (by decide) ?_
                          exact jm_L_isSo_b193 _ _ _ _ _ _ _ _ _ _ _ _ _ _ _ w75 h
