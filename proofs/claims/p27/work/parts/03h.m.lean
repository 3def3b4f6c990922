/-! methods: written by wip/p27/make.py -/
def wsL_comes : List Cond := Cond.code yL_comes cL_comes 17 none :: jW
def m_L_comes_b57 (a5 : Nat) (i9 : Int32) (ws : LWd) : Option LWd :=
  (calSV ws (m_L_breaks a5 1 i9 ws)).bind fun w1 =>
  some w1
set_option maxRecDepth 100000 in
set_option maxHeartbeats 4000000 in
theorem jm_L_comes_b57 {n0 : Nat} {ws' : LWd} (a5 : Nat) (i9 : Int32) (ws : LWd) (h : m_L_comes_b57 a5 i9 ws = some ws') : JG (.inl false) cL_comes 17 RL wsL_comes none "comes" 2 0 0 n0 (.inl none, ws') 57 [none, none, none, none, none, some (.ref a5), none, none, none, some (.int i9), none, none, none, none, none, none, none] [] ws 0 0 := by
  unfold m_L_comes_b57 at h
  refine j_aload (pc := 57) dL_comes_57 rfl ?_
  refine j_iconst (pc := 59) dL_comes_59 (v := 1) (by decide) ?_
  refine j_iload (pc := 60) dL_comes_60 rfl ?_
  obtain ⟨w1, e2, h⟩ := obS h
  have ge2 := calSV_of e2
  refine j_callS_g (pc := 62) (As := [.ref a5, .int 1, .int i9]) (k' := 0) (n' := 0) dL_comes_62 (s_L_breaks ge2.1) (jgS lw_617 lw_618 lw_597 lw_616) rfl hy_L_breaks rfl (by decide) (by decide) (Nat.le_of_ble_eq_true rfl) (by decide) (by decide) (by decide) (by decide) (Or.inl ge2.2) ?_
  cases h
  exact j_vret (pc := 65) rfl dL_comes_65 (by decide) (by decide) rfl
def m_L_comes_b278 (a3 : Nat) (a4 : Nat) (a5 : Nat) (i6 : Int32) (i13 : Int32) (s0 : Int32) (ws : LWd) : Option LWd :=
  if s0 = 0 then
    some ws
  else
    (sI ws a3 i6 (jrem i13 20)).bind fun w2 =>
    (sI w2 a4 i6 (i13 / 20)).bind fun w4 =>
    (aI w4 a5 8).bind fun x6 =>
    (sI w4 a5 8 (x6 ||| (1 <<< (i6 &&& 31)))).bind fun w8 =>
    some w8
set_option maxRecDepth 100000 in
set_option maxHeartbeats 4000000 in
theorem jm_L_comes_b278 {n0 : Nat} {ws' : LWd} (a3 : Nat) (a4 : Nat) (a5 : Nat) (i6 : Int32) (i13 : Int32) (s0 : Int32) (ws : LWd) (h : m_L_comes_b278 a3 a4 a5 i6 i13 s0 ws = some ws') : JG (.inl false) cL_comes 17 RL wsL_comes none "comes" 2 0 0 n0 (.inl none, ws') 278 [none, none, none, some (.ref a3), some (.ref a4), some (.ref a5), some (.int i6), none, none, none, none, none, none, some (.int i13), none, none, none] [.int s0] ws 0 0 := by
  unfold m_L_comes_b278 at h
  refine j_istore_14 (pc := 278) dL_comes_278 (by decide) rfl ?_
  refine j_iload (pc := 280) dL_comes_280 rfl ?_
  refine j_if_eq (pc := 282) (tgt := 316) dL_comes_282 (by decide) (fun c1 => ?_) (fun c1 => ?_)
  · rw [if_pos c1] at h
    cases h
    exact j_vret (pc := 316) rfl dL_comes_316 (by decide) (by decide) rfl
  · rw [if_neg c1] at h
    refine j_aload_n (pc := 285) dL_comes_285 rfl ?_
    refine j_iload (pc := 286) dL_comes_286 rfl ?_
    refine j_iload (pc := 288) dL_comes_288 rfl ?_
    refine j_bipush (pc := 290) dL_comes_290 (v := 20) (by decide) ?_
    refine j_irem (pc := 292) dL_comes_292 (by decide) ?_
    obtain ⟨w2, e3, h⟩ := obS h
    refine j_iast (pc := 293) dL_comes_293 e3 ?_
    refine j_aload (pc := 294) dL_comes_294 rfl ?_
    refine j_iload (pc := 296) dL_comes_296 rfl ?_
    refine j_iload (pc := 298) dL_comes_298 rfl ?_
    refine j_bipush (pc := 300) dL_comes_300 (v := 20) (by decide) ?_
    refine j_idiv (pc := 302) dL_comes_302 (by decide) ?_
    obtain ⟨w4, e5, h⟩ := obS h
    refine j_iast (pc := 303) dL_comes_303 e5 ?_
    refine j_aload (pc := 304) dL_comes_304 rfl ?_
    refine j_bipush (pc := 306) dL_comes_306 (v := 8) (by decide) ?_
    refine j_dup2 (pc := 308) dL_comes_308 rfl rfl ?_
    obtain ⟨x6, e7, h⟩ := obS h
    refine j_iald (pc := 309) dL_comes_309 e7 ?_
    refine j_iconst (pc := 310) dL_comes_310 (v := 1) (by decide) ?_
    refine j_iload (pc := 311) dL_comes_311 rfl ?_
    refine j_ishl (pc := 313) dL_comes_313 ?_
    refine j_ior (pc := 314) dL_comes_314 ?_
    obtain ⟨w8, e9, h⟩ := obS h
    refine j_iast (pc := 315) dL_comes_315 e9 ?_
    cases h
    exact j_vret (pc := 316) rfl dL_comes_316 (by decide) (by decide) rfl
def m_L_comes_b273 (a3 : Nat) (a4 : Nat) (a5 : Nat) (i6 : Int32) (i13 : Int32) (ws : LWd) : Option LWd :=
  m_L_comes_b278 a3 a4 a5 i6 i13 1 ws
set_option maxRecDepth 100000 in
set_option maxHeartbeats 4000000 in
theorem jm_L_comes_b273 {n0 : Nat} {ws' : LWd} (a3 : Nat) (a4 : Nat) (a5 : Nat) (i6 : Int32) (i13 : Int32) (ws : LWd) (h : m_L_comes_b273 a3 a4 a5 i6 i13 ws = some ws') : JG (.inl false) cL_comes 17 RL wsL_comes none "comes" 2 0 0 n0 (.inl none, ws') 273 [none, none, none, some (.ref a3), some (.ref a4), some (.ref a5), some (.int i6), none, none, none, none, none, none, some (.int i13), none, none, none] [] ws 0 0 := by
  unfold m_L_comes_b273 at h
  refine j_iconst (pc := 273) dL_comes_273 (v := 1) (by decide) ?_
  refine j_goto (pc := 274) (tgt := 278) dL_comes_274 (by decide) ?_
  exact jm_L_comes_b278 _ _ _ _ _ _ ws h
def m_L_comes_b277 (a3 : Nat) (a4 : Nat) (a5 : Nat) (i6 : Int32) (i13 : Int32) (ws : LWd) : Option LWd :=
  m_L_comes_b278 a3 a4 a5 i6 i13 0 ws
set_option maxRecDepth 100000 in
set_option maxHeartbeats 4000000 in
theorem jm_L_comes_b277 {n0 : Nat} {ws' : LWd} (a3 : Nat) (a4 : Nat) (a5 : Nat) (i6 : Int32) (i13 : Int32) (ws : LWd) (h : m_L_comes_b277 a3 a4 a5 i6 i13 ws = some ws') : JG (.inl false) cL_comes 17 RL wsL_comes none "comes" 2 0 0 n0 (.inl none, ws') 277 [none, none, none, some (.ref a3), some (.ref a4), some (.ref a5), some (.int i6), none, none, none, none, none, none, some (.int i13), none, none, none] [] ws 0 0 := by
  unfold m_L_comes_b277 at h
  refine j_iconst (pc := 277) dL_comes_277 (v := 0) (by decide) ?_
  exact jm_L_comes_b278 _ _ _ _ _ _ ws h
def m_L_comes_b223 (a2 : Nat) (a3 : Nat) (a4 : Nat) (a5 : Nat) (i6 : Int32) (i12 : Int32) (i13 : Int32) (ws : LWd) : Option LWd :=
  if i12 < 0 then
    m_L_comes_b273 a3 a4 a5 i6 i13 ws
  else
    bn2 (calSR ws (m_L_isNear a2 a5 i6 (jrem i12 20) (i12 / 20) ws)) fun x4 w2 =>
    if x4 = 0 then
      m_L_comes_b277 a3 a4 a5 i6 i13 w2
    else
      (aI w2 a5 8).bind fun x6 =>
      bn2 (calSR w2 (m_L_isTaken a3 a4 x6 (jrem i12 20) (i12 / 20) w2)) fun x10 w8 =>
      if x10 = 0 then
        m_L_comes_b273 a3 a4 a5 i6 i13 w8
      else
        m_L_comes_b277 a3 a4 a5 i6 i13 w8
set_option maxRecDepth 100000 in
set_option maxHeartbeats 4000000 in
theorem jm_L_comes_b223 {n0 : Nat} {ws' : LWd} (a2 : Nat) (a3 : Nat) (a4 : Nat) (a5 : Nat) (i6 : Int32) (i12 : Int32) (i13 : Int32) (ws : LWd) (h : m_L_comes_b223 a2 a3 a4 a5 i6 i12 i13 ws = some ws') : JG (.inl false) cL_comes 17 RL wsL_comes none "comes" 2 0 0 n0 (.inl none, ws') 223 [none, none, some (.ref a2), some (.ref a3), some (.ref a4), some (.ref a5), some (.int i6), none, none, none, none, none, some (.int i12), some (.int i13), none, none, none] [] ws 0 0 := by
  unfold m_L_comes_b223 at h
  refine j_iload (pc := 223) dL_comes_223 rfl ?_
  refine j_if_lt (pc := 225) (tgt := 273) dL_comes_225 (by decide) (fun c1 => ?_) (fun c1 => ?_)
  · rw [if_pos c1] at h
    refine j_mask [false, false, false, true, true, true, true, false, false, false, false, false, false, true, false, false, false] ?_
    exact jm_L_comes_b273 _ _ _ _ _ ws h
  · rw [if_neg c1] at h
    refine j_aload_n (pc := 228) dL_comes_228 rfl ?_
    refine j_aload (pc := 229) dL_comes_229 rfl ?_
    refine j_iload (pc := 231) dL_comes_231 rfl ?_
    refine j_iload (pc := 233) dL_comes_233 rfl ?_
    refine j_bipush (pc := 235) dL_comes_235 (v := 20) (by decide) ?_
    refine j_irem (pc := 237) dL_comes_237 (by decide) ?_
    refine j_iload (pc := 238) dL_comes_238 rfl ?_
    refine j_bipush (pc := 240) dL_comes_240 (v := 20) (by decide) ?_
    refine j_idiv (pc := 242) dL_comes_242 (by decide) ?_
    obtain ⟨x4, w2, e3, h⟩ := obS2 h
    have ge3 := calSR_of e3
    refine j_callS_g (pc := 243) (As := [.ref a2, .ref a5, .int i6, .int (jrem i12 20), .int (i12 / 20)]) (k' := 0) (n' := 0) dL_comes_243 (s_L_isNear ge3.1) (jgS lw_626 lw_627 lw_597 lw_625) rfl hy_L_isNear rfl (by decide) (by decide) (Nat.le_of_ble_eq_true rfl) (by decide) (by decide) (by decide) (by decide) (Or.inl ge3.2) ?_
    refine j_if_eq (pc := 246) (tgt := 277) dL_comes_246 (by decide) (fun c5 => ?_) (fun c5 => ?_)
    · rw [if_pos c5] at h
      refine j_mask [false, false, false, true, true, true, true, false, false, false, false, false, false, true, false, false, false] ?_
      exact jm_L_comes_b277 _ _ _ _ _ w2 h
    · rw [if_neg c5] at h
      refine j_aload_n (pc := 249) dL_comes_249 rfl ?_
      refine j_aload (pc := 250) dL_comes_250 rfl ?_
      refine j_aload (pc := 252) dL_comes_252 rfl ?_
      refine j_bipush (pc := 254) dL_comes_254 (v := 8) (by decide) ?_
      obtain ⟨x6, e7, h⟩ := obS h
      refine j_iald (pc := 256) dL_comes_256 e7 ?_
      refine j_iload (pc := 257) dL_comes_257 rfl ?_
      refine j_bipush (pc := 259) dL_comes_259 (v := 20) (by decide) ?_
      refine j_irem (pc := 261) dL_comes_261 (by decide) ?_
      refine j_iload (pc := 262) dL_comes_262 rfl ?_
      refine j_bipush (pc := 264) dL_comes_264 (v := 20) (by decide) ?_
      refine j_idiv (pc := 266) dL_comes_266 (by decide) ?_
      obtain ⟨x10, w8, e9, h⟩ := obS2 h
      have ge9 := calSR_of e9
      refine j_callS_g (pc := 267) (As := [.ref a3, .ref a4, .int x6, .int (jrem i12 20), .int (i12 / 20)]) (k' := 0) (n' := 0) dL_comes_267 (s_L_isTaken ge9.1) (jgS lw_629 lw_630 lw_597 lw_628) rfl hy_L_isTaken rfl (by decide) (by decide) (Nat.le_of_ble_eq_true rfl) (by decide) (by decide) (by decide) (by decide) (Or.inl ge9.2) ?_
      refine j_if_ne (pc := 270) (tgt := 277) dL_comes_270 (by decide) (fun c11 => ?_) (fun c11 => ?_)
      · rw [if_neg c11] at h
        refine j_mask [false, false, false, true, true, true, true, false, false, false, false, false, false, true, false, false, false] ?_
        exact jm_L_comes_b277 _ _ _ _ _ w8 h
      · rw [if_pos c11] at h
        refine j_mask [false, false, false, true, true, true, true, false, false, false, false, false, false, true, false, false, false] ?_
        exact jm_L_comes_b273 _ _ _ _ _ w8 h
def m_L_comes_b192 (a0 : Nat) (a2 : Nat) (a3 : Nat) (a4 : Nat) (a5 : Nat) (i6 : Int32) (i9 : Int32) (i12 : Int32) (s0 : Int32) (ws : LWd) : Option LWd :=
  if i12 < 0 then
    m_L_comes_b223 a2 a3 a4 a5 i6 i12 s0 ws
  else
    (calSV ws (m_L_breaks a5 3 i9 ws)).bind fun w2 =>
    bn2 (calSR w2 (m_L_four a0 i12 w2)) fun x6 w4 =>
    (calSV w4 (m_L_sets a0 (400 + i12) x6 w4)).bind fun w7 =>
    m_L_comes_b223 a2 a3 a4 a5 i6 i12 s0 w7
set_option maxRecDepth 100000 in
set_option maxHeartbeats 4000000 in
theorem jm_L_comes_b192 {n0 : Nat} {ws' : LWd} (a0 : Nat) (a2 : Nat) (a3 : Nat) (a4 : Nat) (a5 : Nat) (i6 : Int32) (i9 : Int32) (i12 : Int32) (s0 : Int32) (ws : LWd) (h : m_L_comes_b192 a0 a2 a3 a4 a5 i6 i9 i12 s0 ws = some ws') : JG (.inl false) cL_comes 17 RL wsL_comes none "comes" 2 0 0 n0 (.inl none, ws') 192 [some (.ref a0), none, some (.ref a2), some (.ref a3), some (.ref a4), some (.ref a5), some (.int i6), none, none, some (.int i9), none, none, some (.int i12), none, none, none, none] [.int s0] ws 0 0 := by
  unfold m_L_comes_b192 at h
  refine j_istore_13 (pc := 192) dL_comes_192 (by decide) rfl ?_
  refine j_iload (pc := 194) dL_comes_194 rfl ?_
  refine j_if_lt (pc := 196) (tgt := 223) dL_comes_196 (by decide) (fun c1 => ?_) (fun c1 => ?_)
  · rw [if_pos c1] at h
    refine j_mask [false, false, true, true, true, true, true, false, false, false, false, false, true, true, false, false, false] ?_
    exact jm_L_comes_b223 _ _ _ _ _ _ _ ws h
  · rw [if_neg c1] at h
    refine j_aload (pc := 199) dL_comes_199 rfl ?_
    refine j_iconst (pc := 201) dL_comes_201 (v := 3) (by decide) ?_
    refine j_iload (pc := 202) dL_comes_202 rfl ?_
    obtain ⟨w2, e3, h⟩ := obS h
    have ge3 := calSV_of e3
    refine j_callS_g (pc := 204) (As := [.ref a5, .int 3, .int i9]) (k' := 0) (n' := 0) dL_comes_204 (s_L_breaks ge3.1) (jgS lw_617 lw_618 lw_597 lw_616) rfl hy_L_breaks rfl (by decide) (by decide) (Nat.le_of_ble_eq_true rfl) (by decide) (by decide) (by decide) (by decide) (Or.inl ge3.2) ?_
    refine j_aload_n (pc := 207) dL_comes_207 rfl ?_
    refine j_sipush (pc := 208) dL_comes_208 (v := 400) (by decide) ?_
    refine j_iload (pc := 211) dL_comes_211 rfl ?_
    refine j_iadd (pc := 213) dL_comes_213 ?_
    refine j_aload_n (pc := 214) dL_comes_214 rfl ?_
    refine j_iload (pc := 215) dL_comes_215 rfl ?_
    obtain ⟨x6, w4, e5, h⟩ := obS2 h
    have ge5 := calSR_of e5
    refine j_callS_g (pc := 217) (As := [.ref a0, .int i12]) (k' := 0) (n' := 0) dL_comes_217 (s_L_four ge5.1) (jgS lw_605 lw_606 lw_597 lw_604) rfl hy_L_four rfl (by decide) (by decide) (Nat.le_of_ble_eq_true rfl) (by decide) (by decide) (by decide) (by decide) (Or.inl ge5.2) ?_
    obtain ⟨w7, e8, h⟩ := obS h
    have ge8 := calSV_of e8
    refine j_callS_g (pc := 220) (As := [.ref a0, .int (400 + i12), .int x6]) (k' := 0) (n' := 0) dL_comes_220 (s_L_sets ge8.1) (jgS lw_614 lw_615 lw_597 lw_613) rfl hy_L_sets rfl (by decide) (by decide) (Nat.le_of_ble_eq_true rfl) (by decide) (by decide) (by decide) (by decide) (Or.inl ge8.2) ?_
    refine j_mask [false, false, true, true, true, true, true, false, false, false, false, false, true, true, false, false, false] ?_
    exact jm_L_comes_b223 _ _ _ _ _ _ _ w7 h
def m_L_comes_b172 (k72 : Nat → Nat → Nat → Nat → Nat → Nat → Int32 → Int32 → Int32 → Int32 → Int32 → Int32 → Int32 → LWd → Option LWd) (a0 : Nat) (a1 : Nat) (a2 : Nat) (a3 : Nat) (a4 : Nat) (a5 : Nat) (i6 : Int32) (i7 : Int32) (i8 : Int32) (i9 : Int32) (i10 : Int32) (i13 : Int32) (s0 : Int32) (ws : LWd) : Option LWd :=
  k72 a0 a1 a2 a3 a4 a5 i6 i7 i8 i9 i10 s0 (i13 + 1) ws
set_option maxRecDepth 100000 in
set_option maxHeartbeats 4000000 in
theorem jm_L_comes_b172 {n0 : Nat} {ws' : LWd} {k72 : Nat → Nat → Nat → Nat → Nat → Nat → Int32 → Int32 → Int32 → Int32 → Int32 → Int32 → Int32 → LWd → Option LWd} (hk72 : ∀ (a0 : Nat) (a1 : Nat) (a2 : Nat) (a3 : Nat) (a4 : Nat) (a5 : Nat) (i6 : Int32) (i7 : Int32) (i8 : Int32) (i9 : Int32) (i10 : Int32) (i12 : Int32) (i13 : Int32) (ws : LWd), k72 a0 a1 a2 a3 a4 a5 i6 i7 i8 i9 i10 i12 i13 ws = some ws' → JG (.inl false) cL_comes 17 RL wsL_comes none "comes" 2 0 0 n0 (.inl none, ws') 72 [some (.ref a0), some (.ref a1), some (.ref a2), some (.ref a3), some (.ref a4), some (.ref a5), some (.int i6), some (.int i7), some (.int i8), some (.int i9), some (.int i10), none, some (.int i12), some (.int i13), none, none, none] [] ws 0 0) (a0 : Nat) (a1 : Nat) (a2 : Nat) (a3 : Nat) (a4 : Nat) (a5 : Nat) (i6 : Int32) (i7 : Int32) (i8 : Int32) (i9 : Int32) (i10 : Int32) (i13 : Int32) (s0 : Int32) (ws : LWd) (h : m_L_comes_b172 k72 a0 a1 a2 a3 a4 a5 i6 i7 i8 i9 i10 i13 s0 ws = some ws') : JG (.inl false) cL_comes 17 RL wsL_comes none "comes" 2 0 0 n0 (.inl none, ws') 172 [some (.ref a0), some (.ref a1), some (.ref a2), some (.ref a3), some (.ref a4), some (.ref a5), some (.int i6), some (.int i7), some (.int i8), some (.int i9), some (.int i10), none, none, some (.int i13), none, none, none] [.int s0] ws 0 0 := by
  unfold m_L_comes_b172 at h
  refine j_istore_12 (pc := 172) dL_comes_172 (by decide) rfl ?_
  refine j_iinc_13 (pc := 174) dL_comes_174 (y := i13 + 1) rfl (by decide) rfl ?_
  refine j_goto (pc := 177) (tgt := 72) dL_comes_177 (by decide) ?_
  exact hk72 _ _ _ _ _ _ _ _ _ _ _ _ _ ws h
def m_L_comes_b170 (k72 : Nat → Nat → Nat → Nat → Nat → Nat → Int32 → Int32 → Int32 → Int32 → Int32 → Int32 → Int32 → LWd → Option LWd) (a0 : Nat) (a1 : Nat) (a2 : Nat) (a3 : Nat) (a4 : Nat) (a5 : Nat) (i6 : Int32) (i7 : Int32) (i8 : Int32) (i9 : Int32) (i10 : Int32) (i12 : Int32) (i13 : Int32) (ws : LWd) : Option LWd :=
  m_L_comes_b172 k72 a0 a1 a2 a3 a4 a5 i6 i7 i8 i9 i10 i13 i12 ws
set_option maxRecDepth 100000 in
set_option maxHeartbeats 4000000 in
theorem jm_L_comes_b170 {n0 : Nat} {ws' : LWd} {k72 : Nat → Nat → Nat → Nat → Nat → Nat → Int32 → Int32 → Int32 → Int32 → Int32 → Int32 → Int32 → LWd → Option LWd} (hk72 : ∀ (a0 : Nat) (a1 : Nat) (a2 : Nat) (a3 : Nat) (a4 : Nat) (a5 : Nat) (i6 : Int32) (i7 : Int32) (i8 : Int32) (i9 : Int32) (i10 : Int32) (i12 : Int32) (i13 : Int32) (ws : LWd), k72 a0 a1 a2 a3 a4 a5 i6 i7 i8 i9 i10 i12 i13 ws = some ws' → JG (.inl false) cL_comes 17 RL wsL_comes none "comes" 2 0 0 n0 (.inl none, ws') 72 [some (.ref a0), some (.ref a1), some (.ref a2), some (.ref a3), some (.ref a4), some (.ref a5), some (.int i6), some (.int i7), some (.int i8), some (.int i9), some (.int i10), none, some (.int i12), some (.int i13), none, none, none] [] ws 0 0) (a0 : Nat) (a1 : Nat) (a2 : Nat) (a3 : Nat) (a4 : Nat) (a5 : Nat) (i6 : Int32) (i7 : Int32) (i8 : Int32) (i9 : Int32) (i10 : Int32) (i12 : Int32) (i13 : Int32) (ws : LWd) (h : m_L_comes_b170 k72 a0 a1 a2 a3 a4 a5 i6 i7 i8 i9 i10 i12 i13 ws = some ws') : JG (.inl false) cL_comes 17 RL wsL_comes none "comes" 2 0 0 n0 (.inl none, ws') 170 [some (.ref a0), some (.ref a1), some (.ref a2), some (.ref a3), some (.ref a4), some (.ref a5), some (.int i6), some (.int i7), some (.int i8), some (.int i9), some (.int i10), none, some (.int i12), some (.int i13), none, none, none] [] ws 0 0 := by
  unfold m_L_comes_b170 at h
  refine j_iload (pc := 170) dL_comes_170 rfl ?_
  refine j_mask [true, true, true, true, true, true, true, true, true, true, true, false, false, true, false, false, false] ?_
  exact jm_L_comes_b172 (hk72 := hk72) _ _ _ _ _ _ _ _ _ _ _ _ _ ws h
def m_L_comes_b165 (k72 : Nat → Nat → Nat → Nat → Nat → Nat → Int32 → Int32 → Int32 → Int32 → Int32 → Int32 → Int32 → LWd → Option LWd) (a0 : Nat) (a1 : Nat) (a2 : Nat) (a3 : Nat) (a4 : Nat) (a5 : Nat) (i6 : Int32) (i7 : Int32) (i8 : Int32) (i9 : Int32) (i10 : Int32) (i13 : Int32) (ws : LWd) : Option LWd :=
  m_L_comes_b172 k72 a0 a1 a2 a3 a4 a5 i6 i7 i8 i9 i10 i13 i13 ws
set_option maxRecDepth 100000 in
set_option maxHeartbeats 4000000 in
theorem jm_L_comes_b165 {n0 : Nat} {ws' : LWd} {k72 : Nat → Nat → Nat → Nat → Nat → Nat → Int32 → Int32 → Int32 → Int32 → Int32 → Int32 → Int32 → LWd → Option LWd} (hk72 : ∀ (a0 : Nat) (a1 : Nat) (a2 : Nat) (a3 : Nat) (a4 : Nat) (a5 : Nat) (i6 : Int32) (i7 : Int32) (i8 : Int32) (i9 : Int32) (i10 : Int32) (i12 : Int32) (i13 : Int32) (ws : LWd), k72 a0 a1 a2 a3 a4 a5 i6 i7 i8 i9 i10 i12 i13 ws = some ws' → JG (.inl false) cL_comes 17 RL wsL_comes none "comes" 2 0 0 n0 (.inl none, ws') 72 [some (.ref a0), some (.ref a1), some (.ref a2), some (.ref a3), some (.ref a4), some (.ref a5), some (.int i6), some (.int i7), some (.int i8), some (.int i9), some (.int i10), none, some (.int i12), some (.int i13), none, none, none] [] ws 0 0) (a0 : Nat) (a1 : Nat) (a2 : Nat) (a3 : Nat) (a4 : Nat) (a5 : Nat) (i6 : Int32) (i7 : Int32) (i8 : Int32) (i9 : Int32) (i10 : Int32) (i13 : Int32) (ws : LWd) (h : m_L_comes_b165 k72 a0 a1 a2 a3 a4 a5 i6 i7 i8 i9 i10 i13 ws = some ws') : JG (.inl false) cL_comes 17 RL wsL_comes none "comes" 2 0 0 n0 (.inl none, ws') 165 [some (.ref a0), some (.ref a1), some (.ref a2), some (.ref a3), some (.ref a4), some (.ref a5), some (.int i6), some (.int i7), some (.int i8), some (.int i9), some (.int i10), none, none, some (.int i13), none, none, none] [] ws 0 0 := by
  unfold m_L_comes_b165 at h
  refine j_iload (pc := 165) dL_comes_165 rfl ?_
  refine j_goto (pc := 167) (tgt := 172) dL_comes_167 (by decide) ?_
  exact jm_L_comes_b172 (hk72 := hk72) _ _ _ _ _ _ _ _ _ _ _ _ _ ws h
def m_L_comes_b138 (k72 : Nat → Nat → Nat → Nat → Nat → Nat → Int32 → Int32 → Int32 → Int32 → Int32 → Int32 → Int32 → LWd → Option LWd) (a0 : Nat) (a1 : Nat) (a2 : Nat) (a3 : Nat) (a4 : Nat) (a5 : Nat) (i6 : Int32) (i7 : Int32) (i8 : Int32) (i9 : Int32) (i10 : Int32) (i12 : Int32) (i13 : Int32) (s0 : Int32) (ws : LWd) : Option LWd :=
  if s0 = 0 then
    m_L_comes_b170 k72 a0 a1 a2 a3 a4 a5 i6 i7 i8 i9 i10 i12 i13 ws
  else
    if i12 < 0 then
      m_L_comes_b165 k72 a0 a1 a2 a3 a4 a5 i6 i7 i8 i9 i10 i13 ws
    else
      bn2 (calSR ws (m_L_four a0 i13 ws)) fun x5 w3 =>
      bn2 (calSR w3 (m_L_four a0 i12 w3)) fun x8 w6 =>
      if x8 ≤ x5 then
        m_L_comes_b170 k72 a0 a1 a2 a3 a4 a5 i6 i7 i8 i9 i10 i12 i13 w6
      else
        m_L_comes_b165 k72 a0 a1 a2 a3 a4 a5 i6 i7 i8 i9 i10 i13 w6
set_option maxRecDepth 100000 in
set_option maxHeartbeats 4000000 in
theorem jm_L_comes_b138 {n0 : Nat} {ws' : LWd} {k72 : Nat → Nat → Nat → Nat → Nat → Nat → Int32 → Int32 → Int32 → Int32 → Int32 → Int32 → Int32 → LWd → Option LWd} (hk72 : ∀ (a0 : Nat) (a1 : Nat) (a2 : Nat) (a3 : Nat) (a4 : Nat) (a5 : Nat) (i6 : Int32) (i7 : Int32) (i8 : Int32) (i9 : Int32) (i10 : Int32) (i12 : Int32) (i13 : Int32) (ws : LWd), k72 a0 a1 a2 a3 a4 a5 i6 i7 i8 i9 i10 i12 i13 ws = some ws' → JG (.inl false) cL_comes 17 RL wsL_comes none "comes" 2 0 0 n0 (.inl none, ws') 72 [some (.ref a0), some (.ref a1), some (.ref a2), some (.ref a3), some (.ref a4), some (.ref a5), some (.int i6), some (.int i7), some (.int i8), some (.int i9), some (.int i10), none, some (.int i12), some (.int i13), none, none, none] [] ws 0 0) (a0 : Nat) (a1 : Nat) (a2 : Nat) (a3 : Nat) (a4 : Nat) (a5 : Nat) (i6 : Int32) (i7 : Int32) (i8 : Int32) (i9 : Int32) (i10 : Int32) (i12 : Int32) (i13 : Int32) (s0 : Int32) (ws : LWd) (h : m_L_comes_b138 k72 a0 a1 a2 a3 a4 a5 i6 i7 i8 i9 i10 i12 i13 s0 ws = some ws') : JG (.inl false) cL_comes 17 RL wsL_comes none "comes" 2 0 0 n0 (.inl none, ws') 138 [some (.ref a0), some (.ref a1), some (.ref a2), some (.ref a3), some (.ref a4), some (.ref a5), some (.int i6), some (.int i7), some (.int i8), some (.int i9), some (.int i10), none, some (.int i12), some (.int i13), none, none, none] [.int s0] ws 0 0 := by
  unfold m_L_comes_b138 at h
  refine j_istore_16 (pc := 138) dL_comes_138 (by decide) rfl ?_
  refine j_iload (pc := 140) dL_comes_140 rfl ?_
  refine j_if_eq (pc := 142) (tgt := 170) dL_comes_142 (by decide) (fun c1 => ?_) (fun c1 => ?_)
  · rw [if_pos c1] at h
    refine j_mask [true, true, true, true, true, true, true, true, true, true, true, false, true, true, false, false, false] ?_
    exact jm_L_comes_b170 (hk72 := hk72) _ _ _ _ _ _ _ _ _ _ _ _ _ ws h
  · rw [if_neg c1] at h
    refine j_iload (pc := 145) dL_comes_145 rfl ?_
    refine j_if_lt (pc := 147) (tgt := 165) dL_comes_147 (by decide) (fun c2 => ?_) (fun c2 => ?_)
    · rw [if_pos c2] at h
      refine j_mask [true, true, true, true, true, true, true, true, true, true, true, false, false, true, false, false, false] ?_
      exact jm_L_comes_b165 (hk72 := hk72) _ _ _ _ _ _ _ _ _ _ _ _ ws h
    · rw [if_neg c2] at h
      refine j_aload_n (pc := 150) dL_comes_150 rfl ?_
      refine j_iload (pc := 151) dL_comes_151 rfl ?_
      obtain ⟨x5, w3, e4, h⟩ := obS2 h
      have ge4 := calSR_of e4
      refine j_callS_g (pc := 153) (As := [.ref a0, .int i13]) (k' := 0) (n' := 0) dL_comes_153 (s_L_four ge4.1) (jgS lw_605 lw_606 lw_597 lw_604) rfl hy_L_four rfl (by decide) (by decide) (Nat.le_of_ble_eq_true rfl) (by decide) (by decide) (by decide) (by decide) (Or.inl ge4.2) ?_
      refine j_aload_n (pc := 156) dL_comes_156 rfl ?_
      refine j_iload (pc := 157) dL_comes_157 rfl ?_
      obtain ⟨x8, w6, e7, h⟩ := obS2 h
      have ge7 := calSR_of e7
      refine j_callS_g (pc := 159) (As := [.ref a0, .int i12]) (k' := 0) (n' := 0) dL_comes_159 (s_L_four ge7.1) (jgS lw_605 lw_606 lw_597 lw_604) rfl hy_L_four rfl (by decide) (by decide) (Nat.le_of_ble_eq_true rfl) (by decide) (by decide) (by decide) (by decide) (Or.inl ge7.2) ?_
      refine j_icmp_ge (pc := 162) (tgt := 170) dL_comes_162 (by decide) (fun c9 => ?_) (fun c9 => ?_)
      · rw [if_pos c9] at h
        refine j_mask [true, true, true, true, true, true, true, true, true, true, true, false, true, true, false, false, false] ?_
        exact jm_L_comes_b170 (hk72 := hk72) _ _ _ _ _ _ _ _ _ _ _ _ _ w6 h
      · rw [if_neg c9] at h
        refine j_mask [true, true, true, true, true, true, true, true, true, true, true, false, false, true, false, false, false] ?_
        exact jm_L_comes_b165 (hk72 := hk72) _ _ _ _ _ _ _ _ _ _ _ _ w6 h
def m_L_comes_b137 (k72 : Nat → Nat → Nat → Nat → Nat → Nat → Int32 → Int32 → Int32 → Int32 → Int32 → Int32 → Int32 → LWd → Option LWd) (a0 : Nat) (a1 : Nat) (a2 : Nat) (a3 : Nat) (a4 : Nat) (a5 : Nat) (i6 : Int32) (i7 : Int32) (i8 : Int32) (i9 : Int32) (i10 : Int32) (i12 : Int32) (i13 : Int32) (ws : LWd) : Option LWd :=
  m_L_comes_b138 k72 a0 a1 a2 a3 a4 a5 i6 i7 i8 i9 i10 i12 i13 0 ws
set_option maxRecDepth 100000 in
set_option maxHeartbeats 4000000 in
theorem jm_L_comes_b137 {n0 : Nat} {ws' : LWd} {k72 : Nat → Nat → Nat → Nat → Nat → Nat → Int32 → Int32 → Int32 → Int32 → Int32 → Int32 → Int32 → LWd → Option LWd} (hk72 : ∀ (a0 : Nat) (a1 : Nat) (a2 : Nat) (a3 : Nat) (a4 : Nat) (a5 : Nat) (i6 : Int32) (i7 : Int32) (i8 : Int32) (i9 : Int32) (i10 : Int32) (i12 : Int32) (i13 : Int32) (ws : LWd), k72 a0 a1 a2 a3 a4 a5 i6 i7 i8 i9 i10 i12 i13 ws = some ws' → JG (.inl false) cL_comes 17 RL wsL_comes none "comes" 2 0 0 n0 (.inl none, ws') 72 [some (.ref a0), some (.ref a1), some (.ref a2), some (.ref a3), some (.ref a4), some (.ref a5), some (.int i6), some (.int i7), some (.int i8), some (.int i9), some (.int i10), none, some (.int i12), some (.int i13), none, none, none] [] ws 0 0) (a0 : Nat) (a1 : Nat) (a2 : Nat) (a3 : Nat) (a4 : Nat) (a5 : Nat) (i6 : Int32) (i7 : Int32) (i8 : Int32) (i9 : Int32) (i10 : Int32) (i12 : Int32) (i13 : Int32) (ws : LWd) (h : m_L_comes_b137 k72 a0 a1 a2 a3 a4 a5 i6 i7 i8 i9 i10 i12 i13 ws = some ws') : JG (.inl false) cL_comes 17 RL wsL_comes none "comes" 2 0 0 n0 (.inl none, ws') 137 [some (.ref a0), some (.ref a1), some (.ref a2), some (.ref a3), some (.ref a4), some (.ref a5), some (.int i6), some (.int i7), some (.int i8), some (.int i9), some (.int i10), none, some (.int i12), some (.int i13), none, none, none] [] ws 0 0 := by
  unfold m_L_comes_b137 at h
  refine j_iconst (pc := 137) dL_comes_137 (v := 0) (by decide) ?_
  exact jm_L_comes_b138 (hk72 := hk72) _ _ _ _ _ _ _ _ _ _ _ _ _ _ ws h
def m_L_comes_l72 : Nat → Nat → Nat → Nat → Nat → Nat → Nat → Int32 → Int32 → Int32 → Int32 → Int32 → Int32 → Int32 → LWd → Option LWd
  | 0, _, _, _, _, _, _, _, _, _, _, _, _, _, _ => none
  | fu + 1, a0, a1, a2, a3, a4, a5, i6, i7, i8, i9, i10, i12, i13, ws =>
    if 400 ≤ i13 then
      if 0 ≤ i12 then
        m_L_comes_b192 a0 a2 a3 a4 a5 i6 i9 i12 i12 ws
      else
        m_L_comes_b192 a0 a2 a3 a4 a5 i6 i9 i12 i9 ws
    else
      if ((((jrem i13 20) - i7) * ((jrem i13 20) - i7)) + (((i13 / 20) - i8) * ((i13 / 20) - i8))) = 1 then
        bn2 (calSR ws (m_L_four a0 i13 ws)) fun x6 w4 =>
        bn2 (calSR w4 (m_L_four a1 i9 w4)) fun x9 w7 =>
        if (i10 - x6) ≤ x9 then
          m_L_comes_b137 (fun z0 z1 z2 z3 z4 z5 z6 z7 z8 z9 z10 z11 z12 w => m_L_comes_l72 fu z0 z1 z2 z3 z4 z5 z6 z7 z8 z9 z10 z11 z12 w) a0 a1 a2 a3 a4 a5 i6 i7 i8 i9 i10 i12 i13 w7
        else
          m_L_comes_b138 (fun z0 z1 z2 z3 z4 z5 z6 z7 z8 z9 z10 z11 z12 w => m_L_comes_l72 fu z0 z1 z2 z3 z4 z5 z6 z7 z8 z9 z10 z11 z12 w) a0 a1 a2 a3 a4 a5 i6 i7 i8 i9 i10 i12 i13 1 w7
      else
        m_L_comes_b137 (fun z0 z1 z2 z3 z4 z5 z6 z7 z8 z9 z10 z11 z12 w => m_L_comes_l72 fu z0 z1 z2 z3 z4 z5 z6 z7 z8 z9 z10 z11 z12 w) a0 a1 a2 a3 a4 a5 i6 i7 i8 i9 i10 i12 i13 ws
set_option maxRecDepth 100000 in
set_option maxHeartbeats 4000000 in
theorem jm_L_comes_l72 {n0 : Nat} {ws' : LWd} : ∀ (fu : Nat) (a0 : Nat) (a1 : Nat) (a2 : Nat) (a3 : Nat) (a4 : Nat) (a5 : Nat) (i6 : Int32) (i7 : Int32) (i8 : Int32) (i9 : Int32) (i10 : Int32) (i12 : Int32) (i13 : Int32) (ws : LWd), m_L_comes_l72 fu a0 a1 a2 a3 a4 a5 i6 i7 i8 i9 i10 i12 i13 ws = some ws' → JG (.inl false) cL_comes 17 RL wsL_comes none "comes" 2 0 0 n0 (.inl none, ws') 72 [some (.ref a0), some (.ref a1), some (.ref a2), some (.ref a3), some (.ref a4), some (.ref a5), some (.int i6), some (.int i7), some (.int i8), some (.int i9), some (.int i10), none, some (.int i12), some (.int i13), none, none, none] [] ws 0 0 := by
  intro fu
  induction fu with
  | zero => intro a0 a1 a2 a3 a4 a5 i6 i7 i8 i9 i10 i12 i13 ws h; first | (cases h; done) | (rw [m_L_comes_l72] at h; cases h)
  | succ fu ih =>
    intro a0 a1 a2 a3 a4 a5 i6 i7 i8 i9 i10 i12 i13 ws h
    rw [m_L_comes_l72] at h
    refine j_iload (pc := 72) dL_comes_72 rfl ?_
    refine j_sipush (pc := 74) dL_comes_74 (v := 400) (by decide) ?_
    refine j_icmp_ge (pc := 77) (tgt := 180) dL_comes_77 (by decide) (fun c1 => ?_) (fun c1 => ?_)
    · rw [if_pos c1] at h
      refine j_iload (pc := 180) dL_comes_180 rfl ?_
      refine j_if_ge (pc := 182) (tgt := 190) dL_comes_182 (by decide) (fun c2 => ?_) (fun c2 => ?_)
      · rw [if_pos c2] at h
        refine j_iload (pc := 190) dL_comes_190 rfl ?_
        refine j_mask [true, false, true, true, true, true, true, false, false, true, false, false, true, false, false, false, false] ?_
        exact jm_L_comes_b192 _ _ _ _ _ _ _ _ _ ws h
      · rw [if_neg c2] at h
        refine j_iload (pc := 185) dL_comes_185 rfl ?_
        refine j_goto (pc := 187) (tgt := 192) dL_comes_187 (by decide) ?_
        refine j_mask [true, false, true, true, true, true, true, false, false, true, false, false, true, false, false, false, false] ?_
        exact jm_L_comes_b192 _ _ _ _ _ _ _ _ _ ws h
    · rw [if_neg c1] at h
      refine j_iload (pc := 80) dL_comes_80 rfl ?_
      refine j_bipush (pc := 82) dL_comes_82 (v := 20) (by decide) ?_
      refine j_irem (pc := 84) dL_comes_84 (by decide) ?_
      refine j_iload (pc := 85) dL_comes_85 rfl ?_
      refine j_isub (pc := 87) dL_comes_87 ?_
      refine j_istore_14 (pc := 88) dL_comes_88 (by decide) rfl ?_
      refine j_iload (pc := 90) dL_comes_90 rfl ?_
      refine j_bipush (pc := 92) dL_comes_92 (v := 20) (by decide) ?_
      refine j_idiv (pc := 94) dL_comes_94 (by decide) ?_
      refine j_iload (pc := 95) dL_comes_95 rfl ?_
      refine j_isub (pc := 97) dL_comes_97 ?_
      refine j_istore_15 (pc := 98) dL_comes_98 (by decide) rfl ?_
      refine j_iload (pc := 100) dL_comes_100 rfl ?_
      refine j_iload (pc := 102) dL_comes_102 rfl ?_
      refine j_imul (pc := 104) dL_comes_104 ?_
      refine j_iload (pc := 105) dL_comes_105 rfl ?_
      refine j_iload (pc := 107) dL_comes_107 rfl ?_
      refine j_imul (pc := 109) dL_comes_109 ?_
      refine j_iadd (pc := 110) dL_comes_110 ?_
      refine j_iconst (pc := 111) dL_comes_111 (v := 1) (by decide) ?_
      refine j_icmp_ne (pc := 112) (tgt := 137) dL_comes_112 (by decide) (fun c3 => ?_) (fun c3 => ?_)
      · rw [if_neg c3] at h
        refine j_mask [true, true, true, true, true, true, true, true, true, true, true, false, true, true, false, false, false] ?_
        exact jm_L_comes_b137 (hk72 := ih) _ _ _ _ _ _ _ _ _ _ _ _ _ ws h
      · rw [if_pos c3] at h
        refine j_iload (pc := 115) dL_comes_115 rfl ?_
        refine j_aload_n (pc := 117) dL_comes_117 rfl ?_
        refine j_iload (pc := 118) dL_comes_118 rfl ?_
        obtain ⟨x6, w4, e5, h⟩ := obS2 h
        have ge5 := calSR_of e5
        refine j_callS_g (pc := 120) (As := [.ref a0, .int i13]) (k' := 0) (n' := 0) dL_comes_120 (s_L_four ge5.1) (jgS lw_605 lw_606 lw_597 lw_604) rfl hy_L_four rfl (by decide) (by decide) (Nat.le_of_ble_eq_true rfl) (by decide) (by decide) (by decide) (by decide) (Or.inl ge5.2) ?_
        refine j_isub (pc := 123) dL_comes_123 ?_
        refine j_aload_n (pc := 124) dL_comes_124 rfl ?_
        refine j_iload (pc := 125) dL_comes_125 rfl ?_
        obtain ⟨x9, w7, e8, h⟩ := obS2 h
        have ge8 := calSR_of e8
        refine j_callS_g (pc := 127) (As := [.ref a1, .int i9]) (k' := 0) (n' := 0) dL_comes_127 (s_L_four ge8.1) (jgS lw_605 lw_606 lw_597 lw_604) rfl hy_L_four rfl (by decide) (by decide) (Nat.le_of_ble_eq_true rfl) (by decide) (by decide) (by decide) (by decide) (Or.inl ge8.2) ?_
        refine j_icmp_le (pc := 130) (tgt := 137) dL_comes_130 (by decide) (fun c10 => ?_) (fun c10 => ?_)
        · rw [if_pos c10] at h
          refine j_mask [true, true, true, true, true, true, true, true, true, true, true, false, true, true, false, false, false] ?_
          exact jm_L_comes_b137 (hk72 := ih) _ _ _ _ _ _ _ _ _ _ _ _ _ w7 h
        · rw [if_neg c10] at h
          refine j_iconst (pc := 133) dL_comes_133 (v := 1) (by decide) ?_
          refine j_goto (pc := 134) (tgt := 138) dL_comes_134 (by decide) ?_
          refine j_mask [true, true, true, true, true, true, true, true, true, true, true, false, true, true, false, false, false] ?_
          exact jm_L_comes_b138 (hk72 := ih) _ _ _ _ _ _ _ _ _ _ _ _ _ _ w7 h
def m_L_comes (a0 : Nat) (a1 : Nat) (a2 : Nat) (a3 : Nat) (a4 : Nat) (a5 : Nat) (i6 : Int32) (i7 : Int32) (i8 : Int32) (ws : LWd) : Option LWd :=
  bn2 (calSR ws (m_L_four a0 ((20 * i8) + i7) ws)) fun x3 w1 =>
  bn2 (calSR w1 (m_L_four a0 (400 + ((20 * i8) + i7)) w1)) fun x6 w4 =>
  (calSV w4 (m_L_sets a0 (400 + ((20 * i8) + i7)) x3 w4)).bind fun w7 =>
  if 1 < (x3 - x6) then
    m_L_comes_b57 a5 ((20 * i8) + i7) w7
  else
    if ((-1)) ≤ (x3 - x6) then
      m_L_comes_l72 FU a0 a1 a2 a3 a4 a5 i6 i7 i8 ((20 * i8) + i7) x3 ((-1)) 0 w7
    else
      m_L_comes_b57 a5 ((20 * i8) + i7) w7
set_option maxRecDepth 100000 in
set_option maxHeartbeats 4000000 in
theorem s_L_comes {a0 : Nat} {a1 : Nat} {a2 : Nat} {a3 : Nat} {a4 : Nat} {a5 : Nat} {i6 : Int32} {i7 : Int32} {i8 : Int32} {ws : LWd} {ws' : LWd} (h : m_L_comes a0 a1 a2 a3 a4 a5 i6 i7 i8 ws = some ws') : jSp yL_comes wsL_comes 2 0 0 [.ref a0, .ref a1, .ref a2, .ref a3, .ref a4, .ref a5, .int i6, .int i7, .int i8] ws (.inl none, ws') := by
  unfold m_L_comes at h
  refine j_entry (ret := none) (nm := "comes") (own := RL) pl_L rfl rfl rfl (jcats (by rfl)) (Nat.le_of_ble_eq_true rfl) ?_
  show JG (.inl false) cL_comes 17 RL wsL_comes none "comes" 2 0 0 ws.length (.inl none, ws') 0 [some (.ref a0), some (.ref a1), some (.ref a2), some (.ref a3), some (.ref a4), some (.ref a5), some (.int i6), some (.int i7), some (.int i8), none, none, none, none, none, none, none, none] [] ws 0 0
  refine j_bipush (pc := 0) dL_comes_0 (v := 20) (by decide) ?_
  refine j_iload (pc := 2) dL_comes_2 rfl ?_
  refine j_imul (pc := 4) dL_comes_4 ?_
  refine j_iload (pc := 5) dL_comes_5 rfl ?_
  refine j_iadd (pc := 7) dL_comes_7 ?_
  refine j_istore_9 (pc := 8) dL_comes_8 (by decide) rfl ?_
  refine j_aload_n (pc := 10) dL_comes_10 rfl ?_
  refine j_iload (pc := 11) dL_comes_11 rfl ?_
  obtain ⟨x3, w1, e2, h⟩ := obS2 h
  have ge2 := calSR_of e2
  refine j_callS_g (pc := 13) (As := [.ref a0, .int ((20 * i8) + i7)]) (k' := 0) (n' := 0) dL_comes_13 (s_L_four ge2.1) (jgS lw_605 lw_606 lw_597 lw_604) rfl hy_L_four rfl (by decide) (by decide) (Nat.le_of_ble_eq_true rfl) (by decide) (by decide) (by decide) (by decide) (Or.inl ge2.2) ?_
  refine j_istore_10 (pc := 16) dL_comes_16 (by decide) rfl ?_
  refine j_iload (pc := 18) dL_comes_18 rfl ?_
  refine j_aload_n (pc := 20) dL_comes_20 rfl ?_
  refine j_sipush (pc := 21) dL_comes_21 (v := 400) (by decide) ?_
  refine j_iload (pc := 24) dL_comes_24 rfl ?_
  refine j_iadd (pc := 26) dL_comes_26 ?_
  obtain ⟨x6, w4, e5, h⟩ := obS2 h
  have ge5 := calSR_of e5
  refine j_callS_g (pc := 27) (As := [.ref a0, .int (400 + ((20 * i8) + i7))]) (k' := 0) (n' := 0) dL_comes_27 (s_L_four ge5.1) (jgS lw_605 lw_606 lw_597 lw_604) rfl hy_L_four rfl (by decide) (by decide) (Nat.le_of_ble_eq_true rfl) (by decide) (by decide) (by decide) (by decide) (Or.inl ge5.2) ?_
  refine j_isub (pc := 30) dL_comes_30 ?_
  refine j_istore_11 (pc := 31) dL_comes_31 (by decide) rfl ?_
  refine j_aload_n (pc := 33) dL_comes_33 rfl ?_
  refine j_sipush (pc := 34) dL_comes_34 (v := 400) (by decide) ?_
  refine j_iload (pc := 37) dL_comes_37 rfl ?_
  refine j_iadd (pc := 39) dL_comes_39 ?_
  refine j_iload (pc := 40) dL_comes_40 rfl ?_
  obtain ⟨w7, e8, h⟩ := obS h
  have ge8 := calSV_of e8
  refine j_callS_g (pc := 42) (As := [.ref a0, .int (400 + ((20 * i8) + i7)), .int x3]) (k' := 0) (n' := 0) dL_comes_42 (s_L_sets ge8.1) (jgS lw_614 lw_615 lw_597 lw_613) rfl hy_L_sets rfl (by decide) (by decide) (Nat.le_of_ble_eq_true rfl) (by decide) (by decide) (by decide) (by decide) (Or.inl ge8.2) ?_
  refine j_iload (pc := 45) dL_comes_45 rfl ?_
  refine j_iconst (pc := 47) dL_comes_47 (v := 1) (by decide) ?_
  refine j_icmp_gt (pc := 48) (tgt := 57) dL_comes_48 (by decide) (fun c9 => ?_) (fun c9 => ?_)
  · rw [if_pos c9] at h
    refine j_mask [false, false, false, false, false, true, false, false, false, true, false, false, false, false, false, false, false] ?_
    exact jm_L_comes_b57 _ _ w7 h
  · rw [if_neg c9] at h
    refine j_iload (pc := 51) dL_comes_51 rfl ?_
    refine j_iconst (pc := 53) dL_comes_53 (v := (-1)) (by decide) ?_
    refine j_icmp_ge (pc := 54) (tgt := 66) dL_comes_54 (by decide) (fun c10 => ?_) (fun c10 => ?_)
    · rw [if_pos c10] at h
      refine j_iconst (pc := 66) dL_comes_66 (v := (-1)) (by decide) ?_
      refine j_istore_12 (pc := 67) dL_comes_67 (by decide) rfl ?_
      refine j_iconst (pc := 69) dL_comes_69 (v := 0) (by decide) ?_
      refine j_istore_13 (pc := 70) dL_comes_70 (by decide) rfl ?_
      refine j_mask [true, true, true, true, true, true, true, true, true, true, true, false, true, true, false, false, false] ?_
      exact jm_L_comes_l72 FU _ _ _ _ _ _ _ _ _ _ _ _ _ w7 h
    · rw [if_neg c10] at h
      refine j_mask [false, false, false, false, false, true, false, false, false, true, false, false, false, false, false, false, false] ?_
      exact jm_L_comes_b57 _ _ w7 h
def wsL_lifts : List Cond := Cond.code yL_lifts cL_lifts 9 (some .boolean) :: jW
def m_L_lifts_b56 (a0 : Nat) (a1 : Nat) (a2 : Nat) (a3 : Nat) (a4 : Nat) (a5 : Nat) (i7 : Int32) (s0 : Int32) (ws : LWd) : Option (Int32 × LWd) :=
  (sI ws a5 14 0).bind fun w1 =>
  if s0 = 0 then
    retZ s0 w1
  else
    (aI w1 a5 3).bind fun x4 =>
    (sI w1 a5 3 (x4 - 1)).bind fun w6 =>
    (sI w6 a5 8 i7).bind fun w8 =>
    (calSV w8 (m_L_settles a0 a1 a2 a3 a4 a5 w8)).bind fun w10 =>
    retZ s0 w10
set_option maxRecDepth 100000 in
set_option maxHeartbeats 4000000 in
theorem jm_L_lifts_b56 {n0 : Nat} {rr : Int32} {ws' : LWd} (a0 : Nat) (a1 : Nat) (a2 : Nat) (a3 : Nat) (a4 : Nat) (a5 : Nat) (i7 : Int32) (s0 : Int32) (ws : LWd) (h : m_L_lifts_b56 a0 a1 a2 a3 a4 a5 i7 s0 ws = some (rr, ws')) : JG (.inl false) cL_lifts 9 RL wsL_lifts (some .boolean) "lifts" 4 0 0 n0 (.inl (some (.int rr)), ws') 56 [some (.ref a0), some (.ref a1), some (.ref a2), some (.ref a3), some (.ref a4), some (.ref a5), none, some (.int i7), none] [.int s0] ws 0 0 := by
  unfold m_L_lifts_b56 at h
  refine j_istore_8 (pc := 56) dL_lifts_56 (by decide) rfl ?_
  refine j_aload (pc := 58) dL_lifts_58 rfl ?_
  refine j_bipush (pc := 60) dL_lifts_60 (v := 14) (by decide) ?_
  refine j_iconst (pc := 62) dL_lifts_62 (v := 0) (by decide) ?_
  obtain ⟨w1, e2, h⟩ := obS h
  refine j_iast (pc := 63) dL_lifts_63 e2 ?_
  refine j_iload (pc := 64) dL_lifts_64 rfl ?_
  refine j_if_eq (pc := 66) (tgt := 95) dL_lifts_66 (by decide) (fun c3 => ?_) (fun c3 => ?_)
  · rw [if_pos c3] at h
    refine j_iload (pc := 95) dL_lifts_95 rfl ?_
    exact j_zret (pc := 97) rfl dL_lifts_97 (by decide) (by decide) h rfl rfl
  · rw [if_neg c3] at h
    refine j_aload (pc := 69) dL_lifts_69 rfl ?_
    refine j_iconst (pc := 71) dL_lifts_71 (v := 3) (by decide) ?_
    refine j_dup2 (pc := 72) dL_lifts_72 rfl rfl ?_
    obtain ⟨x4, e5, h⟩ := obS h
    refine j_iald (pc := 73) dL_lifts_73 e5 ?_
    refine j_iconst (pc := 74) dL_lifts_74 (v := 1) (by decide) ?_
    refine j_isub (pc := 75) dL_lifts_75 ?_
    obtain ⟨w6, e7, h⟩ := obS h
    refine j_iast (pc := 76) dL_lifts_76 e7 ?_
    refine j_aload (pc := 77) dL_lifts_77 rfl ?_
    refine j_bipush (pc := 79) dL_lifts_79 (v := 8) (by decide) ?_
    refine j_iload (pc := 81) dL_lifts_81 rfl ?_
    obtain ⟨w8, e9, h⟩ := obS h
    refine j_iast (pc := 83) dL_lifts_83 e9 ?_
    refine j_aload_n (pc := 84) dL_lifts_84 rfl ?_
    refine j_aload_n (pc := 85) dL_lifts_85 rfl ?_
    refine j_aload_n (pc := 86) dL_lifts_86 rfl ?_
    refine j_aload_n (pc := 87) dL_lifts_87 rfl ?_
    refine j_aload (pc := 88) dL_lifts_88 rfl ?_
    refine j_aload (pc := 90) dL_lifts_90 rfl ?_
    obtain ⟨w10, e11, h⟩ := obS h
    have ge11 := calSV_of e11
    refine j_callS_g (pc := 92) (As := [.ref a0, .ref a1, .ref a2, .ref a3, .ref a4, .ref a5]) (k' := 0) (n' := 0) dL_lifts_92 (s_L_settles ge11.1) (jgS lw_632 lw_633 lw_597 lw_631) rfl hy_L_settles rfl (by decide) (by decide) (Nat.le_of_ble_eq_true rfl) (by decide) (by decide) (by decide) (by decide) (Or.inl ge11.2) ?_
    refine j_iload (pc := 95) dL_lifts_95 rfl ?_
    exact j_zret (pc := 97) rfl dL_lifts_97 (by decide) (by decide) h rfl rfl
def m_L_lifts_b55 (a0 : Nat) (a1 : Nat) (a2 : Nat) (a3 : Nat) (a4 : Nat) (a5 : Nat) (i7 : Int32) (ws : LWd) : Option (Int32 × LWd) :=
  m_L_lifts_b56 a0 a1 a2 a3 a4 a5 i7 0 ws
set_option maxRecDepth 100000 in
set_option maxHeartbeats 4000000 in
theorem jm_L_lifts_b55 {n0 : Nat} {rr : Int32} {ws' : LWd} (a0 : Nat) (a1 : Nat) (a2 : Nat) (a3 : Nat) (a4 : Nat) (a5 : Nat) (i7 : Int32) (ws : LWd) (h : m_L_lifts_b55 a0 a1 a2 a3 a4 a5 i7 ws = some (rr, ws')) : JG (.inl false) cL_lifts 9 RL wsL_lifts (some .boolean) "lifts" 4 0 0 n0 (.inl (some (.int rr)), ws') 55 [some (.ref a0), some (.ref a1), some (.ref a2), some (.ref a3), some (.ref a4), some (.ref a5), none, some (.int i7), none] [] ws 0 0 := by
  unfold m_L_lifts_b55 at h
  refine j_iconst (pc := 55) dL_lifts_55 (v := 0) (by decide) ?_
  exact jm_L_lifts_b56 _ _ _ _ _ _ _ _ ws h
def m_L_lifts (a0 : Nat) (a1 : Nat) (a2 : Nat) (a3 : Nat) (a4 : Nat) (a5 : Nat) (i6 : Int32) (ws : LWd) : Option (Int32 × LWd) :=
  (aI ws a5 8).bind fun x1 =>
  (aI ws a5 0).bind fun x3 =>
  if x3 = 1 then
    (aI ws a5 8).bind fun x6 =>
    if (x1 &&& ((1 <<< (i6 &&& 31)) ^^^ ((-1)))) = x6 then
      m_L_lifts_b55 a0 a1 a2 a3 a4 a5 (x1 &&& ((1 <<< (i6 &&& 31)) ^^^ ((-1)))) ws
    else
      (aI ws a5 3).bind fun x9 =>
      if x9 ≤ 0 then
        m_L_lifts_b55 a0 a1 a2 a3 a4 a5 (x1 &&& ((1 <<< (i6 &&& 31)) ^^^ ((-1)))) ws
      else
        bn2 (calSR ws (m_L_holds a2 a3 a5 (x1 &&& ((1 <<< (i6 &&& 31)) ^^^ ((-1)))) ws)) fun x14 w12 =>
        if x14 = 0 then
          m_L_lifts_b55 a0 a1 a2 a3 a4 a5 (x1 &&& ((1 <<< (i6 &&& 31)) ^^^ ((-1)))) w12
        else
          m_L_lifts_b56 a0 a1 a2 a3 a4 a5 (x1 &&& ((1 <<< (i6 &&& 31)) ^^^ ((-1)))) 1 w12
  else
    m_L_lifts_b55 a0 a1 a2 a3 a4 a5 (x1 &&& ((1 <<< (i6 &&& 31)) ^^^ ((-1)))) ws
set_option maxRecDepth 100000 in
set_option maxHeartbeats 4000000 in
theorem s_L_lifts {a0 : Nat} {a1 : Nat} {a2 : Nat} {a3 : Nat} {a4 : Nat} {a5 : Nat} {i6 : Int32} {ws : LWd} {rr : Int32} {ws' : LWd} (h : m_L_lifts a0 a1 a2 a3 a4 a5 i6 ws = some (rr, ws')) : jSp yL_lifts wsL_lifts 4 0 0 [.ref a0, .ref a1, .ref a2, .ref a3, .ref a4, .ref a5, .int i6] ws (.inl (some (.int rr)), ws') := by
  unfold m_L_lifts at h
  refine j_entry (ret := (some .boolean)) (nm := "lifts") (own := RL) pl_L rfl rfl rfl (jcats (by rfl)) (Nat.le_of_ble_eq_true rfl) ?_
  show JG (.inl false) cL_lifts 9 RL wsL_lifts (some .boolean) "lifts" 4 0 0 ws.length (.inl (some (.int rr)), ws') 0 [some (.ref a0), some (.ref a1), some (.ref a2), some (.ref a3), some (.ref a4), some (.ref a5), some (.int i6), none, none] [] ws 0 0
  refine j_aload (pc := 0) dL_lifts_0 rfl ?_
  refine j_bipush (pc := 2) dL_lifts_2 (v := 8) (by decide) ?_
  obtain ⟨x1, e2, h⟩ := obS h
  refine j_iald (pc := 4) dL_lifts_4 e2 ?_
  refine j_iconst (pc := 5) dL_lifts_5 (v := 1) (by decide) ?_
  refine j_iload (pc := 6) dL_lifts_6 rfl ?_
  refine j_ishl (pc := 8) dL_lifts_8 ?_
  refine j_iconst (pc := 9) dL_lifts_9 (v := (-1)) (by decide) ?_
  refine j_ixor (pc := 10) dL_lifts_10 ?_
  refine j_iand (pc := 11) dL_lifts_11 ?_
  refine j_istore_7 (pc := 12) dL_lifts_12 (by decide) rfl ?_
  refine j_aload (pc := 14) dL_lifts_14 rfl ?_
  refine j_iconst (pc := 16) dL_lifts_16 (v := 0) (by decide) ?_
  obtain ⟨x3, e4, h⟩ := obS h
  refine j_iald (pc := 17) dL_lifts_17 e4 ?_
  refine j_iconst (pc := 18) dL_lifts_18 (v := 1) (by decide) ?_
  refine j_icmp_ne (pc := 19) (tgt := 55) dL_lifts_19 (by decide) (fun c5 => ?_) (fun c5 => ?_)
  · rw [if_neg c5] at h
    refine j_mask [true, true, true, true, true, true, false, true, false] ?_
    exact jm_L_lifts_b55 _ _ _ _ _ _ _ ws h
  · rw [if_pos c5] at h
    refine j_iload (pc := 22) dL_lifts_22 rfl ?_
    refine j_aload (pc := 24) dL_lifts_24 rfl ?_
    refine j_bipush (pc := 26) dL_lifts_26 (v := 8) (by decide) ?_
    obtain ⟨x6, e7, h⟩ := obS h
    refine j_iald (pc := 28) dL_lifts_28 e7 ?_
    refine j_icmp_eq (pc := 29) (tgt := 55) dL_lifts_29 (by decide) (fun c8 => ?_) (fun c8 => ?_)
    · rw [if_pos c8] at h
      refine j_mask [true, true, true, true, true, true, false, true, false] ?_
      exact jm_L_lifts_b55 _ _ _ _ _ _ _ ws h
    · rw [if_neg c8] at h
      refine j_aload (pc := 32) dL_lifts_32 rfl ?_
      refine j_iconst (pc := 34) dL_lifts_34 (v := 3) (by decide) ?_
      obtain ⟨x9, e10, h⟩ := obS h
      refine j_iald (pc := 35) dL_lifts_35 e10 ?_
      refine j_if_le (pc := 36) (tgt := 55) dL_lifts_36 (by decide) (fun c11 => ?_) (fun c11 => ?_)
      · rw [if_pos c11] at h
        refine j_mask [true, true, true, true, true, true, false, true, false] ?_
        exact jm_L_lifts_b55 _ _ _ _ _ _ _ ws h
      · rw [if_neg c11] at h
        refine j_aload_n (pc := 39) dL_lifts_39 rfl ?_
        refine j_aload_n (pc := 40) dL_lifts_40 rfl ?_
        refine j_aload (pc := 41) dL_lifts_41 rfl ?_
        refine j_iload (pc := 43) dL_lifts_43 rfl ?_
        obtain ⟨x14, w12, e13, h⟩ := obS2 h
        have ge13 := calSR_of e13
        refine j_callS_g (pc := 45) (As := [.ref a2, .ref a3, .ref a5, .int (x1 &&& ((1 <<< (i6 &&& 31)) ^^^ ((-1))))]) (k' := 0) (n' := 0) dL_lifts_45 (s_L_holds ge13.1) (jgS lw_623 lw_624 lw_597 lw_622) rfl hy_L_holds rfl (by decide) (by decide) (Nat.le_of_ble_eq_true rfl) (by decide) (by decide) (by decide) (by decide) (Or.inl ge13.2) ?_
        refine j_if_eq (pc := 48) (tgt := 55) dL_lifts_48 (by decide) (fun c15 => ?_) (fun c15 => ?_)
        · rw [if_pos c15] at h
          refine j_mask [true, true, true, true, true, true, false, true, false] ?_
          exact jm_L_lifts_b55 _ _ _ _ _ _ _ w12 h
        · rw [if_neg c15] at h
          refine j_iconst (pc := 51) dL_lifts_51 (v := 1) (by decide) ?_
          refine j_goto (pc := 52) (tgt := 56) dL_lifts_52 (by decide) ?_
          refine j_mask [true, true, true, true, true, true, false, true, false] ?_
          exact jm_L_lifts_b56 _ _ _ _ _ _ _ _ w12 h
def wsL_places : List Cond := Cond.code yL_places cL_places 14 (some .boolean) :: jW
def m_L_places_b130 (a0 : Nat) (a1 : Nat) (a2 : Nat) (a3 : Nat) (a4 : Nat) (a5 : Nat) (a6 : Nat) (a7 : Nat) (i8 : Int32) (i9 : Int32) (i10 : Int32) (i12 : Int32) (s0 : Int32) (ws : LWd) : Option (Int32 × LWd) :=
  (sI ws a7 14 0).bind fun w1 =>
  if s0 = 0 then
    retZ s0 w1
  else
    (aI w1 a7 3).bind fun x4 =>
    (sI w1 a7 3 (x4 - i12)).bind fun w6 =>
    (calSV w6 (m_L_comes a0 a1 a3 a4 a5 a7 i8 i9 i10 w6)).bind fun w8 =>
    (calSV w8 (m_L_settles a0 a2 a4 a5 a6 a7 w8)).bind fun w10 =>
    retZ s0 w10
set_option maxRecDepth 100000 in
set_option maxHeartbeats 4000000 in
theorem jm_L_places_b130 {n0 : Nat} {rr : Int32} {ws' : LWd} (a0 : Nat) (a1 : Nat) (a2 : Nat) (a3 : Nat) (a4 : Nat) (a5 : Nat) (a6 : Nat) (a7 : Nat) (i8 : Int32) (i9 : Int32) (i10 : Int32) (i12 : Int32) (s0 : Int32) (ws : LWd) (h : m_L_places_b130 a0 a1 a2 a3 a4 a5 a6 a7 i8 i9 i10 i12 s0 ws = some (rr, ws')) : JG (.inl false) cL_places 14 RL wsL_places (some .boolean) "places" 4 0 0 n0 (.inl (some (.int rr)), ws') 130 [some (.ref a0), some (.ref a1), some (.ref a2), some (.ref a3), some (.ref a4), some (.ref a5), some (.ref a6), some (.ref a7), some (.int i8), some (.int i9), some (.int i10), none, some (.int i12), none] [.int s0] ws 0 0 := by
  unfold m_L_places_b130 at h
  refine j_istore_13 (pc := 130) dL_places_130 (by decide) rfl ?_
  refine j_aload (pc := 132) dL_places_132 rfl ?_
  refine j_bipush (pc := 134) dL_places_134 (v := 14) (by decide) ?_
  refine j_iconst (pc := 136) dL_places_136 (v := 0) (by decide) ?_
  obtain ⟨w1, e2, h⟩ := obS h
  refine j_iast (pc := 137) dL_places_137 e2 ?_
  refine j_iload (pc := 138) dL_places_138 rfl ?_
  refine j_if_eq (pc := 140) (tgt := 183) dL_places_140 (by decide) (fun c3 => ?_) (fun c3 => ?_)
  · rw [if_pos c3] at h
    refine j_iload (pc := 183) dL_places_183 rfl ?_
    exact j_zret (pc := 185) rfl dL_places_185 (by decide) (by decide) h rfl rfl
  · rw [if_neg c3] at h
    refine j_aload (pc := 143) dL_places_143 rfl ?_
    refine j_iconst (pc := 145) dL_places_145 (v := 3) (by decide) ?_
    refine j_dup2 (pc := 146) dL_places_146 rfl rfl ?_
    obtain ⟨x4, e5, h⟩ := obS h
    refine j_iald (pc := 147) dL_places_147 e5 ?_
    refine j_iload (pc := 148) dL_places_148 rfl ?_
    refine j_isub (pc := 150) dL_places_150 ?_
    obtain ⟨w6, e7, h⟩ := obS h
    refine j_iast (pc := 151) dL_places_151 e7 ?_
    refine j_aload_n (pc := 152) dL_places_152 rfl ?_
    refine j_aload_n (pc := 153) dL_places_153 rfl ?_
    refine j_aload_n (pc := 154) dL_places_154 rfl ?_
    refine j_aload (pc := 155) dL_places_155 rfl ?_
    refine j_aload (pc := 157) dL_places_157 rfl ?_
    refine j_aload (pc := 159) dL_places_159 rfl ?_
    refine j_iload (pc := 161) dL_places_161 rfl ?_
    refine j_iload (pc := 163) dL_places_163 rfl ?_
    refine j_iload (pc := 165) dL_places_165 rfl ?_
    obtain ⟨w8, e9, h⟩ := obS h
    have ge9 := calSV_of e9
    refine j_callS_g (pc := 167) (As := [.ref a0, .ref a1, .ref a3, .ref a4, .ref a5, .ref a7, .int i8, .int i9, .int i10]) (k' := 0) (n' := 0) dL_places_167 (s_L_comes ge9.1) (jgS lw_635 lw_636 lw_597 lw_634) rfl hy_L_comes rfl (by decide) (by decide) (Nat.le_of_ble_eq_true rfl) (by decide) (by decide) (by decide) (by decide) (Or.inl ge9.2) ?_
    refine j_aload_n (pc := 170) dL_places_170 rfl ?_
    refine j_aload_n (pc := 171) dL_places_171 rfl ?_
    refine j_aload (pc := 172) dL_places_172 rfl ?_
    refine j_aload (pc := 174) dL_places_174 rfl ?_
    refine j_aload (pc := 176) dL_places_176 rfl ?_
    refine j_aload (pc := 178) dL_places_178 rfl ?_
    obtain ⟨w10, e11, h⟩ := obS h
    have ge11 := calSV_of e11
    refine j_callS_g (pc := 180) (As := [.ref a0, .ref a2, .ref a4, .ref a5, .ref a6, .ref a7]) (k' := 0) (n' := 0) dL_places_180 (s_L_settles ge11.1) (jgS lw_632 lw_633 lw_597 lw_631) rfl hy_L_settles rfl (by decide) (by decide) (Nat.le_of_ble_eq_true rfl) (by decide) (by decide) (by decide) (by decide) (Or.inl ge11.2) ?_
    refine j_iload (pc := 183) dL_places_183 rfl ?_
    exact j_zret (pc := 185) rfl dL_places_185 (by decide) (by decide) h rfl rfl
def m_L_places_b129 (a0 : Nat) (a1 : Nat) (a2 : Nat) (a3 : Nat) (a4 : Nat) (a5 : Nat) (a6 : Nat) (a7 : Nat) (i8 : Int32) (i9 : Int32) (i10 : Int32) (i12 : Int32) (ws : LWd) : Option (Int32 × LWd) :=
  m_L_places_b130 a0 a1 a2 a3 a4 a5 a6 a7 i8 i9 i10 i12 0 ws
set_option maxRecDepth 100000 in
set_option maxHeartbeats 4000000 in
theorem jm_L_places_b129 {n0 : Nat} {rr : Int32} {ws' : LWd} (a0 : Nat) (a1 : Nat) (a2 : Nat) (a3 : Nat) (a4 : Nat) (a5 : Nat) (a6 : Nat) (a7 : Nat) (i8 : Int32) (i9 : Int32) (i10 : Int32) (i12 : Int32) (ws : LWd) (h : m_L_places_b129 a0 a1 a2 a3 a4 a5 a6 a7 i8 i9 i10 i12 ws = some (rr, ws')) : JG (.inl false) cL_places 14 RL wsL_places (some .boolean) "places" 4 0 0 n0 (.inl (some (.int rr)), ws') 129 [some (.ref a0), some (.ref a1), some (.ref a2), some (.ref a3), some (.ref a4), some (.ref a5), some (.ref a6), some (.ref a7), some (.int i8), some (.int i9), some (.int i10), none, some (.int i12), none] [] ws 0 0 := by
  unfold m_L_places_b129 at h
  refine j_iconst (pc := 129) dL_places_129 (v := 0) (by decide) ?_
  exact jm_L_places_b130 _ _ _ _ _ _ _ _ _ _ _ _ _ ws h
def m_L_places (a0 : Nat) (a1 : Nat) (a2 : Nat) (a3 : Nat) (a4 : Nat) (a5 : Nat) (a6 : Nat) (a7 : Nat) (i8 : Int32) (i9 : Int32) (i10 : Int32) (ws : LWd) : Option (Int32 × LWd) :=
  bn2 (calSR ws (m_L_four a0 ((400 + (20 * i10)) + i9) ws)) fun x3 w1 =>
  (aI w1 a7 8).bind fun x4 =>
  bn2 (calSR w1 (m_L_level a0 a4 a5 x4 w1)) fun x8 w6 =>
  bn2 (calSR w6 (m_L_far a3 a7 i8 i9 i10 w6)) fun x11 w9 =>
  (aI w9 a7 0).bind fun x12 =>
  if x12 = 1 then
    (aI w9 a7 8).bind fun x15 =>
    if ((x15 >>> (i8 &&& 31)) &&& 1) = 0 then
      (aI w9 a7 3).bind fun x18 =>
      if x18 < (1 + x11) then
        m_L_places_b129 a0 a1 a2 a3 a4 a5 a6 a7 i8 i9 i10 (1 + x11) w9
      else
        bn2 (calSR w9 (m_L_isNear a3 a7 i8 i9 i10 w9)) fun x23 w21 =>
        if x23 = 0 then
          m_L_places_b129 a0 a1 a2 a3 a4 a5 a6 a7 i8 i9 i10 (1 + x11) w21
        else
          (aI w21 a7 8).bind fun x25 =>
          bn2 (calSR w21 (m_L_isTaken a4 a5 x25 i9 i10 w21)) fun x29 w27 =>
          if x29 = 0 then
            if 3 ≤ (x3 - x8) then
              m_L_places_b129 a0 a1 a2 a3 a4 a5 a6 a7 i8 i9 i10 (1 + x11) w27
            else
              if (x3 - x8) ≤ ((-3)) then
                m_L_places_b129 a0 a1 a2 a3 a4 a5 a6 a7 i8 i9 i10 (1 + x11) w27
              else
                m_L_places_b130 a0 a1 a2 a3 a4 a5 a6 a7 i8 i9 i10 (1 + x11) 1 w27
          else
            m_L_places_b129 a0 a1 a2 a3 a4 a5 a6 a7 i8 i9 i10 (1 + x11) w27
    else
      m_L_places_b129 a0 a1 a2 a3 a4 a5 a6 a7 i8 i9 i10 (1 + x11) w9
  else
    m_L_places_b129 a0 a1 a2 a3 a4 a5 a6 a7 i8 i9 i10 (1 + x11) w9
set_option maxRecDepth 100000 in
set_option maxHeartbeats 4000000 in
theorem s_L_places {a0 : Nat} {a1 : Nat} {a2 : Nat} {a3 : Nat} {a4 : Nat} {a5 : Nat} {a6 : Nat} {a7 : Nat} {i8 : Int32} {i9 : Int32} {i10 : Int32} {ws : LWd} {rr : Int32} {ws' : LWd} (h : m_L_places a0 a1 a2 a3 a4 a5 a6 a7 i8 i9 i10 ws = some (rr, ws')) : jSp yL_places wsL_places 4 0 0 [.ref a0, .ref a1, .ref a2, .ref a3, .ref a4, .ref a5, .ref a6, .ref a7, .int i8, .int i9, .int i10] ws (.inl (some (.int rr)), ws') := by
  unfold m_L_places at h
  refine j_entry (ret := (some .boolean)) (nm := "places") (own := RL) pl_L rfl rfl rfl (jcats (by rfl)) (Nat.le_of_ble_eq_true rfl) ?_
  show JG (.inl false) cL_places 14 RL wsL_places (some .boolean) "places" 4 0 0 ws.length (.inl (some (.int rr)), ws') 0 [some (.ref a0), some (.ref a1), some (.ref a2), some (.ref a3), some (.ref a4), some (.ref a5), some (.ref a6), some (.ref a7), some (.int i8), some (.int i9), some (.int i10), none, none, none] [] ws 0 0
  refine j_aload_n (pc := 0) dL_places_0 rfl ?_
  refine j_sipush (pc := 1) dL_places_1 (v := 400) (by decide) ?_
  refine j_bipush (pc := 4) dL_places_4 (v := 20) (by decide) ?_
  refine j_iload (pc := 6) dL_places_6 rfl ?_
  refine j_imul (pc := 8) dL_places_8 ?_
  refine j_iadd (pc := 9) dL_places_9 ?_
  refine j_iload (pc := 10) dL_places_10 rfl ?_
  refine j_iadd (pc := 12) dL_places_12 ?_
  obtain ⟨x3, w1, e2, h⟩ := obS2 h
  have ge2 := calSR_of e2
  refine j_callS_g (pc := 13) (As := [.ref a0, .int ((400 + (20 * i10)) + i9)]) (k' := 0) (n' := 0) dL_places_13 (s_L_four ge2.1) (jgS lw_605 lw_606 lw_597 lw_604) rfl hy_L_four rfl (by decide) (by decide) (Nat.le_of_ble_eq_true rfl) (by decide) (by decide) (by decide) (by decide) (Or.inl ge2.2) ?_
  refine j_aload_n (pc := 16) dL_places_16 rfl ?_
  refine j_aload (pc := 17) dL_places_17 rfl ?_
  refine j_aload (pc := 19) dL_places_19 rfl ?_
  refine j_aload (pc := 21) dL_places_21 rfl ?_
  refine j_bipush (pc := 23) dL_places_23 (v := 8) (by decide) ?_
  obtain ⟨x4, e5, h⟩ := obS h
  refine j_iald (pc := 25) dL_places_25 e5 ?_
  obtain ⟨x8, w6, e7, h⟩ := obS2 h
  have ge7 := calSR_of e7
  refine j_callS_g (pc := 26) (As := [.ref a0, .ref a4, .ref a5, .int x4]) (k' := 0) (n' := 0) dL_places_26 (s_L_level ge7.1) (jgS lw_638 lw_639 lw_597 lw_637) rfl hy_L_level rfl (by decide) (by decide) (Nat.le_of_ble_eq_true rfl) (by decide) (by decide) (by decide) (by decide) (Or.inl ge7.2) ?_
  refine j_isub (pc := 29) dL_places_29 ?_
  refine j_istore_11 (pc := 30) dL_places_30 (by decide) rfl ?_
  refine j_iconst (pc := 32) dL_places_32 (v := 1) (by decide) ?_
  refine j_aload_n (pc := 33) dL_places_33 rfl ?_
  refine j_aload (pc := 34) dL_places_34 rfl ?_
  refine j_iload (pc := 36) dL_places_36 rfl ?_
  refine j_iload (pc := 38) dL_places_38 rfl ?_
  refine j_iload (pc := 40) dL_places_40 rfl ?_
  obtain ⟨x11, w9, e10, h⟩ := obS2 h
  have ge10 := calSR_of e10
  refine j_callS_g (pc := 42) (As := [.ref a3, .ref a7, .int i8, .int i9, .int i10]) (k' := 0) (n' := 0) dL_places_42 (s_L_far ge10.1) (jgS lw_641 lw_642 lw_597 lw_640) rfl hy_L_far rfl (by decide) (by decide) (Nat.le_of_ble_eq_true rfl) (by decide) (by decide) (by decide) (by decide) (Or.inl ge10.2) ?_
  refine j_iadd (pc := 45) dL_places_45 ?_
  refine j_istore_12 (pc := 46) dL_places_46 (by decide) rfl ?_
  refine j_aload (pc := 48) dL_places_48 rfl ?_
  refine j_iconst (pc := 50) dL_places_50 (v := 0) (by decide) ?_
  obtain ⟨x12, e13, h⟩ := obS h
  refine j_iald (pc := 51) dL_places_51 e13 ?_
  refine j_iconst (pc := 52) dL_places_52 (v := 1) (by decide) ?_
  refine j_icmp_ne (pc := 53) (tgt := 129) dL_places_53 (by decide) (fun c14 => ?_) (fun c14 => ?_)
  · rw [if_neg c14] at h
    refine j_mask [true, true, true, true, true, true, true, true, true, true, true, false, true, false] ?_
    exact jm_L_places_b129 _ _ _ _ _ _ _ _ _ _ _ _ w9 h
  · rw [if_pos c14] at h
    refine j_aload (pc := 56) dL_places_56 rfl ?_
    refine j_bipush (pc := 58) dL_places_58 (v := 8) (by decide) ?_
    obtain ⟨x15, e16, h⟩ := obS h
    refine j_iald (pc := 60) dL_places_60 e16 ?_
    refine j_iload (pc := 61) dL_places_61 rfl ?_
    refine j_ishr (pc := 63) dL_places_63 ?_
    refine j_iconst (pc := 64) dL_places_64 (v := 1) (by decide) ?_
    refine j_iand (pc := 65) dL_places_65 ?_
    refine j_if_ne (pc := 66) (tgt := 129) dL_places_66 (by decide) (fun c17 => ?_) (fun c17 => ?_)
    · rw [if_neg c17] at h
      refine j_mask [true, true, true, true, true, true, true, true, true, true, true, false, true, false] ?_
      exact jm_L_places_b129 _ _ _ _ _ _ _ _ _ _ _ _ w9 h
    · rw [if_pos c17] at h
      refine j_aload (pc := 69) dL_places_69 rfl ?_
      refine j_iconst (pc := 71) dL_places_71 (v := 3) (by decide) ?_
      obtain ⟨x18, e19, h⟩ := obS h
      refine j_iald (pc := 72) dL_places_72 e19 ?_
      refine j_iload (pc := 73) dL_places_73 rfl ?_
      refine j_icmp_lt (pc := 75) (tgt := 129) dL_places_75 (by decide) (fun c20 => ?_) (fun c20 => ?_)
      · rw [if_pos c20] at h
        refine j_mask [true, true, true, true, true, true, true, true, true, true, true, false, true, false] ?_
        exact jm_L_places_b129 _ _ _ _ _ _ _ _ _ _ _ _ w9 h
      · rw [if_neg c20] at h
        refine j_aload_n (pc := 78) dL_places_78 rfl ?_
        refine j_aload (pc := 79) dL_places_79 rfl ?_
        refine j_iload (pc := 81) dL_places_81 rfl ?_
        refine j_iload (pc := 83) dL_places_83 rfl ?_
        refine j_iload (pc := 85) dL_places_85 rfl ?_
        obtain ⟨x23, w21, e22, h⟩ := obS2 h
        have ge22 := calSR_of e22
        refine j_callS_g (pc := 87) (As := [.ref a3, .ref a7, .int i8, .int i9, .int i10]) (k' := 0) (n' := 0) dL_places_87 (s_L_isNear ge22.1) (jgS lw_626 lw_627 lw_597 lw_625) rfl hy_L_isNear rfl (by decide) (by decide) (Nat.le_of_ble_eq_true rfl) (by decide) (by decide) (by decide) (by decide) (Or.inl ge22.2) ?_
        refine j_if_eq (pc := 90) (tgt := 129) dL_places_90 (by decide) (fun c24 => ?_) (fun c24 => ?_)
        · rw [if_pos c24] at h
          refine j_mask [true, true, true, true, true, true, true, true, true, true, true, false, true, false] ?_
          exact jm_L_places_b129 _ _ _ _ _ _ _ _ _ _ _ _ w21 h
        · rw [if_neg c24] at h
          refine j_aload (pc := 93) dL_places_93 rfl ?_
          refine j_aload (pc := 95) dL_places_95 rfl ?_
          refine j_aload (pc := 97) dL_places_97 rfl ?_
          refine j_bipush (pc := 99) dL_places_99 (v := 8) (by decide) ?_
          obtain ⟨x25, e26, h⟩ := obS h
          refine j_iald (pc := 101) dL_places_101 e26 ?_
          refine j_iload (pc := 102) dL_places_102 rfl ?_
          refine j_iload (pc := 104) dL_places_104 rfl ?_
          obtain ⟨x29, w27, e28, h⟩ := obS2 h
          have ge28 := calSR_of e28
          refine j_callS_g (pc := 106) (As := [.ref a4, .ref a5, .int x25, .int i9, .int i10]) (k' := 0) (n' := 0) dL_places_106 (s_L_isTaken ge28.1) (jgS lw_629 lw_630 lw_597 lw_628) rfl hy_L_isTaken rfl (by decide) (by decide) (Nat.le_of_ble_eq_true rfl) (by decide) (by decide) (by decide) (by decide) (Or.inl ge28.2) ?_
          refine j_if_ne (pc := 109) (tgt := 129) dL_places_109 (by decide) (fun c30 => ?_) (fun c30 => ?_)
          · rw [if_neg c30] at h
            refine j_mask [true, true, true, true, true, true, true, true, true, true, true, false, true, false] ?_
            exact jm_L_places_b129 _ _ _ _ _ _ _ _ _ _ _ _ w27 h
          · rw [if_pos c30] at h
            refine j_iload (pc := 112) dL_places_112 rfl ?_
            refine j_iconst (pc := 114) dL_places_114 (v := 3) (by decide) ?_
            refine j_icmp_ge (pc := 115) (tgt := 129) dL_places_115 (by decide) (fun c31 => ?_) (fun c31 => ?_)
            · rw [if_pos c31] at h
              refine j_mask [true, true, true, true, true, true, true, true, true, true, true, false, true, false] ?_
              exact jm_L_places_b129 _ _ _ _ _ _ _ _ _ _ _ _ w27 h
            · rw [if_neg c31] at h
              refine j_iload (pc := 118) dL_places_118 rfl ?_
              refine j_bipush (pc := 120) dL_places_120 (v := (-3)) (by decide) ?_
              refine j_icmp_le (pc := 122) (tgt := 129) dL_places_122 (by decide) (fun c32 => ?_) (fun c32 => ?_)
              · rw [if_pos c32] at h
                refine j_mask [true, true, true, true, true, true, true, true, true, true, true, false, true, false] ?_
                exact jm_L_places_b129 _ _ _ _ _ _ _ _ _ _ _ _ w27 h
              · rw [if_neg c32] at h
                refine j_iconst (pc := 125) dL_places_125 (v := 1) (by decide) ?_
                refine j_goto (pc := 126) (tgt := 130) dL_places_126 (by decide) ?_
                refine j_mask [true, true, true, true, true, true, true, true, true, true, true, false, true, false] ?_
                exact jm_L_places_b130 _ _ _ _ _ _ _ _ _ _ _ _ _ w27 h
def wsL_canShift : List Cond := Cond.code yL_canShift cL_canShift 8 (some .boolean) :: jW
def m_L_canShift_b107 (k58 : Nat → Nat → Nat → Nat → Int32 → Int32 → Int32 → Int32 → LWd → Option (Int32 × LWd)) (a0 : Nat) (a1 : Nat) (a2 : Nat) (a3 : Nat) (i4 : Int32) (i5 : Int32) (i7 : Int32) (s0 : Int32) (ws : LWd) : Option (Int32 × LWd) :=
  k58 a0 a1 a2 a3 i4 i5 s0 (i7 + 1) ws
set_option maxRecDepth 100000 in
set_option maxHeartbeats 4000000 in
theorem jm_L_canShift_b107 {n0 : Nat} {rr : Int32} {ws' : LWd} {k58 : Nat → Nat → Nat → Nat → Int32 → Int32 → Int32 → Int32 → LWd → Option (Int32 × LWd)} (hk58 : ∀ (a0 : Nat) (a1 : Nat) (a2 : Nat) (a3 : Nat) (i4 : Int32) (i5 : Int32) (i6 : Int32) (i7 : Int32) (ws : LWd), k58 a0 a1 a2 a3 i4 i5 i6 i7 ws = some (rr, ws') → JG (.inl false) cL_canShift 8 RL wsL_canShift (some .boolean) "canShift" 2 0 0 n0 (.inl (some (.int rr)), ws') 58 [some (.ref a0), some (.ref a1), some (.ref a2), some (.ref a3), some (.int i4), some (.int i5), some (.int i6), some (.int i7)] [] ws 0 0) (a0 : Nat) (a1 : Nat) (a2 : Nat) (a3 : Nat) (i4 : Int32) (i5 : Int32) (i7 : Int32) (s0 : Int32) (ws : LWd) (h : m_L_canShift_b107 k58 a0 a1 a2 a3 i4 i5 i7 s0 ws = some (rr, ws')) : JG (.inl false) cL_canShift 8 RL wsL_canShift (some .boolean) "canShift" 2 0 0 n0 (.inl (some (.int rr)), ws') 107 [some (.ref a0), some (.ref a1), some (.ref a2), some (.ref a3), some (.int i4), some (.int i5), none, some (.int i7)] [.int s0] ws 0 0 := by
  unfold m_L_canShift_b107 at h
  refine j_istore_6 (pc := 107) dL_canShift_107 (by decide) rfl ?_
  refine j_iinc_7 (pc := 109) dL_canShift_109 (y := i7 + 1) rfl (by decide) rfl ?_
  refine j_goto (pc := 112) (tgt := 58) dL_canShift_112 (by decide) ?_
  exact hk58 _ _ _ _ _ _ _ _ ws h
def m_L_canShift_b106 (k58 : Nat → Nat → Nat → Nat → Int32 → Int32 → Int32 → Int32 → LWd → Option (Int32 × LWd)) (a0 : Nat) (a1 : Nat) (a2 : Nat) (a3 : Nat) (i4 : Int32) (i5 : Int32) (i7 : Int32) (ws : LWd) : Option (Int32 × LWd) :=
  m_L_canShift_b107 k58 a0 a1 a2 a3 i4 i5 i7 0 ws
set_option maxRecDepth 100000 in
set_option maxHeartbeats 4000000 in
theorem jm_L_canShift_b106 {n0 : Nat} {rr : Int32} {ws' : LWd} {k58 : Nat → Nat → Nat → Nat → Int32 → Int32 → Int32 → Int32 → LWd → Option (Int32 × LWd)} (hk58 : ∀ (a0 : Nat) (a1 : Nat) (a2 : Nat) (a3 : Nat) (i4 : Int32) (i5 : Int32) (i6 : Int32) (i7 : Int32) (ws : LWd), k58 a0 a1 a2 a3 i4 i5 i6 i7 ws = some (rr, ws') → JG (.inl false) cL_canShift 8 RL wsL_canShift (some .boolean) "canShift" 2 0 0 n0 (.inl (some (.int rr)), ws') 58 [some (.ref a0), some (.ref a1), some (.ref a2), some (.ref a3), some (.int i4), some (.int i5), some (.int i6), some (.int i7)] [] ws 0 0) (a0 : Nat) (a1 : Nat) (a2 : Nat) (a3 : Nat) (i4 : Int32) (i5 : Int32) (i7 : Int32) (ws : LWd) (h : m_L_canShift_b106 k58 a0 a1 a2 a3 i4 i5 i7 ws = some (rr, ws')) : JG (.inl false) cL_canShift 8 RL wsL_canShift (some .boolean) "canShift" 2 0 0 n0 (.inl (some (.int rr)), ws') 106 [some (.ref a0), some (.ref a1), some (.ref a2), some (.ref a3), some (.int i4), some (.int i5), none, some (.int i7)] [] ws 0 0 := by
  unfold m_L_canShift_b106 at h
  refine j_iconst (pc := 106) dL_canShift_106 (v := 0) (by decide) ?_
  exact jm_L_canShift_b107 (hk58 := hk58) _ _ _ _ _ _ _ _ ws h
def m_L_canShift_b102 (k58 : Nat → Nat → Nat → Nat → Int32 → Int32 → Int32 → Int32 → LWd → Option (Int32 × LWd)) (a0 : Nat) (a1 : Nat) (a2 : Nat) (a3 : Nat) (i4 : Int32) (i5 : Int32) (i7 : Int32) (ws : LWd) : Option (Int32 × LWd) :=
  m_L_canShift_b107 k58 a0 a1 a2 a3 i4 i5 i7 1 ws
set_option maxRecDepth 100000 in
set_option maxHeartbeats 4000000 in
theorem jm_L_canShift_b102 {n0 : Nat} {rr : Int32} {ws' : LWd} {k58 : Nat → Nat → Nat → Nat → Int32 → Int32 → Int32 → Int32 → LWd → Option (Int32 × LWd)} (hk58 : ∀ (a0 : Nat) (a1 : Nat) (a2 : Nat) (a3 : Nat) (i4 : Int32) (i5 : Int32) (i6 : Int32) (i7 : Int32) (ws : LWd), k58 a0 a1 a2 a3 i4 i5 i6 i7 ws = some (rr, ws') → JG (.inl false) cL_canShift 8 RL wsL_canShift (some .boolean) "canShift" 2 0 0 n0 (.inl (some (.int rr)), ws') 58 [some (.ref a0), some (.ref a1), some (.ref a2), some (.ref a3), some (.int i4), some (.int i5), some (.int i6), some (.int i7)] [] ws 0 0) (a0 : Nat) (a1 : Nat) (a2 : Nat) (a3 : Nat) (i4 : Int32) (i5 : Int32) (i7 : Int32) (ws : LWd) (h : m_L_canShift_b102 k58 a0 a1 a2 a3 i4 i5 i7 ws = some (rr, ws')) : JG (.inl false) cL_canShift 8 RL wsL_canShift (some .boolean) "canShift" 2 0 0 n0 (.inl (some (.int rr)), ws') 102 [some (.ref a0), some (.ref a1), some (.ref a2), some (.ref a3), some (.int i4), some (.int i5), none, some (.int i7)] [] ws 0 0 := by
  unfold m_L_canShift_b102 at h
  refine j_iconst (pc := 102) dL_canShift_102 (v := 1) (by decide) ?_
  refine j_goto (pc := 103) (tgt := 107) dL_canShift_103 (by decide) ?_
  exact jm_L_canShift_b107 (hk58 := hk58) _ _ _ _ _ _ _ _ ws h
def m_L_canShift_l58 : Nat → Nat → Nat → Nat → Nat → Int32 → Int32 → Int32 → Int32 → LWd → Option (Int32 × LWd)
  | 0, _, _, _, _, _, _, _, _, _ => none
  | fu + 1, a0, a1, a2, a3, i4, i5, i6, i7, ws =>
    (aI ws a3 7).bind fun x1 =>
    if x1 ≤ i7 then
      (aI ws a3 1).bind fun x4 =>
      (sI ws a3 1 (x4 - i4)).bind fun w6 =>
      (aI w6 a3 2).bind fun x8 =>
      (sI w6 a3 2 (x8 - i5)).bind fun w10 =>
      retZ i6 w10
    else
      if i6 = 0 then
        m_L_canShift_b106 (fun z0 z1 z2 z3 z4 z5 z6 z7 w => m_L_canShift_l58 fu z0 z1 z2 z3 z4 z5 z6 z7 w) a0 a1 a2 a3 i4 i5 i7 ws
      else
        (aI ws a3 8).bind fun x13 =>
        if ((x13 >>> (i7 &&& 31)) &&& 1) = 0 then
          m_L_canShift_b102 (fun z0 z1 z2 z3 z4 z5 z6 z7 w => m_L_canShift_l58 fu z0 z1 z2 z3 z4 z5 z6 z7 w) a0 a1 a2 a3 i4 i5 i7 ws
        else
          (aI ws a1 i7).bind fun x16 =>
          (aI ws a2 i7).bind fun x18 =>
          bn2 (calSR ws (m_L_isNear a0 a3 i7 x16 x18 ws)) fun x22 w20 =>
          if x22 = 0 then
            m_L_canShift_b106 (fun z0 z1 z2 z3 z4 z5 z6 z7 w => m_L_canShift_l58 fu z0 z1 z2 z3 z4 z5 z6 z7 w) a0 a1 a2 a3 i4 i5 i7 w20
          else
            m_L_canShift_b102 (fun z0 z1 z2 z3 z4 z5 z6 z7 w => m_L_canShift_l58 fu z0 z1 z2 z3 z4 z5 z6 z7 w) a0 a1 a2 a3 i4 i5 i7 w20
set_option maxRecDepth 100000 in
set_option maxHeartbeats 4000000 in
theorem jm_L_canShift_l58 {n0 : Nat} {rr : Int32} {ws' : LWd} : ∀ (fu : Nat) (a0 : Nat) (a1 : Nat) (a2 : Nat) (a3 : Nat) (i4 : Int32) (i5 : Int32) (i6 : Int32) (i7 : Int32) (ws : LWd), m_L_canShift_l58 fu a0 a1 a2 a3 i4 i5 i6 i7 ws = some (rr, ws') → JG (.inl false) cL_canShift 8 RL wsL_canShift (some .boolean) "canShift" 2 0 0 n0 (.inl (some (.int rr)), ws') 58 [some (.ref a0), some (.ref a1), some (.ref a2), some (.ref a3), some (.int i4), some (.int i5), some (.int i6), some (.int i7)] [] ws 0 0 := by
  intro fu
  induction fu with
  | zero => intro a0 a1 a2 a3 i4 i5 i6 i7 ws h; first | (cases h; done) | (rw [m_L_canShift_l58] at h; cases h)
  | succ fu ih =>
    intro a0 a1 a2 a3 i4 i5 i6 i7 ws h
    rw [m_L_canShift_l58] at h
    refine j_iload (pc := 58) dL_canShift_58 rfl ?_
    refine j_aload_n (pc := 60) dL_canShift_60 rfl ?_
    refine j_bipush (pc := 61) dL_canShift_61 (v := 7) (by decide) ?_
    obtain ⟨x1, e2, h⟩ := obS h
    refine j_iald (pc := 63) dL_canShift_63 e2 ?_
    refine j_icmp_ge (pc := 64) (tgt := 115) dL_canShift_64 (by decide) (fun c3 => ?_) (fun c3 => ?_)
    · rw [if_pos c3] at h
      refine j_aload_n (pc := 115) dL_canShift_115 rfl ?_
      refine j_iconst (pc := 116) dL_canShift_116 (v := 1) (by decide) ?_
      refine j_dup2 (pc := 117) dL_canShift_117 rfl rfl ?_
      obtain ⟨x4, e5, h⟩ := obS h
      refine j_iald (pc := 118) dL_canShift_118 e5 ?_
      refine j_iload (pc := 119) dL_canShift_119 rfl ?_
      refine j_isub (pc := 121) dL_canShift_121 ?_
      obtain ⟨w6, e7, h⟩ := obS h
      refine j_iast (pc := 122) dL_canShift_122 e7 ?_
      refine j_aload_n (pc := 123) dL_canShift_123 rfl ?_
      refine j_iconst (pc := 124) dL_canShift_124 (v := 2) (by decide) ?_
      refine j_dup2 (pc := 125) dL_canShift_125 rfl rfl ?_
      obtain ⟨x8, e9, h⟩ := obS h
      refine j_iald (pc := 126) dL_canShift_126 e9 ?_
      refine j_iload (pc := 127) dL_canShift_127 rfl ?_
      refine j_isub (pc := 129) dL_canShift_129 ?_
      obtain ⟨w10, e11, h⟩ := obS h
      refine j_iast (pc := 130) dL_canShift_130 e11 ?_
      refine j_iload (pc := 131) dL_canShift_131 rfl ?_
      exact j_zret (pc := 133) rfl dL_canShift_133 (by decide) (by decide) h rfl rfl
    · rw [if_neg c3] at h
      refine j_iload (pc := 67) dL_canShift_67 rfl ?_
      refine j_if_eq (pc := 69) (tgt := 106) dL_canShift_69 (by decide) (fun c12 => ?_) (fun c12 => ?_)
      · rw [if_pos c12] at h
        refine j_mask [true, true, true, true, true, true, false, true] ?_
        exact jm_L_canShift_b106 (hk58 := ih) _ _ _ _ _ _ _ ws h
      · rw [if_neg c12] at h
        refine j_aload_n (pc := 72) dL_canShift_72 rfl ?_
        refine j_bipush (pc := 73) dL_canShift_73 (v := 8) (by decide) ?_
        obtain ⟨x13, e14, h⟩ := obS h
        refine j_iald (pc := 75) dL_canShift_75 e14 ?_
        refine j_iload (pc := 76) dL_canShift_76 rfl ?_
        refine j_ishr (pc := 78) dL_canShift_78 ?_
        refine j_iconst (pc := 79) dL_canShift_79 (v := 1) (by decide) ?_
        refine j_iand (pc := 80) dL_canShift_80 ?_
        refine j_if_eq (pc := 81) (tgt := 102) dL_canShift_81 (by decide) (fun c15 => ?_) (fun c15 => ?_)
        · rw [if_pos c15] at h
          refine j_mask [true, true, true, true, true, true, false, true] ?_
          exact jm_L_canShift_b102 (hk58 := ih) _ _ _ _ _ _ _ ws h
        · rw [if_neg c15] at h
          refine j_aload_n (pc := 84) dL_canShift_84 rfl ?_
          refine j_aload_n (pc := 85) dL_canShift_85 rfl ?_
          refine j_iload (pc := 86) dL_canShift_86 rfl ?_
          refine j_aload_n (pc := 88) dL_canShift_88 rfl ?_
          refine j_iload (pc := 89) dL_canShift_89 rfl ?_
          obtain ⟨x16, e17, h⟩ := obS h
          refine j_iald (pc := 91) dL_canShift_91 e17 ?_
          refine j_aload_n (pc := 92) dL_canShift_92 rfl ?_
          refine j_iload (pc := 93) dL_canShift_93 rfl ?_
          obtain ⟨x18, e19, h⟩ := obS h
          refine j_iald (pc := 95) dL_canShift_95 e19 ?_
          obtain ⟨x22, w20, e21, h⟩ := obS2 h
          have ge21 := calSR_of e21
          refine j_callS_g (pc := 96) (As := [.ref a0, .ref a3, .int i7, .int x16, .int x18]) (k' := 0) (n' := 0) dL_canShift_96 (s_L_isNear ge21.1) (jgS lw_626 lw_627 lw_597 lw_625) rfl hy_L_isNear rfl (by decide) (by decide) (Nat.le_of_ble_eq_true rfl) (by decide) (by decide) (by decide) (by decide) (Or.inl ge21.2) ?_
          refine j_if_eq (pc := 99) (tgt := 106) dL_canShift_99 (by decide) (fun c23 => ?_) (fun c23 => ?_)
          · rw [if_pos c23] at h
            refine j_mask [true, true, true, true, true, true, false, true] ?_
            exact jm_L_canShift_b106 (hk58 := ih) _ _ _ _ _ _ _ w20 h
          · rw [if_neg c23] at h
            refine j_mask [true, true, true, true, true, true, false, true] ?_
            exact jm_L_canShift_b102 (hk58 := ih) _ _ _ _ _ _ _ w20 h
def m_L_canShift_b53 (a0 : Nat) (a1 : Nat) (a2 : Nat) (a3 : Nat) (i4 : Int32) (i5 : Int32) (s0 : Int32) (ws : LWd) : Option (Int32 × LWd) :=
  m_L_canShift_l58 FU a0 a1 a2 a3 i4 i5 s0 0 ws
set_option maxRecDepth 100000 in
set_option maxHeartbeats 4000000 in
theorem jm_L_canShift_b53 {n0 : Nat} {rr : Int32} {ws' : LWd} (a0 : Nat) (a1 : Nat) (a2 : Nat) (a3 : Nat) (i4 : Int32) (i5 : Int32) (s0 : Int32) (ws : LWd) (h : m_L_canShift_b53 a0 a1 a2 a3 i4 i5 s0 ws = some (rr, ws')) : JG (.inl false) cL_canShift 8 RL wsL_canShift (some .boolean) "canShift" 2 0 0 n0 (.inl (some (.int rr)), ws') 53 [some (.ref a0), some (.ref a1), some (.ref a2), some (.ref a3), some (.int i4), some (.int i5), none, none] [.int s0] ws 0 0 := by
  unfold m_L_canShift_b53 at h
  refine j_istore_6 (pc := 53) dL_canShift_53 (by decide) rfl ?_
  refine j_iconst (pc := 55) dL_canShift_55 (v := 0) (by decide) ?_
  refine j_istore_7 (pc := 56) dL_canShift_56 (by decide) rfl ?_
  exact jm_L_canShift_l58 FU _ _ _ _ _ _ _ _ ws h
def m_L_canShift_b52 (a0 : Nat) (a1 : Nat) (a2 : Nat) (a3 : Nat) (i4 : Int32) (i5 : Int32) (ws : LWd) : Option (Int32 × LWd) :=
  m_L_canShift_b53 a0 a1 a2 a3 i4 i5 0 ws
set_option maxRecDepth 100000 in
set_option maxHeartbeats 4000000 in
theorem jm_L_canShift_b52 {n0 : Nat} {rr : Int32} {ws' : LWd} (a0 : Nat) (a1 : Nat) (a2 : Nat) (a3 : Nat) (i4 : Int32) (i5 : Int32) (ws : LWd) (h : m_L_canShift_b52 a0 a1 a2 a3 i4 i5 ws = some (rr, ws')) : JG (.inl false) cL_canShift 8 RL wsL_canShift (some .boolean) "canShift" 2 0 0 n0 (.inl (some (.int rr)), ws') 52 [some (.ref a0), some (.ref a1), some (.ref a2), some (.ref a3), some (.int i4), some (.int i5), none, none] [] ws 0 0 := by
  unfold m_L_canShift_b52 at h
  refine j_iconst (pc := 52) dL_canShift_52 (v := 0) (by decide) ?_
  exact jm_L_canShift_b53 _ _ _ _ _ _ _ ws h
def m_L_canShift (a0 : Nat) (a1 : Nat) (a2 : Nat) (a3 : Nat) (i4 : Int32) (i5 : Int32) (ws : LWd) : Option (Int32 × LWd) :=
  (aI ws a3 1).bind fun x1 =>
  (sI ws a3 1 (x1 + i4)).bind fun w3 =>
  (aI w3 a3 2).bind fun x5 =>
  (sI w3 a3 2 (x5 + i5)).bind fun w7 =>
  (aI w7 a3 0).bind fun x9 =>
  if x9 = 1 then
    (aI w7 a3 1).bind fun x12 =>
    (aI w7 a3 2).bind fun x14 =>
    bn2 (calSR w7 (m_L_isIn x12 x14 w7)) fun x18 w16 =>
    if x18 = 0 then
      m_L_canShift_b52 a0 a1 a2 a3 i4 i5 w16
    else
      (aI w16 a3 8).bind fun x20 =>
      bn2 (calSR w16 (m_L_holds a1 a2 a3 x20 w16)) fun x24 w22 =>
      if x24 = 0 then
        m_L_canShift_b52 a0 a1 a2 a3 i4 i5 w22
      else
        m_L_canShift_b53 a0 a1 a2 a3 i4 i5 1 w22
  else
    m_L_canShift_b52 a0 a1 a2 a3 i4 i5 w7
set_option maxRecDepth 100000 in
set_option maxHeartbeats 4000000 in
theorem s_L_canShift {a0 : Nat} {a1 : Nat} {a2 : Nat} {a3 : Nat} {i4 : Int32} {i5 : Int32} {ws : LWd} {rr : Int32} {ws' : LWd} (h : m_L_canShift a0 a1 a2 a3 i4 i5 ws = some (rr, ws')) : jSp yL_canShift wsL_canShift 2 0 0 [.ref a0, .ref a1, .ref a2, .ref a3, .int i4, .int i5] ws (.inl (some (.int rr)), ws') := by
  unfold m_L_canShift at h
  refine j_entry (ret := (some .boolean)) (nm := "canShift") (own := RL) pl_L rfl rfl rfl (jcats (by rfl)) (Nat.le_of_ble_eq_true rfl) ?_
  show JG (.inl false) cL_canShift 8 RL wsL_canShift (some .boolean) "canShift" 2 0 0 ws.length (.inl (some (.int rr)), ws') 0 [some (.ref a0), some (.ref a1), some (.ref a2), some (.ref a3), some (.int i4), some (.int i5), none, none] [] ws 0 0
  refine j_aload_n (pc := 0) dL_canShift_0 rfl ?_
  refine j_iconst (pc := 1) dL_canShift_1 (v := 1) (by decide) ?_
  refine j_dup2 (pc := 2) dL_canShift_2 rfl rfl ?_
  obtain ⟨x1, e2, h⟩ := obS h
  refine j_iald (pc := 3) dL_canShift_3 e2 ?_
  refine j_iload (pc := 4) dL_canShift_4 rfl ?_
  refine j_iadd (pc := 6) dL_canShift_6 ?_
  obtain ⟨w3, e4, h⟩ := obS h
  refine j_iast (pc := 7) dL_canShift_7 e4 ?_
  refine j_aload_n (pc := 8) dL_canShift_8 rfl ?_
  refine j_iconst (pc := 9) dL_canShift_9 (v := 2) (by decide) ?_
  refine j_dup2 (pc := 10) dL_canShift_10 rfl rfl ?_
  obtain ⟨x5, e6, h⟩ := obS h
  refine j_iald (pc := 11) dL_canShift_11 e6 ?_
  refine j_iload (pc := 12) dL_canShift_12 rfl ?_
  refine j_iadd (pc := 14) dL_canShift_14 ?_
  obtain ⟨w7, e8, h⟩ := obS h
  refine j_iast (pc := 15) dL_canShift_15 e8 ?_
  refine j_aload_n (pc := 16) dL_canShift_16 rfl ?_
  refine j_iconst (pc := 17) dL_canShift_17 (v := 0) (by decide) ?_
  obtain ⟨x9, e10, h⟩ := obS h
  refine j_iald (pc := 18) dL_canShift_18 e10 ?_
  refine j_iconst (pc := 19) dL_canShift_19 (v := 1) (by decide) ?_
  refine j_icmp_ne (pc := 20) (tgt := 52) dL_canShift_20 (by decide) (fun c11 => ?_) (fun c11 => ?_)
  · rw [if_neg c11] at h
    exact jm_L_canShift_b52 _ _ _ _ _ _ w7 h
  · rw [if_pos c11] at h
    refine j_aload_n (pc := 23) dL_canShift_23 rfl ?_
    refine j_iconst (pc := 24) dL_canShift_24 (v := 1) (by decide) ?_
    obtain ⟨x12, e13, h⟩ := obS h
    refine j_iald (pc := 25) dL_canShift_25 e13 ?_
    refine j_aload_n (pc := 26) dL_canShift_26 rfl ?_
    refine j_iconst (pc := 27) dL_canShift_27 (v := 2) (by decide) ?_
    obtain ⟨x14, e15, h⟩ := obS h
    refine j_iald (pc := 28) dL_canShift_28 e15 ?_
    obtain ⟨x18, w16, e17, h⟩ := obS2 h
    have ge17 := calSR_of e17
    refine j_callS_g (pc := 29) (As := [.int x12, .int x14]) (k' := 0) (n' := 0) dL_canShift_29 (s_L_isIn ge17.1) (jgS lw_644 lw_645 lw_597 lw_643) rfl hy_L_isIn rfl (by decide) (by decide) (Nat.le_of_ble_eq_true rfl) (by decide) (by decide) (by decide) (by decide) (Or.inl ge17.2) ?_
    refine j_if_eq (pc := 32) (tgt := 52) dL_canShift_32 (by decide) (fun c19 => ?_) (fun c19 => ?_)
    · rw [if_pos c19] at h
      exact jm_L_canShift_b52 _ _ _ _ _ _ w16 h
    · rw [if_neg c19] at h
      refine j_aload_n (pc := 35) dL_canShift_35 rfl ?_
      refine j_aload_n (pc := 36) dL_canShift_36 rfl ?_
      refine j_aload_n (pc := 37) dL_canShift_37 rfl ?_
      refine j_aload_n (pc := 38) dL_canShift_38 rfl ?_
      refine j_bipush (pc := 39) dL_canShift_39 (v := 8) (by decide) ?_
      obtain ⟨x20, e21, h⟩ := obS h
      refine j_iald (pc := 41) dL_canShift_41 e21 ?_
      obtain ⟨x24, w22, e23, h⟩ := obS2 h
      have ge23 := calSR_of e23
      refine j_callS_g (pc := 42) (As := [.ref a1, .ref a2, .ref a3, .int x20]) (k' := 0) (n' := 0) dL_canShift_42 (s_L_holds ge23.1) (jgS lw_623 lw_624 lw_597 lw_622) rfl hy_L_holds rfl (by decide) (by decide) (Nat.le_of_ble_eq_true rfl) (by decide) (by decide) (by decide) (by decide) (Or.inl ge23.2) ?_
      refine j_if_eq (pc := 45) (tgt := 52) dL_canShift_45 (by decide) (fun c25 => ?_) (fun c25 => ?_)
      · rw [if_pos c25] at h
        exact jm_L_canShift_b52 _ _ _ _ _ _ w22 h
      · rw [if_neg c25] at h
        refine j_iconst (pc := 48) dL_canShift_48 (v := 1) (by decide) ?_
        refine j_goto (pc := 49) (tgt := 53) dL_canShift_49 (by decide) ?_
        exact jm_L_canShift_b53 _ _ _ _ _ _ _ w22 h
def wsL_shifts : List Cond := Cond.code yL_shifts cL_shifts 11 (some .boolean) :: jW
def m_L_shifts_b44 (a0 : Nat) (a1 : Nat) (a3 : Nat) (a4 : Nat) (a5 : Nat) (a6 : Nat) (i7 : Int32) (i8 : Int32) (i9 : Int32) (s0 : Int32) (ws : LWd) : Option (Int32 × LWd) :=
  (sI ws a6 14 0).bind fun w1 =>
  if s0 = 0 then
    retZ s0 w1
  else
    (aI w1 a6 3).bind fun x4 =>
    (sI w1 a6 3 (x4 - i9)).bind fun w6 =>
    (aI w6 a6 1).bind fun x8 =>
    (sI w6 a6 1 (x8 + i7)).bind fun w10 =>
    (aI w10 a6 2).bind fun x12 =>
    (sI w10 a6 2 (x12 + i8)).bind fun w14 =>
    (calSV w14 (m_L_settles a0 a1 a3 a4 a5 a6 w14)).bind fun w16 =>
    retZ s0 w16
set_option maxRecDepth 100000 in
set_option maxHeartbeats 4000000 in
theorem jm_L_shifts_b44 {n0 : Nat} {rr : Int32} {ws' : LWd} (a0 : Nat) (a1 : Nat) (a3 : Nat) (a4 : Nat) (a5 : Nat) (a6 : Nat) (i7 : Int32) (i8 : Int32) (i9 : Int32) (s0 : Int32) (ws : LWd) (h : m_L_shifts_b44 a0 a1 a3 a4 a5 a6 i7 i8 i9 s0 ws = some (rr, ws')) : JG (.inl false) cL_shifts 11 RL wsL_shifts (some .boolean) "shifts" 4 0 0 n0 (.inl (some (.int rr)), ws') 44 [some (.ref a0), some (.ref a1), none, some (.ref a3), some (.ref a4), some (.ref a5), some (.ref a6), some (.int i7), some (.int i8), some (.int i9), none] [.int s0] ws 0 0 := by
  unfold m_L_shifts_b44 at h
  refine j_istore_10 (pc := 44) dL_shifts_44 (by decide) rfl ?_
  refine j_aload (pc := 46) dL_shifts_46 rfl ?_
  refine j_bipush (pc := 48) dL_shifts_48 (v := 14) (by decide) ?_
  refine j_iconst (pc := 50) dL_shifts_50 (v := 0) (by decide) ?_
  obtain ⟨w1, e2, h⟩ := obS h
  refine j_iast (pc := 51) dL_shifts_51 e2 ?_
  refine j_iload (pc := 52) dL_shifts_52 rfl ?_
  refine j_if_eq (pc := 54) (tgt := 96) dL_shifts_54 (by decide) (fun c3 => ?_) (fun c3 => ?_)
  · rw [if_pos c3] at h
    refine j_iload (pc := 96) dL_shifts_96 rfl ?_
    exact j_zret (pc := 98) rfl dL_shifts_98 (by decide) (by decide) h rfl rfl
  · rw [if_neg c3] at h
    refine j_aload (pc := 57) dL_shifts_57 rfl ?_
    refine j_iconst (pc := 59) dL_shifts_59 (v := 3) (by decide) ?_
    refine j_dup2 (pc := 60) dL_shifts_60 rfl rfl ?_
    obtain ⟨x4, e5, h⟩ := obS h
    refine j_iald (pc := 61) dL_shifts_61 e5 ?_
    refine j_iload (pc := 62) dL_shifts_62 rfl ?_
    refine j_isub (pc := 64) dL_shifts_64 ?_
    obtain ⟨w6, e7, h⟩ := obS h
    refine j_iast (pc := 65) dL_shifts_65 e7 ?_
    refine j_aload (pc := 66) dL_shifts_66 rfl ?_
    refine j_iconst (pc := 68) dL_shifts_68 (v := 1) (by decide) ?_
    refine j_dup2 (pc := 69) dL_shifts_69 rfl rfl ?_
    obtain ⟨x8, e9, h⟩ := obS h
    refine j_iald (pc := 70) dL_shifts_70 e9 ?_
    refine j_iload (pc := 71) dL_shifts_71 rfl ?_
    refine j_iadd (pc := 73) dL_shifts_73 ?_
    obtain ⟨w10, e11, h⟩ := obS h
    refine j_iast (pc := 74) dL_shifts_74 e11 ?_
    refine j_aload (pc := 75) dL_shifts_75 rfl ?_
    refine j_iconst (pc := 77) dL_shifts_77 (v := 2) (by decide) ?_
    refine j_dup2 (pc := 78) dL_shifts_78 rfl rfl ?_
    obtain ⟨x12, e13, h⟩ := obS h
    refine j_iald (pc := 79) dL_shifts_79 e13 ?_
    refine j_iload (pc := 80) dL_shifts_80 rfl ?_
    refine j_iadd (pc := 82) dL_shifts_82 ?_
    obtain ⟨w14, e15, h⟩ := obS h
    refine j_iast (pc := 83) dL_shifts_83 e15 ?_
    refine j_aload_n (pc := 84) dL_shifts_84 rfl ?_
    refine j_aload_n (pc := 85) dL_shifts_85 rfl ?_
    refine j_aload_n (pc := 86) dL_shifts_86 rfl ?_
    refine j_aload (pc := 87) dL_shifts_87 rfl ?_
    refine j_aload (pc := 89) dL_shifts_89 rfl ?_
    refine j_aload (pc := 91) dL_shifts_91 rfl ?_
    obtain ⟨w16, e17, h⟩ := obS h
    have ge17 := calSV_of e17
    refine j_callS_g (pc := 93) (As := [.ref a0, .ref a1, .ref a3, .ref a4, .ref a5, .ref a6]) (k' := 0) (n' := 0) dL_shifts_93 (s_L_settles ge17.1) (jgS lw_632 lw_633 lw_597 lw_631) rfl hy_L_settles rfl (by decide) (by decide) (Nat.le_of_ble_eq_true rfl) (by decide) (by decide) (by decide) (by decide) (Or.inl ge17.2) ?_
    refine j_iload (pc := 96) dL_shifts_96 rfl ?_
    exact j_zret (pc := 98) rfl dL_shifts_98 (by decide) (by decide) h rfl rfl
def m_L_shifts_b43 (a0 : Nat) (a1 : Nat) (a3 : Nat) (a4 : Nat) (a5 : Nat) (a6 : Nat) (i7 : Int32) (i8 : Int32) (i9 : Int32) (ws : LWd) : Option (Int32 × LWd) :=
  m_L_shifts_b44 a0 a1 a3 a4 a5 a6 i7 i8 i9 0 ws
set_option maxRecDepth 100000 in
set_option maxHeartbeats 4000000 in
theorem jm_L_shifts_b43 {n0 : Nat} {rr : Int32} {ws' : LWd} (a0 : Nat) (a1 : Nat) (a3 : Nat) (a4 : Nat) (a5 : Nat) (a6 : Nat) (i7 : Int32) (i8 : Int32) (i9 : Int32) (ws : LWd) (h : m_L_shifts_b43 a0 a1 a3 a4 a5 a6 i7 i8 i9 ws = some (rr, ws')) : JG (.inl false) cL_shifts 11 RL wsL_shifts (some .boolean) "shifts" 4 0 0 n0 (.inl (some (.int rr)), ws') 43 [some (.ref a0), some (.ref a1), none, some (.ref a3), some (.ref a4), some (.ref a5), some (.ref a6), some (.int i7), some (.int i8), some (.int i9), none] [] ws 0 0 := by
  unfold m_L_shifts_b43 at h
  refine j_iconst (pc := 43) dL_shifts_43 (v := 0) (by decide) ?_
  exact jm_L_shifts_b44 _ _ _ _ _ _ _ _ _ _ ws h
def m_L_shifts (a0 : Nat) (a1 : Nat) (a2 : Nat) (a3 : Nat) (a4 : Nat) (a5 : Nat) (a6 : Nat) (i7 : Int32) (i8 : Int32) (ws : LWd) : Option (Int32 × LWd) :=
  (aI ws a6 4).bind fun x1 =>
  bn2 (calSR ws (m_L_canShift a2 a3 a4 a6 i7 i8 ws)) fun x5 w3 =>
  if x5 = 0 then
    m_L_shifts_b43 a0 a1 a3 a4 a5 a6 i7 i8 (1 + ((x1 + 9) / 10)) w3
  else
    (aI w3 a6 3).bind fun x7 =>
    if x7 < (1 + ((x1 + 9) / 10)) then
      m_L_shifts_b43 a0 a1 a3 a4 a5 a6 i7 i8 (1 + ((x1 + 9) / 10)) w3
    else
      m_L_shifts_b44 a0 a1 a3 a4 a5 a6 i7 i8 (1 + ((x1 + 9) / 10)) 1 w3
set_option maxRecDepth 100000 in
set_option maxHeartbeats 4000000 in
theorem s_L_shifts {a0 : Nat} {a1 : Nat} {a2 : Nat} {a3 : Nat} {a4 : Nat} {a5 : Nat} {a6 : Nat} {i7 : Int32} {i8 : Int32} {ws : LWd} {rr : Int32} {ws' : LWd} (h : m_L_shifts a0 a1 a2 a3 a4 a5 a6 i7 i8 ws = some (rr, ws')) : jSp yL_shifts wsL_shifts 4 0 0 [.ref a0, .ref a1, .ref a2, .ref a3, .ref a4, .ref a5, .ref a6, .int i7, .int i8] ws (.inl (some (.int rr)), ws') := by
  unfold m_L_shifts at h
  refine j_entry (ret := (some .boolean)) (nm := "shifts") (own := RL) pl_L rfl rfl rfl (jcats (by rfl)) (Nat.le_of_ble_eq_true rfl) ?_
  show JG (.inl false) cL_shifts 11 RL wsL_shifts (some .boolean) "shifts" 4 0 0 ws.length (.inl (some (.int rr)), ws') 0 [some (.ref a0), some (.ref a1), some (.ref a2), some (.ref a3), some (.ref a4), some (.ref a5), some (.ref a6), some (.int i7), some (.int i8), none, none] [] ws 0 0
  refine j_iconst (pc := 0) dL_shifts_0 (v := 1) (by decide) ?_
  refine j_aload (pc := 1) dL_shifts_1 rfl ?_
  refine j_iconst (pc := 3) dL_shifts_3 (v := 4) (by decide) ?_
  obtain ⟨x1, e2, h⟩ := obS h
  refine j_iald (pc := 4) dL_shifts_4 e2 ?_
  refine j_bipush (pc := 5) dL_shifts_5 (v := 9) (by decide) ?_
  refine j_iadd (pc := 7) dL_shifts_7 ?_
  refine j_bipush (pc := 8) dL_shifts_8 (v := 10) (by decide) ?_
  refine j_idiv (pc := 10) dL_shifts_10 (by decide) ?_
  refine j_iadd (pc := 11) dL_shifts_11 ?_
  refine j_istore_9 (pc := 12) dL_shifts_12 (by decide) rfl ?_
  refine j_aload_n (pc := 14) dL_shifts_14 rfl ?_
  refine j_aload_n (pc := 15) dL_shifts_15 rfl ?_
  refine j_aload (pc := 16) dL_shifts_16 rfl ?_
  refine j_aload (pc := 18) dL_shifts_18 rfl ?_
  refine j_iload (pc := 20) dL_shifts_20 rfl ?_
  refine j_iload (pc := 22) dL_shifts_22 rfl ?_
  obtain ⟨x5, w3, e4, h⟩ := obS2 h
  have ge4 := calSR_of e4
  refine j_callS_g (pc := 24) (As := [.ref a2, .ref a3, .ref a4, .ref a6, .int i7, .int i8]) (k' := 0) (n' := 0) dL_shifts_24 (s_L_canShift ge4.1) (jgS lw_647 lw_648 lw_597 lw_646) rfl hy_L_canShift rfl (by decide) (by decide) (Nat.le_of_ble_eq_true rfl) (by decide) (by decide) (by decide) (by decide) (Or.inl ge4.2) ?_
  refine j_if_eq (pc := 27) (tgt := 43) dL_shifts_27 (by decide) (fun c6 => ?_) (fun c6 => ?_)
  · rw [if_pos c6] at h
    refine j_mask [true, true, false, true, true, true, true, true, true, true, false] ?_
    exact jm_L_shifts_b43 _ _ _ _ _ _ _ _ _ w3 h
  · rw [if_neg c6] at h
    refine j_aload (pc := 30) dL_shifts_30 rfl ?_
    refine j_iconst (pc := 32) dL_shifts_32 (v := 3) (by decide) ?_
    obtain ⟨x7, e8, h⟩ := obS h
    refine j_iald (pc := 33) dL_shifts_33 e8 ?_
    refine j_iload (pc := 34) dL_shifts_34 rfl ?_
    refine j_icmp_lt (pc := 36) (tgt := 43) dL_shifts_36 (by decide) (fun c9 => ?_) (fun c9 => ?_)
    · rw [if_pos c9] at h
      refine j_mask [true, true, false, true, true, true, true, true, true, true, false] ?_
      exact jm_L_shifts_b43 _ _ _ _ _ _ _ _ _ w3 h
    · rw [if_neg c9] at h
      refine j_iconst (pc := 39) dL_shifts_39 (v := 1) (by decide) ?_
      refine j_goto (pc := 40) (tgt := 44) dL_shifts_40 (by decide) ?_
      refine j_mask [true, true, false, true, true, true, true, true, true, true, false] ?_
      exact jm_L_shifts_b44 _ _ _ _ _ _ _ _ _ _ w3 h
def wsL_nearest : List Cond := Cond.code yL_nearest cL_nearest 10 (some .long) :: jW
def m_L_nearest_b145 (i3 : Int32) (s0 : Int64) (ws : LWd) : Option (Int64 × LWd) :=
  some (s0 + ((Int32.toInt64 (i3 + 64)) <<< (Int32.toInt64 32 &&& 63)), ws)
set_option maxRecDepth 100000 in
set_option maxHeartbeats 4000000 in
theorem jm_L_nearest_b145 {n0 : Nat} {rr : Int64} {ws' : LWd} (i3 : Int32) (s0 : Int64) (ws : LWd) (h : m_L_nearest_b145 i3 s0 ws = some (rr, ws')) : JG (.inl false) cL_nearest 10 RL wsL_nearest (some .long) "nearest" 0 0 0 n0 (.inl (some (.long rr)), ws') 145 [none, none, none, some (.int i3), none, none, none, none, none, none] [.long s0] ws 0 0 := by
  unfold m_L_nearest_b145 at h
  refine j_lstore_4 (pc := 145) dL_nearest_145 (by decide) rfl ?_
  refine j_lload (pc := 147) dL_nearest_147 rfl ?_
  refine j_iload_n (pc := 149) dL_nearest_149 rfl ?_
  refine j_bipush (pc := 150) dL_nearest_150 (v := 64) (by decide) ?_
  refine j_iadd (pc := 152) dL_nearest_152 ?_
  refine j_i2l (pc := 153) dL_nearest_153 ?_
  refine j_bipush (pc := 154) dL_nearest_154 (v := 32) (by decide) ?_
  refine j_lshl (pc := 156) dL_nearest_156 ?_
  refine j_ladd (pc := 157) dL_nearest_157 ?_
  obtain ⟨rfl, rfl⟩ := jretS h
  exact j_jret (pc := 158) rfl dL_nearest_158 (by decide) (by decide) rfl
def m_L_nearest_b126 (l4 : Int64) (s0 : Int32) (s1 : Int32) (ws : LWd) : Option (Int64 × LWd) :=
  if (lg_cmp l4 16777216) = 0 then
    m_L_nearest_b145 (s0 + s1) 8388608 ws
  else
    m_L_nearest_b145 (s0 + s1) l4 ws
set_option maxRecDepth 100000 in
set_option maxHeartbeats 4000000 in
theorem jm_L_nearest_b126 {n0 : Nat} {rr : Int64} {ws' : LWd} (l4 : Int64) (s0 : Int32) (s1 : Int32) (ws : LWd) (h : m_L_nearest_b126 l4 s0 s1 ws = some (rr, ws')) : JG (.inl false) cL_nearest 10 RL wsL_nearest (some .long) "nearest" 0 0 0 n0 (.inl (some (.long rr)), ws') 126 [none, none, none, none, some (.long l4), none, none, none, none, none] [.int s1, .int s0] ws 0 0 := by
  unfold m_L_nearest_b126 at h
  refine j_iadd (pc := 126) dL_nearest_126 ?_
  refine j_istore_n_3 (pc := 127) dL_nearest_127 (by decide) rfl ?_
  refine j_lload (pc := 128) dL_nearest_128 rfl ?_
  refine j_ldc2 (pc := 130) dL_nearest_130 (v := 16777216) (jwm lw_649) ?_
  refine j_lcmp (pc := 133) dL_nearest_133 ?_
  refine j_if_ne (pc := 134) (tgt := 143) dL_nearest_134 (by decide) (fun c1 => ?_) (fun c1 => ?_)
  · rw [if_neg c1] at h
    refine j_lload (pc := 143) dL_nearest_143 rfl ?_
    refine j_mask [false, false, false, true, false, false, false, false, false, false] ?_
    exact jm_L_nearest_b145 _ _ ws h
  · rw [if_pos c1] at h
    refine j_ldc2 (pc := 137) dL_nearest_137 (v := 8388608) (jwm lw_650) ?_
    refine j_goto (pc := 140) (tgt := 145) dL_nearest_140 (by decide) ?_
    refine j_mask [false, false, false, true, false, false, false, false, false, false] ?_
    exact jm_L_nearest_b145 _ _ ws h
def m_L_nearest_b108 (i3 : Int32) (s0 : Int64) (s1 : Int64) (ws : LWd) : Option (Int64 × LWd) :=
  if (lg_cmp (s0 + s1) 16777216) = 0 then
    m_L_nearest_b126 (s0 + s1) i3 1 ws
  else
    m_L_nearest_b126 (s0 + s1) i3 0 ws
set_option maxRecDepth 100000 in
set_option maxHeartbeats 4000000 in
theorem jm_L_nearest_b108 {n0 : Nat} {rr : Int64} {ws' : LWd} (i3 : Int32) (s0 : Int64) (s1 : Int64) (ws : LWd) (h : m_L_nearest_b108 i3 s0 s1 ws = some (rr, ws')) : JG (.inl false) cL_nearest 10 RL wsL_nearest (some .long) "nearest" 0 0 0 n0 (.inl (some (.long rr)), ws') 108 [none, none, none, some (.int i3), none, none, none, none, none, none] [.long s1, .long s0] ws 0 0 := by
  unfold m_L_nearest_b108 at h
  refine j_ladd (pc := 108) dL_nearest_108 ?_
  refine j_lstore_4 (pc := 109) dL_nearest_109 (by decide) rfl ?_
  refine j_iload_n (pc := 111) dL_nearest_111 rfl ?_
  refine j_lload (pc := 112) dL_nearest_112 rfl ?_
  refine j_ldc2 (pc := 114) dL_nearest_114 (v := 16777216) (jwm lw_649) ?_
  refine j_lcmp (pc := 117) dL_nearest_117 ?_
  refine j_if_ne (pc := 118) (tgt := 125) dL_nearest_118 (by decide) (fun c1 => ?_) (fun c1 => ?_)
  · rw [if_neg c1] at h
    refine j_iconst (pc := 125) dL_nearest_125 (v := 0) (by decide) ?_
    refine j_mask [false, false, false, false, true, false, false, false, false, false] ?_
    exact jm_L_nearest_b126 _ _ _ ws h
  · rw [if_pos c1] at h
    refine j_iconst (pc := 121) dL_nearest_121 (v := 1) (by decide) ?_
    refine j_goto (pc := 122) (tgt := 126) dL_nearest_122 (by decide) ?_
    refine j_mask [false, false, false, false, true, false, false, false, false, false] ?_
    exact jm_L_nearest_b126 _ _ _ ws h
def m_L_nearest_b103 (i3 : Int32) (s0 : Int64) (ws : LWd) : Option (Int64 × LWd) :=
  m_L_nearest_b108 i3 s0 1 ws
set_option maxRecDepth 100000 in
set_option maxHeartbeats 4000000 in
theorem jm_L_nearest_b103 {n0 : Nat} {rr : Int64} {ws' : LWd} (i3 : Int32) (s0 : Int64) (ws : LWd) (h : m_L_nearest_b103 i3 s0 ws = some (rr, ws')) : JG (.inl false) cL_nearest 10 RL wsL_nearest (some .long) "nearest" 0 0 0 n0 (.inl (some (.long rr)), ws') 103 [none, none, none, some (.int i3), none, none, none, none, none, none] [.long s0] ws 0 0 := by
  unfold m_L_nearest_b103 at h
  refine j_lconst (pc := 103) dL_nearest_103 (v := 1) (by decide) ?_
  refine j_goto (pc := 104) (tgt := 108) dL_nearest_104 (by decide) ?_
  exact jm_L_nearest_b108 _ _ _ ws h
def m_L_nearest_b107 (i3 : Int32) (s0 : Int64) (ws : LWd) : Option (Int64 × LWd) :=
  m_L_nearest_b108 i3 s0 0 ws
set_option maxRecDepth 100000 in
set_option maxHeartbeats 4000000 in
theorem jm_L_nearest_b107 {n0 : Nat} {rr : Int64} {ws' : LWd} (i3 : Int32) (s0 : Int64) (ws : LWd) (h : m_L_nearest_b107 i3 s0 ws = some (rr, ws')) : JG (.inl false) cL_nearest 10 RL wsL_nearest (some .long) "nearest" 0 0 0 n0 (.inl (some (.long rr)), ws') 107 [none, none, none, some (.int i3), none, none, none, none, none, none] [.long s0] ws 0 0 := by
  unfold m_L_nearest_b107 at h
  refine j_lconst (pc := 107) dL_nearest_107 (v := 0) (by decide) ?_
  exact jm_L_nearest_b108 _ _ _ ws h
def m_L_nearest_b72 (i3 : Int32) (l4 : Int64) (l6 : Int64) (s0 : Int64) (ws : LWd) : Option (Int64 × LWd) :=
  if 0 < (lg_cmp l6 s0) then
    m_L_nearest_b103 i3 l4 ws
  else
    if (lg_cmp l6 s0) = 0 then
      if (lg_cmp (jlrem l4 2) 1) = 0 then
        m_L_nearest_b103 i3 l4 ws
      else
        m_L_nearest_b107 i3 l4 ws
    else
      m_L_nearest_b107 i3 l4 ws
set_option maxRecDepth 100000 in
set_option maxHeartbeats 4000000 in
theorem jm_L_nearest_b72 {n0 : Nat} {rr : Int64} {ws' : LWd} (i3 : Int32) (l4 : Int64) (l6 : Int64) (s0 : Int64) (ws : LWd) (h : m_L_nearest_b72 i3 l4 l6 s0 ws = some (rr, ws')) : JG (.inl false) cL_nearest 10 RL wsL_nearest (some .long) "nearest" 0 0 0 n0 (.inl (some (.long rr)), ws') 72 [none, none, none, some (.int i3), some (.long l4), none, some (.long l6), none, none, none] [.long s0] ws 0 0 := by
  unfold m_L_nearest_b72 at h
  refine j_lstore_8 (pc := 72) dL_nearest_72 (by decide) rfl ?_
  refine j_lload (pc := 74) dL_nearest_74 rfl ?_
  refine j_lload (pc := 76) dL_nearest_76 rfl ?_
  refine j_lload (pc := 78) dL_nearest_78 rfl ?_
  refine j_lcmp (pc := 80) dL_nearest_80 ?_
  refine j_if_gt (pc := 81) (tgt := 103) dL_nearest_81 (by decide) (fun c1 => ?_) (fun c1 => ?_)
  · rw [if_pos c1] at h
    refine j_mask [false, false, false, true, false, false, false, false, false, false] ?_
    exact jm_L_nearest_b103 _ _ ws h
  · rw [if_neg c1] at h
    refine j_lload (pc := 84) dL_nearest_84 rfl ?_
    refine j_lload (pc := 86) dL_nearest_86 rfl ?_
    refine j_lcmp (pc := 88) dL_nearest_88 ?_
    refine j_if_ne (pc := 89) (tgt := 107) dL_nearest_89 (by decide) (fun c2 => ?_) (fun c2 => ?_)
    · rw [if_neg c2] at h
      refine j_mask [false, false, false, true, false, false, false, false, false, false] ?_
      exact jm_L_nearest_b107 _ _ ws h
    · rw [if_pos c2] at h
      refine j_lload (pc := 92) dL_nearest_92 rfl ?_
      refine j_ldc2 (pc := 94) dL_nearest_94 (v := 2) (jwm lw_651) ?_
      refine j_lrem (pc := 97) dL_nearest_97 (by decide) ?_
      refine j_lconst (pc := 98) dL_nearest_98 (v := 1) (by decide) ?_
      refine j_lcmp (pc := 99) dL_nearest_99 ?_
      refine j_if_ne (pc := 100) (tgt := 107) dL_nearest_100 (by decide) (fun c3 => ?_) (fun c3 => ?_)
      · rw [if_neg c3] at h
        refine j_mask [false, false, false, true, false, false, false, false, false, false] ?_
        exact jm_L_nearest_b107 _ _ ws h
      · rw [if_pos c3] at h
        refine j_mask [false, false, false, true, false, false, false, false, false, false] ?_
        exact jm_L_nearest_b103 _ _ ws h
def m_L_nearest_b57 (i3 : Int32) (l4 : Int64) (s0 : Int64) (ws : LWd) : Option (Int64 × LWd) :=
  if 0 < i3 then
    m_L_nearest_b72 i3 l4 s0 (1 <<< (Int32.toInt64 (i3 - 1) &&& 63)) ws
  else
    m_L_nearest_b72 i3 l4 s0 1 ws
set_option maxRecDepth 100000 in
set_option maxHeartbeats 4000000 in
theorem jm_L_nearest_b57 {n0 : Nat} {rr : Int64} {ws' : LWd} (i3 : Int32) (l4 : Int64) (s0 : Int64) (ws : LWd) (h : m_L_nearest_b57 i3 l4 s0 ws = some (rr, ws')) : JG (.inl false) cL_nearest 10 RL wsL_nearest (some .long) "nearest" 0 0 0 n0 (.inl (some (.long rr)), ws') 57 [none, none, none, some (.int i3), some (.long l4), none, none, none, none, none] [.long s0] ws 0 0 := by
  unfold m_L_nearest_b57 at h
  refine j_lstore_6 (pc := 57) dL_nearest_57 (by decide) rfl ?_
  refine j_iload_n (pc := 59) dL_nearest_59 rfl ?_
  refine j_if_gt (pc := 60) (tgt := 67) dL_nearest_60 (by decide) (fun c1 => ?_) (fun c1 => ?_)
  · rw [if_pos c1] at h
    refine j_lconst (pc := 67) dL_nearest_67 (v := 1) (by decide) ?_
    refine j_iload_n (pc := 68) dL_nearest_68 rfl ?_
    refine j_iconst (pc := 69) dL_nearest_69 (v := 1) (by decide) ?_
    refine j_isub (pc := 70) dL_nearest_70 ?_
    refine j_lshl (pc := 71) dL_nearest_71 ?_
    exact jm_L_nearest_b72 _ _ _ _ ws h
  · rw [if_neg c1] at h
    refine j_lconst (pc := 63) dL_nearest_63 (v := 1) (by decide) ?_
    refine j_goto (pc := 64) (tgt := 72) dL_nearest_64 (by decide) ?_
    exact jm_L_nearest_b72 _ _ _ _ ws h
def m_L_nearest_b41 (l0 : Int64) (i3 : Int32) (s0 : Int64) (ws : LWd) : Option (Int64 × LWd) :=
  if 0 < i3 then
    m_L_nearest_b57 i3 s0 (l0 - (s0 <<< (Int32.toInt64 i3 &&& 63))) ws
  else
    m_L_nearest_b57 i3 s0 0 ws
set_option maxRecDepth 100000 in
set_option maxHeartbeats 4000000 in
theorem jm_L_nearest_b41 {n0 : Nat} {rr : Int64} {ws' : LWd} (l0 : Int64) (i3 : Int32) (s0 : Int64) (ws : LWd) (h : m_L_nearest_b41 l0 i3 s0 ws = some (rr, ws')) : JG (.inl false) cL_nearest 10 RL wsL_nearest (some .long) "nearest" 0 0 0 n0 (.inl (some (.long rr)), ws') 41 [some (.long l0), none, none, some (.int i3), none, none, none, none, none, none] [.long s0] ws 0 0 := by
  unfold m_L_nearest_b41 at h
  refine j_lstore_4 (pc := 41) dL_nearest_41 (by decide) rfl ?_
  refine j_iload_n (pc := 43) dL_nearest_43 rfl ?_
  refine j_if_gt (pc := 44) (tgt := 51) dL_nearest_44 (by decide) (fun c1 => ?_) (fun c1 => ?_)
  · rw [if_pos c1] at h
    refine j_lload_n (pc := 51) dL_nearest_51 rfl ?_
    refine j_lload (pc := 52) dL_nearest_52 rfl ?_
    refine j_iload_n (pc := 54) dL_nearest_54 rfl ?_
    refine j_lshl (pc := 55) dL_nearest_55 ?_
    refine j_lsub (pc := 56) dL_nearest_56 ?_
    refine j_mask [false, false, false, true, true, false, false, false, false, false] ?_
    exact jm_L_nearest_b57 _ _ _ ws h
  · rw [if_neg c1] at h
    refine j_lconst (pc := 47) dL_nearest_47 (v := 0) (by decide) ?_
    refine j_goto (pc := 48) (tgt := 57) dL_nearest_48 (by decide) ?_
    refine j_mask [false, false, false, true, true, false, false, false, false, false] ?_
    exact jm_L_nearest_b57 _ _ _ ws h
def m_L_nearest_b22 (l0 : Int64) (i2 : Int32) (ws : LWd) : Option (Int64 × LWd) :=
  if 0 < (i2 - 24) then
    m_L_nearest_b41 l0 (i2 - 24) (l0 >>> (Int32.toInt64 (i2 - 24) &&& 63)) ws
  else
    m_L_nearest_b41 l0 (i2 - 24) (l0 <<< (Int32.toInt64 (-(i2 - 24)) &&& 63)) ws
set_option maxRecDepth 100000 in
set_option maxHeartbeats 4000000 in
theorem jm_L_nearest_b22 {n0 : Nat} {rr : Int64} {ws' : LWd} (l0 : Int64) (i2 : Int32) (ws : LWd) (h : m_L_nearest_b22 l0 i2 ws = some (rr, ws')) : JG (.inl false) cL_nearest 10 RL wsL_nearest (some .long) "nearest" 0 0 0 n0 (.inl (some (.long rr)), ws') 22 [some (.long l0), none, some (.int i2), none, none, none, none, none, none, none] [] ws 0 0 := by
  unfold m_L_nearest_b22 at h
  refine j_iload_n (pc := 22) dL_nearest_22 rfl ?_
  refine j_bipush (pc := 23) dL_nearest_23 (v := 24) (by decide) ?_
  refine j_isub (pc := 25) dL_nearest_25 ?_
  refine j_istore_n_3 (pc := 26) dL_nearest_26 (by decide) rfl ?_
  refine j_iload_n (pc := 27) dL_nearest_27 rfl ?_
  refine j_if_gt (pc := 28) (tgt := 38) dL_nearest_28 (by decide) (fun c1 => ?_) (fun c1 => ?_)
  · rw [if_pos c1] at h
    refine j_lload_n (pc := 38) dL_nearest_38 rfl ?_
    refine j_iload_n (pc := 39) dL_nearest_39 rfl ?_
    refine j_lshr (pc := 40) dL_nearest_40 ?_
    refine j_mask [true, false, false, true, false, false, false, false, false, false] ?_
    exact jm_L_nearest_b41 _ _ _ ws h
  · rw [if_neg c1] at h
    refine j_lload_n (pc := 31) dL_nearest_31 rfl ?_
    refine j_iload_n (pc := 32) dL_nearest_32 rfl ?_
    refine j_ineg (pc := 33) dL_nearest_33 ?_
    refine j_lshl (pc := 34) dL_nearest_34 ?_
    refine j_goto (pc := 35) (tgt := 41) dL_nearest_35 (by decide) ?_
    refine j_mask [true, false, false, true, false, false, false, false, false, false] ?_
    exact jm_L_nearest_b41 _ _ _ ws h
def m_L_nearest_l2 : Nat → Int64 → Int32 → LWd → Option (Int64 × LWd)
  | 0, _, _, _ => none
  | fu + 1, l0, i2, ws =>
    if 63 ≤ i2 then
      m_L_nearest_b22 l0 i2 ws
    else
      if (lg_cmp (l0 >>> (Int32.toInt64 i2 &&& 63)) 0) ≤ 0 then
        m_L_nearest_b22 l0 i2 ws
      else
        m_L_nearest_l2 fu l0 (i2 + 1) ws
set_option maxRecDepth 100000 in
set_option maxHeartbeats 4000000 in
theorem jm_L_nearest_l2 {n0 : Nat} {rr : Int64} {ws' : LWd} : ∀ (fu : Nat) (l0 : Int64) (i2 : Int32) (ws : LWd), m_L_nearest_l2 fu l0 i2 ws = some (rr, ws') → JG (.inl false) cL_nearest 10 RL wsL_nearest (some .long) "nearest" 0 0 0 n0 (.inl (some (.long rr)), ws') 2 [some (.long l0), none, some (.int i2), none, none, none, none, none, none, none] [] ws 0 0 := by
  intro fu
  induction fu with
  | zero => intro l0 i2 ws h; first | (cases h; done) | (rw [m_L_nearest_l2] at h; cases h)
  | succ fu ih =>
    intro l0 i2 ws h
    rw [m_L_nearest_l2] at h
    refine j_iload_n (pc := 2) dL_nearest_2 rfl ?_
    refine j_bipush (pc := 3) dL_nearest_3 (v := 63) (by decide) ?_
    refine j_icmp_ge (pc := 5) (tgt := 22) dL_nearest_5 (by decide) (fun c1 => ?_) (fun c1 => ?_)
    · rw [if_pos c1] at h
      exact jm_L_nearest_b22 _ _ ws h
    · rw [if_neg c1] at h
      refine j_lload_n (pc := 8) dL_nearest_8 rfl ?_
      refine j_iload_n (pc := 9) dL_nearest_9 rfl ?_
      refine j_lshr (pc := 10) dL_nearest_10 ?_
      refine j_lconst (pc := 11) dL_nearest_11 (v := 0) (by decide) ?_
      refine j_lcmp (pc := 12) dL_nearest_12 ?_
      refine j_if_le (pc := 13) (tgt := 22) dL_nearest_13 (by decide) (fun c2 => ?_) (fun c2 => ?_)
      · rw [if_pos c2] at h
        exact jm_L_nearest_b22 _ _ ws h
      · rw [if_neg c2] at h
        refine j_iinc_2 (pc := 16) dL_nearest_16 (y := i2 + 1) rfl (by decide) rfl ?_
        refine j_goto (pc := 19) (tgt := 2) dL_nearest_19 (by decide) ?_
        exact ih _ _ ws h
def m_L_nearest (l0 : Int64) (ws : LWd) : Option (Int64 × LWd) :=
  m_L_nearest_l2 FU l0 0 ws
set_option maxRecDepth 100000 in
set_option maxHeartbeats 4000000 in
theorem s_L_nearest {l0 : Int64} {ws : LWd} {rr : Int64} {ws' : LWd} (h : m_L_nearest l0 ws = some (rr, ws')) : jSp yL_nearest wsL_nearest 0 0 0 [.long l0] ws (.inl (some (.long rr)), ws') := by
  unfold m_L_nearest at h
  refine j_entryL (ret := (some .long)) (nm := "nearest") (own := RL) pl_L rfl rfl rfl (Nat.le_of_ble_eq_true rfl) rfl ?_
  show JG (.inl false) cL_nearest 10 RL wsL_nearest (some .long) "nearest" 0 0 0 ws.length (.inl (some (.long rr)), ws') 0 [some (.long l0), none, none, none, none, none, none, none, none, none] [] ws 0 0
  refine j_iconst (pc := 0) dL_nearest_0 (v := 0) (by decide) ?_
  refine j_istore_n_2 (pc := 1) dL_nearest_1 (by decide) rfl ?_
  exact jm_L_nearest_l2 FU _ _ ws h
def wsL_bits : List Cond := Cond.code yL_bits cL_bits 19 (some .int) :: jW
def m_L_bits_b178 (i12 : Int32) (s0 : Int64) (ws : LWd) : Option (Int32 × LWd) :=
  some (((i12 + 150) <<< (23 &&& 31)) + (Int64.toInt32 (s0 - 8388608)), ws)
set_option maxRecDepth 100000 in
set_option maxHeartbeats 4000000 in
theorem jm_L_bits_b178 {n0 : Nat} {rr : Int32} {ws' : LWd} (i12 : Int32) (s0 : Int64) (ws : LWd) (h : m_L_bits_b178 i12 s0 ws = some (rr, ws')) : JG (.inl false) cL_bits 19 RL wsL_bits (some .int) "bits" 1 0 0 n0 (.inl (some (.int rr)), ws') 178 [none, none, none, none, none, none, none, none, none, none, none, none, some (.int i12), none, none, none, none, none, none] [.long s0] ws 0 0 := by
  unfold m_L_bits_b178 at h
  refine j_lstore_15 (pc := 178) dL_bits_178 (by decide) rfl ?_
  refine j_iload (pc := 180) dL_bits_180 rfl ?_
  refine j_sipush (pc := 182) dL_bits_182 (v := 150) (by decide) ?_
  refine j_iadd (pc := 185) dL_bits_185 ?_
  refine j_bipush (pc := 186) dL_bits_186 (v := 23) (by decide) ?_
  refine j_ishl (pc := 188) dL_bits_188 ?_
  refine j_lload (pc := 189) dL_bits_189 rfl ?_
  refine j_ldc2 (pc := 191) dL_bits_191 (v := 8388608) (jwm lw_650) ?_
  refine j_lsub (pc := 194) dL_bits_194 ?_
  refine j_l2i (pc := 195) dL_bits_195 ?_
  refine j_iadd (pc := 196) dL_bits_196 ?_
  obtain ⟨rfl, rfl⟩ := jretS h
  exact j_iret (pc := 197) rfl dL_bits_197 (by decide) (by decide) rfl
def m_L_bits_b158 (l15 : Int64) (s0 : Int32) (s1 : Int32) (ws : LWd) : Option (Int32 × LWd) :=
  if (lg_cmp l15 16777216) = 0 then
    m_L_bits_b178 (s0 + s1) 8388608 ws
  else
    m_L_bits_b178 (s0 + s1) l15 ws
set_option maxRecDepth 100000 in
set_option maxHeartbeats 4000000 in
theorem jm_L_bits_b158 {n0 : Nat} {rr : Int32} {ws' : LWd} (l15 : Int64) (s0 : Int32) (s1 : Int32) (ws : LWd) (h : m_L_bits_b158 l15 s0 s1 ws = some (rr, ws')) : JG (.inl false) cL_bits 19 RL wsL_bits (some .int) "bits" 1 0 0 n0 (.inl (some (.int rr)), ws') 158 [none, none, none, none, none, none, none, none, none, none, none, none, none, none, none, some (.long l15), none, none, none] [.int s1, .int s0] ws 0 0 := by
  unfold m_L_bits_b158 at h
  refine j_iadd (pc := 158) dL_bits_158 ?_
  refine j_istore_12 (pc := 159) dL_bits_159 (by decide) rfl ?_
  refine j_lload (pc := 161) dL_bits_161 rfl ?_
  refine j_ldc2 (pc := 163) dL_bits_163 (v := 16777216) (jwm lw_649) ?_
  refine j_lcmp (pc := 166) dL_bits_166 ?_
  refine j_if_ne (pc := 167) (tgt := 176) dL_bits_167 (by decide) (fun c1 => ?_) (fun c1 => ?_)
  · rw [if_neg c1] at h
    refine j_lload (pc := 176) dL_bits_176 rfl ?_
    refine j_mask [false, false, false, false, false, false, false, false, false, false, false, false, true, false, false, false, false, false, false] ?_
    exact jm_L_bits_b178 _ _ ws h
  · rw [if_pos c1] at h
    refine j_ldc2 (pc := 170) dL_bits_170 (v := 8388608) (jwm lw_650) ?_
    refine j_goto (pc := 173) (tgt := 178) dL_bits_173 (by decide) ?_
    refine j_mask [false, false, false, false, false, false, false, false, false, false, false, false, true, false, false, false, false, false, false] ?_
    exact jm_L_bits_b178 _ _ ws h
def m_L_bits_b139 (i12 : Int32) (s0 : Int64) (s1 : Int64) (ws : LWd) : Option (Int32 × LWd) :=
  if (lg_cmp (s0 + s1) 16777216) = 0 then
    m_L_bits_b158 (s0 + s1) i12 1 ws
  else
    m_L_bits_b158 (s0 + s1) i12 0 ws
set_option maxRecDepth 100000 in
set_option maxHeartbeats 4000000 in
theorem jm_L_bits_b139 {n0 : Nat} {rr : Int32} {ws' : LWd} (i12 : Int32) (s0 : Int64) (s1 : Int64) (ws : LWd) (h : m_L_bits_b139 i12 s0 s1 ws = some (rr, ws')) : JG (.inl false) cL_bits 19 RL wsL_bits (some .int) "bits" 1 0 0 n0 (.inl (some (.int rr)), ws') 139 [none, none, none, none, none, none, none, none, none, none, none, none, some (.int i12), none, none, none, none, none, none] [.long s1, .long s0] ws 0 0 := by
  unfold m_L_bits_b139 at h
  refine j_ladd (pc := 139) dL_bits_139 ?_
  refine j_lstore_15 (pc := 140) dL_bits_140 (by decide) rfl ?_
  refine j_iload (pc := 142) dL_bits_142 rfl ?_
  refine j_lload (pc := 144) dL_bits_144 rfl ?_
  refine j_ldc2 (pc := 146) dL_bits_146 (v := 16777216) (jwm lw_649) ?_
  refine j_lcmp (pc := 149) dL_bits_149 ?_
  refine j_if_ne (pc := 150) (tgt := 157) dL_bits_150 (by decide) (fun c1 => ?_) (fun c1 => ?_)
  · rw [if_neg c1] at h
    refine j_iconst (pc := 157) dL_bits_157 (v := 0) (by decide) ?_
    refine j_mask [false, false, false, false, false, false, false, false, false, false, false, false, false, false, false, true, false, false, false] ?_
    exact jm_L_bits_b158 _ _ _ ws h
  · rw [if_pos c1] at h
    refine j_iconst (pc := 153) dL_bits_153 (v := 1) (by decide) ?_
    refine j_goto (pc := 154) (tgt := 158) dL_bits_154 (by decide) ?_
    refine j_mask [false, false, false, false, false, false, false, false, false, false, false, false, false, false, false, true, false, false, false] ?_
    exact jm_L_bits_b158 _ _ _ ws h
def m_L_bits_b134 (i12 : Int32) (s0 : Int64) (ws : LWd) : Option (Int32 × LWd) :=
  m_L_bits_b139 i12 s0 1 ws
set_option maxRecDepth 100000 in
set_option maxHeartbeats 4000000 in
theorem jm_L_bits_b134 {n0 : Nat} {rr : Int32} {ws' : LWd} (i12 : Int32) (s0 : Int64) (ws : LWd) (h : m_L_bits_b134 i12 s0 ws = some (rr, ws')) : JG (.inl false) cL_bits 19 RL wsL_bits (some .int) "bits" 1 0 0 n0 (.inl (some (.int rr)), ws') 134 [none, none, none, none, none, none, none, none, none, none, none, none, some (.int i12), none, none, none, none, none, none] [.long s0] ws 0 0 := by
  unfold m_L_bits_b134 at h
  refine j_lconst (pc := 134) dL_bits_134 (v := 1) (by decide) ?_
  refine j_goto (pc := 135) (tgt := 139) dL_bits_135 (by decide) ?_
  exact jm_L_bits_b139 _ _ _ ws h
def m_L_bits_b138 (i12 : Int32) (s0 : Int64) (ws : LWd) : Option (Int32 × LWd) :=
  m_L_bits_b139 i12 s0 0 ws
set_option maxRecDepth 100000 in
set_option maxHeartbeats 4000000 in
theorem jm_L_bits_b138 {n0 : Nat} {rr : Int32} {ws' : LWd} (i12 : Int32) (s0 : Int64) (ws : LWd) (h : m_L_bits_b138 i12 s0 ws = some (rr, ws')) : JG (.inl false) cL_bits 19 RL wsL_bits (some .int) "bits" 1 0 0 n0 (.inl (some (.int rr)), ws') 138 [none, none, none, none, none, none, none, none, none, none, none, none, some (.int i12), none, none, none, none, none, none] [.long s0] ws 0 0 := by
  unfold m_L_bits_b138 at h
  refine j_lconst (pc := 138) dL_bits_138 (v := 0) (by decide) ?_
  exact jm_L_bits_b139 _ _ _ ws h
def m_L_bits_b84 (l10 : Int64) (i12 : Int32) (s0 : Int64) (s1 : Int32) (ws : LWd) : Option (Int32 × LWd) :=
  if l10 = 0 then none else
  if l10 = 0 then none else
  if 0 < (lg_cmp ((jlrem (s0 <<< (Int32.toInt64 s1 &&& 63)) l10) * 2) l10) then
    m_L_bits_b134 i12 ((s0 <<< (Int32.toInt64 s1 &&& 63)) / l10) ws
  else
    if (lg_cmp ((jlrem (s0 <<< (Int32.toInt64 s1 &&& 63)) l10) * 2) l10) = 0 then
      if (lg_cmp (jlrem ((s0 <<< (Int32.toInt64 s1 &&& 63)) / l10) 2) 1) = 0 then
        m_L_bits_b134 i12 ((s0 <<< (Int32.toInt64 s1 &&& 63)) / l10) ws
      else
        m_L_bits_b138 i12 ((s0 <<< (Int32.toInt64 s1 &&& 63)) / l10) ws
    else
      m_L_bits_b138 i12 ((s0 <<< (Int32.toInt64 s1 &&& 63)) / l10) ws
set_option maxRecDepth 100000 in
set_option maxHeartbeats 4000000 in
theorem jm_L_bits_b84 {n0 : Nat} {rr : Int32} {ws' : LWd} (l10 : Int64) (i12 : Int32) (s0 : Int64) (s1 : Int32) (ws : LWd) (h : m_L_bits_b84 l10 i12 s0 s1 ws = some (rr, ws')) : JG (.inl false) cL_bits 19 RL wsL_bits (some .int) "bits" 1 0 0 n0 (.inl (some (.int rr)), ws') 84 [none, none, none, none, none, none, none, none, none, none, some (.long l10), none, some (.int i12), none, none, none, none, none, none] [.int s1, .long s0] ws 0 0 := by
  unfold m_L_bits_b84 at h
  refine j_lshl (pc := 84) dL_bits_84 ?_
  refine j_lstore_13 (pc := 85) dL_bits_85 (by decide) rfl ?_
  refine j_lload (pc := 87) dL_bits_87 rfl ?_
  refine j_lload (pc := 89) dL_bits_89 rfl ?_
  have c1 := jneSL h
  rw [if_neg c1] at h
  refine j_ldiv (pc := 91) dL_bits_91 c1 ?_
  refine j_lstore_15 (pc := 92) dL_bits_92 (by decide) rfl ?_
  refine j_lload (pc := 94) dL_bits_94 rfl ?_
  refine j_lload (pc := 96) dL_bits_96 rfl ?_
  have c2 := jneSL h
  rw [if_neg c2] at h
  refine j_lrem (pc := 98) dL_bits_98 c2 ?_
  refine j_ldc2 (pc := 99) dL_bits_99 (v := 2) (jwm lw_651) ?_
  refine j_lmul (pc := 102) dL_bits_102 ?_
  refine j_lstore_17 (pc := 103) dL_bits_103 (by decide) rfl ?_
  refine j_lload (pc := 105) dL_bits_105 rfl ?_
  refine j_lload (pc := 107) dL_bits_107 rfl ?_
  refine j_lload (pc := 109) dL_bits_109 rfl ?_
  refine j_lcmp (pc := 111) dL_bits_111 ?_
  refine j_if_gt (pc := 112) (tgt := 134) dL_bits_112 (by decide) (fun c3 => ?_) (fun c3 => ?_)
  · rw [if_pos c3] at h
    refine j_mask [false, false, false, false, false, false, false, false, false, false, false, false, true, false, false, false, false, false, false] ?_
    exact jm_L_bits_b134 _ _ ws h
  · rw [if_neg c3] at h
    refine j_lload (pc := 115) dL_bits_115 rfl ?_
    refine j_lload (pc := 117) dL_bits_117 rfl ?_
    refine j_lcmp (pc := 119) dL_bits_119 ?_
    refine j_if_ne (pc := 120) (tgt := 138) dL_bits_120 (by decide) (fun c4 => ?_) (fun c4 => ?_)
    · rw [if_neg c4] at h
      refine j_mask [false, false, false, false, false, false, false, false, false, false, false, false, true, false, false, false, false, false, false] ?_
      exact jm_L_bits_b138 _ _ ws h
    · rw [if_pos c4] at h
      refine j_lload (pc := 123) dL_bits_123 rfl ?_
      refine j_ldc2 (pc := 125) dL_bits_125 (v := 2) (jwm lw_651) ?_
      refine j_lrem (pc := 128) dL_bits_128 (by decide) ?_
      refine j_lconst (pc := 129) dL_bits_129 (v := 1) (by decide) ?_
      refine j_lcmp (pc := 130) dL_bits_130 ?_
      refine j_if_ne (pc := 131) (tgt := 138) dL_bits_131 (by decide) (fun c5 => ?_) (fun c5 => ?_)
      · rw [if_neg c5] at h
        refine j_mask [false, false, false, false, false, false, false, false, false, false, false, false, true, false, false, false, false, false, false] ?_
        exact jm_L_bits_b138 _ _ ws h
      · rw [if_pos c5] at h
        refine j_mask [false, false, false, false, false, false, false, false, false, false, false, false, true, false, false, false, false, false, false] ?_
        exact jm_L_bits_b134 _ _ ws h
def m_L_bits_b64 (l8 : Int64) (l10 : Int64) (s0 : Int32) (s1 : Int32) (ws : LWd) : Option (Int32 × LWd) :=
  if 0 ≤ (lg_cmp l8 l10) then
    m_L_bits_b84 l10 (s0 - s1) l8 23 ws
  else
    m_L_bits_b84 l10 (s0 - s1) l8 24 ws
set_option maxRecDepth 100000 in
set_option maxHeartbeats 4000000 in
theorem jm_L_bits_b64 {n0 : Nat} {rr : Int32} {ws' : LWd} (l8 : Int64) (l10 : Int64) (s0 : Int32) (s1 : Int32) (ws : LWd) (h : m_L_bits_b64 l8 l10 s0 s1 ws = some (rr, ws')) : JG (.inl false) cL_bits 19 RL wsL_bits (some .int) "bits" 1 0 0 n0 (.inl (some (.int rr)), ws') 64 [none, none, none, none, none, none, none, none, some (.long l8), none, some (.long l10), none, none, none, none, none, none, none, none] [.int s1, .int s0] ws 0 0 := by
  unfold m_L_bits_b64 at h
  refine j_isub (pc := 64) dL_bits_64 ?_
  refine j_istore_12 (pc := 65) dL_bits_65 (by decide) rfl ?_
  refine j_lload (pc := 67) dL_bits_67 rfl ?_
  refine j_lload (pc := 69) dL_bits_69 rfl ?_
  refine j_lload (pc := 71) dL_bits_71 rfl ?_
  refine j_lcmp (pc := 73) dL_bits_73 ?_
  refine j_if_ge (pc := 74) (tgt := 82) dL_bits_74 (by decide) (fun c1 => ?_) (fun c1 => ?_)
  · rw [if_pos c1] at h
    refine j_bipush (pc := 82) dL_bits_82 (v := 23) (by decide) ?_
    refine j_mask [false, false, false, false, false, false, false, false, false, false, true, false, true, false, false, false, false, false, false] ?_
    exact jm_L_bits_b84 _ _ _ _ ws h
  · rw [if_neg c1] at h
    refine j_bipush (pc := 77) dL_bits_77 (v := 24) (by decide) ?_
    refine j_goto (pc := 79) (tgt := 84) dL_bits_79 (by decide) ?_
    refine j_mask [false, false, false, false, false, false, false, false, false, false, true, false, true, false, false, false, false, false, false] ?_
    exact jm_L_bits_b84 _ _ _ _ ws h
def m_L_bits (l0 : Int64) (l2 : Int64) (ws : LWd) : Option (Int32 × LWd) :=
  if (lg_cmp l0 0) = 0 then
    some (0, ws)
  else
    bn2 (calSR ws (m_L_nearest l0 ws)) fun x4 w2 =>
    bn2 (calSR w2 (m_L_nearest l2 w2)) fun x7 w5 =>
    if 0 ≤ (lg_cmp (jlrem x4 4294967296) (jlrem x7 4294967296)) then
      m_L_bits_b64 (jlrem x4 4294967296) (jlrem x7 4294967296) ((Int64.toInt32 (x4 >>> (Int32.toInt64 32 &&& 63))) - (Int64.toInt32 (x7 >>> (Int32.toInt64 32 &&& 63)))) 23 w5
    else
      m_L_bits_b64 (jlrem x4 4294967296) (jlrem x7 4294967296) ((Int64.toInt32 (x4 >>> (Int32.toInt64 32 &&& 63))) - (Int64.toInt32 (x7 >>> (Int32.toInt64 32 &&& 63)))) 24 w5
set_option maxRecDepth 100000 in
set_option maxHeartbeats 4000000 in
theorem s_L_bits {l0 : Int64} {l2 : Int64} {ws : LWd} {rr : Int32} {ws' : LWd} (h : m_L_bits l0 l2 ws = some (rr, ws')) : jSp yL_bits wsL_bits 1 0 0 [.long l0, .long l2] ws (.inl (some (.int rr)), ws') := by
  unfold m_L_bits at h
  refine j_entryL (ret := (some .int)) (nm := "bits") (own := RL) pl_L rfl rfl rfl (Nat.le_of_ble_eq_true rfl) rfl ?_
  show JG (.inl false) cL_bits 19 RL wsL_bits (some .int) "bits" 1 0 0 ws.length (.inl (some (.int rr)), ws') 0 [some (.long l0), none, some (.long l2), none, none, none, none, none, none, none, none, none, none, none, none, none, none, none, none] [] ws 0 0
  refine j_lload_n (pc := 0) dL_bits_0 rfl ?_
  refine j_lconst (pc := 1) dL_bits_1 (v := 0) (by decide) ?_
  refine j_lcmp (pc := 2) dL_bits_2 ?_
  refine j_if_ne (pc := 3) (tgt := 8) dL_bits_3 (by decide) (fun c1 => ?_) (fun c1 => ?_)
  · rw [if_neg c1] at h
    refine j_lload_n (pc := 8) dL_bits_8 rfl ?_
    obtain ⟨x4, w2, e3, h⟩ := obS2 h
    have ge3 := calSR_of e3
    refine j_callS_g (pc := 9) (As := [.long l0]) (k' := 0) (n' := 0) dL_bits_9 (s_L_nearest ge3.1) (jgS lw_653 lw_654 lw_597 lw_652) rfl hy_L_nearest rfl (by decide) (by decide) (Nat.le_of_ble_eq_true rfl) (by decide) (by decide) (by decide) (by decide) (Or.inl ge3.2) ?_
    refine j_lstore_4 (pc := 12) dL_bits_12 (by decide) rfl ?_
    refine j_lload_n (pc := 14) dL_bits_14 rfl ?_
    obtain ⟨x7, w5, e6, h⟩ := obS2 h
    have ge6 := calSR_of e6
    refine j_callS_g (pc := 15) (As := [.long l2]) (k' := 0) (n' := 0) dL_bits_15 (s_L_nearest ge6.1) (jgS lw_653 lw_654 lw_597 lw_652) rfl hy_L_nearest rfl (by decide) (by decide) (Nat.le_of_ble_eq_true rfl) (by decide) (by decide) (by decide) (by decide) (Or.inl ge6.2) ?_
    refine j_lstore_6 (pc := 18) dL_bits_18 (by decide) rfl ?_
    refine j_lload (pc := 20) dL_bits_20 rfl ?_
    refine j_ldc2 (pc := 22) dL_bits_22 (v := 4294967296) (jwm lw_655) ?_
    refine j_lrem (pc := 25) dL_bits_25 (by decide) ?_
    refine j_lstore_8 (pc := 26) dL_bits_26 (by decide) rfl ?_
    refine j_lload (pc := 28) dL_bits_28 rfl ?_
    refine j_ldc2 (pc := 30) dL_bits_30 (v := 4294967296) (jwm lw_655) ?_
    refine j_lrem (pc := 33) dL_bits_33 (by decide) ?_
    refine j_lstore_10 (pc := 34) dL_bits_34 (by decide) rfl ?_
    refine j_lload (pc := 36) dL_bits_36 rfl ?_
    refine j_bipush (pc := 38) dL_bits_38 (v := 32) (by decide) ?_
    refine j_lshr (pc := 40) dL_bits_40 ?_
    refine j_l2i (pc := 41) dL_bits_41 ?_
    refine j_lload (pc := 42) dL_bits_42 rfl ?_
    refine j_bipush (pc := 44) dL_bits_44 (v := 32) (by decide) ?_
    refine j_lshr (pc := 46) dL_bits_46 ?_
    refine j_l2i (pc := 47) dL_bits_47 ?_
    refine j_isub (pc := 48) dL_bits_48 ?_
    refine j_lload (pc := 49) dL_bits_49 rfl ?_
    refine j_lload (pc := 51) dL_bits_51 rfl ?_
    refine j_lcmp (pc := 53) dL_bits_53 ?_
    refine j_if_ge (pc := 54) (tgt := 62) dL_bits_54 (by decide) (fun c8 => ?_) (fun c8 => ?_)
    · rw [if_pos c8] at h
      refine j_bipush (pc := 62) dL_bits_62 (v := 23) (by decide) ?_
      refine j_mask [false, false, false, false, false, false, false, false, true, false, true, false, false, false, false, false, false, false, false] ?_
      exact jm_L_bits_b64 _ _ _ _ w5 h
    · rw [if_neg c8] at h
      refine j_bipush (pc := 57) dL_bits_57 (v := 24) (by decide) ?_
      refine j_goto (pc := 59) (tgt := 64) dL_bits_59 (by decide) ?_
      refine j_mask [false, false, false, false, false, false, false, false, true, false, true, false, false, false, false, false, false, false, false] ?_
      exact jm_L_bits_b64 _ _ _ _ w5 h
  · rw [if_pos c1] at h
    refine j_iconst (pc := 6) dL_bits_6 (v := 0) (by decide) ?_
    obtain ⟨rfl, rfl⟩ := jretS h
    exact j_iret (pc := 7) rfl dL_bits_7 (by decide) (by decide) rfl
