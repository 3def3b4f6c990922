/-! methods: written by wip/p27/make.py -/
def wsL_law : List Cond := Cond.initialized RL :: jW
def m_L_law_b528 (L : Nat) (xs : Nat → Int32) (k235 : Nat → Nat → Nat → Nat → Nat → Nat → Nat → Nat → Nat → Nat → Int32 → Int32 → LWd → Option (Int32 × LWd)) (a1 : Nat) (a2 : Nat) (a3 : Nat) (a4 : Nat) (a5 : Nat) (a6 : Nat) (a7 : Nat) (a8 : Nat) (a9 : Nat) (a10 : Nat) (i12 : Int32) (s0 : Int32) (ws : LWd) : Option (Int32 × LWd) :=
  k235 a1 a2 a3 a4 a5 a6 a7 a8 a9 a10 s0 (i12 + 1) ws
set_option maxRecDepth 100000 in
set_option maxHeartbeats 4000000 in
theorem jm_L_law_b528 {bb : Nat} {nm : String} {kk nn : Nat} (hbk : kk + 10 ≤ 600086) (hbn : nn + 60 ≤ 7301441) {L : Nat} {xs : Nat → Int32} {n0 : Nat} {rr : Int32} {ws' : LWd} {k235 : Nat → Nat → Nat → Nat → Nat → Nat → Nat → Nat → Nat → Nat → Int32 → Int32 → LWd → Option (Int32 × LWd)} (hk235 : ∀ (a1 : Nat) (a2 : Nat) (a3 : Nat) (a4 : Nat) (a5 : Nat) (a6 : Nat) (a7 : Nat) (a8 : Nat) (a9 : Nat) (a10 : Nat) (i11 : Int32) (i12 : Int32) (ws : LWd), k235 a1 a2 a3 a4 a5 a6 a7 a8 a9 a10 i11 i12 ws = some (rr, ws') → JG (.inr (some (bb, L, xs))) cL_law 16 RL wsL_law (some .boolean) nm 13 600086 7301441 n0 (.inl (some (.int rr)), ws') 235 [some (.ref 1000000), some (.ref a1), some (.ref a2), some (.ref a3), some (.ref a4), some (.ref a5), some (.ref a6), some (.ref a7), some (.ref a8), some (.ref a9), some (.ref a10), some (.int i11), some (.int i12), none, none, none] [] ws (kk + 10) (nn + 60)) (a1 : Nat) (a2 : Nat) (a3 : Nat) (a4 : Nat) (a5 : Nat) (a6 : Nat) (a7 : Nat) (a8 : Nat) (a9 : Nat) (a10 : Nat) (i12 : Int32) (s0 : Int32) (ws : LWd) (h : m_L_law_b528 L xs k235 a1 a2 a3 a4 a5 a6 a7 a8 a9 a10 i12 s0 ws = some (rr, ws')) : JG (.inr (some (bb, L, xs))) cL_law 16 RL wsL_law (some .boolean) nm 13 600086 7301441 n0 (.inl (some (.int rr)), ws') 528 [some (.ref 1000000), some (.ref a1), some (.ref a2), some (.ref a3), some (.ref a4), some (.ref a5), some (.ref a6), some (.ref a7), some (.ref a8), some (.ref a9), some (.ref a10), none, some (.int i12), none, none, none] [.int s0] ws (kk + 3) (nn + 18) := by
  unfold m_L_law_b528 at h
  refine j_istore_11 (pc := 528) dL_law_528 (by decide) rfl ?_
  refine j_iinc_12 (pc := 530) dL_law_530 (y := i12 + 1) rfl (by decide) rfl ?_
  refine j_goto (pc := 533) (tgt := 235) dL_law_533 (by decide) ?_
  refine j_wide (k' := kk + 10) (n' := nn + 60) (by omega) (by omega) ?_
  exact hk235 _ _ _ _ _ _ _ _ _ _ _ _ ws h
def m_L_law_b527 (L : Nat) (xs : Nat → Int32) (k235 : Nat → Nat → Nat → Nat → Nat → Nat → Nat → Nat → Nat → Nat → Int32 → Int32 → LWd → Option (Int32 × LWd)) (a1 : Nat) (a2 : Nat) (a3 : Nat) (a4 : Nat) (a5 : Nat) (a6 : Nat) (a7 : Nat) (a8 : Nat) (a9 : Nat) (a10 : Nat) (i12 : Int32) (ws : LWd) : Option (Int32 × LWd) :=
  m_L_law_b528 L xs k235 a1 a2 a3 a4 a5 a6 a7 a8 a9 a10 i12 0 ws
set_option maxRecDepth 100000 in
set_option maxHeartbeats 4000000 in
theorem jm_L_law_b527 {bb : Nat} {nm : String} {kk nn : Nat} (hbk : kk + 10 ≤ 600086) (hbn : nn + 60 ≤ 7301441) {L : Nat} {xs : Nat → Int32} {n0 : Nat} {rr : Int32} {ws' : LWd} {k235 : Nat → Nat → Nat → Nat → Nat → Nat → Nat → Nat → Nat → Nat → Int32 → Int32 → LWd → Option (Int32 × LWd)} (hk235 : ∀ (a1 : Nat) (a2 : Nat) (a3 : Nat) (a4 : Nat) (a5 : Nat) (a6 : Nat) (a7 : Nat) (a8 : Nat) (a9 : Nat) (a10 : Nat) (i11 : Int32) (i12 : Int32) (ws : LWd), k235 a1 a2 a3 a4 a5 a6 a7 a8 a9 a10 i11 i12 ws = some (rr, ws') → JG (.inr (some (bb, L, xs))) cL_law 16 RL wsL_law (some .boolean) nm 13 600086 7301441 n0 (.inl (some (.int rr)), ws') 235 [some (.ref 1000000), some (.ref a1), some (.ref a2), some (.ref a3), some (.ref a4), some (.ref a5), some (.ref a6), some (.ref a7), some (.ref a8), some (.ref a9), some (.ref a10), some (.int i11), some (.int i12), none, none, none] [] ws (kk + 10) (nn + 60)) (a1 : Nat) (a2 : Nat) (a3 : Nat) (a4 : Nat) (a5 : Nat) (a6 : Nat) (a7 : Nat) (a8 : Nat) (a9 : Nat) (a10 : Nat) (i12 : Int32) (ws : LWd) (h : m_L_law_b527 L xs k235 a1 a2 a3 a4 a5 a6 a7 a8 a9 a10 i12 ws = some (rr, ws')) : JG (.inr (some (bb, L, xs))) cL_law 16 RL wsL_law (some .boolean) nm 13 600086 7301441 n0 (.inl (some (.int rr)), ws') 527 [some (.ref 1000000), some (.ref a1), some (.ref a2), some (.ref a3), some (.ref a4), some (.ref a5), some (.ref a6), some (.ref a7), some (.ref a8), some (.ref a9), some (.ref a10), none, some (.int i12), none, none, none] [] ws (kk + 3) (nn + 18) := by
  unfold m_L_law_b527 at h
  refine j_iconst (pc := 527) dL_law_527 (v := 0) (by decide) ?_
  exact jm_L_law_b528 (hk235 := hk235) (by omega) (by omega) _ _ _ _ _ _ _ _ _ _ _ _ ws h
def m_L_law_b493 (L : Nat) (xs : Nat → Int32) (k235 : Nat → Nat → Nat → Nat → Nat → Nat → Nat → Nat → Nat → Nat → Int32 → Int32 → LWd → Option (Int32 × LWd)) (a1 : Nat) (a2 : Nat) (a3 : Nat) (a4 : Nat) (a5 : Nat) (a6 : Nat) (a7 : Nat) (a8 : Nat) (a9 : Nat) (a10 : Nat) (i11 : Int32) (i12 : Int32) (i14 : Int32) (i15 : Int32) (ws : LWd) : Option (Int32 × LWd) :=
  if i11 = 0 then
    m_L_law_b527 L xs k235 a1 a2 a3 a4 a5 a6 a7 a8 a9 a10 i12 ws
  else
    bn2 (calSR ws (m_L_isSo a1 a2 a3 a4 a5 a6 a7 a9 a10 i14 i15 ws)) fun x4 w2 =>
    if x4 = 0 then
      m_L_law_b527 L xs k235 a1 a2 a3 a4 a5 a6 a7 a8 a9 a10 i12 w2
    else
      m_L_law_b528 L xs k235 a1 a2 a3 a4 a5 a6 a7 a8 a9 a10 i12 1 w2
set_option maxRecDepth 100000 in
set_option maxHeartbeats 4000000 in
theorem jm_L_law_b493 {bb : Nat} {nm : String} {kk nn : Nat} (hbk : kk + 10 ≤ 600086) (hbn : nn + 60 ≤ 7301441) {L : Nat} {xs : Nat → Int32} {n0 : Nat} {rr : Int32} {ws' : LWd} {k235 : Nat → Nat → Nat → Nat → Nat → Nat → Nat → Nat → Nat → Nat → Int32 → Int32 → LWd → Option (Int32 × LWd)} (hk235 : ∀ (a1 : Nat) (a2 : Nat) (a3 : Nat) (a4 : Nat) (a5 : Nat) (a6 : Nat) (a7 : Nat) (a8 : Nat) (a9 : Nat) (a10 : Nat) (i11 : Int32) (i12 : Int32) (ws : LWd), k235 a1 a2 a3 a4 a5 a6 a7 a8 a9 a10 i11 i12 ws = some (rr, ws') → JG (.inr (some (bb, L, xs))) cL_law 16 RL wsL_law (some .boolean) nm 13 600086 7301441 n0 (.inl (some (.int rr)), ws') 235 [some (.ref 1000000), some (.ref a1), some (.ref a2), some (.ref a3), some (.ref a4), some (.ref a5), some (.ref a6), some (.ref a7), some (.ref a8), some (.ref a9), some (.ref a10), some (.int i11), some (.int i12), none, none, none] [] ws (kk + 10) (nn + 60)) (a1 : Nat) (a2 : Nat) (a3 : Nat) (a4 : Nat) (a5 : Nat) (a6 : Nat) (a7 : Nat) (a8 : Nat) (a9 : Nat) (a10 : Nat) (i11 : Int32) (i12 : Int32) (i14 : Int32) (i15 : Int32) (ws : LWd) (h : m_L_law_b493 L xs k235 a1 a2 a3 a4 a5 a6 a7 a8 a9 a10 i11 i12 i14 i15 ws = some (rr, ws')) : JG (.inr (some (bb, L, xs))) cL_law 16 RL wsL_law (some .boolean) nm 13 600086 7301441 n0 (.inl (some (.int rr)), ws') 493 [some (.ref 1000000), some (.ref a1), some (.ref a2), some (.ref a3), some (.ref a4), some (.ref a5), some (.ref a6), some (.ref a7), some (.ref a8), some (.ref a9), some (.ref a10), some (.int i11), some (.int i12), none, some (.int i14), some (.int i15)] [] ws (kk + 1) (nn + 6) := by
  unfold m_L_law_b493 at h
  refine j_iload (pc := 493) dL_law_493 rfl ?_
  refine j_if_eq (pc := 495) (tgt := 527) dL_law_495 (by decide) (fun c1 => ?_) (fun c1 => ?_)
  · rw [if_pos c1] at h
    refine j_mask [true, true, true, true, true, true, true, true, true, true, true, false, true, false, false, false] ?_
    refine j_wide (k' := kk + 3) (n' := nn + 18) (by omega) (by omega) ?_
    exact jm_L_law_b527 (hk235 := hk235) (by omega) (by omega) _ _ _ _ _ _ _ _ _ _ _ ws h
  · rw [if_neg c1] at h
    refine j_aload_n (pc := 498) dL_law_498 rfl ?_
    refine j_aload_n (pc := 499) dL_law_499 rfl ?_
    refine j_aload_n (pc := 500) dL_law_500 rfl ?_
    refine j_aload (pc := 501) dL_law_501 rfl ?_
    refine j_aload (pc := 503) dL_law_503 rfl ?_
    refine j_aload (pc := 505) dL_law_505 rfl ?_
    refine j_aload (pc := 507) dL_law_507 rfl ?_
    refine j_aload (pc := 509) dL_law_509 rfl ?_
    refine j_aload (pc := 511) dL_law_511 rfl ?_
    refine j_iload (pc := 513) dL_law_513 rfl ?_
    refine j_iload (pc := 515) dL_law_515 rfl ?_
    obtain ⟨x4, w2, e3, h⟩ := obS2 h
    have ge3 := calSR_of e3
    refine j_callSC (pc := 517) (As := [.ref a1, .ref a2, .ref a3, .ref a4, .ref a5, .ref a6, .ref a7, .ref a9, .ref a10, .int i14, .int i15]) (k' := kk + 3) (n' := nn + 18) dL_law_517 (fun q h => by cases h) (s_L_isSo ge3.1) (jgS lw_712 lw_713 lw_597 lw_711) rfl hy_L_isSo rfl (by decide) (by decide) (Nat.le_of_ble_eq_true rfl) (by omega) (by omega) (by omega) (by omega) ge3.2 ?_
    refine j_if_eq (pc := 520) (tgt := 527) dL_law_520 (by decide) (fun c5 => ?_) (fun c5 => ?_)
    · rw [if_pos c5] at h
      refine j_mask [true, true, true, true, true, true, true, true, true, true, true, false, true, false, false, false] ?_
      exact jm_L_law_b527 (hk235 := hk235) (by omega) (by omega) _ _ _ _ _ _ _ _ _ _ _ w2 h
    · rw [if_neg c5] at h
      refine j_iconst (pc := 523) dL_law_523 (v := 1) (by decide) ?_
      refine j_goto (pc := 524) (tgt := 528) dL_law_524 (by decide) ?_
      refine j_mask [true, true, true, true, true, true, true, true, true, true, true, false, true, false, false, false] ?_
      exact jm_L_law_b528 (hk235 := hk235) (by omega) (by omega) _ _ _ _ _ _ _ _ _ _ _ _ w2 h
def m_L_law_b484 (L : Nat) (xs : Nat → Int32) (k235 : Nat → Nat → Nat → Nat → Nat → Nat → Nat → Nat → Nat → Nat → Int32 → Int32 → LWd → Option (Int32 × LWd)) (a1 : Nat) (a2 : Nat) (a3 : Nat) (a4 : Nat) (a5 : Nat) (a6 : Nat) (a7 : Nat) (a8 : Nat) (a9 : Nat) (a10 : Nat) (i12 : Int32) (i14 : Int32) (i15 : Int32) (s0 : Nat) (s1 : Nat) (s2 : Nat) (s3 : Nat) (s4 : Nat) (s5 : Nat) (s6 : Nat) (s7 : Nat) (s8 : Nat) (s9 : Nat) (s10 : Int32) (ws : LWd) : Option (Int32 × LWd) :=
  bn2 (calSR ws (m_L_isDone s0 s1 s2 s3 s4 s5 s6 s7 s8 s9 s10 i14 i15 ws)) fun x3 w1 =>
  m_L_law_b493 L xs k235 a1 a2 a3 a4 a5 a6 a7 a8 a9 a10 x3 i12 i14 i15 w1
set_option maxRecDepth 100000 in
set_option maxHeartbeats 4000000 in
theorem jm_L_law_b484 {bb : Nat} {nm : String} {kk nn : Nat} (hbk : kk + 10 ≤ 600086) (hbn : nn + 60 ≤ 7301441) {L : Nat} {xs : Nat → Int32} {n0 : Nat} {rr : Int32} {ws' : LWd} {k235 : Nat → Nat → Nat → Nat → Nat → Nat → Nat → Nat → Nat → Nat → Int32 → Int32 → LWd → Option (Int32 × LWd)} (hk235 : ∀ (a1 : Nat) (a2 : Nat) (a3 : Nat) (a4 : Nat) (a5 : Nat) (a6 : Nat) (a7 : Nat) (a8 : Nat) (a9 : Nat) (a10 : Nat) (i11 : Int32) (i12 : Int32) (ws : LWd), k235 a1 a2 a3 a4 a5 a6 a7 a8 a9 a10 i11 i12 ws = some (rr, ws') → JG (.inr (some (bb, L, xs))) cL_law 16 RL wsL_law (some .boolean) nm 13 600086 7301441 n0 (.inl (some (.int rr)), ws') 235 [some (.ref 1000000), some (.ref a1), some (.ref a2), some (.ref a3), some (.ref a4), some (.ref a5), some (.ref a6), some (.ref a7), some (.ref a8), some (.ref a9), some (.ref a10), some (.int i11), some (.int i12), none, none, none] [] ws (kk + 10) (nn + 60)) (a1 : Nat) (a2 : Nat) (a3 : Nat) (a4 : Nat) (a5 : Nat) (a6 : Nat) (a7 : Nat) (a8 : Nat) (a9 : Nat) (a10 : Nat) (i12 : Int32) (i14 : Int32) (i15 : Int32) (s0 : Nat) (s1 : Nat) (s2 : Nat) (s3 : Nat) (s4 : Nat) (s5 : Nat) (s6 : Nat) (s7 : Nat) (s8 : Nat) (s9 : Nat) (s10 : Int32) (ws : LWd) (h : m_L_law_b484 L xs k235 a1 a2 a3 a4 a5 a6 a7 a8 a9 a10 i12 i14 i15 s0 s1 s2 s3 s4 s5 s6 s7 s8 s9 s10 ws = some (rr, ws')) : JG (.inr (some (bb, L, xs))) cL_law 16 RL wsL_law (some .boolean) nm 13 600086 7301441 n0 (.inl (some (.int rr)), ws') 484 [some (.ref 1000000), some (.ref a1), some (.ref a2), some (.ref a3), some (.ref a4), some (.ref a5), some (.ref a6), some (.ref a7), some (.ref a8), some (.ref a9), some (.ref a10), none, some (.int i12), none, some (.int i14), some (.int i15)] [.int s10, .ref s9, .ref s8, .ref s7, .ref s6, .ref s5, .ref s4, .ref s3, .ref s2, .ref s1, .ref s0] ws (kk + 0) (nn + 0) := by
  unfold m_L_law_b484 at h
  refine j_iload (pc := 484) dL_law_484 rfl ?_
  refine j_iload (pc := 486) dL_law_486 rfl ?_
  obtain ⟨x3, w1, e2, h⟩ := obS2 h
  have ge2 := calSR_of e2
  refine j_callSC (pc := 488) (As := [.ref s0, .ref s1, .ref s2, .ref s3, .ref s4, .ref s5, .ref s6, .ref s7, .ref s8, .ref s9, .int s10, .int i14, .int i15]) (k' := kk + 1) (n' := nn + 6) dL_law_488 (fun q h => by cases h) (s_L_isDone ge2.1) (jgS lw_715 lw_716 lw_597 lw_714) rfl hy_L_isDone rfl (by decide) (by decide) (Nat.le_of_ble_eq_true rfl) (by omega) (by omega) (by omega) (by omega) ge2.2 ?_
  refine j_istore_11 (pc := 491) dL_law_491 (by decide) rfl ?_
  exact jm_L_law_b493 (hk235 := hk235) (by omega) (by omega) _ _ _ _ _ _ _ _ _ _ _ _ _ _ w1 h
def m_L_law_b399 (L : Nat) (xs : Nat → Int32) (k235 : Nat → Nat → Nat → Nat → Nat → Nat → Nat → Nat → Nat → Nat → Int32 → Int32 → LWd → Option (Int32 × LWd)) (a1 : Nat) (a2 : Nat) (a3 : Nat) (a4 : Nat) (a5 : Nat) (a6 : Nat) (a7 : Nat) (a8 : Nat) (a9 : Nat) (a10 : Nat) (i12 : Int32) (i14 : Int32) (i15 : Int32) (s0 : Nat) (s1 : Nat) (s2 : Nat) (s3 : Nat) (s4 : Nat) (s5 : Nat) (s6 : Nat) (s7 : Nat) (s8 : Nat) (s9 : Int32) (ws : LWd) : Option (Int32 × LWd) :=
  bn2 (calSR ws (m_L_isTold s0 s1 s2 s3 s4 s5 s6 s7 s8 s9 i14 i15 ws)) fun x3 w1 =>
  m_L_law_b493 L xs k235 a1 a2 a3 a4 a5 a6 a7 a8 a9 a10 x3 i12 i14 i15 w1
set_option maxRecDepth 100000 in
set_option maxHeartbeats 4000000 in
theorem jm_L_law_b399 {bb : Nat} {nm : String} {kk nn : Nat} (hbk : kk + 10 ≤ 600086) (hbn : nn + 60 ≤ 7301441) {L : Nat} {xs : Nat → Int32} {n0 : Nat} {rr : Int32} {ws' : LWd} {k235 : Nat → Nat → Nat → Nat → Nat → Nat → Nat → Nat → Nat → Nat → Int32 → Int32 → LWd → Option (Int32 × LWd)} (hk235 : ∀ (a1 : Nat) (a2 : Nat) (a3 : Nat) (a4 : Nat) (a5 : Nat) (a6 : Nat) (a7 : Nat) (a8 : Nat) (a9 : Nat) (a10 : Nat) (i11 : Int32) (i12 : Int32) (ws : LWd), k235 a1 a2 a3 a4 a5 a6 a7 a8 a9 a10 i11 i12 ws = some (rr, ws') → JG (.inr (some (bb, L, xs))) cL_law 16 RL wsL_law (some .boolean) nm 13 600086 7301441 n0 (.inl (some (.int rr)), ws') 235 [some (.ref 1000000), some (.ref a1), some (.ref a2), some (.ref a3), some (.ref a4), some (.ref a5), some (.ref a6), some (.ref a7), some (.ref a8), some (.ref a9), some (.ref a10), some (.int i11), some (.int i12), none, none, none] [] ws (kk + 10) (nn + 60)) (a1 : Nat) (a2 : Nat) (a3 : Nat) (a4 : Nat) (a5 : Nat) (a6 : Nat) (a7 : Nat) (a8 : Nat) (a9 : Nat) (a10 : Nat) (i12 : Int32) (i14 : Int32) (i15 : Int32) (s0 : Nat) (s1 : Nat) (s2 : Nat) (s3 : Nat) (s4 : Nat) (s5 : Nat) (s6 : Nat) (s7 : Nat) (s8 : Nat) (s9 : Int32) (ws : LWd) (h : m_L_law_b399 L xs k235 a1 a2 a3 a4 a5 a6 a7 a8 a9 a10 i12 i14 i15 s0 s1 s2 s3 s4 s5 s6 s7 s8 s9 ws = some (rr, ws')) : JG (.inr (some (bb, L, xs))) cL_law 16 RL wsL_law (some .boolean) nm 13 600086 7301441 n0 (.inl (some (.int rr)), ws') 399 [some (.ref 1000000), some (.ref a1), some (.ref a2), some (.ref a3), some (.ref a4), some (.ref a5), some (.ref a6), some (.ref a7), some (.ref a8), some (.ref a9), some (.ref a10), none, some (.int i12), none, some (.int i14), some (.int i15)] [.int s9, .ref s8, .ref s7, .ref s6, .ref s5, .ref s4, .ref s3, .ref s2, .ref s1, .ref s0] ws (kk + 0) (nn + 0) := by
  unfold m_L_law_b399 at h
  refine j_iload (pc := 399) dL_law_399 rfl ?_
  refine j_iload (pc := 401) dL_law_401 rfl ?_
  obtain ⟨x3, w1, e2, h⟩ := obS2 h
  have ge2 := calSR_of e2
  refine j_callSC (pc := 403) (As := [.ref s0, .ref s1, .ref s2, .ref s3, .ref s4, .ref s5, .ref s6, .ref s7, .ref s8, .int s9, .int i14, .int i15]) (k' := kk + 1) (n' := nn + 6) dL_law_403 (fun q h => by cases h) (s_L_isTold ge2.1) (jgS lw_718 lw_719 lw_597 lw_717) rfl hy_L_isTold rfl (by decide) (by decide) (Nat.le_of_ble_eq_true rfl) (by omega) (by omega) (by omega) (by omega) ge2.2 ?_
  refine j_istore_11 (pc := 406) dL_law_406 (by decide) rfl ?_
  refine j_goto (pc := 408) (tgt := 493) dL_law_408 (by decide) ?_
  exact jm_L_law_b493 (hk235 := hk235) (by omega) (by omega) _ _ _ _ _ _ _ _ _ _ _ _ _ _ w1 h
def m_L_law_b291 (L : Nat) (xs : Nat → Int32) (k235 : Nat → Nat → Nat → Nat → Nat → Nat → Nat → Nat → Nat → Nat → Int32 → Int32 → LWd → Option (Int32 × LWd)) (a1 : Nat) (a2 : Nat) (a3 : Nat) (a4 : Nat) (a5 : Nat) (a6 : Nat) (a7 : Nat) (a8 : Nat) (a9 : Nat) (a10 : Nat) (i12 : Int32) (s0 : Int32) (ws : LWd) : Option (Int32 × LWd) :=
  bn2 (calSR ws (m_L_part L xs ((3 * i12) + 1) 60000 ws)) fun x3 w1 =>
  bn2 (calSR w1 (m_L_part L xs ((3 * i12) + 2) 60000 w1)) fun x6 w4 =>
  if 18 ≤ s0 then
    if 21 ≤ s0 then
      if 29 ≤ s0 then
        if 37 ≤ s0 then
          if 45 ≤ s0 then
            if 51 ≤ s0 then
              m_L_law_b484 L xs k235 a1 a2 a3 a4 a5 a6 a7 a8 a9 a10 i12 x3 x6 a1 a2 a3 a4 a5 a6 a7 a8 a9 a10 5 w4
            else
              m_L_law_b484 L xs k235 a1 a2 a3 a4 a5 a6 a7 a8 a9 a10 i12 x3 x6 a1 a2 a3 a4 a5 a6 a7 a8 a9 a10 4 w4
          else
            m_L_law_b484 L xs k235 a1 a2 a3 a4 a5 a6 a7 a8 a9 a10 i12 x3 x6 a1 a2 a3 a4 a5 a6 a7 a8 a9 a10 3 w4
        else
          m_L_law_b484 L xs k235 a1 a2 a3 a4 a5 a6 a7 a8 a9 a10 i12 x3 x6 a1 a2 a3 a4 a5 a6 a7 a8 a9 a10 2 w4
      else
        m_L_law_b484 L xs k235 a1 a2 a3 a4 a5 a6 a7 a8 a9 a10 i12 x3 x6 a1 a2 a3 a4 a5 a6 a7 a8 a9 a10 1 w4
    else
      m_L_law_b484 L xs k235 a1 a2 a3 a4 a5 a6 a7 a8 a9 a10 i12 x3 x6 a1 a2 a3 a4 a5 a6 a7 a8 a9 a10 0 w4
  else
    if 6 ≤ s0 then
      if 9 ≤ s0 then
        if 12 ≤ s0 then
          if s0 = 12 then
            m_L_law_b399 L xs k235 a1 a2 a3 a4 a5 a6 a7 a8 a9 a10 i12 x3 x6 a1 a2 a3 a4 a5 a6 a7 a8 a10 3 w4
          else
            if 17 ≤ s0 then
              m_L_law_b399 L xs k235 a1 a2 a3 a4 a5 a6 a7 a8 a9 a10 i12 x3 x6 a1 a2 a3 a4 a5 a6 a7 a8 a10 5 w4
            else
              m_L_law_b399 L xs k235 a1 a2 a3 a4 a5 a6 a7 a8 a9 a10 i12 x3 x6 a1 a2 a3 a4 a5 a6 a7 a8 a10 4 w4
        else
          m_L_law_b399 L xs k235 a1 a2 a3 a4 a5 a6 a7 a8 a9 a10 i12 x3 x6 a1 a2 a3 a4 a5 a6 a7 a8 a10 2 w4
      else
        m_L_law_b399 L xs k235 a1 a2 a3 a4 a5 a6 a7 a8 a9 a10 i12 x3 x6 a1 a2 a3 a4 a5 a6 a7 a8 a10 1 w4
    else
      m_L_law_b399 L xs k235 a1 a2 a3 a4 a5 a6 a7 a8 a9 a10 i12 x3 x6 a1 a2 a3 a4 a5 a6 a7 a8 a10 0 w4
set_option maxRecDepth 100000 in
set_option maxHeartbeats 4000000 in
theorem jm_L_law_b291 {bb : Nat} {nm : String} {kk nn : Nat} (hbk : kk + 10 ≤ 600086) (hbn : nn + 60 ≤ 7301441) {L : Nat} {xs : Nat → Int32} {n0 : Nat} {rr : Int32} {ws' : LWd} {k235 : Nat → Nat → Nat → Nat → Nat → Nat → Nat → Nat → Nat → Nat → Int32 → Int32 → LWd → Option (Int32 × LWd)} (hk235 : ∀ (a1 : Nat) (a2 : Nat) (a3 : Nat) (a4 : Nat) (a5 : Nat) (a6 : Nat) (a7 : Nat) (a8 : Nat) (a9 : Nat) (a10 : Nat) (i11 : Int32) (i12 : Int32) (ws : LWd), k235 a1 a2 a3 a4 a5 a6 a7 a8 a9 a10 i11 i12 ws = some (rr, ws') → JG (.inr (some (bb, L, xs))) cL_law 16 RL wsL_law (some .boolean) nm 13 600086 7301441 n0 (.inl (some (.int rr)), ws') 235 [some (.ref 1000000), some (.ref a1), some (.ref a2), some (.ref a3), some (.ref a4), some (.ref a5), some (.ref a6), some (.ref a7), some (.ref a8), some (.ref a9), some (.ref a10), some (.int i11), some (.int i12), none, none, none] [] ws (kk + 10) (nn + 60)) (a1 : Nat) (a2 : Nat) (a3 : Nat) (a4 : Nat) (a5 : Nat) (a6 : Nat) (a7 : Nat) (a8 : Nat) (a9 : Nat) (a10 : Nat) (i12 : Int32) (s0 : Int32) (ws : LWd) (h : m_L_law_b291 L xs k235 a1 a2 a3 a4 a5 a6 a7 a8 a9 a10 i12 s0 ws = some (rr, ws')) : JG (.inr (some (bb, L, xs))) cL_law 16 RL wsL_law (some .boolean) nm 13 600086 7301441 n0 (.inl (some (.int rr)), ws') 291 [some (.ref 1000000), some (.ref a1), some (.ref a2), some (.ref a3), some (.ref a4), some (.ref a5), some (.ref a6), some (.ref a7), some (.ref a8), some (.ref a9), some (.ref a10), none, some (.int i12), none, none, none] [.int s0] ws (kk + 0) (nn + 0) := by
  unfold m_L_law_b291 at h
  refine j_istore_13 (pc := 291) dL_law_291 (by decide) rfl ?_
  refine j_aload_n (pc := 293) dL_law_293 rfl ?_
  refine j_iconst (pc := 294) dL_law_294 (v := 3) (by decide) ?_
  refine j_iload (pc := 295) dL_law_295 rfl ?_
  refine j_imul (pc := 297) dL_law_297 ?_
  refine j_iconst (pc := 298) dL_law_298 (v := 1) (by decide) ?_
  refine j_iadd (pc := 299) dL_law_299 ?_
  refine j_ldc (pc := 300) dL_law_300 (v := 60000) (jwm lw_720) ?_
  obtain ⟨x3, w1, e2, h⟩ := obS2 h
  have ge2 := calSR_of e2
  refine j_callSC (pc := 302) (As := [.ref 1000000, .int ((3 * i12) + 1), .int 60000]) (k' := kk + 0) (n' := nn + 0) dL_law_302 (fun q h => h) (s_L_part ge2.1) (jgS lw_722 lw_723 lw_597 lw_721) rfl hy_L_part rfl (by decide) (by decide) (Nat.le_of_ble_eq_true rfl) (by omega) (by omega) (by omega) (by omega) ge2.2 ?_
  refine j_istore_14 (pc := 305) dL_law_305 (by decide) rfl ?_
  refine j_aload_n (pc := 307) dL_law_307 rfl ?_
  refine j_iconst (pc := 308) dL_law_308 (v := 3) (by decide) ?_
  refine j_iload (pc := 309) dL_law_309 rfl ?_
  refine j_imul (pc := 311) dL_law_311 ?_
  refine j_iconst (pc := 312) dL_law_312 (v := 2) (by decide) ?_
  refine j_iadd (pc := 313) dL_law_313 ?_
  refine j_ldc (pc := 314) dL_law_314 (v := 60000) (jwm lw_720) ?_
  obtain ⟨x6, w4, e5, h⟩ := obS2 h
  have ge5 := calSR_of e5
  refine j_callSC (pc := 316) (As := [.ref 1000000, .int ((3 * i12) + 2), .int 60000]) (k' := kk + 0) (n' := nn + 0) dL_law_316 (fun q h => h) (s_L_part ge5.1) (jgS lw_722 lw_723 lw_597 lw_721) rfl hy_L_part rfl (by decide) (by decide) (Nat.le_of_ble_eq_true rfl) (by omega) (by omega) (by omega) (by omega) ge5.2 ?_
  refine j_istore_15 (pc := 319) dL_law_319 (by decide) rfl ?_
  refine j_iload (pc := 321) dL_law_321 rfl ?_
  refine j_bipush (pc := 323) dL_law_323 (v := 18) (by decide) ?_
  refine j_icmp_ge (pc := 325) (tgt := 411) dL_law_325 (by decide) (fun c7 => ?_) (fun c7 => ?_)
  · rw [if_pos c7] at h
    refine j_aload_n (pc := 411) dL_law_411 rfl ?_
    refine j_aload_n (pc := 412) dL_law_412 rfl ?_
    refine j_aload_n (pc := 413) dL_law_413 rfl ?_
    refine j_aload (pc := 414) dL_law_414 rfl ?_
    refine j_aload (pc := 416) dL_law_416 rfl ?_
    refine j_aload (pc := 418) dL_law_418 rfl ?_
    refine j_aload (pc := 420) dL_law_420 rfl ?_
    refine j_aload (pc := 422) dL_law_422 rfl ?_
    refine j_aload (pc := 424) dL_law_424 rfl ?_
    refine j_aload (pc := 426) dL_law_426 rfl ?_
    refine j_iload (pc := 428) dL_law_428 rfl ?_
    refine j_bipush (pc := 430) dL_law_430 (v := 21) (by decide) ?_
    refine j_icmp_ge (pc := 432) (tgt := 439) dL_law_432 (by decide) (fun c8 => ?_) (fun c8 => ?_)
    · rw [if_pos c8] at h
      refine j_iload (pc := 439) dL_law_439 rfl ?_
      refine j_bipush (pc := 441) dL_law_441 (v := 29) (by decide) ?_
      refine j_icmp_ge (pc := 443) (tgt := 450) dL_law_443 (by decide) (fun c9 => ?_) (fun c9 => ?_)
      · rw [if_pos c9] at h
        refine j_iload (pc := 450) dL_law_450 rfl ?_
        refine j_bipush (pc := 452) dL_law_452 (v := 37) (by decide) ?_
        refine j_icmp_ge (pc := 454) (tgt := 461) dL_law_454 (by decide) (fun c10 => ?_) (fun c10 => ?_)
        · rw [if_pos c10] at h
          refine j_iload (pc := 461) dL_law_461 rfl ?_
          refine j_bipush (pc := 463) dL_law_463 (v := 45) (by decide) ?_
          refine j_icmp_ge (pc := 465) (tgt := 472) dL_law_465 (by decide) (fun c11 => ?_) (fun c11 => ?_)
          · rw [if_pos c11] at h
            refine j_iload (pc := 472) dL_law_472 rfl ?_
            refine j_bipush (pc := 474) dL_law_474 (v := 51) (by decide) ?_
            refine j_icmp_ge (pc := 476) (tgt := 483) dL_law_476 (by decide) (fun c12 => ?_) (fun c12 => ?_)
            · rw [if_pos c12] at h
              refine j_iconst (pc := 483) dL_law_483 (v := 5) (by decide) ?_
              refine j_mask [true, true, true, true, true, true, true, true, true, true, true, false, true, false, true, true] ?_
              exact jm_L_law_b484 (hk235 := hk235) (by omega) (by omega) _ _ _ _ _ _ _ _ _ _ _ _ _ _ _ _ _ _ _ _ _ _ _ _ w4 h
            · rw [if_neg c12] at h
              refine j_iconst (pc := 479) dL_law_479 (v := 4) (by decide) ?_
              refine j_goto (pc := 480) (tgt := 484) dL_law_480 (by decide) ?_
              refine j_mask [true, true, true, true, true, true, true, true, true, true, true, false, true, false, true, true] ?_
              exact jm_L_law_b484 (hk235 := hk235) (by omega) (by omega) _ _ _ _ _ _ _ _ _ _ _ _ _ _ _ _ _ _ _ _ _ _ _ _ w4 h
          · rw [if_neg c11] at h
            refine j_iconst (pc := 468) dL_law_468 (v := 3) (by decide) ?_
            refine j_goto (pc := 469) (tgt := 484) dL_law_469 (by decide) ?_
            refine j_mask [true, true, true, true, true, true, true, true, true, true, true, false, true, false, true, true] ?_
            exact jm_L_law_b484 (hk235 := hk235) (by omega) (by omega) _ _ _ _ _ _ _ _ _ _ _ _ _ _ _ _ _ _ _ _ _ _ _ _ w4 h
        · rw [if_neg c10] at h
          refine j_iconst (pc := 457) dL_law_457 (v := 2) (by decide) ?_
          refine j_goto (pc := 458) (tgt := 484) dL_law_458 (by decide) ?_
          refine j_mask [true, true, true, true, true, true, true, true, true, true, true, false, true, false, true, true] ?_
          exact jm_L_law_b484 (hk235 := hk235) (by omega) (by omega) _ _ _ _ _ _ _ _ _ _ _ _ _ _ _ _ _ _ _ _ _ _ _ _ w4 h
      · rw [if_neg c9] at h
        refine j_iconst (pc := 446) dL_law_446 (v := 1) (by decide) ?_
        refine j_goto (pc := 447) (tgt := 484) dL_law_447 (by decide) ?_
        refine j_mask [true, true, true, true, true, true, true, true, true, true, true, false, true, false, true, true] ?_
        exact jm_L_law_b484 (hk235 := hk235) (by omega) (by omega) _ _ _ _ _ _ _ _ _ _ _ _ _ _ _ _ _ _ _ _ _ _ _ _ w4 h
    · rw [if_neg c8] at h
      refine j_iconst (pc := 435) dL_law_435 (v := 0) (by decide) ?_
      refine j_goto (pc := 436) (tgt := 484) dL_law_436 (by decide) ?_
      refine j_mask [true, true, true, true, true, true, true, true, true, true, true, false, true, false, true, true] ?_
      exact jm_L_law_b484 (hk235 := hk235) (by omega) (by omega) _ _ _ _ _ _ _ _ _ _ _ _ _ _ _ _ _ _ _ _ _ _ _ _ w4 h
  · rw [if_neg c7] at h
    refine j_aload_n (pc := 328) dL_law_328 rfl ?_
    refine j_aload_n (pc := 329) dL_law_329 rfl ?_
    refine j_aload_n (pc := 330) dL_law_330 rfl ?_
    refine j_aload (pc := 331) dL_law_331 rfl ?_
    refine j_aload (pc := 333) dL_law_333 rfl ?_
    refine j_aload (pc := 335) dL_law_335 rfl ?_
    refine j_aload (pc := 337) dL_law_337 rfl ?_
    refine j_aload (pc := 339) dL_law_339 rfl ?_
    refine j_aload (pc := 341) dL_law_341 rfl ?_
    refine j_iload (pc := 343) dL_law_343 rfl ?_
    refine j_bipush (pc := 345) dL_law_345 (v := 6) (by decide) ?_
    refine j_icmp_ge (pc := 347) (tgt := 354) dL_law_347 (by decide) (fun c13 => ?_) (fun c13 => ?_)
    · rw [if_pos c13] at h
      refine j_iload (pc := 354) dL_law_354 rfl ?_
      refine j_bipush (pc := 356) dL_law_356 (v := 9) (by decide) ?_
      refine j_icmp_ge (pc := 358) (tgt := 365) dL_law_358 (by decide) (fun c14 => ?_) (fun c14 => ?_)
      · rw [if_pos c14] at h
        refine j_iload (pc := 365) dL_law_365 rfl ?_
        refine j_bipush (pc := 367) dL_law_367 (v := 12) (by decide) ?_
        refine j_icmp_ge (pc := 369) (tgt := 376) dL_law_369 (by decide) (fun c15 => ?_) (fun c15 => ?_)
        · rw [if_pos c15] at h
          refine j_iload (pc := 376) dL_law_376 rfl ?_
          refine j_bipush (pc := 378) dL_law_378 (v := 12) (by decide) ?_
          refine j_icmp_ne (pc := 380) (tgt := 387) dL_law_380 (by decide) (fun c16 => ?_) (fun c16 => ?_)
          · rw [if_neg c16] at h
            refine j_iload (pc := 387) dL_law_387 rfl ?_
            refine j_bipush (pc := 389) dL_law_389 (v := 17) (by decide) ?_
            refine j_icmp_ge (pc := 391) (tgt := 398) dL_law_391 (by decide) (fun c17 => ?_) (fun c17 => ?_)
            · rw [if_pos c17] at h
              refine j_iconst (pc := 398) dL_law_398 (v := 5) (by decide) ?_
              refine j_mask [true, true, true, true, true, true, true, true, true, true, true, false, true, false, true, true] ?_
              exact jm_L_law_b399 (hk235 := hk235) (by omega) (by omega) _ _ _ _ _ _ _ _ _ _ _ _ _ _ _ _ _ _ _ _ _ _ _ w4 h
            · rw [if_neg c17] at h
              refine j_iconst (pc := 394) dL_law_394 (v := 4) (by decide) ?_
              refine j_goto (pc := 395) (tgt := 399) dL_law_395 (by decide) ?_
              refine j_mask [true, true, true, true, true, true, true, true, true, true, true, false, true, false, true, true] ?_
              exact jm_L_law_b399 (hk235 := hk235) (by omega) (by omega) _ _ _ _ _ _ _ _ _ _ _ _ _ _ _ _ _ _ _ _ _ _ _ w4 h
          · rw [if_pos c16] at h
            refine j_iconst (pc := 383) dL_law_383 (v := 3) (by decide) ?_
            refine j_goto (pc := 384) (tgt := 399) dL_law_384 (by decide) ?_
            refine j_mask [true, true, true, true, true, true, true, true, true, true, true, false, true, false, true, true] ?_
            exact jm_L_law_b399 (hk235 := hk235) (by omega) (by omega) _ _ _ _ _ _ _ _ _ _ _ _ _ _ _ _ _ _ _ _ _ _ _ w4 h
        · rw [if_neg c15] at h
          refine j_iconst (pc := 372) dL_law_372 (v := 2) (by decide) ?_
          refine j_goto (pc := 373) (tgt := 399) dL_law_373 (by decide) ?_
          refine j_mask [true, true, true, true, true, true, true, true, true, true, true, false, true, false, true, true] ?_
          exact jm_L_law_b399 (hk235 := hk235) (by omega) (by omega) _ _ _ _ _ _ _ _ _ _ _ _ _ _ _ _ _ _ _ _ _ _ _ w4 h
      · rw [if_neg c14] at h
        refine j_iconst (pc := 361) dL_law_361 (v := 1) (by decide) ?_
        refine j_goto (pc := 362) (tgt := 399) dL_law_362 (by decide) ?_
        refine j_mask [true, true, true, true, true, true, true, true, true, true, true, false, true, false, true, true] ?_
        exact jm_L_law_b399 (hk235 := hk235) (by omega) (by omega) _ _ _ _ _ _ _ _ _ _ _ _ _ _ _ _ _ _ _ _ _ _ _ w4 h
    · rw [if_neg c13] at h
      refine j_iconst (pc := 350) dL_law_350 (v := 0) (by decide) ?_
      refine j_goto (pc := 351) (tgt := 399) dL_law_351 (by decide) ?_
      refine j_mask [true, true, true, true, true, true, true, true, true, true, true, false, true, false, true, true] ?_
      exact jm_L_law_b399 (hk235 := hk235) (by omega) (by omega) _ _ _ _ _ _ _ _ _ _ _ _ _ _ _ _ _ _ _ _ _ _ _ w4 h
def m_L_law_l235 (L : Nat) (xs : Nat → Int32) : Nat → Nat → Nat → Nat → Nat → Nat → Nat → Nat → Nat → Nat → Nat → Int32 → Int32 → LWd → Option (Int32 × LWd)
  | 0, _, _, _, _, _, _, _, _, _, _, _, _, _ => none
  | fu + 1, a1, a2, a3, a4, a5, a6, a7, a8, a9, a10, i11, i12, ws =>
    if 60 ≤ i12 then
      retZ i11 ws
    else
      if i11 = 0 then
        retZ i11 ws
      else
        if 4 ≤ i12 then
          if 6 ≤ i12 then
            if 7 ≤ i12 then
              bn2 (calSR ws (m_L_part L xs (3 * i12) 56 ws)) fun x8 w6 =>
              m_L_law_b291 L xs (fun z0 z1 z2 z3 z4 z5 z6 z7 z8 z9 z10 z11 w => m_L_law_l235 L xs fu z0 z1 z2 z3 z4 z5 z6 z7 z8 z9 z10 z11 w) a1 a2 a3 a4 a5 a6 a7 a8 a9 a10 i12 x8 w6
            else
              m_L_law_b291 L xs (fun z0 z1 z2 z3 z4 z5 z6 z7 z8 z9 z10 z11 w => m_L_law_l235 L xs fu z0 z1 z2 z3 z4 z5 z6 z7 z8 z9 z10 z11 w) a1 a2 a3 a4 a5 a6 a7 a8 a9 a10 i12 22 ws
          else
            m_L_law_b291 L xs (fun z0 z1 z2 z3 z4 z5 z6 z7 z8 z9 z10 z11 w => m_L_law_l235 L xs fu z0 z1 z2 z3 z4 z5 z6 z7 z8 z9 z10 z11 w) a1 a2 a3 a4 a5 a6 a7 a8 a9 a10 i12 0 ws
        else
          m_L_law_b291 L xs (fun z0 z1 z2 z3 z4 z5 z6 z7 z8 z9 z10 z11 w => m_L_law_l235 L xs fu z0 z1 z2 z3 z4 z5 z6 z7 z8 z9 z10 z11 w) a1 a2 a3 a4 a5 a6 a7 a8 a9 a10 i12 9 ws
set_option maxRecDepth 100000 in
set_option maxHeartbeats 4000000 in
theorem jm_L_law_l235 {bb : Nat} {nm : String} {L : Nat} {xs : Nat → Int32} {n0 : Nat} {rr : Int32} {ws' : LWd} : ∀ (fu : Nat) (a1 : Nat) (a2 : Nat) (a3 : Nat) (a4 : Nat) (a5 : Nat) (a6 : Nat) (a7 : Nat) (a8 : Nat) (a9 : Nat) (a10 : Nat) (i11 : Int32) (i12 : Int32) (ws : LWd) (kk nn : Nat) (hkk : kk + 10 * fu ≤ 600086) (hnn : nn + 60 * fu ≤ 7301441), m_L_law_l235 L xs fu a1 a2 a3 a4 a5 a6 a7 a8 a9 a10 i11 i12 ws = some (rr, ws') → JG (.inr (some (bb, L, xs))) cL_law 16 RL wsL_law (some .boolean) nm 13 600086 7301441 n0 (.inl (some (.int rr)), ws') 235 [some (.ref 1000000), some (.ref a1), some (.ref a2), some (.ref a3), some (.ref a4), some (.ref a5), some (.ref a6), some (.ref a7), some (.ref a8), some (.ref a9), some (.ref a10), some (.int i11), some (.int i12), none, none, none] [] ws (kk + 0) (nn + 0) := by
  intro fu
  induction fu with
  | zero => intro a1 a2 a3 a4 a5 a6 a7 a8 a9 a10 i11 i12 ws kk nn hkk hnn h; first | (cases h; done) | (rw [m_L_law_l235] at h; cases h)
  | succ fu ih =>
    intro a1 a2 a3 a4 a5 a6 a7 a8 a9 a10 i11 i12 ws kk nn hkk hnn h
    have hbk : kk + 10 ≤ 600086 := by omega
    have hbn : nn + 60 ≤ 7301441 := by omega
    rw [m_L_law_l235] at h
    refine j_iload (pc := 235) dL_law_235 rfl ?_
    refine j_bipush (pc := 237) dL_law_237 (v := 60) (by decide) ?_
    refine j_icmp_ge (pc := 239) (tgt := 536) dL_law_239 (by decide) (fun c1 => ?_) (fun c1 => ?_)
    · rw [if_pos c1] at h
      refine j_iload (pc := 536) dL_law_536 rfl ?_
      exact j_zret (pc := 538) rfl dL_law_538 (by omega) (by omega) h rfl rfl
    · rw [if_neg c1] at h
      refine j_iload (pc := 242) dL_law_242 rfl ?_
      refine j_if_eq (pc := 244) (tgt := 536) dL_law_244 (by decide) (fun c2 => ?_) (fun c2 => ?_)
      · rw [if_pos c2] at h
        refine j_iload (pc := 536) dL_law_536 rfl ?_
        exact j_zret (pc := 538) rfl dL_law_538 (by omega) (by omega) h rfl rfl
      · rw [if_neg c2] at h
        refine j_iload (pc := 247) dL_law_247 rfl ?_
        refine j_iconst (pc := 249) dL_law_249 (v := 4) (by decide) ?_
        refine j_icmp_ge (pc := 250) (tgt := 258) dL_law_250 (by decide) (fun c3 => ?_) (fun c3 => ?_)
        · rw [if_pos c3] at h
          refine j_iload (pc := 258) dL_law_258 rfl ?_
          refine j_bipush (pc := 260) dL_law_260 (v := 6) (by decide) ?_
          refine j_icmp_ge (pc := 262) (tgt := 269) dL_law_262 (by decide) (fun c4 => ?_) (fun c4 => ?_)
          · rw [if_pos c4] at h
            refine j_iload (pc := 269) dL_law_269 rfl ?_
            refine j_bipush (pc := 271) dL_law_271 (v := 7) (by decide) ?_
            refine j_icmp_ge (pc := 273) (tgt := 281) dL_law_273 (by decide) (fun c5 => ?_) (fun c5 => ?_)
            · rw [if_pos c5] at h
              refine j_aload_n (pc := 281) dL_law_281 rfl ?_
              refine j_iconst (pc := 282) dL_law_282 (v := 3) (by decide) ?_
              refine j_iload (pc := 283) dL_law_283 rfl ?_
              refine j_imul (pc := 285) dL_law_285 ?_
              refine j_bipush (pc := 286) dL_law_286 (v := 56) (by decide) ?_
              obtain ⟨x8, w6, e7, h⟩ := obS2 h
              have ge7 := calSR_of e7
              refine j_callSC (pc := 288) (As := [.ref 1000000, .int (3 * i12), .int 56]) (k' := kk + 0) (n' := nn + 0) dL_law_288 (fun q h => h) (s_L_part ge7.1) (jgS lw_722 lw_723 lw_597 lw_721) rfl hy_L_part rfl (by decide) (by decide) (Nat.le_of_ble_eq_true rfl) (by omega) (by omega) (by omega) (by omega) ge7.2 ?_
              refine j_mask [true, true, true, true, true, true, true, true, true, true, true, false, true, false, false, false] ?_
              exact jm_L_law_b291 (hk235 := (fun z0 z1 z2 z3 z4 z5 z6 z7 z8 z9 z10 z11 w h => ih z0 z1 z2 z3 z4 z5 z6 z7 z8 z9 z10 z11 w (kk + 10) (nn + 60) (by omega) (by omega) h)) (by omega) (by omega) _ _ _ _ _ _ _ _ _ _ _ _ w6 h
            · rw [if_neg c5] at h
              refine j_bipush (pc := 276) dL_law_276 (v := 22) (by decide) ?_
              refine j_goto (pc := 278) (tgt := 291) dL_law_278 (by decide) ?_
              refine j_mask [true, true, true, true, true, true, true, true, true, true, true, false, true, false, false, false] ?_
              exact jm_L_law_b291 (hk235 := (fun z0 z1 z2 z3 z4 z5 z6 z7 z8 z9 z10 z11 w h => ih z0 z1 z2 z3 z4 z5 z6 z7 z8 z9 z10 z11 w (kk + 10) (nn + 60) (by omega) (by omega) h)) (by omega) (by omega) _ _ _ _ _ _ _ _ _ _ _ _ ws h
          · rw [if_neg c4] at h
            refine j_iconst (pc := 265) dL_law_265 (v := 0) (by decide) ?_
            refine j_goto (pc := 266) (tgt := 291) dL_law_266 (by decide) ?_
            refine j_mask [true, true, true, true, true, true, true, true, true, true, true, false, true, false, false, false] ?_
            exact jm_L_law_b291 (hk235 := (fun z0 z1 z2 z3 z4 z5 z6 z7 z8 z9 z10 z11 w h => ih z0 z1 z2 z3 z4 z5 z6 z7 z8 z9 z10 z11 w (kk + 10) (nn + 60) (by omega) (by omega) h)) (by omega) (by omega) _ _ _ _ _ _ _ _ _ _ _ _ ws h
        · rw [if_neg c3] at h
          refine j_bipush (pc := 253) dL_law_253 (v := 9) (by decide) ?_
          refine j_goto (pc := 255) (tgt := 291) dL_law_255 (by decide) ?_
          refine j_mask [true, true, true, true, true, true, true, true, true, true, true, false, true, false, false, false] ?_
          exact jm_L_law_b291 (hk235 := (fun z0 z1 z2 z3 z4 z5 z6 z7 z8 z9 z10 z11 w h => ih z0 z1 z2 z3 z4 z5 z6 z7 z8 z9 z10 z11 w (kk + 10) (nn + 60) (by omega) (by omega) h)) (by omega) (by omega) _ _ _ _ _ _ _ _ _ _ _ _ ws h
def m_L_law_b230 (L : Nat) (xs : Nat → Int32) (a1 : Nat) (a2 : Nat) (a3 : Nat) (a4 : Nat) (a5 : Nat) (a6 : Nat) (a7 : Nat) (a8 : Nat) (a9 : Nat) (a10 : Nat) (s0 : Int32) (ws : LWd) : Option (Int32 × LWd) :=
  m_L_law_l235 L xs 61 a1 a2 a3 a4 a5 a6 a7 a8 a9 a10 s0 0 ws
set_option maxRecDepth 100000 in
set_option maxHeartbeats 4000000 in
theorem jm_L_law_b230 {bb : Nat} {nm : String} {L : Nat} {xs : Nat → Int32} {n0 : Nat} {rr : Int32} {ws' : LWd} (a1 : Nat) (a2 : Nat) (a3 : Nat) (a4 : Nat) (a5 : Nat) (a6 : Nat) (a7 : Nat) (a8 : Nat) (a9 : Nat) (a10 : Nat) (s0 : Int32) (ws : LWd) (h : m_L_law_b230 L xs a1 a2 a3 a4 a5 a6 a7 a8 a9 a10 s0 ws = some (rr, ws')) : JG (.inr (some (bb, L, xs))) cL_law 16 RL wsL_law (some .boolean) nm 13 600086 7301441 n0 (.inl (some (.int rr)), ws') 230 [some (.ref 1000000), some (.ref a1), some (.ref a2), some (.ref a3), some (.ref a4), some (.ref a5), some (.ref a6), some (.ref a7), some (.ref a8), some (.ref a9), some (.ref a10), none, none, none, none, none] [.int s0] ws 85 14164 := by
  unfold m_L_law_b230 at h
  refine j_istore_11 (pc := 230) dL_law_230 (by decide) rfl ?_
  refine j_iconst (pc := 232) dL_law_232 (v := 0) (by decide) ?_
  refine j_istore_12 (pc := 233) dL_law_233 (by decide) rfl ?_
  exact jm_L_law_l235 61  _ _ _ _ _ _ _ _ _ _ _ _ ws _ _ (by decide) (by decide) h
def m_L_law_b229 (L : Nat) (xs : Nat → Int32) (a1 : Nat) (a2 : Nat) (a3 : Nat) (a4 : Nat) (a5 : Nat) (a6 : Nat) (a7 : Nat) (a8 : Nat) (a9 : Nat) (a10 : Nat) (ws : LWd) : Option (Int32 × LWd) :=
  m_L_law_b230 L xs a1 a2 a3 a4 a5 a6 a7 a8 a9 a10 0 ws
set_option maxRecDepth 100000 in
set_option maxHeartbeats 4000000 in
theorem jm_L_law_b229 {bb : Nat} {nm : String} {L : Nat} {xs : Nat → Int32} {n0 : Nat} {rr : Int32} {ws' : LWd} (a1 : Nat) (a2 : Nat) (a3 : Nat) (a4 : Nat) (a5 : Nat) (a6 : Nat) (a7 : Nat) (a8 : Nat) (a9 : Nat) (a10 : Nat) (ws : LWd) (h : m_L_law_b229 L xs a1 a2 a3 a4 a5 a6 a7 a8 a9 a10 ws = some (rr, ws')) : JG (.inr (some (bb, L, xs))) cL_law 16 RL wsL_law (some .boolean) nm 13 600086 7301441 n0 (.inl (some (.int rr)), ws') 229 [some (.ref 1000000), some (.ref a1), some (.ref a2), some (.ref a3), some (.ref a4), some (.ref a5), some (.ref a6), some (.ref a7), some (.ref a8), some (.ref a9), some (.ref a10), none, none, none, none, none] [] ws 85 14164 := by
  unfold m_L_law_b229 at h
  refine j_iconst (pc := 229) dL_law_229 (v := 0) (by decide) ?_
  exact jm_L_law_b230 _ _ _ _ _ _ _ _ _ _ _ ws h
def m_L_law_l63 (L : Nat) (xs : Nat → Int32) : Nat → Nat → Nat → Nat → Nat → Nat → Nat → Nat → Nat → Nat → Nat → Int32 → LWd → Option (Int32 × LWd)
  | 0, _, _, _, _, _, _, _, _, _, _, _, _ => none
  | fu + 1, a1, a2, a3, a4, a5, a6, a7, a8, a9, a10, i11, ws =>
    if 50 ≤ i11 then
      (sI ws a10 1 10).bind fun w2 =>
      (sI w2 a10 2 10).bind fun w4 =>
      (sI w4 a10 3 1000).bind fun w6 =>
      bn2 (calSR w6 (m_L_does a1 6 0 0 0 0 0 w6)) fun x10 w8 =>
      if x10 = ((-1000000)) then
        bn2 (calSR w8 (m_L_does a1 7 0 0 0 0 0 w8)) fun x14 w12 =>
        if x14 = ((-3000000)) then
          bn2 (calSR w12 (m_L_does a1 9 0 0 0 0 0 w12)) fun x18 w16 =>
          if x18 = ((-2000000)) then
            bn2 (calSR w16 (m_L_does a1 9 1 0 0 0 0 w16)) fun x22 w20 =>
            if x22 = ((-1000000)) then
              bn2 (calSR w20 (m_L_does a1 10 1 0 0 0 0 w20)) fun x26 w24 =>
              if x26 = ((-1000000)) then
                bn2 (calSR w24 (m_L_does a1 11 ((-1)) 0 0 0 0 w24)) fun x30 w28 =>
                if x30 = ((-2000000)) then
                  bn2 (calSR w28 (m_L_does a1 13 20 0 0 0 0 w28)) fun x34 w32 =>
                  if x34 = ((-2000000)) then
                    m_L_law_b230 L xs a1 a2 a3 a4 a5 a6 a7 a8 a9 a10 1 w32
                  else
                    m_L_law_b229 L xs a1 a2 a3 a4 a5 a6 a7 a8 a9 a10 w32
                else
                  m_L_law_b229 L xs a1 a2 a3 a4 a5 a6 a7 a8 a9 a10 w28
              else
                m_L_law_b229 L xs a1 a2 a3 a4 a5 a6 a7 a8 a9 a10 w24
            else
              m_L_law_b229 L xs a1 a2 a3 a4 a5 a6 a7 a8 a9 a10 w20
          else
            m_L_law_b229 L xs a1 a2 a3 a4 a5 a6 a7 a8 a9 a10 w16
        else
          m_L_law_b229 L xs a1 a2 a3 a4 a5 a6 a7 a8 a9 a10 w12
      else
        m_L_law_b229 L xs a1 a2 a3 a4 a5 a6 a7 a8 a9 a10 w8
    else
      (sL ws a4 i11 7161677110969590627).bind fun w36 =>
      (sL w36 a3 (i11 / 2) ((-7378697629483820647))).bind fun w38 =>
      m_L_law_l63 L xs fu a1 a2 a3 a4 a5 a6 a7 a8 a9 a10 (i11 + 1) w38
set_option maxRecDepth 100000 in
set_option maxHeartbeats 4000000 in
theorem jm_L_law_l63 {bb : Nat} {nm : String} {L : Nat} {xs : Nat → Int32} {n0 : Nat} {rr : Int32} {ws' : LWd} : ∀ (fu : Nat) (a1 : Nat) (a2 : Nat) (a3 : Nat) (a4 : Nat) (a5 : Nat) (a6 : Nat) (a7 : Nat) (a8 : Nat) (a9 : Nat) (a10 : Nat) (i11 : Int32) (ws : LWd), m_L_law_l63 L xs fu a1 a2 a3 a4 a5 a6 a7 a8 a9 a10 i11 ws = some (rr, ws') → JG (.inr (some (bb, L, xs))) cL_law 16 RL wsL_law (some .boolean) nm 13 600086 7301441 n0 (.inl (some (.int rr)), ws') 63 [some (.ref 1000000), some (.ref a1), some (.ref a2), some (.ref a3), some (.ref a4), some (.ref a5), some (.ref a6), some (.ref a7), some (.ref a8), some (.ref a9), some (.ref a10), some (.int i11), none, none, none, none] [] ws 78 14122 := by
  intro fu
  induction fu with
  | zero => intro a1 a2 a3 a4 a5 a6 a7 a8 a9 a10 i11 ws h; first | (cases h; done) | (rw [m_L_law_l63] at h; cases h)
  | succ fu ih =>
    intro a1 a2 a3 a4 a5 a6 a7 a8 a9 a10 i11 ws h
    rw [m_L_law_l63] at h
    refine j_iload (pc := 63) dL_law_63 rfl ?_
    refine j_bipush (pc := 65) dL_law_65 (v := 50) (by decide) ?_
    refine j_icmp_ge (pc := 67) (tgt := 93) dL_law_67 (by decide) (fun c1 => ?_) (fun c1 => ?_)
    · rw [if_pos c1] at h
      refine j_aload (pc := 93) dL_law_93 rfl ?_
      refine j_iconst (pc := 95) dL_law_95 (v := 1) (by decide) ?_
      refine j_bipush (pc := 96) dL_law_96 (v := 10) (by decide) ?_
      obtain ⟨w2, e3, h⟩ := obS h
      refine j_iast (pc := 98) dL_law_98 e3 ?_
      refine j_aload (pc := 99) dL_law_99 rfl ?_
      refine j_iconst (pc := 101) dL_law_101 (v := 2) (by decide) ?_
      refine j_bipush (pc := 102) dL_law_102 (v := 10) (by decide) ?_
      obtain ⟨w4, e5, h⟩ := obS h
      refine j_iast (pc := 104) dL_law_104 e5 ?_
      refine j_aload (pc := 105) dL_law_105 rfl ?_
      refine j_iconst (pc := 107) dL_law_107 (v := 3) (by decide) ?_
      refine j_sipush (pc := 108) dL_law_108 (v := 1000) (by decide) ?_
      obtain ⟨w6, e7, h⟩ := obS h
      refine j_iast (pc := 111) dL_law_111 e7 ?_
      refine j_aload_n (pc := 112) dL_law_112 rfl ?_
      refine j_bipush (pc := 113) dL_law_113 (v := 6) (by decide) ?_
      refine j_iconst (pc := 115) dL_law_115 (v := 0) (by decide) ?_
      refine j_iconst (pc := 116) dL_law_116 (v := 0) (by decide) ?_
      refine j_iconst (pc := 117) dL_law_117 (v := 0) (by decide) ?_
      refine j_iconst (pc := 118) dL_law_118 (v := 0) (by decide) ?_
      refine j_iconst (pc := 119) dL_law_119 (v := 0) (by decide) ?_
      obtain ⟨x10, w8, e9, h⟩ := obS2 h
      have ge9 := calSR_of e9
      refine j_callSW (pc := 120) (As := [.ref a1, .int 6, .int 0, .int 0, .int 0, .int 0, .int 0]) (k' := 79) (n' := 14128) dL_law_120 (fun q h => by cases h) (s_L_does ge9.1) (jgS lw_657 lw_658 lw_597 lw_656) rfl hy_L_does rfl (by decide) (by decide) (Nat.le_of_ble_eq_true rfl) (by decide) (by decide) (by decide) (by decide) ge9.2 ?_
      refine j_ldc (pc := 123) dL_law_123 (v := (-1000000)) (jwm lw_530) ?_
      refine j_icmp_ne (pc := 125) (tgt := 229) dL_law_125 (by decide) (fun c11 => ?_) (fun c11 => ?_)
      · rw [if_neg c11] at h
        refine j_mask [true, true, true, true, true, true, true, true, true, true, true, false, false, false, false, false] ?_
        refine j_wide (k' := 85) (n' := 14164) (by decide) (by decide) ?_
        exact jm_L_law_b229 _ _ _ _ _ _ _ _ _ _ w8 h
      · rw [if_pos c11] at h
        refine j_aload_n (pc := 128) dL_law_128 rfl ?_
        refine j_bipush (pc := 129) dL_law_129 (v := 7) (by decide) ?_
        refine j_iconst (pc := 131) dL_law_131 (v := 0) (by decide) ?_
        refine j_iconst (pc := 132) dL_law_132 (v := 0) (by decide) ?_
        refine j_iconst (pc := 133) dL_law_133 (v := 0) (by decide) ?_
        refine j_iconst (pc := 134) dL_law_134 (v := 0) (by decide) ?_
        refine j_iconst (pc := 135) dL_law_135 (v := 0) (by decide) ?_
        obtain ⟨x14, w12, e13, h⟩ := obS2 h
        have ge13 := calSR_of e13
        refine j_callSW (pc := 136) (As := [.ref a1, .int 7, .int 0, .int 0, .int 0, .int 0, .int 0]) (k' := 80) (n' := 14134) dL_law_136 (fun q h => by cases h) (s_L_does ge13.1) (jgS lw_657 lw_658 lw_597 lw_656) rfl hy_L_does rfl (by decide) (by decide) (Nat.le_of_ble_eq_true rfl) (by decide) (by decide) (by decide) (by decide) ge13.2 ?_
        refine j_ldc (pc := 139) dL_law_139 (v := (-3000000)) (jwm lw_526) ?_
        refine j_icmp_ne (pc := 141) (tgt := 229) dL_law_141 (by decide) (fun c15 => ?_) (fun c15 => ?_)
        · rw [if_neg c15] at h
          refine j_mask [true, true, true, true, true, true, true, true, true, true, true, false, false, false, false, false] ?_
          refine j_wide (k' := 85) (n' := 14164) (by decide) (by decide) ?_
          exact jm_L_law_b229 _ _ _ _ _ _ _ _ _ _ w12 h
        · rw [if_pos c15] at h
          refine j_aload_n (pc := 144) dL_law_144 rfl ?_
          refine j_bipush (pc := 145) dL_law_145 (v := 9) (by decide) ?_
          refine j_iconst (pc := 147) dL_law_147 (v := 0) (by decide) ?_
          refine j_iconst (pc := 148) dL_law_148 (v := 0) (by decide) ?_
          refine j_iconst (pc := 149) dL_law_149 (v := 0) (by decide) ?_
          refine j_iconst (pc := 150) dL_law_150 (v := 0) (by decide) ?_
          refine j_iconst (pc := 151) dL_law_151 (v := 0) (by decide) ?_
          obtain ⟨x18, w16, e17, h⟩ := obS2 h
          have ge17 := calSR_of e17
          refine j_callSW (pc := 152) (As := [.ref a1, .int 9, .int 0, .int 0, .int 0, .int 0, .int 0]) (k' := 81) (n' := 14140) dL_law_152 (fun q h => by cases h) (s_L_does ge17.1) (jgS lw_657 lw_658 lw_597 lw_656) rfl hy_L_does rfl (by decide) (by decide) (Nat.le_of_ble_eq_true rfl) (by decide) (by decide) (by decide) (by decide) ge17.2 ?_
          refine j_ldc (pc := 155) dL_law_155 (v := (-2000000)) (jwm lw_528) ?_
          refine j_icmp_ne (pc := 157) (tgt := 229) dL_law_157 (by decide) (fun c19 => ?_) (fun c19 => ?_)
          · rw [if_neg c19] at h
            refine j_mask [true, true, true, true, true, true, true, true, true, true, true, false, false, false, false, false] ?_
            refine j_wide (k' := 85) (n' := 14164) (by decide) (by decide) ?_
            exact jm_L_law_b229 _ _ _ _ _ _ _ _ _ _ w16 h
          · rw [if_pos c19] at h
            refine j_aload_n (pc := 160) dL_law_160 rfl ?_
            refine j_bipush (pc := 161) dL_law_161 (v := 9) (by decide) ?_
            refine j_iconst (pc := 163) dL_law_163 (v := 1) (by decide) ?_
            refine j_iconst (pc := 164) dL_law_164 (v := 0) (by decide) ?_
            refine j_iconst (pc := 165) dL_law_165 (v := 0) (by decide) ?_
            refine j_iconst (pc := 166) dL_law_166 (v := 0) (by decide) ?_
            refine j_iconst (pc := 167) dL_law_167 (v := 0) (by decide) ?_
            obtain ⟨x22, w20, e21, h⟩ := obS2 h
            have ge21 := calSR_of e21
            refine j_callSW (pc := 168) (As := [.ref a1, .int 9, .int 1, .int 0, .int 0, .int 0, .int 0]) (k' := 82) (n' := 14146) dL_law_168 (fun q h => by cases h) (s_L_does ge21.1) (jgS lw_657 lw_658 lw_597 lw_656) rfl hy_L_does rfl (by decide) (by decide) (Nat.le_of_ble_eq_true rfl) (by decide) (by decide) (by decide) (by decide) ge21.2 ?_
            refine j_ldc (pc := 171) dL_law_171 (v := (-1000000)) (jwm lw_530) ?_
            refine j_icmp_ne (pc := 173) (tgt := 229) dL_law_173 (by decide) (fun c23 => ?_) (fun c23 => ?_)
            · rw [if_neg c23] at h
              refine j_mask [true, true, true, true, true, true, true, true, true, true, true, false, false, false, false, false] ?_
              refine j_wide (k' := 85) (n' := 14164) (by decide) (by decide) ?_
              exact jm_L_law_b229 _ _ _ _ _ _ _ _ _ _ w20 h
            · rw [if_pos c23] at h
              refine j_aload_n (pc := 176) dL_law_176 rfl ?_
              refine j_bipush (pc := 177) dL_law_177 (v := 10) (by decide) ?_
              refine j_iconst (pc := 179) dL_law_179 (v := 1) (by decide) ?_
              refine j_iconst (pc := 180) dL_law_180 (v := 0) (by decide) ?_
              refine j_iconst (pc := 181) dL_law_181 (v := 0) (by decide) ?_
              refine j_iconst (pc := 182) dL_law_182 (v := 0) (by decide) ?_
              refine j_iconst (pc := 183) dL_law_183 (v := 0) (by decide) ?_
              obtain ⟨x26, w24, e25, h⟩ := obS2 h
              have ge25 := calSR_of e25
              refine j_callSW (pc := 184) (As := [.ref a1, .int 10, .int 1, .int 0, .int 0, .int 0, .int 0]) (k' := 83) (n' := 14152) dL_law_184 (fun q h => by cases h) (s_L_does ge25.1) (jgS lw_657 lw_658 lw_597 lw_656) rfl hy_L_does rfl (by decide) (by decide) (Nat.le_of_ble_eq_true rfl) (by decide) (by decide) (by decide) (by decide) ge25.2 ?_
              refine j_ldc (pc := 187) dL_law_187 (v := (-1000000)) (jwm lw_530) ?_
              refine j_icmp_ne (pc := 189) (tgt := 229) dL_law_189 (by decide) (fun c27 => ?_) (fun c27 => ?_)
              · rw [if_neg c27] at h
                refine j_mask [true, true, true, true, true, true, true, true, true, true, true, false, false, false, false, false] ?_
                refine j_wide (k' := 85) (n' := 14164) (by decide) (by decide) ?_
                exact jm_L_law_b229 _ _ _ _ _ _ _ _ _ _ w24 h
              · rw [if_pos c27] at h
                refine j_aload_n (pc := 192) dL_law_192 rfl ?_
                refine j_bipush (pc := 193) dL_law_193 (v := 11) (by decide) ?_
                refine j_iconst (pc := 195) dL_law_195 (v := (-1)) (by decide) ?_
                refine j_iconst (pc := 196) dL_law_196 (v := 0) (by decide) ?_
                refine j_iconst (pc := 197) dL_law_197 (v := 0) (by decide) ?_
                refine j_iconst (pc := 198) dL_law_198 (v := 0) (by decide) ?_
                refine j_iconst (pc := 199) dL_law_199 (v := 0) (by decide) ?_
                obtain ⟨x30, w28, e29, h⟩ := obS2 h
                have ge29 := calSR_of e29
                refine j_callSW (pc := 200) (As := [.ref a1, .int 11, .int ((-1)), .int 0, .int 0, .int 0, .int 0]) (k' := 84) (n' := 14158) dL_law_200 (fun q h => by cases h) (s_L_does ge29.1) (jgS lw_657 lw_658 lw_597 lw_656) rfl hy_L_does rfl (by decide) (by decide) (Nat.le_of_ble_eq_true rfl) (by decide) (by decide) (by decide) (by decide) ge29.2 ?_
                refine j_ldc (pc := 203) dL_law_203 (v := (-2000000)) (jwm lw_528) ?_
                refine j_icmp_ne (pc := 205) (tgt := 229) dL_law_205 (by decide) (fun c31 => ?_) (fun c31 => ?_)
                · rw [if_neg c31] at h
                  refine j_mask [true, true, true, true, true, true, true, true, true, true, true, false, false, false, false, false] ?_
                  refine j_wide (k' := 85) (n' := 14164) (by decide) (by decide) ?_
                  exact jm_L_law_b229 _ _ _ _ _ _ _ _ _ _ w28 h
                · rw [if_pos c31] at h
                  refine j_aload_n (pc := 208) dL_law_208 rfl ?_
                  refine j_bipush (pc := 209) dL_law_209 (v := 13) (by decide) ?_
                  refine j_bipush (pc := 211) dL_law_211 (v := 20) (by decide) ?_
                  refine j_iconst (pc := 213) dL_law_213 (v := 0) (by decide) ?_
                  refine j_iconst (pc := 214) dL_law_214 (v := 0) (by decide) ?_
                  refine j_iconst (pc := 215) dL_law_215 (v := 0) (by decide) ?_
                  refine j_iconst (pc := 216) dL_law_216 (v := 0) (by decide) ?_
                  obtain ⟨x34, w32, e33, h⟩ := obS2 h
                  have ge33 := calSR_of e33
                  refine j_callSW (pc := 217) (As := [.ref a1, .int 13, .int 20, .int 0, .int 0, .int 0, .int 0]) (k' := 85) (n' := 14164) dL_law_217 (fun q h => by cases h) (s_L_does ge33.1) (jgS lw_657 lw_658 lw_597 lw_656) rfl hy_L_does rfl (by decide) (by decide) (Nat.le_of_ble_eq_true rfl) (by decide) (by decide) (by decide) (by decide) ge33.2 ?_
                  refine j_ldc (pc := 220) dL_law_220 (v := (-2000000)) (jwm lw_528) ?_
                  refine j_icmp_ne (pc := 222) (tgt := 229) dL_law_222 (by decide) (fun c35 => ?_) (fun c35 => ?_)
                  · rw [if_neg c35] at h
                    refine j_mask [true, true, true, true, true, true, true, true, true, true, true, false, false, false, false, false] ?_
                    exact jm_L_law_b229 _ _ _ _ _ _ _ _ _ _ w32 h
                  · rw [if_pos c35] at h
                    refine j_iconst (pc := 225) dL_law_225 (v := 1) (by decide) ?_
                    refine j_goto (pc := 226) (tgt := 230) dL_law_226 (by decide) ?_
                    refine j_mask [true, true, true, true, true, true, true, true, true, true, true, false, false, false, false, false] ?_
                    exact jm_L_law_b230 _ _ _ _ _ _ _ _ _ _ _ w32 h
    · rw [if_neg c1] at h
      refine j_aload (pc := 70) dL_law_70 rfl ?_
      refine j_iload (pc := 72) dL_law_72 rfl ?_
      refine j_ldc2 (pc := 74) dL_law_74 (v := 7161677110969590627) (jwm lw_724) ?_
      obtain ⟨w36, e37, h⟩ := obS h
      refine j_last (pc := 77) dL_law_77 e37 ?_
      refine j_aload_n (pc := 78) dL_law_78 rfl ?_
      refine j_iload (pc := 79) dL_law_79 rfl ?_
      refine j_iconst (pc := 81) dL_law_81 (v := 2) (by decide) ?_
      refine j_idiv (pc := 82) dL_law_82 (by decide) ?_
      refine j_ldc2 (pc := 83) dL_law_83 (v := (-7378697629483820647)) (jwm lw_725) ?_
      obtain ⟨w38, e39, h⟩ := obS h
      refine j_last (pc := 86) dL_law_86 e39 ?_
      refine j_iinc_11 (pc := 87) dL_law_87 (y := i11 + 1) rfl (by decide) rfl ?_
      refine j_goto (pc := 90) (tgt := 63) dL_law_90 (by decide) ?_
      exact ih _ _ _ _ _ _ _ _ _ _ _ w38 h
def m_L_law (L : Nat) (xs : Nat → Int32) (ws : LWd) : Option (Int32 × LWd) :=
  bn2 (nO ws [some (.ref 1000000), none, none, none, none, none, none, none, none, none, none, none, none, none, none, none] [] 10 [.null, .null, .null, .null, .null, .null, .null, .null, .null, .int 0, .int 0]) fun q1 w2 =>
  (calGV w2 [some (.ref 1000000), none, none, none, none, none, none, none, none, none, none, none, none, none, none, none] [.ref q1] (m_X10_init q1 w2)).bind fun w4 =>
  bn2 (nLo w4 [some (.ref 1000000), some (.ref q1), none, none, none, none, none, none, none, none, none, none, none, none, none, none] [] 400 50) fun q6 w7 =>
  bn2 (nLo w7 [some (.ref 1000000), some (.ref q1), some (.ref q6), none, none, none, none, none, none, none, none, none, none, none, none, none] [] 400 25) fun q9 w10 =>
  bn2 (nLo w10 [some (.ref 1000000), some (.ref q1), some (.ref q6), some (.ref q9), none, none, none, none, none, none, none, none, none, none, none, none] [] 400 50) fun q12 w13 =>
  bn2 (nA w13 [some (.ref 1000000), some (.ref q1), some (.ref q6), some (.ref q9), some (.ref q12), none, none, none, none, none, none, none, none, none, none, none] [] 400 6) fun q15 w16 =>
  bn2 (nA w16 [some (.ref 1000000), some (.ref q1), some (.ref q6), some (.ref q9), some (.ref q12), some (.ref q15), none, none, none, none, none, none, none, none, none, none] [] 400 6) fun q18 w19 =>
  bn2 (nA w19 [some (.ref 1000000), some (.ref q1), some (.ref q6), some (.ref q9), some (.ref q12), some (.ref q15), some (.ref q18), none, none, none, none, none, none, none, none, none] [] 400 6) fun q21 w22 =>
  bn2 (nA w22 [some (.ref 1000000), some (.ref q1), some (.ref q6), some (.ref q9), some (.ref q12), some (.ref q15), some (.ref q18), some (.ref q21), none, none, none, none, none, none, none, none] [] 400 8) fun q24 w25 =>
  bn2 (nA w25 [some (.ref 1000000), some (.ref q1), some (.ref q6), some (.ref q9), some (.ref q12), some (.ref q15), some (.ref q18), some (.ref q21), some (.ref q24), none, none, none, none, none, none, none] [] 400 41) fun q27 w28 =>
  bn2 (nA w28 [some (.ref 1000000), some (.ref q1), some (.ref q6), some (.ref q9), some (.ref q12), some (.ref q15), some (.ref q18), some (.ref q21), some (.ref q24), some (.ref q27), none, none, none, none, none, none] [] 400 15) fun q30 w31 =>
  m_L_law_l63 L xs 61 q1 q6 q9 q12 q15 q18 q21 q24 q27 q30 0 w31
set_option maxRecDepth 100000 in
set_option maxHeartbeats 4000000 in
theorem s_L_law {bb : Nat} {nm : String} {L : Nat} {xs : Nat → Int32} {ws : LWd} {rr : Int32} {ws' : LWd} (h : m_L_law L xs ws = some (rr, ws')) : JG (.inr (some (bb, L, xs))) cL_law 16 RL wsL_law (some .boolean) nm 13 600086 7301441 ws.length (.inl (some (.int rr)), ws') 0 [some (.ref 1000000), none, none, none, none, none, none, none, none, none, none, none, none, none, none, none] [] ws 0 0 := by
  unfold m_L_law at h
  obtain ⟨q1, w2, e3, h⟩ := obS2 h
  refine j_new (pc := 0) (ci := 10) (N := 11) (C := RX10) (T := TX10) tyX10 tyX10_ok dL_law_0 rfl (jwi hw_X10) (jwm lw_726) (jwm lw_727) (jwm lw_147) (fun j hj => by rcases (show j = 0 ∨ j = 1 ∨ j = 2 ∨ j = 3 ∨ j = 4 ∨ j = 5 ∨ j = 6 ∨ j = 7 ∨ j = 8 ∨ j = 9 ∨ j = 10 by omega) with rfl | rfl | rfl | rfl | rfl | rfl | rfl | rfl | rfl | rfl | rfl <;> rfl) (fun _ => rfl) (by decide) (by decide) e3 ?_
  refine j_dup (pc := 3) dL_law_3 rfl ?_
  obtain ⟨w4, e5, h⟩ := obS h
  have ge5 := calGV_of e5
  refine j_callI_g (pc := 4) (As := []) (k' := 69) (n' := 10522) dL_law_4 (s_X10_init ge5.1) (jgP lw_728) (jwm lw_147) (jwm lw_729) (jwm lw_730) rfl rfl hy_X10_init rfl (by decide) (by decide) (Nat.le_of_ble_eq_true rfl) (by decide) (by decide) (by decide) (by decide) ge5.2 ?_
  refine j_astore_n_1 (pc := 7) dL_law_7 (by decide) rfl ?_
  refine j_bipush (pc := 8) dL_law_8 (v := 50) (by decide) ?_
  obtain ⟨q6, w7, e8, h⟩ := obS2 h
  refine j_newL (pc := 10) (B := 400) (jwm lw_731) dL_law_10 (by decide) (by decide) (by decide) e8 ?_
  refine j_astore_n_2 (pc := 12) dL_law_12 (by decide) rfl ?_
  refine j_bipush (pc := 13) dL_law_13 (v := 25) (by decide) ?_
  obtain ⟨q9, w10, e11, h⟩ := obS2 h
  refine j_newL (pc := 15) (B := 400) (jwm lw_731) dL_law_15 (by decide) (by decide) (by decide) e11 ?_
  refine j_astore_n_3 (pc := 17) dL_law_17 (by decide) rfl ?_
  refine j_bipush (pc := 18) dL_law_18 (v := 50) (by decide) ?_
  obtain ⟨q12, w13, e14, h⟩ := obS2 h
  refine j_newL (pc := 20) (B := 400) (jwm lw_731) dL_law_20 (by decide) (by decide) (by decide) e14 ?_
  refine j_astore_4 (pc := 22) dL_law_22 (by decide) rfl ?_
  refine j_bipush (pc := 24) dL_law_24 (v := 6) (by decide) ?_
  obtain ⟨q15, w16, e17, h⟩ := obS2 h
  refine j_newA (pc := 26) (B := 400) (jwm lw_0) dL_law_26 (by decide) (by decide) (by decide) e17 ?_
  refine j_astore_5 (pc := 28) dL_law_28 (by decide) rfl ?_
  refine j_bipush (pc := 30) dL_law_30 (v := 6) (by decide) ?_
  obtain ⟨q18, w19, e20, h⟩ := obS2 h
  refine j_newA (pc := 32) (B := 400) (jwm lw_0) dL_law_32 (by decide) (by decide) (by decide) e20 ?_
  refine j_astore_6 (pc := 34) dL_law_34 (by decide) rfl ?_
  refine j_bipush (pc := 36) dL_law_36 (v := 6) (by decide) ?_
  obtain ⟨q21, w22, e23, h⟩ := obS2 h
  refine j_newA (pc := 38) (B := 400) (jwm lw_0) dL_law_38 (by decide) (by decide) (by decide) e23 ?_
  refine j_astore_7 (pc := 40) dL_law_40 (by decide) rfl ?_
  refine j_bipush (pc := 42) dL_law_42 (v := 8) (by decide) ?_
  obtain ⟨q24, w25, e26, h⟩ := obS2 h
  refine j_newA (pc := 44) (B := 400) (jwm lw_0) dL_law_44 (by decide) (by decide) (by decide) e26 ?_
  refine j_astore_8 (pc := 46) dL_law_46 (by decide) rfl ?_
  refine j_bipush (pc := 48) dL_law_48 (v := 41) (by decide) ?_
  obtain ⟨q27, w28, e29, h⟩ := obS2 h
  refine j_newA (pc := 50) (B := 400) (jwm lw_0) dL_law_50 (by decide) (by decide) (by decide) e29 ?_
  refine j_astore_9 (pc := 52) dL_law_52 (by decide) rfl ?_
  refine j_bipush (pc := 54) dL_law_54 (v := 15) (by decide) ?_
  obtain ⟨q30, w31, e32, h⟩ := obS2 h
  refine j_newA (pc := 56) (B := 400) (jwm lw_0) dL_law_56 (by decide) (by decide) (by decide) e32 ?_
  refine j_astore_10 (pc := 58) dL_law_58 (by decide) rfl ?_
  refine j_iconst (pc := 60) dL_law_60 (v := 0) (by decide) ?_
  refine j_istore_11 (pc := 61) dL_law_61 (by decide) rfl ?_
  exact jm_L_law_l63 61  _ _ _ _ _ _ _ _ _ _ _ w31 h
