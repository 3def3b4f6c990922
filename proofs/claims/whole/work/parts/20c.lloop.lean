/-! the law's loop -/
theorem in_le {n : Nat} {z f : Nat → Nat → Int32} (h : IN (n : Nat) z f) : IN ((n + 1 : Nat) : Int) z f := by
  obtain ⟨s, hW, hC, hM⟩ := h
  exact ⟨s, wf_le hW (by omega), hC, hM⟩
theorem jk_le {jk : LWd} {n : Nat} (h : JK jk n) : JK jk (n + 1) := ⟨h.1, by have := h.2; omega⟩
theorem law_back {nm : String} {b L : Nat} {xs : Nat → Int32} {we ws : LWd} {i k n : Nat} (kk : LJ nm b L xs we 23 (LV (i + 6)) [] ws k n) : LJ nm b L xs we 1588 (LV i) [] ws k n := by
  refine j_iinc_4 (pc := 1588) (y := iv ((i + 6 : Nat) : Int)) dL_law_1588 ?_ (by decide) rfl ?_
  · show iv (i : Nat) + iv 6 = _
    rw [iv_add]
    congr 1
  · exact j_goto (pc := 1591) (tgt := 23) dL_law_1591 (by decide) kk
theorem lim {i L : Nat} (hL : L ≤ 3072) (hi : i < 10000) : (Int32.ofNat L - 6 < iv (i : Nat)) ↔ ¬ i + 6 ≤ L := by
  have e : Int32.ofNat L - 6 = iv ((L : Int) - 6) := by
    show iv (L : Nat) - iv 6 = _
    rw [iv_sub]
  rw [e, iv_lt (by unfold IB; omega) (ibn (by omega))]
  omega
theorem law_exit {nm : String} {b L : Nat} {xs : Nat → Int32} {i n : Nat} {ws : LWd} (hL : L ≤ 3072) (hi : i < 10000) (h : ¬ i + 6 ≤ L) (hn : n ≤ 600) : LJ nm b L xs ws 23 (LV i) [] ws (1000 + 10 * n) (30000 + 1000 * n) := by
  refine j_iload (pc := 23) dL_law_23 rfl ?_
  refine j_aload_n (pc := 25) dL_law_25 rfl ?_
  refine j_slen (pc := 26) rfl dL_law_26 ?_
  refine j_bipush (pc := 27) dL_law_27 (v := 6) (by decide) ?_
  refine j_isub (pc := 29) dL_law_29 ?_
  refine j_icmp_gt (pc := 30) (tgt := 1594) dL_law_30 (by decide) (fun _ => ?_) (fun q => absurd ((lim hL hi).mpr h) q)
  refine j_iconst (pc := 1594) dL_law_1594 (v := 1) (by decide) ?_
  exact j_lret (pc := 1595) rfl (Or.inr rfl) rfl dL_law_1595 (by omega) (by omega) rfl
theorem jout23 {x : Int32} (h : ∀ k : Nat, k < 24 → x ≠ iv (k : Nat)) : x.toInt < 0 ∨ 23 < x.toInt := by
  apply Classical.byContradiction
  intro q
  have h1 : 0 ≤ x.toInt ∧ x.toInt ≤ 23 := by omega
  refine h x.toInt.toNat (by omega) ?_
  have e : ((x.toInt.toNat : Nat) : Int) = x.toInt := by omega
  rw [e]
  exact (iv_of x).symm
theorem law_step {nm : String} {b L : Nat} {xs : Nat → Int32} {i n : Nat} {z f : Nat → Nat → Int32} {g : Nat → Int64} {jk : LWd} (hL : L ≤ 3072) (hi : i + 6 ≤ L) (hn : n ≤ 600) (hI : IN (n : Nat) z f) (hj : JK jk n) : ∃ z2 f2 g2 jk2, IN ((n + 1 : Nat) : Int) z2 f2 ∧ JK jk2 (n + 1) ∧ ∀ we, LJ nm b L xs we 1588 (LV i) [] (wA z2 f2 (lgC g2 :: jk2)) (1000 + 10 * (n + 1)) (30000 + 1000 * (n + 1)) → LJ nm b L xs we 23 (LV i) [] (wA z f (lgC g :: jk)) (1000 + 10 * n) (30000 + 1000 * n) := by
  have hd : ∀ {we W2 : LWd} {k2 n2 : Nat}, (LJ nm b L xs we 1588 (LV i) [] W2 k2 n2 → LJ nm b L xs we 40 (LV i) [.int (xs (iv (i : Nat)).toNatClampNeg &&& 31)] (wA z f (lgC g :: jk)) (1000 + 10 * n) (30000 + 1000 * n)) → LJ nm b L xs we 1588 (LV i) [] W2 k2 n2 → LJ nm b L xs we 23 (LV i) [] (wA z f (lgC g :: jk)) (1000 + 10 * n) (30000 + 1000 * n) := fun {we W2 k2 n2} hh kk => by
    refine j_iload (pc := 23) dL_law_23 rfl ?_
    refine j_aload_n (pc := 25) dL_law_25 rfl ?_
    refine j_slen (pc := 26) rfl dL_law_26 ?_
    refine j_bipush (pc := 27) dL_law_27 (v := 6) (by decide) ?_
    refine j_isub (pc := 29) dL_law_29 ?_
    refine j_icmp_gt (pc := 30) (tgt := 1594) dL_law_30 (by decide) (fun q => absurd hi ((lim hL (by omega)).mp q)) (fun _ => ?_)
    refine j_aload_n (pc := 33) dL_law_33 rfl ?_
    refine j_iload (pc := 34) dL_law_34 rfl ?_
    refine j_sld (pc := 36) rfl dL_law_36 ?_ ?_
    · have := vin (j := 0) hL hi (by decide)
      rw [iv_add, show (i : Int) + ((0 : Nat) : Int) = (i : Int) by omega] at this
      exact this
    refine j_bipush (pc := 37) dL_law_37 (v := 31) (by decide) ?_
    refine j_iand (pc := 39) dL_law_39 ?_
    exact hh kk
  obtain ⟨x, hx⟩ : ∃ x, x = xs (iv (i : Nat)).toNatClampNeg &&& 31 := ⟨_, rfl⟩
  rw [← hx] at hd
  by_cases c0 : x = 0
  · obtain ⟨z2, f2, g2, jk2, q1, q2, q3⟩ := lc_ground (nm := nm) (b := b) (xs := xs) (g := g) hL hi hn hI hj
    exact ⟨z2, f2, g2, jk2, q1, q2, fun we kk => hd (fun kk => j_tabEq (pc := 40) (tgt := 152) (a := 0) dL_law_40 c0 rfl (by decide) (by decide) rfl (by decide) (q3 we kk)) kk⟩
  by_cases c1 : x = 1
  · obtain ⟨z2, f2, g2, jk2, q1, q2, q3⟩ := lc_chart (nm := nm) (b := b) (xs := xs) (g := g) hL hi hn hI hj
    exact ⟨z2, f2, g2, jk2, q1, q2, fun we kk => hd (fun kk => j_tabEq (pc := 40) (tgt := 256) (a := 1) dL_law_40 c1 rfl (by decide) (by decide) rfl (by decide) (q3 we kk)) kk⟩
  by_cases c2 : x = 2
  · obtain ⟨z2, f2, g2, jk2, q1, q2, q3⟩ := lc_leg (nm := nm) (b := b) (xs := xs) (g := g) hL hi hn hI hj
    exact ⟨z2, f2, g2, jk2, q1, q2, fun we kk => hd (fun kk => j_tabEq (pc := 40) (tgt := 336) (a := 2) dL_law_40 c2 rfl (by decide) (by decide) rfl (by decide) (q3 we kk)) kk⟩
  by_cases c3 : x = 3
  · obtain ⟨z2, f2, g2, jk2, q1, q2, q3⟩ := lc_charge (nm := nm) (b := b) (xs := xs) (g := g) hL hi hn hI hj
    exact ⟨z2, f2, g2, jk2, q1, q2, fun we kk => hd (fun kk => j_tabEq (pc := 40) (tgt := 416) (a := 3) dL_law_40 c3 rfl (by decide) (by decide) rfl (by decide) (q3 we kk)) kk⟩
  by_cases c4 : x = 4
  · obtain ⟨z2, f2, g2, jk2, q1, q2, q3⟩ := lc_phase (nm := nm) (b := b) (xs := xs) (g := g) hL hi hn hI hj
    exact ⟨z2, f2, g2, jk2, q1, q2, fun we kk => hd (fun kk => j_tabEq (pc := 40) (tgt := 472) (a := 4) dL_law_40 c4 rfl (by decide) (by decide) rfl (by decide) (q3 we kk)) kk⟩
  by_cases c5 : x = 5
  · obtain ⟨z2, f2, g2, jk2, q1, q2, q3⟩ := lc_halt (nm := nm) (b := b) (xs := xs) (g := g) hL hi hn hI hj
    exact ⟨z2, f2, g2, jk2, q1, q2, fun we kk => hd (fun kk => j_tabEq (pc := 40) (tgt := 576) (a := 5) dL_law_40 c5 rfl (by decide) (by decide) rfl (by decide) (q3 we kk)) kk⟩
  by_cases c6 : x = 6
  · obtain ⟨z2, f2, g2, jk2, q1, q2, q3⟩ := lc_load (nm := nm) (b := b) (xs := xs) (g := g) hL hi hn hI hj
    exact ⟨z2, f2, g2, jk2, q1, q2, fun we kk => hd (fun kk => j_tabEq (pc := 40) (tgt := 589) (a := 6) dL_law_40 c6 rfl (by decide) (by decide) rfl (by decide) (q3 we kk)) kk⟩
  by_cases c7 : x = 7
  · obtain ⟨z2, f2, g2, jk2, q1, q2, q3⟩ := lc_rise (nm := nm) (b := b) (xs := xs) (g := g) hL hi hn hI hj
    exact ⟨z2, f2, g2, jk2, q1, q2, fun we kk => hd (fun kk => j_tabEq (pc := 40) (tgt := 669) (a := 7) dL_law_40 c7 rfl (by decide) (by decide) rfl (by decide) (q3 we kk)) kk⟩
  by_cases c8 : x = 8
  · obtain ⟨z2, f2, g2, jk2, q1, q2, q3⟩ := lc_lift (nm := nm) (b := b) (xs := xs) (g := g) hL hi hn hI hj
    exact ⟨z2, f2, g2, jk2, q1, q2, fun we kk => hd (fun kk => j_tabEq (pc := 40) (tgt := 713) (a := 8) dL_law_40 c8 rfl (by decide) (by decide) rfl (by decide) (q3 we kk)) kk⟩
  by_cases c9 : x = 9
  · obtain ⟨z2, f2, g2, jk2, q1, q2, q3⟩ := lc_place (nm := nm) (b := b) (xs := xs) (g := g) hL hi hn hI hj
    exact ⟨z2, f2, g2, jk2, q1, q2, fun we kk => hd (fun kk => j_tabEq (pc := 40) (tgt := 769) (a := 9) dL_law_40 c9 rfl (by decide) (by decide) rfl (by decide) (q3 we kk)) kk⟩
  by_cases c10 : x = 10
  · obtain ⟨z2, f2, g2, jk2, q1, q2, q3⟩ := lc_shift (nm := nm) (b := b) (xs := xs) (g := g) hL hi hn hI hj
    exact ⟨z2, f2, g2, jk2, q1, q2, fun we kk => hd (fun kk => j_tabEq (pc := 40) (tgt := 849) (a := 10) dL_law_40 c10 rfl (by decide) (by decide) rfl (by decide) (q3 we kk)) kk⟩
  by_cases c11 : x = 11
  · obtain ⟨z2, f2, g2, jk2, q1, q2, q3⟩ := lc_walk (nm := nm) (b := b) (xs := xs) (g := g) hL hi hn hI hj
    exact ⟨z2, f2, g2, jk2, q1, q2, fun we kk => hd (fun kk => j_tabEq (pc := 40) (tgt := 917) (a := 11) dL_law_40 c11 rfl (by decide) (by decide) rfl (by decide) (q3 we kk)) kk⟩
  by_cases c12 : x = 12
  · obtain ⟨z2, f2, g2, jk2, q1, q2, q3⟩ := lc_machine (nm := nm) (b := b) (xs := xs) (g := g) hL hi hn hI hj
    exact ⟨z2, f2, g2, jk2, q1, q2, fun we kk => hd (fun kk => j_tabEq (pc := 40) (tgt := 973) (a := 12) dL_law_40 c12 rfl (by decide) (by decide) rfl (by decide) (q3 we kk)) kk⟩
  by_cases c13 : x = 13
  · obtain ⟨z2, f2, g2, jk2, q1, q2, q3⟩ := lc_foot (nm := nm) (b := b) (xs := xs) (g := g) hL hi hn hI hj
    exact ⟨z2, f2, g2, jk2, q1, q2, fun we kk => hd (fun kk => j_tabEq (pc := 40) (tgt := 1029) (a := 13) dL_law_40 c13 rfl (by decide) (by decide) rfl (by decide) (q3 we kk)) kk⟩
  by_cases c14 : x = 14
  · obtain ⟨z2, f2, g2, jk2, q1, q2, q3⟩ := lc_point (nm := nm) (b := b) (xs := xs) (g := g) hL hi hn hI hj
    exact ⟨z2, f2, g2, jk2, q1, q2, fun we kk => hd (fun kk => j_tabEq (pc := 40) (tgt := 1097) (a := 14) dL_law_40 c14 rfl (by decide) (by decide) rfl (by decide) (q3 we kk)) kk⟩
  by_cases c15 : x = 15
  · obtain ⟨z2, f2, g2, jk2, q1, q2, q3⟩ := lc_isStable (nm := nm) (b := b) (xs := xs) (g := g) hL hi hn hI hj
    exact ⟨z2, f2, g2, jk2, q1, q2, fun we kk => hd (fun kk => j_tabEq (pc := 40) (tgt := 1177) (a := 15) dL_law_40 c15 rfl (by decide) (by decide) rfl (by decide) (q3 we kk)) kk⟩
  by_cases c16 : x = 16
  · obtain ⟨z2, f2, g2, jk2, q1, q2, q3⟩ := lc_isStableAnew (nm := nm) (b := b) (xs := xs) (g := g) hL hi hn hI hj
    exact ⟨z2, f2, g2, jk2, q1, q2, fun we kk => hd (fun kk => j_tabEq (pc := 40) (tgt := 1190) (a := 16) dL_law_40 c16 rfl (by decide) (by decide) rfl (by decide) (q3 we kk)) kk⟩
  by_cases c17 : x = 17
  · obtain ⟨z2, f2, g2, jk2, q1, q2, q3⟩ := lc_margin (nm := nm) (b := b) (xs := xs) (g := g) hL hi hn hI hj
    exact ⟨z2, f2, g2, jk2, q1, q2, fun we kk => hd (fun kk => j_tabEq (pc := 40) (tgt := 1203) (a := 17) dL_law_40 c17 rfl (by decide) (by decide) rfl (by decide) (q3 we kk)) kk⟩
  by_cases c18 : x = 18
  · obtain ⟨z2, f2, g2, jk2, q1, q2, q3⟩ := lc_corner (nm := nm) (b := b) (xs := xs) (g := g) hL hi hn hI hj
    exact ⟨z2, f2, g2, jk2, q1, q2, fun we kk => hd (fun kk => j_tabEq (pc := 40) (tgt := 1216) (a := 18) dL_law_40 c18 rfl (by decide) (by decide) rfl (by decide) (q3 we kk)) kk⟩
  by_cases c19 : x = 19
  · obtain ⟨z2, f2, g2, jk2, q1, q2, q3⟩ := lc_foothold (nm := nm) (b := b) (xs := xs) (g := g) hL hi hn hI hj
    exact ⟨z2, f2, g2, jk2, q1, q2, fun we kk => hd (fun kk => j_tabEq (pc := 40) (tgt := 1272) (a := 19) dL_law_40 c19 rfl (by decide) (by decide) rfl (by decide) (q3 we kk)) kk⟩
  by_cases c20 : x = 20
  · obtain ⟨z2, f2, g2, jk2, q1, q2, q3⟩ := lc_wouldLift (nm := nm) (b := b) (xs := xs) (g := g) hL hi hn hI hj
    exact ⟨z2, f2, g2, jk2, q1, q2, fun we kk => hd (fun kk => j_tabEq (pc := 40) (tgt := 1328) (a := 20) dL_law_40 c20 rfl (by decide) (by decide) rfl (by decide) (q3 we kk)) kk⟩
  by_cases c21 : x = 21
  · obtain ⟨z2, f2, g2, jk2, q1, q2, q3⟩ := lc_fewest (nm := nm) (b := b) (xs := xs) (g := g) hL hi hn hI hj
    exact ⟨z2, f2, g2, jk2, q1, q2, fun we kk => hd (fun kk => j_tabEq (pc := 40) (tgt := 1384) (a := 21) dL_law_40 c21 rfl (by decide) (by decide) rfl (by decide) (q3 we kk)) kk⟩
  by_cases c22 : x = 22
  · obtain ⟨z2, f2, g2, jk2, q1, q2, q3⟩ := lc_fewestAnew (nm := nm) (b := b) (xs := xs) (g := g) hL hi hn hI hj
    exact ⟨z2, f2, g2, jk2, q1, q2, fun we kk => hd (fun kk => j_tabEq (pc := 40) (tgt := 1452) (a := 22) dL_law_40 c22 rfl (by decide) (by decide) rfl (by decide) (q3 we kk)) kk⟩
  by_cases c23 : x = 23
  · obtain ⟨z2, f2, g2, jk2, q1, q2, q3⟩ := lc_fall (nm := nm) (b := b) (xs := xs) (g := g) hL hi hn hI hj
    exact ⟨z2, f2, g2, jk2, q1, q2, fun we kk => hd (fun kk => j_tabEq (pc := 40) (tgt := 1520) (a := 23) dL_law_40 c23 rfl (by decide) (by decide) rfl (by decide) (q3 we kk)) kk⟩
  refine ⟨z, f, g, jk, in_le hI, jk_le hj, fun we kk => hd (fun kk => j_tabOut (pc := 40) (tgt := 1588) dL_law_40 (jout23 ?_) (by decide) (j_wid (by omega) (by omega) kk)) kk⟩
  intro k hk
  match k, hk with
  | 0, _ => exact c0
  | 1, _ => exact c1
  | 2, _ => exact c2
  | 3, _ => exact c3
  | 4, _ => exact c4
  | 5, _ => exact c5
  | 6, _ => exact c6
  | 7, _ => exact c7
  | 8, _ => exact c8
  | 9, _ => exact c9
  | 10, _ => exact c10
  | 11, _ => exact c11
  | 12, _ => exact c12
  | 13, _ => exact c13
  | 14, _ => exact c14
  | 15, _ => exact c15
  | 16, _ => exact c16
  | 17, _ => exact c17
  | 18, _ => exact c18
  | 19, _ => exact c19
  | 20, _ => exact c20
  | 21, _ => exact c21
  | 22, _ => exact c22
  | 23, _ => exact c23
  | k + 24, hk => omega
theorem law_lp {nm : String} {b L : Nat} {xs : Nat → Int32} (hL : L ≤ 3072) : ∀ (r n : Nat) (z f : Nat → Nat → Int32) (g : Nat → Int64) (jk : LWd), L ≤ 6 * n + 6 * r + 5 → n + r ≤ 600 → IN (n : Nat) z f → JK jk n → ∃ we, LJ nm b L xs we 23 (LV (6 * n)) [] (wA z f (lgC g :: jk)) (1000 + 10 * n) (30000 + 1000 * n) := by
  intro r
  induction r with
  | zero =>
    intro n z f g jk h1 h2 hI hj
    exact ⟨_, law_exit hL (by omega) (by omega) (by omega)⟩
  | succ r ih =>
    intro n z f g jk h1 h2 hI hj
    by_cases hi : 6 * n + 6 ≤ L
    · obtain ⟨z2, f2, g2, jk2, q1, q2, q3⟩ := law_step (nm := nm) (b := b) (xs := xs) (g := g) hL hi (by omega) hI hj
      obtain ⟨we, hw⟩ := ih (n + 1) z2 f2 g2 jk2 (by omega) (by omega) q1 q2
      exact ⟨we, q3 we (law_back hw)⟩
    · exact ⟨_, law_exit hL (by omega) hi (by omega)⟩
/-! the law's start -/
def wX : LWd := mX.getD []
theorem wX_is : mX = some wX := by
  have h := mX_some
  unfold wX
  cases e : mX with
  | none => rw [e] at h; cases h
  | some w => rfl
theorem wX_len : wX.length = 66 := by decide +kernel
theorem wX_ok : nOk wX [some (.ref 1000000), some (.ref 0), none, none, none, none, none] [] = true := by decide +kernel
theorem law_all {nm : String} {b L : Nat} {xs : Nat → Int32} (hL : L ≤ 3072) : ∃ we, LJ nm b L xs we 0 [some (.ref 1000000), none, none, none, none, none, none] [] [] 0 0 := by
  obtain ⟨f, h1, hI⟩ := in_0
  have hm : m_X10_init 0 [o10] = some wX := by
    rw [n_X10_init_eq]
    exact wX_is
  rw [hm, Option.bind_some] at h1
  obtain ⟨we, hw⟩ := law_lp (nm := nm) (b := b) (L := L) (xs := xs) hL 550 0 zQ f (fun _ => 0) [] (by omega) (by decide) hI ⟨fun _ => rfl, Nat.le_refl _⟩
  refine ⟨we, ?_⟩
  refine j_new (pc := 0) (ci := 10) (N := 11) (C := RX10) (T := TX10) tyX10 tyX10_ok dL_law_0 rfl (jmi hw_X10) (jmw ll_260) (jmw ll_261) (jmj lw_147) (fun j hj => by rcases (show j = 0 ∨ j = 1 ∨ j = 2 ∨ j = 3 ∨ j = 4 ∨ j = 5 ∨ j = 6 ∨ j = 7 ∨ j = 8 ∨ j = 9 ∨ j = 10 by omega) with rfl | rfl | rfl | rfl | rfl | rfl | rfl | rfl | rfl | rfl | rfl <;> rfl) (fun _ => rfl) (by decide) (by decide) (show nO [] [some (.ref 1000000), none, none, none, none, none, none] [] 10 [.null, .null, .null, .null, .null, .null, .null, .null, .null, .int 0, .int 0] = some (0, [o10]) from rfl) ?_
  refine j_dup (pc := 3) dL_law_3 rfl ?_
  refine j_callI_g (pc := 4) (As := []) (k' := 69) (n' := 10522) dL_law_4 (s_X10_init hm) (jmP ll_266) (jmj lw_147) (jmw ll_264) (jmw ll_265) rfl rfl hy_X10_init rfl (by decide) (by decide) (Nat.le_of_ble_eq_true rfl) (by decide) (by decide) (by decide) (by decide) (Or.inr ⟨by rw [wX_len]; decide, rfl, rfl⟩) ?_
  refine j_astore_n_1 (pc := 7) dL_law_7 (by decide) rfl ?_
  have hn2 : nO wX [some (.ref 1000000), some (.ref 0), none, none, none, none, none] [] 11 [.null, .null, .null, .null, .int 0, .int 0, .int 0, .int 0, .int 0, .int 0, .int 0, .int 0, .null, .null, .null, .null, .null, .int 0, .int 0, .int 0, .int 0, .int 0, .int 0, .int 0, .null, .int 0, .int 0, .null, .int 0, .null, .int 0] = some (66, wX ++ [o11]) := by
    unfold nO
    rw [if_pos wX_ok, wX_len]
    rfl
  refine j_new (pc := 8) (ci := 11) (N := 31) (C := RX11) (T := TX11) tyX11 tyX11_ok dL_law_8 rfl (jmi hw_X11) (jmw ll_262) (jmw ll_263) (jmj lw_544) (fun j hj => by rcases (show j = 0 ∨ j = 1 ∨ j = 2 ∨ j = 3 ∨ j = 4 ∨ j = 5 ∨ j = 6 ∨ j = 7 ∨ j = 8 ∨ j = 9 ∨ j = 10 ∨ j = 11 ∨ j = 12 ∨ j = 13 ∨ j = 14 ∨ j = 15 ∨ j = 16 ∨ j = 17 ∨ j = 18 ∨ j = 19 ∨ j = 20 ∨ j = 21 ∨ j = 22 ∨ j = 23 ∨ j = 24 ∨ j = 25 ∨ j = 26 ∨ j = 27 ∨ j = 28 ∨ j = 29 ∨ j = 30 by omega) with rfl | rfl | rfl | rfl | rfl | rfl | rfl | rfl | rfl | rfl | rfl | rfl | rfl | rfl | rfl | rfl | rfl | rfl | rfl | rfl | rfl | rfl | rfl | rfl | rfl | rfl | rfl | rfl | rfl | rfl | rfl <;> rfl) (fun _ => rfl) (by decide) (by decide) hn2 ?_
  refine j_dup (pc := 11) dL_law_11 rfl ?_
  have hlen : (wX ++ [o11]).length = 67 := by rw [List.length_append, wX_len]; rfl
  refine j_callI_g (pc := 12) (As := []) (k' := 82) (n' := 15353) dL_law_12 (s_X11_init h1) (jmP ll_269) (jmj lw_544) (jmw ll_267) (jmw ll_268) rfl rfl hy_X11_init rfl (by decide) (by decide) (Nat.le_of_ble_eq_true rfl) (by decide) (by decide) (by decide) (by decide) (Or.inr ⟨by rw [hlen]; show 67 < 79; decide, by rw [hlen]; rfl, by rw [hlen]; rfl⟩) ?_
  refine j_astore_n_2 (pc := 15) dL_law_15 (by decide) rfl ?_
  refine j_iconst (pc := 16) dL_law_16 (v := 1) (by decide) ?_
  refine j_newL (pc := 17) (B := 1) (jmw ll_270) dL_law_17 (by decide) (by decide) (by decide) (show nLo (wA zQ f []) [some (.ref 1000000), some (.ref 0), some (.ref 66), none, none, none, none] [] 1 1 = some (79, wA zQ f [lgC fun _ => 0]) from rfl) ?_
  refine j_astore_n_3 (pc := 19) dL_law_19 (by decide) rfl ?_
  refine j_iconst (pc := 20) dL_law_20 (v := 0) (by decide) ?_
  refine j_istore_4 (pc := 21) dL_law_21 (by decide) rfl ?_
  exact j_wid (by decide) (by decide) hw
