/-! round the corners -/
section
variable {s : MSt} {z f : Nat → Nat → Int32}
theorem at_p {a : Nat} (hF : FX s f) (ha : a < 6) (da : s 7 a ≠ -1) (na : nB (s 7 a)) : 20 * f 71 a + f 70 a = iv (s 7 a) := by
  obtain ⟨xa, ya⟩ := hF a ha da
  rw [xa, ya, la_at na, ← (nB_nat na).1]
theorem so_806 {n : Int} (hW : WF n s) {one two : Int} (h1 : 0 ≤ one ∧ one < 60000) (h2 : 0 ≤ two ∧ two < 60000) {m : Nat} {c : Nat → Int} (h : corAt (s 7) (-1) m c) (hm1 : 1 ≤ m) {a0 : Nat} (ha0 : a0 < 6) (hc0 : c 0 = s 7 a0) : ∀ (r fu i a : Nat) (y : UInt32) (w : Bool) (z f : Nat → Nat → Int32), i + r = m → r + 1 < fu → CS s z f → LW s f → a < 6 → s 7 a = c i → okF y → mgN (mgF (wS s) (mxS s) (myS s) fun j => pt (c j)) r i y = mgN (mgF (wS s) (mxS s) (myS s) fun j => pt (c j)) m 0 FP.fconst0 → (i = 0 → w = false) → (1 ≤ i → (w = true ↔ 3 ≤ m)) → OK1 n (g_L_isSo_l806 fu (iv one) (iv two) (mk (dnS s)) (if stB s (-1) then 1 else 0) 1 (iv a) (iv a0) (iv i) y.toInt32 (if w then 1 else 0) z f) := by
  have hk := hW.1.1
  have hB := ko_bd hk
  have hD := hW.2.1.1
  have hcor := h
  rcases h with ⟨-, h0, -⟩ | ⟨st, hst, hS, -, h6, hr, hm, hcN⟩
  · omega
  have ex := st_ex hS
  have cpt : ∀ i, pt (c i) = cs (flP (s 7) (-1)) (pt st) i := fun i => by rw [hcN]; exact cN_pt _ _ i
  have cmem : ∀ i, c i ∈ fls (s 7) (-1) := fun i => by rw [hcN]; exact cN_mem hst i
  have cdn : ∀ i, nB (c i) := fun i => fls_nB (ko_ft hk) _ (cmem i)
  have e0 : c 0 = st := by rw [hcN]; rfl
  have em : c m = st := pt_inj (by rw [cpt, hr])
  have esc : ∀ i, sc (flP (s 7) (-1)) (pt (c i)) = pt (c (i + 1)) := fun i => by rw [cpt, cpt]; rfl
  have cex : ∀ i, exP (flP (s 7) (-1)) (pt (c i)) := fun i => by rw [cpt]; exact cs_ex ex i
  have cne : ∀ i, 0 < i → i < m → c i ≠ c 0 := fun i h1 h2 e => hm i h1 h2 (by rw [← cpt, e, e0])
  have legu : ∀ {a b : Nat}, a < 6 → b < 6 → s 7 a ≠ -1 → s 7 a = s 7 b → a = b := fun {a b} ha hb da e => hD a b ha hb da e
  have cnm : ∀ i, c i ≠ -1 := fun i e => by have := cdn i; unfold nB at this; omega
  have edc : ∀ {a k i : Nat}, a < 6 → k < 6 → s 7 a = c i → (edP s a k ↔ k ≠ a ∧ s 7 k = c (i + 1)) := fun {a k i} ha hk6 e => by
    rw [ed_leg hD ha (by rw [e]; exact cnm i) hk6 (by rw [e]; exact cex i), e, esc]
    constructor
    · rintro ⟨q1, q2, q3⟩
      exact ⟨q2, pt_inj q3⟩
    · rintro ⟨q2, q3⟩
      exact ⟨by rw [q3]; exact cnm _, q2, by rw [q3]⟩
  intro r
  induction r with
  | zero =>
    intro fu i a y w z f hi hf hC hL ha hac hy hmg hw0 hw1
    obtain ⟨fu, rfl⟩ : ∃ x, fu = x + 1 := ⟨fu - 1, by omega⟩
    have eim : i = m := by omega
    subst eim
    have ea : a = a0 := legu ha ha0 (by rw [hac]; exact cnm _) (by rw [hac, em, ← e0, hc0])
    subst ea
    rw [g_L_isSo_l806, if_neg (show ¬ iv (a : Nat) < (0 : Int32) from fun e => by have := (iv_lt (b := 0) (ibn (by omega)) (by decide)).mp e; omega), if_neg (show ¬ (1 : Int32) = 0 by decide), if_neg (show ¬ iv (i : Nat) = (0 : Int32) from fun e => by have := (iv_eq (b := 0) (ibn (by omega)) (by decide)).mp e; omega), if_pos rfl]
    exact so_1138 hC hL hW h1 h2 hcor h6 (hw1 hm1) (fun _ => hmg)
  | succ r ih =>
    intro fu i a y w z f hi hf hC hL ha hac hy hmg hw0 hw1
    obtain ⟨fu, rfl⟩ : ∃ x, fu = x + 1 := ⟨fu - 1, by omega⟩
    have da : s 7 a ≠ -1 := by rw [hac]; exact cnm i
    have go : OK1 n (g_L_isSo_b828 (fun y0 y1 y2 y3 y4 y5 y6 y7 y8 y9 z f => g_L_isSo_l806 fu y0 y1 y2 y3 y4 y5 y6 y7 y8 y9 z f) (iv one) (iv two) (mk (dnS s)) (if stB s (-1) then 1 else 0) (iv a) (iv a0) (iv i) y.toInt32 (if w then 1 else 0) z f) := by
      unfold g_L_isSo_b828
      obtain ⟨z1, f1, ec, j1⟩ := co_c hk hC hcor i (by omega)
      rw [if_neg (by omega)] at ec
      have C1 := cj_cs j1 hC
      have L1 := fm_ls j1.2.2 hL
      rw [ec, bn3_some, ix_iv ha (by decide), Option.bind_some, Option.bind_some, at_p L1.2.2.1 ha da (by rw [hac]; exact cdn i), hac, if_pos rfl]
      unfold g_L_isSo_b856
      rw [iv_1]
      obtain ⟨nx, hnx, enx⟩ := so_l867 (z := z1) hB L1.2.2.1 ha (k806 := fun y0 y1 y2 y3 y4 y5 y6 y7 y8 y9 z f => g_L_isSo_l806 fu y0 y1 y2 y3 y4 y5 y6 y7 y8 y9 z f) (i9 := iv one) (i10 := iv two) (i12 := if stB s (-1) then 1 else 0) (i13 := 1) (i15 := iv a0) (i16 := iv ((i + 1 : Nat) : Int)) (i17 := y.toInt32) (i18 := if w then 1 else 0) 6 FU 0 (-1) (by decide) (by decide) (Or.inl ⟨rfl, fun j hj => absurd hj (Nat.not_lt_zero _)⟩)
      refine Eq.mpr (congrArg (OK1 n) enx) ?_
      rcases hnx with ⟨rfl, hno⟩ | ⟨t, rfl, ht, hed⟩
      · -- there is no other foot
        have mone : m = 1 := by
          apply Classical.byContradiction
          intro hne
          obtain ⟨k, hk6, dk, ek⟩ := fl_m.mp (cmem (i + 1))
          refine hno k hk6 ((edc ha hk6 hac).mpr ⟨fun e => ?_, ek⟩)
          -- two corners in a row are apart
          rw [e, hac] at ek
          have q : cs (flP (s 7) (-1)) (pt st) (i + 1) = cs (flP (s 7) (-1)) (pt st) i := by rw [← cpt, ← cpt, ek]
          have one' : cs (flP (s 7) (-1)) (pt st) 1 ≠ pt st := hm 1 (by decide) (by omega)
          by_cases d : i + 1 = m
          · rw [d, hr] at q
            have q2 : cs (flP (s 7) (-1)) (pt st) i = pt st := q.symm
            rcases Nat.eq_zero_or_pos i with z0 | z0
            · omega
            · exact hm i z0 (by omega) q2
          · exact cs_apart ex hm one' i (i + 1) (by omega) (by omega) q.symm
        have i0 : i = 0 := by omega
        rw [l867_n]
        obtain ⟨fu, rfl⟩ : ∃ x, fu = x + 1 := ⟨fu - 1, by omega⟩
        show OK1 n (g_L_isSo_l806 (fu + 1) _ _ _ _ _ _ _ _ _ _ z1 f1)
        rw [g_L_isSo_l806, if_pos (show iv (-1) < (0 : Int32) by decide), show ((i + 1 : Nat) : Int) = (m : Int) by omega]
        exact so_1138 C1 L1 hW h1 h2 hcor h6 (by rw [hw0 i0]; exact ⟨fun q => absurd q (by decide), fun q => by omega⟩) (fun q => by omega)
      · obtain ⟨q2, q3⟩ := (edc ha ht hac).mp hed
        have m2 : 2 ≤ m := by
          apply Classical.byContradiction
          intro hne
          have i0 : i = 0 := by omega
          subst i0
          have : c (0 + 1) = c 0 := by rw [show 0 + 1 = m by omega, em, e0]
          rw [this, ← hac] at q3
          exact q2 (legu ht ha (by rw [q3]; exact da) q3)
        obtain ⟨-, -, apt⟩ := co_ok hk hcor m2
        have hpos : 0 < sqd (pt (s 7 a)) (pt (s 7 t)) := by
          rw [hac, q3]
          exact apt.2 i (by omega)
        obtain ⟨w', hw', e'⟩ := l867_s (z := z1) hB L1.1 L1.2.2.1 ha ht hed hpos (k806 := fun y0 y1 y2 y3 y4 y5 y6 y7 y8 y9 z f => g_L_isSo_l806 fu y0 y1 y2 y3 y4 y5 y6 y7 y8 y9 z f) (i9 := iv one) (i10 := iv two) (i12 := if stB s (-1) then 1 else 0) (i13 := 1) (i15 := iv a0) (i := i) (by omega) hy (w := w)
        refine Eq.mpr (congrArg (OK1 n) e') ?_
        have eF : fE (wS s) (eg (wS s) (mxS s) (myS s) (pt (s 7 a)) (pt (s 7 t))) (sqd (pt (s 7 a)) (pt (s 7 t))) = mgF (wS s) (mxS s) (myS s) (fun j => pt (c j)) i := by
          rw [hac, q3]
          rfl
        rw [eF]
        have okF' := mgF_ok (bd_m hB) apt (show i < m by omega)
        refine ih fu (i + 1) t _ w' z1 f1 (by omega) (by omega) C1 L1 ht q3 (mgS_ok okF' hy) hmg (fun e => by omega) (fun _ => ?_)
        have et : edP s t a ↔ a ≠ t ∧ s 7 a = c (i + 1 + 1) := edc ht ha q3
        rw [hw', et, hac]
        by_cases i0 : i = 0
        · subst i0
          rw [hw0 rfl]
          constructor
          · intro q
            rcases q with q | q
            · exact absurd q (by decide)
            · apply Classical.byContradiction
              intro hne
              exact q ⟨fun e => q2 e.symm, by rw [show 0 + 1 + 1 = m by omega, em, e0]⟩
          · intro q
            exact Or.inr (fun w => cne 2 (by decide) (by omega) w.2.symm)
        · rw [hw1 (by omega)]
          constructor
          · intro q
            rcases q with q | q
            · exact q
            · apply Classical.byContradiction
              intro hne
              have i1 : i = 1 := by omega
              subst i1
              have : c (1 + 1 + 1) = c 1 := by
                apply pt_inj
                rw [← esc (1 + 1), show 1 + 1 = m by omega, em, ← e0, esc 0]
              exact q ⟨fun e => q2 e.symm, this.symm⟩
          · exact fun q => Or.inl q
    rw [g_L_isSo_l806, if_neg (show ¬ iv (a : Nat) < (0 : Int32) from fun e => by have := (iv_lt (b := 0) (ibn (by omega)) (by decide)).mp e; omega), if_neg (show ¬ (1 : Int32) = 0 by decide)]
    by_cases i0 : i = 0
    · subst i0
      rw [if_pos (show iv ((0 : Nat) : Int) = (0 : Int32) from rfl)]
      exact go
    · rw [if_neg (show ¬ iv (i : Nat) = (0 : Int32) from fun e => by have := (iv_eq (b := 0) (ibn (by omega)) (by decide)).mp e; omega), if_neg (fun e => by
        have ea := (iv_eqn (by omega) (by omega)).mp e
        subst ea
        exact cne i (by omega) (by omega) (by rw [← hac, hc0]))]
      exact go
end
