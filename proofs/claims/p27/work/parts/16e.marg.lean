section
variable {s : MSt} {z f : Nat → Nat → Int32}
/-- the corners of the machine are apart -/
theorem co_ok (hk : KO s) {m : Nat} {c : Nat → Int} (h : corAt (s 7) (-1) m c) (h2 : 2 ≤ m) : m ≤ 6 ∧ (∀ j, j ≤ m → nB (c j)) ∧ aPt m fun j => pt (c j) := by
  rcases h with ⟨-, rfl, -⟩ | ⟨st, hst, hS, h1, h6, hr, hm, rfl⟩
  · omega
  · have hn : ∀ j, j ≤ m → nB (cN (fls (s 7) (-1)) st j) := fun j _ => fls_nB (ko_ft hk) _ (cN_mem hst j)
    have ec : ∀ j, pt (cN (fls (s 7) (-1)) st j) = cs (flP (s 7) (-1)) (pt st) j := cN_pt _ _
    have hap := cs_apart (st_ex hS) (m := m) hm (hm 1 (by decide) (by omega))
    refine ⟨h6, hn, fun j hj => ?_, fun j hj => ?_⟩
    · have := pt_bd (hn j hj)
      show pB (pt _)
      unfold pB
      omega
    · have ne : cs (flP (s 7) (-1)) (pt st) (j + 1) ≠ cs (flP (s 7) (-1)) (pt st) j := fun e => by
        by_cases d : j + 1 = m
        · rw [d, hr] at e
          exact hap 0 j (by omega) hj e
        · exact hap j (j + 1) (by omega) (by omega) e.symm
      dsimp only
      rw [ec, ec]
      exact hg_sqs fun w => ne (Prod.ext (by omega) (by omega))
def maA (s : MSt) (m : Nat) (c : Nat → Int) : Int32 := if stB s (-1) = true then (if 3 ≤ m then (mgN (mgF (wS s) (mxS s) (myS s) fun j => pt (c j)) m 0 FP.fconst0).toInt32 else 0) else (-1082130432)
theorem cq_margin (hk : KO s) (hC : CS s z f) : ∃ z' f' m c, corAt (s 7) (-1) m c ∧ g_X10_margin z f = some (maA s m c, z', f') ∧ CJ z f z' f' := by
  have hB := ko_bd hk
  obtain ⟨z1, f1, m, c, e, hj, q1, q2, q3, q4⟩ := cp_holds (a0 := 22) (Or.inl rfl) hB (cs_lf hC) (cs_ps hC) (but := -1) (by decide)
  refine ⟨z1, f1, m, c, q1, ?_, cj_hj hj⟩
  unfold g_X10_margin
  rw [show (-1 : Int32) = iv (-1) from rfl, e, bn3_some]
  unfold maA
  by_cases h : stB s (-1) = true
  · rw [if_pos h, if_pos h, if_neg (by decide), q3]
    by_cases h3 : 3 ≤ m
    · obtain ⟨c1, c2, c3⟩ := co_ok hk q1 (by omega)
      have hL := hj_lf hj (cs_lf hC)
      have hP := hj_ps (Or.inl rfl) hj (cs_ps hC)
      have ok := mg_ok (F := mgF (wS s) (mxS s) (myS s) fun j => pt (c j)) (m := m) (fun j hj => mgF_ok (bd_m hB) c3 hj) m 0 FP.fconst0 (by omega) ok_0
      rw [if_pos (show (3 : Int32) ≤ iv (m : Nat) from (iv_le (a := 3) (by decide) (ibn (by omega))).mpr (by omega)), if_pos h3, cp_mx hL hP, Option.bind_some, cp_my hL hP, Option.bind_some, cp_w hL, Option.bind_some]
      have := cm_6 (z := z1) (f := f1) (bd_m hB) c1 c2 c3 q3 q4 m FU 0 FP.fconst0 (by omega) (show m < 2000 by omega)
      rw [show g_X4_leastSquare (iv (mxS s)) (iv (myS s)) (iv (wS s)) z1 f1 = _ from this, Option.bind_some, ok_bits ok, Option.bind_some]
    · rw [if_neg (show ¬ (3 : Int32) ≤ iv (m : Nat) from fun e => h3 (by have := (iv_le (a := 3) (by decide) (ibn (by omega))).mp e; omega)), if_neg h3]
  · rw [if_neg h, if_neg h, if_pos rfl]
end
