/-! legs and corners -/
section
variable {s : MSt} {z f : Nat → Nat → Int32}
theorem fl_m {q : Int} : q ∈ fls (s 7) (-1) ↔ ∃ k, k < 6 ∧ s 7 k ≠ -1 ∧ s 7 k = q := by
  refine (flN_mem 6 0).trans ?_
  constructor
  · rintro ⟨k, -, h2, -, h4, h5⟩
    exact ⟨k, by omega, h4, h5⟩
  · rintro ⟨k, h2, h4, h5⟩
    exact ⟨k, Nat.zero_le _, by omega, by omega, h4, h5⟩
theorem fp_m {q : Pt} : q ∈ flP (s 7) (-1) ↔ ∃ k, k < 6 ∧ s 7 k ≠ -1 ∧ pt (s 7 k) = q := by
  constructor
  · intro h
    obtain ⟨a, ha, e⟩ := List.mem_map.mp h
    obtain ⟨k, h1, h2, h3⟩ := fl_m.mp ha
    exact ⟨k, h1, h2, by rw [h3]; exact e⟩
  · rintro ⟨k, h1, h2, e⟩
    exact List.mem_map.mpr ⟨_, fl_m.mpr ⟨k, h1, h2, rfl⟩, e⟩
theorem ed_leg (hD : DS s) {a k : Nat} (ha : a < 6) (da : s 7 a ≠ -1) (hk : k < 6) (hx : exP (flP (s 7) (-1)) (pt (s 7 a))) : edP s a k ↔ s 7 k ≠ -1 ∧ k ≠ a ∧ pt (s 7 k) = sc (flP (s 7) (-1)) (pt (s 7 a)) := by
  have ne : s 7 k ≠ -1 → k ≠ a → pt (s 7 k) ≠ pt (s 7 a) := fun dk hne e => hne (hD k a hk ha dk (pt_inj e))
  constructor
  · rintro ⟨h1, ⟨-, dk⟩, h3⟩
    refine ⟨dk, fun e => h1 e.symm, (ed_sc hx (fp_m.mpr ⟨k, hk, dk, rfl⟩) (ne dk (fun e => h1 e.symm))).mp fun q hq => ?_⟩
    obtain ⟨j, hj, dj, e⟩ := fp_m.mp hq
    rw [← e]
    exact h3 j hj dj
  · rintro ⟨dk, h1, h2⟩
    refine ⟨fun e => h1 e.symm, ⟨da, dk⟩, fun j hj dj => (ed_sc hx (fp_m.mpr ⟨k, hk, dk, rfl⟩) (ne dk h1)).mpr h2 _ (fp_m.mpr ⟨j, hj, dj, rfl⟩)⟩
theorem cor_un {ft : Nat → Int} {but : Int} {m m' : Nat} {c c' : Nat → Int} (h : corAt ft but m c) (h' : corAt ft but m' c') : m = m' ∧ (1 ≤ m → c = c') := by
  rcases h with ⟨e, rfl, -⟩ | ⟨st, a1, a2, a3, a4, a5, a6, rfl⟩
  · rcases h' with ⟨e', rfl, -⟩ | ⟨st', a1', -⟩
    · exact ⟨rfl, fun q => by omega⟩
    · rw [e] at a1'; cases a1'
  · rcases h' with ⟨e', rfl, -⟩ | ⟨st', a1', a2', a3', a4', a5', a6', rfl⟩
    · rw [e'] at a1; cases a1
    · have e : st = st' := pt_inj (st_uniq a2 a2')
      subst e
      refine ⟨?_, fun _ => rfl⟩
      rcases Nat.lt_trichotomy m m' with q | q | q
      · exact absurd a5 (a6' m (by omega) q)
      · exact q
      · exact absurd a5' (a6 m' (by omega) q)
theorem co_c (hk : KO s) (hC : CS s z f) {m : Nat} {c : Nat → Int} (h : corAt (s 7) (-1) m c) (i : Nat) (hi : i < 1000) : ∃ z' f', nthW (g_X10_corner (iv i) z f) = some (iv (if m ≤ i then -1 else c i), z', f') ∧ CJ z f z' f' := by
  obtain ⟨z', f', m', c', h', e, j⟩ := cq_corner hk hC (a := (i : Int)) (ibn (by omega))
  rw [if_pos (by omega)] at e
  obtain ⟨em, ec⟩ := cor_un h h'
  refine ⟨z', f', ?_, j⟩
  rw [nth_w e]
  unfold coA
  rw [← em]
  by_cases q : m ≤ i
  · rw [if_pos (by omega), if_pos q]
  · rw [if_neg (by omega), if_neg q, ← ec (by omega), Int.toNat_natCast]
theorem co_ex (hk : KO s) (hC : CS s z f) : ∃ m c, corAt (s 7) (-1) m c := by
  obtain ⟨z', f', m', c', h', e, j⟩ := cq_corner hk hC (a := 0) (by decide)
  exact ⟨m', c', h'⟩
theorem so_1138 {n : Int} (hC : CS s z f) (hL : LW s f) (hW : WF n s) {one two : Int} (h1 : 0 ≤ one ∧ one < 60000) (h2 : 0 ≤ two ∧ two < 60000) {m : Nat} {c : Nat → Int} (h : corAt (s 7) (-1) m c) (hm : m ≤ 6) {y : UInt32} {b : Bool} (hb : b = true ↔ 3 ≤ m) (hy : 3 ≤ m → y = mgN (mgF (wS s) (mxS s) (myS s) fun j => pt (c j)) m 0 FP.fconst0) : OK1 n (g_L_isSo_b1138 (iv one) (iv two) (if stB s (-1) then 1 else 0) 1 (iv m) y.toInt32 (if b then 1 else 0) z f) := by
  have hk := hW.1.1
  unfold g_L_isSo_b1138
  obtain ⟨z1, f1, e1, j1⟩ := co_c hk hC h m (by omega)
  rw [if_pos (Nat.le_refl _)] at e1
  have C1 := cj_cs j1 hC
  have L1 := fm_ls j1.2.2 hL
  rw [if_neg (show ¬ (1 : Int32) = 0 by decide), e1, bn3_some, if_pos (show iv (-1) = (-1 : Int32) from rfl)]
  obtain ⟨z2, f2, m', c', h', e2, j2⟩ := cq_margin hk C1
  obtain ⟨em, ec⟩ := cor_un h h'
  have C2 := cj_cs j2 C1
  have L2 := fm_ls j2.2.2 L1
  rw [e2, bn3_some]
  have t := so_1191 C2 L2 hW h1 h2 9 FU 0 (by decide) (by decide)
  have ok : ∀ {v w : Int32}, v = w → OK1 n (g_L_isSo_b1178 (iv one) (iv two) v w z2 f2) := fun {v w} e => by
    unfold g_L_isSo_b1178
    rw [if_pos e]
    unfold g_L_isSo_b1186
    exact t
  unfold maA at ok ⊢
  by_cases q : stB s (-1) = true
  · rw [if_pos q, if_pos q, if_neg (show ¬ (1 : Int32) = 0 by decide), ← em]
    by_cases w : 3 ≤ m
    · rw [hb.mpr w, if_neg (show ¬ (if true = true then (1 : Int32) else 0) = 0 by decide), if_pos w, hy w, ← ec (by omega)]
      exact ok rfl
    · rw [show b = false by cases b; rfl; exact absurd (hb.mp rfl) w, if_pos (show (if false = true then (1 : Int32) else 0) = 0 from rfl), if_neg w]
      exact ok rfl
  · rw [if_neg q, if_neg q, if_pos rfl]
    exact ok rfl
end
