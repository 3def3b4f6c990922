/-! the model's cells hold the state -/
def arrsM : List (Nat × Nat × Nat) := [(67, 0, 400), (68, 1, 400), (69, 2, 400), (70, 3, 400), (71, 4, 6), (72, 5, 6), (73, 6, 6)]
def scalM : List (Nat × Nat) := [(4, 6), (5, 4), (6, 5), (7, 7), (8, 1), (9, 2), (10, 3), (11, 0), (18, 8), (19, 9), (22, 11), (23, 12), (25, 13), (26, 14)]
def dnS (s : MSt) (k : Nat) : Bool := decide (s 7 k ≠ -1)
def LM (s : MSt) (z f : Nat → Nat → Int32) : Prop := (∀ q ∈ arrsM, ∀ k, k < q.2.2 → f q.1 k = iv (s q.2.1 k)) ∧ ∀ q ∈ scalM, z 66 q.1 = iv (s 8 q.2)
def FX (s : MSt) (f : Nat → Nat → Int32) : Prop := ∀ k, k < 6 → s 7 k ≠ -1 → f 74 k = iv (pt (s 7 k)).1 ∧ f 75 k = iv (pt (s 7 k)).2
def MX (s : MSt) (z f : Nat → Nat → Int32) : Prop := (s 8 9 ≠ 0 → z 66 20 = iv (pt (s 8 10)).1 ∧ z 66 21 = iv (pt (s 8 10)).2) ∧ (∀ k : Nat, k < 40 → (k : Int) < s 8 12 → f 76 (4 * k) = iv (s 9 k) ∧ f 76 (4 * k + 1) = iv (s 10 k) ∧ f 76 (4 * k + 2) = iv (pt (s 11 k)).1 ∧ f 76 (4 * k + 3) = iv (pt (s 11 k)).2) ∧ ∀ k : Nat, k < 8 → (k : Int) < s 8 13 → f 77 (5 * k) = iv (s 12 k) ∧ f 77 (5 * k + 1) = iv (s 13 k) ∧ f 77 (5 * k + 2) = iv (s 14 k) ∧ f 77 (5 * k + 3) = iv (s 15 k) ∧ f 77 (5 * k + 4) = iv (s 16 k)
def MS (s : MSt) (z f : Nat → Nat → Int32) : Prop := LM s z f ∧ z 66 17 = mk (dnS s) ∧ FX s f ∧ MX s z f
/-- feet are apart -/
def DS (s : MSt) : Prop := ∀ j k, j < 6 → k < 6 → s 7 j ≠ -1 → s 7 j = s 7 k → j = k
/-- no feet beyond the legs -/
def LG (s : MSt) : Prop := ∀ k : Nat, k < 6 → s 8 0 ≤ k → s 7 k = -1
/-- only the model's hull differs -/
def MJ (z f z' f' : Nat → Nat → Int32) : Prop := (∀ a k, ¬ (a = 66 ∧ k = 28) → z' a k = z a k) ∧ ∀ b, b ≠ 78 → f' b = f b
/-- the class's cells stay -/
def Fe (z f z' f' : Nat → Nat → Int32) : Prop := ∀ a, a < 66 → z' a = z a ∧ f' a = f a
/-- and what was thrown -/
def Fc (z f z' f' : Nat → Nat → Int32) : Prop := Fe z f z' f' ∧ z' 66 30 = z 66 30
theorem fd_tr {z f z1 f1 z2 f2 : Nat → Nat → Int32} (h : Fe z f z1 f1) (h2 : Fe z1 f1 z2 f2) : Fe z f z2 f2 := fun a ha => ⟨(h2 a ha).1.trans (h a ha).1, (h2 a ha).2.trans (h a ha).2⟩
theorem fd_z {z f : Nat → Nat → Int32} {k : Nat} {v : Int32} : Fe z f (up2 z 66 k v) f := fun a ha => ⟨by
  funext j
  unfold up2
  rw [if_neg (fun e => by omega)], rfl⟩
theorem fc_rf {z f : Nat → Nat → Int32} : Fc z f z f := ⟨fun _ _ => ⟨rfl, rfl⟩, rfl⟩
theorem fc_tr {z f z1 f1 z2 f2 : Nat → Nat → Int32} (h : Fc z f z1 f1) (h2 : Fc z1 f1 z2 f2) : Fc z f z2 f2 := ⟨fd_tr h.1 h2.1, h2.2.trans h.2⟩
theorem fc_z {z f : Nat → Nat → Int32} {k : Nat} {v : Int32} (hk : k ≠ 30 := by decide) : Fc z f (up2 z 66 k v) f := ⟨fd_z, if_neg (fun e => hk e.2.symm)⟩
theorem fc_f {z f : Nat → Nat → Int32} {b : Nat} {g : Nat → Int32} (h : 66 ≤ b) : Fc z f z (upa f b g) := ⟨fun a ha => ⟨rfl, upa_ne (by omega)⟩, rfl⟩
section
variable {s : MSt} {z f z' f' : Nat → Nat → Int32}
theorem mj_rf : MJ z f z f := ⟨fun _ _ _ => rfl, fun _ _ => rfl⟩
theorem mj_tr {z1 f1 : Nat → Nat → Int32} (h : MJ z f z1 f1) (h2 : MJ z1 f1 z' f') : MJ z f z' f' := ⟨fun a k q => (h2.1 a k q).trans (h.1 a k q), fun b q => (h2.2 b q).trans (h.2 b q)⟩
theorem mj_mk {v : Int32} {c : Nat → Int32} : MJ z f (up2 z 66 28 v) (upa f 78 c) := ⟨fun a k q => if_neg q, fun b q => upa_ne q⟩
theorem mj_fc (h : MJ z f z' f') : Fc z f z' f' := ⟨fun a ha => ⟨funext fun k => h.1 a k (by omega), h.2 a (by omega)⟩, h.1 66 30 (by decide)⟩
theorem mz (h : LM s z f) (c j : Nat) (hq : (c, j) ∈ scalM := by decide) : z 66 c = iv (s 8 j) := h.2 _ hq
theorem ma (h : LM s z f) (b a n : Nat) (hq : (b, a, n) ∈ arrsM := by decide) : ∀ k, k < n → f b k = iv (s a k) := h.1 _ hq
theorem mj_lm (h : MJ z f z' f') (hc : LM s z f) : LM s z' f' := by
  have n1 : ∀ q ∈ arrsM, q.1 ≠ 78 := by decide +kernel
  have n2 : ∀ q ∈ scalM, q.1 ≠ 28 := by decide +kernel
  exact ⟨fun q hq k hk => by rw [h.2 _ (n1 q hq)]; exact hc.1 q hq k hk, fun q hq => by rw [h.1 _ _ (fun e => n2 q hq e.2)]; exact hc.2 q hq⟩
theorem mj_ms (h : MJ z f z' f') (hc : MS s z f) : MS s z' f' := by
  refine ⟨mj_lm h hc.1, ?_, ?_, ?_, ?_, ?_⟩
  · rw [h.1 _ _ (by decide)]; exact hc.2.1
  · unfold FX
    rw [h.2 74 (by decide), h.2 75 (by decide)]; exact hc.2.2.1
  · rw [h.1 _ _ (by decide), h.1 _ _ (by decide)]; exact hc.2.2.2.1
  · rw [h.2 76 (by decide)]; exact hc.2.2.2.2.1
  · rw [h.2 77 (by decide)]; exact hc.2.2.2.2.2
/-- what the class does leaves the model's cells -/
theorem fm_ms (h : Fm z f z' f') (hc : MS s z f) : MS s z' f' := by
  have n1 : ∀ q ∈ arrsM, 66 ≤ q.1 := by decide +kernel
  refine ⟨⟨fun q hq k hk => ?_, fun q hq => ?_⟩, ?_, ?_, ?_, ?_, ?_⟩
  · rw [(h q.1 (n1 q hq)).2]; exact hc.1.1 q hq k hk
  · rw [(h 66 (by decide)).1]; exact hc.1.2 q hq
  · rw [(h 66 (by decide)).1]; exact hc.2.1
  · unfold FX
    rw [(h 74 (by decide)).2, (h 75 (by decide)).2]; exact hc.2.2.1
  · rw [(h 66 (by decide)).1]; exact hc.2.2.2.1
  · rw [(h 76 (by decide)).2]; exact hc.2.2.2.2.1
  · rw [(h 77 (by decide)).2]; exact hc.2.2.2.2.2
theorem fd_cs (h : Fe z f z' f') (hc : CS s z f) : CS s z' f' := by
  have n1 : ∀ q ∈ arrsC, q.1 < 66 := by decide +kernel
  have n2 : ∀ q ∈ scalC, q.1 < 66 := by decide +kernel
  exact ⟨fun q hq k hk => by rw [(h q.1 (n1 q hq)).2]; exact hc.1 q hq k hk, fun q hq => by rw [(h q.1 (n2 q hq)).1]; exact hc.2 q hq⟩
theorem lm_us7 {k : Nat} {v : Int} (h : LM s z f) : LM (us s 7 k v) z f := by
  have n1 : ∀ q ∈ arrsM, q.2.1 ≠ 7 := by decide +kernel
  exact ⟨fun q hq k hk => by rw [us_na (n1 q hq)]; exact h.1 q hq k hk, fun q hq => by rw [us_na (by decide)]; exact h.2 q hq⟩
theorem lm_ur7 {g : Nat → Int} (h : LM s z f) : LM (ur s 7 g) z f := by
  have n1 : ∀ q ∈ arrsM, q.2.1 ≠ 7 := by decide +kernel
  exact ⟨fun q hq k hk => by rw [ur_na (n1 q hq)]; exact h.1 q hq k hk, fun q hq => by rw [ur_na (by decide)]; exact h.2 q hq⟩
/-! balance -/
theorem ms_mw (hL : LM s z f) : mwOk (wS s) (mxS s) (myS s) z := ⟨s 8 1, s 8 4, s 8 5, s 8 2, s 8 3, mz hL 8 1, mz hL 5 4, mz hL 6 5, mz hL 9 2, mz hL 10 3, rfl, rfl, rfl⟩
theorem ms_mf (hB : BD s) (hD : DS s) (hF : FX s f) {σ : Nat → Bool} (hσ : ∀ k, k < 6 → σ k = true → s 7 k ≠ -1) : mfOk σ (fun k => pt (s 7 k)) f := by
  refine ⟨fun k hk h => ?_, fun j k hj hk h1 h2 e => hD j k hj hk (hσ j hj h1) (pt_inj e)⟩
  have hn : nB (s 7 k) := (hB.2.2.2 k hk).resolve_left (hσ k hk h)
  have pb := pt_bd hn
  exact ⟨by unfold pB; dsimp only; omega, hF k hk (hσ k hk h)⟩
theorem mo_holds (hB : BD s) (hD : DS s) (hL : LM s z f) (hF : FX s f) : ∃ z' f', g_X11_holds (mk (dnS s)) z f = some (if stB s (-1) then 1 else 0, z', f') ∧ MJ z f z' f' := by
  obtain ⟨v, c, e⟩ := mh_holds (σ := dnS s) (ms_mf hB hD hF (fun k _ h => by unfold dnS at h; exact of_decide_eq_true h)) (ms_mw hL) (bd_m hB)
  refine ⟨_, _, ?_, mj_mk (v := v) (c := c)⟩
  rw [e]
  congr 2
  have : flP (s 7) (-1) = mls (dnS s) (fun k => pt (s 7 k)) := fls_mls (fun k hk => by
    unfold dnS
    rw [decide_eq_true_iff]
    exact ⟨fun h => ⟨by omega, h⟩, fun h => h.2⟩) (fun _ _ _ => rfl)
  unfold stB
  rw [this]
theorem dn_clr {k : Nat} (hk : k < 6) : mk (dnS s) &&& (((1 : Int32) <<< (iv k &&& 31)) ^^^ (-1)) = mk (dnS (us s 7 k (-1))) := by
  rw [mk_clr k hk]
  refine mk_cg fun j hj => ?_
  unfold upb dnS us
  by_cases e : j = k
  · subst e; simp
  · simp [e]
theorem dn_or {k : Nat} (hk : k < 6) {p : Int} (hp : p ≠ -1) : mk (dnS s) ||| ((1 : Int32) <<< (iv k &&& 31)) = mk (dnS (us s 7 k p)) := by
  rw [mk_or k hk]
  refine mk_cg fun j hj => ?_
  unfold upb dnS us
  by_cases e : j = k
  · subst e; simp [hp]
  · simp [e]
theorem stB_wo {k : Nat} : stB s k = stB (us s 7 k (-1)) (-1) := by
  have : flP (s 7) k = flP (us s 7 k (-1) 7) (-1) := by
    have : ∀ n i, flN (s 7) k n i = flN (us s 7 k (-1) 7) (-1) n i := by
      intro n
      induction n with
      | zero => intro i; rfl
      | succ n ih =>
        intro i
        unfold flN
        rw [ih (i + 1)]
        by_cases e : i = k
        · subst e
          rw [if_pos (Or.inl rfl), if_pos (Or.inr us_at)]
        · rw [us_nk e]
          have e1 : ¬ (i : Int) = k := by omega
          have e2 : ¬ (i : Int) = -1 := by omega
          simp only [e1, e2, false_or]
    unfold flP fls
    rw [this]
  unfold stB
  rw [this]
  rfl
theorem mo_holdsW (hB : BD s) (hD : DS s) (hL : LM s z f) (hF : FX s f) {k : Nat} (hk : k < 6) : ∃ z' f', g_X11_holds (mk (dnS (us s 7 k (-1)))) z f = some (if stB s k then 1 else 0, z', f') ∧ MJ z f z' f' := by
  have hB2 : BD (us s 7 k (-1)) := ⟨hB.1, hB.2.1, hB.2.2.1, fun j hj => by
    by_cases e : j = k
    · subst e; rw [us_at]; exact Or.inl rfl
    · rw [us_nk e]; exact hB.2.2.2 j hj⟩
  have hD2 : DS (us s 7 k (-1)) := fun i j hi hj h1 h2 => by
    by_cases e : i = k
    · subst e; rw [us_at] at h1; exact absurd rfl h1
    · rw [us_nk e] at h1 h2
      by_cases e2 : j = k
      · subst e2; rw [us_at] at h2; exact absurd h2 h1
      · rw [us_nk e2] at h2; exact hD i j hi hj h1 h2
  have hF2 : FX (us s 7 k (-1)) f := fun j hj h => by
    by_cases e : j = k
    · subst e; rw [us_at] at h; exact absurd rfl h
    · rw [us_nk e] at h ⊢; exact hF j hj h
  obtain ⟨z1, f1, e, j⟩ := mo_holds hB2 hD2 (lm_us7 hL) hF2
  refine ⟨z1, f1, ?_, j⟩
  rw [e, ← stB_wo]
/-! counting, and where feet are -/
theorem mo_bit {i : Nat} (hi : i < 6) : ((mk (dnS s) >>> (iv i &&& 31)) &&& 1 = (1 : Int32)) ↔ s 7 i ≠ -1 := by
  rw [mk_get i hi]
  unfold dnS
  by_cases c : s 7 i = -1
  · simp [c]
  · simp [c]
theorem mo_down (h17 : z 66 17 = mk (dnS s)) {i : Nat} (hi : i < 6) : g_X11_isDown (iv i) z f = some (if s 7 i ≠ -1 then 1 else 0) := by
  unfold g_X11_isDown
  rw [h17]
  by_cases c : s 7 i ≠ -1
  · rw [if_pos ((mo_bit hi).mpr c), if_pos c]
  · rw [if_neg (fun e => c ((mo_bit hi).mp e)), if_neg c]
theorem mo_count : g_X11_count (mk (dnS s)) z f = some (iv (cnS (s 7) : Nat)) := by
  have key : ∀ (n fu i c : Nat), i + n = 6 → n < fu → g_X11_count_l4 fu (mk (dnS s)) (iv c) (iv i) z f = some (iv (cnN (s 7) n i c : Nat)) := by
    intro n
    induction n with
    | zero =>
      intro fu i c hi hf
      obtain ⟨fu, rfl⟩ : ∃ x, fu = x + 1 := ⟨fu - 1, by omega⟩
      obtain rfl : i = 6 := by omega
      rw [g_X11_count_l4, if_pos y6]
      rfl
    | succ n ih =>
      intro fu i c hi hf
      obtain ⟨fu, rfl⟩ : ∃ x, fu = x + 1 := ⟨fu - 1, by omega⟩
      rw [g_X11_count_l4, if_neg (n6 (by omega)), mk_get i (by omega), iv_1]
      unfold cnN dnS
      by_cases c1 : s 7 i = -1
      · have e : (if decide (s 7 i ≠ -1) = true then (1 : Int32) else 0) = 0 := by simp [c1]
        rw [e, if_pos c1, Int32.add_zero]
        exact ih fu (i + 1) c (by omega) (by omega)
      · have e : (if decide (s 7 i ≠ -1) = true then (1 : Int32) else 0) = 1 := by simp [c1]
        rw [e, if_neg c1, iv_1]
        exact ih fu (i + 1) (c + 1) (by omega) (by omega)
  exact key 6 FU 0 0 (by decide) (by decide)
theorem mo_press (hB : BD s) (hL : LM s z f) : g_X11_pressure (mk (dnS s)) z f = some (iv (psS s)) := by
  have wb := (bd_m hB).2.2
  have cb := cnS_le (ft := s 7)
  unfold g_X11_pressure g_X11_weight psS prS
  rw [mo_count, Option.bind_some, mz hL 8 1]
  by_cases c : cnS (s 7) = 0
  · rw [if_pos c, c]; rfl
  · have e : ¬ iv (cnS (s 7) : Nat) = (0 : Int32) := fun e => by have := (z_iv (ibn (by omega))).mp e; omega
    rw [if_neg e, Option.bind_some, if_neg e, if_neg c, show (10 : Int32) = iv 10 from rfl, show (1 : Int32) = iv 1 from rfl, iv_add, iv_add, iv_sub, show 10 + s 8 1 = wS s from rfl, iv_div (by omega) (by omega) (by omega) (by omega)]
theorem mo_level (hB : BD s) (hL : LM s z f) (hF : FX s f) : g_X11_level (mk (dnS s)) z f = some (iv (lvS (s 3) (s 7) (-1))) := by
  have key : ∀ (n fu i : Nat) (v : Int), i + n = 6 → n < fu → 0 ≤ v → v ≤ 9 → g_X11_level_l4 fu (mk (dnS s)) (iv v) (iv i) z f = some (iv (lvN (s 3) (s 7) (-1) n i v)) := by
    intro n
    induction n with
    | zero =>
      intro fu i v hi hf _ _
      obtain ⟨fu, rfl⟩ : ∃ x, fu = x + 1 := ⟨fu - 1, by omega⟩
      obtain rfl : i = 6 := by omega
      rw [g_X11_level_l4, if_pos y6]
      rfl
    | succ n ih =>
      intro fu i v hi hf h0 h9
      obtain ⟨fu, rfl⟩ : ∃ x, fu = x + 1 := ⟨fu - 1, by omega⟩
      have h6 : i < 6 := by omega
      rw [g_X11_level_l4, if_neg (n6 h6)]
      unfold g_X11_level_b43 g_X11_level_b57 lvN
      rw [iv_1]
      by_cases c : s 7 i = -1
      · rw [if_neg (fun e => (mo_bit h6).mp e c), if_pos (Or.inr c), if_pos (show (0 : Int32) ≤ iv v from (iv_le (a := 0) (by decide) (by omega)).mpr h0)]
        exact ih fu (i + 1) v (by omega) (by omega) h0 h9
      · have hn : nB (s 7 i) := (hB.2.2.2 i h6).resolve_left c
        have hb := hB.1.2.2.2 (s 7 i).toNat (nB_nat hn).2
        obtain ⟨f1, f2⟩ := hF i h6 c
        rw [if_pos ((mo_bit h6).mpr c), if_neg (by rintro (q | q); omega; exact c q), ix_iv h6 (by decide), Option.bind_some, Option.bind_some, f1, f2]
        have ea : g_X11_at (iv (pt (s 7 i)).1) (iv (pt (s 7 i)).2) z f = some (iv ((s 7 i).toNat : Nat)) := by
          unfold g_X11_at
          rw [show (20 : Int32) = iv 20 from rfl, iv_mul, iv_add]
          congr 2
          unfold pt
          unfold nB at hn
          simp only
          omega
        rw [ea, Option.bind_some, ix_iv (nB_nat hn).2 (by decide), Option.bind_some, ma hL 70 3 400 (by decide) _ (nB_nat hn).2]
        have el : (iv (s 3 (s 7 i).toNat) ≤ iv v) ↔ s 3 (s 7 i).toNat ≤ v := iv_le (by omega) (by omega)
        by_cases d : s 3 (s 7 i).toNat ≤ v
        · rw [if_pos (el.mpr d), show max v (s 3 (s 7 i).toNat) = v by omega]
          exact ih fu (i + 1) v (by omega) (by omega) h0 h9
        · rw [if_neg (fun q => d (el.mp q)), show max v (s 3 (s 7 i).toNat) = s 3 (s 7 i).toNat by omega]
          exact ih fu (i + 1) _ (by omega) (by omega) (by omega) (by omega)
  exact key 6 FU 0 0 (by decide) (by decide) (by decide) (by decide)
theorem mo_at {p : Int} (hp : nB p) : g_X11_at (iv (pt p).1) (iv (pt p).2) z f = some (iv (p.toNat : Nat)) := by
  unfold g_X11_at
  rw [show (20 : Int32) = iv 20 from rfl, iv_mul, iv_add]
  congr 2
  unfold pt
  unfold nB at hp
  simp only
  omega
theorem mo_foot (hk : KO s) (hG : LG s) (hL : LM s z f) (h17 : z 66 17 = mk (dnS s)) (hF : FX s f) {p : Int} (hp : nB p) : ∃ r : Int, g_X11_footAt (iv (pt p).1) (iv (pt p).2) z f = some (iv r) ∧ (-1 ≤ r ∧ r < 6) ∧ ((r = -1 ∧ ∀ k, k < 6 → s 7 k ≠ p) ∨ (r ≠ -1 ∧ s 7 r.toNat = p)) := by
  have h8 := ko_8 hk
  have hB := ko_bd hk
  have pb := pt_bd hp
  have key : ∀ (n fu i : Nat) (r : Int), i + n = (s 8 0).toNat → n < fu → (-1 ≤ r ∧ r < 6) → ((r = -1 ∧ ∀ k, k < i → s 7 k ≠ p) ∨ (r ≠ -1 ∧ s 7 r.toNat = p)) → ∃ r' : Int, g_X11_footAt_l5 fu (iv (pt p).1) (iv (pt p).2) (iv r) (iv i) z f = some (iv r') ∧ (-1 ≤ r' ∧ r' < 6) ∧ ((r' = -1 ∧ ∀ k, k < 6 → s 7 k ≠ p) ∨ (r' ≠ -1 ∧ s 7 r'.toNat = p)) := by
    intro n
    induction n with
    | zero =>
      intro fu i r hi hf hr hv
      obtain ⟨fu, rfl⟩ : ∃ x, fu = x + 1 := ⟨fu - 1, by omega⟩
      refine ⟨r, ?_, hr, hv.imp (fun h => ⟨h.1, fun k hk6 => ?_⟩) (fun h => h)⟩
      · rw [g_X11_footAt_l5, mz hL 11 0, if_pos ((iv_le (by omega) (by omega)).mpr (by omega))]
      · by_cases q : k < i
        · exact h.2 k q
        · rw [hG k hk6 (by omega)]; unfold nB at hp; omega
    | succ n ih =>
      intro fu i r hi hf hr hv
      obtain ⟨fu, rfl⟩ : ∃ x, fu = x + 1 := ⟨fu - 1, by omega⟩
      have h6 : i < 6 := by omega
      have no : s 7 i ≠ p → ∃ r' : Int, g_X11_footAt_l5 fu (iv (pt p).1) (iv (pt p).2) (iv r) (iv ((i + 1 : Nat) : Int)) z f = some (iv r') ∧ (-1 ≤ r' ∧ r' < 6) ∧ ((r' = -1 ∧ ∀ k, k < 6 → s 7 k ≠ p) ∨ (r' ≠ -1 ∧ s 7 r'.toNat = p)) := fun hne => ih fu (i + 1) r (by omega) (by omega) hr (hv.imp (fun h => ⟨h.1, fun k hk => by
        by_cases e : k = i
        · subst e; exact hne
        · exact h.2 k (by omega)⟩) (fun h => h))
      rw [g_X11_footAt_l5, mz hL 11 0, if_neg (fun e => by have := (iv_le (by omega) (by omega)).mp e; omega), mo_down h17 h6, Option.bind_some]
      unfold g_X11_footAt_b50 g_X11_footAt_b51
      rw [iv_1]
      by_cases c : s 7 i = -1
      · rw [if_neg (fun q : s 7 i ≠ -1 => q c), if_pos rfl]
        exact no (by rw [c]; unfold nB at hp; omega)
      · have hn : nB (s 7 i) := (hB.2.2.2 i h6).resolve_left c
        have pi := pt_bd hn
        obtain ⟨f1, f2⟩ := hF i h6 c
        rw [if_pos c, if_neg (by decide), ix_iv h6 (by decide), Option.bind_some, Option.bind_some, f1, f2]
        have e1 : (iv (pt (s 7 i)).1 = iv (pt p).1) ↔ (pt (s 7 i)).1 = (pt p).1 := iv_eq (by omega) (by omega)
        have e2 : (iv (pt (s 7 i)).2 = iv (pt p).2) ↔ (pt (s 7 i)).2 = (pt p).2 := iv_eq (by omega) (by omega)
        by_cases d1 : (pt (s 7 i)).1 = (pt p).1
        · rw [if_pos (e1.mpr d1)]
          by_cases d2 : (pt (s 7 i)).2 = (pt p).2
          · rw [if_pos (e2.mpr d2)]
            have e : s 7 i = p := pt_inj (Prod.ext d1 d2)
            exact ih fu (i + 1) i (by omega) (by omega) (by omega) (Or.inr ⟨by omega, by rw [Int.toNat_natCast]; exact e⟩)
          · rw [if_neg (fun q => d2 (e2.mp q))]
            exact no (fun e => d2 (by rw [e]))
        · rw [if_neg (fun q => d1 (e1.mp q))]
          exact no (fun e => d1 (by rw [e]))
  obtain ⟨r', e, h1, h2⟩ := key (s 8 0).toNat FU 0 (-1) (by omega) (by show _ < 2000; omega) (by decide) (Or.inl ⟨rfl, fun k hk => absurd hk (Nat.not_lt_zero k)⟩)
  rw [show iv (-1) = (-1 : Int32) from rfl, show iv ((0 : Nat) : Int) = (0 : Int32) from rfl] at e
  exact ⟨r', e, h1, h2⟩
theorem mo_taken (hk : KO s) (hG : LG s) (hL : LM s z f) (h17 : z 66 17 = mk (dnS s)) (hF : FX s f) {p : Int} (hp : nB p) {β : Type} {F : Int32 → Option β} : ∃ r : Int, (-1 ≤ r ∧ r < 6) ∧ (r = -1 ↔ tkS (s 7) p (-1) = false) ∧ (r ≠ -1 → s 7 r.toNat = p) ∧ (g_X11_footAt (iv (pt p).1) (iv (pt p).2) z f).bind F = F (iv r) := by
  obtain ⟨r, e, h1, h2⟩ := mo_foot hk hG hL h17 hF hp
  refine ⟨r, h1, ?_, fun h => (h2.resolve_left (fun q => h q.1)).2, by rw [e, Option.bind_some]⟩
  rw [Bool.eq_false_iff, ne_eq, tkN_iff]
  constructor
  · rintro h ⟨k, -, hk6, -, q⟩
    rcases h2 with h2 | h2
    · exact h2.2 k (by omega) q
    · exact h2.1 h
  · intro h
    rcases h2 with h2 | h2
    · exact h2.1
    · exact absurd ⟨r.toNat, Nat.zero_le _, by omega, by omega, h2.2⟩ h
end
