theorem mh_holds {σ : Nat → Bool} {fp : Nat → Pt} {w mx my : Int} {z f : Nat → Nat → Int32} (h : mfOk σ fp f) (hw : mwOk w mx my z) (hB : mxB w mx my) : ∃ v c, g_X11_holds (mk σ) z f = some (if inB w mx my (mls σ fp) then 1 else 0, up2 z 66 28 v, upa f 78 c) := by
  have hw0 := hB.2.2
  unfold g_X11_holds
  rcases mh_hull (z := z) h with ⟨h0, e⟩ | ⟨o, m, c, ho, hS, h1, h6, hr, hm, e, hc⟩
  · rw [e, bn2_some, if_pos (show up2 z 66 28 (iv (0 : Nat)) 66 28 = 0 from up2_same)]
    have e1 : inB w mx my (mls σ fp) = false := by
      rw [← Bool.not_eq_true, inB_iff, h0]
      exact inP_nil
    have e2 : upa f 78 (f 78) = f := by
      funext b
      unfold upa
      by_cases q : b = 78
      · rw [if_pos q, q]
      · rw [if_neg q]
    refine ⟨iv (0 : Nat), f 78, ?_⟩
    rw [e1, e2]
    rfl
  · have hx := st_ex hS
    have hok : mfOk σ fp (upa f 78 c) := mfOk_up h (upa_ne (by decide)) (upa_ne (by decide))
    have hw2 : mwOk w mx my (up2 z 66 28 (iv (m : Nat))) := mwOk_up hw
    have hz : up2 z 66 28 (iv (m : Nat)) 66 28 = iv (m : Nat) := up2_same
    have hc2 : corK σ fp (fp o) m (upa f 78 c 78) := by rw [upa_same]; exact hc
    refine ⟨iv (m : Nat), c, ?_⟩
    rw [e, bn2_some, hz, if_neg (fun e => by have : (m : Int) = 0 := (iv_eq (b := 0) (ibn (by omega)) (by decide)).mp e; omega), show ixA 7 0 = some 0 from rfl, Option.bind_some, mw_x hw2, Option.bind_some, mw_w hw2, Option.bind_some, mw_y hw2]
    obtain ⟨a, ea, ha, fa⟩ := hc2 0 (by omega)
    have fa2 : fp a = fp o := fa
    have hao : a = o := h.2 a o ha.1 ho.1 ha.2 ho.2 fa2
    subst hao
    obtain ⟨-, a1, a2⟩ := hok.1 a ha.1 ha.2
    rw [ea]
    simp only [ix_iv ha.1 (show 6 < 1000 by decide), Option.bind_some]
    rw [a1, a2]
    simp only [iv_mul, iv_sub]
    have pa := mls_pB h _ hx.1
    unfold pB at pa
    have n1 := bd_mul (a := w) (b := (fp a).2) (A := 30) (B := 19) (by omega) (by omega)
    have n2 := bd_mul (a := w) (b := (fp a).1) (A := 30) (B := 19) (by omega) (by omega)
    have hx1 := hB.1
    have hy1 := hB.2.1
    by_cases c1 : m = 1
    · subst c1
      rw [if_pos (show iv (1 : Nat) = (1 : Int32) from rfl)]
      have key := inP_one (w := w) (mx := mx) (my := my) hx hr
      have k1 : iv (mx - w * (fp a).1) = (0 : Int32) ↔ mx - w * (fp a).1 = 0 := iv_eq (b := 0) (by unfold IB; omega) (by decide)
      have k2 : iv (my - w * (fp a).2) = (0 : Int32) ↔ my - w * (fp a).2 = 0 := iv_eq (b := 0) (by unfold IB; omega) (by decide)
      by_cases d1 : mx - w * (fp a).1 = 0
      · rw [if_pos (k1.mpr d1)]
        by_cases d2 : my - w * (fp a).2 = 0
        · rw [if_pos (k2.mpr d2), if_pos (inB_iff.mpr (key.mpr (by omega)))]
        · rw [if_neg (fun e => d2 (k2.mp e)), if_neg (fun e => d2 (by have := key.mp (inB_iff.mp e); omega))]
      · rw [if_neg (fun e => d1 (k1.mp e)), if_neg (fun e => d1 (by have := key.mp (inB_iff.mp e); omega))]
    · rw [if_neg (show ¬ iv (m : Nat) = (1 : Int32) from fun e => by have : (m : Int) = 1 := (iv_eq (b := 1) (ibn (by omega)) (by decide)).mp e; omega)]
      obtain ⟨b', g1, g2⟩ := mh_85 hok hw2 hB hx (by omega) h6 hr hz hc2 ha rfl m FU 0 true (by omega) (by show m < 2000; omega)
      refine Eq.trans g2 ?_
      have key : (b' = true ∧ (m = 2 → 0 ≤ alg w mx my (fp a) (sc (mls σ fp) (fp a)) ∧ alg w mx my (fp a) (sc (mls σ fp) (fp a)) ≤ sqd (fp a) (sc (mls σ fp) (fp a)) * w)) ↔ inB w mx my (mls σ fp) = true := by
        rw [g1, inB_iff]
        by_cases c2 : m = 2
        · subst c2
          have n1 : sc (mls σ fp) (fp a) ≠ fp a := hm 1 (by omega) (by omega)
          rw [two_iff hw0.1 hx hr n1]
          have r2 : cs (mls σ fp) (fp a) (1 + 1) = fp a := hr
          constructor
          · rintro ⟨⟨-, q⟩, q2⟩
            have q1 := q 1 (by omega) (by omega)
            rw [r2] at q1
            exact ⟨⟨q 0 (by omega) (by omega), q1⟩, q2 rfl⟩
          · rintro ⟨⟨q0, q1⟩, q2⟩
            refine ⟨⟨rfl, fun j _ hj => ?_⟩, fun _ => q2⟩
            match j, hj with
            | 0, _ => exact q0
            | 1, _ => rw [r2]; exact q1
        · rw [three_iff hw0.1 hS (by omega) hr hm]
          constructor
          · rintro ⟨⟨-, q⟩, -⟩ i hi
            exact q i (Nat.zero_le _) hi
          · intro q
            exact ⟨⟨rfl, fun j _ hj => q j hj⟩, fun e => absurd e c2⟩
      by_cases kk : inB w mx my (mls σ fp) = true
      · rw [if_pos (key.mpr kk), if_pos kk]
      · rw [if_neg (fun e => kk (key.mp e)), if_neg kk]
/-- the class's feet and the model's -/
theorem fls_mls {ft : Nat → Int} {but : Int} {σ : Nat → Bool} {fp : Nat → Pt} (h : ∀ k, k < 6 → (σ k = true ↔ (k : Int) ≠ but ∧ ft k ≠ -1)) (hp : ∀ k, k < 6 → σ k = true → pt (ft k) = fp k) : flP ft but = mls σ fp := by
  have : ∀ n i, i + n ≤ 6 → (flN ft but n i).map pt = mlN σ fp n i := by
    intro n
    induction n with
    | zero => intro i _; rfl
    | succ n ih =>
      intro i hi
      unfold flN mlN
      by_cases c : σ i = true
      · have := (h i (by omega)).mp c
        rw [if_pos c, if_neg (by rintro (q | q); exact this.1 q; exact this.2 q), List.map_cons, ih (i + 1) (by omega), hp i (by omega) c]
      · have : (i : Int) = but ∨ ft i = -1 := by
          apply Classical.byContradiction
          intro q
          exact c ((h i (by omega)).mpr ⟨fun e => q (Or.inl e), fun e => q (Or.inr e)⟩)
        rw [if_neg c, if_pos this, ih (i + 1) (by omega)]
  exact this 6 0 (by decide)
