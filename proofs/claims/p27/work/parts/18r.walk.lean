/-! done: walking -/
section
variable {s : MSt} {z f : Nat → Nat → Int32}
abbrev dnK (fu : Nat) : Int32 → Int32 → Int32 → Int32 → Int32 → (Nat → Nat → Int32) → (Nat → Nat → Int32) → Option (Int32 × (Nat → Nat → Int32) × (Nat → Nat → Int32)) := fun y0 y1 y2 y3 y4 z f => g_L_isDone_l1153 fu y0 y1 y2 y3 y4 z f
theorem l1153_0 {fu : Nat} {a b c d : Int32} : g_L_isDone_l1153 (fu + 1) a b c 0 d z f = g_L_isDone_b1432 a b c d z f := by
  rw [g_L_isDone_l1153, if_pos rfl]
theorem wk_fail {fu : Nat} {ph : Int32} {d : Nat} : g_L_isDone_b1380 (dnK (fu + 1)) ph 1 (iv d) 1 z f = g_L_isDone_b1432 ph 1 (iv d) 1 z f := by
  unfold g_L_isDone_b1380 g_L_isDone_b1381
  rw [if_pos rfl]
  unfold g_L_isDone_b1395
  rw [if_pos rfl]
  unfold g_L_isDone_b1428
  rw [ix15_13, Option.bind_some, lt2_e, upf_id rfl, show iv d + 0 = iv d from Int32.add_zero _]
  exact l1153_0
theorem wk_ok {fu : Nat} {ph : Int32} {d : Nat} (hL : LM s f) (h14 : 0 ≤ s 8 14 ∧ s 8 14 < s 8 13) (h13 : s 8 13 ≤ 8) : g_L_isDone_b1376 (dnK fu) ph 1 (iv d) 1 z f = g_L_isDone_l1153 fu ph 1 (iv ((d + 1 : Nat) : Int)) 1 1 z (upf f 74 13 (iv (goS s 8 14))) := by
  unfold g_L_isDone_b1376 g_L_isDone_b1381
  rw [if_neg (show ¬ (1 : Int32) = 0 by decide)]
  unfold g_L_isDone_b1395
  rw [if_neg (show ¬ (1 : Int32) = 0 by decide), lm_g hL 12 13, if_neg (show ¬ iv (s 8 13) = (0 : Int32) from fun e => by have := (iv_eq (b := 0) (by unfold IB; omega) (by decide)).mp e; omega)]
  unfold g_L_isDone_b1428
  rw [ix15_13, Option.bind_some, lt2_e, lm_g hL 13 14, show iv (s 8 14) + 1 = iv (s 8 14 + 1) from iv_add _ 1, iv_rem (by omega) (by omega) (by omega) (by omega), iv_1]
  have : (s 8 14 + 1) % s 8 13 = goS s 8 14 := by
    unfold goS
    rw [us_at]
    by_cases c : s 8 13 ≤ s 8 14 + 1
    · rw [if_pos c, show s 8 14 + 1 = s 8 13 by omega, Int.emod_self]
    · rw [if_neg c, Int.emod_eq_of_lt (by omega) (by omega)]
  rw [this]
theorem la_walk {n : Int} (hn : n < 1000000) {a : Nat} (ha : a ≤ 20) : ∀ (m fu d : Nat) (s : MSt) (f : Nat → Nat → Int32), d + m = a → m < fu → WF n s → LW s f → 0 < s 8 13 → ∃ f', g_L_isDone_l1153 fu (iv a) 1 (iv d) 1 1 z f = g_L_isDone_b1432 (iv a) 1 (iv ((wkN m d s).1 : Nat)) 1 z f' ∧ LW (wkN m d s).2 f' ∧ Fl f f' := by
  intro m
  induction m with
  | zero =>
    intro fu d s f hd hf hW hL h13
    obtain ⟨fu, rfl⟩ : ∃ x, fu = x + 1 := ⟨fu - 1, by omega⟩
    refine ⟨f, ?_, hL, fl_rf⟩
    rw [g_L_isDone_l1153, if_neg (show ¬ (1 : Int32) = 0 by decide), if_pos ((iv_le (ibn (by omega)) (ibn (by omega))).mpr (by omega))]
    rfl
  | succ m ih =>
    intro fu d s f hd hf hW hL h13
    obtain ⟨fu, rfl⟩ : ∃ x, fu = x + 1 + 1 := ⟨fu - 2, by omega⟩
    have hk := hW.1.1
    have h8 := ko_8 hk
    have hnx : s 8 14 < s 8 13 := by have := hW.2.2.2.2; unfold NX at this; omega
    generalize hj : (s 8 14).toNat = j
    have ej : s 8 14 = (j : Int) := by omega
    have hj8 : j < 8 := by omega
    have b12 : 0 ≤ s 12 j ∧ s 12 j ≤ 5 := hk 12 j
    have b13 : -6 ≤ s 13 j ∧ s 13 j ≤ 6 := hk 13 j
    have b14 : -6 ≤ s 14 j ∧ s 14 j ≤ 6 := hk 14 j
    have b15 : -1 ≤ s 15 j ∧ s 15 j ≤ 1 := hk 15 j
    have b16 : -1 ≤ s 16 j ∧ s 16 j ≤ 1 := hk 16 j
    generalize hK : (s 12 j).toNat = k
    have ek : s 12 j = (k : Int) := by omega
    have hk6 : k < 6 := by omega
    have eP : phaV s j = (k : Int) + 8 * (s 13 j + 6) + 128 * (s 14 j + 6) + 2048 * (s 15 j + 1) + 8192 * (s 16 j + 1) := by unfold phaV; rw [ek]
    have oP : 0 ≤ phaV s j ∧ phaV s j < 100000 := by omega
    have w0 : ∀ t, phS s j k = (false, t) → wkN (m + 1) d s = (d, t) := fun t e => by
      show (if (phS s (s 8 14).toNat (s 12 (s 8 14).toNat).toNat).1 = true then _ else _) = _
      rw [hj, hK, e]
      rfl
    have w1 : ∀ t, phS s j k = (true, t) → wkN (m + 1) d s = wkN m (d + 1) (goS t) := fun t e => by
      show (if (phS s (s 8 14).toNat (s 12 (s 8 14).toNat).toNat).1 = true then _ else _) = _
      rw [hj, hK, e]
      rfl
    have fail : ∀ t f1, LW t f1 → Fl f f1 → phS s j k = (false, t) → ∃ f', g_L_isDone_b1380 (dnK (fu + 1)) (iv a) 1 (iv d) 1 z f1 = g_L_isDone_b1432 (iv a) 1 (iv ((wkN (m + 1) d s).1 : Nat)) 1 z f' ∧ LW (wkN (m + 1) d s).2 f' ∧ Fl f f' := fun t f1 l1 F1 e => by
      rw [w0 t e]
      exact ⟨f1, wk_fail, l1, F1⟩
    have good : ∀ t f1, LW t f1 → Fl f f1 → phS s j k = (true, t) → ∃ f', g_L_isDone_b1376 (dnK (fu + 1)) (iv a) 1 (iv d) 1 z f1 = g_L_isDone_b1432 (iv a) 1 (iv ((wkN (m + 1) d s).1 : Nat)) 1 z f' ∧ LW (wkN (m + 1) d s).2 f' ∧ Fl f f' := fun t f1 l1 F1 e => by
      have wt : WF n t := by have := wf_phS hn hW (i := j) hk6; rw [e] at this; exact this
      have t13 : t 8 13 = s 8 13 := by have := ph_8 (s := s) (i := j) (k := k) (j := 13) (Or.inl rfl); rw [e] at this; exact this
      have t14 : t 8 14 = s 8 14 := by have := ph_8 (s := s) (i := j) (k := k) (j := 14) (Or.inr rfl); rw [e] at this; exact this
      have g13 : goS t 8 13 = t 8 13 := us_nk (by decide)
      rw [w1 t e, wk_ok l1.1 (by omega) (by omega)]
      obtain ⟨f2, e2, l2, F2⟩ := ih (fu + 1) (d + 1) (goS t) (upf f1 74 13 (iv (goS t 8 14))) (by omega) (by omega) (wf_go wt (by omega)) (by
        have e0 : goS t 8 14 = if t 8 13 ≤ t 8 14 + 1 then 0 else t 8 14 + 1 := us_at
        rw [e0]
        exact lw_u (c := 13) (j := 14) l1 (by decide) (by decide)) (by omega)
      exact ⟨f2, e2, l2, fl_tr (fl_tr F1 (fl_u (by decide))) F2⟩
    rw [g_L_isDone_l1153, if_neg (show ¬ (1 : Int32) = 0 by decide), if_neg (fun e => by have := (iv_le (ibn (by omega)) (ibn (by omega))).mp e; omega), lm_g hL.1 13 14, ej, ix_iv hj8 (by decide), Option.bind_some, hL.2.2.2.2.2 j hj8 (by omega), show jrem (iv (phaV s j)) 8 = iv (k : Nat) by rw [show (8 : Int32) = iv 8 from rfl, jw oP (by decide)]; congr 1; omega, ix_iv hk6 (by decide), Option.bind_some, Option.bind_some, show jrem (iv (phaV s j) / 8) 16 = iv (s 13 j + 6) by rw [show (8 : Int32) = iv 8 from rfl, show (16 : Int32) = iv 16 from rfl, jv oP (by decide) (by decide)]; congr 1; omega, show jrem (iv (phaV s j) / 128) 16 = iv (s 14 j + 6) by rw [show (128 : Int32) = iv 128 from rfl, show (16 : Int32) = iv 16 from rfl, jv oP (by decide) (by decide)]; congr 1; omega, show jrem (iv (phaV s j) / 2048) 4 - 1 = iv (s 15 j) by rw [show (2048 : Int32) = iv 2048 from rfl, show (4 : Int32) = iv 4 from rfl, jv oP (by decide) (by decide), show (1 : Int32) = iv 1 from rfl, iv_sub]; congr 1; omega, show iv (phaV s j) / 8192 - 1 = iv (s 16 j) by rw [show (8192 : Int32) = iv 8192 from rfl, iv_div (by omega) (by omega) (by decide) (by decide), show (1 : Int32) = iv 1 from rfl, iv_sub]; congr 1; omega]
    have f1283 : ∀ {X Y : Int32} t f1, LW t f1 → Fl f f1 → phS s j k = (false, t) → ∃ f', g_L_isDone_b1283 (dnK (fu + 1)) (iv a) 1 (iv d) 1 (iv k) X Y (iv (s 15 j)) (iv (s 16 j)) z f1 = g_L_isDone_b1432 (iv a) 1 (iv ((wkN (m + 1) d s).1 : Nat)) 1 z f' ∧ LW (wkN (m + 1) d s).2 f' ∧ Fl f f' := fun {X Y} t f1 l1 F1 e => by
      unfold g_L_isDone_b1283 g_L_isDone_b1284
      rw [if_pos rfl]
      unfold g_L_isDone_b1328 g_L_isDone_b1329
      rw [if_pos rfl]
      exact fail t f1 l1 F1 e
    obtain ⟨f1, e1, y1, n1, F1⟩ := la_lifts (z := z) hn hW hL hk6
    rw [e1, bn3_some]
    by_cases hp : mlP s k
    · have l1 := y1 hp
      have W1 := (wf_stl hn (wb_lf hW hp)).1
      have k1 := ko_8 W1.1.1
      have z11 : ∀ {v : Int}, 0 ≤ v ∧ v ≤ 3 → ((iv v = (0 : Int32)) ↔ v = 0) := fun {v} hv => iv_eq (b := 0) (by unfold IB; omega) (by decide)
      rw [if_pos hp, if_neg (show ¬ (1 : Int32) = 0 by decide), l1.2]
      by_cases h11 : stlS (lfS s k) 8 11 = 0
      · rw [if_pos ((z11 (W1.1.1 8 11)).mpr h11)]
        have hp0 : nB (s 7 k) := ((ko_bd hk).2.2.2 k hk6).resolve_left hp.2.2.1
        have bp := pt_bd hp0
        obtain ⟨g1, g2⟩ := hL.2.2.1 k hk6 hp.2.2.1
        rw [g1, g2, show iv (pt (s 7 k)).1 + iv (s 13 j + 6) - 6 = iv ((pt (s 7 k)).1 + s 13 j) by rw [iv_add, show (6 : Int32) = iv 6 from rfl, iv_sub]; congr 1; omega, show iv (pt (s 7 k)).2 + iv (s 14 j + 6) - 6 = iv ((pt (s 7 k)).2 + s 14 j) by rw [iv_add, show (6 : Int32) = iv 6 from rfl, iv_sub]; congr 1; omega, la_in (ib_s (by omega)) (ib_s (by omega)), Option.bind_some]
        have ph1 : ∀ {r}, phU (stlS (lfS s k)) k (paS ((pt (s 7 k)).1 + s 13 j) ((pt (s 7 k)).2 + s 14 j)) j = r → phS s j k = r := fun {r} e => by
          unfold phS
          rw [if_pos hp, if_pos h11]
          exact e
        rcases paS_cs ((pt (s 7 k)).1 + s 13 j) ((pt (s 7 k)).2 + s 14 j) with ⟨q1, q2⟩ | ⟨hq, hqt, q3⟩
        · rw [if_neg q2, if_pos rfl]
          exact f1283 _ f1 l1.1 F1 (ph1 (by unfold phU; rw [if_pos q1]))
        · rw [if_pos q3, if_neg (show ¬ (1 : Int32) = 0 by decide)]
          unfold g_L_isDone_b1284
          rw [if_neg (show ¬ (1 : Int32) = 0 by decide)]
          have hl : (k : Int) < stlS (lfS s k) 8 0 := by rw [lf_8s (by decide)]; exact leg_of hW.2.1.2.1 hk6 hp.2.2.1
          obtain ⟨f2, e2, y2, n2, F2⟩ := la_places (z := z) hn W1 l1.1 hk6 hl hq
          rw [hqt] at e2
          rw [e2, bn3_some]
          have hne : ¬ paS ((pt (s 7 k)).1 + s 13 j) ((pt (s 7 k)).2 + s 14 j) = -1 := by unfold nB at hq; omega
          generalize hQ : paS ((pt (s 7 k)).1 + s 13 j) ((pt (s 7 k)).2 + s 14 j) = Q at *
          by_cases hpl : plP (stlS (lfS s k)) k Q
          · have l2 := y2 hpl
            have W2 := (wf_stl hn (wb_pl W1 hk6 hl hq hpl)).1
            rw [if_pos hpl, if_neg (show ¬ (1 : Int32) = 0 by decide), l2.2]
            by_cases h2 : stlS (plS (stlS (lfS s k)) k Q) 8 11 = 0
            · rw [if_pos ((z11 (W2.1.1 8 11)).mpr h2)]
              unfold g_L_isDone_b1329
              rw [if_neg (show ¬ (1 : Int32) = 0 by decide)]
              have o : ∀ b, 12 ≤ b → stlS (plS (stlS (lfS s k)) k Q) b j = s b j := fun b hb => by
                rw [stl_o ⟨by omega, by omega, by omega, by omega, by omega, by omega, fun e => by omega⟩, pl_o ⟨by omega, by omega, fun e => by omega⟩, stl_o ⟨by omega, by omega, by omega, by omega, by omega, by omega, fun e => by omega⟩, lf_o ⟨fun e => by omega, fun e => by omega⟩]
              have ph2 : ∀ {r}, phT (stlS (plS (stlS (lfS s k)) k Q)) j = r → phS s j k = r := fun {r} e => ph1 (by
                unfold phU
                rw [if_neg hne, if_pos hpl, if_pos h2]
                exact e)
              have sh : ¬ (s 15 j = 0 ∧ s 16 j = 0) → ∃ f', g_L_isDone_b1346 (dnK (fu + 1)) (iv a) 1 (iv d) 1 (iv (s 15 j)) (iv (s 16 j)) z f2 = g_L_isDone_b1432 (iv a) 1 (iv ((wkN (m + 1) d s).1 : Nat)) 1 z f' ∧ LW (wkN (m + 1) d s).2 f' ∧ Fl f f' := fun q => by
                unfold g_L_isDone_b1346
                obtain ⟨f3, e3, y3, n3, F3⟩ := la_shifts (z := z) hn W2 l2.1 b15 b16
                rw [e3, bn3_some]
                have F123 := fl_tr (fl_tr F1 F2) F3
                by_cases hs : shP (stlS (plS (stlS (lfS s k)) k Q)) (s 15 j) (s 16 j)
                · have l3 := y3 hs
                  have W3 := (wf_stl hn (wb_sh W2 hs)).1
                  rw [if_pos hs, if_neg (show ¬ (1 : Int32) = 0 by decide), l3.2]
                  have ph3 : phS s j k = (decide (stlS (shS (stlS (plS (stlS (lfS s k)) k Q)) (s 15 j) (s 16 j)) 8 11 = 0), stlS (shS (stlS (plS (stlS (lfS s k)) k Q)) (s 15 j) (s 16 j))) := ph2 (by
                    unfold phT
                    rw [o 15 (by decide), o 16 (by decide), if_neg q, if_pos hs])
                  by_cases h3 : stlS (shS (stlS (plS (stlS (lfS s k)) k Q)) (s 15 j) (s 16 j)) 8 11 = 0
                  · rw [if_pos ((z11 (W3.1.1 8 11)).mpr h3)]
                    rw [decide_eq_true h3] at ph3
                    exact good _ f3 l3.1 F123 ph3
                  · rw [if_neg (fun e => h3 ((z11 (W3.1.1 8 11)).mp e))]
                    rw [decide_eq_false h3] at ph3
                    exact fail _ f3 l3.1 F123 ph3
                · rw [if_neg hs, if_pos rfl]
                  exact fail _ f3 (n3 hs).1 F123 (ph2 (by
                    unfold phT
                    rw [o 15 (by decide), o 16 (by decide), if_neg q, if_neg hs]))
              have z15 : (iv (s 15 j) = (0 : Int32)) ↔ s 15 j = 0 := iv_eq (b := 0) (ib_s (by omega)) (by decide)
              have z16 : (iv (s 16 j) = (0 : Int32)) ↔ s 16 j = 0 := iv_eq (b := 0) (ib_s (by omega)) (by decide)
              by_cases u0 : s 15 j = 0
              · by_cases v0 : s 16 j = 0
                · rw [if_pos (z15.mpr u0), if_pos (z16.mpr v0)]
                  exact good _ f2 l2.1 (fl_tr F1 F2) (ph2 (by
                    unfold phT
                    rw [o 15 (by decide), o 16 (by decide), if_pos ⟨u0, v0⟩]))
                · rw [if_pos (z15.mpr u0), if_neg (fun e => v0 (z16.mp e))]
                  exact sh (fun q => v0 q.2)
              · rw [if_neg (fun e => u0 (z15.mp e))]
                exact sh (fun q => u0 q.1)
            · rw [if_neg (fun e => h2 ((z11 (W2.1.1 8 11)).mp e))]
              unfold g_L_isDone_b1328 g_L_isDone_b1329
              rw [if_pos rfl]
              exact fail _ f2 l2.1 (fl_tr F1 F2) (ph1 (by unfold phU; rw [if_neg hne, if_pos hpl, if_neg h2]))
          · rw [if_neg hpl, if_pos rfl]
            unfold g_L_isDone_b1328 g_L_isDone_b1329
            rw [if_pos rfl]
            exact fail _ f2 (n2 hpl).1 (fl_tr F1 F2) (ph1 (by unfold phU; rw [if_neg hne, if_neg hpl]))
      · rw [if_neg (fun e => h11 ((z11 (W1.1.1 8 11)).mp e))]
        exact f1283 _ f1 l1.1 F1 (by unfold phS; rw [if_pos hp, if_neg h11])
    · rw [if_neg hp, if_pos rfl]
      exact f1283 _ f1 (n1 hp).1 F1 (by unfold phS; rw [if_neg hp])
theorem la_done5 {n : Int} (hn : n < 1000000) (hC : CS s z f) (hL : LW s f) (hW : WF n s) {a : Int} (ha : 0 ≤ a ∧ a ≤ 22) : OK1 n (if iv a ≤ 0 then g_L_isDone_b1123 (iv a) z f else if 21 ≤ iv a then g_L_isDone_b1123 (iv a) z f else g_L_isDone_b1124 (iv a) 1 z f) := by
  have hk := hW.1.1
  have h8 := ko_8 hk
  have ia : IB a := ib_s (by omega)
  have ask : ∀ {f1} (_ : CS s z f1), ∃ z' f', g_L_does 10 (iv a) 0 0 0 0 z f1 = some (dvC [-2000000, -1000000] (oWalk s a).1 (oWalk s a).2.1, z', f') ∧ CS (oWalk s a).2.2 z' f' ∧ Fm z f1 z' f' := fun {f1} c1 => by
    obtain ⟨z', f', e, c, F⟩ := cq_walk hn hW.1 c1 ia
    refine ⟨z', f', ?_, c, F⟩
    rw [do_10]
    exact dq_w e wl_AS oc_walk
  have no : ¬ (1 ≤ a ∧ a ≤ 20) → OK1 n (g_L_isDone_b1123 (iv a) z f) := fun q => by
    obtain ⟨z', f', e, c, F⟩ := ask hC
    have o : oWalk s a = (1, 0, s) := by unfold oWalk; rw [if_neg q]
    rw [o] at e c
    dsimp only at e c
    refine ⟨s, z', f', ?_, c, fm_ls F hL, hW⟩
    unfold g_L_isDone_b1123 g_L_isDone_b1124
    rw [if_pos rfl]
    unfold g_L_isDone_b1146 g_L_isDone_b1147
    rw [show FU = 1999 + 1 from rfl, l1153_0]
    unfold g_L_isDone_b1432
    rw [e, bn3_some, if_pos rfl]
    exact lb1466_1 rfl
  have e1 : (iv a ≤ (0 : Int32)) ↔ a ≤ 0 := iv_le (b := 0) ia (by decide)
  have e2 : ((21 : Int32) ≤ iv a) ↔ 21 ≤ a := iv_le (a := 21) (by decide) ia
  by_cases c1 : a ≤ 0
  · rw [if_pos (e1.mpr c1)]
    exact no (by omega)
  rw [if_neg (fun e => c1 (e1.mp e))]
  by_cases c2 : 21 ≤ a
  · rw [if_pos (e2.mpr c2)]
    exact no (by omega)
  rw [if_neg (fun e => c2 (e2.mp e))]
  unfold g_L_isDone_b1124
  rw [if_neg (show ¬ (1 : Int32) = 0 by decide), lm_g hL.1 12 13]
  have e3 : (iv (s 8 13) ≤ (0 : Int32)) ↔ s 8 13 ≤ 0 := iv_le (b := 0) (by unfold IB; omega) (by decide)
  by_cases c3 : s 8 13 ≤ 0
  · rw [if_pos (e3.mpr c3)]
    obtain ⟨z', f', e, c, F⟩ := ask hC
    have o : oWalk s a = (2, 0, s) := by unfold oWalk; rw [if_pos (by omega), if_pos (by omega)]
    rw [o] at e c
    dsimp only at e c
    refine ⟨s, z', f', ?_, c, fm_ls F hL, hW⟩
    unfold g_L_isDone_b1146 g_L_isDone_b1147
    rw [show FU = 1999 + 1 from rfl, l1153_0]
    unfold g_L_isDone_b1432
    rw [e, bn3_some, if_neg (show ¬ (1 : Int32) = 0 by decide), if_pos rfl]
    exact lb1466_1 rfl
  · rw [if_neg (fun e => c3 (e3.mp e))]
    unfold g_L_isDone_b1147
    obtain ⟨A, rfl⟩ : ∃ A : Nat, a = (A : Int) := ⟨a.toNat, by omega⟩
    obtain ⟨f1, e4, l1, F1⟩ := la_walk (z := z) hn (a := A) (by omega) A FU 0 s f (by omega) (by show A < 2000; omega) hW hL (by omega)
    obtain ⟨z', f', e, c, F⟩ := ask (fl_cs F1 hC)
    have wg := wf_walk hn hW A
    have o : oWalk s A = (0, ((wkN A 0 s).1 : Int), (wkN A 0 s).2) := by unfold oWalk; rw [if_pos (by omega), if_neg (by omega), Int.toNat_natCast]
    rw [o] at e c wg
    dsimp only at e c wg
    refine ⟨_, z', f', ?_, c, fm_ls F l1, wg⟩
    refine Eq.trans e4 ?_
    unfold g_L_isDone_b1432
    rw [e, bn3_some, if_neg (show ¬ (1 : Int32) = 0 by decide), if_neg (show ¬ (1 : Int32) = 0 by decide)]
    exact lb1466_1 dv_0
end
