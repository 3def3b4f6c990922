/-! all that is done -/
section
variable {s : MSt} {z f : Nat → Nat → Int32}
theorem st_up (hu : ∀ k, k < 6 → s 7 k = -1) : ¬ stB s (-1) = true := fun h => by
  obtain ⟨i, j, k, h1, h2, h3, h4⟩ := sd_iff.mpr h
  exact h4.1 (hu i (by omega))
theorem la_done1 {n : Int} (hn : n + 1 < 1000000) (hC : CS s z f) (hL : LW s f) (hW : WF n s) : OK1 (n + 1) (if f 74 0 = 0 then if f 74 7 ≤ 0 then g_L_isDone_b288 z f else if f 74 3 ≤ 19 then g_L_isDone_b288 z f else g_L_isDone_b289 1 z f else g_L_isDone_b288 z f) := by
  have hk := hW.1.1
  have hB := ko_bd hk
  have h8 := ko_8 hk
  have ask : ∀ {f1} (_ : CS s z f1), ∃ z' f', g_L_does 6 0 0 0 0 0 z f1 = some (dvC [-1000000] (oRise s).1 (oRise s).2.1, z', f') ∧ CS (oRise s).2.2 z' f' ∧ Fm z f1 z' f' := fun {f1} c1 => by
    obtain ⟨z', f', e, c, F⟩ := cq_rise hn hW.1 c1
    refine ⟨z', f', ?_, c, F⟩
    rw [do_6]
    exact dq_w e wl_S oc_rise
  have no502 : ∀ {f1}, LW s f1 → Fl f f1 → ¬ riP s → OK1 (n + 1) (g_L_isDone_b502 z f1) := fun {f1} l1 F1 q => by
    unfold g_L_isDone_b502 g_L_isDone_b503
    rw [lt2_e, if_pos rfl]
    unfold g_L_isDone_b640
    obtain ⟨z', f', e, c, F⟩ := ask (fl_cs (fl_tr F1 (fl_u (b := 74) (j := 14) (v := 0) (by decide))) hC)
    have o : oRise s = (1, 0, s) := by unfold oRise; rw [if_neg q]
    rw [o] at e c
    dsimp only at e c
    refine ⟨s, z', f', ?_, c, fm_ls F (lwz_14 l1), wf_le hW (by omega)⟩
    rw [e, bn3_some, if_pos rfl]
    exact lb669_1 rfl
  have no : ¬ riP s → OK1 (n + 1) (g_L_isDone_b288 z f) := fun q => by
    unfold g_L_isDone_b288 g_L_isDone_b289
    rw [show FU = 1999 + 1 from rfl, g_L_isDone_l294]
    have h := no502 hL fl_rf q
    split
    · unfold g_L_isDone_b472
      rw [if_pos rfl]
      exact h
    · rw [if_pos rfl]
      unfold g_L_isDone_b472
      rw [if_pos rfl]
      exact h
  rw [lm_g hL.1 0 6, lm_g hL.1 7 0, lm_g hL.1 3 7]
  have e0 : (iv (s 8 6) = (0 : Int32)) ↔ s 8 6 = 0 := iv_eq (b := 0) (by unfold IB; omega) (by decide)
  have e1 : (iv (s 8 0) ≤ (0 : Int32)) ↔ s 8 0 ≤ 0 := iv_le (b := 0) (by unfold IB; omega) (by decide)
  have e2 : (iv (s 8 7) ≤ (19 : Int32)) ↔ s 8 7 ≤ 19 := iv_le (b := 19) (by unfold IB; omega) (by decide)
  by_cases c0 : s 8 6 = 0
  · rw [if_pos (e0.mpr c0)]
    have hu := hW.2.2.1 c0
    have hbk := hb_ok hk hu
    by_cases c1 : s 8 0 ≤ 0
    · rw [if_pos (e1.mpr c1)]
      refine no (fun q => ?_)
      have h := (hbk.mp q.2.2).2
      refine st_up (fun k hk6 => ?_) h
      show (if k < (s 8 0).toNat then hipS s k else s 7 k) = -1
      rw [if_neg (by omega)]
      exact hu k hk6
    rw [if_neg (fun e => c1 (e1.mp e))]
    by_cases c2 : s 8 7 ≤ 19
    · rw [if_pos (e2.mpr c2)]
      exact no (fun q => by have := q.2.1; omega)
    rw [if_neg (fun e => c2 (e2.mp e))]
    unfold g_L_isDone_b289
    obtain ⟨f1, c, e, ic, xy, nf⟩ := la_294 (z := z) hk (s 8 0).toNat FU 0 f (by omega) (by show _ < 2000; omega) hL.1 (fun k hk' => by omega) (fun i hi => by omega)
    refine Eq.mpr (congrArg (OK1 (n + 1)) e) ?_
    have lm1 := lm_cg hL.1 nf
    have F1 : Fl f f1 := fun a ha => nf a (by omega) (by omega)
    have l1 : LW s f1 := ⟨lm1, by rw [nf 74 (by decide) (by decide)]; exact hL.2.1, fun k hk6 hd => absurd (hu k hk6) hd, by
      obtain ⟨m1, m2, m3⟩ := hL.2.2.2
      exact ⟨fun q => by rw [nf 74 (by decide) (by decide)]; exact m1 q, fun k h1 h2 => by rw [nf 73 (by decide) (by decide)]; exact m2 k h1 h2, fun k h1 h2 => by rw [nf 72 (by decide) (by decide)]; exact m3 k h1 h2⟩⟩
    unfold g_L_isDone_b472
    cases c with
    | false =>
      rw [if_pos (show (if false = true then (1 : Int32) else 0) = 0 from rfl)]
      exact no502 l1 F1 (fun q => absurd (ic.mpr (hbk.mp q.2.2).1) (by decide))
    | true =>
      have ok := ic.mp rfl
      have hxy := xy rfl
      rw [if_neg (show ¬ (if true = true then (1 : Int32) else 0) = 0 by decide)]
      have t7 : ∀ k, tgS s 7 k = if k < (s 8 0).toNat then hipS s k else s 7 k := fun k => rfl
      have hm : ((1 : Int32) <<< (f1 74 7 &&& 31)) - 1 = mk (dnS (tgS s)) := by
        rw [lm_g lm1 7 0, show iv (s 8 0) = iv ((s 8 0).toNat : Nat) by rw [Int.toNat_of_nonneg (by omega)], mk_pre _ (by omega)]
        refine mk_cg fun k hk6 => ?_
        unfold dnS
        rw [t7]
        by_cases q : k < (s 8 0).toNat
        · rw [if_pos q, decide_eq_true q]
          exact (decide_eq_true (ok k q).1).symm
        · rw [if_neg q, hu k hk6, decide_eq_false q]
          rfl
      have Bt : BD (tgS s) := by
        refine ⟨hB.1, hB.2.1, hB.2.2.1, fun k hk6 => ?_⟩
        rw [t7]
        by_cases q : k < (s 8 0).toNat
        · rw [if_pos q]; exact Or.inr (hip_pt (ok k q).1).1
        · rw [if_neg q]; exact hB.2.2.2 k hk6
      have Ft : FX (tgS s) f1 := fun k hk6 hd => by
        rw [t7] at hd ⊢
        by_cases q : k < (s 8 0).toNat
        · rw [if_pos q]
          obtain ⟨-, p1, p2⟩ := hip_pt (ok k q).1
          rw [p1, p2]
          exact hxy k q
        · rw [if_neg q] at hd
          exact absurd (hu k hk6) hd
      rw [hm, la_holds Bt (lm_ur lm1) Ft, Option.bind_some]
      by_cases st : stB (tgS s) (-1) = true
      · rw [if_pos st, if_neg (show ¬ (1 : Int32) = 0 by decide)]
        have hr : riP s := ⟨c0, by omega, hbk.mpr ⟨ok, st⟩⟩
        unfold g_L_isDone_b503
        rw [lt2_e, if_neg (show ¬ (1 : Int32) = 0 by decide), lt2_e, lt2_e, lt2_e, lt2_e, show upf f1 74 14 0 74 3 - 20 = iv (s 8 7 - 20) by rw [upf_g, if_neg (by decide), lm_g lm1 3 7, show (20 : Int32) = iv 20 from rfl, iv_sub]]
        have x2 := lw_gu l1
        have kg := ko_gu hk hr.2.1
        have go : ∀ a j, a ≠ 8 → guS s a j = s a j := fun a j h => by
          unfold guS
          rw [us_na h, us_na h, us_na h, us_na h, us_na h, us_na h]
        have g8 : ∀ j, j ≠ 7 → j ≠ 6 → j ≠ 8 → j ≠ 9 → j ≠ 10 → j ≠ 11 → guS s 8 j = s 8 j := fun j h1 h2 h3 h4 h5 h6 => by
          unfold guS
          rw [us_nk h6, us_nk h5, us_nk h4, us_nk h3, us_nk h2, us_nk h1]
        obtain ⟨f2, e2, x3, F2⟩ := la_545 (z := z) (L := (s 8 0).toNat) (by omega) (s 8 0).toNat FU 0 (guS s) _ (by omega) (by show _ < 2000; omega) x2 kg (by rw [g8 0 (by decide) (by decide) (by decide) (by decide) (by decide) (by decide)]; omega) (fun i hi => by
          have : hipS (guS s) i = hipS s i := by
            unfold hipS hxS hyS
            rw [g8 4 (by decide) (by decide) (by decide) (by decide) (by decide) (by decide), g8 5 (by decide) (by decide) (by decide) (by decide) (by decide) (by decide), go 4 i (by decide), go 5 i (by decide)]
          rw [this]
          exact (ok i hi).1) (fun j _ hj => (go 7 j (by decide)).trans (hu j hj))
        obtain ⟨f3, e3, x4, F3⟩ := la_settles (z := z) (s := riS s) hn (wb_ri hW hr) x3
        refine Eq.mpr (congrArg (OK1 (n + 1)) e2) ?_
        rw [e3, bn2_some]
        have F123 := fl_tr F1 (fl_tr (fl_tr (fl_tr (fl_tr (fl_tr (fl_tr (fl_u (f := f1) (b := 74) (j := 14) (v := 0) (by decide)) (fl_u (b := 74) (j := 3) (v := iv (s 8 7 - 20)) (by decide))) (fl_u (b := 74) (j := 0) (v := 1) (by decide))) (fl_u (b := 74) (j := 9) (v := 0) (by decide))) (fl_u (b := 74) (j := 10) (v := 0) (by decide))) F2) F3)
        obtain ⟨z', f', e, c, F⟩ := ask (fl_cs F123 hC)
        have wg := wf_rise hn hW
        have o : oRise s = (0, (cnS (stlS (riS s) 7) : Int), stlS (riS s)) := by unfold oRise; rw [if_pos hr]
        rw [o] at e c wg
        dsimp only at e c wg
        have l5 := fm_ls F x4.1
        refine ⟨_, z', f', ?_, c, l5, wg⟩
        unfold g_L_isDone_b640
        rw [e, bn3_some, if_neg (show ¬ (1 : Int32) = 0 by decide), l5.2.1, la_many, Option.bind_some]
        exact lb669_1 dv_0
      · rw [if_neg st, if_pos rfl]
        exact no502 l1 F1 (fun q => st (hbk.mp q.2.2).2)
  · rw [if_neg (fun e => c0 (e0.mp e))]
    exact no (fun q => c0 q.1)
theorem ok1_le {n m : Int} (h : n ≤ m) {o : Option (Int32 × (Nat → Nat → Int32) × (Nat → Nat → Int32))} (hk : OK1 n o) : OK1 m o := by
  obtain ⟨s', z', f', e, c, l, w⟩ := hk
  exact ⟨s', z', f', e, c, l, wf_le w h⟩
theorem la_done {n : Int} (hn : n + 1 < 1000000) (hC : CS s z f) (hL : LW s f) (hW : WF n s) {one two : Int} (h1 : 0 ≤ one ∧ one < 60000) (h2 : 0 ≤ two ∧ two < 60000) (w : Int32) : OK1 (n + 1) (g_L_isDone w (iv one) (iv two) z f) := by
  have hk := hW.1.1
  have h8 := ko_8 hk
  have o1 : 0 ≤ one ∧ one < 100000 := by omega
  have o2 : 0 ≤ two ∧ two < 100000 := by omega
  have hn' : n < 1000000 := by omega
  have up : n ≤ n + 1 := by omega
  unfold g_L_isDone
  by_cases w0 : w = 0
  · rw [if_pos w0]
    refine ok1_le up ?_
    have k25 : ∀ {W : Int}, 0 ≤ W ∧ W ≤ 21 → OK1 n (g_L_isDone_b25 (iv two) (iv W) z f) := fun {W} hW' => by
      unfold g_L_isDone_b25
      rw [show jrem (iv two) 7 = iv (two % 7) from jw (d := 7) o2 (by decide), show jrem (iv two / 7) 7 = iv (two / 7 % 7) from jv (c := 7) (d := 7) o2 (by decide) (by decide), show iv (two % 7) - 3 = iv (two % 7 - 3) from iv_sub _ 3, show iv (two / 7 % 7) - 3 = iv (two / 7 % 7 - 3) from iv_sub _ 3]
      split
      · rw [show (6 : Int32) = iv 6 from rfl]
        exact la_done0 hn' hC hL hW hW' (by omega) (by decide)
      · exact la_done0 hn' hC hL hW hW' (by omega) (by omega)
    rw [show jrem (iv one) 21 = iv (one % 21) from jw (d := 21) o1 (by decide)]
    split
    · rw [show (21 : Int32) = iv 21 from rfl]
      exact k25 (by decide)
    · exact k25 (by omega)
  rw [if_neg w0]
  by_cases w1 : w = 1
  · rw [if_pos w1]
    exact la_done1 hn hC hL hW
  rw [if_neg w1]
  refine ok1_le up ?_
  have b1 : 0 ≤ one % (s 8 0 + 1) := Int.emod_nonneg _ (by omega)
  have b2 : one % (s 8 0 + 1) < s 8 0 + 1 := Int.emod_lt_of_pos _ (by omega)
  obtain ⟨k, ek⟩ : ∃ k : Nat, one % (s 8 0 + 1) = (k : Int) := ⟨(one % (s 8 0 + 1)).toNat, by omega⟩
  rw [lm_g hL.1 7 0, show iv (s 8 0) + 1 = iv (s 8 0 + 1) from iv_add _ 1, if_neg (show ¬ iv (s 8 0 + 1) = (0 : Int32) from fun e => by have := (iv_eq (b := 0) (by unfold IB; omega) (by decide)).mp e; omega), jw o1 (by omega), ek]
  have main : ∀ {i : Int32}, (i = 0 → ¬ (k : Int) < s 8 0) → (i ≠ 0 → (k : Int) < s 8 0) → OK1 n (g_L_isDone_b705 w (iv one) (iv two) (iv k) i z f) := fun {i} q0 q1 => by
    unfold g_L_isDone_b705
    by_cases w2 : w = 2
    · rw [if_pos w2]
      exact la_done2 hn' hC hL hW (by omega) q0 q1
    rw [if_neg w2]
    by_cases w3 : w = 3
    · rw [if_pos w3]
      exact la_done3 hn' hC hL hW (by omega) q0 q1 o2
    rw [if_neg w3]
    by_cases w4 : w = 4
    · rw [if_pos w4, show jrem (iv one) 3 = iv (one % 3) from jw (d := 3) o1 (by decide), show iv (one % 3) - 1 = iv (one % 3 - 1) from iv_sub _ 1]
      split
      · rw [show (2 : Int32) = iv 2 from rfl]
        exact la_done4 hn' hC hL hW (by decide) o2
      · exact la_done4 hn' hC hL hW (by omega) o2
    rw [if_neg w4, show jrem (iv two) 23 = iv (two % 23) from jw (d := 23) o2 (by decide)]
    exact la_done5 hn' hC hL hW (by omega)
  by_cases c : s 8 0 ≤ (k : Int)
  · rw [if_pos ((iv_le (by unfold IB; omega) (ibn (by omega))).mpr c)]
    exact main (fun _ => by omega) (fun e => absurd rfl e)
  · rw [if_neg (fun e => c ((iv_le (by unfold IB; omega) (ibn (by omega))).mp e))]
    exact main (fun e => absurd e (by decide)) (fun _ => by omega)
end
