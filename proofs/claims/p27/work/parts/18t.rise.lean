/-! done: getting up -/
section
variable {s : MSt} {z f : Nat → Nat → Int32}
theorem la_294 (hk : KO s) : ∀ (m fu k : Nat) (f : Nat → Nat → Int32), k + m = (s 8 0).toNat → m + 1 < fu → LM s f → okH s k → (∀ i, i < k → f 70 i = iv (hxS s i) ∧ f 71 i = iv (hyS s i)) → ∃ (f' : Nat → Nat → Int32) (c : Bool), g_L_isDone_l294 fu 1 (iv k) z f = g_L_isDone_b472 (if c then 1 else 0) z f' ∧ (c = true ↔ okH s (s 8 0).toNat) ∧ (c = true → ∀ i, i < (s 8 0).toNat → f' 70 i = iv (hxS s i) ∧ f' 71 i = iv (hyS s i)) ∧ ∀ b, b ≠ 70 → b ≠ 71 → f' b = f b := by
  have h8 := ko_8 hk
  have hB := ko_bd hk
  intro m
  induction m with
  | zero =>
    intro fu k f hkm hf hL hok hi
    obtain ⟨fu, rfl⟩ : ∃ x, fu = x + 1 := ⟨fu - 1, by omega⟩
    have ek : k = (s 8 0).toNat := by omega
    subst ek
    refine ⟨f, true, ?_, ⟨fun _ => hok, fun _ => rfl⟩, fun _ => hi, fun _ _ _ => rfl⟩
    rw [g_L_isDone_l294, lm_g hL 7 0, if_pos ((iv_le (by unfold IB; omega) (ibn (by omega))).mpr (by omega)), if_pos rfl]
  | succ m ih =>
    intro fu k f hkm hf hL hok hi
    obtain ⟨fu, rfl⟩ : ∃ x, fu = x + 1 + 1 := ⟨fu - 2, by omega⟩
    have k6 : k < 6 := by omega
    have hl : (k : Int) < s 8 0 := by omega
    have hb := hip_bd hB k6
    rw [g_L_isDone_l294, lm_g hL 7 0, if_neg (fun e => by have := (iv_le (by unfold IB; omega) (ibn (by omega))).mp e; omega), if_neg (show ¬ (1 : Int32) = 0 by decide), la_hipX hB hL k6 hl, Option.bind_some, ix_iv k6 (by decide), Option.bind_some, lt2_e]
    have L1 : LM s (upf f 70 k (iv (hxS s k))) := lm_cg hL (fun b h0 _ => upf_ne h0)
    rw [la_hipY hB L1 k6 hl, Option.bind_some, Option.bind_some, lt2_e, Option.bind_some, Option.bind_some]
    have nf : ∀ b, b ≠ 70 → b ≠ 71 → upf (upf f 70 k (iv (hxS s k))) 71 k (iv (hyS s k)) b = f b := fun b h0 h1 => by rw [upf_ne h1, upf_ne h0]
    have L2 := lm_cg hL nf
    have r70 : ∀ i, upf (upf f 70 k (iv (hxS s k))) 71 k (iv (hyS s k)) 70 i = if i = k then iv (hxS s k) else f 70 i := fun i => by rw [upf_ne (show (70 : Nat) ≠ 71 by decide), upf_g]
    have r71 : ∀ i, upf (upf f 70 k (iv (hxS s k))) 71 k (iv (hyS s k)) 71 i = if i = k then iv (hyS s k) else f 71 i := fun i => by rw [upf_g, upf_ne (show (71 : Nat) ≠ 70 by decide)]
    generalize hF : upf (upf f 70 k (iv (hxS s k))) 71 k (iv (hyS s k)) = F at *
    rw [r70, if_pos rfl, r71, if_pos rfl, la_in (ib_s (by omega)) (ib_s (by omega)), Option.bind_some]
    have hhip : ((0 ≤ hxS s k ∧ hxS s k < 20) ∧ 0 ≤ hyS s k ∧ hyS s k < 20) ↔ hipS s k ≠ -1 := by
      rcases paS_cs (hxS s k) (hyS s k) with ⟨q1, q2⟩ | ⟨q1, -, q2⟩
      · exact ⟨fun q => absurd q q2, fun q => absurd q1 q⟩
      · refine ⟨fun _ => ?_, fun _ => q2⟩
        show paS (hxS s k) (hyS s k) ≠ -1
        unfold nB at q1
        omega
    have fin : ∀ b0 : Bool, (b0 = true ↔ hipS s k ≠ -1) → ∃ (f' : Nat → Nat → Int32) (c : Bool), g_L_isDone_l355 (fun y0 y1 z f => g_L_isDone_l294 (fu + 1) y0 y1 z f) FU (if b0 then 1 else 0) (iv k) 0 z F = g_L_isDone_b472 (if c then 1 else 0) z f' ∧ (c = true ↔ okH s (s 8 0).toNat) ∧ (c = true → ∀ i, i < (s 8 0).toNat → f' 70 i = iv (hxS s i) ∧ f' 71 i = iv (hyS s i)) ∧ ∀ b, b ≠ 70 → b ≠ 71 → f' b = f b := fun b0 hb0 => by
      obtain ⟨c, e, ic⟩ := la_355 (k294 := fun y0 y1 z f => g_L_isDone_l294 (fu + 1) y0 y1 z f) (z := z) hk L2 k6 k FU 0 b0 (by omega) (by show k < 2000; omega) (fun hbt i hik => by
        rcases Nat.lt_or_eq_of_le hik with q | q
        · rw [r70, if_neg (by omega), r71, if_neg (by omega)]
          exact ⟨(hok i q).1, (hi i q).1, (hi i q).2⟩
        · subst q
          rw [r70, if_pos rfl, r71, if_pos rfl]
          exact ⟨hb0.mp hbt, rfl, rfl⟩)
      refine Exists.elim ?_ (fun f' h => ⟨f', h⟩)
      cases c with
      | true =>
        obtain ⟨q1, q2⟩ := ic.mp rfl
        obtain ⟨f', c', e', i', v', n'⟩ := ih (fu + 1) (k + 1) F (by omega) (by omega) L2 (fun i hik => by
          rcases Nat.lt_or_eq_of_le (Nat.le_of_lt_succ hik) with q | q
          · exact hok i q
          · subst q
            exact ⟨hb0.mp q1, fun j hj => q2 j (Nat.zero_le _) hj⟩) (fun i hik => by
          rcases Nat.lt_or_eq_of_le (Nat.le_of_lt_succ hik) with q | q
          · rw [r70, if_neg (by omega), r71, if_neg (by omega)]
            exact hi i q
          · subst q
            rw [r70, if_pos rfl, r71, if_pos rfl]
            exact ⟨rfl, rfl⟩)
        exact ⟨f', c', e.trans e', i', v', fun b h0 h1 => (n' b h0 h1).trans (nf b h0 h1)⟩
      | false =>
        refine ⟨F, false, e.trans ?_, ⟨fun q => absurd q (by decide), fun q => ?_⟩, fun q => absurd q (by decide), nf⟩
        · show g_L_isDone_l294 (fu + 1) (if false = true then 1 else 0) _ z F = _
          rw [g_L_isDone_l294]
          split
          · rfl
          · rw [if_pos (show (if false = true then (1 : Int32) else 0) = 0 from rfl)]
        · obtain ⟨q1, q2⟩ := q k (by omega)
          exact absurd (ic.mpr ⟨hb0.mpr q1, fun i _ hik => q2 i hik⟩) (by decide)
    by_cases c : (0 ≤ hxS s k ∧ hxS s k < 20) ∧ 0 ≤ hyS s k ∧ hyS s k < 20
    · rw [if_pos c]
      exact fin true ⟨fun _ => hhip.mp c, fun _ => rfl⟩
    · rw [if_neg c]
      exact fin false ⟨fun q => absurd q (by decide), fun q => absurd (hhip.mpr q) c⟩
theorem mk_pre : ∀ L : Nat, L < 7 → ((1 : Int32) <<< (iv L &&& 31)) - 1 = mk (fun k => decide (k < L)) := by decide +kernel
theorem lw_gu (h : LW s f) : LX (guS s) (upf (upf (upf (upf (upf f 74 14 0) 74 3 (iv (s 8 7 - 20))) 74 0 1) 74 9 0) 74 10 0) := by
  have g : ∀ {A B C D E : Int32} k, upf (upf (upf (upf (upf f 74 14 A) 74 3 B) 74 0 C) 74 9 D) 74 10 E 74 k = if k = 10 then E else if k = 9 then D else if k = 0 then C else if k = 3 then B else if k = 14 then A else f 74 k := fun {A B C D E} k => by rw [upf_g, upf_g, upf_g, upf_g, upf_g]
  have o8 : ∀ j, j ≠ 7 → j ≠ 6 → j ≠ 8 → j ≠ 9 → j ≠ 10 → j ≠ 11 → guS s 8 j = s 8 j := fun j h1 h2 h3 h4 h5 h6 => by
    unfold guS
    rw [us_nk h6, us_nk h5, us_nk h4, us_nk h3, us_nk h2, us_nk h1]
  have e7 : guS s 8 7 = s 8 7 - 20 := by unfold guS; rw [us_nk (by decide), us_nk (by decide), us_nk (by decide), us_nk (by decide), us_nk (by decide), us_at]
  have e6 : guS s 8 6 = 1 := by unfold guS; rw [us_nk (by decide), us_nk (by decide), us_nk (by decide), us_nk (by decide), us_at]
  have e8 : guS s 8 8 = 0 := by unfold guS; rw [us_nk (by decide), us_nk (by decide), us_nk (by decide), us_at]
  have e9 : guS s 8 9 = 0 := by unfold guS; rw [us_nk (by decide), us_nk (by decide), us_at]
  have e11 : guS s 8 11 = 0 := by unfold guS; rw [us_at]
  refine ⟨lw_sc h (fun a ha => ?_) (fun a _ ha => by rw [upf_ne ha, upf_ne ha, upf_ne ha, upf_ne ha, upf_ne ha]) (o8 0 (by decide) (by decide) (by decide) (by decide) (by decide) (by decide)) (o8 12 (by decide) (by decide) (by decide) (by decide) (by decide) (by decide)) (o8 13 (by decide) (by decide) (by decide) (by decide) (by decide) (by decide)) (fun q hq => ?_) ?_ (fun q => absurd e9 q), ?_⟩
  · funext k
    unfold guS
    rw [us_na ha, us_na ha, us_na ha, us_na ha, us_na ha, us_na ha]
  · rw [g]
    have i0 := scalL_inj q hq (0, 6) (by decide)
    have i3 := scalL_inj q hq (3, 7) (by decide)
    have i9 := scalL_inj q hq (9, 8) (by decide)
    rw [if_neg i0.2.2.2.1]
    by_cases c9 : q.1 = 9
    · rw [if_pos c9, i9.1 c9, e8]; rfl
    rw [if_neg c9]
    by_cases c0 : q.1 = 0
    · rw [if_pos c0, i0.1 c0, e6]; rfl
    rw [if_neg c0]
    by_cases c3 : q.1 = 3
    · rw [if_pos c3, i3.1 c3, e7]
    rw [if_neg c3, if_neg i0.2.2.2.2.1, h.1.2.2 q hq, o8 q.2 (fun e => c3 (i3.2.1 e)) (fun e => c0 (i0.2.1 e)) (fun e => c9 (i9.2.1 e)) i0.2.2.2.2.2.1 i0.2.2.2.2.2.2.1 i0.2.2.2.2.2.2.2]
  · rw [g, if_neg (by decide), if_neg (by decide), if_neg (by decide), if_neg (by decide), if_neg (by decide)]
  · rw [g, if_neg (by decide), if_neg (by decide), if_neg (by decide), if_neg (by decide), if_pos rfl, e11]; rfl
theorem set_7 {k : Nat} {p : Int} (hup : s 7 k = -1) (ct : tkS (s 7) p (-1) = false) (hp : nB p) {j : Nat} (hj : j ≠ k) : setS s k p 7 j = s 7 j := by
  rcases set_cs hup ct hp with e | ⟨w, hw, u, hu, e⟩
  · rw [e, us_nk hj]; exact us_na (by decide)
  · have hu7 : u 7 j = s 7 j := by
      rcases hu with rfl | ⟨q, rfl⟩
      · exact us_na (by decide)
      · exact (us_na (by decide)).trans (us_na (by decide))
    rcases e with e | ⟨q, -, -, e⟩
    · rw [e, tellS_map (by decide), hu7]
    · rw [e, us_nk hj, tellS_map (by decide), hu7]
theorem la_545 {L : Nat} (hL6 : L ≤ 6) : ∀ (m fu k : Nat) (t : MSt) (f : Nat → Nat → Int32), k + m = L → m < fu → LX t f → KO t → t 8 0 = L → (∀ i, i < L → hipS t i ≠ -1) → (∀ j, k ≤ j → j < 6 → t 7 j = -1) → ∃ f', g_L_isDone_l545 fu 1 (iv k) z f = (bn2 (g_L_settles z f') fun z2 u3 => g_L_isDone_b640 1 z2 u3) ∧ LX (rsN m k t) f' ∧ Fl f f' := by
  intro m
  induction m with
  | zero =>
    intro fu k t f hkm hf hX hk h0 hh hu
    obtain ⟨fu, rfl⟩ : ∃ x, fu = x + 1 := ⟨fu - 1, by omega⟩
    refine ⟨f, ?_, hX, fl_rf⟩
    rw [g_L_isDone_l545, lm_g hX.1.1 7 0, if_pos ((iv_le (by unfold IB; omega) (ibn (by omega))).mpr (by omega))]
  | succ m ih =>
    intro fu k t f hkm hf hX hk h0 hh hu
    obtain ⟨fu, rfl⟩ : ∃ x, fu = x + 1 := ⟨fu - 1, by omega⟩
    have hB := ko_bd hk
    have k6 : k < 6 := by omega
    have hl : (k : Int) < t 8 0 := by omega
    obtain ⟨hp, p1, p2⟩ := hip_pt (hh k (by omega))
    have tk := la_taken (z := z) hB hX.1.2.2.1 hp
    rw [p1, p2] at tk
    rw [g_L_isDone_l545, lm_g hX.1.1 7 0, if_neg (fun e => by have := (iv_le (by unfold IB; omega) (ibn (by omega))).mp e; omega), la_hipX hB hX.1.1 k6 hl, Option.bind_some, la_hipY hB hX.1.1 k6 hl, Option.bind_some, hX.1.2.1, tk, Option.bind_some]
    by_cases c : tkS (t 7) (hipS t k) (-1) = true
    · rw [if_pos c, if_neg (show ¬ (1 : Int32) = 0 by decide)]
      unfold g_L_isDone_b621
      obtain ⟨f', e, x', F'⟩ := ih fu (k + 1) t f (by omega) (by omega) hX hk h0 hh (fun j h1 h2 => hu j (by omega) h2)
      refine ⟨f', ?_, ?_, F'⟩
      · rw [iv_1]; exact e
      · unfold rsN
        rw [if_pos (Or.inr c)]
        exact x'
    · rw [if_neg c, if_pos rfl]
      have ct : tkS (t 7) (hipS t k) (-1) = false := Bool.eq_false_iff.mpr c
      obtain ⟨f1, e1, x1, F1⟩ := la_comes (z := z) hX hk k6 hl (hu k (Nat.le_refl _) k6) hp
      rw [p1, p2] at e1
      rw [Option.bind_some, Option.bind_some, e1, bn2_some]
      unfold g_L_isDone_b621
      have so : ∀ a j, a ≠ 3 → a ≠ 7 → (a = 8 → j ≠ 8 ∧ j ≠ 9 ∧ j ≠ 10 ∧ j ≠ 11) → setS t k (hipS t k) a j = t a j := fun a j a1 a2 a3 => setS_o ⟨a1, a2, a3⟩
      have hs : ∀ i, hipS (setS t k (hipS t k)) i = hipS t i := fun i => by
        have so' := so
        clear x1 e1 so
        generalize hipS t k = P at so' ⊢
        unfold hipS hxS hyS
        rw [so' 8 4 (by decide) (by decide) (by decide), so' 8 5 (by decide) (by decide) (by decide), so' 4 i (by decide) (by decide) (fun e => absurd e (by decide)), so' 5 i (by decide) (by decide) (fun e => absurd e (by decide))]
      obtain ⟨f', e, x', F'⟩ := ih fu (k + 1) (setS t k (hipS t k)) f1 (by omega) (by omega) x1 (ko_set hk hp) ((so 8 0 (by decide) (by decide) (by decide)).trans h0) (fun i hi => by rw [hs]; exact hh i hi) (fun j h1 h2 => by
        rw [set_7 (hu k (Nat.le_refl _) k6) ct hp (by omega)]
        exact hu j (by omega) h2)
      refine ⟨f', ?_, ?_, fl_tr F1 F'⟩
      · rw [iv_1]; exact e
      · unfold rsN
        rw [if_neg (fun q => q.elim (hh k (by omega)) c)]
        exact x'
end
