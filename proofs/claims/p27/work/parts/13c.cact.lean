/-! the class: getting up, lifting, placing, shifting -/
section
variable {s : MSt} {z f : Nat → Nat → Int32}
def hipS (s : MSt) (k : Nat) : Int := paS (hxS s k) (hyS s k)
def upI (g : Nat → Int) (k : Nat) (v : Int) : Nat → Int := fun j => if j = k then v else g j
/-- whether the hips bear the machine: n more legs, from leg i on -/
def hbN (s : MSt) : Nat → Nat → Int → Int → (Nat → Int) → Bool
  | 0, _, l, h, ft => decide (h - l ≤ 2) && stB (ur s 7 ft) (-1)
  | n + 1, i, l, h, ft => if hipS s i = -1 ∨ tkS ft (hipS s i) (-1) = true then false else hbN s n (i + 1) (min l (s 3 (hipS s i).toNat)) (max h (s 3 (hipS s i).toNat)) (upI ft i (hipS s i))
def hbS (s : MSt) : Bool := hbN s (s 8 0).toNat 0 9 0 (s 7)
/-- the feet are set at the hips -/
def rsN : Nat → Nat → MSt → MSt
  | 0, _, s => s
  | n + 1, i, s => rsN n (i + 1) (if hipS s i = -1 ∨ tkS (s 7) (hipS s i) (-1) = true then s else setS s i (hipS s i))
def guS (s : MSt) : MSt := us (us (us (us (us (us s 8 7 (s 8 7 - 20)) 8 6 1) 8 8 0) 8 9 0) 8 10 (-1)) 8 11 0
abbrev riP (s : MSt) : Prop := s 8 6 = 0 ∧ 20 ≤ s 8 7 ∧ hbS s = true
def riS (s : MSt) : MSt := rsN (s 8 0).toNat 0 (guS s)
theorem hipS_cs (k : Nat) : hipS s k = -1 ∨ nB (hipS s k) := (paS_cs _ _).imp (fun h => h.1) (fun h => h.1)
theorem ko_rs : ∀ n i {s : MSt}, KO s → KO (rsN n i s)
  | 0, _, _, h => h
  | n + 1, i, s, h => by
    unfold rsN
    by_cases c : hipS s i = -1 ∨ tkS (s 7) (hipS s i) (-1) = true
    · rw [if_pos c]; exact ko_rs n (i + 1) h
    · rw [if_neg c]; exact ko_rs n (i + 1) (ko_set h ((hipS_cs i).resolve_left fun e => c (Or.inl e)))
theorem ko_gu (h : KO s) (h7 : 20 ≤ s 8 7) : KO (guS s) := by
  have h8 := ko_8 h
  unfold guS
  exact ko_us (ko_us (ko_us (ko_us (ko_us (ko_us h (a := 8) (k := 7) (show (0 : Int) ≤ s 8 7 - 20 ∧ s 8 7 - 20 ≤ 1000 by omega)) (a := 8) (k := 6) (by decide)) (a := 8) (k := 8) (by decide)) (a := 8) (k := 9) (by decide)) (a := 8) (k := 10) (by decide)) (a := 8) (k := 11) (by decide)
theorem cp_hip (hB : BD s) (hL : LF s z f) {a0 : Nat} (hP : PS a0 s z f) {k : Nat} (hk : k < 6) {β : Type} {F : Int32 → Option β} : ((g_X9_hipX a0 (iv k) z f).bind fun x4 => (g_X9_hipY a0 (iv k) z f).bind fun x5 => (g_X10_pointAt x4 x5 z f).bind F) = F (iv (hipS s k)) := by
  have b := hB.2.2.1
  have bl := bd_leg hB hk
  unfold g_X9_hipX g_X9_hipY hipS hxS hyS
  rw [Option.bind_some, Option.bind_some, rdR_iv hk (by decide), rdR_iv hk (by decide), hP.1, hP.2.1, hL.2.1.1 k hk, hL.2.1.2.1 k hk, iv_add, iv_add, cp_pt (by omega) (by omega), Option.bind_some]
theorem cp_copy {a0 a1 : Nat} (h4 : a0 ≠ a1) (hP : PS a1 s z f) : ∃ z' f', g_X9_copy a0 a1 z f = some (z', f') ∧ PS a0 s z' f' ∧ z' = up2 (up2 z a0 4 (iv (s 8 4))) a0 5 (iv (s 8 5)) ∧ ∃ c, f' = upa f (a0 + 1 + 1) c := by
  unfold g_X9_copy lt2 cpR
  dsimp only
  rw [hP.1, show up2 z a0 4 (iv (s 8 4)) a1 5 = z a1 5 from if_neg (fun e => h4 e.1.symm), hP.2.1]
  refine ⟨_, _, rfl, ⟨?_, ?_, fun k hk => ?_⟩, rfl, _, rfl⟩
  · show up2 _ _ _ _ _ _ = _
    unfold up2
    rw [if_neg (fun e => absurd e.2 (by decide)), if_pos ⟨rfl, rfl⟩]
  · exact up2_same
  · rw [upa_same, if_pos hk]
    exact hP.2.2 k hk
theorem cj_copy25 {v w : Int32} {c : Nat → Int32} : CJ z f (up2 (up2 z 25 4 v) 25 5 w) (upa f 27 c) := cj_tr (cj_z (by decide +kernel) (by decide)) (cj_tr (cj_z (by decide +kernel) (by decide)) (cj_f (by decide +kernel) (by decide)))
theorem ko_ur7 (h : KO s) {g : Nat → Int} (hg : ∀ k, -1 ≤ g k ∧ g k ≤ 399) : KO (ur s 7 g) := ko_ur h hg
theorem upI_bd {g : Nat → Int} (hg : ∀ k, -1 ≤ g k ∧ g k ≤ 399) {i : Nat} {v : Int} (hv : -1 ≤ v ∧ v ≤ 399) : ∀ k, -1 ≤ upI g i v k ∧ upI g i v k ≤ 399 := fun k => by
  unfold upI
  split
  · exact hv
  · exact hg k
theorem cd_hips (hk : KO s) : ∀ (n fu i : Nat) (l h : Int) (ft : Nat → Int) (z f : Nat → Nat → Int32), i + n = (s 8 0).toNat → n < fu → (0 ≤ l ∧ l ≤ 9) → (0 ≤ h ∧ h ≤ 9) → (∀ k, -1 ≤ ft k ∧ ft k ≤ 399) → CS s z f → PS 25 (ur s 7 ft) z f → ∃ z' f', g_X10_hipsBear_l18 fu (iv l) (iv h) (iv i) z f = some (if hbN s n i l h ft then 1 else 0, z', f') ∧ CJ z f z' f' := by
  have h8 := ko_8 hk
  intro n
  induction n with
  | zero =>
    intro fu i l h ft z f hi hf hl hh hft hC hP
    obtain ⟨fu, rfl⟩ : ∃ x, fu = x + 1 := ⟨fu - 1, by omega⟩
    rw [g_X10_hipsBear_l18, cz hC 15 3 0, if_pos ((iv_le (by omega) (by omega)).mpr (by omega)), iv_sub]
    have e2 : ((2 : Int32) < iv (h - l)) ↔ 2 < h - l := iv_lt (a := 2) (by decide) (by omega)
    unfold hbN
    by_cases c : 2 < h - l
    · rw [if_pos (e2.mpr c), decide_eq_false (by omega)]
      exact ⟨z, f, rfl, cj_rf⟩
    · rw [if_neg (fun e => c (e2.mp e)), decide_eq_true (by omega), Bool.true_and]
      have hku := ko_ur7 hk hft
      obtain ⟨z1, f1, m, c', e, hj, -⟩ := cp_holds (a0 := 25) (Or.inr (Or.inl rfl)) (ko_bd hku) (lf_ur (cs_lf hC)) hP (but := -1) (by decide)
      rw [show (-1 : Int32) = iv (-1) from rfl, e, bn3_some]
      by_cases d : stB (ur s 7 ft) (-1) = true
      · rw [if_pos d, if_neg (by decide)]
        exact ⟨z1, f1, rfl, cj_hj hj⟩
      · rw [if_neg d, if_pos rfl]
        exact ⟨z1, f1, rfl, cj_hj hj⟩
  | succ n ih =>
    intro fu i l h ft z f hi hf hl hh hft hC hP
    obtain ⟨fu, rfl⟩ : ∃ x, fu = x + 1 := ⟨fu - 1, by omega⟩
    have hi6 : i < 6 := by omega
    have hku := ko_ur7 hk hft
    rw [g_X10_hipsBear_l18, cz hC 15 3 0, if_neg (fun e => by have := (iv_le (by omega) (by omega)).mp e; omega), cp_hip (ko_bd hk) (cs_lf hC) (cs_ps hC) hi6]
    unfold hbN
    rcases hipS_cs (s := s) i with c | c
    · rw [c, if_pos (show iv (-1) = (-1 : Int32) from rfl), if_pos (Or.inl rfl)]
      exact ⟨z, f, rfl, cj_rf⟩
    · have c1 : hipS s i ≠ -1 := by unfold nB at c; omega
      have ibq : IB (hipS s i) := by unfold nB at c; omega
      rw [if_neg (fun e => c1 ((m1_iv ibq).mp e)), show (-1 : Int32) = iv (-1) from rfl, cp_tk (ko_bd hku) hP ibq (by decide), Option.bind_some, show ur s 7 ft 7 = ft from ur_at]
      by_cases d : tkS ft (hipS s i) (-1) = true
      · rw [if_pos d, if_neg (by decide), if_pos (Or.inr d)]
        exact ⟨z, f, rfl, cj_rf⟩
      · have hb : 0 ≤ s 3 (hipS s i).toNat ∧ s 3 (hipS s i).toNat ≤ 9 := hk 3 _
        have hj : CJ z f z (upa f 27 (upd (f 27) i (iv (hipS s i)))) := cj_f (by decide +kernel) (by decide)
        have hC' := cj_cs hj hC
        have nn : ¬ (hipS s i = -1 ∨ tkS ft (hipS s i) (-1) = true) := by rintro (q | q) <;> contradiction
        rw [if_neg d, if_pos rfl, if_neg nn]
        unfold lt2
        dsimp only
        rw [wrR_iv hi6 (by decide), upf_up, rdP (mp := s 3) (cs_lf hC').1.2.2.2 c, iv_min (by omega) (by omega), iv_max (by omega) (by omega), iv_1]
        have bq : -1 ≤ hipS s i ∧ hipS s i ≤ 399 := by unfold nB at c; omega
        obtain ⟨z1, f1, e1, j1⟩ := ih fu (i + 1) (min l (s 3 (hipS s i).toNat)) (max h (s 3 (hipS s i).toNat)) (upI ft i (hipS s i)) z _ (by omega) (by omega) (by omega) (by omega) (upI_bd hft bq) hC' ⟨hP.1, hP.2.1, fun k hk => by
          show upa f 27 _ 27 k = iv (ur s 7 _ 7 k)
          rw [upa_same, ur_at]
          unfold upd upI
          by_cases e : k = i
          · rw [if_pos e, if_pos e]
          · rw [if_neg e, if_neg e]
            have := hP.2.2 k hk
            rw [ur_at] at this
            exact this⟩
        exact ⟨z1, f1, e1, cj_tr hj j1⟩
theorem cd_bear (hk : KO s) (hC : CS s z f) : ∃ z' f', g_X10_hipsBear z f = some (if hbS s then 1 else 0, z', f') ∧ CJ z f z' f' := by
  have h8 := ko_8 hk
  unfold g_X10_hipsBear
  obtain ⟨z1, f1, e1, p1, rfl, c, rfl⟩ := cp_copy (a0 := 25) (a1 := 22) (by decide) (cs_ps hC)
  rw [e1, bn2_some]
  have hj : CJ z f (up2 (up2 z 25 4 (iv (s 8 4))) 25 5 (iv (s 8 5))) (upa f 27 c) := cj_copy25
  obtain ⟨z2, f2, e2, j2⟩ := cd_hips hk (s 8 0).toNat FU 0 9 0 (s 7) _ _ (by omega) (by show _ < 2000; omega) (by decide) (by decide) (fun k => hk 7 k) (cj_cs hj hC) ⟨p1.1, p1.2.1, fun k hk => by
    rw [ur_at]; exact p1.2.2 k hk⟩
  exact ⟨z2, f2, e2, cj_tr hj j2⟩
theorem cd_gu50 : ∀ (n fu i : Nat) (s : MSt) (z f : Nat → Nat → Int32), i + n = (s 8 0).toNat → n < fu → CS s z f → KO s → ∃ z' f', g_X10_getUp_l50 fu (iv i) z f = some (1, z', f') ∧ CS (rsN n i s) z' f' ∧ Fm z f z' f' := by
  intro n
  induction n with
  | zero =>
    intro fu i s z f hi hf hC hk
    have h8 := ko_8 hk
    obtain ⟨fu, rfl⟩ : ∃ x, fu = x + 1 := ⟨fu - 1, by omega⟩
    rw [g_X10_getUp_l50, cz hC 15 3 0, if_pos ((iv_le (by omega) (by omega)).mpr (by omega))]
    exact ⟨z, f, rfl, hC, fm_rf⟩
  | succ n ih =>
    intro fu i s z f hi hf hC hk
    have h8 := ko_8 hk
    obtain ⟨fu, rfl⟩ : ∃ x, fu = x + 1 := ⟨fu - 1, by omega⟩
    have hi6 : i < 6 := by omega
    rw [g_X10_getUp_l50, cz hC 15 3 0, if_neg (fun e => by have := (iv_le (by omega) (by omega)).mp e; omega), cp_hip (ko_bd hk) (cs_lf hC) (cs_ps hC) hi6]
    unfold g_X10_getUp_b104 rsN
    rw [iv_1]
    rcases hipS_cs (s := s) i with c | c
    · rw [c, if_pos (show iv (-1) = (-1 : Int32) from rfl), if_pos (Or.inl rfl)]
      exact ih fu (i + 1) s z f (by omega) (by omega) hC hk
    · have c1 : hipS s i ≠ -1 := by unfold nB at c; omega
      have ibq : IB (hipS s i) := by unfold nB at c; omega
      rw [if_neg (fun e => c1 ((m1_iv ibq).mp e)), show (-1 : Int32) = iv (-1) from rfl, cp_tk (ko_bd hk) (cs_ps hC) ibq (by decide), Option.bind_some]
      by_cases d : tkS (s 7) (hipS s i) (-1) = true
      · rw [if_pos d, if_neg (by decide), if_pos (Or.inr d)]
        exact ih fu (i + 1) s z f (by omega) (by omega) hC hk
      · obtain ⟨z1, f1, e1, c1', m1⟩ := cd_set hC hk hi6 c
        obtain ⟨z2, f2, e2, c2, m2⟩ := ih fu (i + 1) _ z1 f1 (by rw [setS_o ⟨by decide, by decide, fun _ => by decide⟩]; omega) (by omega) c1' (ko_set hk c)
        rw [if_neg d, if_pos rfl, if_neg (by rintro (q | q) <;> contradiction), e1, bn2_some]
        exact ⟨z2, f2, e2, c2, fm_tr m1 m2⟩
theorem cd_getUp (hk : KO s) (hC : CS s z f) : ∃ z' f', g_X10_getUp z f = some (if riP s then 1 else 0, z', f') ∧ CS (if riP s then riS s else s) z' f' ∧ Fm z f z' f' := by
  have h8 := ko_8 hk
  unfold g_X10_getUp
  rw [cz hC 0 9 6, cz hC 0 10 7]
  have e20 : (iv (s 8 7) < (20 : Int32)) ↔ s 8 7 < 20 := iv_lt (b := 20) (by omega) (by decide)
  by_cases c : s 8 6 = 0
  · rw [if_pos ((z_iv (by omega)).mpr c)]
    by_cases d : s 8 7 < 20
    · rw [if_pos (e20.mpr d), if_neg (fun q : riP s => by have := q.2.1; omega), if_neg (fun q : riP s => by have := q.2.1; omega)]
      exact ⟨z, f, rfl, hC, fm_rf⟩
    · obtain ⟨z1, f1, e1, j1⟩ := cd_bear hk hC
      have hC1 := cj_cs j1 hC
      rw [if_neg (fun e => d (e20.mp e)), e1, bn3_some]
      by_cases g : hbS s = true
      · rw [if_pos g, if_neg (by decide), if_pos (⟨c, by omega, g⟩ : riP s), if_pos (⟨c, by omega, g⟩ : riP s)]
        unfold g_X0_forget lt2
        dsimp only
        rw [cz hC1 0 10 7, show (20 : Int32) = iv 20 from rfl, iv_sub]
        have g1 := cs_sc hC1 (c := 0) (k := 10) (j := 7) (v := s 8 7 - 20) (by decide)
        have g2 := cs_sc g1 (c := 0) (k := 9) (j := 6) (v := 1) (by decide)
        have g3 := cs_sc g2 (c := 33) (k := 0) (j := 8) (v := 0) (by decide)
        have g4 := cs_sc g3 (c := 33) (k := 1) (j := 9) (v := 0) (by decide)
        have g5 := cs_sc g4 (c := 33) (k := 2) (j := 10) (v := -1) (by decide)
        have g6 := cs_sc g5 (c := 33) (k := 3) (j := 11) (v := 0) (by decide)
        obtain ⟨z2, f2, e2, c2, m2⟩ := cd_gu50 (s 8 0).toNat FU 0 (guS s) _ f1 (by show 0 + _ = _; rw [Nat.zero_add]; rfl) (by show _ < 2000; omega) g6 (ko_gu hk (by omega))
        rw [bn2_some]
        exact ⟨z2, f2, e2, c2, fm_tr j1.2.2 (fm_tr (fm_z (by decide)) (fm_tr (fm_z (by decide)) (fm_tr (fm_z (by decide)) (fm_tr (fm_z (by decide)) (fm_tr (fm_z (by decide)) (fm_tr (fm_z (by decide)) m2))))))⟩
      · rw [if_neg g, if_pos rfl, if_neg (fun q : riP s => g q.2.2), if_neg (fun q : riP s => g q.2.2)]
        exact ⟨z1, f1, rfl, hC1, j1.2.2⟩
  · rw [if_neg (fun e => c ((z_iv (by omega)).mp e)), if_neg (fun q : riP s => c q.1), if_neg (fun q : riP s => c q.1)]
    exact ⟨z, f, rfl, hC, fm_rf⟩
end
