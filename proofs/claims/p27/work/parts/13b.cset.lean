/-! cells that the state does not speak of -/
def CJ (z f z' f' : Nat → Nat → Int32) : Prop := (∀ q ∈ arrsC, f' q.1 = f q.1) ∧ (∀ q ∈ scalC, z' q.1 q.2.1 = z q.1 q.2.1) ∧ Fm z f z' f'
section
variable {s : MSt} {z f z' f' : Nat → Nat → Int32}
theorem cj_rf : CJ z f z f := ⟨fun _ _ => rfl, fun _ _ => rfl, fm_rf⟩
theorem cj_tr {z1 f1 : Nat → Nat → Int32} (h : CJ z f z1 f1) (h2 : CJ z1 f1 z' f') : CJ z f z' f' := ⟨fun q hq => (h2.1 q hq).trans (h.1 q hq), fun q hq => (h2.2.1 q hq).trans (h.2.1 q hq), fm_tr h.2.2 h2.2.2⟩
theorem cj_hj (h : HJ z f z' f') : CJ z f z' f' := by
  have n1 : ∀ q ∈ arrsC, q.1 ≠ 3 ∧ q.1 ≠ 5 := by decide +kernel
  have n2 : ∀ q ∈ scalC, ¬ (q.1 = 1 ∧ q.2.1 = 2) := by decide +kernel
  exact ⟨fun q hq => h.2 _ (n1 q hq).1 (n1 q hq).2, fun q hq => h.1 _ _ (n2 q hq), hj_fm h⟩
theorem cj_cs (h : CJ z f z' f') (hc : CS s z f) : CS s z' f' := ⟨fun q hq k hk => by rw [h.1 q hq]; exact hc.1 q hq k hk, fun q hq => by rw [h.2.1 q hq]; exact hc.2 q hq⟩
theorem cz (h : CS s z f) (c k j : Nat) (hq : (c, k, j) ∈ scalC := by decide) : z c k = iv (s 8 j) := h.2 _ hq
theorem ca (h : CS s z f) (b a n : Nat) (hq : (b, a, n) ∈ arrsC := by decide) : ∀ k, k < n → f b k = iv (s a k) := h.1 _ hq
theorem cj_z {c k : Nat} {v : Int32} (hn : ∀ q ∈ scalC, ¬ (q.1 = c ∧ q.2.1 = k)) (h : c < 66) : CJ z f (up2 z c k v) f := ⟨fun _ _ => rfl, fun q hq => if_neg (hn q hq), fm_z h⟩
theorem cj_f {b : Nat} {g : Nat → Int32} (hn : ∀ q ∈ arrsC, ¬ q.1 = b) (h : b < 66) : CJ z f z (upa f b g) := ⟨fun q hq => upa_ne (hn q hq), fun _ _ => rfl, fm_f h⟩
theorem lf_ur {g : Nat → Int} (h : LF s z f) : LF (ur s 7 g) z f := h
theorem lf_us {k : Nat} {v : Int} (h : LF s z f) : LF (us s 7 k v) z f := h
/-! slipping, and setting a foot -/
def nbS (p : Int) (i : Nat) : Int := match i with
  | 0 => paS (pt p).1 ((pt p).2 - 1)
  | 1 => paS ((pt p).1 - 1) (pt p).2
  | 2 => paS ((pt p).1 + 1) (pt p).2
  | _ => paS (pt p).1 ((pt p).2 + 1)
theorem nbS_cs (p : Int) (i : Nat) : nbS p i = -1 ∨ nB (nbS p i) := by
  unfold nbS
  split <;> exact (paS_cs _ _).imp (fun h => h.1) (fun h => h.1)
def slN (s : MSt) (p : Int) : Nat → Nat → Int → Int → Int
  | 0, _, _, r => r
  | n + 1, i, l, r => if nbS p i = -1 ∨ l ≤ s 0 (nbS p i).toNat then slN s p n (i + 1) l r else slN s p n (i + 1) (s 0 (nbS p i).toNat) (nbS p i)
def slS (s : MSt) (p : Int) : Int := slN s p 4 0 (s 0 p.toNat - s 2 p.toNat) (-1)
theorem slN_cs {p : Int} : ∀ n i l r, (r = -1 ∨ nB r) → slN s p n i l r = -1 ∨ nB (slN s p n i l r)
  | 0, _, _, _, h => h
  | n + 1, i, l, r, h => by
    unfold slN
    by_cases c : nbS p i = -1 ∨ l ≤ s 0 (nbS p i).toNat
    · rw [if_pos c]; exact slN_cs n _ _ _ h
    · rw [if_neg c]; exact slN_cs n _ _ _ (nbS_cs p i)
theorem slS_cs {p : Int} : slS s p = -1 ∨ nB (slS s p) := slN_cs _ _ _ _ (Or.inl rfl)
def setS (s : MSt) (k : Nat) (p : Int) : MSt :=
  if 2 ≤ (s 0 p.toNat - s 3 p.toNat).natAbs then tellS (learnS s p) 1 p
  else if slS (learnS s p) p = -1 then us (learnS s p) 7 k p
  else if inR (tellS (learnS (learnS s p) (slS (learnS s p) p)) 3 p) k (slS (learnS s p) p) = true ∧ tkS (tellS (learnS (learnS s p) (slS (learnS s p) p)) 3 p 7) (slS (learnS s p) p) k = false then us (tellS (learnS (learnS s p) (slS (learnS s p) p)) 3 p) 7 k (slS (learnS s p) p)
  else tellS (learnS (learnS s p) (slS (learnS s p) p)) 3 p
theorem ko_set (h : KO s) {k : Nat} {p : Int} (hp : nB p) : KO (setS s k p) := by
  have pb : -1 ≤ p ∧ p ≤ 399 := by unfold nB at hp; omega
  have k1 : KO (learnS s p) := ko_learn h
  have k2 : KO (tellS (learnS (learnS s p) (slS (learnS s p) p)) 3 p) := ko_tell (ko_learn k1) (by decide) pb
  unfold setS
  split
  · exact ko_tell k1 (by decide) pb
  · split
    · exact ko_us k1 (a := 7) pb
    · split
      · have : -1 ≤ slS (learnS s p) p ∧ slS (learnS s p) p ≤ 399 := by
          have := slS_cs (s := learnS s p) (p := p)
          unfold nB at this; omega
        exact ko_us k2 (a := 7) this
      · exact k2
theorem setS_o {k : Nat} {p : Int} {a j : Nat} (h : a ≠ 3 ∧ a ≠ 7 ∧ (a = 8 → j ≠ 8 ∧ j ≠ 9 ∧ j ≠ 10 ∧ j ≠ 11)) : setS s k p a j = s a j := by
  have t1 : ∀ {s : MSt} {w q : Int}, tellS s w q a j = s a j := fun {s w q} => by
    by_cases e : a = 8
    · subst e; exact tellS_o (h.2.2 rfl)
    · exact tellS_map e
  have l1 : ∀ {s : MSt} {q : Int}, learnS s q a j = s a j := us_na h.1
  unfold setS
  split
  · rw [t1, l1]
  · split
    · rw [us_na h.2.1, l1]
    · split
      · rw [us_na h.2.1, t1, l1, l1]
      · rw [t1, l1, l1]
theorem cd_nb {p : Int} (hp : nB p) : ∀ i, i < 4 → g_X5_neighbour (iv p) (iv (i : Nat)) z f = some (iv (nbS p i)) := by
  have pb := pt_bd hp
  intro i hi
  unfold g_X5_neighbour g_X10_xOf g_X10_yOf nbS
  rw [Option.bind_some, Option.bind_some, iv_x hp, iv_y hp, show (1 : Int32) = iv 1 from rfl, iv_sub, iv_sub, iv_add, iv_add, cp_pt (by omega) (by omega), cp_pt (by omega) (by omega), cp_pt (by omega) (by omega), cp_pt (by omega) (by omega)]
  match i, hi with
  | 0, _ => rfl
  | 1, _ => rfl
  | 2, _ => rfl
  | 3, _ => rfl
theorem n4 {i : Nat} (h : i < 4) : ¬ (4 : Int32) ≤ iv i := fun e => by
  have : (4 : Int) ≤ i := (iv_le (a := 4) (by decide) (ibn (by omega))).mp e
  omega
theorem cd_slip (hB : BD s) (hL : LF s z f) {p : Int} (hp : nB p) : g_X5_slipFrom (iv p) z f = some (iv (slS s p)) := by
  have key : ∀ (n fu i : Nat) (l r : Int), i + n = 4 → n < fu → -100 ≤ l ∧ l ≤ 100 → g_X5_slipFrom_l23 fu (iv p) (iv l) (iv r) (iv i) z f = some (iv (slN s p n i l r)) := by
    intro n
    induction n with
    | zero =>
      intro fu i l r hi hf _
      obtain ⟨fu, rfl⟩ : ∃ x, fu = x + 1 := ⟨fu - 1, by omega⟩
      obtain rfl : i = 4 := by omega
      rw [g_X5_slipFrom_l23, if_pos (by decide)]
      rfl
    | succ n ih =>
      intro fu i l r hi hf hl
      obtain ⟨fu, rfl⟩ : ∃ x, fu = x + 1 := ⟨fu - 1, by omega⟩
      rw [g_X5_slipFrom_l23, if_neg (n4 (by omega)), cd_nb hp i (by omega), Option.bind_some]
      unfold g_X5_slipFrom_b69 slN
      rw [iv_1]
      rcases nbS_cs p i with c | c
      · rw [c, if_pos (by decide), if_pos (Or.inl rfl)]
        exact ih fu (i + 1) l r (by omega) (by omega) hl
      · have c1 : nbS p i ≠ -1 := by unfold nB at c; omega
        have hb := hB.1.1 (nbS p i).toNat (nB_nat c).2
        rw [if_neg (fun e => c1 ((m1_iv (by unfold nB at c; omega)).mp e)), rdP hL.1.1 c]
        by_cases d : l ≤ s 0 (nbS p i).toNat
        · rw [if_pos ((iv_le (by omega) (by omega)).mpr d), if_pos (Or.inr d)]
          exact ih fu (i + 1) l r (by omega) (by omega) hl
        · rw [if_neg (fun e => d ((iv_le (by omega) (by omega)).mp e)), if_neg (by rintro (q | q) <;> contradiction)]
          exact ih fu (i + 1) _ _ (by omega) (by omega) (by omega)
  unfold g_X5_slipFrom slS
  have b1 := hB.1.1 p.toNat (nB_nat hp).2
  have b2 := hB.1.2.2.1 p.toNat (nB_nat hp).2
  rw [rdP hL.1.1 hp, rdP hL.1.2.2.1 hp, iv_sub]
  have k0 := key 4 FU 0 (s 0 p.toNat - s 2 p.toNat) (-1) (by decide) (by decide) (by omega)
  rw [show iv (-1) = (-1 : Int32) from rfl, show iv ((0 : Nat) : Int) = (0 : Int32) from rfl] at k0
  exact k0
theorem cd_set (h : CS s z f) (hk : KO s) {k : Nat} (hk6 : k < 6) {p : Int} (hp : nB p) : ∃ z' f', g_X10_setFoot (iv k) (iv p) z f = some (z', f') ∧ CS (setS s k p) z' f' ∧ Fm z f z' f' := by
  have pb : -1 ≤ p ∧ p ≤ 399 := by unfold nB at hp; omega
  have b0 : 0 ≤ s 0 p.toNat ∧ s 0 p.toNat ≤ 9 := hk 0 p.toNat
  have b3 : 0 ≤ s 3 p.toNat ∧ s 3 p.toNat ≤ 9 := hk 3 p.toNat
  have k1 : KO (learnS s p) := ko_learn hk
  have hL := cs_lf h
  obtain ⟨f1, e1, c1, m1⟩ := cc_learn h hp
  unfold g_X10_setFoot setS
  rw [rdP hL.1.1 hp, rdP hL.1.2.2.2 hp, iv_sub, iv_abs (by omega), show (2 : Int32) = iv 2 from rfl]
  simp only [iv_lt (show IB ((s 0 p.toNat - s 3 p.toNat).natAbs : Int) by omega) (show IB 2 by decide)]
  unfold g_X10_setFoot_b35
  by_cases c : 2 ≤ (s 0 p.toNat - s 3 p.toNat).natAbs
  · rw [if_neg (by omega), if_pos c, e1, bn2_some, if_neg (by decide)]
    obtain ⟨z2, e2, c2, m2⟩ := cc_tell (what := 1) (p := p) c1 (by have := (ko_8 k1).2.2.2.1; omega) (by have := (ko_8 k1).2.2.2.2.2.2.1; omega)
    rw [show (1 : Int32) = iv 1 from rfl, e2, bn2_some]
    exact ⟨z2, f1, rfl, c2, fm_tr m1 m2⟩
  · rw [if_pos (by omega), if_neg c, e1, bn2_some, if_pos rfl, cd_slip (ko_bd k1) (cs_lf c1) hp, Option.bind_some]
    rcases slS_cs (s := learnS s p) (p := p) with d | d
    · rw [d, if_pos (show iv (-1) = (-1 : Int32) from rfl), if_pos rfl, wrR_iv hk6 (by decide)]
      exact ⟨z, _, rfl, cs_arr c1 (n := 6) (by decide), fm_tr m1 (fm_f (by decide))⟩
    · have d1 : slS (learnS s p) p ≠ -1 := by unfold nB at d; omega
      have ibq : IB (slS (learnS s p) p) := by unfold nB at d; omega
      obtain ⟨f3, e3, c3, m3⟩ := cc_learn c1 d
      have k3 : KO (learnS (learnS s p) (slS (learnS s p) p)) := ko_learn k1
      obtain ⟨z4, e4, c4, m4⟩ := cc_tell (what := 3) (p := p) c3 (by have := (ko_8 k3).2.2.2.1; omega) (by have := (ko_8 k3).2.2.2.2.2.2.1; omega)
      have k4 := ko_tell k3 (what := 3) (by decide) pb
      have M : Fm z f z4 f3 := fm_tr m1 (fm_tr m3 m4)
      rw [if_neg (fun e => d1 ((m1_iv ibq).mp e)), if_neg d1, e3, bn2_some, show (3 : Int32) = iv 3 from rfl, e4, bn2_some, cp_reach (ko_bd k4) (cs_lf c4) (cs_ps c4) hk6 d, Option.bind_some]
      by_cases g1 : inR (tellS (learnS (learnS s p) (slS (learnS s p) p)) 3 p) k (slS (learnS s p) p) = true
      · rw [if_pos g1, if_neg (by decide), cp_tk (ko_bd k4) (cs_ps c4) ibq (ibn (by omega)), Option.bind_some]
        by_cases g2 : tkS (tellS (learnS (learnS s p) (slS (learnS s p) p)) 3 p 7) (slS (learnS s p) p) k = true
        · rw [if_pos g2, if_neg (by decide), if_neg (by rintro ⟨-, q⟩; rw [g2] at q; cases q)]
          exact ⟨z4, f3, rfl, c4, M⟩
        · rw [if_neg g2, if_pos rfl, if_pos ⟨g1, by simpa using g2⟩, wrR_iv hk6 (by decide)]
          exact ⟨z4, _, rfl, cs_arr c4 (n := 6) (by decide), fm_tr M (fm_f (by decide))⟩
      · rw [if_neg g1, if_pos rfl, if_neg (fun q => g1 q.1)]
        exact ⟨z4, f3, rfl, c4, M⟩
end
