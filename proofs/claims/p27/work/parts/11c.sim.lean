def wr (x : Int) : Int := (iv x).toInt
theorem wr_iv (x : Int) : iv (wr x) = iv x := iv_of _
theorem wr_IB (x : Int) : IB (wr x) := by
  have h1 := Int32.le_toInt (iv x)
  have h2 := Int32.toInt_lt (iv x)
  exact ⟨h1, h2⟩
theorem z_iv {a : Int} (h : IB a) : iv a = (0 : Int32) ↔ a = 0 := by
  show iv a = iv 0 ↔ _
  exact iv_eq h (by decide)
/-- damage is told -/
def tellS (s : MSt) (what p : Int) : MSt :=
  let s1 := if s 8 8 = 0 then us (us s 8 9 what) 8 10 p else s
  let s2 := if s1 8 11 = 0 then us s1 8 11 what else s1
  us s2 8 8 (wr (s2 8 8 + 1))
def learnS (s : MSt) (p : Int) : MSt := us s 3 p.toNat (s 0 p.toNat)
def sagS (s : MSt) (p : Int) : MSt := learnS (us s 0 p.toNat (max 0 (s 0 p.toNat - 1))) p
theorem nB_nat {p : Int} (h : nB p) : p = (p.toNat : Int) ∧ p.toNat < 400 := by unfold nB at h; omega
theorem wrP {f : Nat → Nat → Int32} {b : Nat} {v : Int32} {p : Int} (h : nB p) : wrR f b 400 (iv p) v = upf f b p.toNat v := by
  obtain ⟨e, h2⟩ := nB_nat h
  rw [e, wrR_iv h2 (by decide)]
  congr 1
theorem cc_learn {s : MSt} {z f : Nat → Nat → Int32} (h : CS s z f) {p : Int} (hp : nB p) : ∃ f', g_X5_learn (iv p) z f = some (z, f') ∧ CS (learnS s p) z f' ∧ Fm z f z f' := by
  unfold g_X5_learn lt2
  rw [rdP (h.1 (8, 0, 400) (by decide)) hp, wrP hp]
  exact ⟨_, rfl, cs_arr h (n := 400) (by decide), fm_f (by decide)⟩
theorem cc_sag {s : MSt} {z f : Nat → Nat → Int32} (h : CS s z f) {p : Int} (hp : nB p) (hb : 0 ≤ s 0 p.toNat ∧ s 0 p.toNat ≤ 9) : ∃ f', g_X5_sag (iv p) z f = some (z, f') ∧ CS (sagS s p) z f' ∧ Fm z f z f' := by
  unfold g_X5_sag lt2
  have e : jmax 0 (rdR 400 (f 8) (iv p) - 1) = iv (max 0 (s 0 p.toNat - 1)) := by
    rw [rdP (mp := s 0) (h.1 (8, 0, 400) (by decide)) hp, show (1 : Int32) = iv 1 from rfl, show (0 : Int32) = iv 0 from rfl, iv_sub, iv_max (by decide) (by unfold IB; omega)]
  rw [e, wrP hp]
  obtain ⟨f', e1, e2, e3⟩ := cc_learn (cs_arr h (b := 8) (a := 0) (n := 400) (k := p.toNat) (v := max 0 (s 0 p.toNat - 1)) (by decide)) hp
  dsimp only
  rw [e1, bn2_some]
  exact ⟨f', rfl, e2, fm_tr (fm_f (by decide)) e3⟩
theorem cc_tell {s : MSt} {z f : Nat → Nat → Int32} (h : CS s z f) (hb : IB (s 8 8)) (ho : IB (s 8 11)) {what p : Int} : ∃ z', g_X0_tell (iv what) (iv p) z f = some (z', f) ∧ CS (tellS s what p) z' f ∧ Fm z f z' f := by
  have h29 : ∀ {s : MSt} {z : Nat → Nat → Int32}, CS s z f → ∃ z', g_X0_tell_b29 z f = some (z', f) ∧ CS (us s 8 8 (wr (s 8 8 + 1))) z' f ∧ Fm z f z' f := by
    intro s z h
    unfold g_X0_tell_b29 lt2
    rw [h.2 (33, 0, 8) (by decide), show (1 : Int32) = iv 1 from rfl, iv_add, ← wr_iv]
    exact ⟨_, rfl, cs_sc h (by decide), fm_z (by decide)⟩
  have h17 : ∀ {s : MSt} {z : Nat → Nat → Int32}, CS s z f → IB (s 8 11) → ∃ z', g_X0_tell_b17 (iv what) z f = some (z', f) ∧ CS (us (if s 8 11 = 0 then us s 8 11 what else s) 8 8 (wr ((if s 8 11 = 0 then us s 8 11 what else s) 8 8 + 1))) z' f ∧ Fm z f z' f := by
    intro s z h hi
    unfold g_X0_tell_b17 lt2
    rw [h.2 (33, 3, 11) (by decide)]
    by_cases c : s 8 11 = 0
    · rw [if_pos ((z_iv hi).mpr c), if_pos c]
      obtain ⟨z', e1, e2, e3⟩ := h29 (cs_sc h (c := 33) (k := 3) (j := 11) (v := what) (by decide))
      exact ⟨z', e1, e2, fm_tr (fm_z (by decide)) e3⟩
    · rw [if_neg (fun e => c ((z_iv hi).mp e)), if_neg c]
      exact h29 h
  unfold g_X0_tell lt2 tellS
  rw [h.2 (33, 0, 8) (by decide)]
  by_cases c : s 8 8 = 0
  · rw [if_pos ((z_iv hb).mpr c)]
    simp only [if_pos c]
    obtain ⟨z', e1, e2, e3⟩ := h17 (cs_sc (cs_sc h (c := 33) (k := 1) (j := 9) (v := what) (by decide)) (c := 33) (k := 2) (j := 10) (v := p) (by decide)) (by rw [us_nk (by decide), us_nk (by decide)]; exact ho)
    exact ⟨z', e1, e2, fm_tr (fm_tr (fm_z (by decide)) (fm_z (by decide))) e3⟩
  · rw [if_neg (fun e => c ((z_iv hb).mp e))]
    simp only [if_neg c]
    exact h17 h ho
