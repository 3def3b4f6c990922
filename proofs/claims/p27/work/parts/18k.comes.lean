section
variable {s : MSt} {z f : Nat → Nat → Int32}
theorem iv_mp {r : Int} (h : nB r) : jrem (iv r) 20 = iv (pt r).1 ∧ iv r / 20 = iv (pt r).2 := by
  have e := (nB_nat h).1
  have := iv_md (n := r.toNat) (nB_nat h).2
  rw [← e] at this
  exact this
/-- a foot is set -/
theorem la_comes (h : LX s f) (hk : KO s) {k : Nat} (hk6 : k < 6) (hl : (k : Int) < s 8 0) (hup : s 7 k = -1) {p : Int} (hp : nB p) : ∃ f', g_L_comes (iv k) (iv (pt p).1) (iv (pt p).2) z f = some (z, f') ∧ LX (setS s k p) f' ∧ Fl f f' := by
  have pb : -1 ≤ p ∧ p ≤ 399 := by unfold nB at hp; omega
  have b0 : 0 ≤ s 0 p.toNat ∧ s 0 p.toNat ≤ 9 := hk 0 p.toNat
  have b3 : 0 ≤ s 3 p.toNat ∧ s 3 p.toNat ≤ 9 := hk 3 p.toNat
  have hp' := (nB_nat hp).2
  have ep : (iv (p.toNat : Nat) : Int32) = iv p := by rw [← (nB_nat hp).1]
  have k1 : KO (learnS s p) := ko_learn hk
  obtain ⟨u3, e3, x1, l1⟩ := la_learn h hk hp
  unfold g_L_comes g_L_comes_b57
  rw [la_at hp, show (400 : Int32) + iv (p.toNat : Nat) = iv ((400 + p.toNat : Nat) : Int) by rw [show (400 : Int32) = iv 400 from rfl, iv_add]; rfl, la_four (by decide) (by omega), Option.bind_some, la_four (by decide) (by omega), Option.bind_some, h.1.1.1.1 _ hp', h.1.1.1.2.1 _ hp', e3, Option.bind_some, iv_sub]
  have e1 : ((1 : Int32) < iv (s 0 p.toNat - s 3 p.toNat)) ↔ 1 < s 0 p.toNat - s 3 p.toNat := iv_lt (a := 1) (by decide) (by unfold IB; omega)
  have e2 : (iv (-1) ≤ iv (s 0 p.toNat - s 3 p.toNat)) ↔ -1 ≤ s 0 p.toNat - s 3 p.toNat := iv_le (by decide) (by unfold IB; omega)
  rw [show iv (-1) = (-1 : Int32) from rfl] at e2
  have stum : 2 ≤ (s 0 p.toNat - s 3 p.toNat).natAbs → ∃ f', (bn2 (g_L_breaks 1 (iv (p.toNat : Nat)) z u3) fun z1 u2 => some (z1, u2)) = some (z, f') ∧ LX (setS s k p) f' ∧ Fl f f' := fun hs => by
    obtain ⟨f', e, m, c⟩ := la_breaks (z := z) x1 k1 (what := 1) (p := p)
    have es : setS s k p = tellS (learnS s p) 1 p := if_pos hs
    rw [es, ep, show (1 : Int32) = iv 1 from rfl, e, bn2_some]
    exact ⟨f', rfl, m, fl_tr l1 c⟩
  by_cases c : 1 < s 0 p.toNat - s 3 p.toNat
  · rw [if_pos (e1.mpr c)]
    exact stum (by omega)
  rw [if_neg (fun q => c (e1.mp q))]
  by_cases d0 : s 0 p.toNat - s 3 p.toNat < -1
  · rw [if_neg (fun q => by have := e2.mp q; omega)]
    exact stum (by omega)
  have d : -1 ≤ s 0 p.toNat - s 3 p.toNat := by omega
  rw [if_pos (e2.mpr d)]
  obtain ⟨r, hr, el⟩ := la_l72 (z := z) (k := k) k1 x1.1.1 hp 400 FU 0 (-1) (by decide) (by decide) (Or.inl ⟨rfl, fun q hq hl => by have := hq.1; unfold nB at this; omega⟩)
  have er : r = slS (learnS s p) p := sl_uniq hr (sl_S hp)
  rw [show learnS s p 0 p.toNat = s 0 p.toNat from us_na (by decide)] at el
  refine (fun {Q : Prop} (q : (∃ f', (if 0 ≤ iv r then g_L_comes_b192 (iv k) (iv p.toNat) (iv r) (iv r) z u3 else g_L_comes_b192 (iv k) (iv p.toNat) (iv r) (iv p.toNat) z u3) = some (z, f') ∧ LX (setS s k p) f' ∧ Fl f f') → Q) w => q w) (fun ⟨f', w1, w2⟩ => ⟨f', el.trans w1, w2⟩) ?_
  unfold setS
  rw [if_neg (show ¬ 2 ≤ (s 0 p.toNat - s 3 p.toNat).natAbs by omega), ← er]
  have put : ∀ {t : MSt} {u : Nat → Nat → Int32} {q : Int}, LX t u → nB q → ∃ f', g_L_comes_b278 (iv k) (iv q) 1 z u = some (z, f') ∧ LX (us t 7 k q) f' ∧ Fl u f' := fun {t u q} ht hq => by
    refine ⟨_, ?_, lx_put ht hk6 hq, fl_tr (fl_u (by decide)) (fl_tr (fl_u (by decide)) (fl_u (by decide)))⟩
    unfold g_L_comes_b278 lt2
    rw [if_neg (by decide)]
    simp only [ix_iv hk6 (show 6 < 1000 by decide), Option.bind_some, (iv_mp hq).1, (iv_mp hq).2]
    rw [upf_ne (show (74 : Nat) ≠ 71 by decide), upf_ne (show (74 : Nat) ≠ 70 by decide)]
  have rb : r = -1 ∨ nB r := hr.imp (fun h => h.1) (fun h => h.1.1)
  unfold g_L_comes_b192 g_L_comes_b223 g_L_comes_b273 g_L_comes_b277
  rcases rb with g | g
  · rw [g, if_neg (show ¬ (0 : Int32) ≤ iv (-1) by decide), if_pos (show iv (-1) < (0 : Int32) by decide), if_pos (show iv (-1) < (0 : Int32) by decide), if_pos rfl, ep]
    obtain ⟨f', w1, w2, w3⟩ := put x1 hp
    exact ⟨f', w1, w2, fl_tr l1 w3⟩
  · have rb : 0 ≤ r ∧ r < 400 := by unfold nB at g; omega
    have g1 : r ≠ -1 := by omega
    have n0 : ¬ iv r < (0 : Int32) := fun e => by have := (iv_lt (b := 0) (by unfold IB; omega) (by decide)).mp e; omega
    have er' : (iv (r.toNat : Nat) : Int32) = iv r := by rw [← (nB_nat g).1]
    obtain ⟨u4, e4, x2, l2⟩ := la_breaks (z := z) x1 k1 (what := 3) (p := p)
    have k2 : KO (tellS (learnS s p) 3 p) := ko_tell k1 (by decide) pb
    obtain ⟨u5, e5, x3, l3⟩ := la_learn x2 k2 g
    have k3 : KO (learnS (tellS (learnS s p) 3 p) r) := ko_learn k2
    rw [learn_tell] at x3 k3
    have o7 : ∀ j, tellS (learnS (learnS s p) r) 3 p 7 j = s 7 j := fun j => by
      rw [tellS_map (by decide)]
      exact (us_na (by decide)).trans (us_na (by decide))
    have o0 : tellS (learnS (learnS s p) r) 3 p 8 0 = s 8 0 := by
      rw [tellS_o (by decide)]
      exact (us_na (by decide)).trans (us_na (by decide))
    have hB3 := ko_bd k3
    have four : g_L_four 50 66 (iv r) u4 = some (iv (tellS (learnS s p) 3 p 0 r.toNat)) := by
      rw [← er', la_four (by decide) (by omega), x2.1.1.1.1 _ (nB_nat g).2]
    have set4 : g_L_sets 50 66 (400 + iv r) (iv (tellS (learnS s p) 3 p 0 r.toNat)) u4 = some u5 := by
      rw [← er', show (400 : Int32) + iv (r.toNat : Nat) = iv ((400 + r.toNat : Nat) : Int) by rw [show (400 : Int32) = iv 400 from rfl, iv_add]; rfl]
      exact e5
    rw [if_pos (show (0 : Int32) ≤ iv r from (iv_le (a := 0) (by decide) (by unfold IB; omega)).mpr rb.1), if_neg n0, if_neg g1, ep, show (3 : Int32) = iv 3 from rfl, e4, bn2_some, four, Option.bind_some, set4, Option.bind_some, if_neg n0, (iv_mp g).1, (iv_mp g).2, la_nearP hB3 x3.1.1 hk6 (by rw [o0]; exact hl) g, Option.bind_some]
    have L3 : Fl f u5 := fl_tr l1 (fl_tr l2 l3)
    have stay : ∃ f', g_L_comes_b278 (iv k) (iv r) 0 z u5 = some (z, f') ∧ LX (tellS (learnS (learnS s p) r) 3 p) f' ∧ Fl f f' := ⟨u5, by unfold g_L_comes_b278; rw [if_pos rfl], x3, L3⟩
    have tb : tkS (tellS (learnS (learnS s p) r) 3 p 7) r k = tkS (tellS (learnS (learnS s p) r) 3 p 7) r (-1) := tk_but (by rw [o7, hup]; exact fun e => g1 e.symm)
    by_cases g2 : inR (tellS (learnS (learnS s p) r) 3 p) k r = true
    · rw [if_pos g2, if_neg (by decide), x3.1.2.1, la_taken hB3 x3.1.2.2.1 g, Option.bind_some]
      by_cases g3 : tkS (tellS (learnS (learnS s p) r) 3 p 7) r (-1) = true
      · rw [if_pos g3, if_neg (by decide), if_neg (fun q => by have := q.2; rw [tb, g3] at this; cases this)]
        exact stay
      · rw [if_neg g3, if_pos rfl, if_pos ⟨g2, by rw [tb]; exact Bool.eq_false_iff.mpr g3⟩]
        obtain ⟨f', w1, w2, w3⟩ := put x3 g
        exact ⟨f', w1, w2, fl_tr L3 w3⟩
    · rw [if_neg g2, if_pos rfl, if_neg (fun q => g2 q.1)]
      exact stay
end
