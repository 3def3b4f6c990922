theorem mfOk_up {σ : Nat → Bool} {fp : Nat → Pt} {f g : Nat → Nat → Int32} (h : mfOk σ fp f) (h1 : g 74 = f 74) (h2 : g 75 = f 75) : mfOk σ fp g := by
  unfold mfOk at *
  rw [h1, h2]
  exact h
theorem mls_mem {σ : Nat → Bool} {fp : Nat → Pt} {k : Nat} (h : k < 6 ∧ σ k = true) : fp k ∈ mls σ fp := (mlN_mem 6 0).mpr ⟨k, Nat.zero_le _, by omega, h.2, rfl⟩
/-- the corners as legs -/
def corK (σ : Nat → Bool) (fp : Nat → Pt) (p : Pt) (m : Nat) (c : Nat → Int32) : Prop := ∀ j, j < m → ∃ a, c j = iv (a : Nat) ∧ (a < 6 ∧ σ a = true) ∧ fp a = cs (mls σ fp) p j
theorem mh_86 {σ : Nat → Bool} {fp : Nat → Pt} {o : Nat} (ho : o < 6 ∧ σ o = true) (hS : exP (mls σ fp) (fp o)) {m : Nat} (h1 : 1 ≤ m) (h6 : m ≤ 6) (hr : cs (mls σ fp) (fp o) m = fp o) (hm : ∀ i, 0 < i → i < m → cs (mls σ fp) (fp o) i ≠ fp o) : ∀ (k fu s : Nat) (b : Option Nat) (z f : Nat → Nat → Int32), s + k = m → k < fu → mfOk σ fp f → z 66 28 = iv s → corK σ fp (fp o) s (f 78) → (s < m → ∃ a, b = some a ∧ (a < 6 ∧ σ a = true) ∧ fp a = cs (mls σ fp) (fp o) s) → (s = m → b = none ∨ b = some o) → ∃ c, g_X11_hull_l86 fu (mk σ) (iv o) (iv (ob b)) z f = some (up2 z 66 28 (iv m), upa f 78 c) ∧ corK σ fp (fp o) m c := by
  intro k
  induction k with
  | zero =>
    intro fu s b z f hs hf hok hz hc _ hb
    obtain rfl : s = m := by omega
    obtain ⟨fu, rfl⟩ : ∃ x, fu = x + 1 := ⟨fu - 1, by omega⟩
    have e : upa f 78 (f 78) = f := by
      funext b'
      unfold upa
      by_cases h : b' = 78
      · rw [if_pos h, h]
      · rw [if_neg h]
    refine ⟨f 78, ?_, hc⟩
    rw [e, up2_id hz, g_X11_hull_l86, hz]
    rcases hb rfl with rfl | rfl
    · rw [if_pos (show iv (ob none) = (-1 : Int32) from rfl)]
    · rw [if_neg (ob_ne ho.1), if_neg (fun e => by have : (s : Int) = 0 := (iv_eq (b := 0) (ibn (by omega)) (by decide)).mp e; omega), if_pos (show iv (ob (some o)) = iv (o : Nat) from rfl)]
  | succ k ih =>
    intro fu s b z f hs hf hok hz hc hb _
    obtain ⟨fu, rfl⟩ : ∃ x, fu = x + 1 := ⟨fu - 1, by omega⟩
    obtain ⟨a, rfl, ha, hfa⟩ := hb (by omega)
    have hok2 : mfOk σ fp (upa f 78 (upd (f 78) s (iv (ob (some a))))) := mfOk_up hok (upa_ne (by decide)) (upa_ne (by decide))
    obtain ⟨b', b1, b2, b3, b4⟩ := mh_129 (k86 := fun y0 y1 y2 z f => g_X11_hull_l86 fu y0 y1 y2 z f) (z := up2 z 66 28 (iv ((s + 1 : Nat) : Int))) hok2 (i2 := iv (o : Nat)) ha 6 FU 0 none rfl (by decide) (fun k e => by cases e) (fun e => by cases e)
    have hnx : bp fp a b' = cs (mls σ fp) (fp o) (s + 1) := by
      rw [b3]
      show nxt (fp a) (mls σ fp) (fp a) = sc (mls σ fp) (cs (mls σ fp) (fp o) s)
      rw [hfa]
      rfl
    have hstep : g_X11_hull_b103 (fun y0 y1 y2 z f => g_X11_hull_l86 fu y0 y1 y2 z f) (mk σ) (iv (o : Nat)) (iv (ob (some a))) z f = g_X11_hull_l86 fu (mk σ) (iv (o : Nat)) (iv (ob b')) (up2 z 66 28 (iv ((s + 1 : Nat) : Int))) (upa f 78 (upd (f 78) s (iv (ob (some a))))) := by
      unfold g_X11_hull_b103 lt2
      rw [hz, ix_iv (by omega) (by decide), Option.bind_some, iv_1, upf_up]
      exact b4
    have hone : b' = none → s + 1 = m := fun e => by
      subst e
      have e1 : sc (mls σ fp) (cs (mls σ fp) (fp o) s) = cs (mls σ fp) (fp o) s := (show fp a = sc (mls σ fp) (cs (mls σ fp) (fp o) s) from hnx).symm.trans hfa
      have e2 := one_all (cs_ex hS s) e1
      have e3 := e2 (fp o) hS.1
      rw [← e3] at e1
      apply Classical.byContradiction
      intro hne
      exact hm 1 (by omega) (by omega) e1
    obtain ⟨c, g1, g2⟩ := ih fu (s + 1) b' (up2 z 66 28 (iv ((s + 1 : Nat) : Int))) (upa f 78 (upd (f 78) s (iv (ob (some a))))) (by omega) (by omega) hok2 up2_same (fun j hj => by
      rw [upa_same]
      by_cases e : j = s
      · subst e; exact ⟨a, upd_at, ha, hfa⟩
      · rw [upd_ne e]; exact hc j (by omega)) (fun hlt => by
      cases b' with
      | none => have := hone rfl; omega
      | some a' => exact ⟨a', rfl, b1 a' rfl, hnx⟩) (fun he => by
      cases b' with
      | none => exact Or.inl rfl
      | some a' =>
        right
        have e2 : fp a' = fp o := by rw [← hr, ← he]; exact hnx
        rw [hok.2 a' o (b1 a' rfl).1 ho.1 (b1 a' rfl).2 ho.2 e2])
    rw [up2_up2, upa_upa] at g1
    refine ⟨c, ?_, g2⟩
    rw [g_X11_hull_l86, hz, if_neg (ob_ne ha.1)]
    by_cases c0 : s = 0
    · subst c0
      rw [if_pos (show iv ((0 : Nat) : Int) = 0 from rfl)]
      exact hstep.trans g1
    · have hs0 : 0 < s := Nat.pos_of_ne_zero c0
      have hsm : s < m := by omega
      have hne : ¬ iv (ob (some a)) = iv (o : Nat) := fun e => by
        have : a = o := (iv_eqn (a := a) (b := o) (by omega) (by omega)).mp e
        subst this
        exact hm s hs0 hsm hfa.symm
      rw [if_neg (fun e => by have : (s : Int) = 0 := (iv_eq (b := 0) (ibn (by omega)) (by decide)).mp e; omega), if_neg hne]
      exact hstep.trans g1
