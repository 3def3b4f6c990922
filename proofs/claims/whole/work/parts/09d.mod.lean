theorem at_fi {p : Pt} {z f : Nat → Nat → Int32} : g_X11_at (iv p.1) (iv p.2) z f = some (iv (fiP p)) := by
  unfold g_X11_at fiP
  show some (iv 20 * iv p.2 + iv p.1) = _
  rw [iv_mul, iv_add]
theorem fi_bd {p : Pt} (h : pB p) : 0 ≤ fiP p ∧ fiP p < 400 := by unfold pB at h; unfold fiP; omega
theorem iv_p (i : Nat) : iv ((i + 1 : Nat) : Int) + (-1) = iv (i : Nat) := by
  show iv _ + iv (-1) = _
  rw [iv_add]
  congr 1
  omega
theorem mh_9 {σ : Nat → Bool} {fp : Nat → Pt} {z f : Nat → Nat → Int32} (h : mfOk σ fp f) : ∀ (i fu : Nat) (b : Option Nat), i ≤ 6 → i < fu → (∀ k, b = some k → (k < 6 ∧ σ k = true) ∧ ∀ j, i ≤ j → j < 6 → σ j = true → fiP (fp k) ≤ fiP (fp j)) → (b = none → ∀ j, i ≤ j → j < 6 → σ j = false) → ∃ b', (∀ k, b' = some k → (k < 6 ∧ σ k = true) ∧ ∀ j, j < 6 → σ j = true → fiP (fp k) ≤ fiP (fp j)) ∧ (b' = none → ∀ j, j < 6 → σ j = false) ∧ g_X11_hull_l9 fu (mk σ) (iv (ob b)) (iv ((i : Int) - 1)) z f = g_X11_hull_l86 FU (mk σ) (iv (ob b')) (iv (ob b')) z f := by
  intro i
  induction i with
  | zero =>
    intro fu b h6 hf hb hn
    obtain ⟨fu, rfl⟩ : ∃ x, fu = x + 1 := ⟨fu - 1, by omega⟩
    refine ⟨b, fun k e => ⟨(hb k e).1, fun j hj => (hb k e).2 j (Nat.zero_le _) hj⟩, fun e j hj => hn e j (Nat.zero_le _) hj, ?_⟩
    rw [g_X11_hull_l9, if_pos (by decide)]
  | succ i ih =>
    intro fu b h6 hf hb hn
    obtain ⟨fu, rfl⟩ : ∃ x, fu = x + 1 := ⟨fu - 1, by omega⟩
    have ei : iv (((i + 1 : Nat) : Int) - 1) = iv (i : Nat) := by congr 1; omega
    have en : iv (i : Nat) + (-1) = iv ((i : Int) - 1) := by
      show iv _ + iv (-1) = _
      rw [iv_add]
      rfl
    rw [ei, g_X11_hull_l9, if_neg (show ¬ iv (i : Nat) < (0 : Int32) from fun e => by have := (iv_lt (b := 0) (ibn (by omega)) (by decide)).mp e; omega), mk_get i (by omega)]
    have ex : ∀ {P : Nat → Prop}, P i → (∀ j, i + 1 ≤ j → j < 6 → P j) → ∀ j, i ≤ j → j < 6 → P j := fun h0 h1 j a c => by
      rcases Nat.lt_or_eq_of_le a with q | q
      · exact h1 j q c
      · subst q; exact h0
    by_cases hs : σ i = true
    · rw [if_pos hs, if_pos rfl]
      unfold g_X11_hull_b27
      rw [if_neg (show ¬ (1 : Int32) = 0 by decide)]
      have hi := h.1 i (by omega) hs
      cases b with
      | none =>
        rw [if_pos (show iv (ob none) = (-1 : Int32) from rfl)]
        unfold g_X11_hull_b72 g_X11_hull_b77
        rw [en]
        exact ih fu (some i) (by omega) (by omega) (fun k e => by
          cases e
          exact ⟨⟨by omega, hs⟩, ex (P := fun j => σ j = true → fiP (fp i) ≤ fiP (fp j)) (fun _ => Int.le_refl _) (fun j a c q => by rw [hn rfl j a c] at q; cases q)⟩) (fun e => by cases e)
      | some k =>
        obtain ⟨hk, hmin⟩ := hb k rfl
        have hkk := h.1 k hk.1 hk.2
        have f1 := fi_bd hi.1
        have f2 := fi_bd hkk.1
        rw [if_neg (ob_ne hk.1), ix_iv (show i < 6 by omega) (by decide), Option.bind_some, Option.bind_some, hi.2.1, hi.2.2, at_fi, Option.bind_some, show ixA 6 (iv (ob (some k))) = some k from ix_iv hk.1 (by decide), Option.bind_some, Option.bind_some, hkk.2.1, hkk.2.2, at_fi, Option.bind_some]
        by_cases c : fiP (fp k) ≤ fiP (fp i)
        · rw [if_pos ((iv_le (by unfold IB; omega) (by unfold IB; omega)).mpr c)]
          unfold g_X11_hull_b76 g_X11_hull_b77
          rw [en]
          exact ih fu (some k) (by omega) (by omega) (fun k' e => by
            cases e
            exact ⟨hk, ex (P := fun j => σ j = true → fiP (fp k) ≤ fiP (fp j)) (fun _ => c) hmin⟩) (fun e => by cases e)
        · rw [if_neg (fun e => c ((iv_le (by unfold IB; omega) (by unfold IB; omega)).mp e))]
          unfold g_X11_hull_b72 g_X11_hull_b77
          rw [en]
          exact ih fu (some i) (by omega) (by omega) (fun k' e => by
            cases e
            exact ⟨⟨by omega, hs⟩, ex (P := fun j => σ j = true → fiP (fp i) ≤ fiP (fp j)) (fun _ => Int.le_refl _) (fun j a c2 q => by have := hmin j a c2 q; omega)⟩) (fun e => by cases e)
    · rw [if_neg hs, if_neg (show ¬ (0 : Int32) = 1 by decide)]
      unfold g_X11_hull_b27
      rw [if_pos rfl]
      unfold g_X11_hull_b76 g_X11_hull_b77
      rw [en]
      exact ih fu b (by omega) (by omega) (fun k e => ⟨(hb k e).1, ex (P := fun j => σ j = true → fiP (fp k) ≤ fiP (fp j)) (fun q => absurd q hs) (hb k e).2⟩) (fun e => ex (P := fun j => σ j = false) (by simpa using hs) (hn e))
theorem mls_nil {σ : Nat → Bool} {fp : Nat → Pt} (h : ∀ k, k < 6 → σ k = false) : mls σ fp = [] := by
  apply List.eq_nil_iff_forall_not_mem.mpr
  intro a ha
  obtain ⟨k, -, h2, h3, -⟩ := (mlN_mem 6 0).mp ha
  rw [h k (by omega)] at h3
  cases h3
theorem mlN_len {σ : Nat → Bool} {fp : Nat → Pt} : ∀ n i, (mlN σ fp n i).length ≤ n
  | 0, _ => Nat.le_refl _
  | n + 1, i => by
    unfold mlN
    have := mlN_len (σ := σ) (fp := fp) n (i + 1)
    by_cases h : σ i = true
    · rw [if_pos h, List.length_cons]; omega
    · rw [if_neg h]; omega
theorem fi_inj {p q : Pt} (hp : pB p) (hq : pB q) (h : fiP p = fiP q) : p = q := by
  unfold pB at *
  unfold fiP at h
  exact Prod.ext (by omega) (by omega)
theorem mh_hull {σ : Nat → Bool} {fp : Nat → Pt} {z f : Nat → Nat → Int32} (h : mfOk σ fp f) : (mls σ fp = [] ∧ g_X11_hull (mk σ) z f = some (up2 z 66 28 (iv (0 : Nat)), f)) ∨ ∃ o m c, (o < 6 ∧ σ o = true) ∧ stP (mls σ fp) (fp o) ∧ 1 ≤ m ∧ m ≤ 6 ∧ cs (mls σ fp) (fp o) m = fp o ∧ (∀ i, 0 < i → i < m → cs (mls σ fp) (fp o) i ≠ fp o) ∧ g_X11_hull (mk σ) z f = some (up2 z 66 28 (iv m), upa f 78 c) ∧ corK σ fp (fp o) m c := by
  obtain ⟨b', b1, b2, b3⟩ := mh_9 (z := up2 z 66 28 (iv (0 : Nat))) h 6 FU none (Nat.le_refl _) (by decide) (fun k e => by cases e) (fun _ j h1 h2 => by omega)
  have e0 : g_X11_hull (mk σ) z f = g_X11_hull_l86 FU (mk σ) (iv (ob b')) (iv (ob b')) (up2 z 66 28 (iv (0 : Nat))) f := b3
  cases b' with
  | none =>
    left
    refine ⟨mls_nil (b2 rfl), e0.trans ?_⟩
    show g_X11_hull_l86 (1999 + 1) _ _ _ _ _ = _
    rw [g_X11_hull_l86, if_pos (show iv (ob none) = (-1 : Int32) from rfl)]
  | some o =>
    right
    obtain ⟨ho, hmin⟩ := b1 o rfl
    have hS : stP (mls σ fp) (fp o) := by
      refine ⟨mls_mem ho, fun q hq hne => ?_⟩
      obtain ⟨k, -, k2, k3, rfl⟩ := (mlN_mem 6 0).mp hq
      have := hmin k (by omega) k3
      have : fiP (fp k) ≠ fiP (fp o) := fun e => hne (fi_inj (h.1 k (by omega) k3).1 (h.1 o ho.1 ho.2).1 e)
      omega
    obtain ⟨m, r1, r2, r3, r4⟩ := cs_ret (st_ex hS)
    have hl : (mls σ fp).length ≤ 6 := mlN_len 6 0
    obtain ⟨c, g1, g2⟩ := mh_86 ho (st_ex hS) r1 (by omega) r3 r4 m FU 0 (some o) (up2 z 66 28 (iv (0 : Nat))) f (by omega) (by show m < 2000; omega) h up2_same (fun j hj => by omega) (fun _ => ⟨o, rfl, ho, rfl⟩) (fun _ => Or.inr rfl)
    rw [up2_up2] at g1
    exact ⟨o, m, c, ho, hS, r1, by omega, r3, r4, e0.trans g1, g2⟩
