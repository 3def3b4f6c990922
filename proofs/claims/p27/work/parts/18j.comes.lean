section
variable {s : MSt} {z f : Nat → Nat → Int32}
theorem nat_pt (n : Nat) (h : n < 400) : nB (n : Int) ∧ iv ((n % 20 : Nat) : Int) = iv (pt (n : Int)).1 ∧ iv ((n / 20 : Nat) : Int) = iv (pt (n : Int)).2 := by
  refine ⟨by unfold nB; omega, ?_, ?_⟩ <;> rfl
theorem iv_md {n : Nat} (h : n < 400) : jrem (iv (n : Nat)) 20 = iv (pt (n : Int)).1 ∧ iv (n : Nat) / 20 = iv (pt (n : Int)).2 := by
  have b := nat_pt n h
  rw [show (20 : Int32) = iv (20 : Nat) from rfl, iv_m (by omega) (by decide) (by decide), iv_d (by omega) (by decide) (by decide)]
  exact ⟨b.2.1, b.2.2⟩
/-- the scan for the point that a foot slips to -/
theorem la_l72 (hk : KO s) (hL : LM s f) {p : Int} (hp : nB p) {k : Nat} : ∀ (n fu i : Nat) (to : Int), i + n = 400 → n < fu → slP s p i to → ∃ r, slP s p 400 r ∧ g_L_comes_l72 fu (iv k) (iv (pt p).1) (iv (pt p).2) (iv p.toNat) (iv (s 0 p.toNat)) (iv to) (iv i) z f = (if 0 ≤ iv r then g_L_comes_b192 (iv k) (iv p.toNat) (iv r) (iv r) z f else g_L_comes_b192 (iv k) (iv p.toNat) (iv r) (iv p.toNat) z f) := by
  have bp0 : 0 ≤ s 0 p.toNat ∧ s 0 p.toNat ≤ 9 := hk 0 _
  have bp2 : 0 ≤ s 2 p.toNat ∧ s 2 p.toNat ≤ 9 := hk 2 _
  have bpt := pt_bd hp
  intro n
  induction n with
  | zero =>
    intro fu i to hi hf h
    obtain ⟨fu, rfl⟩ : ∃ x, fu = x + 1 := ⟨fu - 1, by omega⟩
    obtain rfl : i = 400 := by omega
    refine ⟨to, h, ?_⟩
    rw [g_L_comes_l72, if_pos (by decide)]
  | succ n ih =>
    intro fu i to hi hf h
    obtain ⟨fu, rfl⟩ : ∃ x, fu = x + 1 := ⟨fu - 1, by omega⟩
    have h4 : i < 400 := by omega
    obtain ⟨nBi, -, -⟩ := nat_pt i h4
    have bpi := pt_bd nBi
    have b0 : 0 ≤ s 0 i ∧ s 0 i ≤ 9 := hk 0 i
    have ti : ((i : Int)).toNat = i := Int.toNat_natCast i
    have tr : ∀ (to' : Int), slP s p ((i + 1 : Nat) : Int) to' → ∃ r, slP s p 400 r ∧ g_L_comes_l72 fu (iv k) (iv (pt p).1) (iv (pt p).2) (iv p.toNat) (iv (s 0 p.toNat)) (iv to') (iv ((i + 1 : Nat) : Int)) z f = (if 0 ≤ iv r then g_L_comes_b192 (iv k) (iv p.toNat) (iv r) (iv r) z f else g_L_comes_b192 (iv k) (iv p.toNat) (iv r) (iv p.toNat) z f) := fun to' ht => ih fu (i + 1) to' (by omega) (by omega) ht
    -- no neighbour that is low enough
    have no : ¬ (nbP p i ∧ s 0 i < s 0 p.toNat - s 2 p.toNat) → slP s p ((i + 1 : Nat) : Int) to := fun hn => by
      rcases h with ⟨h1, h2⟩ | ⟨h1, h2, h3, h4⟩
      · refine Or.inl ⟨h1, fun q hq hl => ?_⟩
        by_cases e : q = i
        · rw [e, ti]
          apply Classical.byContradiction
          intro g
          exact hn ⟨e ▸ hq, by omega⟩
        · exact h2 q hq (by omega)
      · refine Or.inr ⟨h1, by omega, h3, fun q hq hl => ?_⟩
        by_cases e : q = i
        · have : ¬ s 0 i < s 0 p.toNat - s 2 p.toNat := fun g => hn ⟨e ▸ hq, g⟩
          rw [e, ti]
          omega
        · exact h4 q hq (by omega)
    have e400 : ¬ (400 : Int32) ≤ iv (i : Nat) := fun e => by
      have := (iv_le (a := 400) (by decide) (ibn (by omega))).mp e
      omega
    have four : g_L_four 50 66 (iv (i : Nat)) f = some (iv (s 0 i)) := by rw [la_four (by decide) (by omega), hL.1.1 i h4]
    have fourv : g_L_four 25 67 (iv (p.toNat : Nat)) f = some (iv (s 2 p.toNat)) := by rw [la_four (by decide) (by have := (nB_nat hp).2; omega), hL.1.2.2.1 _ (nB_nat hp).2]
    rw [g_L_comes_l72, if_neg e400, (iv_md h4).1, (iv_md h4).2]
    simp only [iv_sub, iv_mul, iv_add]
    have q1 := sqb (a := (pt (i : Int)).1 - (pt p).1) (A := 20) (by omega)
    have q2 := sqb (a := (pt (i : Int)).2 - (pt p).2) (A := 20) (by omega)
    have e1 : (iv (((pt (i : Int)).1 - (pt p).1) * ((pt (i : Int)).1 - (pt p).1) + ((pt (i : Int)).2 - (pt p).2) * ((pt (i : Int)).2 - (pt p).2)) = (1 : Int32)) ↔ ((pt (i : Int)).1 - (pt p).1) * ((pt (i : Int)).1 - (pt p).1) + ((pt (i : Int)).2 - (pt p).2) * ((pt (i : Int)).2 - (pt p).2) = 1 := iv_eq (b := 1) (by unfold IB; omega) (by decide)
    unfold g_L_comes_b137 g_L_comes_b138 g_L_comes_b170 g_L_comes_b165 g_L_comes_b172
    rw [iv_1]
    by_cases c : ((pt (i : Int)).1 - (pt p).1) * ((pt (i : Int)).1 - (pt p).1) + ((pt (i : Int)).2 - (pt p).2) * ((pt (i : Int)).2 - (pt p).2) = 1
    · rw [if_pos (e1.mpr c), four, Option.bind_some, fourv, Option.bind_some]
      have e2 : (iv (s 0 p.toNat) - iv (s 0 i) ≤ iv (s 2 p.toNat)) ↔ s 0 p.toNat - s 0 i ≤ s 2 p.toNat := by rw [iv_sub]; exact iv_le (by unfold IB; omega) (by unfold IB; omega)
      by_cases d : s 0 p.toNat - s 0 i ≤ s 2 p.toNat
      · rw [if_pos (e2.mpr d), if_pos rfl]
        exact tr to (no (fun q => by omega))
      · have hnb : nbP p i := ⟨nBi, c⟩
        rw [if_neg (fun e => d (e2.mp e)), if_neg (by decide)]
        rcases h with ⟨h1, h2⟩ | ⟨h1, h2, h3, h4⟩
        · rw [if_pos (show iv to < (0 : Int32) from (iv_lt (b := 0) (by unfold IB; omega) (by decide)).mpr (by omega))]
          refine tr (i : Int) (Or.inr ⟨hnb, by omega, by rw [ti]; omega, fun q hq hl => ?_⟩)
          rw [ti]
          by_cases e : q = i
          · rw [e, ti]; omega
          · have := h2 q hq (by omega); omega
        · have nbt := h1.1
          have ht0 : 0 ≤ to ∧ to < 400 := by unfold nB at nbt; omega
          have b0t : 0 ≤ s 0 to.toNat ∧ s 0 to.toNat ≤ 9 := hk 0 _
          have ett : iv to = iv (to.toNat : Nat) := by rw [← (nB_nat nbt).1]
          have fourt : g_L_four 50 66 (iv to) f = some (iv (s 0 to.toNat)) := by rw [ett, la_four (by decide) (by omega), hL.1.1 _ (by omega)]
          rw [if_neg (show ¬ iv to < (0 : Int32) from fun e => by have := (iv_lt (b := 0) (by unfold IB; omega) (by decide)).mp e; omega), Option.bind_some, fourt, Option.bind_some]
          have e3 : (iv (s 0 to.toNat) ≤ iv (s 0 i)) ↔ s 0 to.toNat ≤ s 0 i := iv_le (by unfold IB; omega) (by unfold IB; omega)
          by_cases g : s 0 to.toNat ≤ s 0 i
          · rw [if_pos (e3.mpr g)]
            refine tr to (Or.inr ⟨h1, by omega, h3, fun q hq hl => ?_⟩)
            by_cases e : q = i
            · rw [e, ti]; omega
            · exact h4 q hq (by omega)
          · rw [if_neg (fun e => g (e3.mp e))]
            refine tr (i : Int) (Or.inr ⟨hnb, by omega, by rw [ti]; omega, fun q hq hl => ?_⟩)
            rw [ti]
            by_cases e : q = i
            · rw [e, ti]; omega
            · have := h4 q hq (by omega); omega
    · rw [if_neg (fun e => c (e1.mp e)), if_pos rfl]
      exact tr to (no (fun q => c q.1.2))
/-- a foot is down -/
theorem lx_put (h : LX s f) {k : Nat} (hk6 : k < 6) {q : Int} (hq : nB q) : LX (us s 7 k q) (upf (upf (upf f 70 k (iv (pt q).1)) 71 k (iv (pt q).2)) 74 8 (f 74 8 ||| ((1 : Int32) <<< (iv k &&& 31)))) := by
  have n : ∀ b, b ≠ 7 → us s 7 k q b = s b := fun b hb => funext fun j => us_na hb
  obtain ⟨⟨⟨⟨a1, a2, a3, a4⟩, l, g⟩, m, x, m1, m2, m3⟩, h14⟩ := h
  have hf : ∀ {A B C : Int32} a, a ≠ 70 → a ≠ 71 → a ≠ 74 → upf (upf (upf f 70 k A) 71 k B) 74 8 C a = f a := fun {A B C} a h0 h1 h4 => by rw [upf_ne h4, upf_ne h1, upf_ne h0]
  have hq1 : q ≠ -1 := by unfold nB at hq; omega
  refine ⟨⟨⟨⟨fun q hq => ?_, fun q hq => ?_, fun q hq => ?_, fun q hq => ?_⟩, fun k hk hl => ?_, fun q hq => ?_⟩, ?_, fun j hj hd => ?_, fun h9 => ?_, fun k hk hl => ?_, fun k hk hl => ?_⟩, ?_⟩
  · rw [h4_cg (hf 66 (by decide) (by decide) (by decide)), n 0 (by decide)]; exact a1 q hq
  · rw [h4_cg (hf 66 (by decide) (by decide) (by decide)), n 3 (by decide)]; exact a2 q hq
  · rw [h4_cg (hf 67 (by decide) (by decide) (by decide)), n 2 (by decide)]; exact a3 q hq
  · rw [h8_cg (hf 68 (by decide) (by decide) (by decide)), n 1 (by decide)]; exact a4 q hq
  · rw [n 8 (by decide)] at hl
    rw [hf 69 (by decide) (by decide) (by decide), l k hk hl]
    unfold legV
    rw [n 4 (by decide), n 5 (by decide), n 6 (by decide)]
  · have := scalL_inj q hq q hq
    rw [upf_g, if_neg this.2.2.1, upf_ne (by decide), upf_ne (by decide), n 8 (by decide)]; exact g q hq
  · rw [upf_g, if_pos rfl, m, dn_or hk6 hq1]
  · have e70 : ∀ {A B C : Int32}, upf (upf (upf f 70 k A) 71 k B) 74 8 C 70 j = if j = k then A else f 70 j := fun {A B C} => by rw [upf_ne (show (70 : Nat) ≠ 74 by decide), upf_ne (show (70 : Nat) ≠ 71 by decide), upf_g]
    have e71 : ∀ {A B C : Int32}, upf (upf (upf f 70 k A) 71 k B) 74 8 C 71 j = if j = k then B else f 71 j := fun {A B C} => by rw [upf_ne (show (71 : Nat) ≠ 74 by decide), upf_g, upf_ne (show (71 : Nat) ≠ 70 by decide)]
    rw [e70, e71]
    by_cases c : j = k
    · subst c
      rw [us_at, if_pos rfl, if_pos rfl]
      exact ⟨rfl, rfl⟩
    · rw [us_nk c] at hd ⊢
      rw [if_neg c, if_neg c]
      exact x j hj hd
  · rw [n 8 (by decide)] at h9 ⊢
    rw [upf_g, if_neg (by decide), upf_ne (by decide), upf_ne (by decide)]; exact m1 h9
  · rw [n 8 (by decide)] at hl
    rw [hf 73 (by decide) (by decide) (by decide), m2 k hk hl]
    unfold falV
    rw [n 9 (by decide), n 10 (by decide), n 11 (by decide)]
  · rw [n 8 (by decide)] at hl
    rw [hf 72 (by decide) (by decide) (by decide), m3 k hk hl]
    unfold phaV
    rw [n 12 (by decide), n 13 (by decide), n 14 (by decide), n 15 (by decide), n 16 (by decide)]
  · rw [upf_g, if_neg (by decide), upf_ne (by decide), upf_ne (by decide), n 8 (by decide)]; exact h14
end
