/-! what would be, and the foothold -/
section
variable {s : MSt} {z f : Nat → Nat → Int32}
theorem lvs_us {k : Nat} : lvS (us s 7 k (-1) 3) (us s 7 k (-1) 7) (-1) = lvS (s 3) (s 7) k := by
  have e3 : us s 7 k (-1) 3 = s 3 := funext fun j => us_na (by decide)
  have : ∀ n i v, lvN (s 3) (us s 7 k (-1) 7) (-1) n i v = lvN (s 3) (s 7) k n i v := by
    intro n
    induction n with
    | zero => intro i v; rfl
    | succ n ih =>
      intro i v
      unfold lvN
      rw [ih]
      congr 1
      by_cases e : i = k
      · subst e
        rw [if_pos (Or.inr us_at), if_pos (Or.inl rfl)]
      · rw [us_nk e]
        by_cases d : s 7 i = -1
        · rw [if_pos (Or.inr d), if_pos (Or.inr d)]
        · rw [if_neg (by omega), if_neg (by omega)]
  rw [e3]
  exact this 6 0 0
theorem tk_wo {k : Nat} {p : Int} (hp : nB p) : tkS (us s 7 k (-1) 7) p (-1) = tkS (s 7) p k := by
  rw [Bool.eq_iff_iff, tkN_iff, tkN_iff]
  constructor
  · rintro ⟨j, h1, h2, -, h4⟩
    by_cases e : j = k
    · subst e; rw [us_at] at h4; unfold nB at hp; omega
    · rw [us_nk e] at h4; exact ⟨j, h1, h2, by omega, h4⟩
  · rintro ⟨j, h1, h2, h3, h4⟩
    exact ⟨j, h1, h2, by omega, by rw [us_nk (by omega)]; exact h4⟩
theorem fx_ra {σ : Nat → Bool} (h : FX s f) : FX (ur s 7 (raS (s 7) σ)) f := fun j hj hd => by
  have e : ur s 7 (raS (s 7) σ) 7 j = if σ j then -1 else s 7 j := rfl
  rw [e] at hd ⊢
  by_cases c : σ j = true
  · rw [if_pos c] at hd; exact absurd rfl hd
  · rw [if_neg c] at hd ⊢
    exact h j hj hd
theorem dn_ra : mk (dnS s) - mk (skS s) = mk (dnS (ur s 7 (raS (s 7) (skS s)))) := by
  rw [mk_dif (fun k _ e => by unfold dnS; exact decide_eq_true (sk_ne e))]
  refine mk_cg fun k _ => ?_
  unfold dnS
  have e : ur s 7 (raS (s 7) (skS s)) 7 k = if skS s k then -1 else s 7 k := rfl
  rw [e]
  cases skS s k <;> simp
section
variable {k224 : Int32 → Int32 → Int32 → Int32 → Int32 → Int32 → (Nat → Nat → Int32) → (Nat → Nat → Int32) → Option (Int32 × (Nat → Nat → Int32) × (Nat → Nat → Int32))} {i9 i10 i11 i12 i13 i14 : Int32}
theorem so_623 : ∀ (n fu : Nat) (t : MSt) (w : Int), cnS (t 7) ≤ n → n < fu → KO t → LM t f → FX t f → g_L_isSo_l623 k224 fu i9 i10 i11 i12 i13 i14 (mk (dnS t)) (iv w) (mk (skS t)) z f = g_L_isSo_b675 k224 i9 i10 i11 i12 i13 i14 (iv (if stB (swN n t) (-1) = true then (if mk (skS t) = 0 then w else 1) else 2)) z f := by
  intro n
  induction n with
  | zero =>
    intro fu t w hc hf hk hL hF
    obtain ⟨fu, rfl⟩ : ∃ x, fu = x + 1 := ⟨fu - 1, by omega⟩
    have c : mk (skS t) = 0 := sk_none (by omega)
    rw [g_L_isSo_l623, if_pos (mk_le0.mpr c), la_holds (ko_bd hk) hL hF, Option.bind_some, if_pos c]
    show _ = g_L_isSo_b675 k224 i9 i10 i11 i12 i13 i14 (iv (if stB t (-1) = true then w else 2)) z f
    by_cases q : stB t (-1) = true
    · rw [if_pos q, if_neg (show ¬ (1 : Int32) = 0 by decide), if_pos q]
    · rw [if_neg q, if_pos rfl, if_neg q]
      rfl
  | succ n ih =>
    intro fu t w hc hf hk hL hF
    obtain ⟨fu, rfl⟩ : ∃ x, fu = x + 1 := ⟨fu - 1, by omega⟩
    by_cases c : mk (skS t) = 0
    · have es : swN (n + 1) t = t := by unfold swN; rw [if_pos c]
      rw [g_L_isSo_l623, if_pos (mk_le0.mpr c), la_holds (ko_bd hk) hL hF, Option.bind_some, if_pos c, es]
      by_cases q : stB t (-1) = true
      · rw [if_pos q, if_neg (show ¬ (1 : Int32) = 0 by decide), if_pos q]
      · rw [if_neg q, if_pos rfl, if_neg q]
        rfl
    · have es : swN (n + 1) t = swN n (ur t 7 (raS (t 7) (skS t))) := by rw [swN, if_neg c]
      have k2 := ko_ra hk (σ := skS t)
      have L2 : LM (ur t 7 (raS (t 7) (skS t))) f := lm_ur hL
      have F2 := fx_ra (σ := skS t) hF
      have cn : cnS (ur t 7 (raS (t 7) (skS t)) 7) ≤ n := by
        have := sk_cn c
        rw [ur_at]
        omega
      rw [g_L_isSo_l623, if_neg (fun e => c (mk_le0.mp e)), dn_ra, la_sink (ko_bd k2) L2 F2, Option.bind_some, show (1 : Int32) = iv 1 from rfl, ih fu _ 1 cn (by omega) k2 L2 F2, ite_self, es, if_neg c]
end
def scOK (s : MSt) (k n : Nat) (r l : Int) : Prop := (r = -1 ∧ l = 10000 ∧ ∀ q, elS s k q → (n : Int) ≤ q) ∨ (elS s k r ∧ r < n ∧ l = coS s k r ∧ ∀ q, elS s k q → q < n → coS s k r < coS s k q ∨ (coS s k r = coS s k q ∧ r ≤ q))
section
variable {k224 : Int32 → Int32 → Int32 → Int32 → Int32 → Int32 → (Nat → Nat → Int32) → (Nat → Nat → Int32) → Option (Int32 × (Nat → Nat → Int32) × (Nat → Nat → Int32))} {i9 i10 i11 i12 i15 : Int32}
theorem so_366 (hk : KO s) (hC : CS s z f) (hL : LW s f) {k : Nat} (hk6 : k < 6) (hl : (k : Int) < s 8 0) : ∀ (m fu n : Nat) (r l : Int), n + m = 400 → m < fu → scOK s k n r l → g_L_isSo_l366 k224 fu i9 i10 i11 i12 1 (iv k) i15 (mk (dnS (us s 7 k (-1)))) (iv (lvS (s 3) (s 7) k)) (iv r) (iv l) (iv n) z f = g_L_isSo_b557 k224 i9 i10 i11 i12 (iv k) i15 (mk (dnS (us s 7 k (-1)))) 1 z f := by
  have hB := ko_bd hk
  have bl := lv_bd hB (but := (k : Int))
  intro m
  induction m with
  | zero =>
    intro fu n r l hn hf h
    obtain ⟨fu, rfl⟩ : ∃ x, fu = x + 1 := ⟨fu - 1, by omega⟩
    have en : n = 400 := by omega
    subst en
    have hb : bsP s k r := by
      rcases h with ⟨h1, -, h3⟩ | ⟨h1, -, -, h4⟩
      · exact Or.inl ⟨h1, fun q hq => by have := h3 q hq; have := hq.1; unfold nB at this; omega⟩
      · exact Or.inr ⟨h1, fun q hq => h4 q hq hq.1.2⟩
    have er := fh_eq hb
    have e := cq_foothold hk hC (a := (k : Int)) (ibn (by omega))
    have o : oFh s k = (0, fhS s k) := by unfold oFh; rw [if_pos ⟨by omega, hl⟩, Int.toNat_natCast]
    rw [o] at e
    rw [g_L_isSo_l366, if_pos (show (400 : Int32) ≤ iv ((400 : Nat) : Int) by decide), if_neg (show ¬ (1 : Int32) = 0 by decide), nth_r e, Option.bind_some, ← er, if_pos rfl]
  | succ m ih =>
    intro fu n r l hn hf h
    obtain ⟨fu, rfl⟩ : ∃ x, fu = x + 1 := ⟨fu - 1, by omega⟩
    have hp : nB (n : Int) := by unfold nB; omega
    obtain ⟨mx, my⟩ := iv_md (n := n) (by omega)
    have b3 : 0 ≤ s 3 n ∧ s 3 n ≤ 9 := hk 3 n
    have bf := faS_bd hB hk6 hp
    have hF' : FX (us s 7 k (-1)) f := fx_up hL.2.2.1
    have hB' : BD (us s 7 k (-1)) := bd_up hB
    have tk := la_taken (z := z) hB' hF' hp
    rw [tk_wo hp] at tk
    have nr := la_nearP (z := z) hB hL.1 hk6 hl hp
    have fr := la_farP (z := z) hB hL.1 hk6 hl hp
    have eA : ((s 3 n - lvS (s 3) (s 7) k).natAbs : Int) ≤ 9 := by omega
    have ec : coS s k n = 10 * ((s 3 n - lvS (s 3) (s 7) k).natAbs : Int) + faS s k n := rfl
    have bl' : -1 ≤ l ∧ l ≤ 10000 := by
      rcases h with ⟨-, h2, -⟩ | ⟨h1, h2, h3, -⟩
      · omega
      · have := (faS_bd hB hk6 h1.1)
        have b3' : 0 ≤ s 3 r.toNat ∧ s 3 r.toNat ≤ 9 := hk 3 _
        unfold coS at h3
        omega
    have go : ∀ {r' l' : Int}, scOK s k (n + 1) r' l' → g_L_isSo_b528 k224 (fun y0 y1 y2 y3 y4 y5 y6 y7 y8 y9 y10 y11 z f => g_L_isSo_l366 k224 fu y0 y1 y2 y3 y4 y5 y6 y7 y8 y9 y10 y11 z f) i9 i10 i11 i12 1 (iv k) i15 (mk (dnS (us s 7 k (-1)))) (iv (lvS (s 3) (s 7) k)) (iv r') (iv n) (iv l') z f = g_L_isSo_b557 k224 i9 i10 i11 i12 (iv k) i15 (mk (dnS (us s 7 k (-1)))) 1 z f := fun {r' l'} q => by
      unfold g_L_isSo_b528
      rw [iv_1]
      exact ih fu (n + 1) r' l' (by omega) (by omega) q
    have fin : ∀ {b : Bool}, (b = true ↔ elS s k n) → g_L_isSo_b459 k224 (fun y0 y1 y2 y3 y4 y5 y6 y7 y8 y9 y10 y11 z f => g_L_isSo_l366 k224 fu y0 y1 y2 y3 y4 y5 y6 y7 y8 y9 y10 y11 z f) i9 i10 i11 i12 1 (iv k) i15 (mk (dnS (us s 7 k (-1)))) (iv (lvS (s 3) (s 7) k)) (iv r) (iv l) (iv n) (iv ((s 3 n - lvS (s 3) (s 7) k).natAbs : Int)) (if b then 1 else 0) z f = g_L_isSo_b557 k224 i9 i10 i11 i12 (iv k) i15 (mk (dnS (us s 7 k (-1)))) 1 z f := fun {b} hb => by
      unfold g_L_isSo_b459
      rw [mx, my, fr, Option.bind_some, show (10 : Int32) = iv 10 from rfl, iv_mul, iv_add, ← ec]
      have keep : (¬ elS s k n ∨ l ≤ coS s k n) → scOK s k (n + 1) r l := fun q => by
        rcases h with ⟨h1, h2, h3⟩ | ⟨h1, h2, h3, h4⟩
        · refine Or.inl ⟨h1, h2, fun q' hq' => ?_⟩
          have := h3 q' hq'
          by_cases e : q' = n
          · subst e
            rcases q with q | q
            · exact absurd hq' q
            · omega
          · omega
        · refine Or.inr ⟨h1, by omega, h3, fun q' hq' hlt => ?_⟩
          by_cases e : q' = n
          · subst e
            rcases q with q | q
            · exact absurd hq' q
            · omega
          · exact h4 q' hq' (by omega)
      have take : elS s k n → coS s k n < l → scOK s k (n + 1) n (coS s k n) := fun q1 q2 => by
        refine Or.inr ⟨q1, by omega, rfl, fun q' hq' hlt => ?_⟩
        rcases h with ⟨h1, h2, h3⟩ | ⟨h1, h2, h3, h4⟩
        · have := h3 q' hq'
          have : q' = n := by omega
          subst this
          exact Or.inr ⟨rfl, Int.le_refl _⟩
        · by_cases e : q' = n
          · subst e; exact Or.inr ⟨rfl, Int.le_refl _⟩
          · have := h4 q' hq' (by omega)
            left
            omega
      have e1 : (iv l ≤ iv (coS s k n)) ↔ l ≤ coS s k n := iv_le (ib_s (by omega)) (ib_s (by omega))
      cases b with
      | false =>
        have nel : ¬ elS s k n := fun q => absurd (hb.mpr q) (by decide)
        rw [if_pos (show (if false = true then (1 : Int32) else 0) = 0 from rfl)]
        unfold g_L_isSo_b505 g_L_isSo_b507
        rw [if_pos (show (if false = true then (1 : Int32) else 0) = 0 from rfl)]
        unfold g_L_isSo_b526
        exact go (keep (Or.inl nel))
      | true =>
        have el := hb.mp rfl
        rw [if_neg (show ¬ (if true = true then (1 : Int32) else 0) = 0 by decide)]
        unfold g_L_isSo_b505 g_L_isSo_b507
        rw [if_neg (show ¬ (if true = true then (1 : Int32) else 0) = 0 by decide), if_neg (show ¬ (if true = true then (1 : Int32) else 0) = 0 by decide)]
        unfold g_L_isSo_b526
        by_cases c : l ≤ coS s k n
        · rw [if_pos (e1.mpr c), if_pos (e1.mpr c)]
          exact go (keep (Or.inr c))
        · rw [if_neg (fun e => c (e1.mp e)), if_neg (fun e => c (e1.mp e))]
          exact go (take el (by omega))
    have finF := fun q => fin (b := false) ⟨fun e => absurd e (by decide), q⟩
    have main : g_L_isSo_b402 k224 (fun y0 y1 y2 y3 y4 y5 y6 y7 y8 y9 y10 y11 z f => g_L_isSo_l366 k224 fu y0 y1 y2 y3 y4 y5 y6 y7 y8 y9 y10 y11 z f) i9 i10 i11 i12 1 (iv k) i15 (mk (dnS (us s 7 k (-1)))) (iv (lvS (s 3) (s 7) k)) (iv r) (iv l) (iv n) (iv ((s 3 n - lvS (s 3) (s 7) k).natAbs : Int)) z f = g_L_isSo_b557 k224 i9 i10 i11 i12 (iv k) i15 (mk (dnS (us s 7 k (-1)))) 1 z f := by
      unfold g_L_isSo_b402
      have e3 : ((3 : Int32) ≤ iv ((s 3 n - lvS (s 3) (s 7) k).natAbs : Int)) ↔ 3 ≤ ((s 3 n - lvS (s 3) (s 7) k).natAbs : Int) := iv_le (a := 3) (by decide) (ib_s (by omega))
      by_cases c : 3 ≤ ((s 3 n - lvS (s 3) (s 7) k).natAbs : Int)
      · rw [if_pos (e3.mpr c)]
        unfold g_L_isSo_b458
        exact finF (fun q => by have := q.2.1; rw [Int.toNat_natCast] at this; omega)
      rw [if_neg (fun e => c (e3.mp e)), mx, my, nr, Option.bind_some]
      by_cases d : inR s k n = true
      · rw [if_pos d, if_neg (show ¬ (1 : Int32) = 0 by decide), tk, Option.bind_some]
        by_cases t : tkS (s 7) n k = true
        · rw [if_pos t, if_neg (show ¬ (1 : Int32) = 0 by decide)]
          unfold g_L_isSo_b458
          exact finF (fun q => by have := q.2.2.2; rw [t] at this; cases this)
        · rw [if_neg t, if_pos rfl]
          exact fin (b := true) ⟨fun _ => ⟨hp, by rw [Int.toNat_natCast]; omega, d, Bool.eq_false_iff.mpr t⟩, fun _ => rfl⟩
      · rw [if_neg d, if_pos rfl]
        unfold g_L_isSo_b458
        exact finF (fun q => absurd q.2.2.1 d)
    rw [g_L_isSo_l366, if_neg (show ¬ (400 : Int32) ≤ iv (n : Nat) from fun e => by have := (iv_le (a := 400) (by decide) (ibn (by omega))).mp e; omega), show (400 : Int32) + iv (n : Nat) = iv ((400 + n : Nat) : Int) from iv_add 400 _, la_four (by decide) (by omega), Option.bind_some, hL.1.1.2.1 n (by omega), iv_sub]
    have e0 : ((0 : Int32) ≤ iv (s 3 n - lvS (s 3) (s 7) k)) ↔ 0 ≤ s 3 n - lvS (s 3) (s 7) k := iv_le (a := 0) (by decide) (ib_s (by omega))
    by_cases c : 0 ≤ s 3 n - lvS (s 3) (s 7) k
    · rw [if_pos (e0.mpr c), show iv (s 3 n - lvS (s 3) (s 7) k) = iv ((s 3 n - lvS (s 3) (s 7) k).natAbs : Int) by congr 1; omega]
      exact main
    · rw [if_neg (fun e => c (e0.mp e)), iv_neg, show iv (-(s 3 n - lvS (s 3) (s 7) k)) = iv ((s 3 n - lvS (s 3) (s 7) k).natAbs : Int) by congr 1; omega]
      exact main
end
end
