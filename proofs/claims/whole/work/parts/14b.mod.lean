section
variable {s : MSt} {z f : Nat → Nat → Int32}
/-! reach, far, slipping -/
theorem mo_reach (hB : BD s) (hL : LM s z f) {k : Nat} (hk : k < 6) {p : Int} (hp : nB p) : g_X11_isInReach (iv k) (iv (pt p).1) (iv (pt p).2) z f = some (if inR s k p then 1 else 0) := by
  have pb := pt_bd hp
  have b := hB.2.2.1
  have bl := bd_leg hB hk
  unfold g_X11_isInReach
  simp only [ix_iv hk (show 6 < 1000 by decide), Option.bind_some, ma hL 71 4 6 (by decide) k hk, ma hL 72 5 6 (by decide) k hk, ma hL 73 6 6 (by decide) k hk, mz hL 5 4, mz hL 6 5, iv_sub, iv_mul, iv_add]
  have n1 := sqb (a := (pt p).1 - s 8 4 - s 4 k) (A := 30) (by omega)
  have n2 := sqb (a := (pt p).2 - s 8 5 - s 5 k) (A := 30) (by omega)
  have n3 := sqb (a := s 6 k) (A := 6) (by omega)
  unfold inR hxS hyS
  rw [show (pt p).1 - (s 8 4 + s 4 k) = (pt p).1 - s 8 4 - s 4 k by omega, show (pt p).2 - (s 8 5 + s 5 k) = (pt p).2 - s 8 5 - s 5 k by omega]
  simp only [iv_lt (show IB (s 6 k * s 6 k) by omega) (show IB (((pt p).1 - s 8 4 - s 4 k) * ((pt p).1 - s 8 4 - s 4 k) + ((pt p).2 - s 8 5 - s 5 k) * ((pt p).2 - s 8 5 - s 5 k)) by omega)]
  by_cases c : s 6 k * s 6 k < ((pt p).1 - s 8 4 - s 4 k) * ((pt p).1 - s 8 4 - s 4 k) + ((pt p).2 - s 8 5 - s 5 k) * ((pt p).2 - s 8 5 - s 5 k)
  · rw [if_pos c, decide_eq_false (by omega)]; rfl
  · rw [if_neg c, decide_eq_true (by omega)]; rfl
theorem mo_far (hB : BD s) (hL : LM s z f) {k : Nat} (hk : k < 6) {p : Int} (hp : nB p) : g_X11_far (iv k) (iv (pt p).1) (iv (pt p).2) z f = some (iv (faS s k p)) := by
  have pb := pt_bd hp
  have b := hB.2.2.1
  have bl := bd_leg hB hk
  unfold g_X11_far g_X11_far_b43 faS hxS hyS
  simp only [ix_iv hk (show 6 < 1000 by decide), Option.bind_some, ma hL 71 4 6 (by decide) k hk, ma hL 72 5 6 (by decide) k hk, mz hL 5 4, mz hL 6 5, iv_sub, iv_neg, iv_add]
  have e0 : ∀ {a : Int}, IB a → ((0 : Int32) ≤ iv a ↔ 0 ≤ a) := fun h => iv_le (a := 0) (by decide) h
  simp only [e0 (show IB ((pt p).1 - s 8 4 - s 4 k) by omega), e0 (show IB ((pt p).2 - s 8 5 - s 5 k) by omega)]
  by_cases c : 0 ≤ (pt p).1 - s 8 4 - s 4 k
  · rw [if_pos c]
    by_cases d : 0 ≤ (pt p).2 - s 8 5 - s 5 k
    · rw [if_pos d]; congr 2; omega
    · rw [if_neg d]; congr 2; omega
  · rw [if_neg c]
    by_cases d : 0 ≤ (pt p).2 - s 8 5 - s 5 k
    · rw [if_pos d]; congr 2; omega
    · rw [if_neg d]; congr 2; omega
theorem mo_isPt {x y : Int} (hx : IB x) (hy : IB y) : g_X11_isPoint (iv x) (iv y) z f = some (if paS x y ≠ -1 then 1 else 0) := by
  have e : ∀ {a : Int}, IB a → g_X11_isIn (iv a) 0 19 z f = some (if 0 ≤ a ∧ a ≤ 19 then 1 else 0) := fun {a} h => by
    unfold g_X11_isIn
    have e0 : (iv a < (0 : Int32)) ↔ a < 0 := iv_lt (b := 0) h (by decide)
    have e1 : ((19 : Int32) < iv a) ↔ 19 < a := iv_lt (a := 19) (by decide) h
    by_cases c : a < 0
    · rw [if_pos (e0.mpr c), if_neg (by omega)]
    · rw [if_neg (fun q => c (e0.mp q))]
      by_cases d : 19 < a
      · rw [if_pos (e1.mpr d), if_neg (by omega)]
      · rw [if_neg (fun q => d (e1.mp q)), if_pos (by omega)]
  unfold g_X11_isPoint
  rw [e hx, Option.bind_some, e hy]
  rcases paS_cs x y with ⟨h1, h2⟩ | ⟨h1, h2, h3⟩
  · rw [if_neg (show ¬ paS x y ≠ -1 from fun q => q h1)]
    by_cases c : 0 ≤ x ∧ x ≤ 19
    · rw [if_pos c, if_neg (by decide), Option.bind_some, if_neg (show ¬ (0 ≤ y ∧ y ≤ 19) by omega), if_pos rfl]
    · rw [if_neg c, if_pos rfl]
  · rw [if_pos (show paS x y ≠ -1 by unfold nB at h1; omega), if_pos (show 0 ≤ x ∧ x ≤ 19 by omega), if_neg (by decide), Option.bind_some, if_pos (show 0 ≤ y ∧ y ≤ 19 by omega), if_neg (by decide)]
theorem mo_at2 {x y : Int} (hp : nB (paS x y)) : g_X11_at (iv x) (iv y) z f = some (iv ((paS x y).toNat : Nat)) := by
  have h := (paS_cs x y).resolve_left (fun h => by unfold nB at hp; omega)
  have := mo_at (z := z) (f := f) hp
  rw [h.2.1] at this
  exact this
def slI (s : MSt) (p l r : Int) : Prop := (r = -1 ∧ l = s 0 p.toNat - s 2 p.toNat) ∨ (nB r ∧ l = s 0 r.toNat ∧ s 0 r.toNat < s 0 p.toNat - s 2 p.toNat)
theorem mo_b62 (hB : BD s) (hL : LM s z f) {p : Int} (hp : nB p) {k5 : Int32 → Int32 → Int32 → Int32 → (Nat → Nat → Int32) → (Nat → Nat → Int32) → Option Int32} {x y l r : Int} {i : Nat} (hx : IB x) (hy : IB y) (hI : slI s p l r) : g_X11_slips_b62 k5 (iv (pt p).1) (iv (pt p).2) (iv r) (iv i) (iv x) (iv y) z f = k5 (iv (pt p).1) (iv (pt p).2) (iv (if paS x y = -1 ∨ l ≤ s 0 (paS x y).toNat then r else paS x y)) (iv ((i + 1 : Nat) : Int)) z f ∧ slI s p (if paS x y = -1 ∨ l ≤ s 0 (paS x y).toNat then l else s 0 (paS x y).toNat) (if paS x y = -1 ∨ l ≤ s 0 (paS x y).toNat then r else paS x y) := by
  unfold g_X11_slips_b62 g_X11_slips_b114 g_X11_slips_b115 g_X11_slips_b148 g_X11_slips_b152 g_X11_slips_b153 g_X11_slips_b171
  rw [mo_isPt hx hy, Option.bind_some]
  by_cases c : paS x y = -1
  · rw [if_neg (show ¬ paS x y ≠ -1 from fun q => q c), if_pos rfl, if_pos rfl, if_pos rfl, if_pos (Or.inl c), if_pos (Or.inl c), iv_1]
    exact ⟨rfl, hI⟩
  · have hq := ((paS_cs x y).resolve_left (fun h => c h.1)).1
    have bp := hB.1.1 p.toNat (nB_nat hp).2
    have bq := hB.1.1 (paS x y).toNat (nB_nat hq).2
    have b2 := hB.1.2.2.1 p.toNat (nB_nat hp).2
    rw [if_pos c, if_neg (by decide), mo_at hp, Option.bind_some, ix_iv (nB_nat hp).2 (by decide), Option.bind_some, mo_at2 hq, Option.bind_some, ix_iv (nB_nat hq).2 (by decide), Option.bind_some, Option.bind_some, ix_iv (nB_nat hp).2 (by decide), Option.bind_some, ma hL 67 0 400 (by decide) _ (nB_nat hp).2, ma hL 67 0 400 (by decide) _ (nB_nat hq).2, ma hL 69 2 400 (by decide) _ (nB_nat hp).2, iv_sub]
    have e1 : (iv (s 0 p.toNat - s 0 (paS x y).toNat) ≤ iv (s 2 p.toNat)) ↔ s 0 p.toNat - s 0 (paS x y).toNat ≤ s 2 p.toNat := iv_le (by omega) (by omega)
    by_cases d : s 0 p.toNat - s 0 (paS x y).toNat ≤ s 2 p.toNat
    · have hl : paS x y = -1 ∨ l ≤ s 0 (paS x y).toNat := by
        rcases hI with h | h <;> exact Or.inr (by omega)
      rw [if_pos (e1.mpr d), if_pos rfl, if_pos rfl, if_pos hl, if_pos hl, iv_1]
      exact ⟨rfl, hI⟩
    · rw [if_neg (fun q => d (e1.mp q)), if_neg (by decide)]
      rcases hI with h | h
      · have hl : ¬ (paS x y = -1 ∨ l ≤ s 0 (paS x y).toNat) := by rintro (q | q); exact c q; omega
        rw [if_pos (show iv r = (-1 : Int32) by rw [h.1]; rfl), if_neg (by decide), if_neg hl, if_neg hl, Option.bind_some, iv_1]
        refine ⟨?_, Or.inr ⟨hq, rfl, by omega⟩⟩
        congr 1
        rw [← (nB_nat hq).1]
      · have br := hB.1.1 r.toNat (nB_nat h.1).2
        rw [if_neg (fun e => by have := (m1_iv (by have := h.1; unfold nB at this; omega)).mp e; have := h.1; unfold nB at this; omega), Option.bind_some]
        have er : ixA 400 (iv r) = some r.toNat := by
          have := ix_iv (n := 400) (nB_nat h.1).2 (by decide)
          rw [← (nB_nat h.1).1] at this
          exact this
        rw [ix_iv (nB_nat hq).2 (by decide), Option.bind_some, er, Option.bind_some, ma hL 67 0 400 (by decide) _ (nB_nat h.1).2, ma hL 67 0 400 (by decide) _ (nB_nat hq).2]
        have e2 : (iv (s 0 r.toNat) ≤ iv (s 0 (paS x y).toNat)) ↔ s 0 r.toNat ≤ s 0 (paS x y).toNat := iv_le (by omega) (by omega)
        by_cases g : s 0 r.toNat ≤ s 0 (paS x y).toNat
        · have hl : paS x y = -1 ∨ l ≤ s 0 (paS x y).toNat := Or.inr (by omega)
          rw [if_pos (e2.mpr g), if_pos rfl, if_pos hl, if_pos hl, iv_1]
          exact ⟨rfl, Or.inr h⟩
        · have hl : ¬ (paS x y = -1 ∨ l ≤ s 0 (paS x y).toNat) := by rintro (q | q); exact c q; omega
          rw [if_neg (fun q => g (e2.mp q)), if_neg (by decide), if_neg hl, if_neg hl, Option.bind_some, iv_1]
          refine ⟨?_, Or.inr ⟨hq, rfl, by omega⟩⟩
          congr 1
          rw [← (nB_nat hq).1]
theorem mo_slips (hB : BD s) (hL : LM s z f) {p : Int} (hp : nB p) : g_X11_slips (iv (pt p).1) (iv (pt p).2) z f = some (iv (slS s p)) := by
  have pb := pt_bd hp
  have step : ∀ (fu i : Nat) (l r : Int), i < 4 → slI s p l r → g_X11_slips_l5 (fu + 1) (iv (pt p).1) (iv (pt p).2) (iv r) (iv i) z f = g_X11_slips_l5 fu (iv (pt p).1) (iv (pt p).2) (iv (if nbS p i = -1 ∨ l ≤ s 0 (nbS p i).toNat then r else nbS p i)) (iv ((i + 1 : Nat) : Int)) z f ∧ slI s p (if nbS p i = -1 ∨ l ≤ s 0 (nbS p i).toNat then l else s 0 (nbS p i).toNat) (if nbS p i = -1 ∨ l ≤ s 0 (nbS p i).toNat then r else nbS p i) := by
    intro fu i l r hi hI
    have mk : ∀ (x y : Int), IB x → IB y → _ := fun x y hx hy => mo_b62 hB hL hp (k5 := fun y0 y1 y2 y3 z f => g_X11_slips_l5 fu y0 y1 y2 y3 z f) (x := x) (y := y) (l := l) (r := r) (i := i) hx hy hI
    rw [g_X11_slips_l5, if_neg (n4 hi)]
    unfold g_X11_slips_b36
    rw [show (1 : Int32) = iv 1 from rfl, iv_sub, iv_add, iv_sub, iv_add]
    match i, hi with
    | 0, _ =>
      rw [if_neg (by decide), if_neg (by decide), if_pos (show iv ((0 : Nat) : Int) = (0 : Int32) from rfl)]
      exact mk (pt p).1 ((pt p).2 - 1) (by omega) (by omega)
    | 1, _ =>
      rw [if_pos (by decide), if_neg (by decide), if_neg (by decide)]
      exact mk ((pt p).1 - 1) (pt p).2 (by omega) (by omega)
    | 2, _ =>
      rw [if_neg (by decide), if_pos (by decide), if_neg (by decide), if_neg (by decide)]
      exact mk ((pt p).1 + 1) (pt p).2 (by omega) (by omega)
    | 3, _ =>
      rw [if_neg (by decide), if_neg (by decide), if_neg (by decide), if_pos (by decide)]
      exact mk (pt p).1 ((pt p).2 + 1) (by omega) (by omega)
  have key : ∀ (n fu i : Nat) (l r : Int), i + n = 4 → n < fu → slI s p l r → g_X11_slips_l5 fu (iv (pt p).1) (iv (pt p).2) (iv r) (iv i) z f = some (iv (slN s p n i l r)) := by
    intro n
    induction n with
    | zero =>
      intro fu i l r hi hf _
      obtain ⟨fu, rfl⟩ : ∃ x, fu = x + 1 := ⟨fu - 1, by omega⟩
      obtain rfl : i = 4 := by omega
      rw [g_X11_slips_l5, if_pos (by decide)]
      rfl
    | succ n ih =>
      intro fu i l r hi hf hI
      obtain ⟨fu, rfl⟩ : ∃ x, fu = x + 1 := ⟨fu - 1, by omega⟩
      obtain ⟨e, hI2⟩ := step fu i l r (by omega) hI
      rw [e]
      refine (ih fu (i + 1) _ _ (by omega) (by omega) hI2).trans ?_
      congr 2
      rw [slN]
      split <;> rfl
  have k0 := key 4 FU 0 (s 0 p.toNat - s 2 p.toNat) (-1) (by decide) (by decide) (Or.inl ⟨rfl, rfl⟩)
  rw [show iv (-1) = (-1 : Int32) from rfl, show iv ((0 : Nat) : Int) = (0 : Int32) from rfl] at k0
  exact k0
/-! steps of the state, in the model's cells -/
theorem arrsM_inj : ∀ q ∈ arrsM, ∀ q' ∈ arrsM, (q.1 = q'.1 ↔ q.2.1 = q'.2.1) ∧ q.2.1 < 7 ∧ 67 ≤ q.1 ∧ q.1 < 74 := by decide +kernel
theorem scalM_inj : ∀ q ∈ scalM, ∀ q' ∈ scalM, (q.1 = q'.1 ↔ q.2 = q'.2) ∧ q.1 ≠ 17 ∧ q.1 ≠ 20 ∧ q.1 ≠ 21 ∧ q.1 ≠ 28 ∧ q.1 ≠ 30 ∧ q.2 ≠ 10 := by decide +kernel
theorem ms_arr (h : MS s z f) {b a n k : Nat} {v : Int} (hq : (b, a, n) ∈ arrsM) : MS (us s a k v) z (upf f b k (iv v)) := by
  obtain ⟨-, h7, h67, h74⟩ := arrsM_inj _ hq _ hq
  simp only at h7 h67 h74
  have nf : ∀ c, 74 ≤ c → upf f b k (iv v) c = f c := fun c hc => upa_ne (by omega)
  have nr : ∀ a' j, 7 ≤ a' → us s a k v a' j = s a' j := fun a' j hc => us_na (by omega)
  refine ⟨⟨fun q hq' j hj => ?_, fun q hq' => ?_⟩, ?_, ?_, ?_⟩
  · have i := (arrsM_inj q hq' _ hq).1
    simp only at i
    have h0 := h.1.1 q hq' j hj
    unfold upf upa us upd
    by_cases c : q.1 = b
    · rw [if_pos c]
      by_cases d : j = k
      · rw [if_pos d, if_pos ⟨i.mp c, d⟩]
      · rw [if_neg d, if_neg (fun e => d e.2), ← c]; exact h0
    · rw [if_neg c, if_neg (fun e => c (i.mpr e.1))]; exact h0
  · rw [nr 8 _ (by decide)]; exact h.1.2 q hq'
  · rw [h.2.1]
    refine mk_cg fun j _ => ?_
    unfold dnS
    rw [nr 7 _ (by decide)]
  · unfold FX
    rw [nf 74 (by decide), nf 75 (by decide)]
    intro j hj
    rw [nr 7 _ (by decide)]
    exact h.2.2.1 j hj
  · unfold MX
    rw [nf 76 (by decide), nf 77 (by decide), nr 8 9 (by decide), nr 8 10 (by decide), nr 8 12 (by decide), nr 8 13 (by decide)]
    refine ⟨h.2.2.2.1, fun j h1 h2 => ?_, fun j h1 h2 => ?_⟩
    · rw [nr 9 _ (by decide), nr 10 _ (by decide), nr 11 _ (by decide)]; exact h.2.2.2.2.1 j h1 h2
    · rw [nr 12 _ (by decide), nr 13 _ (by decide), nr 14 _ (by decide), nr 15 _ (by decide), nr 16 _ (by decide)]; exact h.2.2.2.2.2 j h1 h2
theorem lm_sc (h : LM s z f) {c j : Nat} {v : Int} (hq : (c, j) ∈ scalM) : LM (us s 8 j v) (up2 z 66 c (iv v)) f := by
  refine ⟨fun q hq' k hk => ?_, fun q hq' => ?_⟩
  · have := (arrsM_inj _ hq' _ hq').2.1
    rw [us_na (by omega)]; exact h.1 q hq' k hk
  · have i := (scalM_inj q hq' _ hq).1
    simp only at i
    have h0 := h.2 q hq'
    unfold up2 us
    by_cases d : q.1 = c
    · rw [if_pos ⟨rfl, d⟩, if_pos ⟨rfl, i.mp d⟩]
    · rw [if_neg (fun e => d e.2), if_neg (fun e => d (i.mpr e.2))]; exact h0
theorem ms_sc (h : MS s z f) {c j : Nat} {v : Int} (hq : (c, j) ∈ scalM) (hj : j ≠ 9 ∧ j ≠ 12 ∧ j ≠ 13) : MS (us s 8 j v) (up2 z 66 c (iv v)) f := by
  obtain ⟨-, n17, n20, n21, -, -, n10⟩ := scalM_inj _ hq _ hq
  simp only at n17 n20 n21 n10
  have nz : ∀ i, i ≠ c → up2 z 66 c (iv v) 66 i = z 66 i := fun i hi => if_neg (fun e => hi e.2)
  refine ⟨lm_sc h.1 hq, ?_, ?_, ?_⟩
  · rw [nz 17 (fun e => n17 e.symm), h.2.1]
    exact mk_cg fun k _ => by unfold dnS; rw [us_na (by decide)]
  · intro k hk
    rw [us_na (by decide)]
    exact h.2.2.1 k hk
  · unfold MX
    rw [nz 20 (fun e => n20 e.symm), nz 21 (fun e => n21 e.symm), us_nk (fun e => hj.1 e.symm), us_nk (fun e => n10 e.symm), us_nk (fun e => hj.2.1 e.symm), us_nk (fun e => hj.2.2 e.symm)]
    refine ⟨h.2.2.2.1, fun k h1 h2 => ?_, fun k h1 h2 => ?_⟩
    · rw [us_na (by decide), us_na (by decide), us_na (by decide)]; exact h.2.2.2.2.1 k h1 h2
    · rw [us_na (by decide), us_na (by decide), us_na (by decide), us_na (by decide), us_na (by decide)]; exact h.2.2.2.2.2 k h1 h2
theorem ms_30 (h : MS s z f) {v : Int32} : MS s (up2 z 66 30 v) f := by
  have nz : ∀ i, i ≠ 30 → up2 z 66 30 v 66 i = z 66 i := fun i hi => if_neg (fun e => hi e.2)
  refine ⟨⟨h.1.1, fun q hq => ?_⟩, ?_, h.2.2.1, ?_⟩
  · rw [nz _ (scalM_inj q hq q hq).2.2.2.2.2.1]; exact h.1.2 q hq
  · rw [nz 17 (by decide)]; exact h.2.1
  · unfold MX
    rw [nz 20 (by decide), nz 21 (by decide)]; exact h.2.2.2
/-- the first that was broken -/
theorem ms_first (h : MS s z f) {w p : Int} : MS (us (us s 8 9 w) 8 10 p) (up2 (up2 (up2 z 66 19 (iv w)) 66 20 (iv (pt p).1)) 66 21 (iv (pt p).2)) f := by
  have nz : ∀ i, i ≠ 19 → i ≠ 20 → i ≠ 21 → up2 (up2 (up2 z 66 19 (iv w)) 66 20 (iv (pt p).1)) 66 21 (iv (pt p).2) 66 i = z 66 i := fun i h1 h2 h3 => by
    unfold up2
    rw [if_neg (fun e => h3 e.2), if_neg (fun e => h2 e.2), if_neg (fun e => h1 e.2)]
  have l1 := lm_sc h.1 (c := 19) (j := 9) (v := w) (by decide)
  refine ⟨⟨fun q hq k hk => ?_, fun q hq => ?_⟩, ?_, ?_, ?_⟩
  · have := (arrsM_inj _ hq _ hq).2.1
    rw [us_na (by omega)]; exact l1.1 q hq k hk
  · obtain ⟨-, n17, n20, n21, -, -, n10⟩ := scalM_inj _ hq _ hq
    rw [us_nk n10]
    have : up2 (up2 (up2 z 66 19 (iv w)) 66 20 (iv (pt p).1)) 66 21 (iv (pt p).2) 66 q.1 = up2 z 66 19 (iv w) 66 q.1 := by
      show (if _ then _ else (if _ then _ else _)) = _
      rw [if_neg (fun e => n21 e.2), if_neg (fun e => n20 e.2)]
    rw [this]
    exact l1.2 q hq
  · rw [nz 17 (by decide) (by decide) (by decide), h.2.1]
    exact mk_cg fun k _ => by unfold dnS; rw [us_na (by decide), us_na (by decide)]
  · intro k hk
    rw [us_na (by decide), us_na (by decide)]
    exact h.2.2.1 k hk
  · unfold MX
    rw [us_at]
    refine ⟨fun _ => ⟨?_, ?_⟩, fun k h1 h2 => ?_, fun k h1 h2 => ?_⟩
    · unfold up2; rw [if_neg (by decide), if_pos (by decide)]
    · exact up2_same
    · rw [us_nk (by decide), us_nk (by decide)] at h2
      rw [us_na (by decide), us_na (by decide), us_na (by decide), us_na (by decide), us_na (by decide), us_na (by decide)]; exact h.2.2.2.2.1 k h1 h2
    · rw [us_nk (by decide), us_nk (by decide)] at h2
      rw [us_na (by decide), us_na (by decide), us_na (by decide), us_na (by decide), us_na (by decide), us_na (by decide), us_na (by decide), us_na (by decide), us_na (by decide), us_na (by decide)]; exact h.2.2.2.2.2 k h1 h2
theorem us_comm {a k a' k' : Nat} {v w : Int} (h : ¬ (a = a' ∧ k = k')) : us (us s a k v) a' k' w = us (us s a' k' w) a k v := by
  funext b j
  unfold us
  by_cases c : b = a ∧ j = k
  · rw [if_neg (show ¬ (b = a' ∧ j = k') by omega), if_pos c, if_pos c]
  · rw [if_neg c]
    by_cases d : b = a' ∧ j = k'
    · rw [if_pos d, if_neg c]
    · rw [if_neg d, if_neg c]
theorem us_id {a k : Nat} : us s a k (s a k) = s := by
  funext b j
  unfold us
  by_cases c : b = a ∧ j = k
  · rw [if_pos c, c.1, c.2]
  · rw [if_neg c]
theorem mo_breaks (h : MS s z f) (hk : KO s) {w p : Int} : ∃ z', g_X11_breaks (iv w) (iv (pt p).1) (iv (pt p).2) z f = some (z', f) ∧ MS (tellS s w p) z' f ∧ Fc z f z' f := by
  have h8 := ko_8 hk
  have h22 : ∀ {s : MSt} {z : Nat → Nat → Int32}, MS s z f → IB (s 8 11) → ∃ z', g_X11_breaks_b22 (iv w) z f = some (z', f) ∧ MS (us (if s 8 11 = 0 then us s 8 11 w else s) 8 8 (wr ((if s 8 11 = 0 then us s 8 11 w else s) 8 8 + 1))) z' f ∧ Fc z f z' f := by
    intro s z h hb
    have g1 := ms_sc h (c := 18) (j := 8) (v := wr (s 8 8 + 1)) (by decide) (by decide)
    unfold g_X11_breaks_b22 g_X11_breaks_b48 lt2
    dsimp only
    rw [mz h.1 18 8, show (1 : Int32) = iv 1 from rfl, iv_add, ← wr_iv, show up2 z 66 18 (iv (wr (s 8 8 + 1))) 66 22 = z 66 22 from if_neg (by decide), mz h.1 22 11]
    by_cases c : s 8 11 = 0
    · rw [if_pos ((z_iv hb).mpr c), if_pos c, us_nk (by decide), us_comm (by decide)]
      exact ⟨_, rfl, ms_sc g1 (c := 22) (j := 11) (v := w) (by decide) (by decide), fc_tr fc_z fc_z⟩
    · rw [if_neg (fun e => c ((z_iv hb).mp e)), if_neg c]
      have g2 := ms_sc g1 (c := 22) (j := 11) (v := s 8 11) (by decide) (by decide)
      rw [show us (us s 8 8 (wr (s 8 8 + 1))) 8 11 (s 8 11) = us s 8 8 (wr (s 8 8 + 1)) by rw [us_comm (by decide), us_id]] at g2
      exact ⟨_, rfl, g2, fc_tr fc_z fc_z⟩
  unfold g_X11_breaks tellS lt2
  dsimp only
  rw [mz h.1 18 8]
  by_cases c : s 8 8 = 0
  · rw [if_pos ((z_iv (by omega)).mpr c)]
    simp only [if_pos c]
    obtain ⟨z', e1, e2, e3⟩ := h22 (ms_first h (w := w) (p := p)) (by rw [us_nk (by decide), us_nk (by decide)]; omega)
    exact ⟨z', e1, e2, fc_tr (fc_tr (fc_z) (fc_tr fc_z fc_z)) e3⟩
  · rw [if_neg (fun e => c ((z_iv (by omega)).mp e))]
    simp only [if_neg c]
    exact h22 h (by omega)
/-- a foot comes down -/
theorem mo_down2 (h : MS s z f) {k : Nat} (hk : k < 6) {p : Int} (hp : nB p) : ∃ z' f', g_X11_comesDown (iv k) (iv (pt p).1) (iv (pt p).2) z f = some (z', f') ∧ MS (us s 7 k p) z' f' ∧ Fc z f z' f' := by
  have hp1 : p ≠ -1 := by unfold nB at hp; omega
  unfold g_X11_comesDown lt2
  dsimp only
  rw [ix_iv hk (by decide), Option.bind_some, Option.bind_some, h.2.1, dn_or hk hp1]
  refine ⟨_, _, rfl, ⟨?_, up2_same, ?_, ?_⟩, fc_tr (fc_f (by decide)) (fc_tr (fc_f (by decide)) fc_z)⟩
  · have l1 := lm_us7 h.1 (k := k) (v := p)
    refine ⟨fun q hq j hj => ?_, fun q hq => ?_⟩
    · have := (arrsM_inj _ hq _ hq).2.2.2
      rw [upf_up, upa_ne (by omega), upf_up, upa_ne (by omega)]; exact l1.1 q hq j hj
    · have := (scalM_inj _ hq _ hq).2.1
      rw [show up2 z 66 17 (mk (dnS (us s 7 k p))) 66 q.1 = z 66 q.1 from if_neg (fun e => this e.2)]; exact l1.2 q hq
  · intro j hj hne
    have e74 : upf (upf f 74 k (iv (pt p).1)) 75 k (iv (pt p).2) 74 = upd (f 74) k (iv (pt p).1) := by rw [upf_up, upa_ne (by decide), upf_up, upa_same]
    have e75 : upf (upf f 74 k (iv (pt p).1)) 75 k (iv (pt p).2) 75 = upd (f 75) k (iv (pt p).2) := by rw [upf_up, upa_same, upf_up, upa_ne (by decide)]
    rw [e74, e75]
    by_cases e : j = k
    · subst e; rw [us_at, upd_at, upd_at]; exact ⟨rfl, rfl⟩
    · rw [us_nk e] at hne ⊢
      rw [upd_ne e, upd_ne e]; exact h.2.2.1 j hj hne
  · have m := h.2.2.2
    unfold MX at m ⊢
    rw [show up2 z 66 17 (mk (dnS (us s 7 k p))) 66 20 = z 66 20 from if_neg (by decide), show up2 z 66 17 (mk (dnS (us s 7 k p))) 66 21 = z 66 21 from if_neg (by decide), upf_up, upa_ne (show 76 ≠ 75 by decide), upa_ne (show 77 ≠ 75 by decide), upf_up, upa_ne (show 76 ≠ 74 by decide), upa_ne (show 77 ≠ 74 by decide)]
    exact m
end
