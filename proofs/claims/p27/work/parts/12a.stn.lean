/-! what the state says of the machine; the class's stances hold it -/
theorem bn3_some {α β γ δ : Type} {a : α} {b : β} {c : γ} {k : α → β → γ → Option δ} : bn3 (some (a, b, c)) k = k a b c := rfl
theorem lt2_e {α β : Type} {x : α} {g : α → β} : lt2 x g = g x := rfl
def wS (s : MSt) : Int := 10 + s 8 1
def mxS (s : MSt) : Int := wS s * s 8 4 + s 8 1 * s 8 2
def myS (s : MSt) : Int := wS s * s 8 5 + s 8 1 * s 8 3
/-- whether the machine is stable, without the foot of one leg -/
def stB (s : MSt) (but : Int) : Bool := inB (wS s) (mxS s) (myS s) (flP (s 7) but)
def hxS (s : MSt) (k : Nat) : Int := s 8 4 + s 4 k
def hyS (s : MSt) (k : Nat) : Int := s 8 5 + s 5 k
def inR (s : MSt) (k : Nat) (p : Int) : Bool := decide (((pt p).1 - hxS s k) * ((pt p).1 - hxS s k) + ((pt p).2 - hyS s k) * ((pt p).2 - hyS s k) ≤ s 6 k * s 6 k)
def faS (s : MSt) (k : Nat) (p : Int) : Int := (((pt p).1 - hxS s k).natAbs : Int) + (((pt p).2 - hyS s k).natAbs : Int)
def BD (s : MSt) : Prop := (ftB (s 0) 0 9 ∧ ftB (s 1) 0 99 ∧ ftB (s 2) 0 9 ∧ ftB (s 3) 0 9) ∧ (∀ k, k < 6 → (-5 ≤ s 4 k ∧ s 4 k ≤ 5) ∧ (-5 ≤ s 5 k ∧ s 5 k ≤ 5) ∧ (0 ≤ s 6 k ∧ s 6 k ≤ 6)) ∧ ((0 ≤ s 8 0 ∧ s 8 0 ≤ 6) ∧ (0 ≤ s 8 1 ∧ s 8 1 ≤ 20) ∧ (-5 ≤ s 8 2 ∧ s 8 2 ≤ 5) ∧ (-5 ≤ s 8 3 ∧ s 8 3 ≤ 5) ∧ (-1 ≤ s 8 4 ∧ s 8 4 ≤ 20) ∧ (-1 ≤ s 8 5 ∧ s 8 5 ≤ 20)) ∧ ftOk (s 7)
def LF (s : MSt) (z f : Nat → Nat → Int32) : Prop := ((∀ k, k < 400 → f 8 k = iv (s 0 k)) ∧ (∀ k, k < 400 → f 10 k = iv (s 1 k)) ∧ (∀ k, k < 400 → f 12 k = iv (s 2 k)) ∧ (∀ k, k < 400 → f 14 k = iv (s 3 k))) ∧ ((∀ k, k < 6 → f 17 k = iv (s 4 k)) ∧ (∀ k, k < 6 → f 19 k = iv (s 5 k)) ∧ (∀ k, k < 6 → f 21 k = iv (s 6 k))) ∧ z 15 3 = iv (s 8 0) ∧ z 15 4 = iv (s 8 1) ∧ z 15 5 = iv (s 8 2) ∧ z 15 6 = iv (s 8 3)
def PS (a0 : Nat) (s : MSt) (z f : Nat → Nat → Int32) : Prop := z a0 4 = iv (s 8 4) ∧ z a0 5 = iv (s 8 5) ∧ ∀ k, k < 6 → f (a0 + 1 + 1) k = iv (s 7 k)
theorem cs_lf {s : MSt} {z f : Nat → Nat → Int32} (h : CS s z f) : LF s z f :=
  ⟨⟨h.1 (8, 0, 400) (by decide), h.1 (10, 1, 400) (by decide), h.1 (12, 2, 400) (by decide), h.1 (14, 3, 400) (by decide)⟩, ⟨h.1 (17, 4, 6) (by decide), h.1 (19, 5, 6) (by decide), h.1 (21, 6, 6) (by decide)⟩, h.2 (15, 3, 0) (by decide), h.2 (15, 4, 1) (by decide), h.2 (15, 5, 2) (by decide), h.2 (15, 6, 3) (by decide)⟩
theorem cs_ps {s : MSt} {z f : Nat → Nat → Int32} (h : CS s z f) : PS 22 s z f := ⟨h.2 (22, 4, 4) (by decide), h.2 (22, 5, 5) (by decide), h.1 (24, 7, 6) (by decide)⟩
/-- only the hull's cells differ -/
def HJ (z f z' f' : Nat → Nat → Int32) : Prop := (∀ a k, ¬ (a = 1 ∧ k = 2) → z' a k = z a k) ∧ ∀ b, b ≠ 3 → b ≠ 5 → f' b = f b
theorem hj_rf {z f : Nat → Nat → Int32} : HJ z f z f := ⟨fun _ _ _ => rfl, fun _ _ _ => rfl⟩
theorem hj_tr {z f z1 f1 z2 f2 : Nat → Nat → Int32} (h : HJ z f z1 f1) (h2 : HJ z1 f1 z2 f2) : HJ z f z2 f2 := ⟨fun a k q => (h2.1 a k q).trans (h.1 a k q), fun b q r => (h2.2 b q r).trans (h.2 b q r)⟩
theorem hj_mk {z f : Nat → Nat → Int32} {v : Int32} {c5 c3 : Nat → Int32} : HJ z f (up2 z 1 2 v) (upa (upa f 5 c5) 3 c3) := ⟨fun a k q => if_neg q, fun b q r => by rw [upa_ne q, upa_ne r]⟩
theorem hj_fm {z f z' f' : Nat → Nat → Int32} (h : HJ z f z' f') : Fm z f z' f' := fun a ha => ⟨funext fun k => h.1 a k (by omega), h.2 a (by omega) (by omega)⟩
theorem hj_cs {s : MSt} {z f z' f' : Nat → Nat → Int32} (h : HJ z f z' f') (hc : CS s z f) : CS s z' f' := by
  have n1 : ∀ q ∈ arrsC, q.1 ≠ 3 ∧ q.1 ≠ 5 := by decide +kernel
  have n2 : ∀ q ∈ scalC, ¬ (q.1 = 1 ∧ q.2.1 = 2) := by decide +kernel
  exact ⟨fun q hq k hk => by rw [h.2 _ (n1 q hq).1 (n1 q hq).2]; exact hc.1 q hq k hk, fun q hq => by rw [h.1 _ _ (n2 q hq)]; exact hc.2 q hq⟩
theorem hj_lf {s : MSt} {z f z' f' : Nat → Nat → Int32} (h : HJ z f z' f') (hc : LF s z f) : LF s z' f' := by
  obtain ⟨⟨a1, a2, a3, a4⟩, ⟨a5, a6, a7⟩, a8, a9, a10, a11⟩ := hc
  refine ⟨⟨?_, ?_, ?_, ?_⟩, ⟨?_, ?_, ?_⟩, ?_, ?_, ?_, ?_⟩
  all_goals first | (rw [h.2 _ (by decide) (by decide)]; assumption) | (rw [h.1 _ _ (by decide)]; assumption)
theorem hj_ps {a0 : Nat} {s : MSt} {z f z' f' : Nat → Nat → Int32} (ha : isSt a0) (h : HJ z f z' f') (hc : PS a0 s z f) : PS a0 s z' f' := by
  have n : a0 ≠ 1 ∧ a0 + 1 + 1 ≠ 3 ∧ a0 + 1 + 1 ≠ 5 := by unfold isSt at ha; omega
  exact ⟨(h.1 a0 4 (fun e => n.1 e.1)).trans hc.1, (h.1 a0 5 (fun e => n.1 e.1)).trans hc.2.1, fun k hk => by rw [h.2 _ n.2.1 n.2.2]; exact hc.2.2 k hk⟩
/-! points -/
def paS (x y : Int) : Int := if (0 ≤ x ∧ x < 20) ∧ 0 ≤ y ∧ y < 20 then 20 * y + x else -1
theorem paS_cs (x y : Int) : (paS x y = -1 ∧ ¬ ((0 ≤ x ∧ x < 20) ∧ 0 ≤ y ∧ y < 20)) ∨ (nB (paS x y) ∧ pt (paS x y) = (x, y) ∧ (0 ≤ x ∧ x < 20) ∧ 0 ≤ y ∧ y < 20) := by
  unfold paS
  by_cases h : (0 ≤ x ∧ x < 20) ∧ 0 ≤ y ∧ y < 20
  · rw [if_pos h]
    refine Or.inr ⟨by unfold nB; omega, ?_, h⟩
    unfold pt
    have e1 : (20 * y + x) % 20 = x := by omega
    have e2 : (20 * y + x) / 20 = y := by omega
    rw [e1, e2]
  · rw [if_neg h]; exact Or.inl ⟨rfl, h⟩
theorem cp_pt {x y : Int} (hx : IB x) (hy : IB y) {z f : Nat → Nat → Int32} : g_X10_pointAt (iv x) (iv y) z f = some (iv (paS x y)) := by
  unfold g_X10_pointAt paS
  have e0 : ∀ {a : Int}, IB a → (iv a < (0 : Int32) ↔ a < 0) := fun h => iv_lt (b := 0) h (by decide)
  have e1 : ∀ {a : Int}, IB a → ((20 : Int32) ≤ iv a ↔ 20 ≤ a) := fun h => iv_le (a := 20) (by decide) h
  simp only [e0 hx, e0 hy, e1 hx, e1 hy]
  by_cases c1 : x < 0
  · rw [if_pos c1, if_neg (by omega)]; rfl
  · rw [if_neg c1]
    by_cases c2 : 20 ≤ x
    · rw [if_pos c2, if_neg (by omega)]; rfl
    · rw [if_neg c2]
      by_cases c3 : y < 0
      · rw [if_pos c3, if_neg (by omega)]; rfl
      · rw [if_neg c3]
        by_cases c4 : 20 ≤ y
        · rw [if_pos c4, if_neg (by omega)]; rfl
        · rw [if_neg c4, if_pos (by omega), show (20 : Int32) = iv 20 from rfl, iv_mul, iv_add]
section
variable {a0 : Nat} {s : MSt} {z f : Nat → Nat → Int32}
theorem bd_leg (hB : BD s) {k : Nat} (hk : k < 6) : (-5 ≤ s 4 k ∧ s 4 k ≤ 5) ∧ (-5 ≤ s 5 k ∧ s 5 k ≤ 5) ∧ (0 ≤ s 6 k ∧ s 6 k ≤ 6) := hB.2.1 k hk
theorem bd_m (hB : BD s) : (-2000 ≤ mxS s ∧ mxS s ≤ 2000) ∧ (-2000 ≤ myS s ∧ myS s ≤ 2000) ∧ 0 < wS s ∧ wS s ≤ 30 := by
  have b := hB.2.2.1
  unfold mxS myS wS
  have n1 := bd_mul (a := 10 + s 8 1) (b := s 8 4) (A := 30) (B := 20) (by omega) (by omega)
  have n2 := bd_mul (a := 10 + s 8 1) (b := s 8 5) (A := 30) (B := 20) (by omega) (by omega)
  have n3 := bd_mul (a := s 8 1) (b := s 8 2) (A := 20) (B := 5) (by omega) (by omega)
  have n4 := bd_mul (a := s 8 1) (b := s 8 3) (A := 20) (B := 5) (by omega) (by omega)
  omega
theorem cp_mx (hL : LF s z f) (hP : PS a0 s z f) : g_X9_momentX a0 z f = some (iv (mxS s)) := by
  unfold g_X9_momentX mxS wS
  rw [hL.2.2.2.1, hL.2.2.2.2.1, hP.1, show (10 : Int32) = iv 10 from rfl]
  simp only [iv_mul, iv_add]
  congr 2
  grind
theorem cp_my (hL : LF s z f) (hP : PS a0 s z f) : g_X9_momentY a0 z f = some (iv (myS s)) := by
  unfold g_X9_momentY myS wS
  rw [hL.2.2.2.1, hL.2.2.2.2.2, hP.2.1, show (10 : Int32) = iv 10 from rfl]
  simp only [iv_mul, iv_add]
  congr 2
  grind
theorem cp_w (hL : LF s z f) : g_X2_weight z f = some (iv (wS s)) := by
  unfold g_X2_weight wS
  rw [hL.2.2.2.1, show (10 : Int32) = iv 10 from rfl, iv_add]
theorem rtZw_b {b : Bool} : rtZw (if b then 1 else 0) z f = some (if b then 1 else 0, z, f) := by
  cases b <;> rfl
theorem rtZ_b {b : Bool} : rtZ (if b then 1 else 0) = some (if b then 1 else 0) := by
  cases b <;> rfl
/-- the hull stands, and says whether the machine is stable -/
theorem cp_holds (ha : isSt a0) (hB : BD s) (hL : LF s z f) (hP : PS a0 s z f) {but : Int} (hbut : -1 ≤ but ∧ but < 6) : ∃ z' f' m c, g_X9_holdsWithout a0 (iv but) z f = some (if stB s but then 1 else 0, z', f') ∧ HJ z f z' f' ∧ corAt (s 7) but m c ∧ m ≤ 6 ∧ z' 1 2 = iv (m : Nat) ∧ ∀ j, j ≤ m → f' 3 j = iv (c j) := by
  have n : a0 ≠ 1 ∧ a0 + 1 + 1 ≠ 3 ∧ a0 + 1 + 1 ≠ 5 := by unfold isSt at ha; omega
  obtain ⟨m, c, c5, c3, q1, q2, q3, q4⟩ := cw_wrap hbut (a1 := a0 + 1) n.2.2 hB.2.2.2 (z := z) (f := f) hP.2.2
  have hj : HJ z f (up2 z 1 2 (iv (m : Nat))) (upa (upa f 5 c5) 3 c3) := hj_mk
  have hL' := hj_lf hj hL
  have hP' := hj_ps ha hj hP
  obtain ⟨b1, b2, b3⟩ := bd_m hB
  refine ⟨_, _, m, c, ?_, hj, q1, q2, up2_same, fun j hj => by rw [upa_same]; exact q4 j hj⟩
  unfold g_X9_holdsWithout
  rw [q3, bn2_some, cp_mx hL' hP', Option.bind_some, cp_my hL' hP', Option.bind_some, cp_w hL', Option.bind_some, ch_holds hB.2.2.2 q1 b1 b2 b3 up2_same (fun j hj => by rw [upa_same]; exact q4 j hj), Option.bind_some]
  exact rtZw_b
theorem cp_tk (hB : BD s) (hP : PS a0 s z f) {p but : Int} (hp : IB p) (hb : IB but) : g_X9_isTaken a0 (iv p) (iv but) z f = some (if tkS (s 7) p but then 1 else 0) :=
  ct_taken hB.2.2.2 hp hb hP.2.2 6 FU 0 (by decide) (by decide)
theorem cp_down (hB : BD s) (hP : PS a0 s z f) : g_X9_down a0 z f = some (iv (cnS (s 7) : Nat)) := ct_down hB.2.2.2 hP.2.2 6 FU 0 0 (by decide) (by decide)
theorem cp_level (hB : BD s) (hL : LF s z f) (hP : PS a0 s z f) {but : Int} (hb : IB but) : g_X9_level a0 (iv but) z f = some (iv (lvS (s 3) (s 7) but)) := ct_level hB.2.2.2 hB.1.2.2.2 hb hP.2.2 hL.1.2.2.2 6 FU 0 0 (by decide) (by decide) (by decide) (by decide)
def psS (s : MSt) : Int := prS (wS s) (cnS (s 7))
theorem cnS_le {ft : Nat → Int} : cnS ft ≤ 6 := by have := (cnN_le (ft := ft) 6 0 0).2; omega
theorem cp_press (hB : BD s) (hL : LF s z f) (hP : PS a0 s z f) : g_X9_pressure a0 z f = some (iv (psS s)) := by
  unfold g_X9_pressure
  rw [cp_w hL, Option.bind_some, cp_down hB hP, Option.bind_some, ru_pr (bd_m hB).2.2 cnS_le, Option.bind_some]
  rfl
/-- the legs that sink -/
def skS (s : MSt) (k : Nat) : Bool := skB (s 1) (s 7) (psS s) k
theorem cp_sink (hB : BD s) (hL : LF s z f) (hP : PS a0 s z f) : g_X9_sinking a0 z f = some (mk (skS s)) := by
  unfold g_X9_sinking
  rw [cp_press hB hL hP, Option.bind_some]
  have e : mk (fun k => decide (k < 0) && skB (s 1) (s 7) (psS s) k) = 0 := by
    rw [show (fun k => decide (k < 0) && skB (s 1) (s 7) (psS s) k) = fun _ => false from funext fun k => by simp]
    exact mk_none
  have := ct_sink (a0 := a0) (z := z) hB.2.2.2 hB.1.2.1 (prS_bd (bd_m hB).2.2 (cnS_le (ft := s 7))) hP.2.2 hL.1.2.1 6 FU 0 (by decide) (by decide)
  rw [show prS (wS s) (cnS (s 7)) = psS s from rfl, e] at this
  exact this
theorem sqb {a A : Int} (h : -A ≤ a ∧ a ≤ A) : 0 ≤ a * a ∧ a * a ≤ A * A := ⟨hg_sq0 a, (bd_mul h h).2⟩
theorem cp_reach (hB : BD s) (hL : LF s z f) (hP : PS a0 s z f) {k : Nat} (hk : k < 6) {p : Int} (hp : nB p) : g_X9_isInReach a0 (iv k) (iv p) z f = some (if inR s k p then 1 else 0) := by
  have pb := pt_bd hp
  have b := hB.2.2.1
  have bl := bd_leg hB hk
  unfold g_X9_isInReach g_X10_xOf g_X10_yOf g_X9_hipX g_X9_hipY
  simp only [Option.bind_some, rdR_iv hk (show 6 < 1000 by decide), hL.2.1.1 k hk, hL.2.1.2.1 k hk, hL.2.1.2.2 k hk, hP.1, hP.2.1, iv_x hp, iv_y hp, iv_add, iv_sub, iv_mul]
  have n1 := sqb (a := (pt p).1 - (s 8 4 + s 4 k)) (A := 30) (by omega)
  have n2 := sqb (a := (pt p).2 - (s 8 5 + s 5 k)) (A := 30) (by omega)
  have n3 := sqb (a := s 6 k) (A := 6) (by omega)
  unfold inR hxS hyS
  simp only [iv_lt (show IB (s 6 k * s 6 k) by omega) (show IB (((pt p).1 - (s 8 4 + s 4 k)) * ((pt p).1 - (s 8 4 + s 4 k)) + ((pt p).2 - (s 8 5 + s 5 k)) * ((pt p).2 - (s 8 5 + s 5 k))) by omega)]
  by_cases c : s 6 k * s 6 k < ((pt p).1 - (s 8 4 + s 4 k)) * ((pt p).1 - (s 8 4 + s 4 k)) + ((pt p).2 - (s 8 5 + s 5 k)) * ((pt p).2 - (s 8 5 + s 5 k))
  · rw [if_pos c, decide_eq_false (by omega)]; rfl
  · rw [if_neg c, decide_eq_true (by omega)]; rfl
theorem cp_far (hB : BD s) (hL : LF s z f) (hP : PS a0 s z f) {k : Nat} (hk : k < 6) {p : Int} (hp : nB p) : g_X9_far a0 (iv k) (iv p) z f = some (iv (faS s k p)) := by
  have pb := pt_bd hp
  have b := hB.2.2.1
  have bl := bd_leg hB hk
  unfold g_X9_far g_X10_xOf g_X10_yOf g_X9_hipX g_X9_hipY
  simp only [Option.bind_some, rdR_iv hk (show 6 < 1000 by decide), hL.2.1.1 k hk, hL.2.1.2.1 k hk, hP.1, hP.2.1, iv_x hp, iv_y hp, iv_add, iv_sub]
  rw [iv_abs (by unfold IB; omega), iv_abs (by unfold IB; omega), iv_add]
  rfl
end
