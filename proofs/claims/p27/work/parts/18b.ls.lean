/-! the law's rows hold the state -/
def h4 (f : Nat → Nat → Int32) (a p : Nat) : Int := (nbl (lg f a (p / 16)) 4 (p % 16) : Nat)
def h8 (f : Nat → Nat → Int32) (p : Nat) : Int := (nbl (lg f 68 (p / 8)) 8 (p % 8) : Nat)
theorem lg_u {f : Nat → Nat → Int32} {a b j k : Nat} {v : Int64} : lg (ulg f b j v) a k = if a = b ∧ k = j then v else lg f a k := by
  by_cases h : a = b
  · subst h
    rw [← lg_at]
    unfold vp_updL
    by_cases c : k = j
    · rw [if_pos c, if_pos ⟨rfl, c⟩]
    · rw [if_neg c, if_neg (fun q => c q.2)]
  · rw [if_neg (fun q => h q.1)]
    unfold lg ulg
    rw [upa_ne h]
theorem ulg_ne {f : Nat → Nat → Int32} {a b j : Nat} {v : Int64} (h : a ≠ b) : ulg f b j v a = f a := by
  unfold ulg
  exact upa_ne h
theorem lgf_cg {f f' : Nat → Nat → Int32} {a : Nat} (h : f' a = f a) : lg f' a = lg f a := by
  unfold lg
  rw [h]
theorem h4_cg {f f' : Nat → Nat → Int32} {a : Nat} (h : f' a = f a) (p : Nat) : h4 f' a p = h4 f a p := by
  unfold h4
  rw [lgf_cg h]
theorem h8_cg {f f' : Nat → Nat → Int32} (h : f' 68 = f 68) (p : Nat) : h8 f' p = h8 f p := by
  unfold h8
  rw [lgf_cg h]
theorem iv_d {p d : Nat} (hp : p < 100000) (hd : 0 < d) (hd' : d < 100000) : iv (p : Nat) / iv (d : Nat) = iv ((p / d : Nat) : Int) := by
  rw [iv_div (by omega) (by omega) (by omega) (by omega)]
  rfl
theorem iv_m {p d : Nat} (hp : p < 100000) (hd : 0 < d) (hd' : d < 100000) : jrem (iv (p : Nat)) (iv (d : Nat)) = iv ((p % d : Nat) : Int) := by
  rw [iv_rem (by omega) (by omega) (by omega) (by omega)]
  rfl
theorem h4_sc {p : Nat} (hp : p < 100000) : 4 * jrem (iv (p : Nat)) 16 = iv ((4 * (p % 16) : Nat) : Int) := by
  rw [show (16 : Int32) = iv (16 : Nat) from rfl, iv_m hp (by decide) (by decide), show (4 : Int32) = iv 4 from rfl, iv_mul]
  rfl
theorem h8_sc {p : Nat} (hp : p < 100000) : 8 * jrem (iv (p : Nat)) 8 = iv ((8 * (p % 8) : Nat) : Int) := by
  rw [show jrem (iv (p : Nat)) 8 = jrem (iv (p : Nat)) (iv (8 : Nat)) from rfl, iv_m hp (by decide) (by decide), show (8 : Int32) = iv 8 from rfl, iv_mul]
  rfl
theorem la_four {f : Nat → Nat → Int32} {n a p : Nat} (hn : n ≤ 50) (hp : p < 16 * n) : g_L_four n a (iv (p : Nat)) f = some (iv (h4 f a p)) := by
  unfold g_L_four
  rw [h4_sc (by omega), show (16 : Int32) = iv (16 : Nat) from rfl, iv_d (by omega) (by decide) (by decide), ix_iv (by omega) (by omega), Option.map_some]
  congr 1
  exact nbl_rd (by decide) lb_15 (by omega)
theorem la_sets {f : Nat → Nat → Int32} {n a p : Nat} (hn : n ≤ 50) (hp : p < 16 * n) {v : Int} (hv : 0 ≤ v ∧ v < 16) : ∃ f', g_L_sets n a (iv (p : Nat)) (iv v) f = some f' ∧ (∀ q, h4 f' a q = if q = p then v else h4 f a q) ∧ ∀ b, b ≠ a → f' b = f b := by
  obtain ⟨w, rfl⟩ : ∃ w : Nat, v = (w : Int) := ⟨v.toNat, by omega⟩
  unfold g_L_sets
  rw [h4_sc (by omega), show (16 : Int32) = iv (16 : Nat) from rfl, iv_d (by omega) (by decide) (by decide), ix_iv (by omega) (by omega), Option.map_some]
  refine ⟨_, rfl, fun q => ?_, fun b hb => ?_⟩
  · have key := fun j (hj : j < 16) => nbl_wr (x := lg f a (p / 16)) (M := 15) (w := 4) (i := p % 16) (j := j) (v := w) (by decide) lb_15 (by omega) (by omega) (by omega)
    unfold h4
    dsimp only
    rw [lg_u]
    by_cases c : q / 16 = p / 16
    · rw [if_pos ⟨rfl, c⟩, lg_u, if_pos ⟨rfl, rfl⟩, key (q % 16) (Nat.mod_lt _ (by decide))]
      by_cases d : q = p
      · rw [if_pos d, if_pos (by rw [d])]
      · rw [if_neg d, if_neg (fun e => d (by omega)), c]
    · rw [if_neg (fun e => c e.2), lg_u, if_neg (fun e => c e.2), if_neg (fun e => c (by rw [e]))]
  · rw [ulg_ne hb, ulg_ne hb]
theorem la_firm {z f : Nat → Nat → Int32} {p : Nat} (hp : p < 400) : g_L_firm (iv (p : Nat)) z f = some (iv (h8 f p)) := by
  unfold g_L_firm
  rw [h8_sc (by omega), show iv (p : Nat) / 8 = iv (p : Nat) / iv (8 : Nat) from rfl, iv_d (by omega) (by decide) (by decide), ix_iv (by omega) (by omega), Option.bind_some]
  congr 1
  exact nbl_rd (by decide) lb_255 (by omega)
/-- the land -/
def LA (s : MSt) (f : Nat → Nat → Int32) : Prop := (∀ p, p < 400 → h4 f 66 p = s 0 p) ∧ (∀ p, p < 400 → h4 f 66 (400 + p) = s 3 p) ∧ (∀ p, p < 400 → h4 f 67 p = s 2 p) ∧ ∀ p, p < 400 → h8 f p = s 1 p
def legV (s : MSt) (k : Nat) : Int := s 4 k + 5 + 11 * (s 5 k + 5) + 121 * s 6 k
def scalL : List (Nat × Nat) := [(0, 6), (1, 4), (2, 5), (3, 7), (4, 1), (5, 2), (6, 3), (7, 0), (9, 8), (11, 12), (12, 13), (13, 14)]
/-- land, legs and numbers, but for the feet -/
def LM (s : MSt) (f : Nat → Nat → Int32) : Prop := LA s f ∧ (∀ k : Nat, k < 6 → (k : Int) < s 8 0 → f 69 k = iv (legV s k)) ∧ ∀ q ∈ scalL, f 74 q.1 = iv (s 8 q.2)
/-- the feet that are down -/
def FX (s : MSt) (f : Nat → Nat → Int32) : Prop := ∀ k, k < 6 → s 7 k ≠ -1 → f 70 k = iv (pt (s 7 k)).1 ∧ f 71 k = iv (pt (s 7 k)).2
def falV (s : MSt) (k : Nat) : Int := s 9 k + 9 * (s 10 k + 4 * s 11 k)
def phaV (s : MSt) (k : Nat) : Int := s 12 k + 8 * (s 13 k + 6) + 128 * (s 14 k + 6) + 2048 * (s 15 k + 1) + 8192 * (s 16 k + 1)
def MX (s : MSt) (f : Nat → Nat → Int32) : Prop := (s 8 9 ≠ 0 → f 74 10 = iv (s 8 9 + 4 * s 8 10)) ∧ (∀ k : Nat, k < 40 → (k : Int) < s 8 12 → f 73 k = iv (falV s k)) ∧ ∀ k : Nat, k < 8 → (k : Int) < s 8 13 → f 72 k = iv (phaV s k)
def LW (s : MSt) (f : Nat → Nat → Int32) : Prop := LM s f ∧ f 74 8 = mk (dnS s) ∧ FX s f ∧ MX s f
/-- and what the act has broken -/
def LX (s : MSt) (f : Nat → Nat → Int32) : Prop := LW s f ∧ f 74 14 = iv (s 8 11)
theorem lm_g {s : MSt} {f : Nat → Nat → Int32} (h : LM s f) (c j : Nat) (hq : (c, j) ∈ scalL := by decide) : f 74 c = iv (s 8 j) := h.2.2 _ hq
/-- what lies below 66 doesn't count -/
theorem ls_cg {s : MSt} {f f' : Nat → Nat → Int32} (h : ∀ a, 66 ≤ a → f' a = f a) (hS : LW s f) : LW s f' := by
  obtain ⟨⟨⟨a1, a2, a3, a4⟩, l, g⟩, m, x, m1, m2, m3⟩ := hS
  refine ⟨⟨⟨fun p hp => ?_, fun p hp => ?_, fun p hp => ?_, fun p hp => ?_⟩, ?_, ?_⟩, ?_, ?_, ?_, ?_, ?_⟩
  · rw [h4_cg (h 66 (by decide))]; exact a1 p hp
  · rw [h4_cg (h 66 (by decide))]; exact a2 p hp
  · rw [h4_cg (h 67 (by decide))]; exact a3 p hp
  · rw [h8_cg (h 68 (by decide))]; exact a4 p hp
  · rw [h 69 (by decide)]; exact l
  · rw [h 74 (by decide)]; exact g
  · rw [h 74 (by decide)]; exact m
  · unfold FX; rw [h 70 (by decide), h 71 (by decide)]; exact x
  · rw [h 74 (by decide)]; exact m1
  · rw [h 73 (by decide)]; exact m2
  · rw [h 72 (by decide)]; exact m3
/-- what the class does leaves the law's rows -/
theorem fm_ls {s : MSt} {z f z' f' : Nat → Nat → Int32} (h : Fm z f z' f') (hS : LW s f) : LW s f' := ls_cg (fun a ha => (h a ha).2) hS
/-- what the law does leaves the class's cells -/
def Fl (f f' : Nat → Nat → Int32) : Prop := ∀ a, a < 66 → f' a = f a
theorem fl_rf {f : Nat → Nat → Int32} : Fl f f := fun _ _ => rfl
theorem fl_tr {f f1 f2 : Nat → Nat → Int32} (h : Fl f f1) (h2 : Fl f1 f2) : Fl f f2 := fun a ha => (h2 a ha).trans (h a ha)
theorem fl_u {f : Nat → Nat → Int32} {b j : Nat} {v : Int32} (h : 66 ≤ b) : Fl f (upf f b j v) := fun a ha => by
  rw [upf_up]
  exact upa_ne (by omega)
theorem fl_cs {s : MSt} {z f f' : Nat → Nat → Int32} (h : Fl f f') (hc : CS s z f) : CS s z f' := by
  have n1 : ∀ q ∈ arrsC, q.1 < 66 := by decide +kernel
  exact ⟨fun q hq k hk => by rw [h q.1 (n1 q hq)]; exact hc.1 q hq k hk, hc.2⟩
theorem upf_ne {f : Nat → Nat → Int32} {a b j : Nat} {v : Int32} (h : a ≠ b) : upf f b j v a = f a := by
  rw [upf_up]
  exact upa_ne h
theorem upf_g {f : Nat → Nat → Int32} {b j k : Nat} {v : Int32} : upf f b j v b k = if k = j then v else f b k := by
  rw [upf_up, upa_same]
  rfl
