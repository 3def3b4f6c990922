/-! what the law asks of the class, in numbers -/
section
variable {s : MSt} {z f : Nat → Nat → Int32}
def dvC (es : List Int) (c : Nat) (v : Int) : Int32 := if c = 0 then iv v else iv (es.getD (c - 1) 0)
def wrL : List String → List Int → Prop
  | [], [] => True
  | n :: ns, e :: es => wrE n = some (iv e) ∧ wrL ns es
  | _, _ => False
theorem wr_I : wrE nIOB = some (iv (-3000000)) := by
  unfold wrE
  rw [if_pos rfl]
  rfl
theorem wr_A : wrE nIAE = some (iv (-2000000)) := by
  unfold wrE
  rw [if_neg (show ¬ nIAE = nIOB by decide +kernel), if_pos rfl]
  rfl
theorem wr_S : wrE nISE = some (iv (-1000000)) := by
  unfold wrE
  rw [if_neg (show ¬ nISE = nIOB by decide +kernel), if_neg (show ¬ nISE = nIAE by decide +kernel), if_pos rfl]
  rfl
theorem wr_get : ∀ {ns : List String} {es : List Int}, wrL ns es → ∀ {i : Nat}, i < ns.length → wrE (ns.getD i "") = some (iv (es.getD i 0))
  | [], [], _, _, hi => absurd hi (Nat.not_lt_zero _)
  | _ :: _, _ :: _, h, 0, _ => h.1
  | _ :: ns, _ :: es, h, i + 1, hi => wr_get (ns := ns) (es := es) h.2 (i := i) (Nat.lt_of_succ_lt_succ hi)
theorem dq_w {ns : List String} {es : List Int} {c : Nat} {v : Int} {z' f' : Nat → Nat → Int32} {x : Option ((Int32 ⊕ String) × (Nat → Nat → Int32) × (Nat → Nat → Int32))} (e : x = some (rsC ns c v, z', f')) (hl : wrL ns es) (hc : c ≤ ns.length) : wrGw x = some (dvC es c v, z', f') := by
  subst e
  unfold wrGw rsC dvC
  by_cases h : c = 0
  · rw [if_pos h, if_pos h]; rfl
  · rw [if_neg h, if_neg h]
    show (wrE _).map _ = _
    rw [wr_get hl (by omega)]
    rfl
theorem dq_r {ns : List String} {es : List Int} {c : Nat} {v : Int} {x : Option (Int32 ⊕ String)} (e : x = some (rsC ns c v)) (hl : wrL ns es) (hc : c ≤ ns.length) : wrGr z f x = some (dvC es c v, z, f) := by
  subst e
  unfold wrGr rsC dvC
  by_cases h : c = 0
  · rw [if_pos h, if_pos h]; rfl
  · rw [if_neg h, if_neg h]
    show (wrE _).map _ = _
    rw [wr_get hl (by omega)]
    rfl
theorem wl_A : wrL [nIAE] [-2000000] := ⟨wr_A, trivial⟩
theorem wl_S : wrL [nISE] [-1000000] := ⟨wr_S, trivial⟩
theorem wl_I : wrL [nIOB] [-3000000] := ⟨wr_I, trivial⟩
theorem wl_AS : wrL [nIAE, nISE] [-2000000, -1000000] := ⟨wr_A, wr_S, trivial⟩
theorem wl_IS : wrL [nIOB, nISE] [-3000000, -1000000] := ⟨wr_I, wr_S, trivial⟩
theorem wl_IA : wrL [nIOB, nIAE] [-3000000, -2000000] := ⟨wr_I, wr_A, trivial⟩
theorem wl_IAS : wrL [nIOB, nIAE, nISE] [-3000000, -2000000, -1000000] := ⟨wr_I, wr_A, wr_S, trivial⟩
section
variable {a b c d e : Int32}
theorem do_0 : g_L_does 0 a b c d e z f = wrGw (g_X10_ground a b c d e z f) := rfl
theorem do_1 : g_L_does 1 a b c d e z f = wrGw (g_X10_chart a b c z f) := rfl
theorem do_2 : g_L_does 2 a b c d e z f = wrGw (g_X10_leg a b c z f) := rfl
theorem do_3 : g_L_does 3 a b c d e z f = wrGw (g_X10_charge a z f) := rfl
theorem do_4 : g_L_does 4 a b c d e z f = wrGw (g_X10_phase a b c d e z f) := rfl
theorem do_5 : g_L_does 5 a b c d e z f = wrGw (g_X10_load a b c z f) := rfl
theorem do_6 : g_L_does 6 a b c d e z f = wrGw (g_X10_rise z f) := rfl
theorem do_7 : g_L_does 7 a b c d e z f = wrGw (g_X10_lift a z f) := rfl
theorem do_8 : g_L_does 8 a b c d e z f = wrGw (g_X10_place a b c z f) := rfl
theorem do_9 : g_L_does 9 a b c d e z f = wrGw (g_X10_shift a b z f) := rfl
theorem do_10 : g_L_does 10 a b c d e z f = wrGw (g_X10_walk a z f) := rfl
theorem do_11 : g_L_does 11 a b c d e z f = wrGw (g_X10_corner a z f) := rfl
theorem do_12 : g_L_does 12 a b c d e z f = wrGr z f (g_X10_fall a b z f) := rfl
theorem do_13 : g_L_does 13 a b c d e z f = wrGr z f (g_X10_point a b c z f) := rfl
theorem do_14 : g_L_does 14 a b c d e z f = wrGr z f (g_X10_foot a b z f) := rfl
end
def OK1 (n : Int) (o : Option (Int32 × (Nat → Nat → Int32) × (Nat → Nat → Int32))) : Prop := ∃ s' z' f', o = some ((1 : Int32), z', f') ∧ CS s' z' f' ∧ LW s' f' ∧ WF n s'
theorem dv_0 {es : List Int} {v : Int} : dvC es 0 v = iv v := rfl
theorem dv_s {es : List Int} {c : Nat} {v : Int} : dvC es (c + 1) v = iv (es.getD c 0) := rfl
/-- a byte of the firmness row -/
theorem la_setb {f : Nat → Nat → Int32} {p : Nat} (hp : p < 400) {v : Int} (hv : 0 ≤ v ∧ v < 256) (F : (Nat → Nat → Int32) → Option (Int32 × (Nat → Nat → Int32) × (Nat → Nat → Int32))) : ∃ f', ((ixA 50 (iv (p : Nat) / 8)).bind fun j4 => (ixA 50 (iv (p : Nat) / 8)).bind fun j5 => lt2 (ulg f 68 j5 ((lg f 68 j4) &&& ((255 <<< (Int32.toInt64 (8 * (jrem (iv (p : Nat)) 8)) &&& 63)) ^^^ ((-1))))) fun u6 => (ixA 50 (iv (p : Nat) / 8)).bind fun j7 => (ixA 50 (iv (p : Nat) / 8)).bind fun j8 => lt2 (ulg u6 68 j8 ((lg u6 68 j7) ||| ((Int32.toInt64 (iv v)) <<< (Int32.toInt64 (8 * (jrem (iv (p : Nat)) 8)) &&& 63)))) F) = F f' ∧ (∀ q, h8 f' q = if q = p then v else h8 f q) ∧ ∀ b, b ≠ 68 → f' b = f b := by
  obtain ⟨w, rfl⟩ : ∃ w : Nat, v = (w : Int) := ⟨v.toNat, by omega⟩
  rw [h8_sc (by omega), show iv (p : Nat) / 8 = iv (p : Nat) / iv (8 : Nat) from rfl, iv_d (by omega) (by decide) (by decide), ix_iv (by omega) (by omega)]
  simp only [Option.bind_some]
  unfold lt2
  refine ⟨_, rfl, fun q => ?_, fun b hb => ?_⟩
  · have key := fun j (hj : j < 8) => nbl_wr (x := lg f 68 (p / 8)) (M := 255) (w := 8) (i := p % 8) (j := j) (v := w) (by decide) lb_255 (by omega) (by omega) (by omega)
    unfold h8
    rw [lg_u]
    by_cases c : q / 8 = p / 8
    · rw [if_pos ⟨rfl, c⟩, lg_u, if_pos ⟨rfl, rfl⟩, key (q % 8) (Nat.mod_lt _ (by decide))]
      by_cases d : q = p
      · rw [if_pos d, if_pos (by rw [d])]
      · rw [if_neg d, if_neg (fun e => d (by omega)), c]
    · rw [if_neg (fun e => c e.2), lg_u, if_neg (fun e => c e.2), if_neg (fun e => c (by rw [e]))]
  · rw [ulg_ne hb, ulg_ne hb]
/-- a grip or a firmness -/
theorem lw_gf {f' : Nat → Nat → Int32} (h : LW s f) {a b p : Nat} {v : Int} (ha : (a = 2 ∧ b = 67 ∧ ∀ q, h4 f' 67 q = if q = p then v else h4 f 67 q) ∨ (a = 1 ∧ b = 68 ∧ ∀ q, h8 f' q = if q = p then v else h8 f q)) (hb : ∀ c, c ≠ b → f' c = f c) : LW (us s a p v) f' := by
  obtain ⟨⟨⟨a1, a2, a3, a4⟩, l, g⟩, m, x, m1, m2, m3⟩ := h
  have n : ∀ c, c ≠ 1 → c ≠ 2 → us s a p v c = s c := fun c h0 h3 => funext fun k => us_na (by rcases ha with ⟨rfl, -⟩ | ⟨rfl, -⟩ <;> assumption)
  have hf : ∀ c, c ≠ 67 → c ≠ 68 → f' c = f c := fun c h1 h2 => hb c (by rcases ha with ⟨-, rfl, -⟩ | ⟨-, rfl, -⟩ <;> assumption)
  refine ⟨⟨⟨fun q hq => ?_, fun q hq => ?_, fun q hq => ?_, fun q hq => ?_⟩, fun k hk hl => ?_, fun q hq => ?_⟩, ?_, fun k hk hd => ?_, fun h9 => ?_, fun k hk hl => ?_, fun k hk hl => ?_⟩
  · rw [h4_cg (hf 66 (by decide) (by decide)), n 0 (by decide) (by decide)]; exact a1 q hq
  · rw [h4_cg (hf 66 (by decide) (by decide)), n 3 (by decide) (by decide)]; exact a2 q hq
  · rcases ha with ⟨rfl, rfl, e⟩ | ⟨rfl, rfl, e⟩
    · rw [e]
      by_cases c : q = p
      · rw [if_pos c, c, us_at]
      · rw [if_neg c, us_nk c]; exact a3 q hq
    · rw [h4_cg (hb 67 (by decide)), us_na (by decide)]; exact a3 q hq
  · rcases ha with ⟨rfl, rfl, e⟩ | ⟨rfl, rfl, e⟩
    · rw [h8_cg (hb 68 (by decide)), us_na (by decide)]; exact a4 q hq
    · rw [e]
      by_cases c : q = p
      · rw [if_pos c, c, us_at]
      · rw [if_neg c, us_nk c]; exact a4 q hq
  · rw [n 8 (by decide) (by decide)] at hl
    rw [hf 69 (by decide) (by decide), l k hk hl]
    unfold legV
    rw [n 4 (by decide) (by decide), n 5 (by decide) (by decide), n 6 (by decide) (by decide)]
  · rw [hf 74 (by decide) (by decide), n 8 (by decide) (by decide)]; exact g q hq
  · rw [hf 74 (by decide) (by decide), m]
    refine mk_cg fun k _ => ?_
    unfold dnS
    rw [n 7 (by decide) (by decide)]
  · rw [n 7 (by decide) (by decide)] at hd ⊢
    rw [hf 70 (by decide) (by decide), hf 71 (by decide) (by decide)]
    exact x k hk hd
  · rw [n 8 (by decide) (by decide)] at h9 ⊢
    rw [hf 74 (by decide) (by decide)]
    exact m1 h9
  · rw [n 8 (by decide) (by decide)] at hl
    rw [hf 73 (by decide) (by decide), m2 k hk hl]
    unfold falV
    rw [n 9 (by decide) (by decide), n 10 (by decide) (by decide), n 11 (by decide) (by decide)]
  · rw [n 8 (by decide) (by decide)] at hl
    rw [hf 72 (by decide) (by decide), m3 k hk hl]
    unfold phaV
    rw [n 12 (by decide) (by decide), n 13 (by decide) (by decide), n 14 (by decide) (by decide), n 15 (by decide) (by decide), n 16 (by decide) (by decide)]
theorem fl_b {f' : Nat → Nat → Int32} {a : Nat} (h : 66 ≤ a) (hb : ∀ b, b ≠ a → f' b = f b) : Fl f f' := fun b hb' => hb b (by omega)
end
