/-! footholds -/
def elS (s : MSt) (k : Nat) (p : Int) : Prop := nB p ∧ (s 3 p.toNat - lvS (s 3) (s 7) k).natAbs ≤ 2 ∧ inR s k p = true ∧ tkS (s 7) p k = false
def coS (s : MSt) (k : Nat) (p : Int) : Int := 10 * ((s 3 p.toNat - lvS (s 3) (s 7) k).natAbs : Int) + faS s k p
def bsP (s : MSt) (k : Nat) (r : Int) : Prop := (r = -1 ∧ ∀ q, ¬ elS s k q) ∨ (elS s k r ∧ ∀ q, elS s k q → coS s k r < coS s k q ∨ (coS s k r = coS s k q ∧ r ≤ q))
section
variable {s : MSt} {z f : Nat → Nat → Int32}
theorem bs_uniq {k : Nat} {r r' : Int} (h : bsP s k r) (h' : bsP s k r') : r = r' := by
  rcases h with ⟨h1, h2⟩ | ⟨h1, h2⟩
  · rcases h' with ⟨g1, g2⟩ | ⟨g1, g2⟩
    · rw [h1, g1]
    · exact absurd g1 (h2 _)
  · rcases h' with ⟨g1, g2⟩ | ⟨g1, g2⟩
    · exact absurd h1 (g2 _)
    · have a := h2 _ g1
      have b := g2 _ h1
      omega
theorem far8 {a b : Int} (h : a * a + b * b ≤ 36) : (a.natAbs : Int) + b.natAbs ≤ 8 := by
  have e1 : ((a.natAbs : Int) + b.natAbs) * ((a.natAbs : Int) + b.natAbs) ≤ 72 := by
    have h1 : ((a.natAbs : Int) - b.natAbs) * ((a.natAbs : Int) - b.natAbs) ≥ 0 := hg_sq0 _
    have h2 : (a.natAbs : Int) * a.natAbs = a * a := Int.natAbs_mul_self
    have h3 : (b.natAbs : Int) * b.natAbs = b * b := Int.natAbs_mul_self
    have h4 : ((a.natAbs : Int) + b.natAbs) * ((a.natAbs : Int) + b.natAbs) = 2 * ((a.natAbs : Int) * a.natAbs + (b.natAbs : Int) * b.natAbs) - ((a.natAbs : Int) - b.natAbs) * ((a.natAbs : Int) - b.natAbs) := by grind
    rw [h2, h3] at h4
    omega
  apply Classical.byContradiction
  intro q
  have h9 : 9 ≤ (a.natAbs : Int) + b.natAbs := by omega
  have : 9 * 9 ≤ ((a.natAbs : Int) + b.natAbs) * ((a.natAbs : Int) + b.natAbs) := Int.mul_le_mul h9 h9 (by decide) (by omega)
  omega
theorem el_far (hB : BD s) {k : Nat} (hk : k < 6) {p : Int} (h : elS s k p) : 0 ≤ faS s k p ∧ faS s k p ≤ 8 := by
  have bl := bd_leg hB hk
  have hr := of_decide_eq_true h.2.2.1
  have n3 := sqb (a := s 6 k) (A := 6) (by omega)
  have := far8 (a := (pt p).1 - hxS s k) (b := (pt p).2 - hyS s k) (by omega)
  unfold faS
  omega
def dxS (s : MSt) (k : Nat) (q : Int) : Int := (pt q).1 - hxS s k
def dyS (s : MSt) (k : Nat) (q : Int) : Int := (pt q).2 - hyS s k
theorem fa_d {k : Nat} {q : Int} : faS s k q = ((dxS s k q).natAbs : Int) + (dyS s k q).natAbs := rfl
def vsP (s : MSt) (k : Nat) (far wy sd : Int) (q : Int) : Prop := faS s k q < far ∨ (faS s k q = far ∧ (dyS s k q < wy ∨ (dyS s k q = wy ∧ (1 < sd ∨ (sd = 1 ∧ dxS s k q ≤ 0)))))
def ivP (s : MSt) (k : Nat) (far wy sd best least : Int) : Prop := (best = -1 ∧ least = 2147483647 ∧ ∀ q, elS s k q → ¬ vsP s k far wy sd q) ∨ (elS s k best ∧ vsP s k far wy sd best ∧ least = coS s k best ∧ ∀ q, elS s k q → vsP s k far wy sd q → coS s k best < coS s k q ∨ (coS s k best = coS s k q ∧ best ≤ q))
theorem lv_bd (hB : BD s) {but : Int} : 0 ≤ lvS (s 3) (s 7) but ∧ lvS (s 3) (s 7) but ≤ 9 := lvN_bd hB.1.2.2.2 hB.2.2.2 6 0 0 (by decide) (by decide) (by decide)
theorem iv_cg {k : Nat} {far wy sd far' wy' sd' best least : Int} (h : ∀ q, elS s k q → (vsP s k far wy sd q ↔ vsP s k far' wy' sd' q)) (hi : ivP s k far wy sd best least) : ivP s k far' wy' sd' best least := by
  rcases hi with ⟨a, b, c⟩ | ⟨a, b, c, d⟩
  · exact Or.inl ⟨a, b, fun q hq hv => c q hq ((h q hq).mpr hv)⟩
  · exact Or.inr ⟨a, (h _ a).mp b, c, fun q hq hv => d q hq ((h q hq).mpr hv)⟩
theorem cb_step (hk : KO s) {k : Nat} (hk6 : k < 6) {a0 : Nat} (hL : LF s z f) (hP : PS a0 s z f) {k42 : Nat → Int32 → Int32 → Int32 → Int32 → Int32 → Int32 → Int32 → Int32 → (Nat → Nat → Int32) → (Nat → Nat → Int32) → Option Int32} {k61 : Nat → Int32 → Int32 → Int32 → Int32 → Int32 → Int32 → Int32 → Int32 → Int32 → (Nat → Nat → Int32) → (Nat → Nat → Int32) → Option Int32} {far wy sd best least : Int} (hfar : 0 ≤ far ∧ far ≤ 8) (hwy : -far ≤ wy ∧ wy ≤ far) (hsd : sd = -1 ∨ sd = 1) (hi : ivP s k far wy sd best least) (fu : Nat) : ∃ best' least', ivP s k far wy (sd + 2) best' least' ∧ g_X9_bestPoint_l81 k42 k61 (fu + 1) a0 (iv k) (iv (lvS (s 3) (s 7) k)) (iv (hxS s k)) (iv (hyS s k)) (iv (s 6 k)) (iv best) (iv least) (iv far) (iv wy) (iv (far - wy.natAbs)) (iv sd) z f = g_X9_bestPoint_l81 k42 k61 fu a0 (iv k) (iv (lvS (s 3) (s 7) k)) (iv (hxS s k)) (iv (hyS s k)) (iv (s 6 k)) (iv best') (iv least') (iv far) (iv wy) (iv (far - wy.natAbs)) (iv (sd + 2)) z f := by
  have hB := ko_bd hk
  have bl := bd_leg hB hk6
  have bb := hB.2.2.1
  have lb := lv_bd hB (but := (k : Int))
  have hx : -6 ≤ hxS s k ∧ hxS s k ≤ 25 := by unfold hxS; omega
  have hy : -6 ≤ hyS s k ∧ hyS s k ≤ 25 := by unfold hyS; omega
  have lst : 0 ≤ least ∧ least ≤ 2147483647 := by
    rcases hi with ⟨-, b, -⟩ | ⟨a, -, c, -⟩
    · omega
    · have := el_far hB hk6 a
      have := hB.1.2.2.2 best.toNat (nB_nat a.1).2
      rw [c]
      unfold coS
      omega
  have ws : -8 ≤ sd * (far - wy.natAbs) ∧ sd * (far - wy.natAbs) ≤ 8 ∧ (sd * (far - wy.natAbs)).natAbs = (far - wy.natAbs).natAbs ∧ (sd * (far - wy.natAbs)) * (sd * (far - wy.natAbs)) = (far - wy.natAbs) * (far - wy.natAbs) ∧ (sd = -1 → sd * (far - wy.natAbs) ≤ 0) ∧ (sd = 1 → 0 ≤ sd * (far - wy.natAbs)) := by
    rcases hsd with rfl | rfl
    · rw [show (-1 : Int) * (far - wy.natAbs) = -(far - wy.natAbs) by omega]
      refine ⟨by omega, by omega, by omega, by grind, fun _ => by omega, fun e => by omega⟩
    · rw [show (1 : Int) * (far - wy.natAbs) = far - wy.natAbs by omega]
      refine ⟨by omega, by omega, rfl, rfl, fun e => by omega, fun _ => by omega⟩
  -- what is newly seen is the one point
  have new : ∀ q, nB q → (vsP s k far wy (sd + 2) q ↔ vsP s k far wy sd q ∨ q = paS (hxS s k + sd * (far - wy.natAbs)) (hyS s k + wy)) := fun q hq => by
    have pq := pt_bd hq
    have fd : faS s k q = ((dxS s k q).natAbs : Int) + (dyS s k q).natAbs := rfl
    have ex : dxS s k q = (pt q).1 - hxS s k := rfl
    have ey : dyS s k q = (pt q).2 - hyS s k := rfl
    constructor
    · intro h
      unfold vsP at h ⊢
      by_cases c1 : faS s k q < far
      · exact Or.inl (Or.inl c1)
      · have h2 := h.resolve_left c1
        by_cases c2 : dyS s k q < wy
        · exact Or.inl (Or.inr ⟨h2.1, Or.inl c2⟩)
        · have h3 := h2.2.resolve_left c2
          by_cases c3 : dxS s k q = sd * (far - wy.natAbs)
          · right
            rcases paS_cs (hxS s k + sd * (far - wy.natAbs)) (hyS s k + wy) with ⟨n1, n2⟩ | ⟨n1, n2, n3⟩
            · exfalso; apply n2; omega
            · apply pt_inj
              rw [n2]
              exact Prod.ext (by show (pt q).1 = _; omega) (by show (pt q).2 = _; omega)
          · left
            right
            refine ⟨h2.1, Or.inr ⟨h3.1, ?_⟩⟩
            rcases hsd with rfl | rfl
            · exfalso
              rcases h3.2 with r | r
              · omega
              · have := ws.2.2.2.2.1 rfl
                omega
            · right
              refine ⟨rfl, ?_⟩
              rw [show (1 : Int) * (far - wy.natAbs) = far - wy.natAbs by omega] at c3
              omega
    · rintro (h | h)
      · unfold vsP at h ⊢
        rcases h with h | ⟨h1, h | ⟨h2, h3⟩⟩
        · exact Or.inl h
        · exact Or.inr ⟨h1, Or.inl h⟩
        · exact Or.inr ⟨h1, Or.inr ⟨h2, Or.inl (by omega)⟩⟩
      · have n := (paS_cs (hxS s k + sd * (far - wy.natAbs)) (hyS s k + wy)).resolve_left (fun e => by rw [e.1] at h; unfold nB at hq; omega)
        rw [← h] at n
        have e1 : (pt q).1 = hxS s k + sd * (far - wy.natAbs) := by rw [n.2.1]
        have e2 : (pt q).2 = hyS s k + wy := by rw [n.2.1]
        unfold vsP
        right
        refine ⟨by omega, Or.inr ⟨by omega, ?_⟩⟩
        rcases hsd with rfl | rfl
        · exact Or.inr ⟨by omega, by have := ws.2.2.2.2.1 rfl; omega⟩
        · exact Or.inl (by omega)
  have same : (∀ q, elS s k q → q ≠ paS (hxS s k + sd * (far - wy.natAbs)) (hyS s k + wy)) → ivP s k far wy (sd + 2) best least := fun h => iv_cg (fun q hq => by
    rw [new q hq.1]
    exact ⟨Or.inl, fun r => r.resolve_right (h q hq)⟩) hi
  have e1 : ¬ (1 : Int32) < iv sd := fun q => by
    have := (iv_lt (a := 1) (by decide) (by omega)).mp q
    omega
  rw [g_X9_bestPoint_l81, if_neg e1, iv_mul, iv_add, iv_add, cp_pt (by omega) (by omega), Option.bind_some]
  unfold g_X9_bestPoint_b191
  rw [show (2 : Int32) = iv 2 from rfl, iv_add, iv_mul, iv_mul, iv_mul, iv_add]
  by_cases c : paS (hxS s k + sd * (far - wy.natAbs)) (hyS s k + wy) = -1
  · rw [if_pos (by rw [c]; rfl)]
    exact ⟨best, least, same (fun q hq e => by have := hq.1; rw [e, c] at this; unfold nB at this; omega), rfl⟩
  have hpp := (paS_cs (hxS s k + sd * (far - wy.natAbs)) (hyS s k + wy)).resolve_left (fun h => c h.1)
  generalize hpe : paS (hxS s k + sd * (far - wy.natAbs)) (hyS s k + wy) = p at *
  have hp := hpp.1
  have ibp : IB p := by unfold nB at hp; omega
  have px : (pt p).1 = hxS s k + sd * (far - wy.natAbs) := by rw [hpp.2.1]
  have py : (pt p).2 = hyS s k + wy := by rw [hpp.2.1]
  have dxp : dxS s k p = sd * (far - wy.natAbs) := by unfold dxS; omega
  have dyp : dyS s k p = wy := by unfold dyS; omega
  have fap : faS s k p = far := by rw [fa_d, dxp, dyp]; omega
  have mb : 0 ≤ s 3 p.toNat ∧ s 3 p.toNat ≤ 9 := hk 3 _
  have n1 := sqb (a := far - wy.natAbs) (A := 8) (by omega)
  have n2 := sqb (a := wy) (A := 8) (by omega)
  have n3 := sqb (a := s 6 k) (A := 6) (by omega)
  have hR : inR s k p = true ↔ (far - wy.natAbs) * (far - wy.natAbs) + wy * wy ≤ s 6 k * s 6 k := by
    unfold inR
    rw [decide_eq_true_iff, show (pt p).1 - hxS s k = sd * (far - wy.natAbs) by omega, show (pt p).2 - hyS s k = wy by omega, ws.2.2.2.1]
  have hco : coS s k p = 10 * ((s 3 p.toNat - lvS (s 3) (s 7) k).natAbs : Int) + far := by unfold coS; rw [fap]
  rw [if_neg (fun e => c ((m1_iv ibp).mp e)), rdP (mp := s 3) hL.1.2.2.2 hp, iv_sub, iv_abs (by omega), show (10 : Int32) = iv 10 from rfl, iv_mul, iv_add, ← hco]
  have i1 : (iv (s 6 k * s 6 k) < iv ((far - wy.natAbs) * (far - wy.natAbs) + wy * wy)) ↔ s 6 k * s 6 k < (far - wy.natAbs) * (far - wy.natAbs) + wy * wy := iv_lt (by omega) (by omega)
  have i2 : (iv 2 < iv ((s 3 p.toNat - lvS (s 3) (s 7) k).natAbs : Int)) ↔ 2 < ((s 3 p.toNat - lvS (s 3) (s 7) k).natAbs : Int) := iv_lt (by decide) (by omega)
  have i3 : (iv least ≤ iv (coS s k p)) ↔ least ≤ coS s k p := iv_le (by omega) (by omega)
  by_cases d1 : s 6 k * s 6 k < (far - wy.natAbs) * (far - wy.natAbs) + wy * wy
  · rw [if_pos (i1.mpr d1)]
    exact ⟨best, least, same (fun q hq e => by have := hR.mp (e ▸ hq.2.2.1); omega), rfl⟩
  rw [if_neg (fun q => d1 (i1.mp q))]
  by_cases d2 : 2 < ((s 3 p.toNat - lvS (s 3) (s 7) k).natAbs : Int)
  · rw [if_pos (i2.mpr d2)]
    exact ⟨best, least, same (fun q hq e => by have := hq.2.1; rw [e] at this; omega), rfl⟩
  rw [if_neg (fun q => d2 (i2.mp q))]
  by_cases d3 : least ≤ coS s k p
  · rw [if_pos (i3.mpr d3)]
    refine ⟨best, least, ?_, rfl⟩
    rcases hi with ⟨a, b, cc⟩ | ⟨a, b, cc, d⟩
    · omega
    · refine Or.inr ⟨a, (new best a.1).mpr (Or.inl b), cc, fun q hq hv => ?_⟩
      rcases (new q hq.1).mp hv with r | r
      · exact d q hq r
      · subst r
        by_cases g : coS s k best = coS s k q
        · refine Or.inr ⟨g, ?_⟩
          have fb := el_far hB hk6 a
          have eb : coS s k best = 10 * ((s 3 best.toNat - lvS (s 3) (s 7) k).natAbs : Int) + faS s k best := rfl
          have ff : faS s k best = far := by omega
          have pb := pt_bd a.1
          have pq := pt_bd hp
          have ib : best = 20 * (pt best).2 + (pt best).1 := (pt_fi best).symm
          have iq : q = 20 * (pt q).2 + (pt q).1 := (pt_fi q).symm
          have dyb : dyS s k best = (pt best).2 - hyS s k := rfl
          have dxb : dxS s k best = (pt best).1 - hxS s k := rfl
          unfold vsP at b
          rcases b with b | ⟨b1, b | ⟨b2, b3⟩⟩
          · omega
          · omega
          · rcases b3 with b3 | ⟨b3, b4⟩
            · omega
            · have := ws.2.2.2.2.2 b3
              omega
        · left; omega
  · rw [if_neg (fun q => d3 (i3.mp q)), cp_tk hB hP ibp (ibn (by omega)), Option.bind_some]
    by_cases d4 : tkS (s 7) p k = true
    · rw [if_pos d4, if_neg (by decide)]
      exact ⟨best, least, same (fun q hq e => by have := hq.2.2.2; rw [e, d4] at this; cases this), rfl⟩
    · have he : elS s k p := ⟨hp, by omega, hR.mpr (by omega), by simpa using d4⟩
      rw [if_neg d4, if_pos rfl]
      refine ⟨p, coS s k p, Or.inr ⟨he, (new p hp).mpr (Or.inr rfl), rfl, fun q hq hv => ?_⟩, rfl⟩
      rcases (new q hq.1).mp hv with r | r
      · rcases hi with ⟨a, b, cc⟩ | ⟨a, b, cc, d⟩
        · exact absurd r (cc q hq)
        · have := d q hq r
          left; omega
      · subst r; exact Or.inr ⟨rfl, Int.le_refl _⟩
theorem cb_ring (hk : KO s) {k : Nat} (hk6 : k < 6) {a0 : Nat} (hL : LF s z f) (hP : PS a0 s z f) {k42 : Nat → Int32 → Int32 → Int32 → Int32 → Int32 → Int32 → Int32 → Int32 → (Nat → Nat → Int32) → (Nat → Nat → Int32) → Option Int32} {far : Int} (hfar : 0 ≤ far ∧ far ≤ 8) : ∀ (n fu : Nat) (wy best least : Int), wy + n = far + 1 → -far ≤ wy → n < fu → ivP s k far wy (-1) best least → ∃ best' least', ivP s k (far + 1) (-(far + 1)) (-1) best' least' ∧ g_X9_bestPoint_l61 k42 fu a0 (iv k) (iv (lvS (s 3) (s 7) k)) (iv (hxS s k)) (iv (hyS s k)) (iv (s 6 k)) (iv best) (iv least) (iv far) (iv wy) z f = k42 a0 (iv k) (iv (lvS (s 3) (s 7) k)) (iv (hxS s k)) (iv (hyS s k)) (iv (s 6 k)) (iv best') (iv least') (iv (far + 1)) z f := by
  intro n
  induction n with
  | zero =>
    intro fu wy best least hw hw2 hf hi
    obtain ⟨fu, rfl⟩ : ∃ x, fu = x + 1 := ⟨fu - 1, by omega⟩
    refine ⟨best, least, iv_cg (fun q hq => ?_) hi, ?_⟩
    · have fd : faS s k q = ((dxS s k q).natAbs : Int) + (dyS s k q).natAbs := rfl
      unfold vsP
      constructor
      · rintro (h | ⟨h1, -⟩)
        · exact Or.inl (by omega)
        · exact Or.inl (by omega)
      · rintro (h | ⟨h1, h | ⟨h2, h3⟩⟩)
        · by_cases c : faS s k q < far
          · exact Or.inl c
          · exact Or.inr ⟨by omega, Or.inl (by omega)⟩
        · omega
        · omega
    · rw [g_X9_bestPoint_l61, if_pos ((iv_lt (by omega) (by omega)).mpr (by omega)), show (1 : Int32) = iv 1 from rfl, iv_add]
  | succ n ih =>
    intro fu wy best least hw hw2 hf hi
    obtain ⟨fu, rfl⟩ : ∃ x, fu = x + 1 := ⟨fu - 1, by omega⟩
    rw [g_X9_bestPoint_l61, if_neg (fun e => by have := (iv_lt (by omega) (by omega)).mp e; omega), iv_abs (by omega), iv_sub, show (-1 : Int32) = iv (-1) from rfl]
    obtain ⟨b1, l1, i1, e1⟩ := cb_step hk hk6 hL hP (k42 := k42) (k61 := fun y0 y1 y2 y3 y4 y5 y6 y7 y8 y9 z f => g_X9_bestPoint_l61 k42 fu y0 y1 y2 y3 y4 y5 y6 y7 y8 y9 z f) hfar (wy := wy) (sd := -1) (by omega) (Or.inl rfl) hi 1999
    obtain ⟨b2, l2, i2, e2⟩ := cb_step hk hk6 hL hP (k42 := k42) (k61 := fun y0 y1 y2 y3 y4 y5 y6 y7 y8 y9 z f => g_X9_bestPoint_l61 k42 fu y0 y1 y2 y3 y4 y5 y6 y7 y8 y9 z f) hfar (wy := wy) (sd := 1) (by omega) (Or.inr rfl) i1 1998
    have i3 : ivP s k far (wy + 1) (-1) b2 l2 := iv_cg (fun q hq => by
      unfold vsP
      constructor
      · rintro (h | ⟨h1, h | ⟨h2, h3⟩⟩)
        · exact Or.inl h
        · exact Or.inr ⟨h1, Or.inl (by omega)⟩
        · exact Or.inr ⟨h1, Or.inl (by omega)⟩
      · rintro (h | ⟨h1, h | ⟨h2, h3⟩⟩)
        · exact Or.inl h
        · by_cases c : dyS s k q < wy
          · exact Or.inr ⟨h1, Or.inl c⟩
          · exact Or.inr ⟨h1, Or.inr ⟨by omega, Or.inl (by omega)⟩⟩
        · omega) i2
    obtain ⟨b3, l3, i4, e4⟩ := ih fu (wy + 1) b2 l2 (by omega) (by omega) (by omega) i3
    refine ⟨b3, l3, i4, ?_⟩
    refine Eq.trans e1 (Eq.trans e2 ?_)
    rw [g_X9_bestPoint_l81, if_pos (show (1 : Int32) < iv (1 + 2) by decide), show (1 : Int32) = iv 1 from rfl, iv_add]
    exact e4
theorem cb_far (hk : KO s) {k : Nat} (hk6 : k < 6) {a0 : Nat} (hL : LF s z f) (hP : PS a0 s z f) : ∀ (n fu : Nat) (far best least : Int), far + n = 9 → 0 ≤ far → n < fu → ivP s k far (-far) (-1) best least → ∃ r, bsP s k r ∧ g_X9_bestPoint_l42 fu a0 (iv k) (iv (lvS (s 3) (s 7) k)) (iv (hxS s k)) (iv (hyS s k)) (iv (s 6 k)) (iv best) (iv least) (iv far) z f = some (iv r) := by
  have hB := ko_bd hk
  have fin : ∀ far best least : Int, ivP s k far (-far) (-1) best least → (9 ≤ far ∨ least ≤ far) → 0 ≤ far → far ≤ 9 → bsP s k best := fun far best least hi hd h0 h9 => by
    have vs : ∀ q, elS s k q → vsP s k far (-far) (-1) q → faS s k q < far := fun q hq hv => by
      have fd : faS s k q = ((dxS s k q).natAbs : Int) + (dyS s k q).natAbs := rfl
      unfold vsP at hv
      omega
    rcases hi with ⟨a, b, c⟩ | ⟨a, b, c, d⟩
    · refine Or.inl ⟨a, fun q hq => c q hq (Or.inl ?_)⟩
      have := el_far hB hk6 hq
      omega
    · refine Or.inr ⟨a, fun q hq => ?_⟩
      by_cases v : vsP s k far (-far) (-1) q
      · exact d q hq v
      · have fq := el_far hB hk6 hq
        have fb := el_far hB hk6 a
        have v1 := vs _ a b
        have v2 : ¬ faS s k q < far := fun e => v (Or.inl e)
        have e1 : coS s k best = 10 * ((s 3 best.toNat - lvS (s 3) (s 7) k).natAbs : Int) + faS s k best := rfl
        have e2 : coS s k q = 10 * ((s 3 q.toNat - lvS (s 3) (s 7) k).natAbs : Int) + faS s k q := rfl
        left
        omega
  intro n
  induction n with
  | zero =>
    intro fu far best least hf h0 hfu hi
    obtain ⟨fu, rfl⟩ : ∃ x, fu = x + 1 := ⟨fu - 1, by omega⟩
    refine ⟨best, fin far best least hi (Or.inl (by omega)) h0 (by omega), ?_⟩
    rw [g_X9_bestPoint_l42, if_pos (show (8 : Int32) < iv far from (iv_lt (a := 8) (by decide) (by omega)).mpr (by omega))]
  | succ n ih =>
    intro fu far best least hf h0 hfu hi
    obtain ⟨fu, rfl⟩ : ∃ x, fu = x + 1 := ⟨fu - 1, by omega⟩
    have lst : 0 ≤ least ∧ least ≤ 2147483647 := by
      rcases hi with ⟨-, b, -⟩ | ⟨a, -, c, -⟩
      · omega
      · have := el_far hB hk6 a
        have := hB.1.2.2.2 best.toNat (nB_nat a.1).2
        have := lv_bd hB (but := (k : Int))
        rw [c]
        unfold coS
        omega
    rw [g_X9_bestPoint_l42, if_neg (fun e => by have := (iv_lt (a := 8) (by decide) (by omega)).mp e; omega)]
    have il : (iv least ≤ iv far) ↔ least ≤ far := iv_le (by omega) (by omega)
    by_cases c : least ≤ far
    · rw [if_pos (il.mpr c)]
      exact ⟨best, fin far best least hi (Or.inr c) h0 (by omega), rfl⟩
    · rw [if_neg (fun q => c (il.mp q)), iv_neg]
      obtain ⟨b1, l1, i1, e1⟩ := cb_ring hk hk6 hL hP (k42 := fun y0 y1 y2 y3 y4 y5 y6 y7 y8 z f => g_X9_bestPoint_l42 fu y0 y1 y2 y3 y4 y5 y6 y7 y8 z f) (far := far) (by omega) (far + far + 1).toNat FU (-far) best least (by omega) (by omega) (by show _ < 2000; omega) hi
      obtain ⟨r, h1, h2⟩ := ih fu (far + 1) b1 l1 (by omega) (by omega) (by omega) i1
      exact ⟨r, h1, e1.trans h2⟩
theorem cp_best (hk : KO s) {k : Nat} (hk6 : k < 6) {a0 : Nat} (hL : LF s z f) (hP : PS a0 s z f) : ∃ r, bsP s k r ∧ g_X9_bestPoint a0 (iv k) z f = some (iv r) := by
  have hB := ko_bd hk
  unfold g_X9_bestPoint g_X9_hipX g_X9_hipY
  rw [cp_level hB hL hP (ibn (by omega)), Option.bind_some, Option.bind_some, Option.bind_some, rdR_iv hk6 (by decide), rdR_iv hk6 (by decide), rdR_iv hk6 (by decide), hP.1, hP.2.1, hL.2.1.1 k hk6, hL.2.1.2.1 k hk6, hL.2.1.2.2 k hk6, iv_add, iv_add]
  obtain ⟨r, h1, h2⟩ := cb_far hk hk6 hL hP 9 FU 0 (-1) 2147483647 (by decide) (by decide) (by decide) (Or.inl ⟨rfl, rfl, fun q hq hv => by
    have fd : faS s k q = ((dxS s k q).natAbs : Int) + (dyS s k q).natAbs := rfl
    unfold vsP at hv
    omega⟩)
  rw [show iv (-1) = (-1 : Int32) from rfl, show iv 0 = (0 : Int32) from rfl, show iv 2147483647 = (2147483647 : Int32) from rfl] at h2
  exact ⟨r, h1, h2⟩
end
