/-! the model's fewest: its two arrays lie behind the world -/
theorem jwE_mono {n m : Nat} {e : LCl} (h : n ≤ m) (hv : jwE n e = true) : jwE m e = true := by
  match e, hv with
  | .inr (ci, fs), hv =>
    refine List.all_eq_true.mpr fun v hm => ?_
    have := List.all_eq_true.mp hv v hm
    cases v with
    | ref a =>
      simp only [jwV, decide_eq_true_eq] at this ⊢
      exact this.elim (fun q => Or.inl (Nat.lt_of_lt_of_le q h)) Or.inr
    | _ => rfl
  | .inl (t, k, .inr (.inr (.inr (.inr f)))), hv =>
    refine List.all_eq_true.mpr fun j hm => ?_
    have := List.all_eq_true.mp hv j hm
    revert this
    show (match f j with | some a => decide (a < n) | none => true) = true → (match f j with | some a => decide (a < m) | none => true) = true
    cases f j with
    | none => exact fun h => h
    | some a =>
      simp only [decide_eq_true_eq]
      omega
  | .inl (t, k, .inl f), hv => rfl
  | .inl (t, k, .inr (.inl f)), hv => rfl
  | .inl (t, k, .inr (.inr (.inl f))), hv => rfl
  | .inl (t, k, .inr (.inr (.inr (.inl f)))), hv => rfl
def jkR (r : LWd) : Prop := ∀ n, r.all (jwE n) = true
set_option maxRecDepth 100000 in
theorem wA_ok0 {z f : Nat → Nat → Int32} : (wA z f []).all (jwE 79) = true := rfl
theorem wA_app {z f : Nat → Nat → Int32} {r : LWd} : wA z f r = wA z f [] ++ r := rfl
theorem wA_ln {z f : Nat → Nat → Int32} {r : LWd} : (wA z f r).length = 79 + r.length := by
  rw [wA_app, List.length_append]; rfl
theorem wA_ok {z f : Nat → Nat → Int32} {r : LWd} (hr : jkR r) : jwW (wA z f r) = true := by
  unfold jwW
  rw [wA_ln, wA_app, List.all_append, hr]
  have : (wA z f []).all (jwE (79 + r.length)) = true := List.all_eq_true.mpr fun e he => jwE_mono (by omega) (List.all_eq_true.mp wA_ok0 e he)
  rw [this]
  rfl
theorem aI_gen {ws : LWd} {a n : Nat} {g : Nat → Int32} {i : Int32} (h : ws[a]? = some (.inl (0, n, .inl g))) : aI ws a i = (ixA n i).map g := by
  unfold aI ixA
  rw [h]
  by_cases c : i < 0 ∨ n ≤ i.toNatClampNeg
  · rw [if_pos c]; exact if_neg (fun q => q.2 c)
  · rw [if_neg c]; exact if_pos ⟨rfl, c⟩
theorem sI_gen {ws : LWd} {a n : Nat} {g : Nat → Int32} {i x : Int32} (h : ws[a]? = some (.inl (0, n, .inl g))) : sI ws a i x = (ixA n i).map (fun j => ws.set a (.inl (0, n, .inl (upd g j x)))) := by
  unfold sI ixA
  rw [h]
  by_cases c : i < 0 ∨ n ≤ i.toNatClampNeg
  · rw [if_pos c]; exact if_neg (fun q => q.2 c)
  · rw [if_neg c]; exact if_pos ⟨rfl, c⟩
abbrev wJ (u v : Nat → Int32) : LWd := [.inl (0, 6, .inl u), .inl (0, 6, .inl v)]
abbrev wN (z f : Nat → Nat → Int32) (u v : Nat → Int32) (r : LWd) : LWd := wA z f (r ++ wJ u v)
theorem wN_1 {z f : Nat → Nat → Int32} {u v : Nat → Int32} {r : LWd} : (wN z f u v r)[79 + r.length]? = some (.inl (0, 6, .inl u)) := by
  have e : wN z f u v r = wA z f r ++ wJ u v := by rw [wN, wA_app, wA_app (r := r), List.append_assoc]
  rw [e, List.getElem?_append_right (by rw [wA_ln]; omega), wA_ln, Nat.sub_self]
  rfl
theorem wN_2 {z f : Nat → Nat → Int32} {u v : Nat → Int32} {r : LWd} : (wN z f u v r)[79 + r.length + 1]? = some (.inl (0, 6, .inl v)) := by
  have e : wN z f u v r = wA z f r ++ wJ u v := by rw [wN, wA_app, wA_app (r := r), List.append_assoc]
  rw [e, List.getElem?_append_right (by rw [wA_ln]; omega), wA_ln, Nat.add_sub_cancel_left]
  rfl
theorem wN_s1 {z f : Nat → Nat → Int32} {u v g : Nat → Int32} {r : LWd} : (wN z f u v r).set (79 + r.length) (.inl (0, 6, .inl g)) = wN z f g v r := by
  have e : ∀ u, wN z f u v r = wA z f r ++ wJ u v := fun u => by rw [wN, wA_app, wA_app (r := r), List.append_assoc]
  rw [e, e, List.set_append_right _ _ (by rw [wA_ln]; omega), wA_ln, Nat.sub_self]
  rfl
theorem wN_s2 {z f : Nat → Nat → Int32} {u v g : Nat → Int32} {r : LWd} : (wN z f u v r).set (79 + r.length + 1) (.inl (0, 6, .inl g)) = wN z f u g r := by
  have e : ∀ v, wN z f u v r = wA z f r ++ wJ u v := fun v => by rw [wN, wA_app, wA_app (r := r), List.append_assoc]
  rw [e, e, List.set_append_right _ _ (by rw [wA_ln]; omega), wA_ln, Nat.add_sub_cancel_left]
  rfl
theorem aN_1 {z f : Nat → Nat → Int32} {u v : Nat → Int32} {r : LWd} {i : Int32} : aI (wN z f u v r) (79 + r.length) i = (ixA 6 i).map u := aI_gen wN_1
theorem aN_2 {z f : Nat → Nat → Int32} {u v : Nat → Int32} {r : LWd} {i : Int32} : aI (wN z f u v r) (79 + r.length + 1) i = (ixA 6 i).map v := aI_gen wN_2
theorem sN_1 {z f : Nat → Nat → Int32} {u v : Nat → Int32} {r : LWd} {i x : Int32} : sI (wN z f u v r) (79 + r.length) i x = (ixA 6 i).map (fun j => wN z f (upd u j x) v r) := by
  rw [sI_gen wN_1]; congr 1; funext j; exact wN_s1
theorem sN_2 {z f : Nat → Nat → Int32} {u v : Nat → Int32} {r : LWd} {i x : Int32} : sI (wN z f u v r) (79 + r.length + 1) i x = (ixA 6 i).map (fun j => wN z f u (upd v j x) r) := by
  rw [sI_gen wN_2]; congr 1; funext j; exact wN_s2
def gq_b297 (k124 : Int32 → Int32 → Int32 → Int32 → Int32 → Int32 → Int32 → Int32 → (Nat → Nat → Int32) → (Nat → Nat → Int32) → Option (Int32 × (Nat → Nat → Int32) × (Nat → Nat → Int32))) (i1 : Int32) (i2 : Int32) (i3 : Int32) (i4 : Int32) (i5 : Int32) (i8 : Int32) (i9 : Int32) (i10 : Int32) (z f : Nat → Nat → Int32) : Option (Int32 × (Nat → Nat → Int32) × (Nat → Nat → Int32)) := k124 i1 i2 i3 i4 i5 i8 i9 (i10 + 1) z f
theorem eq_b297 {u v : Nat → Int32} {r : LWd} {k124 : Nat → Int32 → Int32 → Int32 → Int32 → Int32 → Nat → Nat → Int32 → Int32 → Int32 → LWd → Option (Int32 × LWd)} {gk124 : Int32 → Int32 → Int32 → Int32 → Int32 → Int32 → Int32 → Int32 → (Nat → Nat → Int32) → (Nat → Nat → Int32) → Option (Int32 × (Nat → Nat → Int32) × (Nat → Nat → Int32))} (hk124 : ∀ (i1 : Int32) (i2 : Int32) (i3 : Int32) (i4 : Int32) (i5 : Int32) (i8 : Int32) (i9 : Int32) (i10 : Int32) (z f : Nat → Nat → Int32), k124 66 i1 i2 i3 i4 i5 (79 + r.length) (79 + r.length + 1) i8 i9 i10 (wN z f u v r) = (gk124 i1 i2 i3 i4 i5 i8 i9 i10 z f).map (fun q => (q.1, wN q.2.1 q.2.2 u v r))) (i1 : Int32) (i2 : Int32) (i3 : Int32) (i4 : Int32) (i5 : Int32) (i8 : Int32) (i9 : Int32) (i10 : Int32) (z f : Nat → Nat → Int32) : m_X11_fewest_b297 k124 66 i1 i2 i3 i4 i5 (79 + r.length) (79 + r.length + 1) i8 i9 i10 (wN z f u v r) = (gq_b297 gk124 i1 i2 i3 i4 i5 i8 i9 i10 z f).map (fun q => (q.1, wN q.2.1 q.2.2 u v r)) := hk124 _ _ _ _ _ _ _ _ _ _
def gq_l254 (u v : Nat → Int32) (k146 : Int32 → Int32 → Int32 → Int32 → Int32 → Int32 → Int32 → Int32 → Int32 → (Nat → Nat → Int32) → (Nat → Nat → Int32) → Option (Int32 × (Nat → Nat → Int32) × (Nat → Nat → Int32))) : Nat → Int32 → Int32 → Int32 → Int32 → Int32 → Int32 → Int32 → Int32 → Int32 → Int32 → (Nat → Nat → Int32) → (Nat → Nat → Int32) → Option (Int32 × (Nat → Nat → Int32) × (Nat → Nat → Int32))
  | 0, _, _, _, _, _, _, _, _, _, _, _, _ => none
  | fu + 1, i1, i2, i3, i4, i5, i8, i9, i10, i11, i14, z, f =>
    if 6 ≤ i14 then
      k146 i1 i2 i3 i4 i5 i8 i9 i10 (i11 + 1) z f
    else
      (ixA 6 i14).bind fun j4 =>
      (ixA 6 i14).bind fun j6 =>
      lt2 (upf f 74 j6 (u j4)) fun f7 =>
      (ixA 6 i14).bind fun j10 =>
      (ixA 6 i14).bind fun j12 =>
      lt2 (upf f7 75 j12 (v j10)) fun f13 =>
      gq_l254 u v k146 fu i1 i2 i3 i4 i5 i8 i9 i10 i11 (i14 + 1) z f13
theorem eq_l254 {u v : Nat → Int32} {r : LWd} {k124 : Nat → Int32 → Int32 → Int32 → Int32 → Int32 → Nat → Nat → Int32 → Int32 → Int32 → LWd → Option (Int32 × LWd)} {k146 : Nat → Int32 → Int32 → Int32 → Int32 → Int32 → Nat → Nat → Int32 → Int32 → Int32 → Int32 → LWd → Option (Int32 × LWd)} {gk146 : Int32 → Int32 → Int32 → Int32 → Int32 → Int32 → Int32 → Int32 → Int32 → (Nat → Nat → Int32) → (Nat → Nat → Int32) → Option (Int32 × (Nat → Nat → Int32) × (Nat → Nat → Int32))} (hk146 : ∀ (i1 : Int32) (i2 : Int32) (i3 : Int32) (i4 : Int32) (i5 : Int32) (i8 : Int32) (i9 : Int32) (i10 : Int32) (i11 : Int32) (z f : Nat → Nat → Int32), k146 66 i1 i2 i3 i4 i5 (79 + r.length) (79 + r.length + 1) i8 i9 i10 i11 (wN z f u v r) = (gk146 i1 i2 i3 i4 i5 i8 i9 i10 i11 z f).map (fun q => (q.1, wN q.2.1 q.2.2 u v r))) : ∀ (fu : Nat) (i1 : Int32) (i2 : Int32) (i3 : Int32) (i4 : Int32) (i5 : Int32) (i8 : Int32) (i9 : Int32) (i10 : Int32) (i11 : Int32) (i14 : Int32) (z f : Nat → Nat → Int32), m_X11_fewest_l254 k124 k146 fu 66 i1 i2 i3 i4 i5 (79 + r.length) (79 + r.length + 1) i8 i9 i10 i11 i14 (wN z f u v r) = (gq_l254 u v gk146 fu i1 i2 i3 i4 i5 i8 i9 i10 i11 i14 z f).map (fun q => (q.1, wN q.2.1 q.2.2 u v r)) := by
  intro fu
  induction fu with
  | zero => intro i1 i2 i3 i4 i5 i8 i9 i10 i11 i14 z f; rfl
  | succ fu ih =>
    intro i1 i2 i3 i4 i5 i8 i9 i10 i11 i14 z f
    rw [m_X11_fewest_l254, gq_l254]
    refine iteE (fun _ => ?_) (fun _ => ?_)
    · exact hk146 _ _ _ _ _ _ _ _ _ _ _
    · refine opS fR_66_15 ?_
      refine opM aN_1 (fun j4 _ => ?_)
      refine opM sI_74 (fun j6 _ => ?_)
      refine ltE ?_
      refine opS fR_66_16 ?_
      refine opM aN_2 (fun j10 _ => ?_)
      refine opM sI_75 (fun j12 _ => ?_)
      refine ltE ?_
      exact ih _ _ _ _ _ _ _ _ _ _ _ _
def gq_b232 (u v : Nat → Int32) (k146 : Int32 → Int32 → Int32 → Int32 → Int32 → Int32 → Int32 → Int32 → Int32 → (Nat → Nat → Int32) → (Nat → Nat → Int32) → Option (Int32 × (Nat → Nat → Int32) × (Nat → Nat → Int32))) (i1 : Int32) (i2 : Int32) (i3 : Int32) (i4 : Int32) (i5 : Int32) (i9 : Int32) (i10 : Int32) (i11 : Int32) (s0 : Int32) (z f : Nat → Nat → Int32) : Option (Int32 × (Nat → Nat → Int32) × (Nat → Nat → Int32)) :=
  lt2 (up2 z 66 5 i3) fun z1 =>
  lt2 (up2 z1 66 6 i4) fun z3 =>
  lt2 (up2 z3 66 17 i5) fun z5 =>
  gq_l254 u v k146 FU i1 i2 i3 i4 i5 s0 i9 i10 i11 0 z5 f
theorem eq_b232 {u v : Nat → Int32} {r : LWd} {k124 : Nat → Int32 → Int32 → Int32 → Int32 → Int32 → Nat → Nat → Int32 → Int32 → Int32 → LWd → Option (Int32 × LWd)} {k146 : Nat → Int32 → Int32 → Int32 → Int32 → Int32 → Nat → Nat → Int32 → Int32 → Int32 → Int32 → LWd → Option (Int32 × LWd)} {gk146 : Int32 → Int32 → Int32 → Int32 → Int32 → Int32 → Int32 → Int32 → Int32 → (Nat → Nat → Int32) → (Nat → Nat → Int32) → Option (Int32 × (Nat → Nat → Int32) × (Nat → Nat → Int32))} (hk146 : ∀ (i1 : Int32) (i2 : Int32) (i3 : Int32) (i4 : Int32) (i5 : Int32) (i8 : Int32) (i9 : Int32) (i10 : Int32) (i11 : Int32) (z f : Nat → Nat → Int32), k146 66 i1 i2 i3 i4 i5 (79 + r.length) (79 + r.length + 1) i8 i9 i10 i11 (wN z f u v r) = (gk146 i1 i2 i3 i4 i5 i8 i9 i10 i11 z f).map (fun q => (q.1, wN q.2.1 q.2.2 u v r))) (i1 : Int32) (i2 : Int32) (i3 : Int32) (i4 : Int32) (i5 : Int32) (i9 : Int32) (i10 : Int32) (i11 : Int32) (s0 : Int32) (z f : Nat → Nat → Int32) : m_X11_fewest_b232 k124 k146 66 i1 i2 i3 i4 i5 (79 + r.length) (79 + r.length + 1) i9 i10 i11 s0 (wN z f u v r) = (gq_b232 u v gk146 i1 i2 i3 i4 i5 i9 i10 i11 s0 z f).map (fun q => (q.1, wN q.2.1 q.2.2 u v r)) := by
  unfold m_X11_fewest_b232 gq_b232
  refine opS pV_66_5 ?_
  refine ltE ?_
  refine opS pV_66_6 ?_
  refine ltE ?_
  refine opS pV_66_17 ?_
  refine ltE ?_
  exact eq_l254 hk146 FU _ _ _ _ _ _ _ _ _ _ _ _
def gq_b231 (u v : Nat → Int32) (k146 : Int32 → Int32 → Int32 → Int32 → Int32 → Int32 → Int32 → Int32 → Int32 → (Nat → Nat → Int32) → (Nat → Nat → Int32) → Option (Int32 × (Nat → Nat → Int32) × (Nat → Nat → Int32))) (i1 : Int32) (i2 : Int32) (i3 : Int32) (i4 : Int32) (i5 : Int32) (i9 : Int32) (i10 : Int32) (i11 : Int32) (z f : Nat → Nat → Int32) : Option (Int32 × (Nat → Nat → Int32) × (Nat → Nat → Int32)) := gq_b232 u v k146 i1 i2 i3 i4 i5 i9 i10 i11 (-1) z f
theorem eq_b231 {u v : Nat → Int32} {r : LWd} {k124 : Nat → Int32 → Int32 → Int32 → Int32 → Int32 → Nat → Nat → Int32 → Int32 → Int32 → LWd → Option (Int32 × LWd)} {k146 : Nat → Int32 → Int32 → Int32 → Int32 → Int32 → Nat → Nat → Int32 → Int32 → Int32 → Int32 → LWd → Option (Int32 × LWd)} {gk146 : Int32 → Int32 → Int32 → Int32 → Int32 → Int32 → Int32 → Int32 → Int32 → (Nat → Nat → Int32) → (Nat → Nat → Int32) → Option (Int32 × (Nat → Nat → Int32) × (Nat → Nat → Int32))} (hk146 : ∀ (i1 : Int32) (i2 : Int32) (i3 : Int32) (i4 : Int32) (i5 : Int32) (i8 : Int32) (i9 : Int32) (i10 : Int32) (i11 : Int32) (z f : Nat → Nat → Int32), k146 66 i1 i2 i3 i4 i5 (79 + r.length) (79 + r.length + 1) i8 i9 i10 i11 (wN z f u v r) = (gk146 i1 i2 i3 i4 i5 i8 i9 i10 i11 z f).map (fun q => (q.1, wN q.2.1 q.2.2 u v r))) (i1 : Int32) (i2 : Int32) (i3 : Int32) (i4 : Int32) (i5 : Int32) (i9 : Int32) (i10 : Int32) (i11 : Int32) (z f : Nat → Nat → Int32) : m_X11_fewest_b231 k124 k146 66 i1 i2 i3 i4 i5 (79 + r.length) (79 + r.length + 1) i9 i10 i11 (wN z f u v r) = (gq_b231 u v gk146 i1 i2 i3 i4 i5 i9 i10 i11 z f).map (fun q => (q.1, wN q.2.1 q.2.2 u v r)) := eq_b232 hk146 _ _ _ _ _ _ _ _ _ _ _
def gq_b205 (u v : Nat → Int32) (k146 : Int32 → Int32 → Int32 → Int32 → Int32 → Int32 → Int32 → Int32 → Int32 → (Nat → Nat → Int32) → (Nat → Nat → Int32) → Option (Int32 × (Nat → Nat → Int32) × (Nat → Nat → Int32))) (i1 : Int32) (i2 : Int32) (i3 : Int32) (i4 : Int32) (i5 : Int32) (i9 : Int32) (i10 : Int32) (i11 : Int32) (i12 : Int32) (z f : Nat → Nat → Int32) : Option (Int32 × (Nat → Nat → Int32) × (Nat → Nat → Int32)) :=
  if i12 = 0 then
    gq_b231 u v k146 i1 i2 i3 i4 i5 i9 i10 i11 z f
  else
    if z 66 5 = i1 then
      if z 66 6 = i2 then
        gq_b232 u v k146 i1 i2 i3 i4 i5 i9 i10 i11 i10 z f
      else
        gq_b231 u v k146 i1 i2 i3 i4 i5 i9 i10 i11 z f
    else
      gq_b231 u v k146 i1 i2 i3 i4 i5 i9 i10 i11 z f
theorem eq_b205 {u v : Nat → Int32} {r : LWd} {k124 : Nat → Int32 → Int32 → Int32 → Int32 → Int32 → Nat → Nat → Int32 → Int32 → Int32 → LWd → Option (Int32 × LWd)} {k146 : Nat → Int32 → Int32 → Int32 → Int32 → Int32 → Nat → Nat → Int32 → Int32 → Int32 → Int32 → LWd → Option (Int32 × LWd)} {gk146 : Int32 → Int32 → Int32 → Int32 → Int32 → Int32 → Int32 → Int32 → Int32 → (Nat → Nat → Int32) → (Nat → Nat → Int32) → Option (Int32 × (Nat → Nat → Int32) × (Nat → Nat → Int32))} (hk146 : ∀ (i1 : Int32) (i2 : Int32) (i3 : Int32) (i4 : Int32) (i5 : Int32) (i8 : Int32) (i9 : Int32) (i10 : Int32) (i11 : Int32) (z f : Nat → Nat → Int32), k146 66 i1 i2 i3 i4 i5 (79 + r.length) (79 + r.length + 1) i8 i9 i10 i11 (wN z f u v r) = (gk146 i1 i2 i3 i4 i5 i8 i9 i10 i11 z f).map (fun q => (q.1, wN q.2.1 q.2.2 u v r))) (i1 : Int32) (i2 : Int32) (i3 : Int32) (i4 : Int32) (i5 : Int32) (i9 : Int32) (i10 : Int32) (i11 : Int32) (i12 : Int32) (z f : Nat → Nat → Int32) : m_X11_fewest_b205 k124 k146 66 i1 i2 i3 i4 i5 (79 + r.length) (79 + r.length + 1) i9 i10 i11 i12 (wN z f u v r) = (gq_b205 u v gk146 i1 i2 i3 i4 i5 i9 i10 i11 i12 z f).map (fun q => (q.1, wN q.2.1 q.2.2 u v r)) := by
  unfold m_X11_fewest_b205 gq_b205
  refine iteE (fun _ => ?_) (fun _ => ?_)
  · exact eq_b231 hk146 _ _ _ _ _ _ _ _ _ _
  · refine opS fI_66_5 ?_
    refine iteE (fun _ => ?_) (fun _ => ?_)
    · refine opS fI_66_6 ?_
      refine iteE (fun _ => ?_) (fun _ => ?_)
      · exact eq_b232 hk146 _ _ _ _ _ _ _ _ _ _ _
      · exact eq_b231 hk146 _ _ _ _ _ _ _ _ _ _
    · exact eq_b231 hk146 _ _ _ _ _ _ _ _ _ _
def gq_l169 (u v : Nat → Int32) (k146 : Int32 → Int32 → Int32 → Int32 → Int32 → Int32 → Int32 → Int32 → Int32 → (Nat → Nat → Int32) → (Nat → Nat → Int32) → Option (Int32 × (Nat → Nat → Int32) × (Nat → Nat → Int32))) : Nat → Int32 → Int32 → Int32 → Int32 → Int32 → Int32 → Int32 → Int32 → Int32 → Int32 → Int32 → (Nat → Nat → Int32) → (Nat → Nat → Int32) → Option (Int32 × (Nat → Nat → Int32) × (Nat → Nat → Int32))
  | 0, _, _, _, _, _, _, _, _, _, _, _, _, _ => none
  | fu + 1, i1, i2, i3, i4, i5, i9, i10, i11, i12, i13, i14, z, f =>
    if i10 ≤ i14 then
      gq_b205 u v k146 i1 i2 i3 i4 i5 i9 i10 i11 i12 z f
    else
      if i12 = 0 then
        gq_b205 u v k146 i1 i2 i3 i4 i5 i9 i10 i11 i12 z f
      else
        bn3 (g_X11_tries (jrem i13 10) z f) fun x5 z3 u3 =>
        gq_l169 u v k146 fu i1 i2 i3 i4 i5 i9 i10 i11 x5 (i13 / 10) (i14 + 1) z3 u3
theorem eq_l169 {u v : Nat → Int32} {r : LWd} {k124 : Nat → Int32 → Int32 → Int32 → Int32 → Int32 → Nat → Nat → Int32 → Int32 → Int32 → LWd → Option (Int32 × LWd)} {k146 : Nat → Int32 → Int32 → Int32 → Int32 → Int32 → Nat → Nat → Int32 → Int32 → Int32 → Int32 → LWd → Option (Int32 × LWd)} {gk146 : Int32 → Int32 → Int32 → Int32 → Int32 → Int32 → Int32 → Int32 → Int32 → (Nat → Nat → Int32) → (Nat → Nat → Int32) → Option (Int32 × (Nat → Nat → Int32) × (Nat → Nat → Int32))} (hk146 : ∀ (i1 : Int32) (i2 : Int32) (i3 : Int32) (i4 : Int32) (i5 : Int32) (i8 : Int32) (i9 : Int32) (i10 : Int32) (i11 : Int32) (z f : Nat → Nat → Int32), k146 66 i1 i2 i3 i4 i5 (79 + r.length) (79 + r.length + 1) i8 i9 i10 i11 (wN z f u v r) = (gk146 i1 i2 i3 i4 i5 i8 i9 i10 i11 z f).map (fun q => (q.1, wN q.2.1 q.2.2 u v r))) : ∀ (fu : Nat) (i1 : Int32) (i2 : Int32) (i3 : Int32) (i4 : Int32) (i5 : Int32) (i9 : Int32) (i10 : Int32) (i11 : Int32) (i12 : Int32) (i13 : Int32) (i14 : Int32) (z f : Nat → Nat → Int32), m_X11_fewest_l169 k124 k146 fu 66 i1 i2 i3 i4 i5 (79 + r.length) (79 + r.length + 1) i9 i10 i11 i12 i13 i14 (wN z f u v r) = (gq_l169 u v gk146 fu i1 i2 i3 i4 i5 i9 i10 i11 i12 i13 i14 z f).map (fun q => (q.1, wN q.2.1 q.2.2 u v r)) := by
  intro fu
  induction fu with
  | zero => intro i1 i2 i3 i4 i5 i9 i10 i11 i12 i13 i14 z f; rfl
  | succ fu ih =>
    intro i1 i2 i3 i4 i5 i9 i10 i11 i12 i13 i14 z f
    rw [m_X11_fewest_l169, gq_l169]
    refine iteE (fun _ => ?_) (fun _ => ?_)
    · exact eq_b205 hk146 _ _ _ _ _ _ _ _ _ _ _
    · refine iteE (fun _ => ?_) (fun _ => ?_)
      · exact eq_b205 hk146 _ _ _ _ _ _ _ _ _ _ _
      · refine caW (e_X11_tries) (fun _ _ => rfl) (fun x5 z3 u3 => ?_)
        exact ih _ _ _ _ _ _ _ _ _ _ _ _ _
def gq_l146 (u v : Nat → Int32) (k124 : Int32 → Int32 → Int32 → Int32 → Int32 → Int32 → Int32 → Int32 → (Nat → Nat → Int32) → (Nat → Nat → Int32) → Option (Int32 × (Nat → Nat → Int32) × (Nat → Nat → Int32))) : Nat → Int32 → Int32 → Int32 → Int32 → Int32 → Int32 → Int32 → Int32 → Int32 → (Nat → Nat → Int32) → (Nat → Nat → Int32) → Option (Int32 × (Nat → Nat → Int32) × (Nat → Nat → Int32))
  | 0, _, _, _, _, _, _, _, _, _, _, _ => none
  | fu + 1, i1, i2, i3, i4, i5, i8, i9, i10, i11, z, f =>
    if i9 ≤ i11 then
      gq_b297 k124 i1 i2 i3 i4 i5 i8 i9 i10 z f
    else
      if i8 = (-1) then
        gq_l169 u v (fun y1 y2 y3 y4 y5 y8 y9 y10 y11 z f => gq_l146 u v k124 fu y1 y2 y3 y4 y5 y8 y9 y10 y11 z f) FU i1 i2 i3 i4 i5 i9 i10 i11 1 i11 0 z f
      else
        gq_b297 k124 i1 i2 i3 i4 i5 i8 i9 i10 z f
theorem eq_l146 {u v : Nat → Int32} {r : LWd} {k124 : Nat → Int32 → Int32 → Int32 → Int32 → Int32 → Nat → Nat → Int32 → Int32 → Int32 → LWd → Option (Int32 × LWd)} {gk124 : Int32 → Int32 → Int32 → Int32 → Int32 → Int32 → Int32 → Int32 → (Nat → Nat → Int32) → (Nat → Nat → Int32) → Option (Int32 × (Nat → Nat → Int32) × (Nat → Nat → Int32))} (hk124 : ∀ (i1 : Int32) (i2 : Int32) (i3 : Int32) (i4 : Int32) (i5 : Int32) (i8 : Int32) (i9 : Int32) (i10 : Int32) (z f : Nat → Nat → Int32), k124 66 i1 i2 i3 i4 i5 (79 + r.length) (79 + r.length + 1) i8 i9 i10 (wN z f u v r) = (gk124 i1 i2 i3 i4 i5 i8 i9 i10 z f).map (fun q => (q.1, wN q.2.1 q.2.2 u v r))) : ∀ (fu : Nat) (i1 : Int32) (i2 : Int32) (i3 : Int32) (i4 : Int32) (i5 : Int32) (i8 : Int32) (i9 : Int32) (i10 : Int32) (i11 : Int32) (z f : Nat → Nat → Int32), m_X11_fewest_l146 k124 fu 66 i1 i2 i3 i4 i5 (79 + r.length) (79 + r.length + 1) i8 i9 i10 i11 (wN z f u v r) = (gq_l146 u v gk124 fu i1 i2 i3 i4 i5 i8 i9 i10 i11 z f).map (fun q => (q.1, wN q.2.1 q.2.2 u v r)) := by
  intro fu
  induction fu with
  | zero => intro i1 i2 i3 i4 i5 i8 i9 i10 i11 z f; rfl
  | succ fu ih =>
    intro i1 i2 i3 i4 i5 i8 i9 i10 i11 z f
    rw [m_X11_fewest_l146, gq_l146]
    refine iteE (fun _ => ?_) (fun _ => ?_)
    · exact eq_b297 hk124 _ _ _ _ _ _ _ _ _ _
    · refine iteE (fun _ => ?_) (fun _ => ?_)
      · exact eq_l169 (k146 := fun z0 z1 z2 z3 z4 z5 z6 z7 z8 z9 z10 z11 w => m_X11_fewest_l146 k124 fu z0 z1 z2 z3 z4 z5 z6 z7 z8 z9 z10 z11 w) ih FU _ _ _ _ _ _ _ _ _ _ _ _ _
      · exact eq_b297 hk124 _ _ _ _ _ _ _ _ _ _
def gq_l124 (u v : Nat → Int32) : Nat → Int32 → Int32 → Int32 → Int32 → Int32 → Int32 → Int32 → Int32 → (Nat → Nat → Int32) → (Nat → Nat → Int32) → Option (Int32 × (Nat → Nat → Int32) × (Nat → Nat → Int32))
  | 0, _, _, _, _, _, _, _, _, _, _ => none
  | fu + 1, i1, i2, i3, i4, i5, i8, i9, i10, z, f =>
    if 3 < i10 then
      some (i8, z, f)
    else
      if i8 = (-1) then
        gq_l146 u v (fun y1 y2 y3 y4 y5 y8 y9 y10 z f => gq_l124 u v fu y1 y2 y3 y4 y5 y8 y9 y10 z f) FU i1 i2 i3 i4 i5 i8 (i9 * 10) i10 0 z f
      else
        some (i8, z, f)
theorem eq_l124 {u v : Nat → Int32} {r : LWd} : ∀ (fu : Nat) (i1 : Int32) (i2 : Int32) (i3 : Int32) (i4 : Int32) (i5 : Int32) (i8 : Int32) (i9 : Int32) (i10 : Int32) (z f : Nat → Nat → Int32), m_X11_fewest_l124 fu 66 i1 i2 i3 i4 i5 (79 + r.length) (79 + r.length + 1) i8 i9 i10 (wN z f u v r) = (gq_l124 u v fu i1 i2 i3 i4 i5 i8 i9 i10 z f).map (fun q => (q.1, wN q.2.1 q.2.2 u v r)) := by
  intro fu
  induction fu with
  | zero => intro i1 i2 i3 i4 i5 i8 i9 i10 z f; rfl
  | succ fu ih =>
    intro i1 i2 i3 i4 i5 i8 i9 i10 z f
    rw [m_X11_fewest_l124, gq_l124]
    refine iteE (fun _ => ?_) (fun _ => ?_)
    · rfl
    · refine iteE (fun _ => ?_) (fun _ => ?_)
      · exact eq_l146 (k124 := fun z0 z1 z2 z3 z4 z5 z6 z7 z8 z9 z10 w => m_X11_fewest_l124 fu z0 z1 z2 z3 z4 z5 z6 z7 z8 z9 z10 w) ih FU _ _ _ _ _ _ _ _ _ _ _
      · rfl
def gq_b116 (u v : Nat → Int32) (i1 : Int32) (i2 : Int32) (i3 : Int32) (i4 : Int32) (i5 : Int32) (s0 : Int32) (z f : Nat → Nat → Int32) : Option (Int32 × (Nat → Nat → Int32) × (Nat → Nat → Int32) × LWd) := (gq_l124 u v FU i1 i2 i3 i4 i5 s0 1 1 z f).map fun q => (q.1, q.2.1, q.2.2, wJ u v)
theorem eq_b116 {u v : Nat → Int32} {r : LWd} (i1 : Int32) (i2 : Int32) (i3 : Int32) (i4 : Int32) (i5 : Int32) (s0 : Int32) (z f : Nat → Nat → Int32) : m_X11_fewest_b116 66 i1 i2 i3 i4 i5 (79 + r.length) (79 + r.length + 1) s0 (wN z f u v r) = (gq_b116 u v i1 i2 i3 i4 i5 s0 z f).map (fun q => (q.1, wA q.2.1 q.2.2.1 (r ++ q.2.2.2))) := by
  unfold m_X11_fewest_b116 gq_b116
  rw [Option.map_map]
  exact eq_l124 FU _ _ _ _ _ _ _ _ _ _
def gq_l63 : Nat → Int32 → Int32 → Int32 → Int32 → Int32 → Int32 → (Nat → Int32) → (Nat → Int32) → (Nat → Nat → Int32) → (Nat → Nat → Int32) → Option (Int32 × (Nat → Nat → Int32) × (Nat → Nat → Int32) × LWd)
  | 0, _, _, _, _, _, _, _, _, _, _ => none
  | fu + 1, i1, i2, i3, i4, i5, i8, u, v, z, f =>
    if 6 ≤ i8 then
      if i3 = i1 then
        if i4 = i2 then
          gq_b116 u v i1 i2 i3 i4 i5 0 z f
        else
          gq_b116 u v i1 i2 i3 i4 i5 (-1) z f
      else
        gq_b116 u v i1 i2 i3 i4 i5 (-1) z f
    else
      (ixA 6 i8).bind fun j6 =>
      (ixA 6 i8).bind fun j8 =>
      (ixA 6 i8).bind fun j12 =>
      (ixA 6 i8).bind fun j14 =>
      gq_l63 fu i1 i2 i3 i4 i5 (i8 + 1) (upd u j8 (f 74 j6)) (upd v j14 (f 75 j12)) z f
theorem eq_l63 {r : LWd} : ∀ (fu : Nat) (i1 : Int32) (i2 : Int32) (i3 : Int32) (i4 : Int32) (i5 : Int32) (i8 : Int32) (u v : Nat → Int32) (z f : Nat → Nat → Int32), m_X11_fewest_l63 fu 66 i1 i2 i3 i4 i5 (79 + r.length) (79 + r.length + 1) i8 (wN z f u v r) = (gq_l63 fu i1 i2 i3 i4 i5 i8 u v z f).map (fun q => (q.1, wA q.2.1 q.2.2.1 (r ++ q.2.2.2))) := by
  intro fu
  induction fu with
  | zero => intro i1 i2 i3 i4 i5 i8 u v z f; rfl
  | succ fu ih =>
    intro i1 i2 i3 i4 i5 i8 u v z f
    rw [m_X11_fewest_l63, gq_l63]
    refine iteE (fun _ => ?_) (fun _ => ?_)
    · refine iteE (fun _ => ?_) (fun _ => ?_)
      · refine iteE (fun _ => ?_) (fun _ => ?_)
        · exact eq_b116 _ _ _ _ _ _ _ _
        · exact eq_b116 _ _ _ _ _ _ _ _
      · exact eq_b116 _ _ _ _ _ _ _ _
    · refine opS fR_66_15 ?_
      refine opM aI_74 (fun j6 _ => ?_)
      refine opM sN_1 (fun j8 _ => ?_)
      refine opS fR_66_16 ?_
      refine opM aI_75 (fun j12 _ => ?_)
      refine opM sN_2 (fun j14 _ => ?_)
      exact ih _ _ _ _ _ _ _ _ _ _
def gq_b14 (i1 i2 s1 : Int32) (z f : Nat → Nat → Int32) : Option (Int32 × (Nat → Nat → Int32) × (Nat → Nat → Int32) × LWd) :=
  bn3 (g_X11_fails s1 z f) fun x3 z1 f1 =>
  if x3 = 0 then
    if z1 66 4 = 0 then
      some ((-1), z1, f1, [])
    else
      gq_l63 FU i1 i2 (z1 66 5) (z1 66 6) (z1 66 17) 0 (fun _ => 0) (fun _ => 0) z1 f1
  else
    some (0, z1, f1, [])
theorem jwO_lt {n a : Nat} (h : a < n) : jwO n (some (.ref a)) = true := decide_eq_true (Or.inl h)
theorem jw66 {z f : Nat → Nat → Int32} {r : LWd} : jwO (wA z f r).length (some (.ref 66)) = true := jwO_lt (by rw [wA_ln]; omega)
theorem nA_eq {ws : LWd} {lv : List (Option Value)} (hw : jwW ws = true) (hl : ws.length < 1000000) (hv : lv.all (jwO ws.length) = true) : nA ws lv [] 400 6 = some (ws.length, ws ++ [.inl (0, 6, .inl (fun _ => 0))]) := by
  have : nOk ws lv [] = true := by unfold nOk; rw [hw, hv, decide_eq_true hl]; rfl
  exact if_pos ⟨this, by decide, by decide⟩
theorem eq_b14 {r : LWd} (hr : jkR r) (hl : r.length < 900000) (i1 i2 s1 : Int32) (z f : Nat → Nat → Int32) : m_X11_fewest_b14 66 i1 i2 66 s1 (wA z f r) = (gq_b14 i1 i2 s1 z f).map (fun q => (q.1, wA q.2.1 q.2.2.1 (r ++ q.2.2.2))) := by
  unfold m_X11_fewest_b14 gq_b14
  refine caW (e_X11_fails) (fun _ _ => rfl) (fun x3 z1 f1 => ?_)
  have h0 : r ++ [] = r := List.append_nil r
  refine iteE (fun _ => ?_) (fun _ => ?_)
  · refine opS fI_66_4 ?_
    refine iteE (fun _ => ?_) (fun _ => ?_)
    · show some ((-1 : Int32), wA z1 f1 r) = some (-1, wA z1 f1 (r ++ []))
      rw [h0]
    · refine opS fI_66_5 ?_
      refine opS fI_66_6 ?_
      refine opS fI_66_17 ?_
      rw [nA_eq (wA_ok hr) (by rw [wA_ln]; omega) (by rw [List.all_cons, jw66]; rfl), bn2_some]
      have hr2 : jkR (r ++ [.inl (0, 6, .inl (fun _ => 0))]) := fun n => by rw [List.all_append, hr n]; rfl
      have e2 : wA z1 f1 r ++ [.inl (0, 6, .inl (fun _ => 0))] = wA z1 f1 (r ++ [.inl (0, 6, .inl (fun _ => 0))]) := rfl
      rw [e2, nA_eq (wA_ok hr2) (by rw [wA_ln, List.length_append, List.length_singleton]; omega) (by simp only [List.all_cons, jw66, jwO_lt (show (wA z1 f1 r).length < (wA z1 f1 (r ++ [.inl (0, 6, .inl (fun _ => 0))])).length by rw [wA_ln, wA_ln, List.length_append, List.length_singleton]; omega), List.all_nil]; rfl), bn2_some]
      have e3 : wA z1 f1 (r ++ [.inl (0, 6, .inl (fun _ => 0))]) ++ [.inl (0, 6, .inl (fun _ => 0))] = wN z1 f1 (fun _ => 0) (fun _ => 0) r := by
        show _ = wA z1 f1 (r ++ ([.inl (0, 6, .inl (fun _ => 0))] ++ [.inl (0, 6, .inl (fun _ => 0))]))
        rw [← List.append_assoc]
        rfl
      rw [e3, wA_ln, wA_ln, List.length_append, List.length_singleton, ← Nat.add_assoc]
      exact eq_l63 FU _ _ _ _ _ _ _ _ _ _
  · show some ((0 : Int32), wA z1 f1 r) = some (0, wA z1 f1 (r ++ []))
    rw [h0]
def g_X11_fewest (i1 i2 : Int32) (z f : Nat → Nat → Int32) : Option (Int32 × (Nat → Nat → Int32) × (Nat → Nat → Int32) × LWd) :=
  (g_X11_isPoint i1 i2 z f).bind fun x3 =>
  if x3 = 0 then
    gq_b14 i1 i2 1 z f
  else
    gq_b14 i1 i2 0 z f
theorem e_X11_fewest {r : LWd} (hr : jkR r) (hl : r.length < 900000) {i1 i2 : Int32} {z f : Nat → Nat → Int32} : m_X11_fewest 66 i1 i2 (wA z f r) = (g_X11_fewest i1 i2 z f).map (fun q => (q.1, wA q.2.1 q.2.2.1 (r ++ q.2.2.2))) := by
  unfold m_X11_fewest g_X11_fewest
  refine opS rcv_66 ?_
  refine caP (e_X11_isPoint) (fun x3 => ?_)
  refine iteE (fun _ => ?_) (fun _ => ?_)
  · exact eq_b14 hr hl _ _ _ _ _
  · exact eq_b14 hr hl _ _ _ _ _
/-- its junk: nothing, or the two arrays -/
theorem e_X11_fewestAnew {r : LWd} (hr : jkR r) (hl : r.length < 900000) {i1 i2 : Int32} {z f : Nat → Nat → Int32} : m_X11_fewestAnew 66 i1 i2 (wA z f r) = (g_X11_fewest i1 i2 z f).map (fun q => (q.1, wA q.2.1 q.2.2.1 (r ++ q.2.2.2))) := by
  unfold m_X11_fewestAnew
  refine opS rcv_66 ?_
  rw [e_X11_fewest hr hl]
  cases g_X11_fewest i1 i2 z f with
  | none => rfl
  | some q =>
    obtain ⟨x, z1, f1, j⟩ := q
    show bn2 (calGR _ _ _ (some (x, wA z1 f1 (r ++ j)))) _ = _
    rw [calGR, bn2_some]
    have hc : (wA z1 f1 (r ++ j)).length = (wA z f r).length ∨ (nOk (wA z f r) [some (.ref 66), some (.int i1), some (.int i2)] [] = true ∧ (wA z f r).length < (wA z1 f1 (r ++ j)).length) := by
      by_cases hj : j.length = 0
      · left
        rw [wA_ln, wA_ln, List.length_append, hj]
        rfl
      · right
        refine ⟨?_, by rw [wA_ln, wA_ln, List.length_append]; omega⟩
        unfold nOk
        rw [wA_ok hr, decide_eq_true (by rw [wA_ln]; omega)]
        rw [List.all_cons, jw66]
        rfl
    rw [if_pos hc]
    rfl
