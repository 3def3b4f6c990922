/-! logical worlds: a cell by its place in a list; places are laid to addresses by ρ -/
abbrev LCl : Type := (Nat × vp_A) ⊕ (Nat × List Value)
abbrev LWd : Type := List LCl
abbrev LGl : Type := va_G × (Nat → ClassId)
def jrv (ρ : Nat → Nat) (v : Value) : Value := match v with
  | .ref a => .ref (ρ a)
  | w => w
def jrc (ρ : Nat → Nat) (n : Nat) (x : (Nat → Int32) ⊕ (Nat → Int64) ⊕ (Nat → UInt32) ⊕ (Nat → UInt64) ⊕ (Nat → Option Nat)) : (Nat → Int32) ⊕ (Nat → Int64) ⊕ (Nat → UInt32) ⊕ (Nat → UInt64) ⊕ (Nat → Option Nat) := match x with
  | .inr (.inr (.inr (.inr f))) => .inr (.inr (.inr (.inr (fun j => if j < n then (f j).map ρ else none))))
  | .inl f => .inl f
  | .inr (.inl f) => .inr (.inl f)
  | .inr (.inr (.inl f)) => .inr (.inr (.inl f))
  | .inr (.inr (.inr (.inl f))) => .inr (.inr (.inr (.inl f)))
def jre (dT : Nat → ClassId) (ρ : Nat → Nat) (e : LCl) : va_E := match e with
  | .inl (t, n, x) => .inl (dT t, n, jrc ρ n x)
  | .inr (ci, fs) => .inr (ci, fs.map (jrv ρ))
def jph (dT : Nat → ClassId) (ρ : Nat → Nat) (ws : LWd) : va_W := ws.mapIdx (fun i e => (ρ i, jre dT ρ e))
theorem jph_len {dT : Nat → ClassId} {ρ : Nat → Nat} {ws : LWd} : (jph dT ρ ws).length = ws.length := by simp [jph]
theorem jph_get {dT : Nat → ClassId} {ρ : Nat → Nat} {ws : LWd} {i : Nat} {e : LCl} (h : ws[i]? = some e) : (jph dT ρ ws)[i]? = some (ρ i, jre dT ρ e) := by
  simp [jph, h]
theorem jph_of {dT : Nat → ClassId} {ρ : Nat → Nat} {ws : LWd} {i : Nat} {q : Nat × va_E} (h : (jph dT ρ ws)[i]? = some q) : ∃ e, ws[i]? = some e ∧ q = (ρ i, jre dT ρ e) := by
  simp only [jph, List.getElem?_mapIdx, Option.map_eq_some_iff] at h
  obtain ⟨e, h1, h2⟩ := h
  exact ⟨e, h1, h2.symm⟩
theorem jph_set {dT : Nat → ClassId} {ρ : Nat → Nat} {ws : LWd} {i : Nat} {e : LCl} : (jph dT ρ ws).set i (ρ i, jre dT ρ e) = jph dT ρ (ws.set i e) := by
  apply List.ext_getElem?
  intro j
  simp only [jph, List.getElem?_set, List.getElem?_mapIdx, List.length_mapIdx]
  by_cases h : i = j
  · subst h
    by_cases h2 : i < ws.length
    · simp [h2]
    · simp [h2]
  · simp [h]
theorem jph_push {dT : Nat → ClassId} {ρ : Nat → Nat} {ws : LWd} {e : LCl} : jph dT ρ (ws ++ [e]) = jph dT ρ ws ++ [(ρ ws.length, jre dT ρ e)] := by
  simp [jph, List.mapIdx_append]
def jwV (n : Nat) (v : Value) : Bool := match v with
  | .ref a => decide (a < n ∨ a = 1000000)
  | _ => true
def jwE (n : Nat) (e : LCl) : Bool := match e with
  | .inl (_, m, .inr (.inr (.inr (.inr f)))) => (List.range m).all (fun j => match f j with | some a => decide (a < n) | none => true)
  | .inl _ => true
  | .inr (_, fs) => fs.all (jwV n)
def jwW (ws : LWd) : Bool := ws.all (jwE ws.length)
theorem jrv_ext {ρ ρ' : Nat → Nat} {n : Nat} (h : ∀ i, (i < n ∨ i = 1000000) → ρ' i = ρ i) {v : Value} (hv : jwV n v = true) : jrv ρ' v = jrv ρ v := by
  cases v with
  | ref a => simp only [jwV, decide_eq_true_eq] at hv; simp [jrv, h a hv]
  | _ => rfl
theorem jrvs_ext {ρ ρ' : Nat → Nat} {n : Nat} (h : ∀ i, (i < n ∨ i = 1000000) → ρ' i = ρ i) {fs : List Value} (hv : fs.all (jwV n) = true) : fs.map (jrv ρ') = fs.map (jrv ρ) := by
  apply List.map_congr_left
  intro v hm
  exact jrv_ext h (List.all_eq_true.mp hv v hm)
theorem jre_ext {dT : Nat → ClassId} {ρ ρ' : Nat → Nat} {n : Nat} (h : ∀ i, (i < n ∨ i = 1000000) → ρ' i = ρ i) {e : LCl} (hv : jwE n e = true) : jre dT ρ' e = jre dT ρ e := by
  match e, hv with
  | .inr (ci, fs), hv => simp only [jre]; rw [jrvs_ext h hv]
  | .inl (t, m, .inr (.inr (.inr (.inr f)))), hv =>
    simp only [jre, jrc]
    have : (fun j => if j < m then (f j).map ρ' else none) = (fun j => if j < m then (f j).map ρ else none) := by
      funext j
      by_cases hj : j < m
      · simp only [hj, if_true]
        have := List.all_eq_true.mp hv j (List.mem_range.mpr hj)
        cases hf : f j with
        | none => rfl
        | some a => rw [hf] at this; simp only [decide_eq_true_eq] at this; simp [h a (Or.inl this)]
      · simp [hj]
    rw [this]
  | .inl (t, m, .inl f), hv => rfl
  | .inl (t, m, .inr (.inl f)), hv => rfl
  | .inl (t, m, .inr (.inr (.inl f))), hv => rfl
  | .inl (t, m, .inr (.inr (.inr (.inl f)))), hv => rfl
theorem jph_ext {dT : Nat → ClassId} {ρ ρ' : Nat → Nat} {ws : LWd} (h : ∀ i, (i < ws.length ∨ i = 1000000) → ρ' i = ρ i) (hw : jwW ws = true) : jph dT ρ' ws = jph dT ρ ws := by
  apply List.ext_getElem?
  intro j
  simp only [jph, List.getElem?_mapIdx]
  cases hj : ws[j]? with
  | none => rfl
  | some e =>
    have hl : j < ws.length := (List.getElem?_eq_some_iff.mp hj).1
    have hm : e ∈ ws := List.mem_of_getElem? hj
    simp only [Option.map_some, Option.some.injEq, Prod.mk.injEq]
    exact ⟨h j (Or.inl hl), jre_ext h (List.all_eq_true.mp hw e hm)⟩
theorem jrv_cat (ρ : Nat → Nat) (v : Value) : (jrv ρ v).category = v.category := by cases v <;> rfl
theorem jrv_cats (ρ : Nat → Nat) (st : List Value) : ((st.map (jrv ρ)).map fun v => v.category) = st.map fun v => v.category := by
  rw [List.map_map]
  apply List.map_congr_left
  intro v _
  exact jrv_cat ρ v
/-! locals: a list by place; none: not known -/
def jlA (ρ : Nat → Nat) : Nat → List (Option Value) → List (Nat × Value)
  | _, [] => []
  | i, none :: l => jlA ρ (i + 1) l
  | i, some v :: l => (i, jrv ρ v) :: jlA ρ (i + 1) l
theorem jlA_of {ρ : Nat → Nat} : ∀ {l : List (Option Value)} {j : Nat} {q : Nat × Value}, q ∈ jlA ρ j l → ∃ i v, q = (j + i, jrv ρ v) ∧ l[i]? = some (some v)
  | none :: l, j, q, h => by
    obtain ⟨i, v, h1, h2⟩ := jlA_of (l := l) (j := j + 1) h
    exact ⟨i + 1, v, by rw [h1, Nat.add_assoc, Nat.add_comm 1 i], h2⟩
  | some w :: l, j, q, h => by
    rcases List.mem_cons.mp h with h | h
    · exact ⟨0, w, h, rfl⟩
    · obtain ⟨i, v, h1, h2⟩ := jlA_of (l := l) (j := j + 1) h
      exact ⟨i + 1, v, by rw [h1, Nat.add_assoc, Nat.add_comm 1 i], h2⟩
theorem jlA_mem {ρ : Nat → Nat} : ∀ {l : List (Option Value)} {i j : Nat} {v : Value}, l[i]? = some (some v) → (j + i, jrv ρ v) ∈ jlA ρ j l
  | none :: l, 0, j, v, h => by cases h
  | some w :: l, 0, j, v, h => by cases h; exact List.mem_cons_self
  | none :: l, i + 1, j, v, h => by
    have := jlA_mem (ρ := ρ) (l := l) (i := i) (j := j + 1) (v := v) h
    rw [show j + (i + 1) = j + 1 + i by omega]
    exact this
  | some w :: l, i + 1, j, v, h => by
    have := jlA_mem (ρ := ρ) (l := l) (i := i) (j := j + 1) (v := v) h
    rw [show j + (i + 1) = j + 1 + i by omega]
    exact List.mem_cons_of_mem _ this
  | [], i, j, v, h => by cases h
def jLH (ρ : Nat → Nat) (ls : Array Slot) (nL : Nat) (lv : List (Option Value)) : Prop := lv_has ls nL (jlA ρ 0 lv)
theorem jLH.at {ρ : Nat → Nat} {ls : Array Slot} {nL : Nat} {lv : List (Option Value)} (h : jLH ρ ls nL lv) {i : Nat} {v : Value} (hi : lv[i]? = some (some v)) : ls[i]? = some (.val (jrv ρ v)) := by
  have := h.2.2 (0 + i, jrv ρ v) (jlA_mem hi)
  rwa [Nat.zero_add] at this
theorem jLH.weak {ρ ρ' : Nat → Nat} {ls : Array Slot} {nL : Nat} {lv lv' : List (Option Value)} (h : jLH ρ ls nL lv) (hs : ∀ (i : Nat) (v : Value), lv'[i]? = some (some v) → ∃ w, lv[i]? = some (some w) ∧ jrv ρ w = jrv ρ' v) : jLH ρ' ls nL lv' := by
  refine ⟨h.1, h.2.1, fun q hq => ?_⟩
  obtain ⟨i, v, rfl, h2⟩ := jlA_of hq
  obtain ⟨w, h3, h4⟩ := hs i v h2
  have := h.at h3
  rw [h4] at this
  rwa [Nat.zero_add]
def jmask : List Bool → List (Option Value) → List (Option Value)
  | true :: b, x :: l => x :: jmask b l
  | false :: b, _ :: l => none :: jmask b l
  | _, _ => []
theorem jmask_at : ∀ {b : List Bool} {l : List (Option Value)} {i : Nat} {v : Value}, (jmask b l)[i]? = some (some v) → l[i]? = some (some v)
  | true :: b, x :: l, 0, v, h => h
  | true :: b, x :: l, i + 1, v, h => jmask_at (b := b) (l := l) (i := i) h
  | false :: b, x :: l, 0, v, h => by cases h
  | false :: b, x :: l, i + 1, v, h => jmask_at (b := b) (l := l) (i := i) h
  | [], l, i, v, h => by simp [jmask] at h
  | true :: b, [], i, v, h => by simp [jmask] at h
  | false :: b, [], i, v, h => by simp [jmask] at h
def jcat (x : Option Value) : Bool := match x with
  | some (.long _) => false
  | some (.double _) => false
  | _ => true
def jcatL (l : List (Option Value)) : Bool := match l.getLast? with
  | some x => jcat x
  | none => true
theorem jcat_spec {v : Value} (h : jcat (some v) = true) : v.category = 1 := by
  cases v <;> first | rfl | cases h
theorem jLH.store {ρ : Nat → Nat} {ls : Array Slot} {nL : Nat} {pre l : List (Option Value)} {w : Option Value} {v : Value} (h : jLH ρ ls nL (pre ++ w :: l)) (hc : v.category = 1) (hn : pre.length < nL) (hp : jcatL pre = true) {ls' : Array Slot}
    (h' : lv_has ls' nL ((pre.length, jrv ρ v) :: (jlA ρ 0 (pre ++ w :: l)).filter (fun q => !(q.1 == pre.length) && !(q.1 + 1 == pre.length && q.2.category == 2)))) : jLH ρ ls' nL (pre ++ some v :: l) := by
  refine ⟨h'.1, h'.2.1, fun q hq => ?_⟩
  obtain ⟨i, x, rfl, h2⟩ := jlA_of hq
  rw [Nat.zero_add]
  by_cases hi : i = pre.length
  · subst hi
    rw [List.getElem?_append_right (Nat.le_refl _), Nat.sub_self] at h2
    cases h2
    exact h'.2.2 _ List.mem_cons_self
  · refine h'.2.2 (i, jrv ρ x) (List.mem_cons_of_mem _ (List.mem_filter.mpr ⟨?_, ?_⟩))
    · have h3 : (pre ++ w :: l)[i]? = some (some x) := by
        by_cases hlt : i < pre.length
        · rw [List.getElem?_append_left hlt] at h2 ⊢
          exact h2
        · rw [List.getElem?_append_right (by omega)] at h2 ⊢
          obtain ⟨k, hk⟩ : ∃ k, i - pre.length = k + 1 := ⟨i - pre.length - 1, by omega⟩
          rw [hk] at h2 ⊢
          exact h2
      have := jlA_mem (ρ := ρ) (j := 0) h3
      rwa [Nat.zero_add] at this
    · have e1 : (i == pre.length) = false := by simp [hi]
      simp only [e1, Bool.not_false, Bool.true_and, Bool.not_eq_true', Bool.and_eq_false_iff]
      by_cases hq2 : i + 1 = pre.length
      · right
        have hlt : i < pre.length := by omega
        rw [List.getElem?_append_left hlt] at h2
        have hg : pre.getLast? = some (some x) := by
          rw [List.getLast?_eq_getElem?, show pre.length - 1 = i by omega]
          exact h2
        unfold jcatL at hp
        rw [hg] at hp
        rw [jrv_cat, jcat_spec hp]
        rfl
      · left
        simp [hq2]
def jmax (x y : Int32) : Int32 := if x < y then y else x
def jmin (x y : Int32) : Int32 := if y < x then y else x
def jabs (x : Int32) : Int32 := if 0 ≤ x then x else 0 - x
def jrem (x y : Int32) : Int32 := x - x / y * y
def jushr (x y : Int32) : Int32 := (x.toUInt32 >>> (y.toUInt32 &&& Int32.toUInt32 31)).toInt32
/-! arguments: a long takes two places -/
def jexp : List Value → List (Option Value)
  | [] => []
  | v :: l => if v.category = 2 then some v :: none :: jexp l else some v :: jexp l
