/-! heap rows over JG: written by wip/p27/gen_heap.py -/
theorem obS {α β : Type} {x : Option α} {f : α → Option β} {b : β} (h : x.bind f = some b) : ∃ a, x = some a ∧ f a = some b := Option.bind_eq_some_iff.mp h
def fV (ws : LWd) (a ci k : Nat) : Option Value := match ws[a]? with
  | some (.inr (c, fs)) => if c = ci then fs[k]? else none
  | _ => none
def fI (ws : LWd) (a ci k : Nat) : Option Int32 := match fV ws a ci k with
  | some (.int x) => some x
  | _ => none
def fR (ws : LWd) (a ci k : Nat) : Option Nat := match fV ws a ci k with
  | some (.ref x) => some x
  | _ => none
def pV (ws : LWd) (a ci k : Nat) (v : Value) : Option LWd := match ws[a]? with
  | some (.inr (c, fs)) => if c = ci ∧ k < fs.length then some (ws.set a (.inr (c, fs.set k v))) else none
  | _ => none
def pZ (ws : LWd) (a ci k : Nat) (x : Int32) : Option LWd := if x = 0 ∨ x = 1 then pV ws a ci k (.int x) else none
def rcv (ws : LWd) (a ci : Nat) : Option Unit := match ws[a]? with
  | some (.inr (c, _)) => if c = ci then some () else none
  | _ => none
def aI (ws : LWd) (a : Nat) (i : Int32) : Option Int32 := match ws[a]? with
  | some (.inl (t, n, .inl f)) => if t = 0 ∧ ¬ (i < 0 ∨ n ≤ i.toNatClampNeg) then some (f i.toNatClampNeg) else none
  | _ => none
def sI (ws : LWd) (a : Nat) (i x : Int32) : Option LWd := match ws[a]? with
  | some (.inl (t, n, .inl f)) => if t = 0 ∧ ¬ (i < 0 ∨ n ≤ i.toNatClampNeg) then some (ws.set a (.inl (t, n, .inl (upd f i.toNatClampNeg x)))) else none
  | _ => none
def aL (ws : LWd) (a : Nat) : Option Int32 := match ws[a]? with
  | some (.inl (t, n, _)) => if t < 3 then some (Int32.ofNat n) else none
  | _ => none
def aR (ws : LWd) (a : Nat) (i : Int32) : Option Nat := match ws[a]? with
  | some (.inl (t, n, .inr (.inr (.inr (.inr f))))) => if t = 1 ∧ ¬ (i < 0 ∨ n ≤ i.toNatClampNeg) then f i.toNatClampNeg else none
  | _ => none
def sR (ws : LWd) (a : Nat) (i : Int32) (v : Nat) : Option LWd := match ws[a]? with
  | some (.inl (t, n, .inr (.inr (.inr (.inr f))))) => if t = 1 ∧ ¬ (i < 0 ∨ n ≤ i.toNatClampNeg) ∧ rcv ws v 9 = some () then some (ws.set a (.inl (t, n, .inr (.inr (.inr (.inr (va_up f i.toNatClampNeg (some v)))))))) else none
  | _ => none
def jwO (n : Nat) (x : Option Value) : Bool := match x with
  | some v => jwV n v
  | none => true
def nOk (ws : LWd) (lv : List (Option Value)) (st : List Value) : Bool := (jwW ws && decide (ws.length < 1000000)) && lv.all (jwO ws.length) && st.all (jwV ws.length)
def nO (ws : LWd) (lv : List (Option Value)) (st : List Value) (ci : Nat) (fs : List Value) : Option (Nat × LWd) := if nOk ws lv st = true then some (ws.length, ws ++ [.inr (ci, fs)]) else none
def nA (ws : LWd) (lv : List (Option Value)) (st : List Value) (B : Nat) (x : Int32) : Option (Nat × LWd) := if nOk ws lv st = true ∧ ¬ x < 0 ∧ x.toNatClampNeg ≤ B then some (ws.length, ws ++ [.inl (0, x.toNatClampNeg, .inl (fun _ => 0))]) else none
def nQ (ws : LWd) (lv : List (Option Value)) (st : List Value) (B : Nat) (x : Int32) : Option (Nat × LWd) := if nOk ws lv st = true ∧ ¬ x < 0 ∧ x.toNatClampNeg ≤ B then some (ws.length, ws ++ [.inl (1, x.toNatClampNeg, .inr (.inr (.inr (.inr (fun _ => none)))))]) else none
def retZ (x : Int32) (ws : LWd) : Option (Int32 × LWd) := if x = 0 ∨ x = 1 then some (x, ws) else none
theorem fV_of {ws : LWd} {a ci k : Nat} {v : Value} (h : fV ws a ci k = some v) : ∃ fs, ws[a]? = some (.inr (ci, fs)) ∧ fs[k]? = some v := by
  unfold fV at h
  split at h
  · rename_i c fs e
    split at h
    · rename_i hc
      subst hc
      exact ⟨fs, e, h⟩
    · cases h
  · cases h
theorem fI_of {ws : LWd} {a ci k : Nat} {x : Int32} (h : fI ws a ci k = some x) : fV ws a ci k = some (.int x) := by
  unfold fI at h
  split at h
  · rename_i y e
    cases h
    exact e
  · cases h
theorem fR_of {ws : LWd} {a ci k : Nat} {x : Nat} (h : fR ws a ci k = some x) : fV ws a ci k = some (.ref x) := by
  unfold fR at h
  split at h
  · rename_i y e
    cases h
    exact e
  · cases h
theorem pV_of {ws ws' : LWd} {a ci k : Nat} {v : Value} (h : pV ws a ci k v = some ws') : ∃ fs, ws[a]? = some (.inr (ci, fs)) ∧ k < fs.length ∧ ws' = ws.set a (.inr (ci, fs.set k v)) := by
  unfold pV at h
  split at h
  · rename_i c fs e
    split at h
    · rename_i hc
      obtain ⟨rfl, hk⟩ := hc
      cases h
      exact ⟨fs, e, hk, rfl⟩
    · cases h
  · cases h
theorem rcv_of {ws : LWd} {a ci : Nat} {u : Unit} (h : rcv ws a ci = some u) : ∃ fs, ws[a]? = some (.inr (ci, fs)) := by
  unfold rcv at h
  split at h
  · rename_i c fs e
    split at h
    · rename_i hc
      subst hc
      exact ⟨fs, e⟩
    · cases h
  · cases h
theorem rcv_in {β : Type} {ws : LWd} {a ci : Nat} {f : Unit → Option β} {b : β} (h : (rcv ws a ci).bind f = some b) : ∃ fs, ws[a]? = some (.inr (ci, fs)) := by
  obtain ⟨u, h1, -⟩ := obS h
  exact rcv_of h1
theorem aI_of {ws : LWd} {a : Nat} {i x : Int32} (h : aI ws a i = some x) : ∃ n f, ws[a]? = some (.inl (0, n, .inl f)) ∧ vp_in i n ∧ x = f i.toNatClampNeg := by
  unfold aI at h
  split at h
  · rename_i t n f e
    split at h
    · rename_i hc
      obtain ⟨rfl, hk⟩ := hc
      cases h
      exact ⟨n, f, e, hk, rfl⟩
    · cases h
  · cases h
theorem sI_of {ws ws' : LWd} {a : Nat} {i x : Int32} (h : sI ws a i x = some ws') : ∃ n f, ws[a]? = some (.inl (0, n, .inl f)) ∧ vp_in i n ∧ ws' = ws.set a (.inl (0, n, .inl (upd f i.toNatClampNeg x))) := by
  unfold sI at h
  split at h
  · rename_i t n f e
    split at h
    · rename_i hc
      obtain ⟨rfl, hk⟩ := hc
      cases h
      exact ⟨n, f, e, hk, rfl⟩
    · cases h
  · cases h
theorem aL_of {ws : LWd} {a : Nat} {x : Int32} (h : aL ws a = some x) : ∃ t n f, ws[a]? = some (.inl (t, n, f)) ∧ t < 3 ∧ x = Int32.ofNat n := by
  unfold aL at h
  split at h
  · rename_i t n f e
    split at h
    · rename_i hc
      cases h
      exact ⟨t, n, f, e, hc, rfl⟩
    · cases h
  · cases h
theorem aR_of {ws : LWd} {a x : Nat} {i : Int32} (h : aR ws a i = some x) : ∃ n f, ws[a]? = some (.inl (1, n, .inr (.inr (.inr (.inr f))))) ∧ vp_in i n ∧ f i.toNatClampNeg = some x := by
  unfold aR at h
  split at h
  · rename_i t n f e
    split at h
    · rename_i hc
      obtain ⟨rfl, hk⟩ := hc
      exact ⟨n, f, e, hk, h⟩
    · cases h
  · cases h
theorem sR_of {ws ws' : LWd} {a v : Nat} {i : Int32} (h : sR ws a i v = some ws') : ∃ n f, ws[a]? = some (.inl (1, n, .inr (.inr (.inr (.inr f))))) ∧ vp_in i n ∧ (∃ fs, ws[v]? = some (.inr (9, fs))) ∧ ws' = ws.set a (.inl (1, n, .inr (.inr (.inr (.inr (va_up f i.toNatClampNeg (some v))))))) := by
  unfold sR at h
  split at h
  · rename_i t n f e
    split at h
    · rename_i hc
      obtain ⟨rfl, hk, hv⟩ := hc
      cases h
      exact ⟨n, f, e, hk, rcv_of hv, rfl⟩
    · cases h
  · cases h
theorem nO_of {ws ws' : LWd} {lv : List (Option Value)} {st : List Value} {ci q : Nat} {fs : List Value} (h : nO ws lv st ci fs = some (q, ws')) : nOk ws lv st = true ∧ q = ws.length ∧ ws' = ws ++ [.inr (ci, fs)] := by
  unfold nO at h
  split at h
  · rename_i hc
    cases h
    exact ⟨hc, rfl, rfl⟩
  · cases h
theorem nA_of {ws ws' : LWd} {lv : List (Option Value)} {st : List Value} {B q : Nat} {x : Int32} (h : nA ws lv st B x = some (q, ws')) : nOk ws lv st = true ∧ (¬ x < 0) ∧ x.toNatClampNeg ≤ B ∧ q = ws.length ∧ ws' = ws ++ [.inl (0, x.toNatClampNeg, .inl (fun _ => 0))] := by
  unfold nA at h
  split at h
  · rename_i hc
    cases h
    exact ⟨hc.1, hc.2.1, hc.2.2, rfl, rfl⟩
  · cases h
theorem nQ_of {ws ws' : LWd} {lv : List (Option Value)} {st : List Value} {B q : Nat} {x : Int32} (h : nQ ws lv st B x = some (q, ws')) : nOk ws lv st = true ∧ (¬ x < 0) ∧ x.toNatClampNeg ≤ B ∧ q = ws.length ∧ ws' = ws ++ [.inl (1, x.toNatClampNeg, .inr (.inr (.inr (.inr (fun _ => none)))))] := by
  unfold nQ at h
  split at h
  · rename_i hc
    cases h
    exact ⟨hc.1, hc.2.1, hc.2.2, rfl, rfl⟩
  · cases h
theorem retZ_of {x r : Int32} {ws ws' : LWd} (h : retZ x ws = some (r, ws')) : (x = 0 ∨ x = 1) ∧ r = x ∧ ws' = ws := by
  unfold retZ at h
  split at h
  · rename_i hc
    cases h
    exact ⟨hc, rfl, rfl⟩
  · cases h
section
variable {md : jMd} {cc : ByteArray} {nL : Nat} {own : String} {Ts : List Cond} {ret : Option FieldType} {nm : String} {d mc ms n0 : Nat} {out : jOut} {pc : Nat} {lv : List (Option Value)} {st : List Value} {ws : LWd} {k n : Nat}
theorem j_getV {ci kf idx a N : Nat} {v : Value} {C : String} {T : u_T} (hd : decode cc pc = .ok (.getfield idx, 3)) (hc : vwCl[ci]? = some (C, T, N)) (hin : ∀ w ∈ u_ws C T N, w ∈ Ts) (hk : kf < N) (hlink : Cond.fieldLink own idx (T kf).1 (T kf).2.1 (T kf).2.2.1 ∈ Ts) (hv : fV ws a ci kf = some v) (kk : JG md cc nL own Ts ret nm d mc ms n0 out (pc + 3) lv (v :: st) ws k n) : JG md cc nL own Ts ret nm d mc ms n0 out pc lv (.ref a :: st) ws k n := by
  intro p l e R s m args below meth c G A ρ0 ρ H locs ls hC hR hl
  have C := hC
  obtain ⟨⟨hx, hb, hml, hown, hts⟩, hr, hlocks, hname, hK, hN, hA, ⟨hRf, hRc, hRs, hRl⟩, hthr, hlaw⟩ := hC
  obtain ⟨hP, hD, hS, hρ, hle, heq⟩ := id hR
  subst hRc
  subst hRs

  obtain ⟨fs, he, hf⟩ := fV_of hv
  exact va_get (D := G.1) (ci := ci) (v := jrv ρ v) hx hb hts hin hown hK hP a (jph_get he) hc kf hk (hts _ hlink) (fun _ h => h) (by rw [List.getElem?_map, hf]; rfl) hd (kk p l e R s m args below meth c G A ρ0 ρ H locs ls C hR hl)
theorem j_getI {ci kf idx a N : Nat} {x : Int32} {C : String} {T : u_T} (hd : decode cc pc = .ok (.getfield idx, 3)) (hc : vwCl[ci]? = some (C, T, N)) (hin : ∀ w ∈ u_ws C T N, w ∈ Ts) (hk : kf < N) (hlink : Cond.fieldLink own idx (T kf).1 (T kf).2.1 (T kf).2.2.1 ∈ Ts) (hv : fI ws a ci kf = some x) (kk : JG md cc nL own Ts ret nm d mc ms n0 out (pc + 3) lv (.int x :: st) ws k n) : JG md cc nL own Ts ret nm d mc ms n0 out pc lv (.ref a :: st) ws k n := j_getV hd hc hin hk hlink (fI_of hv) kk
theorem j_getR {ci kf idx a x N : Nat} {C : String} {T : u_T} (hd : decode cc pc = .ok (.getfield idx, 3)) (hc : vwCl[ci]? = some (C, T, N)) (hin : ∀ w ∈ u_ws C T N, w ∈ Ts) (hk : kf < N) (hlink : Cond.fieldLink own idx (T kf).1 (T kf).2.1 (T kf).2.2.1 ∈ Ts) (hv : fR ws a ci kf = some x) (kk : JG md cc nL own Ts ret nm d mc ms n0 out (pc + 3) lv (.ref x :: st) ws k n) : JG md cc nL own Ts ret nm d mc ms n0 out pc lv (.ref a :: st) ws k n := j_getV hd hc hin hk hlink (fR_of hv) kk

theorem j_putV {ci kf idx a N : Nat} {v : Value} {ws' : LWd} {C : String} {T : u_T} (ty0 : Nat → FieldType) (hty : ∀ k, k < N → parseFieldDescriptor (T k).2.2.1 = some (ty0 k)) (hnm : ∀ a, a < N → ∀ b, b < N → a ≠ b → (T a).2.1 ≠ (T b).2.1) (hd : decode cc pc = .ok (.putfield idx, 3)) (hc : vwCl[ci]? = some (C, T, N)) (hin : ∀ w ∈ u_ws C T N, w ∈ Ts) (hk : kf < N) (hlink : Cond.fieldLink own idx (T kf).1 (T kf).2.1 (T kf).2.2.1 ∈ Ts) (hfin : (T kf).2.2.2 = false)
    (hn : ∀ ρ : Nat → Nat, narrow (ty0 kf) (jrv ρ v) = jrv ρ v) (hft : ∀ ρ : Nat → Nat, fits (ty0 kf) (jrv ρ v) = true) (hv : pV ws a ci kf v = some ws') (kk : JG md cc nL own Ts ret nm d mc ms n0 out (pc + 3) lv st ws' k n) : JG md cc nL own Ts ret nm d mc ms n0 out pc lv (v :: .ref a :: st) ws k n := by
  intro p l e R s m args below meth c G A ρ0 ρ H locs ls hC hR hl
  have C := hC
  obtain ⟨⟨hx, hb, hml, hown, hts⟩, hr, hlocks, hname, hK, hN, hA, ⟨hRf, hRc, hRs, hRl⟩, hthr, hlaw⟩ := hC
  obtain ⟨hP, hD, hS, hρ, hle, heq⟩ := id hR
  subst hRc
  subst hRs

  obtain ⟨fs, he, hkl, rfl⟩ := pV_of hv
  refine va_put (D := G.1) (ci := ci) (v := jrv ρ v) (ty := ty0 kf) hx hb hts hin ty0 hty hnm hown hK hP hD hS a (jph_get he) hc kf hk (hts _ hlink) (fun _ h => h) hfin (hty kf hk) (hn ρ) (hft ρ) (by rw [List.length_map]; exact hkl) hd (fun H1 locs1 hP1 hD1 hS1 => ?_)
  have e7 : (jph G.2 ρ ws).set a (ρ a, .inr (ci, (fs.map (jrv ρ)).set kf (jrv ρ v))) = jph G.2 ρ (ws.set a (.inr (ci, fs.set kf v))) := by
    rw [← List.map_set]
    exact jph_set (e := .inr (ci, fs.set kf v))
  rw [e7] at hP1 hD1
  exact kk p l e R s m args below meth c G A ρ0 ρ H1 locs1 ls C ⟨hP1, hD1, hS1, hρ, by rw [List.length_set]; exact hle, by rw [List.length_set]; exact heq⟩ hl
theorem j_putF {ci kf idx a N : Nat} {v : Value} {ws' : LWd} {C : String} {T : u_T} (ty0 : Nat → FieldType) (hty : ∀ k, k < N → parseFieldDescriptor (T k).2.2.1 = some (ty0 k)) (hnm : ∀ a, a < N → ∀ b, b < N → a ≠ b → (T a).2.1 ≠ (T b).2.1) (hd : decode cc pc = .ok (.putfield idx, 3)) (hc : vwCl[ci]? = some (C, T, N)) (hin : ∀ w ∈ u_ws C T N, w ∈ Ts) (hk : kf < N) (hlink : Cond.fieldLink own idx (T kf).1 (T kf).2.1 (T kf).2.2.1 ∈ Ts) (hfin : (T kf).2.2.2 = true) (hini : nm = "<init>") (hdecl : (T kf).1 = own)
    (hn : ∀ ρ : Nat → Nat, narrow (ty0 kf) (jrv ρ v) = jrv ρ v) (hft : ∀ ρ : Nat → Nat, fits (ty0 kf) (jrv ρ v) = true) (hv : pV ws a ci kf v = some ws') (kk : JG md cc nL own Ts ret nm d mc ms n0 out (pc + 3) lv st ws' k n) : JG md cc nL own Ts ret nm d mc ms n0 out pc lv (v :: .ref a :: st) ws k n := by
  intro p l e R s m args below meth c G A ρ0 ρ H locs ls hC hR hl
  have C := hC
  obtain ⟨⟨hx, hb, hml, hown, hts⟩, hr, hlocks, hname, hK, hN, hA, ⟨hRf, hRc, hRs, hRl⟩, hthr, hlaw⟩ := hC
  obtain ⟨hP, hD, hS, hρ, hle, heq⟩ := id hR
  subst hRc
  subst hRs

  obtain ⟨fs, he, hkl, rfl⟩ := pV_of hv
  refine va_putF (D := G.1) (ci := ci) (v := jrv ρ v) (ty := ty0 kf) hx hb hts hin ty0 hty hnm hown hK hP hD hS a (jph_get he) hc kf hk (hts _ hlink) (fun _ h => h) hfin (hname.trans hini) hdecl (hty kf hk) (hn ρ) (hft ρ) (by rw [List.length_map]; exact hkl) hd (fun H1 locs1 hP1 hD1 hS1 => ?_)
  have e7 : (jph G.2 ρ ws).set a (ρ a, .inr (ci, (fs.map (jrv ρ)).set kf (jrv ρ v))) = jph G.2 ρ (ws.set a (.inr (ci, fs.set kf v))) := by
    rw [← List.map_set]
    exact jph_set (e := .inr (ci, fs.set kf v))
  rw [e7] at hP1 hD1
  exact kk p l e R s m args below meth c G A ρ0 ρ H1 locs1 ls C ⟨hP1, hD1, hS1, hρ, by rw [List.length_set]; exact hle, by rw [List.length_set]; exact heq⟩ hl
theorem pZ_n {x : Int32} {ws' : LWd} {a ci kf : Nat} (h : pZ ws a ci kf x = some ws') : pV ws a ci kf (.int x) = some ws' ∧ (∀ ρ : Nat → Nat, narrow .boolean (jrv ρ (.int x)) = jrv ρ (.int x)) ∧ (∀ ρ : Nat → Nat, fits .boolean (jrv ρ (.int x)) = true) := by
  unfold pZ at h
  split at h
  · rename_i hc
    refine ⟨h, ?_, ?_⟩
    · rcases hc with rfl | rfl <;> (intro ρ; rfl)
    · rcases hc with rfl | rfl <;> (intro ρ; rfl)
  · cases h

theorem j_iald {a : Nat} {i x : Int32} (hd : decode cc pc = .ok (.iaload, 1)) (hv : aI ws a i = some x) (kk : JG md cc nL own Ts ret nm d mc ms n0 out (pc + 1) lv (.int x :: st) ws k n) : JG md cc nL own Ts ret nm d mc ms n0 out pc lv (.int i :: .ref a :: st) ws k n := by
  intro p l e R s m args below meth c G A ρ0 ρ H locs ls hC hR hl
  have C := hC
  obtain ⟨⟨hx, hb, hml, hown, hts⟩, hr, hlocks, hname, hK, hN, hA, ⟨hRf, hRc, hRs, hRl⟩, hthr, hlaw⟩ := hC
  obtain ⟨hP, hD, hS, hρ, hle, heq⟩ := id hR
  subst hRc
  subst hRs

  obtain ⟨N, f, he, hin, rfl⟩ := aI_of hv
  exact va_iald hx hb hK hP a 0 (jph_get he) rfl hin hd (kk p l e R s m args below meth c G A ρ0 ρ H locs ls C hR hl)
theorem j_iast {a : Nat} {i x : Int32} {ws' : LWd} (hd : decode cc pc = .ok (.iastore, 1)) (hv : sI ws a i x = some ws') (kk : JG md cc nL own Ts ret nm d mc ms n0 out (pc + 1) lv st ws' k n) : JG md cc nL own Ts ret nm d mc ms n0 out pc lv (.int x :: .int i :: .ref a :: st) ws k n := by
  intro p l e R s m args below meth c G A ρ0 ρ H locs ls hC hR hl
  have C := hC
  obtain ⟨⟨hx, hb, hml, hown, hts⟩, hr, hlocks, hname, hK, hN, hA, ⟨hRf, hRc, hRs, hRl⟩, hthr, hlaw⟩ := hC
  obtain ⟨hP, hD, hS, hρ, hle, heq⟩ := id hR
  subst hRc
  subst hRs

  obtain ⟨N, f, he, hin, rfl⟩ := sI_of hv
  refine va_iast hx hb hK hP hD hS a 0 (jph_get he) rfl hin hd (fun H1 locs1 hP1 hD1 hS1 => ?_)
  have e7 : (jph G.2 ρ ws).set a (ρ a, .inl (G.2 0, N, .inl (upd f i.toNatClampNeg x))) = jph G.2 ρ (ws.set a (.inl (0, N, .inl (upd f i.toNatClampNeg x)))) := jph_set (e := .inl (0, N, .inl (upd f i.toNatClampNeg x)))
  rw [e7] at hP1 hD1
  exact kk p l e R s m args below meth c G A ρ0 ρ H1 locs1 ls C ⟨hP1, hD1, hS1, hρ, by rw [List.length_set]; exact hle, by rw [List.length_set]; exact heq⟩ hl
theorem j_alen {a : Nat} {x : Int32} (hd : decode cc pc = .ok (.arraylength, 1)) (hv : aL ws a = some x) (kk : JG md cc nL own Ts ret nm d mc ms n0 out (pc + 1) lv (.int x :: st) ws k n) : JG md cc nL own Ts ret nm d mc ms n0 out pc lv (.ref a :: st) ws k n := by
  intro p l e R s m args below meth c G A ρ0 ρ H locs ls hC hR hl
  have C := hC
  obtain ⟨⟨hx, hb, hml, hown, hts⟩, hr, hlocks, hname, hK, hN, hA, ⟨hRf, hRc, hRs, hRl⟩, hthr, hlaw⟩ := hC
  obtain ⟨hP, hD, hS, hρ, hle, heq⟩ := id hR
  subst hRc
  subst hRs

  obtain ⟨t, N, f, he, ht, rfl⟩ := aL_of hv
  have ht' : ∃ ty, (jty G.2)[t]? = some (G.2 t, ty) := by
    match t, ht with
    | 0, _ => exact ⟨_, rfl⟩
    | 1, _ => exact ⟨_, rfl⟩
    | 2, _ => exact ⟨_, rfl⟩
  obtain ⟨ty, ht'⟩ := ht'
  exact va_alen hx hb hK hP a t (jph_get he) ht' rfl hd (kk p l e R s m args below meth c G A ρ0 ρ H locs ls C hR hl)
theorem j_aald {a x : Nat} {i : Int32} (hd : decode cc pc = .ok (.aaload, 1)) (hv : aR ws a i = some x) (kk : JG md cc nL own Ts ret nm d mc ms n0 out (pc + 1) lv (.ref x :: st) ws k n) : JG md cc nL own Ts ret nm d mc ms n0 out pc lv (.int i :: .ref a :: st) ws k n := by
  intro p l e R s m args below meth c G A ρ0 ρ H locs ls hC hR hl
  have C := hC
  obtain ⟨⟨hx, hb, hml, hown, hts⟩, hr, hlocks, hname, hK, hN, hA, ⟨hRf, hRc, hRs, hRl⟩, hthr, hlaw⟩ := hC
  obtain ⟨hP, hD, hS, hρ, hle, heq⟩ := id hR
  subst hRc
  subst hRs

  obtain ⟨N, f, he, hin, hf⟩ := aR_of hv
  have hlt : i.toNatClampNeg < N := Nat.not_le.mp fun q => hin (Or.inr q)
  refine va_aldq hx hb hK hP a 1 (jph_get he) rfl hin hd ?_
  rw [if_pos hlt, hf]
  exact kk p l e R s m args below meth c G A ρ0 ρ H locs ls C hR hl
theorem j_aast {a v : Nat} {i : Int32} {ws' : LWd} (hd : decode cc pc = .ok (.aastore, 1)) (hv : sR ws a i v = some ws') (kk : JG md cc nL own Ts ret nm d mc ms n0 out (pc + 1) lv st ws' k n) : JG md cc nL own Ts ret nm d mc ms n0 out pc lv (.ref v :: .int i :: .ref a :: st) ws k n := by
  intro p l e R s m args below meth c G A ρ0 ρ H locs ls hC hR hl
  have C := hC
  obtain ⟨⟨hx, hb, hml, hown, hts⟩, hr, hlocks, hname, hK, hN, hA, ⟨hRf, hRc, hRs, hRl⟩, hthr, hlaw⟩ := hC
  obtain ⟨hP, hD, hS, hρ, hle, heq⟩ := id hR
  subst hRc
  subst hRs

  obtain ⟨N, f, he, hin, ⟨fs, hvv⟩, rfl⟩ := sR_of hv
  have hlt : i.toNatClampNeg < N := Nat.not_le.mp fun q => hin (Or.inr q)
  refine va_astq hx hb hK hP hD hS a 1 v 9 (r := (RX9, TX9, 6)) (jph_get he) rfl (jph_get hvv) rfl hin hd (fun H1 locs1 hP1 hD1 hS1 => ?_)
  have eg : va_up (fun j => if j < N then (f j).map ρ else none) i.toNatClampNeg (some (ρ v)) = (fun j => if j < N then ((va_up f i.toNatClampNeg (some v)) j).map ρ else none) := by
    funext j
    unfold va_up
    by_cases hj : j = i.toNatClampNeg
    · subst hj
      simp [hlt]
    · simp [hj]
  rw [eg] at hP1 hD1
  have e7 : (jph G.2 ρ ws).set a (ρ a, .inl (G.2 1, N, .inr (.inr (.inr (.inr (fun j => if j < N then ((va_up f i.toNatClampNeg (some v)) j).map ρ else none)))))) = jph G.2 ρ (ws.set a (.inl (1, N, .inr (.inr (.inr (.inr (va_up f i.toNatClampNeg (some v)))))))) := jph_set (e := .inl (1, N, .inr (.inr (.inr (.inr (va_up f i.toNatClampNeg (some v)))))))
  rw [e7] at hP1 hD1
  exact kk p l e R s m args below meth c G A ρ0 ρ H1 locs1 ls C ⟨hP1, hD1, hS1, hρ, by rw [List.length_set]; exact hle, by rw [List.length_set]; exact heq⟩ hl

/-- ρ with one place more -/
def jup (ρ : Nat → Nat) (n q : Nat) : Nat → Nat := fun i => if i = n then q else ρ i
theorem jup_lt {ρ : Nat → Nat} {n q i : Nat} (hn : n < 1000000) (h : i < n ∨ i = 1000000) : jup ρ n q i = ρ i := by unfold jup; rw [if_neg (by omega)]
theorem jup_at {ρ : Nat → Nat} {n q : Nat} : jup ρ n q n = q := by unfold jup; rw [if_pos rfl]
theorem jlv_ext {ρ ρ' : Nat → Nat} {ls : Array Slot} {m : Nat} {lv : List (Option Value)} (h : ∀ i, (i < m ∨ i = 1000000) → ρ' i = ρ i) (hw : lv.all (jwO m) = true) {nL : Nat} (hl : jLH ρ ls nL lv) : jLH ρ' ls nL lv := by
  refine hl.weak fun i v hi => ⟨v, hi, ?_⟩
  have := List.all_eq_true.mp hw _ (List.mem_of_getElem? hi)
  exact (jrv_ext h this).symm
theorem nOk_of {ws : LWd} {lv : List (Option Value)} {st : List Value} (h : nOk ws lv st = true) : (jwW ws = true ∧ ws.length < 1000000) ∧ lv.all (jwO ws.length) = true ∧ st.all (jwV ws.length) = true := by
  unfold nOk at h
  simp only [Bool.and_eq_true, decide_eq_true_eq] at h
  exact ⟨h.1.1, h.1.2, h.2⟩
/-- a new cell's place -/
theorem jgrow {G : LGl} {A : Nat → Prop} {s : State} {ρ0 ρ : Nat → Nat} {n0 : Nat} {H H1 : Heap} {locs : List Loc} {ws : LWd} {e : LCl} {q : Nat} (hR : jRW G A s ρ0 ρ n0 H locs ws) (hw : jwW ws = true ∧ ws.length < 1000000) (hP : va_P G.1 vwCl (jph G.2 ρ ws ++ [(q, jre G.2 (jup ρ ws.length q) e)]) H1) (hD : va_D A (jph G.2 ρ ws ++ [(q, jre G.2 (jup ρ ws.length q) e)])) (hS : va_S A s.heap H1 locs) : jRW G A s ρ0 (jup ρ ws.length q) n0 H1 locs (ws ++ [e]) := by
  obtain ⟨-, -, -, hρ, hle, heq⟩ := hR
  have ee : jph G.2 ρ ws ++ [(q, jre G.2 (jup ρ ws.length q) e)] = jph G.2 (jup ρ ws.length q) (ws ++ [e]) := by
    rw [jph_push, jup_at, jph_ext (fun i hi => jup_lt hw.2 hi) hw.1]
  rw [ee] at hP hD
  refine ⟨hP, hD, hS, fun i hi => by rw [show jup ρ ws.length q i = ρ i from if_neg (by omega)]; exact hρ i hi, by rw [List.length_append]; omega, fun h => ?_⟩
  rw [List.length_append, List.length_singleton] at h
  omega
theorem j_new {ci idx q N : Nat} {fs : List Value} {ws' : LWd} {C : String} {T : u_T} (ty : Nat → FieldType) (hty : ∀ k, k < N → parseFieldDescriptor (T k).2.2.1 = some (ty k)) (hd : decode cc pc = .ok (.new idx, 3)) (hc : vwCl[ci]? = some (C, T, N)) (hin : ∀ w ∈ u_ws C T N, w ∈ Ts) (hcl : Cond.classLink own idx C ∈ Ts) (hinst : Cond.instantiable C N ∈ Ts) (hini : Cond.initialized C ∈ Ts)
    (hfs : ∀ j, j < N → defaultValue (ty j) = vp_V fs j) (hfr : ∀ ρ : Nat → Nat, fs.map (jrv ρ) = fs) (hkc : k + 1 ≤ mc) (hks : n + N ≤ ms) (hv : nO ws lv st ci fs = some (q, ws')) (kk : JG md cc nL own Ts ret nm d mc ms n0 out (pc + 3) lv (.ref q :: st) ws' (k + 1) (n + N)) : JG md cc nL own Ts ret nm d mc ms n0 out pc lv st ws k n := by
  intro p l e R s m args below meth c G A ρ0 ρ H locs ls hC hR hl
  have C := hC
  obtain ⟨⟨hx, hb, hml, hown, hts⟩, hr, hlocks, hname, hK, hN, hA, ⟨hRf, hRc, hRs, hRl⟩, hthr, hlaw⟩ := hC
  obtain ⟨hP, hD, hS, hρ, hle, heq⟩ := id hR
  subst hRc
  subst hRs

  obtain ⟨hok, rfl, rfl⟩ := nO_of hv
  obtain ⟨w1, w2, w3⟩ := nOk_of hok
  refine va_new (D := G.1) (ci := ci) (fs := fs) hx hb hts hin ty hty hown (hts _ hcl) (hts _ hinst) (hts _ hini) hK hP hD hS hA hc hfs hkc hks hd (fun q H1 hP1 hD1 hS1 => ?_)
  have ef : ((.inr (ci, fs) : va_E)) = jre G.2 (jup ρ ws.length q) (.inr (ci, fs)) := by
    show _ = Sum.inr (ci, fs.map _)
    rw [hfr]
  rw [ef] at hP1 hD1
  have := kk p l e R s m args below meth c G A ρ0 (jup ρ ws.length q) H1 locs ls C (jgrow hR w1 hP1 hD1 hS1) (jlv_ext (fun i hi => jup_lt w1.2 hi) w2 hl)
  rw [List.map_cons, jrvs_ext (fun i hi => jup_lt w1.2 hi) w3] at this
  have e2 : jrv (jup ρ ws.length q) (.ref ws.length) = .ref q := by show Value.ref (jup ρ ws.length q ws.length) = _; rw [jup_at]
  rw [e2] at this
  exact this
theorem jty_one {G : LGl} {s : State} (hK : va_K G.1 vwCl (jty G.2) s) {cA : ClassId} {ty : FieldType} (hK1 : va_K G.1 vwCl (jty G.2 ++ [(cA, ty)]) s) {t : Nat} (ht : (jty G.2)[t]? = some (G.2 t, ty)) : cA = G.2 t := by
  have h1 := (hK.2 t _ ht).2
  have h2 := (hK1.2 3 (cA, ty) rfl).2
  cases ty with
  | object C =>
    obtain ⟨_, _, -, -, -, g1⟩ := h1
    obtain ⟨_, _, -, -, -, g2⟩ := h2
    exact Option.some.inj (g2.symm.trans g1)
  | _ => exact Option.some.inj (Eq.trans (Eq.symm h2) h1)
theorem j_newA {q B : Nat} {x : Int32} {ws' : LWd} (harr : Cond.arrayClass .int ∈ Ts) (hd : decode cc pc = .ok (.newarray .int, 2)) (hB : B ≤ 1000000) (hkc : k + 1 ≤ mc) (hks : n + B ≤ ms) (hv : nA ws lv st B x = some (q, ws')) (kk : JG md cc nL own Ts ret nm d mc ms n0 out (pc + 2) lv (.ref q :: st) ws' (k + 1) (n + B)) : JG md cc nL own Ts ret nm d mc ms n0 out pc lv (.int x :: st) ws k n := by
  intro p l e R s m args below meth c G A ρ0 ρ H locs ls hC hR hl
  have C := hC
  obtain ⟨⟨hx, hb, hml, hown, hts⟩, hr, hlocks, hname, hK, hN, hA, ⟨hRf, hRc, hRs, hRl⟩, hthr, hlaw⟩ := hC
  obtain ⟨hP, hD, hS, hρ, hle, heq⟩ := id hR
  subst hRc
  subst hRs

  obtain ⟨hok, hx0, hxB, rfl, rfl⟩ := nA_of hv
  obtain ⟨w1, w2, w3⟩ := nOk_of hok
  refine va_newa (atype := .int) (ty := .int) (D := G.1) hx hb (hts _ harr) rfl hK hP hD hS hA (a0 := (x.toNatClampNeg, .inl (fun _ => 0))) (fun cA => rfl) hx0 rfl (by show _ * 4 ≤ _; omega) hkc (Nat.le_trans (Nat.add_le_add_left hxB n) hks) hd (fun q cA H1 hK1 hP1 hD1 hS1 => ?_)
  have hcA : cA = G.2 0 := jty_one hK hK1 rfl
  subst hcA
  have := kk p l e R s m args below meth c G A ρ0 (jup ρ ws.length q) H1 locs ls C (jgrow hR w1 (e := .inl (0, x.toNatClampNeg, .inl (fun _ => 0))) hP1 hD1 hS1) (jlv_ext (fun i hi => jup_lt w1.2 hi) w2 hl)
  rw [List.map_cons, jrvs_ext (fun i hi => jup_lt w1.2 hi) w3] at this
  have e2 : jrv (jup ρ ws.length q) (.ref ws.length) = .ref q := by show Value.ref (jup ρ ws.length q ws.length) = _; rw [jup_at]
  rw [e2] at this
  exact W.widen (Nat.le_refl _) (Nat.add_le_add_left hxB n) this
theorem j_newQ {q B idx : Nat} {x : Int32} {ws' : LWd} (hcl : Cond.classLink own idx RX9 ∈ Ts) (hd : decode cc pc = .ok (.anewarray idx, 3)) (hB : B ≤ 1000000) (hkc : k + 1 ≤ mc) (hks : n + B ≤ ms) (hv : nQ ws lv st B x = some (q, ws')) (kk : JG md cc nL own Ts ret nm d mc ms n0 out (pc + 3) lv (.ref q :: st) ws' (k + 1) (n + B)) : JG md cc nL own Ts ret nm d mc ms n0 out pc lv (.int x :: st) ws k n := by
  intro p l e R s m args below meth c G A ρ0 ρ H locs ls hC hR hl
  have C := hC
  obtain ⟨⟨hx, hb, hml, hown, hts⟩, hr, hlocks, hname, hK, hN, hA, ⟨hRf, hRc, hRs, hRl⟩, hthr, hlaw⟩ := hC
  obtain ⟨hP, hD, hS, hρ, hle, heq⟩ := id hR
  subst hRc
  subst hRs

  obtain ⟨hok, hx0, hxB, rfl, rfl⟩ := nQ_of hv
  obtain ⟨w1, w2, w3⟩ := nOk_of hok
  refine va_newq (D := G.1) hx hb hown (hts _ hcl) hN.2 hK hP hD hS hA hx0 rfl (by omega) hkc (Nat.le_trans (Nat.add_le_add_left hxB n) hks) hd (fun q cA H1 hK1 hP1 hD1 hS1 => ?_)
  have hcA : cA = G.2 1 := jty_one hK hK1 rfl
  subst hcA
  have ef : ((.inl (G.2 1, x.toNatClampNeg, .inr (.inr (.inr (.inr (fun _ => none))))) : va_E)) = jre G.2 (jup ρ ws.length q) (.inl (1, x.toNatClampNeg, .inr (.inr (.inr (.inr (fun _ => none)))))) := by
    have eg : (fun _ => none : Nat → Option Nat) = (fun j => if j < x.toNatClampNeg then ((none : Option Nat)).map (jup ρ ws.length q) else none) := by
      funext j
      simp
    show _ = Sum.inl (G.2 1, x.toNatClampNeg, Sum.inr (Sum.inr (Sum.inr (Sum.inr (fun j => if j < x.toNatClampNeg then ((none : Option Nat)).map (jup ρ ws.length q) else none)))))
    rw [← eg]
  rw [ef] at hP1 hD1
  have := kk p l e R s m args below meth c G A ρ0 (jup ρ ws.length q) H1 locs ls C (jgrow hR w1 hP1 hD1 hS1) (jlv_ext (fun i hi => jup_lt w1.2 hi) w2 hl)
  rw [List.map_cons, jrvs_ext (fun i hi => jup_lt w1.2 hi) w3] at this
  have e2 : jrv (jup ρ ws.length q) (.ref ws.length) = .ref q := by show Value.ref (jup ρ ws.length q ws.length) = _; rw [jup_at]
  rw [e2] at this
  exact W.widen (Nat.le_refl _) (Nat.add_le_add_left hxB n) this

theorem jfin {md : jMd} {mc ms : Nat} {p : Program} {l : Launch} {e : Env} {R : Room} {s : State} {m : MethodId} {args : Array Value} {below : List Frame} {meth : Method} {c : Code} {H : Heap} {locs : List Loc} {Qc : Array Value → State → Outcome → State → Prop} {XC : String → State → State → Prop} {free : Addr → Prop} {g : JFrame} (kk : W p l e R s m args below meth c H locs mc ms (MQ below Qc args s mc ms free) g) : W p l e R s m args below meth c H locs mc ms (jfQ md below Qc XC args s mc ms free) g := by
  match md, kk with
  | .inl false, kk => exact kk
  | .inl true, kk => exact vx_ret kk
  | .inr _, kk => exact kk
theorem jend {G : LGl} {A : Nat → Prop} {s t : State} {ρ0 ρ : Nat → Nat} {H : Heap} {locs : List Loc} {o : Option Value} {a : Array Value} (hR : jRW G A s ρ0 ρ n0 H locs ws) (ho : out = (.inl o, ws)) (ht : t.heap = H) : jQC G ρ0 n0 A out a s (.returned (o.map (jrv ρ))) t := by
  obtain ⟨hP, hD, hS, hρ, hle, heq⟩ := hR
  subst ho
  exact ⟨⟨o, ρ, rfl, rfl, hρ, heq, by rw [ht]; exact hP, hD⟩, hS.F ht⟩
theorem j_iret {x : Int32} (hr' : ret = some .int) (hd : decode cc pc = .ok (.ireturn, 1)) (hkc : k ≤ mc) (hks : n ≤ ms) (ho : out = (.inl (some (.int x)), ws)) : JG md cc nL own Ts ret nm d mc ms n0 out pc lv [.int x] ws k n := by
  intro p l e R s m args below meth c G A ρ0 ρ H locs ls hC hR hl
  have C := hC
  obtain ⟨⟨hx, hb, hml, hown, hts⟩, hr, hlocks, hname, hK, hN, hA, ⟨hRf, hRc, hRs, hRl⟩, hthr, hlaw⟩ := hC
  obtain ⟨hP, hD, hS, hρ, hle, heq⟩ := id hR
  subst hRc
  subst hRs

  refine W.widen hkc hks (jfin ?_)
  exact W.iret (v := x) hx hb (hr.trans hr') (fun t ht hW => jend hR ho ht) hS.2.2 hd hlocks
theorem j_zret {x r : Int32} {ws1 ws' : LWd} (hr' : ret = some .boolean) (hd : decode cc pc = .ok (.ireturn, 1)) (hkc : k ≤ mc) (hks : n ≤ ms) (hz : retZ x ws1 = some (r, ws')) (hw : ws1 = ws) (ho : out = (.inl (some (.int r)), ws')) : JG md cc nL own Ts ret nm d mc ms n0 out pc lv [.int x] ws k n := by
  intro p l e R s m args below meth c G A ρ0 ρ H locs ls hC hR hl
  have C := hC
  obtain ⟨⟨hx, hb, hml, hown, hts⟩, hr, hlocks, hname, hK, hN, hA, ⟨hRf, hRc, hRs, hRl⟩, hthr, hlaw⟩ := hC
  obtain ⟨hP, hD, hS, hρ, hle, heq⟩ := id hR
  subst hRc
  subst hRs

  subst hw
  obtain ⟨hx01, rfl, rfl⟩ := retZ_of hz
  refine W.widen hkc hks (jfin ?_)
  exact W.zret (v := r) hx hb (hr.trans hr') (by rcases hx01 with rfl | rfl <;> rfl) (fun t ht hW => jend hR ho ht) hS.2.2 hd hlocks
theorem j_fret {x : UInt32} (hr' : ret = some .float) (hd : decode cc pc = .ok (.freturn, 1)) (hkc : k ≤ mc) (hks : n ≤ ms) (ho : out = (.inl (some (.float x)), ws)) : JG md cc nL own Ts ret nm d mc ms n0 out pc lv [.float x] ws k n := by
  intro p l e R s m args below meth c G A ρ0 ρ H locs ls hC hR hl
  have C := hC
  obtain ⟨⟨hx, hb, hml, hown, hts⟩, hr, hlocks, hname, hK, hN, hA, ⟨hRf, hRc, hRs, hRl⟩, hthr, hlaw⟩ := hC
  obtain ⟨hP, hD, hS, hρ, hle, heq⟩ := id hR
  subst hRc
  subst hRs

  refine W.widen hkc hks (jfin ?_)
  exact W.fret (v := x) hx hb (hr.trans hr') (fun t ht hW => jend hR ho ht) hS.2.2 hd hlocks
theorem j_jret {x : Int64} (hr' : ret = some .long) (hd : decode cc pc = .ok (.lreturn, 1)) (hkc : k ≤ mc) (hks : n ≤ ms) (ho : out = (.inl (some (.long x)), ws)) : JG md cc nL own Ts ret nm d mc ms n0 out pc lv [.long x] ws k n := by
  intro p l e R s m args below meth c G A ρ0 ρ H locs ls hC hR hl
  have C := hC
  obtain ⟨⟨hx, hb, hml, hown, hts⟩, hr, hlocks, hname, hK, hN, hA, ⟨hRf, hRc, hRs, hRl⟩, hthr, hlaw⟩ := hC
  obtain ⟨hP, hD, hS, hρ, hle, heq⟩ := id hR
  subst hRc
  subst hRs

  refine W.widen hkc hks (jfin ?_)
  exact W.lret (v := x) hx hb (hr.trans hr') (fun t ht hW => jend hR ho ht) hS.2.2 hd hlocks
theorem j_vret (hr' : ret = none) (hd : decode cc pc = .ok (.return_, 1)) (hkc : k ≤ mc) (hks : n ≤ ms) (ho : out = (.inl none, ws)) : JG md cc nL own Ts ret nm d mc ms n0 out pc lv [] ws k n := by
  intro p l e R s m args below meth c G A ρ0 ρ H locs ls hC hR hl
  have C := hC
  obtain ⟨⟨hx, hb, hml, hown, hts⟩, hr, hlocks, hname, hK, hN, hA, ⟨hRf, hRc, hRs, hRl⟩, hthr, hlaw⟩ := hC
  obtain ⟨hP, hD, hS, hρ, hle, heq⟩ := id hR
  subst hRc
  subst hRs

  refine W.widen hkc hks (jfin ?_)
  exact W.vret hx hb (hr.trans hr') (fun t ht hW => jend hR ho ht) hS.2.2 hd hlocks
theorem j_objInit {idx a : Nat} (hd : decode cc pc = .ok (.invokespecial idx, 3)) (h1 : Cond.methodLink own idx objectInit ∈ Ts) (h2 : Cond.instanceMethod objectInit ∈ Ts) (h3 : Cond.code objectInit ⟨#[0xb1]⟩ 1 none ∈ Ts) (hd1 : 1 ≤ d) (hst : (st.map fun v => v.category).sum + 12 ≤ 40 * d) (kk : JG md cc nL own Ts ret nm d mc ms n0 out (pc + 3) lv st ws k n) : JG md cc nL own Ts ret nm d mc ms n0 out pc lv (.ref a :: st) ws k n := by
  intro p l e R s m args below meth c G A ρ0 ρ H locs ls hC hR hl
  have C := hC
  obtain ⟨⟨hx, hb, hml, hown, hts⟩, hr, hlocks, hname, hK, hN, hA, ⟨hRf, hRc, hRs, hRl⟩, hthr, hlaw⟩ := hC
  obtain ⟨hP, hD, hS, hρ, hle, heq⟩ := id hR
  subst hRc
  subst hRs

  refine W.objInit hx hb hown (hts _ h1) (hts _ h2) (hts _ h3) rfl (by rw [hml]; exact hl.1) rfl hd (Nat.le_trans hd1 hRf) (by show 2 * 0 + ((st.map (jrv ρ)).map fun v => v.category).sum + 12 ≤ R.locals; rw [jrv_cats]; omega) ?_
  exact W.eq (g2 := F0 m (pc + 3) ls (st.map (jrv ρ))) rfl (kk p l e R s m args below meth c G A ρ0 ρ H locs ls C hR hl)
theorem j_mmax {idx : Nat} {x y : Int32} (hd : decode cc pc = .ok (.invokestatic idx, 3)) (h1 : Cond.methodLink own idx Lib.Math.max.name ∈ Ts) (h2 : Cond.static Lib.Math.max.name ∈ Ts) (h3 : Cond.initialized "java/lang/Math" ∈ Ts) (h4 : Cond.code Lib.Math.max.name Lib.Math.max.code 2 (some .int) ∈ Ts) (hd1 : 1 ≤ d) (hst : (st.map fun v => v.category).sum + 13 ≤ 40 * d) (hkc : k ≤ mc) (hks : n ≤ ms) (kk : JG md cc nL own Ts ret nm d mc ms n0 out (pc + 3) lv (.int (jmax x y) :: st) ws k n) : JG md cc nL own Ts ret nm d mc ms n0 out pc lv (.int y :: .int x :: st) ws k n := by
  intro p l e R s m args below meth c G A ρ0 ρ H locs ls hC hR hl
  have C := hC
  obtain ⟨⟨hx, hb, hml, hown, hts⟩, hr, hlocks, hname, hK, hN, hA, ⟨hRf, hRc, hRs, hRl⟩, hthr, hlaw⟩ := hC
  obtain ⟨hP, hD, hS, hρ, hle, heq⟩ := id hR
  subst hRc
  subst hRs

  exact va_mmax hx hb (by rw [hml]; exact hl.1.symm) hown (hts _ h1) (hts _ h2) (hts _ h3) (hts _ h4) (Nat.le_trans hd1 hRf) (by rw [jrv_cats]; exact Nat.le_trans hst hRl) hkc hks hd (kk p l e R s m args below meth c G A ρ0 ρ H locs ls C hR hl)
theorem j_mmin {idx : Nat} {x y : Int32} (hd : decode cc pc = .ok (.invokestatic idx, 3)) (h1 : Cond.methodLink own idx Lib.Math.min.name ∈ Ts) (h2 : Cond.static Lib.Math.min.name ∈ Ts) (h3 : Cond.initialized "java/lang/Math" ∈ Ts) (h4 : Cond.code Lib.Math.min.name Lib.Math.min.code 2 (some .int) ∈ Ts) (hd1 : 1 ≤ d) (hst : (st.map fun v => v.category).sum + 13 ≤ 40 * d) (hkc : k ≤ mc) (hks : n ≤ ms) (kk : JG md cc nL own Ts ret nm d mc ms n0 out (pc + 3) lv (.int (jmin x y) :: st) ws k n) : JG md cc nL own Ts ret nm d mc ms n0 out pc lv (.int y :: .int x :: st) ws k n := by
  intro p l e R s m args below meth c G A ρ0 ρ H locs ls hC hR hl
  have C := hC
  obtain ⟨⟨hx, hb, hml, hown, hts⟩, hr, hlocks, hname, hK, hN, hA, ⟨hRf, hRc, hRs, hRl⟩, hthr, hlaw⟩ := hC
  obtain ⟨hP, hD, hS, hρ, hle, heq⟩ := id hR
  subst hRc
  subst hRs

  exact va_mmin hx hb (by rw [hml]; exact hl.1.symm) hown (hts _ h1) (hts _ h2) (hts _ h3) (hts _ h4) (Nat.le_trans hd1 hRf) (by rw [jrv_cats]; exact Nat.le_trans hst hRl) hkc hks hd (kk p l e R s m args below meth c G A ρ0 ρ H locs ls C hR hl)
theorem j_mabs {idx : Nat} {x : Int32} (hd : decode cc pc = .ok (.invokestatic idx, 3)) (h1 : Cond.methodLink own idx Lib.Math.abs.name ∈ Ts) (h2 : Cond.static Lib.Math.abs.name ∈ Ts) (h3 : Cond.initialized "java/lang/Math" ∈ Ts) (h4 : Cond.code Lib.Math.abs.name Lib.Math.abs.code 1 (some .int) ∈ Ts) (hd1 : 1 ≤ d) (hst : (st.map fun v => v.category).sum + 13 ≤ 40 * d) (hkc : k ≤ mc) (hks : n ≤ ms) (kk : JG md cc nL own Ts ret nm d mc ms n0 out (pc + 3) lv (.int (jabs x) :: st) ws k n) : JG md cc nL own Ts ret nm d mc ms n0 out pc lv (.int x :: st) ws k n := by
  intro p l e R s m args below meth c G A ρ0 ρ H locs ls hC hR hl
  have C := hC
  obtain ⟨⟨hx, hb, hml, hown, hts⟩, hr, hlocks, hname, hK, hN, hA, ⟨hRf, hRc, hRs, hRl⟩, hthr, hlaw⟩ := hC
  obtain ⟨hP, hD, hS, hρ, hle, heq⟩ := id hR
  subst hRc
  subst hRs

  exact va_mabs hx hb (by rw [hml]; exact hl.1.symm) hown (hts _ h1) (hts _ h2) (hts _ h3) (hts _ h4) (Nat.le_trans hd1 hRf) (by rw [jrv_cats]; exact Nat.le_trans hst hRl) hkc hks hd (kk p l e R s m args below meth c G A ρ0 ρ H locs ls C hR hl)

end
