/-! a call that may throw, caught here -/
def sL (ws : LWd) (a : Nat) (i : Int32) (x : Int64) : Option LWd := match ws[a]? with
  | some (.inl (t, n, .inr (.inl f))) => if t = 2 ∧ ¬ (i < 0 ∨ n ≤ i.toNatClampNeg) then some (ws.set a (.inl (t, n, .inr (.inl (vp_updL f i.toNatClampNeg x))))) else none
  | _ => none
def aLd (ws : LWd) (a : Nat) (i : Int32) : Option Int64 := match ws[a]? with
  | some (.inl (t, n, .inr (.inl f))) => if t = 2 ∧ ¬ (i < 0 ∨ n ≤ i.toNatClampNeg) then some (f i.toNatClampNeg) else none
  | _ => none
theorem sL_of {ws ws' : LWd} {a : Nat} {i : Int32} {x : Int64} (h : sL ws a i x = some ws') : ∃ n f, ws[a]? = some (.inl (2, n, .inr (.inl f))) ∧ vp_in i n ∧ ws' = ws.set a (.inl (2, n, .inr (.inl (vp_updL f i.toNatClampNeg x)))) := by
  unfold sL at h
  split at h
  · rename_i t n f e
    split at h
    · rename_i hc
      obtain ⟨rfl, hc⟩ := hc
      cases h
      exact ⟨n, f, e, hc, rfl⟩
    · cases h
  · cases h
theorem aLd_of {ws : LWd} {a : Nat} {i : Int32} {x : Int64} (h : aLd ws a i = some x) : ∃ n f, ws[a]? = some (.inl (2, n, .inr (.inl f))) ∧ vp_in i n ∧ x = f i.toNatClampNeg := by
  unfold aLd at h
  split at h
  · rename_i t n f e
    split at h
    · rename_i hc
      obtain ⟨rfl, hc⟩ := hc
      cases h
      exact ⟨n, f, e, hc, rfl⟩
    · cases h
  · cases h
section
variable {md : jMd} {cc : ByteArray} {nL : Nat} {own : String} {Ts : List Cond} {ret : Option FieldType} {nm : String} {d mc ms n0 : Nat} {out : jOut} {pc : Nat} {lv : List (Option Value)} {st : List Value} {ws : LWd} {k n : Nat}
theorem j_lald {a : Nat} {i : Int32} {x : Int64} (hd : decode cc pc = .ok (.laload, 1)) (hv : aLd ws a i = some x) (kk : JG md cc nL own Ts ret nm d mc ms n0 out (pc + 1) lv (.long x :: st) ws k n) : JG md cc nL own Ts ret nm d mc ms n0 out pc lv (.int i :: .ref a :: st) ws k n := by
  intro p l e R s m args below meth c G A ρ0 ρ H locs ls hC hR hl
  have C := hC
  obtain ⟨⟨hx, hb, hml, hown, hts⟩, hr, hlocks, hname, hK, hN, hA, ⟨hRf, hRc, hRs, hRl⟩, hthr, hlaw⟩ := hC
  obtain ⟨hP, hD, hS, hρ, hle, heq⟩ := id hR
  subst hRc
  subst hRs
  obtain ⟨N, f, he, hin, rfl⟩ := aLd_of hv
  exact va_lald hx hb hK hP a 2 (jph_get he) rfl hin hd (kk p l e R s m args below meth c G A ρ0 ρ H locs ls C hR hl)
theorem j_last {a : Nat} {i : Int32} {x : Int64} {ws' : LWd} (hd : decode cc pc = .ok (.lastore, 1)) (hv : sL ws a i x = some ws') (kk : JG md cc nL own Ts ret nm d mc ms n0 out (pc + 1) lv st ws' k n) : JG md cc nL own Ts ret nm d mc ms n0 out pc lv (.long x :: .int i :: .ref a :: st) ws k n := by
  intro p l e R s m args below meth c G A ρ0 ρ H locs ls hC hR hl
  have C := hC
  obtain ⟨⟨hx, hb, hml, hown, hts⟩, hr, hlocks, hname, hK, hN, hA, ⟨hRf, hRc, hRs, hRl⟩, hthr, hlaw⟩ := hC
  obtain ⟨hP, hD, hS, hρ, hle, heq⟩ := id hR
  subst hRc
  subst hRs
  obtain ⟨N, f, he, hin, rfl⟩ := sL_of hv
  refine va_last hx hb hK hP hD hS a 2 (jph_get he) rfl hin hd (fun H1 locs1 hP1 hD1 hS1 => ?_)
  have e7 : (jph G.2 ρ ws).set a (ρ a, .inl (G.2 2, N, .inr (.inl (vp_updL f i.toNatClampNeg x)))) = jph G.2 ρ (ws.set a (.inl (2, N, .inr (.inl (vp_updL f i.toNatClampNeg x))))) := jph_set (e := .inl (2, N, .inr (.inl (vp_updL f i.toNatClampNeg x))))
  rw [e7] at hP1 hD1
  exact kk p l e R s m args below meth c G A ρ0 ρ H1 locs1 ls C ⟨hP1, hD1, hS1, hρ, by rw [List.length_set]; exact hle, by rw [List.length_set]; exact heq⟩ hl
end
theorem jLH.store0 {ρ : Nat → Nat} {nL : Nat} {pre l : List (Option Value)} {x : Value} (hp : jcatL pre = true) {ls' : Array Slot}
    (h' : lv_has ls' nL ((pre.length, x) :: (jlA ρ 0 (pre ++ none :: l)).filter (fun q => !(q.1 == pre.length) && !(q.1 + 1 == pre.length && q.2.category == 2)))) : jLH ρ ls' nL (pre ++ none :: l) := by
  refine ⟨h'.1, h'.2.1, fun q hq => ?_⟩
  obtain ⟨i, v, rfl, h2⟩ := jlA_of hq
  rw [Nat.zero_add]
  have hi : i ≠ pre.length := fun e => by
    subst e
    rw [List.getElem?_append_right (Nat.le_refl _), Nat.sub_self] at h2
    cases h2
  refine h'.2.2 (i, jrv ρ v) (List.mem_cons_of_mem _ (List.mem_filter.mpr ⟨?_, ?_⟩))
  · have := jlA_mem (ρ := ρ) (j := 0) h2
    rwa [Nat.zero_add] at this
  · have e1 : (i == pre.length) = false := by simp [hi]
    simp only [e1, Bool.not_false, Bool.true_and, Bool.not_eq_true', Bool.and_eq_false_iff]
    by_cases hq2 : i + 1 = pre.length
    · right
      have hlt : i < pre.length := by omega
      rw [List.getElem?_append_left hlt] at h2
      have hg : pre.getLast? = some (some v) := by
        rw [List.getLast?_eq_getElem?, show pre.length - 1 = i by omega]
        exact h2
      unfold jcatL at hp
      rw [hg] at hp
      rw [jrv_cat, jcat_spec hp]
      rfl
    · left
      simp [hq2]
/-- a handler, from its start -/
def JR (cc : ByteArray) (nL : Nat) (own : String) (Ts : List Cond) (ret : Option FieldType) (nm : String) (d mc ms n0 : Nat) (out : jOut) (pc : Nat) (lv : List (Option Value)) (ws : LWd) (k n : Nat) : Prop :=
  ∀ (p : Program) (l : Launch) (e : Env) (R : Room) (s : State) (m : MethodId) (args : Array Value) (below : List Frame) (meth : Method) (c : Code) (G : LGl) (A : Nat → Prop) (ρ0 ρ : Nat → Nat) (H : Heap) (locs : List Loc) (ls : Array Slot) (q : Addr),
    jCX (.inl false) cc nL own Ts ret nm d mc ms p l R s m args meth c G A ρ0 → jRW G A s ρ0 ρ n0 H locs ws → jLH ρ ls nL lv →
    W p l e R s m args below meth c H locs k n (MQ below (jQC G ρ0 n0 A out) args s mc ms A) (F0 m pc ls [.ref q])
section
variable {hh : List (Nat × Nat × Nat × Nat)} {cc : ByteArray} {nL : Nat} {own : String} {Ts : List Cond} {ret : Option FieldType} {nm : String} {d mc ms n0 : Nat} {out : jOut} {pc : Nat} {lv : List (Option Value)} {st : List Value} {ws : LWd} {k n : Nat}
theorem jr_astore_n (pre : List (Option Value)) {j : Fin 4} (hd : decode cc pc = .ok (.astore_n j, 1)) (hj : (j : Nat) = pre.length) (hn : pre.length < nL) (hp : jcatL pre = true) (kk : JG (.inl false) cc nL own Ts ret nm d mc ms n0 out (pc + 1) (pre ++ [none]) [] ws k n) : JR cc nL own Ts ret nm d mc ms n0 out pc (pre ++ [none]) ws k n := by
  intro p l e R s m args below meth c G A ρ0 ρ H locs ls q hC hR hl
  refine lv_astore_n hC.1.1 hC.1.2.1 hd rfl hl (by rw [hj]; exact hn) rfl (fun ls' h' => ?_)
  rw [hj] at h'
  exact kk p l e R s m args below meth c G A ρ0 ρ H locs ls' hC hR (jLH.store0 hp h')
theorem jr_astore (pre : List (Option Value)) {j : Nat} (hd : decode cc pc = .ok (.astore j, 2)) (hj : j = pre.length) (hn : pre.length < nL) (hp : jcatL pre = true) (kk : JG (.inl false) cc nL own Ts ret nm d mc ms n0 out (pc + 2) (pre ++ [none]) [] ws k n) : JR cc nL own Ts ret nm d mc ms n0 out pc (pre ++ [none]) ws k n := by
  intro p l e R s m args below meth c G A ρ0 ρ H locs ls q hC hR hl
  refine lv_astore hC.1.1 hC.1.2.1 hd hl (by rw [hj]; exact hn) rfl (fun ls' h' => ?_)
  rw [hj] at h'
  exact kk p l e R s m args below meth c G A ρ0 ρ H locs ls' hC hR (jLH.store0 hp h')
def jEnt (x : Nat × Nat × Nat × Nat) : ExceptionTableEntry := ⟨x.1, x.2.1, x.2.2.1, x.2.2.2⟩
/-- the row of the table that takes the exception E -/
def jTk (hh : List (Nat × Nat × Nat × Nat)) (own : String) (Ts : List Cond) (pc : Nat) (E : String) (hpc : Nat) : Prop := ∃ (pre : List (Nat × Nat × Nat × Nat)) (x : Nat × Nat × Nat × Nat) (suf : List (Nat × Nat × Nat × Nat)), hh = pre ++ x :: suf ∧ (∀ z ∈ pre, z.2.2.2 ≠ 0 ∧ ∃ nm : String, Cond.classLink own z.2.2.2 nm ∈ Ts ∧ (E, nm) ∈ jpr) ∧ covers (jEnt x) pc = true ∧ x.2.2.2 ≠ 0 ∧ Cond.classLink own x.2.2.2 E ∈ Ts ∧ E ∈ [nIAE, nISE, nIOB] ∧ x.2.2.1 = hpc
theorem jh_callVX {y : MethodName} {bs : ByteArray} {mL nA d' mc' ms' k' n' idx : Nat} {ry : Option FieldType} {Ty Ty' : List Cond} {ws1 : LWd} {r : Option Value ⊕ String} {b ci N : Nat} {C : String} {T : u_T} {As : List Value} (hd : decode cc pc = .ok (.invokevirtual idx, 3)) (hSp : jSX y Ty d' mc' ms' (.ref b :: As) ws (r, ws1)) (hG : GoodIn Ts (wsV own idx C y Ty)) (hTs : Ty = Cond.code y bs mL ry :: Ty') (hy : y.cls = C ∧ y.cls ≠ "java/lang/invoke/MethodHandle" ∧ y.cls ≠ "java/lang/invoke/VarHandle" ∧ (parseMethodDescriptor y.desc).map (fun d => d.parameters.length) = some nA) (hAs : As.length = nA) (hrc : ∃ fs, ws[b]? = some (.inr (ci, fs))) (hc : vwCl[ci]? = some (C, T, N)) (hdd : d' + 1 ≤ d) (hmL : mL ≤ 21) (hrm : (st.map fun v => v.category).sum ≤ 8) (hk' : k + mc' ≤ k') (hn' : n + ms' ≤ n') (hkm : k' ≤ mc) (hnm : n' ≤ ms) (hlen : ws1.length = ws.length)
    (kk : ∀ v, r = .inl v → JG (.inl false) cc nL own Ts ret nm d mc ms n0 out (pc + 3) lv (v.toList ++ st) ws1 k' n')
    (kx : ∀ E, r = .inr E → ∃ hpc, jTk hh own Ts pc E hpc ∧ JR cc nL own Ts ret nm d mc ms n0 out hpc lv ws1 k' n') : JH hh cc nL own Ts ret nm d mc ms n0 out pc lv (As.reverse ++ .ref b :: st) ws k n := by
  intro p l e R s m args below meth c G A ρ0 ρ H locs ls hE hC hR hl
  obtain ⟨hlt, htab, hXS, hNC⟩ := hE
  have C0 := hC
  obtain ⟨⟨hx, hb, hml, hown, hts⟩, hr, hlocks, hname, hK, hN, hA, ⟨hRf, hRc, hRs, hRl⟩, hthr, hlaw⟩ := hC
  obtain ⟨hP, hD, hS, hρ, hle, heq⟩ := id hR
  subst hRc
  subst hRs
  have hcat : ((st.map (jrv ρ)).map fun v => v.category).sum ≤ 8 := by rw [jrv_cats]; exact hrm
  have hA2 : ∀ q, va_A (jph G.2 ρ ws) H.size q → A q := fun q h2 => by
    rcases h2 with ⟨i, e9, h3⟩ | h3
    · exact hD.2 i _ h3
    · exact hA q (Nat.le_trans hS.1 h3)
  have hA1 : ∀ q, q < H.size → va_A (jph G.2 ρ ws) H.size q → A q := fun q _ h2 => hA2 q h2
  have pre : ∀ U : State, U.heap = H → s.WarmedH U.vm → jPC G ρ H.size true (.ref b :: As) ws ((Value.ref b :: As).map (jrv ρ)).toArray U := fun U hU hW => ⟨rfl, by rw [hU], by rw [hU]; exact hP, va_K.moved hW.alike hK, hN.warm hW, hD.weaken (fun _ _ _ _ => trivial), fun _ => jXS_warm hW (fun a h1 h2 => by rw [hU]; exact hS.2.1 a h1 h2) hA2 hXS⟩
  have run := vx_runV (As := As.map (jrv ρ)) (rest := st.map (jrv ρ)) (g := F0 m pc ls ((As.reverse ++ .ref b :: st).map (jrv ρ))) (R := R) (e := e) (below := below) (meth := meth) (locs := locs) ⟨hx, hb, hml, hown, hts⟩ (hSp l hlt G ρ H.size) (cwV nA hts hG hTs rfl rfl hy ⟨Nat.le_trans hdd hRf, by show 8 + (mL + 11) + 40 * d' ≤ R.locals; omega⟩) ⟨jpc_blind, va_recv hK hP hc (jph_get hrc.choose_spec), pre⟩ rfl (by rw [List.length_map]; exact hAs) hl.1 (by simp [jrv]) (lv_room hcat) hd ⟨(Nat.le_trans hk' hkm), (Nat.le_trans hn' hnm)⟩
  have hS1 : ∀ (t T' : State) (L : List Loc), T'.heap = t.heap → H.size ≤ t.heap.size → (∀ q : Nat, q < H.size → ¬ va_A (jph G.2 ρ ws) H.size q → t.heap[q]? = H[q]?) → (∀ q ∈ L, va_A (jph G.2 ρ ws) H.size q.base) → va_S A s.heap T'.heap (locs ++ L) := fun t T' L e1 hz hk hL => ⟨Nat.le_trans hS.1 (by rw [e1]; exact hz), fun q h1 h2 => by rw [e1, hk q (Nat.lt_of_lt_of_le h1 hS.1) (fun z => h2 (hA2 q z))]; exact hS.2.1 q h1 h2, fun q hq => by
      rcases List.mem_append.mp hq with h | h
      · exact hS.2.2 q h
      · exact hA2 _ (hL q h)⟩
  intro T0 hT X
  rcases run T0 hT X with ⟨v, st₀, t, T', L, h0, X', hL, e1, e2, ⟨⟨v2, ρ2, hv, ho, hρ2, heq2, hP2, hD2⟩, hz, hk⟩, stp⟩ | ⟨q, st₀, t, T', L, E, ce, h0, X', hL, e1, e2, ⟨u, -, ⟨hEe, hP2, hD2, hlen2⟩, hz, hk⟩, hce, hcv, hcl, stp⟩
  · rw [h0] at hz hk
    cases ho
    have er : ρ2 = ρ := heq2 hlen
    subst er
    obtain ⟨t2, a1, b1⟩ := W.widen hk' hn' (kk v2 hv p l e R s m args below meth c G A ρ0 ρ2 T'.heap (locs ++ L) ls C0 ⟨by rw [e1]; exact hP2, hD2.weaken (fun _ _ _ h => hA2 _ h), hS1 t T' L e1 hz hk hL, hρ, by omega, fun h => heq (hlen.symm.trans h)⟩ hl) T' rfl X'
    refine ⟨t2, stp t2 ?_, b1⟩
    have e5 : (v2.toList ++ st).map (jrv ρ2) = (v2.map (jrv ρ2)).toList ++ st.map (jrv ρ2) := by cases v2 <;> rfl
    rw [e5] at a1
    exact a1
  · rw [h0] at hz hk
    obtain ⟨hpc, ⟨pre', x, suf, hsp, hps, hcv', h00, hlk, hEm, rfl⟩, kr⟩ := kx E hEe
    have hw := kr p l e R s m args below meth c G A ρ0 ρ T'.heap (locs ++ L) ls q C0 ⟨by rw [e1]; exact hP2, hD2.weaken (fun _ _ _ h => hA2 _ h), hS1 t T' L e1 hz hk hL, hρ, by omega, fun h => heq (hlen.symm.trans h)⟩ hl
    have hsplit : c.exceptionTable.toList = tableOf pre' ++ jEnt x :: tableOf suf := by
      rw [htab, hsp]
      unfold tableOf
      rw [List.map_append, List.map_cons]
      rfl
    have hct := vx_catch (e := e) (below := below) (meth := meth) (rest := st.map (jrv ρ)) (locs := locs ++ L) (cells := k') (slots := n') (ls := ls) (pc := pc) (name := E) hown (tableOf pre') (jEnt x) (tableOf suf) hsplit (fun z hz => by
      obtain ⟨z0, hz0, rfl⟩ := List.mem_map.mp hz
      obtain ⟨g1, nm', g2, g3⟩ := hps z0 hz0
      exact Or.inr ⟨g1, nm', hts _ g2, hNC.1 _ g3⟩) hcv' h00 (hts _ hlk) (cst_moved (Vm.Alike.refl s.vm) (hNC.2 E hEm)) (by rw [e1]; exact hce) hcv hcl hw
    obtain ⟨t2, a1, b1⟩ := vx_widen hk' hn' hct T' rfl X'
    exact ⟨t2, stp.trans a1, b1⟩
end
