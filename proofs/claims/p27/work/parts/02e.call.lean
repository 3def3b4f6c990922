/-! calls over JG: written by wip/p27/gen_call.py -/
section
variable {md : jMd} {cc : ByteArray} {nL : Nat} {own : String} {Ts : List Cond} {ret : Option FieldType} {nm : String} {d mc ms n0 : Nat} {out : jOut} {pc : Nat} {lv : List (Option Value)} {st : List Value} {ws : LWd} {k n : Nat}
theorem j_after {p : Program} {l : Launch} {e : Env} {R : Room} {s : State} {m : MethodId} {args : Array Value} {below : List Frame} {meth : Method} {c : Code} {G : LGl} {A : Nat → Prop} {ρ0 ρ : Nat → Nat} {H : Heap} {locs : List Loc} {ls : Array Slot} {Q : State → Prop} {st0 : List Value} {v : Option Value} {ws1 : LWd} {mc' ms' k' n' : Nat} {a : Array Value}
    (hA : ∀ q, s.heap.size ≤ q → A q) (hR : jRW G A s ρ0 ρ n0 H locs ws) (hl : jLH ρ ls nL lv)
    (hr : va_Run p l e R s m args below meth c H locs k n mc' ms' (F0 m pc ls st0) (st.map (jrv ρ)) (jQC G ρ ws.length (va_A (jph G.2 ρ ws) H.size) (.inl v, ws1) a) (va_A (jph G.2 ρ ws) H.size))
    (hk' : k + mc' ≤ k') (hn' : n + ms' ≤ n') (hg : ws1.length = ws.length ∨ (ws.length < ws1.length ∧ lv.all (jwO ws.length) = true ∧ st.all (jwV ws.length) = true))
    (kk : ∀ (H1 : Heap) (locs1 : List Loc) (ρ1 : Nat → Nat), jRW G A s ρ0 ρ1 n0 H1 locs1 ws1 → jLH ρ1 ls nL lv → W p l e R s m args below meth c H1 locs1 k' n' Q (F0 m (pc + 3) ls ((v.toList ++ st).map (jrv ρ1)))) : W p l e R s m args below meth c H locs k n Q (F0 m pc ls st0) := by
  obtain ⟨hP, hD, hS, hρ, hle, heq⟩ := hR
  intro T hT X
  obtain ⟨v', st₀, t, T', L, h0, X', hL, e1, e2, ⟨⟨v2, ρ2, hv, ho, hρ2, heq2, hP2, hD2⟩, hz, hk⟩, stp⟩ := hr T hT X
  cases hv
  cases ho
  rw [h0] at hz hk
  have hA1 : ∀ q, q < H.size → va_A (jph G.2 ρ ws) H.size q → A q := fun q h1 h2 => by
    rcases h2 with ⟨i, e9, h3⟩ | h3
    · exact hD.2 i _ h3
    · omega
  have hA2 : ∀ q, va_A (jph G.2 ρ ws) H.size q → A q := fun q h2 => by
    rcases h2 with ⟨i, e9, h3⟩ | h3
    · exact hD.2 i _ h3
    · exact hA q (Nat.le_trans hS.1 h3)
  have hS1 : va_S A s.heap T'.heap (locs ++ L) := ⟨Nat.le_trans hS.1 (by rw [e1]; exact hz), fun q h1 h2 => by rw [e1, hk q (Nat.lt_of_lt_of_le h1 hS.1) (fun z => h2 (hA1 q (Nat.lt_of_lt_of_le h1 hS.1) z))]; exact hS.2.1 q h1 h2, fun q hq => by
      rcases List.mem_append.mp hq with h | h
      · exact hS.2.2 q h
      · exact hA2 _ (hL q h)⟩
  have hP3 : va_P G.1 vwCl (jph G.2 ρ2 ws1) T'.heap := by rw [e1]; exact hP2
  have hD3 : va_D A (jph G.2 ρ2 ws1) := hD2.weaken (fun _ _ _ h => hA2 _ h)
  rcases hg with hg | ⟨g1, g2, g3⟩
  · have er : ρ2 = ρ := heq2 hg
    subst er
    obtain ⟨t2, a1, b1⟩ := W.widen hk' hn' (kk T'.heap (locs ++ L) ρ2 ⟨hP3, hD3, hS1, hρ, by omega, fun h => heq (hg.symm.trans h)⟩ hl) T' rfl X'
    refine ⟨t2, stp t2 ?_, b1⟩
    have e5 : (v.toList ++ st).map (jrv ρ2) = (v.map (jrv ρ2)).toList ++ st.map (jrv ρ2) := by cases v <;> rfl
    rw [e5] at a1
    exact a1
  · obtain ⟨t2, a1, b1⟩ := W.widen hk' hn' (kk T'.heap (locs ++ L) ρ2 ⟨hP3, hD3, hS1, fun i hi => (hρ2 i (by omega)).trans (hρ i hi), by omega, fun h => by omega⟩ (jlv_ext (fun i hi => hρ2 i hi) g2 hl)) T' rfl X'
    refine ⟨t2, stp t2 ?_, b1⟩
    have e5 : (v.toList ++ st).map (jrv ρ2) = (v.map (jrv ρ2)).toList ++ st.map (jrv ρ) := by
      rw [List.map_append, jrvs_ext (fun i hi => hρ2 i hi) g3]
      cases v <;> rfl
    rw [e5] at a1
    exact a1
theorem j_pre {s : State} {G : LGl} {A : Nat → Prop} {ρ : Nat → Nat} {H : Heap} {av : List Value} (hK : va_K G.1 vwCl (jty G.2) s) (hN : jKN s) (hP : va_P G.1 vwCl (jph G.2 ρ ws) H) (hD : va_D A (jph G.2 ρ ws)) {U : State} (hU : U.heap = H) (hW : s.WarmedH U.vm) : jPC G ρ H.size false av ws (av.map (jrv ρ)).toArray U :=
  ⟨rfl, by rw [hU], by rw [hU]; exact hP, va_K.moved hW.alike hK, hN.warm hW, hD.weaken (fun _ _ _ _ => trivial), fun h => by cases h⟩
theorem j_callV_g {y : MethodName} {bs : ByteArray} {mL nA d' mc' ms' k' n' idx : Nat} {ry : Option FieldType} {Ty Ty' : List Cond} {ws1 : LWd} {v : Option Value} {b ci N : Nat} {C : String} {T : u_T} {As : List Value} (hd : decode cc pc = .ok (.invokevirtual idx, 3)) (hSp : jSp y Ty d' mc' ms' (.ref b :: As) ws (.inl v, ws1)) (hG : GoodIn Ts (wsV own idx C y Ty)) (hTs : Ty = Cond.code y bs mL ry :: Ty') (hy : y.cls = C ∧ y.cls ≠ "java/lang/invoke/MethodHandle" ∧ y.cls ≠ "java/lang/invoke/VarHandle" ∧ (parseMethodDescriptor y.desc).map (fun d => d.parameters.length) = some nA) (hAs : As.length = nA) (hrc : ∃ fs, ws[b]? = some (.inr (ci, fs))) (hc : vwCl[ci]? = some (C, T, N)) (hdd : d' + 1 ≤ d) (hmL : mL + 19 + 40 * d' ≤ 40 * d) (hrm : (st.map fun v => v.category).sum ≤ 8) (hk' : k + mc' ≤ k') (hn' : n + ms' ≤ n') (hkm : k' ≤ mc) (hnm : n' ≤ ms) (hg : ws1.length = ws.length ∨ (ws.length < ws1.length ∧ lv.all (jwO ws.length) = true ∧ st.all (jwV ws.length) = true)) (kk : JG md cc nL own Ts ret nm d mc ms n0 out (pc + 3) lv (v.toList ++ st) ws1 k' n') : JG md cc nL own Ts ret nm d mc ms n0 out pc lv (As.reverse ++ .ref b :: st) ws k n := by
  intro p l e R s m args below meth c G A ρ0 ρ H locs ls hC hR hl
  have C0 := hC
  obtain ⟨⟨hx, hb, hml, hown, hts⟩, hr, hlocks, hname, hK, hN, hA, ⟨hRf, hRc, hRs, hRl⟩, hthr, hlaw⟩ := hC
  obtain ⟨hP, hD, hS, hρ, hle, heq⟩ := id hR
  subst hRc
  subst hRs

  have hcat : ((st.map (jrv ρ)).map fun v => v.category).sum ≤ 8 := by rw [jrv_cats]; exact hrm
  have run := va_runV (As := As.map (jrv ρ)) (rest := st.map (jrv ρ)) (g := F0 m pc ls ((As.reverse ++ .ref b :: st).map (jrv ρ))) (R := R) (e := e) (below := below) (meth := meth) (locs := locs) ⟨hx, hb, hml, hown, hts⟩ (hSp l G ρ H.size) (cwV nA hts hG hTs rfl rfl hy ⟨Nat.le_trans hdd hRf, by show 8 + (mL + 11) + 40 * d' ≤ R.locals; omega⟩) ⟨jpc_blind, va_recv hK hP hc (jph_get hrc.choose_spec), fun U hU hW => j_pre (av := .ref b :: As) hK hN hP hD hU hW⟩ rfl (by rw [List.length_map]; exact hAs) hl.1 (by simp [jrv]) (lv_room hcat) hd ⟨(Nat.le_trans hk' hkm), (Nat.le_trans hn' hnm)⟩
  exact j_after hA hR hl run hk' hn' hg (fun H1 locs1 ρ1 hR1 hl1 => kk p l e R s m args below meth c G A ρ0 ρ1 H1 locs1 ls C0 hR1 hl1)

theorem j_callS_g {y : MethodName} {bs : ByteArray} {mL nA d' mc' ms' k' n' idx : Nat} {ry : Option FieldType} {Ty Ty' : List Cond} {ws1 : LWd} {v : Option Value}  {As : List Value} (hd : decode cc pc = .ok (.invokestatic idx, 3)) (hSp : jSp y Ty d' mc' ms' As ws (.inl v, ws1)) (hG : GoodIn Ts (va_wsS own idx y Ty)) (hTs : Ty = Cond.code y bs mL ry :: Ty') (hy : y.cls ≠ "java/lang/invoke/MethodHandle" ∧ y.cls ≠ "java/lang/invoke/VarHandle" ∧ (parseMethodDescriptor y.desc).map (fun d => d.parameters.length) = some nA) (hAs : As.length = nA)  (hdd : d' + 1 ≤ d) (hmL : mL + 19 + 40 * d' ≤ 40 * d) (hrm : (st.map fun v => v.category).sum ≤ 8) (hk' : k + mc' ≤ k') (hn' : n + ms' ≤ n') (hkm : k' ≤ mc) (hnm : n' ≤ ms) (hg : ws1.length = ws.length ∨ (ws.length < ws1.length ∧ lv.all (jwO ws.length) = true ∧ st.all (jwV ws.length) = true)) (kk : JG md cc nL own Ts ret nm d mc ms n0 out (pc + 3) lv (v.toList ++ st) ws1 k' n') : JG md cc nL own Ts ret nm d mc ms n0 out pc lv (As.reverse ++ st) ws k n := by
  intro p l e R s m args below meth c G A ρ0 ρ H locs ls hC hR hl
  have C0 := hC
  obtain ⟨⟨hx, hb, hml, hown, hts⟩, hr, hlocks, hname, hK, hN, hA, ⟨hRf, hRc, hRs, hRl⟩, hthr, hlaw⟩ := hC
  obtain ⟨hP, hD, hS, hρ, hle, heq⟩ := id hR
  subst hRc
  subst hRs

  have hcat : ((st.map (jrv ρ)).map fun v => v.category).sum ≤ 8 := by rw [jrv_cats]; exact hrm
  have run := va_runS (As := As.map (jrv ρ)) (rest := st.map (jrv ρ)) (g := F0 m pc ls ((As.reverse ++ st).map (jrv ρ))) (R := R) (e := e) (below := below) (meth := meth) (locs := locs) ⟨hx, hb, hml, hown, hts⟩ (hSp l G ρ H.size) (va_cwS nA hts hG hTs rfl rfl hy ⟨Nat.le_trans hdd hRf, by show 8 + (mL + 11) + 40 * d' ≤ R.locals; omega⟩) ⟨jpc_blind, fun U hU hW => j_pre (av := As) hK hN hP hD hU hW⟩ rfl (by rw [List.length_map]; exact hAs) hl.1 (by simp [jrv]) (lv_room hcat) hd ⟨(Nat.le_trans hk' hkm), (Nat.le_trans hn' hnm)⟩
  exact j_after hA hR hl run hk' hn' hg (fun H1 locs1 ρ1 hR1 hl1 => kk p l e R s m args below meth c G A ρ0 ρ1 H1 locs1 ls C0 hR1 hl1)

theorem j_callSN_g {y : MethodName} {bs : ByteArray} {mL nA d' mc' ms' k' n' idx : Nat} {ry : Option FieldType} {Ty Ty' : List Cond} {ws1 : LWd} {v : Option Value}  {As : List Value} (hd : decode cc pc = .ok (.invokestatic idx, 3)) (hSp : jSp y Ty d' mc' ms' As ws (.inl v, ws1)) (hG : GoodIn Ts Ty) (hq : (own, idx, y) ∈ jNest) (hi1 : Cond.initialized y.cls ∈ Ts) (hi2 : Cond.static y ∈ Ts) (hTs : Ty = Cond.code y bs mL ry :: Ty') (hy : y.cls ≠ "java/lang/invoke/MethodHandle" ∧ y.cls ≠ "java/lang/invoke/VarHandle" ∧ (parseMethodDescriptor y.desc).map (fun d => d.parameters.length) = some nA) (hAs : As.length = nA)  (hdd : d' + 1 ≤ d) (hmL : mL + 19 + 40 * d' ≤ 40 * d) (hrm : (st.map fun v => v.category).sum ≤ 8) (hk' : k + mc' ≤ k') (hn' : n + ms' ≤ n') (hkm : k' ≤ mc) (hnm : n' ≤ ms) (hg : ws1.length = ws.length ∨ (ws.length < ws1.length ∧ lv.all (jwO ws.length) = true ∧ st.all (jwV ws.length) = true)) (kk : JG md cc nL own Ts ret nm d mc ms n0 out (pc + 3) lv (v.toList ++ st) ws1 k' n') : JG md cc nL own Ts ret nm d mc ms n0 out pc lv (As.reverse ++ st) ws k n := by
  intro p l e R s m args below meth c G A ρ0 ρ H locs ls hC hR hl
  have C0 := hC
  obtain ⟨⟨hx, hb, hml, hown, hts⟩, hr, hlocks, hname, hK, hN, hA, ⟨hRf, hRc, hRs, hRl⟩, hthr, hlaw⟩ := hC
  obtain ⟨hP, hD, hS, hρ, hle, heq⟩ := id hR
  subst hRc
  subst hRs

  have hcat : ((st.map (jrv ρ)).map fun v => v.category).sum ≤ 8 := by rw [jrv_cats]; exact hrm
  have run := va_runSN (As := As.map (jrv ρ)) (rest := st.map (jrv ρ)) (g := F0 m pc ls ((As.reverse ++ st).map (jrv ρ))) (R := R) (e := e) (below := below) (meth := meth) (locs := locs) ⟨hx, hb, hml, hown, hts⟩ (hSp l G ρ H.size) (⟨va_cnB (host := "Gaitwright") nA hts hG hTs rfl rfl (hN.1 _ hq) (hts _ hi1) hy ⟨Nat.le_trans hdd hRf, by show 8 + (mL + 11) + 40 * d' ≤ R.locals; omega⟩, hts _ hi2, trivial⟩) ⟨jpc_blind, fun U hU hW => j_pre (av := As) hK hN hP hD hU hW⟩ rfl (by rw [List.length_map]; exact hAs) hl.1 (by simp [jrv]) (lv_room hcat) hd ⟨(Nat.le_trans hk' hkm), (Nat.le_trans hn' hnm)⟩
  exact j_after hA hR hl run hk' hn' hg (fun H1 locs1 ρ1 hR1 hl1 => kk p l e R s m args below meth c G A ρ0 ρ1 H1 locs1 ls C0 hR1 hl1)

theorem j_callI_g {y : MethodName} {bs : ByteArray} {mL nA d' mc' ms' k' n' idx : Nat} {Ty Ty' : List Cond} {ws1 : LWd} {v : Option Value} {b : Nat} {As : List Value} (hd : decode cc pc = .ok (.invokespecial idx, 3)) (hSp : jSp y Ty d' mc' ms' (.ref b :: As) ws (.inl v, ws1)) (hG : GoodIn Ts Ty) (hi1 : Cond.initialized y.cls ∈ Ts) (hi2 : Cond.methodLink own idx y ∈ Ts) (hi3 : Cond.instanceMethod y ∈ Ts) (hi4 : y.name = "<init>") (hTs : Ty = Cond.code y bs mL none :: Ty') (hy : y.cls ≠ "java/lang/invoke/MethodHandle" ∧ y.cls ≠ "java/lang/invoke/VarHandle" ∧ (parseMethodDescriptor y.desc).map (fun d => d.parameters.length) = some nA) (hAs : As.length = nA)  (hdd : d' + 1 ≤ d) (hmL : mL + 19 + 40 * d' ≤ 40 * d) (hrm : (st.map fun v => v.category).sum ≤ 8) (hk' : k + mc' ≤ k') (hn' : n + ms' ≤ n') (hkm : k' ≤ mc) (hnm : n' ≤ ms) (hg : ws1.length = ws.length ∨ (ws.length < ws1.length ∧ lv.all (jwO ws.length) = true ∧ st.all (jwV ws.length) = true)) (kk : JG md cc nL own Ts ret nm d mc ms n0 out (pc + 3) lv (v.toList ++ st) ws1 k' n') : JG md cc nL own Ts ret nm d mc ms n0 out pc lv (As.reverse ++ .ref b :: st) ws k n := by
  intro p l e R s m args below meth c G A ρ0 ρ H locs ls hC hR hl
  have C0 := hC
  obtain ⟨⟨hx, hb, hml, hown, hts⟩, hr, hlocks, hname, hK, hN, hA, ⟨hRf, hRc, hRs, hRl⟩, hthr, hlaw⟩ := hC
  obtain ⟨hP, hD, hS, hρ, hle, heq⟩ := id hR
  subst hRc
  subst hRs

  have hcat : ((st.map (jrv ρ)).map fun v => v.category).sum ≤ 8 := by rw [jrv_cats]; exact hrm
  have run := va_runI (As := As.map (jrv ρ)) (rest := st.map (jrv ρ)) (g := F0 m pc ls ((As.reverse ++ .ref b :: st).map (jrv ρ))) (R := R) (e := e) (below := below) (meth := meth) (locs := locs) ⟨hx, hb, hml, hown, hts⟩ (hSp l G ρ H.size) (cwI nA hts hG hTs rfl rfl (hts _ hi1) (hts _ hi2) (hts _ hi3) hi4 hy ⟨Nat.le_trans hdd hRf, by show 8 + (mL + 11) + 40 * d' ≤ R.locals; omega⟩) ⟨jpc_blind, fun U hU hW => j_pre (av := .ref b :: As) hK hN hP hD hU hW⟩ rfl (by rw [List.length_map]; exact hAs) hl.1 (by simp [jrv]) (lv_room hcat) hd ⟨(Nat.le_trans hk' hkm), (Nat.le_trans hn' hnm)⟩
  exact j_after hA hR hl run hk' hn' hg (fun H1 locs1 ρ1 hR1 hl1 => kk p l e R s m args below meth c G A ρ0 ρ1 H1 locs1 ls C0 hR1 hl1)

theorem j_callIN_g {y : MethodName} {bs : ByteArray} {mL nA d' mc' ms' k' n' idx : Nat} {Ty Ty' : List Cond} {ws1 : LWd} {v : Option Value} {b : Nat} {As : List Value} (hd : decode cc pc = .ok (.invokespecial idx, 3)) (hSp : jSp y Ty d' mc' ms' (.ref b :: As) ws (.inl v, ws1)) (hG : GoodIn Ts Ty) (hq : (own, idx, y) ∈ jNest) (hi1 : Cond.initialized y.cls ∈ Ts) (hi3 : Cond.instanceMethod y ∈ Ts) (hi4 : y.name = "<init>") (hTs : Ty = Cond.code y bs mL none :: Ty') (hy : y.cls ≠ "java/lang/invoke/MethodHandle" ∧ y.cls ≠ "java/lang/invoke/VarHandle" ∧ (parseMethodDescriptor y.desc).map (fun d => d.parameters.length) = some nA) (hAs : As.length = nA)  (hdd : d' + 1 ≤ d) (hmL : mL + 19 + 40 * d' ≤ 40 * d) (hrm : (st.map fun v => v.category).sum ≤ 8) (hk' : k + mc' ≤ k') (hn' : n + ms' ≤ n') (hkm : k' ≤ mc) (hnm : n' ≤ ms) (hg : ws1.length = ws.length ∨ (ws.length < ws1.length ∧ lv.all (jwO ws.length) = true ∧ st.all (jwV ws.length) = true)) (kk : JG md cc nL own Ts ret nm d mc ms n0 out (pc + 3) lv (v.toList ++ st) ws1 k' n') : JG md cc nL own Ts ret nm d mc ms n0 out pc lv (As.reverse ++ .ref b :: st) ws k n := by
  intro p l e R s m args below meth c G A ρ0 ρ H locs ls hC hR hl
  have C0 := hC
  obtain ⟨⟨hx, hb, hml, hown, hts⟩, hr, hlocks, hname, hK, hN, hA, ⟨hRf, hRc, hRs, hRl⟩, hthr, hlaw⟩ := hC
  obtain ⟨hP, hD, hS, hρ, hle, heq⟩ := id hR
  subst hRc
  subst hRs

  have hcat : ((st.map (jrv ρ)).map fun v => v.category).sum ≤ 8 := by rw [jrv_cats]; exact hrm
  have run := va_runIN (As := As.map (jrv ρ)) (rest := st.map (jrv ρ)) (g := F0 m pc ls ((As.reverse ++ .ref b :: st).map (jrv ρ))) (R := R) (e := e) (below := below) (meth := meth) (locs := locs) ⟨hx, hb, hml, hown, hts⟩ (hSp l G ρ H.size) (⟨va_cnB (host := "Gaitwright") nA hts hG hTs rfl rfl (hN.1 _ hq) (hts _ hi1) hy ⟨Nat.le_trans hdd hRf, by show 8 + (mL + 11) + 40 * d' ≤ R.locals; omega⟩, hi4, hts _ hi3⟩) ⟨jpc_blind, fun U hU hW => j_pre (av := .ref b :: As) hK hN hP hD hU hW⟩ rfl (by rw [List.length_map]; exact hAs) hl.1 (by simp [jrv]) (lv_room hcat) hd ⟨(Nat.le_trans hk' hkm), (Nat.le_trans hn' hnm)⟩
  exact j_after hA hR hl run hk' hn' hg (fun H1 locs1 ρ1 hR1 hl1 => kk p l e R s m args below meth c G A ρ0 ρ1 H1 locs1 ls C0 hR1 hl1)

end
