/-! the law's own rows: the script, its private methods, its end -/
def jN : List Cond := [Cond.not (.castable "java/lang/IllegalArgumentException" "java/lang/IllegalStateException"), Cond.not (.castable "java/lang/IllegalArgumentException" "java/lang/IndexOutOfBoundsException"), Cond.not (.castable "java/lang/IllegalStateException" "java/lang/IllegalArgumentException"), Cond.not (.castable "java/lang/IllegalStateException" "java/lang/IndexOutOfBoundsException"), Cond.not (.castable "java/lang/IndexOutOfBoundsException" "java/lang/IllegalArgumentException"), Cond.not (.castable "java/lang/IndexOutOfBoundsException" "java/lang/IllegalStateException"), Cond.castable nIAE nIAE, Cond.castable nISE nISE, Cond.castable nIOB nIOB]
def lT : List Cond := jN ++ jWL
theorem jnc_of {args : Array Value} {s : State} (h : ∀ w ∈ lT, w.before args s = true) : jNC s := by
  have g : ∀ w ∈ jN, w.before args s = true := fun w hw => h w (List.mem_append_left _ hw)
  have g0 := g _ (List.mem_of_getElem? (i := 0) rfl)
  have g1 := g _ (List.mem_of_getElem? (i := 1) rfl)
  have g2 := g _ (List.mem_of_getElem? (i := 2) rfl)
  have g3 := g _ (List.mem_of_getElem? (i := 3) rfl)
  have g4 := g _ (List.mem_of_getElem? (i := 4) rfl)
  have g5 := g _ (List.mem_of_getElem? (i := 5) rfl)
  have g6 := g _ (List.mem_of_getElem? (i := 6) rfl)
  have g7 := g _ (List.mem_of_getElem? (i := 7) rfl)
  have g8 := g _ (List.mem_of_getElem? (i := 8) rfl)
  refine ⟨?_, ?_⟩
  · exact List.forall_mem_cons.mpr ⟨va_Nc.of g0, List.forall_mem_cons.mpr ⟨va_Nc.of g1, List.forall_mem_cons.mpr ⟨va_Nc.of g2, List.forall_mem_cons.mpr ⟨va_Nc.of g3, List.forall_mem_cons.mpr ⟨va_Nc.of g4, List.forall_mem_cons.mpr ⟨va_Nc.of g5, fun _ h => absurd h List.not_mem_nil⟩⟩⟩⟩⟩⟩
  · exact List.forall_mem_cons.mpr ⟨cst_moved (Vm.Alike.refl s.vm) g6, List.forall_mem_cons.mpr ⟨cst_moved (Vm.Alike.refl s.vm) g7, List.forall_mem_cons.mpr ⟨cst_moved (Vm.Alike.refl s.vm) g8, fun _ h => absurd h List.not_mem_nil⟩⟩⟩
theorem jmw {w : Cond} (h : w ∈ jWL) : w ∈ lT := List.mem_append_right _ h
theorem jmj {w : Cond} (h : w ∈ jW) : w ∈ lT := jmw (jlw h)
theorem jmi {L : List Cond} (h : ∀ w ∈ L, w ∈ jW) : ∀ w ∈ L, w ∈ lT := fun w hw => jmj (h w hw)
theorem jmP {w1 : Cond} (h : w1 ∈ jWL) : GoodIn lT (w1 :: jW) := by
  intro w hw
  rcases List.mem_cons.mp hw with rfl | hw
  · exact ⟨jmw h, good_of_word (jWL_good _ h)⟩
  · exact ⟨jmj hw, good_of_word (jW_good _ hw)⟩
theorem jmQ {w1 : Cond} (h : w1 ∈ jWL) : GoodIn lT (w1 :: jWL) := by
  intro w hw
  rcases List.mem_cons.mp hw with rfl | hw
  · exact ⟨jmw h, good_of_word (jWL_good _ h)⟩
  · exact ⟨jmw hw, good_of_word (jWL_good _ hw)⟩
theorem jmL {L : List Cond} (h : ∀ w ∈ L, w ∈ jWL) : GoodIn lT L := fun w hw => ⟨jmw (h w hw), good_of_word (jWL_good _ (h w hw))⟩
theorem jmV {own C : String} {idx : Nat} {y : MethodName} {bs : ByteArray} {mL : Nat} {ry : Option FieldType} (h1 : Cond.methodLink own idx y ∈ jWL) (h2 : Cond.instanceMethod y ∈ jWL) (h3 : Cond.selects C y y ∈ jWL) (h4 : Cond.initialized C ∈ jWL) (h : Cond.code y bs mL ry ∈ jWL) : GoodIn lT (wsV own idx C y (Cond.code y bs mL ry :: jW)) :=
  goodIn_app (jmL (List.forall_mem_cons.mpr ⟨h1, List.forall_mem_cons.mpr ⟨h2, List.forall_mem_cons.mpr ⟨h3, List.forall_mem_cons.mpr ⟨h4, fun _ h => absurd h List.not_mem_nil⟩⟩⟩⟩)) (jmP h)
theorem jmS {wc : Cond} {own : String} {idx : Nat} {y : MethodName} (h1 : Cond.methodLink own idx y ∈ jWL) (h2 : Cond.static y ∈ jWL) (h3 : Cond.initialized y.cls ∈ jWL) (h : wc ∈ jWL) : GoodIn lT (va_wsS own idx y (wc :: jWL)) :=
  goodIn_app (jmL (List.forall_mem_cons.mpr ⟨h1, List.forall_mem_cons.mpr ⟨h2, List.forall_mem_cons.mpr ⟨h3, fun _ h => absurd h List.not_mem_nil⟩⟩⟩)) (jmQ h)
/-- a long array, new -/
def nLo (ws : LWd) (lv : List (Option Value)) (st : List Value) (B : Nat) (x : Int32) : Option (Nat × LWd) := if nOk ws lv st = true ∧ ¬ x < 0 ∧ x.toNatClampNeg ≤ B then some (ws.length, ws ++ [.inl (2, x.toNatClampNeg, .inr (.inl (fun _ => 0)))]) else none
theorem nLo_of {ws ws' : LWd} {lv : List (Option Value)} {st : List Value} {B q : Nat} {x : Int32} (h : nLo ws lv st B x = some (q, ws')) : nOk ws lv st = true ∧ (¬ x < 0) ∧ x.toNatClampNeg ≤ B ∧ q = ws.length ∧ ws' = ws ++ [.inl (2, x.toNatClampNeg, .inr (.inl (fun _ => 0)))] := by
  unfold nLo at h
  split at h
  · rename_i hc
    cases h
    exact ⟨hc.1, hc.2.1, hc.2.2, rfl, rfl⟩
  · cases h
section
variable {md : jMd} {cc : ByteArray} {nL : Nat} {own : String} {Ts : List Cond} {ret : Option FieldType} {nm : String} {d mc ms n0 : Nat} {out : jOut} {pc : Nat} {lv : List (Option Value)} {st : List Value} {ws : LWd} {k n : Nat}
theorem j_newL {q B : Nat} {x : Int32} {ws' : LWd} (harr : Cond.arrayClass .long ∈ Ts) (hd : decode cc pc = .ok (.newarray .long, 2)) (hB : B ≤ 1000000) (hkc : k + 1 ≤ mc) (hks : n + B ≤ ms) (hv : nLo ws lv st B x = some (q, ws')) (kk : JG md cc nL own Ts ret nm d mc ms n0 out (pc + 2) lv (.ref q :: st) ws' (k + 1) (n + B)) : JG md cc nL own Ts ret nm d mc ms n0 out pc lv (.int x :: st) ws k n := by
  intro p l e R s m args below meth c G A ρ0 ρ H locs ls hC hR hl
  have C := hC
  obtain ⟨⟨hx, hb, hml, hown, hts⟩, hr, hlocks, hname, hK, hN, hA, ⟨hRf, hRc, hRs, hRl⟩, hthr, hlaw⟩ := hC
  obtain ⟨hP, hD, hS, hρ, hle, heq⟩ := id hR
  subst hRc
  subst hRs
  obtain ⟨hok, hx0, hxB, rfl, rfl⟩ := nLo_of hv
  obtain ⟨w1, w2, w3⟩ := nOk_of hok
  refine va_newa (atype := .long) (ty := .long) (D := G.1) hx hb (hts _ harr) rfl hK hP hD hS hA (a0 := (x.toNatClampNeg, .inr (.inl (fun _ => 0)))) (fun cA => rfl) hx0 rfl (by show _ * 8 ≤ _; omega) hkc (Nat.le_trans (Nat.add_le_add_left hxB n) hks) hd (fun q cA H1 hK1 hP1 hD1 hS1 => ?_)
  have hcA : cA = G.2 2 := jty_one hK hK1 rfl
  subst hcA
  have := kk p l e R s m args below meth c G A ρ0 (jup ρ ws.length q) H1 locs ls C (jgrow hR w1 (e := .inl (2, x.toNatClampNeg, .inr (.inl (fun _ => 0)))) hP1 hD1 hS1) (jlv_ext (fun i hi => jup_lt w1.2 hi) w2 hl)
  rw [List.map_cons, jrvs_ext (fun i hi => jup_lt w1.2 hi) w3] at this
  have e2 : jrv (jup ρ ws.length q) (.ref ws.length) = .ref q := by show Value.ref (jup ρ ws.length q ws.length) = _; rw [jup_at]
  rw [e2] at this
  exact W.widen (Nat.le_refl _) (Nat.add_le_add_left hxB n) this
theorem j_wid {k2 n2 : Nat} (hk : k ≤ k2) (hn : n ≤ n2) (kk : JG md cc nL own Ts ret nm d mc ms n0 out pc lv st ws k2 n2) : JG md cc nL own Ts ret nm d mc ms n0 out pc lv st ws k n := by
  intro p l e R s m args below meth c G A ρ0 ρ H locs ls hC hR hl
  exact W.widen hk hn (kk p l e R s m args below meth c G A ρ0 ρ H locs ls hC hR hl)
theorem j_sld {b L : Nat} {xs : Nat → Int32} {i : Int32} (hmd : md = .inr (b, L, xs)) (hd : decode cc pc = .ok (.iaload, 1)) (hi : vp_in i L) (kk : JG md cc nL own Ts ret nm d mc ms n0 out (pc + 1) lv (.int (xs i.toNatClampNeg) :: st) ws k n) : JG md cc nL own Ts ret nm d mc ms n0 out pc lv (.int i :: .ref 1000000 :: st) ws k n := by
  intro p l e R s m args below meth c G A ρ0 ρ H locs ls hC hR hl
  have C := hC
  obtain ⟨⟨hx, hb, hml, hown, hts⟩, hr, hlocks, hname, hK, hN, hA, ⟨hRf, hRc, hRs, hRl⟩, hthr, hlaw⟩ := hC
  obtain ⟨hP, hD, hS, hρ, hle, heq⟩ := id hR
  obtain ⟨-, hX, hbl, hbA, hb0, -⟩ := hlaw _ hmd
  have hw := va_sld hx hb hX hbl hbA hS hi hd (kk p l e R s m args below meth c G A ρ0 ρ H locs ls C hR hl)
  have e1 : (Value.int i :: .ref 1000000 :: st).map (jrv ρ) = .int i :: .ref b :: st.map (jrv ρ) := by
    show Value.int i :: .ref (ρ 1000000) :: st.map (jrv ρ) = _
    rw [hρ _ (Or.inr rfl), hb0]
  rw [e1]
  exact hw
theorem j_slen {b L : Nat} {xs : Nat → Int32} (hmd : md = .inr (b, L, xs)) (hd : decode cc pc = .ok (.arraylength, 1)) (kk : JG md cc nL own Ts ret nm d mc ms n0 out (pc + 1) lv (.int (Int32.ofNat L) :: st) ws k n) : JG md cc nL own Ts ret nm d mc ms n0 out pc lv (.ref 1000000 :: st) ws k n := by
  intro p l e R s m args below meth c G A ρ0 ρ H locs ls hC hR hl
  have C := hC
  obtain ⟨⟨hx, hb, hml, hown, hts⟩, hr, hlocks, hname, hK, hN, hA, ⟨hRf, hRc, hRs, hRl⟩, hthr, hlaw⟩ := hC
  obtain ⟨hP, hD, hS, hρ, hle, heq⟩ := id hR
  obtain ⟨-, hX, hbl, hbA, hb0, -⟩ := hlaw _ hmd
  have hw := va_slen hx hb hX hbl hbA hS hd (kk p l e R s m args below meth c G A ρ0 ρ H locs ls C hR hl)
  have e1 : (Value.ref 1000000 :: st).map (jrv ρ) = .ref b :: st.map (jrv ρ) := by
    show Value.ref (ρ 1000000) :: st.map (jrv ρ) = _
    rw [hρ _ (Or.inr rfl), hb0]
  rw [e1]
  exact hw
/-- the law's end -/
theorem j_lret {b L : Nat} {xs : Nat → Int32} {x : Int32} (hmd : md = .inr (b, L, xs)) (h01 : x = 0 ∨ x = 1) (hr' : ret = some .boolean) (hd : decode cc pc = .ok (.ireturn, 1)) (hkc : k ≤ mc) (hks : n ≤ ms) (ho : out = (.inl (some (.int x)), ws)) : JG md cc nL own Ts ret nm d mc ms n0 out pc lv [.int x] ws k n := by
  subst hmd
  intro p l e R s m args below meth c G A ρ0 ρ H locs ls hC hR hl
  obtain ⟨⟨hx, hb, hml, hown, hts⟩, hr, hlocks, hname, hK, hN, hA, ⟨hRf, hRc, hRs, hRl⟩, hthr, hlaw⟩ := hC
  obtain ⟨hP, hD, hS, hρ, hle, heq⟩ := id hR
  subst hRc
  subst hRs
  refine W.widen hkc hks ?_
  exact W.zret (v := x) hx hb (hr.trans hr') (by rcases h01 with rfl | rfl <;> rfl) (fun t ht hW => jend hR ho ht) hS.2.2 hd hlocks
end
section
variable {q0 : Nat × Nat × (Nat → Int32)} {cc : ByteArray} {nL : Nat} {own : String} {ret : Option FieldType} {nm : String} {d mc ms n0 : Nat} {out : jOut} {pc : Nat} {lv : List (Option Value)} {st : List Value} {ws : LWd} {k n : Nat}
/-- a private method of the law's, called -/
theorem j_callSW {hh : List (Nat × Nat × Nat × Nat)} {y : MethodName} {bs : ByteArray} {mL nA d' mc' ms' k' n' idx : Nat} {ry : Option FieldType} {Ty Ty' : List Cond} {ws1 : LWd} {v : Option Value} {As : List Value} (hd : decode cc pc = .ok (.invokestatic idx, 3)) (hSp : jSW y Ty d' mc' ms' As ws (.inl v, ws1)) (hG : GoodIn lT (va_wsS own idx y Ty)) (hTs : Ty = Cond.codeWith y bs mL ry hh :: Ty') (hy : y.cls ≠ "java/lang/invoke/MethodHandle" ∧ y.cls ≠ "java/lang/invoke/VarHandle" ∧ (parseMethodDescriptor y.desc).map (fun d => d.parameters.length) = some nA) (hAs : As.length = nA) (hdd : d' + 1 ≤ d) (hmL : mL ≤ 21) (hrm : (st.map fun v => v.category).sum ≤ 8) (hk' : k + mc' ≤ k') (hn' : n + ms' ≤ n') (hkm : k' ≤ mc) (hnm : n' ≤ ms) (hg : ws1.length = ws.length) (kk : JG (.inr q0) cc nL own lT ret nm d mc ms n0 out (pc + 3) lv (v.toList ++ st) ws1 k' n') : JG (.inr q0) cc nL own lT ret nm d mc ms n0 out pc lv (As.reverse ++ st) ws k n := by
  intro p l e R s m args below meth c G A ρ0 ρ H locs ls hC hR hl
  have C0 := hC
  obtain ⟨⟨hx, hb, hml, hown, hts⟩, hr, hlocks, hname, hK, hN, hA, ⟨hRf, hRc, hRs, hRl⟩, hthr, hlaw⟩ := hC
  obtain ⟨hP, hD, hS, hρ, hle, heq⟩ := id hR
  obtain ⟨-, -, -, -, -, hlt, hXS⟩ := hlaw _ rfl
  have hNC : jNC s := jnc_of hts
  subst hRc
  subst hRs
  have hcat : ((st.map (jrv ρ)).map fun v => v.category).sum ≤ 8 := by rw [jrv_cats]; exact hrm
  have hA2 : ∀ q, va_A (jph G.2 ρ ws) H.size q → A q := fun q h2 => by
    rcases h2 with ⟨i, e9, h3⟩ | h3
    · exact hD.2 i _ h3
    · exact hA q (Nat.le_trans hS.1 h3)
  have pre : ∀ U : State, U.heap = H → s.WarmedH U.vm → jPW G ρ H.size As ws (As.map (jrv ρ)).toArray U := fun U hU hW => ⟨⟨rfl, by rw [hU], by rw [hU]; exact hP, va_K.moved hW.alike hK, hN.warm hW, hD.weaken (fun _ _ _ _ => trivial), fun _ => jXS_warm hW (fun a h1 h2 => by rw [hU]; exact hS.2.1 a h1 h2) hA2 hXS⟩, hNC.warm hW.alike⟩
  have run := vx_runSW (hh := hh) (As := As.map (jrv ρ)) (rest := st.map (jrv ρ)) (g := F0 m pc ls ((As.reverse ++ st).map (jrv ρ))) (R := R) (e := e) (below := below) (meth := meth) (locs := locs) ⟨hx, hb, hml, hown, hts⟩ (hSp l hlt G ρ H.size) (vx_cwSW nA hts hG hTs rfl rfl hy ⟨Nat.le_trans hdd hRf, by show 8 + (mL + 11) + 40 * d' ≤ R.locals; omega⟩) ⟨jpw_blind, pre⟩ rfl (by rw [List.length_map]; exact hAs) hl.1 (by simp [jrv]) (lv_room hcat) hd ⟨(Nat.le_trans hk' hkm), (Nat.le_trans hn' hnm)⟩
  exact j_after hA hR hl run hk' hn' (Or.inl hg) (fun H1 locs1 ρ1 hR1 hl1 => kk p l e R s m args below meth c G A ρ0 ρ1 H1 locs1 ls C0 hR1 hl1)
end
