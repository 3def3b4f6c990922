/-! methods that catch, arrays of longs, the calls of the law's own methods -/
theorem jcs : ∀ q ∈ jexc, ∀ w ∈ (vx_atS RX10 q.1 q.2 ["java/lang/RuntimeException", "java/lang/Exception"]).filter (fun w => !goodWord w), (w.onTables && w.keepsFace) = true := by decide +kernel
theorem ot_warm {args args' : Array Value} {s U : State} {w : Cond} (hW : s.WarmedH U.vm) (hc : (w.onTables && w.keepsFace) = true) (h : w.before args s = true) : w.before args' U = true := by
  rw [Bool.and_eq_true] at hc
  have h1 : w.before args (s.setVm U.vm) = true := Cond.before_shiftedFace (State.Shifted.of_warmed hW) _ hc.2 h
  rw [Cond.onTables_vm (A' := args') (U' := U) U.vm w hc.1, State.setVm_self] at h1
  exact h1
theorem jXS_warm {A B : Nat → Prop} {s U : State} (hW : s.WarmedH U.vm) (hk : ∀ a : Nat, a < s.heap.size → ¬ A a → U.heap[a]? = s.heap[a]?) (hAB : ∀ q, B q → A q) (h : jXS A s) : jXS B U := by
  obtain ⟨h1, h2, h3, h4⟩ := h
  refine ⟨((vx_Zq.moved hW.alike h1).kept hk).narrow hAB, ((vx_Zq.moved hW.alike h2).kept hk).narrow hAB, fun q hq => (h3 q hq).elim fun sa h => ⟨sa, vk_R.warm hW h⟩, fun q hq w hw => ?_⟩
  exact ot_warm hW (jcs q hq w hw) (h4 q hq w hw)
def jHX (hh : List (Nat × Nat × Nat × Nat)) (l : Launch) (s : State) (c : Code) (A : Nat → Prop) : Prop := l.stackTraces = false ∧ c.exceptionTable.toList = tableOf hh ∧ jXS A s ∧ jNC s
def JH (hh : List (Nat × Nat × Nat × Nat)) (cc : ByteArray) (nL : Nat) (own : String) (Ts : List Cond) (ret : Option FieldType) (nm : String) (d mc ms n0 : Nat) (out : jOut) (pc : Nat) (lv : List (Option Value)) (st : List Value) (ws : LWd) (k n : Nat) : Prop :=
  ∀ (p : Program) (l : Launch) (e : Env) (R : Room) (s : State) (m : MethodId) (args : Array Value) (below : List Frame) (meth : Method) (c : Code) (G : LGl) (A : Nat → Prop) (ρ0 ρ : Nat → Nat) (H : Heap) (locs : List Loc) (ls : Array Slot),
    jHX hh l s c A → jCX (.inl false) cc nL own Ts ret nm d mc ms p l R s m args meth c G A ρ0 → jRW G A s ρ0 ρ n0 H locs ws → jLH ρ ls nL lv →
    W p l e R s m args below meth c H locs k n (MQ below (jQC G ρ0 n0 A out) args s mc ms A) (F0 m pc ls (st.map (jrv ρ)))
theorem mt_ofWH {l : Launch} {y : MethodName} {ws ws' : List Cond} {rm : Room} {Pc : Array Value → State → Prop} {Qc : Array Value → State → Outcome → State → Prop} {mc ms : Nat} {free : Addr → Prop} {cc : ByteArray} {maxL : Nat} {ret : Option FieldType} {hh : List (Nat × Nat × Nat × Nat)}
    (hy : plainName y.cls = true) (hw : ws = Cond.codeWith y cc maxL ret hh :: ws')
    (body : ∀ p e s m args below meth c s₁, BodyLoose p l y (headSpec ws rm) cc maxL ret e s m args below meth c s₁ → c.maxLocals = maxL → Pc args s →
      W p l e (headSpec ws rm).room s m args below meth c s.heap [] 0 0 (MQ below Qc args s mc ms free) (entryFrame m args maxL)) : Met l y ws rm Pc Qc mc ms free := by
  refine MetFree.of_bodyS (code := cc) (maxLocals := maxL) (ret := ret) hy ?_ ?_
  · intro args s m h hn
    obtain ⟨m9, meth, c, hn9, h1, h2, h3, h4, -, h5, h6, -⟩ := Cond.codeWith_spec (atoms_spec (ws := ws) h _ (by rw [hw]; exact List.mem_cons_self))
    cases hn.symm.trans hn9
    exact ⟨meth, c, h1, h2, h3, h4, h5, h6⟩
  · intro p e s m args below meth c s₁ B hml hP _
    have hh0 : s₁.heap = s.heap := by rw [B.state]; rfl
    obtain ⟨t, a1, o, b1, b2, b3⟩ := body p e s m args below meth c s₁ B hml hP s₁ hh0 (Stand.of_body B)
    exact ⟨t, o, a1, b1, b2, ⟨b3.1, b3.2⟩⟩
theorem jh_entry {hh : List (Nat × Nat × Nat × Nat)} {y : MethodName} {cc : ByteArray} {nL : Nat} {own : String} {Ts ws' : List Cond} {ret : Option FieldType} {nm : String} {d mc ms : Nat} {out : jOut} {av : List Value} {ws : LWd}
    (hy : plainName y.cls = true) (hw : Ts = Cond.codeWith y cc nL ret hh :: ws') (hown : y.cls = own) (hnm : y.name = nm) (hav : ∀ v ∈ av, v.category = 1) (hn : av.length ≤ nL)
    (k : JH hh cc nL own Ts ret nm d mc ms ws.length out 0 (av.map some ++ List.replicate (nL - av.length) none) [] ws 0 0) : jSW none y Ts d mc ms av ws out := by
  intro l hl G ρ sz
  refine mt_ofWH (cc := cc) (maxL := nL) (ret := ret) (hh := hh) hy hw ?_
  intro p e s m args below meth c s₁ B hml hv
  obtain ⟨⟨rfl, hsz, hP, hK, hN, hD0, hX⟩, hNC, -⟩ := hv
  subst hsz
  have hown' : s.vm.findClass own = some m.cls := hown ▸ findClass_of_methodNamed B.named
  have hA : ∀ q : Nat, s.heap.size ≤ q → va_A (jph G.2 ρ ws) s.heap.size q := fun q h => Or.inr h
  have hts : ∀ w ∈ Ts, w.before (av.map (jrv ρ)).toArray s = true := atoms_spec (ws := Ts) B.pre
  rw [lg_entry_eq]
  exact k p l e _ s m _ below meth c G _ ρ ρ s.heap [] _ ⟨hl, vx_table (x := y) B (hts _ (by rw [hw]; exact List.mem_cons_self)), hX rfl, hNC⟩ ⟨⟨B.exec, B.bytes, hml, hown', hts⟩, B.returns, B.notSynchronized, (name_of_methodNamed B.named B.method).1.trans hnm, hK, hN, hA, ⟨Nat.le_refl _, rfl, rfl, Nat.le_refl _⟩, (fun h => by cases h), (fun q h => by cases h)⟩ ⟨hP, hD0.self, va_S.rf, fun _ _ => rfl, Nat.le_refl _, fun _ => rfl⟩ (j_ls hav hn)
section
variable {hh : List (Nat × Nat × Nat × Nat)} {cc : ByteArray} {nL : Nat} {own : String} {Ts : List Cond} {ret : Option FieldType} {nm : String} {d mc ms n0 : Nat} {out : jOut} {pc : Nat} {lv : List (Option Value)} {st : List Value} {ws : LWd} {k n : Nat}
theorem jh_aload_n {j : Fin 4} {x : Nat} (hd : decode cc pc = .ok (.aload_n j, 1)) (hx : lv[(j : Nat)]? = some (some (.ref x))) (kk : JH hh cc nL own Ts ret nm d mc ms n0 out (pc + 1) lv (.ref x :: st) ws k n) : JH hh cc nL own Ts ret nm d mc ms n0 out pc lv st ws k n := by
  intro p l e R s m args below meth c G A ρ0 ρ H locs ls hE hC hR hl
  exact lv_aload_n hC.1.1 hC.1.2.1 hd rfl (hl.at hx) (kk p l e R s m args below meth c G A ρ0 ρ H locs ls hE hC hR hl)
theorem jh_aload {j : Nat} {x : Nat} (hd : decode cc pc = .ok (.aload j, 2)) (hx : lv[j]? = some (some (.ref x))) (kk : JH hh cc nL own Ts ret nm d mc ms n0 out (pc + 2) lv (.ref x :: st) ws k n) : JH hh cc nL own Ts ret nm d mc ms n0 out pc lv st ws k n := by
  intro p l e R s m args below meth c G A ρ0 ρ H locs ls hE hC hR hl
  exact lv_aload hC.1.1 hC.1.2.1 hd (hl.at hx) (kk p l e R s m args below meth c G A ρ0 ρ H locs ls hE hC hR hl)
theorem jh_iconst {i : Int} {v : Int32} (hd : decode cc pc = .ok (.iconst i, 1)) (hv : Int32.ofInt i = v) (kk : JH hh cc nL own Ts ret nm d mc ms n0 out (pc + 1) lv (.int v :: st) ws k n) : JH hh cc nL own Ts ret nm d mc ms n0 out pc lv st ws k n := by
  intro p l e R s m args below meth c G A ρ0 ρ H locs ls hE hC hR hl
  exact lv_iconst hC.1.1 hC.1.2.1 hd hv (kk p l e R s m args below meth c G A ρ0 ρ H locs ls hE hC hR hl)
theorem jh_iload_n {j : Fin 4} {x : Int32} (hd : decode cc pc = .ok (.iload_n j, 1)) (hx : lv[(j : Nat)]? = some (some (.int x))) (kk : JH hh cc nL own Ts ret nm d mc ms n0 out (pc + 1) lv (.int x :: st) ws k n) : JH hh cc nL own Ts ret nm d mc ms n0 out pc lv st ws k n := by
  intro p l e R s m args below meth c G A ρ0 ρ H locs ls hE hC hR hl
  exact lv_iload_n hC.1.1 hC.1.2.1 hd rfl (hl.at hx) (kk p l e R s m args below meth c G A ρ0 ρ H locs ls hE hC hR hl)
theorem jh_iload {j : Nat} {x : Int32} (hd : decode cc pc = .ok (.iload j, 2)) (hx : lv[j]? = some (some (.int x))) (kk : JH hh cc nL own Ts ret nm d mc ms n0 out (pc + 2) lv (.int x :: st) ws k n) : JH hh cc nL own Ts ret nm d mc ms n0 out pc lv st ws k n := by
  intro p l e R s m args below meth c G A ρ0 ρ H locs ls hE hC hR hl
  exact lv_iload hC.1.1 hC.1.2.1 hd (hl.at hx) (kk p l e R s m args below meth c G A ρ0 ρ H locs ls hE hC hR hl)
theorem jh_bipush {i : Int} {v : Int32} (hd : decode cc pc = .ok (.bipush i, 2)) (hv : (Int8.ofInt i).toInt32 = v) (kk : JH hh cc nL own Ts ret nm d mc ms n0 out (pc + 2) lv (.int v :: st) ws k n) : JH hh cc nL own Ts ret nm d mc ms n0 out pc lv st ws k n := by
  intro p l e R s m args below meth c G A ρ0 ρ H locs ls hE hC hR hl
  exact lv_bipush hC.1.1 hC.1.2.1 hd hv (kk p l e R s m args below meth c G A ρ0 ρ H locs ls hE hC hR hl)
theorem jh_if_ne {x : Int32} {off : Int} {tgt : Nat} (hd : decode cc pc = .ok (.ifCond .ne off, 3)) (ht : (pc : Int) + off = (tgt : Int)) (kt : ¬ x = 0 → JH hh cc nL own Ts ret nm d mc ms n0 out tgt lv st ws k n) (kf : x = 0 → JH hh cc nL own Ts ret nm d mc ms n0 out (pc + 3) lv st ws k n) : JH hh cc nL own Ts ret nm d mc ms n0 out pc lv (.int x :: st) ws k n := by
  intro p l e R s m args below meth c G A ρ0 ρ H locs ls hE hC hR hl
  exact lv_if_ne hC.1.1 hC.1.2.1 hd ht (fun q => kt q p l e R s m args below meth c G A ρ0 ρ H locs ls hE hC hR hl) (fun q => kf q p l e R s m args below meth c G A ρ0 ρ H locs ls hE hC hR hl)
theorem jh_icmp_ne {x y : Int32} {off : Int} {tgt : Nat} (hd : decode cc pc = .ok (.if_icmp .ne off, 3)) (ht : (pc : Int) + off = (tgt : Int)) (kt : ¬ x = y → JH hh cc nL own Ts ret nm d mc ms n0 out tgt lv st ws k n) (kf : x = y → JH hh cc nL own Ts ret nm d mc ms n0 out (pc + 3) lv st ws k n) : JH hh cc nL own Ts ret nm d mc ms n0 out pc lv (.int y :: .int x :: st) ws k n := by
  intro p l e R s m args below meth c G A ρ0 ρ H locs ls hE hC hR hl
  exact lv_icmp_ne hC.1.1 hC.1.2.1 hd ht (fun q => kt q p l e R s m args below meth c G A ρ0 ρ H locs ls hE hC hR hl) (fun q => kf q p l e R s m args below meth c G A ρ0 ρ H locs ls hE hC hR hl)
end
/-! a call that may throw, caught here -/
def sL (ws : LWd) (a : Nat) (i : Int32) (x : Int64) : Option LWd := match ws[a]? with
  | some (.inl (t, n, .inr (.inl f))) => if t = 2 ∧ ¬ (i < 0 ∨ n ≤ i.toNatClampNeg) then some (ws.set a (.inl (t, n, .inr (.inl (vp_updL f i.toNatClampNeg x))))) else none
  | _ => none
def aLd (ws : LWd) (a : Nat) (i : Int32) : Option Int64 := match ws[a]? with
  | some (.inl (t, n, .inr (.inl f))) => if t = 2 ∧ ¬ (i < 0 ∨ n ≤ i.toNatClampNeg) then some (f i.toNatClampNeg) else none
  | _ => none
theorem sL_of {ws ws' : LWd} {a : Nat} {i : Int32} {x : Int64} (h : sL ws a i x = some ws') : ∃ n f, ws[a]? = some (.inl (2, n, .inr (.inl f))) ∧ vp_in i n ∧ ws' = ws.set a (.inl (2, n, .inr (.inl (vp_updL f i.toNatClampNeg x)))) := by
  unfold sL at h
  split at h
  · rename_i t n f e
    split at h
    · rename_i hc
      obtain ⟨rfl, hc⟩ := hc
      cases h
      exact ⟨n, f, e, hc, rfl⟩
    · cases h
  · cases h
theorem aLd_of {ws : LWd} {a : Nat} {i : Int32} {x : Int64} (h : aLd ws a i = some x) : ∃ n f, ws[a]? = some (.inl (2, n, .inr (.inl f))) ∧ vp_in i n ∧ x = f i.toNatClampNeg := by
  unfold aLd at h
  split at h
  · rename_i t n f e
    split at h
    · rename_i hc
      obtain ⟨rfl, hc⟩ := hc
      cases h
      exact ⟨n, f, e, hc, rfl⟩
    · cases h
  · cases h
section
variable {md : jMd} {cc : ByteArray} {nL : Nat} {own : String} {Ts : List Cond} {ret : Option FieldType} {nm : String} {d mc ms n0 : Nat} {out : jOut} {pc : Nat} {lv : List (Option Value)} {st : List Value} {ws : LWd} {k n : Nat}
theorem j_lald {a : Nat} {i : Int32} {x : Int64} (hd : decode cc pc = .ok (.laload, 1)) (hv : aLd ws a i = some x) (kk : JG md cc nL own Ts ret nm d mc ms n0 out (pc + 1) lv (.long x :: st) ws k n) : JG md cc nL own Ts ret nm d mc ms n0 out pc lv (.int i :: .ref a :: st) ws k n := by
  intro p l e R s m args below meth c G A ρ0 ρ H locs ls hC hR hl
  have C := hC
  obtain ⟨⟨hx, hb, hml, hown, hts⟩, hr, hlocks, hname, hK, hN, hA, ⟨hRf, hRc, hRs, hRl⟩, hthr, hlaw⟩ := hC
  obtain ⟨hP, hD, hS, hρ, hle, heq⟩ := id hR
  subst hRc
  subst hRs
  obtain ⟨N, f, he, hin, rfl⟩ := aLd_of hv
  exact va_lald hx hb hK hP a 2 (jph_get he) rfl hin hd (kk p l e R s m args below meth c G A ρ0 ρ H locs ls C hR hl)
theorem j_last {a : Nat} {i : Int32} {x : Int64} {ws' : LWd} (hd : decode cc pc = .ok (.lastore, 1)) (hv : sL ws a i x = some ws') (kk : JG md cc nL own Ts ret nm d mc ms n0 out (pc + 1) lv st ws' k n) : JG md cc nL own Ts ret nm d mc ms n0 out pc lv (.long x :: .int i :: .ref a :: st) ws k n := by
  intro p l e R s m args below meth c G A ρ0 ρ H locs ls hC hR hl
  have C := hC
  obtain ⟨⟨hx, hb, hml, hown, hts⟩, hr, hlocks, hname, hK, hN, hA, ⟨hRf, hRc, hRs, hRl⟩, hthr, hlaw⟩ := hC
  obtain ⟨hP, hD, hS, hρ, hle, heq⟩ := id hR
  subst hRc
  subst hRs
  obtain ⟨N, f, he, hin, rfl⟩ := sL_of hv
  refine va_last hx hb hK hP hD hS a 2 (jph_get he) rfl hin hd (fun H1 locs1 hP1 hD1 hS1 => ?_)
  have e7 : (jph G.2 ρ ws).set a (ρ a, .inl (G.2 2, N, .inr (.inl (vp_updL f i.toNatClampNeg x)))) = jph G.2 ρ (ws.set a (.inl (2, N, .inr (.inl (vp_updL f i.toNatClampNeg x))))) := jph_set (e := .inl (2, N, .inr (.inl (vp_updL f i.toNatClampNeg x))))
  rw [e7] at hP1 hD1
  exact kk p l e R s m args below meth c G A ρ0 ρ H1 locs1 ls C ⟨hP1, hD1, hS1, hρ, by rw [List.length_set]; exact hle, by rw [List.length_set]; exact heq⟩ hl
end
theorem jLH.store0 {ρ : Nat → Nat} {nL : Nat} {pre l : List (Option Value)} {x : Value} (hp : jcatL pre = true) {ls' : Array Slot}
    (h' : lv_has ls' nL ((pre.length, x) :: (jlA ρ 0 (pre ++ none :: l)).filter (fun q => !(q.1 == pre.length) && !(q.1 + 1 == pre.length && q.2.category == 2)))) : jLH ρ ls' nL (pre ++ none :: l) := by
  refine ⟨h'.1, h'.2.1, fun q hq => ?_⟩
  obtain ⟨i, v, rfl, h2⟩ := jlA_of hq
  rw [Nat.zero_add]
  have hi : i ≠ pre.length := fun e => by
    subst e
    rw [List.getElem?_append_right (Nat.le_refl _), Nat.sub_self] at h2
    cases h2
  refine h'.2.2 (i, jrv ρ v) (List.mem_cons_of_mem _ (List.mem_filter.mpr ⟨?_, ?_⟩))
  · have := jlA_mem (ρ := ρ) (j := 0) h2
    rwa [Nat.zero_add] at this
  · have e1 : (i == pre.length) = false := by simp [hi]
    simp only [e1, Bool.not_false, Bool.true_and, Bool.not_eq_true', Bool.and_eq_false_iff]
    by_cases hq2 : i + 1 = pre.length
    · right
      have hlt : i < pre.length := by omega
      rw [List.getElem?_append_left hlt] at h2
      have hg : pre.getLast? = some (some v) := by
        rw [List.getLast?_eq_getElem?, show pre.length - 1 = i by omega]
        exact h2
      unfold jcatL at hp
      rw [hg] at hp
      rw [jrv_cat, jcat_spec hp]
      rfl
    · left
      simp [hq2]
/-- a handler, from its start -/
def JR (cc : ByteArray) (nL : Nat) (own : String) (Ts : List Cond) (ret : Option FieldType) (nm : String) (d mc ms n0 : Nat) (out : jOut) (pc : Nat) (lv : List (Option Value)) (ws : LWd) (k n : Nat) : Prop :=
  ∀ (p : Program) (l : Launch) (e : Env) (R : Room) (s : State) (m : MethodId) (args : Array Value) (below : List Frame) (meth : Method) (c : Code) (G : LGl) (A : Nat → Prop) (ρ0 ρ : Nat → Nat) (H : Heap) (locs : List Loc) (ls : Array Slot) (q : Addr),
    jCX (.inl false) cc nL own Ts ret nm d mc ms p l R s m args meth c G A ρ0 → jRW G A s ρ0 ρ n0 H locs ws → jLH ρ ls nL lv →
    W p l e R s m args below meth c H locs k n (MQ below (jQC G ρ0 n0 A out) args s mc ms A) (F0 m pc ls [.ref q])
section
variable {hh : List (Nat × Nat × Nat × Nat)} {cc : ByteArray} {nL : Nat} {own : String} {Ts : List Cond} {ret : Option FieldType} {nm : String} {d mc ms n0 : Nat} {out : jOut} {pc : Nat} {lv : List (Option Value)} {st : List Value} {ws : LWd} {k n : Nat}
theorem jr_astore_n (pre : List (Option Value)) {j : Fin 4} (hd : decode cc pc = .ok (.astore_n j, 1)) (hj : (j : Nat) = pre.length) (hn : pre.length < nL) (hp : jcatL pre = true) (kk : JG (.inl false) cc nL own Ts ret nm d mc ms n0 out (pc + 1) (pre ++ [none]) [] ws k n) : JR cc nL own Ts ret nm d mc ms n0 out pc (pre ++ [none]) ws k n := by
  intro p l e R s m args below meth c G A ρ0 ρ H locs ls q hC hR hl
  refine lv_astore_n hC.1.1 hC.1.2.1 hd rfl hl (by rw [hj]; exact hn) rfl (fun ls' h' => ?_)
  rw [hj] at h'
  exact kk p l e R s m args below meth c G A ρ0 ρ H locs ls' hC hR (jLH.store0 hp h')
theorem jr_astore (pre : List (Option Value)) {j : Nat} (hd : decode cc pc = .ok (.astore j, 2)) (hj : j = pre.length) (hn : pre.length < nL) (hp : jcatL pre = true) (kk : JG (.inl false) cc nL own Ts ret nm d mc ms n0 out (pc + 2) (pre ++ [none]) [] ws k n) : JR cc nL own Ts ret nm d mc ms n0 out pc (pre ++ [none]) ws k n := by
  intro p l e R s m args below meth c G A ρ0 ρ H locs ls q hC hR hl
  refine lv_astore hC.1.1 hC.1.2.1 hd hl (by rw [hj]; exact hn) rfl (fun ls' h' => ?_)
  rw [hj] at h'
  exact kk p l e R s m args below meth c G A ρ0 ρ H locs ls' hC hR (jLH.store0 hp h')
def jEnt (x : Nat × Nat × Nat × Nat) : ExceptionTableEntry := ⟨x.1, x.2.1, x.2.2.1, x.2.2.2⟩
/-- the row of the table that takes the exception E -/
def jTk (hh : List (Nat × Nat × Nat × Nat)) (own : String) (Ts : List Cond) (pc : Nat) (E : String) (hpc : Nat) : Prop := ∃ (pre : List (Nat × Nat × Nat × Nat)) (x : Nat × Nat × Nat × Nat) (suf : List (Nat × Nat × Nat × Nat)), hh = pre ++ x :: suf ∧ (∀ z ∈ pre, z.2.2.2 ≠ 0 ∧ ∃ nm : String, Cond.classLink own z.2.2.2 nm ∈ Ts ∧ (E, nm) ∈ jpr) ∧ covers (jEnt x) pc = true ∧ x.2.2.2 ≠ 0 ∧ Cond.classLink own x.2.2.2 E ∈ Ts ∧ E ∈ [nIAE, nISE, nIOB] ∧ x.2.2.1 = hpc
theorem jh_callVX {y : MethodName} {bs : ByteArray} {mL nA d' mc' ms' k' n' idx : Nat} {ry : Option FieldType} {Ty Ty' : List Cond} {ws1 : LWd} {r : Option Value ⊕ String} {b ci N : Nat} {C : String} {T : u_T} {As : List Value} (hd : decode cc pc = .ok (.invokevirtual idx, 3)) (hSp : jSX y Ty d' mc' ms' (.ref b :: As) ws (r, ws1)) (hG : GoodIn Ts (wsV own idx C y Ty)) (hTs : Ty = Cond.code y bs mL ry :: Ty') (hy : y.cls = C ∧ y.cls ≠ "java/lang/invoke/MethodHandle" ∧ y.cls ≠ "java/lang/invoke/VarHandle" ∧ (parseMethodDescriptor y.desc).map (fun d => d.parameters.length) = some nA) (hAs : As.length = nA) (hrc : ∃ fs, ws[b]? = some (.inr (ci, fs))) (hc : vwCl[ci]? = some (C, T, N)) (hdd : d' + 1 ≤ d) (hmL : mL + 19 + 40 * d' ≤ 40 * d) (hrm : (st.map fun v => v.category).sum ≤ 8) (hk' : k + mc' ≤ k') (hn' : n + ms' ≤ n') (hkm : k' ≤ mc) (hnm : n' ≤ ms) (hlen : ws1.length = ws.length)
    (kk : ∀ v, r = .inl v → JG (.inl false) cc nL own Ts ret nm d mc ms n0 out (pc + 3) lv (v.toList ++ st) ws1 k' n')
    (kx : ∀ E, r = .inr E → ∃ hpc, jTk hh own Ts pc E hpc ∧ JR cc nL own Ts ret nm d mc ms n0 out hpc lv ws1 k' n') : JH hh cc nL own Ts ret nm d mc ms n0 out pc lv (As.reverse ++ .ref b :: st) ws k n := by
  intro p l e R s m args below meth c G A ρ0 ρ H locs ls hE hC hR hl
  obtain ⟨hlt, htab, hXS, hNC⟩ := hE
  have C0 := hC
  obtain ⟨⟨hx, hb, hml, hown, hts⟩, hr, hlocks, hname, hK, hN, hA, ⟨hRf, hRc, hRs, hRl⟩, hthr, hlaw⟩ := hC
  obtain ⟨hP, hD, hS, hρ, hle, heq⟩ := id hR
  subst hRc
  subst hRs
  have hcat : ((st.map (jrv ρ)).map fun v => v.category).sum ≤ 8 := by rw [jrv_cats]; exact hrm
  have hA2 : ∀ q, va_A (jph G.2 ρ ws) H.size q → A q := fun q h2 => by
    rcases h2 with ⟨i, e9, h3⟩ | h3
    · exact hD.2 i _ h3
    · exact hA q (Nat.le_trans hS.1 h3)
  have hA1 : ∀ q, q < H.size → va_A (jph G.2 ρ ws) H.size q → A q := fun q _ h2 => hA2 q h2
  have pre : ∀ U : State, U.heap = H → s.WarmedH U.vm → jPC G ρ H.size true (.ref b :: As) ws ((Value.ref b :: As).map (jrv ρ)).toArray U := fun U hU hW => ⟨rfl, by rw [hU], by rw [hU]; exact hP, va_K.moved hW.alike hK, hN.warm hW, hD.weaken (fun _ _ _ _ => trivial), fun _ => jXS_warm hW (fun a h1 h2 => by rw [hU]; exact hS.2.1 a h1 h2) hA2 hXS⟩
  have run := vx_runV (As := As.map (jrv ρ)) (rest := st.map (jrv ρ)) (g := F0 m pc ls ((As.reverse ++ .ref b :: st).map (jrv ρ))) (R := R) (e := e) (below := below) (meth := meth) (locs := locs) ⟨hx, hb, hml, hown, hts⟩ (hSp l hlt G ρ H.size) (cwV nA hts hG hTs rfl rfl hy ⟨Nat.le_trans hdd hRf, by show 8 + (mL + 11) + 40 * d' ≤ R.locals; omega⟩) ⟨jpc_blind, va_recv hK hP hc (jph_get hrc.choose_spec), pre⟩ rfl (by rw [List.length_map]; exact hAs) hl.1 (by simp [jrv]) (lv_room hcat) hd ⟨(Nat.le_trans hk' hkm), (Nat.le_trans hn' hnm)⟩
  have hS1 : ∀ (t T' : State) (L : List Loc), T'.heap = t.heap → H.size ≤ t.heap.size → (∀ q : Nat, q < H.size → ¬ va_A (jph G.2 ρ ws) H.size q → t.heap[q]? = H[q]?) → (∀ q ∈ L, va_A (jph G.2 ρ ws) H.size q.base) → va_S A s.heap T'.heap (locs ++ L) := fun t T' L e1 hz hk hL => ⟨Nat.le_trans hS.1 (by rw [e1]; exact hz), fun q h1 h2 => by rw [e1, hk q (Nat.lt_of_lt_of_le h1 hS.1) (fun z => h2 (hA2 q z))]; exact hS.2.1 q h1 h2, fun q hq => by
      rcases List.mem_append.mp hq with h | h
      · exact hS.2.2 q h
      · exact hA2 _ (hL q h)⟩
  intro T0 hT X
  rcases run T0 hT X with ⟨v, st₀, t, T', L, h0, X', hL, e1, e2, ⟨⟨v2, ρ2, hv, ho, hρ2, heq2, hP2, hD2⟩, hz, hk⟩, stp⟩ | ⟨q, st₀, t, T', L, E, ce, h0, X', hL, e1, e2, ⟨u, -, ⟨hEe, hP2, hD2, hlen2⟩, hz, hk⟩, hce, hcv, hcl, stp⟩
  · rw [h0] at hz hk
    cases ho
    have er : ρ2 = ρ := heq2 hlen
    subst er
    obtain ⟨t2, a1, b1⟩ := W.widen hk' hn' (kk v2 hv p l e R s m args below meth c G A ρ0 ρ2 T'.heap (locs ++ L) ls C0 ⟨by rw [e1]; exact hP2, hD2.weaken (fun _ _ _ h => hA2 _ h), hS1 t T' L e1 hz hk hL, hρ, by omega, fun h => heq (hlen.symm.trans h)⟩ hl) T' rfl X'
    refine ⟨t2, stp t2 ?_, b1⟩
    have e5 : (v2.toList ++ st).map (jrv ρ2) = (v2.map (jrv ρ2)).toList ++ st.map (jrv ρ2) := by cases v2 <;> rfl
    rw [e5] at a1
    exact a1
  · rw [h0] at hz hk
    obtain ⟨hpc, ⟨pre', x, suf, hsp, hps, hcv', h00, hlk, hEm, rfl⟩, kr⟩ := kx E hEe
    have hw := kr p l e R s m args below meth c G A ρ0 ρ T'.heap (locs ++ L) ls q C0 ⟨by rw [e1]; exact hP2, hD2.weaken (fun _ _ _ h => hA2 _ h), hS1 t T' L e1 hz hk hL, hρ, by omega, fun h => heq (hlen.symm.trans h)⟩ hl
    have hsplit : c.exceptionTable.toList = tableOf pre' ++ jEnt x :: tableOf suf := by
      rw [htab, hsp]
      unfold tableOf
      rw [List.map_append, List.map_cons]
      rfl
    have hct := vx_catch (e := e) (below := below) (meth := meth) (rest := st.map (jrv ρ)) (locs := locs ++ L) (cells := k') (slots := n') (ls := ls) (pc := pc) (name := E) hown (tableOf pre') (jEnt x) (tableOf suf) hsplit (fun z hz => by
      obtain ⟨z0, hz0, rfl⟩ := List.mem_map.mp hz
      obtain ⟨g1, nm', g2, g3⟩ := hps z0 hz0
      exact Or.inr ⟨g1, nm', hts _ g2, hNC.1 _ g3⟩) hcv' h00 (hts _ hlk) (cst_moved (Vm.Alike.refl s.vm) (hNC.2 E hEm)) (by rw [e1]; exact hce) hcv hcl hw
    obtain ⟨t2, a1, b1⟩ := vx_widen hk' hn' hct T' rfl X'
    exact ⟨t2, stp.trans a1, b1⟩
end
/-- a long array, new -/
def nLo (ws : LWd) (lv : List (Option Value)) (st : List Value) (B : Nat) (x : Int32) : Option (Nat × LWd) := if nOk ws lv st = true ∧ ¬ x < 0 ∧ x.toNatClampNeg ≤ B then some (ws.length, ws ++ [.inl (2, x.toNatClampNeg, .inr (.inl (fun _ => 0)))]) else none
theorem nLo_of {ws ws' : LWd} {lv : List (Option Value)} {st : List Value} {B q : Nat} {x : Int32} (h : nLo ws lv st B x = some (q, ws')) : nOk ws lv st = true ∧ (¬ x < 0) ∧ x.toNatClampNeg ≤ B ∧ q = ws.length ∧ ws' = ws ++ [.inl (2, x.toNatClampNeg, .inr (.inl (fun _ => 0)))] := by
  unfold nLo at h
  split at h
  · rename_i hc
    cases h
    exact ⟨hc.1, hc.2.1, hc.2.2, rfl, rfl⟩
  · cases h
section
variable {md : jMd} {cc : ByteArray} {nL : Nat} {own : String} {Ts : List Cond} {ret : Option FieldType} {nm : String} {d mc ms n0 : Nat} {out : jOut} {pc : Nat} {lv : List (Option Value)} {st : List Value} {ws : LWd} {k n : Nat}
theorem j_newL {q B : Nat} {x : Int32} {ws' : LWd} (harr : Cond.arrayClass .long ∈ Ts) (hd : decode cc pc = .ok (.newarray .long, 2)) (hB : B ≤ 1000000) (hkc : k + 1 ≤ mc) (hks : n + B ≤ ms) (hv : nLo ws lv st B x = some (q, ws')) (kk : JG md cc nL own Ts ret nm d mc ms n0 out (pc + 2) lv (.ref q :: st) ws' (k + 1) (n + B)) : JG md cc nL own Ts ret nm d mc ms n0 out pc lv (.int x :: st) ws k n := by
  intro p l e R s m args below meth c G A ρ0 ρ H locs ls hC hR hl
  have C := hC
  obtain ⟨⟨hx, hb, hml, hown, hts⟩, hr, hlocks, hname, hK, hN, hA, ⟨hRf, hRc, hRs, hRl⟩, hthr, hlaw⟩ := hC
  obtain ⟨hP, hD, hS, hρ, hle, heq⟩ := id hR
  subst hRc
  subst hRs
  obtain ⟨hok, hx0, hxB, rfl, rfl⟩ := nLo_of hv
  obtain ⟨w1, w2, w3⟩ := nOk_of hok
  refine va_newa (atype := .long) (ty := .long) (D := G.1) hx hb (hts _ harr) rfl hK hP hD hS hA (a0 := (x.toNatClampNeg, .inr (.inl (fun _ => 0)))) (fun cA => rfl) hx0 rfl (by show _ * 8 ≤ _; omega) hkc (Nat.le_trans (Nat.add_le_add_left hxB n) hks) hd (fun q cA H1 hK1 hP1 hD1 hS1 => ?_)
  have hcA : cA = G.2 2 := jty_one hK hK1 rfl
  subst hcA
  have := kk p l e R s m args below meth c G A ρ0 (jup ρ ws.length q) H1 locs ls C (jgrow hR w1 (e := .inl (2, x.toNatClampNeg, .inr (.inl (fun _ => 0)))) hP1 hD1 hS1) (jlv_ext (fun i hi => jup_lt w1.2 hi) w2 hl)
  rw [List.map_cons, jrvs_ext (fun i hi => jup_lt w1.2 hi) w3] at this
  have e2 : jrv (jup ρ ws.length q) (.ref ws.length) = .ref q := by show Value.ref (jup ρ ws.length q ws.length) = _; rw [jup_at]
  rw [e2] at this
  exact W.widen (Nat.le_refl _) (Nat.add_le_add_left hxB n) this
theorem j_wid {k2 n2 : Nat} (hk : k ≤ k2) (hn : n ≤ n2) (kk : JG md cc nL own Ts ret nm d mc ms n0 out pc lv st ws k2 n2) : JG md cc nL own Ts ret nm d mc ms n0 out pc lv st ws k n := by
  intro p l e R s m args below meth c G A ρ0 ρ H locs ls hC hR hl
  exact W.widen hk hn (kk p l e R s m args below meth c G A ρ0 ρ H locs ls hC hR hl)
theorem j_sld {b L : Nat} {xs : Nat → Int32} {i : Int32} (hmd : md = .inr (some (b, L, xs))) (hd : decode cc pc = .ok (.iaload, 1)) (hi : vp_in i L) (kk : JG md cc nL own Ts ret nm d mc ms n0 out (pc + 1) lv (.int (xs i.toNatClampNeg) :: st) ws k n) : JG md cc nL own Ts ret nm d mc ms n0 out pc lv (.int i :: .ref 1000000 :: st) ws k n := by
  intro p l e R s m args below meth c G A ρ0 ρ H locs ls hC hR hl
  have C := hC
  obtain ⟨⟨hx, hb, hml, hown, hts⟩, hr, hlocks, hname, hK, hN, hA, ⟨hRf, hRc, hRs, hRl⟩, hthr, hlaw⟩ := hC
  obtain ⟨hP, hD, hS, hρ, hle, heq⟩ := id hR
  obtain ⟨-, -, -, hsc⟩ := hlaw _ hmd
  obtain ⟨hX, hbl, hbA, hb0⟩ := hsc _ rfl
  have hw := va_sld hx hb hX hbl hbA hS hi hd (kk p l e R s m args below meth c G A ρ0 ρ H locs ls C hR hl)
  have e1 : (Value.int i :: .ref 1000000 :: st).map (jrv ρ) = .int i :: .ref b :: st.map (jrv ρ) := by
    show Value.int i :: .ref (ρ 1000000) :: st.map (jrv ρ) = _
    rw [hρ _ (Or.inr rfl), hb0]
  rw [e1]
  exact hw
theorem j_slen {b L : Nat} {xs : Nat → Int32} (hmd : md = .inr (some (b, L, xs))) (hd : decode cc pc = .ok (.arraylength, 1)) (kk : JG md cc nL own Ts ret nm d mc ms n0 out (pc + 1) lv (.int (Int32.ofNat L) :: st) ws k n) : JG md cc nL own Ts ret nm d mc ms n0 out pc lv (.ref 1000000 :: st) ws k n := by
  intro p l e R s m args below meth c G A ρ0 ρ H locs ls hC hR hl
  have C := hC
  obtain ⟨⟨hx, hb, hml, hown, hts⟩, hr, hlocks, hname, hK, hN, hA, ⟨hRf, hRc, hRs, hRl⟩, hthr, hlaw⟩ := hC
  obtain ⟨hP, hD, hS, hρ, hle, heq⟩ := id hR
  obtain ⟨-, -, -, hsc⟩ := hlaw _ hmd
  obtain ⟨hX, hbl, hbA, hb0⟩ := hsc _ rfl
  have hw := va_slen hx hb hX hbl hbA hS hd (kk p l e R s m args below meth c G A ρ0 ρ H locs ls C hR hl)
  have e1 : (Value.ref 1000000 :: st).map (jrv ρ) = .ref b :: st.map (jrv ρ) := by
    show Value.ref (ρ 1000000) :: st.map (jrv ρ) = _
    rw [hρ _ (Or.inr rfl), hb0]
  rw [e1]
  exact hw
end
section
variable {o0 : Option (Nat × Nat × (Nat → Int32))} {Ts : List Cond} {cc : ByteArray} {nL : Nat} {own : String} {ret : Option FieldType} {nm : String} {d mc ms n0 : Nat} {out : jOut} {pc : Nat} {lv : List (Option Value)} {st : List Value} {ws : LWd} {k n : Nat}
/-- a private method of the law's, called -/
theorem j_callSW {hh : List (Nat × Nat × Nat × Nat)} {y : MethodName} {bs : ByteArray} {mL nA d' mc' ms' k' n' idx : Nat} {ry : Option FieldType} {Ty Ty' : List Cond} {ws1 : LWd} {v : Option Value} {As : List Value} (hd : decode cc pc = .ok (.invokestatic idx, 3)) {o1 : Option (Nat × Nat × (Nat → Int32))} (ho1 : ∀ q, o1 = some q → o0 = some q) (hSp : jSW o1 y Ty d' mc' ms' As ws (.inl v, ws1)) (hG : GoodIn Ts (va_wsS own idx y Ty)) (hTs : Ty = Cond.codeWith y bs mL ry hh :: Ty') (hy : y.cls ≠ "java/lang/invoke/MethodHandle" ∧ y.cls ≠ "java/lang/invoke/VarHandle" ∧ (parseMethodDescriptor y.desc).map (fun d => d.parameters.length) = some nA) (hAs : As.length = nA) (hdd : d' + 1 ≤ d) (hmL : mL + 19 + 40 * d' ≤ 40 * d) (hrm : (st.map fun v => v.category).sum ≤ 8) (hk' : k + mc' ≤ k') (hn' : n + ms' ≤ n') (hkm : k' ≤ mc) (hnm : n' ≤ ms) (hg : ws1.length = ws.length) (kk : JG (.inr o0) cc nL own Ts ret nm d mc ms n0 out (pc + 3) lv (v.toList ++ st) ws1 k' n') : JG (.inr o0) cc nL own Ts ret nm d mc ms n0 out pc lv (As.reverse ++ st) ws k n := by
  intro p l e R s m args below meth c G A ρ0 ρ H locs ls hC hR hl
  have C0 := hC
  obtain ⟨⟨hx, hb, hml, hown, hts⟩, hr, hlocks, hname, hK, hN, hA, ⟨hRf, hRc, hRs, hRl⟩, hthr, hlaw⟩ := hC
  obtain ⟨hP, hD, hS, hρ, hle, heq⟩ := id hR
  obtain ⟨hlt, hXS, hNC, hsc⟩ := hlaw _ rfl
  subst hRc
  subst hRs
  have hcat : ((st.map (jrv ρ)).map fun v => v.category).sum ≤ 8 := by rw [jrv_cats]; exact hrm
  have hA2 : ∀ q, va_A (jph G.2 ρ ws) H.size q → A q := fun q h2 => by
    rcases h2 with ⟨i, e9, h3⟩ | h3
    · exact hD.2 i _ h3
    · exact hA q (Nat.le_trans hS.1 h3)
  have pre : ∀ U : State, U.heap = H → s.WarmedH U.vm → jPW G ρ H.size o1 As ws (As.map (jrv ρ)).toArray U := fun U hU hW => ⟨⟨rfl, by rw [hU], by rw [hU]; exact hP, va_K.moved hW.alike hK, hN.warm hW, hD.weaken (fun _ _ _ _ => trivial), fun _ => jXS_warm hW (fun a h1 h2 => by rw [hU]; exact hS.2.1 a h1 h2) hA2 hXS⟩, hNC.warm hW.alike, fun q hq => by
    obtain ⟨y1, y2, y3, y4⟩ := hsc q (ho1 q hq)
    exact ⟨(va_X.moved hW.alike y1).kept (by rw [hU]; exact hS.2.1 q.1 y2 y3), Nat.lt_of_lt_of_le y2 hS.1, fun h => y3 (hA2 _ h), (hρ _ (Or.inr rfl)).trans y4⟩⟩
  have run := vx_runSW (hh := hh) (As := As.map (jrv ρ)) (rest := st.map (jrv ρ)) (g := F0 m pc ls ((As.reverse ++ st).map (jrv ρ))) (R := R) (e := e) (below := below) (meth := meth) (locs := locs) ⟨hx, hb, hml, hown, hts⟩ (hSp l hlt G ρ H.size) (vx_cwSW nA hts hG hTs rfl rfl hy ⟨Nat.le_trans hdd hRf, by show 8 + (mL + 11) + 40 * d' ≤ R.locals; omega⟩) ⟨jpw_blind, pre⟩ rfl (by rw [List.length_map]; exact hAs) hl.1 (by simp [jrv]) (lv_room hcat) hd ⟨(Nat.le_trans hk' hkm), (Nat.le_trans hn' hnm)⟩
  exact j_after hA hR hl run hk' hn' (Or.inl hg) (fun H1 locs1 ρ1 hR1 hl1 => kk p l e R s m args below meth c G A ρ0 ρ1 H1 locs1 ls C0 hR1 hl1)
/-- a private method of the law's, called -/
theorem j_callSC {y : MethodName} {bs : ByteArray} {mL nA d' mc' ms' k' n' idx : Nat} {ry : Option FieldType} {Ty Ty' : List Cond} {ws1 : LWd} {v : Option Value} {As : List Value} (hd : decode cc pc = .ok (.invokestatic idx, 3)) {o1 : Option (Nat × Nat × (Nat → Int32))} (ho1 : ∀ q, o1 = some q → o0 = some q) (hSp : jSW o1 y Ty d' mc' ms' As ws (.inl v, ws1)) (hG : GoodIn Ts (va_wsS own idx y Ty)) (hTs : Ty = Cond.code y bs mL ry :: Ty') (hy : y.cls ≠ "java/lang/invoke/MethodHandle" ∧ y.cls ≠ "java/lang/invoke/VarHandle" ∧ (parseMethodDescriptor y.desc).map (fun d => d.parameters.length) = some nA) (hAs : As.length = nA) (hdd : d' + 1 ≤ d) (hmL : mL + 19 + 40 * d' ≤ 40 * d) (hrm : (st.map fun v => v.category).sum ≤ 8) (hk' : k + mc' ≤ k') (hn' : n + ms' ≤ n') (hkm : k' ≤ mc) (hnm : n' ≤ ms) (hg : ws1.length = ws.length) (kk : JG (.inr o0) cc nL own Ts ret nm d mc ms n0 out (pc + 3) lv (v.toList ++ st) ws1 k' n') : JG (.inr o0) cc nL own Ts ret nm d mc ms n0 out pc lv (As.reverse ++ st) ws k n := by
  intro p l e R s m args below meth c G A ρ0 ρ H locs ls hC hR hl
  have C0 := hC
  obtain ⟨⟨hx, hb, hml, hown, hts⟩, hr, hlocks, hname, hK, hN, hA, ⟨hRf, hRc, hRs, hRl⟩, hthr, hlaw⟩ := hC
  obtain ⟨hP, hD, hS, hρ, hle, heq⟩ := id hR
  obtain ⟨hlt, hXS, hNC, hsc⟩ := hlaw _ rfl
  subst hRc
  subst hRs
  have hcat : ((st.map (jrv ρ)).map fun v => v.category).sum ≤ 8 := by rw [jrv_cats]; exact hrm
  have hA2 : ∀ q, va_A (jph G.2 ρ ws) H.size q → A q := fun q h2 => by
    rcases h2 with ⟨i, e9, h3⟩ | h3
    · exact hD.2 i _ h3
    · exact hA q (Nat.le_trans hS.1 h3)
  have pre : ∀ U : State, U.heap = H → s.WarmedH U.vm → jPW G ρ H.size o1 As ws (As.map (jrv ρ)).toArray U := fun U hU hW => ⟨⟨rfl, by rw [hU], by rw [hU]; exact hP, va_K.moved hW.alike hK, hN.warm hW, hD.weaken (fun _ _ _ _ => trivial), fun _ => jXS_warm hW (fun a h1 h2 => by rw [hU]; exact hS.2.1 a h1 h2) hA2 hXS⟩, hNC.warm hW.alike, fun q hq => by
    obtain ⟨y1, y2, y3, y4⟩ := hsc q (ho1 q hq)
    exact ⟨(va_X.moved hW.alike y1).kept (by rw [hU]; exact hS.2.1 q.1 y2 y3), Nat.lt_of_lt_of_le y2 hS.1, fun h => y3 (hA2 _ h), (hρ _ (Or.inr rfl)).trans y4⟩⟩
  have run := va_runS (As := As.map (jrv ρ)) (rest := st.map (jrv ρ)) (g := F0 m pc ls ((As.reverse ++ st).map (jrv ρ))) (R := R) (e := e) (below := below) (meth := meth) (locs := locs) ⟨hx, hb, hml, hown, hts⟩ (hSp l hlt G ρ H.size) (va_cwS nA hts hG hTs rfl rfl hy ⟨Nat.le_trans hdd hRf, by show 8 + (mL + 11) + 40 * d' ≤ R.locals; omega⟩) ⟨jpw_blind, pre⟩ rfl (by rw [List.length_map]; exact hAs) hl.1 (by simp [jrv]) (lv_room hcat) hd ⟨(Nat.le_trans hk' hkm), (Nat.le_trans hn' hnm)⟩
  exact j_after hA hR hl run hk' hn' (Or.inl hg) (fun H1 locs1 ρ1 hR1 hl1 => kk p l e R s m args below meth c G A ρ0 ρ1 H1 locs1 ls C0 hR1 hl1)
end
/-- a class method's answer, where it doesn't throw -/
def nthr (x : Option ((Int32 ⊕ String) × LWd)) : Option (Int32 × LWd) := match x with
  | some (.inl v, w) => some (v, w)
  | _ => none
theorem nthr_of {x : Option ((Int32 ⊕ String) × LWd)} {v : Int32} {w : LWd} (h : nthr x = some (v, w)) : x = some (.inl v, w) := by
  unfold nthr at h
  split at h
  · cases h; rfl
  · cases h
theorem jneSL {α : Type} {x : Int64} {t : Option α} {b : α} (h : (if x = 0 then none else t) = some b) : ¬ x = 0 := by
  intro e
  rw [if_pos e] at h
  cases h
