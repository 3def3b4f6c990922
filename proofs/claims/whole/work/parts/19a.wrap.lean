/-! methods that catch: the judgement JH, from here on with the table's rows at hand -/
theorem cst_moved {a b : String} {args args' : Array Value} {s U : State} (hvm : s.vm.Alike U.vm) (h : (Cond.castable a b).before args s = true) : (Cond.castable a b).before args' U = true := by
  simp only [Cond.before, Cond.holds, Cond.value] at h ⊢
  have e1 : U.vm.findClass a = s.vm.findClass a := hvm.findClass ..
  have e2 : U.vm.findClass b = s.vm.findClass b := hvm.findClass ..
  rw [e1, e2]
  cases ha : s.vm.findClass a with
  | none => simp [ha] at h
  | some x =>
    cases hb : s.vm.findClass b with
    | none => simp [ha, hb] at h
    | some y =>
      have e3 : U.vm.assignable x y = s.vm.assignable x y := hvm.assignable ..
      simp [ha, hb] at h
      simp [e3, h]
theorem jcs : ∀ q ∈ jexc, ∀ w ∈ (vx_atS RX10 q.1 q.2 ["java/lang/RuntimeException", "java/lang/Exception"]).filter (fun w => !goodWord w), (w.onTables && w.keepsFace) = true := by decide +kernel
theorem ot_warm {args args' : Array Value} {s U : State} {w : Cond} (hW : s.WarmedH U.vm) (hc : (w.onTables && w.keepsFace) = true) (h : w.before args s = true) : w.before args' U = true := by
  rw [Bool.and_eq_true] at hc
  have h1 : w.before args (s.setVm U.vm) = true := Cond.before_shiftedFace (State.Shifted.of_warmed hW) _ hc.2 h
  rw [Cond.onTables_vm (A' := args') (U' := U) U.vm w hc.1, State.setVm_self] at h1
  exact h1
theorem jXS_warm {A B : Nat → Prop} {s U : State} (hW : s.WarmedH U.vm) (hk : ∀ a : Nat, a < s.heap.size → ¬ A a → U.heap[a]? = s.heap[a]?) (hAB : ∀ q, B q → A q) (h : jXS A s) : jXS B U := by
  obtain ⟨h1, h2, h3, h4⟩ := h
  refine ⟨((vx_Zq.moved hW.alike h1).kept hk).narrow hAB, ((vx_Zq.moved hW.alike h2).kept hk).narrow hAB, fun q hq => (h3 q hq).elim fun sa h => ⟨sa, vk_R.warm hW h⟩, fun q hq w hw => ?_⟩
  exact ot_warm hW (jcs q hq w hw) (h4 q hq w hw)
abbrev jpr : List (String × String) := [("java/lang/IllegalArgumentException", "java/lang/IllegalStateException"), ("java/lang/IllegalArgumentException", "java/lang/IndexOutOfBoundsException"), ("java/lang/IllegalStateException", "java/lang/IllegalArgumentException"), ("java/lang/IllegalStateException", "java/lang/IndexOutOfBoundsException"), ("java/lang/IndexOutOfBoundsException", "java/lang/IllegalArgumentException"), ("java/lang/IndexOutOfBoundsException", "java/lang/IllegalStateException")]
/-- what the catching needs: which classes are not of which -/
def jNC (U : State) : Prop := (∀ q ∈ jpr, va_Nc q.1 q.2 U) ∧ ∀ E ∈ [nIAE, nISE, nIOB], (Cond.castable E E).before #[] U = true
theorem jNC.warm {s U : State} (hvm : s.vm.Alike U.vm) (h : jNC s) : jNC U := ⟨fun q hq => (h.1 q hq).moved hvm, fun E hE => cst_moved hvm (h.2 E hE)⟩
def jPW (G : LGl) (ρ : Nat → Nat) (sz : Nat) (av : List Value) (ws : LWd) : Array Value → State → Prop := fun a U => jPC G ρ sz true av ws a U ∧ jNC U
theorem jpw_blind {G : LGl} {ρ : Nat → Nat} {sz : Nat} {av : List Value} {ws : LWd} : FrameBlind (jPW G ρ sz av ws) := fun a U g mk h => ⟨jpc_blind a U g mk h.1, jNC.warm (s := U) (U := U.calling g mk a) (Vm.Alike.refl U.vm) h.2⟩
def jSW (y : MethodName) (Ts : List Cond) (d mc ms : Nat) (av : List Value) (ws : LWd) (out : jOut) : Prop :=
  ∀ (l : Launch), l.stackTraces = false → ∀ (G : LGl) (ρ : Nat → Nat) (sz : Nat), Met l y Ts (jrm d mc ms) (jPW G ρ sz av ws) (jQC G ρ ws.length (va_A (jph G.2 ρ ws) sz) out) mc ms (va_A (jph G.2 ρ ws) sz)
def jHX (hh : List (Nat × Nat × Nat × Nat)) (l : Launch) (s : State) (c : Code) (A : Nat → Prop) : Prop := l.stackTraces = false ∧ c.exceptionTable.toList = tableOf hh ∧ jXS A s ∧ jNC s
def JH (hh : List (Nat × Nat × Nat × Nat)) (cc : ByteArray) (nL : Nat) (own : String) (Ts : List Cond) (ret : Option FieldType) (nm : String) (d mc ms n0 : Nat) (out : jOut) (pc : Nat) (lv : List (Option Value)) (st : List Value) (ws : LWd) (k n : Nat) : Prop :=
  ∀ (p : Program) (l : Launch) (e : Env) (R : Room) (s : State) (m : MethodId) (args : Array Value) (below : List Frame) (meth : Method) (c : Code) (G : LGl) (A : Nat → Prop) (ρ0 ρ : Nat → Nat) (H : Heap) (locs : List Loc) (ls : Array Slot),
    jHX hh l s c A → jCX (.inl false) cc nL own Ts ret nm d mc ms p l R s m args meth c G A ρ0 → jRW G A s ρ0 ρ n0 H locs ws → jLH ρ ls nL lv →
    W p l e R s m args below meth c H locs k n (MQ below (jQC G ρ0 n0 A out) args s mc ms A) (F0 m pc ls (st.map (jrv ρ)))
theorem mt_ofWH {l : Launch} {y : MethodName} {ws ws' : List Cond} {rm : Room} {Pc : Array Value → State → Prop} {Qc : Array Value → State → Outcome → State → Prop} {mc ms : Nat} {free : Addr → Prop} {cc : ByteArray} {maxL : Nat} {ret : Option FieldType} {hh : List (Nat × Nat × Nat × Nat)}
    (hy : plainName y.cls = true) (hw : ws = Cond.codeWith y cc maxL ret hh :: ws')
    (body : ∀ p e s m args below meth c s₁, BodyLoose p l y (headSpec ws rm) cc maxL ret e s m args below meth c s₁ → c.maxLocals = maxL → Pc args s →
      W p l e (headSpec ws rm).room s m args below meth c s.heap [] 0 0 (MQ below Qc args s mc ms free) (entryFrame m args maxL)) : Met l y ws rm Pc Qc mc ms free := by
  refine MetFree.of_bodyS (code := cc) (maxLocals := maxL) (ret := ret) hy ?_ ?_
  · intro args s m h hn
    obtain ⟨m9, meth, c, hn9, h1, h2, h3, h4, -, h5, h6, -⟩ := Cond.codeWith_spec (atoms_spec (ws := ws) h _ (by rw [hw]; exact List.mem_cons_self))
    cases hn.symm.trans hn9
    exact ⟨meth, c, h1, h2, h3, h4, h5, h6⟩
  · intro p e s m args below meth c s₁ B hml hP _
    have hh0 : s₁.heap = s.heap := by rw [B.state]; rfl
    obtain ⟨t, a1, o, b1, b2, b3⟩ := body p e s m args below meth c s₁ B hml hP s₁ hh0 (Stand.of_body B)
    exact ⟨t, o, a1, b1, b2, ⟨b3.1, b3.2⟩⟩
theorem jh_entry {hh : List (Nat × Nat × Nat × Nat)} {y : MethodName} {cc : ByteArray} {nL : Nat} {own : String} {Ts ws' : List Cond} {ret : Option FieldType} {nm : String} {d mc ms : Nat} {out : jOut} {av : List Value} {ws : LWd}
    (hy : plainName y.cls = true) (hw : Ts = Cond.codeWith y cc nL ret hh :: ws') (hown : y.cls = own) (hnm : y.name = nm) (hav : ∀ v ∈ av, v.category = 1) (hn : av.length ≤ nL)
    (k : JH hh cc nL own Ts ret nm d mc ms ws.length out 0 (av.map some ++ List.replicate (nL - av.length) none) [] ws 0 0) : jSW y Ts d mc ms av ws out := by
  intro l hl G ρ sz
  refine mt_ofWH (cc := cc) (maxL := nL) (ret := ret) (hh := hh) hy hw ?_
  intro p e s m args below meth c s₁ B hml hv
  obtain ⟨⟨rfl, hsz, hP, hK, hN, hD0, hX⟩, hNC⟩ := hv
  subst hsz
  have hown' : s.vm.findClass own = some m.cls := hown ▸ findClass_of_methodNamed B.named
  have hA : ∀ q : Nat, s.heap.size ≤ q → va_A (jph G.2 ρ ws) s.heap.size q := fun q h => Or.inr h
  have hts : ∀ w ∈ Ts, w.before (av.map (jrv ρ)).toArray s = true := atoms_spec (ws := Ts) B.pre
  rw [lg_entry_eq]
  exact k p l e _ s m _ below meth c G _ ρ ρ s.heap [] _ ⟨hl, vx_table (x := y) B (hts _ (by rw [hw]; exact List.mem_cons_self)), hX rfl, hNC⟩ ⟨⟨B.exec, B.bytes, hml, hown', hts⟩, B.returns, B.notSynchronized, (name_of_methodNamed B.named B.method).1.trans hnm, hK, hN, hA, ⟨Nat.le_refl _, rfl, rfl, Nat.le_refl _⟩, (fun h => by cases h), (fun q h => by cases h)⟩ ⟨hP, hD0.self, va_S.rf, fun _ _ => rfl, Nat.le_refl _, fun _ => rfl⟩ (j_ls hav hn)
section
variable {hh : List (Nat × Nat × Nat × Nat)} {cc : ByteArray} {nL : Nat} {own : String} {Ts : List Cond} {ret : Option FieldType} {nm : String} {d mc ms n0 : Nat} {out : jOut} {pc : Nat} {lv : List (Option Value)} {st : List Value} {ws : LWd} {k n : Nat}
theorem jh_aload_n {j : Fin 4} {x : Nat} (hd : decode cc pc = .ok (.aload_n j, 1)) (hx : lv[(j : Nat)]? = some (some (.ref x))) (kk : JH hh cc nL own Ts ret nm d mc ms n0 out (pc + 1) lv (.ref x :: st) ws k n) : JH hh cc nL own Ts ret nm d mc ms n0 out pc lv st ws k n := by
  intro p l e R s m args below meth c G A ρ0 ρ H locs ls hE hC hR hl
  exact lv_aload_n hC.1.1 hC.1.2.1 hd rfl (hl.at hx) (kk p l e R s m args below meth c G A ρ0 ρ H locs ls hE hC hR hl)
theorem jh_aload {j : Nat} {x : Nat} (hd : decode cc pc = .ok (.aload j, 2)) (hx : lv[j]? = some (some (.ref x))) (kk : JH hh cc nL own Ts ret nm d mc ms n0 out (pc + 2) lv (.ref x :: st) ws k n) : JH hh cc nL own Ts ret nm d mc ms n0 out pc lv st ws k n := by
  intro p l e R s m args below meth c G A ρ0 ρ H locs ls hE hC hR hl
  exact lv_aload hC.1.1 hC.1.2.1 hd (hl.at hx) (kk p l e R s m args below meth c G A ρ0 ρ H locs ls hE hC hR hl)
theorem jh_iconst {i : Int} {v : Int32} (hd : decode cc pc = .ok (.iconst i, 1)) (hv : Int32.ofInt i = v) (kk : JH hh cc nL own Ts ret nm d mc ms n0 out (pc + 1) lv (.int v :: st) ws k n) : JH hh cc nL own Ts ret nm d mc ms n0 out pc lv st ws k n := by
  intro p l e R s m args below meth c G A ρ0 ρ H locs ls hE hC hR hl
  exact lv_iconst hC.1.1 hC.1.2.1 hd hv (kk p l e R s m args below meth c G A ρ0 ρ H locs ls hE hC hR hl)
theorem jh_iload_n {j : Fin 4} {x : Int32} (hd : decode cc pc = .ok (.iload_n j, 1)) (hx : lv[(j : Nat)]? = some (some (.int x))) (kk : JH hh cc nL own Ts ret nm d mc ms n0 out (pc + 1) lv (.int x :: st) ws k n) : JH hh cc nL own Ts ret nm d mc ms n0 out pc lv st ws k n := by
  intro p l e R s m args below meth c G A ρ0 ρ H locs ls hE hC hR hl
  exact lv_iload_n hC.1.1 hC.1.2.1 hd rfl (hl.at hx) (kk p l e R s m args below meth c G A ρ0 ρ H locs ls hE hC hR hl)
theorem jh_iload {j : Nat} {x : Int32} (hd : decode cc pc = .ok (.iload j, 2)) (hx : lv[j]? = some (some (.int x))) (kk : JH hh cc nL own Ts ret nm d mc ms n0 out (pc + 2) lv (.int x :: st) ws k n) : JH hh cc nL own Ts ret nm d mc ms n0 out pc lv st ws k n := by
  intro p l e R s m args below meth c G A ρ0 ρ H locs ls hE hC hR hl
  exact lv_iload hC.1.1 hC.1.2.1 hd (hl.at hx) (kk p l e R s m args below meth c G A ρ0 ρ H locs ls hE hC hR hl)
end
