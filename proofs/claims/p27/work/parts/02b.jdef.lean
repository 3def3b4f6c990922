/-! the judgement JG: from here the method comes to the end that 'out' names -/
def R_law : String := "GaitwrightLaw"
def lw_P (b : Addr) (xs : List Int32) (args : Array Value) (s : State) : Prop := args = #[.ref b] ∧ s.IntsAt b xs ∧ xs.length ≤ 260 ∧ (Jvm.Cond.and given_1 narrow_1).before args s = true
def lw_Q (_ : Array Value) (s : State) (o : Outcome) (t : State) : Prop := o = .returned (some (.int 1)) ∧ State.butDraws s t lw_cs (fun t1 => Framed s o t1 [] 600086 7301441)
def lw_Z (below : List Frame) (a : Array Value) (s : State) : State → Prop := fun t => ∃ o, t.status = .running ∧ Ended t below o ∧ lw_Q a s o t
abbrev nIAE : String := "java/lang/IllegalArgumentException"
abbrev nISE : String := "java/lang/IllegalStateException"
abbrev nIOB : String := "java/lang/IndexOutOfBoundsException"
/-- how a walk ends: it returns; it may throw; it is the law's own, with what catching needs, and with the script or without -/
abbrev jMd : Type := Bool ⊕ Option (Nat × Nat × (Nat → Int32))
theorem cst_moved {a b : String} {args args' : Array Value} {s U : State} (hvm : s.vm.Alike U.vm) (h : (Cond.castable a b).before args s = true) : (Cond.castable a b).before args' U = true := by
  simp only [Cond.before, Cond.holds, Cond.value] at h ⊢
  have e1 : U.vm.findClass a = s.vm.findClass a := hvm.findClass ..
  have e2 : U.vm.findClass b = s.vm.findClass b := hvm.findClass ..
  rw [e1, e2]
  cases ha : s.vm.findClass a with
  | none => simp [ha] at h
  | some x =>
    cases hb : s.vm.findClass b with
    | none => simp [ha, hb] at h
    | some y =>
      have e3 : U.vm.assignable x y = s.vm.assignable x y := hvm.assignable ..
      simp [ha, hb] at h
      simp [e3, h]
abbrev jpr : List (String × String) := [("java/lang/IllegalArgumentException", "java/lang/IllegalStateException"), ("java/lang/IllegalArgumentException", "java/lang/IndexOutOfBoundsException"), ("java/lang/IllegalStateException", "java/lang/IllegalArgumentException"), ("java/lang/IllegalStateException", "java/lang/IndexOutOfBoundsException"), ("java/lang/IndexOutOfBoundsException", "java/lang/IllegalArgumentException"), ("java/lang/IndexOutOfBoundsException", "java/lang/IllegalStateException")]
/-- what the catching needs: which classes are not of which -/
def jNC (U : State) : Prop := (∀ q ∈ jpr, va_Nc q.1 q.2 U) ∧ ∀ E ∈ [nIAE, nISE, nIOB], (Cond.castable E E).before #[] U = true
theorem jNC.warm {s U : State} (hvm : s.vm.Alike U.vm) (h : jNC s) : jNC U := ⟨fun q hq => (h.1 q hq).moved hvm, fun E hE => cst_moved hvm (h.2 E hE)⟩
abbrev jNest : List (String × Nat × MethodName) := [
  (RX4, 55, yX10_isWithin), (RX5, 49, yX10_xOf), (RX5, 52, yX10_yOf), (RX5, 55, yX10_pointAt), (RX6, 31, yX10_xOf), (RX6, 37, yX10_yOf),
  (RX7, 35, yX10_xOf), (RX7, 47, yX10_yOf), (RX9, 55, yX10_xOf), (RX9, 60, yX10_yOf), (RX9, 89, yX10_roundedUp), (RX9, 138, yX10_pointAt),
  (RX10, 11, yX4_init), (RX10, 14, yX5_init), (RX10, 21, yX2_init), (RX10, 40, yX6_init), (RX10, 47, yX0_init), (RX10, 54, yX1_init), (RX10, 61, yX3_init)]
def jKN (U : State) : Prop := (∀ q ∈ jNest, va_Nw (.methodLinkNest q.1 q.2.1 q.2.2 "Gaitwright") U) ∧ va_AO RX9 U
theorem jKN.warm {s U : State} (hW : s.WarmedH U.vm) (h : jKN s) : jKN U := ⟨fun q hq => va_Nw.warmM hW (h.1 q hq), va_AO.moved hW.alike h.2⟩
abbrev jty (dT : Nat → ClassId) : List (ClassId × FieldType) := [(dT 0, .int), (dT 1, .object RX9), (dT 2, .long)]
abbrev jstr : List (Nat × String) := [(91, "no such point, or no such ground"), (102, "a foot is down there"), (125, "no such point, or no such height"), (134, "no such hip, or no such reach"), (139, "no leg can be added"), (145, "no such energy"), (157, "no such leg"), (160, "no such way"), (165, "no phase can be added"), (174, "no such load, or no such place for it"), (179, "refused"), (195, "no such point"), (203, "no such number of phases"), (205, "no phases"), (233, "no such thing to tell"), (279, "no such corner"), (319, "no such fall")]
abbrev jexc : List (Nat × String) := [(93, "java/lang/IllegalArgumentException"), (104, "java/lang/IllegalStateException"), (159, "java/lang/IndexOutOfBoundsException")]
/-- what a throw needs of the start: the two statics, the texts, the words that no list holds -/
def jXS (A : Nat → Prop) (U : State) : Prop := vx_Zq Bundle.tN "UNASSIGNED_STACK" Bundle.steD A U U.heap ∧ vx_Zq Bundle.tN "SUPPRESSED_SENTINEL" Bundle.listD A U U.heap ∧ (∀ q ∈ jstr, ∃ sa, vk_R RX10 q.1 q.2 sa U) ∧ ∀ q ∈ jexc, ∀ w ∈ (vx_atS RX10 q.1 q.2 ["java/lang/RuntimeException", "java/lang/Exception"]).filter (fun w => !goodWord w), w.before #[] U = true
abbrev jOut : Type := (Option Value ⊕ String) × LWd
def jrm (d mc ms : Nat) : Room := { frames := d, cells := mc, slots := ms, locals := 40 * d }
def jPC (G : LGl) (ρ : Nat → Nat) (sz : Nat) (thr : Bool) (av : List Value) (ws : LWd) : Array Value → State → Prop :=
  va_Pc (av.map (jrv ρ)) (fun U => U.heap.size = sz ∧ va_P G.1 vwCl (jph G.2 ρ ws) U.heap ∧ va_K G.1 vwCl (jty G.2) U ∧ jKN U ∧ va_D (fun _ => True) (jph G.2 ρ ws) ∧ (thr = true → jXS (va_A (jph G.2 ρ ws) sz) U))
def jQC (G : LGl) (ρ0 : Nat → Nat) (n0 : Nat) (A : Nat → Prop) (out : jOut) : Array Value → State → Outcome → State → Prop := fun _ st o t =>
  (∃ (v : Option Value) (ρ : Nat → Nat), out.1 = .inl v ∧ o = .returned (v.map (jrv ρ)) ∧ (∀ i, (i < n0 ∨ i = 1000000) → ρ i = ρ0 i) ∧ (out.2.length = n0 → ρ = ρ0) ∧ va_P G.1 vwCl (jph G.2 ρ out.2) t.heap ∧ va_D A (jph G.2 ρ out.2)) ∧ va_F A st t
def jXC (G : LGl) (ρ0 : Nat → Nat) (n0 : Nat) (A : Nat → Prop) (out : jOut) : String → State → State → Prop :=
  vx_X (fun (_ : Unit) => True) (fun E _ t => out.1 = .inr E ∧ va_P G.1 vwCl (jph G.2 ρ0 out.2) t.heap ∧ va_D A (jph G.2 ρ0 out.2) ∧ out.2.length = n0) A
/-- a contract: of a method that returns -/
def jSp (y : MethodName) (Ts : List Cond) (d mc ms : Nat) (av : List Value) (ws : LWd) (out : jOut) : Prop :=
  ∀ (l : Launch) (G : LGl) (ρ : Nat → Nat) (sz : Nat), Met l y Ts (jrm d mc ms) (jPC G ρ sz false av ws) (jQC G ρ ws.length (va_A (jph G.2 ρ ws) sz) out) mc ms (va_A (jph G.2 ρ ws) sz)
/-- .. that may throw -/
def jSX (y : MethodName) (Ts : List Cond) (d mc ms : Nat) (av : List Value) (ws : LWd) (out : jOut) : Prop :=
  ∀ (l : Launch), l.stackTraces = false → ∀ (G : LGl) (ρ : Nat → Nat) (sz : Nat), vx_Met l y Ts (jrm d mc ms) (jPC G ρ sz true av ws) (jQC G ρ ws.length (va_A (jph G.2 ρ ws) sz) out) (jXC G ρ ws.length (va_A (jph G.2 ρ ws) sz) out) mc ms (va_A (jph G.2 ρ ws) sz)
def jCX (md : jMd) (cc : ByteArray) (nL : Nat) (own : String) (Ts : List Cond) (ret : Option FieldType) (nm : String) (d mc ms : Nat) (p : Program) (l : Launch) (R : Room) (s : State) (m : MethodId) (args : Array Value) (meth : Method) (c : Code) (G : LGl) (A : Nat → Prop) (ρ0 : Nat → Nat) : Prop :=
  CallFix p m c cc nL s args Ts own ∧ meth.sig.returnType = ret ∧ meth.locks = false ∧ meth.name = nm ∧ va_K G.1 vwCl (jty G.2) s ∧ jKN s ∧ (∀ q, s.heap.size ≤ q → A q) ∧ (d ≤ R.frames ∧ R.cells = mc ∧ R.slots = ms ∧ 40 * d ≤ R.locals) ∧ (md = .inl true → l.stackTraces = false ∧ (∀ x ∈ c.exceptionTable.toList, False) ∧ jXS A s) ∧ ∀ o, md = .inr o → l.stackTraces = false ∧ jXS A s ∧ jNC s ∧ ∀ q, o = some q → va_X q.1 q.2.1 q.2.2 s s.heap ∧ q.1 < s.heap.size ∧ ¬ A q.1 ∧ ρ0 1000000 = q.1
def jRW (G : LGl) (A : Nat → Prop) (s : State) (ρ0 ρ : Nat → Nat) (n0 : Nat) (H : Heap) (locs : List Loc) (ws : LWd) : Prop :=
  va_P G.1 vwCl (jph G.2 ρ ws) H ∧ va_D A (jph G.2 ρ ws) ∧ va_S A s.heap H locs ∧ (∀ i, (i < n0 ∨ i = 1000000) → ρ i = ρ0 i) ∧ n0 ≤ ws.length ∧ (ws.length = n0 → ρ = ρ0)
def jfQ (md : jMd) (below : List Frame) (Qc : Array Value → State → Outcome → State → Prop) (XC : String → State → State → Prop) (a : Array Value) (s : State) (mc ms : Nat) (free : Addr → Prop) : State → Prop := match md with
  | .inl true => vx_MQ below Qc XC a s mc ms free
  | .inl false => MQ below Qc a s mc ms free
  | .inr _ => MQ below Qc a s mc ms free
def JG (md : jMd) (cc : ByteArray) (nL : Nat) (own : String) (Ts : List Cond) (ret : Option FieldType) (nm : String) (d mc ms n0 : Nat) (out : jOut) (pc : Nat) (lv : List (Option Value)) (st : List Value) (ws : LWd) (k n : Nat) : Prop :=
  ∀ (p : Program) (l : Launch) (e : Env) (R : Room) (s : State) (m : MethodId) (args : Array Value) (below : List Frame) (meth : Method) (c : Code) (G : LGl) (A : Nat → Prop) (ρ0 ρ : Nat → Nat) (H : Heap) (locs : List Loc) (ls : Array Slot),
    jCX md cc nL own Ts ret nm d mc ms p l R s m args meth c G A ρ0 → jRW G A s ρ0 ρ n0 H locs ws → jLH ρ ls nL lv →
    W p l e R s m args below meth c H locs k n (jfQ md below (jQC G ρ0 n0 A out) (jXC G ρ0 n0 A out) args s mc ms A) (F0 m pc ls (st.map (jrv ρ)))
theorem jot : ∀ q ∈ jexc, ∀ w ∈ (vx_atS RX10 q.1 q.2 ["java/lang/RuntimeException", "java/lang/Exception"]).filter (fun w => !goodWord w), vx_ot w = true := by decide +kernel
theorem jpc_blind {G : LGl} {ρ : Nat → Nat} {sz : Nat} {thr : Bool} {av : List Value} {ws : LWd} : FrameBlind (jPC G ρ sz thr av ws) := by
  intro a U g mk h
  obtain ⟨h0, h1, h2, h3, h4, h5, h6⟩ := h
  have e : (U.calling g mk a).vm = U.vm := rfl
  have hh : (U.calling g mk a).heap = U.heap := rfl
  refine ⟨h0, h1, h2, va_K.moved (u := U) (U := U.calling g mk a) (Vm.Alike.refl U.vm) h3, ⟨fun q hq => va_Nw.same rfl e.symm (h4.1 q hq), va_AO.moved (u := U) (Vm.Alike.refl U.vm) h4.2⟩, h5, fun ht => ?_⟩
  obtain ⟨x1, x2, x3, x4⟩ := h6 ht
  exact ⟨vx_Zq.moved (u := U) (Vm.Alike.refl U.vm) x1, vx_Zq.moved (u := U) (Vm.Alike.refl U.vm) x2, fun q hq => (x3 q hq).elim fun sa h => ⟨sa, vk_R.same e h⟩, fun q hq w hw => vx_ot_at (State.WarmedH.refl U) e.symm (jot q hq w hw) (x4 q hq w hw)⟩
/-- the entry -/
theorem j_args {ρ : Nat → Nat} : ∀ (av : List Value) (i : Nat), (∀ v ∈ av, v.category = 1) → lv_args i (av.map (jrv ρ)) = jlA ρ i (av.map some)
  | [], i, h => rfl
  | v :: av, i, h => by
    have hc : v.category = 1 := h v List.mem_cons_self
    have hr : (jrv ρ v).category = 1 := by rw [jrv_cat]; exact hc
    show (i, jrv ρ v) :: lv_args (if (jrv ρ v).category = 2 then i + 2 else i + 1) (av.map (jrv ρ)) = _
    rw [if_neg (by rw [hr]; decide), j_args av (i + 1) (fun w hw => h w (List.mem_cons_of_mem _ hw))]
    rfl
theorem j_pad {ρ : Nat → Nat} : ∀ (l : List (Option Value)) (i m : Nat), jlA ρ i (l ++ List.replicate m none) = jlA ρ i l
  | [], i, 0 => rfl
  | [], i, m + 1 => j_pad [] (i + 1) m
  | none :: l, i, m => j_pad l (i + 1) m
  | some v :: l, i, m => congrArg (List.cons (i, jrv ρ v)) (j_pad l (i + 1) m)
theorem j_sl {ρ : Nat → Nat} : ∀ (av : List Value), (∀ v ∈ av, v.category = 1) → (lg_sl (av.map (jrv ρ))).length = av.length
  | [], h => rfl
  | v :: av, h => by
    have hr : (jrv ρ v).category = 1 := by rw [jrv_cat]; exact h v List.mem_cons_self
    have ih := j_sl (ρ := ρ) av (fun w hw => h w (List.mem_cons_of_mem _ hw))
    unfold lg_sl at ih ⊢
    rw [List.map_cons, List.flatMap_cons, List.length_append, ih, if_neg (by rw [hr]; decide)]
    simp [Nat.add_comm]
theorem j_ls {ρ : Nat → Nat} {nL : Nat} {av : List Value} (hav : ∀ v ∈ av, v.category = 1) (hn : av.length ≤ nL) :
    jLH ρ ((lg_sl (av.map (jrv ρ)) ++ List.replicate (nL - (lg_sl (av.map (jrv ρ))).length) Slot.unset).toArray) nL (av.map some ++ List.replicate (nL - av.length) none) := by
  have h := lv_entry (av.map (jrv ρ)) (n := nL) (by rw [j_sl av hav]; exact hn)
  unfold jLH
  rw [j_pad, ← j_args av 0 hav]
  exact h
theorem j_entry {y : MethodName} {cc : ByteArray} {nL : Nat} {own : String} {Ts ws' : List Cond} {ret : Option FieldType} {nm : String} {d mc ms : Nat} {out : jOut} {av : List Value} {ws : LWd}
    (hy : plainName y.cls = true) (hw : Ts = Cond.code y cc nL ret :: ws') (hown : y.cls = own) (hnm : y.name = nm) (hav : ∀ v ∈ av, v.category = 1) (hn : av.length ≤ nL)
    (k : JG (.inl false) cc nL own Ts ret nm d mc ms ws.length out 0 (av.map some ++ List.replicate (nL - av.length) none) [] ws 0 0) : jSp y Ts d mc ms av ws out := by
  intro l G ρ sz
  refine Met.ofW (cc := cc) (maxL := nL) (ret := ret) hy hw ?_
  intro p e s m args below meth c s₁ B hml hv
  obtain ⟨rfl, hsz, hP, hK, hN, hD0, -⟩ := hv
  subst hsz
  have hown' : s.vm.findClass own = some m.cls := hown ▸ findClass_of_methodNamed B.named
  have hA : ∀ q : Nat, s.heap.size ≤ q → va_A (jph G.2 ρ ws) s.heap.size q := fun q h => Or.inr h
  rw [lg_entry_eq]
  exact k p l e _ s m _ below meth c G _ ρ ρ s.heap [] _ ⟨⟨B.exec, B.bytes, hml, hown', atoms_spec (ws := Ts) B.pre⟩, B.returns, B.notSynchronized, (name_of_methodNamed B.named B.method).1.trans hnm, hK, hN, hA, ⟨Nat.le_refl _, rfl, rfl, Nat.le_refl _⟩, (fun h => by cases h), (fun q h => by cases h)⟩ ⟨hP, hD0.self, va_S.rf, fun _ _ => rfl, Nat.le_refl _, fun _ => rfl⟩ (j_ls hav hn)
theorem j_entryX {y : MethodName} {cc : ByteArray} {nL : Nat} {own : String} {Ts ws' : List Cond} {ret : Option FieldType} {nm : String} {d mc ms : Nat} {out : jOut} {av : List Value} {ws : LWd}
    (hy : plainName y.cls = true) (hw : Ts = Cond.code y cc nL ret :: ws') (hown : y.cls = own) (hnm : y.name = nm) (hav : ∀ v ∈ av, v.category = 1) (hn : av.length ≤ nL)
    (k : JG (.inl true) cc nL own Ts ret nm d mc ms ws.length out 0 (av.map some ++ List.replicate (nL - av.length) none) [] ws 0 0) : jSX y Ts d mc ms av ws out := by
  intro l hl G ρ sz
  refine vx_ofW (cc := cc) (maxL := nL) (ret := ret) hy hw ?_
  intro p e s m args below meth c s₁ B hml hext hv
  obtain ⟨rfl, hsz, hP, hK, hN, hD0, hX⟩ := hv
  subst hsz
  have hown' : s.vm.findClass own = some m.cls := hown ▸ findClass_of_methodNamed B.named
  have hA : ∀ q : Nat, s.heap.size ≤ q → va_A (jph G.2 ρ ws) s.heap.size q := fun q h => Or.inr h
  rw [lg_entry_eq]
  exact k p l e _ s m _ below meth c G _ ρ ρ s.heap [] _ ⟨⟨B.exec, B.bytes, hml, hown', atoms_spec (ws := Ts) B.pre⟩, B.returns, B.notSynchronized, (name_of_methodNamed B.named B.method).1.trans hnm, hK, hN, hA, ⟨Nat.le_refl _, rfl, rfl, Nat.le_refl _⟩, (fun _ => ⟨hl, hext, hX rfl⟩), (fun q h => by cases h)⟩ ⟨hP, hD0.self, va_S.rf, fun _ _ => rfl, Nat.le_refl _, fun _ => rfl⟩ (j_ls hav hn)
theorem j_argsL {ρ : Nat → Nat} : ∀ (av : List Value) (i : Nat), lv_args i (av.map (jrv ρ)) = jlA ρ i (jexp av)
  | [], i => rfl
  | v :: av, i => by
    have hr := jrv_cat ρ v
    show (i, jrv ρ v) :: lv_args (if (jrv ρ v).category = 2 then i + 2 else i + 1) (av.map (jrv ρ)) = _
    rw [hr]
    unfold jexp
    by_cases c : v.category = 2
    · rw [if_pos c, if_pos c, j_argsL av (i + 2)]; rfl
    · rw [if_neg c, if_neg c, j_argsL av (i + 1)]; rfl
theorem j_slL {ρ : Nat → Nat} : ∀ (av : List Value), (lg_sl (av.map (jrv ρ))).length = (jexp av).length
  | [] => rfl
  | v :: av => by
    have hr := jrv_cat ρ v
    have ih := j_slL (ρ := ρ) av
    unfold lg_sl at ih ⊢
    unfold jexp
    rw [List.map_cons, List.flatMap_cons, List.length_append, ih, hr]
    by_cases c : v.category = 2
    · rw [if_pos c, if_pos c]; simp only [List.length_cons, List.length_nil]; omega
    · rw [if_neg c, if_neg c]; simp only [List.length_cons, List.length_nil]; omega
theorem j_lsL {ρ : Nat → Nat} {nL : Nat} {av : List Value} {lv : List (Option Value)} (hn : (jexp av).length ≤ nL) (hlv : jexp av ++ List.replicate (nL - (jexp av).length) none = lv) :
    jLH ρ ((lg_sl (av.map (jrv ρ)) ++ List.replicate (nL - (lg_sl (av.map (jrv ρ))).length) Slot.unset).toArray) nL lv := by
  subst hlv
  have h := lv_entry (av.map (jrv ρ)) (n := nL) (by rw [j_slL av]; exact hn)
  unfold jLH
  rw [j_pad, ← j_argsL av 0]
  exact h
theorem j_entryL {y : MethodName} {cc : ByteArray} {nL : Nat} {own : String} {Ts ws' : List Cond} {ret : Option FieldType} {nm : String} {d mc ms : Nat} {out : jOut} {av : List Value} {ws : LWd} {lv : List (Option Value)}
    (hy : plainName y.cls = true) (hw : Ts = Cond.code y cc nL ret :: ws') (hown : y.cls = own) (hnm : y.name = nm) (hn : (jexp av).length ≤ nL) (hlv : jexp av ++ List.replicate (nL - (jexp av).length) none = lv)
    (k : JG (.inl false) cc nL own Ts ret nm d mc ms ws.length out 0 lv [] ws 0 0) : jSp y Ts d mc ms av ws out := by
  intro l G ρ sz
  refine Met.ofW (cc := cc) (maxL := nL) (ret := ret) hy hw ?_
  intro p e s m args below meth c s₁ B hml hv
  obtain ⟨rfl, hsz, hP, hK, hN, hD0, -⟩ := hv
  subst hsz
  have hown' : s.vm.findClass own = some m.cls := hown ▸ findClass_of_methodNamed B.named
  have hA : ∀ q : Nat, s.heap.size ≤ q → va_A (jph G.2 ρ ws) s.heap.size q := fun q h => Or.inr h
  rw [lg_entry_eq]
  exact k p l e _ s m _ below meth c G _ ρ ρ s.heap [] _ ⟨⟨B.exec, B.bytes, hml, hown', atoms_spec (ws := Ts) B.pre⟩, B.returns, B.notSynchronized, (name_of_methodNamed B.named B.method).1.trans hnm, hK, hN, hA, ⟨Nat.le_refl _, rfl, rfl, Nat.le_refl _⟩, (fun h => by cases h), (fun q h => by cases h)⟩ ⟨hP, hD0.self, va_S.rf, fun _ _ => rfl, Nat.le_refl _, fun _ => rfl⟩ (j_lsL hn hlv)
/-- the law's own methods: with what catching needs, and the script where it is asked for -/
def jPW (G : LGl) (ρ : Nat → Nat) (sz : Nat) (o : Option (Nat × Nat × (Nat → Int32))) (av : List Value) (ws : LWd) : Array Value → State → Prop := fun a U => jPC G ρ sz true av ws a U ∧ jNC U ∧ ∀ q, o = some q → va_X q.1 q.2.1 q.2.2 U U.heap ∧ q.1 < sz ∧ ¬ va_A (jph G.2 ρ ws) sz q.1 ∧ ρ 1000000 = q.1
theorem jpw_blind {G : LGl} {ρ : Nat → Nat} {sz : Nat} {o : Option (Nat × Nat × (Nat → Int32))} {av : List Value} {ws : LWd} : FrameBlind (jPW G ρ sz o av ws) := fun a U g mk h => ⟨jpc_blind a U g mk h.1, jNC.warm (s := U) (U := U.calling g mk a) (Vm.Alike.refl U.vm) h.2.1, fun q hq => ⟨va_X.moved (u := U) (U := U.calling g mk a) (Vm.Alike.refl U.vm) (h.2.2 q hq).1, (h.2.2 q hq).2⟩⟩
def jSW (o : Option (Nat × Nat × (Nat → Int32))) (y : MethodName) (Ts : List Cond) (d mc ms : Nat) (av : List Value) (ws : LWd) (out : jOut) : Prop :=
  ∀ (l : Launch), l.stackTraces = false → ∀ (G : LGl) (ρ : Nat → Nat) (sz : Nat), Met l y Ts (jrm d mc ms) (jPW G ρ sz o av ws) (jQC G ρ ws.length (va_A (jph G.2 ρ ws) sz) out) mc ms (va_A (jph G.2 ρ ws) sz)
theorem j_entryW {o : Option (Nat × Nat × (Nat → Int32))} {y : MethodName} {cc : ByteArray} {nL : Nat} {own : String} {Ts ws' : List Cond} {ret : Option FieldType} {nm : String} {d mc ms : Nat} {out : jOut} {av : List Value} {ws : LWd}
    (hy : plainName y.cls = true) (hw : Ts = Cond.code y cc nL ret :: ws') (hown : y.cls = own) (hnm : y.name = nm) (hav : ∀ v ∈ av, v.category = 1) (hn : av.length ≤ nL)
    (k : JG (.inr o) cc nL own Ts ret nm d mc ms ws.length out 0 (av.map some ++ List.replicate (nL - av.length) none) [] ws 0 0) : jSW o y Ts d mc ms av ws out := by
  intro l hlt G ρ sz
  refine Met.ofW (cc := cc) (maxL := nL) (ret := ret) hy hw ?_
  intro p e s m args below meth c s₁ B hml hv
  obtain ⟨⟨rfl, hsz, hP, hK, hN, hD0, hX⟩, hNC, hsc⟩ := hv
  subst hsz
  have hown' : s.vm.findClass own = some m.cls := hown ▸ findClass_of_methodNamed B.named
  have hA : ∀ q : Nat, s.heap.size ≤ q → va_A (jph G.2 ρ ws) s.heap.size q := fun q h => Or.inr h
  rw [lg_entry_eq]
  exact k p l e _ s m _ below meth c G _ ρ ρ s.heap [] _ ⟨⟨B.exec, B.bytes, hml, hown', atoms_spec (ws := Ts) B.pre⟩, B.returns, B.notSynchronized, (name_of_methodNamed B.named B.method).1.trans hnm, hK, hN, hA, ⟨Nat.le_refl _, rfl, rfl, Nat.le_refl _⟩, (fun h => by cases h), (fun o' h => by cases h; exact ⟨hlt, hX rfl, hNC, hsc⟩)⟩ ⟨hP, hD0.self, va_S.rf, fun _ _ => rfl, Nat.le_refl _, fun _ => rfl⟩ (j_ls hav hn)
