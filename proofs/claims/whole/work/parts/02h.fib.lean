/-! Float.floatToIntBits of what is no NaN -/
theorem dec_nn {x : UInt32} (h : x &&& 0x7fffffff ≤ 0x7f800000) : FP.Core.decode FP.Core.b32 x.toNat ≠ .nan := by
  rw [UInt32.le_iff_toNat_le, UInt32.toNat_and, show (0x7fffffff : UInt32).toNat = 2 ^ 31 - 1 from rfl, Nat.and_two_pow_sub_one_eq_mod, show (0x7f800000 : UInt32).toNat = 2139095040 from rfl] at h
  unfold FP.Core.decode
  by_cases c : FP.Core.fieldE FP.Core.b32 x.toNat = FP.Core.b32.exps - 1
  · have c1 : x.toNat / 8388608 % 256 = 255 := c
    rw [if_pos c, if_pos (show FP.Core.fieldT FP.Core.b32 x.toNat = 0 from (show x.toNat % 8388608 = 0 by omega))]
    intro e
    cases e
  · rw [if_neg c]
    split <;> (intro e; cases e)
theorem fcmp_self {x : UInt32} (h : x &&& 0x7fffffff ≤ 0x7f800000) : Op.cmpValue (FP.fcmp x x) .l = 0 := by
  have hn := dec_nn h
  show Op.cmpValue (FP.Core.order (FP.Core.decode FP.Core.b32 x.toNat) (FP.Core.decode FP.Core.b32 x.toNat)) .l = 0
  generalize FP.Core.decode FP.Core.b32 x.toNat = dd at hn
  cases dd with
  | nan => exact absurd rfl hn
  | inf s => cases s <;> decide
  | fin s c q =>
    unfold FP.Core.order
    dsimp only
    rw [Int.compare_eq_eq.mpr rfl]
    rfl
theorem mt_ofF {l : Launch} {y : MethodName} {ws ws' : List Cond} {rm : Room} {Pc : Array Value → State → Prop} {Qc : Array Value → State → Outcome → State → Prop} {mc ms : Nat} {free : Addr → Prop} {cc : ByteArray} {maxL : Nat} {ret : Option FieldType}
    (hy : plainFor y = true) (hw : ws = Cond.code y cc maxL ret :: ws')
    (body : ∀ p e s m args below meth c s₁, BodyLoose p l y (headSpec ws rm) cc maxL ret e s m args below meth c s₁ → c.maxLocals = maxL → Pc args s →
      W p l e (headSpec ws rm).room s m args below meth c s.heap [] 0 0 (MQ below Qc args s mc ms free) (entryFrame m args maxL)) : Met l y ws rm Pc Qc mc ms free := by
  refine Free.MetFree.of_bodySF (code := cc) (maxLocals := maxL) (ret := ret) hy ?_ ?_
  · intro args s m h hn
    obtain ⟨meth, c, h1, h2, h3, h4, h5, h6, -, -⟩ := Cond.code_spec hn (atoms_spec (ws := ws) h _ (by rw [hw]; exact List.mem_cons_self))
    exact ⟨meth, c, h1, h2, h3, h4, h5, h6⟩
  · intro p e s m args below meth c s₁ B hml hP _
    have hh0 : s₁.heap = s.heap := by rw [B.state]; rfl
    obtain ⟨t, a1, o, b1, b2, b3⟩ := body p e s m args below meth c s₁ B hml hP s₁ hh0 (Stand.of_body B)
    exact ⟨t, o, a1, b1, b2, ⟨b3.1, b3.2⟩⟩
theorem j_entryF {y : MethodName} {cc : ByteArray} {nL : Nat} {own : String} {Ts ws' : List Cond} {ret : Option FieldType} {nm : String} {d mc ms : Nat} {out : jOut} {av : List Value} {ws : LWd}
    (hy : plainFor y = true) (hw : Ts = Cond.code y cc nL ret :: ws') (hown : y.cls = own) (hnm : y.name = nm) (hav : ∀ v ∈ av, v.category = 1) (hn : av.length ≤ nL)
    (k : JG (.inl false) cc nL own Ts ret nm d mc ms ws.length out 0 (av.map some ++ List.replicate (nL - av.length) none) [] ws 0 0) : jSp y Ts d mc ms av ws out := by
  intro l G ρ sz
  refine mt_ofF (cc := cc) (maxL := nL) (ret := ret) hy hw ?_
  intro p e s m args below meth c s₁ B hml hv
  obtain ⟨rfl, hsz, hP, hK, hN, hD0, -⟩ := hv
  subst hsz
  have hown' : s.vm.findClass own = some m.cls := hown ▸ findClass_of_methodNamed B.named
  have hA : ∀ q : Nat, s.heap.size ≤ q → va_A (jph G.2 ρ ws) s.heap.size q := fun q h => Or.inr h
  rw [lg_entry_eq]
  exact k p l e _ s m _ below meth c G _ ρ ρ s.heap [] _ ⟨⟨B.exec, B.bytes, hml, hown', atoms_spec (ws := Ts) B.pre⟩, B.returns, B.notSynchronized, (name_of_methodNamed B.named B.method).1.trans hnm, hK, hN, hA, ⟨Nat.le_refl _, rfl, rfl, Nat.le_refl _⟩, (fun h => by cases h), (fun q h => by cases h)⟩ ⟨hP, hD0.self, va_S.rf, fun _ _ => rfl, Nat.le_refl _, fun _ => rfl⟩ (j_ls hav hn)
def wsNan : List Cond := [Cond.code yJxf58ca_isNaN_12338 cJxf58ca_isNaN_12338 1 (some .boolean)]
theorem s_nan {x : UInt32} {ws : LWd} (h : x &&& 0x7fffffff ≤ 0x7f800000) : jSp yJxf58ca_isNaN_12338 wsNan 0 0 0 [.float x] ws (.inl (some (.int 0)), ws) := by
  refine j_entryF (ret := (some .boolean)) (nm := "isNaN") (own := RJxf58ca) (by decide +kernel) rfl rfl rfl (jcats (by rfl)) (Nat.le_of_ble_eq_true rfl) ?_
  show JG (.inl false) cJxf58ca_isNaN_12338 1 RJxf58ca wsNan (some .boolean) "isNaN" 0 0 0 ws.length (.inl (some (.int 0)), ws) 0 [some (.float x)] [] ws 0 0
  refine j_fload_n (pc := 0) dJxf58ca_isNaN_12338_0 rfl ?_
  refine j_fload_n (pc := 1) dJxf58ca_isNaN_12338_1 rfl ?_
  refine j_fcmp (pc := 2) dJxf58ca_isNaN_12338_2 ?_
  refine j_if_eq (pc := 3) (tgt := 10) dJxf58ca_isNaN_12338_3 (by decide) (fun _ => ?_) (fun q => absurd (fcmp_self h) q)
  refine j_iconst (pc := 10) dJxf58ca_isNaN_12338_10 (v := 0) (by decide) ?_
  exact j_zretL (pc := 11) (Or.inl rfl) rfl dJxf58ca_isNaN_12338_11 (by decide) (by decide) rfl
abbrev yRaw : MethodName := ⟨"java/lang/Float", "floatToRawIntBits", "(F)I"⟩
def wsFib : List Cond := [Cond.code yJxf58ca_floatToIntBits_5c35a cJxf58ca_floatToIntBits_5c35a 1 (some .int), Cond.methodLink RJxf58ca 59 yJxf58ca_isNaN_12338, Cond.static yJxf58ca_isNaN_12338, Cond.initialized RJxf58ca, Cond.code yJxf58ca_isNaN_12338 cJxf58ca_isNaN_12338 1 (some .boolean), Cond.methodLink RJxf58ca 74 yRaw, Cond.native yRaw, Cond.static yRaw]
theorem s_fib {x : UInt32} {ws : LWd} (h : x &&& 0x7fffffff ≤ 0x7f800000) : jSp yJxf58ca_floatToIntBits_5c35a wsFib 1 0 0 [.float x] ws (.inl (some (.int x.toInt32)), ws) := by
  refine j_entryF (ret := (some .int)) (nm := "floatToIntBits") (own := RJxf58ca) (by decide +kernel) rfl rfl rfl (jcats (by rfl)) (Nat.le_of_ble_eq_true rfl) ?_
  show JG (.inl false) cJxf58ca_floatToIntBits_5c35a 1 RJxf58ca wsFib (some .int) "floatToIntBits" 1 0 0 ws.length (.inl (some (.int x.toInt32)), ws) 0 [some (.float x)] [] ws 0 0
  refine j_fload_n (pc := 0) dJxf58ca_floatToIntBits_5c35a_0 rfl ?_
  refine j_callS_g (pc := 1) (As := [.float x]) (k' := 0) (n' := 0) dJxf58ca_floatToIntBits_5c35a_1 (s_nan h) (goodIn_of _ (by decide +kernel)) rfl (nA := 1) ⟨by decide +kernel, by decide +kernel, by decide +kernel⟩ rfl (by decide) (by decide) (by decide) (by decide) (by decide) (by decide) (by decide) (Or.inl rfl) ?_
  refine j_if_ne (pc := 4) (tgt := 12) dJxf58ca_floatToIntBits_5c35a_4 (by decide) (fun q => absurd rfl q) (fun _ => ?_)
  refine j_fload_n (pc := 7) dJxf58ca_floatToIntBits_5c35a_7 rfl ?_
  refine j_raw (pc := 8) dJxf58ca_floatToIntBits_5c35a_8 (List.mem_of_getElem? (i := 5) rfl) (List.mem_of_getElem? (i := 6) rfl) (List.mem_of_getElem? (i := 7) rfl) (List.mem_of_getElem? (i := 3) rfl) (by decide) (by decide) ?_
  exact j_iret (pc := 11) rfl dJxf58ca_floatToIntBits_5c35a_11 (by decide) (by decide) rfl
section
variable {md : jMd} {cc : ByteArray} {nL : Nat} {own : String} {Ts : List Cond} {ret : Option FieldType} {nm : String} {d mc ms n0 : Nat} {out : jOut} {pc : Nat} {lv : List (Option Value)} {st : List Value} {ws : LWd} {k n : Nat}
theorem j_fib {idx : Nat} {x : UInt32} {v : Int32} (hd : decode cc pc = .ok (.invokestatic idx, 3)) (h1 : Cond.methodLink own idx yJxf58ca_floatToIntBits_5c35a ∈ Ts) (h2 : Cond.static yJxf58ca_floatToIntBits_5c35a ∈ Ts) (h3 : Cond.initialized RJxf58ca ∈ Ts) (h4 : Cond.code yJxf58ca_floatToIntBits_5c35a cJxf58ca_floatToIntBits_5c35a 1 (some .int) ∈ Ts) (h5 : Cond.methodLink RJxf58ca 59 yJxf58ca_isNaN_12338 ∈ Ts) (h6 : Cond.static yJxf58ca_isNaN_12338 ∈ Ts) (h7 : Cond.code yJxf58ca_isNaN_12338 cJxf58ca_isNaN_12338 1 (some .boolean) ∈ Ts) (h8 : Cond.methodLink RJxf58ca 74 ⟨"java/lang/Float", "floatToRawIntBits", "(F)I"⟩ ∈ Ts) (h9 : Cond.native ⟨"java/lang/Float", "floatToRawIntBits", "(F)I"⟩ ∈ Ts) (h10 : Cond.static ⟨"java/lang/Float", "floatToRawIntBits", "(F)I"⟩ ∈ Ts) (h11 : Cond.constant RJxf58ca 77 (2143289344) ∈ Ts) (hd1 : 4 ≤ d) (hst : (st.map fun v => v.category).sum ≤ 8) (hkc : k ≤ mc) (hks : n ≤ ms) (hv : jfib x = some v) (kk : JG md cc nL own Ts ret nm d mc ms n0 out (pc + 3) lv (.int v :: st) ws k n) : JG md cc nL own Ts ret nm d mc ms n0 out pc lv (.float x :: st) ws k n := by
  unfold jfib at hv
  split at hv
  · rename_i hx
    cases hv
    refine j_callS_g (As := [.float x]) (k' := k) (n' := n) hd (s_fib hx) ?_ rfl (nA := 1) ⟨by decide +kernel, by decide +kernel, by decide +kernel⟩ rfl (by omega) (by decide) hst (Nat.le_refl _) (Nat.le_refl _) hkc hks (Or.inl rfl) kk
    exact List.forall_mem_cons.mpr ⟨⟨h1, good_of_word rfl⟩, List.forall_mem_cons.mpr ⟨⟨h2, good_of_word rfl⟩, List.forall_mem_cons.mpr ⟨⟨h3, good_of_word rfl⟩, List.forall_mem_cons.mpr ⟨⟨h4, good_of_word rfl⟩, List.forall_mem_cons.mpr ⟨⟨h5, good_of_word rfl⟩, List.forall_mem_cons.mpr ⟨⟨h6, good_of_word rfl⟩, List.forall_mem_cons.mpr ⟨⟨h3, good_of_word rfl⟩, List.forall_mem_cons.mpr ⟨⟨h7, good_of_word rfl⟩, List.forall_mem_cons.mpr ⟨⟨h8, good_of_word rfl⟩, List.forall_mem_cons.mpr ⟨⟨h9, good_of_word rfl⟩, List.forall_mem_cons.mpr ⟨⟨h10, good_of_word rfl⟩, fun _ h => absurd h List.not_mem_nil⟩⟩⟩⟩⟩⟩⟩⟩⟩⟩⟩
  · cases hv
end
