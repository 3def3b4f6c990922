/-! the law's start: out of the walk of its body (lw_closed, lw_At: from the kit's skeleton) -/
theorem jtb_93 : ∀ w ∈ (vx_atS RX10 93 "java/lang/IllegalArgumentException" ["java/lang/RuntimeException", "java/lang/Exception"]).filter goodWord, w ∈ lw_tbl := by decide +kernel
theorem jtb_104 : ∀ w ∈ (vx_atS RX10 104 "java/lang/IllegalStateException" ["java/lang/RuntimeException", "java/lang/Exception"]).filter goodWord, w ∈ lw_tbl := by decide +kernel
theorem jtb_159 : ∀ w ∈ (vx_atS RX10 159 "java/lang/IndexOutOfBoundsException" ["java/lang/RuntimeException", "java/lang/Exception"]).filter goodWord, w ∈ lw_tbl := by decide +kernel
theorem jtb_bad : ∀ q ∈ jexc, ∀ w ∈ (vx_atS RX10 q.1 q.2 ["java/lang/RuntimeException", "java/lang/Exception"]).filter (fun w => !goodWord w), w ∈ lw_tbl := by decide +kernel
theorem jtb_W : ∀ w ∈ jW, w ∈ lw_tbl := List.forall_mem_append.mpr ⟨jtb_jW_0, List.forall_mem_append.mpr ⟨jtb_jW_1, List.forall_mem_append.mpr ⟨jtb_jW_2, List.forall_mem_append.mpr ⟨jtb_jW_3, List.forall_mem_append.mpr ⟨jtb_jW_4, List.forall_mem_append.mpr ⟨jtb_jW_5, List.forall_mem_append.mpr ⟨jtb_jW_6, List.forall_mem_append.mpr ⟨jtb_jW_7, List.forall_mem_append.mpr ⟨jtb_jW_8, List.forall_mem_append.mpr ⟨jtb_jW_9, List.forall_mem_append.mpr ⟨jtb_jW_10, List.forall_mem_append.mpr ⟨jtb_jW_11, List.forall_mem_append.mpr ⟨jtb_jW_12, List.forall_mem_append.mpr ⟨jtb_uRX0, List.forall_mem_append.mpr ⟨jtb_uRX1, List.forall_mem_append.mpr ⟨jtb_uRX2, List.forall_mem_append.mpr ⟨jtb_uRX3, List.forall_mem_append.mpr ⟨jtb_uRX4, List.forall_mem_append.mpr ⟨jtb_uRX5, List.forall_mem_append.mpr ⟨jtb_uRX6, List.forall_mem_append.mpr ⟨jtb_uRX7, List.forall_mem_append.mpr ⟨jtb_uRX8, List.forall_mem_append.mpr ⟨jtb_uRX9, List.forall_mem_append.mpr ⟨jtb_uRX10, List.forall_mem_append.mpr ⟨jtb_uRX11, List.forall_mem_append.mpr ⟨jtb_93, List.forall_mem_append.mpr ⟨jtb_104, jtb_159⟩⟩⟩⟩⟩⟩⟩⟩⟩⟩⟩⟩⟩⟩⟩⟩⟩⟩⟩⟩⟩⟩⟩⟩⟩⟩⟩
theorem jtb_L : ∀ w ∈ jL, w ∈ lw_tbl := List.forall_mem_append.mpr ⟨jtb_jL_0, List.forall_mem_append.mpr ⟨jtb_jL_1, List.forall_mem_append.mpr ⟨jtb_jL_2, List.forall_mem_append.mpr ⟨jtb_jL_3, List.forall_mem_append.mpr ⟨jtb_jL_4, List.forall_mem_append.mpr ⟨jtb_jL_5, jtb_jL_6⟩⟩⟩⟩⟩⟩
theorem jtb_WL : ∀ w ∈ jWL, w ∈ lw_tbl := List.forall_mem_append.mpr ⟨jtb_L, jtb_W⟩
theorem lw_closed {s t : State} {o : Outcome} {d0 : Drawn} {L : List Loc} {k n : Nat} (hd0 : s.drawn.sameBut d0 lw_cs) (hv : ∃ v, o = .returned v) (hW : (s.setDrawn d0).WarmedH t.vm) (hs : (s.setDrawn d0).sameButNew ({ t with vm := s.vm } : State) L k n) : State.butDraws s t lw_cs (fun t1 => Framed s o t1 L k n) := by
  have h2 : t.drawn = d0 := congrArg State.drawn hs.1
  refine ⟨⟨hv, hW, State.sameButNew.setDrawn hs s.drawn⟩, ?_, by decide⟩
  rw [h2]
  exact hd0
def lw_At (p : Program) (s : State) (m : MethodId) (meth : Method) (c : Code) (b L : Nat) (xs : Nat → Int32) : Prop :=
  p.tables.exec = Jvm.exec ∧ c.code = code ∧ meth.sig.returnType = ret ∧ c.maxLocals = 7 ∧ s.vm.findClass R_law = some m.cls ∧ (∀ w ∈ lw_tbl, w.before #[Value.ref b] s = true) ∧ va_X b L xs s s.heap ∧ b < s.heap.size ∧ meth.locks = false ∧ (Jvm.Cond.and given_1 narrow_1).before #[Value.ref b] s = true
theorem arr_c {ty : FieldType} {args : Array Value} {s : State} (h : (Cond.arrayClass ty).before args s = true) : ∃ cA, ArrOfT s cA ty ∧ s.vm.findClass ("[" ++ ty.toString) = some cA := by
  obtain ⟨cA, kA, comp, h1, h2, h3⟩ := Cond.arrayClass_spec h
  exact ⟨cA, fun n z => ⟨fun k h => (by cases h), kA, h2, comp, h3⟩, h1⟩
theorem arr_o {C : String} {args : Array Value} {s : State} (h : (Cond.arrayOver (.object C)).before args s = true) : ∃ cA, ArrOfT s cA (.object C) ∧ va_RA s cA (.object C) := by
  obtain ⟨comp, cA, kA, h1, -, h2, h3, h4⟩ := Cond.arrayOver_spec h
  exact ⟨cA, fun n z => ⟨fun k h => (by cases h), kA, h2, comp, h3⟩, kA, comp, h2, h3, h1, h4⟩
theorem str_at {k : Nat} {tx : String} {args : Array Value} {s : State} (h1 : (Cond.stringRef RX10 k tx).before args s = true) (h2 : (Cond.exactly (.string RX10 k) "java/lang/String").before args s = true) : ∃ sa, vk_R RX10 k tx sa s := by
  obtain ⟨a, c, cell, kk, q1, -⟩ := Cond.exactly_spec h2
  exact ⟨a, vk_R.of h1 q1⟩
set_option maxRecDepth 100000 in
theorem st_str {args : Array Value} {s : State} (hts : ∀ w ∈ lw_tbl, w.before args s = true) (hs : ∀ w ∈ flatC (Jvm.Cond.and given_1 narrow_1), w.before args s = true) : ∀ q ∈ jstr, ∃ sa, vk_R RX10 q.1 q.2 sa s :=
  List.forall_mem_cons.mpr ⟨str_at (hts _ (tm_3 _ (List.mem_of_getElem? (i := 7) rfl))) (hs _ (by decide +kernel)), List.forall_mem_cons.mpr ⟨str_at (hts _ (tm_3 _ (List.mem_of_getElem? (i := 48) rfl))) (hs _ (by decide +kernel)), List.forall_mem_cons.mpr ⟨str_at (hts _ (tm_3 _ (List.mem_of_getElem? (i := 64) rfl))) (hs _ (by decide +kernel)), List.forall_mem_cons.mpr ⟨str_at (hts _ (tm_3 _ (List.mem_of_getElem? (i := 75) rfl))) (hs _ (by decide +kernel)), List.forall_mem_cons.mpr ⟨str_at (hts _ (tm_3 _ (List.mem_of_getElem? (i := 76) rfl))) (hs _ (by decide +kernel)), List.forall_mem_cons.mpr ⟨str_at (hts _ (tm_3 _ (List.mem_of_getElem? (i := 89) rfl))) (hs _ (by decide +kernel)), List.forall_mem_cons.mpr ⟨str_at (hts _ (tm_3 _ (List.mem_of_getElem? (i := 112) rfl))) (hs _ (by decide +kernel)), List.forall_mem_cons.mpr ⟨str_at (hts _ (tm_3 _ (List.mem_of_getElem? (i := 119) rfl))) (hs _ (by decide +kernel)), List.forall_mem_cons.mpr ⟨str_at (hts _ (tm_3 _ (List.mem_of_getElem? (i := 120) rfl))) (hs _ (by decide +kernel)), List.forall_mem_cons.mpr ⟨str_at (hts _ (tm_3 _ (List.mem_of_getElem? (i := 133) rfl))) (hs _ (by decide +kernel)), List.forall_mem_cons.mpr ⟨str_at (hts _ (tm_3 _ (List.mem_of_getElem? (i := 146) rfl))) (hs _ (by decide +kernel)), List.forall_mem_cons.mpr ⟨str_at (hts _ (tm_4 _ (List.mem_of_getElem? (i := 56) rfl))) (hs _ (by decide +kernel)), List.forall_mem_cons.mpr ⟨str_at (hts _ (tm_4 _ (List.mem_of_getElem? (i := 97) rfl))) (hs _ (by decide +kernel)), List.forall_mem_cons.mpr ⟨str_at (hts _ (tm_4 _ (List.mem_of_getElem? (i := 98) rfl))) (hs _ (by decide +kernel)), List.forall_mem_cons.mpr ⟨str_at (hts _ (tm_4 _ (List.mem_of_getElem? (i := 117) rfl))) (hs _ (by decide +kernel)), List.forall_mem_cons.mpr ⟨str_at (hts _ (tm_4 _ (List.mem_of_getElem? (i := 139) rfl))) (hs _ (by decide +kernel)), List.forall_mem_cons.mpr ⟨str_at (hts _ (tm_4 _ (List.mem_of_getElem? (i := 222) rfl))) (hs _ (by decide +kernel)), fun _ h => absurd h List.not_mem_nil⟩⟩⟩⟩⟩⟩⟩⟩⟩⟩⟩⟩⟩⟩⟩⟩⟩
set_option maxRecDepth 100000 in
theorem st_nest {args : Array Value} {s : State} (hts : ∀ w ∈ lw_tbl, w.before args s = true) : jKN s :=
  ⟨List.forall_mem_cons.mpr ⟨va_Nw.of rfl (hts _ (tm_2 _ (List.mem_of_getElem? (i := 139) rfl))), List.forall_mem_cons.mpr ⟨va_Nw.of rfl (hts _ (tm_4 _ (List.mem_of_getElem? (i := 24) rfl))), List.forall_mem_cons.mpr ⟨va_Nw.of rfl (hts _ (tm_4 _ (List.mem_of_getElem? (i := 25) rfl))), List.forall_mem_cons.mpr ⟨va_Nw.of rfl (hts _ (tm_4 _ (List.mem_of_getElem? (i := 26) rfl))), List.forall_mem_cons.mpr ⟨va_Nw.of rfl (hts _ (tm_2 _ (List.mem_of_getElem? (i := 154) rfl))), List.forall_mem_cons.mpr ⟨va_Nw.of rfl (hts _ (tm_2 _ (List.mem_of_getElem? (i := 158) rfl))), List.forall_mem_cons.mpr ⟨va_Nw.of rfl (hts _ (tm_4 _ (List.mem_of_getElem? (i := 184) rfl))), List.forall_mem_cons.mpr ⟨va_Nw.of rfl (hts _ (tm_4 _ (List.mem_of_getElem? (i := 186) rfl))), List.forall_mem_cons.mpr ⟨va_Nw.of rfl (hts _ (tm_3 _ (List.mem_of_getElem? (i := 198) rfl))), List.forall_mem_cons.mpr ⟨va_Nw.of rfl (hts _ (tm_3 _ (List.mem_of_getElem? (i := 199) rfl))), List.forall_mem_cons.mpr ⟨va_Nw.of rfl (hts _ (tm_3 _ (List.mem_of_getElem? (i := 163) rfl))), List.forall_mem_cons.mpr ⟨va_Nw.of rfl (hts _ (tm_4 _ (List.mem_of_getElem? (i := 87) rfl))), List.forall_mem_cons.mpr ⟨va_Nw.of rfl (hts _ (tm_1 _ (List.mem_of_getElem? (i := 34) rfl))), List.forall_mem_cons.mpr ⟨va_Nw.of rfl (hts _ (tm_1 _ (List.mem_of_getElem? (i := 66) rfl))), List.forall_mem_cons.mpr ⟨va_Nw.of rfl (hts _ (tm_1 _ (List.mem_of_getElem? (i := 93) rfl))), List.forall_mem_cons.mpr ⟨va_Nw.of rfl (hts _ (tm_1 _ (List.mem_of_getElem? (i := 167) rfl))), List.forall_mem_cons.mpr ⟨va_Nw.of rfl (hts _ (tm_1 _ (List.mem_of_getElem? (i := 185) rfl))), List.forall_mem_cons.mpr ⟨va_Nw.of rfl (hts _ (tm_1 _ (List.mem_of_getElem? (i := 208) rfl))), List.forall_mem_cons.mpr ⟨va_Nw.of rfl (hts _ (tm_1 _ (List.mem_of_getElem? (i := 233) rfl))), fun _ h => absurd h List.not_mem_nil⟩⟩⟩⟩⟩⟩⟩⟩⟩⟩⟩⟩⟩⟩⟩⟩⟩⟩⟩, va_AO.of (hts _ (tm_2 _ (List.mem_of_getElem? (i := 35) rfl)))⟩
set_option maxRecDepth 100000 in
theorem st_xs {args : Array Value} {s : State} (hts : ∀ w ∈ lw_tbl, w.before args s = true) (hs : ∀ w ∈ flatC (Jvm.Cond.and given_1 narrow_1), w.before args s = true) : jXS (fun q : Nat => s.heap.size ≤ q) s :=
  ⟨vx_Zqof (hts _ (tm_2 _ (List.mem_of_getElem? (i := 233) rfl))) (hts _ (tm_1 _ (List.mem_of_getElem? (i := 14) rfl))) (hs _ (by decide +kernel)) (fun a h q => absurd h (Nat.not_lt.mpr q)), vx_Zqof (hts _ (tm_2 _ (List.mem_of_getElem? (i := 235) rfl))) (hts _ (tm_1 _ (List.mem_of_getElem? (i := 14) rfl))) (hs _ (by decide +kernel)) (fun a h q => absurd h (Nat.not_lt.mpr q)), st_str hts hs, fun q hq w hw => ot_warm (State.WarmedH.refl s) (jcs q hq w hw) (hts _ (jtb_bad q hq w hw))⟩
theorem st_jN {args : Array Value} {s : State} (hts : ∀ w ∈ lw_tbl, w.before args s = true) (hs : ∀ w ∈ flatC (Jvm.Cond.and given_1 narrow_1), w.before args s = true) : ∀ w ∈ lT, w.before args s = true := by
  refine List.forall_mem_append.mpr ⟨?_, fun w hw => hts w (jtb_WL w hw)⟩
  exact List.forall_mem_cons.mpr ⟨hs _ (by decide +kernel), List.forall_mem_cons.mpr ⟨hs _ (by decide +kernel), List.forall_mem_cons.mpr ⟨hs _ (by decide +kernel), List.forall_mem_cons.mpr ⟨hs _ (by decide +kernel), List.forall_mem_cons.mpr ⟨hs _ (by decide +kernel), List.forall_mem_cons.mpr ⟨hs _ (by decide +kernel), List.forall_mem_cons.mpr ⟨hts _ (tm_2 _ (List.mem_of_getElem? (i := 208) rfl)), List.forall_mem_cons.mpr ⟨hts _ (tm_3 _ (List.mem_of_getElem? (i := 41) rfl)), List.forall_mem_cons.mpr ⟨hts _ (tm_3 _ (List.mem_of_getElem? (i := 105) rfl)), fun _ h => absurd h List.not_mem_nil⟩⟩⟩⟩⟩⟩⟩⟩⟩
set_option maxRecDepth 100000 in
theorem st_K {args : Array Value} {s : State} (hts : ∀ w ∈ lw_tbl, w.before args s = true) : ∃ G : LGl, va_K G.1 vwCl (jty G.2) s := by
  obtain ⟨c0, i0, k0⟩ := u_known (C := RX0) (T := TX0) (N := 4) (n := 4) hts jtb_uRX0 (hts _ (tm_1 _ (List.mem_of_getElem? (i := 184) rfl)))
  obtain ⟨c1, i1, k1⟩ := u_known (C := RX1) (T := TX1) (N := 4) (n := 4) hts jtb_uRX1 (hts _ (tm_1 _ (List.mem_of_getElem? (i := 207) rfl)))
  obtain ⟨c2, i2, k2⟩ := u_known (C := RX2) (T := TX2) (N := 7) (n := 7) hts jtb_uRX2 (hts _ (tm_1 _ (List.mem_of_getElem? (i := 92) rfl)))
  obtain ⟨c3, i3, k3⟩ := u_known (C := RX3) (T := TX3) (N := 7) (n := 7) hts jtb_uRX3 (hts _ (tm_1 _ (List.mem_of_getElem? (i := 232) rfl)))
  obtain ⟨c4, i4, k4⟩ := u_known (C := RX4) (T := TX4) (N := 3) (n := 3) hts jtb_uRX4 (hts _ (tm_1 _ (List.mem_of_getElem? (i := 33) rfl)))
  obtain ⟨c5, i5, k5⟩ := u_known (C := RX5) (T := TX5) (N := 4) (n := 4) hts jtb_uRX5 (hts _ (tm_1 _ (List.mem_of_getElem? (i := 65) rfl)))
  obtain ⟨c6, i6, k6⟩ := u_known (C := RX6) (T := TX6) (N := 3) (n := 3) hts jtb_uRX6 (hts _ (tm_1 _ (List.mem_of_getElem? (i := 166) rfl)))
  obtain ⟨c7, i7, k7⟩ := u_known (C := RX7) (T := TX7) (N := 3) (n := 3) hts jtb_uRX7 (hts _ (tm_2 _ (List.mem_of_getElem? (i := 29) rfl)))
  obtain ⟨c8, i8, k8⟩ := u_known (C := RX8) (T := TX8) (N := 1) (n := 1) hts jtb_uRX8 (hts _ (tm_1 _ (List.mem_of_getElem? (i := 39) rfl)))
  obtain ⟨c9, i9, k9⟩ := u_known (C := RX9) (T := TX9) (N := 6) (n := 6) hts jtb_uRX9 (hts _ (tm_1 _ (List.mem_of_getElem? (i := 133) rfl)))
  obtain ⟨c10, i10, k10⟩ := u_known (C := RX10) (T := TX10) (N := 11) (n := 11) hts jtb_uRX10 (hts _ (tm_1 _ (List.mem_of_getElem? (i := 25) rfl)))
  obtain ⟨c11, i11, k11⟩ := u_known (C := RX11) (T := TX11) (N := 31) (n := 31) hts jtb_uRX11 (hts _ (tm_4 _ (List.mem_of_getElem? (i := 224) rfl)))
  obtain ⟨a0, p0, r0⟩ := arr_c (hts _ (tm_1 _ (List.mem_of_getElem? (i := 51) rfl)))
  obtain ⟨a1, p1, r1⟩ := arr_o (hts _ (tm_2 _ (List.mem_of_getElem? (i := 35) rfl)))
  obtain ⟨a2, p2, r2⟩ := arr_c (hts _ (tm_6 _ (List.mem_of_getElem? (i := 103) rfl)))
  let dc : Nat → ClassId := fun k => match k with
    | 0 => c0
    | 1 => c1
    | 2 => c2
    | 3 => c3
    | 4 => c4
    | 5 => c5
    | 6 => c6
    | 7 => c7
    | 8 => c8
    | 9 => c9
    | 10 => c10
    | _ => c11
  let di : Nat → Nat → Nat := fun k => match k with
    | 0 => i0
    | 1 => i1
    | 2 => i2
    | 3 => i3
    | 4 => i4
    | 5 => i5
    | 6 => i6
    | 7 => i7
    | 8 => i8
    | 9 => i9
    | 10 => i10
    | _ => i11
  let dt : Nat → ClassId := fun k => match k with
    | 0 => a0
    | 1 => a1
    | _ => a2
  refine ⟨((dc, di), dt), fun k q hq => ?_, fun k q hq => ?_⟩
  · match k, hq with
    | 0, hq => cases hq; exact k0
    | 1, hq => cases hq; exact k1
    | 2, hq => cases hq; exact k2
    | 3, hq => cases hq; exact k3
    | 4, hq => cases hq; exact k4
    | 5, hq => cases hq; exact k5
    | 6, hq => cases hq; exact k6
    | 7, hq => cases hq; exact k7
    | 8, hq => cases hq; exact k8
    | 9, hq => cases hq; exact k9
    | 10, hq => cases hq; exact k10
    | 11, hq => cases hq; exact k11
    | k + 12, hq => cases hq
  · match k, hq with
    | 0, hq => cases hq; exact ⟨p0, r0⟩
    | 1, hq => cases hq; exact ⟨p1, r1⟩
    | 2, hq => cases hq; exact ⟨p2, r2⟩
    | k + 3, hq => cases hq
theorem st_flags {l : Launch} (h : l.flags = flags0) : l.stackTraces = false := by
  unfold Launch.stackTraces
  rw [h]
  decide +kernel
theorem whole_start {p : Program} {e : Env} {s : State} {m : MethodId} {below : List Frame} {meth : Method} {c : Code} (l : Launch) (hflags : l.flags = flags0) {b L : Nat} {xs : Nat → Int32} (hL : L ≤ 3072) (C0 : lw_At p s m meth c b L xs) : W p l e room_1 s m #[Value.ref b] below meth c s.heap [] 0 0 (lw_Z below #[Value.ref b] s) (entryFrame m ([Value.ref b] : List Value).toArray 7) := by
  obtain ⟨hx, hb, hr, hml, hown, hts, hX, hbl, hlocks, hgv⟩ := id C0
  have hs := flat_of_before _ hgv
  obtain ⟨G, hK⟩ := st_K hts
  obtain ⟨we, hw⟩ := law_all (nm := meth.name) (b := b) (xs := xs) hL
  have hl := lv_entry ([.ref b]) (n := 7) (Nat.le_of_ble_eq_true rfl)
  rw [lg_entry_eq]
  generalize (lg_sl ([.ref b]) ++ List.replicate (7 - (lg_sl ([.ref b])).length) Slot.unset).toArray = ls at hl ⊢
  have hl : lv_has ls 7 [(0, .ref b)] := hl
  obtain ⟨ρ, hρ⟩ : ∃ ρ : Nat → Nat, ρ 1000000 = b := ⟨fun _ => b, rfl⟩
  have hP : va_P G.1 vwCl (jph G.2 ρ []) s.heap := fun k q h => by cases h
  have hD : va_D (fun q : Nat => s.heap.size ≤ q) (jph G.2 ρ []) := ⟨fun i j p q h => (by cases h), fun k q h => (by cases h)⟩
  have hls : jLH ρ ls 7 [some (.ref 1000000), none, none, none, none, none, none] := by
    show lv_has ls 7 [(0, .ref (ρ 1000000))]
    rw [hρ]
    exact hl
  have w := hw p l e room_1 s m #[Value.ref b] below meth c G (fun q : Nat => s.heap.size ≤ q) ρ ρ s.heap [] ls ⟨⟨hx, hb, hml, hown, st_jN hts hs⟩, hr, hlocks, rfl, hK, st_nest hts, fun _ h => h, ⟨by decide, rfl, rfl, by decide⟩, (fun h => by cases h), fun q hq => by
    cases hq
    exact ⟨rfl, hX, hbl, Nat.not_le.mpr hbl, hρ, st_flags hflags, st_xs hts hs⟩⟩ ⟨hP, hD, va_S.rf, fun _ _ => rfl, Nat.le_refl _, fun _ => rfl⟩ hls
  intro T hT X
  obtain ⟨t, st, o, h1, h2, ⟨⟨v, ρ', hv, ho, -⟩, -⟩, L', ⟨⟨_, -⟩, hW, hsame⟩, hfree⟩ := w T hT X
  refine ⟨t, st, o, h1, h2, ?_⟩
  have hv' : v = some (.int 1) := by cases hv; rfl
  subst hv'
  subst ho
  refine ⟨rfl, lw_closed (Drawn.sameBut.refl s.drawn lw_cs) ⟨_, rfl⟩ hW (State.sameButNew.weaken hsame (fun y hy hlt => absurd hlt (Nat.not_lt.mpr (hfree y hy))) (Nat.le_refl _) (Nat.le_refl _))⟩
