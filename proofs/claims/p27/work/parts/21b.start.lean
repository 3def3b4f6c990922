/-! the law's start: out of the walk of its body (lw_closed, lw_At: from the kit's skeleton) -/
theorem jtb_93 : ∀ w ∈ (vx_atS RX10 93 "java/lang/IllegalArgumentException" ["java/lang/RuntimeException", "java/lang/Exception"]).filter goodWord, w ∈ lw_tbl := by decide +kernel
theorem jtb_104 : ∀ w ∈ (vx_atS RX10 104 "java/lang/IllegalStateException" ["java/lang/RuntimeException", "java/lang/Exception"]).filter goodWord, w ∈ lw_tbl := by decide +kernel
theorem jtb_159 : ∀ w ∈ (vx_atS RX10 159 "java/lang/IndexOutOfBoundsException" ["java/lang/RuntimeException", "java/lang/Exception"]).filter goodWord, w ∈ lw_tbl := by decide +kernel
theorem jtb_bad : ∀ q ∈ jexc, ∀ w ∈ (vx_atS RX10 q.1 q.2 ["java/lang/RuntimeException", "java/lang/Exception"]).filter (fun w => !goodWord w), w ∈ lw_tbl := by decide +kernel
theorem jtb_W : ∀ w ∈ jW, w ∈ lw_tbl := List.forall_mem_append.mpr ⟨jtb_jW_0, List.forall_mem_append.mpr ⟨jtb_jW_1, List.forall_mem_append.mpr ⟨jtb_jW_2, List.forall_mem_append.mpr ⟨jtb_jW_3, List.forall_mem_append.mpr ⟨jtb_jW_4, List.forall_mem_append.mpr ⟨jtb_jW_5, List.forall_mem_append.mpr ⟨jtb_jW_6, List.forall_mem_append.mpr ⟨jtb_jW_7, List.forall_mem_append.mpr ⟨jtb_jW_8, List.forall_mem_append.mpr ⟨jtb_jW_9, List.forall_mem_append.mpr ⟨jtb_jW_10, List.forall_mem_append.mpr ⟨jtb_jW_11, List.forall_mem_append.mpr ⟨jtb_jW_12, List.forall_mem_append.mpr ⟨jtb_uRX0, List.forall_mem_append.mpr ⟨jtb_uRX1, List.forall_mem_append.mpr ⟨jtb_uRX2, List.forall_mem_append.mpr ⟨jtb_uRX3, List.forall_mem_append.mpr ⟨jtb_uRX4, List.forall_mem_append.mpr ⟨jtb_uRX5, List.forall_mem_append.mpr ⟨jtb_uRX6, List.forall_mem_append.mpr ⟨jtb_uRX7, List.forall_mem_append.mpr ⟨jtb_uRX8, List.forall_mem_append.mpr ⟨jtb_uRX9, List.forall_mem_append.mpr ⟨jtb_uRX10, List.forall_mem_append.mpr ⟨jtb_93, List.forall_mem_append.mpr ⟨jtb_104, jtb_159⟩⟩⟩⟩⟩⟩⟩⟩⟩⟩⟩⟩⟩⟩⟩⟩⟩⟩⟩⟩⟩⟩⟩⟩⟩⟩
theorem jtb_WL : ∀ w ∈ wsL_law, w ∈ lw_tbl := List.forall_mem_cons.mpr ⟨tm_1 _ (List.mem_of_getElem? (i := 0) rfl), jtb_W⟩
theorem lw_closed {s t : State} {o : Outcome} {d0 : Drawn} {L : List Loc} {k n : Nat} (hd0 : s.drawn.sameBut d0 lw_cs) (hv : ∃ v, o = .returned v) (hW : (s.setDrawn d0).WarmedH t.vm) (hs : (s.setDrawn d0).sameButNew ({ t with vm := s.vm } : State) L k n) : State.butDraws s t lw_cs (fun t1 => Framed s o t1 L k n) := by
  have h2 : t.drawn = d0 := congrArg State.drawn hs.1
  refine ⟨⟨hv, hW, State.sameButNew.setDrawn hs s.drawn⟩, ?_, by decide⟩
  rw [h2]
  exact hd0
def lw_At (p : Program) (s : State) (m : MethodId) (meth : Method) (c : Code) (b L : Nat) (xs : Nat → Int32) : Prop :=
  p.tables.exec = Jvm.exec ∧ c.code = code ∧ meth.sig.returnType = ret ∧ c.maxLocals = 16 ∧ s.vm.findClass R_law = some m.cls ∧ (∀ w ∈ lw_tbl, w.before #[Value.ref b] s = true) ∧ va_X b L xs s s.heap ∧ b < s.heap.size ∧ meth.locks = false ∧ (Jvm.Cond.and given_1 narrow_1).before #[Value.ref b] s = true
theorem arr_c {ty : FieldType} {args : Array Value} {s : State} (h : (Cond.arrayClass ty).before args s = true) : ∃ cA, ArrOfT s cA ty ∧ s.vm.findClass ("[" ++ ty.toString) = some cA := by
  obtain ⟨cA, kA, comp, h1, h2, h3⟩ := Cond.arrayClass_spec h
  exact ⟨cA, fun n z => ⟨fun k h => (by cases h), kA, h2, comp, h3⟩, h1⟩
theorem arr_o {C : String} {args : Array Value} {s : State} (h : (Cond.arrayOver (.object C)).before args s = true) : ∃ cA, ArrOfT s cA (.object C) ∧ va_RA s cA (.object C) := by
  obtain ⟨comp, cA, kA, h1, -, h2, h3, h4⟩ := Cond.arrayOver_spec h
  exact ⟨cA, fun n z => ⟨fun k h => (by cases h), kA, h2, comp, h3⟩, kA, comp, h2, h3, h1, h4⟩
theorem str_at {k : Nat} {tx : String} {args : Array Value} {s : State} (h1 : (Cond.stringRef RX10 k tx).before args s = true) (h2 : (Cond.exactly (.string RX10 k) "java/lang/String").before args s = true) : ∃ sa, vk_R RX10 k tx sa s := by
  obtain ⟨a, c, cell, kk, q1, -⟩ := Cond.exactly_spec h2
  exact ⟨a, vk_R.of h1 q1⟩
set_option maxRecDepth 100000 in
theorem st_str {args : Array Value} {s : State} (hts : ∀ w ∈ lw_tbl, w.before args s = true) (hs : ∀ w ∈ flatC (Jvm.Cond.and given_1 narrow_1), w.before args s = true) : ∀ q ∈ jstr, ∃ sa, vk_R RX10 q.1 q.2 sa s :=
  List.forall_mem_cons.mpr ⟨str_at (hts _ (tm_2 _ (List.mem_of_getElem? (i := 139) rfl))) (hs _ (by decide +kernel)), List.forall_mem_cons.mpr ⟨str_at (hts _ (tm_2 _ (List.mem_of_getElem? (i := 183) rfl))) (hs _ (by decide +kernel)), List.forall_mem_cons.mpr ⟨str_at (hts _ (tm_2 _ (List.mem_of_getElem? (i := 199) rfl))) (hs _ (by decide +kernel)), List.forall_mem_cons.mpr ⟨str_at (hts _ (tm_2 _ (List.mem_of_getElem? (i := 207) rfl))) (hs _ (by decide +kernel)), List.forall_mem_cons.mpr ⟨str_at (hts _ (tm_2 _ (List.mem_of_getElem? (i := 208) rfl))) (hs _ (by decide +kernel)), List.forall_mem_cons.mpr ⟨str_at (hts _ (tm_2 _ (List.mem_of_getElem? (i := 218) rfl))) (hs _ (by decide +kernel)), List.forall_mem_cons.mpr ⟨str_at (hts _ (tm_2 _ (List.mem_of_getElem? (i := 239) rfl))) (hs _ (by decide +kernel)), List.forall_mem_cons.mpr ⟨str_at (hts _ (tm_3 _ (List.mem_of_getElem? (i := 6) rfl))) (hs _ (by decide +kernel)), List.forall_mem_cons.mpr ⟨str_at (hts _ (tm_3 _ (List.mem_of_getElem? (i := 7) rfl))) (hs _ (by decide +kernel)), List.forall_mem_cons.mpr ⟨str_at (hts _ (tm_3 _ (List.mem_of_getElem? (i := 17) rfl))) (hs _ (by decide +kernel)), List.forall_mem_cons.mpr ⟨str_at (hts _ (tm_3 _ (List.mem_of_getElem? (i := 69) rfl))) (hs _ (by decide +kernel)), List.forall_mem_cons.mpr ⟨str_at (hts _ (tm_3 _ (List.mem_of_getElem? (i := 214) rfl))) (hs _ (by decide +kernel)), List.forall_mem_cons.mpr ⟨str_at (hts _ (tm_4 _ (List.mem_of_getElem? (i := 10) rfl))) (hs _ (by decide +kernel)), List.forall_mem_cons.mpr ⟨str_at (hts _ (tm_4 _ (List.mem_of_getElem? (i := 11) rfl))) (hs _ (by decide +kernel)), List.forall_mem_cons.mpr ⟨str_at (hts _ (tm_4 _ (List.mem_of_getElem? (i := 38) rfl))) (hs _ (by decide +kernel)), List.forall_mem_cons.mpr ⟨str_at (hts _ (tm_4 _ (List.mem_of_getElem? (i := 26) rfl))) (hs _ (by decide +kernel)), List.forall_mem_cons.mpr ⟨str_at (hts _ (tm_4 _ (List.mem_of_getElem? (i := 37) rfl))) (hs _ (by decide +kernel)), fun _ h => absurd h List.not_mem_nil⟩⟩⟩⟩⟩⟩⟩⟩⟩⟩⟩⟩⟩⟩⟩⟩⟩
set_option maxRecDepth 100000 in
theorem st_nest {args : Array Value} {s : State} (hts : ∀ w ∈ lw_tbl, w.before args s = true) : jKN s :=
  ⟨List.forall_mem_cons.mpr ⟨va_Nw.of rfl (hts _ (tm_3 _ (List.mem_of_getElem? (i := 64) rfl))), List.forall_mem_cons.mpr ⟨va_Nw.of rfl (hts _ (tm_3 _ (List.mem_of_getElem? (i := 188) rfl))), List.forall_mem_cons.mpr ⟨va_Nw.of rfl (hts _ (tm_3 _ (List.mem_of_getElem? (i := 189) rfl))), List.forall_mem_cons.mpr ⟨va_Nw.of rfl (hts _ (tm_3 _ (List.mem_of_getElem? (i := 190) rfl))), List.forall_mem_cons.mpr ⟨va_Nw.of rfl (hts _ (tm_4 _ (List.mem_of_getElem? (i := 89) rfl))), List.forall_mem_cons.mpr ⟨va_Nw.of rfl (hts _ (tm_4 _ (List.mem_of_getElem? (i := 91) rfl))), List.forall_mem_cons.mpr ⟨va_Nw.of rfl (hts _ (tm_4 _ (List.mem_of_getElem? (i := 197) rfl))), List.forall_mem_cons.mpr ⟨va_Nw.of rfl (hts _ (tm_4 _ (List.mem_of_getElem? (i := 199) rfl))), List.forall_mem_cons.mpr ⟨va_Nw.of rfl (hts _ (tm_3 _ (List.mem_of_getElem? (i := 121) rfl))), List.forall_mem_cons.mpr ⟨va_Nw.of rfl (hts _ (tm_3 _ (List.mem_of_getElem? (i := 124) rfl))), List.forall_mem_cons.mpr ⟨va_Nw.of rfl (hts _ (tm_3 _ (List.mem_of_getElem? (i := 86) rfl))), List.forall_mem_cons.mpr ⟨va_Nw.of rfl (hts _ (tm_4 _ (List.mem_of_getElem? (i := 3) rfl))), List.forall_mem_cons.mpr ⟨va_Nw.of rfl (hts _ (tm_1 _ (List.mem_of_getElem? (i := 31) rfl))), List.forall_mem_cons.mpr ⟨va_Nw.of rfl (hts _ (tm_1 _ (List.mem_of_getElem? (i := 63) rfl))), List.forall_mem_cons.mpr ⟨va_Nw.of rfl (hts _ (tm_1 _ (List.mem_of_getElem? (i := 90) rfl))), List.forall_mem_cons.mpr ⟨va_Nw.of rfl (hts _ (tm_1 _ (List.mem_of_getElem? (i := 164) rfl))), List.forall_mem_cons.mpr ⟨va_Nw.of rfl (hts _ (tm_1 _ (List.mem_of_getElem? (i := 182) rfl))), List.forall_mem_cons.mpr ⟨va_Nw.of rfl (hts _ (tm_1 _ (List.mem_of_getElem? (i := 205) rfl))), List.forall_mem_cons.mpr ⟨va_Nw.of rfl (hts _ (tm_1 _ (List.mem_of_getElem? (i := 230) rfl))), fun _ h => absurd h List.not_mem_nil⟩⟩⟩⟩⟩⟩⟩⟩⟩⟩⟩⟩⟩⟩⟩⟩⟩⟩⟩, va_AO.of (hts _ (tm_2 _ (List.mem_of_getElem? (i := 32) rfl)))⟩
set_option maxRecDepth 100000 in
theorem st_xs {args : Array Value} {s : State} (hts : ∀ w ∈ lw_tbl, w.before args s = true) (hs : ∀ w ∈ flatC (Jvm.Cond.and given_1 narrow_1), w.before args s = true) : jXS (fun q : Nat => s.heap.size ≤ q) s :=
  ⟨vx_Zqof (hts _ (tm_2 _ (List.mem_of_getElem? (i := 125) rfl))) (hts _ (tm_1 _ (List.mem_of_getElem? (i := 13) rfl))) (hs _ (by decide +kernel)) (fun a h q => absurd h (Nat.not_lt.mpr q)), vx_Zqof (hts _ (tm_2 _ (List.mem_of_getElem? (i := 127) rfl))) (hts _ (tm_1 _ (List.mem_of_getElem? (i := 13) rfl))) (hs _ (by decide +kernel)) (fun a h q => absurd h (Nat.not_lt.mpr q)), st_str hts hs, fun q hq w hw => ot_warm (State.WarmedH.refl s) (jcs q hq w hw) (hts _ (jtb_bad q hq w hw))⟩
set_option maxRecDepth 100000 in
theorem st_nc {args : Array Value} {s : State} (hts : ∀ w ∈ lw_tbl, w.before args s = true) (hs : ∀ w ∈ flatC (Jvm.Cond.and given_1 narrow_1), w.before args s = true) : jNC s :=
  ⟨List.forall_mem_cons.mpr ⟨va_Nc.of (hs _ (by decide +kernel)), List.forall_mem_cons.mpr ⟨va_Nc.of (hs _ (by decide +kernel)), List.forall_mem_cons.mpr ⟨va_Nc.of (hs _ (by decide +kernel)), List.forall_mem_cons.mpr ⟨va_Nc.of (hs _ (by decide +kernel)), List.forall_mem_cons.mpr ⟨va_Nc.of (hs _ (by decide +kernel)), List.forall_mem_cons.mpr ⟨va_Nc.of (hs _ (by decide +kernel)), fun _ h => absurd h List.not_mem_nil⟩⟩⟩⟩⟩⟩, List.forall_mem_cons.mpr ⟨cst_moved (State.WarmedH.refl s).alike (hts _ (tm_2 _ (List.mem_of_getElem? (i := 100) rfl))), List.forall_mem_cons.mpr ⟨cst_moved (State.WarmedH.refl s).alike (hts _ (tm_2 _ (List.mem_of_getElem? (i := 176) rfl))), List.forall_mem_cons.mpr ⟨cst_moved (State.WarmedH.refl s).alike (hts _ (tm_2 _ (List.mem_of_getElem? (i := 232) rfl))), fun _ h => absurd h List.not_mem_nil⟩⟩⟩⟩
set_option maxRecDepth 100000 in
theorem st_K {args : Array Value} {s : State} (hts : ∀ w ∈ lw_tbl, w.before args s = true) : ∃ G : LGl, va_K G.1 vwCl (jty G.2) s := by
  obtain ⟨c0, i0, k0⟩ := u_known (C := RX0) (T := TX0) (N := 4) (n := 4) hts jtb_uRX0 (hts _ (tm_1 _ (List.mem_of_getElem? (i := 181) rfl)))
  obtain ⟨c1, i1, k1⟩ := u_known (C := RX1) (T := TX1) (N := 4) (n := 4) hts jtb_uRX1 (hts _ (tm_1 _ (List.mem_of_getElem? (i := 204) rfl)))
  obtain ⟨c2, i2, k2⟩ := u_known (C := RX2) (T := TX2) (N := 7) (n := 7) hts jtb_uRX2 (hts _ (tm_1 _ (List.mem_of_getElem? (i := 89) rfl)))
  obtain ⟨c3, i3, k3⟩ := u_known (C := RX3) (T := TX3) (N := 7) (n := 7) hts jtb_uRX3 (hts _ (tm_1 _ (List.mem_of_getElem? (i := 229) rfl)))
  obtain ⟨c4, i4, k4⟩ := u_known (C := RX4) (T := TX4) (N := 3) (n := 3) hts jtb_uRX4 (hts _ (tm_1 _ (List.mem_of_getElem? (i := 30) rfl)))
  obtain ⟨c5, i5, k5⟩ := u_known (C := RX5) (T := TX5) (N := 4) (n := 4) hts jtb_uRX5 (hts _ (tm_1 _ (List.mem_of_getElem? (i := 62) rfl)))
  obtain ⟨c6, i6, k6⟩ := u_known (C := RX6) (T := TX6) (N := 3) (n := 3) hts jtb_uRX6 (hts _ (tm_1 _ (List.mem_of_getElem? (i := 163) rfl)))
  obtain ⟨c7, i7, k7⟩ := u_known (C := RX7) (T := TX7) (N := 3) (n := 3) hts jtb_uRX7 (hts _ (tm_2 _ (List.mem_of_getElem? (i := 26) rfl)))
  obtain ⟨c8, i8, k8⟩ := u_known (C := RX8) (T := TX8) (N := 1) (n := 1) hts jtb_uRX8 (hts _ (tm_1 _ (List.mem_of_getElem? (i := 36) rfl)))
  obtain ⟨c9, i9, k9⟩ := u_known (C := RX9) (T := TX9) (N := 6) (n := 6) hts jtb_uRX9 (hts _ (tm_1 _ (List.mem_of_getElem? (i := 130) rfl)))
  obtain ⟨c10, i10, k10⟩ := u_known (C := RX10) (T := TX10) (N := 11) (n := 11) hts jtb_uRX10 (hts _ (tm_1 _ (List.mem_of_getElem? (i := 22) rfl)))
  obtain ⟨a0, p0, r0⟩ := arr_c (hts _ (tm_1 _ (List.mem_of_getElem? (i := 48) rfl)))
  obtain ⟨a1, p1, r1⟩ := arr_o (hts _ (tm_2 _ (List.mem_of_getElem? (i := 32) rfl)))
  obtain ⟨a2, p2, r2⟩ := arr_c (hts _ (tm_5 _ (List.mem_of_getElem? (i := 22) rfl)))
  let dc : Nat → ClassId := fun k => match k with
    | 0 => c0
    | 1 => c1
    | 2 => c2
    | 3 => c3
    | 4 => c4
    | 5 => c5
    | 6 => c6
    | 7 => c7
    | 8 => c8
    | 9 => c9
    | _ => c10
  let di : Nat → Nat → Nat := fun k => match k with
    | 0 => i0
    | 1 => i1
    | 2 => i2
    | 3 => i3
    | 4 => i4
    | 5 => i5
    | 6 => i6
    | 7 => i7
    | 8 => i8
    | 9 => i9
    | _ => i10
  let dt : Nat → ClassId := fun k => match k with
    | 0 => a0
    | 1 => a1
    | _ => a2
  refine ⟨((dc, di), dt), fun k q hq => ?_, fun k q hq => ?_⟩
  · match k, hq with
    | 0, hq => cases hq; exact k0
    | 1, hq => cases hq; exact k1
    | 2, hq => cases hq; exact k2
    | 3, hq => cases hq; exact k3
    | 4, hq => cases hq; exact k4
    | 5, hq => cases hq; exact k5
    | 6, hq => cases hq; exact k6
    | 7, hq => cases hq; exact k7
    | 8, hq => cases hq; exact k8
    | 9, hq => cases hq; exact k9
    | 10, hq => cases hq; exact k10
    | k + 11, hq => cases hq
  · match k, hq with
    | 0, hq => cases hq; exact ⟨p0, r0⟩
    | 1, hq => cases hq; exact ⟨p1, r1⟩
    | 2, hq => cases hq; exact ⟨p2, r2⟩
    | k + 3, hq => cases hq
theorem st_flags {l : Launch} (h : l.flags = flags0) : l.stackTraces = false := by
  unfold Launch.stackTraces
  rw [h]
  decide +kernel
theorem whole_start {p : Program} {e : Env} {s : State} {m : MethodId} {below : List Frame} {meth : Method} {c : Code} (l : Launch) (hflags : l.flags = flags0) {b L : Nat} {xs : Nat → Int32} (hL : L ≤ 260) (C0 : lw_At p s m meth c b L xs) : W p l e room_1 s m #[Value.ref b] below meth c s.heap [] 0 0 (lw_Z below #[Value.ref b] s) (entryFrame m ([Value.ref b] : List Value).toArray 16) := by
  obtain ⟨hx, hb, hr, hml, hown, hts, hX, hbl, hlocks, hgv⟩ := id C0
  have hs := flat_of_before _ hgv
  obtain ⟨G, hK⟩ := st_K hts
  obtain ⟨we, hwe⟩ := law_run (L := L) (xs := xs) (by omega)
  have hw := s_L_law (bb := b) (nm := meth.name) hwe
  have hl := lv_entry ([.ref b]) (n := 16) (Nat.le_of_ble_eq_true rfl)
  rw [lg_entry_eq]
  generalize (lg_sl ([.ref b]) ++ List.replicate (16 - (lg_sl ([.ref b])).length) Slot.unset).toArray = ls at hl ⊢
  have hl : lv_has ls 16 [(0, .ref b)] := hl
  obtain ⟨ρ, hρ⟩ : ∃ ρ : Nat → Nat, ρ 1000000 = b := ⟨fun _ => b, rfl⟩
  have hP : va_P G.1 vwCl (jph G.2 ρ []) s.heap := fun k q h => by cases h
  have hD : va_D (fun q : Nat => s.heap.size ≤ q) (jph G.2 ρ []) := ⟨fun i j p q h => (by cases h), fun k q h => (by cases h)⟩
  have hls : jLH ρ ls 16 [some (.ref 1000000), none, none, none, none, none, none, none, none, none, none, none, none, none, none, none] := by
    show lv_has ls 16 [(0, .ref (ρ 1000000))]
    rw [hρ]
    exact hl
  have w := hw p l e room_1 s m #[Value.ref b] below meth c G (fun q : Nat => s.heap.size ≤ q) ρ ρ s.heap [] ls ⟨⟨hx, hb, hml, hown, fun w h => hts w (jtb_WL w h)⟩, hr, hlocks, rfl, hK, st_nest hts, fun _ h => h, ⟨by decide, rfl, rfl, by decide⟩, (fun h => by cases h), fun o ho => by
    cases ho
    exact ⟨st_flags hflags, st_xs hts hs, st_nc hts hs, fun q hq => by
      cases hq
      exact ⟨hX, hbl, Nat.not_le.mpr hbl, hρ⟩⟩⟩ ⟨hP, hD, va_S.rf, fun _ _ => rfl, Nat.le_refl _, fun _ => rfl⟩ hls
  intro T hT X
  obtain ⟨t, st, o, h1, h2, ⟨⟨v, ρ', hv, ho, -⟩, -⟩, L', ⟨⟨_, -⟩, hW, hsame⟩, hfree⟩ := w T hT X
  refine ⟨t, st, o, h1, h2, ?_⟩
  have hv' : v = some (.int 1) := by cases hv; rfl
  subst hv'
  subst ho
  refine ⟨rfl, lw_closed (Drawn.sameBut.refl s.drawn lw_cs) ⟨_, rfl⟩ hW (State.sameButNew.weaken hsame (fun y hy hlt => absurd hlt (Nat.not_lt.mpr (hfree y hy))) (Nat.le_refl _) (Nat.le_refl _))⟩
