/-! the law's cases: written by gen20b.py -/
def lgC (g : Nat → Int64) : LCl := .inl (2, 1, .inr (.inl g))
def JK (jk : LWd) (n : Nat) : Prop := jkR jk ∧ jk.length ≤ 2 * n
abbrev LV (i : Nat) : List (Option Value) := [some (.ref 1000000), some (.ref 0), some (.ref 66), some (.ref 79), some (.int (iv (i : Nat))), none, none]
abbrev LJ (nm : String) (b L : Nat) (xs : Nat → Int32) (we : LWd) (pc : Nat) (lv : List (Option Value)) (st : List Value) (ws : LWd) (k n : Nat) : Prop := JG (.inr (b, L, xs)) cL_law 7 RL lT (some .boolean) nm 12 601024 7293034 0 (.inl (some (.int 1)), we) pc lv st ws k n
theorem jk_lo {jk : LWd} {n : Nat} (h : JK jk n) (g : Nat → Int64) : jkR (lgC g :: jk) := fun m => by
  rw [List.all_cons, h.1 m]
  rfl
theorem sL_79 {z f : Nat → Nat → Int32} {g : Nat → Int64} {jk : LWd} {x : Int64} : sL (wA z f (lgC g :: jk)) 79 0 x = some (wA z f (lgC (vp_updL g 0 x) :: jk)) := rfl
theorem aLd_79 {z f : Nat → Nat → Int32} {g : Nat → Int64} {jk : LWd} : aLd (wA z f (lgC g :: jk)) 79 0 = some (g 0) := rfl
theorem wrp_rs {kf : String → Option Int32} {ns : List String} {ws : LWd} {z1 f1 : Nat → Nat → Int32} {g : Nat → Int64} {jk : LWd} {c : Nat} {v : Int} (hk : ∀ c, c ≤ ns.length → 1 ≤ c → kf (ns.getD (c - 1) "") = some (iv (c : Nat))) (hc : c ≤ ns.length) {x : Option ((Int32 ⊕ String) × LWd)} (hx : x = some (rsC ns c v, wA z1 f1 (lgC g :: jk))) (hl : ws.length = (wA z1 f1 (lgC g :: jk)).length) : ∃ g', wrp kf 79 ws x = some (iv (c : Nat), wA z1 f1 (lgC g' :: jk)) ∧ (c = 0 → g' 0 = (iv v).toInt64) := by
  subst hx
  unfold wrp
  show ∃ g', (if (wA z1 f1 (lgC g :: jk)).length = ws.length then _ else none) = _ ∧ _
  rw [if_pos hl.symm]
  unfold rsC
  by_cases h : c = 0
  · subst h
    rw [if_pos rfl]
    refine ⟨vp_updL g 0 (iv v).toInt64, ?_, fun _ => rfl⟩
    show ((sL (wA z1 f1 (lgC g :: jk)) 79 0 (iv v).toInt64).bind fun w2 => some (0, w2)) = _
    rw [sL_79]
    rfl
  · rw [if_neg h]
    refine ⟨g, ?_, fun e => absurd e h⟩
    show ((kf (ns.getD (c - 1) "")).map fun c => (c, wA z1 f1 (lgC g :: jk))) = _
    rw [hk c hc (by omega)]
    rfl
theorem vin {i j L : Nat} (hL : L ≤ 3072) (hi : i + 6 ≤ L) (hj : j < 6) : vp_in (iv (i : Nat) + iv (j : Nat)) L := by
  rw [iv_add, show (i : Int) + (j : Int) = ((i + j : Nat) : Int) by omega]
  intro q
  have hb : IB ((i + j : Nat) : Int) := ibn (by omega)
  rcases q with q | q
  · have := (iv_lt (b := 0) hb (by decide)).mp q
    omega
  · rw [iv_clamp hb] at q
    omega
theorem lg_self (x : Int64) : lg_cmp x x = 0 := by
  unfold lg_cmp
  rw [if_neg (fun h => absurd h Int64.lt_irrefl), if_pos rfl]
theorem map_q {α : Type} {x : Option (α × (Nat → Nat → Int32) × (Nat → Nat → Int32))} {a : α} {z1 f1 : Nat → Nat → Int32} {r : LWd} {y : Option (α × LWd)} (hy : y = x.map fun q => (q.1, wA q.2.1 q.2.2 r)) (h : x = some (a, z1, f1)) : y = some (a, wA z1 f1 r) := by
  rw [hy, h]
  rfl
theorem map_r {α : Type} {x : Option α} {a : α} {w : LWd} {y : Option (α × LWd)} (hy : y = x.map fun q => (q, w)) (h : x = some a) : y = some (a, w) := by
  rw [hy, h]
  rfl
theorem thr_e {z f : Nat → Nat → Int32} {r : LWd} : m_X11_thrown 66 (wA z f r) = some (z 66 30, wA z f r) := by
  rw [e_X11_thrown]
  rfl
theorem xk_IAEISE : ∀ c, c ≤ [nIAE, nISE].length → 1 ≤ c → xK2 nIAE nISE ([nIAE, nISE].getD (c - 1) "") = some (iv (c : Nat)) := by
  intro c h1 h2
  match c, h2 with
  | 1, _ => decide +kernel
  | 2, _ => decide +kernel
  | c + 3, _ => exact absurd h1 (by show ¬ c + 3 ≤ 2; omega)
theorem hyL_ground : yL_ground.cls ≠ "java/lang/invoke/MethodHandle" ∧ yL_ground.cls ≠ "java/lang/invoke/VarHandle" ∧ (parseMethodDescriptor yL_ground.desc).map (fun d => d.parameters.length) = some (7) := ⟨by decide +kernel, by decide +kernel, by decide +kernel⟩
theorem xk_IAE : ∀ c, c ≤ [nIAE].length → 1 ≤ c → xK1 nIAE ([nIAE].getD (c - 1) "") = some (iv (c : Nat)) := by
  intro c h1 h2
  match c, h2 with
  | 1, _ => decide +kernel
  | c + 2, _ => exact absurd h1 (by show ¬ c + 2 ≤ 1; omega)
theorem hyL_chart : yL_chart.cls ≠ "java/lang/invoke/MethodHandle" ∧ yL_chart.cls ≠ "java/lang/invoke/VarHandle" ∧ (parseMethodDescriptor yL_chart.desc).map (fun d => d.parameters.length) = some (5) := ⟨by decide +kernel, by decide +kernel, by decide +kernel⟩
theorem hyL_leg : yL_leg.cls ≠ "java/lang/invoke/MethodHandle" ∧ yL_leg.cls ≠ "java/lang/invoke/VarHandle" ∧ (parseMethodDescriptor yL_leg.desc).map (fun d => d.parameters.length) = some (5) := ⟨by decide +kernel, by decide +kernel, by decide +kernel⟩
theorem hyL_charge : yL_charge.cls ≠ "java/lang/invoke/MethodHandle" ∧ yL_charge.cls ≠ "java/lang/invoke/VarHandle" ∧ (parseMethodDescriptor yL_charge.desc).map (fun d => d.parameters.length) = some (3) := ⟨by decide +kernel, by decide +kernel, by decide +kernel⟩
theorem xk_IOBIAEISE : ∀ c, c ≤ [nIOB, nIAE, nISE].length → 1 ≤ c → xK3 nIOB nIAE nISE ([nIOB, nIAE, nISE].getD (c - 1) "") = some (iv (c : Nat)) := by
  intro c h1 h2
  match c, h2 with
  | 1, _ => decide +kernel
  | 2, _ => decide +kernel
  | 3, _ => decide +kernel
  | c + 4, _ => exact absurd h1 (by show ¬ c + 4 ≤ 3; omega)
theorem hyL_phase : yL_phase.cls ≠ "java/lang/invoke/MethodHandle" ∧ yL_phase.cls ≠ "java/lang/invoke/VarHandle" ∧ (parseMethodDescriptor yL_phase.desc).map (fun d => d.parameters.length) = some (7) := ⟨by decide +kernel, by decide +kernel, by decide +kernel⟩
theorem hyL_load : yL_load.cls ≠ "java/lang/invoke/MethodHandle" ∧ yL_load.cls ≠ "java/lang/invoke/VarHandle" ∧ (parseMethodDescriptor yL_load.desc).map (fun d => d.parameters.length) = some (5) := ⟨by decide +kernel, by decide +kernel, by decide +kernel⟩
theorem xk_ISE : ∀ c, c ≤ [nISE].length → 1 ≤ c → xK1 nISE ([nISE].getD (c - 1) "") = some (iv (c : Nat)) := by
  intro c h1 h2
  match c, h2 with
  | 1, _ => decide +kernel
  | c + 2, _ => exact absurd h1 (by show ¬ c + 2 ≤ 1; omega)
theorem hyL_rise : yL_rise.cls ≠ "java/lang/invoke/MethodHandle" ∧ yL_rise.cls ≠ "java/lang/invoke/VarHandle" ∧ (parseMethodDescriptor yL_rise.desc).map (fun d => d.parameters.length) = some (2) := ⟨by decide +kernel, by decide +kernel, by decide +kernel⟩
theorem xk_IOBISE : ∀ c, c ≤ [nIOB, nISE].length → 1 ≤ c → xK2 nIOB nISE ([nIOB, nISE].getD (c - 1) "") = some (iv (c : Nat)) := by
  intro c h1 h2
  match c, h2 with
  | 1, _ => decide +kernel
  | 2, _ => decide +kernel
  | c + 3, _ => exact absurd h1 (by show ¬ c + 3 ≤ 2; omega)
theorem hyL_lift : yL_lift.cls ≠ "java/lang/invoke/MethodHandle" ∧ yL_lift.cls ≠ "java/lang/invoke/VarHandle" ∧ (parseMethodDescriptor yL_lift.desc).map (fun d => d.parameters.length) = some (3) := ⟨by decide +kernel, by decide +kernel, by decide +kernel⟩
theorem hyL_place : yL_place.cls ≠ "java/lang/invoke/MethodHandle" ∧ yL_place.cls ≠ "java/lang/invoke/VarHandle" ∧ (parseMethodDescriptor yL_place.desc).map (fun d => d.parameters.length) = some (5) := ⟨by decide +kernel, by decide +kernel, by decide +kernel⟩
theorem hyL_shift : yL_shift.cls ≠ "java/lang/invoke/MethodHandle" ∧ yL_shift.cls ≠ "java/lang/invoke/VarHandle" ∧ (parseMethodDescriptor yL_shift.desc).map (fun d => d.parameters.length) = some (4) := ⟨by decide +kernel, by decide +kernel, by decide +kernel⟩
theorem hyL_walk : yL_walk.cls ≠ "java/lang/invoke/MethodHandle" ∧ yL_walk.cls ≠ "java/lang/invoke/VarHandle" ∧ (parseMethodDescriptor yL_walk.desc).map (fun d => d.parameters.length) = some (3) := ⟨by decide +kernel, by decide +kernel, by decide +kernel⟩
theorem hyL_machine : yL_machine.cls ≠ "java/lang/invoke/MethodHandle" ∧ yL_machine.cls ≠ "java/lang/invoke/VarHandle" ∧ (parseMethodDescriptor yL_machine.desc).map (fun d => d.parameters.length) = some (3) := ⟨by decide +kernel, by decide +kernel, by decide +kernel⟩
theorem xk_IOBIAE : ∀ c, c ≤ [nIOB, nIAE].length → 1 ≤ c → xK2 nIOB nIAE ([nIOB, nIAE].getD (c - 1) "") = some (iv (c : Nat)) := by
  intro c h1 h2
  match c, h2 with
  | 1, _ => decide +kernel
  | 2, _ => decide +kernel
  | c + 3, _ => exact absurd h1 (by show ¬ c + 3 ≤ 2; omega)
theorem hyL_foot : yL_foot.cls ≠ "java/lang/invoke/MethodHandle" ∧ yL_foot.cls ≠ "java/lang/invoke/VarHandle" ∧ (parseMethodDescriptor yL_foot.desc).map (fun d => d.parameters.length) = some (4) := ⟨by decide +kernel, by decide +kernel, by decide +kernel⟩
theorem hyL_point : yL_point.cls ≠ "java/lang/invoke/MethodHandle" ∧ yL_point.cls ≠ "java/lang/invoke/VarHandle" ∧ (parseMethodDescriptor yL_point.desc).map (fun d => d.parameters.length) = some (5) := ⟨by decide +kernel, by decide +kernel, by decide +kernel⟩
theorem hyL_corner : yL_corner.cls ≠ "java/lang/invoke/MethodHandle" ∧ yL_corner.cls ≠ "java/lang/invoke/VarHandle" ∧ (parseMethodDescriptor yL_corner.desc).map (fun d => d.parameters.length) = some (3) := ⟨by decide +kernel, by decide +kernel, by decide +kernel⟩
theorem xk_IOB : ∀ c, c ≤ [nIOB].length → 1 ≤ c → xK1 nIOB ([nIOB].getD (c - 1) "") = some (iv (c : Nat)) := by
  intro c h1 h2
  match c, h2 with
  | 1, _ => decide +kernel
  | c + 2, _ => exact absurd h1 (by show ¬ c + 2 ≤ 1; omega)
theorem hyL_foothold : yL_foothold.cls ≠ "java/lang/invoke/MethodHandle" ∧ yL_foothold.cls ≠ "java/lang/invoke/VarHandle" ∧ (parseMethodDescriptor yL_foothold.desc).map (fun d => d.parameters.length) = some (3) := ⟨by decide +kernel, by decide +kernel, by decide +kernel⟩
theorem hyL_wouldLift : yL_wouldLift.cls ≠ "java/lang/invoke/MethodHandle" ∧ yL_wouldLift.cls ≠ "java/lang/invoke/VarHandle" ∧ (parseMethodDescriptor yL_wouldLift.desc).map (fun d => d.parameters.length) = some (3) := ⟨by decide +kernel, by decide +kernel, by decide +kernel⟩
theorem hyL_fewest : yL_fewest.cls ≠ "java/lang/invoke/MethodHandle" ∧ yL_fewest.cls ≠ "java/lang/invoke/VarHandle" ∧ (parseMethodDescriptor yL_fewest.desc).map (fun d => d.parameters.length) = some (4) := ⟨by decide +kernel, by decide +kernel, by decide +kernel⟩
theorem hyL_fewestAnew : yL_fewestAnew.cls ≠ "java/lang/invoke/MethodHandle" ∧ yL_fewestAnew.cls ≠ "java/lang/invoke/VarHandle" ∧ (parseMethodDescriptor yL_fewestAnew.desc).map (fun d => d.parameters.length) = some (4) := ⟨by decide +kernel, by decide +kernel, by decide +kernel⟩
theorem hyL_fall : yL_fall.cls ≠ "java/lang/invoke/MethodHandle" ∧ yL_fall.cls ≠ "java/lang/invoke/VarHandle" ∧ (parseMethodDescriptor yL_fall.desc).map (fun d => d.parameters.length) = some (4) := ⟨by decide +kernel, by decide +kernel, by decide +kernel⟩
set_option maxRecDepth 100000 in
theorem lc_ground {nm : String} {b L : Nat} {xs : Nat → Int32} {i n : Nat} {z f : Nat → Nat → Int32} {g : Nat → Int64} {jk : LWd} (hL : L ≤ 3072) (hi : i + 6 ≤ L) (hn : n ≤ 600) (hI : IN (n : Nat) z f) (hj : JK jk n) : ∃ z2 f2 g2 jk2, IN ((n + 1 : Nat) : Int) z2 f2 ∧ JK jk2 (n + 1) ∧ ∀ we, LJ nm b L xs we 1588 (LV i) [] (wA z2 f2 (lgC g2 :: jk2)) (1000 + 10 * (n + 1)) (30000 + 1000 * (n + 1)) → LJ nm b L xs we 152 (LV i) [] (wA z f (lgC g :: jk)) (1000 + 10 * n) (30000 + 1000 * n) := by
  obtain ⟨c, v, z1, f1, v', z2, f2, hc, e1, e2, t2, u2, hI2⟩ := co_ground (by omega) hI (xs (iv (i : Nat) + 1).toNatClampNeg) (xs (iv (i : Nat) + 2).toNatClampNeg) (xs (iv (i : Nat) + 3).toNatClampNeg) (xs (iv (i : Nat) + 4).toNatClampNeg) (xs (iv (i : Nat) + 5).toNatClampNeg)
  have x0 := map_q (e_X10_ground (r := lgC g :: jk)) e1
  obtain ⟨g', x1, hg⟩ := wrp_rs xk_IAEISE hc x0 (ws := wA z f (lgC g :: jk)) rfl
  have x1' : m_L_ground 0 (xs (iv (i : Nat) + 1).toNatClampNeg) (xs (iv (i : Nat) + 2).toNatClampNeg) (xs (iv (i : Nat) + 3).toNatClampNeg) (xs (iv (i : Nat) + 4).toNatClampNeg) (xs (iv (i : Nat) + 5).toNatClampNeg) 79 (wA z f (lgC g :: jk)) = some (iv (c : Nat), wA z1 f1 (lgC g' :: jk)) := x1
  have x2 := map_q (e_X11_ground (r := lgC g' :: jk)) e2
  refine ⟨z2, f2, g', jk, by rw [Int.natCast_add]; exact hI2, ⟨hj.1, by have := hj.2; omega⟩, fun we kk => ?_⟩
  refine j_aload_n (pc := 152) dL_law_152 rfl ?_
  refine j_aload_n (pc := 153) dL_law_153 rfl ?_
  refine j_iload (pc := 154) dL_law_154 rfl ?_
  refine j_iconst (pc := 156) dL_law_156 (v := 1) (by decide) ?_
  refine j_iadd (pc := 157) dL_law_157 ?_
  refine j_sld (pc := 158) rfl dL_law_158 (vin (j := 1) hL hi (by decide)) ?_
  refine j_aload_n (pc := 159) dL_law_159 rfl ?_
  refine j_iload (pc := 160) dL_law_160 rfl ?_
  refine j_iconst (pc := 162) dL_law_162 (v := 2) (by decide) ?_
  refine j_iadd (pc := 163) dL_law_163 ?_
  refine j_sld (pc := 164) rfl dL_law_164 (vin (j := 2) hL hi (by decide)) ?_
  refine j_aload_n (pc := 165) dL_law_165 rfl ?_
  refine j_iload (pc := 166) dL_law_166 rfl ?_
  refine j_iconst (pc := 168) dL_law_168 (v := 3) (by decide) ?_
  refine j_iadd (pc := 169) dL_law_169 ?_
  refine j_sld (pc := 170) rfl dL_law_170 (vin (j := 3) hL hi (by decide)) ?_
  refine j_aload_n (pc := 171) dL_law_171 rfl ?_
  refine j_iload (pc := 172) dL_law_172 rfl ?_
  refine j_iconst (pc := 174) dL_law_174 (v := 4) (by decide) ?_
  refine j_iadd (pc := 175) dL_law_175 ?_
  refine j_sld (pc := 176) rfl dL_law_176 (vin (j := 4) hL hi (by decide)) ?_
  refine j_aload_n (pc := 177) dL_law_177 rfl ?_
  refine j_iload (pc := 178) dL_law_178 rfl ?_
  refine j_iconst (pc := 180) dL_law_180 (v := 5) (by decide) ?_
  refine j_iadd (pc := 181) dL_law_181 ?_
  refine j_sld (pc := 182) rfl dL_law_182 (vin (j := 5) hL hi (by decide)) ?_
  refine j_aload_n (pc := 183) dL_law_183 rfl ?_
  refine j_callSW (pc := 184) (hh := [(0, 16, 19, 13), (0, 16, 23, 15)]) (As := [.ref 0, .int (xs (iv (i : Nat) + 1).toNatClampNeg), .int (xs (iv (i : Nat) + 2).toNatClampNeg), .int (xs (iv (i : Nat) + 3).toNatClampNeg), .int (xs (iv (i : Nat) + 4).toNatClampNeg), .int (xs (iv (i : Nat) + 5).toNatClampNeg), .ref 79]) (k' := 1000 + 10 * n + 1) (n' := 30000 + 1000 * n + 6) dL_law_184 (s_L_ground x1') (jmS ll_8 ll_9 ll_0 ll_10) rfl hyL_ground rfl (by decide) (by decide) (by decide) (Nat.le_refl _) (Nat.le_refl _) (by omega) (by omega) rfl ?_
  refine j_istore_5 (pc := 187) dL_law_187 (by decide) rfl ?_
  refine j_aload_n (pc := 189) dL_law_189 rfl ?_
  refine j_aload_n (pc := 190) dL_law_190 rfl ?_
  refine j_iload (pc := 191) dL_law_191 rfl ?_
  refine j_iconst (pc := 193) dL_law_193 (v := 1) (by decide) ?_
  refine j_iadd (pc := 194) dL_law_194 ?_
  refine j_sld (pc := 195) rfl dL_law_195 (vin (j := 1) hL hi (by decide)) ?_
  refine j_aload_n (pc := 196) dL_law_196 rfl ?_
  refine j_iload (pc := 197) dL_law_197 rfl ?_
  refine j_iconst (pc := 199) dL_law_199 (v := 2) (by decide) ?_
  refine j_iadd (pc := 200) dL_law_200 ?_
  refine j_sld (pc := 201) rfl dL_law_201 (vin (j := 2) hL hi (by decide)) ?_
  refine j_aload_n (pc := 202) dL_law_202 rfl ?_
  refine j_iload (pc := 203) dL_law_203 rfl ?_
  refine j_iconst (pc := 205) dL_law_205 (v := 3) (by decide) ?_
  refine j_iadd (pc := 206) dL_law_206 ?_
  refine j_sld (pc := 207) rfl dL_law_207 (vin (j := 3) hL hi (by decide)) ?_
  refine j_aload_n (pc := 208) dL_law_208 rfl ?_
  refine j_iload (pc := 209) dL_law_209 rfl ?_
  refine j_iconst (pc := 211) dL_law_211 (v := 4) (by decide) ?_
  refine j_iadd (pc := 212) dL_law_212 ?_
  refine j_sld (pc := 213) rfl dL_law_213 (vin (j := 4) hL hi (by decide)) ?_
  refine j_aload_n (pc := 214) dL_law_214 rfl ?_
  refine j_iload (pc := 215) dL_law_215 rfl ?_
  refine j_iconst (pc := 217) dL_law_217 (v := 5) (by decide) ?_
  refine j_iadd (pc := 218) dL_law_218 ?_
  refine j_sld (pc := 219) rfl dL_law_219 (vin (j := 5) hL hi (by decide)) ?_
  refine j_callV_g (pc := 220) (As := [.int (xs (iv (i : Nat) + 1).toNatClampNeg), .int (xs (iv (i : Nat) + 2).toNatClampNeg), .int (xs (iv (i : Nat) + 3).toNatClampNeg), .int (xs (iv (i : Nat) + 4).toNatClampNeg), .int (xs (iv (i : Nat) + 5).toNatClampNeg)]) (k' := 1000 + 10 * n + 1 + 0) (n' := 30000 + 1000 * n + 6 + 0) dL_law_220 (s_X11_ground x2) (jmV ll_144 ll_145 ll_146 (jlw lw_544) ll_147) rfl hv_X11_ground rfl (r_X11_ground x2) rfl (by decide) (by decide) (Nat.le_of_ble_eq_true rfl) (Nat.le_refl _) (Nat.le_refl _) (by omega) (by omega) (Or.inl rfl) ?_
  refine j_istore_6 (pc := 223) dL_law_223 (by decide) rfl ?_
  refine j_aload_n (pc := 225) dL_law_225 rfl ?_
  refine j_callV_g (pc := 226) (As := []) (k' := 1000 + 10 * n + 1 + 0) (n' := 30000 + 1000 * n + 6 + 0) dL_law_226 (s_X11_thrown thr_e) (jmV ll_240 ll_241 ll_242 (jlw lw_544) ll_243) rfl hv_X11_thrown rfl (r_X11_thrown thr_e) rfl (by decide) (by decide) (Nat.le_of_ble_eq_true rfl) (Nat.le_refl _) (Nat.le_refl _) (by omega) (by omega) (Or.inl rfl) ?_
  refine j_iload (pc := 229) dL_law_229 rfl ?_
  refine j_icmp_eq (pc := 231) (tgt := 236) dL_law_231 (by decide) (fun _ => ?_) (fun q => absurd t2 q)
  refine j_iload (pc := 236) dL_law_236 rfl ?_
  refine j_if_ne (pc := 238) (tgt := 253) dL_law_238 (by decide) (fun _ => ?_) (fun q => ?_)
  · refine j_goto (pc := 253) (tgt := 1588) dL_law_253 (by decide) ?_
    refine j_mask [true, true, true, true, true, false, false] ?_
    exact j_wid (by omega) (by omega) kk
  · have hc0 : c = 0 := by
      have hb : c < 100000 := Nat.lt_of_le_of_lt hc (by decide)
      have := (iv_eq (b := 0) (ibn hb) (by decide)).mp q
      omega
    refine j_aload_n (pc := 241) dL_law_241 rfl ?_
    refine j_iconst (pc := 242) dL_law_242 (v := 0) (by decide) ?_
    refine j_lald (pc := 243) dL_law_243 aLd_79 ?_
    refine j_iload (pc := 244) dL_law_244 rfl ?_
    refine j_i2l (pc := 246) dL_law_246 ?_
    refine j_lcmp (pc := 247) dL_law_247 ?_
    refine j_if_eq (pc := 248) (tgt := 253) dL_law_248 (by decide) (fun _ => ?_) (fun q => absurd (by rw [hg hc0, u2 hc0]; exact lg_self _) q)
    refine j_goto (pc := 253) (tgt := 1588) dL_law_253 (by decide) ?_
    refine j_mask [true, true, true, true, true, false, false] ?_
    exact j_wid (by omega) (by omega) kk
set_option maxRecDepth 100000 in
theorem lc_chart {nm : String} {b L : Nat} {xs : Nat → Int32} {i n : Nat} {z f : Nat → Nat → Int32} {g : Nat → Int64} {jk : LWd} (hL : L ≤ 3072) (hi : i + 6 ≤ L) (hn : n ≤ 600) (hI : IN (n : Nat) z f) (hj : JK jk n) : ∃ z2 f2 g2 jk2, IN ((n + 1 : Nat) : Int) z2 f2 ∧ JK jk2 (n + 1) ∧ ∀ we, LJ nm b L xs we 1588 (LV i) [] (wA z2 f2 (lgC g2 :: jk2)) (1000 + 10 * (n + 1)) (30000 + 1000 * (n + 1)) → LJ nm b L xs we 256 (LV i) [] (wA z f (lgC g :: jk)) (1000 + 10 * n) (30000 + 1000 * n) := by
  obtain ⟨c, v, z1, f1, v', z2, f2, hc, e1, e2, t2, u2, hI2⟩ := co_chart (by omega) hI (xs (iv (i : Nat) + 1).toNatClampNeg) (xs (iv (i : Nat) + 2).toNatClampNeg) (xs (iv (i : Nat) + 3).toNatClampNeg)
  have x0 := map_q (e_X10_chart (r := lgC g :: jk)) e1
  obtain ⟨g', x1, hg⟩ := wrp_rs xk_IAE hc x0 (ws := wA z f (lgC g :: jk)) rfl
  have x1' : m_L_chart 0 (xs (iv (i : Nat) + 1).toNatClampNeg) (xs (iv (i : Nat) + 2).toNatClampNeg) (xs (iv (i : Nat) + 3).toNatClampNeg) 79 (wA z f (lgC g :: jk)) = some (iv (c : Nat), wA z1 f1 (lgC g' :: jk)) := x1
  have x2 := map_q (e_X11_chart (r := lgC g' :: jk)) e2
  refine ⟨z2, f2, g', jk, by rw [Int.natCast_add]; exact hI2, ⟨hj.1, by have := hj.2; omega⟩, fun we kk => ?_⟩
  refine j_aload_n (pc := 256) dL_law_256 rfl ?_
  refine j_aload_n (pc := 257) dL_law_257 rfl ?_
  refine j_iload (pc := 258) dL_law_258 rfl ?_
  refine j_iconst (pc := 260) dL_law_260 (v := 1) (by decide) ?_
  refine j_iadd (pc := 261) dL_law_261 ?_
  refine j_sld (pc := 262) rfl dL_law_262 (vin (j := 1) hL hi (by decide)) ?_
  refine j_aload_n (pc := 263) dL_law_263 rfl ?_
  refine j_iload (pc := 264) dL_law_264 rfl ?_
  refine j_iconst (pc := 266) dL_law_266 (v := 2) (by decide) ?_
  refine j_iadd (pc := 267) dL_law_267 ?_
  refine j_sld (pc := 268) rfl dL_law_268 (vin (j := 2) hL hi (by decide)) ?_
  refine j_aload_n (pc := 269) dL_law_269 rfl ?_
  refine j_iload (pc := 270) dL_law_270 rfl ?_
  refine j_iconst (pc := 272) dL_law_272 (v := 3) (by decide) ?_
  refine j_iadd (pc := 273) dL_law_273 ?_
  refine j_sld (pc := 274) rfl dL_law_274 (vin (j := 3) hL hi (by decide)) ?_
  refine j_aload_n (pc := 275) dL_law_275 rfl ?_
  refine j_callSW (pc := 276) (hh := [(0, 12, 15, 13)]) (As := [.ref 0, .int (xs (iv (i : Nat) + 1).toNatClampNeg), .int (xs (iv (i : Nat) + 2).toNatClampNeg), .int (xs (iv (i : Nat) + 3).toNatClampNeg), .ref 79]) (k' := 1000 + 10 * n + 1) (n' := 30000 + 1000 * n + 6) dL_law_276 (s_L_chart x1') (jmS ll_15 ll_16 ll_0 ll_17) rfl hyL_chart rfl (by decide) (by decide) (by decide) (Nat.le_refl _) (Nat.le_refl _) (by omega) (by omega) rfl ?_
  refine j_istore_5 (pc := 279) dL_law_279 (by decide) rfl ?_
  refine j_aload_n (pc := 281) dL_law_281 rfl ?_
  refine j_aload_n (pc := 282) dL_law_282 rfl ?_
  refine j_iload (pc := 283) dL_law_283 rfl ?_
  refine j_iconst (pc := 285) dL_law_285 (v := 1) (by decide) ?_
  refine j_iadd (pc := 286) dL_law_286 ?_
  refine j_sld (pc := 287) rfl dL_law_287 (vin (j := 1) hL hi (by decide)) ?_
  refine j_aload_n (pc := 288) dL_law_288 rfl ?_
  refine j_iload (pc := 289) dL_law_289 rfl ?_
  refine j_iconst (pc := 291) dL_law_291 (v := 2) (by decide) ?_
  refine j_iadd (pc := 292) dL_law_292 ?_
  refine j_sld (pc := 293) rfl dL_law_293 (vin (j := 2) hL hi (by decide)) ?_
  refine j_aload_n (pc := 294) dL_law_294 rfl ?_
  refine j_iload (pc := 295) dL_law_295 rfl ?_
  refine j_iconst (pc := 297) dL_law_297 (v := 3) (by decide) ?_
  refine j_iadd (pc := 298) dL_law_298 ?_
  refine j_sld (pc := 299) rfl dL_law_299 (vin (j := 3) hL hi (by decide)) ?_
  refine j_callV_g (pc := 300) (As := [.int (xs (iv (i : Nat) + 1).toNatClampNeg), .int (xs (iv (i : Nat) + 2).toNatClampNeg), .int (xs (iv (i : Nat) + 3).toNatClampNeg)]) (k' := 1000 + 10 * n + 1 + 0) (n' := 30000 + 1000 * n + 6 + 0) dL_law_300 (s_X11_chart x2) (jmV ll_148 ll_149 ll_150 (jlw lw_544) ll_151) rfl hv_X11_chart rfl (r_X11_chart x2) rfl (by decide) (by decide) (Nat.le_of_ble_eq_true rfl) (Nat.le_refl _) (Nat.le_refl _) (by omega) (by omega) (Or.inl rfl) ?_
  refine j_istore_6 (pc := 303) dL_law_303 (by decide) rfl ?_
  refine j_aload_n (pc := 305) dL_law_305 rfl ?_
  refine j_callV_g (pc := 306) (As := []) (k' := 1000 + 10 * n + 1 + 0) (n' := 30000 + 1000 * n + 6 + 0) dL_law_306 (s_X11_thrown thr_e) (jmV ll_240 ll_241 ll_242 (jlw lw_544) ll_243) rfl hv_X11_thrown rfl (r_X11_thrown thr_e) rfl (by decide) (by decide) (Nat.le_of_ble_eq_true rfl) (Nat.le_refl _) (Nat.le_refl _) (by omega) (by omega) (Or.inl rfl) ?_
  refine j_iload (pc := 309) dL_law_309 rfl ?_
  refine j_icmp_eq (pc := 311) (tgt := 316) dL_law_311 (by decide) (fun _ => ?_) (fun q => absurd t2 q)
  refine j_iload (pc := 316) dL_law_316 rfl ?_
  refine j_if_ne (pc := 318) (tgt := 333) dL_law_318 (by decide) (fun _ => ?_) (fun q => ?_)
  · refine j_goto (pc := 333) (tgt := 1588) dL_law_333 (by decide) ?_
    refine j_mask [true, true, true, true, true, false, false] ?_
    exact j_wid (by omega) (by omega) kk
  · have hc0 : c = 0 := by
      have hb : c < 100000 := Nat.lt_of_le_of_lt hc (by decide)
      have := (iv_eq (b := 0) (ibn hb) (by decide)).mp q
      omega
    refine j_aload_n (pc := 321) dL_law_321 rfl ?_
    refine j_iconst (pc := 322) dL_law_322 (v := 0) (by decide) ?_
    refine j_lald (pc := 323) dL_law_323 aLd_79 ?_
    refine j_iload (pc := 324) dL_law_324 rfl ?_
    refine j_i2l (pc := 326) dL_law_326 ?_
    refine j_lcmp (pc := 327) dL_law_327 ?_
    refine j_if_eq (pc := 328) (tgt := 333) dL_law_328 (by decide) (fun _ => ?_) (fun q => absurd (by rw [hg hc0, u2 hc0]; exact lg_self _) q)
    refine j_goto (pc := 333) (tgt := 1588) dL_law_333 (by decide) ?_
    refine j_mask [true, true, true, true, true, false, false] ?_
    exact j_wid (by omega) (by omega) kk
set_option maxRecDepth 100000 in
theorem lc_leg {nm : String} {b L : Nat} {xs : Nat → Int32} {i n : Nat} {z f : Nat → Nat → Int32} {g : Nat → Int64} {jk : LWd} (hL : L ≤ 3072) (hi : i + 6 ≤ L) (hn : n ≤ 600) (hI : IN (n : Nat) z f) (hj : JK jk n) : ∃ z2 f2 g2 jk2, IN ((n + 1 : Nat) : Int) z2 f2 ∧ JK jk2 (n + 1) ∧ ∀ we, LJ nm b L xs we 1588 (LV i) [] (wA z2 f2 (lgC g2 :: jk2)) (1000 + 10 * (n + 1)) (30000 + 1000 * (n + 1)) → LJ nm b L xs we 336 (LV i) [] (wA z f (lgC g :: jk)) (1000 + 10 * n) (30000 + 1000 * n) := by
  obtain ⟨c, v, z1, f1, v', z2, f2, hc, e1, e2, t2, u2, hI2⟩ := co_leg (by omega) hI (xs (iv (i : Nat) + 1).toNatClampNeg) (xs (iv (i : Nat) + 2).toNatClampNeg) (xs (iv (i : Nat) + 3).toNatClampNeg)
  have x0 := map_q (e_X10_leg (r := lgC g :: jk)) e1
  obtain ⟨g', x1, hg⟩ := wrp_rs xk_IAEISE hc x0 (ws := wA z f (lgC g :: jk)) rfl
  have x1' : m_L_leg 0 (xs (iv (i : Nat) + 1).toNatClampNeg) (xs (iv (i : Nat) + 2).toNatClampNeg) (xs (iv (i : Nat) + 3).toNatClampNeg) 79 (wA z f (lgC g :: jk)) = some (iv (c : Nat), wA z1 f1 (lgC g' :: jk)) := x1
  have x2 := map_q (e_X11_leg (r := lgC g' :: jk)) e2
  refine ⟨z2, f2, g', jk, by rw [Int.natCast_add]; exact hI2, ⟨hj.1, by have := hj.2; omega⟩, fun we kk => ?_⟩
  refine j_aload_n (pc := 336) dL_law_336 rfl ?_
  refine j_aload_n (pc := 337) dL_law_337 rfl ?_
  refine j_iload (pc := 338) dL_law_338 rfl ?_
  refine j_iconst (pc := 340) dL_law_340 (v := 1) (by decide) ?_
  refine j_iadd (pc := 341) dL_law_341 ?_
  refine j_sld (pc := 342) rfl dL_law_342 (vin (j := 1) hL hi (by decide)) ?_
  refine j_aload_n (pc := 343) dL_law_343 rfl ?_
  refine j_iload (pc := 344) dL_law_344 rfl ?_
  refine j_iconst (pc := 346) dL_law_346 (v := 2) (by decide) ?_
  refine j_iadd (pc := 347) dL_law_347 ?_
  refine j_sld (pc := 348) rfl dL_law_348 (vin (j := 2) hL hi (by decide)) ?_
  refine j_aload_n (pc := 349) dL_law_349 rfl ?_
  refine j_iload (pc := 350) dL_law_350 rfl ?_
  refine j_iconst (pc := 352) dL_law_352 (v := 3) (by decide) ?_
  refine j_iadd (pc := 353) dL_law_353 ?_
  refine j_sld (pc := 354) rfl dL_law_354 (vin (j := 3) hL hi (by decide)) ?_
  refine j_aload_n (pc := 355) dL_law_355 rfl ?_
  refine j_callSW (pc := 356) (hh := [(0, 12, 15, 13), (0, 12, 19, 15)]) (As := [.ref 0, .int (xs (iv (i : Nat) + 1).toNatClampNeg), .int (xs (iv (i : Nat) + 2).toNatClampNeg), .int (xs (iv (i : Nat) + 3).toNatClampNeg), .ref 79]) (k' := 1000 + 10 * n + 1) (n' := 30000 + 1000 * n + 6) dL_law_356 (s_L_leg x1') (jmS ll_22 ll_23 ll_0 ll_24) rfl hyL_leg rfl (by decide) (by decide) (by decide) (Nat.le_refl _) (Nat.le_refl _) (by omega) (by omega) rfl ?_
  refine j_istore_5 (pc := 359) dL_law_359 (by decide) rfl ?_
  refine j_aload_n (pc := 361) dL_law_361 rfl ?_
  refine j_aload_n (pc := 362) dL_law_362 rfl ?_
  refine j_iload (pc := 363) dL_law_363 rfl ?_
  refine j_iconst (pc := 365) dL_law_365 (v := 1) (by decide) ?_
  refine j_iadd (pc := 366) dL_law_366 ?_
  refine j_sld (pc := 367) rfl dL_law_367 (vin (j := 1) hL hi (by decide)) ?_
  refine j_aload_n (pc := 368) dL_law_368 rfl ?_
  refine j_iload (pc := 369) dL_law_369 rfl ?_
  refine j_iconst (pc := 371) dL_law_371 (v := 2) (by decide) ?_
  refine j_iadd (pc := 372) dL_law_372 ?_
  refine j_sld (pc := 373) rfl dL_law_373 (vin (j := 2) hL hi (by decide)) ?_
  refine j_aload_n (pc := 374) dL_law_374 rfl ?_
  refine j_iload (pc := 375) dL_law_375 rfl ?_
  refine j_iconst (pc := 377) dL_law_377 (v := 3) (by decide) ?_
  refine j_iadd (pc := 378) dL_law_378 ?_
  refine j_sld (pc := 379) rfl dL_law_379 (vin (j := 3) hL hi (by decide)) ?_
  refine j_callV_g (pc := 380) (As := [.int (xs (iv (i : Nat) + 1).toNatClampNeg), .int (xs (iv (i : Nat) + 2).toNatClampNeg), .int (xs (iv (i : Nat) + 3).toNatClampNeg)]) (k' := 1000 + 10 * n + 1 + 0) (n' := 30000 + 1000 * n + 6 + 0) dL_law_380 (s_X11_leg x2) (jmV ll_152 ll_153 ll_154 (jlw lw_544) ll_155) rfl hv_X11_leg rfl (r_X11_leg x2) rfl (by decide) (by decide) (Nat.le_of_ble_eq_true rfl) (Nat.le_refl _) (Nat.le_refl _) (by omega) (by omega) (Or.inl rfl) ?_
  refine j_istore_6 (pc := 383) dL_law_383 (by decide) rfl ?_
  refine j_aload_n (pc := 385) dL_law_385 rfl ?_
  refine j_callV_g (pc := 386) (As := []) (k' := 1000 + 10 * n + 1 + 0) (n' := 30000 + 1000 * n + 6 + 0) dL_law_386 (s_X11_thrown thr_e) (jmV ll_240 ll_241 ll_242 (jlw lw_544) ll_243) rfl hv_X11_thrown rfl (r_X11_thrown thr_e) rfl (by decide) (by decide) (Nat.le_of_ble_eq_true rfl) (Nat.le_refl _) (Nat.le_refl _) (by omega) (by omega) (Or.inl rfl) ?_
  refine j_iload (pc := 389) dL_law_389 rfl ?_
  refine j_icmp_eq (pc := 391) (tgt := 396) dL_law_391 (by decide) (fun _ => ?_) (fun q => absurd t2 q)
  refine j_iload (pc := 396) dL_law_396 rfl ?_
  refine j_if_ne (pc := 398) (tgt := 413) dL_law_398 (by decide) (fun _ => ?_) (fun q => ?_)
  · refine j_goto (pc := 413) (tgt := 1588) dL_law_413 (by decide) ?_
    refine j_mask [true, true, true, true, true, false, false] ?_
    exact j_wid (by omega) (by omega) kk
  · have hc0 : c = 0 := by
      have hb : c < 100000 := Nat.lt_of_le_of_lt hc (by decide)
      have := (iv_eq (b := 0) (ibn hb) (by decide)).mp q
      omega
    refine j_aload_n (pc := 401) dL_law_401 rfl ?_
    refine j_iconst (pc := 402) dL_law_402 (v := 0) (by decide) ?_
    refine j_lald (pc := 403) dL_law_403 aLd_79 ?_
    refine j_iload (pc := 404) dL_law_404 rfl ?_
    refine j_i2l (pc := 406) dL_law_406 ?_
    refine j_lcmp (pc := 407) dL_law_407 ?_
    refine j_if_eq (pc := 408) (tgt := 413) dL_law_408 (by decide) (fun _ => ?_) (fun q => absurd (by rw [hg hc0, u2 hc0]; exact lg_self _) q)
    refine j_goto (pc := 413) (tgt := 1588) dL_law_413 (by decide) ?_
    refine j_mask [true, true, true, true, true, false, false] ?_
    exact j_wid (by omega) (by omega) kk
set_option maxRecDepth 100000 in
theorem lc_charge {nm : String} {b L : Nat} {xs : Nat → Int32} {i n : Nat} {z f : Nat → Nat → Int32} {g : Nat → Int64} {jk : LWd} (hL : L ≤ 3072) (hi : i + 6 ≤ L) (hn : n ≤ 600) (hI : IN (n : Nat) z f) (hj : JK jk n) : ∃ z2 f2 g2 jk2, IN ((n + 1 : Nat) : Int) z2 f2 ∧ JK jk2 (n + 1) ∧ ∀ we, LJ nm b L xs we 1588 (LV i) [] (wA z2 f2 (lgC g2 :: jk2)) (1000 + 10 * (n + 1)) (30000 + 1000 * (n + 1)) → LJ nm b L xs we 416 (LV i) [] (wA z f (lgC g :: jk)) (1000 + 10 * n) (30000 + 1000 * n) := by
  obtain ⟨c, v, z1, f1, v', z2, f2, hc, e1, e2, t2, u2, hI2⟩ := co_charge (by omega) hI (xs (iv (i : Nat) + 1).toNatClampNeg)
  have x0 := map_q (e_X10_charge (r := lgC g :: jk)) e1
  obtain ⟨g', x1, hg⟩ := wrp_rs xk_IAE hc x0 (ws := wA z f (lgC g :: jk)) rfl
  have x1' : m_L_charge 0 (xs (iv (i : Nat) + 1).toNatClampNeg) 79 (wA z f (lgC g :: jk)) = some (iv (c : Nat), wA z1 f1 (lgC g' :: jk)) := x1
  have x2 := map_q (e_X11_charge (r := lgC g' :: jk)) e2
  refine ⟨z2, f2, g', jk, by rw [Int.natCast_add]; exact hI2, ⟨hj.1, by have := hj.2; omega⟩, fun we kk => ?_⟩
  refine j_aload_n (pc := 416) dL_law_416 rfl ?_
  refine j_aload_n (pc := 417) dL_law_417 rfl ?_
  refine j_iload (pc := 418) dL_law_418 rfl ?_
  refine j_iconst (pc := 420) dL_law_420 (v := 1) (by decide) ?_
  refine j_iadd (pc := 421) dL_law_421 ?_
  refine j_sld (pc := 422) rfl dL_law_422 (vin (j := 1) hL hi (by decide)) ?_
  refine j_aload_n (pc := 423) dL_law_423 rfl ?_
  refine j_callSW (pc := 424) (hh := [(0, 9, 12, 13)]) (As := [.ref 0, .int (xs (iv (i : Nat) + 1).toNatClampNeg), .ref 79]) (k' := 1000 + 10 * n + 1) (n' := 30000 + 1000 * n + 6) dL_law_424 (s_L_charge x1') (jmS ll_29 ll_30 ll_0 ll_31) rfl hyL_charge rfl (by decide) (by decide) (by decide) (Nat.le_refl _) (Nat.le_refl _) (by omega) (by omega) rfl ?_
  refine j_istore_5 (pc := 427) dL_law_427 (by decide) rfl ?_
  refine j_aload_n (pc := 429) dL_law_429 rfl ?_
  refine j_aload_n (pc := 430) dL_law_430 rfl ?_
  refine j_iload (pc := 431) dL_law_431 rfl ?_
  refine j_iconst (pc := 433) dL_law_433 (v := 1) (by decide) ?_
  refine j_iadd (pc := 434) dL_law_434 ?_
  refine j_sld (pc := 435) rfl dL_law_435 (vin (j := 1) hL hi (by decide)) ?_
  refine j_callV_g (pc := 436) (As := [.int (xs (iv (i : Nat) + 1).toNatClampNeg)]) (k' := 1000 + 10 * n + 1 + 0) (n' := 30000 + 1000 * n + 6 + 0) dL_law_436 (s_X11_charge x2) (jmV ll_156 ll_157 ll_158 (jlw lw_544) ll_159) rfl hv_X11_charge rfl (r_X11_charge x2) rfl (by decide) (by decide) (Nat.le_of_ble_eq_true rfl) (Nat.le_refl _) (Nat.le_refl _) (by omega) (by omega) (Or.inl rfl) ?_
  refine j_istore_6 (pc := 439) dL_law_439 (by decide) rfl ?_
  refine j_aload_n (pc := 441) dL_law_441 rfl ?_
  refine j_callV_g (pc := 442) (As := []) (k' := 1000 + 10 * n + 1 + 0) (n' := 30000 + 1000 * n + 6 + 0) dL_law_442 (s_X11_thrown thr_e) (jmV ll_240 ll_241 ll_242 (jlw lw_544) ll_243) rfl hv_X11_thrown rfl (r_X11_thrown thr_e) rfl (by decide) (by decide) (Nat.le_of_ble_eq_true rfl) (Nat.le_refl _) (Nat.le_refl _) (by omega) (by omega) (Or.inl rfl) ?_
  refine j_iload (pc := 445) dL_law_445 rfl ?_
  refine j_icmp_eq (pc := 447) (tgt := 452) dL_law_447 (by decide) (fun _ => ?_) (fun q => absurd t2 q)
  refine j_iload (pc := 452) dL_law_452 rfl ?_
  refine j_if_ne (pc := 454) (tgt := 469) dL_law_454 (by decide) (fun _ => ?_) (fun q => ?_)
  · refine j_goto (pc := 469) (tgt := 1588) dL_law_469 (by decide) ?_
    refine j_mask [true, true, true, true, true, false, false] ?_
    exact j_wid (by omega) (by omega) kk
  · have hc0 : c = 0 := by
      have hb : c < 100000 := Nat.lt_of_le_of_lt hc (by decide)
      have := (iv_eq (b := 0) (ibn hb) (by decide)).mp q
      omega
    refine j_aload_n (pc := 457) dL_law_457 rfl ?_
    refine j_iconst (pc := 458) dL_law_458 (v := 0) (by decide) ?_
    refine j_lald (pc := 459) dL_law_459 aLd_79 ?_
    refine j_iload (pc := 460) dL_law_460 rfl ?_
    refine j_i2l (pc := 462) dL_law_462 ?_
    refine j_lcmp (pc := 463) dL_law_463 ?_
    refine j_if_eq (pc := 464) (tgt := 469) dL_law_464 (by decide) (fun _ => ?_) (fun q => absurd (by rw [hg hc0, u2 hc0]; exact lg_self _) q)
    refine j_goto (pc := 469) (tgt := 1588) dL_law_469 (by decide) ?_
    refine j_mask [true, true, true, true, true, false, false] ?_
    exact j_wid (by omega) (by omega) kk
set_option maxRecDepth 100000 in
theorem lc_phase {nm : String} {b L : Nat} {xs : Nat → Int32} {i n : Nat} {z f : Nat → Nat → Int32} {g : Nat → Int64} {jk : LWd} (hL : L ≤ 3072) (hi : i + 6 ≤ L) (hn : n ≤ 600) (hI : IN (n : Nat) z f) (hj : JK jk n) : ∃ z2 f2 g2 jk2, IN ((n + 1 : Nat) : Int) z2 f2 ∧ JK jk2 (n + 1) ∧ ∀ we, LJ nm b L xs we 1588 (LV i) [] (wA z2 f2 (lgC g2 :: jk2)) (1000 + 10 * (n + 1)) (30000 + 1000 * (n + 1)) → LJ nm b L xs we 472 (LV i) [] (wA z f (lgC g :: jk)) (1000 + 10 * n) (30000 + 1000 * n) := by
  obtain ⟨c, v, z1, f1, v', z2, f2, hc, e1, e2, t2, u2, hI2⟩ := co_phase (by omega) hI (xs (iv (i : Nat) + 1).toNatClampNeg) (xs (iv (i : Nat) + 2).toNatClampNeg) (xs (iv (i : Nat) + 3).toNatClampNeg) (xs (iv (i : Nat) + 4).toNatClampNeg) (xs (iv (i : Nat) + 5).toNatClampNeg)
  have x0 := map_q (e_X10_phase (r := lgC g :: jk)) e1
  obtain ⟨g', x1, hg⟩ := wrp_rs xk_IOBIAEISE hc x0 (ws := wA z f (lgC g :: jk)) rfl
  have x1' : m_L_phase 0 (xs (iv (i : Nat) + 1).toNatClampNeg) (xs (iv (i : Nat) + 2).toNatClampNeg) (xs (iv (i : Nat) + 3).toNatClampNeg) (xs (iv (i : Nat) + 4).toNatClampNeg) (xs (iv (i : Nat) + 5).toNatClampNeg) 79 (wA z f (lgC g :: jk)) = some (iv (c : Nat), wA z1 f1 (lgC g' :: jk)) := x1
  have x2 := map_q (e_X11_phase (r := lgC g' :: jk)) e2
  refine ⟨z2, f2, g', jk, by rw [Int.natCast_add]; exact hI2, ⟨hj.1, by have := hj.2; omega⟩, fun we kk => ?_⟩
  refine j_aload_n (pc := 472) dL_law_472 rfl ?_
  refine j_aload_n (pc := 473) dL_law_473 rfl ?_
  refine j_iload (pc := 474) dL_law_474 rfl ?_
  refine j_iconst (pc := 476) dL_law_476 (v := 1) (by decide) ?_
  refine j_iadd (pc := 477) dL_law_477 ?_
  refine j_sld (pc := 478) rfl dL_law_478 (vin (j := 1) hL hi (by decide)) ?_
  refine j_aload_n (pc := 479) dL_law_479 rfl ?_
  refine j_iload (pc := 480) dL_law_480 rfl ?_
  refine j_iconst (pc := 482) dL_law_482 (v := 2) (by decide) ?_
  refine j_iadd (pc := 483) dL_law_483 ?_
  refine j_sld (pc := 484) rfl dL_law_484 (vin (j := 2) hL hi (by decide)) ?_
  refine j_aload_n (pc := 485) dL_law_485 rfl ?_
  refine j_iload (pc := 486) dL_law_486 rfl ?_
  refine j_iconst (pc := 488) dL_law_488 (v := 3) (by decide) ?_
  refine j_iadd (pc := 489) dL_law_489 ?_
  refine j_sld (pc := 490) rfl dL_law_490 (vin (j := 3) hL hi (by decide)) ?_
  refine j_aload_n (pc := 491) dL_law_491 rfl ?_
  refine j_iload (pc := 492) dL_law_492 rfl ?_
  refine j_iconst (pc := 494) dL_law_494 (v := 4) (by decide) ?_
  refine j_iadd (pc := 495) dL_law_495 ?_
  refine j_sld (pc := 496) rfl dL_law_496 (vin (j := 4) hL hi (by decide)) ?_
  refine j_aload_n (pc := 497) dL_law_497 rfl ?_
  refine j_iload (pc := 498) dL_law_498 rfl ?_
  refine j_iconst (pc := 500) dL_law_500 (v := 5) (by decide) ?_
  refine j_iadd (pc := 501) dL_law_501 ?_
  refine j_sld (pc := 502) rfl dL_law_502 (vin (j := 5) hL hi (by decide)) ?_
  refine j_aload_n (pc := 503) dL_law_503 rfl ?_
  refine j_callSW (pc := 504) (hh := [(0, 16, 19, 31), (0, 16, 23, 13), (0, 16, 27, 15)]) (As := [.ref 0, .int (xs (iv (i : Nat) + 1).toNatClampNeg), .int (xs (iv (i : Nat) + 2).toNatClampNeg), .int (xs (iv (i : Nat) + 3).toNatClampNeg), .int (xs (iv (i : Nat) + 4).toNatClampNeg), .int (xs (iv (i : Nat) + 5).toNatClampNeg), .ref 79]) (k' := 1000 + 10 * n + 1) (n' := 30000 + 1000 * n + 6) dL_law_504 (s_L_phase x1') (jmS ll_36 ll_37 ll_0 ll_38) rfl hyL_phase rfl (by decide) (by decide) (by decide) (Nat.le_refl _) (Nat.le_refl _) (by omega) (by omega) rfl ?_
  refine j_istore_5 (pc := 507) dL_law_507 (by decide) rfl ?_
  refine j_aload_n (pc := 509) dL_law_509 rfl ?_
  refine j_aload_n (pc := 510) dL_law_510 rfl ?_
  refine j_iload (pc := 511) dL_law_511 rfl ?_
  refine j_iconst (pc := 513) dL_law_513 (v := 1) (by decide) ?_
  refine j_iadd (pc := 514) dL_law_514 ?_
  refine j_sld (pc := 515) rfl dL_law_515 (vin (j := 1) hL hi (by decide)) ?_
  refine j_aload_n (pc := 516) dL_law_516 rfl ?_
  refine j_iload (pc := 517) dL_law_517 rfl ?_
  refine j_iconst (pc := 519) dL_law_519 (v := 2) (by decide) ?_
  refine j_iadd (pc := 520) dL_law_520 ?_
  refine j_sld (pc := 521) rfl dL_law_521 (vin (j := 2) hL hi (by decide)) ?_
  refine j_aload_n (pc := 522) dL_law_522 rfl ?_
  refine j_iload (pc := 523) dL_law_523 rfl ?_
  refine j_iconst (pc := 525) dL_law_525 (v := 3) (by decide) ?_
  refine j_iadd (pc := 526) dL_law_526 ?_
  refine j_sld (pc := 527) rfl dL_law_527 (vin (j := 3) hL hi (by decide)) ?_
  refine j_aload_n (pc := 528) dL_law_528 rfl ?_
  refine j_iload (pc := 529) dL_law_529 rfl ?_
  refine j_iconst (pc := 531) dL_law_531 (v := 4) (by decide) ?_
  refine j_iadd (pc := 532) dL_law_532 ?_
  refine j_sld (pc := 533) rfl dL_law_533 (vin (j := 4) hL hi (by decide)) ?_
  refine j_aload_n (pc := 534) dL_law_534 rfl ?_
  refine j_iload (pc := 535) dL_law_535 rfl ?_
  refine j_iconst (pc := 537) dL_law_537 (v := 5) (by decide) ?_
  refine j_iadd (pc := 538) dL_law_538 ?_
  refine j_sld (pc := 539) rfl dL_law_539 (vin (j := 5) hL hi (by decide)) ?_
  refine j_callV_g (pc := 540) (As := [.int (xs (iv (i : Nat) + 1).toNatClampNeg), .int (xs (iv (i : Nat) + 2).toNatClampNeg), .int (xs (iv (i : Nat) + 3).toNatClampNeg), .int (xs (iv (i : Nat) + 4).toNatClampNeg), .int (xs (iv (i : Nat) + 5).toNatClampNeg)]) (k' := 1000 + 10 * n + 1 + 0) (n' := 30000 + 1000 * n + 6 + 0) dL_law_540 (s_X11_phase x2) (jmV ll_160 ll_161 ll_162 (jlw lw_544) ll_163) rfl hv_X11_phase rfl (r_X11_phase x2) rfl (by decide) (by decide) (Nat.le_of_ble_eq_true rfl) (Nat.le_refl _) (Nat.le_refl _) (by omega) (by omega) (Or.inl rfl) ?_
  refine j_istore_6 (pc := 543) dL_law_543 (by decide) rfl ?_
  refine j_aload_n (pc := 545) dL_law_545 rfl ?_
  refine j_callV_g (pc := 546) (As := []) (k' := 1000 + 10 * n + 1 + 0) (n' := 30000 + 1000 * n + 6 + 0) dL_law_546 (s_X11_thrown thr_e) (jmV ll_240 ll_241 ll_242 (jlw lw_544) ll_243) rfl hv_X11_thrown rfl (r_X11_thrown thr_e) rfl (by decide) (by decide) (Nat.le_of_ble_eq_true rfl) (Nat.le_refl _) (Nat.le_refl _) (by omega) (by omega) (Or.inl rfl) ?_
  refine j_iload (pc := 549) dL_law_549 rfl ?_
  refine j_icmp_eq (pc := 551) (tgt := 556) dL_law_551 (by decide) (fun _ => ?_) (fun q => absurd t2 q)
  refine j_iload (pc := 556) dL_law_556 rfl ?_
  refine j_if_ne (pc := 558) (tgt := 573) dL_law_558 (by decide) (fun _ => ?_) (fun q => ?_)
  · refine j_goto (pc := 573) (tgt := 1588) dL_law_573 (by decide) ?_
    refine j_mask [true, true, true, true, true, false, false] ?_
    exact j_wid (by omega) (by omega) kk
  · have hc0 : c = 0 := by
      have hb : c < 100000 := Nat.lt_of_le_of_lt hc (by decide)
      have := (iv_eq (b := 0) (ibn hb) (by decide)).mp q
      omega
    refine j_aload_n (pc := 561) dL_law_561 rfl ?_
    refine j_iconst (pc := 562) dL_law_562 (v := 0) (by decide) ?_
    refine j_lald (pc := 563) dL_law_563 aLd_79 ?_
    refine j_iload (pc := 564) dL_law_564 rfl ?_
    refine j_i2l (pc := 566) dL_law_566 ?_
    refine j_lcmp (pc := 567) dL_law_567 ?_
    refine j_if_eq (pc := 568) (tgt := 573) dL_law_568 (by decide) (fun _ => ?_) (fun q => absurd (by rw [hg hc0, u2 hc0]; exact lg_self _) q)
    refine j_goto (pc := 573) (tgt := 1588) dL_law_573 (by decide) ?_
    refine j_mask [true, true, true, true, true, false, false] ?_
    exact j_wid (by omega) (by omega) kk
set_option maxRecDepth 100000 in
theorem lc_halt {nm : String} {b L : Nat} {xs : Nat → Int32} {i n : Nat} {z f : Nat → Nat → Int32} {g : Nat → Int64} {jk : LWd} (hL : L ≤ 3072) (hi : i + 6 ≤ L) (hn : n ≤ 600) (hI : IN (n : Nat) z f) (hj : JK jk n) : ∃ z2 f2 g2 jk2, IN ((n + 1 : Nat) : Int) z2 f2 ∧ JK jk2 (n + 1) ∧ ∀ we, LJ nm b L xs we 1588 (LV i) [] (wA z2 f2 (lgC g2 :: jk2)) (1000 + 10 * (n + 1)) (30000 + 1000 * (n + 1)) → LJ nm b L xs we 576 (LV i) [] (wA z f (lgC g :: jk)) (1000 + 10 * n) (30000 + 1000 * n) := by
  obtain ⟨v, z1, f1, z2, f2, e1, e2, hI2⟩ := co_halt hI
  have x1 := map_q (e_X10_halt (r := lgC g :: jk)) e1
  have x2 := map_q (e_X11_halt (r := lgC g :: jk)) e2
  refine ⟨z2, f2, g, jk, by rw [Int.natCast_add]; exact hI2, ⟨hj.1, by have := hj.2; omega⟩, fun we kk => ?_⟩
  refine j_aload_n (pc := 576) dL_law_576 rfl ?_
  refine j_callV_g (pc := 577) (As := []) (k' := 1000 + 10 * n + 0) (n' := 30000 + 1000 * n + 0) dL_law_577 (s_X10_halt x1) (jmV ll_244 ll_245 ll_246 (jlw lw_147) ll_247) rfl hv_X10_halt rfl (r_X10_halt x1) rfl (by decide) (by decide) (Nat.le_of_ble_eq_true rfl) (Nat.le_refl _) (Nat.le_refl _) (by omega) (by omega) (Or.inl rfl) ?_
  refine j_aload_n (pc := 580) dL_law_580 rfl ?_
  refine j_callV_g (pc := 581) (As := []) (k' := 1000 + 10 * n + 0 + 0) (n' := 30000 + 1000 * n + 0 + 0) dL_law_581 (s_X11_halt x2) (jmV ll_224 ll_225 ll_226 (jlw lw_544) ll_227) rfl hv_X11_halt rfl (r_X11_halt x2) rfl (by decide) (by decide) (Nat.le_of_ble_eq_true rfl) (Nat.le_refl _) (Nat.le_refl _) (by omega) (by omega) (Or.inl rfl) ?_
  refine j_icmp_eq (pc := 584) (tgt := 1588) dL_law_584 (by decide) (fun _ => ?_) (fun q => absurd rfl q)
  exact j_wid (by omega) (by omega) kk
set_option maxRecDepth 100000 in
theorem lc_load {nm : String} {b L : Nat} {xs : Nat → Int32} {i n : Nat} {z f : Nat → Nat → Int32} {g : Nat → Int64} {jk : LWd} (hL : L ≤ 3072) (hi : i + 6 ≤ L) (hn : n ≤ 600) (hI : IN (n : Nat) z f) (hj : JK jk n) : ∃ z2 f2 g2 jk2, IN ((n + 1 : Nat) : Int) z2 f2 ∧ JK jk2 (n + 1) ∧ ∀ we, LJ nm b L xs we 1588 (LV i) [] (wA z2 f2 (lgC g2 :: jk2)) (1000 + 10 * (n + 1)) (30000 + 1000 * (n + 1)) → LJ nm b L xs we 589 (LV i) [] (wA z f (lgC g :: jk)) (1000 + 10 * n) (30000 + 1000 * n) := by
  obtain ⟨c, v, z1, f1, v', z2, f2, hc, e1, e2, t2, u2, hI2⟩ := co_load (by omega) hI (xs (iv (i : Nat) + 1).toNatClampNeg) (xs (iv (i : Nat) + 2).toNatClampNeg) (xs (iv (i : Nat) + 3).toNatClampNeg)
  have x0 := map_q (e_X10_load (r := lgC g :: jk)) e1
  obtain ⟨g', x1, hg⟩ := wrp_rs xk_IAEISE hc x0 (ws := wA z f (lgC g :: jk)) rfl
  have x1' : m_L_load 0 (xs (iv (i : Nat) + 1).toNatClampNeg) (xs (iv (i : Nat) + 2).toNatClampNeg) (xs (iv (i : Nat) + 3).toNatClampNeg) 79 (wA z f (lgC g :: jk)) = some (iv (c : Nat), wA z1 f1 (lgC g' :: jk)) := x1
  have x2 := map_q (e_X11_load (r := lgC g' :: jk)) e2
  refine ⟨z2, f2, g', jk, by rw [Int.natCast_add]; exact hI2, ⟨hj.1, by have := hj.2; omega⟩, fun we kk => ?_⟩
  refine j_aload_n (pc := 589) dL_law_589 rfl ?_
  refine j_aload_n (pc := 590) dL_law_590 rfl ?_
  refine j_iload (pc := 591) dL_law_591 rfl ?_
  refine j_iconst (pc := 593) dL_law_593 (v := 1) (by decide) ?_
  refine j_iadd (pc := 594) dL_law_594 ?_
  refine j_sld (pc := 595) rfl dL_law_595 (vin (j := 1) hL hi (by decide)) ?_
  refine j_aload_n (pc := 596) dL_law_596 rfl ?_
  refine j_iload (pc := 597) dL_law_597 rfl ?_
  refine j_iconst (pc := 599) dL_law_599 (v := 2) (by decide) ?_
  refine j_iadd (pc := 600) dL_law_600 ?_
  refine j_sld (pc := 601) rfl dL_law_601 (vin (j := 2) hL hi (by decide)) ?_
  refine j_aload_n (pc := 602) dL_law_602 rfl ?_
  refine j_iload (pc := 603) dL_law_603 rfl ?_
  refine j_iconst (pc := 605) dL_law_605 (v := 3) (by decide) ?_
  refine j_iadd (pc := 606) dL_law_606 ?_
  refine j_sld (pc := 607) rfl dL_law_607 (vin (j := 3) hL hi (by decide)) ?_
  refine j_aload_n (pc := 608) dL_law_608 rfl ?_
  refine j_callSW (pc := 609) (hh := [(0, 12, 15, 13), (0, 12, 19, 15)]) (As := [.ref 0, .int (xs (iv (i : Nat) + 1).toNatClampNeg), .int (xs (iv (i : Nat) + 2).toNatClampNeg), .int (xs (iv (i : Nat) + 3).toNatClampNeg), .ref 79]) (k' := 1000 + 10 * n + 1) (n' := 30000 + 1000 * n + 6) dL_law_609 (s_L_load x1') (jmS ll_43 ll_44 ll_0 ll_45) rfl hyL_load rfl (by decide) (by decide) (by decide) (Nat.le_refl _) (Nat.le_refl _) (by omega) (by omega) rfl ?_
  refine j_istore_5 (pc := 612) dL_law_612 (by decide) rfl ?_
  refine j_aload_n (pc := 614) dL_law_614 rfl ?_
  refine j_aload_n (pc := 615) dL_law_615 rfl ?_
  refine j_iload (pc := 616) dL_law_616 rfl ?_
  refine j_iconst (pc := 618) dL_law_618 (v := 1) (by decide) ?_
  refine j_iadd (pc := 619) dL_law_619 ?_
  refine j_sld (pc := 620) rfl dL_law_620 (vin (j := 1) hL hi (by decide)) ?_
  refine j_aload_n (pc := 621) dL_law_621 rfl ?_
  refine j_iload (pc := 622) dL_law_622 rfl ?_
  refine j_iconst (pc := 624) dL_law_624 (v := 2) (by decide) ?_
  refine j_iadd (pc := 625) dL_law_625 ?_
  refine j_sld (pc := 626) rfl dL_law_626 (vin (j := 2) hL hi (by decide)) ?_
  refine j_aload_n (pc := 627) dL_law_627 rfl ?_
  refine j_iload (pc := 628) dL_law_628 rfl ?_
  refine j_iconst (pc := 630) dL_law_630 (v := 3) (by decide) ?_
  refine j_iadd (pc := 631) dL_law_631 ?_
  refine j_sld (pc := 632) rfl dL_law_632 (vin (j := 3) hL hi (by decide)) ?_
  refine j_callV_g (pc := 633) (As := [.int (xs (iv (i : Nat) + 1).toNatClampNeg), .int (xs (iv (i : Nat) + 2).toNatClampNeg), .int (xs (iv (i : Nat) + 3).toNatClampNeg)]) (k' := 1000 + 10 * n + 1 + 0) (n' := 30000 + 1000 * n + 6 + 0) dL_law_633 (s_X11_load x2) (jmV ll_164 ll_165 ll_166 (jlw lw_544) ll_167) rfl hv_X11_load rfl (r_X11_load x2) rfl (by decide) (by decide) (Nat.le_of_ble_eq_true rfl) (Nat.le_refl _) (Nat.le_refl _) (by omega) (by omega) (Or.inl rfl) ?_
  refine j_istore_6 (pc := 636) dL_law_636 (by decide) rfl ?_
  refine j_aload_n (pc := 638) dL_law_638 rfl ?_
  refine j_callV_g (pc := 639) (As := []) (k' := 1000 + 10 * n + 1 + 0) (n' := 30000 + 1000 * n + 6 + 0) dL_law_639 (s_X11_thrown thr_e) (jmV ll_240 ll_241 ll_242 (jlw lw_544) ll_243) rfl hv_X11_thrown rfl (r_X11_thrown thr_e) rfl (by decide) (by decide) (Nat.le_of_ble_eq_true rfl) (Nat.le_refl _) (Nat.le_refl _) (by omega) (by omega) (Or.inl rfl) ?_
  refine j_iload (pc := 642) dL_law_642 rfl ?_
  refine j_icmp_eq (pc := 644) (tgt := 649) dL_law_644 (by decide) (fun _ => ?_) (fun q => absurd t2 q)
  refine j_iload (pc := 649) dL_law_649 rfl ?_
  refine j_if_ne (pc := 651) (tgt := 666) dL_law_651 (by decide) (fun _ => ?_) (fun q => ?_)
  · refine j_goto (pc := 666) (tgt := 1588) dL_law_666 (by decide) ?_
    refine j_mask [true, true, true, true, true, false, false] ?_
    exact j_wid (by omega) (by omega) kk
  · have hc0 : c = 0 := by
      have hb : c < 100000 := Nat.lt_of_le_of_lt hc (by decide)
      have := (iv_eq (b := 0) (ibn hb) (by decide)).mp q
      omega
    refine j_aload_n (pc := 654) dL_law_654 rfl ?_
    refine j_iconst (pc := 655) dL_law_655 (v := 0) (by decide) ?_
    refine j_lald (pc := 656) dL_law_656 aLd_79 ?_
    refine j_iload (pc := 657) dL_law_657 rfl ?_
    refine j_i2l (pc := 659) dL_law_659 ?_
    refine j_lcmp (pc := 660) dL_law_660 ?_
    refine j_if_eq (pc := 661) (tgt := 666) dL_law_661 (by decide) (fun _ => ?_) (fun q => absurd (by rw [hg hc0, u2 hc0]; exact lg_self _) q)
    refine j_goto (pc := 666) (tgt := 1588) dL_law_666 (by decide) ?_
    refine j_mask [true, true, true, true, true, false, false] ?_
    exact j_wid (by omega) (by omega) kk
set_option maxRecDepth 100000 in
theorem lc_rise {nm : String} {b L : Nat} {xs : Nat → Int32} {i n : Nat} {z f : Nat → Nat → Int32} {g : Nat → Int64} {jk : LWd} (hL : L ≤ 3072) (hi : i + 6 ≤ L) (hn : n ≤ 600) (hI : IN (n : Nat) z f) (hj : JK jk n) : ∃ z2 f2 g2 jk2, IN ((n + 1 : Nat) : Int) z2 f2 ∧ JK jk2 (n + 1) ∧ ∀ we, LJ nm b L xs we 1588 (LV i) [] (wA z2 f2 (lgC g2 :: jk2)) (1000 + 10 * (n + 1)) (30000 + 1000 * (n + 1)) → LJ nm b L xs we 669 (LV i) [] (wA z f (lgC g :: jk)) (1000 + 10 * n) (30000 + 1000 * n) := by
  obtain ⟨c, v, z1, f1, v', z2, f2, hc, e1, e2, t2, u2, hI2⟩ := co_rise (by omega) hI
  have x0 := map_q (e_X10_rise (r := lgC g :: jk)) e1
  obtain ⟨g', x1, hg⟩ := wrp_rs xk_ISE hc x0 (ws := wA z f (lgC g :: jk)) rfl
  have x1' : m_L_rise 0  79 (wA z f (lgC g :: jk)) = some (iv (c : Nat), wA z1 f1 (lgC g' :: jk)) := x1
  have x2 := map_q (e_X11_rise (r := lgC g' :: jk)) e2
  refine ⟨z2, f2, g', jk, by rw [Int.natCast_add]; exact hI2, ⟨hj.1, by have := hj.2; omega⟩, fun we kk => ?_⟩
  refine j_aload_n (pc := 669) dL_law_669 rfl ?_
  refine j_aload_n (pc := 670) dL_law_670 rfl ?_
  refine j_callSW (pc := 671) (hh := [(0, 8, 11, 15)]) (As := [.ref 0, .ref 79]) (k' := 1000 + 10 * n + 1) (n' := 30000 + 1000 * n + 6) dL_law_671 (s_L_rise x1') (jmS ll_50 ll_51 ll_0 ll_52) rfl hyL_rise rfl (by decide) (by decide) (by decide) (Nat.le_refl _) (Nat.le_refl _) (by omega) (by omega) rfl ?_
  refine j_istore_5 (pc := 674) dL_law_674 (by decide) rfl ?_
  refine j_aload_n (pc := 676) dL_law_676 rfl ?_
  refine j_callV_g (pc := 677) (As := []) (k' := 1000 + 10 * n + 1 + 0) (n' := 30000 + 1000 * n + 6 + 0) dL_law_677 (s_X11_rise x2) (jmV ll_168 ll_169 ll_170 (jlw lw_544) ll_171) rfl hv_X11_rise rfl (r_X11_rise x2) rfl (by decide) (by decide) (Nat.le_of_ble_eq_true rfl) (Nat.le_refl _) (Nat.le_refl _) (by omega) (by omega) (Or.inl rfl) ?_
  refine j_istore_6 (pc := 680) dL_law_680 (by decide) rfl ?_
  refine j_aload_n (pc := 682) dL_law_682 rfl ?_
  refine j_callV_g (pc := 683) (As := []) (k' := 1000 + 10 * n + 1 + 0) (n' := 30000 + 1000 * n + 6 + 0) dL_law_683 (s_X11_thrown thr_e) (jmV ll_240 ll_241 ll_242 (jlw lw_544) ll_243) rfl hv_X11_thrown rfl (r_X11_thrown thr_e) rfl (by decide) (by decide) (Nat.le_of_ble_eq_true rfl) (Nat.le_refl _) (Nat.le_refl _) (by omega) (by omega) (Or.inl rfl) ?_
  refine j_iload (pc := 686) dL_law_686 rfl ?_
  refine j_icmp_eq (pc := 688) (tgt := 693) dL_law_688 (by decide) (fun _ => ?_) (fun q => absurd t2 q)
  refine j_iload (pc := 693) dL_law_693 rfl ?_
  refine j_if_ne (pc := 695) (tgt := 710) dL_law_695 (by decide) (fun _ => ?_) (fun q => ?_)
  · refine j_goto (pc := 710) (tgt := 1588) dL_law_710 (by decide) ?_
    refine j_mask [true, true, true, true, true, false, false] ?_
    exact j_wid (by omega) (by omega) kk
  · have hc0 : c = 0 := by
      have hb : c < 100000 := Nat.lt_of_le_of_lt hc (by decide)
      have := (iv_eq (b := 0) (ibn hb) (by decide)).mp q
      omega
    refine j_aload_n (pc := 698) dL_law_698 rfl ?_
    refine j_iconst (pc := 699) dL_law_699 (v := 0) (by decide) ?_
    refine j_lald (pc := 700) dL_law_700 aLd_79 ?_
    refine j_iload (pc := 701) dL_law_701 rfl ?_
    refine j_i2l (pc := 703) dL_law_703 ?_
    refine j_lcmp (pc := 704) dL_law_704 ?_
    refine j_if_eq (pc := 705) (tgt := 710) dL_law_705 (by decide) (fun _ => ?_) (fun q => absurd (by rw [hg hc0, u2 hc0]; exact lg_self _) q)
    refine j_goto (pc := 710) (tgt := 1588) dL_law_710 (by decide) ?_
    refine j_mask [true, true, true, true, true, false, false] ?_
    exact j_wid (by omega) (by omega) kk
set_option maxRecDepth 100000 in
theorem lc_lift {nm : String} {b L : Nat} {xs : Nat → Int32} {i n : Nat} {z f : Nat → Nat → Int32} {g : Nat → Int64} {jk : LWd} (hL : L ≤ 3072) (hi : i + 6 ≤ L) (hn : n ≤ 600) (hI : IN (n : Nat) z f) (hj : JK jk n) : ∃ z2 f2 g2 jk2, IN ((n + 1 : Nat) : Int) z2 f2 ∧ JK jk2 (n + 1) ∧ ∀ we, LJ nm b L xs we 1588 (LV i) [] (wA z2 f2 (lgC g2 :: jk2)) (1000 + 10 * (n + 1)) (30000 + 1000 * (n + 1)) → LJ nm b L xs we 713 (LV i) [] (wA z f (lgC g :: jk)) (1000 + 10 * n) (30000 + 1000 * n) := by
  obtain ⟨c, v, z1, f1, v', z2, f2, hc, e1, e2, t2, u2, hI2⟩ := co_lift (by omega) hI (xs (iv (i : Nat) + 1).toNatClampNeg)
  have x0 := map_q (e_X10_lift (r := lgC g :: jk)) e1
  obtain ⟨g', x1, hg⟩ := wrp_rs xk_IOBISE hc x0 (ws := wA z f (lgC g :: jk)) rfl
  have x1' : m_L_lift 0 (xs (iv (i : Nat) + 1).toNatClampNeg) 79 (wA z f (lgC g :: jk)) = some (iv (c : Nat), wA z1 f1 (lgC g' :: jk)) := x1
  have x2 := map_q (e_X11_lift (r := lgC g' :: jk)) e2
  refine ⟨z2, f2, g', jk, by rw [Int.natCast_add]; exact hI2, ⟨hj.1, by have := hj.2; omega⟩, fun we kk => ?_⟩
  refine j_aload_n (pc := 713) dL_law_713 rfl ?_
  refine j_aload_n (pc := 714) dL_law_714 rfl ?_
  refine j_iload (pc := 715) dL_law_715 rfl ?_
  refine j_iconst (pc := 717) dL_law_717 (v := 1) (by decide) ?_
  refine j_iadd (pc := 718) dL_law_718 ?_
  refine j_sld (pc := 719) rfl dL_law_719 (vin (j := 1) hL hi (by decide)) ?_
  refine j_aload_n (pc := 720) dL_law_720 rfl ?_
  refine j_callSW (pc := 721) (hh := [(0, 9, 12, 31), (0, 9, 15, 15)]) (As := [.ref 0, .int (xs (iv (i : Nat) + 1).toNatClampNeg), .ref 79]) (k' := 1000 + 10 * n + 1) (n' := 30000 + 1000 * n + 6) dL_law_721 (s_L_lift x1') (jmS ll_57 ll_58 ll_0 ll_59) rfl hyL_lift rfl (by decide) (by decide) (by decide) (Nat.le_refl _) (Nat.le_refl _) (by omega) (by omega) rfl ?_
  refine j_istore_5 (pc := 724) dL_law_724 (by decide) rfl ?_
  refine j_aload_n (pc := 726) dL_law_726 rfl ?_
  refine j_aload_n (pc := 727) dL_law_727 rfl ?_
  refine j_iload (pc := 728) dL_law_728 rfl ?_
  refine j_iconst (pc := 730) dL_law_730 (v := 1) (by decide) ?_
  refine j_iadd (pc := 731) dL_law_731 ?_
  refine j_sld (pc := 732) rfl dL_law_732 (vin (j := 1) hL hi (by decide)) ?_
  refine j_callV_g (pc := 733) (As := [.int (xs (iv (i : Nat) + 1).toNatClampNeg)]) (k' := 1000 + 10 * n + 1 + 0) (n' := 30000 + 1000 * n + 6 + 0) dL_law_733 (s_X11_lift x2) (jmV ll_172 ll_173 ll_174 (jlw lw_544) ll_175) rfl hv_X11_lift rfl (r_X11_lift x2) rfl (by decide) (by decide) (Nat.le_of_ble_eq_true rfl) (Nat.le_refl _) (Nat.le_refl _) (by omega) (by omega) (Or.inl rfl) ?_
  refine j_istore_6 (pc := 736) dL_law_736 (by decide) rfl ?_
  refine j_aload_n (pc := 738) dL_law_738 rfl ?_
  refine j_callV_g (pc := 739) (As := []) (k' := 1000 + 10 * n + 1 + 0) (n' := 30000 + 1000 * n + 6 + 0) dL_law_739 (s_X11_thrown thr_e) (jmV ll_240 ll_241 ll_242 (jlw lw_544) ll_243) rfl hv_X11_thrown rfl (r_X11_thrown thr_e) rfl (by decide) (by decide) (Nat.le_of_ble_eq_true rfl) (Nat.le_refl _) (Nat.le_refl _) (by omega) (by omega) (Or.inl rfl) ?_
  refine j_iload (pc := 742) dL_law_742 rfl ?_
  refine j_icmp_eq (pc := 744) (tgt := 749) dL_law_744 (by decide) (fun _ => ?_) (fun q => absurd t2 q)
  refine j_iload (pc := 749) dL_law_749 rfl ?_
  refine j_if_ne (pc := 751) (tgt := 766) dL_law_751 (by decide) (fun _ => ?_) (fun q => ?_)
  · refine j_goto (pc := 766) (tgt := 1588) dL_law_766 (by decide) ?_
    refine j_mask [true, true, true, true, true, false, false] ?_
    exact j_wid (by omega) (by omega) kk
  · have hc0 : c = 0 := by
      have hb : c < 100000 := Nat.lt_of_le_of_lt hc (by decide)
      have := (iv_eq (b := 0) (ibn hb) (by decide)).mp q
      omega
    refine j_aload_n (pc := 754) dL_law_754 rfl ?_
    refine j_iconst (pc := 755) dL_law_755 (v := 0) (by decide) ?_
    refine j_lald (pc := 756) dL_law_756 aLd_79 ?_
    refine j_iload (pc := 757) dL_law_757 rfl ?_
    refine j_i2l (pc := 759) dL_law_759 ?_
    refine j_lcmp (pc := 760) dL_law_760 ?_
    refine j_if_eq (pc := 761) (tgt := 766) dL_law_761 (by decide) (fun _ => ?_) (fun q => absurd (by rw [hg hc0, u2 hc0]; exact lg_self _) q)
    refine j_goto (pc := 766) (tgt := 1588) dL_law_766 (by decide) ?_
    refine j_mask [true, true, true, true, true, false, false] ?_
    exact j_wid (by omega) (by omega) kk
set_option maxRecDepth 100000 in
theorem lc_place {nm : String} {b L : Nat} {xs : Nat → Int32} {i n : Nat} {z f : Nat → Nat → Int32} {g : Nat → Int64} {jk : LWd} (hL : L ≤ 3072) (hi : i + 6 ≤ L) (hn : n ≤ 600) (hI : IN (n : Nat) z f) (hj : JK jk n) : ∃ z2 f2 g2 jk2, IN ((n + 1 : Nat) : Int) z2 f2 ∧ JK jk2 (n + 1) ∧ ∀ we, LJ nm b L xs we 1588 (LV i) [] (wA z2 f2 (lgC g2 :: jk2)) (1000 + 10 * (n + 1)) (30000 + 1000 * (n + 1)) → LJ nm b L xs we 769 (LV i) [] (wA z f (lgC g :: jk)) (1000 + 10 * n) (30000 + 1000 * n) := by
  obtain ⟨c, v, z1, f1, v', z2, f2, hc, e1, e2, t2, u2, hI2⟩ := co_place (by omega) hI (xs (iv (i : Nat) + 1).toNatClampNeg) (xs (iv (i : Nat) + 2).toNatClampNeg) (xs (iv (i : Nat) + 3).toNatClampNeg)
  have x0 := map_q (e_X10_place (r := lgC g :: jk)) e1
  obtain ⟨g', x1, hg⟩ := wrp_rs xk_IOBIAEISE hc x0 (ws := wA z f (lgC g :: jk)) rfl
  have x1' : m_L_place 0 (xs (iv (i : Nat) + 1).toNatClampNeg) (xs (iv (i : Nat) + 2).toNatClampNeg) (xs (iv (i : Nat) + 3).toNatClampNeg) 79 (wA z f (lgC g :: jk)) = some (iv (c : Nat), wA z1 f1 (lgC g' :: jk)) := x1
  have x2 := map_q (e_X11_place (r := lgC g' :: jk)) e2
  refine ⟨z2, f2, g', jk, by rw [Int.natCast_add]; exact hI2, ⟨hj.1, by have := hj.2; omega⟩, fun we kk => ?_⟩
  refine j_aload_n (pc := 769) dL_law_769 rfl ?_
  refine j_aload_n (pc := 770) dL_law_770 rfl ?_
  refine j_iload (pc := 771) dL_law_771 rfl ?_
  refine j_iconst (pc := 773) dL_law_773 (v := 1) (by decide) ?_
  refine j_iadd (pc := 774) dL_law_774 ?_
  refine j_sld (pc := 775) rfl dL_law_775 (vin (j := 1) hL hi (by decide)) ?_
  refine j_aload_n (pc := 776) dL_law_776 rfl ?_
  refine j_iload (pc := 777) dL_law_777 rfl ?_
  refine j_iconst (pc := 779) dL_law_779 (v := 2) (by decide) ?_
  refine j_iadd (pc := 780) dL_law_780 ?_
  refine j_sld (pc := 781) rfl dL_law_781 (vin (j := 2) hL hi (by decide)) ?_
  refine j_aload_n (pc := 782) dL_law_782 rfl ?_
  refine j_iload (pc := 783) dL_law_783 rfl ?_
  refine j_iconst (pc := 785) dL_law_785 (v := 3) (by decide) ?_
  refine j_iadd (pc := 786) dL_law_786 ?_
  refine j_sld (pc := 787) rfl dL_law_787 (vin (j := 3) hL hi (by decide)) ?_
  refine j_aload_n (pc := 788) dL_law_788 rfl ?_
  refine j_callSW (pc := 789) (hh := [(0, 12, 15, 31), (0, 12, 19, 13), (0, 12, 23, 15)]) (As := [.ref 0, .int (xs (iv (i : Nat) + 1).toNatClampNeg), .int (xs (iv (i : Nat) + 2).toNatClampNeg), .int (xs (iv (i : Nat) + 3).toNatClampNeg), .ref 79]) (k' := 1000 + 10 * n + 1) (n' := 30000 + 1000 * n + 6) dL_law_789 (s_L_place x1') (jmS ll_64 ll_65 ll_0 ll_66) rfl hyL_place rfl (by decide) (by decide) (by decide) (Nat.le_refl _) (Nat.le_refl _) (by omega) (by omega) rfl ?_
  refine j_istore_5 (pc := 792) dL_law_792 (by decide) rfl ?_
  refine j_aload_n (pc := 794) dL_law_794 rfl ?_
  refine j_aload_n (pc := 795) dL_law_795 rfl ?_
  refine j_iload (pc := 796) dL_law_796 rfl ?_
  refine j_iconst (pc := 798) dL_law_798 (v := 1) (by decide) ?_
  refine j_iadd (pc := 799) dL_law_799 ?_
  refine j_sld (pc := 800) rfl dL_law_800 (vin (j := 1) hL hi (by decide)) ?_
  refine j_aload_n (pc := 801) dL_law_801 rfl ?_
  refine j_iload (pc := 802) dL_law_802 rfl ?_
  refine j_iconst (pc := 804) dL_law_804 (v := 2) (by decide) ?_
  refine j_iadd (pc := 805) dL_law_805 ?_
  refine j_sld (pc := 806) rfl dL_law_806 (vin (j := 2) hL hi (by decide)) ?_
  refine j_aload_n (pc := 807) dL_law_807 rfl ?_
  refine j_iload (pc := 808) dL_law_808 rfl ?_
  refine j_iconst (pc := 810) dL_law_810 (v := 3) (by decide) ?_
  refine j_iadd (pc := 811) dL_law_811 ?_
  refine j_sld (pc := 812) rfl dL_law_812 (vin (j := 3) hL hi (by decide)) ?_
  refine j_callV_g (pc := 813) (As := [.int (xs (iv (i : Nat) + 1).toNatClampNeg), .int (xs (iv (i : Nat) + 2).toNatClampNeg), .int (xs (iv (i : Nat) + 3).toNatClampNeg)]) (k' := 1000 + 10 * n + 1 + 0) (n' := 30000 + 1000 * n + 6 + 0) dL_law_813 (s_X11_place x2) (jmV ll_176 ll_177 ll_178 (jlw lw_544) ll_179) rfl hv_X11_place rfl (r_X11_place x2) rfl (by decide) (by decide) (Nat.le_of_ble_eq_true rfl) (Nat.le_refl _) (Nat.le_refl _) (by omega) (by omega) (Or.inl rfl) ?_
  refine j_istore_6 (pc := 816) dL_law_816 (by decide) rfl ?_
  refine j_aload_n (pc := 818) dL_law_818 rfl ?_
  refine j_callV_g (pc := 819) (As := []) (k' := 1000 + 10 * n + 1 + 0) (n' := 30000 + 1000 * n + 6 + 0) dL_law_819 (s_X11_thrown thr_e) (jmV ll_240 ll_241 ll_242 (jlw lw_544) ll_243) rfl hv_X11_thrown rfl (r_X11_thrown thr_e) rfl (by decide) (by decide) (Nat.le_of_ble_eq_true rfl) (Nat.le_refl _) (Nat.le_refl _) (by omega) (by omega) (Or.inl rfl) ?_
  refine j_iload (pc := 822) dL_law_822 rfl ?_
  refine j_icmp_eq (pc := 824) (tgt := 829) dL_law_824 (by decide) (fun _ => ?_) (fun q => absurd t2 q)
  refine j_iload (pc := 829) dL_law_829 rfl ?_
  refine j_if_ne (pc := 831) (tgt := 846) dL_law_831 (by decide) (fun _ => ?_) (fun q => ?_)
  · refine j_goto (pc := 846) (tgt := 1588) dL_law_846 (by decide) ?_
    refine j_mask [true, true, true, true, true, false, false] ?_
    exact j_wid (by omega) (by omega) kk
  · have hc0 : c = 0 := by
      have hb : c < 100000 := Nat.lt_of_le_of_lt hc (by decide)
      have := (iv_eq (b := 0) (ibn hb) (by decide)).mp q
      omega
    refine j_aload_n (pc := 834) dL_law_834 rfl ?_
    refine j_iconst (pc := 835) dL_law_835 (v := 0) (by decide) ?_
    refine j_lald (pc := 836) dL_law_836 aLd_79 ?_
    refine j_iload (pc := 837) dL_law_837 rfl ?_
    refine j_i2l (pc := 839) dL_law_839 ?_
    refine j_lcmp (pc := 840) dL_law_840 ?_
    refine j_if_eq (pc := 841) (tgt := 846) dL_law_841 (by decide) (fun _ => ?_) (fun q => absurd (by rw [hg hc0, u2 hc0]; exact lg_self _) q)
    refine j_goto (pc := 846) (tgt := 1588) dL_law_846 (by decide) ?_
    refine j_mask [true, true, true, true, true, false, false] ?_
    exact j_wid (by omega) (by omega) kk
set_option maxRecDepth 100000 in
theorem lc_shift {nm : String} {b L : Nat} {xs : Nat → Int32} {i n : Nat} {z f : Nat → Nat → Int32} {g : Nat → Int64} {jk : LWd} (hL : L ≤ 3072) (hi : i + 6 ≤ L) (hn : n ≤ 600) (hI : IN (n : Nat) z f) (hj : JK jk n) : ∃ z2 f2 g2 jk2, IN ((n + 1 : Nat) : Int) z2 f2 ∧ JK jk2 (n + 1) ∧ ∀ we, LJ nm b L xs we 1588 (LV i) [] (wA z2 f2 (lgC g2 :: jk2)) (1000 + 10 * (n + 1)) (30000 + 1000 * (n + 1)) → LJ nm b L xs we 849 (LV i) [] (wA z f (lgC g :: jk)) (1000 + 10 * n) (30000 + 1000 * n) := by
  obtain ⟨c, v, z1, f1, v', z2, f2, hc, e1, e2, t2, u2, hI2⟩ := co_shift (by omega) hI (xs (iv (i : Nat) + 1).toNatClampNeg) (xs (iv (i : Nat) + 2).toNatClampNeg)
  have x0 := map_q (e_X10_shift (r := lgC g :: jk)) e1
  obtain ⟨g', x1, hg⟩ := wrp_rs xk_IAEISE hc x0 (ws := wA z f (lgC g :: jk)) rfl
  have x1' : m_L_shift 0 (xs (iv (i : Nat) + 1).toNatClampNeg) (xs (iv (i : Nat) + 2).toNatClampNeg) 79 (wA z f (lgC g :: jk)) = some (iv (c : Nat), wA z1 f1 (lgC g' :: jk)) := x1
  have x2 := map_q (e_X11_shift (r := lgC g' :: jk)) e2
  refine ⟨z2, f2, g', jk, by rw [Int.natCast_add]; exact hI2, ⟨hj.1, by have := hj.2; omega⟩, fun we kk => ?_⟩
  refine j_aload_n (pc := 849) dL_law_849 rfl ?_
  refine j_aload_n (pc := 850) dL_law_850 rfl ?_
  refine j_iload (pc := 851) dL_law_851 rfl ?_
  refine j_iconst (pc := 853) dL_law_853 (v := 1) (by decide) ?_
  refine j_iadd (pc := 854) dL_law_854 ?_
  refine j_sld (pc := 855) rfl dL_law_855 (vin (j := 1) hL hi (by decide)) ?_
  refine j_aload_n (pc := 856) dL_law_856 rfl ?_
  refine j_iload (pc := 857) dL_law_857 rfl ?_
  refine j_iconst (pc := 859) dL_law_859 (v := 2) (by decide) ?_
  refine j_iadd (pc := 860) dL_law_860 ?_
  refine j_sld (pc := 861) rfl dL_law_861 (vin (j := 2) hL hi (by decide)) ?_
  refine j_aload_n (pc := 862) dL_law_862 rfl ?_
  refine j_callSW (pc := 863) (hh := [(0, 10, 13, 13), (0, 10, 17, 15)]) (As := [.ref 0, .int (xs (iv (i : Nat) + 1).toNatClampNeg), .int (xs (iv (i : Nat) + 2).toNatClampNeg), .ref 79]) (k' := 1000 + 10 * n + 1) (n' := 30000 + 1000 * n + 6) dL_law_863 (s_L_shift x1') (jmS ll_71 ll_72 ll_0 ll_73) rfl hyL_shift rfl (by decide) (by decide) (by decide) (Nat.le_refl _) (Nat.le_refl _) (by omega) (by omega) rfl ?_
  refine j_istore_5 (pc := 866) dL_law_866 (by decide) rfl ?_
  refine j_aload_n (pc := 868) dL_law_868 rfl ?_
  refine j_aload_n (pc := 869) dL_law_869 rfl ?_
  refine j_iload (pc := 870) dL_law_870 rfl ?_
  refine j_iconst (pc := 872) dL_law_872 (v := 1) (by decide) ?_
  refine j_iadd (pc := 873) dL_law_873 ?_
  refine j_sld (pc := 874) rfl dL_law_874 (vin (j := 1) hL hi (by decide)) ?_
  refine j_aload_n (pc := 875) dL_law_875 rfl ?_
  refine j_iload (pc := 876) dL_law_876 rfl ?_
  refine j_iconst (pc := 878) dL_law_878 (v := 2) (by decide) ?_
  refine j_iadd (pc := 879) dL_law_879 ?_
  refine j_sld (pc := 880) rfl dL_law_880 (vin (j := 2) hL hi (by decide)) ?_
  refine j_callV_g (pc := 881) (As := [.int (xs (iv (i : Nat) + 1).toNatClampNeg), .int (xs (iv (i : Nat) + 2).toNatClampNeg)]) (k' := 1000 + 10 * n + 1 + 0) (n' := 30000 + 1000 * n + 6 + 0) dL_law_881 (s_X11_shift x2) (jmV ll_180 ll_181 ll_182 (jlw lw_544) ll_183) rfl hv_X11_shift rfl (r_X11_shift x2) rfl (by decide) (by decide) (Nat.le_of_ble_eq_true rfl) (Nat.le_refl _) (Nat.le_refl _) (by omega) (by omega) (Or.inl rfl) ?_
  refine j_istore_6 (pc := 884) dL_law_884 (by decide) rfl ?_
  refine j_aload_n (pc := 886) dL_law_886 rfl ?_
  refine j_callV_g (pc := 887) (As := []) (k' := 1000 + 10 * n + 1 + 0) (n' := 30000 + 1000 * n + 6 + 0) dL_law_887 (s_X11_thrown thr_e) (jmV ll_240 ll_241 ll_242 (jlw lw_544) ll_243) rfl hv_X11_thrown rfl (r_X11_thrown thr_e) rfl (by decide) (by decide) (Nat.le_of_ble_eq_true rfl) (Nat.le_refl _) (Nat.le_refl _) (by omega) (by omega) (Or.inl rfl) ?_
  refine j_iload (pc := 890) dL_law_890 rfl ?_
  refine j_icmp_eq (pc := 892) (tgt := 897) dL_law_892 (by decide) (fun _ => ?_) (fun q => absurd t2 q)
  refine j_iload (pc := 897) dL_law_897 rfl ?_
  refine j_if_ne (pc := 899) (tgt := 914) dL_law_899 (by decide) (fun _ => ?_) (fun q => ?_)
  · refine j_goto (pc := 914) (tgt := 1588) dL_law_914 (by decide) ?_
    refine j_mask [true, true, true, true, true, false, false] ?_
    exact j_wid (by omega) (by omega) kk
  · have hc0 : c = 0 := by
      have hb : c < 100000 := Nat.lt_of_le_of_lt hc (by decide)
      have := (iv_eq (b := 0) (ibn hb) (by decide)).mp q
      omega
    refine j_aload_n (pc := 902) dL_law_902 rfl ?_
    refine j_iconst (pc := 903) dL_law_903 (v := 0) (by decide) ?_
    refine j_lald (pc := 904) dL_law_904 aLd_79 ?_
    refine j_iload (pc := 905) dL_law_905 rfl ?_
    refine j_i2l (pc := 907) dL_law_907 ?_
    refine j_lcmp (pc := 908) dL_law_908 ?_
    refine j_if_eq (pc := 909) (tgt := 914) dL_law_909 (by decide) (fun _ => ?_) (fun q => absurd (by rw [hg hc0, u2 hc0]; exact lg_self _) q)
    refine j_goto (pc := 914) (tgt := 1588) dL_law_914 (by decide) ?_
    refine j_mask [true, true, true, true, true, false, false] ?_
    exact j_wid (by omega) (by omega) kk
set_option maxRecDepth 100000 in
theorem lc_walk {nm : String} {b L : Nat} {xs : Nat → Int32} {i n : Nat} {z f : Nat → Nat → Int32} {g : Nat → Int64} {jk : LWd} (hL : L ≤ 3072) (hi : i + 6 ≤ L) (hn : n ≤ 600) (hI : IN (n : Nat) z f) (hj : JK jk n) : ∃ z2 f2 g2 jk2, IN ((n + 1 : Nat) : Int) z2 f2 ∧ JK jk2 (n + 1) ∧ ∀ we, LJ nm b L xs we 1588 (LV i) [] (wA z2 f2 (lgC g2 :: jk2)) (1000 + 10 * (n + 1)) (30000 + 1000 * (n + 1)) → LJ nm b L xs we 917 (LV i) [] (wA z f (lgC g :: jk)) (1000 + 10 * n) (30000 + 1000 * n) := by
  obtain ⟨c, v, z1, f1, v', z2, f2, hc, e1, e2, t2, u2, hI2⟩ := co_walk (by omega) hI (xs (iv (i : Nat) + 1).toNatClampNeg)
  have x0 := map_q (e_X10_walk (r := lgC g :: jk)) e1
  obtain ⟨g', x1, hg⟩ := wrp_rs xk_IAEISE hc x0 (ws := wA z f (lgC g :: jk)) rfl
  have x1' : m_L_walk 0 (xs (iv (i : Nat) + 1).toNatClampNeg) 79 (wA z f (lgC g :: jk)) = some (iv (c : Nat), wA z1 f1 (lgC g' :: jk)) := x1
  have x2 := map_q (e_X11_walk (r := lgC g' :: jk)) e2
  refine ⟨z2, f2, g', jk, by rw [Int.natCast_add]; exact hI2, ⟨hj.1, by have := hj.2; omega⟩, fun we kk => ?_⟩
  refine j_aload_n (pc := 917) dL_law_917 rfl ?_
  refine j_aload_n (pc := 918) dL_law_918 rfl ?_
  refine j_iload (pc := 919) dL_law_919 rfl ?_
  refine j_iconst (pc := 921) dL_law_921 (v := 1) (by decide) ?_
  refine j_iadd (pc := 922) dL_law_922 ?_
  refine j_sld (pc := 923) rfl dL_law_923 (vin (j := 1) hL hi (by decide)) ?_
  refine j_aload_n (pc := 924) dL_law_924 rfl ?_
  refine j_callSW (pc := 925) (hh := [(0, 9, 12, 13), (0, 9, 15, 15)]) (As := [.ref 0, .int (xs (iv (i : Nat) + 1).toNatClampNeg), .ref 79]) (k' := 1000 + 10 * n + 1) (n' := 30000 + 1000 * n + 6) dL_law_925 (s_L_walk x1') (jmS ll_78 ll_79 ll_0 ll_80) rfl hyL_walk rfl (by decide) (by decide) (by decide) (Nat.le_refl _) (Nat.le_refl _) (by omega) (by omega) rfl ?_
  refine j_istore_5 (pc := 928) dL_law_928 (by decide) rfl ?_
  refine j_aload_n (pc := 930) dL_law_930 rfl ?_
  refine j_aload_n (pc := 931) dL_law_931 rfl ?_
  refine j_iload (pc := 932) dL_law_932 rfl ?_
  refine j_iconst (pc := 934) dL_law_934 (v := 1) (by decide) ?_
  refine j_iadd (pc := 935) dL_law_935 ?_
  refine j_sld (pc := 936) rfl dL_law_936 (vin (j := 1) hL hi (by decide)) ?_
  refine j_callV_g (pc := 937) (As := [.int (xs (iv (i : Nat) + 1).toNatClampNeg)]) (k' := 1000 + 10 * n + 1 + 0) (n' := 30000 + 1000 * n + 6 + 0) dL_law_937 (s_X11_walk x2) (jmV ll_184 ll_185 ll_186 (jlw lw_544) ll_187) rfl hv_X11_walk rfl (r_X11_walk x2) rfl (by decide) (by decide) (Nat.le_of_ble_eq_true rfl) (Nat.le_refl _) (Nat.le_refl _) (by omega) (by omega) (Or.inl rfl) ?_
  refine j_istore_6 (pc := 940) dL_law_940 (by decide) rfl ?_
  refine j_aload_n (pc := 942) dL_law_942 rfl ?_
  refine j_callV_g (pc := 943) (As := []) (k' := 1000 + 10 * n + 1 + 0) (n' := 30000 + 1000 * n + 6 + 0) dL_law_943 (s_X11_thrown thr_e) (jmV ll_240 ll_241 ll_242 (jlw lw_544) ll_243) rfl hv_X11_thrown rfl (r_X11_thrown thr_e) rfl (by decide) (by decide) (Nat.le_of_ble_eq_true rfl) (Nat.le_refl _) (Nat.le_refl _) (by omega) (by omega) (Or.inl rfl) ?_
  refine j_iload (pc := 946) dL_law_946 rfl ?_
  refine j_icmp_eq (pc := 948) (tgt := 953) dL_law_948 (by decide) (fun _ => ?_) (fun q => absurd t2 q)
  refine j_iload (pc := 953) dL_law_953 rfl ?_
  refine j_if_ne (pc := 955) (tgt := 970) dL_law_955 (by decide) (fun _ => ?_) (fun q => ?_)
  · refine j_goto (pc := 970) (tgt := 1588) dL_law_970 (by decide) ?_
    refine j_mask [true, true, true, true, true, false, false] ?_
    exact j_wid (by omega) (by omega) kk
  · have hc0 : c = 0 := by
      have hb : c < 100000 := Nat.lt_of_le_of_lt hc (by decide)
      have := (iv_eq (b := 0) (ibn hb) (by decide)).mp q
      omega
    refine j_aload_n (pc := 958) dL_law_958 rfl ?_
    refine j_iconst (pc := 959) dL_law_959 (v := 0) (by decide) ?_
    refine j_lald (pc := 960) dL_law_960 aLd_79 ?_
    refine j_iload (pc := 961) dL_law_961 rfl ?_
    refine j_i2l (pc := 963) dL_law_963 ?_
    refine j_lcmp (pc := 964) dL_law_964 ?_
    refine j_if_eq (pc := 965) (tgt := 970) dL_law_965 (by decide) (fun _ => ?_) (fun q => absurd (by rw [hg hc0, u2 hc0]; exact lg_self _) q)
    refine j_goto (pc := 970) (tgt := 1588) dL_law_970 (by decide) ?_
    refine j_mask [true, true, true, true, true, false, false] ?_
    exact j_wid (by omega) (by omega) kk
set_option maxRecDepth 100000 in
theorem lc_machine {nm : String} {b L : Nat} {xs : Nat → Int32} {i n : Nat} {z f : Nat → Nat → Int32} {g : Nat → Int64} {jk : LWd} (hL : L ≤ 3072) (hi : i + 6 ≤ L) (hn : n ≤ 600) (hI : IN (n : Nat) z f) (hj : JK jk n) : ∃ z2 f2 g2 jk2, IN ((n + 1 : Nat) : Int) z2 f2 ∧ JK jk2 (n + 1) ∧ ∀ we, LJ nm b L xs we 1588 (LV i) [] (wA z2 f2 (lgC g2 :: jk2)) (1000 + 10 * (n + 1)) (30000 + 1000 * (n + 1)) → LJ nm b L xs we 973 (LV i) [] (wA z f (lgC g :: jk)) (1000 + 10 * n) (30000 + 1000 * n) := by
  obtain ⟨c, v, v', z2, f2, hc, e1, e2, t2, u2, hI2⟩ := co_machine hI (xs (iv (i : Nat) + 1).toNatClampNeg)
  have x0 := map_r (e_X10_machine (r := lgC g :: jk)) e1
  obtain ⟨g', x1, hg⟩ := wrp_rs xk_IAE hc x0 (ws := wA z f (lgC g :: jk)) rfl
  have x1' : m_L_machine 0 (xs (iv (i : Nat) + 1).toNatClampNeg) 79 (wA z f (lgC g :: jk)) = some (iv (c : Nat), wA z f (lgC g' :: jk)) := x1
  have x2 := map_q (e_X11_machine (r := lgC g' :: jk)) e2
  refine ⟨z2, f2, g', jk, by rw [Int.natCast_add]; exact hI2, ⟨hj.1, by have := hj.2; omega⟩, fun we kk => ?_⟩
  refine j_aload_n (pc := 973) dL_law_973 rfl ?_
  refine j_aload_n (pc := 974) dL_law_974 rfl ?_
  refine j_iload (pc := 975) dL_law_975 rfl ?_
  refine j_iconst (pc := 977) dL_law_977 (v := 1) (by decide) ?_
  refine j_iadd (pc := 978) dL_law_978 ?_
  refine j_sld (pc := 979) rfl dL_law_979 (vin (j := 1) hL hi (by decide)) ?_
  refine j_aload_n (pc := 980) dL_law_980 rfl ?_
  refine j_callSW (pc := 981) (hh := [(0, 9, 12, 13)]) (As := [.ref 0, .int (xs (iv (i : Nat) + 1).toNatClampNeg), .ref 79]) (k' := 1000 + 10 * n + 1) (n' := 30000 + 1000 * n + 6) dL_law_981 (s_L_machine x1') (jmS ll_85 ll_86 ll_0 ll_87) rfl hyL_machine rfl (by decide) (by decide) (by decide) (Nat.le_refl _) (Nat.le_refl _) (by omega) (by omega) rfl ?_
  refine j_istore_5 (pc := 984) dL_law_984 (by decide) rfl ?_
  refine j_aload_n (pc := 986) dL_law_986 rfl ?_
  refine j_aload_n (pc := 987) dL_law_987 rfl ?_
  refine j_iload (pc := 988) dL_law_988 rfl ?_
  refine j_iconst (pc := 990) dL_law_990 (v := 1) (by decide) ?_
  refine j_iadd (pc := 991) dL_law_991 ?_
  refine j_sld (pc := 992) rfl dL_law_992 (vin (j := 1) hL hi (by decide)) ?_
  refine j_callV_g (pc := 993) (As := [.int (xs (iv (i : Nat) + 1).toNatClampNeg)]) (k' := 1000 + 10 * n + 1 + 0) (n' := 30000 + 1000 * n + 6 + 0) dL_law_993 (s_X11_machine x2) (jmV ll_188 ll_189 ll_190 (jlw lw_544) ll_191) rfl hv_X11_machine rfl (r_X11_machine x2) rfl (by decide) (by decide) (Nat.le_of_ble_eq_true rfl) (Nat.le_refl _) (Nat.le_refl _) (by omega) (by omega) (Or.inl rfl) ?_
  refine j_istore_6 (pc := 996) dL_law_996 (by decide) rfl ?_
  refine j_aload_n (pc := 998) dL_law_998 rfl ?_
  refine j_callV_g (pc := 999) (As := []) (k' := 1000 + 10 * n + 1 + 0) (n' := 30000 + 1000 * n + 6 + 0) dL_law_999 (s_X11_thrown thr_e) (jmV ll_240 ll_241 ll_242 (jlw lw_544) ll_243) rfl hv_X11_thrown rfl (r_X11_thrown thr_e) rfl (by decide) (by decide) (Nat.le_of_ble_eq_true rfl) (Nat.le_refl _) (Nat.le_refl _) (by omega) (by omega) (Or.inl rfl) ?_
  refine j_iload (pc := 1002) dL_law_1002 rfl ?_
  refine j_icmp_eq (pc := 1004) (tgt := 1009) dL_law_1004 (by decide) (fun _ => ?_) (fun q => absurd t2 q)
  refine j_iload (pc := 1009) dL_law_1009 rfl ?_
  refine j_if_ne (pc := 1011) (tgt := 1026) dL_law_1011 (by decide) (fun _ => ?_) (fun q => ?_)
  · refine j_goto (pc := 1026) (tgt := 1588) dL_law_1026 (by decide) ?_
    refine j_mask [true, true, true, true, true, false, false] ?_
    exact j_wid (by omega) (by omega) kk
  · have hc0 : c = 0 := by
      have hb : c < 100000 := Nat.lt_of_le_of_lt hc (by decide)
      have := (iv_eq (b := 0) (ibn hb) (by decide)).mp q
      omega
    refine j_aload_n (pc := 1014) dL_law_1014 rfl ?_
    refine j_iconst (pc := 1015) dL_law_1015 (v := 0) (by decide) ?_
    refine j_lald (pc := 1016) dL_law_1016 aLd_79 ?_
    refine j_iload (pc := 1017) dL_law_1017 rfl ?_
    refine j_i2l (pc := 1019) dL_law_1019 ?_
    refine j_lcmp (pc := 1020) dL_law_1020 ?_
    refine j_if_eq (pc := 1021) (tgt := 1026) dL_law_1021 (by decide) (fun _ => ?_) (fun q => absurd (by rw [hg hc0, u2 hc0]; exact lg_self _) q)
    refine j_goto (pc := 1026) (tgt := 1588) dL_law_1026 (by decide) ?_
    refine j_mask [true, true, true, true, true, false, false] ?_
    exact j_wid (by omega) (by omega) kk
set_option maxRecDepth 100000 in
theorem lc_foot {nm : String} {b L : Nat} {xs : Nat → Int32} {i n : Nat} {z f : Nat → Nat → Int32} {g : Nat → Int64} {jk : LWd} (hL : L ≤ 3072) (hi : i + 6 ≤ L) (hn : n ≤ 600) (hI : IN (n : Nat) z f) (hj : JK jk n) : ∃ z2 f2 g2 jk2, IN ((n + 1 : Nat) : Int) z2 f2 ∧ JK jk2 (n + 1) ∧ ∀ we, LJ nm b L xs we 1588 (LV i) [] (wA z2 f2 (lgC g2 :: jk2)) (1000 + 10 * (n + 1)) (30000 + 1000 * (n + 1)) → LJ nm b L xs we 1029 (LV i) [] (wA z f (lgC g :: jk)) (1000 + 10 * n) (30000 + 1000 * n) := by
  obtain ⟨c, v, v', z2, f2, hc, e1, e2, t2, u2, hI2⟩ := co_foot hI (xs (iv (i : Nat) + 1).toNatClampNeg) (xs (iv (i : Nat) + 2).toNatClampNeg)
  have x0 := map_r (e_X10_foot (r := lgC g :: jk)) e1
  obtain ⟨g', x1, hg⟩ := wrp_rs xk_IOBIAE hc x0 (ws := wA z f (lgC g :: jk)) rfl
  have x1' : m_L_foot 0 (xs (iv (i : Nat) + 1).toNatClampNeg) (xs (iv (i : Nat) + 2).toNatClampNeg) 79 (wA z f (lgC g :: jk)) = some (iv (c : Nat), wA z f (lgC g' :: jk)) := x1
  have x2 := map_q (e_X11_foot (r := lgC g' :: jk)) e2
  refine ⟨z2, f2, g', jk, by rw [Int.natCast_add]; exact hI2, ⟨hj.1, by have := hj.2; omega⟩, fun we kk => ?_⟩
  refine j_aload_n (pc := 1029) dL_law_1029 rfl ?_
  refine j_aload_n (pc := 1030) dL_law_1030 rfl ?_
  refine j_iload (pc := 1031) dL_law_1031 rfl ?_
  refine j_iconst (pc := 1033) dL_law_1033 (v := 1) (by decide) ?_
  refine j_iadd (pc := 1034) dL_law_1034 ?_
  refine j_sld (pc := 1035) rfl dL_law_1035 (vin (j := 1) hL hi (by decide)) ?_
  refine j_aload_n (pc := 1036) dL_law_1036 rfl ?_
  refine j_iload (pc := 1037) dL_law_1037 rfl ?_
  refine j_iconst (pc := 1039) dL_law_1039 (v := 2) (by decide) ?_
  refine j_iadd (pc := 1040) dL_law_1040 ?_
  refine j_sld (pc := 1041) rfl dL_law_1041 (vin (j := 2) hL hi (by decide)) ?_
  refine j_aload_n (pc := 1042) dL_law_1042 rfl ?_
  refine j_callSW (pc := 1043) (hh := [(0, 10, 13, 31), (0, 10, 17, 13)]) (As := [.ref 0, .int (xs (iv (i : Nat) + 1).toNatClampNeg), .int (xs (iv (i : Nat) + 2).toNatClampNeg), .ref 79]) (k' := 1000 + 10 * n + 1) (n' := 30000 + 1000 * n + 6) dL_law_1043 (s_L_foot x1') (jmS ll_92 ll_93 ll_0 ll_94) rfl hyL_foot rfl (by decide) (by decide) (by decide) (Nat.le_refl _) (Nat.le_refl _) (by omega) (by omega) rfl ?_
  refine j_istore_5 (pc := 1046) dL_law_1046 (by decide) rfl ?_
  refine j_aload_n (pc := 1048) dL_law_1048 rfl ?_
  refine j_aload_n (pc := 1049) dL_law_1049 rfl ?_
  refine j_iload (pc := 1050) dL_law_1050 rfl ?_
  refine j_iconst (pc := 1052) dL_law_1052 (v := 1) (by decide) ?_
  refine j_iadd (pc := 1053) dL_law_1053 ?_
  refine j_sld (pc := 1054) rfl dL_law_1054 (vin (j := 1) hL hi (by decide)) ?_
  refine j_aload_n (pc := 1055) dL_law_1055 rfl ?_
  refine j_iload (pc := 1056) dL_law_1056 rfl ?_
  refine j_iconst (pc := 1058) dL_law_1058 (v := 2) (by decide) ?_
  refine j_iadd (pc := 1059) dL_law_1059 ?_
  refine j_sld (pc := 1060) rfl dL_law_1060 (vin (j := 2) hL hi (by decide)) ?_
  refine j_callV_g (pc := 1061) (As := [.int (xs (iv (i : Nat) + 1).toNatClampNeg), .int (xs (iv (i : Nat) + 2).toNatClampNeg)]) (k' := 1000 + 10 * n + 1 + 0) (n' := 30000 + 1000 * n + 6 + 0) dL_law_1061 (s_X11_foot x2) (jmV ll_192 ll_193 ll_194 (jlw lw_544) ll_195) rfl hv_X11_foot rfl (r_X11_foot x2) rfl (by decide) (by decide) (Nat.le_of_ble_eq_true rfl) (Nat.le_refl _) (Nat.le_refl _) (by omega) (by omega) (Or.inl rfl) ?_
  refine j_istore_6 (pc := 1064) dL_law_1064 (by decide) rfl ?_
  refine j_aload_n (pc := 1066) dL_law_1066 rfl ?_
  refine j_callV_g (pc := 1067) (As := []) (k' := 1000 + 10 * n + 1 + 0) (n' := 30000 + 1000 * n + 6 + 0) dL_law_1067 (s_X11_thrown thr_e) (jmV ll_240 ll_241 ll_242 (jlw lw_544) ll_243) rfl hv_X11_thrown rfl (r_X11_thrown thr_e) rfl (by decide) (by decide) (Nat.le_of_ble_eq_true rfl) (Nat.le_refl _) (Nat.le_refl _) (by omega) (by omega) (Or.inl rfl) ?_
  refine j_iload (pc := 1070) dL_law_1070 rfl ?_
  refine j_icmp_eq (pc := 1072) (tgt := 1077) dL_law_1072 (by decide) (fun _ => ?_) (fun q => absurd t2 q)
  refine j_iload (pc := 1077) dL_law_1077 rfl ?_
  refine j_if_ne (pc := 1079) (tgt := 1094) dL_law_1079 (by decide) (fun _ => ?_) (fun q => ?_)
  · refine j_goto (pc := 1094) (tgt := 1588) dL_law_1094 (by decide) ?_
    refine j_mask [true, true, true, true, true, false, false] ?_
    exact j_wid (by omega) (by omega) kk
  · have hc0 : c = 0 := by
      have hb : c < 100000 := Nat.lt_of_le_of_lt hc (by decide)
      have := (iv_eq (b := 0) (ibn hb) (by decide)).mp q
      omega
    refine j_aload_n (pc := 1082) dL_law_1082 rfl ?_
    refine j_iconst (pc := 1083) dL_law_1083 (v := 0) (by decide) ?_
    refine j_lald (pc := 1084) dL_law_1084 aLd_79 ?_
    refine j_iload (pc := 1085) dL_law_1085 rfl ?_
    refine j_i2l (pc := 1087) dL_law_1087 ?_
    refine j_lcmp (pc := 1088) dL_law_1088 ?_
    refine j_if_eq (pc := 1089) (tgt := 1094) dL_law_1089 (by decide) (fun _ => ?_) (fun q => absurd (by rw [hg hc0, u2 hc0]; exact lg_self _) q)
    refine j_goto (pc := 1094) (tgt := 1588) dL_law_1094 (by decide) ?_
    refine j_mask [true, true, true, true, true, false, false] ?_
    exact j_wid (by omega) (by omega) kk
set_option maxRecDepth 100000 in
theorem lc_point {nm : String} {b L : Nat} {xs : Nat → Int32} {i n : Nat} {z f : Nat → Nat → Int32} {g : Nat → Int64} {jk : LWd} (hL : L ≤ 3072) (hi : i + 6 ≤ L) (hn : n ≤ 600) (hI : IN (n : Nat) z f) (hj : JK jk n) : ∃ z2 f2 g2 jk2, IN ((n + 1 : Nat) : Int) z2 f2 ∧ JK jk2 (n + 1) ∧ ∀ we, LJ nm b L xs we 1588 (LV i) [] (wA z2 f2 (lgC g2 :: jk2)) (1000 + 10 * (n + 1)) (30000 + 1000 * (n + 1)) → LJ nm b L xs we 1097 (LV i) [] (wA z f (lgC g :: jk)) (1000 + 10 * n) (30000 + 1000 * n) := by
  obtain ⟨c, v, v', z2, f2, hc, e1, e2, t2, u2, hI2⟩ := co_point hI (xs (iv (i : Nat) + 1).toNatClampNeg) (xs (iv (i : Nat) + 2).toNatClampNeg) (xs (iv (i : Nat) + 3).toNatClampNeg)
  have x0 := map_r (e_X10_point (r := lgC g :: jk)) e1
  obtain ⟨g', x1, hg⟩ := wrp_rs xk_IAE hc x0 (ws := wA z f (lgC g :: jk)) rfl
  have x1' : m_L_point 0 (xs (iv (i : Nat) + 1).toNatClampNeg) (xs (iv (i : Nat) + 2).toNatClampNeg) (xs (iv (i : Nat) + 3).toNatClampNeg) 79 (wA z f (lgC g :: jk)) = some (iv (c : Nat), wA z f (lgC g' :: jk)) := x1
  have x2 := map_q (e_X11_point (r := lgC g' :: jk)) e2
  refine ⟨z2, f2, g', jk, by rw [Int.natCast_add]; exact hI2, ⟨hj.1, by have := hj.2; omega⟩, fun we kk => ?_⟩
  refine j_aload_n (pc := 1097) dL_law_1097 rfl ?_
  refine j_aload_n (pc := 1098) dL_law_1098 rfl ?_
  refine j_iload (pc := 1099) dL_law_1099 rfl ?_
  refine j_iconst (pc := 1101) dL_law_1101 (v := 1) (by decide) ?_
  refine j_iadd (pc := 1102) dL_law_1102 ?_
  refine j_sld (pc := 1103) rfl dL_law_1103 (vin (j := 1) hL hi (by decide)) ?_
  refine j_aload_n (pc := 1104) dL_law_1104 rfl ?_
  refine j_iload (pc := 1105) dL_law_1105 rfl ?_
  refine j_iconst (pc := 1107) dL_law_1107 (v := 2) (by decide) ?_
  refine j_iadd (pc := 1108) dL_law_1108 ?_
  refine j_sld (pc := 1109) rfl dL_law_1109 (vin (j := 2) hL hi (by decide)) ?_
  refine j_aload_n (pc := 1110) dL_law_1110 rfl ?_
  refine j_iload (pc := 1111) dL_law_1111 rfl ?_
  refine j_iconst (pc := 1113) dL_law_1113 (v := 3) (by decide) ?_
  refine j_iadd (pc := 1114) dL_law_1114 ?_
  refine j_sld (pc := 1115) rfl dL_law_1115 (vin (j := 3) hL hi (by decide)) ?_
  refine j_aload_n (pc := 1116) dL_law_1116 rfl ?_
  refine j_callSW (pc := 1117) (hh := [(0, 12, 15, 13)]) (As := [.ref 0, .int (xs (iv (i : Nat) + 1).toNatClampNeg), .int (xs (iv (i : Nat) + 2).toNatClampNeg), .int (xs (iv (i : Nat) + 3).toNatClampNeg), .ref 79]) (k' := 1000 + 10 * n + 1) (n' := 30000 + 1000 * n + 6) dL_law_1117 (s_L_point x1') (jmS ll_99 ll_100 ll_0 ll_101) rfl hyL_point rfl (by decide) (by decide) (by decide) (Nat.le_refl _) (Nat.le_refl _) (by omega) (by omega) rfl ?_
  refine j_istore_5 (pc := 1120) dL_law_1120 (by decide) rfl ?_
  refine j_aload_n (pc := 1122) dL_law_1122 rfl ?_
  refine j_aload_n (pc := 1123) dL_law_1123 rfl ?_
  refine j_iload (pc := 1124) dL_law_1124 rfl ?_
  refine j_iconst (pc := 1126) dL_law_1126 (v := 1) (by decide) ?_
  refine j_iadd (pc := 1127) dL_law_1127 ?_
  refine j_sld (pc := 1128) rfl dL_law_1128 (vin (j := 1) hL hi (by decide)) ?_
  refine j_aload_n (pc := 1129) dL_law_1129 rfl ?_
  refine j_iload (pc := 1130) dL_law_1130 rfl ?_
  refine j_iconst (pc := 1132) dL_law_1132 (v := 2) (by decide) ?_
  refine j_iadd (pc := 1133) dL_law_1133 ?_
  refine j_sld (pc := 1134) rfl dL_law_1134 (vin (j := 2) hL hi (by decide)) ?_
  refine j_aload_n (pc := 1135) dL_law_1135 rfl ?_
  refine j_iload (pc := 1136) dL_law_1136 rfl ?_
  refine j_iconst (pc := 1138) dL_law_1138 (v := 3) (by decide) ?_
  refine j_iadd (pc := 1139) dL_law_1139 ?_
  refine j_sld (pc := 1140) rfl dL_law_1140 (vin (j := 3) hL hi (by decide)) ?_
  refine j_callV_g (pc := 1141) (As := [.int (xs (iv (i : Nat) + 1).toNatClampNeg), .int (xs (iv (i : Nat) + 2).toNatClampNeg), .int (xs (iv (i : Nat) + 3).toNatClampNeg)]) (k' := 1000 + 10 * n + 1 + 0) (n' := 30000 + 1000 * n + 6 + 0) dL_law_1141 (s_X11_point x2) (jmV ll_196 ll_197 ll_198 (jlw lw_544) ll_199) rfl hv_X11_point rfl (r_X11_point x2) rfl (by decide) (by decide) (Nat.le_of_ble_eq_true rfl) (Nat.le_refl _) (Nat.le_refl _) (by omega) (by omega) (Or.inl rfl) ?_
  refine j_istore_6 (pc := 1144) dL_law_1144 (by decide) rfl ?_
  refine j_aload_n (pc := 1146) dL_law_1146 rfl ?_
  refine j_callV_g (pc := 1147) (As := []) (k' := 1000 + 10 * n + 1 + 0) (n' := 30000 + 1000 * n + 6 + 0) dL_law_1147 (s_X11_thrown thr_e) (jmV ll_240 ll_241 ll_242 (jlw lw_544) ll_243) rfl hv_X11_thrown rfl (r_X11_thrown thr_e) rfl (by decide) (by decide) (Nat.le_of_ble_eq_true rfl) (Nat.le_refl _) (Nat.le_refl _) (by omega) (by omega) (Or.inl rfl) ?_
  refine j_iload (pc := 1150) dL_law_1150 rfl ?_
  refine j_icmp_eq (pc := 1152) (tgt := 1157) dL_law_1152 (by decide) (fun _ => ?_) (fun q => absurd t2 q)
  refine j_iload (pc := 1157) dL_law_1157 rfl ?_
  refine j_if_ne (pc := 1159) (tgt := 1174) dL_law_1159 (by decide) (fun _ => ?_) (fun q => ?_)
  · refine j_goto (pc := 1174) (tgt := 1588) dL_law_1174 (by decide) ?_
    refine j_mask [true, true, true, true, true, false, false] ?_
    exact j_wid (by omega) (by omega) kk
  · have hc0 : c = 0 := by
      have hb : c < 100000 := Nat.lt_of_le_of_lt hc (by decide)
      have := (iv_eq (b := 0) (ibn hb) (by decide)).mp q
      omega
    refine j_aload_n (pc := 1162) dL_law_1162 rfl ?_
    refine j_iconst (pc := 1163) dL_law_1163 (v := 0) (by decide) ?_
    refine j_lald (pc := 1164) dL_law_1164 aLd_79 ?_
    refine j_iload (pc := 1165) dL_law_1165 rfl ?_
    refine j_i2l (pc := 1167) dL_law_1167 ?_
    refine j_lcmp (pc := 1168) dL_law_1168 ?_
    refine j_if_eq (pc := 1169) (tgt := 1174) dL_law_1169 (by decide) (fun _ => ?_) (fun q => absurd (by rw [hg hc0, u2 hc0]; exact lg_self _) q)
    refine j_goto (pc := 1174) (tgt := 1588) dL_law_1174 (by decide) ?_
    refine j_mask [true, true, true, true, true, false, false] ?_
    exact j_wid (by omega) (by omega) kk
set_option maxRecDepth 100000 in
theorem lc_isStable {nm : String} {b L : Nat} {xs : Nat → Int32} {i n : Nat} {z f : Nat → Nat → Int32} {g : Nat → Int64} {jk : LWd} (hL : L ≤ 3072) (hi : i + 6 ≤ L) (hn : n ≤ 600) (hI : IN (n : Nat) z f) (hj : JK jk n) : ∃ z2 f2 g2 jk2, IN ((n + 1 : Nat) : Int) z2 f2 ∧ JK jk2 (n + 1) ∧ ∀ we, LJ nm b L xs we 1588 (LV i) [] (wA z2 f2 (lgC g2 :: jk2)) (1000 + 10 * (n + 1)) (30000 + 1000 * (n + 1)) → LJ nm b L xs we 1177 (LV i) [] (wA z f (lgC g :: jk)) (1000 + 10 * n) (30000 + 1000 * n) := by
  obtain ⟨v, z1, f1, z2, f2, e1, e2, hI2⟩ := co_isStable hI
  have x1 := map_q (e_X10_isStable (r := lgC g :: jk)) e1
  have x2 := map_q (e_X11_isStable (r := lgC g :: jk)) e2
  refine ⟨z2, f2, g, jk, by rw [Int.natCast_add]; exact hI2, ⟨hj.1, by have := hj.2; omega⟩, fun we kk => ?_⟩
  refine j_aload_n (pc := 1177) dL_law_1177 rfl ?_
  refine j_callV_g (pc := 1178) (As := []) (k' := 1000 + 10 * n + 0) (n' := 30000 + 1000 * n + 0) dL_law_1178 (s_X10_isStable x1) (jmV ll_248 ll_249 ll_250 (jlw lw_147) ll_251) rfl hv_X10_isStable rfl (r_X10_isStable x1) rfl (by decide) (by decide) (Nat.le_of_ble_eq_true rfl) (Nat.le_refl _) (Nat.le_refl _) (by omega) (by omega) (Or.inl rfl) ?_
  refine j_aload_n (pc := 1181) dL_law_1181 rfl ?_
  refine j_callV_g (pc := 1182) (As := []) (k' := 1000 + 10 * n + 0 + 0) (n' := 30000 + 1000 * n + 0 + 0) dL_law_1182 (s_X11_isStable x2) (jmV ll_228 ll_229 ll_230 (jlw lw_544) ll_231) rfl hv_X11_isStable rfl (r_X11_isStable x2) rfl (by decide) (by decide) (Nat.le_of_ble_eq_true rfl) (Nat.le_refl _) (Nat.le_refl _) (by omega) (by omega) (Or.inl rfl) ?_
  refine j_icmp_eq (pc := 1185) (tgt := 1588) dL_law_1185 (by decide) (fun _ => ?_) (fun q => absurd rfl q)
  exact j_wid (by omega) (by omega) kk
set_option maxRecDepth 100000 in
theorem lc_isStableAnew {nm : String} {b L : Nat} {xs : Nat → Int32} {i n : Nat} {z f : Nat → Nat → Int32} {g : Nat → Int64} {jk : LWd} (hL : L ≤ 3072) (hi : i + 6 ≤ L) (hn : n ≤ 600) (hI : IN (n : Nat) z f) (hj : JK jk n) : ∃ z2 f2 g2 jk2, IN ((n + 1 : Nat) : Int) z2 f2 ∧ JK jk2 (n + 1) ∧ ∀ we, LJ nm b L xs we 1588 (LV i) [] (wA z2 f2 (lgC g2 :: jk2)) (1000 + 10 * (n + 1)) (30000 + 1000 * (n + 1)) → LJ nm b L xs we 1190 (LV i) [] (wA z f (lgC g :: jk)) (1000 + 10 * n) (30000 + 1000 * n) := by
  obtain ⟨v, z1, f1, z2, f2, e1, e2, hI2⟩ := co_isStableAnew hI
  have x1 := map_q (e_X10_isStableAnew (r := lgC g :: jk)) e1
  have x2 := map_q (e_X11_isStableAnew (r := lgC g :: jk)) e2
  refine ⟨z2, f2, g, jk, by rw [Int.natCast_add]; exact hI2, ⟨hj.1, by have := hj.2; omega⟩, fun we kk => ?_⟩
  refine j_aload_n (pc := 1190) dL_law_1190 rfl ?_
  refine j_callV_g (pc := 1191) (As := []) (k' := 1000 + 10 * n + 0) (n' := 30000 + 1000 * n + 0) dL_law_1191 (s_X10_isStableAnew x1) (jmV ll_252 ll_253 ll_254 (jlw lw_147) ll_255) rfl hv_X10_isStableAnew rfl (r_X10_isStableAnew x1) rfl (by decide) (by decide) (Nat.le_of_ble_eq_true rfl) (Nat.le_refl _) (Nat.le_refl _) (by omega) (by omega) (Or.inl rfl) ?_
  refine j_aload_n (pc := 1194) dL_law_1194 rfl ?_
  refine j_callV_g (pc := 1195) (As := []) (k' := 1000 + 10 * n + 0 + 0) (n' := 30000 + 1000 * n + 0 + 0) dL_law_1195 (s_X11_isStableAnew x2) (jmV ll_232 ll_233 ll_234 (jlw lw_544) ll_235) rfl hv_X11_isStableAnew rfl (r_X11_isStableAnew x2) rfl (by decide) (by decide) (Nat.le_of_ble_eq_true rfl) (Nat.le_refl _) (Nat.le_refl _) (by omega) (by omega) (Or.inl rfl) ?_
  refine j_icmp_eq (pc := 1198) (tgt := 1588) dL_law_1198 (by decide) (fun _ => ?_) (fun q => absurd rfl q)
  exact j_wid (by omega) (by omega) kk
set_option maxRecDepth 100000 in
theorem lc_margin {nm : String} {b L : Nat} {xs : Nat → Int32} {i n : Nat} {z f : Nat → Nat → Int32} {g : Nat → Int64} {jk : LWd} (hL : L ≤ 3072) (hi : i + 6 ≤ L) (hn : n ≤ 600) (hI : IN (n : Nat) z f) (hj : JK jk n) : ∃ z2 f2 g2 jk2, IN ((n + 1 : Nat) : Int) z2 f2 ∧ JK jk2 (n + 1) ∧ ∀ we, LJ nm b L xs we 1588 (LV i) [] (wA z2 f2 (lgC g2 :: jk2)) (1000 + 10 * (n + 1)) (30000 + 1000 * (n + 1)) → LJ nm b L xs we 1203 (LV i) [] (wA z f (lgC g :: jk)) (1000 + 10 * n) (30000 + 1000 * n) := by
  obtain ⟨v, z1, f1, z2, f2, e1, e2, hI2⟩ := co_margin hI
  have x1 := map_q (e_X10_margin (r := lgC g :: jk)) e1
  have x2 := map_q (e_X11_margin (r := lgC g :: jk)) e2
  refine ⟨z2, f2, g, jk, by rw [Int.natCast_add]; exact hI2, ⟨hj.1, by have := hj.2; omega⟩, fun we kk => ?_⟩
  refine j_aload_n (pc := 1203) dL_law_1203 rfl ?_
  refine j_callV_g (pc := 1204) (As := []) (k' := 1000 + 10 * n + 0) (n' := 30000 + 1000 * n + 0) dL_law_1204 (s_X10_margin x1) (jmV ll_256 ll_257 ll_258 (jlw lw_147) ll_259) rfl hv_X10_margin rfl (r_X10_margin x1) rfl (by decide) (by decide) (Nat.le_of_ble_eq_true rfl) (Nat.le_refl _) (Nat.le_refl _) (by omega) (by omega) (Or.inl rfl) ?_
  refine j_aload_n (pc := 1207) dL_law_1207 rfl ?_
  refine j_callV_g (pc := 1208) (As := []) (k' := 1000 + 10 * n + 0 + 0) (n' := 30000 + 1000 * n + 0 + 0) dL_law_1208 (s_X11_margin x2) (jmV ll_236 ll_237 ll_238 (jlw lw_544) ll_239) rfl hv_X11_margin rfl (r_X11_margin x2) rfl (by decide) (by decide) (Nat.le_of_ble_eq_true rfl) (Nat.le_refl _) (Nat.le_refl _) (by omega) (by omega) (Or.inl rfl) ?_
  refine j_icmp_eq (pc := 1211) (tgt := 1588) dL_law_1211 (by decide) (fun _ => ?_) (fun q => absurd rfl q)
  exact j_wid (by omega) (by omega) kk
set_option maxRecDepth 100000 in
theorem lc_corner {nm : String} {b L : Nat} {xs : Nat → Int32} {i n : Nat} {z f : Nat → Nat → Int32} {g : Nat → Int64} {jk : LWd} (hL : L ≤ 3072) (hi : i + 6 ≤ L) (hn : n ≤ 600) (hI : IN (n : Nat) z f) (hj : JK jk n) : ∃ z2 f2 g2 jk2, IN ((n + 1 : Nat) : Int) z2 f2 ∧ JK jk2 (n + 1) ∧ ∀ we, LJ nm b L xs we 1588 (LV i) [] (wA z2 f2 (lgC g2 :: jk2)) (1000 + 10 * (n + 1)) (30000 + 1000 * (n + 1)) → LJ nm b L xs we 1216 (LV i) [] (wA z f (lgC g :: jk)) (1000 + 10 * n) (30000 + 1000 * n) := by
  obtain ⟨c, v, z1, f1, v', z2, f2, hc, e1, e2, t2, u2, hI2⟩ := co_corner hI (xs (iv (i : Nat) + 1).toNatClampNeg)
  have x0 := map_q (e_X10_corner (r := lgC g :: jk)) e1
  obtain ⟨g', x1, hg⟩ := wrp_rs xk_IAE hc x0 (ws := wA z f (lgC g :: jk)) rfl
  have x1' : m_L_corner 0 (xs (iv (i : Nat) + 1).toNatClampNeg) 79 (wA z f (lgC g :: jk)) = some (iv (c : Nat), wA z1 f1 (lgC g' :: jk)) := x1
  have x2 := map_q (e_X11_corner (r := lgC g' :: jk)) e2
  refine ⟨z2, f2, g', jk, by rw [Int.natCast_add]; exact hI2, ⟨hj.1, by have := hj.2; omega⟩, fun we kk => ?_⟩
  refine j_aload_n (pc := 1216) dL_law_1216 rfl ?_
  refine j_aload_n (pc := 1217) dL_law_1217 rfl ?_
  refine j_iload (pc := 1218) dL_law_1218 rfl ?_
  refine j_iconst (pc := 1220) dL_law_1220 (v := 1) (by decide) ?_
  refine j_iadd (pc := 1221) dL_law_1221 ?_
  refine j_sld (pc := 1222) rfl dL_law_1222 (vin (j := 1) hL hi (by decide)) ?_
  refine j_aload_n (pc := 1223) dL_law_1223 rfl ?_
  refine j_callSW (pc := 1224) (hh := [(0, 9, 12, 13)]) (As := [.ref 0, .int (xs (iv (i : Nat) + 1).toNatClampNeg), .ref 79]) (k' := 1000 + 10 * n + 1) (n' := 30000 + 1000 * n + 6) dL_law_1224 (s_L_corner x1') (jmS ll_106 ll_107 ll_0 ll_108) rfl hyL_corner rfl (by decide) (by decide) (by decide) (Nat.le_refl _) (Nat.le_refl _) (by omega) (by omega) rfl ?_
  refine j_istore_5 (pc := 1227) dL_law_1227 (by decide) rfl ?_
  refine j_aload_n (pc := 1229) dL_law_1229 rfl ?_
  refine j_aload_n (pc := 1230) dL_law_1230 rfl ?_
  refine j_iload (pc := 1231) dL_law_1231 rfl ?_
  refine j_iconst (pc := 1233) dL_law_1233 (v := 1) (by decide) ?_
  refine j_iadd (pc := 1234) dL_law_1234 ?_
  refine j_sld (pc := 1235) rfl dL_law_1235 (vin (j := 1) hL hi (by decide)) ?_
  refine j_callV_g (pc := 1236) (As := [.int (xs (iv (i : Nat) + 1).toNatClampNeg)]) (k' := 1000 + 10 * n + 1 + 0) (n' := 30000 + 1000 * n + 6 + 0) dL_law_1236 (s_X11_corner x2) (jmV ll_200 ll_201 ll_202 (jlw lw_544) ll_203) rfl hv_X11_corner rfl (r_X11_corner x2) rfl (by decide) (by decide) (Nat.le_of_ble_eq_true rfl) (Nat.le_refl _) (Nat.le_refl _) (by omega) (by omega) (Or.inl rfl) ?_
  refine j_istore_6 (pc := 1239) dL_law_1239 (by decide) rfl ?_
  refine j_aload_n (pc := 1241) dL_law_1241 rfl ?_
  refine j_callV_g (pc := 1242) (As := []) (k' := 1000 + 10 * n + 1 + 0) (n' := 30000 + 1000 * n + 6 + 0) dL_law_1242 (s_X11_thrown thr_e) (jmV ll_240 ll_241 ll_242 (jlw lw_544) ll_243) rfl hv_X11_thrown rfl (r_X11_thrown thr_e) rfl (by decide) (by decide) (Nat.le_of_ble_eq_true rfl) (Nat.le_refl _) (Nat.le_refl _) (by omega) (by omega) (Or.inl rfl) ?_
  refine j_iload (pc := 1245) dL_law_1245 rfl ?_
  refine j_icmp_eq (pc := 1247) (tgt := 1252) dL_law_1247 (by decide) (fun _ => ?_) (fun q => absurd t2 q)
  refine j_iload (pc := 1252) dL_law_1252 rfl ?_
  refine j_if_ne (pc := 1254) (tgt := 1269) dL_law_1254 (by decide) (fun _ => ?_) (fun q => ?_)
  · refine j_goto (pc := 1269) (tgt := 1588) dL_law_1269 (by decide) ?_
    refine j_mask [true, true, true, true, true, false, false] ?_
    exact j_wid (by omega) (by omega) kk
  · have hc0 : c = 0 := by
      have hb : c < 100000 := Nat.lt_of_le_of_lt hc (by decide)
      have := (iv_eq (b := 0) (ibn hb) (by decide)).mp q
      omega
    refine j_aload_n (pc := 1257) dL_law_1257 rfl ?_
    refine j_iconst (pc := 1258) dL_law_1258 (v := 0) (by decide) ?_
    refine j_lald (pc := 1259) dL_law_1259 aLd_79 ?_
    refine j_iload (pc := 1260) dL_law_1260 rfl ?_
    refine j_i2l (pc := 1262) dL_law_1262 ?_
    refine j_lcmp (pc := 1263) dL_law_1263 ?_
    refine j_if_eq (pc := 1264) (tgt := 1269) dL_law_1264 (by decide) (fun _ => ?_) (fun q => absurd (by rw [hg hc0, u2 hc0]; exact lg_self _) q)
    refine j_goto (pc := 1269) (tgt := 1588) dL_law_1269 (by decide) ?_
    refine j_mask [true, true, true, true, true, false, false] ?_
    exact j_wid (by omega) (by omega) kk
set_option maxRecDepth 100000 in
theorem lc_foothold {nm : String} {b L : Nat} {xs : Nat → Int32} {i n : Nat} {z f : Nat → Nat → Int32} {g : Nat → Int64} {jk : LWd} (hL : L ≤ 3072) (hi : i + 6 ≤ L) (hn : n ≤ 600) (hI : IN (n : Nat) z f) (hj : JK jk n) : ∃ z2 f2 g2 jk2, IN ((n + 1 : Nat) : Int) z2 f2 ∧ JK jk2 (n + 1) ∧ ∀ we, LJ nm b L xs we 1588 (LV i) [] (wA z2 f2 (lgC g2 :: jk2)) (1000 + 10 * (n + 1)) (30000 + 1000 * (n + 1)) → LJ nm b L xs we 1272 (LV i) [] (wA z f (lgC g :: jk)) (1000 + 10 * n) (30000 + 1000 * n) := by
  obtain ⟨c, v, v', z2, f2, hc, e1, e2, t2, u2, hI2⟩ := co_foothold hI (xs (iv (i : Nat) + 1).toNatClampNeg)
  have x0 := map_r (e_X10_foothold (r := lgC g :: jk)) e1
  obtain ⟨g', x1, hg⟩ := wrp_rs xk_IOB hc x0 (ws := wA z f (lgC g :: jk)) rfl
  have x1' : m_L_foothold 0 (xs (iv (i : Nat) + 1).toNatClampNeg) 79 (wA z f (lgC g :: jk)) = some (iv (c : Nat), wA z f (lgC g' :: jk)) := x1
  have x2 := map_q (e_X11_foothold (r := lgC g' :: jk)) e2
  refine ⟨z2, f2, g', jk, by rw [Int.natCast_add]; exact hI2, ⟨hj.1, by have := hj.2; omega⟩, fun we kk => ?_⟩
  refine j_aload_n (pc := 1272) dL_law_1272 rfl ?_
  refine j_aload_n (pc := 1273) dL_law_1273 rfl ?_
  refine j_iload (pc := 1274) dL_law_1274 rfl ?_
  refine j_iconst (pc := 1276) dL_law_1276 (v := 1) (by decide) ?_
  refine j_iadd (pc := 1277) dL_law_1277 ?_
  refine j_sld (pc := 1278) rfl dL_law_1278 (vin (j := 1) hL hi (by decide)) ?_
  refine j_aload_n (pc := 1279) dL_law_1279 rfl ?_
  refine j_callSW (pc := 1280) (hh := [(0, 9, 12, 31)]) (As := [.ref 0, .int (xs (iv (i : Nat) + 1).toNatClampNeg), .ref 79]) (k' := 1000 + 10 * n + 1) (n' := 30000 + 1000 * n + 6) dL_law_1280 (s_L_foothold x1') (jmS ll_113 ll_114 ll_0 ll_115) rfl hyL_foothold rfl (by decide) (by decide) (by decide) (Nat.le_refl _) (Nat.le_refl _) (by omega) (by omega) rfl ?_
  refine j_istore_5 (pc := 1283) dL_law_1283 (by decide) rfl ?_
  refine j_aload_n (pc := 1285) dL_law_1285 rfl ?_
  refine j_aload_n (pc := 1286) dL_law_1286 rfl ?_
  refine j_iload (pc := 1287) dL_law_1287 rfl ?_
  refine j_iconst (pc := 1289) dL_law_1289 (v := 1) (by decide) ?_
  refine j_iadd (pc := 1290) dL_law_1290 ?_
  refine j_sld (pc := 1291) rfl dL_law_1291 (vin (j := 1) hL hi (by decide)) ?_
  refine j_callV_g (pc := 1292) (As := [.int (xs (iv (i : Nat) + 1).toNatClampNeg)]) (k' := 1000 + 10 * n + 1 + 0) (n' := 30000 + 1000 * n + 6 + 0) dL_law_1292 (s_X11_foothold x2) (jmV ll_204 ll_205 ll_206 (jlw lw_544) ll_207) rfl hv_X11_foothold rfl (r_X11_foothold x2) rfl (by decide) (by decide) (Nat.le_of_ble_eq_true rfl) (Nat.le_refl _) (Nat.le_refl _) (by omega) (by omega) (Or.inl rfl) ?_
  refine j_istore_6 (pc := 1295) dL_law_1295 (by decide) rfl ?_
  refine j_aload_n (pc := 1297) dL_law_1297 rfl ?_
  refine j_callV_g (pc := 1298) (As := []) (k' := 1000 + 10 * n + 1 + 0) (n' := 30000 + 1000 * n + 6 + 0) dL_law_1298 (s_X11_thrown thr_e) (jmV ll_240 ll_241 ll_242 (jlw lw_544) ll_243) rfl hv_X11_thrown rfl (r_X11_thrown thr_e) rfl (by decide) (by decide) (Nat.le_of_ble_eq_true rfl) (Nat.le_refl _) (Nat.le_refl _) (by omega) (by omega) (Or.inl rfl) ?_
  refine j_iload (pc := 1301) dL_law_1301 rfl ?_
  refine j_icmp_eq (pc := 1303) (tgt := 1308) dL_law_1303 (by decide) (fun _ => ?_) (fun q => absurd t2 q)
  refine j_iload (pc := 1308) dL_law_1308 rfl ?_
  refine j_if_ne (pc := 1310) (tgt := 1325) dL_law_1310 (by decide) (fun _ => ?_) (fun q => ?_)
  · refine j_goto (pc := 1325) (tgt := 1588) dL_law_1325 (by decide) ?_
    refine j_mask [true, true, true, true, true, false, false] ?_
    exact j_wid (by omega) (by omega) kk
  · have hc0 : c = 0 := by
      have hb : c < 100000 := Nat.lt_of_le_of_lt hc (by decide)
      have := (iv_eq (b := 0) (ibn hb) (by decide)).mp q
      omega
    refine j_aload_n (pc := 1313) dL_law_1313 rfl ?_
    refine j_iconst (pc := 1314) dL_law_1314 (v := 0) (by decide) ?_
    refine j_lald (pc := 1315) dL_law_1315 aLd_79 ?_
    refine j_iload (pc := 1316) dL_law_1316 rfl ?_
    refine j_i2l (pc := 1318) dL_law_1318 ?_
    refine j_lcmp (pc := 1319) dL_law_1319 ?_
    refine j_if_eq (pc := 1320) (tgt := 1325) dL_law_1320 (by decide) (fun _ => ?_) (fun q => absurd (by rw [hg hc0, u2 hc0]; exact lg_self _) q)
    refine j_goto (pc := 1325) (tgt := 1588) dL_law_1325 (by decide) ?_
    refine j_mask [true, true, true, true, true, false, false] ?_
    exact j_wid (by omega) (by omega) kk
set_option maxRecDepth 100000 in
theorem lc_wouldLift {nm : String} {b L : Nat} {xs : Nat → Int32} {i n : Nat} {z f : Nat → Nat → Int32} {g : Nat → Int64} {jk : LWd} (hL : L ≤ 3072) (hi : i + 6 ≤ L) (hn : n ≤ 600) (hI : IN (n : Nat) z f) (hj : JK jk n) : ∃ z2 f2 g2 jk2, IN ((n + 1 : Nat) : Int) z2 f2 ∧ JK jk2 (n + 1) ∧ ∀ we, LJ nm b L xs we 1588 (LV i) [] (wA z2 f2 (lgC g2 :: jk2)) (1000 + 10 * (n + 1)) (30000 + 1000 * (n + 1)) → LJ nm b L xs we 1328 (LV i) [] (wA z f (lgC g :: jk)) (1000 + 10 * n) (30000 + 1000 * n) := by
  obtain ⟨c, v, z1, f1, v', z2, f2, hc, e1, e2, t2, u2, hI2⟩ := co_wouldLift hI (xs (iv (i : Nat) + 1).toNatClampNeg)
  have x0 := map_q (e_X10_wouldLift (r := lgC g :: jk)) e1
  obtain ⟨g', x1, hg⟩ := wrp_rs xk_IOB hc x0 (ws := wA z f (lgC g :: jk)) rfl
  have x1' : m_L_wouldLift 0 (xs (iv (i : Nat) + 1).toNatClampNeg) 79 (wA z f (lgC g :: jk)) = some (iv (c : Nat), wA z1 f1 (lgC g' :: jk)) := x1
  have x2 := map_q (e_X11_wouldLift (r := lgC g' :: jk)) e2
  refine ⟨z2, f2, g', jk, by rw [Int.natCast_add]; exact hI2, ⟨hj.1, by have := hj.2; omega⟩, fun we kk => ?_⟩
  refine j_aload_n (pc := 1328) dL_law_1328 rfl ?_
  refine j_aload_n (pc := 1329) dL_law_1329 rfl ?_
  refine j_iload (pc := 1330) dL_law_1330 rfl ?_
  refine j_iconst (pc := 1332) dL_law_1332 (v := 1) (by decide) ?_
  refine j_iadd (pc := 1333) dL_law_1333 ?_
  refine j_sld (pc := 1334) rfl dL_law_1334 (vin (j := 1) hL hi (by decide)) ?_
  refine j_aload_n (pc := 1335) dL_law_1335 rfl ?_
  refine j_callSW (pc := 1336) (hh := [(0, 9, 12, 31)]) (As := [.ref 0, .int (xs (iv (i : Nat) + 1).toNatClampNeg), .ref 79]) (k' := 1000 + 10 * n + 1) (n' := 30000 + 1000 * n + 6) dL_law_1336 (s_L_wouldLift x1') (jmS ll_120 ll_121 ll_0 ll_122) rfl hyL_wouldLift rfl (by decide) (by decide) (by decide) (Nat.le_refl _) (Nat.le_refl _) (by omega) (by omega) rfl ?_
  refine j_istore_5 (pc := 1339) dL_law_1339 (by decide) rfl ?_
  refine j_aload_n (pc := 1341) dL_law_1341 rfl ?_
  refine j_aload_n (pc := 1342) dL_law_1342 rfl ?_
  refine j_iload (pc := 1343) dL_law_1343 rfl ?_
  refine j_iconst (pc := 1345) dL_law_1345 (v := 1) (by decide) ?_
  refine j_iadd (pc := 1346) dL_law_1346 ?_
  refine j_sld (pc := 1347) rfl dL_law_1347 (vin (j := 1) hL hi (by decide)) ?_
  refine j_callV_g (pc := 1348) (As := [.int (xs (iv (i : Nat) + 1).toNatClampNeg)]) (k' := 1000 + 10 * n + 1 + 0) (n' := 30000 + 1000 * n + 6 + 0) dL_law_1348 (s_X11_wouldLift x2) (jmV ll_208 ll_209 ll_210 (jlw lw_544) ll_211) rfl hv_X11_wouldLift rfl (r_X11_wouldLift x2) rfl (by decide) (by decide) (Nat.le_of_ble_eq_true rfl) (Nat.le_refl _) (Nat.le_refl _) (by omega) (by omega) (Or.inl rfl) ?_
  refine j_istore_6 (pc := 1351) dL_law_1351 (by decide) rfl ?_
  refine j_aload_n (pc := 1353) dL_law_1353 rfl ?_
  refine j_callV_g (pc := 1354) (As := []) (k' := 1000 + 10 * n + 1 + 0) (n' := 30000 + 1000 * n + 6 + 0) dL_law_1354 (s_X11_thrown thr_e) (jmV ll_240 ll_241 ll_242 (jlw lw_544) ll_243) rfl hv_X11_thrown rfl (r_X11_thrown thr_e) rfl (by decide) (by decide) (Nat.le_of_ble_eq_true rfl) (Nat.le_refl _) (Nat.le_refl _) (by omega) (by omega) (Or.inl rfl) ?_
  refine j_iload (pc := 1357) dL_law_1357 rfl ?_
  refine j_icmp_eq (pc := 1359) (tgt := 1364) dL_law_1359 (by decide) (fun _ => ?_) (fun q => absurd t2 q)
  refine j_iload (pc := 1364) dL_law_1364 rfl ?_
  refine j_if_ne (pc := 1366) (tgt := 1381) dL_law_1366 (by decide) (fun _ => ?_) (fun q => ?_)
  · refine j_goto (pc := 1381) (tgt := 1588) dL_law_1381 (by decide) ?_
    refine j_mask [true, true, true, true, true, false, false] ?_
    exact j_wid (by omega) (by omega) kk
  · have hc0 : c = 0 := by
      have hb : c < 100000 := Nat.lt_of_le_of_lt hc (by decide)
      have := (iv_eq (b := 0) (ibn hb) (by decide)).mp q
      omega
    refine j_aload_n (pc := 1369) dL_law_1369 rfl ?_
    refine j_iconst (pc := 1370) dL_law_1370 (v := 0) (by decide) ?_
    refine j_lald (pc := 1371) dL_law_1371 aLd_79 ?_
    refine j_iload (pc := 1372) dL_law_1372 rfl ?_
    refine j_i2l (pc := 1374) dL_law_1374 ?_
    refine j_lcmp (pc := 1375) dL_law_1375 ?_
    refine j_if_eq (pc := 1376) (tgt := 1381) dL_law_1376 (by decide) (fun _ => ?_) (fun q => absurd (by rw [hg hc0, u2 hc0]; exact lg_self _) q)
    refine j_goto (pc := 1381) (tgt := 1588) dL_law_1381 (by decide) ?_
    refine j_mask [true, true, true, true, true, false, false] ?_
    exact j_wid (by omega) (by omega) kk
set_option maxRecDepth 100000 in
theorem lc_fewest {nm : String} {b L : Nat} {xs : Nat → Int32} {i n : Nat} {z f : Nat → Nat → Int32} {g : Nat → Int64} {jk : LWd} (hL : L ≤ 3072) (hi : i + 6 ≤ L) (hn : n ≤ 600) (hI : IN (n : Nat) z f) (hj : JK jk n) : ∃ z2 f2 g2 jk2, IN ((n + 1 : Nat) : Int) z2 f2 ∧ JK jk2 (n + 1) ∧ ∀ we, LJ nm b L xs we 1588 (LV i) [] (wA z2 f2 (lgC g2 :: jk2)) (1000 + 10 * (n + 1)) (30000 + 1000 * (n + 1)) → LJ nm b L xs we 1384 (LV i) [] (wA z f (lgC g :: jk)) (1000 + 10 * n) (30000 + 1000 * n) := by
  obtain ⟨c, v, z1, f1, v', z2, f2, J, hc, e1, e2, hJ, t2, u2, hI2⟩ := co_fewest hI (xs (iv (i : Nat) + 1).toNatClampNeg) (xs (iv (i : Nat) + 2).toNatClampNeg)
  have x0 := map_q (e_X10_fewest (r := lgC g :: jk)) e1
  obtain ⟨g', x1, hg⟩ := wrp_rs xk_IAE hc x0 (ws := wA z f (lgC g :: jk)) rfl
  have x1' : m_L_fewest 0 (xs (iv (i : Nat) + 1).toNatClampNeg) (xs (iv (i : Nat) + 2).toNatClampNeg) 79 (wA z f (lgC g :: jk)) = some (iv (c : Nat), wA z1 f1 (lgC g' :: jk)) := x1
  have hl : (lgC g' :: jk).length < 900000 := by
    have := hj.2
    rw [List.length_cons]
    omega
  have x2 : m_X11_fewest 66 (xs (iv (i : Nat) + 1).toNatClampNeg) (xs (iv (i : Nat) + 2).toNatClampNeg) (wA z1 f1 (lgC g' :: jk)) = some (v', wA z2 f2 (lgC g' :: (jk ++ J))) := by
    rw [e_X11_fewest (jk_lo hj g') hl, e2]
    rfl
  have hJ2 : JK (jk ++ J) (n + 1) := by
    refine ⟨fun m => ?_, ?_⟩
    · rw [List.all_append, hj.1 m]
      rcases hJ with rfl | ⟨u, w, rfl⟩ <;> rfl
    · have := hj.2
      rw [List.length_append]
      rcases hJ with rfl | ⟨u, w, rfl⟩
      · show jk.length + 0 ≤ _
        omega
      · show jk.length + 2 ≤ _
        omega
  have hlj : J = [] ∨ J.length = 2 := by
    rcases hJ with rfl | ⟨u, w, rfl⟩
    · exact Or.inl rfl
    · exact Or.inr rfl
  refine ⟨z2, f2, g', jk ++ J, by rw [Int.natCast_add]; exact hI2, hJ2, fun we kk => ?_⟩
  refine j_aload_n (pc := 1384) dL_law_1384 rfl ?_
  refine j_aload_n (pc := 1385) dL_law_1385 rfl ?_
  refine j_iload (pc := 1386) dL_law_1386 rfl ?_
  refine j_iconst (pc := 1388) dL_law_1388 (v := 1) (by decide) ?_
  refine j_iadd (pc := 1389) dL_law_1389 ?_
  refine j_sld (pc := 1390) rfl dL_law_1390 (vin (j := 1) hL hi (by decide)) ?_
  refine j_aload_n (pc := 1391) dL_law_1391 rfl ?_
  refine j_iload (pc := 1392) dL_law_1392 rfl ?_
  refine j_iconst (pc := 1394) dL_law_1394 (v := 2) (by decide) ?_
  refine j_iadd (pc := 1395) dL_law_1395 ?_
  refine j_sld (pc := 1396) rfl dL_law_1396 (vin (j := 2) hL hi (by decide)) ?_
  refine j_aload_n (pc := 1397) dL_law_1397 rfl ?_
  refine j_callSW (pc := 1398) (hh := [(0, 10, 13, 13)]) (As := [.ref 0, .int (xs (iv (i : Nat) + 1).toNatClampNeg), .int (xs (iv (i : Nat) + 2).toNatClampNeg), .ref 79]) (k' := 1000 + 10 * n + 1) (n' := 30000 + 1000 * n + 6) dL_law_1398 (s_L_fewest x1') (jmS ll_127 ll_128 ll_0 ll_129) rfl hyL_fewest rfl (by decide) (by decide) (by decide) (Nat.le_refl _) (Nat.le_refl _) (by omega) (by omega) rfl ?_
  refine j_istore_5 (pc := 1401) dL_law_1401 (by decide) rfl ?_
  refine j_aload_n (pc := 1403) dL_law_1403 rfl ?_
  refine j_aload_n (pc := 1404) dL_law_1404 rfl ?_
  refine j_iload (pc := 1405) dL_law_1405 rfl ?_
  refine j_iconst (pc := 1407) dL_law_1407 (v := 1) (by decide) ?_
  refine j_iadd (pc := 1408) dL_law_1408 ?_
  refine j_sld (pc := 1409) rfl dL_law_1409 (vin (j := 1) hL hi (by decide)) ?_
  refine j_aload_n (pc := 1410) dL_law_1410 rfl ?_
  refine j_iload (pc := 1411) dL_law_1411 rfl ?_
  refine j_iconst (pc := 1413) dL_law_1413 (v := 2) (by decide) ?_
  refine j_iadd (pc := 1414) dL_law_1414 ?_
  refine j_sld (pc := 1415) rfl dL_law_1415 (vin (j := 2) hL hi (by decide)) ?_
  have lvo : ([some (.ref 1000000), some (.ref 0), some (.ref 66), some (.ref 79), some (.int (iv (i : Nat))), some (.int (iv (c : Nat))), none] : List (Option Value)).all (jwO (wA z1 f1 (lgC g' :: jk)).length) = true := by
    have e : (wA z1 f1 (lgC g' :: jk)).length = jk.length + 80 := rfl
    rw [e]
    simp [jwO, jwV]
  have hgr : (wA z2 f2 (lgC g' :: (jk ++ J))).length = (wA z1 f1 (lgC g' :: jk)).length ∨ ((wA z1 f1 (lgC g' :: jk)).length < (wA z2 f2 (lgC g' :: (jk ++ J))).length ∧ ([some (.ref 1000000), some (.ref 0), some (.ref 66), some (.ref 79), some (.int (iv (i : Nat))), some (.int (iv (c : Nat))), none] : List (Option Value)).all (jwO (wA z1 f1 (lgC g' :: jk)).length) = true ∧ ([] : List Value).all (jwV (wA z1 f1 (lgC g' :: jk)).length) = true) := by
    have a1 : (wA z2 f2 (lgC g' :: (jk ++ J))).length = (jk ++ J).length + 80 := rfl
    have a2 : (wA z1 f1 (lgC g' :: jk)).length = jk.length + 80 := rfl
    rcases hlj with h | h
    · left
      rw [a1, a2, h, List.append_nil]
    · right
      refine ⟨?_, lvo, rfl⟩
      rw [a1, a2, List.length_append]
      omega
  refine j_callV_g (pc := 1416) (As := [.int (xs (iv (i : Nat) + 1).toNatClampNeg), .int (xs (iv (i : Nat) + 2).toNatClampNeg)]) (k' := 1000 + 10 * n + 1 + 2) (n' := 30000 + 1000 * n + 6 + 800) dL_law_1416 (s_X11_fewest x2) (jmV ll_212 ll_213 ll_214 (jlw lw_544) ll_215) rfl hv_X11_fewest rfl (r_X11_fewest x2) rfl (by decide) (by decide) (Nat.le_of_ble_eq_true rfl) (Nat.le_refl _) (Nat.le_refl _) (by omega) (by omega) hgr ?_
  refine j_istore_6 (pc := 1419) dL_law_1419 (by decide) rfl ?_
  refine j_aload_n (pc := 1421) dL_law_1421 rfl ?_
  refine j_callV_g (pc := 1422) (As := []) (k' := 1000 + 10 * n + 1 + 2) (n' := 30000 + 1000 * n + 6 + 800) dL_law_1422 (s_X11_thrown thr_e) (jmV ll_240 ll_241 ll_242 (jlw lw_544) ll_243) rfl hv_X11_thrown rfl (r_X11_thrown thr_e) rfl (by decide) (by decide) (Nat.le_of_ble_eq_true rfl) (Nat.le_refl _) (Nat.le_refl _) (by omega) (by omega) (Or.inl rfl) ?_
  refine j_iload (pc := 1425) dL_law_1425 rfl ?_
  refine j_icmp_eq (pc := 1427) (tgt := 1432) dL_law_1427 (by decide) (fun _ => ?_) (fun q => absurd t2 q)
  refine j_iload (pc := 1432) dL_law_1432 rfl ?_
  refine j_if_ne (pc := 1434) (tgt := 1449) dL_law_1434 (by decide) (fun _ => ?_) (fun q => ?_)
  · refine j_goto (pc := 1449) (tgt := 1588) dL_law_1449 (by decide) ?_
    refine j_mask [true, true, true, true, true, false, false] ?_
    exact j_wid (by omega) (by omega) kk
  · have hc0 : c = 0 := by
      have hb : c < 100000 := Nat.lt_of_le_of_lt hc (by decide)
      have := (iv_eq (b := 0) (ibn hb) (by decide)).mp q
      omega
    refine j_aload_n (pc := 1437) dL_law_1437 rfl ?_
    refine j_iconst (pc := 1438) dL_law_1438 (v := 0) (by decide) ?_
    refine j_lald (pc := 1439) dL_law_1439 aLd_79 ?_
    refine j_iload (pc := 1440) dL_law_1440 rfl ?_
    refine j_i2l (pc := 1442) dL_law_1442 ?_
    refine j_lcmp (pc := 1443) dL_law_1443 ?_
    refine j_if_eq (pc := 1444) (tgt := 1449) dL_law_1444 (by decide) (fun _ => ?_) (fun q => absurd (by rw [hg hc0, u2 hc0]; exact lg_self _) q)
    refine j_goto (pc := 1449) (tgt := 1588) dL_law_1449 (by decide) ?_
    refine j_mask [true, true, true, true, true, false, false] ?_
    exact j_wid (by omega) (by omega) kk
set_option maxRecDepth 100000 in
theorem lc_fewestAnew {nm : String} {b L : Nat} {xs : Nat → Int32} {i n : Nat} {z f : Nat → Nat → Int32} {g : Nat → Int64} {jk : LWd} (hL : L ≤ 3072) (hi : i + 6 ≤ L) (hn : n ≤ 600) (hI : IN (n : Nat) z f) (hj : JK jk n) : ∃ z2 f2 g2 jk2, IN ((n + 1 : Nat) : Int) z2 f2 ∧ JK jk2 (n + 1) ∧ ∀ we, LJ nm b L xs we 1588 (LV i) [] (wA z2 f2 (lgC g2 :: jk2)) (1000 + 10 * (n + 1)) (30000 + 1000 * (n + 1)) → LJ nm b L xs we 1452 (LV i) [] (wA z f (lgC g :: jk)) (1000 + 10 * n) (30000 + 1000 * n) := by
  obtain ⟨c, v, z1, f1, v', z2, f2, J, hc, e1, e2, hJ, t2, u2, hI2⟩ := co_fewestAnew hI (xs (iv (i : Nat) + 1).toNatClampNeg) (xs (iv (i : Nat) + 2).toNatClampNeg)
  have x0 := map_q (e_X10_fewestAnew (r := lgC g :: jk)) e1
  obtain ⟨g', x1, hg⟩ := wrp_rs xk_IAE hc x0 (ws := wA z f (lgC g :: jk)) rfl
  have x1' : m_L_fewestAnew 0 (xs (iv (i : Nat) + 1).toNatClampNeg) (xs (iv (i : Nat) + 2).toNatClampNeg) 79 (wA z f (lgC g :: jk)) = some (iv (c : Nat), wA z1 f1 (lgC g' :: jk)) := x1
  have hl : (lgC g' :: jk).length < 900000 := by
    have := hj.2
    rw [List.length_cons]
    omega
  have x2 : m_X11_fewestAnew 66 (xs (iv (i : Nat) + 1).toNatClampNeg) (xs (iv (i : Nat) + 2).toNatClampNeg) (wA z1 f1 (lgC g' :: jk)) = some (v', wA z2 f2 (lgC g' :: (jk ++ J))) := by
    rw [e_X11_fewestAnew (jk_lo hj g') hl, e2]
    rfl
  have hJ2 : JK (jk ++ J) (n + 1) := by
    refine ⟨fun m => ?_, ?_⟩
    · rw [List.all_append, hj.1 m]
      rcases hJ with rfl | ⟨u, w, rfl⟩ <;> rfl
    · have := hj.2
      rw [List.length_append]
      rcases hJ with rfl | ⟨u, w, rfl⟩
      · show jk.length + 0 ≤ _
        omega
      · show jk.length + 2 ≤ _
        omega
  have hlj : J = [] ∨ J.length = 2 := by
    rcases hJ with rfl | ⟨u, w, rfl⟩
    · exact Or.inl rfl
    · exact Or.inr rfl
  refine ⟨z2, f2, g', jk ++ J, by rw [Int.natCast_add]; exact hI2, hJ2, fun we kk => ?_⟩
  refine j_aload_n (pc := 1452) dL_law_1452 rfl ?_
  refine j_aload_n (pc := 1453) dL_law_1453 rfl ?_
  refine j_iload (pc := 1454) dL_law_1454 rfl ?_
  refine j_iconst (pc := 1456) dL_law_1456 (v := 1) (by decide) ?_
  refine j_iadd (pc := 1457) dL_law_1457 ?_
  refine j_sld (pc := 1458) rfl dL_law_1458 (vin (j := 1) hL hi (by decide)) ?_
  refine j_aload_n (pc := 1459) dL_law_1459 rfl ?_
  refine j_iload (pc := 1460) dL_law_1460 rfl ?_
  refine j_iconst (pc := 1462) dL_law_1462 (v := 2) (by decide) ?_
  refine j_iadd (pc := 1463) dL_law_1463 ?_
  refine j_sld (pc := 1464) rfl dL_law_1464 (vin (j := 2) hL hi (by decide)) ?_
  refine j_aload_n (pc := 1465) dL_law_1465 rfl ?_
  refine j_callSW (pc := 1466) (hh := [(0, 10, 13, 13)]) (As := [.ref 0, .int (xs (iv (i : Nat) + 1).toNatClampNeg), .int (xs (iv (i : Nat) + 2).toNatClampNeg), .ref 79]) (k' := 1000 + 10 * n + 1) (n' := 30000 + 1000 * n + 6) dL_law_1466 (s_L_fewestAnew x1') (jmS ll_134 ll_135 ll_0 ll_136) rfl hyL_fewestAnew rfl (by decide) (by decide) (by decide) (Nat.le_refl _) (Nat.le_refl _) (by omega) (by omega) rfl ?_
  refine j_istore_5 (pc := 1469) dL_law_1469 (by decide) rfl ?_
  refine j_aload_n (pc := 1471) dL_law_1471 rfl ?_
  refine j_aload_n (pc := 1472) dL_law_1472 rfl ?_
  refine j_iload (pc := 1473) dL_law_1473 rfl ?_
  refine j_iconst (pc := 1475) dL_law_1475 (v := 1) (by decide) ?_
  refine j_iadd (pc := 1476) dL_law_1476 ?_
  refine j_sld (pc := 1477) rfl dL_law_1477 (vin (j := 1) hL hi (by decide)) ?_
  refine j_aload_n (pc := 1478) dL_law_1478 rfl ?_
  refine j_iload (pc := 1479) dL_law_1479 rfl ?_
  refine j_iconst (pc := 1481) dL_law_1481 (v := 2) (by decide) ?_
  refine j_iadd (pc := 1482) dL_law_1482 ?_
  refine j_sld (pc := 1483) rfl dL_law_1483 (vin (j := 2) hL hi (by decide)) ?_
  have lvo : ([some (.ref 1000000), some (.ref 0), some (.ref 66), some (.ref 79), some (.int (iv (i : Nat))), some (.int (iv (c : Nat))), none] : List (Option Value)).all (jwO (wA z1 f1 (lgC g' :: jk)).length) = true := by
    have e : (wA z1 f1 (lgC g' :: jk)).length = jk.length + 80 := rfl
    rw [e]
    simp [jwO, jwV]
  have hgr : (wA z2 f2 (lgC g' :: (jk ++ J))).length = (wA z1 f1 (lgC g' :: jk)).length ∨ ((wA z1 f1 (lgC g' :: jk)).length < (wA z2 f2 (lgC g' :: (jk ++ J))).length ∧ ([some (.ref 1000000), some (.ref 0), some (.ref 66), some (.ref 79), some (.int (iv (i : Nat))), some (.int (iv (c : Nat))), none] : List (Option Value)).all (jwO (wA z1 f1 (lgC g' :: jk)).length) = true ∧ ([] : List Value).all (jwV (wA z1 f1 (lgC g' :: jk)).length) = true) := by
    have a1 : (wA z2 f2 (lgC g' :: (jk ++ J))).length = (jk ++ J).length + 80 := rfl
    have a2 : (wA z1 f1 (lgC g' :: jk)).length = jk.length + 80 := rfl
    rcases hlj with h | h
    · left
      rw [a1, a2, h, List.append_nil]
    · right
      refine ⟨?_, lvo, rfl⟩
      rw [a1, a2, List.length_append]
      omega
  refine j_callV_g (pc := 1484) (As := [.int (xs (iv (i : Nat) + 1).toNatClampNeg), .int (xs (iv (i : Nat) + 2).toNatClampNeg)]) (k' := 1000 + 10 * n + 1 + 2) (n' := 30000 + 1000 * n + 6 + 800) dL_law_1484 (s_X11_fewestAnew x2) (jmV ll_216 ll_217 ll_218 (jlw lw_544) ll_219) rfl hv_X11_fewestAnew rfl (r_X11_fewestAnew x2) rfl (by decide) (by decide) (Nat.le_of_ble_eq_true rfl) (Nat.le_refl _) (Nat.le_refl _) (by omega) (by omega) hgr ?_
  refine j_istore_6 (pc := 1487) dL_law_1487 (by decide) rfl ?_
  refine j_aload_n (pc := 1489) dL_law_1489 rfl ?_
  refine j_callV_g (pc := 1490) (As := []) (k' := 1000 + 10 * n + 1 + 2) (n' := 30000 + 1000 * n + 6 + 800) dL_law_1490 (s_X11_thrown thr_e) (jmV ll_240 ll_241 ll_242 (jlw lw_544) ll_243) rfl hv_X11_thrown rfl (r_X11_thrown thr_e) rfl (by decide) (by decide) (Nat.le_of_ble_eq_true rfl) (Nat.le_refl _) (Nat.le_refl _) (by omega) (by omega) (Or.inl rfl) ?_
  refine j_iload (pc := 1493) dL_law_1493 rfl ?_
  refine j_icmp_eq (pc := 1495) (tgt := 1500) dL_law_1495 (by decide) (fun _ => ?_) (fun q => absurd t2 q)
  refine j_iload (pc := 1500) dL_law_1500 rfl ?_
  refine j_if_ne (pc := 1502) (tgt := 1517) dL_law_1502 (by decide) (fun _ => ?_) (fun q => ?_)
  · refine j_goto (pc := 1517) (tgt := 1588) dL_law_1517 (by decide) ?_
    refine j_mask [true, true, true, true, true, false, false] ?_
    exact j_wid (by omega) (by omega) kk
  · have hc0 : c = 0 := by
      have hb : c < 100000 := Nat.lt_of_le_of_lt hc (by decide)
      have := (iv_eq (b := 0) (ibn hb) (by decide)).mp q
      omega
    refine j_aload_n (pc := 1505) dL_law_1505 rfl ?_
    refine j_iconst (pc := 1506) dL_law_1506 (v := 0) (by decide) ?_
    refine j_lald (pc := 1507) dL_law_1507 aLd_79 ?_
    refine j_iload (pc := 1508) dL_law_1508 rfl ?_
    refine j_i2l (pc := 1510) dL_law_1510 ?_
    refine j_lcmp (pc := 1511) dL_law_1511 ?_
    refine j_if_eq (pc := 1512) (tgt := 1517) dL_law_1512 (by decide) (fun _ => ?_) (fun q => absurd (by rw [hg hc0, u2 hc0]; exact lg_self _) q)
    refine j_goto (pc := 1517) (tgt := 1588) dL_law_1517 (by decide) ?_
    refine j_mask [true, true, true, true, true, false, false] ?_
    exact j_wid (by omega) (by omega) kk
set_option maxRecDepth 100000 in
theorem lc_fall {nm : String} {b L : Nat} {xs : Nat → Int32} {i n : Nat} {z f : Nat → Nat → Int32} {g : Nat → Int64} {jk : LWd} (hL : L ≤ 3072) (hi : i + 6 ≤ L) (hn : n ≤ 600) (hI : IN (n : Nat) z f) (hj : JK jk n) : ∃ z2 f2 g2 jk2, IN ((n + 1 : Nat) : Int) z2 f2 ∧ JK jk2 (n + 1) ∧ ∀ we, LJ nm b L xs we 1588 (LV i) [] (wA z2 f2 (lgC g2 :: jk2)) (1000 + 10 * (n + 1)) (30000 + 1000 * (n + 1)) → LJ nm b L xs we 1520 (LV i) [] (wA z f (lgC g :: jk)) (1000 + 10 * n) (30000 + 1000 * n) := by
  obtain ⟨c, v, v', z2, f2, hc, e1, e2, t2, u2, hI2⟩ := co_fall hI (xs (iv (i : Nat) + 1).toNatClampNeg) (xs (iv (i : Nat) + 2).toNatClampNeg)
  have x0 := map_r (e_X10_fall (r := lgC g :: jk)) e1
  obtain ⟨g', x1, hg⟩ := wrp_rs xk_IOBIAE hc x0 (ws := wA z f (lgC g :: jk)) rfl
  have x1' : m_L_fall 0 (xs (iv (i : Nat) + 1).toNatClampNeg) (xs (iv (i : Nat) + 2).toNatClampNeg) 79 (wA z f (lgC g :: jk)) = some (iv (c : Nat), wA z f (lgC g' :: jk)) := x1
  have x2 := map_q (e_X11_fall (r := lgC g' :: jk)) e2
  refine ⟨z2, f2, g', jk, by rw [Int.natCast_add]; exact hI2, ⟨hj.1, by have := hj.2; omega⟩, fun we kk => ?_⟩
  refine j_aload_n (pc := 1520) dL_law_1520 rfl ?_
  refine j_aload_n (pc := 1521) dL_law_1521 rfl ?_
  refine j_iload (pc := 1522) dL_law_1522 rfl ?_
  refine j_iconst (pc := 1524) dL_law_1524 (v := 1) (by decide) ?_
  refine j_iadd (pc := 1525) dL_law_1525 ?_
  refine j_sld (pc := 1526) rfl dL_law_1526 (vin (j := 1) hL hi (by decide)) ?_
  refine j_aload_n (pc := 1527) dL_law_1527 rfl ?_
  refine j_iload (pc := 1528) dL_law_1528 rfl ?_
  refine j_iconst (pc := 1530) dL_law_1530 (v := 2) (by decide) ?_
  refine j_iadd (pc := 1531) dL_law_1531 ?_
  refine j_sld (pc := 1532) rfl dL_law_1532 (vin (j := 2) hL hi (by decide)) ?_
  refine j_aload_n (pc := 1533) dL_law_1533 rfl ?_
  refine j_callSW (pc := 1534) (hh := [(0, 10, 13, 31), (0, 10, 17, 13)]) (As := [.ref 0, .int (xs (iv (i : Nat) + 1).toNatClampNeg), .int (xs (iv (i : Nat) + 2).toNatClampNeg), .ref 79]) (k' := 1000 + 10 * n + 1) (n' := 30000 + 1000 * n + 6) dL_law_1534 (s_L_fall x1') (jmS ll_141 ll_142 ll_0 ll_143) rfl hyL_fall rfl (by decide) (by decide) (by decide) (Nat.le_refl _) (Nat.le_refl _) (by omega) (by omega) rfl ?_
  refine j_istore_5 (pc := 1537) dL_law_1537 (by decide) rfl ?_
  refine j_aload_n (pc := 1539) dL_law_1539 rfl ?_
  refine j_aload_n (pc := 1540) dL_law_1540 rfl ?_
  refine j_iload (pc := 1541) dL_law_1541 rfl ?_
  refine j_iconst (pc := 1543) dL_law_1543 (v := 1) (by decide) ?_
  refine j_iadd (pc := 1544) dL_law_1544 ?_
  refine j_sld (pc := 1545) rfl dL_law_1545 (vin (j := 1) hL hi (by decide)) ?_
  refine j_aload_n (pc := 1546) dL_law_1546 rfl ?_
  refine j_iload (pc := 1547) dL_law_1547 rfl ?_
  refine j_iconst (pc := 1549) dL_law_1549 (v := 2) (by decide) ?_
  refine j_iadd (pc := 1550) dL_law_1550 ?_
  refine j_sld (pc := 1551) rfl dL_law_1551 (vin (j := 2) hL hi (by decide)) ?_
  refine j_callV_g (pc := 1552) (As := [.int (xs (iv (i : Nat) + 1).toNatClampNeg), .int (xs (iv (i : Nat) + 2).toNatClampNeg)]) (k' := 1000 + 10 * n + 1 + 0) (n' := 30000 + 1000 * n + 6 + 0) dL_law_1552 (s_X11_fall x2) (jmV ll_220 ll_221 ll_222 (jlw lw_544) ll_223) rfl hv_X11_fall rfl (r_X11_fall x2) rfl (by decide) (by decide) (Nat.le_of_ble_eq_true rfl) (Nat.le_refl _) (Nat.le_refl _) (by omega) (by omega) (Or.inl rfl) ?_
  refine j_istore_6 (pc := 1555) dL_law_1555 (by decide) rfl ?_
  refine j_aload_n (pc := 1557) dL_law_1557 rfl ?_
  refine j_callV_g (pc := 1558) (As := []) (k' := 1000 + 10 * n + 1 + 0) (n' := 30000 + 1000 * n + 6 + 0) dL_law_1558 (s_X11_thrown thr_e) (jmV ll_240 ll_241 ll_242 (jlw lw_544) ll_243) rfl hv_X11_thrown rfl (r_X11_thrown thr_e) rfl (by decide) (by decide) (Nat.le_of_ble_eq_true rfl) (Nat.le_refl _) (Nat.le_refl _) (by omega) (by omega) (Or.inl rfl) ?_
  refine j_iload (pc := 1561) dL_law_1561 rfl ?_
  refine j_icmp_eq (pc := 1563) (tgt := 1568) dL_law_1563 (by decide) (fun _ => ?_) (fun q => absurd t2 q)
  refine j_iload (pc := 1568) dL_law_1568 rfl ?_
  refine j_if_ne (pc := 1570) (tgt := 1585) dL_law_1570 (by decide) (fun _ => ?_) (fun q => ?_)
  · refine j_goto (pc := 1585) (tgt := 1588) dL_law_1585 (by decide) ?_
    refine j_mask [true, true, true, true, true, false, false] ?_
    exact j_wid (by omega) (by omega) kk
  · have hc0 : c = 0 := by
      have hb : c < 100000 := Nat.lt_of_le_of_lt hc (by decide)
      have := (iv_eq (b := 0) (ibn hb) (by decide)).mp q
      omega
    refine j_aload_n (pc := 1573) dL_law_1573 rfl ?_
    refine j_iconst (pc := 1574) dL_law_1574 (v := 0) (by decide) ?_
    refine j_lald (pc := 1575) dL_law_1575 aLd_79 ?_
    refine j_iload (pc := 1576) dL_law_1576 rfl ?_
    refine j_i2l (pc := 1578) dL_law_1578 ?_
    refine j_lcmp (pc := 1579) dL_law_1579 ?_
    refine j_if_eq (pc := 1580) (tgt := 1585) dL_law_1580 (by decide) (fun _ => ?_) (fun q => absurd (by rw [hg hc0, u2 hc0]; exact lg_self _) q)
    refine j_goto (pc := 1585) (tgt := 1588) dL_law_1585 (by decide) ?_
    refine j_mask [true, true, true, true, true, false, false] ?_
    exact j_wid (by omega) (by omega) kk
