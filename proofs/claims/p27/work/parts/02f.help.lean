/-! words of the printed functions, and what the rows want of them -/
def FU : Nat := 2000
def bn2 {α β γ : Type} (x : Option (α × β)) (f : α → β → Option γ) : Option γ := match x with
  | some (a, b) => f a b
  | none => none
theorem obS2 {α β γ : Type} {x : Option (α × β)} {f : α → β → Option γ} {c : γ} (h : bn2 x f = some c) : ∃ a b, x = some (a, b) ∧ f a b = some c := by
  cases x with
  | none => cases h
  | some q => exact ⟨q.1, q.2, rfl, h⟩
theorem bn2_some {α β γ : Type} {a : α} {b : β} {f : α → β → Option γ} : bn2 (some (a, b)) f = f a b := rfl
theorem jretS {α β : Type} {a a' : α} {b b' : β} (h : some (a, b) = some (a', b')) : a' = a ∧ b' = b := by cases h; exact ⟨rfl, rfl⟩
theorem jneS {α : Type} {x : Int32} {t : Option α} {b : α} (h : (if x = 0 then none else t) = some b) : ¬ x = 0 := by
  intro e
  rw [if_pos e] at h
  cases h
theorem pV_len {ws ws' : LWd} {a ci k : Nat} {v : Value} (h : pV ws a ci k v = some ws') : ws'.length = ws.length := by
  obtain ⟨fs, -, -, rfl⟩ := pV_of h
  exact List.length_set
theorem pZ_len {ws ws' : LWd} {a ci k : Nat} {x : Int32} (h : pZ ws a ci k x = some ws') : ws'.length = ws.length := pV_len (pZ_n h).1
def jnn (x : UInt32) : Option UInt32 := if x &&& 0x7fffffff ≤ 0x7f800000 then some x else none
def calSR {α : Type} (ws : LWd) (x : Option (α × LWd)) : Option (α × LWd) := bn2 x fun a w => if w.length = ws.length then some (a, w) else none
def calSV (ws : LWd) (x : Option LWd) : Option LWd := x.bind fun w => if w.length = ws.length then some w else none
def calGR {α : Type} (ws : LWd) (lv : List (Option Value)) (st : List Value) (x : Option (α × LWd)) : Option (α × LWd) := bn2 x fun a w => if w.length = ws.length ∨ (nOk ws lv st = true ∧ ws.length < w.length) then some (a, w) else none
def calGV (ws : LWd) (lv : List (Option Value)) (st : List Value) (x : Option LWd) : Option LWd := x.bind fun w => if w.length = ws.length ∨ (nOk ws lv st = true ∧ ws.length < w.length) then some w else none
theorem calSR_of {α : Type} {ws w : LWd} {x : Option (α × LWd)} {a : α} (h : calSR ws x = some (a, w)) : x = some (a, w) ∧ w.length = ws.length := by
  obtain ⟨a1, w1, h1, h2⟩ := obS2 h
  split at h2
  · rename_i hl
    cases h2
    exact ⟨h1, hl⟩
  · cases h2
theorem calSV_of {ws w : LWd} {x : Option LWd} (h : calSV ws x = some w) : x = some w ∧ w.length = ws.length := by
  obtain ⟨w1, h1, h2⟩ := obS h
  split at h2
  · rename_i hl
    cases h2
    exact ⟨h1, hl⟩
  · cases h2
theorem calGR_of {α : Type} {ws w : LWd} {lv : List (Option Value)} {st : List Value} {x : Option (α × LWd)} {a : α} (h : calGR ws lv st x = some (a, w)) : x = some (a, w) ∧ (w.length = ws.length ∨ (ws.length < w.length ∧ lv.all (jwO ws.length) = true ∧ st.all (jwV ws.length) = true)) := by
  obtain ⟨a1, w1, h1, h2⟩ := obS2 h
  split at h2
  · rename_i hl
    cases h2
    refine ⟨h1, hl.elim Or.inl fun hl => Or.inr ?_⟩
    obtain ⟨-, g2, g3⟩ := nOk_of hl.1
    exact ⟨hl.2, g2, g3⟩
  · cases h2
theorem calGV_of {ws w : LWd} {lv : List (Option Value)} {st : List Value} {x : Option LWd} (h : calGV ws lv st x = some w) : x = some w ∧ (w.length = ws.length ∨ (ws.length < w.length ∧ lv.all (jwO ws.length) = true ∧ st.all (jwV ws.length) = true)) := by
  obtain ⟨w1, h1, h2⟩ := obS h
  split at h2
  · rename_i hl
    cases h2
    refine ⟨h1, hl.elim Or.inl fun hl => Or.inr ?_⟩
    obtain ⟨-, g2, g3⟩ := nOk_of hl.1
    exact ⟨hl.2, g2, g3⟩
  · cases h2
def jthr (x : Int32 ⊕ String) : Option Value ⊕ String := match x with
  | .inl v => .inl (some (.int v))
  | .inr e => .inr e
theorem jcats {av : List Value} (h : av.all (fun v => v.category == 1) = true) : ∀ v ∈ av, v.category = 1 := fun v hv => by
  have := List.all_eq_true.mp h v hv
  simpa using this
theorem jnn_of {x y : UInt32} (h : jnn x = some y) : vf_n32 x ∧ y = x := by
  unfold jnn at h
  split at h
  · rename_i hn
    cases h
    exact ⟨hn, rfl⟩
  · cases h
theorem jout1 {x : Int32} (h0 : ¬ x = 0) : x.toInt < 0 ∨ 0 < x.toInt := by
  have := lv_neT h0 (a := 0) rfl
  omega
theorem jout2 {x : Int32} (h0 : ¬ x = 0) (h1 : ¬ x = 1) : x.toInt < 0 ∨ 1 < x.toInt := by
  have := lv_neT h0 (a := 0) rfl
  have := lv_neT h1 (a := 1) rfl
  omega
theorem jout3 {x : Int32} (h0 : ¬ x = 0) (h1 : ¬ x = 1) (h2 : ¬ x = 2) : x.toInt < 0 ∨ 2 < x.toInt := by
  have := jout2 h0 h1
  have := lv_neT h2 (a := 2) rfl
  omega
theorem jout4 {x : Int32} (h0 : ¬ x = 0) (h1 : ¬ x = 1) (h2 : ¬ x = 2) (h3 : ¬ x = 3) : x.toInt < 0 ∨ 3 < x.toInt := by
  have := jout3 h0 h1 h2
  have := lv_neT h3 (a := 3) rfl
  omega
theorem jout11 {x : Int32} (h0 : ¬ x = 0) (h1 : ¬ x = 1) (h2 : ¬ x = 2) (h3 : ¬ x = 3) (h4 : ¬ x = 4) (h5 : ¬ x = 5) (h6 : ¬ x = 6) (h7 : ¬ x = 7) (h8 : ¬ x = 8) (h9 : ¬ x = 9) (h10 : ¬ x = 10) : x.toInt < 0 ∨ 10 < x.toInt := by
  have := jout4 h0 h1 h2 h3
  have := lv_neT h4 (a := 4) rfl
  have := lv_neT h5 (a := 5) rfl
  have := lv_neT h6 (a := 6) rfl
  have := lv_neT h7 (a := 7) rfl
  have := lv_neT h8 (a := 8) rfl
  have := lv_neT h9 (a := 9) rfl
  have := lv_neT h10 (a := 10) rfl
  omega
theorem jout12 {x : Int32} (h0 : ¬ x = 0) (h1 : ¬ x = 1) (h2 : ¬ x = 2) (h3 : ¬ x = 3) (h4 : ¬ x = 4) (h5 : ¬ x = 5) (h6 : ¬ x = 6) (h7 : ¬ x = 7) (h8 : ¬ x = 8) (h9 : ¬ x = 9) (h10 : ¬ x = 10) (h11 : ¬ x = 11) : x.toInt < 0 ∨ 11 < x.toInt := by
  have := jout11 h0 h1 h2 h3 h4 h5 h6 h7 h8 h9 h10
  have := lv_neT h11 (a := 11) rfl
  omega
section
variable {md : jMd} {cc : ByteArray} {nL : Nat} {own : String} {Ts : List Cond} {ret : Option FieldType} {nm : String} {d mc ms n0 : Nat} {out : jOut} {pc : Nat} {lv : List (Option Value)} {st : List Value} {ws : LWd} {k n : Nat}
theorem j_tabEq {dflt lo hi a : Int} {offs : Array Int} {len : Nat} {x kk0 : Int32} {off : Int} {tgt : Nat} (hd : decode cc pc = .ok (.tableswitch dflt lo hi offs, len)) (hx : x = kk0) (hk : kk0.toInt = a) (h1 : ¬ a < lo) (h2 : ¬ hi < a) (ho : offs[(a - lo).toNat]? = some off) (ht : (pc : Int) + off = (tgt : Int)) (kk : JG md cc nL own Ts ret nm d mc ms n0 out tgt lv st ws k n) : JG md cc nL own Ts ret nm d mc ms n0 out pc lv (.int x :: st) ws k n := by
  subst hx
  subst hk
  exact j_tabIn hd h1 h2 ho ht kk
def jraw (x : UInt32) : Int32 := x.toInt32
theorem j_raw {idx : Nat} {x : UInt32} (hd : decode cc pc = .ok (.invokestatic idx, 3)) (h1 : Cond.methodLink own idx ⟨"java/lang/Float", "floatToRawIntBits", "(F)I"⟩ ∈ Ts) (h2 : Cond.native ⟨"java/lang/Float", "floatToRawIntBits", "(F)I"⟩ ∈ Ts) (h3 : Cond.static ⟨"java/lang/Float", "floatToRawIntBits", "(F)I"⟩ ∈ Ts) (h4 : Cond.initialized "java/lang/Float" ∈ Ts) (hd1 : 1 ≤ d) (hst : (st.map fun v => v.category).sum + 15 ≤ 40 * d) (kk : JG md cc nL own Ts ret nm d mc ms n0 out (pc + 3) lv (.int (jraw x) :: st) ws k n) : JG md cc nL own Ts ret nm d mc ms n0 out pc lv (.float x :: st) ws k n := by
  intro p l e R s m args below meth c G A ρ0 ρ H locs ls hC hR hl
  have C := hC
  obtain ⟨⟨hx, hb, hml, hown, hts⟩, hr, hlocks, hname, hK, hN, hA, ⟨hRf, hRc, hRs, hRl⟩, hthr, hlaw⟩ := hC
  exact vn_f2i hx hb (by rw [hml]; exact hl.1.symm) hown (hts _ h1) (hts _ h2) (hts _ h3) (hts _ h4) (Nat.le_trans hd1 hRf) (by rw [jrv_cats]; exact Nat.le_trans hst hRl) hd (kk p l e R s m args below meth c G A ρ0 ρ H locs ls C hR hl)
/-- a long into the places i, i + 1 -/
theorem jLH.store2 {ρ : Nat → Nat} {ls : Array Slot} {nL : Nat} {pre l : List (Option Value)} {w w2 : Option Value} {v : Value} (h : jLH ρ ls nL (pre ++ w :: w2 :: l)) (hp : jcatL pre = true) {ls' : Array Slot}
    (h' : lv_has ls' nL ((pre.length, jrv ρ v) :: (jlA ρ 0 (pre ++ w :: w2 :: l)).filter (fun q => !(q.1 == pre.length) && (!(q.1 == pre.length + 1) && !(q.1 + 1 == pre.length && q.2.category == 2))))) : jLH ρ ls' nL (pre ++ some v :: none :: l) := by
  refine ⟨h'.1, h'.2.1, fun q hq => ?_⟩
  obtain ⟨i, x, rfl, h2⟩ := jlA_of hq
  rw [Nat.zero_add]
  by_cases hi : i = pre.length
  · subst hi
    rw [List.getElem?_append_right (Nat.le_refl _), Nat.sub_self] at h2
    cases h2
    exact h'.2.2 _ List.mem_cons_self
  · by_cases hi2 : i = pre.length + 1
    · subst hi2
      rw [List.getElem?_append_right (by omega), show pre.length + 1 - pre.length = 1 by omega] at h2
      cases h2
    · refine h'.2.2 (i, jrv ρ x) (List.mem_cons_of_mem _ (List.mem_filter.mpr ⟨?_, ?_⟩))
      · have h3 : (pre ++ w :: w2 :: l)[i]? = some (some x) := by
          by_cases hlt : i < pre.length
          · rw [List.getElem?_append_left hlt] at h2 ⊢
            exact h2
          · rw [List.getElem?_append_right (by omega)] at h2 ⊢
            obtain ⟨k, hk⟩ : ∃ k, i - pre.length = k + 2 := ⟨i - pre.length - 2, by omega⟩
            rw [hk] at h2 ⊢
            exact h2
        have := jlA_mem (ρ := ρ) (j := 0) h3
        rwa [Nat.zero_add] at this
      · have e1 : (i == pre.length) = false := by simp [hi]
        have e2 : (i == pre.length + 1) = false := by simp [hi2]
        simp only [e1, e2, Bool.not_false, Bool.true_and, Bool.not_eq_true', Bool.and_eq_false_iff]
        by_cases hq2 : i + 1 = pre.length
        · right
          have hlt : i < pre.length := by omega
          rw [List.getElem?_append_left hlt] at h2
          have hg : pre.getLast? = some (some x) := by
            rw [List.getLast?_eq_getElem?, show pre.length - 1 = i by omega]
            exact h2
          unfold jcatL at hp
          rw [hg] at hp
          rw [jrv_cat, jcat_spec hp]
          rfl
        · left
          simp [hq2]
theorem j_lstore_g (pre : List (Option Value)) {w w2 : Option Value} {j : Nat} {x : Int64} (hd : decode cc pc = .ok (.lstore j, 2)) (hj : j = pre.length) (hn : pre.length + 1 < nL) (hp : jcatL pre = true) (kk : JG md cc nL own Ts ret nm d mc ms n0 out (pc + 2) (pre ++ some (.long x) :: none :: lv) st ws k n) : JG md cc nL own Ts ret nm d mc ms n0 out pc (pre ++ w :: w2 :: lv) (.long x :: st) ws k n := by
  intro p l e R s m args below meth c G A ρ0 ρ H locs ls hC hR hl
  refine lv_lstore hC.1.1 hC.1.2.1 hd hl (by rw [hj]; exact hn) rfl (fun ls' h' => ?_)
  rw [hj] at h'
  exact kk p l e R s m args below meth c G A ρ0 ρ H locs ls' hC hR (jLH.store2 (v := .long x) hl hp h')
theorem j_lstore_n_g (pre : List (Option Value)) {w w2 : Option Value} {j : Fin 4} {x : Int64} (hd : decode cc pc = .ok (.lstore_n j, 1)) (hj : (j : Nat) = pre.length) (hn : pre.length + 1 < nL) (hp : jcatL pre = true) (kk : JG md cc nL own Ts ret nm d mc ms n0 out (pc + 1) (pre ++ some (.long x) :: none :: lv) st ws k n) : JG md cc nL own Ts ret nm d mc ms n0 out pc (pre ++ w :: w2 :: lv) (.long x :: st) ws k n := by
  intro p l e R s m args below meth c G A ρ0 ρ H locs ls hC hR hl
  refine lv_lstore_n hC.1.1 hC.1.2.1 hd rfl hl (by rw [hj]; exact hn) rfl (fun ls' h' => ?_)
  rw [hj] at h'
  exact kk p l e R s m args below meth c G A ρ0 ρ H locs ls' hC hR (jLH.store2 (v := .long x) hl hp h')
theorem j_lstore_n_0  {w w2 : Option Value} {x : Int64} (hd : decode cc pc = .ok (.lstore_n 0, 1)) (hn : 0 + 1 < nL)  (kk : JG md cc nL own Ts ret nm d mc ms n0 out (pc + 1) (some (.long x) :: none :: lv) st ws k n) : JG md cc nL own Ts ret nm d mc ms n0 out pc (w :: w2 :: lv) (.long x :: st) ws k n := j_lstore_n_g [] hd rfl hn (rfl) kk
theorem j_lstore_n_1 {v0 : Option Value} {w w2 : Option Value} {x : Int64} (hd : decode cc pc = .ok (.lstore_n 1, 1)) (hn : 1 + 1 < nL) (hp : jcat v0 = true) (kk : JG md cc nL own Ts ret nm d mc ms n0 out (pc + 1) (v0 :: some (.long x) :: none :: lv) st ws k n) : JG md cc nL own Ts ret nm d mc ms n0 out pc (v0 :: w :: w2 :: lv) (.long x :: st) ws k n := j_lstore_n_g [v0] hd rfl hn (by simpa [jcatL] using hp) kk
theorem j_lstore_n_2 {v0 v1 : Option Value} {w w2 : Option Value} {x : Int64} (hd : decode cc pc = .ok (.lstore_n 2, 1)) (hn : 2 + 1 < nL) (hp : jcat v1 = true) (kk : JG md cc nL own Ts ret nm d mc ms n0 out (pc + 1) (v0 :: v1 :: some (.long x) :: none :: lv) st ws k n) : JG md cc nL own Ts ret nm d mc ms n0 out pc (v0 :: v1 :: w :: w2 :: lv) (.long x :: st) ws k n := j_lstore_n_g [v0, v1] hd rfl hn (by simpa [jcatL] using hp) kk
theorem j_lstore_n_3 {v0 v1 v2 : Option Value} {w w2 : Option Value} {x : Int64} (hd : decode cc pc = .ok (.lstore_n 3, 1)) (hn : 3 + 1 < nL) (hp : jcat v2 = true) (kk : JG md cc nL own Ts ret nm d mc ms n0 out (pc + 1) (v0 :: v1 :: v2 :: some (.long x) :: none :: lv) st ws k n) : JG md cc nL own Ts ret nm d mc ms n0 out pc (v0 :: v1 :: v2 :: w :: w2 :: lv) (.long x :: st) ws k n := j_lstore_n_g [v0, v1, v2] hd rfl hn (by simpa [jcatL] using hp) kk
theorem j_lstore_4 {v0 v1 v2 v3 : Option Value} {w w2 : Option Value} {x : Int64} (hd : decode cc pc = .ok (.lstore 4, 2)) (hn : 4 + 1 < nL) (hp : jcat v3 = true) (kk : JG md cc nL own Ts ret nm d mc ms n0 out (pc + 2) (v0 :: v1 :: v2 :: v3 :: some (.long x) :: none :: lv) st ws k n) : JG md cc nL own Ts ret nm d mc ms n0 out pc (v0 :: v1 :: v2 :: v3 :: w :: w2 :: lv) (.long x :: st) ws k n := j_lstore_g [v0, v1, v2, v3] hd rfl hn (by simpa [jcatL] using hp) kk
theorem j_lstore_5 {v0 v1 v2 v3 v4 : Option Value} {w w2 : Option Value} {x : Int64} (hd : decode cc pc = .ok (.lstore 5, 2)) (hn : 5 + 1 < nL) (hp : jcat v4 = true) (kk : JG md cc nL own Ts ret nm d mc ms n0 out (pc + 2) (v0 :: v1 :: v2 :: v3 :: v4 :: some (.long x) :: none :: lv) st ws k n) : JG md cc nL own Ts ret nm d mc ms n0 out pc (v0 :: v1 :: v2 :: v3 :: v4 :: w :: w2 :: lv) (.long x :: st) ws k n := j_lstore_g [v0, v1, v2, v3, v4] hd rfl hn (by simpa [jcatL] using hp) kk
theorem j_lstore_6 {v0 v1 v2 v3 v4 v5 : Option Value} {w w2 : Option Value} {x : Int64} (hd : decode cc pc = .ok (.lstore 6, 2)) (hn : 6 + 1 < nL) (hp : jcat v5 = true) (kk : JG md cc nL own Ts ret nm d mc ms n0 out (pc + 2) (v0 :: v1 :: v2 :: v3 :: v4 :: v5 :: some (.long x) :: none :: lv) st ws k n) : JG md cc nL own Ts ret nm d mc ms n0 out pc (v0 :: v1 :: v2 :: v3 :: v4 :: v5 :: w :: w2 :: lv) (.long x :: st) ws k n := j_lstore_g [v0, v1, v2, v3, v4, v5] hd rfl hn (by simpa [jcatL] using hp) kk
theorem j_lstore_7 {v0 v1 v2 v3 v4 v5 v6 : Option Value} {w w2 : Option Value} {x : Int64} (hd : decode cc pc = .ok (.lstore 7, 2)) (hn : 7 + 1 < nL) (hp : jcat v6 = true) (kk : JG md cc nL own Ts ret nm d mc ms n0 out (pc + 2) (v0 :: v1 :: v2 :: v3 :: v4 :: v5 :: v6 :: some (.long x) :: none :: lv) st ws k n) : JG md cc nL own Ts ret nm d mc ms n0 out pc (v0 :: v1 :: v2 :: v3 :: v4 :: v5 :: v6 :: w :: w2 :: lv) (.long x :: st) ws k n := j_lstore_g [v0, v1, v2, v3, v4, v5, v6] hd rfl hn (by simpa [jcatL] using hp) kk
theorem j_lstore_8 {v0 v1 v2 v3 v4 v5 v6 v7 : Option Value} {w w2 : Option Value} {x : Int64} (hd : decode cc pc = .ok (.lstore 8, 2)) (hn : 8 + 1 < nL) (hp : jcat v7 = true) (kk : JG md cc nL own Ts ret nm d mc ms n0 out (pc + 2) (v0 :: v1 :: v2 :: v3 :: v4 :: v5 :: v6 :: v7 :: some (.long x) :: none :: lv) st ws k n) : JG md cc nL own Ts ret nm d mc ms n0 out pc (v0 :: v1 :: v2 :: v3 :: v4 :: v5 :: v6 :: v7 :: w :: w2 :: lv) (.long x :: st) ws k n := j_lstore_g [v0, v1, v2, v3, v4, v5, v6, v7] hd rfl hn (by simpa [jcatL] using hp) kk
theorem j_lstore_9 {v0 v1 v2 v3 v4 v5 v6 v7 v8 : Option Value} {w w2 : Option Value} {x : Int64} (hd : decode cc pc = .ok (.lstore 9, 2)) (hn : 9 + 1 < nL) (hp : jcat v8 = true) (kk : JG md cc nL own Ts ret nm d mc ms n0 out (pc + 2) (v0 :: v1 :: v2 :: v3 :: v4 :: v5 :: v6 :: v7 :: v8 :: some (.long x) :: none :: lv) st ws k n) : JG md cc nL own Ts ret nm d mc ms n0 out pc (v0 :: v1 :: v2 :: v3 :: v4 :: v5 :: v6 :: v7 :: v8 :: w :: w2 :: lv) (.long x :: st) ws k n := j_lstore_g [v0, v1, v2, v3, v4, v5, v6, v7, v8] hd rfl hn (by simpa [jcatL] using hp) kk
theorem j_lstore_10 {v0 v1 v2 v3 v4 v5 v6 v7 v8 v9 : Option Value} {w w2 : Option Value} {x : Int64} (hd : decode cc pc = .ok (.lstore 10, 2)) (hn : 10 + 1 < nL) (hp : jcat v9 = true) (kk : JG md cc nL own Ts ret nm d mc ms n0 out (pc + 2) (v0 :: v1 :: v2 :: v3 :: v4 :: v5 :: v6 :: v7 :: v8 :: v9 :: some (.long x) :: none :: lv) st ws k n) : JG md cc nL own Ts ret nm d mc ms n0 out pc (v0 :: v1 :: v2 :: v3 :: v4 :: v5 :: v6 :: v7 :: v8 :: v9 :: w :: w2 :: lv) (.long x :: st) ws k n := j_lstore_g [v0, v1, v2, v3, v4, v5, v6, v7, v8, v9] hd rfl hn (by simpa [jcatL] using hp) kk
theorem j_lstore_11 {v0 v1 v2 v3 v4 v5 v6 v7 v8 v9 v10 : Option Value} {w w2 : Option Value} {x : Int64} (hd : decode cc pc = .ok (.lstore 11, 2)) (hn : 11 + 1 < nL) (hp : jcat v10 = true) (kk : JG md cc nL own Ts ret nm d mc ms n0 out (pc + 2) (v0 :: v1 :: v2 :: v3 :: v4 :: v5 :: v6 :: v7 :: v8 :: v9 :: v10 :: some (.long x) :: none :: lv) st ws k n) : JG md cc nL own Ts ret nm d mc ms n0 out pc (v0 :: v1 :: v2 :: v3 :: v4 :: v5 :: v6 :: v7 :: v8 :: v9 :: v10 :: w :: w2 :: lv) (.long x :: st) ws k n := j_lstore_g [v0, v1, v2, v3, v4, v5, v6, v7, v8, v9, v10] hd rfl hn (by simpa [jcatL] using hp) kk
theorem j_lstore_12 {v0 v1 v2 v3 v4 v5 v6 v7 v8 v9 v10 v11 : Option Value} {w w2 : Option Value} {x : Int64} (hd : decode cc pc = .ok (.lstore 12, 2)) (hn : 12 + 1 < nL) (hp : jcat v11 = true) (kk : JG md cc nL own Ts ret nm d mc ms n0 out (pc + 2) (v0 :: v1 :: v2 :: v3 :: v4 :: v5 :: v6 :: v7 :: v8 :: v9 :: v10 :: v11 :: some (.long x) :: none :: lv) st ws k n) : JG md cc nL own Ts ret nm d mc ms n0 out pc (v0 :: v1 :: v2 :: v3 :: v4 :: v5 :: v6 :: v7 :: v8 :: v9 :: v10 :: v11 :: w :: w2 :: lv) (.long x :: st) ws k n := j_lstore_g [v0, v1, v2, v3, v4, v5, v6, v7, v8, v9, v10, v11] hd rfl hn (by simpa [jcatL] using hp) kk
theorem j_lstore_13 {v0 v1 v2 v3 v4 v5 v6 v7 v8 v9 v10 v11 v12 : Option Value} {w w2 : Option Value} {x : Int64} (hd : decode cc pc = .ok (.lstore 13, 2)) (hn : 13 + 1 < nL) (hp : jcat v12 = true) (kk : JG md cc nL own Ts ret nm d mc ms n0 out (pc + 2) (v0 :: v1 :: v2 :: v3 :: v4 :: v5 :: v6 :: v7 :: v8 :: v9 :: v10 :: v11 :: v12 :: some (.long x) :: none :: lv) st ws k n) : JG md cc nL own Ts ret nm d mc ms n0 out pc (v0 :: v1 :: v2 :: v3 :: v4 :: v5 :: v6 :: v7 :: v8 :: v9 :: v10 :: v11 :: v12 :: w :: w2 :: lv) (.long x :: st) ws k n := j_lstore_g [v0, v1, v2, v3, v4, v5, v6, v7, v8, v9, v10, v11, v12] hd rfl hn (by simpa [jcatL] using hp) kk
theorem j_lstore_14 {v0 v1 v2 v3 v4 v5 v6 v7 v8 v9 v10 v11 v12 v13 : Option Value} {w w2 : Option Value} {x : Int64} (hd : decode cc pc = .ok (.lstore 14, 2)) (hn : 14 + 1 < nL) (hp : jcat v13 = true) (kk : JG md cc nL own Ts ret nm d mc ms n0 out (pc + 2) (v0 :: v1 :: v2 :: v3 :: v4 :: v5 :: v6 :: v7 :: v8 :: v9 :: v10 :: v11 :: v12 :: v13 :: some (.long x) :: none :: lv) st ws k n) : JG md cc nL own Ts ret nm d mc ms n0 out pc (v0 :: v1 :: v2 :: v3 :: v4 :: v5 :: v6 :: v7 :: v8 :: v9 :: v10 :: v11 :: v12 :: v13 :: w :: w2 :: lv) (.long x :: st) ws k n := j_lstore_g [v0, v1, v2, v3, v4, v5, v6, v7, v8, v9, v10, v11, v12, v13] hd rfl hn (by simpa [jcatL] using hp) kk
theorem j_lstore_15 {v0 v1 v2 v3 v4 v5 v6 v7 v8 v9 v10 v11 v12 v13 v14 : Option Value} {w w2 : Option Value} {x : Int64} (hd : decode cc pc = .ok (.lstore 15, 2)) (hn : 15 + 1 < nL) (hp : jcat v14 = true) (kk : JG md cc nL own Ts ret nm d mc ms n0 out (pc + 2) (v0 :: v1 :: v2 :: v3 :: v4 :: v5 :: v6 :: v7 :: v8 :: v9 :: v10 :: v11 :: v12 :: v13 :: v14 :: some (.long x) :: none :: lv) st ws k n) : JG md cc nL own Ts ret nm d mc ms n0 out pc (v0 :: v1 :: v2 :: v3 :: v4 :: v5 :: v6 :: v7 :: v8 :: v9 :: v10 :: v11 :: v12 :: v13 :: v14 :: w :: w2 :: lv) (.long x :: st) ws k n := j_lstore_g [v0, v1, v2, v3, v4, v5, v6, v7, v8, v9, v10, v11, v12, v13, v14] hd rfl hn (by simpa [jcatL] using hp) kk
theorem j_lstore_16 {v0 v1 v2 v3 v4 v5 v6 v7 v8 v9 v10 v11 v12 v13 v14 v15 : Option Value} {w w2 : Option Value} {x : Int64} (hd : decode cc pc = .ok (.lstore 16, 2)) (hn : 16 + 1 < nL) (hp : jcat v15 = true) (kk : JG md cc nL own Ts ret nm d mc ms n0 out (pc + 2) (v0 :: v1 :: v2 :: v3 :: v4 :: v5 :: v6 :: v7 :: v8 :: v9 :: v10 :: v11 :: v12 :: v13 :: v14 :: v15 :: some (.long x) :: none :: lv) st ws k n) : JG md cc nL own Ts ret nm d mc ms n0 out pc (v0 :: v1 :: v2 :: v3 :: v4 :: v5 :: v6 :: v7 :: v8 :: v9 :: v10 :: v11 :: v12 :: v13 :: v14 :: v15 :: w :: w2 :: lv) (.long x :: st) ws k n := j_lstore_g [v0, v1, v2, v3, v4, v5, v6, v7, v8, v9, v10, v11, v12, v13, v14, v15] hd rfl hn (by simpa [jcatL] using hp) kk
theorem j_lstore_17 {v0 v1 v2 v3 v4 v5 v6 v7 v8 v9 v10 v11 v12 v13 v14 v15 v16 : Option Value} {w w2 : Option Value} {x : Int64} (hd : decode cc pc = .ok (.lstore 17, 2)) (hn : 17 + 1 < nL) (hp : jcat v16 = true) (kk : JG md cc nL own Ts ret nm d mc ms n0 out (pc + 2) (v0 :: v1 :: v2 :: v3 :: v4 :: v5 :: v6 :: v7 :: v8 :: v9 :: v10 :: v11 :: v12 :: v13 :: v14 :: v15 :: v16 :: some (.long x) :: none :: lv) st ws k n) : JG md cc nL own Ts ret nm d mc ms n0 out pc (v0 :: v1 :: v2 :: v3 :: v4 :: v5 :: v6 :: v7 :: v8 :: v9 :: v10 :: v11 :: v12 :: v13 :: v14 :: v15 :: v16 :: w :: w2 :: lv) (.long x :: st) ws k n := j_lstore_g [v0, v1, v2, v3, v4, v5, v6, v7, v8, v9, v10, v11, v12, v13, v14, v15, v16] hd rfl hn (by simpa [jcatL] using hp) kk
theorem j_lstore_18 {v0 v1 v2 v3 v4 v5 v6 v7 v8 v9 v10 v11 v12 v13 v14 v15 v16 v17 : Option Value} {w w2 : Option Value} {x : Int64} (hd : decode cc pc = .ok (.lstore 18, 2)) (hn : 18 + 1 < nL) (hp : jcat v17 = true) (kk : JG md cc nL own Ts ret nm d mc ms n0 out (pc + 2) (v0 :: v1 :: v2 :: v3 :: v4 :: v5 :: v6 :: v7 :: v8 :: v9 :: v10 :: v11 :: v12 :: v13 :: v14 :: v15 :: v16 :: v17 :: some (.long x) :: none :: lv) st ws k n) : JG md cc nL own Ts ret nm d mc ms n0 out pc (v0 :: v1 :: v2 :: v3 :: v4 :: v5 :: v6 :: v7 :: v8 :: v9 :: v10 :: v11 :: v12 :: v13 :: v14 :: v15 :: v16 :: v17 :: w :: w2 :: lv) (.long x :: st) ws k n := j_lstore_g [v0, v1, v2, v3, v4, v5, v6, v7, v8, v9, v10, v11, v12, v13, v14, v15, v16, v17] hd rfl hn (by simpa [jcatL] using hp) kk
theorem j_lstore_19 {v0 v1 v2 v3 v4 v5 v6 v7 v8 v9 v10 v11 v12 v13 v14 v15 v16 v17 v18 : Option Value} {w w2 : Option Value} {x : Int64} (hd : decode cc pc = .ok (.lstore 19, 2)) (hn : 19 + 1 < nL) (hp : jcat v18 = true) (kk : JG md cc nL own Ts ret nm d mc ms n0 out (pc + 2) (v0 :: v1 :: v2 :: v3 :: v4 :: v5 :: v6 :: v7 :: v8 :: v9 :: v10 :: v11 :: v12 :: v13 :: v14 :: v15 :: v16 :: v17 :: v18 :: some (.long x) :: none :: lv) st ws k n) : JG md cc nL own Ts ret nm d mc ms n0 out pc (v0 :: v1 :: v2 :: v3 :: v4 :: v5 :: v6 :: v7 :: v8 :: v9 :: v10 :: v11 :: v12 :: v13 :: v14 :: v15 :: v16 :: v17 :: v18 :: w :: w2 :: lv) (.long x :: st) ws k n := j_lstore_g [v0, v1, v2, v3, v4, v5, v6, v7, v8, v9, v10, v11, v12, v13, v14, v15, v16, v17, v18] hd rfl hn (by simpa [jcatL] using hp) kk
theorem j_lstore_20 {v0 v1 v2 v3 v4 v5 v6 v7 v8 v9 v10 v11 v12 v13 v14 v15 v16 v17 v18 v19 : Option Value} {w w2 : Option Value} {x : Int64} (hd : decode cc pc = .ok (.lstore 20, 2)) (hn : 20 + 1 < nL) (hp : jcat v19 = true) (kk : JG md cc nL own Ts ret nm d mc ms n0 out (pc + 2) (v0 :: v1 :: v2 :: v3 :: v4 :: v5 :: v6 :: v7 :: v8 :: v9 :: v10 :: v11 :: v12 :: v13 :: v14 :: v15 :: v16 :: v17 :: v18 :: v19 :: some (.long x) :: none :: lv) st ws k n) : JG md cc nL own Ts ret nm d mc ms n0 out pc (v0 :: v1 :: v2 :: v3 :: v4 :: v5 :: v6 :: v7 :: v8 :: v9 :: v10 :: v11 :: v12 :: v13 :: v14 :: v15 :: v16 :: v17 :: v18 :: v19 :: w :: w2 :: lv) (.long x :: st) ws k n := j_lstore_g [v0, v1, v2, v3, v4, v5, v6, v7, v8, v9, v10, v11, v12, v13, v14, v15, v16, v17, v18, v19] hd rfl hn (by simpa [jcatL] using hp) kk
theorem j_lstore_21 {v0 v1 v2 v3 v4 v5 v6 v7 v8 v9 v10 v11 v12 v13 v14 v15 v16 v17 v18 v19 v20 : Option Value} {w w2 : Option Value} {x : Int64} (hd : decode cc pc = .ok (.lstore 21, 2)) (hn : 21 + 1 < nL) (hp : jcat v20 = true) (kk : JG md cc nL own Ts ret nm d mc ms n0 out (pc + 2) (v0 :: v1 :: v2 :: v3 :: v4 :: v5 :: v6 :: v7 :: v8 :: v9 :: v10 :: v11 :: v12 :: v13 :: v14 :: v15 :: v16 :: v17 :: v18 :: v19 :: v20 :: some (.long x) :: none :: lv) st ws k n) : JG md cc nL own Ts ret nm d mc ms n0 out pc (v0 :: v1 :: v2 :: v3 :: v4 :: v5 :: v6 :: v7 :: v8 :: v9 :: v10 :: v11 :: v12 :: v13 :: v14 :: v15 :: v16 :: v17 :: v18 :: v19 :: v20 :: w :: w2 :: lv) (.long x :: st) ws k n := j_lstore_g [v0, v1, v2, v3, v4, v5, v6, v7, v8, v9, v10, v11, v12, v13, v14, v15, v16, v17, v18, v19, v20] hd rfl hn (by simpa [jcatL] using hp) kk
theorem j_lstore_22 {v0 v1 v2 v3 v4 v5 v6 v7 v8 v9 v10 v11 v12 v13 v14 v15 v16 v17 v18 v19 v20 v21 : Option Value} {w w2 : Option Value} {x : Int64} (hd : decode cc pc = .ok (.lstore 22, 2)) (hn : 22 + 1 < nL) (hp : jcat v21 = true) (kk : JG md cc nL own Ts ret nm d mc ms n0 out (pc + 2) (v0 :: v1 :: v2 :: v3 :: v4 :: v5 :: v6 :: v7 :: v8 :: v9 :: v10 :: v11 :: v12 :: v13 :: v14 :: v15 :: v16 :: v17 :: v18 :: v19 :: v20 :: v21 :: some (.long x) :: none :: lv) st ws k n) : JG md cc nL own Ts ret nm d mc ms n0 out pc (v0 :: v1 :: v2 :: v3 :: v4 :: v5 :: v6 :: v7 :: v8 :: v9 :: v10 :: v11 :: v12 :: v13 :: v14 :: v15 :: v16 :: v17 :: v18 :: v19 :: v20 :: v21 :: w :: w2 :: lv) (.long x :: st) ws k n := j_lstore_g [v0, v1, v2, v3, v4, v5, v6, v7, v8, v9, v10, v11, v12, v13, v14, v15, v16, v17, v18, v19, v20, v21] hd rfl hn (by simpa [jcatL] using hp) kk
theorem j_lstore_23 {v0 v1 v2 v3 v4 v5 v6 v7 v8 v9 v10 v11 v12 v13 v14 v15 v16 v17 v18 v19 v20 v21 v22 : Option Value} {w w2 : Option Value} {x : Int64} (hd : decode cc pc = .ok (.lstore 23, 2)) (hn : 23 + 1 < nL) (hp : jcat v22 = true) (kk : JG md cc nL own Ts ret nm d mc ms n0 out (pc + 2) (v0 :: v1 :: v2 :: v3 :: v4 :: v5 :: v6 :: v7 :: v8 :: v9 :: v10 :: v11 :: v12 :: v13 :: v14 :: v15 :: v16 :: v17 :: v18 :: v19 :: v20 :: v21 :: v22 :: some (.long x) :: none :: lv) st ws k n) : JG md cc nL own Ts ret nm d mc ms n0 out pc (v0 :: v1 :: v2 :: v3 :: v4 :: v5 :: v6 :: v7 :: v8 :: v9 :: v10 :: v11 :: v12 :: v13 :: v14 :: v15 :: v16 :: v17 :: v18 :: v19 :: v20 :: v21 :: v22 :: w :: w2 :: lv) (.long x :: st) ws k n := j_lstore_g [v0, v1, v2, v3, v4, v5, v6, v7, v8, v9, v10, v11, v12, v13, v14, v15, v16, v17, v18, v19, v20, v21, v22] hd rfl hn (by simpa [jcatL] using hp) kk
theorem j_lstore_24 {v0 v1 v2 v3 v4 v5 v6 v7 v8 v9 v10 v11 v12 v13 v14 v15 v16 v17 v18 v19 v20 v21 v22 v23 : Option Value} {w w2 : Option Value} {x : Int64} (hd : decode cc pc = .ok (.lstore 24, 2)) (hn : 24 + 1 < nL) (hp : jcat v23 = true) (kk : JG md cc nL own Ts ret nm d mc ms n0 out (pc + 2) (v0 :: v1 :: v2 :: v3 :: v4 :: v5 :: v6 :: v7 :: v8 :: v9 :: v10 :: v11 :: v12 :: v13 :: v14 :: v15 :: v16 :: v17 :: v18 :: v19 :: v20 :: v21 :: v22 :: v23 :: some (.long x) :: none :: lv) st ws k n) : JG md cc nL own Ts ret nm d mc ms n0 out pc (v0 :: v1 :: v2 :: v3 :: v4 :: v5 :: v6 :: v7 :: v8 :: v9 :: v10 :: v11 :: v12 :: v13 :: v14 :: v15 :: v16 :: v17 :: v18 :: v19 :: v20 :: v21 :: v22 :: v23 :: w :: w2 :: lv) (.long x :: st) ws k n := j_lstore_g [v0, v1, v2, v3, v4, v5, v6, v7, v8, v9, v10, v11, v12, v13, v14, v15, v16, v17, v18, v19, v20, v21, v22, v23] hd rfl hn (by simpa [jcatL] using hp) kk
theorem j_lstore_25 {v0 v1 v2 v3 v4 v5 v6 v7 v8 v9 v10 v11 v12 v13 v14 v15 v16 v17 v18 v19 v20 v21 v22 v23 v24 : Option Value} {w w2 : Option Value} {x : Int64} (hd : decode cc pc = .ok (.lstore 25, 2)) (hn : 25 + 1 < nL) (hp : jcat v24 = true) (kk : JG md cc nL own Ts ret nm d mc ms n0 out (pc + 2) (v0 :: v1 :: v2 :: v3 :: v4 :: v5 :: v6 :: v7 :: v8 :: v9 :: v10 :: v11 :: v12 :: v13 :: v14 :: v15 :: v16 :: v17 :: v18 :: v19 :: v20 :: v21 :: v22 :: v23 :: v24 :: some (.long x) :: none :: lv) st ws k n) : JG md cc nL own Ts ret nm d mc ms n0 out pc (v0 :: v1 :: v2 :: v3 :: v4 :: v5 :: v6 :: v7 :: v8 :: v9 :: v10 :: v11 :: v12 :: v13 :: v14 :: v15 :: v16 :: v17 :: v18 :: v19 :: v20 :: v21 :: v22 :: v23 :: v24 :: w :: w2 :: lv) (.long x :: st) ws k n := j_lstore_g [v0, v1, v2, v3, v4, v5, v6, v7, v8, v9, v10, v11, v12, v13, v14, v15, v16, v17, v18, v19, v20, v21, v22, v23, v24] hd rfl hn (by simpa [jcatL] using hp) kk
theorem j_lstore_26 {v0 v1 v2 v3 v4 v5 v6 v7 v8 v9 v10 v11 v12 v13 v14 v15 v16 v17 v18 v19 v20 v21 v22 v23 v24 v25 : Option Value} {w w2 : Option Value} {x : Int64} (hd : decode cc pc = .ok (.lstore 26, 2)) (hn : 26 + 1 < nL) (hp : jcat v25 = true) (kk : JG md cc nL own Ts ret nm d mc ms n0 out (pc + 2) (v0 :: v1 :: v2 :: v3 :: v4 :: v5 :: v6 :: v7 :: v8 :: v9 :: v10 :: v11 :: v12 :: v13 :: v14 :: v15 :: v16 :: v17 :: v18 :: v19 :: v20 :: v21 :: v22 :: v23 :: v24 :: v25 :: some (.long x) :: none :: lv) st ws k n) : JG md cc nL own Ts ret nm d mc ms n0 out pc (v0 :: v1 :: v2 :: v3 :: v4 :: v5 :: v6 :: v7 :: v8 :: v9 :: v10 :: v11 :: v12 :: v13 :: v14 :: v15 :: v16 :: v17 :: v18 :: v19 :: v20 :: v21 :: v22 :: v23 :: v24 :: v25 :: w :: w2 :: lv) (.long x :: st) ws k n := j_lstore_g [v0, v1, v2, v3, v4, v5, v6, v7, v8, v9, v10, v11, v12, v13, v14, v15, v16, v17, v18, v19, v20, v21, v22, v23, v24, v25] hd rfl hn (by simpa [jcatL] using hp) kk
theorem j_lstore_27 {v0 v1 v2 v3 v4 v5 v6 v7 v8 v9 v10 v11 v12 v13 v14 v15 v16 v17 v18 v19 v20 v21 v22 v23 v24 v25 v26 : Option Value} {w w2 : Option Value} {x : Int64} (hd : decode cc pc = .ok (.lstore 27, 2)) (hn : 27 + 1 < nL) (hp : jcat v26 = true) (kk : JG md cc nL own Ts ret nm d mc ms n0 out (pc + 2) (v0 :: v1 :: v2 :: v3 :: v4 :: v5 :: v6 :: v7 :: v8 :: v9 :: v10 :: v11 :: v12 :: v13 :: v14 :: v15 :: v16 :: v17 :: v18 :: v19 :: v20 :: v21 :: v22 :: v23 :: v24 :: v25 :: v26 :: some (.long x) :: none :: lv) st ws k n) : JG md cc nL own Ts ret nm d mc ms n0 out pc (v0 :: v1 :: v2 :: v3 :: v4 :: v5 :: v6 :: v7 :: v8 :: v9 :: v10 :: v11 :: v12 :: v13 :: v14 :: v15 :: v16 :: v17 :: v18 :: v19 :: v20 :: v21 :: v22 :: v23 :: v24 :: v25 :: v26 :: w :: w2 :: lv) (.long x :: st) ws k n := j_lstore_g [v0, v1, v2, v3, v4, v5, v6, v7, v8, v9, v10, v11, v12, v13, v14, v15, v16, v17, v18, v19, v20, v21, v22, v23, v24, v25, v26] hd rfl hn (by simpa [jcatL] using hp) kk
theorem j_lstore_28 {v0 v1 v2 v3 v4 v5 v6 v7 v8 v9 v10 v11 v12 v13 v14 v15 v16 v17 v18 v19 v20 v21 v22 v23 v24 v25 v26 v27 : Option Value} {w w2 : Option Value} {x : Int64} (hd : decode cc pc = .ok (.lstore 28, 2)) (hn : 28 + 1 < nL) (hp : jcat v27 = true) (kk : JG md cc nL own Ts ret nm d mc ms n0 out (pc + 2) (v0 :: v1 :: v2 :: v3 :: v4 :: v5 :: v6 :: v7 :: v8 :: v9 :: v10 :: v11 :: v12 :: v13 :: v14 :: v15 :: v16 :: v17 :: v18 :: v19 :: v20 :: v21 :: v22 :: v23 :: v24 :: v25 :: v26 :: v27 :: some (.long x) :: none :: lv) st ws k n) : JG md cc nL own Ts ret nm d mc ms n0 out pc (v0 :: v1 :: v2 :: v3 :: v4 :: v5 :: v6 :: v7 :: v8 :: v9 :: v10 :: v11 :: v12 :: v13 :: v14 :: v15 :: v16 :: v17 :: v18 :: v19 :: v20 :: v21 :: v22 :: v23 :: v24 :: v25 :: v26 :: v27 :: w :: w2 :: lv) (.long x :: st) ws k n := j_lstore_g [v0, v1, v2, v3, v4, v5, v6, v7, v8, v9, v10, v11, v12, v13, v14, v15, v16, v17, v18, v19, v20, v21, v22, v23, v24, v25, v26, v27] hd rfl hn (by simpa [jcatL] using hp) kk
theorem j_lstore_29 {v0 v1 v2 v3 v4 v5 v6 v7 v8 v9 v10 v11 v12 v13 v14 v15 v16 v17 v18 v19 v20 v21 v22 v23 v24 v25 v26 v27 v28 : Option Value} {w w2 : Option Value} {x : Int64} (hd : decode cc pc = .ok (.lstore 29, 2)) (hn : 29 + 1 < nL) (hp : jcat v28 = true) (kk : JG md cc nL own Ts ret nm d mc ms n0 out (pc + 2) (v0 :: v1 :: v2 :: v3 :: v4 :: v5 :: v6 :: v7 :: v8 :: v9 :: v10 :: v11 :: v12 :: v13 :: v14 :: v15 :: v16 :: v17 :: v18 :: v19 :: v20 :: v21 :: v22 :: v23 :: v24 :: v25 :: v26 :: v27 :: v28 :: some (.long x) :: none :: lv) st ws k n) : JG md cc nL own Ts ret nm d mc ms n0 out pc (v0 :: v1 :: v2 :: v3 :: v4 :: v5 :: v6 :: v7 :: v8 :: v9 :: v10 :: v11 :: v12 :: v13 :: v14 :: v15 :: v16 :: v17 :: v18 :: v19 :: v20 :: v21 :: v22 :: v23 :: v24 :: v25 :: v26 :: v27 :: v28 :: w :: w2 :: lv) (.long x :: st) ws k n := j_lstore_g [v0, v1, v2, v3, v4, v5, v6, v7, v8, v9, v10, v11, v12, v13, v14, v15, v16, v17, v18, v19, v20, v21, v22, v23, v24, v25, v26, v27, v28] hd rfl hn (by simpa [jcatL] using hp) kk
abbrev jexcN : List String := ["java/lang/RuntimeException", "java/lang/Exception"]
theorem j_throw {ik is ic : Nat} {cls text : String} (hown9 : own = RX10) (hthr9 : md = .inl true) (d0 : decode cc pc = .ok (.new ik, 3)) (d3 : decode cc (pc + 3) = .ok (.dup, 1)) (d4 : decode cc (pc + 4) = .ok (.ldc is, 2)) (d6 : decode cc (pc + 6) = .ok (.invokespecial ic, 3)) (d9 : decode cc (pc + 9) = .ok (.athrow, 1))
    (hq : (is, text) ∈ jstr) (hq2 : (ic, cls) ∈ jexc) (hcls : Bundle.fit cls = true) (hk : Cond.classLink RX10 ik cls ∈ Ts) (hini : Cond.initialized cls ∈ Ts) (hat : ∀ w ∈ (vx_atS RX10 ic cls jexcN).filter goodWord, w ∈ Ts) (hgood : ∀ w ∈ Cond.classLink RX10 ik cls :: Cond.initialized cls :: vx_atS RX10 ic cls jexcN, vx_ot w = true)
    (hd1 : 6 ≤ d) (hst : (st.map fun v => v.category).sum ≤ 40) (hkc : k + 1 ≤ mc) (hks : n + 6 ≤ ms) (hn0 : ws.length = n0) (ho : out = (.inr cls, ws)) : JG md cc nL own Ts ret nm d mc ms n0 out pc lv st ws k n := by
  subst hown9
  subst hthr9
  subst ho
  intro p l e R s m args below meth c G A ρ0 ρ H locs ls hC hR hl
  obtain ⟨⟨hx, hb, hml, hown, hts⟩, hr, hlocks, hname, hK, hN, hA, ⟨hRf, hRc, hRs, hRl⟩, hthr, hlaw⟩ := hC
  obtain ⟨hP, hD, hS, hρ, hle, heq⟩ := hR
  obtain ⟨hl9, hext, hU, hSup, hstrs, hbad⟩ := hthr rfl
  obtain ⟨sa, hsa⟩ := hstrs _ hq
  have hρe : ρ = ρ0 := heq hn0
  subst hρe
  refine vx_throwS (names := jexcN) (text := text) (sa := sa) (A := A) hx hb hl9 hown hcls (by decide +kernel) (hts _ hk) (hts _ hini) hsa ?_ hgood hU hSup hS (by rw [hml]; exact hl.1) d0 d3 d4 d6 d9 (fun x h => (hext x h).elim) (by show 2 + 3 < R.frames; omega) (by show ((st.map (jrv ρ)).map fun v => v.category).sum + (13 * 3 + 43) ≤ R.locals; rw [jrv_cats]; omega) (hRc ▸ hkc) (hRs ▸ hks) hlocks ?_ hS.2.2 hkc hks
  · refine vx_hat (fun w hw => hts _ (hat w hw)) (fun w hw => hw) (fun w hw => ?_)
    have hw2 : w ∈ vx_atS RX10 ic cls jexcN := (List.mem_filter.mp hw).1
    exact vx_ot_at (State.WarmedH.refl s) rfl (hgood w (List.mem_cons_of_mem _ (List.mem_cons_of_mem _ hw2))) (hbad _ hq2 w hw)
  · intro t hvm hsz hkeep
    have hP2 : va_P G.1 vwCl (jph G.2 ρ ws) t.heap := hP.kept fun i q hi => hkeep q.1 (hP i q hi).lt
    exact ⟨(), trivial, ⟨rfl, hP2, hD, hn0⟩, Nat.le_trans hS.1 hsz, fun q h1 h2 => (hkeep q (Nat.lt_of_lt_of_le h1 hS.1)).trans (hS.2.1 q h1 h2)⟩
theorem j_throwW {ik is ic : Nat} {cls text : String} (hown9 : own = RX10) (hthr9 : md = .inl true) (d0 : decode cc pc = .ok (.new ik, 3)) (d3 : decode cc (pc + 3) = .ok (.dup, 1)) (d4 : decode cc (pc + 4) = .ok (.ldc_w is, 3)) (d6 : decode cc (pc + 7) = .ok (.invokespecial ic, 3)) (d9 : decode cc (pc + 10) = .ok (.athrow, 1))
    (hq : (is, text) ∈ jstr) (hq2 : (ic, cls) ∈ jexc) (hcls : Bundle.fit cls = true) (hk : Cond.classLink RX10 ik cls ∈ Ts) (hini : Cond.initialized cls ∈ Ts) (hat : ∀ w ∈ (vx_atS RX10 ic cls jexcN).filter goodWord, w ∈ Ts) (hgood : ∀ w ∈ Cond.classLink RX10 ik cls :: Cond.initialized cls :: vx_atS RX10 ic cls jexcN, vx_ot w = true)
    (hd1 : 6 ≤ d) (hst : (st.map fun v => v.category).sum ≤ 40) (hkc : k + 1 ≤ mc) (hks : n + 6 ≤ ms) (hn0 : ws.length = n0) (ho : out = (.inr cls, ws)) : JG md cc nL own Ts ret nm d mc ms n0 out pc lv st ws k n := by
  subst hown9
  subst hthr9
  subst ho
  intro p l e R s m args below meth c G A ρ0 ρ H locs ls hC hR hl
  obtain ⟨⟨hx, hb, hml, hown, hts⟩, hr, hlocks, hname, hK, hN, hA, ⟨hRf, hRc, hRs, hRl⟩, hthr, hlaw⟩ := hC
  obtain ⟨hP, hD, hS, hρ, hle, heq⟩ := hR
  obtain ⟨hl9, hext, hU, hSup, hstrs, hbad⟩ := hthr rfl
  obtain ⟨sa, hsa⟩ := hstrs _ hq
  have hρe : ρ = ρ0 := heq hn0
  subst hρe
  refine vx_throwSW (names := jexcN) (text := text) (sa := sa) (A := A) hx hb hl9 hown hcls (by decide +kernel) (hts _ hk) (hts _ hini) hsa ?_ hgood hU hSup hS (by rw [hml]; exact hl.1) d0 d3 d4 d6 d9 (fun x h => (hext x h).elim) (by show 2 + 3 < R.frames; omega) (by show ((st.map (jrv ρ)).map fun v => v.category).sum + (13 * 3 + 43) ≤ R.locals; rw [jrv_cats]; omega) (hRc ▸ hkc) (hRs ▸ hks) hlocks ?_ hS.2.2 hkc hks
  · refine vx_hat (fun w hw => hts _ (hat w hw)) (fun w hw => hw) (fun w hw => ?_)
    have hw2 : w ∈ vx_atS RX10 ic cls jexcN := (List.mem_filter.mp hw).1
    exact vx_ot_at (State.WarmedH.refl s) rfl (hgood w (List.mem_cons_of_mem _ (List.mem_cons_of_mem _ hw2))) (hbad _ hq2 w hw)
  · intro t hvm hsz hkeep
    have hP2 : va_P G.1 vwCl (jph G.2 ρ ws) t.heap := hP.kept fun i q hi => hkeep q.1 (hP i q hi).lt
    exact ⟨(), trivial, ⟨rfl, hP2, hD, hn0⟩, Nat.le_trans hS.1 hsz, fun q h1 h2 => (hkeep q (Nat.lt_of_lt_of_le h1 hS.1)).trans (hS.2.1 q h1 h2)⟩
theorem j_ldcf {i : Nat} {v : UInt32} (hd : decode cc pc = .ok (.ldc i, 2)) (hc : Cond.constantFloat own i v ∈ Ts) (kk : JG md cc nL own Ts ret nm d mc ms n0 out (pc + 2) lv (.float v :: st) ws k n) : JG md cc nL own Ts ret nm d mc ms n0 out pc lv st ws k n := by
  intro p l e R s m args below meth c G A ρ0 ρ H locs ls hC hR hl
  exact lv_ldcf hC.1.1 hC.1.2.1 hC.1.2.2.2.1 (hC.1.2.2.2.2 _ hc) hd (kk p l e R s m args below meth c G A ρ0 ρ H locs ls hC hR hl)
theorem jx_ldcfw {p : Program} {l : Launch} {e : Env} {R : Room} {s : State} {m : MethodId} {args : Array Value} {below : List Frame} {meth : Method} {c : Code} {T : State} {locs : List Loc} {cells slots : Nat} (X : Stand p l e R s m args below meth c T locs cells slots) (hexec : p.tables.exec = Jvm.exec) {own : String} {index : Nat} {v : UInt32} (hown : s.vm.findClass own = some m.cls)
    (hconst : (Cond.constantFloat own index v).before args s = true) {g : JFrame} (hg : g.method = m) (hdg : decode c.code g.pc = .ok (.ldc_w index, 3)) :
    ∀ target, Steps p.tables e below (T.setTop { g with pc := g.pc + 3, stack := .float v :: g.stack }) target → Steps p.tables e below (T.setTop g) target := by
  obtain ⟨k, cf, hk, hcf, hcp⟩ := Cond.constantFloat_spec hown hconst
  obtain ⟨k', hk', he⟩ := X.warmed.alike.2.2 _ _ hk
  intro target hrest
  subst hg
  jvm_step X.here [hexec, hdg, ldc_w.wp_float (s := T) (f := g) X.here.top hk' (by rw [he]; exact hcf) hcp]
  exact hrest
theorem j_ldcfw {i : Nat} {v : UInt32} (hd : decode cc pc = .ok (.ldc_w i, 3)) (hc : Cond.constantFloat own i v ∈ Ts) (kk : JG md cc nL own Ts ret nm d mc ms n0 out (pc + 3) lv (.float v :: st) ws k n) : JG md cc nL own Ts ret nm d mc ms n0 out pc lv st ws k n := by
  intro p l e R s m args below meth c G A ρ0 ρ H locs ls hC hR hl T hT X
  obtain ⟨t, a, b⟩ := kk p l e R s m args below meth c G A ρ0 ρ H locs ls hC hR hl T hT X
  exact ⟨t, jx_ldcfw X hC.1.1 hC.1.2.2.2.1 (hC.1.2.2.2.2 _ hc) (g := F0 m pc ls (st.map (jrv ρ))) rfl (by rw [hC.1.2.1]; exact hd) t a, b⟩
theorem j_zretL {x : Int32} (hx : x = 0 ∨ x = 1) (hr' : ret = some .boolean) (hd : decode cc pc = .ok (.ireturn, 1)) (hkc : k ≤ mc) (hks : n ≤ ms) (ho : out = (.inl (some (.int x)), ws)) : JG md cc nL own Ts ret nm d mc ms n0 out pc lv [.int x] ws k n := j_zret hr' hd hkc hks (if_pos hx : retZ x ws = some (x, ws)) rfl ho
def jfib (x : UInt32) : Option Int32 := if x &&& 0x7fffffff ≤ 0x7f800000 then some x.toInt32 else none
end
