theorem rdR_iv {n : Nat} {g : Nat → Int32} {i : Nat} (h : i < n) (hn : n < 1000) : rdR n g (iv i) = g i := by
  unfold rdR
  have h0 : ¬ iv i < (0 : Int32) := fun e => by
    have := (iv_lt (b := 0) (show IB (i : Int) by unfold IB; omega) (by decide)).mp e
    omega
  have h1 : ¬ Int32.ofNat n ≤ iv i := fun e => by
    have := (iv_le (a := n) (show IB (n : Int) by unfold IB; omega) (show IB (i : Int) by unfold IB; omega)).mp e
    omega
  rw [if_neg h0, if_neg h1, iv_clamp (by unfold IB; omega)]
  rfl
theorem wrR_iv {n : Nat} {f : Nat → Nat → Int32} {b : Nat} {v : Int32} {i : Nat} (h : i < n) (hn : n < 1000) : wrR f b n (iv i) v = upf f b i v := by
  unfold wrR
  have h0 : ¬ iv i < (0 : Int32) := fun e => by
    have := (iv_lt (b := 0) (show IB (i : Int) by unfold IB; omega) (by decide)).mp e
    omega
  have h1 : ¬ Int32.ofNat n ≤ iv i := fun e => by
    have := (iv_le (a := n) (show IB (n : Int) by unfold IB; omega) (show IB (i : Int) by unfold IB; omega)).mp e
    omega
  rw [if_neg h0, if_neg h1, iv_clamp (by unfold IB; omega)]
  rfl
theorem up2_up2 {z : Nat → Nat → Int32} {a k : Nat} {v w : Int32} : up2 (up2 z a k v) a k w = up2 z a k w := by
  funext a' k'
  unfold up2
  by_cases h : a' = a ∧ k' = k
  · rw [if_pos h, if_pos h]
  · rw [if_neg h, if_neg h, if_neg h]
theorem up2_same {z : Nat → Nat → Int32} {a k : Nat} {v : Int32} : up2 z a k v a k = v := if_pos ⟨rfl, rfl⟩
theorem up2_id {z : Nat → Nat → Int32} {a k : Nat} {v : Int32} (h : z a k = v) : up2 z a k v = z := by
  funext a' k'
  unfold up2
  by_cases h' : a' = a ∧ k' = k
  · rw [if_pos h', h'.1, h'.2, h]
  · rw [if_neg h']
theorem upa_upa {f : Nat → Nat → Int32} {b : Nat} {g h : Nat → Int32} : upa (upa f b g) b h = upa f b h := by
  funext b'
  unfold upa
  by_cases e : b' = b
  · rw [if_pos e, if_pos e]
  · rw [if_neg e, if_neg e, if_neg e]
theorem upa_same {f : Nat → Nat → Int32} {b : Nat} {g : Nat → Int32} : upa f b g b = g := if_pos rfl
theorem upa_ne {f : Nat → Nat → Int32} {b b' : Nat} {g : Nat → Int32} (h : b' ≠ b) : upa f b g b' = f b' := if_neg h
theorem upa_comm {f : Nat → Nat → Int32} {b b' : Nat} {g g' : Nat → Int32} (h : b' ≠ b) : upa (upa f b g) b' g' = upa (upa f b' g') b g := by
  funext c
  unfold upa
  by_cases e : c = b
  · have e2 : ¬ c = b' := by omega
    simp [e, Ne.symm h]
  · by_cases e2 : c = b'
    · simp [e2, h]
    · simp [e, e2]
theorem upf_up {f : Nat → Nat → Int32} {b j : Nat} {v : Int32} : upf f b j v = upa f b (upd (f b) j v) := rfl
theorem upd_at {g : Nat → Int32} {i : Nat} {v : Int32} : upd g i v i = v := if_pos rfl
theorem upd_ne {g : Nat → Int32} {i j : Nat} {v : Int32} (h : j ≠ i) : upd g i v j = g j := if_neg h
theorem iv_1 (i : Nat) : iv i + 1 = iv ((i + 1 : Nat) : Int) := by
  show iv i + iv 1 = _
  rw [iv_add]
  rfl
theorem ibn {n : Nat} (h : n < 100000) : IB (n : Int) := by unfold IB; omega
def nxN (p : Int) : List Int → Int → Int
  | [], n => n
  | q :: l, n => nxN p l (if fur (pt p) (pt n) (pt q) then q else n)
theorem nxN_pt (p : Int) : ∀ (l : List Int) (n : Int), pt (nxN p l n) = nxt (pt p) (l.map pt) (pt n)
  | [], n => rfl
  | q :: l, n => by
    unfold nxN
    rw [nxN_pt p l, List.map_cons]
    show _ = nxt (pt p) (l.map pt) (if fur (pt p) (pt n) (pt q) then pt q else pt n)
    by_cases h : fur (pt p) (pt n) (pt q)
    · rw [if_pos h, if_pos h]
    · rw [if_neg h, if_neg h]
theorem nxN_mem (p : Int) : ∀ (l : List Int) (n : Int), nxN p l n = n ∨ nxN p l n ∈ l
  | [], n => Or.inl rfl
  | q :: l, n => by
    unfold nxN
    rcases nxN_mem p l (if fur (pt p) (pt n) (pt q) then q else n) with h | h
    · rw [h]
      by_cases h : fur (pt p) (pt n) (pt q)
      · rw [if_pos h]; exact Or.inr List.mem_cons_self
      · rw [if_neg h]; exact Or.inl rfl
    · exact Or.inr (List.mem_cons_of_mem _ h)
theorem cw_116 {k74 : Int32 → Int32 → Int32 → (Nat → Nat → Int32) → (Nat → Nat → Int32) → Option ((Nat → Nat → Int32) × (Nat → Nat → Int32))} {acc : List Int} (hB : ∀ a ∈ acc, nB a) (hl : acc.length ≤ 6) {z f : Nat → Nat → Int32} (hf : ∀ j (h : j < acc.length), f 5 j = iv acc[j]) {i4 : Int32} {p : Int} (hp : nB p) : ∀ (k fu i : Nat) (n : Int), i + k = acc.length → k < fu → nB n → g_X4_wrap_l116 k74 fu (iv acc.length) i4 (iv p) (iv n) (iv i) z f = k74 (iv acc.length) i4 (iv (nxN p (acc.drop i) n)) (up2 z 1 2 (z 1 2 + 1)) f := by
  intro k
  induction k with
  | zero =>
    intro fu i n hi hf2 hn
    obtain ⟨fu, rfl⟩ : ∃ x, fu = x + 1 := ⟨fu - 1, by omega⟩
    rw [g_X4_wrap_l116, if_pos ((iv_le (ibn (by omega)) (ibn (by omega))).mpr (by omega)), List.drop_eq_nil_of_le (by omega)]
    rfl
  | succ k ih =>
    intro fu i n hi hf2 hn
    obtain ⟨fu, rfl⟩ : ∃ x, fu = x + 1 := ⟨fu - 1, by omega⟩
    have hlt : i < acc.length := by omega
    have hq : nB acc[i] := hB _ (List.getElem_mem hlt)
    rw [g_X4_wrap_l116, if_neg (fun e => by have := (iv_le (ibn (by omega)) (ibn (by omega))).mp e; omega), rdR_iv (by omega) (by decide), hf i hlt, fo_fur hp hn hq, Option.bind_some]
    rw [List.drop_eq_getElem_cons hlt]
    unfold nxN g_X4_wrap_b152
    rw [iv_1]
    by_cases h : fur (pt p) (pt n) (pt acc[i])
    · rw [if_pos h, if_pos h, if_neg (by decide)]
      exact ih fu (i + 1) _ (by omega) (by omega) hq
    · rw [if_neg h, if_neg h, if_pos rfl]
      exact ih fu (i + 1) _ (by omega) (by omega) hn
/-- the corners by their numbers -/
def cN (acc : List Int) (st : Int) : Nat → Int
  | 0 => st
  | i + 1 => nxN (cN acc st i) acc (cN acc st i)
theorem cN_pt (acc : List Int) (st : Int) : ∀ i, pt (cN acc st i) = cs (acc.map pt) (pt st) i
  | 0 => rfl
  | i + 1 => by
    show pt (nxN (cN acc st i) acc (cN acc st i)) = sc (acc.map pt) (cs (acc.map pt) (pt st) i)
    rw [nxN_pt, ← cN_pt acc st i]
    rfl
theorem cN_mem {acc : List Int} {st : Int} (h : st ∈ acc) : ∀ i, cN acc st i ∈ acc
  | 0 => h
  | i + 1 => by
    rcases nxN_mem (cN acc st i) acc (cN acc st i) with e | e
    · show nxN (cN acc st i) acc (cN acc st i) ∈ acc
      rw [e]; exact cN_mem h i
    · exact e
theorem cw_74 {acc : List Int} (hB : ∀ a ∈ acc, nB a) (hl : acc.length ≤ 6) {st : Int} (hst : st ∈ acc) {m : Nat} (h1 : 1 ≤ m) (hml : m ≤ acc.length) (hr : cN acc st m = st) (hm : ∀ i, 0 < i → i < m → cN acc st i ≠ st) : ∀ (k fu s : Nat) (z f : Nat → Nat → Int32), s + k = m → k < fu → z 1 2 = iv s → (∀ j (h : j < acc.length), f 5 j = iv acc[j]) → (∀ j, j < s → f 3 j = iv (cN acc st j)) → ∃ c3, g_X4_wrap_l74 fu (iv acc.length) (iv st) (iv (cN acc st s)) z f = some (up2 z 1 2 (iv m), upa f 3 c3) ∧ ∀ j, j ≤ m → c3 j = iv (cN acc st j) := by
  intro k
  have ib : ∀ a : Int, nB a → IB a := fun a h => by unfold nB at h; unfold IB; omega
  induction k with
  | zero =>
    intro fu s z f hs hf hz h5 h3
    obtain rfl : s = m := by omega
    obtain ⟨fu, rfl⟩ : ∃ x, fu = x + 1 := ⟨fu - 1, by omega⟩
    have hd : g_X4_wrap_b175 (iv st) z f = some (up2 z 1 2 (iv s), upa f 3 (upd (f 3) s (iv st))) := by
      unfold g_X4_wrap_b175 lt2
      rw [hz, wrR_iv (by omega) (by decide), upf_up, up2_id hz]
    refine ⟨upd (f 3) s (iv st), ?_, fun j hj => ?_⟩
    · rw [g_X4_wrap_l74, hz]
      by_cases c : acc.length ≤ s
      · rw [if_pos ((iv_le (ibn (by omega)) (ibn (by omega))).mpr (by omega))]
        exact hd
      · rw [if_neg (fun e => by have := (iv_le (ibn (by omega)) (ibn (by omega))).mp e; omega), if_neg (fun e => by have : (s : Int) = 0 := (iv_eq (b := 0) (ibn (by omega)) (by decide)).mp e; omega), hr, if_pos rfl]
        exact hd
    · by_cases e : j = s
      · subst e
        rw [upd_at, hr]
      · rw [upd_ne e]
        exact h3 j (by omega)
  | succ k ih =>
    intro fu s z f hs hf hz h5 h3
    obtain ⟨fu, rfl⟩ : ∃ x, fu = x + 1 := ⟨fu - 1, by omega⟩
    have hc : nB (cN acc st s) := hB _ (cN_mem hst s)
    have hb : g_X4_wrap_b96 (fun y0 y1 y2 z f => g_X4_wrap_l74 fu y0 y1 y2 z f) (iv acc.length) (iv st) (iv (cN acc st s)) z f = g_X4_wrap_l74 fu (iv acc.length) (iv st) (iv (cN acc st (s + 1))) (up2 z 1 2 (iv ((s + 1 : Nat) : Int))) (upa f 3 (upd (f 3) s (iv (cN acc st s)))) := by
      unfold g_X4_wrap_b96 lt2
      rw [hz, wrR_iv (by omega) (by decide), upf_up]
      have := cw_116 (k74 := fun y0 y1 y2 z f => g_X4_wrap_l74 fu y0 y1 y2 z f) hB hl (z := z) (f := upa f 3 (upd (f 3) s (iv (cN acc st s)))) (fun j h => by rw [upa_ne (by decide)]; exact h5 j h) (i4 := iv st) hc acc.length FU 0 (cN acc st s) (by omega) (by show _ < 2000; omega) hc
      rw [hz, iv_1] at this
      exact this
    have ⟨c3, e, hc3⟩ := ih fu (s + 1) (up2 z 1 2 (iv ((s + 1 : Nat) : Int))) (upa f 3 (upd (f 3) s (iv (cN acc st s)))) (by omega) (by omega) up2_same (fun j h => by rw [upa_ne (by decide)]; exact h5 j h) (fun j hj => by
      rw [upa_same]
      by_cases e : j = s
      · subst e; exact upd_at
      · rw [upd_ne e]; exact h3 j (by omega))
    refine ⟨c3, ?_, hc3⟩
    rw [up2_up2, upa_upa] at e
    rw [g_X4_wrap_l74, hz, if_neg (fun e => by have := (iv_le (ibn (by omega)) (ibn (by omega))).mp e; omega)]
    by_cases c : s = 0
    · subst c
      rw [if_pos (show iv ((0 : Nat) : Int) = 0 from rfl)]
      exact hb.trans e
    · rw [if_neg (fun e => by have : (s : Int) = 0 := (iv_eq (b := 0) (ibn (by omega)) (by decide)).mp e; omega), if_neg (fun e => hm s (by omega) (by omega) ((iv_eq (ib _ hc) (ib _ (hB _ hst))).mp e))]
      exact hb.trans e
