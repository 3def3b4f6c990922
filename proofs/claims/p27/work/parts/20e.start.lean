/-! the law's rows, made -/
section
theorem lo_1 {w : LWd} {lv : List (Option Value)} {st : List Value} {B n : Nat} {x : Int32} (h : nOk w lv st = true) (hx : ¬ x < 0) (hn : x.toNatClampNeg = n) (hb : n ≤ B) : nLo w lv st B x = some (w.length, w ++ [.inl (2, n, .inr (.inl (fun _ => 0)))]) := by
  unfold nLo
  rw [hn, if_pos ⟨h, hx, hb⟩]
theorem na_1 {w : LWd} {lv : List (Option Value)} {st : List Value} {B n : Nat} {x : Int32} (h : nOk w lv st = true) (hx : ¬ x < 0) (hn : x.toNatClampNeg = n) (hb : n ≤ B) : nA w lv st B x = some (w.length, w ++ [.inl (0, n, .inl (fun _ => 0))]) := by
  unfold nA
  rw [hn, if_pos ⟨h, hx, hb⟩]
theorem cg_1 {w w' : LWd} {lv : List (Option Value)} {st : List Value} (h : w'.length = w.length ∨ (nOk w lv st = true ∧ w.length < w'.length)) : calGV w lv st (some w') = some w' := by
  unfold calGV
  rw [Option.bind_some, if_pos h]
def W66 : LWd := (wA zQ fQ []).take 66
theorem W66_len : W66.length = 66 := rfl
def rL (n : Nat) : LCl := .inl (2, n, .inr (.inl (fun _ => 0)))
def rI (n : Nat) : LCl := .inl (0, n, .inl (fun _ => 0))
theorem fQ_hi {a : Nat} (h : 66 ≤ a) : fQ a = fun _ => 0 := by
  have : wQ[a]? = none := List.getElem?_eq_none (by rw [wQ_len]; exact h)
  unfold fQ
  rw [this]
theorem lg_hi {a : Nat} (h : 66 ≤ a) : lg fQ a = fun _ => 0 := by
  funext k
  unfold lg
  rw [fQ_hi h]
  show jl 0 0 = 0
  decide +kernel
theorem wA_cut {z f : Nat → Nat → Int32} : wA z f [] = (wA z f []).take 66 ++ [.inl (2, 50, .inr (.inl (lg f 66))), .inl (2, 25, .inr (.inl (lg f 67))), .inl (2, 50, .inr (.inl (lg f 68))), .inl (0, 6, .inl (f 69)), .inl (0, 6, .inl (f 70)), .inl (0, 6, .inl (f 71)), .inl (0, 8, .inl (f 72)), .inl (0, 41, .inl (f 73)), .inl (0, 15, .inl (f 74))] := rfl
theorem wA_75 : wA zQ fQ [] = W66 ++ [rL 50, rL 25, rL 50, rI 6, rI 6, rI 6, rI 8, rI 41, rI 15] := by
  rw [wA_cut, lg_hi (by decide), lg_hi (by decide), lg_hi (by decide), fQ_hi (by decide), fQ_hi (by decide), fQ_hi (by decide), fQ_hi (by decide), fQ_hi (by decide), fQ_hi (by decide)]
  rfl
theorem law_start {L : Nat} {xs : Nat → Int32} : m_L_law L xs [] = m_L_law_l63 L xs 61 0 66 67 68 69 70 71 72 73 74 0 (wA zQ fQ []) := by
  have i0 : m_X10_init 0 [o10] = some W66 := by
    have h := mI_eq
    unfold mI mX at h
    rw [← n_X10_init_eq] at h
    exact h
  unfold m_L_law
  rw [show nO [] [some (.ref 1000000), none, none, none, none, none, none, none, none, none, none, none, none, none, none, none] [] 10 [.null, .null, .null, .null, .null, .null, .null, .null, .null, .int 0, .int 0] = some (0, [o10]) from if_pos (by decide +kernel), bn2_some, i0]
  rw [show calGV [o10] [some (.ref 1000000), none, none, none, none, none, none, none, none, none, none, none, none, none, none, none] [.ref 0] (some W66) = some W66 from cg_1 (Or.inr ⟨by decide +kernel, by rw [W66_len]; decide⟩), Option.bind_some]
  rw [lo_1 (n := 50) (by decide +kernel) (by decide) (by decide) (by decide), bn2_some]
  rw [lo_1 (n := 25) (by decide +kernel) (by decide) (by decide) (by decide), bn2_some]
  rw [lo_1 (n := 50) (by decide +kernel) (by decide) (by decide) (by decide), bn2_some]
  rw [na_1 (n := 6) (by decide +kernel) (by decide) (by decide) (by decide), bn2_some]
  rw [na_1 (n := 6) (by decide +kernel) (by decide) (by decide) (by decide), bn2_some]
  rw [na_1 (n := 6) (by decide +kernel) (by decide) (by decide) (by decide), bn2_some]
  rw [na_1 (n := 8) (by decide +kernel) (by decide) (by decide) (by decide), bn2_some]
  rw [na_1 (n := 41) (by decide +kernel) (by decide) (by decide) (by decide), bn2_some]
  rw [na_1 (n := 15) (by decide +kernel) (by decide) (by decide) (by decide), bn2_some]
  rw [wA_75]
  rfl
end
