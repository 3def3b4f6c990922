/-! the constructors: computed with a flat fill -/
theorem set_id {ws : LWd} {a : Nat} {c : LCl} (h : ws[a]? = some c) : ws.set a c = ws := by
  apply List.ext_getElem?
  intro j
  rw [List.getElem?_set]
  by_cases e : a = j
  · subst e
    have : a < ws.length := (List.getElem?_eq_some_iff.mp h).1
    rw [if_pos rfl, if_pos this, h]
  · rw [if_neg e]
theorem set_at {ws : LWd} {a : Nat} {c d : LCl} (h : ws[a]? = some c) : (ws.set a d)[a]? = some d := by
  have : a < ws.length := (List.getElem?_eq_some_iff.mp h).1
  rw [List.getElem?_set, if_pos rfl, if_pos this]
theorem fil {a n : Nat} (hn : n ≤ 400) {v : Int32} : ∀ (m i fu : Nat) (g : Nat → Int32) (ws : LWd), i + m = n → m < fu → ws[a]? = some (.inl (0, n, .inl g)) → m_J7_fill_53178_l5 fu a v (iv (i : Nat)) (iv (n : Nat)) ws = some (ws.set a (.inl (0, n, .inl (fun j => if i ≤ j ∧ j < n then v else g j)))) := by
  intro m
  induction m with
  | zero =>
    intro i fu g ws hi hf h
    obtain ⟨fu, rfl⟩ : ∃ u, fu = u + 1 := ⟨fu - 1, by omega⟩
    rw [m_J7_fill_53178_l5, if_pos ((iv_le (ibn (by omega)) (ibn (by omega))).mpr (by omega))]
    have e : (fun j => if i ≤ j ∧ j < n then v else g j) = g := funext fun j => if_neg (by omega)
    rw [e, set_id h]
  | succ m ih =>
    intro i fu g ws hi hf h
    obtain ⟨fu, rfl⟩ : ∃ u, fu = u + 1 := ⟨fu - 1, by omega⟩
    have es : sI ws a (iv (i : Nat)) v = some (ws.set a (.inl (0, n, .inl (upd g i v)))) := by
      have e0 : ¬ (iv (i : Nat) < (0 : Int32)) := fun q => by have := (iv_lt (b := 0) (ibn (by omega)) (by decide)).mp q; omega
      have e1 : (iv (i : Nat)).toNatClampNeg = i := by rw [iv_clamp (ibn (by omega))]; omega
      unfold sI
      rw [h]
      dsimp only
      rw [e1, if_pos ⟨rfl, fun q => by rcases q with q | q; exact e0 q; omega⟩]
    rw [m_J7_fill_53178_l5, if_neg (fun q => by have := (iv_le (ibn (by omega)) (ibn (by omega))).mp q; omega), es, Option.bind_some, iv_1, ih (i + 1) fu (upd g i v) _ (by omega) (by omega) (set_at h), List.set_set]
    congr 6
    funext j
    by_cases e : j = i
    · subst e
      rw [if_neg (by omega), upd_at, if_pos (by omega)]
    · rw [upd_ne e]
      by_cases q : i ≤ j ∧ j < n
      · rw [if_pos q, if_pos (by omega)]
      · rw [if_neg q, if_neg (by omega)]
def nfill (a : Nat) (v : Int32) (ws : LWd) : Option LWd := match ws[a]? with
  | some (.inl (0, n, .inl g)) => if n ≤ 400 then some (ws.set a (.inl (0, n, .inl (fun j => if 0 ≤ j ∧ j < n then v else g j)))) else m_J7_fill_53178 a v ws
  | _ => m_J7_fill_53178 a v ws
theorem nfill_eq {a : Nat} {v : Int32} {ws : LWd} : m_J7_fill_53178 a v ws = nfill a v ws := by
  unfold nfill
  split
  · rename_i n g h
    split
    · rename_i hn
      unfold m_J7_fill_53178
      have e : aL ws a = some (iv (n : Nat)) := by
        unfold aL
        rw [h]
        rfl
      rw [e, Option.bind_some]
      exact fil hn n 0 FU g ws (by omega) (show n < 2000 by omega) h
    · rfl
  · rfl
def n_X8_init_b14 (a0 : Nat) (i2 : Int32) (s0 : Nat) (s1 : Int32) (ws : LWd) : Option LWd :=
  bn2 (nA ws [some (.ref a0), none, some (.int i2)] [.ref s0] 400 s1) fun q1 w2 =>
  (pV w2 s0 8 0 (.ref q1)).bind fun w4 =>
  (fR w4 a0 8 0).bind fun x6 =>
  (calSV w4 (nfill x6 i2 w4)).bind fun w8 =>
  some w8
theorem n_X8_init_b14_eq (a0 : Nat) (i2 : Int32) (s0 : Nat) (s1 : Int32) (ws : LWd) : m_X8_init_b14 a0 i2 s0 s1 ws = n_X8_init_b14 a0 i2 s0 s1 ws := by
  unfold m_X8_init_b14 n_X8_init_b14
  simp only [nfill_eq]
def n_X8_init (a0 : Nat) (i1 : Int32) (i2 : Int32) (ws : LWd) : Option LWd :=
  (rcv ws a0 8).bind fun _ =>
  if 0 ≤ i1 then
    n_X8_init_b14 a0 i2 a0 i1 ws
  else
    n_X8_init_b14 a0 i2 a0 0 ws
theorem n_X8_init_eq (a0 : Nat) (i1 : Int32) (i2 : Int32) (ws : LWd) : m_X8_init a0 i1 i2 ws = n_X8_init a0 i1 i2 ws := by
  unfold m_X8_init n_X8_init
  simp only [nfill_eq, n_X8_init_b14_eq]
def n_X4_init (a0 : Nat) (ws : LWd) : Option LWd :=
  (rcv ws a0 4).bind fun _ =>
  bn2 (nO ws [some (.ref a0)] [.ref a0] 8 [.null]) fun q1 w2 =>
  (calGV w2 [some (.ref a0)] [.ref q1, .ref a0] (n_X8_init q1 7 ((-1)) w2)).bind fun w4 =>
  (pV w4 a0 4 0 (.ref q1)).bind fun w6 =>
  bn2 (nO w6 [some (.ref a0)] [.ref a0] 8 [.null]) fun q8 w9 =>
  (calGV w9 [some (.ref a0)] [.ref q8, .ref a0] (n_X8_init q8 6 ((-1)) w9)).bind fun w11 =>
  (pV w11 a0 4 1 (.ref q8)).bind fun w13 =>
  (pV w13 a0 4 2 (.int 0)).bind fun w15 =>
  some w15
theorem n_X4_init_eq (a0 : Nat) (ws : LWd) : m_X4_init a0 ws = n_X4_init a0 ws := by
  unfold m_X4_init n_X4_init
  simp only [nfill_eq, n_X8_init_b14_eq, n_X8_init_eq]
def n_X5_init (a0 : Nat) (ws : LWd) : Option LWd :=
  (rcv ws a0 5).bind fun _ =>
  bn2 (nO ws [some (.ref a0)] [.ref a0] 8 [.null]) fun q1 w2 =>
  (calGV w2 [some (.ref a0)] [.ref q1, .ref a0] (n_X8_init q1 400 0 w2)).bind fun w4 =>
  (pV w4 a0 5 0 (.ref q1)).bind fun w6 =>
  bn2 (nO w6 [some (.ref a0)] [.ref a0] 8 [.null]) fun q8 w9 =>
  (calGV w9 [some (.ref a0)] [.ref q8, .ref a0] (n_X8_init q8 400 99 w9)).bind fun w11 =>
  (pV w11 a0 5 1 (.ref q8)).bind fun w13 =>
  bn2 (nO w13 [some (.ref a0)] [.ref a0] 8 [.null]) fun q15 w16 =>
  (calGV w16 [some (.ref a0)] [.ref q15, .ref a0] (n_X8_init q15 400 9 w16)).bind fun w18 =>
  (pV w18 a0 5 2 (.ref q15)).bind fun w20 =>
  bn2 (nO w20 [some (.ref a0)] [.ref a0] 8 [.null]) fun q22 w23 =>
  (calGV w23 [some (.ref a0)] [.ref q22, .ref a0] (n_X8_init q22 400 0 w23)).bind fun w25 =>
  (pV w25 a0 5 3 (.ref q22)).bind fun w27 =>
  some w27
theorem n_X5_init_eq (a0 : Nat) (ws : LWd) : m_X5_init a0 ws = n_X5_init a0 ws := by
  unfold m_X5_init n_X5_init
  simp only [nfill_eq, n_X8_init_b14_eq, n_X8_init_eq, n_X4_init_eq]
def n_X2_init (a0 : Nat) (ws : LWd) : Option LWd :=
  (rcv ws a0 2).bind fun _ =>
  bn2 (nO ws [some (.ref a0)] [.ref a0] 8 [.null]) fun q1 w2 =>
  (calGV w2 [some (.ref a0)] [.ref q1, .ref a0] (n_X8_init q1 6 0 w2)).bind fun w4 =>
  (pV w4 a0 2 0 (.ref q1)).bind fun w6 =>
  bn2 (nO w6 [some (.ref a0)] [.ref a0] 8 [.null]) fun q8 w9 =>
  (calGV w9 [some (.ref a0)] [.ref q8, .ref a0] (n_X8_init q8 6 0 w9)).bind fun w11 =>
  (pV w11 a0 2 1 (.ref q8)).bind fun w13 =>
  bn2 (nO w13 [some (.ref a0)] [.ref a0] 8 [.null]) fun q15 w16 =>
  (calGV w16 [some (.ref a0)] [.ref q15, .ref a0] (n_X8_init q15 6 0 w16)).bind fun w18 =>
  (pV w18 a0 2 2 (.ref q15)).bind fun w20 =>
  (pV w20 a0 2 3 (.int 0)).bind fun w22 =>
  (pV w22 a0 2 4 (.int 0)).bind fun w24 =>
  (pV w24 a0 2 5 (.int 0)).bind fun w26 =>
  (pV w26 a0 2 6 (.int 0)).bind fun w28 =>
  some w28
theorem n_X2_init_eq (a0 : Nat) (ws : LWd) : m_X2_init a0 ws = n_X2_init a0 ws := by
  unfold m_X2_init n_X2_init
  simp only [nfill_eq, n_X8_init_b14_eq, n_X8_init_eq, n_X4_init_eq, n_X5_init_eq]
def n_X9_init (a0 : Nat) (a1 : Nat) (a2 : Nat) (a3 : Nat) (ws : LWd) : Option LWd :=
  (rcv ws a0 9).bind fun _ =>
  bn2 (nO ws [some (.ref a0), some (.ref a1), some (.ref a2), some (.ref a3)] [.ref a0] 8 [.null]) fun q1 w2 =>
  (calGV w2 [some (.ref a0), some (.ref a1), some (.ref a2), some (.ref a3)] [.ref q1, .ref a0] (n_X8_init q1 6 ((-1)) w2)).bind fun w4 =>
  (pV w4 a0 9 3 (.ref q1)).bind fun w6 =>
  (pV w6 a0 9 4 (.int 10)).bind fun w8 =>
  (pV w8 a0 9 5 (.int 10)).bind fun w10 =>
  (pV w10 a0 9 0 (.ref a1)).bind fun w12 =>
  (pV w12 a0 9 1 (.ref a2)).bind fun w14 =>
  (pV w14 a0 9 2 (.ref a3)).bind fun w16 =>
  some w16
theorem n_X9_init_eq (a0 : Nat) (a1 : Nat) (a2 : Nat) (a3 : Nat) (ws : LWd) : m_X9_init a0 a1 a2 a3 ws = n_X9_init a0 a1 a2 a3 ws := by
  unfold m_X9_init n_X9_init
  simp only [nfill_eq, n_X8_init_b14_eq, n_X8_init_eq, n_X4_init_eq, n_X5_init_eq, n_X2_init_eq]
def n_X6_init (a0 : Nat) (ws : LWd) : Option LWd :=
  (rcv ws a0 6).bind fun _ =>
  bn2 (nO ws [some (.ref a0)] [.ref a0] 8 [.null]) fun q1 w2 =>
  (calGV w2 [some (.ref a0)] [.ref q1, .ref a0] (n_X8_init q1 6 0 w2)).bind fun w4 =>
  (pV w4 a0 6 0 (.ref q1)).bind fun w6 =>
  bn2 (nO w6 [some (.ref a0)] [.ref a0] 8 [.null]) fun q8 w9 =>
  (calGV w9 [some (.ref a0)] [.ref q8, .ref a0] (n_X8_init q8 6 0 w9)).bind fun w11 =>
  (pV w11 a0 6 1 (.ref q8)).bind fun w13 =>
  (pV w13 a0 6 2 (.int 0)).bind fun w15 =>
  some w15
theorem n_X6_init_eq (a0 : Nat) (ws : LWd) : m_X6_init a0 ws = n_X6_init a0 ws := by
  unfold m_X6_init n_X6_init
  simp only [nfill_eq, n_X8_init_b14_eq, n_X8_init_eq, n_X4_init_eq, n_X5_init_eq, n_X2_init_eq, n_X9_init_eq]
def n_X0_init (a0 : Nat) (ws : LWd) : Option LWd :=
  (rcv ws a0 0).bind fun _ =>
  (pV ws a0 0 0 (.int 0)).bind fun w1 =>
  (pV w1 a0 0 1 (.int 0)).bind fun w3 =>
  (pV w3 a0 0 2 (.int ((-1)))).bind fun w5 =>
  (pV w5 a0 0 3 (.int 0)).bind fun w7 =>
  some w7
theorem n_X0_init_eq (a0 : Nat) (ws : LWd) : m_X0_init a0 ws = n_X0_init a0 ws := by
  unfold m_X0_init n_X0_init
  rfl
def n_X1_init (a0 : Nat) (ws : LWd) : Option LWd :=
  (rcv ws a0 1).bind fun _ =>
  bn2 (nO ws [some (.ref a0)] [.ref a0] 8 [.null]) fun q1 w2 =>
  (calGV w2 [some (.ref a0)] [.ref q1, .ref a0] (n_X8_init q1 40 0 w2)).bind fun w4 =>
  (pV w4 a0 1 0 (.ref q1)).bind fun w6 =>
  bn2 (nO w6 [some (.ref a0)] [.ref a0] 8 [.null]) fun q8 w9 =>
  (calGV w9 [some (.ref a0)] [.ref q8, .ref a0] (n_X8_init q8 40 0 w9)).bind fun w11 =>
  (pV w11 a0 1 1 (.ref q8)).bind fun w13 =>
  bn2 (nO w13 [some (.ref a0)] [.ref a0] 8 [.null]) fun q15 w16 =>
  (calGV w16 [some (.ref a0)] [.ref q15, .ref a0] (n_X8_init q15 40 ((-1)) w16)).bind fun w18 =>
  (pV w18 a0 1 2 (.ref q15)).bind fun w20 =>
  (pV w20 a0 1 3 (.int 0)).bind fun w22 =>
  some w22
theorem n_X1_init_eq (a0 : Nat) (ws : LWd) : m_X1_init a0 ws = n_X1_init a0 ws := by
  unfold m_X1_init n_X1_init
  simp only [nfill_eq, n_X8_init_b14_eq, n_X8_init_eq, n_X4_init_eq, n_X5_init_eq, n_X2_init_eq, n_X9_init_eq, n_X6_init_eq, n_X0_init_eq]
def n_X3_init (a0 : Nat) (ws : LWd) : Option LWd :=
  (rcv ws a0 3).bind fun _ =>
  bn2 (nO ws [some (.ref a0)] [.ref a0] 8 [.null]) fun q1 w2 =>
  (calGV w2 [some (.ref a0)] [.ref q1, .ref a0] (n_X8_init q1 8 0 w2)).bind fun w4 =>
  (pV w4 a0 3 0 (.ref q1)).bind fun w6 =>
  bn2 (nO w6 [some (.ref a0)] [.ref a0] 8 [.null]) fun q8 w9 =>
  (calGV w9 [some (.ref a0)] [.ref q8, .ref a0] (n_X8_init q8 8 0 w9)).bind fun w11 =>
  (pV w11 a0 3 1 (.ref q8)).bind fun w13 =>
  bn2 (nO w13 [some (.ref a0)] [.ref a0] 8 [.null]) fun q15 w16 =>
  (calGV w16 [some (.ref a0)] [.ref q15, .ref a0] (n_X8_init q15 8 0 w16)).bind fun w18 =>
  (pV w18 a0 3 2 (.ref q15)).bind fun w20 =>
  bn2 (nO w20 [some (.ref a0)] [.ref a0] 8 [.null]) fun q22 w23 =>
  (calGV w23 [some (.ref a0)] [.ref q22, .ref a0] (n_X8_init q22 8 0 w23)).bind fun w25 =>
  (pV w25 a0 3 3 (.ref q22)).bind fun w27 =>
  bn2 (nO w27 [some (.ref a0)] [.ref a0] 8 [.null]) fun q29 w30 =>
  (calGV w30 [some (.ref a0)] [.ref q29, .ref a0] (n_X8_init q29 8 0 w30)).bind fun w32 =>
  (pV w32 a0 3 4 (.ref q29)).bind fun w34 =>
  (pV w34 a0 3 5 (.int 0)).bind fun w36 =>
  (pV w36 a0 3 6 (.int 0)).bind fun w38 =>
  some w38
theorem n_X3_init_eq (a0 : Nat) (ws : LWd) : m_X3_init a0 ws = n_X3_init a0 ws := by
  unfold m_X3_init n_X3_init
  simp only [nfill_eq, n_X8_init_b14_eq, n_X8_init_eq, n_X4_init_eq, n_X5_init_eq, n_X2_init_eq, n_X9_init_eq, n_X6_init_eq, n_X0_init_eq, n_X1_init_eq]
def n_X7_init_l25 : Nat → Nat → Nat → Nat → Nat → Int32 → LWd → Option LWd
  | 0, _, _, _, _, _, _ => none
  | fu + 1, a0, a1, a2, a3, i4, ws =>
    (fR ws a0 7 1).bind fun x1 =>
    (aL ws x1).bind fun x3 =>
    if x3 ≤ i4 then
      some ws
    else
      (fR ws a0 7 1).bind fun x6 =>
      bn2 (nO ws [some (.ref a0), some (.ref a1), some (.ref a2), some (.ref a3), some (.int i4)] [.int i4, .ref x6] 9 [.null, .null, .null, .null, .int 0, .int 0]) fun q8 w9 =>
      (calGV w9 [some (.ref a0), some (.ref a1), some (.ref a2), some (.ref a3), some (.int i4)] [.ref q8, .int i4, .ref x6] (n_X9_init q8 a1 a2 a3 w9)).bind fun w11 =>
      (sR w11 x6 i4 q8).bind fun w13 =>
      n_X7_init_l25 fu a0 a1 a2 a3 (i4 + 1) w13
theorem n_X7_init_l25_eq : ∀ (fu a0 a1 a2 a3 : Nat) (i4 : Int32) (ws : LWd), m_X7_init_l25 fu a0 a1 a2 a3 i4 ws = n_X7_init_l25 fu a0 a1 a2 a3 i4 ws
  | 0, _, _, _, _, _, _ => rfl
  | fu + 1, a0, a1, a2, a3, i4, ws => by
    unfold m_X7_init_l25 n_X7_init_l25
    simp only [n_X9_init_eq, n_X7_init_l25_eq fu]
def n_X7_init (a0 : Nat) (a1 : Nat) (a2 : Nat) (a3 : Nat) (ws : LWd) : Option LWd :=
  (rcv ws a0 7).bind fun _ =>
  bn2 (nQ ws [some (.ref a0), some (.ref a1), some (.ref a2), some (.ref a3), none] [.ref a0] 8 4) fun q1 w2 =>
  (pV w2 a0 7 1 (.ref q1)).bind fun w4 =>
  (pV w4 a0 7 2 (.int ((-1)))).bind fun w6 =>
  (pV w6 a0 7 0 (.ref a2)).bind fun w8 =>
  n_X7_init_l25 5 a0 a1 a2 a3 0 w8
theorem n_X7_init_eq (a0 : Nat) (a1 : Nat) (a2 : Nat) (a3 : Nat) (ws : LWd) : m_X7_init a0 a1 a2 a3 ws = n_X7_init a0 a1 a2 a3 ws := by
  unfold m_X7_init n_X7_init
  simp only [nfill_eq, n_X8_init_b14_eq, n_X8_init_eq, n_X4_init_eq, n_X5_init_eq, n_X2_init_eq, n_X9_init_eq, n_X6_init_eq, n_X0_init_eq, n_X1_init_eq, n_X3_init_eq, n_X7_init_l25_eq]
def n_X10_init (a0 : Nat) (ws : LWd) : Option LWd :=
  (rcv ws a0 10).bind fun _ =>
  bn2 (nO ws [some (.ref a0), none] [] 4 [.null, .null, .int 0]) fun q1 w2 =>
  (calGV w2 [some (.ref a0), none] [.ref q1] (n_X4_init q1 w2)).bind fun w4 =>
  bn2 (nO w4 [some (.ref a0), some (.ref q1)] [.ref a0] 5 [.null, .null, .null, .null]) fun q6 w7 =>
  (calGV w7 [some (.ref a0), some (.ref q1)] [.ref q6, .ref a0] (n_X5_init q6 w7)).bind fun w9 =>
  (pV w9 a0 10 0 (.ref q6)).bind fun w11 =>
  bn2 (nO w11 [some (.ref a0), some (.ref q1)] [.ref a0] 2 [.null, .null, .null, .int 0, .int 0, .int 0, .int 0]) fun q13 w14 =>
  (calGV w14 [some (.ref a0), some (.ref q1)] [.ref q13, .ref a0] (n_X2_init q13 w14)).bind fun w16 =>
  (pV w16 a0 10 1 (.ref q13)).bind fun w18 =>
  bn2 (nO w18 [some (.ref a0), some (.ref q1)] [.ref a0] 9 [.null, .null, .null, .null, .int 0, .int 0]) fun q20 w21 =>
  (fR w21 a0 10 0).bind fun x23 =>
  (fR w21 a0 10 1).bind fun x25 =>
  (calGV w21 [some (.ref a0), some (.ref q1)] [.ref q20, .ref a0] (n_X9_init q20 x23 x25 q1 w21)).bind fun w27 =>
  (pV w27 a0 10 2 (.ref q20)).bind fun w29 =>
  bn2 (nO w29 [some (.ref a0), some (.ref q1)] [.ref a0] 9 [.null, .null, .null, .null, .int 0, .int 0]) fun q31 w32 =>
  (fR w32 a0 10 0).bind fun x34 =>
  (fR w32 a0 10 1).bind fun x36 =>
  (calGV w32 [some (.ref a0), some (.ref q1)] [.ref q31, .ref a0] (n_X9_init q31 x34 x36 q1 w32)).bind fun w38 =>
  (pV w38 a0 10 3 (.ref q31)).bind fun w40 =>
  bn2 (nO w40 [some (.ref a0), some (.ref q1)] [.ref a0] 6 [.null, .null, .int 0]) fun q42 w43 =>
  (calGV w43 [some (.ref a0), some (.ref q1)] [.ref q42, .ref a0] (n_X6_init q42 w43)).bind fun w45 =>
  (pV w45 a0 10 4 (.ref q42)).bind fun w47 =>
  bn2 (nO w47 [some (.ref a0), some (.ref q1)] [.ref a0] 0 [.int 0, .int 0, .int 0, .int 0]) fun q49 w50 =>
  (calSV w50 (n_X0_init q49 w50)).bind fun w52 =>
  (pV w52 a0 10 5 (.ref q49)).bind fun w54 =>
  bn2 (nO w54 [some (.ref a0), some (.ref q1)] [.ref a0] 1 [.null, .null, .null, .int 0]) fun q56 w57 =>
  (calGV w57 [some (.ref a0), some (.ref q1)] [.ref q56, .ref a0] (n_X1_init q56 w57)).bind fun w59 =>
  (pV w59 a0 10 6 (.ref q56)).bind fun w61 =>
  bn2 (nO w61 [some (.ref a0), some (.ref q1)] [.ref a0] 3 [.null, .null, .null, .null, .null, .int 0, .int 0]) fun q63 w64 =>
  (calGV w64 [some (.ref a0), some (.ref q1)] [.ref q63, .ref a0] (n_X3_init q63 w64)).bind fun w66 =>
  (pV w66 a0 10 7 (.ref q63)).bind fun w68 =>
  bn2 (nO w68 [some (.ref a0), some (.ref q1)] [.ref a0] 7 [.null, .null, .int 0]) fun q70 w71 =>
  (fR w71 a0 10 0).bind fun x73 =>
  (fR w71 a0 10 1).bind fun x75 =>
  (calGV w71 [some (.ref a0), some (.ref q1)] [.ref q70, .ref a0] (n_X7_init q70 x73 x75 q1 w71)).bind fun w77 =>
  (pV w77 a0 10 8 (.ref q70)).bind fun w79 =>
  (pZ w79 a0 10 9 0).bind fun w81 =>
  (pV w81 a0 10 10 (.int 1000)).bind fun w83 =>
  some w83
theorem n_X10_init_eq (a0 : Nat) (ws : LWd) : m_X10_init a0 ws = n_X10_init a0 ws := by
  unfold m_X10_init n_X10_init
  simp only [nfill_eq, n_X8_init_b14_eq, n_X8_init_eq, n_X4_init_eq, n_X5_init_eq, n_X2_init_eq, n_X9_init_eq, n_X6_init_eq, n_X0_init_eq, n_X1_init_eq, n_X3_init_eq, n_X7_init_l25_eq, n_X7_init_eq]
