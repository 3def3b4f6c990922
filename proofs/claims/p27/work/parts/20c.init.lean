/-! the two objects, made -/
def o10 : LCl := .inr (10, [.null, .null, .null, .null, .null, .null, .null, .null, .null, .int 0, .int 0])
/-- what a cell is, apart from the content of an array of ints -/
def stp : LCl → (Nat × Nat × List (Option Nat)) ⊕ (Nat × List Value)
  | .inl (t, n, .inr (.inr (.inr (.inr f)))) => .inl (t, n, (List.range n).map f)
  | .inl (t, n, .inl _) => .inl (t, n, [])
  | .inl (t, n, _) => .inl (t, n, [none])
  | .inr q => .inr q
def mX : Option LWd := n_X10_init 0 [o10]
def mI : Option LWd := mX
def wQ : LWd := mI.getD []
def zQ (a k : Nat) : Int32 := match wQ[a]? with
  | some (.inr (_, fs)) => match fs[k]? with
    | some (.int x) => x
    | _ => 0
  | _ => 0
def fQ (a : Nat) : Nat → Int32 := match wQ[a]? with
  | some (.inl (_, _, .inl g)) => g
  | _ => fun _ => 0
theorem mX_some : mX.isSome = true := by decide +kernel
theorem mI_some : mI.isSome = true := by decide +kernel
theorem wQ_stp : wQ.map stp = ((wA zQ fQ []).take 66).map stp := by decide +kernel
def is1 (x : Option ((Nat × Nat × List (Option Nat)) ⊕ (Nat × List Value))) : Bool := match x with
  | some (Sum.inl (1, _, _)) => true
  | _ => false
theorem wQ_53 : ∀ p, p < 66 → is1 (wQ.map stp)[p]? = true → p = 53 := by decide +kernel
/-! the planner's stances: nothing beyond the four -/
def RO (p : Nat) (ws : LWd) : Prop := ∃ f, ws[p]? = some (.inl (1, 4, .inr (.inr (.inr (.inr f))))) ∧ ∀ j, 4 ≤ j → f j = none
section
variable {ws w : LWd} {p : Nat}
theorem ro_set {a : Nat} {d : LCl} (q : RO p ws) (h : ∀ f : Nat → Option Nat, ws[a]? ≠ some (.inl (1, 4, .inr (.inr (.inr (.inr f)))))) : RO p (ws.set a d) := by
  obtain ⟨f, e, hf⟩ := q
  refine ⟨f, ?_, hf⟩
  rw [List.getElem?_set, if_neg (fun c => h f (by rw [c]; exact e))]
  exact e
theorem ro_app {c : LCl} (q : RO p ws) : RO p (ws ++ [c]) := by
  obtain ⟨f, e, hf⟩ := q
  refine ⟨f, ?_, hf⟩
  rw [List.getElem?_append_left (List.getElem?_eq_some_iff.mp e).1]
  exact e
theorem ro_pV {a ci k : Nat} {v : Value} (h : pV ws a ci k v = some w) (q : RO p ws) : RO p w := by
  unfold pV at h
  split at h
  · rename_i c fs e
    split at h
    · cases h
      exact ro_set q fun f e2 => by rw [e] at e2; cases e2
    · cases h
  · cases h
theorem ro_pZ {a ci k : Nat} {x : Int32} (h : pZ ws a ci k x = some w) (q : RO p ws) : RO p w := by
  unfold pZ at h
  split at h
  · exact ro_pV h q
  · cases h
theorem ro_nO {lv : List (Option Value)} {st fs : List Value} {ci x : Nat} (h : nO ws lv st ci fs = some (x, w)) (q : RO p ws) : RO p w := by
  unfold nO at h
  split at h
  · cases h
    exact ro_app q
  · cases h
theorem ro_nA {lv : List (Option Value)} {st : List Value} {B x : Nat} {i : Int32} (h : nA ws lv st B i = some (x, w)) (q : RO p ws) : RO p w := by
  unfold nA at h
  split at h
  · cases h
    exact ro_app q
  · cases h
theorem ro_sI {a : Nat} {i x : Int32} (h : sI ws a i x = some w) (q : RO p ws) : RO p w := by
  unfold sI at h
  split at h
  · rename_i t n g e
    split at h
    · cases h
      exact ro_set q fun f e2 => by rw [e] at e2; cases e2
    · cases h
  · cases h
theorem ro_sR {a v : Nat} {i : Int32} (h : sR ws a i v = some w) (q : RO p ws) : RO p w := by
  unfold sR at h
  split at h
  · rename_i t n g e
    split at h
    · rename_i hc
      cases h
      obtain ⟨f, e2, hf⟩ := q
      by_cases c : a = p
      · subst c
        rw [e] at e2
        cases e2
        refine ⟨_, set_at e, fun j hj => ?_⟩
        unfold va_up
        rw [if_neg (by have := hc.2.1; omega)]
        exact hf j hj
      · refine ⟨f, ?_, hf⟩
        rw [List.getElem?_set, if_neg c]
        exact e2
    · cases h
  · cases h
theorem ro_f5 : ∀ (fu a0 : Nat) (i1 i2 i3 : Int32) {ws w : LWd}, m_J7_fill_53178_l5 fu a0 i1 i2 i3 ws = some w → RO p ws → RO p w
  | 0, _, _, _, _, _, _, h, _ => by cases h
  | fu + 1, a0, i1, i2, i3, ws, w, h, q => by
    unfold m_J7_fill_53178_l5 at h
    split at h
    · cases h
      exact q
    · obtain ⟨w2, h2, h⟩ := obS h
      exact ro_f5 fu a0 i1 _ i3 h (ro_sI h2 q)
theorem ro_fill {a : Nat} {v : Int32} (h : m_J7_fill_53178 a v ws = some w) (q : RO p ws) : RO p w := by
  obtain ⟨_, -, h⟩ := obS h
  exact ro_f5 _ _ _ _ _ h q
theorem ro_b14 {a0 s0 : Nat} {i2 s1 : Int32} (h : m_X8_init_b14 a0 i2 s0 s1 ws = some w) (q : RO p ws) : RO p w := by
  unfold m_X8_init_b14 at h
  obtain ⟨q1, w2, e, h⟩ := obS2 h
  replace q := ro_nA e q
  obtain ⟨w4, e, h⟩ := obS h
  replace q := ro_pV e q
  obtain ⟨x6, -, h⟩ := obS h
  obtain ⟨w8, e, h⟩ := obS h
  replace q := ro_fill (calSV_of e).1 q
  cases h
  exact q
theorem ro_8 {a0 : Nat} {i1 i2 : Int32} (h : m_X8_init a0 i1 i2 ws = some w) (q : RO p ws) : RO p w := by
  unfold m_X8_init at h
  obtain ⟨_, -, h⟩ := obS h
  split at h <;> exact ro_b14 h q
theorem ro_9 {a0 a1 a2 a3 : Nat} (h : m_X9_init a0 a1 a2 a3 ws = some w) (q : RO p ws) : RO p w := by
  unfold m_X9_init at h
  obtain ⟨_, -, h⟩ := obS h
  obtain ⟨q1, w2, e, h⟩ := obS2 h
  replace q := ro_nO e q
  obtain ⟨w4, e, h⟩ := obS h
  replace q := ro_8 (calGV_of e).1 q
  obtain ⟨w6, e, h⟩ := obS h
  replace q := ro_pV e q
  obtain ⟨w8, e, h⟩ := obS h
  replace q := ro_pV e q
  obtain ⟨w10, e, h⟩ := obS h
  replace q := ro_pV e q
  obtain ⟨w12, e, h⟩ := obS h
  replace q := ro_pV e q
  obtain ⟨w14, e, h⟩ := obS h
  replace q := ro_pV e q
  obtain ⟨w16, e, h⟩ := obS h
  replace q := ro_pV e q
  cases h
  exact q
theorem ro_l25 : ∀ (fu a0 a1 a2 a3 : Nat) (i4 : Int32) {ws w : LWd}, m_X7_init_l25 fu a0 a1 a2 a3 i4 ws = some w → RO p ws → RO p w
  | 0, _, _, _, _, _, _, _, h, _ => by cases h
  | fu + 1, a0, a1, a2, a3, i4, ws, w, h, q => by
    unfold m_X7_init_l25 at h
    obtain ⟨x1, -, h⟩ := obS h
    obtain ⟨x3, -, h⟩ := obS h
    split at h
    · cases h
      exact q
    · obtain ⟨x6, -, h⟩ := obS h
      obtain ⟨q8, w9, e, h⟩ := obS2 h
      replace q := ro_nO e q
      obtain ⟨w11, e, h⟩ := obS h
      replace q := ro_9 (calGV_of e).1 q
      obtain ⟨w13, e, h⟩ := obS h
      exact ro_l25 fu a0 a1 a2 a3 _ h (ro_sR e q)
theorem ro_nQ {lv : List (Option Value)} {st : List Value} {B x : Nat} (h : nQ ws lv st B 4 = some (x, w)) : RO x w := by
  unfold nQ at h
  split at h
  · cases h
    refine ⟨fun _ => none, ?_, fun _ _ => rfl⟩
    rw [List.getElem?_append_right (Nat.le_refl _), Nat.sub_self]
    rfl
  · cases h
theorem ro_7 {a0 a1 a2 a3 : Nat} (h : m_X7_init a0 a1 a2 a3 ws = some w) : ∃ p, RO p w := by
  unfold m_X7_init at h
  obtain ⟨_, -, h⟩ := obS h
  obtain ⟨q1, w2, e, h⟩ := obS2 h
  have q := ro_nQ e
  obtain ⟨w4, e, h⟩ := obS h
  replace q := ro_pV e q
  obtain ⟨w6, e, h⟩ := obS h
  replace q := ro_pV e q
  obtain ⟨w8, e, h⟩ := obS h
  replace q := ro_pV e q
  exact ⟨_, ro_l25 _ _ _ _ _ _ h q⟩
theorem ro_10 {a0 : Nat} (h : m_X10_init a0 ws = some w) : ∃ p, RO p w := by
  unfold m_X10_init at h
  obtain ⟨_, -, h⟩ := obS h
  obtain ⟨q1, w2, e, h⟩ := obS2 h
  obtain ⟨w4, e, h⟩ := obS h
  obtain ⟨q6, w7, e, h⟩ := obS2 h
  obtain ⟨w9, e, h⟩ := obS h
  obtain ⟨w11, e, h⟩ := obS h
  obtain ⟨q13, w14, e, h⟩ := obS2 h
  obtain ⟨w16, e, h⟩ := obS h
  obtain ⟨w18, e, h⟩ := obS h
  obtain ⟨q20, w21, e, h⟩ := obS2 h
  obtain ⟨x23, -, h⟩ := obS h
  obtain ⟨x25, -, h⟩ := obS h
  obtain ⟨w27, e, h⟩ := obS h
  obtain ⟨w29, e, h⟩ := obS h
  obtain ⟨q31, w32, e, h⟩ := obS2 h
  obtain ⟨x34, -, h⟩ := obS h
  obtain ⟨x36, -, h⟩ := obS h
  obtain ⟨w38, e, h⟩ := obS h
  obtain ⟨w40, e, h⟩ := obS h
  obtain ⟨q42, w43, e, h⟩ := obS2 h
  obtain ⟨w45, e, h⟩ := obS h
  obtain ⟨w47, e, h⟩ := obS h
  obtain ⟨q49, w50, e, h⟩ := obS2 h
  obtain ⟨w52, e, h⟩ := obS h
  obtain ⟨w54, e, h⟩ := obS h
  obtain ⟨q56, w57, e, h⟩ := obS2 h
  obtain ⟨w59, e, h⟩ := obS h
  obtain ⟨w61, e, h⟩ := obS h
  obtain ⟨q63, w64, e, h⟩ := obS2 h
  obtain ⟨w66, e, h⟩ := obS h
  obtain ⟨w68, e, h⟩ := obS h
  obtain ⟨q70, w71, e, h⟩ := obS2 h
  obtain ⟨x73, -, h⟩ := obS h
  obtain ⟨x75, -, h⟩ := obS h
  obtain ⟨w77, e, h⟩ := obS h
  obtain ⟨p, q⟩ := ro_7 (calGV_of e).1
  obtain ⟨w79, e, h⟩ := obS h
  replace q := ro_pV e q
  obtain ⟨w81, e, h⟩ := obS h
  replace q := ro_pZ e q
  obtain ⟨w83, e, h⟩ := obS h
  replace q := ro_pV e q
  cases h
  exact ⟨_, q⟩
end
theorem wA_at {z f : Nat → Nat → Int32} : ∀ (i t n : Nat) (y : ((Nat → Int32) ⊕ (Nat → Int64) ⊕ (Nat → UInt32) ⊕ (Nat → UInt64) ⊕ (Nat → Option Nat))), ((wA z f []).take 66)[i]? = some (.inl (t, n, y)) → (i = 53 ∧ t = 1 ∧ n = 4 ∧ y = .inr (.inr (.inr (.inr jbh)))) ∨ (t = 0 ∧ y = .inl (f i))
  | 0, _, _, _, h => by cases h
  | 1, _, _, _, h => by cases h
  | 2, _, _, _, h => by cases h
  | 3, _, _, _, h => by cases h; exact Or.inr ⟨rfl, rfl⟩
  | 4, _, _, _, h => by cases h
  | 5, _, _, _, h => by cases h; exact Or.inr ⟨rfl, rfl⟩
  | 6, _, _, _, h => by cases h
  | 7, _, _, _, h => by cases h
  | 8, _, _, _, h => by cases h; exact Or.inr ⟨rfl, rfl⟩
  | 9, _, _, _, h => by cases h
  | 10, _, _, _, h => by cases h; exact Or.inr ⟨rfl, rfl⟩
  | 11, _, _, _, h => by cases h
  | 12, _, _, _, h => by cases h; exact Or.inr ⟨rfl, rfl⟩
  | 13, _, _, _, h => by cases h
  | 14, _, _, _, h => by cases h; exact Or.inr ⟨rfl, rfl⟩
  | 15, _, _, _, h => by cases h
  | 16, _, _, _, h => by cases h
  | 17, _, _, _, h => by cases h; exact Or.inr ⟨rfl, rfl⟩
  | 18, _, _, _, h => by cases h
  | 19, _, _, _, h => by cases h; exact Or.inr ⟨rfl, rfl⟩
  | 20, _, _, _, h => by cases h
  | 21, _, _, _, h => by cases h; exact Or.inr ⟨rfl, rfl⟩
  | 22, _, _, _, h => by cases h
  | 23, _, _, _, h => by cases h
  | 24, _, _, _, h => by cases h; exact Or.inr ⟨rfl, rfl⟩
  | 25, _, _, _, h => by cases h
  | 26, _, _, _, h => by cases h
  | 27, _, _, _, h => by cases h; exact Or.inr ⟨rfl, rfl⟩
  | 28, _, _, _, h => by cases h
  | 29, _, _, _, h => by cases h
  | 30, _, _, _, h => by cases h; exact Or.inr ⟨rfl, rfl⟩
  | 31, _, _, _, h => by cases h
  | 32, _, _, _, h => by cases h; exact Or.inr ⟨rfl, rfl⟩
  | 33, _, _, _, h => by cases h
  | 34, _, _, _, h => by cases h
  | 35, _, _, _, h => by cases h
  | 36, _, _, _, h => by cases h; exact Or.inr ⟨rfl, rfl⟩
  | 37, _, _, _, h => by cases h
  | 38, _, _, _, h => by cases h; exact Or.inr ⟨rfl, rfl⟩
  | 39, _, _, _, h => by cases h
  | 40, _, _, _, h => by cases h; exact Or.inr ⟨rfl, rfl⟩
  | 41, _, _, _, h => by cases h
  | 42, _, _, _, h => by cases h
  | 43, _, _, _, h => by cases h; exact Or.inr ⟨rfl, rfl⟩
  | 44, _, _, _, h => by cases h
  | 45, _, _, _, h => by cases h; exact Or.inr ⟨rfl, rfl⟩
  | 46, _, _, _, h => by cases h
  | 47, _, _, _, h => by cases h; exact Or.inr ⟨rfl, rfl⟩
  | 48, _, _, _, h => by cases h
  | 49, _, _, _, h => by cases h; exact Or.inr ⟨rfl, rfl⟩
  | 50, _, _, _, h => by cases h
  | 51, _, _, _, h => by cases h; exact Or.inr ⟨rfl, rfl⟩
  | 52, _, _, _, h => by cases h
  | 53, _, _, _, h => by cases h; exact Or.inl ⟨rfl, rfl, rfl, rfl⟩
  | 54, _, _, _, h => by cases h
  | 55, _, _, _, h => by cases h
  | 56, _, _, _, h => by cases h; exact Or.inr ⟨rfl, rfl⟩
  | 57, _, _, _, h => by cases h
  | 58, _, _, _, h => by cases h
  | 59, _, _, _, h => by cases h; exact Or.inr ⟨rfl, rfl⟩
  | 60, _, _, _, h => by cases h
  | 61, _, _, _, h => by cases h
  | 62, _, _, _, h => by cases h; exact Or.inr ⟨rfl, rfl⟩
  | 63, _, _, _, h => by cases h
  | 64, _, _, _, h => by cases h
  | 65, _, _, _, h => by cases h; exact Or.inr ⟨rfl, rfl⟩
  | _ + 66, _, _, _, h => by cases h
