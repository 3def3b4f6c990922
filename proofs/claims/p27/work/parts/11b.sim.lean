/-! the state of the machine, as whole numbers -/
abbrev MSt : Type := Nat → Nat → Int
def us (s : MSt) (a k : Nat) (v : Int) : MSt := fun a' k' => if a' = a ∧ k' = k then v else s a' k'
theorem us_at {s : MSt} {a k : Nat} {v : Int} : us s a k v a k = v := if_pos ⟨rfl, rfl⟩
theorem us_na {s : MSt} {a k a' k' : Nat} {v : Int} (h : a' ≠ a) : us s a k v a' k' = s a' k' := if_neg (fun e => h e.1)
theorem us_nk {s : MSt} {a k a' k' : Nat} {v : Int} (h : k' ≠ k) : us s a k v a' k' = s a' k' := if_neg (fun e => h e.2)
def arrsC : List (Nat × Nat × Nat) := [(8, 0, 400), (10, 1, 400), (12, 2, 400), (14, 3, 400), (17, 4, 6), (19, 5, 6), (21, 6, 6), (24, 7, 6), (36, 9, 40), (38, 10, 40), (40, 11, 40), (43, 12, 8), (45, 13, 8), (47, 14, 8), (49, 15, 8), (51, 16, 8)]
def scalC : List (Nat × Nat × Nat) := [(15, 3, 0), (15, 4, 1), (15, 5, 2), (15, 6, 3), (22, 4, 4), (22, 5, 5), (0, 9, 6), (0, 10, 7), (33, 0, 8), (33, 1, 9), (33, 2, 10), (33, 3, 11), (34, 3, 12), (41, 5, 13), (41, 6, 14)]
/-- the class's cells hold the state -/
def CS (s : MSt) (z f : Nat → Nat → Int32) : Prop := (∀ q ∈ arrsC, ∀ k, k < q.2.2 → f q.1 k = iv (s q.2.1 k)) ∧ ∀ q ∈ scalC, z q.1 q.2.1 = iv (s 8 q.2.2)
theorem arrsC_inj : ∀ q ∈ arrsC, ∀ q' ∈ arrsC, (q.1 = q'.1 → q.2.1 = q'.2.1) ∧ (q.2.1 = q'.2.1 → q.1 = q'.1) ∧ q.2.1 ≠ 8 := by decide +kernel
theorem scalC_inj : ∀ q ∈ scalC, ∀ q' ∈ scalC, (q.1 = q'.1 ∧ q.2.1 = q'.2.1 → q.2.2 = q'.2.2) ∧ (q.2.2 = q'.2.2 → q.1 = q'.1 ∧ q.2.1 = q'.2.1) := by decide +kernel
theorem cs_arr {s : MSt} {z f : Nat → Nat → Int32} (h : CS s z f) {b a n k : Nat} {v : Int} (hq : (b, a, n) ∈ arrsC) : CS (us s a k v) z (upf f b k (iv v)) := by
  constructor
  · intro q hq' j hj
    obtain ⟨e1, e2, -⟩ := arrsC_inj q hq' _ hq
    have h0 := h.1 q hq' j hj
    unfold upf upa us upd
    by_cases c : q.1 = b
    · rw [if_pos c]
      have e3 : q.2.1 = a := e1 c
      by_cases d : j = k
      · rw [if_pos d, if_pos ⟨e3, d⟩]
      · rw [if_neg d, if_neg (fun e => d e.2), ← c]
        exact h0
    · rw [if_neg c, if_neg (fun e => c (e2 e.1))]
      exact h0
  · intro q hq'
    have : us s a k v 8 q.2.2 = s 8 q.2.2 := us_na (fun e => (arrsC_inj _ hq _ hq).2.2 e.symm)
    rw [this]
    exact h.2 q hq'
theorem cs_sc {s : MSt} {z f : Nat → Nat → Int32} (h : CS s z f) {c k j : Nat} {v : Int} (hq : (c, k, j) ∈ scalC) : CS (us s 8 j v) (up2 z c k (iv v)) f := by
  constructor
  · intro q hq' i hi
    have : us s 8 j v q.2.1 i = s q.2.1 i := us_na (arrsC_inj _ hq' _ hq').2.2
    rw [this]
    exact h.1 q hq' i hi
  · intro q hq'
    obtain ⟨e1, e2⟩ := scalC_inj q hq' _ hq
    have h0 := h.2 q hq'
    unfold up2 us
    by_cases d : q.1 = c ∧ q.2.1 = k
    · rw [if_pos d, if_pos ⟨rfl, e1 d⟩]
    · rw [if_neg d, if_neg (fun e => d (e2 e.2))]
      exact h0
theorem cs_z {s : MSt} {z f : Nat → Nat → Int32} (h : CS s z f) {c k : Nat} {v : Int32} (hn : ∀ q ∈ scalC, ¬ (q.1 = c ∧ q.2.1 = k)) : CS s (up2 z c k v) f :=
  ⟨h.1, fun q hq => by
    unfold up2
    rw [if_neg (hn q hq)]
    exact h.2 q hq⟩
theorem cs_f {s : MSt} {z f : Nat → Nat → Int32} (h : CS s z f) {b : Nat} {g : Nat → Int32} (hn : ∀ q ∈ arrsC, ¬ q.1 = b) : CS s z (upa f b g) :=
  ⟨fun q hq k hk => by
    unfold upa
    rw [if_neg (hn q hq)]
    exact h.1 q hq k hk, h.2⟩
/-- the model's cells stay -/
def Fm (z f z' f' : Nat → Nat → Int32) : Prop := ∀ a, 66 ≤ a → z' a = z a ∧ f' a = f a
theorem fm_rf {z f : Nat → Nat → Int32} : Fm z f z f := fun _ _ => ⟨rfl, rfl⟩
theorem fm_tr {z f z1 f1 z2 f2 : Nat → Nat → Int32} (h : Fm z f z1 f1) (h2 : Fm z1 f1 z2 f2) : Fm z f z2 f2 := fun a ha => ⟨(h2 a ha).1.trans (h a ha).1, (h2 a ha).2.trans (h a ha).2⟩
theorem fm_z {z f : Nat → Nat → Int32} {c k : Nat} {v : Int32} (h : c < 66) : Fm z f (up2 z c k v) f := fun a ha => ⟨by
  funext j
  unfold up2
  rw [if_neg (fun e => by omega)], rfl⟩
theorem fm_f {z f : Nat → Nat → Int32} {b : Nat} {g : Nat → Int32} (h : b < 66) : Fm z f z (upa f b g) := fun a ha => ⟨rfl, upa_ne (by omega)⟩
