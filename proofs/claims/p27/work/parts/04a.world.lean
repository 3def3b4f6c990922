/-! the world of the law as two functions: written by wip/p27/gmake.py -/
/-! a long in two cells -/
def jl (a b : Int32) : Int64 := (UInt64.ofNat (a.toUInt32.toNat * 4294967296 + b.toUInt32.toNat)).toInt64
def hiL (v : Int64) : Int32 := (UInt32.ofNat (v.toUInt64.toNat / 4294967296)).toInt32
def loL (v : Int64) : Int32 := (UInt32.ofNat v.toUInt64.toNat).toInt32
theorem jl_v (v : Int64) : jl (hiL v) (loL v) = v := by
  unfold jl hiL loL
  have h : v.toUInt64.toNat < 18446744073709551616 := v.toUInt64.toNat_lt
  simp only [UInt32.toUInt32_toInt32, UInt32.toNat_ofNat']
  have e : v.toUInt64.toNat / 4294967296 % 2 ^ 32 * 4294967296 + v.toUInt64.toNat % 2 ^ 32 = v.toUInt64.toNat := by omega
  rw [e, UInt64.ofNat_toNat]
  simp
def lg (f : Nat → Nat → Int32) (a : Nat) : Nat → Int64 := fun k => jl (f a (2 * k)) (f a (2 * k + 1))
def upd2 (g : Nat → Int32) (j : Nat) (v : Int64) : Nat → Int32 := fun k => if k = 2 * j then hiL v else if k = 2 * j + 1 then loL v else g k
def jbh : Nat → Option Nat := fun j => if j < 4 then some (54 + 3 * j) else none
def wA (z : Nat → Nat → Int32) (f : Nat → Nat → Int32) (r : LWd) : LWd :=
  .inr (10, [.ref 6, .ref 15, .ref 22, .ref 25, .ref 28, .ref 33, .ref 34, .ref 41, .ref 52, .int (z 0 9), .int (z 0 10)]) ::
  .inr (4, [.ref 2, .ref 4, .int (z 1 2)]) ::
  .inr (8, [.ref 3]) ::
  .inl (0, 7, .inl (f 3)) ::
  .inr (8, [.ref 5]) ::
  .inl (0, 6, .inl (f 5)) ::
  .inr (5, [.ref 7, .ref 9, .ref 11, .ref 13]) ::
  .inr (8, [.ref 8]) ::
  .inl (0, 400, .inl (f 8)) ::
  .inr (8, [.ref 10]) ::
  .inl (0, 400, .inl (f 10)) ::
  .inr (8, [.ref 12]) ::
  .inl (0, 400, .inl (f 12)) ::
  .inr (8, [.ref 14]) ::
  .inl (0, 400, .inl (f 14)) ::
  .inr (2, [.ref 16, .ref 18, .ref 20, .int (z 15 3), .int (z 15 4), .int (z 15 5), .int (z 15 6)]) ::
  .inr (8, [.ref 17]) ::
  .inl (0, 6, .inl (f 17)) ::
  .inr (8, [.ref 19]) ::
  .inl (0, 6, .inl (f 19)) ::
  .inr (8, [.ref 21]) ::
  .inl (0, 6, .inl (f 21)) ::
  .inr (9, [.ref 6, .ref 15, .ref 1, .ref 23, .int (z 22 4), .int (z 22 5)]) ::
  .inr (8, [.ref 24]) ::
  .inl (0, 6, .inl (f 24)) ::
  .inr (9, [.ref 6, .ref 15, .ref 1, .ref 26, .int (z 25 4), .int (z 25 5)]) ::
  .inr (8, [.ref 27]) ::
  .inl (0, 6, .inl (f 27)) ::
  .inr (6, [.ref 29, .ref 31, .int (z 28 2)]) ::
  .inr (8, [.ref 30]) ::
  .inl (0, 6, .inl (f 30)) ::
  .inr (8, [.ref 32]) ::
  .inl (0, 6, .inl (f 32)) ::
  .inr (0, [.int (z 33 0), .int (z 33 1), .int (z 33 2), .int (z 33 3)]) ::
  .inr (1, [.ref 35, .ref 37, .ref 39, .int (z 34 3)]) ::
  .inr (8, [.ref 36]) ::
  .inl (0, 40, .inl (f 36)) ::
  .inr (8, [.ref 38]) ::
  .inl (0, 40, .inl (f 38)) ::
  .inr (8, [.ref 40]) ::
  .inl (0, 40, .inl (f 40)) ::
  .inr (3, [.ref 42, .ref 44, .ref 46, .ref 48, .ref 50, .int (z 41 5), .int (z 41 6)]) ::
  .inr (8, [.ref 43]) ::
  .inl (0, 8, .inl (f 43)) ::
  .inr (8, [.ref 45]) ::
  .inl (0, 8, .inl (f 45)) ::
  .inr (8, [.ref 47]) ::
  .inl (0, 8, .inl (f 47)) ::
  .inr (8, [.ref 49]) ::
  .inl (0, 8, .inl (f 49)) ::
  .inr (8, [.ref 51]) ::
  .inl (0, 8, .inl (f 51)) ::
  .inr (7, [.ref 15, .ref 53, .int (z 52 2)]) ::
  .inl (1, 4, .inr (.inr (.inr (.inr jbh)))) ::
  .inr (9, [.ref 6, .ref 15, .ref 1, .ref 55, .int (z 54 4), .int (z 54 5)]) ::
  .inr (8, [.ref 56]) ::
  .inl (0, 6, .inl (f 56)) ::
  .inr (9, [.ref 6, .ref 15, .ref 1, .ref 58, .int (z 57 4), .int (z 57 5)]) ::
  .inr (8, [.ref 59]) ::
  .inl (0, 6, .inl (f 59)) ::
  .inr (9, [.ref 6, .ref 15, .ref 1, .ref 61, .int (z 60 4), .int (z 60 5)]) ::
  .inr (8, [.ref 62]) ::
  .inl (0, 6, .inl (f 62)) ::
  .inr (9, [.ref 6, .ref 15, .ref 1, .ref 64, .int (z 63 4), .int (z 63 5)]) ::
  .inr (8, [.ref 65]) ::
  .inl (0, 6, .inl (f 65)) ::
  .inl (2, 50, .inr (.inl (lg f 66))) ::
  .inl (2, 25, .inr (.inl (lg f 67))) ::
  .inl (2, 50, .inr (.inl (lg f 68))) ::
  .inl (0, 6, .inl (f 69)) ::
  .inl (0, 6, .inl (f 70)) ::
  .inl (0, 6, .inl (f 71)) ::
  .inl (0, 8, .inl (f 72)) ::
  .inl (0, 41, .inl (f 73)) ::
  .inl (0, 15, .inl (f 74)) ::
  r
def up2 (z : Nat → Nat → Int32) (a k : Nat) (v : Int32) : Nat → Nat → Int32 := fun a' k' => if a' = a ∧ k' = k then v else z a' k'
def upa (f : Nat → Nat → Int32) (b : Nat) (g : Nat → Int32) : Nat → Nat → Int32 := fun b' => if b' = b then g else f b'
def upf (f : Nat → Nat → Int32) (b j : Nat) (v : Int32) : Nat → Nat → Int32 := upa f b (upd (f b) j v)
def ulg (f : Nat → Nat → Int32) (b j : Nat) (v : Int64) : Nat → Nat → Int32 := upa f b (upd2 (f b) j v)
theorem lg_at {f : Nat → Nat → Int32} {b j : Nat} {v : Int64} : vp_updL (lg f b) j v = lg (ulg f b j v) b := by
  funext k
  unfold vp_updL lg ulg upa upd2
  simp only [if_true]
  by_cases h : k = j
  · subst h
    rw [if_pos rfl, if_pos rfl, if_neg (by omega), if_pos rfl, jl_v]
  · rw [if_neg h, if_neg (by omega), if_neg (by omega), if_neg (by omega), if_neg (by omega)]
def lt2 {α β : Type} (x : α) (f : α → β) : β := f x
def ixA (n : Nat) (i : Int32) : Option Nat := if i < 0 ∨ n ≤ i.toNatClampNeg then none else some i.toNatClampNeg
def bn3 {α β γ δ : Type} (x : Option (α × β × γ)) (k : α → β → γ → Option δ) : Option δ := x.bind fun q => k q.1 q.2.1 q.2.2
def rtZ (x : Int32) : Option Int32 := if x = 0 ∨ x = 1 then some x else none
def rtZw (x : Int32) (z f : Nat → Nat → Int32) : Option (Int32 × (Nat → Nat → Int32) × (Nat → Nat → Int32)) := if x = 0 ∨ x = 1 then some (x, z, f) else none
theorem wA_len {z z' f f' : Nat → Nat → Int32} {r : LWd} : (wA z f r).length = (wA z' f' r).length := by
  unfold wA
  simp only [List.length_cons]
theorem opS {α β : Type} {x : Option α} {v : α} {k : α → Option β} {R : Option β} (h : x = some v) (kk : k v = R) : x.bind k = R := by rw [h]; exact kk
theorem opB {α β γ : Type} {x y : Option α} {k : α → Option β} {k' : α → Option γ} {F : γ → β} (h : x = y) (kk : ∀ v, k v = (k' v).map F) : x.bind k = (y.bind k').map F := by
  subst h
  cases x with
  | none => rfl
  | some v => exact kk v
theorem ixA_of {n : Nat} {i : Int32} {j : Nat} (h : ixA n i = some j) : j < n ∧ ¬ i < 0 ∧ j = i.toNatClampNeg := by
  unfold ixA at h
  split at h
  · cases h
  · rename_i hn
    cases h
    exact ⟨by omega, fun q => hn (Or.inl q), rfl⟩
theorem opM {α β γ : Type} {x : Option α} {n : Nat} {i : Int32} {g : Nat → α} {k : α → Option β} {k' : Nat → Option γ} {F : γ → β} (h : x = (ixA n i).map g) (kk : ∀ j, j < n → k (g j) = (k' j).map F) : x.bind k = ((ixA n i).bind k').map F := by
  subst h
  cases hx : ixA n i with
  | none => rfl
  | some j => exact kk j (ixA_of hx).1
theorem ltE {α β γ : Type} {M : Option β} {x : α} {G : α → Option γ} {F : γ → β} (h : M = (G x).map F) : M = (lt2 x G).map F := h
theorem iteE {c : Prop} {dc : Decidable c} {β γ : Type} {A B : Option β} {A' B' : Option γ} {F : γ → β} (h1 : c → A = A'.map F) (h2 : ¬ c → B = B'.map F) : (if c then A else B) = (if c then A' else B').map F := by
  by_cases h : c
  · rw [if_pos h, if_pos h]; exact h1 h
  · rw [if_neg h, if_neg h]; exact h2 h
theorem iteN {c : Prop} {dc : Decidable c} {β γ : Type} {A : Option β} {A' : Option γ} {F : γ → β} (h2 : ¬ c → A = A'.map F) : (if c then none else A) = (if c then none else A').map F := iteE (fun _ => rfl) h2
theorem caR {α β : Type} {W W' : LWd} {m : Option (α × LWd)} {v : α} {k : α → LWd → Option β} {R : Option β} (h : m = some (v, W')) (hl : W'.length = W.length) (kk : k v W' = R) : bn2 (calSR W m) k = R := by
  rw [h, calSR, bn2_some, if_pos hl, bn2_some]; exact kk
theorem caV {β : Type} {W W' : LWd} {m : Option LWd} {k : LWd → Option β} {R : Option β} (h : m = some W') (hl : W'.length = W.length) (kk : k W' = R) : (calSV W m).bind k = R := by
  rw [h, calSV, Option.bind_some, if_pos hl, Option.bind_some]; exact kk
theorem caP {α β γ : Type} {W : LWd} {m : Option (α × LWd)} {g : Option α} {k : α → LWd → Option β} {k' : α → Option γ} {F : γ → β} (h : m = g.map fun x => (x, W)) (kk : ∀ x, k x W = (k' x).map F) : bn2 (calSR W m) k = (g.bind k').map F := by
  cases g with
  | none => rw [h]; rfl
  | some v => exact caR h rfl (kk v)
theorem caW {α β γ : Type} {W : LWd} {r : LWd} {m : Option (α × LWd)} {g : Option (α × (Nat → Nat → Int32) × (Nat → Nat → Int32))} {k : α → LWd → Option β} {k' : α → (Nat → Nat → Int32) → (Nat → Nat → Int32) → Option γ} {F : γ → β} (h : m = g.map fun q => (q.1, wA q.2.1 q.2.2 r)) (hl : ∀ z f, (wA z f r).length = W.length) (kk : ∀ x z f, k x (wA z f r) = (k' x z f).map F) : bn2 (calSR W m) k = (bn3 g k').map F := by
  cases g with
  | none => rw [h]; rfl
  | some q => exact caR h (hl _ _) (kk _ _ _)
theorem caU {β γ : Type} {W : LWd} {r : LWd} {m : Option LWd} {g : Option ((Nat → Nat → Int32) × (Nat → Nat → Int32))} {k : LWd → Option β} {k' : (Nat → Nat → Int32) → (Nat → Nat → Int32) → Option γ} {F : γ → β} (h : m = g.map fun q => wA q.1 q.2 r) (hl : ∀ z f, (wA z f r).length = W.length) (kk : ∀ z f, k (wA z f r) = (k' z f).map F) : (calSV W m).bind k = (bn2 g k').map F := by
  cases g with
  | none => rw [h]; rfl
  | some q => exact caV h (hl _ _) (kk _ _)
theorem reZ {x : Int32} {W : LWd} : retZ x W = (rtZ x).map fun x => (x, W) := by
  unfold retZ rtZ
  by_cases h : x = 0 ∨ x = 1
  · rw [if_pos h, if_pos h]; rfl
  · rw [if_neg h, if_neg h]; rfl
theorem reZw {x : Int32} {z f : Nat → Nat → Int32} {r : LWd} : retZ x (wA z f r) = (rtZw x z f).map fun q => (q.1, wA q.2.1 q.2.2 r) := by
  unfold retZ rtZw
  by_cases h : x = 0 ∨ x = 1
  · rw [if_pos h, if_pos h]; rfl
  · rw [if_neg h, if_neg h]; rfl
def isSt (a : Nat) : Prop := a = 22 ∨ a = 25 ∨ a = 54 ∨ a = 57 ∨ a = 60 ∨ a = 63
def isRw (a : Nat) : Prop := a = 23 ∨ a = 26 ∨ a = 55 ∨ a = 58 ∨ a = 61 ∨ a = 64
theorem isSt_bh {j : Nat} (h : j < 4) : isSt (54 + 3 * j) := by
  match j, h with
  | 0, _ => exact Or.inr (Or.inr (Or.inl rfl))
  | 1, _ => exact Or.inr (Or.inr (Or.inr (Or.inl rfl)))
  | 2, _ => exact Or.inr (Or.inr (Or.inr (Or.inr (Or.inl rfl))))
  | 3, _ => exact Or.inr (Or.inr (Or.inr (Or.inr (Or.inr rfl))))
theorem isRw_of {a : Nat} (h : isSt a) : isRw (a + 1) := by
  rcases h with rfl | rfl | rfl | rfl | rfl | rfl
  · exact Or.inl rfl
  · exact Or.inr (Or.inl rfl)
  · exact Or.inr (Or.inr (Or.inl rfl))
  · exact Or.inr (Or.inr (Or.inr (Or.inl rfl)))
  · exact Or.inr (Or.inr (Or.inr (Or.inr (Or.inl rfl))))
  · exact Or.inr (Or.inr (Or.inr (Or.inr (Or.inr rfl))))
section
variable {z f : Nat → Nat → Int32} {r : LWd}
theorem fR_0_0 : fR (wA z f r) 0 10 0 = some 6 := rfl
theorem fR_0_1 : fR (wA z f r) 0 10 1 = some 15 := rfl
theorem fR_0_2 : fR (wA z f r) 0 10 2 = some 22 := rfl
theorem fR_0_3 : fR (wA z f r) 0 10 3 = some 25 := rfl
theorem fR_0_4 : fR (wA z f r) 0 10 4 = some 28 := rfl
theorem fR_0_5 : fR (wA z f r) 0 10 5 = some 33 := rfl
theorem fR_0_6 : fR (wA z f r) 0 10 6 = some 34 := rfl
theorem fR_0_7 : fR (wA z f r) 0 10 7 = some 41 := rfl
theorem fR_0_8 : fR (wA z f r) 0 10 8 = some 52 := rfl
theorem fI_0_9 : fI (wA z f r) 0 10 9 = some (z 0 9) := rfl
theorem pV_0_9 {v : Int32} : pV (wA z f r) 0 10 9 (.int v) = some (wA (up2 z 0 9 v) f r) := rfl
theorem pZ_0_9 {v : Int32} (hv : v = 0 ∨ v = 1) : pZ (wA z f r) 0 10 9 v = some (wA (up2 z 0 9 v) f r) := (if_pos hv).trans pV_0_9
theorem fI_0_10 : fI (wA z f r) 0 10 10 = some (z 0 10) := rfl
theorem pV_0_10 {v : Int32} : pV (wA z f r) 0 10 10 (.int v) = some (wA (up2 z 0 10 v) f r) := rfl
theorem rcv_0 : rcv (wA z f r) 0 10 = some () := rfl
theorem fR_1_0 : fR (wA z f r) 1 4 0 = some 2 := rfl
theorem fR_1_1 : fR (wA z f r) 1 4 1 = some 4 := rfl
theorem fI_1_2 : fI (wA z f r) 1 4 2 = some (z 1 2) := rfl
theorem pV_1_2 {v : Int32} : pV (wA z f r) 1 4 2 (.int v) = some (wA (up2 z 1 2 v) f r) := rfl
theorem rcv_1 : rcv (wA z f r) 1 4 = some () := rfl
theorem fR_6_0 : fR (wA z f r) 6 5 0 = some 7 := rfl
theorem fR_6_1 : fR (wA z f r) 6 5 1 = some 9 := rfl
theorem fR_6_2 : fR (wA z f r) 6 5 2 = some 11 := rfl
theorem fR_6_3 : fR (wA z f r) 6 5 3 = some 13 := rfl
theorem rcv_6 : rcv (wA z f r) 6 5 = some () := rfl
theorem fR_15_0 : fR (wA z f r) 15 2 0 = some 16 := rfl
theorem fR_15_1 : fR (wA z f r) 15 2 1 = some 18 := rfl
theorem fR_15_2 : fR (wA z f r) 15 2 2 = some 20 := rfl
theorem fI_15_3 : fI (wA z f r) 15 2 3 = some (z 15 3) := rfl
theorem pV_15_3 {v : Int32} : pV (wA z f r) 15 2 3 (.int v) = some (wA (up2 z 15 3 v) f r) := rfl
theorem fI_15_4 : fI (wA z f r) 15 2 4 = some (z 15 4) := rfl
theorem pV_15_4 {v : Int32} : pV (wA z f r) 15 2 4 (.int v) = some (wA (up2 z 15 4 v) f r) := rfl
theorem fI_15_5 : fI (wA z f r) 15 2 5 = some (z 15 5) := rfl
theorem pV_15_5 {v : Int32} : pV (wA z f r) 15 2 5 (.int v) = some (wA (up2 z 15 5 v) f r) := rfl
theorem fI_15_6 : fI (wA z f r) 15 2 6 = some (z 15 6) := rfl
theorem pV_15_6 {v : Int32} : pV (wA z f r) 15 2 6 (.int v) = some (wA (up2 z 15 6 v) f r) := rfl
theorem rcv_15 : rcv (wA z f r) 15 2 = some () := rfl
theorem fR_28_0 : fR (wA z f r) 28 6 0 = some 29 := rfl
theorem fR_28_1 : fR (wA z f r) 28 6 1 = some 31 := rfl
theorem fI_28_2 : fI (wA z f r) 28 6 2 = some (z 28 2) := rfl
theorem pV_28_2 {v : Int32} : pV (wA z f r) 28 6 2 (.int v) = some (wA (up2 z 28 2 v) f r) := rfl
theorem rcv_28 : rcv (wA z f r) 28 6 = some () := rfl
theorem fI_33_0 : fI (wA z f r) 33 0 0 = some (z 33 0) := rfl
theorem pV_33_0 {v : Int32} : pV (wA z f r) 33 0 0 (.int v) = some (wA (up2 z 33 0 v) f r) := rfl
theorem fI_33_1 : fI (wA z f r) 33 0 1 = some (z 33 1) := rfl
theorem pV_33_1 {v : Int32} : pV (wA z f r) 33 0 1 (.int v) = some (wA (up2 z 33 1 v) f r) := rfl
theorem fI_33_2 : fI (wA z f r) 33 0 2 = some (z 33 2) := rfl
theorem pV_33_2 {v : Int32} : pV (wA z f r) 33 0 2 (.int v) = some (wA (up2 z 33 2 v) f r) := rfl
theorem fI_33_3 : fI (wA z f r) 33 0 3 = some (z 33 3) := rfl
theorem pV_33_3 {v : Int32} : pV (wA z f r) 33 0 3 (.int v) = some (wA (up2 z 33 3 v) f r) := rfl
theorem rcv_33 : rcv (wA z f r) 33 0 = some () := rfl
theorem fR_34_0 : fR (wA z f r) 34 1 0 = some 35 := rfl
theorem fR_34_1 : fR (wA z f r) 34 1 1 = some 37 := rfl
theorem fR_34_2 : fR (wA z f r) 34 1 2 = some 39 := rfl
theorem fI_34_3 : fI (wA z f r) 34 1 3 = some (z 34 3) := rfl
theorem pV_34_3 {v : Int32} : pV (wA z f r) 34 1 3 (.int v) = some (wA (up2 z 34 3 v) f r) := rfl
theorem rcv_34 : rcv (wA z f r) 34 1 = some () := rfl
theorem fR_41_0 : fR (wA z f r) 41 3 0 = some 42 := rfl
theorem fR_41_1 : fR (wA z f r) 41 3 1 = some 44 := rfl
theorem fR_41_2 : fR (wA z f r) 41 3 2 = some 46 := rfl
theorem fR_41_3 : fR (wA z f r) 41 3 3 = some 48 := rfl
theorem fR_41_4 : fR (wA z f r) 41 3 4 = some 50 := rfl
theorem fI_41_5 : fI (wA z f r) 41 3 5 = some (z 41 5) := rfl
theorem pV_41_5 {v : Int32} : pV (wA z f r) 41 3 5 (.int v) = some (wA (up2 z 41 5 v) f r) := rfl
theorem fI_41_6 : fI (wA z f r) 41 3 6 = some (z 41 6) := rfl
theorem pV_41_6 {v : Int32} : pV (wA z f r) 41 3 6 (.int v) = some (wA (up2 z 41 6 v) f r) := rfl
theorem rcv_41 : rcv (wA z f r) 41 3 = some () := rfl
theorem fR_52_0 : fR (wA z f r) 52 7 0 = some 15 := rfl
theorem fR_52_1 : fR (wA z f r) 52 7 1 = some 53 := rfl
theorem fI_52_2 : fI (wA z f r) 52 7 2 = some (z 52 2) := rfl
theorem pV_52_2 {v : Int32} : pV (wA z f r) 52 7 2 (.int v) = some (wA (up2 z 52 2 v) f r) := rfl
theorem rcv_52 : rcv (wA z f r) 52 7 = some () := rfl
theorem aLd_66 {i : Int32} : aLd (wA z f r) 66 i = (ixA 50 i).map (lg f 66) := by
  unfold ixA
  by_cases h : i < 0 ∨ 50 ≤ i.toNatClampNeg
  · rw [if_pos h]; exact if_neg (fun q => q.2 h)
  · rw [if_neg h]; exact if_pos ⟨rfl, h⟩
theorem sL_66 {i : Int32} {v : Int64} : sL (wA z f r) 66 i v = (ixA 50 i).map (fun j => wA z (ulg f 66 j v) r) := by
  unfold ixA
  by_cases h : i < 0 ∨ 50 ≤ i.toNatClampNeg
  · rw [if_pos h]; exact if_neg (fun q => q.2 h)
  · rw [if_neg h]
    refine (if_pos ⟨rfl, h⟩).trans ?_
    rw [lg_at]
    rfl
theorem aLd_67 {i : Int32} : aLd (wA z f r) 67 i = (ixA 25 i).map (lg f 67) := by
  unfold ixA
  by_cases h : i < 0 ∨ 25 ≤ i.toNatClampNeg
  · rw [if_pos h]; exact if_neg (fun q => q.2 h)
  · rw [if_neg h]; exact if_pos ⟨rfl, h⟩
theorem sL_67 {i : Int32} {v : Int64} : sL (wA z f r) 67 i v = (ixA 25 i).map (fun j => wA z (ulg f 67 j v) r) := by
  unfold ixA
  by_cases h : i < 0 ∨ 25 ≤ i.toNatClampNeg
  · rw [if_pos h]; exact if_neg (fun q => q.2 h)
  · rw [if_neg h]
    refine (if_pos ⟨rfl, h⟩).trans ?_
    rw [lg_at]
    rfl
theorem aLd_68 {i : Int32} : aLd (wA z f r) 68 i = (ixA 50 i).map (lg f 68) := by
  unfold ixA
  by_cases h : i < 0 ∨ 50 ≤ i.toNatClampNeg
  · rw [if_pos h]; exact if_neg (fun q => q.2 h)
  · rw [if_neg h]; exact if_pos ⟨rfl, h⟩
theorem sL_68 {i : Int32} {v : Int64} : sL (wA z f r) 68 i v = (ixA 50 i).map (fun j => wA z (ulg f 68 j v) r) := by
  unfold ixA
  by_cases h : i < 0 ∨ 50 ≤ i.toNatClampNeg
  · rw [if_pos h]; exact if_neg (fun q => q.2 h)
  · rw [if_neg h]
    refine (if_pos ⟨rfl, h⟩).trans ?_
    rw [lg_at]
    rfl
theorem aI_69 {i : Int32} : aI (wA z f r) 69 i = (ixA 6 i).map (f 69) := by
  unfold ixA
  by_cases h : i < 0 ∨ 6 ≤ i.toNatClampNeg
  · rw [if_pos h]; exact if_neg (fun q => q.2 h)
  · rw [if_neg h]; exact if_pos ⟨rfl, h⟩
theorem sI_69 {i v : Int32} : sI (wA z f r) 69 i v = (ixA 6 i).map (fun j => wA z (upf f 69 j v) r) := by
  unfold ixA
  by_cases h : i < 0 ∨ 6 ≤ i.toNatClampNeg
  · rw [if_pos h]; exact if_neg (fun q => q.2 h)
  · rw [if_neg h]; exact (if_pos ⟨rfl, h⟩).trans rfl
theorem aI_70 {i : Int32} : aI (wA z f r) 70 i = (ixA 6 i).map (f 70) := by
  unfold ixA
  by_cases h : i < 0 ∨ 6 ≤ i.toNatClampNeg
  · rw [if_pos h]; exact if_neg (fun q => q.2 h)
  · rw [if_neg h]; exact if_pos ⟨rfl, h⟩
theorem sI_70 {i v : Int32} : sI (wA z f r) 70 i v = (ixA 6 i).map (fun j => wA z (upf f 70 j v) r) := by
  unfold ixA
  by_cases h : i < 0 ∨ 6 ≤ i.toNatClampNeg
  · rw [if_pos h]; exact if_neg (fun q => q.2 h)
  · rw [if_neg h]; exact (if_pos ⟨rfl, h⟩).trans rfl
theorem aI_71 {i : Int32} : aI (wA z f r) 71 i = (ixA 6 i).map (f 71) := by
  unfold ixA
  by_cases h : i < 0 ∨ 6 ≤ i.toNatClampNeg
  · rw [if_pos h]; exact if_neg (fun q => q.2 h)
  · rw [if_neg h]; exact if_pos ⟨rfl, h⟩
theorem sI_71 {i v : Int32} : sI (wA z f r) 71 i v = (ixA 6 i).map (fun j => wA z (upf f 71 j v) r) := by
  unfold ixA
  by_cases h : i < 0 ∨ 6 ≤ i.toNatClampNeg
  · rw [if_pos h]; exact if_neg (fun q => q.2 h)
  · rw [if_neg h]; exact (if_pos ⟨rfl, h⟩).trans rfl
theorem aI_72 {i : Int32} : aI (wA z f r) 72 i = (ixA 8 i).map (f 72) := by
  unfold ixA
  by_cases h : i < 0 ∨ 8 ≤ i.toNatClampNeg
  · rw [if_pos h]; exact if_neg (fun q => q.2 h)
  · rw [if_neg h]; exact if_pos ⟨rfl, h⟩
theorem sI_72 {i v : Int32} : sI (wA z f r) 72 i v = (ixA 8 i).map (fun j => wA z (upf f 72 j v) r) := by
  unfold ixA
  by_cases h : i < 0 ∨ 8 ≤ i.toNatClampNeg
  · rw [if_pos h]; exact if_neg (fun q => q.2 h)
  · rw [if_neg h]; exact (if_pos ⟨rfl, h⟩).trans rfl
theorem aI_73 {i : Int32} : aI (wA z f r) 73 i = (ixA 41 i).map (f 73) := by
  unfold ixA
  by_cases h : i < 0 ∨ 41 ≤ i.toNatClampNeg
  · rw [if_pos h]; exact if_neg (fun q => q.2 h)
  · rw [if_neg h]; exact if_pos ⟨rfl, h⟩
theorem sI_73 {i v : Int32} : sI (wA z f r) 73 i v = (ixA 41 i).map (fun j => wA z (upf f 73 j v) r) := by
  unfold ixA
  by_cases h : i < 0 ∨ 41 ≤ i.toNatClampNeg
  · rw [if_pos h]; exact if_neg (fun q => q.2 h)
  · rw [if_neg h]; exact (if_pos ⟨rfl, h⟩).trans rfl
theorem aI_74 {i : Int32} : aI (wA z f r) 74 i = (ixA 15 i).map (f 74) := by
  unfold ixA
  by_cases h : i < 0 ∨ 15 ≤ i.toNatClampNeg
  · rw [if_pos h]; exact if_neg (fun q => q.2 h)
  · rw [if_neg h]; exact if_pos ⟨rfl, h⟩
theorem sI_74 {i v : Int32} : sI (wA z f r) 74 i v = (ixA 15 i).map (fun j => wA z (upf f 74 j v) r) := by
  unfold ixA
  by_cases h : i < 0 ∨ 15 ≤ i.toNatClampNeg
  · rw [if_pos h]; exact if_neg (fun q => q.2 h)
  · rw [if_neg h]; exact (if_pos ⟨rfl, h⟩).trans rfl
theorem fRs_0 {a : Nat} (ha : isSt a) : fR (wA z f r) a 9 0 = some 6 := by
  rcases ha with rfl | rfl | rfl | rfl | rfl | rfl <;> rfl
theorem fRs_1 {a : Nat} (ha : isSt a) : fR (wA z f r) a 9 1 = some 15 := by
  rcases ha with rfl | rfl | rfl | rfl | rfl | rfl <;> rfl
theorem fRs_2 {a : Nat} (ha : isSt a) : fR (wA z f r) a 9 2 = some 1 := by
  rcases ha with rfl | rfl | rfl | rfl | rfl | rfl <;> rfl
theorem fRs_3 {a : Nat} (ha : isSt a) : fR (wA z f r) a 9 3 = some (a + 1) := by
  rcases ha with rfl | rfl | rfl | rfl | rfl | rfl <;> rfl
theorem fIs_4 {a : Nat} (ha : isSt a) : fI (wA z f r) a 9 4 = some (z a 4) := by
  rcases ha with rfl | rfl | rfl | rfl | rfl | rfl <;> rfl
theorem pVs_4 {a : Nat} {v : Int32} (ha : isSt a) : pV (wA z f r) a 9 4 (.int v) = some (wA (up2 z a 4 v) f r) := by
  rcases ha with rfl | rfl | rfl | rfl | rfl | rfl <;> rfl
theorem fIs_5 {a : Nat} (ha : isSt a) : fI (wA z f r) a 9 5 = some (z a 5) := by
  rcases ha with rfl | rfl | rfl | rfl | rfl | rfl <;> rfl
theorem pVs_5 {a : Nat} {v : Int32} (ha : isSt a) : pV (wA z f r) a 9 5 (.int v) = some (wA (up2 z a 5 v) f r) := by
  rcases ha with rfl | rfl | rfl | rfl | rfl | rfl <;> rfl
theorem rcvs {a : Nat} (ha : isSt a) : rcv (wA z f r) a 9 = some () := by
  rcases ha with rfl | rfl | rfl | rfl | rfl | rfl <;> rfl
/-- the law's rows of longs that hold four bits a piece -/
def isLw (z f : Nat → Nat → Int32) (r : LWd) (a n : Nat) : Prop := (∀ i, aLd (wA z f r) a i = (ixA n i).map (lg f a)) ∧ ∀ i v, sL (wA z f r) a i v = (ixA n i).map (fun j => wA z (ulg f a j v) r)
theorem lwr_66 : isLw z f r 66 50 := ⟨fun _ => aLd_66, fun _ _ => sL_66⟩
theorem lwr_67 : isLw z f r 67 25 := ⟨fun _ => aLd_67, fun _ _ => sL_67⟩
theorem aL_53 : aL (wA z f r) 53 = some 4 := rfl
theorem aR_53 {i : Int32} : aR (wA z f r) 53 i = (ixA 4 i).map (fun j => 54 + 3 * j) := by
  unfold ixA
  by_cases h : i < 0 ∨ 4 ≤ i.toNatClampNeg
  · rw [if_pos h]; exact if_neg (fun q => q.2 h)
  · rw [if_neg h]
    refine (if_pos ⟨rfl, h⟩).trans ?_
    exact if_pos (by omega)
/-- a row's two cells -/
def isRow (z f : Nat → Nat → Int32) (r : LWd) (a b n : Nat) : Prop := (wA z f r)[a]? = some (.inr (8, [.ref b])) ∧ (wA z f r)[b]? = some (.inl (0, n, .inl (f b))) ∧ (∀ g, (wA z f r).set b (.inl (0, n, .inl g)) = wA z (upa f b g) r) ∧ n < 2147483648
theorem rw_2 : isRow z f r 2 3 7 := ⟨rfl, rfl, fun _ => rfl, by decide⟩
theorem rw_4 : isRow z f r 4 5 6 := ⟨rfl, rfl, fun _ => rfl, by decide⟩
theorem rw_7 : isRow z f r 7 8 400 := ⟨rfl, rfl, fun _ => rfl, by decide⟩
theorem rw_9 : isRow z f r 9 10 400 := ⟨rfl, rfl, fun _ => rfl, by decide⟩
theorem rw_11 : isRow z f r 11 12 400 := ⟨rfl, rfl, fun _ => rfl, by decide⟩
theorem rw_13 : isRow z f r 13 14 400 := ⟨rfl, rfl, fun _ => rfl, by decide⟩
theorem rw_16 : isRow z f r 16 17 6 := ⟨rfl, rfl, fun _ => rfl, by decide⟩
theorem rw_18 : isRow z f r 18 19 6 := ⟨rfl, rfl, fun _ => rfl, by decide⟩
theorem rw_20 : isRow z f r 20 21 6 := ⟨rfl, rfl, fun _ => rfl, by decide⟩
theorem rw_23 : isRow z f r 23 24 6 := ⟨rfl, rfl, fun _ => rfl, by decide⟩
theorem rw_26 : isRow z f r 26 27 6 := ⟨rfl, rfl, fun _ => rfl, by decide⟩
theorem rw_29 : isRow z f r 29 30 6 := ⟨rfl, rfl, fun _ => rfl, by decide⟩
theorem rw_31 : isRow z f r 31 32 6 := ⟨rfl, rfl, fun _ => rfl, by decide⟩
theorem rw_35 : isRow z f r 35 36 40 := ⟨rfl, rfl, fun _ => rfl, by decide⟩
theorem rw_37 : isRow z f r 37 38 40 := ⟨rfl, rfl, fun _ => rfl, by decide⟩
theorem rw_39 : isRow z f r 39 40 40 := ⟨rfl, rfl, fun _ => rfl, by decide⟩
theorem rw_42 : isRow z f r 42 43 8 := ⟨rfl, rfl, fun _ => rfl, by decide⟩
theorem rw_44 : isRow z f r 44 45 8 := ⟨rfl, rfl, fun _ => rfl, by decide⟩
theorem rw_46 : isRow z f r 46 47 8 := ⟨rfl, rfl, fun _ => rfl, by decide⟩
theorem rw_48 : isRow z f r 48 49 8 := ⟨rfl, rfl, fun _ => rfl, by decide⟩
theorem rw_50 : isRow z f r 50 51 8 := ⟨rfl, rfl, fun _ => rfl, by decide⟩
theorem rw_55 : isRow z f r 55 56 6 := ⟨rfl, rfl, fun _ => rfl, by decide⟩
theorem rw_58 : isRow z f r 58 59 6 := ⟨rfl, rfl, fun _ => rfl, by decide⟩
theorem rw_61 : isRow z f r 61 62 6 := ⟨rfl, rfl, fun _ => rfl, by decide⟩
theorem rw_64 : isRow z f r 64 65 6 := ⟨rfl, rfl, fun _ => rfl, by decide⟩
theorem rw_of {a : Nat} (ha : isRw a) : isRow z f r a (a + 1) 6 := by
  rcases ha with rfl | rfl | rfl | rfl | rfl | rfl
  · exact rw_23
  · exact rw_26
  · exact rw_55
  · exact rw_58
  · exact rw_61
  · exact rw_64
end
/-! rows of numbers -/
def rdR (n : Nat) (g : Nat → Int32) (i : Int32) : Int32 := if i < 0 then 0 else if Int32.ofNat n ≤ i then 0 else g i.toNatClampNeg
def wrR (f : Nat → Nat → Int32) (b n : Nat) (i v : Int32) : Nat → Nat → Int32 := if i < 0 then f else if Int32.ofNat n ≤ i then f else upf f b i.toNatClampNeg v
def flR (f : Nat → Nat → Int32) (b n : Nat) (v : Int32) : Nat → Nat → Int32 := upa f b (fun j => if j < n then v else f b j)
def cpR (f : Nat → Nat → Int32) (b b2 n : Nat) : Nat → Nat → Int32 := upa f b (fun j => if j < n then f b2 j else f b j)
theorem ixlt {n : Nat} {i : Int32} (hn : n < 2147483648) (c : ¬ i < 0) (c2 : ¬ Int32.ofNat n ≤ i) : ¬ n ≤ i.toNatClampNeg := by
  obtain ⟨j, hj, rfl⟩ := nI_of c
  rw [nI_clamp hj]
  intro h
  exact c2 ((nI_leI hn hj).mpr h)
section
variable {z f : Nat → Nat → Int32} {r : LWd}
theorem rwr1 {ws : LWd} {a b : Nat} (h1 : ws[a]? = some (.inr (8, [.ref b]))) : rcv ws a 8 = some () := by
  unfold rcv; rw [h1]; rfl
theorem rwr2 {ws : LWd} {a b : Nat} (h1 : ws[a]? = some (.inr (8, [.ref b]))) : fR ws a 8 0 = some b := by
  unfold fR fV; rw [h1]; rfl
theorem rwr3 {ws : LWd} {b n : Nat} {g : Nat → Int32} (h2 : ws[b]? = some (.inl (0, n, .inl g))) : aL ws b = some (Int32.ofNat n) := by
  unfold aL; rw [h2]; rfl
theorem rwr3n {ws : LWd} {b n : Nat} {g : Nat → Int32} (h2 : ws[b]? = some (.inl (0, n, .inl g))) : aL ws b = some (nI n) := rwr3 h2
theorem rwr4 {ws : LWd} {b n : Nat} {g : Nat → Int32} {i : Int32} (h2 : ws[b]? = some (.inl (0, n, .inl g))) (c : ¬ i < 0) (c2 : ¬ n ≤ i.toNatClampNeg) : aI ws b i = some (g i.toNatClampNeg) := by
  unfold aI; rw [h2]; exact if_pos ⟨rfl, fun q => q.elim c c2⟩
theorem rwr5 {ws : LWd} {b n : Nat} {g : Nat → Int32} {i v : Int32} (h2 : ws[b]? = some (.inl (0, n, .inl g))) (c : ¬ i < 0) (c2 : ¬ n ≤ i.toNatClampNeg) : sI ws b i v = some (ws.set b (.inl (0, n, .inl (upd g i.toNatClampNeg v)))) := by
  unfold sI; rw [h2]; exact if_pos ⟨rfl, fun q => q.elim c c2⟩
theorem at_gen {ws : LWd} {a b n : Nat} {g : Nat → Int32} {i : Int32} (h1 : ws[a]? = some (.inr (8, [.ref b]))) (h2 : ws[b]? = some (.inl (0, n, .inl g))) (h4 : n < 2147483648) : m_X8_at a i ws = some (rdR n g i, ws) := by
  unfold m_X8_at rdR
  rw [rwr1 h1, Option.bind_some]
  by_cases c : i < 0
  · rw [if_pos c, if_pos c]
  · rw [if_neg c, if_neg c, rwr2 h1, Option.bind_some, rwr3 h2, Option.bind_some]
    by_cases c2 : Int32.ofNat n ≤ i
    · rw [if_pos c2, if_pos c2]
    · rw [if_neg c2, if_neg c2, Option.bind_some, rwr4 h2 c (ixlt h4 c c2), Option.bind_some]
theorem e_X8_at {a b n : Nat} {i : Int32} (h : isRow z f r a b n) : m_X8_at a i (wA z f r) = some (rdR n (f b) i, wA z f r) := at_gen h.1 h.2.1 h.2.2.2
theorem e_X8_put {a b n : Nat} {i v : Int32} (h : isRow z f r a b n) : m_X8_put a i v (wA z f r) = some (wA z (wrR f b n i v) r) := by
  obtain ⟨h1, h2, h3, h4⟩ := h
  unfold m_X8_put wrR
  rw [rwr1 h1, Option.bind_some]
  by_cases c : i < 0
  · rw [if_pos c, if_pos c]
  · rw [if_neg c, if_neg c, rwr2 h1, Option.bind_some, rwr3 h2, Option.bind_some]
    by_cases c2 : Int32.ofNat n ≤ i
    · rw [if_pos c2, if_pos c2]
    · rw [if_neg c2, if_neg c2, Option.bind_some, rwr5 h2 c (ixlt h4 c c2), Option.bind_some, h3]
      rfl
theorem fill_l {b n : Nat} {v : Int32} (hn : n < 2147483648) : ∀ (k fu i : Nat) (ws : LWd) (g : Nat → Int32), i + k = n → k < fu → ws[b]? = some (.inl (0, n, .inl g)) → m_J7_fill_53178_l5 fu b v (nI i) (nI n) ws = some (ws.set b (.inl (0, n, .inl (fun j => if i ≤ j ∧ j < n then v else g j)))) := by
  intro k
  induction k with
  | zero =>
    intro fu i ws g hi hf hw
    obtain ⟨fu, rfl⟩ : ∃ x, fu = x + 1 := ⟨fu - 1, by omega⟩
    rw [m_J7_fill_53178_l5, if_pos (nI_le (by omega) (by omega))]
    have e : (fun j => if i ≤ j ∧ j < n then v else g j) = g := by
      funext j
      rw [if_neg (by omega)]
    rw [e]
    congr 1
    apply List.ext_getElem?
    intro j
    rw [List.getElem?_set]
    by_cases hj : b = j
    · subst hj
      rw [if_pos rfl, if_pos (List.getElem?_eq_some_iff.mp hw).1]
      exact hw
    · rw [if_neg hj]
  | succ k ih =>
    intro fu i ws g hi hf hw
    obtain ⟨fu, rfl⟩ : ∃ x, fu = x + 1 := ⟨fu - 1, by omega⟩
    have hlt : i < n := by omega
    rw [m_J7_fill_53178_l5, if_neg (nI_ge hlt hn), rwr5 hw (nI_pos (by omega)) (by rw [nI_clamp (by omega)]; omega), Option.bind_some, nI_1, nI_clamp (by omega)]
    have hb : b < ws.length := (List.getElem?_eq_some_iff.mp hw).1
    rw [ih fu (i + 1) _ (upd g i v) (by omega) (by omega) (by rw [List.getElem?_set_self hb])]
    rw [List.set_set]
    congr 6
    funext j
    by_cases h1 : i + 1 ≤ j ∧ j < n
    · rw [if_pos h1, if_pos ⟨by omega, h1.2⟩]
    · rw [if_neg h1]
      by_cases h2 : j = i
      · subst h2
        rw [if_pos ⟨Nat.le_refl _, hlt⟩]
        simp [upd]
      · rw [if_neg (by omega)]
        simp [upd, h2]
theorem fill_gen {b n : Nat} {v : Int32} {ws : LWd} {g : Nat → Int32} (hn : n < 1000) (hw : ws[b]? = some (.inl (0, n, .inl g))) : m_J7_fill_53178 b v ws = some (ws.set b (.inl (0, n, .inl (fun j => if j < n then v else g j)))) := by
  unfold m_J7_fill_53178
  rw [rwr3 hw, Option.bind_some]
  have := fill_l (b := b) (v := v) (n := n) (by omega) n FU 0 ws g (by omega) (by show n < 2000; omega) hw
  rw [show (0 : Int32) = nI 0 from nI_0.symm]
  refine this.trans ?_
  congr 6
  funext j
  by_cases h : j < n
  · rw [if_pos h, if_pos ⟨Nat.zero_le _, h⟩]
  · rw [if_neg h, if_neg (fun q => h q.2)]
theorem e_X8_fill {a b n : Nat} {v : Int32} (h : isRow z f r a b n) (hn : n < 1000) : m_X8_fill a v (wA z f r) = some (wA z (flR f b n v) r) := by
  obtain ⟨h1, h2, h3, h4⟩ := h
  unfold m_X8_fill
  rw [rwr1 h1, Option.bind_some, rwr2 h1, Option.bind_some]
  refine caV (fill_gen hn h2) (by rw [List.length_set]) ?_
  rw [h3]
  rfl
theorem copy_l {a b a2 b2 n : Nat} (hn : n < 2147483648) (hab : a ≠ b) (hab2 : a2 ≠ b) (hbb : b2 ≠ b) {g2 : Nat → Int32} : ∀ (k fu i : Nat) (ws : LWd) (g : Nat → Int32), i + k = n → k < fu → ws[a]? = some (.inr (8, [.ref b])) → ws[b]? = some (.inl (0, n, .inl g)) → ws[a2]? = some (.inr (8, [.ref b2])) → ws[b2]? = some (.inl (0, n, .inl g2)) → m_X8_copy_l2 fu a a2 (nI i) ws = some (ws.set b (.inl (0, n, .inl (fun j => if i ≤ j ∧ j < n then g2 j else g j)))) := by
  intro k
  induction k with
  | zero =>
    intro fu i ws g hi hf h1 h2 h3 h4
    obtain ⟨fu, rfl⟩ : ∃ x, fu = x + 1 := ⟨fu - 1, by omega⟩
    rw [m_X8_copy_l2, rwr2 h1, Option.bind_some, rwr3n h2, Option.bind_some, if_pos (nI_le (by omega) (by omega))]
    have e : (fun j => if i ≤ j ∧ j < n then g2 j else g j) = g := by
      funext j
      rw [if_neg (by omega)]
    rw [e]
    congr 1
    apply List.ext_getElem?
    intro j
    rw [List.getElem?_set]
    by_cases hj : b = j
    · subst hj
      rw [if_pos rfl, if_pos (List.getElem?_eq_some_iff.mp h2).1]
      exact h2
    · rw [if_neg hj]
  | succ k ih =>
    intro fu i ws g hi hf h1 h2 h3 h4
    obtain ⟨fu, rfl⟩ : ∃ x, fu = x + 1 := ⟨fu - 1, by omega⟩
    have hlt : i < n := by omega
    have hb : b < ws.length := (List.getElem?_eq_some_iff.mp h2).1
    rw [m_X8_copy_l2, rwr2 h1, Option.bind_some, rwr3n h2, Option.bind_some, if_neg (nI_ge hlt hn), Option.bind_some]
    refine caR (at_gen h3 h4 hn) rfl ?_
    have e1 : rdR n g2 (nI i) = g2 i := by
      unfold rdR
      rw [if_neg (nI_pos (by omega)), if_neg (show ¬ Int32.ofNat n ≤ nI i from nI_ge hlt hn), nI_clamp (by omega)]
    rw [e1, rwr5 h2 (nI_pos (by omega)) (by rw [nI_clamp (by omega)]; omega), Option.bind_some, nI_1, nI_clamp (by omega)]
    rw [ih fu (i + 1) _ (upd g i (g2 i)) (by omega) (by omega) (by rw [List.getElem?_set_ne (Ne.symm hab)]; exact h1) (by rw [List.getElem?_set_self hb]) (by rw [List.getElem?_set_ne (Ne.symm hab2)]; exact h3) (by rw [List.getElem?_set_ne (Ne.symm hbb)]; exact h4)]
    rw [List.set_set]
    congr 6
    funext j
    by_cases h1 : i + 1 ≤ j ∧ j < n
    · rw [if_pos h1, if_pos ⟨by omega, h1.2⟩]
    · rw [if_neg h1]
      by_cases h2 : j = i
      · subst h2
        rw [if_pos ⟨Nat.le_refl _, hlt⟩]
        simp [upd]
      · rw [if_neg (by omega)]
        simp [upd, h2]
theorem set_same {ws : LWd} {b : Nat} {e : LCl} (h : ws[b]? = some e) : ws.set b e = ws := by
  apply List.ext_getElem?
  intro j
  rw [List.getElem?_set]
  by_cases hj : b = j
  · subst hj
    rw [if_pos rfl, if_pos (List.getElem?_eq_some_iff.mp h).1]
    exact h.symm
  · rw [if_neg hj]
theorem upd_same {g : Nat → Int32} {i : Nat} : upd g i (g i) = g := by
  funext j
  by_cases h : j = i
  · subst h; simp [upd]
  · simp [upd, h]
theorem copy_s {a b a2 n : Nat} (hn : n < 2147483648) {g : Nat → Int32} {ws : LWd} (h1 : ws[a]? = some (.inr (8, [.ref b]))) (h2 : ws[b]? = some (.inl (0, n, .inl g))) (h3 : ws[a2]? = some (.inr (8, [.ref b]))) : ∀ (k fu i : Nat), i + k = n → k < fu → m_X8_copy_l2 fu a a2 (nI i) ws = some ws := by
  intro k
  induction k with
  | zero =>
    intro fu i hi hf
    obtain ⟨fu, rfl⟩ : ∃ x, fu = x + 1 := ⟨fu - 1, by omega⟩
    rw [m_X8_copy_l2, rwr2 h1, Option.bind_some, rwr3n h2, Option.bind_some, if_pos (nI_le (by omega) (by omega))]
  | succ k ih =>
    intro fu i hi hf
    obtain ⟨fu, rfl⟩ : ∃ x, fu = x + 1 := ⟨fu - 1, by omega⟩
    have hlt : i < n := by omega
    rw [m_X8_copy_l2, rwr2 h1, Option.bind_some, rwr3n h2, Option.bind_some, if_neg (nI_ge hlt hn), Option.bind_some]
    refine caR (at_gen h3 h2 hn) rfl ?_
    have e1 : rdR n g (nI i) = g i := by
      unfold rdR
      rw [if_neg (nI_pos (by omega)), if_neg (show ¬ Int32.ofNat n ≤ nI i from nI_ge hlt hn), nI_clamp (by omega)]
    rw [e1, rwr5 h2 (nI_pos (by omega)) (by rw [nI_clamp (by omega)]; omega), Option.bind_some, nI_1, nI_clamp (by omega), upd_same, set_same h2]
    exact ih fu (i + 1) (by omega) (by omega)
theorem e_X8_copy {a b a2 b2 n : Nat} (h : isRow z f r a b n) (h' : isRow z f r a2 b2 n) (hn : n < 1000) : m_X8_copy a a2 (wA z f r) = some (wA z (cpR f b b2 n) r) := by
  obtain ⟨h1, h2, h3, h4⟩ := h
  obtain ⟨g1, g2, -, -⟩ := h'
  unfold m_X8_copy
  rw [rwr1 h1, Option.bind_some]
  by_cases hbb : b2 = b
  · subst hbb
    have := copy_s h4 h1 h2 g1 n FU 0 (by omega) (by show n < 2000; omega)
    rw [show (0 : Int32) = nI 0 from nI_0.symm]
    refine this.trans ?_
    congr 2
    unfold cpR upa
    funext b' j
    by_cases h : b' = b2
    · rw [if_pos h, h]
      by_cases hj : j < n
      · rw [if_pos hj]
      · rw [if_neg hj]
    · rw [if_neg h]
  · have hab : a ≠ b := by
      rintro rfl
      rw [h1] at h2
      cases h2
    have hab2 : a2 ≠ b := by
      rintro rfl
      rw [g1] at h2
      cases h2
    have := copy_l h4 hab hab2 hbb (g2 := f b2) n FU 0 (wA z f r) (f b) (by omega) (by show n < 2000; omega) h1 h2 g1 g2
    rw [show (0 : Int32) = nI 0 from nI_0.symm]
    refine this.trans ?_
    rw [h3]
    congr 2
    unfold cpR
    congr 1
    funext j
    by_cases h : j < n
    · rw [if_pos h, if_pos ⟨Nat.zero_le _, h⟩]
    · rw [if_neg h, if_neg (fun q => h q.2)]
end
/-! written indices of the row of numbers -/
theorem ix15_0 : ixA 15 0 = some 0 := by decide +kernel
theorem ixl_0 {α : Type} (g : Nat → α) : (ixA 15 0).map g = some (g 0) := by rw [ix15_0]; rfl
theorem ix15_1 : ixA 15 1 = some 1 := by decide +kernel
theorem ixl_1 {α : Type} (g : Nat → α) : (ixA 15 1).map g = some (g 1) := by rw [ix15_1]; rfl
theorem ix15_2 : ixA 15 2 = some 2 := by decide +kernel
theorem ixl_2 {α : Type} (g : Nat → α) : (ixA 15 2).map g = some (g 2) := by rw [ix15_2]; rfl
theorem ix15_3 : ixA 15 3 = some 3 := by decide +kernel
theorem ixl_3 {α : Type} (g : Nat → α) : (ixA 15 3).map g = some (g 3) := by rw [ix15_3]; rfl
theorem ix15_4 : ixA 15 4 = some 4 := by decide +kernel
theorem ixl_4 {α : Type} (g : Nat → α) : (ixA 15 4).map g = some (g 4) := by rw [ix15_4]; rfl
theorem ix15_5 : ixA 15 5 = some 5 := by decide +kernel
theorem ixl_5 {α : Type} (g : Nat → α) : (ixA 15 5).map g = some (g 5) := by rw [ix15_5]; rfl
theorem ix15_6 : ixA 15 6 = some 6 := by decide +kernel
theorem ixl_6 {α : Type} (g : Nat → α) : (ixA 15 6).map g = some (g 6) := by rw [ix15_6]; rfl
theorem ix15_7 : ixA 15 7 = some 7 := by decide +kernel
theorem ixl_7 {α : Type} (g : Nat → α) : (ixA 15 7).map g = some (g 7) := by rw [ix15_7]; rfl
theorem ix15_8 : ixA 15 8 = some 8 := by decide +kernel
theorem ixl_8 {α : Type} (g : Nat → α) : (ixA 15 8).map g = some (g 8) := by rw [ix15_8]; rfl
theorem ix15_9 : ixA 15 9 = some 9 := by decide +kernel
theorem ixl_9 {α : Type} (g : Nat → α) : (ixA 15 9).map g = some (g 9) := by rw [ix15_9]; rfl
theorem ix15_10 : ixA 15 10 = some 10 := by decide +kernel
theorem ixl_10 {α : Type} (g : Nat → α) : (ixA 15 10).map g = some (g 10) := by rw [ix15_10]; rfl
theorem ix15_11 : ixA 15 11 = some 11 := by decide +kernel
theorem ixl_11 {α : Type} (g : Nat → α) : (ixA 15 11).map g = some (g 11) := by rw [ix15_11]; rfl
theorem ix15_12 : ixA 15 12 = some 12 := by decide +kernel
theorem ixl_12 {α : Type} (g : Nat → α) : (ixA 15 12).map g = some (g 12) := by rw [ix15_12]; rfl
theorem ix15_13 : ixA 15 13 = some 13 := by decide +kernel
theorem ixl_13 {α : Type} (g : Nat → α) : (ixA 15 13).map g = some (g 13) := by rw [ix15_13]; rfl
theorem ix15_14 : ixA 15 14 = some 14 := by decide +kernel
theorem ixl_14 {α : Type} (g : Nat → α) : (ixA 15 14).map g = some (g 14) := by rw [ix15_14]; rfl
/-! the law's helpers -/
section
variable {z f : Nat → Nat → Int32} {r : LWd}
def nthR (x : Option (Int32 ⊕ String)) : Option Int32 := match x with
  | some (.inl v) => some v
  | _ => none
def nthW (x : Option ((Int32 ⊕ String) × (Nat → Nat → Int32) × (Nat → Nat → Int32))) : Option (Int32 × (Nat → Nat → Int32) × (Nat → Nat → Int32)) := match x with
  | some (.inl v, q) => some (v, q)
  | _ => none
theorem nt_r {W : LWd} {m : Option ((Int32 ⊕ String) × LWd)} {g : Option (Int32 ⊕ String)} (h : m = g.map fun x => (x, W)) : nthr m = (nthR g).map fun x => (x, W) := by
  subst h
  match g with
  | none => rfl
  | some (.inl v) => rfl
  | some (.inr e) => rfl
theorem nt_w {m : Option ((Int32 ⊕ String) × LWd)} {g : Option ((Int32 ⊕ String) × (Nat → Nat → Int32) × (Nat → Nat → Int32))} (h : m = g.map fun q => (q.1, wA q.2.1 q.2.2 r)) : nthr m = (nthW g).map fun q => (q.1, wA q.2.1 q.2.2 r) := by
  subst h
  match g with
  | none => rfl
  | some (.inl v, q) => rfl
  | some (.inr e, q) => rfl
def wrE (E : String) : Option Int32 := if E = nIOB then some (-3000000) else if E = nIAE then some (-2000000) else if E = nISE then some (-1000000) else none
def wrGr (z f : Nat → Nat → Int32) (x : Option (Int32 ⊕ String)) : Option (Int32 × (Nat → Nat → Int32) × (Nat → Nat → Int32)) := x.bind fun r => match r with
  | .inl v => some (v, z, f)
  | .inr E => (wrE E).map fun v => (v, z, f)
def wrGw (x : Option ((Int32 ⊕ String) × (Nat → Nat → Int32) × (Nat → Nat → Int32))) : Option (Int32 × (Nat → Nat → Int32) × (Nat → Nat → Int32)) := x.bind fun q => match q.1 with
  | .inl v => some (v, q.2)
  | .inr E => (wrE E).map fun v => (v, q.2)
theorem wrE_e {E : String} {w : LWd} : (if E = nIOB then some ((-3000000 : Int32), w) else if E = nIAE then some (-2000000, w) else if E = nISE then some (-1000000, w) else none) = (wrE E).map fun v => (v, w) := by
  unfold wrE
  by_cases h1 : E = nIOB
  · rw [if_pos h1, if_pos h1]; rfl
  · rw [if_neg h1, if_neg h1]
    by_cases h2 : E = nIAE
    · rw [if_pos h2, if_pos h2]; rfl
    · rw [if_neg h2, if_neg h2]
      by_cases h3 : E = nISE
      · rw [if_pos h3, if_pos h3]; rfl
      · rw [if_neg h3, if_neg h3]; rfl
set_option maxRecDepth 100000 in
theorem wrG_r {m : Option ((Int32 ⊕ String) × LWd)} {g : Option (Int32 ⊕ String)} (h : m = g.map fun x => (x, wA z f r)) : wrD (wA z f r) m = (wrGr z f g).map fun q => (q.1, wA q.2.1 q.2.2 r) := by
  subst h
  match g with
  | none => rfl
  | some (.inl v) => exact if_pos rfl
  | some (.inr E) =>
    refine (if_pos rfl).trans (wrE_e.trans ?_)
    show _ = Option.map _ ((wrE E).map fun v => (v, z, f))
    rw [Option.map_map]
    rfl
set_option maxRecDepth 100000 in
theorem wrG_w {m : Option ((Int32 ⊕ String) × LWd)} {g : Option ((Int32 ⊕ String) × (Nat → Nat → Int32) × (Nat → Nat → Int32))} (h : m = g.map fun q => (q.1, wA q.2.1 q.2.2 r)) : wrD (wA z f r) m = (wrGw g).map fun q => (q.1, wA q.2.1 q.2.2 r) := by
  subst h
  match g with
  | none => rfl
  | some (.inl v, q) => exact if_pos wA_len
  | some (.inr E, q) =>
    refine (if_pos wA_len).trans (wrE_e.trans ?_)
    show _ = Option.map _ ((wrE E).map fun v => (v, q))
    rw [Option.map_map]
    rfl
def g_L_four (n a : Nat) (p : Int32) (f : Nat → Nat → Int32) : Option Int32 := (ixA n (p / 16)).map fun j => Int64.toInt32 ((jlushr (lg f a j) (4 * (jrem p 16))) &&& 15)
def g_L_sets (n a : Nat) (p v : Int32) (f : Nat → Nat → Int32) : Option (Nat → Nat → Int32) := (ixA n (p / 16)).map fun j =>
  let f1 := ulg f a j (lg f a j &&& ((15 <<< (Int32.toInt64 (4 * (jrem p 16)) &&& 63)) ^^^ ((-1))))
  ulg f1 a j (lg f1 a j ||| ((Int32.toInt64 v) <<< (Int32.toInt64 (4 * (jrem p 16)) &&& 63)))
def prG (L : Nat) (xs : Nat → Int32) (i1 i2 : Int32) : Option Int32 := (prV L xs i1).bind fun v => if i2 = 0 then none else some (jrem (v &&& 2147483647) i2)
theorem e_L_part {L : Nat} {xs : Nat → Int32} {i1 i2 : Int32} {W : LWd} : m_L_part L xs i1 i2 W = (prG L xs i1 i2).map fun x => (x, W) := by
  unfold m_L_part prG
  cases prV L xs i1 with
  | none => rfl
  | some v =>
    show (if i2 = 0 then none else _) = Option.map _ (if i2 = 0 then none else _)
    by_cases h : i2 = 0
    · rw [if_pos h, if_pos h]; rfl
    · rw [if_neg h, if_neg h]; rfl
theorem e_L_four {n a : Nat} {p : Int32} (h : isLw z f r a n) : m_L_four a p (wA z f r) = (g_L_four n a p f).map fun x => (x, wA z f r) := by
  unfold m_L_four g_L_four
  rw [h.1]
  cases ixA n (p / 16) <;> rfl
theorem e_L_sets {n a : Nat} {p v : Int32} (h : ∀ f, isLw z f r a n) : m_L_sets a p v (wA z f r) = (g_L_sets n a p v f).map fun f1 => wA z f1 r := by
  unfold m_L_sets g_L_sets
  rw [(h f).1]
  cases hx : ixA n (p / 16) with
  | none => rfl
  | some j =>
    rw [Option.map_some, Option.bind_some, (h f).2, hx, Option.map_some, Option.bind_some, (h _).1, hx, Option.map_some, Option.bind_some, (h _).2, hx, Option.map_some, Option.bind_some]
    rfl
set_option maxRecDepth 100000 in
theorem caUs {β γ : Type} {m : Option LWd} {g : Option (Nat → Nat → Int32)} {k : LWd → Option β} {k' : (Nat → Nat → Int32) → Option γ} {F : γ → β} (h : m = g.map fun f1 => wA z f1 r) (kk : ∀ f1, k (wA z f1 r) = (k' f1).map F) : (calSV (wA z f r) m).bind k = (g.bind k').map F := by
  cases g with
  | none => rw [h]; rfl
  | some q => exact caV h wA_len (kk _)
end
