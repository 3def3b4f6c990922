def mxB (w mx my : Int) : Prop := (-2000 ≤ mx ∧ mx ≤ 2000) ∧ (-2000 ≤ my ∧ my ≤ 2000) ∧ 0 < w ∧ w ≤ 30
theorem eg_bdP {a b : Pt} (ha : pB a) (hb : pB b) {mx my w : Int} (hm : mxB w mx my) : -200000 ≤ eg w mx my a b ∧ eg w mx my a b ≤ 200000 := by
  obtain ⟨hx, hy, hw⟩ := hm
  unfold pB at ha hb
  have n1 := bd_mul (a := w) (b := a.2) (A := 30) (B := 19) (by omega) (by omega)
  have n2 := bd_mul (a := w) (b := a.1) (A := 30) (B := 19) (by omega) (by omega)
  have m1 := bd_mul (a := b.1 - a.1) (b := my - w * a.2) (A := 19) (B := 2570) (by omega) (by omega)
  have m2 := bd_mul (a := b.2 - a.2) (b := mx - w * a.1) (A := 19) (B := 2570) (by omega) (by omega)
  unfold eg
  omega
theorem al_bdP {a b : Pt} (ha : pB a) (hb : pB b) {mx my w : Int} (hm : mxB w mx my) : -200000 ≤ alg w mx my a b ∧ alg w mx my a b ≤ 200000 := by
  obtain ⟨hx, hy, hw⟩ := hm
  unfold pB at ha hb
  have n1 := bd_mul (a := w) (b := a.2) (A := 30) (B := 19) (by omega) (by omega)
  have n2 := bd_mul (a := w) (b := a.1) (A := 30) (B := 19) (by omega) (by omega)
  have m1 := bd_mul (a := b.1 - a.1) (b := mx - w * a.1) (A := 19) (B := 2570) (by omega) (by omega)
  have m2 := bd_mul (a := b.2 - a.2) (b := my - w * a.2) (A := 19) (B := 2570) (by omega) (by omega)
  unfold alg
  omega
