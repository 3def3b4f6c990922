theorem iv_eqn {a b : Nat} (ha : a < 1000) (hb : b < 1000) : iv (a : Int) = iv (b : Int) ↔ a = b := by
  rw [iv_eq (ibn (by omega)) (ibn (by omega))]
  omega
