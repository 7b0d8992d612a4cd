/-! ===== a new object's fields; beyond them nothing counts ===== -/
def dV (ty : Nat → FieldType) (N : Nat) : Nat → Value := fun k => if k < N then defaultValue (ty k) else .int 0
theorem dV_ok {ty : Nat → FieldType} {N : Nat} : ∀ j, j < N → defaultValue (ty j) = dV ty N j := fun _ h => (if_pos h).symm
