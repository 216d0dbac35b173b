/-- the first k places as in v, the others as in r -/
def prL {α : Type} (v r : Nat → α) (k : Nat) : Nat → α := fun j => if j < k then v j else r j
