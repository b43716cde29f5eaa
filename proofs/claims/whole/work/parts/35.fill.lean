/-! The JDK's own methods: bitCount, and fill of an int row and of a long row -/
def m0 (x0 : Int) (M : ev_M) (Q : Int → ev_M → Prop) : Prop := ev 0 0 [(0, .inr (.inl x0))] [] M (fun v M1 => ∃ w : Int, v = some (.inl w) ∧ Q w M1)
def m1 (a : Nat) (x1 : Int) (M : ev_M) (Q : ev_M → Prop) : Prop := ev 1 0 [(0, .inr (.inr (some a))), (1, .inl x1)] [] M (fun v M1 => v = none ∧ Q M1)
def m2 (a : Nat) (x1 : Int) (M : ev_M) (Q : ev_M → Prop) : Prop := ev 2 0 [(0, .inr (.inr (some a))), (1, .inr (.inl x1))] [] M (fun v M1 => v = none ∧ Q M1)
