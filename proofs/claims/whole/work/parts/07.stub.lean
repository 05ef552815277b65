theorem ok_of {k j : Nat} (h : opAt k j ≠ opBad) : k < 224 ∧ okOp k j = true := sorry
