theorem law_pure {sl : Nat} {sc : Nat → Int32} (h : sl ≤ 3072) : ML_law 0 σ0 ρ0 sl sc = some 1 := sorry
