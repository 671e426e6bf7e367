section ZPure
theorem zpure (S : zSc) (hS : S.1 ≤ 3584) : ∃ M' : zM, zF S 212 (18, [(3, .int 0), (2, .ref 86), (1, .ref 1), (0, .ref 0)], [], zh, zM0) (some (.int 1)) M' := sorry
end ZPure
