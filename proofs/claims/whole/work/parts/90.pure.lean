theorem law_pure (L : Nat) (xs : Nat → Int32) (hL : L ≤ 2048) : ∃ M1, lpT (fun _ _ => none) (F_L_law_23 5000 L xs) 513 0 M00 = some (1, M1) := by
  sorry
