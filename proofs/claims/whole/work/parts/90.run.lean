theorem law_run (L : Nat) (xs : Nat → Int32) (hL : L ≤ 2048) : ∀ X : zX, z_cl (L, xs) (Ex (L, xs) 9) tL_law true 600000 7302250 (fun v _ => v = some (.int 1)) X → X 0 (z_ent 4 [.ref 2001]) [] ([], []) 0 0 := by
  sorry
