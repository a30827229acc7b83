theorem pure_all {L : Nat} {xs : Nat → Int32} (hL : L ≤ 384) : ∃ N : Nat, l_L_law_18 N (fun r _ => r = 1) L xs N 0 k0 := by
  sorry
