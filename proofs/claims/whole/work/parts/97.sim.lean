theorem fw_sim (z L : Nat) (xs : Nat → Int32) (hL : L ≤ 2048) : F_Law L xs (fw_S0 z) = some 1 := sorry
