theorem pure_main : ∀ (L : Nat) (xs : Nat → Int32), L ≤ 3072 → f_L_law_18 xs L z_F 0 z_M0 = some () := sorry
