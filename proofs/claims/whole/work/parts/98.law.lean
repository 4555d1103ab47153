theorem law_ok (xs : Nat → Int32) (L : Nat) (hL : L ≤ 3072) : f_law xs L hInit = some (iI 1) := law_loop hL li_init
