/-! the law over the memory -/
theorem ap_pure (L : Nat) (xs : Nat → Int32) (hL : L ≤ 2048) : w_law_18 L xs 600 0 ap_M0 := ap_pure_of p_town L xs hL
