/-! ===== the law: the program is what the bytes say ===== -/
set_option maxRecDepth 20000 in
theorem dc_Z_law (L : Nat) (xs : Nat → Int32) : ∀ e ∈ pg_Z_law L xs, decode code e.1 = .ok (e.2.1, e.2.2.1) := x_dec (l := dl_Z_law) rfl kd_Z_law
set_option maxRecDepth 20000 in
theorem ch_Z_law (L : Nat) (xs : Nat → Int32) : xchain (pg_Z_law L xs) = true := rfl
