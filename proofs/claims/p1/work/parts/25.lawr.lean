/-! ===== the law on one call ===== -/
def wB0 : xW := wH0 ++ wM0 70
abbrev xK1 : xKo := fun r _ => r = some (.int 1)
abbrev xl1 (i : Int32) : xL := [(0, .float 3), (1, .ref 0), (2, .ref 70), (3, .int i)]
set_option maxRecDepth 100000 in
theorem lw_exit (L : Nat) (hL : L ≤ 6) (xs : Nat → Int32) (w : xW) (b : xB) : xWP (pg_Z_law L xs) xK1 18 (xl1 6) [] w b := by
  refine xWP_go 40 [] fun P hP => ?_
  refine ⟨rfl, ?_⟩
  refine br_c (fun _ => ?_) (fun z => absurd ?_ z)
  · exact ⟨Or.inr rfl, rfl⟩
  · rcases (show L = 0 ∨ L = 1 ∨ L = 2 ∨ L = 3 ∨ L = 4 ∨ L = 5 ∨ L = 6 by omega) with rfl | rfl | rfl | rfl | rfl | rfl | rfl <;> decide
set_option maxRecDepth 100000 in
theorem lw_short (L : Nat) (hL : L ≤ 5) (xs : Nat → Int32) (w : xW) (b : xB) : xWP (pg_Z_law L xs) xK1 18 (xl1 0) [] w b := by
  refine xWP_go 40 [] fun P hP => ?_
  refine ⟨rfl, ?_⟩
  refine br_c (fun _ => ?_) (fun z => absurd ?_ z)
  · exact ⟨Or.inr rfl, rfl⟩
  · rcases (show L = 0 ∨ L = 1 ∨ L = 2 ∨ L = 3 ∨ L = 4 ∨ L = 5 by omega) with rfl | rfl | rfl | rfl | rfl | rfl <;> decide

set_option maxRecDepth 100000 in
theorem lw_c0 (xs : Nat → Int32) (b : xB) : xWP (pg_Z_law 6 xs) xK1 212 (xl1 0) [] wB0 b := by
  refine xWP_go 80 [(18, [0, 1, 2, 3])] fun P hP => ?_
  refine ⟨rfl, vin (by decide), ?_⟩
  refine ⟨rfl, vin (by decide), ?_⟩
  refine xcall (fr_thing _ _ fun F v => ?_)
  refine ⟨rfl, vin (by decide), ?_⟩
  refine ⟨rfl, vin (by decide), ?_⟩
  refine xcall (fm_thing _ _ fun F2 v2 => ?_)
  refine br_c (fun _ => ?_) (fun z => absurd rfl z)
  refine hP _ _ _ _ _ ?_
  exact lw_exit 6 (Nat.le_refl 6) xs _ _
set_option maxRecDepth 100000 in
theorem lw_c1 (xs : Nat → Int32) (b : xB) : xWP (pg_Z_law 6 xs) xK1 245 (xl1 0) [] wB0 b := by
  refine xWP_go 80 [(18, [0, 1, 2, 3])] fun P hP => ?_
  refine ⟨rfl, vin (by decide), ?_⟩
  refine ⟨rfl, vin (by decide), ?_⟩
  refine xcall (fr_ofThing _ _ fun F v => ?_)
  refine ⟨rfl, vin (by decide), ?_⟩
  refine ⟨rfl, vin (by decide), ?_⟩
  refine xcall (fm_ofThing _ _ fun F2 v2 => ?_)
  refine br_c (fun _ => ?_) (fun z => absurd rfl z)
  refine hP _ _ _ _ _ ?_
  exact lw_exit 6 (Nat.le_refl 6) xs _ _
set_option maxRecDepth 100000 in
theorem lw_c2 (xs : Nat → Int32) (b : xB) : xWP (pg_Z_law 6 xs) xK1 278 (xl1 0) [] wB0 b := by
  refine xWP_go 80 [(18, [0, 1, 2, 3])] fun P hP => ?_
  refine ⟨rfl, vin (by decide), ?_⟩
  refine ⟨rfl, vin (by decide), ?_⟩
  refine ⟨rfl, vin (by decide), ?_⟩
  refine xcall (fr_shift _ _ _ fun F v => ?_)
  refine ⟨rfl, vin (by decide), ?_⟩
  refine ⟨rfl, vin (by decide), ?_⟩
  refine ⟨rfl, vin (by decide), ?_⟩
  refine xcall (fm_shift _ _ _ fun F2 v2 => ?_)
  refine br_c (fun _ => ?_) (fun z => absurd rfl z)
  refine hP _ _ _ _ _ ?_
  exact lw_exit 6 (Nat.le_refl 6) xs _ _
set_option maxRecDepth 100000 in
theorem lw_c3 (xs : Nat → Int32) (b : xB) : xWP (pg_Z_law 6 xs) xK1 321 (xl1 0) [] wB0 b := by
  refine xWP_go 80 [(18, [0, 1, 2, 3])] fun P hP => ?_
  refine ⟨rfl, vin (by decide), ?_⟩
  refine ⟨rfl, vin (by decide), ?_⟩
  refine xcall (fr_child _ _ fun F v => ?_)
  refine ⟨rfl, vin (by decide), ?_⟩
  refine ⟨rfl, vin (by decide), ?_⟩
  refine xcall (fm_child _ _ fun F2 v2 => ?_)
  refine br_c (fun _ => ?_) (fun z => absurd rfl z)
  refine hP _ _ _ _ _ ?_
  exact lw_exit 6 (Nat.le_refl 6) xs _ _
set_option maxRecDepth 100000 in
theorem lw_c4 (xs : Nat → Int32) (b : xB) : xWP (pg_Z_law 6 xs) xK1 354 (xl1 0) [] wB0 b := by
  refine xWP_go 80 [(18, [0, 1, 2, 3])] fun P hP => ?_
  refine ⟨rfl, vin (by decide), ?_⟩
  refine ⟨rfl, vin (by decide), ?_⟩
  refine xcall (fr_ofChild _ _ fun F v => ?_)
  refine ⟨rfl, vin (by decide), ?_⟩
  refine ⟨rfl, vin (by decide), ?_⟩
  refine xcall (fm_ofChild _ _ fun F2 v2 => ?_)
  refine br_c (fun _ => ?_) (fun z => absurd rfl z)
  refine hP _ _ _ _ _ ?_
  exact lw_exit 6 (Nat.le_refl 6) xs _ _
set_option maxRecDepth 100000 in
theorem lw_c5 (xs : Nat → Int32) (b : xB) : xWP (pg_Z_law 6 xs) xK1 387 (xl1 0) [] wB0 b := by
  refine xWP_go 80 [(18, [0, 1, 2, 3])] fun P hP => ?_
  refine ⟨rfl, vin (by decide), ?_⟩
  refine ⟨rfl, vin (by decide), ?_⟩
  refine ⟨rfl, vin (by decide), ?_⟩
  refine xcall (fr_change _ _ _ fun F v => ?_)
  refine ⟨rfl, vin (by decide), ?_⟩
  refine ⟨rfl, vin (by decide), ?_⟩
  refine ⟨rfl, vin (by decide), ?_⟩
  refine xcall (fm_change _ _ _ fun F2 v2 => ?_)
  refine br_c (fun _ => ?_) (fun z => absurd rfl z)
  refine hP _ _ _ _ _ ?_
  exact lw_exit 6 (Nat.le_refl 6) xs _ _
set_option maxRecDepth 100000 in
theorem lw_c6 (xs : Nat → Int32) (b : xB) : xWP (pg_Z_law 6 xs) xK1 430 (xl1 0) [] wB0 b := by
  refine xWP_go 80 [(18, [0, 1, 2, 3])] fun P hP => ?_
  refine ⟨rfl, vin (by decide), ?_⟩
  refine xcall (fr_it _ fun F v => ?_)
  refine ⟨rfl, vin (by decide), ?_⟩
  refine xcall (fm_it _ fun F2 v2 => ?_)
  refine br_c (fun _ => ?_) (fun z => absurd rfl z)
  refine hP _ _ _ _ _ ?_
  exact lw_exit 6 (Nat.le_refl 6) xs _ _
set_option maxRecDepth 100000 in
theorem lw_c7 (xs : Nat → Int32) (b : xB) : xWP (pg_Z_law 6 xs) xK1 453 (xl1 0) [] wB0 b := by
  refine xWP_go 80 [(18, [0, 1, 2, 3])] fun P hP => ?_
  refine ⟨rfl, vin (by decide), ?_⟩
  refine ⟨rfl, vin (by decide), ?_⟩
  refine xcall (fr_become _ _ fun F v => ?_)
  refine ⟨rfl, vin (by decide), ?_⟩
  refine ⟨rfl, vin (by decide), ?_⟩
  refine xcall (fm_become _ _ fun F2 v2 => ?_)
  refine br_c (fun _ => ?_) (fun z => absurd rfl z)
  refine hP _ _ _ _ _ ?_
  exact lw_exit 6 (Nat.le_refl 6) xs _ _
set_option maxRecDepth 100000 in
theorem lw_c8 (xs : Nat → Int32) (b : xB) : xWP (pg_Z_law 6 xs) xK1 486 (xl1 0) [] wB0 b := by
  refine xWP_go 80 [(18, [0, 1, 2, 3])] fun P hP => ?_
  refine ⟨rfl, vin (by decide), ?_⟩
  refine ⟨rfl, vin (by decide), ?_⟩
  refine xcall (fr_as _ _ fun F v => ?_)
  refine ⟨rfl, vin (by decide), ?_⟩
  refine ⟨rfl, vin (by decide), ?_⟩
  refine xcall (fm_as _ _ fun F2 v2 => ?_)
  refine br_c (fun _ => ?_) (fun z => absurd rfl z)
  refine hP _ _ _ _ _ ?_
  exact lw_exit 6 (Nat.le_refl 6) xs _ _
set_option maxRecDepth 100000 in
theorem lw_c9 (xs : Nat → Int32) (b : xB) : xWP (pg_Z_law 6 xs) xK1 519 (xl1 0) [] wB0 b := by
  refine xWP_go 80 [(18, [0, 1, 2, 3])] fun P hP => ?_
  refine ⟨rfl, vin (by decide), ?_⟩
  refine ⟨rfl, vin (by decide), ?_⟩
  refine ⟨rfl, vin (by decide), ?_⟩
  refine xcall (fr_feed _ _ fun F v => ?_)
  refine ⟨rfl, vin (by decide), ?_⟩
  refine ⟨rfl, vin (by decide), ?_⟩
  refine ⟨rfl, vin (by decide), ?_⟩
  refine xcall (fm_feed _ _ fun F2 v2 => ?_)
  refine br_c (fun _ => ?_) (fun z => absurd rfl z)
  refine hP _ _ _ _ _ ?_
  exact lw_exit 6 (Nat.le_refl 6) xs _ _
set_option maxRecDepth 100000 in
theorem lw_c10 (xs : Nat → Int32) (b : xB) : xWP (pg_Z_law 6 xs) xK1 582 (xl1 0) [] wB0 b := by
  refine xWP_go 80 [(18, [0, 1, 2, 3])] fun P hP => ?_
  refine ⟨rfl, vin (by decide), ?_⟩
  refine xcall (fr_text _ fun F v => ?_)
  refine ⟨rfl, vin (by decide), ?_⟩
  refine xcall (fm_text _ fun F2 v2 => ?_)
  refine br_c (fun _ => ?_) (fun z => absurd rfl z)
  refine hP _ _ _ _ _ ?_
  exact lw_exit 6 (Nat.le_refl 6) xs _ _
set_option maxRecDepth 100000 in
theorem lw_c11 (xs : Nat → Int32) (b : xB) : xWP (pg_Z_law 6 xs) xK1 605 (xl1 0) [] wB0 b := by
  refine xWP_go 80 [(18, [0, 1, 2, 3])] fun P hP => ?_
  refine ⟨rfl, vin (by decide), ?_⟩
  refine ⟨rfl, vin (by decide), ?_⟩
  refine ⟨rfl, vin (by decide), ?_⟩
  refine ⟨rfl, vin (by decide), ?_⟩
  refine xcall (fr_law _ _ _ _ fun F v => ?_)
  refine ⟨rfl, vin (by decide), ?_⟩
  refine ⟨rfl, vin (by decide), ?_⟩
  refine ⟨rfl, vin (by decide), ?_⟩
  refine ⟨rfl, vin (by decide), ?_⟩
  refine xcall (fm_law _ _ _ _ fun F2 v2 => ?_)
  refine br_c (fun _ => ?_) (fun z => absurd rfl z)
  refine hP _ _ _ _ _ ?_
  exact lw_exit 6 (Nat.le_refl 6) xs _ _
set_option maxRecDepth 100000 in
theorem lw_c12 (xs : Nat → Int32) (b : xB) : xWP (pg_Z_law 6 xs) xK1 658 (xl1 0) [] wB0 b := by
  refine xWP_go 80 [(18, [0, 1, 2, 3])] fun P hP => ?_
  refine ⟨rfl, vin (by decide), ?_⟩
  refine ⟨rfl, vin (by decide), ?_⟩
  refine xcall (fr_call _ _ fun F v => ?_)
  refine ⟨rfl, vin (by decide), ?_⟩
  refine ⟨rfl, vin (by decide), ?_⟩
  refine xcall (fm_call _ _ fun F2 v2 => ?_)
  refine br_c (fun _ => ?_) (fun z => absurd rfl z)
  refine hP _ _ _ _ _ ?_
  exact lw_exit 6 (Nat.le_refl 6) xs _ _
set_option maxRecDepth 100000 in
theorem lw_c13 (xs : Nat → Int32) (b : xB) : xWP (pg_Z_law 6 xs) xK1 691 (xl1 0) [] wB0 b := by
  refine xWP_go 80 [(18, [0, 1, 2, 3])] fun P hP => ?_
  refine ⟨rfl, vin (by decide), ?_⟩
  refine xcall (fr_loose _ fun F v => ?_)
  refine ⟨rfl, vin (by decide), ?_⟩
  refine xcall (fm_loose _ fun F2 v2 => ?_)
  refine br_c (fun _ => ?_) (fun z => absurd rfl z)
  refine hP _ _ _ _ _ ?_
  exact lw_exit 6 (Nat.le_refl 6) xs _ _
set_option maxRecDepth 100000 in
theorem lw_c14 (xs : Nat → Int32) (b : xB) : xWP (pg_Z_law 6 xs) xK1 714 (xl1 0) [] wB0 b := by
  refine xWP_go 80 [(18, [0, 1, 2, 3])] fun P hP => ?_
  refine ⟨rfl, vin (by decide), ?_⟩
  refine ⟨rfl, vin (by decide), ?_⟩
  refine xcall (fr_hadBy _ _ fun F v => ?_)
  refine ⟨rfl, vin (by decide), ?_⟩
  refine ⟨rfl, vin (by decide), ?_⟩
  refine xcall (fm_hadBy _ _ fun F2 v2 => ?_)
  refine br_c (fun _ => ?_) (fun z => absurd rfl z)
  refine hP _ _ _ _ _ ?_
  exact lw_exit 6 (Nat.le_refl 6) xs _ _
set_option maxRecDepth 100000 in
theorem lw_c15 (xs : Nat → Int32) (b : xB) : xWP (pg_Z_law 6 xs) xK1 747 (xl1 0) [] wB0 b := by
  refine xWP_go 80 [(18, [0, 1, 2, 3])] fun P hP => ?_
  refine ⟨rfl, vin (by decide), ?_⟩
  refine ⟨rfl, vin (by decide), ?_⟩
  refine ⟨rfl, vin (by decide), ?_⟩
  refine xcall (fr_runsTo _ _ _ fun F v => ?_)
  refine ⟨rfl, vin (by decide), ?_⟩
  refine ⟨rfl, vin (by decide), ?_⟩
  refine ⟨rfl, vin (by decide), ?_⟩
  refine xcall (fm_runsTo _ _ _ fun F2 v2 => ?_)
  refine br_c (fun _ => ?_) (fun z => absurd rfl z)
  refine hP _ _ _ _ _ ?_
  exact lw_exit 6 (Nat.le_refl 6) xs _ _
set_option maxRecDepth 100000 in
theorem lw_c16 (xs : Nat → Int32) (b : xB) : xWP (pg_Z_law 6 xs) xK1 790 (xl1 0) [] wB0 b := by
  refine xWP_go 80 [(18, [0, 1, 2, 3])] fun P hP => ?_
  refine ⟨rfl, vin (by decide), ?_⟩
  refine ⟨rfl, vin (by decide), ?_⟩
  refine xcall (fr_worst _ _ fun F v => ?_)
  refine ⟨rfl, vin (by decide), ?_⟩
  refine ⟨rfl, vin (by decide), ?_⟩
  refine xcall (fm_worst _ _ fun F2 v2 => ?_)
  refine br_c (fun _ => ?_) (fun z => absurd rfl z)
  refine hP _ _ _ _ _ ?_
  exact lw_exit 6 (Nat.le_refl 6) xs _ _
set_option maxRecDepth 100000 in
theorem lw_c17 (xs : Nat → Int32) (b : xB) : xWP (pg_Z_law 6 xs) xK1 823 (xl1 0) [] wB0 b := by
  refine xWP_go 80 [(18, [0, 1, 2, 3])] fun P hP => ?_
  refine ⟨rfl, vin (by decide), ?_⟩
  refine ⟨rfl, vin (by decide), ?_⟩
  refine xcall (fr_best _ _ fun F v => ?_)
  refine ⟨rfl, vin (by decide), ?_⟩
  refine ⟨rfl, vin (by decide), ?_⟩
  refine xcall (fm_best _ _ fun F2 v2 => ?_)
  refine br_c (fun _ => ?_) (fun z => absurd rfl z)
  refine hP _ _ _ _ _ ?_
  exact lw_exit 6 (Nat.le_refl 6) xs _ _
set_option maxRecDepth 100000 in
theorem lw_c18 (xs : Nat → Int32) (b : xB) : xWP (pg_Z_law 6 xs) xK1 856 (xl1 0) [] wB0 b := by
  refine xWP_go 80 [(18, [0, 1, 2, 3])] fun P hP => ?_
  refine ⟨rfl, vin (by decide), ?_⟩
  refine ⟨rfl, vin (by decide), ?_⟩
  refine ⟨rfl, vin (by decide), ?_⟩
  refine xcall (fr_stand _ _ _ fun F v => ?_)
  refine ⟨rfl, vin (by decide), ?_⟩
  refine ⟨rfl, vin (by decide), ?_⟩
  refine ⟨rfl, vin (by decide), ?_⟩
  refine xcall (fm_stand _ _ _ fun F2 v2 => ?_)
  refine br_c (fun _ => ?_) (fun z => absurd rfl z)
  refine hP _ _ _ _ _ ?_
  exact lw_exit 6 (Nat.le_refl 6) xs _ _
set_option maxRecDepth 100000 in
theorem lw_c19 (xs : Nat → Int32) (b : xB) : xWP (pg_Z_law 6 xs) xK1 899 (xl1 0) [] wB0 b := by
  refine xWP_go 80 [(18, [0, 1, 2, 3])] fun P hP => ?_
  refine ⟨rfl, vin (by decide), ?_⟩
  refine xcall (fr_steps _ fun F v => ?_)
  refine ⟨rfl, vin (by decide), ?_⟩
  refine xcall (fm_steps _ fun F2 v2 => ?_)
  refine br_c (fun _ => ?_) (fun z => absurd rfl z)
  refine hP _ _ _ _ _ ?_
  exact lw_exit 6 (Nat.le_refl 6) xs _ _
set_option maxRecDepth 100000 in
theorem lw_c20 (xs : Nat → Int32) (b : xB) : xWP (pg_Z_law 6 xs) xK1 922 (xl1 0) [] wB0 b := by
  refine xWP_go 80 [(18, [0, 1, 2, 3])] fun P hP => ?_
  refine ⟨rfl, vin (by decide), ?_⟩
  refine ⟨rfl, vin (by decide), ?_⟩
  refine ⟨rfl, vin (by decide), ?_⟩
  refine xcall (fr_take _ _ _ fun F v => ?_)
  refine ⟨rfl, vin (by decide), ?_⟩
  refine ⟨rfl, vin (by decide), ?_⟩
  refine ⟨rfl, vin (by decide), ?_⟩
  refine xcall (fm_take _ _ _ fun F2 v2 => ?_)
  refine br_c (fun _ => ?_) (fun z => absurd rfl z)
  refine hP _ _ _ _ _ ?_
  exact lw_exit 6 (Nat.le_refl 6) xs _ _
set_option maxRecDepth 100000 in
theorem lw_c21 (xs : Nat → Int32) (b : xB) : xWP (pg_Z_law 6 xs) xK1 965 (xl1 0) [] wB0 b := by
  refine xWP_go 80 [(18, [0, 1, 2, 3])] fun P hP => ?_
  refine ⟨rfl, vin (by decide), ?_⟩
  refine ⟨rfl, vin (by decide), ?_⟩
  refine ⟨rfl, vin (by decide), ?_⟩
  refine xcall (fr_lay _ _ _ fun F v => ?_)
  refine ⟨rfl, vin (by decide), ?_⟩
  refine ⟨rfl, vin (by decide), ?_⟩
  refine ⟨rfl, vin (by decide), ?_⟩
  refine xcall (fm_lay _ _ _ fun F2 v2 => ?_)
  refine br_c (fun _ => ?_) (fun z => absurd rfl z)
  refine hP _ _ _ _ _ ?_
  exact lw_exit 6 (Nat.le_refl 6) xs _ _
set_option maxRecDepth 100000 in
theorem lw_c22 (xs : Nat → Int32) (b : xB) : xWP (pg_Z_law 6 xs) xK1 1008 (xl1 0) [] wB0 b := by
  refine xWP_go 80 [(18, [0, 1, 2, 3])] fun P hP => ?_
  refine ⟨rfl, vin (by decide), ?_⟩
  refine ⟨rfl, vin (by decide), ?_⟩
  refine xcall (fr_called _ _ fun F v => ?_)
  refine ⟨rfl, vin (by decide), ?_⟩
  refine ⟨rfl, vin (by decide), ?_⟩
  refine xcall (fm_called _ _ fun F2 v2 => ?_)
  refine br_c (fun _ => ?_) (fun z => absurd rfl z)
  refine hP _ _ _ _ _ ?_
  exact lw_exit 6 (Nat.le_refl 6) xs _ _
set_option maxRecDepth 100000 in
theorem lw_c23 (xs : Nat → Int32) (b : xB) : xWP (pg_Z_law 6 xs) xK1 1041 (xl1 0) [] wB0 b := by
  refine xWP_go 80 [(18, [0, 1, 2, 3])] fun P hP => ?_
  refine ⟨rfl, vin (by decide), ?_⟩
  refine ⟨rfl, vin (by decide), ?_⟩
  refine xcall (fr_parts _ _ fun F v => ?_)
  refine ⟨rfl, vin (by decide), ?_⟩
  refine ⟨rfl, vin (by decide), ?_⟩
  refine xcall (fm_parts _ _ fun F2 v2 => ?_)
  refine br_c (fun _ => ?_) (fun z => absurd rfl z)
  refine hP _ _ _ _ _ ?_
  exact lw_exit 6 (Nat.le_refl 6) xs _ _
set_option maxRecDepth 100000 in
theorem lw_c24 (xs : Nat → Int32) (b : xB) : xWP (pg_Z_law 6 xs) xK1 1074 (xl1 0) [] wB0 b := by
  refine xWP_go 80 [(18, [0, 1, 2, 3])] fun P hP => ?_
  refine ⟨rfl, vin (by decide), ?_⟩
  refine xcall (fr_never _ fun F v => ?_)
  refine ⟨rfl, vin (by decide), ?_⟩
  refine xcall (fm_never _ fun F2 v2 => ?_)
  refine br_c (fun _ => ?_) (fun z => absurd rfl z)
  refine hP _ _ _ _ _ ?_
  exact lw_exit 6 (Nat.le_refl 6) xs _ _
set_option maxRecDepth 100000 in
theorem lw_c25 (xs : Nat → Int32) (b : xB) : xWP (pg_Z_law 6 xs) xK1 1097 (xl1 0) [] wB0 b := by
  refine xWP_go 80 [(18, [0, 1, 2, 3])] fun P hP => ?_
  refine ⟨rfl, vin (by decide), ?_⟩
  refine ⟨rfl, vin (by decide), ?_⟩
  refine ⟨rfl, vin (by decide), ?_⟩
  refine xcall (fr_series _ _ _ fun F v => ?_)
  refine ⟨rfl, vin (by decide), ?_⟩
  refine ⟨rfl, vin (by decide), ?_⟩
  refine ⟨rfl, vin (by decide), ?_⟩
  refine xcall (fm_series _ _ _ fun F2 v2 => ?_)
  refine br_c (fun _ => ?_) (fun z => absurd rfl z)
  refine hP _ _ _ _ _ ?_
  exact lw_exit 6 (Nat.le_refl 6) xs _ _
set_option maxRecDepth 100000 in
theorem lw_c26 (xs : Nat → Int32) (b : xB) : xWP (pg_Z_law 6 xs) xK1 1140 (xl1 0) [] wB0 b := by
  refine xWP_go 80 [(18, [0, 1, 2, 3])] fun P hP => ?_
  refine ⟨rfl, vin (by decide), ?_⟩
  refine ⟨rfl, vin (by decide), ?_⟩
  refine ⟨rfl, vin (by decide), ?_⟩
  refine xcall (fr_odds _ _ _ fun F v => ?_)
  refine ⟨rfl, vin (by decide), ?_⟩
  refine ⟨rfl, vin (by decide), ?_⟩
  refine ⟨rfl, vin (by decide), ?_⟩
  refine xcall (fm_odds _ _ _ fun F2 v2 => ?_)
  refine br_c (fun _ => ?_) (fun z => absurd rfl z)
  refine hP _ _ _ _ _ ?_
  exact lw_exit 6 (Nat.le_refl 6) xs _ _
set_option maxRecDepth 100000 in
theorem lw_c27 (xs : Nat → Int32) (b : xB) : xWP (pg_Z_law 6 xs) xK1 1183 (xl1 0) [] wB0 b := by
  refine xWP_go 80 [(18, [0, 1, 2, 3])] fun P hP => ?_
  refine ⟨rfl, vin (by decide), ?_⟩
  refine xcall (fr_seed _ fun F v => ?_)
  refine ⟨rfl, vin (by decide), ?_⟩
  refine xcall (fm_seed _ fun F2 v2 => ?_)
  refine br_c (fun _ => ?_) (fun z => absurd rfl z)
  refine hP _ _ _ _ _ ?_
  exact lw_exit 6 (Nat.le_refl 6) xs _ _
set_option maxRecDepth 100000 in
theorem lw_c28 (xs : Nat → Int32) (b : xB) : xWP (pg_Z_law 6 xs) xK1 1206 (xl1 0) [] wB0 b := by
  refine xWP_go 80 [(18, [0, 1, 2, 3])] fun P hP => ?_
  refine ⟨rfl, vin (by decide), ?_⟩
  refine ⟨rfl, vin (by decide), ?_⟩
  refine ⟨rfl, vin (by decide), ?_⟩
  refine xcall (fr_voice _ _ _ fun F v => ?_)
  refine ⟨rfl, vin (by decide), ?_⟩
  refine ⟨rfl, vin (by decide), ?_⟩
  refine ⟨rfl, vin (by decide), ?_⟩
  refine xcall (fm_voice _ _ _ fun F2 v2 => ?_)
  refine br_c (fun _ => ?_) (fun z => absurd rfl z)
  refine hP _ _ _ _ _ ?_
  exact lw_exit 6 (Nat.le_refl 6) xs _ _
set_option maxRecDepth 100000 in
theorem lw_c29 (xs : Nat → Int32) (b : xB) : xWP (pg_Z_law 6 xs) xK1 1249 (xl1 0) [] wB0 b := by
  refine xWP_go 80 [(18, [0, 1, 2, 3])] fun P hP => ?_
  refine ⟨rfl, vin (by decide), ?_⟩
  refine xcall (fr_trace _ fun F v => ?_)
  refine ⟨rfl, vin (by decide), ?_⟩
  refine xcall (fm_trace _ fun F2 v2 => ?_)
  refine br_c (fun _ => ?_) (fun z => absurd rfl z)
  refine hP _ _ _ _ _ ?_
  exact lw_exit 6 (Nat.le_refl 6) xs _ _
set_option maxRecDepth 100000 in
theorem lw_c30 (xs : Nat → Int32) (b : xB) : xWP (pg_Z_law 6 xs) xK1 1272 (xl1 0) [] wB0 b := by
  refine xWP_go 80 [(18, [0, 1, 2, 3])] fun P hP => ?_
  refine ⟨rfl, vin (by decide), ?_⟩
  refine ⟨rfl, vin (by decide), ?_⟩
  refine ⟨rfl, vin (by decide), ?_⟩
  refine xcall (fr_sheet _ _ _ fun F v => ?_)
  refine ⟨rfl, vin (by decide), ?_⟩
  refine ⟨rfl, vin (by decide), ?_⟩
  refine ⟨rfl, vin (by decide), ?_⟩
  refine xcall (fm_sheet _ _ _ fun F2 v2 => ?_)
  refine br_c (fun _ => ?_) (fun z => absurd rfl z)
  refine hP _ _ _ _ _ ?_
  exact lw_exit 6 (Nat.le_refl 6) xs _ _
set_option maxRecDepth 100000 in
theorem lw_c31 (xs : Nat → Int32) (b : xB) : xWP (pg_Z_law 6 xs) xK1 1315 (xl1 0) [] wB0 b := by
  refine xWP_go 80 [(18, [0, 1, 2, 3])] fun P hP => ?_
  refine ⟨rfl, vin (by decide), ?_⟩
  refine ⟨rfl, vin (by decide), ?_⟩
  refine ⟨rfl, vin (by decide), ?_⟩
  refine xcall (fr_put _ _ _ fun F v => ?_)
  refine ⟨rfl, vin (by decide), ?_⟩
  refine ⟨rfl, vin (by decide), ?_⟩
  refine ⟨rfl, vin (by decide), ?_⟩
  refine xcall (fm_put _ _ _ fun F2 v2 => ?_)
  refine br_c (fun _ => ?_) (fun z => absurd rfl z)
  refine hP _ _ _ _ _ ?_
  exact lw_exit 6 (Nat.le_refl 6) xs _ _
set_option maxRecDepth 100000 in
theorem lw_c32 (xs : Nat → Int32) (b : xB) : xWP (pg_Z_law 6 xs) xK1 1358 (xl1 0) [] wB0 b := by
  refine xWP_go 80 [(18, [0, 1, 2, 3])] fun P hP => ?_
  refine ⟨rfl, vin (by decide), ?_⟩
  refine ⟨rfl, vin (by decide), ?_⟩
  refine ⟨rfl, vin (by decide), ?_⟩
  refine ⟨rfl, vin (by decide), ?_⟩
  refine ⟨rfl, vin (by decide), ?_⟩
  refine xcall (fr_move _ _ _ _ _ fun F v => ?_)
  refine ⟨rfl, vin (by decide), ?_⟩
  refine ⟨rfl, vin (by decide), ?_⟩
  refine ⟨rfl, vin (by decide), ?_⟩
  refine ⟨rfl, vin (by decide), ?_⟩
  refine ⟨rfl, vin (by decide), ?_⟩
  refine xcall (fm_move _ _ _ _ _ fun F2 v2 => ?_)
  refine br_c (fun _ => ?_) (fun z => absurd rfl z)
  refine hP _ _ _ _ _ ?_
  exact lw_exit 6 (Nat.le_refl 6) xs _ _
set_option maxRecDepth 100000 in
theorem lw_c33 (xs : Nat → Int32) (b : xB) : xWP (pg_Z_law 6 xs) xK1 1421 (xl1 0) [] wB0 b := by
  refine xWP_go 80 [(18, [0, 1, 2, 3])] fun P hP => ?_
  refine ⟨rfl, vin (by decide), ?_⟩
  refine xcall (fr_places _ fun F v => ?_)
  refine ⟨rfl, vin (by decide), ?_⟩
  refine xcall (fm_places _ fun F2 v2 => ?_)
  refine br_c (fun _ => ?_) (fun z => absurd rfl z)
  refine hP _ _ _ _ _ ?_
  exact lw_exit 6 (Nat.le_refl 6) xs _ _
set_option maxRecDepth 100000 in
theorem lw_c34 (xs : Nat → Int32) (b : xB) : xWP (pg_Z_law 6 xs) xK1 1444 (xl1 0) [] wB0 b := by
  refine xWP_go 80 [(18, [0, 1, 2, 3])] fun P hP => ?_
  refine ⟨rfl, vin (by decide), ?_⟩
  refine xcall (fr_judge _ fun F v => ?_)
  refine ⟨rfl, vin (by decide), ?_⟩
  refine xcall (fm_judge _ fun F2 v2 => ?_)
  refine br_c (fun _ => ?_) (fun z => absurd rfl z)
  refine hP _ _ _ _ _ ?_
  exact lw_exit 6 (Nat.le_refl 6) xs _ _
set_option maxRecDepth 100000 in
theorem lw_c35 (xs : Nat → Int32) (b : xB) : xWP (pg_Z_law 6 xs) xK1 1467 (xl1 0) [] wB0 b := by
  refine xWP_go 80 [(18, [0, 1, 2, 3])] fun P hP => ?_
  refine xcall (fr_image fun F v => ?_)
  refine xcall (fm_image fun F2 v2 => ?_)
  refine br_c (fun _ => ?_) (fun z => absurd rfl z)
  refine hP _ _ _ _ _ ?_
  exact lw_exit 6 (Nat.le_refl 6) xs _ _
set_option maxRecDepth 100000 in
theorem lw_c36 (xs : Nat → Int32) (b : xB) : xWP (pg_Z_law 6 xs) xK1 1480 (xl1 0) [] wB0 b := by
  refine xWP_go 80 [(18, [0, 1, 2, 3])] fun P hP => ?_
  refine xcall (fr_restore fun F v => ?_)
  refine xcall (fm_restore fun F2 v2 => ?_)
  refine br_c (fun _ => ?_) (fun z => absurd rfl z)
  refine hP _ _ _ _ _ ?_
  exact lw_exit 6 (Nat.le_refl 6) xs _ _
set_option maxRecDepth 100000 in
theorem lw_c37 (xs : Nat → Int32) (b : xB) : xWP (pg_Z_law 6 xs) xK1 1493 (xl1 0) [] wB0 b := by
  refine xWP_go 80 [(18, [0, 1, 2, 3])] fun P hP => ?_
  refine ⟨rfl, vin (by decide), ?_⟩
  refine xcall (fr_tell _ fun F v => ?_)
  refine ⟨rfl, vin (by decide), ?_⟩
  refine xcall (fm_tell _ fun F2 v2 => ?_)
  refine br_c (fun _ => ?_) (fun z => absurd rfl z)
  refine hP _ _ _ _ _ ?_
  exact lw_exit 6 (Nat.le_refl 6) xs _ _
set_option maxRecDepth 100000 in
theorem lw_c38 (xs : Nat → Int32) (b : xB) : xWP (pg_Z_law 6 xs) xK1 1516 (xl1 0) [] wB0 b := by
  refine xWP_go 80 [(18, [0, 1, 2, 3])] fun P hP => ?_
  refine xcall (fr_check fun F v => ?_)
  refine xcall (fm_check fun F2 v2 => ?_)
  refine br_c (fun _ => ?_) (fun z => absurd rfl z)
  refine hP _ _ _ _ _ ?_
  exact lw_exit 6 (Nat.le_refl 6) xs _ _
set_option maxRecDepth 100000 in
theorem lw_c39 (xs : Nat → Int32) (b : xB) : xWP (pg_Z_law 6 xs) xK1 1529 (xl1 0) [] wB0 b := by
  refine xWP_go 80 [(18, [0, 1, 2, 3])] fun P hP => ?_
  refine ⟨rfl, vin (by decide), ?_⟩
  refine xcall (fr_count _ fun F v => ?_)
  refine ⟨rfl, vin (by decide), ?_⟩
  refine xcall (fm_count _ fun F2 v2 => ?_)
  refine br_c (fun _ => ?_) (fun z => absurd rfl z)
  refine hP _ _ _ _ _ ?_
  exact lw_exit 6 (Nat.le_refl 6) xs _ _
set_option maxRecDepth 100000 in
theorem lw_c40 (xs : Nat → Int32) (b : xB) : xWP (pg_Z_law 6 xs) xK1 1552 (xl1 0) [] wB0 b := by
  refine xWP_go 80 [(18, [0, 1, 2, 3])] fun P hP => ?_
  refine ⟨rfl, vin (by decide), ?_⟩
  refine xcall (fr_told _ fun F v => ?_)
  refine ⟨rfl, vin (by decide), ?_⟩
  refine xcall (fm_told _ fun F2 v2 => ?_)
  refine br_c (fun _ => ?_) (fun z => absurd rfl z)
  refine hP _ _ _ _ _ ?_
  exact lw_exit 6 (Nat.le_refl 6) xs _ _
set_option maxRecDepth 100000 in
theorem lw_six (xs : Nat → Int32) (b : xB) : xWP (pg_Z_law 6 xs) xK1 18 (xl1 0) [] wB0 b := by
  refine xWP_go 60 [(18, [0, 1, 2, 3]), (212, [0, 1, 2, 3]), (245, [0, 1, 2, 3]), (278, [0, 1, 2, 3]), (321, [0, 1, 2, 3]), (354, [0, 1, 2, 3]), (387, [0, 1, 2, 3]), (430, [0, 1, 2, 3]), (453, [0, 1, 2, 3]), (486, [0, 1, 2, 3]), (519, [0, 1, 2, 3]), (582, [0, 1, 2, 3]), (605, [0, 1, 2, 3]), (658, [0, 1, 2, 3]), (691, [0, 1, 2, 3]), (714, [0, 1, 2, 3]), (747, [0, 1, 2, 3]), (790, [0, 1, 2, 3]), (823, [0, 1, 2, 3]), (856, [0, 1, 2, 3]), (899, [0, 1, 2, 3]), (922, [0, 1, 2, 3]), (965, [0, 1, 2, 3]), (1008, [0, 1, 2, 3]), (1041, [0, 1, 2, 3]), (1074, [0, 1, 2, 3]), (1097, [0, 1, 2, 3]), (1140, [0, 1, 2, 3]), (1183, [0, 1, 2, 3]), (1206, [0, 1, 2, 3]), (1249, [0, 1, 2, 3]), (1272, [0, 1, 2, 3]), (1315, [0, 1, 2, 3]), (1358, [0, 1, 2, 3]), (1421, [0, 1, 2, 3]), (1444, [0, 1, 2, 3]), (1467, [0, 1, 2, 3]), (1480, [0, 1, 2, 3]), (1493, [0, 1, 2, 3]), (1516, [0, 1, 2, 3]), (1529, [0, 1, 2, 3]), (1552, [0, 1, 2, 3])] fun P hP => ?_
  refine ⟨rfl, ?_⟩
  refine br_c (fun z => absurd z (by decide)) (fun _ => ?_)
  refine ⟨rfl, vin (by decide), ?_⟩
  refine ⟨fun _ => hP _ _ _ _ _ (lw_c0 xs _), fun _ => ?_⟩
  refine ⟨fun _ => hP _ _ _ _ _ (lw_c1 xs _), fun _ => ?_⟩
  refine ⟨fun _ => hP _ _ _ _ _ (lw_c2 xs _), fun _ => ?_⟩
  refine ⟨fun _ => hP _ _ _ _ _ (lw_c3 xs _), fun _ => ?_⟩
  refine ⟨fun _ => hP _ _ _ _ _ (lw_c4 xs _), fun _ => ?_⟩
  refine ⟨fun _ => hP _ _ _ _ _ (lw_c5 xs _), fun _ => ?_⟩
  refine ⟨fun _ => hP _ _ _ _ _ (lw_c6 xs _), fun _ => ?_⟩
  refine ⟨fun _ => hP _ _ _ _ _ (lw_c7 xs _), fun _ => ?_⟩
  refine ⟨fun _ => hP _ _ _ _ _ (lw_c8 xs _), fun _ => ?_⟩
  refine ⟨fun _ => hP _ _ _ _ _ (lw_c9 xs _), fun _ => ?_⟩
  refine ⟨fun _ => hP _ _ _ _ _ (lw_c10 xs _), fun _ => ?_⟩
  refine ⟨fun _ => hP _ _ _ _ _ (lw_c11 xs _), fun _ => ?_⟩
  refine ⟨fun _ => hP _ _ _ _ _ (lw_c12 xs _), fun _ => ?_⟩
  refine ⟨fun _ => hP _ _ _ _ _ (lw_c13 xs _), fun _ => ?_⟩
  refine ⟨fun _ => hP _ _ _ _ _ (lw_c14 xs _), fun _ => ?_⟩
  refine ⟨fun _ => hP _ _ _ _ _ (lw_c15 xs _), fun _ => ?_⟩
  refine ⟨fun _ => hP _ _ _ _ _ (lw_c16 xs _), fun _ => ?_⟩
  refine ⟨fun _ => hP _ _ _ _ _ (lw_c17 xs _), fun _ => ?_⟩
  refine ⟨fun _ => hP _ _ _ _ _ (lw_c18 xs _), fun _ => ?_⟩
  refine ⟨fun _ => hP _ _ _ _ _ (lw_c19 xs _), fun _ => ?_⟩
  refine ⟨fun _ => hP _ _ _ _ _ (lw_c20 xs _), fun _ => ?_⟩
  refine ⟨fun _ => hP _ _ _ _ _ (lw_c21 xs _), fun _ => ?_⟩
  refine ⟨fun _ => hP _ _ _ _ _ (lw_c22 xs _), fun _ => ?_⟩
  refine ⟨fun _ => hP _ _ _ _ _ (lw_c23 xs _), fun _ => ?_⟩
  refine ⟨fun _ => hP _ _ _ _ _ (lw_c24 xs _), fun _ => ?_⟩
  refine ⟨fun _ => hP _ _ _ _ _ (lw_c25 xs _), fun _ => ?_⟩
  refine ⟨fun _ => hP _ _ _ _ _ (lw_c26 xs _), fun _ => ?_⟩
  refine ⟨fun _ => hP _ _ _ _ _ (lw_c27 xs _), fun _ => ?_⟩
  refine ⟨fun _ => hP _ _ _ _ _ (lw_c28 xs _), fun _ => ?_⟩
  refine ⟨fun _ => hP _ _ _ _ _ (lw_c29 xs _), fun _ => ?_⟩
  refine ⟨fun _ => hP _ _ _ _ _ (lw_c30 xs _), fun _ => ?_⟩
  refine ⟨fun _ => hP _ _ _ _ _ (lw_c31 xs _), fun _ => ?_⟩
  refine ⟨fun _ => hP _ _ _ _ _ (lw_c32 xs _), fun _ => ?_⟩
  refine ⟨fun _ => hP _ _ _ _ _ (lw_c33 xs _), fun _ => ?_⟩
  refine ⟨fun _ => hP _ _ _ _ _ (lw_c34 xs _), fun _ => ?_⟩
  refine ⟨fun _ => hP _ _ _ _ _ (lw_c35 xs _), fun _ => ?_⟩
  refine ⟨fun _ => hP _ _ _ _ _ (lw_c36 xs _), fun _ => ?_⟩
  refine ⟨fun _ => hP _ _ _ _ _ (lw_c37 xs _), fun _ => ?_⟩
  refine ⟨fun _ => hP _ _ _ _ _ (lw_c38 xs _), fun _ => ?_⟩
  refine ⟨fun _ => hP _ _ _ _ _ (lw_c39 xs _), fun _ => ?_⟩
  refine ⟨fun _ => hP _ _ _ _ _ (lw_c40 xs _), fun _ => ?_⟩
  refine hP _ _ _ _ _ ?_
  exact lw_exit 6 (Nat.le_refl 6) xs _ _
set_option maxRecDepth 100000 in
theorem lw_run (L : Nat) (hL : L ≤ 6) (xs : Nat → Int32) : xWP (pg_Z_law L xs) xK1 0 [(0, .float 3)] [] [] (0, 0) := by
  refine xWP_go 60 [(18, [0, 1, 2, 3])] fun P hP => ?_
  refine xcall (sp_H_init _ ?_)
  refine xcall (sp_M_init _ ?_)
  refine hP _ _ _ _ _ ?_
  rcases Nat.lt_or_ge L 6 with h | h
  · exact lw_short L (by omega) xs _ _
  · obtain rfl : L = 6 := by omega
    exact lw_six xs _
