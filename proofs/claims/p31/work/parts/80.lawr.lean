/-! ===== the law on every script ===== -/
abbrev xK1 : xKo := fun r _ => r = some (.int 1)
abbrev xl1 (i : Int32) : xL := [(0, .float 3), (1, .ref 0), (2, .ref 70), (3, .int i)]
def lwI (n : Nat) (w : xW) : Prop := ∃ F v F2 v2, w = xfill F v 0 wH0 ++ xfill F2 v2 0 (wM0 70) ∧ agr (hA F v) (mA F2 v2) ∧ aIv n (hA F v) ∧ hS v ∧ mS F2 v2
theorem lw_ix {L i : Nat} (k : Nat) (h : i + k < L) (hL : L ≤ 3072) : vp_in (nI i + nI k) L := by
  rw [nI_add]
  exact vp_in_nI (by omega) (by omega)
theorem lw_end {L i : Nat} (hL : L ≤ 3072) (hi : i ≤ 3072) : nI L - nI 6 < nI i ↔ L < i + 6 := by
  rw [xlt, Int32.toInt_sub, nI_toInt (by omega), nI_toInt (by omega), nI_toInt (by omega)]
  have e : ((L : Int) - (6 : Nat)).bmod (2 ^ 32) = (L : Int) - 6 := Int.bmod_eq_of_le (by omega) (by omega)
  rw [e]
  omega
set_option maxRecDepth 100000 in
theorem lw_c0 (L : Nat) (hL : L ≤ 3072) (xs : Nat → Int32) (i n : Nat) (hi : i + 6 ≤ L) (hn : n < 1000) (F v F2 v2 : xS) (A : agr (hA F v) (mA F2 v2)) (I : aIv n (hA F v)) (S : hS v) (S2 : mS F2 v2) (b : xB) (hk : ∀ w b, lwI (n + 1) w → xWP (pg_Z_law L xs) xK1 18 (xl1 (nI i + 6)) [] w b) : xWP (pg_Z_law L xs) xK1 212 (xl1 (nI i)) [] (xfill F v 0 wH0 ++ xfill F2 v2 0 (wM0 70)) b := by
  have J : aIv n (mA F2 v2) := I.of A
  refine xWP_go 120 [(18, [0, 1, 2, 3])] fun P hP => ?_
  refine ⟨rfl, lw_ix 1 (by omega) hL, ?_⟩
  refine ⟨rfl, lw_ix 2 (by omega) hL, ?_⟩
  refine xcall (hs_thing n F v I S _ _ (fun F' v' S' A' => ?_))
  refine ⟨rfl, lw_ix 1 (by omega) hL, ?_⟩
  refine ⟨rfl, lw_ix 2 (by omega) hL, ?_⟩
  refine xcall (ms_thing n F2 v2 J S2 _ _ (fun F3 v3 S3 A3 => ?_))
  refine hP _ _ _ _ _ ?_
  exact hk _ _ ⟨F', v', F3, v3, rfl, A'.tr ((pg_thing A I _ _).tr A3.sy), (pi_thing I _ _).up.of A'.sy, S', S3⟩
set_option maxRecDepth 100000 in
theorem lw_c1 (L : Nat) (hL : L ≤ 3072) (xs : Nat → Int32) (i n : Nat) (hi : i + 6 ≤ L) (hn : n < 1000) (F v F2 v2 : xS) (A : agr (hA F v) (mA F2 v2)) (I : aIv n (hA F v)) (S : hS v) (S2 : mS F2 v2) (b : xB) (hk : ∀ w b, lwI (n + 1) w → xWP (pg_Z_law L xs) xK1 18 (xl1 (nI i + 6)) [] w b) : xWP (pg_Z_law L xs) xK1 245 (xl1 (nI i)) [] (xfill F v 0 wH0 ++ xfill F2 v2 0 (wM0 70)) b := by
  have J : aIv n (mA F2 v2) := I.of A
  refine xWP_go 120 [(18, [0, 1, 2, 3])] fun P hP => ?_
  refine ⟨rfl, lw_ix 1 (by omega) hL, ?_⟩
  refine ⟨rfl, lw_ix 2 (by omega) hL, ?_⟩
  refine xcall (hs_ofThing n F v I S _ _ (fun F' v' S' A' => ?_))
  refine ⟨rfl, lw_ix 1 (by omega) hL, ?_⟩
  refine ⟨rfl, lw_ix 2 (by omega) hL, ?_⟩
  refine xcall (ms_ofThing n F2 v2 J S2 _ _ (fun F3 v3 S3 A3 => ?_))
  refine hP _ _ _ _ _ ?_
  exact hk _ _ ⟨F', v', F3, v3, rfl, A'.tr (A.tr A3.sy), I.up.of A'.sy, S', S3⟩
set_option maxRecDepth 100000 in
theorem lw_c2 (L : Nat) (hL : L ≤ 3072) (xs : Nat → Int32) (i n : Nat) (hi : i + 6 ≤ L) (hn : n < 1000) (F v F2 v2 : xS) (A : agr (hA F v) (mA F2 v2)) (I : aIv n (hA F v)) (S : hS v) (S2 : mS F2 v2) (b : xB) (hk : ∀ w b, lwI (n + 1) w → xWP (pg_Z_law L xs) xK1 18 (xl1 (nI i + 6)) [] w b) : xWP (pg_Z_law L xs) xK1 278 (xl1 (nI i)) [] (xfill F v 0 wH0 ++ xfill F2 v2 0 (wM0 70)) b := by
  have J : aIv n (mA F2 v2) := I.of A
  refine xWP_go 120 [(18, [0, 1, 2, 3])] fun P hP => ?_
  refine ⟨rfl, lw_ix 1 (by omega) hL, ?_⟩
  refine ⟨rfl, lw_ix 2 (by omega) hL, ?_⟩
  refine ⟨rfl, lw_ix 3 (by omega) hL, ?_⟩
  refine xcall (hs_shift n F v I S _ _ _ (fun F' v' S' A' => ?_))
  refine ⟨rfl, lw_ix 1 (by omega) hL, ?_⟩
  refine ⟨rfl, lw_ix 2 (by omega) hL, ?_⟩
  refine ⟨rfl, lw_ix 3 (by omega) hL, ?_⟩
  refine xcall (ms_shift n F2 v2 J S2 _ _ _ (fun F3 v3 S3 A3 => ?_))
  refine hP _ _ _ _ _ ?_
  exact hk _ _ ⟨F', v', F3, v3, rfl, A'.tr ((pg_shift A I _ _ _).tr A3.sy), (pi_shift I _ _ _).up.of A'.sy, S', S3⟩
set_option maxRecDepth 100000 in
theorem lw_c3 (L : Nat) (hL : L ≤ 3072) (xs : Nat → Int32) (i n : Nat) (hi : i + 6 ≤ L) (hn : n < 1000) (F v F2 v2 : xS) (A : agr (hA F v) (mA F2 v2)) (I : aIv n (hA F v)) (S : hS v) (S2 : mS F2 v2) (b : xB) (hk : ∀ w b, lwI (n + 1) w → xWP (pg_Z_law L xs) xK1 18 (xl1 (nI i + 6)) [] w b) : xWP (pg_Z_law L xs) xK1 321 (xl1 (nI i)) [] (xfill F v 0 wH0 ++ xfill F2 v2 0 (wM0 70)) b := by
  have J : aIv n (mA F2 v2) := I.of A
  refine xWP_go 120 [(18, [0, 1, 2, 3])] fun P hP => ?_
  refine ⟨rfl, lw_ix 1 (by omega) hL, ?_⟩
  refine ⟨rfl, lw_ix 2 (by omega) hL, ?_⟩
  refine xcall (hs_child n F v I S _ _ (fun F' v' S' A' => ?_))
  refine ⟨rfl, lw_ix 1 (by omega) hL, ?_⟩
  refine ⟨rfl, lw_ix 2 (by omega) hL, ?_⟩
  refine xcall (ms_child n F2 v2 J S2 _ _ (fun F3 v3 S3 A3 => ?_))
  refine hP _ _ _ _ _ ?_
  exact hk _ _ ⟨F', v', F3, v3, rfl, A'.tr ((pg_child A I _ _).tr A3.sy), (pi_child I _ _).up.of A'.sy, S', S3⟩
set_option maxRecDepth 100000 in
theorem lw_c4 (L : Nat) (hL : L ≤ 3072) (xs : Nat → Int32) (i n : Nat) (hi : i + 6 ≤ L) (hn : n < 1000) (F v F2 v2 : xS) (A : agr (hA F v) (mA F2 v2)) (I : aIv n (hA F v)) (S : hS v) (S2 : mS F2 v2) (b : xB) (hk : ∀ w b, lwI (n + 1) w → xWP (pg_Z_law L xs) xK1 18 (xl1 (nI i + 6)) [] w b) : xWP (pg_Z_law L xs) xK1 354 (xl1 (nI i)) [] (xfill F v 0 wH0 ++ xfill F2 v2 0 (wM0 70)) b := by
  have J : aIv n (mA F2 v2) := I.of A
  refine xWP_go 120 [(18, [0, 1, 2, 3])] fun P hP => ?_
  refine ⟨rfl, lw_ix 1 (by omega) hL, ?_⟩
  refine ⟨rfl, lw_ix 2 (by omega) hL, ?_⟩
  refine xcall (hs_ofChild n F v I S _ _ (fun r F' v' S' A' => ?_))
  refine ⟨rfl, lw_ix 1 (by omega) hL, ?_⟩
  refine ⟨rfl, lw_ix 2 (by omega) hL, ?_⟩
  refine xcall (ms_ofChild n F2 v2 J S2 _ _ (fun q F3 v3 S3 A3 => ?_))
  refine hP _ _ _ _ _ ?_
  exact hk _ _ ⟨F', v', F3, v3, rfl, A'.tr (A.tr A3.sy), I.up.of A'.sy, S', S3⟩
set_option maxRecDepth 100000 in
theorem lw_c5 (L : Nat) (hL : L ≤ 3072) (xs : Nat → Int32) (i n : Nat) (hi : i + 6 ≤ L) (hn : n < 1000) (F v F2 v2 : xS) (A : agr (hA F v) (mA F2 v2)) (I : aIv n (hA F v)) (S : hS v) (S2 : mS F2 v2) (b : xB) (hk : ∀ w b, lwI (n + 1) w → xWP (pg_Z_law L xs) xK1 18 (xl1 (nI i + 6)) [] w b) : xWP (pg_Z_law L xs) xK1 387 (xl1 (nI i)) [] (xfill F v 0 wH0 ++ xfill F2 v2 0 (wM0 70)) b := by
  have J : aIv n (mA F2 v2) := I.of A
  refine xWP_go 120 [(18, [0, 1, 2, 3])] fun P hP => ?_
  refine ⟨rfl, lw_ix 1 (by omega) hL, ?_⟩
  refine ⟨rfl, lw_ix 2 (by omega) hL, ?_⟩
  refine ⟨rfl, lw_ix 3 (by omega) hL, ?_⟩
  refine xcall (hs_change n F v I S _ _ _ (fun r F' v' S' A' => ?_))
  refine ⟨rfl, lw_ix 1 (by omega) hL, ?_⟩
  refine ⟨rfl, lw_ix 2 (by omega) hL, ?_⟩
  refine ⟨rfl, lw_ix 3 (by omega) hL, ?_⟩
  refine xcall (ms_change n F2 v2 J S2 _ _ _ (fun q F3 v3 S3 A3 => ?_))
  refine hP _ _ _ _ _ ?_
  exact hk _ _ ⟨F', v', F3, v3, rfl, A'.tr (A.tr A3.sy), I.up.of A'.sy, S', S3⟩
set_option maxRecDepth 100000 in
theorem lw_c6 (L : Nat) (hL : L ≤ 3072) (xs : Nat → Int32) (i n : Nat) (hi : i + 6 ≤ L) (hn : n < 1000) (F v F2 v2 : xS) (A : agr (hA F v) (mA F2 v2)) (I : aIv n (hA F v)) (S : hS v) (S2 : mS F2 v2) (b : xB) (hk : ∀ w b, lwI (n + 1) w → xWP (pg_Z_law L xs) xK1 18 (xl1 (nI i + 6)) [] w b) : xWP (pg_Z_law L xs) xK1 430 (xl1 (nI i)) [] (xfill F v 0 wH0 ++ xfill F2 v2 0 (wM0 70)) b := by
  have J : aIv n (mA F2 v2) := I.of A
  refine xWP_go 120 [(18, [0, 1, 2, 3])] fun P hP => ?_
  refine ⟨rfl, lw_ix 1 (by omega) hL, ?_⟩
  refine xcall (hs_it n F v I S _ (fun r F' v' S' A' => ?_))
  refine ⟨rfl, lw_ix 1 (by omega) hL, ?_⟩
  refine xcall (ms_it n F2 v2 J S2 _ (fun q F3 v3 S3 A3 => ?_))
  refine hP _ _ _ _ _ ?_
  exact hk _ _ ⟨F', v', F3, v3, rfl, A'.tr (A.tr A3.sy), I.up.of A'.sy, S', S3⟩
set_option maxRecDepth 100000 in
theorem lw_c7 (L : Nat) (hL : L ≤ 3072) (xs : Nat → Int32) (i n : Nat) (hi : i + 6 ≤ L) (hn : n < 1000) (F v F2 v2 : xS) (A : agr (hA F v) (mA F2 v2)) (I : aIv n (hA F v)) (S : hS v) (S2 : mS F2 v2) (b : xB) (hk : ∀ w b, lwI (n + 1) w → xWP (pg_Z_law L xs) xK1 18 (xl1 (nI i + 6)) [] w b) : xWP (pg_Z_law L xs) xK1 453 (xl1 (nI i)) [] (xfill F v 0 wH0 ++ xfill F2 v2 0 (wM0 70)) b := by
  have J : aIv n (mA F2 v2) := I.of A
  refine xWP_go 120 [(18, [0, 1, 2, 3])] fun P hP => ?_
  refine ⟨rfl, lw_ix 1 (by omega) hL, ?_⟩
  refine ⟨rfl, lw_ix 2 (by omega) hL, ?_⟩
  refine xcall (hs_become n F v I S _ _ (fun F' v' S' A' => ?_))
  refine ⟨rfl, lw_ix 1 (by omega) hL, ?_⟩
  refine ⟨rfl, lw_ix 2 (by omega) hL, ?_⟩
  refine xcall (ms_become n F2 v2 J S2 _ _ (fun F3 v3 S3 A3 => ?_))
  refine hP _ _ _ _ _ ?_
  exact hk _ _ ⟨F', v', F3, v3, rfl, A'.tr ((pg_become A _ _).tr A3.sy), (pi_become I _ _).up.of A'.sy, S', S3⟩
set_option maxRecDepth 100000 in
theorem lw_c8 (L : Nat) (hL : L ≤ 3072) (xs : Nat → Int32) (i n : Nat) (hi : i + 6 ≤ L) (hn : n < 1000) (F v F2 v2 : xS) (A : agr (hA F v) (mA F2 v2)) (I : aIv n (hA F v)) (S : hS v) (S2 : mS F2 v2) (b : xB) (hk : ∀ w b, lwI (n + 1) w → xWP (pg_Z_law L xs) xK1 18 (xl1 (nI i + 6)) [] w b) : xWP (pg_Z_law L xs) xK1 486 (xl1 (nI i)) [] (xfill F v 0 wH0 ++ xfill F2 v2 0 (wM0 70)) b := by
  have J : aIv n (mA F2 v2) := I.of A
  refine xWP_go 120 [(18, [0, 1, 2, 3])] fun P hP => ?_
  refine ⟨rfl, lw_ix 1 (by omega) hL, ?_⟩
  refine ⟨rfl, lw_ix 2 (by omega) hL, ?_⟩
  refine xcall (hs_as n F v I S _ _ (fun F' v' S' A' => ?_))
  refine ⟨rfl, lw_ix 1 (by omega) hL, ?_⟩
  refine ⟨rfl, lw_ix 2 (by omega) hL, ?_⟩
  refine xcall (ms_as n F2 v2 J S2 _ _ (fun F3 v3 S3 A3 => ?_))
  refine hP _ _ _ _ _ ?_
  exact hk _ _ ⟨F', v', F3, v3, rfl, A'.tr (A.tr A3.sy), I.up.of A'.sy, S', S3⟩
set_option maxRecDepth 100000 in
theorem lw_c9 (L : Nat) (hL : L ≤ 3072) (xs : Nat → Int32) (i n : Nat) (hi : i + 6 ≤ L) (hn : n < 1000) (F v F2 v2 : xS) (A : agr (hA F v) (mA F2 v2)) (I : aIv n (hA F v)) (S : hS v) (S2 : mS F2 v2) (b : xB) (hk : ∀ w b, lwI (n + 1) w → xWP (pg_Z_law L xs) xK1 18 (xl1 (nI i + 6)) [] w b) : xWP (pg_Z_law L xs) xK1 519 (xl1 (nI i)) [] (xfill F v 0 wH0 ++ xfill F2 v2 0 (wM0 70)) b := by
  have J : aIv n (mA F2 v2) := I.of A
  refine xWP_go 120 [(18, [0, 1, 2, 3])] fun P hP => ?_
  refine ⟨rfl, lw_ix 1 (by omega) hL, ?_⟩
  refine ⟨rfl, lw_ix 2 (by omega) hL, ?_⟩
  refine ⟨rfl, lw_ix 3 (by omega) hL, ?_⟩
  refine xcall (hs_feed n F v I S _ _ (fun F' v' S' A' => ?_))
  refine ⟨rfl, lw_ix 1 (by omega) hL, ?_⟩
  refine ⟨rfl, lw_ix 2 (by omega) hL, ?_⟩
  refine ⟨rfl, lw_ix 3 (by omega) hL, ?_⟩
  refine xcall (ms_feed n F2 v2 J S2 _ _ (fun F3 v3 S3 A3 => ?_))
  refine hP _ _ _ _ _ ?_
  exact hk _ _ ⟨F', v', F3, v3, rfl, A'.tr ((pg_feed A I _ _).tr A3.sy), (pi_feed I _ _).up.of A'.sy, S', S3⟩
set_option maxRecDepth 100000 in
theorem lw_c10 (L : Nat) (hL : L ≤ 3072) (xs : Nat → Int32) (i n : Nat) (hi : i + 6 ≤ L) (hn : n < 1000) (F v F2 v2 : xS) (A : agr (hA F v) (mA F2 v2)) (I : aIv n (hA F v)) (S : hS v) (S2 : mS F2 v2) (b : xB) (hk : ∀ w b, lwI (n + 1) w → xWP (pg_Z_law L xs) xK1 18 (xl1 (nI i + 6)) [] w b) : xWP (pg_Z_law L xs) xK1 582 (xl1 (nI i)) [] (xfill F v 0 wH0 ++ xfill F2 v2 0 (wM0 70)) b := by
  have J : aIv n (mA F2 v2) := I.of A
  refine xWP_go 120 [(18, [0, 1, 2, 3])] fun P hP => ?_
  refine ⟨rfl, lw_ix 1 (by omega) hL, ?_⟩
  refine xcall (hs_text n F v I S _ (fun r F' v' S' A' => ?_))
  refine ⟨rfl, lw_ix 1 (by omega) hL, ?_⟩
  refine xcall (ms_text n F2 v2 J S2 _ (fun q F3 v3 S3 A3 => ?_))
  refine hP _ _ _ _ _ ?_
  exact hk _ _ ⟨F', v', F3, v3, rfl, A'.tr ((pg_text A _).tr A3.sy), (pi_text I _).up.of A'.sy, S', S3⟩
set_option maxRecDepth 100000 in
theorem lw_c11 (L : Nat) (hL : L ≤ 3072) (xs : Nat → Int32) (i n : Nat) (hi : i + 6 ≤ L) (hn : n < 1000) (F v F2 v2 : xS) (A : agr (hA F v) (mA F2 v2)) (I : aIv n (hA F v)) (S : hS v) (S2 : mS F2 v2) (b : xB) (hk : ∀ w b, lwI (n + 1) w → xWP (pg_Z_law L xs) xK1 18 (xl1 (nI i + 6)) [] w b) : xWP (pg_Z_law L xs) xK1 605 (xl1 (nI i)) [] (xfill F v 0 wH0 ++ xfill F2 v2 0 (wM0 70)) b := by
  have J : aIv n (mA F2 v2) := I.of A
  refine xWP_go 120 [(18, [0, 1, 2, 3])] fun P hP => ?_
  refine ⟨rfl, lw_ix 1 (by omega) hL, ?_⟩
  refine ⟨rfl, lw_ix 2 (by omega) hL, ?_⟩
  refine ⟨rfl, lw_ix 3 (by omega) hL, ?_⟩
  refine ⟨rfl, lw_ix 4 (by omega) hL, ?_⟩
  refine xcall (hs_law n F v I S _ _ _ _ (fun r F' v' S' A' => ?_))
  refine ⟨rfl, lw_ix 1 (by omega) hL, ?_⟩
  refine ⟨rfl, lw_ix 2 (by omega) hL, ?_⟩
  refine ⟨rfl, lw_ix 3 (by omega) hL, ?_⟩
  refine ⟨rfl, lw_ix 4 (by omega) hL, ?_⟩
  refine xcall (ms_law n F2 v2 J S2 _ _ _ _ (fun q F3 v3 S3 A3 => ?_))
  refine hP _ _ _ _ _ ?_
  exact hk _ _ ⟨F', v', F3, v3, rfl, A'.tr (A.tr A3.sy), I.up.of A'.sy, S', S3⟩
set_option maxRecDepth 100000 in
theorem lw_c12 (L : Nat) (hL : L ≤ 3072) (xs : Nat → Int32) (i n : Nat) (hi : i + 6 ≤ L) (hn : n < 1000) (F v F2 v2 : xS) (A : agr (hA F v) (mA F2 v2)) (I : aIv n (hA F v)) (S : hS v) (S2 : mS F2 v2) (b : xB) (hk : ∀ w b, lwI (n + 1) w → xWP (pg_Z_law L xs) xK1 18 (xl1 (nI i + 6)) [] w b) : xWP (pg_Z_law L xs) xK1 658 (xl1 (nI i)) [] (xfill F v 0 wH0 ++ xfill F2 v2 0 (wM0 70)) b := by
  have J : aIv n (mA F2 v2) := I.of A
  refine xWP_go 120 [(18, [0, 1, 2, 3])] fun P hP => ?_
  refine ⟨rfl, lw_ix 1 (by omega) hL, ?_⟩
  refine ⟨rfl, lw_ix 2 (by omega) hL, ?_⟩
  refine xcall (hs_call n F v I S _ _ (fun r F' v' S' A' => ?_))
  refine ⟨rfl, lw_ix 1 (by omega) hL, ?_⟩
  refine ⟨rfl, lw_ix 2 (by omega) hL, ?_⟩
  refine xcall (ms_call n F2 v2 J S2 _ _ (fun q F3 v3 S3 A3 => ?_))
  refine hP _ _ _ _ _ ?_
  exact hk _ _ ⟨F', v', F3, v3, rfl, A'.tr ((pg_call A _ _).tr A3.sy), (pi_call I _ _).up.of A'.sy, S', S3⟩
set_option maxRecDepth 100000 in
theorem lw_c13 (L : Nat) (hL : L ≤ 3072) (xs : Nat → Int32) (i n : Nat) (hi : i + 6 ≤ L) (hn : n < 1000) (F v F2 v2 : xS) (A : agr (hA F v) (mA F2 v2)) (I : aIv n (hA F v)) (S : hS v) (S2 : mS F2 v2) (b : xB) (hk : ∀ w b, lwI (n + 1) w → xWP (pg_Z_law L xs) xK1 18 (xl1 (nI i + 6)) [] w b) : xWP (pg_Z_law L xs) xK1 691 (xl1 (nI i)) [] (xfill F v 0 wH0 ++ xfill F2 v2 0 (wM0 70)) b := by
  have J : aIv n (mA F2 v2) := I.of A
  refine xWP_go 120 [(18, [0, 1, 2, 3])] fun P hP => ?_
  refine ⟨rfl, lw_ix 1 (by omega) hL, ?_⟩
  refine xcall (hs_loose n F v I S _ (fun r F' v' S' A' => ?_))
  refine ⟨rfl, lw_ix 1 (by omega) hL, ?_⟩
  refine xcall (ms_loose n F2 v2 J S2 _ (fun q F3 v3 S3 A3 => ?_))
  refine hP _ _ _ _ _ ?_
  exact hk _ _ ⟨F', v', F3, v3, rfl, A'.tr ((pg_loose A _).tr A3.sy), (pi_loose I _).up.of A'.sy, S', S3⟩
set_option maxRecDepth 100000 in
theorem lw_c14 (L : Nat) (hL : L ≤ 3072) (xs : Nat → Int32) (i n : Nat) (hi : i + 6 ≤ L) (hn : n < 1000) (F v F2 v2 : xS) (A : agr (hA F v) (mA F2 v2)) (I : aIv n (hA F v)) (S : hS v) (S2 : mS F2 v2) (b : xB) (hk : ∀ w b, lwI (n + 1) w → xWP (pg_Z_law L xs) xK1 18 (xl1 (nI i + 6)) [] w b) : xWP (pg_Z_law L xs) xK1 714 (xl1 (nI i)) [] (xfill F v 0 wH0 ++ xfill F2 v2 0 (wM0 70)) b := by
  have J : aIv n (mA F2 v2) := I.of A
  refine xWP_go 120 [(18, [0, 1, 2, 3])] fun P hP => ?_
  refine ⟨rfl, lw_ix 1 (by omega) hL, ?_⟩
  refine ⟨rfl, lw_ix 2 (by omega) hL, ?_⟩
  refine xcall (hs_hadBy n F v I S _ _ (fun r F' v' S' A' => ?_))
  refine ⟨rfl, lw_ix 1 (by omega) hL, ?_⟩
  refine ⟨rfl, lw_ix 2 (by omega) hL, ?_⟩
  refine xcall (ms_hadBy n F2 v2 J S2 _ _ (fun q F3 v3 S3 A3 => ?_))
  refine hP _ _ _ _ _ ?_
  exact hk _ _ ⟨F', v', F3, v3, rfl, A'.tr (A.tr A3.sy), I.up.of A'.sy, S', S3⟩
set_option maxRecDepth 100000 in
theorem lw_c15 (L : Nat) (hL : L ≤ 3072) (xs : Nat → Int32) (i n : Nat) (hi : i + 6 ≤ L) (hn : n < 1000) (F v F2 v2 : xS) (A : agr (hA F v) (mA F2 v2)) (I : aIv n (hA F v)) (S : hS v) (S2 : mS F2 v2) (b : xB) (hk : ∀ w b, lwI (n + 1) w → xWP (pg_Z_law L xs) xK1 18 (xl1 (nI i + 6)) [] w b) : xWP (pg_Z_law L xs) xK1 747 (xl1 (nI i)) [] (xfill F v 0 wH0 ++ xfill F2 v2 0 (wM0 70)) b := by
  have J : aIv n (mA F2 v2) := I.of A
  refine xWP_go 120 [(18, [0, 1, 2, 3])] fun P hP => ?_
  refine ⟨rfl, lw_ix 1 (by omega) hL, ?_⟩
  refine ⟨rfl, lw_ix 2 (by omega) hL, ?_⟩
  refine ⟨rfl, lw_ix 3 (by omega) hL, ?_⟩
  refine xcall (hs_runsTo n F v I S _ _ _ (fun r F' v' S' A' => ?_))
  refine ⟨rfl, lw_ix 1 (by omega) hL, ?_⟩
  refine ⟨rfl, lw_ix 2 (by omega) hL, ?_⟩
  refine ⟨rfl, lw_ix 3 (by omega) hL, ?_⟩
  refine xcall (ms_runsTo n F2 v2 J S2 _ _ _ (fun q F3 v3 S3 A3 => ?_))
  refine hP _ _ _ _ _ ?_
  exact hk _ _ ⟨F', v', F3, v3, rfl, A'.tr (A.tr A3.sy), I.up.of A'.sy, S', S3⟩
set_option maxRecDepth 100000 in
theorem lw_c16 (L : Nat) (hL : L ≤ 3072) (xs : Nat → Int32) (i n : Nat) (hi : i + 6 ≤ L) (hn : n < 1000) (F v F2 v2 : xS) (A : agr (hA F v) (mA F2 v2)) (I : aIv n (hA F v)) (S : hS v) (S2 : mS F2 v2) (b : xB) (hk : ∀ w b, lwI (n + 1) w → xWP (pg_Z_law L xs) xK1 18 (xl1 (nI i + 6)) [] w b) : xWP (pg_Z_law L xs) xK1 790 (xl1 (nI i)) [] (xfill F v 0 wH0 ++ xfill F2 v2 0 (wM0 70)) b := by
  have J : aIv n (mA F2 v2) := I.of A
  refine xWP_go 120 [(18, [0, 1, 2, 3])] fun P hP => ?_
  refine ⟨rfl, lw_ix 1 (by omega) hL, ?_⟩
  refine ⟨rfl, lw_ix 2 (by omega) hL, ?_⟩
  refine xcall (hs_worst n F v I S _ _ (fun r F' v' S' A' => ?_))
  refine ⟨rfl, lw_ix 1 (by omega) hL, ?_⟩
  refine ⟨rfl, lw_ix 2 (by omega) hL, ?_⟩
  refine xcall (ms_worst n F2 v2 J S2 _ _ (fun q F3 v3 S3 A3 => ?_))
  refine hP _ _ _ _ _ ?_
  exact hk _ _ ⟨F', v', F3, v3, rfl, A'.tr (A.tr A3.sy), I.up.of A'.sy, S', S3⟩
set_option maxRecDepth 100000 in
theorem lw_c17 (L : Nat) (hL : L ≤ 3072) (xs : Nat → Int32) (i n : Nat) (hi : i + 6 ≤ L) (hn : n < 1000) (F v F2 v2 : xS) (A : agr (hA F v) (mA F2 v2)) (I : aIv n (hA F v)) (S : hS v) (S2 : mS F2 v2) (b : xB) (hk : ∀ w b, lwI (n + 1) w → xWP (pg_Z_law L xs) xK1 18 (xl1 (nI i + 6)) [] w b) : xWP (pg_Z_law L xs) xK1 823 (xl1 (nI i)) [] (xfill F v 0 wH0 ++ xfill F2 v2 0 (wM0 70)) b := by
  have J : aIv n (mA F2 v2) := I.of A
  refine xWP_go 120 [(18, [0, 1, 2, 3])] fun P hP => ?_
  refine ⟨rfl, lw_ix 1 (by omega) hL, ?_⟩
  refine ⟨rfl, lw_ix 2 (by omega) hL, ?_⟩
  refine xcall (hs_best n F v I S _ _ (fun r F' v' S' A' => ?_))
  refine ⟨rfl, lw_ix 1 (by omega) hL, ?_⟩
  refine ⟨rfl, lw_ix 2 (by omega) hL, ?_⟩
  refine xcall (ms_best n F2 v2 J S2 _ _ (fun q F3 v3 S3 A3 => ?_))
  refine hP _ _ _ _ _ ?_
  exact hk _ _ ⟨F', v', F3, v3, rfl, A'.tr (A.tr A3.sy), I.up.of A'.sy, S', S3⟩
set_option maxRecDepth 100000 in
theorem lw_c18 (L : Nat) (hL : L ≤ 3072) (xs : Nat → Int32) (i n : Nat) (hi : i + 6 ≤ L) (hn : n < 1000) (F v F2 v2 : xS) (A : agr (hA F v) (mA F2 v2)) (I : aIv n (hA F v)) (S : hS v) (S2 : mS F2 v2) (b : xB) (hk : ∀ w b, lwI (n + 1) w → xWP (pg_Z_law L xs) xK1 18 (xl1 (nI i + 6)) [] w b) : xWP (pg_Z_law L xs) xK1 856 (xl1 (nI i)) [] (xfill F v 0 wH0 ++ xfill F2 v2 0 (wM0 70)) b := by
  have J : aIv n (mA F2 v2) := I.of A
  refine xWP_go 120 [(18, [0, 1, 2, 3])] fun P hP => ?_
  refine ⟨rfl, lw_ix 1 (by omega) hL, ?_⟩
  refine ⟨rfl, lw_ix 2 (by omega) hL, ?_⟩
  refine ⟨rfl, lw_ix 3 (by omega) hL, ?_⟩
  refine xcall (hs_stand n F v I S _ _ _ (fun r F' v' S' A' => ?_))
  refine ⟨rfl, lw_ix 1 (by omega) hL, ?_⟩
  refine ⟨rfl, lw_ix 2 (by omega) hL, ?_⟩
  refine ⟨rfl, lw_ix 3 (by omega) hL, ?_⟩
  refine xcall (ms_stand n F2 v2 J S2 _ _ _ (fun q F3 v3 S3 A3 => ?_))
  refine hP _ _ _ _ _ ?_
  exact hk _ _ ⟨F', v', F3, v3, rfl, A'.tr (A.tr A3.sy), I.up.of A'.sy, S', S3⟩
set_option maxRecDepth 100000 in
theorem lw_c19 (L : Nat) (hL : L ≤ 3072) (xs : Nat → Int32) (i n : Nat) (hi : i + 6 ≤ L) (hn : n < 1000) (F v F2 v2 : xS) (A : agr (hA F v) (mA F2 v2)) (I : aIv n (hA F v)) (S : hS v) (S2 : mS F2 v2) (b : xB) (hk : ∀ w b, lwI (n + 1) w → xWP (pg_Z_law L xs) xK1 18 (xl1 (nI i + 6)) [] w b) : xWP (pg_Z_law L xs) xK1 899 (xl1 (nI i)) [] (xfill F v 0 wH0 ++ xfill F2 v2 0 (wM0 70)) b := by
  have J : aIv n (mA F2 v2) := I.of A
  refine xWP_go 120 [(18, [0, 1, 2, 3])] fun P hP => ?_
  refine ⟨rfl, lw_ix 1 (by omega) hL, ?_⟩
  refine xcall (hs_steps n F v I S _ (fun r F' v' S' A' => ?_))
  refine ⟨rfl, lw_ix 1 (by omega) hL, ?_⟩
  refine xcall (ms_steps n F2 v2 J S2 _ (fun q F3 v3 S3 A3 => ?_))
  refine hP _ _ _ _ _ ?_
  exact hk _ _ ⟨F', v', F3, v3, rfl, A'.tr (A.tr A3.sy), I.up.of A'.sy, S', S3⟩
set_option maxRecDepth 100000 in
theorem lw_c20 (L : Nat) (hL : L ≤ 3072) (xs : Nat → Int32) (i n : Nat) (hi : i + 6 ≤ L) (hn : n < 1000) (F v F2 v2 : xS) (A : agr (hA F v) (mA F2 v2)) (I : aIv n (hA F v)) (S : hS v) (S2 : mS F2 v2) (b : xB) (hk : ∀ w b, lwI (n + 1) w → xWP (pg_Z_law L xs) xK1 18 (xl1 (nI i + 6)) [] w b) : xWP (pg_Z_law L xs) xK1 922 (xl1 (nI i)) [] (xfill F v 0 wH0 ++ xfill F2 v2 0 (wM0 70)) b := by
  have J : aIv n (mA F2 v2) := I.of A
  refine xWP_go 120 [(18, [0, 1, 2, 3])] fun P hP => ?_
  refine ⟨rfl, lw_ix 1 (by omega) hL, ?_⟩
  refine ⟨rfl, lw_ix 2 (by omega) hL, ?_⟩
  refine ⟨rfl, lw_ix 3 (by omega) hL, ?_⟩
  refine xcall (hs_take n F v I S _ _ _ (fun r F' v' S' A' => ?_))
  refine ⟨rfl, lw_ix 1 (by omega) hL, ?_⟩
  refine ⟨rfl, lw_ix 2 (by omega) hL, ?_⟩
  refine ⟨rfl, lw_ix 3 (by omega) hL, ?_⟩
  refine xcall (ms_take n F2 v2 J S2 _ _ _ (fun q F3 v3 S3 A3 => ?_))
  refine hP _ _ _ _ _ ?_
  exact hk _ _ ⟨F', v', F3, v3, rfl, A'.tr (A.tr A3.sy), I.up.of A'.sy, S', S3⟩
set_option maxRecDepth 100000 in
theorem lw_c21 (L : Nat) (hL : L ≤ 3072) (xs : Nat → Int32) (i n : Nat) (hi : i + 6 ≤ L) (hn : n < 1000) (F v F2 v2 : xS) (A : agr (hA F v) (mA F2 v2)) (I : aIv n (hA F v)) (S : hS v) (S2 : mS F2 v2) (b : xB) (hk : ∀ w b, lwI (n + 1) w → xWP (pg_Z_law L xs) xK1 18 (xl1 (nI i + 6)) [] w b) : xWP (pg_Z_law L xs) xK1 965 (xl1 (nI i)) [] (xfill F v 0 wH0 ++ xfill F2 v2 0 (wM0 70)) b := by
  have J : aIv n (mA F2 v2) := I.of A
  refine xWP_go 120 [(18, [0, 1, 2, 3])] fun P hP => ?_
  refine ⟨rfl, lw_ix 1 (by omega) hL, ?_⟩
  refine ⟨rfl, lw_ix 2 (by omega) hL, ?_⟩
  refine ⟨rfl, lw_ix 3 (by omega) hL, ?_⟩
  refine xcall (hs_lay n F v I S _ _ _ (fun r F' v' S' A' => ?_))
  refine ⟨rfl, lw_ix 1 (by omega) hL, ?_⟩
  refine ⟨rfl, lw_ix 2 (by omega) hL, ?_⟩
  refine ⟨rfl, lw_ix 3 (by omega) hL, ?_⟩
  refine xcall (ms_lay n F2 v2 J S2 _ _ _ (fun q F3 v3 S3 A3 => ?_))
  refine hP _ _ _ _ _ ?_
  exact hk _ _ ⟨F', v', F3, v3, rfl, A'.tr (A.tr A3.sy), I.up.of A'.sy, S', S3⟩
set_option maxRecDepth 100000 in
theorem lw_c22 (L : Nat) (hL : L ≤ 3072) (xs : Nat → Int32) (i n : Nat) (hi : i + 6 ≤ L) (hn : n < 1000) (F v F2 v2 : xS) (A : agr (hA F v) (mA F2 v2)) (I : aIv n (hA F v)) (S : hS v) (S2 : mS F2 v2) (b : xB) (hk : ∀ w b, lwI (n + 1) w → xWP (pg_Z_law L xs) xK1 18 (xl1 (nI i + 6)) [] w b) : xWP (pg_Z_law L xs) xK1 1008 (xl1 (nI i)) [] (xfill F v 0 wH0 ++ xfill F2 v2 0 (wM0 70)) b := by
  have J : aIv n (mA F2 v2) := I.of A
  refine xWP_go 120 [(18, [0, 1, 2, 3])] fun P hP => ?_
  refine ⟨rfl, lw_ix 1 (by omega) hL, ?_⟩
  refine ⟨rfl, lw_ix 2 (by omega) hL, ?_⟩
  refine xcall (hs_called n F v I S _ _ (fun r F' v' S' A' => ?_))
  refine ⟨rfl, lw_ix 1 (by omega) hL, ?_⟩
  refine ⟨rfl, lw_ix 2 (by omega) hL, ?_⟩
  refine xcall (ms_called n F2 v2 J S2 _ _ (fun q F3 v3 S3 A3 => ?_))
  refine hP _ _ _ _ _ ?_
  exact hk _ _ ⟨F', v', F3, v3, rfl, A'.tr (A.tr A3.sy), I.up.of A'.sy, S', S3⟩
set_option maxRecDepth 100000 in
theorem lw_c23 (L : Nat) (hL : L ≤ 3072) (xs : Nat → Int32) (i n : Nat) (hi : i + 6 ≤ L) (hn : n < 1000) (F v F2 v2 : xS) (A : agr (hA F v) (mA F2 v2)) (I : aIv n (hA F v)) (S : hS v) (S2 : mS F2 v2) (b : xB) (hk : ∀ w b, lwI (n + 1) w → xWP (pg_Z_law L xs) xK1 18 (xl1 (nI i + 6)) [] w b) : xWP (pg_Z_law L xs) xK1 1041 (xl1 (nI i)) [] (xfill F v 0 wH0 ++ xfill F2 v2 0 (wM0 70)) b := by
  have J : aIv n (mA F2 v2) := I.of A
  refine xWP_go 120 [(18, [0, 1, 2, 3])] fun P hP => ?_
  refine ⟨rfl, lw_ix 1 (by omega) hL, ?_⟩
  refine ⟨rfl, lw_ix 2 (by omega) hL, ?_⟩
  refine xcall (hs_parts n F v I S _ _ (fun r F' v' S' A' => ?_))
  refine ⟨rfl, lw_ix 1 (by omega) hL, ?_⟩
  refine ⟨rfl, lw_ix 2 (by omega) hL, ?_⟩
  refine xcall (ms_parts n F2 v2 J S2 _ _ (fun q F3 v3 S3 A3 => ?_))
  refine hP _ _ _ _ _ ?_
  exact hk _ _ ⟨F', v', F3, v3, rfl, A'.tr (A.tr A3.sy), I.up.of A'.sy, S', S3⟩
set_option maxRecDepth 100000 in
theorem lw_c24 (L : Nat) (hL : L ≤ 3072) (xs : Nat → Int32) (i n : Nat) (hi : i + 6 ≤ L) (hn : n < 1000) (F v F2 v2 : xS) (A : agr (hA F v) (mA F2 v2)) (I : aIv n (hA F v)) (S : hS v) (S2 : mS F2 v2) (b : xB) (hk : ∀ w b, lwI (n + 1) w → xWP (pg_Z_law L xs) xK1 18 (xl1 (nI i + 6)) [] w b) : xWP (pg_Z_law L xs) xK1 1074 (xl1 (nI i)) [] (xfill F v 0 wH0 ++ xfill F2 v2 0 (wM0 70)) b := by
  have J : aIv n (mA F2 v2) := I.of A
  refine xWP_go 120 [(18, [0, 1, 2, 3])] fun P hP => ?_
  refine ⟨rfl, lw_ix 1 (by omega) hL, ?_⟩
  refine xcall (hs_never n F v I S _ (fun r F' v' S' A' => ?_))
  refine ⟨rfl, lw_ix 1 (by omega) hL, ?_⟩
  refine xcall (ms_never n F2 v2 J S2 _ (fun q F3 v3 S3 A3 => ?_))
  refine hP _ _ _ _ _ ?_
  exact hk _ _ ⟨F', v', F3, v3, rfl, A'.tr (A.tr A3.sy), I.up.of A'.sy, S', S3⟩
set_option maxRecDepth 100000 in
theorem lw_c25 (L : Nat) (hL : L ≤ 3072) (xs : Nat → Int32) (i n : Nat) (hi : i + 6 ≤ L) (hn : n < 1000) (F v F2 v2 : xS) (A : agr (hA F v) (mA F2 v2)) (I : aIv n (hA F v)) (S : hS v) (S2 : mS F2 v2) (b : xB) (hk : ∀ w b, lwI (n + 1) w → xWP (pg_Z_law L xs) xK1 18 (xl1 (nI i + 6)) [] w b) : xWP (pg_Z_law L xs) xK1 1097 (xl1 (nI i)) [] (xfill F v 0 wH0 ++ xfill F2 v2 0 (wM0 70)) b := by
  have J : aIv n (mA F2 v2) := I.of A
  refine xWP_go 120 [(18, [0, 1, 2, 3])] fun P hP => ?_
  refine ⟨rfl, lw_ix 1 (by omega) hL, ?_⟩
  refine ⟨rfl, lw_ix 2 (by omega) hL, ?_⟩
  refine ⟨rfl, lw_ix 3 (by omega) hL, ?_⟩
  refine xcall (hs_series n F v I S _ _ _ (fun r F' v' S' A' => ?_))
  refine ⟨rfl, lw_ix 1 (by omega) hL, ?_⟩
  refine ⟨rfl, lw_ix 2 (by omega) hL, ?_⟩
  refine ⟨rfl, lw_ix 3 (by omega) hL, ?_⟩
  refine xcall (ms_series n F2 v2 J S2 _ _ _ (fun q F3 v3 S3 A3 => ?_))
  refine hP _ _ _ _ _ ?_
  exact hk _ _ ⟨F', v', F3, v3, rfl, A'.tr (A.tr A3.sy), I.up.of A'.sy, S', S3⟩
set_option maxRecDepth 100000 in
theorem lw_c26 (L : Nat) (hL : L ≤ 3072) (xs : Nat → Int32) (i n : Nat) (hi : i + 6 ≤ L) (hn : n < 1000) (F v F2 v2 : xS) (A : agr (hA F v) (mA F2 v2)) (I : aIv n (hA F v)) (S : hS v) (S2 : mS F2 v2) (b : xB) (hk : ∀ w b, lwI (n + 1) w → xWP (pg_Z_law L xs) xK1 18 (xl1 (nI i + 6)) [] w b) : xWP (pg_Z_law L xs) xK1 1140 (xl1 (nI i)) [] (xfill F v 0 wH0 ++ xfill F2 v2 0 (wM0 70)) b := by
  have J : aIv n (mA F2 v2) := I.of A
  refine xWP_go 120 [(18, [0, 1, 2, 3])] fun P hP => ?_
  refine ⟨rfl, lw_ix 1 (by omega) hL, ?_⟩
  refine ⟨rfl, lw_ix 2 (by omega) hL, ?_⟩
  refine ⟨rfl, lw_ix 3 (by omega) hL, ?_⟩
  refine xcall (hs_odds n F v I S _ _ _ (fun r F' v' S' A' => ?_))
  refine ⟨rfl, lw_ix 1 (by omega) hL, ?_⟩
  refine ⟨rfl, lw_ix 2 (by omega) hL, ?_⟩
  refine ⟨rfl, lw_ix 3 (by omega) hL, ?_⟩
  refine xcall (ms_odds n F2 v2 J S2 _ _ _ (fun q F3 v3 S3 A3 => ?_))
  refine hP _ _ _ _ _ ?_
  exact hk _ _ ⟨F', v', F3, v3, rfl, A'.tr (A.tr A3.sy), I.up.of A'.sy, S', S3⟩
set_option maxRecDepth 100000 in
theorem lw_c27 (L : Nat) (hL : L ≤ 3072) (xs : Nat → Int32) (i n : Nat) (hi : i + 6 ≤ L) (hn : n < 1000) (F v F2 v2 : xS) (A : agr (hA F v) (mA F2 v2)) (I : aIv n (hA F v)) (S : hS v) (S2 : mS F2 v2) (b : xB) (hk : ∀ w b, lwI (n + 1) w → xWP (pg_Z_law L xs) xK1 18 (xl1 (nI i + 6)) [] w b) : xWP (pg_Z_law L xs) xK1 1183 (xl1 (nI i)) [] (xfill F v 0 wH0 ++ xfill F2 v2 0 (wM0 70)) b := by
  have J : aIv n (mA F2 v2) := I.of A
  refine xWP_go 120 [(18, [0, 1, 2, 3])] fun P hP => ?_
  refine ⟨rfl, lw_ix 1 (by omega) hL, ?_⟩
  refine xcall (hs_seed n F v I S _ (fun F' v' S' A' => ?_))
  refine ⟨rfl, lw_ix 1 (by omega) hL, ?_⟩
  refine xcall (ms_seed n F2 v2 J S2 _ (fun F3 v3 S3 A3 => ?_))
  refine hP _ _ _ _ _ ?_
  exact hk _ _ ⟨F', v', F3, v3, rfl, A'.tr ((pg_seed A _).tr A3.sy), (pi_seed I _).up.of A'.sy, S', S3⟩
set_option maxRecDepth 100000 in
theorem lw_c28 (L : Nat) (hL : L ≤ 3072) (xs : Nat → Int32) (i n : Nat) (hi : i + 6 ≤ L) (hn : n < 1000) (F v F2 v2 : xS) (A : agr (hA F v) (mA F2 v2)) (I : aIv n (hA F v)) (S : hS v) (S2 : mS F2 v2) (b : xB) (hk : ∀ w b, lwI (n + 1) w → xWP (pg_Z_law L xs) xK1 18 (xl1 (nI i + 6)) [] w b) : xWP (pg_Z_law L xs) xK1 1206 (xl1 (nI i)) [] (xfill F v 0 wH0 ++ xfill F2 v2 0 (wM0 70)) b := by
  have J : aIv n (mA F2 v2) := I.of A
  refine xWP_go 120 [(18, [0, 1, 2, 3])] fun P hP => ?_
  refine ⟨rfl, lw_ix 1 (by omega) hL, ?_⟩
  refine ⟨rfl, lw_ix 2 (by omega) hL, ?_⟩
  refine ⟨rfl, lw_ix 3 (by omega) hL, ?_⟩
  refine xcall (hs_voice n F v I S _ _ _ (fun F' v' S' A' => ?_))
  refine ⟨rfl, lw_ix 1 (by omega) hL, ?_⟩
  refine ⟨rfl, lw_ix 2 (by omega) hL, ?_⟩
  refine ⟨rfl, lw_ix 3 (by omega) hL, ?_⟩
  refine xcall (ms_voice n F2 v2 J S2 _ _ _ (fun F3 v3 S3 A3 => ?_))
  refine hP _ _ _ _ _ ?_
  exact hk _ _ ⟨F', v', F3, v3, rfl, A'.tr ((pg_voice A I _ _ _).tr A3.sy), (pi_voice I _ _ _).up.of A'.sy, S', S3⟩
set_option maxRecDepth 100000 in
theorem lw_c29 (L : Nat) (hL : L ≤ 3072) (xs : Nat → Int32) (i n : Nat) (hi : i + 6 ≤ L) (hn : n < 1000) (F v F2 v2 : xS) (A : agr (hA F v) (mA F2 v2)) (I : aIv n (hA F v)) (S : hS v) (S2 : mS F2 v2) (b : xB) (hk : ∀ w b, lwI (n + 1) w → xWP (pg_Z_law L xs) xK1 18 (xl1 (nI i + 6)) [] w b) : xWP (pg_Z_law L xs) xK1 1249 (xl1 (nI i)) [] (xfill F v 0 wH0 ++ xfill F2 v2 0 (wM0 70)) b := by
  have J : aIv n (mA F2 v2) := I.of A
  refine xWP_go 120 [(18, [0, 1, 2, 3])] fun P hP => ?_
  refine ⟨rfl, lw_ix 1 (by omega) hL, ?_⟩
  refine xcall (hs_trace n F v I S _ (fun F' v' S' A' => ?_))
  refine ⟨rfl, lw_ix 1 (by omega) hL, ?_⟩
  refine xcall (ms_trace n F2 v2 J S2 _ (fun F3 v3 S3 A3 => ?_))
  refine br_c (fun _ => ?_) (fun z => absurd (pf_trace A I _) z)
  refine hP _ _ _ _ _ ?_
  exact hk _ _ ⟨F', v', F3, v3, rfl, A'.tr (A.tr A3.sy), I.up.of A'.sy, S', S3⟩
set_option maxRecDepth 100000 in
theorem lw_c30 (L : Nat) (hL : L ≤ 3072) (xs : Nat → Int32) (i n : Nat) (hi : i + 6 ≤ L) (hn : n < 1000) (F v F2 v2 : xS) (A : agr (hA F v) (mA F2 v2)) (I : aIv n (hA F v)) (S : hS v) (S2 : mS F2 v2) (b : xB) (hk : ∀ w b, lwI (n + 1) w → xWP (pg_Z_law L xs) xK1 18 (xl1 (nI i + 6)) [] w b) : xWP (pg_Z_law L xs) xK1 1272 (xl1 (nI i)) [] (xfill F v 0 wH0 ++ xfill F2 v2 0 (wM0 70)) b := by
  have J : aIv n (mA F2 v2) := I.of A
  refine xWP_go 120 [(18, [0, 1, 2, 3])] fun P hP => ?_
  refine ⟨rfl, lw_ix 1 (by omega) hL, ?_⟩
  refine ⟨rfl, lw_ix 2 (by omega) hL, ?_⟩
  refine ⟨rfl, lw_ix 3 (by omega) hL, ?_⟩
  refine xcall (hs_sheet n F v I S _ _ _ (fun F' v' S' A' => ?_))
  refine ⟨rfl, lw_ix 1 (by omega) hL, ?_⟩
  refine ⟨rfl, lw_ix 2 (by omega) hL, ?_⟩
  refine ⟨rfl, lw_ix 3 (by omega) hL, ?_⟩
  refine xcall (ms_sheet n F2 v2 J S2 _ _ _ (fun F3 v3 S3 A3 => ?_))
  refine hP _ _ _ _ _ ?_
  exact hk _ _ ⟨F', v', F3, v3, rfl, A'.tr ((pg_sheet A _ _ _).tr A3.sy), (pi_sheet I _ _ _).up.of A'.sy, S', S3⟩
set_option maxRecDepth 100000 in
theorem lw_c31 (L : Nat) (hL : L ≤ 3072) (xs : Nat → Int32) (i n : Nat) (hi : i + 6 ≤ L) (hn : n < 1000) (F v F2 v2 : xS) (A : agr (hA F v) (mA F2 v2)) (I : aIv n (hA F v)) (S : hS v) (S2 : mS F2 v2) (b : xB) (hk : ∀ w b, lwI (n + 1) w → xWP (pg_Z_law L xs) xK1 18 (xl1 (nI i + 6)) [] w b) : xWP (pg_Z_law L xs) xK1 1315 (xl1 (nI i)) [] (xfill F v 0 wH0 ++ xfill F2 v2 0 (wM0 70)) b := by
  have J : aIv n (mA F2 v2) := I.of A
  refine xWP_go 120 [(18, [0, 1, 2, 3])] fun P hP => ?_
  refine ⟨rfl, lw_ix 1 (by omega) hL, ?_⟩
  refine ⟨rfl, lw_ix 2 (by omega) hL, ?_⟩
  refine ⟨rfl, lw_ix 3 (by omega) hL, ?_⟩
  refine xcall (hs_put n F v I S _ _ _ (fun F' v' S' A' => ?_))
  refine ⟨rfl, lw_ix 1 (by omega) hL, ?_⟩
  refine ⟨rfl, lw_ix 2 (by omega) hL, ?_⟩
  refine ⟨rfl, lw_ix 3 (by omega) hL, ?_⟩
  refine xcall (ms_put n F2 v2 J S2 _ _ _ (fun F3 v3 S3 A3 => ?_))
  refine hP _ _ _ _ _ ?_
  exact hk _ _ ⟨F', v', F3, v3, rfl, A'.tr ((pg_put A _ _ _).tr A3.sy), (pi_put I _ _ _).up.of A'.sy, S', S3⟩
set_option maxRecDepth 100000 in
theorem lw_c32 (L : Nat) (hL : L ≤ 3072) (xs : Nat → Int32) (i n : Nat) (hi : i + 6 ≤ L) (hn : n < 1000) (F v F2 v2 : xS) (A : agr (hA F v) (mA F2 v2)) (I : aIv n (hA F v)) (S : hS v) (S2 : mS F2 v2) (b : xB) (hk : ∀ w b, lwI (n + 1) w → xWP (pg_Z_law L xs) xK1 18 (xl1 (nI i + 6)) [] w b) : xWP (pg_Z_law L xs) xK1 1358 (xl1 (nI i)) [] (xfill F v 0 wH0 ++ xfill F2 v2 0 (wM0 70)) b := by
  have J : aIv n (mA F2 v2) := I.of A
  refine xWP_go 120 [(18, [0, 1, 2, 3])] fun P hP => ?_
  refine ⟨rfl, lw_ix 1 (by omega) hL, ?_⟩
  refine ⟨rfl, lw_ix 2 (by omega) hL, ?_⟩
  refine ⟨rfl, lw_ix 3 (by omega) hL, ?_⟩
  refine ⟨rfl, lw_ix 4 (by omega) hL, ?_⟩
  refine ⟨rfl, lw_ix 5 (by omega) hL, ?_⟩
  refine xcall (hs_move n F v I S _ _ _ _ _ (fun F' v' S' A' => ?_))
  refine ⟨rfl, lw_ix 1 (by omega) hL, ?_⟩
  refine ⟨rfl, lw_ix 2 (by omega) hL, ?_⟩
  refine ⟨rfl, lw_ix 3 (by omega) hL, ?_⟩
  refine ⟨rfl, lw_ix 4 (by omega) hL, ?_⟩
  refine ⟨rfl, lw_ix 5 (by omega) hL, ?_⟩
  refine xcall (ms_move n F2 v2 J S2 _ _ _ _ _ (fun F3 v3 S3 A3 => ?_))
  refine hP _ _ _ _ _ ?_
  exact hk _ _ ⟨F', v', F3, v3, rfl, A'.tr ((pg_move A I _ _ _ _ _).tr A3.sy), (pi_move I _ _ _ _ _).up.of A'.sy, S', S3⟩
set_option maxRecDepth 100000 in
theorem lw_c33 (L : Nat) (hL : L ≤ 3072) (xs : Nat → Int32) (i n : Nat) (hi : i + 6 ≤ L) (hn : n < 1000) (F v F2 v2 : xS) (A : agr (hA F v) (mA F2 v2)) (I : aIv n (hA F v)) (S : hS v) (S2 : mS F2 v2) (b : xB) (hk : ∀ w b, lwI (n + 1) w → xWP (pg_Z_law L xs) xK1 18 (xl1 (nI i + 6)) [] w b) : xWP (pg_Z_law L xs) xK1 1421 (xl1 (nI i)) [] (xfill F v 0 wH0 ++ xfill F2 v2 0 (wM0 70)) b := by
  have J : aIv n (mA F2 v2) := I.of A
  refine xWP_go 120 [(18, [0, 1, 2, 3])] fun P hP => ?_
  refine ⟨rfl, lw_ix 1 (by omega) hL, ?_⟩
  refine xcall (hs_places n F v I S _ (fun r F' v' S' A' => ?_))
  refine ⟨rfl, lw_ix 1 (by omega) hL, ?_⟩
  refine xcall (ms_places n F2 v2 J S2 _ (fun q F3 v3 S3 A3 => ?_))
  refine hP _ _ _ _ _ ?_
  exact hk _ _ ⟨F', v', F3, v3, rfl, A'.tr (A.tr A3.sy), I.up.of A'.sy, S', S3⟩
set_option maxRecDepth 100000 in
theorem lw_c34 (L : Nat) (hL : L ≤ 3072) (xs : Nat → Int32) (i n : Nat) (hi : i + 6 ≤ L) (hn : n < 1000) (F v F2 v2 : xS) (A : agr (hA F v) (mA F2 v2)) (I : aIv n (hA F v)) (S : hS v) (S2 : mS F2 v2) (b : xB) (hk : ∀ w b, lwI (n + 1) w → xWP (pg_Z_law L xs) xK1 18 (xl1 (nI i + 6)) [] w b) : xWP (pg_Z_law L xs) xK1 1444 (xl1 (nI i)) [] (xfill F v 0 wH0 ++ xfill F2 v2 0 (wM0 70)) b := by
  have J : aIv n (mA F2 v2) := I.of A
  refine xWP_go 120 [(18, [0, 1, 2, 3])] fun P hP => ?_
  refine ⟨rfl, lw_ix 1 (by omega) hL, ?_⟩
  refine xcall (hs_judge n F v I S _ (fun r F' v' S' A' => ?_))
  refine ⟨rfl, lw_ix 1 (by omega) hL, ?_⟩
  refine xcall (ms_judge n F2 v2 J S2 _ (fun q F3 v3 S3 A3 => ?_))
  refine hP _ _ _ _ _ ?_
  exact hk _ _ ⟨F', v', F3, v3, rfl, A'.tr (A.tr A3.sy), I.up.of A'.sy, S', S3⟩
set_option maxRecDepth 100000 in
theorem lw_c35 (L : Nat) (hL : L ≤ 3072) (xs : Nat → Int32) (i n : Nat) (hi : i + 6 ≤ L) (hn : n < 1000) (F v F2 v2 : xS) (A : agr (hA F v) (mA F2 v2)) (I : aIv n (hA F v)) (S : hS v) (S2 : mS F2 v2) (b : xB) (hk : ∀ w b, lwI (n + 1) w → xWP (pg_Z_law L xs) xK1 18 (xl1 (nI i + 6)) [] w b) : xWP (pg_Z_law L xs) xK1 1467 (xl1 (nI i)) [] (xfill F v 0 wH0 ++ xfill F2 v2 0 (wM0 70)) b := by
  have J : aIv n (mA F2 v2) := I.of A
  refine xWP_go 120 [(18, [0, 1, 2, 3])] fun P hP => ?_
  refine xcall (hs_image n F v I S (fun F' v' S' A' => ?_))
  refine xcall (ms_image n F2 v2 J S2 hn (fun F3 v3 S3 A3 => ?_))
  refine hP _ _ _ _ _ ?_
  exact hk _ _ ⟨F', v', F3, v3, rfl, A'.tr ((pg_image A).tr A3.sy), (pi_image I).of A'.sy, S', S3⟩
set_option maxRecDepth 100000 in
theorem lw_c36 (L : Nat) (hL : L ≤ 3072) (xs : Nat → Int32) (i n : Nat) (hi : i + 6 ≤ L) (hn : n < 1000) (F v F2 v2 : xS) (A : agr (hA F v) (mA F2 v2)) (I : aIv n (hA F v)) (S : hS v) (S2 : mS F2 v2) (b : xB) (hk : ∀ w b, lwI (n + 1) w → xWP (pg_Z_law L xs) xK1 18 (xl1 (nI i + 6)) [] w b) : xWP (pg_Z_law L xs) xK1 1480 (xl1 (nI i)) [] (xfill F v 0 wH0 ++ xfill F2 v2 0 (wM0 70)) b := by
  have J : aIv n (mA F2 v2) := I.of A
  refine xWP_go 120 [(18, [0, 1, 2, 3])] fun P hP => ?_
  refine xcall (hs_restore n F v I S (fun F' v' S' A' => ?_))
  refine xcall (ms_restore n F2 v2 J S2 (fun F3 v3 S3 A3 => ?_))
  refine hP _ _ _ _ _ ?_
  exact hk _ _ ⟨F', v', F3, v3, rfl, A'.tr ((pg_restore A).tr A3.sy), (pi_restore I).up.of A'.sy, S', S3⟩
set_option maxRecDepth 100000 in
theorem lw_c37 (L : Nat) (hL : L ≤ 3072) (xs : Nat → Int32) (i n : Nat) (hi : i + 6 ≤ L) (hn : n < 1000) (F v F2 v2 : xS) (A : agr (hA F v) (mA F2 v2)) (I : aIv n (hA F v)) (S : hS v) (S2 : mS F2 v2) (b : xB) (hk : ∀ w b, lwI (n + 1) w → xWP (pg_Z_law L xs) xK1 18 (xl1 (nI i + 6)) [] w b) : xWP (pg_Z_law L xs) xK1 1493 (xl1 (nI i)) [] (xfill F v 0 wH0 ++ xfill F2 v2 0 (wM0 70)) b := by
  have J : aIv n (mA F2 v2) := I.of A
  refine xWP_go 120 [(18, [0, 1, 2, 3])] fun P hP => ?_
  refine ⟨rfl, lw_ix 1 (by omega) hL, ?_⟩
  refine xcall (hs_tell n F v I S _ (fun F' v' S' A' => ?_))
  refine ⟨rfl, lw_ix 1 (by omega) hL, ?_⟩
  refine xcall (ms_tell n F2 v2 J S2 _ (fun F3 v3 S3 A3 => ?_))
  refine hP _ _ _ _ _ ?_
  exact hk _ _ ⟨F', v', F3, v3, rfl, A'.tr ((pg_tell A I _).tr A3.sy), (pi_tell I _).up.of A'.sy, S', S3⟩
set_option maxRecDepth 100000 in
theorem lw_c38 (L : Nat) (hL : L ≤ 3072) (xs : Nat → Int32) (i n : Nat) (hi : i + 6 ≤ L) (hn : n < 1000) (F v F2 v2 : xS) (A : agr (hA F v) (mA F2 v2)) (I : aIv n (hA F v)) (S : hS v) (S2 : mS F2 v2) (b : xB) (hk : ∀ w b, lwI (n + 1) w → xWP (pg_Z_law L xs) xK1 18 (xl1 (nI i + 6)) [] w b) : xWP (pg_Z_law L xs) xK1 1516 (xl1 (nI i)) [] (xfill F v 0 wH0 ++ xfill F2 v2 0 (wM0 70)) b := by
  have J : aIv n (mA F2 v2) := I.of A
  refine xWP_go 120 [(18, [0, 1, 2, 3])] fun P hP => ?_
  refine xcall (hs_check n F v I S (fun r F' v' S' A' => ?_))
  refine xcall (ms_check n F2 v2 J S2 (fun q F3 v3 S3 A3 => ?_))
  refine hP _ _ _ _ _ ?_
  exact hk _ _ ⟨F', v', F3, v3, rfl, A'.tr ((pg_check A).tr A3.sy), (pi_check I).up.of A'.sy, S', S3⟩
set_option maxRecDepth 100000 in
theorem lw_c39 (L : Nat) (hL : L ≤ 3072) (xs : Nat → Int32) (i n : Nat) (hi : i + 6 ≤ L) (hn : n < 1000) (F v F2 v2 : xS) (A : agr (hA F v) (mA F2 v2)) (I : aIv n (hA F v)) (S : hS v) (S2 : mS F2 v2) (b : xB) (hk : ∀ w b, lwI (n + 1) w → xWP (pg_Z_law L xs) xK1 18 (xl1 (nI i + 6)) [] w b) : xWP (pg_Z_law L xs) xK1 1529 (xl1 (nI i)) [] (xfill F v 0 wH0 ++ xfill F2 v2 0 (wM0 70)) b := by
  have J : aIv n (mA F2 v2) := I.of A
  refine xWP_go 120 [(18, [0, 1, 2, 3])] fun P hP => ?_
  refine ⟨rfl, lw_ix 1 (by omega) hL, ?_⟩
  refine xcall (hs_count n F v I S _ (fun r F' v' S' A' => ?_))
  refine ⟨rfl, lw_ix 1 (by omega) hL, ?_⟩
  refine xcall (ms_count n F2 v2 J S2 _ (fun q F3 v3 S3 A3 => ?_))
  refine hP _ _ _ _ _ ?_
  exact hk _ _ ⟨F', v', F3, v3, rfl, A'.tr (A.tr A3.sy), I.up.of A'.sy, S', S3⟩
set_option maxRecDepth 100000 in
theorem lw_c40 (L : Nat) (hL : L ≤ 3072) (xs : Nat → Int32) (i n : Nat) (hi : i + 6 ≤ L) (hn : n < 1000) (F v F2 v2 : xS) (A : agr (hA F v) (mA F2 v2)) (I : aIv n (hA F v)) (S : hS v) (S2 : mS F2 v2) (b : xB) (hk : ∀ w b, lwI (n + 1) w → xWP (pg_Z_law L xs) xK1 18 (xl1 (nI i + 6)) [] w b) : xWP (pg_Z_law L xs) xK1 1552 (xl1 (nI i)) [] (xfill F v 0 wH0 ++ xfill F2 v2 0 (wM0 70)) b := by
  have J : aIv n (mA F2 v2) := I.of A
  refine xWP_go 120 [(18, [0, 1, 2, 3])] fun P hP => ?_
  refine ⟨rfl, lw_ix 1 (by omega) hL, ?_⟩
  refine xcall (hs_told n F v I S _ (fun r F' v' S' A' => ?_))
  refine ⟨rfl, lw_ix 1 (by omega) hL, ?_⟩
  refine xcall (ms_told n F2 v2 J S2 _ (fun q F3 v3 S3 A3 => ?_))
  refine hP _ _ _ _ _ ?_
  exact hk _ _ ⟨F', v', F3, v3, rfl, A'.tr (A.tr A3.sy), I.up.of A'.sy, S', S3⟩
set_option maxRecDepth 100000 in
theorem lw_loop (L : Nat) (hL : L ≤ 3072) (xs : Nat → Int32) : ∀ (m n i : Nat) (w : xW) (b : xB), i = 6 * n → L ≤ i + m → i ≤ L → lwI n w → xWP (pg_Z_law L xs) xK1 18 (xl1 (nI i)) [] w b := by
  intro m
  induction m using Nat.strongRecOn with
  | ind m ih =>
    intro n i w b hn hm hi hw
    refine xWP_go 60 [(18, [0, 1, 2, 3]), (212, [0, 1, 2, 3]), (245, [0, 1, 2, 3]), (278, [0, 1, 2, 3]), (321, [0, 1, 2, 3]), (354, [0, 1, 2, 3]), (387, [0, 1, 2, 3]), (430, [0, 1, 2, 3]), (453, [0, 1, 2, 3]), (486, [0, 1, 2, 3]), (519, [0, 1, 2, 3]), (582, [0, 1, 2, 3]), (605, [0, 1, 2, 3]), (658, [0, 1, 2, 3]), (691, [0, 1, 2, 3]), (714, [0, 1, 2, 3]), (747, [0, 1, 2, 3]), (790, [0, 1, 2, 3]), (823, [0, 1, 2, 3]), (856, [0, 1, 2, 3]), (899, [0, 1, 2, 3]), (922, [0, 1, 2, 3]), (965, [0, 1, 2, 3]), (1008, [0, 1, 2, 3]), (1041, [0, 1, 2, 3]), (1074, [0, 1, 2, 3]), (1097, [0, 1, 2, 3]), (1140, [0, 1, 2, 3]), (1183, [0, 1, 2, 3]), (1206, [0, 1, 2, 3]), (1249, [0, 1, 2, 3]), (1272, [0, 1, 2, 3]), (1315, [0, 1, 2, 3]), (1358, [0, 1, 2, 3]), (1421, [0, 1, 2, 3]), (1444, [0, 1, 2, 3]), (1467, [0, 1, 2, 3]), (1480, [0, 1, 2, 3]), (1493, [0, 1, 2, 3]), (1516, [0, 1, 2, 3]), (1529, [0, 1, 2, 3]), (1552, [0, 1, 2, 3])] fun P hP => ?_
    refine ⟨rfl, ?_⟩
    refine br_c (fun _ => ?_) (fun z => ?_)
    · exact ⟨Or.inr rfl, rfl⟩
    have z : ¬ nI L - nI 6 < nI i := z
    rw [lw_end hL (by omega)] at z
    obtain ⟨F, v, F2, v2, rfl, A, I, S, S2⟩ := hw
    have hk : ∀ w b, lwI (n + 1) w → xWP (pg_Z_law L xs) xK1 18 (xl1 (nI i + 6)) [] w b := by
      intro w b h
      rw [show nI i + 6 = nI (i + 6) from nI_add i 6]
      exact ih (m - 6) (by omega) (n + 1) (i + 6) w b (by omega) (by omega) (by omega) h
    refine ⟨rfl, vp_in_nI (by omega) (by omega), ?_⟩
    refine ⟨fun _ => hP _ _ _ _ _ (lw_c0 L hL xs i n (by omega) (by omega) F v F2 v2 A I S S2 _ hk), fun _ => ?_⟩
    refine ⟨fun _ => hP _ _ _ _ _ (lw_c1 L hL xs i n (by omega) (by omega) F v F2 v2 A I S S2 _ hk), fun _ => ?_⟩
    refine ⟨fun _ => hP _ _ _ _ _ (lw_c2 L hL xs i n (by omega) (by omega) F v F2 v2 A I S S2 _ hk), fun _ => ?_⟩
    refine ⟨fun _ => hP _ _ _ _ _ (lw_c3 L hL xs i n (by omega) (by omega) F v F2 v2 A I S S2 _ hk), fun _ => ?_⟩
    refine ⟨fun _ => hP _ _ _ _ _ (lw_c4 L hL xs i n (by omega) (by omega) F v F2 v2 A I S S2 _ hk), fun _ => ?_⟩
    refine ⟨fun _ => hP _ _ _ _ _ (lw_c5 L hL xs i n (by omega) (by omega) F v F2 v2 A I S S2 _ hk), fun _ => ?_⟩
    refine ⟨fun _ => hP _ _ _ _ _ (lw_c6 L hL xs i n (by omega) (by omega) F v F2 v2 A I S S2 _ hk), fun _ => ?_⟩
    refine ⟨fun _ => hP _ _ _ _ _ (lw_c7 L hL xs i n (by omega) (by omega) F v F2 v2 A I S S2 _ hk), fun _ => ?_⟩
    refine ⟨fun _ => hP _ _ _ _ _ (lw_c8 L hL xs i n (by omega) (by omega) F v F2 v2 A I S S2 _ hk), fun _ => ?_⟩
    refine ⟨fun _ => hP _ _ _ _ _ (lw_c9 L hL xs i n (by omega) (by omega) F v F2 v2 A I S S2 _ hk), fun _ => ?_⟩
    refine ⟨fun _ => hP _ _ _ _ _ (lw_c10 L hL xs i n (by omega) (by omega) F v F2 v2 A I S S2 _ hk), fun _ => ?_⟩
    refine ⟨fun _ => hP _ _ _ _ _ (lw_c11 L hL xs i n (by omega) (by omega) F v F2 v2 A I S S2 _ hk), fun _ => ?_⟩
    refine ⟨fun _ => hP _ _ _ _ _ (lw_c12 L hL xs i n (by omega) (by omega) F v F2 v2 A I S S2 _ hk), fun _ => ?_⟩
    refine ⟨fun _ => hP _ _ _ _ _ (lw_c13 L hL xs i n (by omega) (by omega) F v F2 v2 A I S S2 _ hk), fun _ => ?_⟩
    refine ⟨fun _ => hP _ _ _ _ _ (lw_c14 L hL xs i n (by omega) (by omega) F v F2 v2 A I S S2 _ hk), fun _ => ?_⟩
    refine ⟨fun _ => hP _ _ _ _ _ (lw_c15 L hL xs i n (by omega) (by omega) F v F2 v2 A I S S2 _ hk), fun _ => ?_⟩
    refine ⟨fun _ => hP _ _ _ _ _ (lw_c16 L hL xs i n (by omega) (by omega) F v F2 v2 A I S S2 _ hk), fun _ => ?_⟩
    refine ⟨fun _ => hP _ _ _ _ _ (lw_c17 L hL xs i n (by omega) (by omega) F v F2 v2 A I S S2 _ hk), fun _ => ?_⟩
    refine ⟨fun _ => hP _ _ _ _ _ (lw_c18 L hL xs i n (by omega) (by omega) F v F2 v2 A I S S2 _ hk), fun _ => ?_⟩
    refine ⟨fun _ => hP _ _ _ _ _ (lw_c19 L hL xs i n (by omega) (by omega) F v F2 v2 A I S S2 _ hk), fun _ => ?_⟩
    refine ⟨fun _ => hP _ _ _ _ _ (lw_c20 L hL xs i n (by omega) (by omega) F v F2 v2 A I S S2 _ hk), fun _ => ?_⟩
    refine ⟨fun _ => hP _ _ _ _ _ (lw_c21 L hL xs i n (by omega) (by omega) F v F2 v2 A I S S2 _ hk), fun _ => ?_⟩
    refine ⟨fun _ => hP _ _ _ _ _ (lw_c22 L hL xs i n (by omega) (by omega) F v F2 v2 A I S S2 _ hk), fun _ => ?_⟩
    refine ⟨fun _ => hP _ _ _ _ _ (lw_c23 L hL xs i n (by omega) (by omega) F v F2 v2 A I S S2 _ hk), fun _ => ?_⟩
    refine ⟨fun _ => hP _ _ _ _ _ (lw_c24 L hL xs i n (by omega) (by omega) F v F2 v2 A I S S2 _ hk), fun _ => ?_⟩
    refine ⟨fun _ => hP _ _ _ _ _ (lw_c25 L hL xs i n (by omega) (by omega) F v F2 v2 A I S S2 _ hk), fun _ => ?_⟩
    refine ⟨fun _ => hP _ _ _ _ _ (lw_c26 L hL xs i n (by omega) (by omega) F v F2 v2 A I S S2 _ hk), fun _ => ?_⟩
    refine ⟨fun _ => hP _ _ _ _ _ (lw_c27 L hL xs i n (by omega) (by omega) F v F2 v2 A I S S2 _ hk), fun _ => ?_⟩
    refine ⟨fun _ => hP _ _ _ _ _ (lw_c28 L hL xs i n (by omega) (by omega) F v F2 v2 A I S S2 _ hk), fun _ => ?_⟩
    refine ⟨fun _ => hP _ _ _ _ _ (lw_c29 L hL xs i n (by omega) (by omega) F v F2 v2 A I S S2 _ hk), fun _ => ?_⟩
    refine ⟨fun _ => hP _ _ _ _ _ (lw_c30 L hL xs i n (by omega) (by omega) F v F2 v2 A I S S2 _ hk), fun _ => ?_⟩
    refine ⟨fun _ => hP _ _ _ _ _ (lw_c31 L hL xs i n (by omega) (by omega) F v F2 v2 A I S S2 _ hk), fun _ => ?_⟩
    refine ⟨fun _ => hP _ _ _ _ _ (lw_c32 L hL xs i n (by omega) (by omega) F v F2 v2 A I S S2 _ hk), fun _ => ?_⟩
    refine ⟨fun _ => hP _ _ _ _ _ (lw_c33 L hL xs i n (by omega) (by omega) F v F2 v2 A I S S2 _ hk), fun _ => ?_⟩
    refine ⟨fun _ => hP _ _ _ _ _ (lw_c34 L hL xs i n (by omega) (by omega) F v F2 v2 A I S S2 _ hk), fun _ => ?_⟩
    refine ⟨fun _ => hP _ _ _ _ _ (lw_c35 L hL xs i n (by omega) (by omega) F v F2 v2 A I S S2 _ hk), fun _ => ?_⟩
    refine ⟨fun _ => hP _ _ _ _ _ (lw_c36 L hL xs i n (by omega) (by omega) F v F2 v2 A I S S2 _ hk), fun _ => ?_⟩
    refine ⟨fun _ => hP _ _ _ _ _ (lw_c37 L hL xs i n (by omega) (by omega) F v F2 v2 A I S S2 _ hk), fun _ => ?_⟩
    refine ⟨fun _ => hP _ _ _ _ _ (lw_c38 L hL xs i n (by omega) (by omega) F v F2 v2 A I S S2 _ hk), fun _ => ?_⟩
    refine ⟨fun _ => hP _ _ _ _ _ (lw_c39 L hL xs i n (by omega) (by omega) F v F2 v2 A I S S2 _ hk), fun _ => ?_⟩
    refine ⟨fun _ => hP _ _ _ _ _ (lw_c40 L hL xs i n (by omega) (by omega) F v F2 v2 A I S S2 _ hk), fun _ => ?_⟩
    refine hP _ _ _ _ _ ?_
    exact hk _ _ ⟨F, v, F2, v2, rfl, A, I.up, S, S2⟩
set_option maxRecDepth 100000 in
theorem lw_start : lwI 0 (wH0 ++ wM0 70) := by
  refine ⟨xarrs wH0, xobjs wH0, xarrs (wM0 70), xobjs (wM0 70), rfl, ?_, ?_, ?_, ?_⟩
  · refine ⟨⟨⟨rfl, rfl, rfl, rfl, rfl, rfl⟩, fun j hj => absurd (show j < 0 from hj) (Nat.not_lt_zero j), fun j hj => absurd (show j < 0 from hj) (Nat.not_lt_zero j), fun j hj => absurd (show j < 0 from hj) (Nat.not_lt_zero j), fun j hj => absurd (show j < 0 from hj) (Nat.not_lt_zero j)⟩, ⟨⟨fun j _ => (bare_0 _).symm, fun j _ => (bare_0 _).symm, fun j _ => (bare_0 _).symm, fun j _ => (bare_0 _).symm⟩, ⟨⟨rfl, rfl, rfl, rfl⟩, rfl, rfl, rfl, rfl⟩, ⟨rfl, rfl⟩, fun j hj => absurd (show j < 0 from hj) (Nat.not_lt_zero j)⟩, fun z => absurd rfl z⟩
  · refine ⟨⟨⟨⟨0, by omega, rfl⟩, ⟨0, by omega, rfl⟩, ⟨0, by omega, rfl⟩, ⟨0, by omega, rfl⟩, ⟨0, by omega, rfl⟩⟩, fun j hj => absurd (show j < 0 from hj) (Nat.not_lt_zero j)⟩, ⟨⟨⟨0, by omega, rfl⟩, ⟨0, by omega, rfl⟩⟩, ⟨⟨0, by omega, rfl⟩, ⟨0, by omega, rfl⟩, ⟨0, by omega, rfl⟩, ⟨0, by omega, rfl⟩⟩, fun j _ => bare_0 _, fun j _ => bare_0 _, fun j _ => bare_0 _, fun j _ => bare_0 _⟩, fun z => absurd rfl z⟩
  · exact ⟨⟨⟨0, by omega, rfl⟩, ⟨0, by omega, rfl⟩⟩, ⟨0, by omega, rfl⟩, ⟨0, by omega, rfl⟩⟩
  · exact ⟨⟨by decide, by decide⟩, ⟨by decide, by decide⟩, by decide, rfl, fun s j _ _ => sgn_0 _⟩
set_option maxRecDepth 100000 in
theorem lw_run (L : Nat) (hL : L ≤ 3072) (xs : Nat → Int32) : xWP (pg_Z_law L xs) xK1 0 [(0, .float 3)] [] [] (0, 0) := by
  refine xWP_go 60 [(18, [0, 1, 2, 3])] fun P hP => ?_
  refine xcall (sp_H_init _ ?_)
  refine xcall (sp_M_init _ ?_)
  refine hP _ _ _ _ _ ?_
  exact lw_loop L hL xs L 0 0 _ _ rfl (by omega) (Nat.zero_le L) lw_start
