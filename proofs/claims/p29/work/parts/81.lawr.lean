/-! ===== the law: call by call ===== -/
set_option maxRecDepth 100000 in
theorem lw_loop (L : Nat) (hL : L ≤ 3072) (xs : Nat → Int32) : ∀ (m n i : Nat) (w : xW) (b : xB), i = 6 * n → L ≤ i + m → i ≤ L → lwI n w → xWP (pg_Z_law L xs) xK1 18 (xl1 (nI i)) [] w b := by
  intro m
  induction m using Nat.strongRecOn with
  | ind m ih =>
    intro n i w b hn hm hi hw
    refine xWP_go 60 [(18, [0, 1, 2, 3]), (212, [0, 1, 2, 3]), (245, [0, 1, 2, 3]), (278, [0, 1, 2, 3]), (321, [0, 1, 2, 3]), (354, [0, 1, 2, 3]), (387, [0, 1, 2, 3]), (430, [0, 1, 2, 3]), (453, [0, 1, 2, 3]), (486, [0, 1, 2, 3]), (519, [0, 1, 2, 3]), (582, [0, 1, 2, 3]), (605, [0, 1, 2, 3]), (658, [0, 1, 2, 3]), (691, [0, 1, 2, 3]), (714, [0, 1, 2, 3]), (747, [0, 1, 2, 3]), (790, [0, 1, 2, 3]), (823, [0, 1, 2, 3]), (856, [0, 1, 2, 3]), (899, [0, 1, 2, 3]), (922, [0, 1, 2, 3]), (965, [0, 1, 2, 3]), (1008, [0, 1, 2, 3]), (1041, [0, 1, 2, 3]), (1074, [0, 1, 2, 3]), (1097, [0, 1, 2, 3]), (1140, [0, 1, 2, 3]), (1183, [0, 1, 2, 3]), (1206, [0, 1, 2, 3]), (1249, [0, 1, 2, 3]), (1272, [0, 1, 2, 3]), (1315, [0, 1, 2, 3]), (1358, [0, 1, 2, 3]), (1421, [0, 1, 2, 3]), (1444, [0, 1, 2, 3]), (1467, [0, 1, 2, 3]), (1480, [0, 1, 2, 3]), (1493, [0, 1, 2, 3]), (1516, [0, 1, 2, 3]), (1529, [0, 1, 2, 3]), (1552, [0, 1, 2, 3])] fun P hP => ?_
    refine ⟨rfl, ?_⟩
    refine br_c (fun _ => ?_) (fun z => ?_)
    · exact ⟨Or.inr rfl, rfl⟩
    have z : ¬ nI L - nI 6 < nI i := z
    rw [lw_end hL (by omega)] at z
    obtain ⟨F, v, F2, v2, rfl, A, I, S, S2⟩ := hw
    have hk : ∀ w b, lwI (n + 1) w → xWP (pg_Z_law L xs) xK1 18 (xl1 (nI i + 6)) [] w b := by
      intro w b h
      rw [show nI i + 6 = nI (i + 6) from nI_add i 6]
      exact ih (m - 6) (by omega) (n + 1) (i + 6) w b (by omega) (by omega) (by omega) h
    refine ⟨rfl, vp_in_nI (by omega) (by omega), ?_⟩
    refine ⟨fun _ => hP _ _ _ _ _ (lw_c0 L hL xs i n (by omega) (by omega) F v F2 v2 A I S S2 _ hk), fun _ => ?_⟩
    refine ⟨fun _ => hP _ _ _ _ _ (lw_c1 L hL xs i n (by omega) (by omega) F v F2 v2 A I S S2 _ hk), fun _ => ?_⟩
    refine ⟨fun _ => hP _ _ _ _ _ (lw_c2 L hL xs i n (by omega) (by omega) F v F2 v2 A I S S2 _ hk), fun _ => ?_⟩
    refine ⟨fun _ => hP _ _ _ _ _ (lw_c3 L hL xs i n (by omega) (by omega) F v F2 v2 A I S S2 _ hk), fun _ => ?_⟩
    refine ⟨fun _ => hP _ _ _ _ _ (lw_c4 L hL xs i n (by omega) (by omega) F v F2 v2 A I S S2 _ hk), fun _ => ?_⟩
    refine ⟨fun _ => hP _ _ _ _ _ (lw_c5 L hL xs i n (by omega) (by omega) F v F2 v2 A I S S2 _ hk), fun _ => ?_⟩
    refine ⟨fun _ => hP _ _ _ _ _ (lw_c6 L hL xs i n (by omega) (by omega) F v F2 v2 A I S S2 _ hk), fun _ => ?_⟩
    refine ⟨fun _ => hP _ _ _ _ _ (lw_c7 L hL xs i n (by omega) (by omega) F v F2 v2 A I S S2 _ hk), fun _ => ?_⟩
    refine ⟨fun _ => hP _ _ _ _ _ (lw_c8 L hL xs i n (by omega) (by omega) F v F2 v2 A I S S2 _ hk), fun _ => ?_⟩
    refine ⟨fun _ => hP _ _ _ _ _ (lw_c9 L hL xs i n (by omega) (by omega) F v F2 v2 A I S S2 _ hk), fun _ => ?_⟩
    refine ⟨fun _ => hP _ _ _ _ _ (lw_c10 L hL xs i n (by omega) (by omega) F v F2 v2 A I S S2 _ hk), fun _ => ?_⟩
    refine ⟨fun _ => hP _ _ _ _ _ (lw_c11 L hL xs i n (by omega) (by omega) F v F2 v2 A I S S2 _ hk), fun _ => ?_⟩
    refine ⟨fun _ => hP _ _ _ _ _ (lw_c12 L hL xs i n (by omega) (by omega) F v F2 v2 A I S S2 _ hk), fun _ => ?_⟩
    refine ⟨fun _ => hP _ _ _ _ _ (lw_c13 L hL xs i n (by omega) (by omega) F v F2 v2 A I S S2 _ hk), fun _ => ?_⟩
    refine ⟨fun _ => hP _ _ _ _ _ (lw_c14 L hL xs i n (by omega) (by omega) F v F2 v2 A I S S2 _ hk), fun _ => ?_⟩
    refine ⟨fun _ => hP _ _ _ _ _ (lw_c15 L hL xs i n (by omega) (by omega) F v F2 v2 A I S S2 _ hk), fun _ => ?_⟩
    refine ⟨fun _ => hP _ _ _ _ _ (lw_c16 L hL xs i n (by omega) (by omega) F v F2 v2 A I S S2 _ hk), fun _ => ?_⟩
    refine ⟨fun _ => hP _ _ _ _ _ (lw_c17 L hL xs i n (by omega) (by omega) F v F2 v2 A I S S2 _ hk), fun _ => ?_⟩
    refine ⟨fun _ => hP _ _ _ _ _ (lw_c18 L hL xs i n (by omega) (by omega) F v F2 v2 A I S S2 _ hk), fun _ => ?_⟩
    refine ⟨fun _ => hP _ _ _ _ _ (lw_c19 L hL xs i n (by omega) (by omega) F v F2 v2 A I S S2 _ hk), fun _ => ?_⟩
    refine ⟨fun _ => hP _ _ _ _ _ (lw_c20 L hL xs i n (by omega) (by omega) F v F2 v2 A I S S2 _ hk), fun _ => ?_⟩
    refine ⟨fun _ => hP _ _ _ _ _ (lw_c21 L hL xs i n (by omega) (by omega) F v F2 v2 A I S S2 _ hk), fun _ => ?_⟩
    refine ⟨fun _ => hP _ _ _ _ _ (lw_c22 L hL xs i n (by omega) (by omega) F v F2 v2 A I S S2 _ hk), fun _ => ?_⟩
    refine ⟨fun _ => hP _ _ _ _ _ (lw_c23 L hL xs i n (by omega) (by omega) F v F2 v2 A I S S2 _ hk), fun _ => ?_⟩
    refine ⟨fun _ => hP _ _ _ _ _ (lw_c24 L hL xs i n (by omega) (by omega) F v F2 v2 A I S S2 _ hk), fun _ => ?_⟩
    refine ⟨fun _ => hP _ _ _ _ _ (lw_c25 L hL xs i n (by omega) (by omega) F v F2 v2 A I S S2 _ hk), fun _ => ?_⟩
    refine ⟨fun _ => hP _ _ _ _ _ (lw_c26 L hL xs i n (by omega) (by omega) F v F2 v2 A I S S2 _ hk), fun _ => ?_⟩
    refine ⟨fun _ => hP _ _ _ _ _ (lw_c27 L hL xs i n (by omega) (by omega) F v F2 v2 A I S S2 _ hk), fun _ => ?_⟩
    refine ⟨fun _ => hP _ _ _ _ _ (lw_c28 L hL xs i n (by omega) (by omega) F v F2 v2 A I S S2 _ hk), fun _ => ?_⟩
    refine ⟨fun _ => hP _ _ _ _ _ (lw_c29 L hL xs i n (by omega) (by omega) F v F2 v2 A I S S2 _ hk), fun _ => ?_⟩
    refine ⟨fun _ => hP _ _ _ _ _ (lw_c30 L hL xs i n (by omega) (by omega) F v F2 v2 A I S S2 _ hk), fun _ => ?_⟩
    refine ⟨fun _ => hP _ _ _ _ _ (lw_c31 L hL xs i n (by omega) (by omega) F v F2 v2 A I S S2 _ hk), fun _ => ?_⟩
    refine ⟨fun _ => hP _ _ _ _ _ (lw_c32 L hL xs i n (by omega) (by omega) F v F2 v2 A I S S2 _ hk), fun _ => ?_⟩
    refine ⟨fun _ => hP _ _ _ _ _ (lw_c33 L hL xs i n (by omega) (by omega) F v F2 v2 A I S S2 _ hk), fun _ => ?_⟩
    refine ⟨fun _ => hP _ _ _ _ _ (lw_c34 L hL xs i n (by omega) (by omega) F v F2 v2 A I S S2 _ hk), fun _ => ?_⟩
    refine ⟨fun _ => hP _ _ _ _ _ (lw_c35 L hL xs i n (by omega) (by omega) F v F2 v2 A I S S2 _ hk), fun _ => ?_⟩
    refine ⟨fun _ => hP _ _ _ _ _ (lw_c36 L hL xs i n (by omega) (by omega) F v F2 v2 A I S S2 _ hk), fun _ => ?_⟩
    refine ⟨fun _ => hP _ _ _ _ _ (lw_c37 L hL xs i n (by omega) (by omega) F v F2 v2 A I S S2 _ hk), fun _ => ?_⟩
    refine ⟨fun _ => hP _ _ _ _ _ (lw_c38 L hL xs i n (by omega) (by omega) F v F2 v2 A I S S2 _ hk), fun _ => ?_⟩
    refine ⟨fun _ => hP _ _ _ _ _ (lw_c39 L hL xs i n (by omega) (by omega) F v F2 v2 A I S S2 _ hk), fun _ => ?_⟩
    refine ⟨fun _ => hP _ _ _ _ _ (lw_c40 L hL xs i n (by omega) (by omega) F v F2 v2 A I S S2 _ hk), fun _ => ?_⟩
    refine hP _ _ _ _ _ ?_
    exact hk _ _ ⟨F, v, F2, v2, rfl, A, I.up, S, S2⟩
set_option maxRecDepth 100000 in
theorem lw_start : lwI 0 (wH0 ++ wM0 70) := by
  refine ⟨xarrs wH0, xobjs wH0, xarrs (wM0 70), xobjs (wM0 70), rfl, ?_, ?_, ?_, ?_⟩
  · refine ⟨⟨⟨rfl, rfl, rfl, rfl, rfl, rfl⟩, fun j hj => absurd (show j < 0 from hj) (Nat.not_lt_zero j), fun j hj => absurd (show j < 0 from hj) (Nat.not_lt_zero j), fun j hj => absurd (show j < 0 from hj) (Nat.not_lt_zero j), fun j hj => absurd (show j < 0 from hj) (Nat.not_lt_zero j)⟩, ⟨⟨fun j _ => (show (0 : Int32) = bare 0 0 from (bare_0 0).symm), fun j _ => (show (0 : Int32) = bare 0 0 from (bare_0 0).symm), fun j _ => (show (0 : Int32) = bare 0 0 from (bare_0 0).symm), fun j _ => (show (0 : Int32) = bare 0 0 from (bare_0 0).symm)⟩, ⟨⟨rfl, rfl, rfl, rfl⟩, rfl, rfl, rfl, rfl⟩, ⟨rfl, rfl⟩, fun j hj => absurd (show j < 0 from hj) (Nat.not_lt_zero j)⟩, fun z => absurd rfl z⟩
  · refine ⟨⟨⟨⟨0, by omega, rfl⟩, ⟨0, by omega, rfl⟩, ⟨0, by omega, rfl⟩, ⟨0, by omega, rfl⟩, ⟨0, by omega, rfl⟩⟩, fun j hj => absurd (show j < 0 from hj) (Nat.not_lt_zero j)⟩, ⟨⟨⟨0, by omega, rfl⟩, ⟨0, by omega, rfl⟩⟩, ⟨⟨0, by omega, rfl⟩, ⟨0, by omega, rfl⟩, ⟨0, by omega, rfl⟩, ⟨0, by omega, rfl⟩⟩, fun j _ => bare_0 _, fun j _ => bare_0 _, fun j _ => bare_0 _, fun j _ => bare_0 _⟩, fun z => absurd rfl z⟩
  · exact ⟨⟨⟨0, by omega, rfl⟩, ⟨0, by omega, rfl⟩⟩, ⟨0, by omega, rfl⟩, ⟨0, by omega, rfl⟩⟩
  · exact ⟨⟨by decide, by decide⟩, ⟨by decide, by decide⟩, by decide, rfl, fun s j _ _ => sgn_0 _⟩
set_option maxRecDepth 100000 in
theorem lw_run (L : Nat) (hL : L ≤ 3072) (xs : Nat → Int32) : xWP (pg_Z_law L xs) xK1 0 [(0, .float 3)] [] [] (0, 0) := by
  refine xWP_go 60 [(18, [0, 1, 2, 3])] fun P hP => ?_
  refine xcall (sp_H_init _ ?_)
  refine xcall (sp_M_init _ ?_)
  refine hP _ _ _ _ _ ?_
  exact lw_loop L hL xs L 0 0 _ _ rfl (by omega) (Nat.zero_le L) lw_start
