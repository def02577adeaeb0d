/-! ===== both readings: one more byte behind a level ===== -/
theorem lowCmp.app {ops : List Int32} (h : lowCmp ops) (m : List Int32) : lowCmp (ops ++ m) := by
  obtain ⟨a, x, b, e, h1, h2⟩ := h
  exact ⟨a, x, b ++ m, by rw [e, List.append_assoc, List.cons_append], h1, h2⟩
theorem nI_sub (a k : Nat) : nI (a + k) - nI k = nI a := by rw [← nI_add, Int32.add_sub_cancel]
theorem topB.up {i : Nat} {hl : List Int32} (hi : i ≤ 4) (h : topB (nI (5 - i)) hl) : topB (nI (6 - i)) hl := by
  cases hl with
  | nil => trivial
  | cons x r =>
    refine ⟨h.1, ?_⟩
    have q := h.2
    rw [xlt, nI_toInt (by omega)] at q ⊢
    omega
theorem rk_dn {i : Nat} {x : Int32} (hi : i ≤ 4) (h : nI (6 - i) ≤ rkV x) : nI (5 - i) ≤ rkV x := by
  rw [xle, nI_toInt (by omega)] at h ⊢
  omega
theorem rk_1 {k : Nat} {x : Int32} (hk : 1 ≤ k) (h2 : k ≤ 6) (h : nI k ≤ rkV x) : 1 ≤ rkV x := by
  rw [xle, nI_toInt (by omega)] at h
  rw [xle, show (1 : Int32).toInt = 1 by decide]
  omega
theorem rdS_no41 {u b dg : Int32} {q : rdT} {c' : List Int32} {o' : Int32} (nd : isDg b = false) (hb : b = 41) (e : rlL 1 (cnL q.1 q.2.1 q.2.2).1 (cnL q.1 q.2.1 q.2.2).2.2 (cnL q.1 q.2.1 q.2.2).2.1 = (c', [], o')) : rdS u b q dg false = none := by
  unfold rdS
  rw [nd, if_neg Bool.false_ne_true, if_neg Bool.false_ne_true, if_pos hb, e] <;> rfl
theorem rdS_yes41 {u b dg x : Int32} {q : rdT} {c' r : List Int32} {o' : Int32} (nd : isDg b = false) (hb : b = 41) (e : rlL 1 (cnL q.1 q.2.1 q.2.2).1 (cnL q.1 q.2.1 q.2.2).2.2 (cnL q.1 q.2.1 q.2.2).2.1 = (c', x :: r, o')) : rdS u b q dg false = some ((c', r, o' - 1), 0, false) := by
  unfold rdS
  rw [nd, if_neg Bool.false_ne_true, if_neg Bool.false_ne_true, if_pos hb, e] <;> rfl
theorem rdS_low {u b dg : Int32} {q : rdT} (nd : isDg b = false) (hb : ¬ b = 41) (hr : rkV b < 1) : rdS u b q dg false = none := by
  unfold rdS
  rw [nd, if_neg Bool.false_ne_true, if_neg Bool.false_ne_true, if_neg hb, if_pos hr]
theorem rdS_cmpNo {u b dg x : Int32} {q : rdT} {c' r : List Int32} {o' : Int32} (nd : isDg b = false) (hb : ¬ b = 41) (hr : rkV b = 3) (e : rlL 4 (cnL q.1 q.2.1 q.2.2).1 (cnL q.1 q.2.1 q.2.2).2.2 (cnL q.1 q.2.1 q.2.2).2.1 = (c', x :: r, o')) (hx : rkV x = 3) : rdS u b q dg false = none := by
  unfold rdS
  rw [nd, if_neg Bool.false_ne_true, if_neg Bool.false_ne_true, if_neg hb, if_neg (by rw [hr]; decide), if_pos hr, e]
  exact if_pos hx
theorem rdS_cmp {u b dg : Int32} {q : rdT} {c' hl' : List Int32} {o' : Int32} (nd : isDg b = false) (hb : ¬ b = 41) (hr : rkV b = 3) (e : rlL 4 (cnL q.1 q.2.1 q.2.2).1 (cnL q.1 q.2.1 q.2.2).2.2 (cnL q.1 q.2.1 q.2.2).2.1 = (c', hl', o')) (tb : topB 3 hl') (l : hl'.length < 50) : rdS u b q dg false = some ((c', b :: hl', o'), 0, true) := by
  unfold rdS
  rw [nd, if_neg Bool.false_ne_true, if_neg Bool.false_ne_true, if_neg hb, if_neg (by rw [hr]; decide), if_pos hr, e]
  cases hl' with
  | nil =>
    show some ((c', hoL [] b, o'), (0 : Int32), true) = _
    rw [hoL_ok l]
  | cons x r =>
    show (if rkV x = 3 then none else some ((c', hoL (x :: r) b, o'), (0 : Int32), true)) = _
    rw [if_neg (fun z => by have q := tb.2; rw [z] at q; exact absurd q (by decide)), hoL_ok l]
theorem rdS_op {u b dg k : Int32} {q : rdT} {c' hl' : List Int32} {o' : Int32} (nd : isDg b = false) (hb : ¬ b = 41) (hr : ¬ rkV b < 1) (hr3 : ¬ rkV b = 3) (hk : rkV b = k) (e : rlL k (cnL q.1 q.2.1 q.2.2).1 (cnL q.1 q.2.1 q.2.2).2.2 (cnL q.1 q.2.1 q.2.2).2.1 = (c', hl', o')) (l : hl'.length < 50) : rdS u b q dg false = some ((c', b :: hl', o'), 0, true) := by
  unfold rdS
  rw [nd, if_neg Bool.false_ne_true, if_neg Bool.false_ne_true, if_neg hb, if_neg hr, if_neg hr3, hk, e]
  show some ((c', hoL hl' b, o'), (0 : Int32), true) = _
  rw [hoL_ok l]
theorem rk_cases (b : Int32) : rkV b < 1 ∨ opMul b = true ∨ opAdd b = true ∨ opAnd b = true ∨ opOr b = true ∨ (opCmp b = true ∧ rkV b = 3) := by
  by_cases h0 : b = 37
  · subst h0; exact Or.inr (Or.inl (by decide))
  by_cases h1 : b = 38
  · subst h1; exact Or.inr (Or.inr (Or.inr (Or.inl (by decide))))
  by_cases h2 : b = 42
  · subst h2; exact Or.inr (Or.inl (by decide))
  by_cases h3 : b = 43
  · subst h3; exact Or.inr (Or.inr (Or.inl (by decide)))
  by_cases h4 : b = 45
  · subst h4; exact Or.inr (Or.inr (Or.inl (by decide)))
  by_cases h5 : b = 47
  · subst h5; exact Or.inr (Or.inl (by decide))
  by_cases h6 : b = 60
  · subst h6; exact Or.inr (Or.inr (Or.inr (Or.inr (Or.inr ⟨by decide, by decide⟩))))
  by_cases h7 : b = 61
  · subst h7; exact Or.inr (Or.inr (Or.inr (Or.inr (Or.inr ⟨by decide, by decide⟩))))
  by_cases h8 : b = 62
  · subst h8; exact Or.inr (Or.inr (Or.inr (Or.inr (Or.inr ⟨by decide, by decide⟩))))
  by_cases h9 : b = 124
  · subst h9; exact Or.inr (Or.inr (Or.inr (Or.inr (Or.inl (by decide)))))
  refine Or.inl ?_
  unfold rkV
  rw [if_neg h0, if_neg h1, if_neg h2, if_neg h3, if_neg h4, if_neg h5, if_neg h6, if_neg h7, if_neg h8, if_neg h9]
  decide
/-- behind a whole the next byte is refused -/
theorem sim_refuse {u : Int32} {y : Nat → Int32} {n : Nat} {A B C : Int32} (hn : n ≤ 50) {o p : Nat} {c hl : List Int32} {dg : Int32} {r : gVal} (f : flr hl) (l : c.length + hl.length ≤ p) (S : simGood u y n A B C 5 o p c hl dg r) (nb : ¬ bY y n r.2.1 = 41 ∨ hl = []) (nf : r.2.1 < n ∨ ∃ z, hl = 40 :: z) : resL u y n p ((c, hl, nI o), dg, true) = (none, r.2.1) := by
  obtain ⟨c0, ops, k, d, e1, e2, e3, e4, e5, e6, e7⟩ := S
  have h1 : ∀ x, x ∈ ops → 1 ≤ rkV x := fun x hx => rk_1 (k := 6 - 5) (by decide) (by decide) (e2 x hx)
  have C := close_all (c := c) (c0 := c0) (k := k) (o := nI (o + k)) h1 f (by rw [List.length_append]; omega)
  rw [e1]
  by_cases qn : r.2.1 < n
  · have eb : bY y n r.2.1 = y r.2.1 := if_pos qn
    refine resL_no qn ?_
    show rdS u (y r.2.1) (c ++ c0, List.replicate k 33 ++ (ops ++ hl), nI (o + k)) d false = none
    rw [← eb]
    obtain ⟨b, hb⟩ : ∃ b, b = bY y n r.2.1 := ⟨_, rfl⟩
    rw [← hb] at e5 e6 nb ⊢
    cases dgt : isDg b with
    | true =>
      have e5 : d = 0 ∨ d = 4 := by
        rcases e5 with z | z
        · rw [dgt] at z; exact absurd z (by decide)
        · exact z
      unfold rdS
      rw [dgt, if_pos rfl, if_neg Bool.false_ne_true]
      rcases e5 with z | z
      · rw [if_pos z]
      · rw [if_neg (by rw [z]; decide), if_pos z]
    | false =>
      by_cases b41 : b = 41
      · have hz : hl = [] := nb.resolve_left (fun z => z b41)
        subst hz
        refine rdS_no41 dgt b41 (c' := c ++ c0 ++ List.replicate k 20033 ++ ops.map (fun x => 20000 + x)) (o' := nI (o + k) - nI k) ?_
        show rlL 1 (cnL (c ++ c0) (List.replicate k 33 ++ (ops ++ [])) (nI (o + k))).1 (cnL (c ++ c0) (List.replicate k 33 ++ (ops ++ [])) (nI (o + k))).2.2 (cnL (c ++ c0) (List.replicate k 33 ++ (ops ++ [])) (nI (o + k))).2.1 = _
        rw [C.1]
        exact C.2
      · rcases rk_cases b with z | z | z | z | z | z
        · exact rdS_low dgt b41 z
        · rw [e6.1 (by decide)] at z; exact absurd z (by decide)
        · rw [e6.2.1 (by decide)] at z; exact absurd z (by decide)
        · rw [e6.2.2.2.1 (by decide)] at z; exact absurd z (by decide)
        · rw [e6.2.2.2.2 (by decide)] at z; exact absurd z (by decide)
        · obtain ⟨a, x, m, ea, ha, hx⟩ := e6.2.2.1 (by decide) z.1
          refine rdS_cmpNo dgt b41 z.2 (c' := c ++ c0 ++ List.replicate k 20033 ++ a.map (fun x => 20000 + x)) (x := x) (r := m ++ hl) (o' := nI (o + k) - nI k) ?_ hx
          show rlL 4 (cnL (c ++ c0) (List.replicate k 33 ++ (ops ++ hl)) (nI (o + k))).1 (cnL (c ++ c0) (List.replicate k 33 ++ (ops ++ hl)) (nI (o + k))).2.2 (cnL (c ++ c0) (List.replicate k 33 ++ (ops ++ hl)) (nI (o + k))).2.1 = _
          rw [C.1]
          show rlL 4 (c ++ c0 ++ List.replicate k 20033) (nI (o + k) - nI k) (ops ++ hl) = _
          have ea2 : ops ++ hl = a ++ x :: (m ++ hl) := by rw [ea, List.append_assoc a]; rfl
          rw [ea2]
          rw [ea, List.length_append] at e4
          refine rlL_all ha ?_ ⟨fun z => ?_, ?_⟩
          · rw [List.length_append, List.length_append, List.length_replicate]; omega
          · rw [z] at hx; exact absurd hx (by decide)
          · rw [hx]; decide
  · have en : r.2.1 = n := by omega
    obtain ⟨z, hz⟩ := nf.resolve_left qn
    rw [en, resL_end]
    have ew : rdW ((c ++ c0, List.replicate k 33 ++ (ops ++ hl), nI (o + k)), d, false) = none := by
      unfold rdW
      rw [if_neg Bool.false_ne_true]
      show rdE (rlL 1 (cnL (c ++ c0) (List.replicate k 33 ++ (ops ++ hl)) (nI (o + k))).1 (cnL (c ++ c0) (List.replicate k 33 ++ (ops ++ hl)) (nI (o + k))).2.2 (cnL (c ++ c0) (List.replicate k 33 ++ (ops ++ hl)) (nI (o + k))).2.1) = none
      rw [C.1]
      show rdE (rlL 1 (c ++ c0 ++ List.replicate k 20033) (nI (o + k) - nI k) (ops ++ hl)) = none
      rw [C.2, hz]
      rfl
    rw [ew]
/-- the ) of a whole -/
theorem sim_shut {u : Int32} {y : Nat → Int32} {n : Nat} {A B C : Int32} (hn : n ≤ 50) {o p : Nat} {c hl : List Int32} {dg : Int32} {r : gVal} (l : c.length + (hl.length + 1) ≤ p) (S : simGood u y n A B C 5 (o + 1) p c (40 :: hl) dg r) (hb : bY y n r.2.1 = 41) : r.2.1 < n ∧ ∃ cc, resL u y n p ((c, 40 :: hl, nI (o + 1)), dg, true) = resL u y n (r.2.1 + 1) ((c ++ cc, hl, nI o), 0, false) ∧ pushes A B C cc r.1 ∧ p + cc.length ≤ r.2.1 := by
  obtain ⟨c0, ops, k, d, e1, e2, e3, e4, e5, e6, e7⟩ := S
  have h1 : ∀ x, x ∈ ops → 1 ≤ rkV x := fun x hx => rk_1 (k := 6 - 5) (by decide) (by decide) (e2 x hx)
  have C := close_all (c := c) (c0 := c0) (k := k) (o := nI (o + 1 + k)) (hl := 40 :: hl) h1 (Or.inr ⟨hl, rfl⟩) (by rw [List.length_append]; omega)
  obtain ⟨qn, eb⟩ := bY_ne (show ¬ bY y n r.2.1 = -1 by rw [hb]; decide)
  refine ⟨qn, c0 ++ List.replicate k 20033 ++ ops.map (fun x => 20000 + x), ?_, e3, ?_⟩
  · rw [e1]
    have st : rdS u (y r.2.1) (c ++ c0, List.replicate k 33 ++ (ops ++ 40 :: hl), nI (o + 1 + k)) d false = some ((c ++ (c0 ++ List.replicate k 20033 ++ ops.map (fun x => 20000 + x)), hl, nI o), 0, false) := by
      rw [← eb]
      have q := rdS_yes41 (u := u) (b := bY y n r.2.1) (dg := d) (q := (c ++ c0, List.replicate k 33 ++ (ops ++ 40 :: hl), nI (o + 1 + k))) (x := 40) (c' := c ++ c0 ++ List.replicate k 20033 ++ ops.map (fun x => 20000 + x)) (r := hl) (o' := nI (o + 1 + k) - nI k) (by rw [hb]; decide) hb (by
        show rlL 1 (cnL (c ++ c0) (List.replicate k 33 ++ (ops ++ 40 :: hl)) (nI (o + 1 + k))).1 (cnL (c ++ c0) (List.replicate k 33 ++ (ops ++ 40 :: hl)) (nI (o + 1 + k))).2.2 (cnL (c ++ c0) (List.replicate k 33 ++ (ops ++ 40 :: hl)) (nI (o + 1 + k))).2.1 = _
        rw [C.1]
        exact C.2)
      rw [q, nI_sub, nI_pred, List.append_assoc c c0, List.append_assoc c]
    exact resL_go qn st
  · rw [List.length_append, List.length_append, List.length_replicate, List.length_map]
    omega
/-- nothing behind a whole -/
theorem sim_end {u : Int32} {y : Nat → Int32} {n : Nat} {A B C : Int32} (hn : n ≤ 50) {o p : Nat} {c : List Int32} {dg : Int32} {r : gVal} (l : c.length ≤ p) (S : simGood u y n A B C 5 o p c [] dg r) (hr : r.2.1 = n) : ∃ cc, resL u y n p ((c, [], nI o), dg, true) = (some (c ++ cc), n) ∧ pushes A B C cc r.1 ∧ p + cc.length ≤ n := by
  obtain ⟨c0, ops, k, d, e1, e2, e3, e4, e5, e6, e7⟩ := S
  have h1 : ∀ x, x ∈ ops → 1 ≤ rkV x := fun x hx => rk_1 (k := 6 - 5) (by decide) (by decide) (e2 x hx)
  have C := close_all (c := c) (c0 := c0) (k := k) (o := nI (o + k)) (hl := []) h1 (Or.inl rfl) (by rw [List.length_append]; omega)
  refine ⟨c0 ++ List.replicate k 20033 ++ ops.map (fun x => 20000 + x), ?_, e3, ?_⟩
  · rw [e1, hr, resL_end]
    have ew : rdW ((c ++ c0, List.replicate k 33 ++ (ops ++ []), nI (o + k)), d, false) = some (c ++ (c0 ++ List.replicate k 20033 ++ ops.map (fun x => 20000 + x))) := by
      unfold rdW
      rw [if_neg Bool.false_ne_true]
      show rdE (rlL 1 (cnL (c ++ c0) (List.replicate k 33 ++ (ops ++ [])) (nI (o + k))).1 (cnL (c ++ c0) (List.replicate k 33 ++ (ops ++ [])) (nI (o + k))).2.2 (cnL (c ++ c0) (List.replicate k 33 ++ (ops ++ [])) (nI (o + k))).2.1) = _
      rw [C.1]
      show rdE (rlL 1 (c ++ c0 ++ List.replicate k 20033) (nI (o + k) - nI k) (ops ++ [])) = _
      rw [C.2]
      show some (c ++ c0 ++ List.replicate k 20033 ++ ops.map (fun x => 20000 + x)) = _
      rw [List.append_assoc c c0, List.append_assoc c]
    rw [ew]
  · rw [List.length_append, List.length_append, List.length_replicate, List.length_map]
    omega
