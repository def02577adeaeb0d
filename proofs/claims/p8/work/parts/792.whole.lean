/-! ===== both readings agree ===== -/
theorem sim_fac {u : Int32} {y : Nat → Int32} {n : Nat} {A B C : Int32} (hn : n ≤ 50) {m o : Nat} (ho : o ≤ 5) (S0 : o < 5 → simT u y n A B C m 0 (o + 1)) (S5 : o < 5 → simT u y n A B C m 5 (o + 1)) : simT u y n A B C (m + 1) 0 o := by
  intro p c hl dg pn l _
  have eg : grG u A B C (bY y n) (m + 1) 0 o p = facG u A B C (bY y n) (grG u A B C (bY y n) m 0 (o + 1)) (grG u A B C (bY y n) m 5 (o + 1)) o p := by simp only [grG]
  rw [eg]
  unfold facG
  cases dgt : isDg (bY y n p) with
  | true =>
    rw [if_pos rfl]
    exact ⟨fun _ => sim_num hn pn l dgt, fun z => absurd (show true = false from z) (by decide)⟩
  | false =>
    rw [if_neg Bool.false_ne_true]
    by_cases h1 : bY y n p = 33 ∨ bY y n p = 40
    · rw [if_pos h1]
      obtain ⟨pl, eb⟩ := bY_ne (show ¬ bY y n p = -1 from fun z => by rw [z] at h1; exact absurd h1 (by decide))
      by_cases o5 : o = 5
      · rw [if_pos o5]
        refine ⟨fun z => absurd z Bool.false_ne_true, fun _ => resL_no pl ?_⟩
        have nn : ∀ i, ¬ bY y n p = nmC u i := by
          intro i e
          unfold nmC at e
          rcases h1 with z | z
          all_goals rw [z] at e
          all_goals split at e
          all_goals split at e
          all_goals first
            | exact absurd e (by decide)
            | (split at e
               all_goals exact absurd e (by decide))
        show rdS u (y p) (c, hl, nI o) dg true = none
        unfold rdS
        rw [← eb, dgt, if_neg Bool.false_ne_true, if_pos rfl, if_neg (nn 0), if_neg (nn 1), if_neg (nn 2), if_pos h1, if_pos (by rw [o5]; rfl)]
      · rw [if_neg o5]
        have o5 : o < 5 := by omega
        by_cases h33 : bY y n p = 33
        · rw [if_pos h33]
          exact sim_bang hn l pl (eb.symm.trans h33) o5 (S0 o5)
        · rw [if_neg h33]
          have h40 : bY y n p = 40 := h1.resolve_left h33
          have st := open_st (u := u) (y := y) (n := n) (c := c) (dg := dg) (show hl.length < 50 by omega) o5 (Or.inr rfl) (eb.symm.trans h40)
          have X := S5 o5 (p + 1) c (40 :: hl) 0 (by omega) (by show c.length + (hl.length + 1) ≤ p + 1; omega) (Or.inr ⟨by decide, by decide⟩)
          obtain ⟨r, er⟩ : ∃ r, r = grG u A B C (bY y n) m 5 (o + 1) (p + 1) := ⟨_, rfl⟩
          rw [← er] at X ⊢
          cases g : r.2.2 with
          | false =>
            rw [Bool.false_and, if_neg Bool.false_ne_true]
            refine ⟨fun z => absurd z Bool.false_ne_true, fun _ => ?_⟩
            rw [resL_go pl st]
            exact X.2 g
          | true =>
            rw [Bool.true_and]
            by_cases h41 : bY y n r.2.1 = 41
            · rw [h41, if_pos (by decide)]
              refine ⟨fun _ => ?_, fun z => absurd (show true = false from z) (by decide)⟩
              obtain ⟨qn, cc, e1, e2, e3⟩ := sim_shut hn (by omega) (X.1 g) h41
              refine ⟨cc, [], 0, 0, ?_, fun x hx => absurd hx List.not_mem_nil, ?_, ?_, Or.inr (Or.inl rfl), nextOK_0, qn⟩
              · rw [resL_go pl st, e1]
                rfl
              · show pushes A B C (cc ++ [] ++ []) r.1
                rw [List.append_nil, List.append_nil]
                exact e2
              · show p + cc.length + 0 + 0 ≤ r.2.1 + 1
                omega
            · rw [if_neg (fun z => h41 (by rw [beq_iff_eq] at z; exact z))]
              refine ⟨fun z => absurd z Bool.false_ne_true, fun _ => ?_⟩
              rw [resL_go pl st]
              exact sim_refuse (r := r) hn (Or.inr ⟨hl, rfl⟩) (by show c.length + (hl.length + 1) ≤ p + 1; omega) (X.1 g) (Or.inl h41) (Or.inr ⟨hl, rfl⟩)
    · rw [if_neg h1]
      exact sim_named hn pn l dgt h1
theorem sim_up {u : Int32} {y : Nat → Int32} {n : Nat} {A B C : Int32} (hn : n ≤ 50) {m o i : Nat} (hi : i ≤ 4) {op : Int32 → Bool} {ap : Int32 → Int32 → Int32 → Int32} (H : opSpec i (5 - i) op ap) (eg : ∀ p, grG u A B C (bY y n) (m + 1) (i + 1) o p = lpG op ap (bY y n) (grG u A B C (bY y n) m i o) 50 (grG u A B C (bY y n) m i o p)) (S : simT u y n A B C m i o) : simT u y n A B C (m + 1) (i + 1) o := by
  intro p c hl dg pn l tb
  have e6 : 6 - (i + 1) = 5 - i := by omega
  have tb : topB (nI (5 - i)) hl := by
    rcases tb with z | z
    · exact absurd z (Nat.succ_ne_zero i)
    · rw [e6] at z; exact z
  have X := S p c hl dg pn l (Or.inr (tb.up hi))
  rw [eg p]
  have q := sim_lp hn hi H S l tb 50 (grG u A B C (bY y n) m i o p) (by omega) (fun g => simX.mono (P := rkA (6 - i)) (X.1 g) (fun ops z x hx => rk_dn hi (z x hx)) (fun _ _ z => z)) X.2
  refine ⟨fun g => ?_, q.2⟩
  have z := q.1 g
  rw [← e6] at z
  exact z
theorem sim_up3 {u : Int32} {y : Nat → Int32} {n : Nat} {A B C : Int32} (hn : n ≤ 50) {m o : Nat} (S : simT u y n A B C m 2 o) : simT u y n A B C (m + 1) 3 o := by
  intro p c hl dg pn l tb
  have tb : topB (nI (5 - 2)) hl := by
    rcases tb with z | z
    · exact absurd z (by decide)
    · exact z
  have X := S p c hl dg pn l (Or.inr (tb.up (i := 2) (by decide)))
  have eg : grG u A B C (bY y n) (m + 1) 3 o p = if (grG u A B C (bY y n) m 2 o p).2.2 && opCmp (bY y n (grG u A B C (bY y n) m 2 o p).2.1) then (apCmp (bY y n (grG u A B C (bY y n) m 2 o p).2.1) (grG u A B C (bY y n) m 2 o p).1 (grG u A B C (bY y n) m 2 o ((grG u A B C (bY y n) m 2 o p).2.1 + 1)).1, (grG u A B C (bY y n) m 2 o ((grG u A B C (bY y n) m 2 o p).2.1 + 1)).2) else grG u A B C (bY y n) m 2 o p := by simp only [grG]
  rw [eg]
  obtain ⟨r, er⟩ : ∃ r, r = grG u A B C (bY y n) m 2 o p := ⟨_, rfl⟩
  rw [← er] at X ⊢
  cases g : r.2.2 with
  | false =>
    rw [Bool.false_and, if_neg Bool.false_ne_true]
    exact ⟨fun z => by rw [g] at z; exact absurd z (by decide), X.2⟩
  | true =>
    rw [Bool.true_and]
    cases ob : opCmp (bY y n r.2.1) with
    | false =>
      rw [if_neg Bool.false_ne_true]
      refine ⟨fun z => ?_, X.2⟩
      have M : simX (rkA 4) u y n A B C 2 o p c hl dg r := X.1 z
      exact simX.mono (P := rkA 4) (Q := rkA 3) (j := 3) M (fun ops z x hx => rk_dn (i := 2) (by decide) (z x hx)) (fun ops _ z => opCmp_sp.2.1 _ _ z ob)
    | true =>
      rw [if_pos rfl]
      have Y := sim_iter hn (i := 2) (k := 4) (by decide) ⟨by decide, by decide, by decide⟩ opCmp_sp S l tb (P := rkA 4) (fun _ z => z) (X.1 g) ob
      refine ⟨fun z => ?_, Y.2⟩
      exact simX.mono (Q := rkA 3) (j := 3) (Y.1 z) (rkA_last (i := 2) (by decide)) (fun ops e z => by
        obtain ⟨a, b, e, h1, h2⟩ := e
        refine ⟨fun _ => z.1 (by decide), fun _ => z.2.1 (by decide), fun _ _ => ⟨a, b, [], e, fun x hx => ?_, h2⟩, fun h => absurd h (by decide), fun h => absurd h (by decide)⟩
        exact h1 x hx)
theorem gr_1 {u A B C : Int32} {bt : Nat → Int32} {m o p : Nat} : grG u A B C bt (m + 1) 1 o p = lpG opMul apMul bt (grG u A B C bt m 0 o) 50 (grG u A B C bt m 0 o p) := by simp only [grG]
theorem gr_2 {u A B C : Int32} {bt : Nat → Int32} {m o p : Nat} : grG u A B C bt (m + 1) 2 o p = lpG opAdd apAdd bt (grG u A B C bt m 1 o) 50 (grG u A B C bt m 1 o p) := by simp only [grG]
theorem gr_4 {u A B C : Int32} {bt : Nat → Int32} {m o p : Nat} : grG u A B C bt (m + 1) 4 o p = lpG opAnd apAnd bt (grG u A B C bt m 3 o) 50 (grG u A B C bt m 3 o p) := by simp only [grG]
theorem gr_5 {u A B C : Int32} {bt : Nat → Int32} {m o p : Nat} : grG u A B C bt (m + 1) 5 o p = lpG opOr apOr bt (grG u A B C bt m 4 o) 50 (grG u A B C bt m 4 o p) := by simp only [grG]
theorem sim_all {u : Int32} {y : Nat → Int32} {n : Nat} {A B C : Int32} (hn : n ≤ 50) : ∀ (m i o : Nat), o ≤ 5 → i ≤ 5 → 6 * (5 - o) + i + 1 ≤ m → simT u y n A B C m i o := by
  intro m
  induction m with
  | zero => intro i o _ _ h; exact absurd h (Nat.not_succ_le_zero _)
  | succ m ih =>
    intro i o ho hi h
    rcases (show i = 0 ∨ i = 1 ∨ i = 2 ∨ i = 3 ∨ i = 4 ∨ i = 5 by omega) with e | e | e | e | e | e
    all_goals subst e
    · exact sim_fac hn ho (fun z => ih 0 (o + 1) (by omega) (by omega) (by omega)) (fun z => ih 5 (o + 1) (by omega) (by omega) (by omega))
    · exact sim_up hn (i := 0) (by decide) opMul_sp (fun p => gr_1) (ih 0 o ho (by omega) (by omega))
    · exact sim_up hn (i := 1) (by decide) opAdd_sp (fun p => gr_2) (ih 1 o ho (by omega) (by omega))
    · exact sim_up3 hn (ih 2 o ho (by omega) (by omega))
    · exact sim_up hn (i := 3) (by decide) opAnd_sp (fun p => gr_4) (ih 3 o ho (by omega) (by omega))
    · exact sim_up hn (i := 4) (by decide) opOr_sp (fun p => gr_5) (ih 4 o ho (by omega) (by omega))
/-- a whole tape: the same fault, or a code that pushes what the grammar gives -/
theorem both_read {u : Int32} {y : Nat → Int32} {n : Nat} (hn : n ≤ 50) (A B C : Int32) : ((grG u A B C (bY y n) 60 5 0 0).2.2 = true ∧ (grG u A B C (bY y n) 60 5 0 0).2.1 = n → ∃ cc, rdF u y n = (some cc, n) ∧ pushes A B C cc (grG u A B C (bY y n) 60 5 0 0).1 ∧ cc.length ≤ n) ∧ (¬ ((grG u A B C (bY y n) 60 5 0 0).2.2 = true ∧ (grG u A B C (bY y n) 60 5 0 0).2.1 = n) → rdF u y n = (none, (grG u A B C (bY y n) 60 5 0 0).2.1)) := by
  have X := sim_all (u := u) (y := y) (A := A) (B := B) (C := C) hn 60 5 0 (by decide) (by decide) (by decide) 0 [] [] 0 (Nat.zero_le n) (Nat.le_refl 0) (Or.inr trivial)
  obtain ⟨r, er⟩ : ∃ r, r = grG u A B C (bY y n) 60 5 0 0 := ⟨_, rfl⟩
  rw [← er] at X ⊢
  rw [rdF_res]
  refine ⟨fun h => ?_, fun h => ?_⟩
  · obtain ⟨cc, e1, e2, e3⟩ := sim_end hn (Nat.le_refl 0) (X.1 h.1) h.2
    exact ⟨cc, e1, e2, by omega⟩
  · cases g : r.2.2 with
    | false => exact X.2 g
    | true =>
      have nq : ¬ r.2.1 = n := fun z => h ⟨g, z⟩
      have le : r.2.1 ≤ n := by
        obtain ⟨c0, ops, k, d, e1, e2, e3, e4, e5, e6, e7⟩ := X.1 g
        exact e7
      exact sim_refuse hn (Or.inl rfl) (Nat.le_refl 0) (X.1 g) (Or.inr rfl) (Or.inl (by omega))
