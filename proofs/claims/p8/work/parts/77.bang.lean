/-! ===== both readings: a ! ===== -/
theorem rkV_le (x : Int32) : rkV x ≤ 5 := by
  unfold rkV
  repeat' split
  all_goals decide
theorem ops_nil {ops : List Int32} (h : ∀ x, x ∈ ops → nI 6 ≤ rkV x) : ops = [] := by
  cases ops with
  | nil => rfl
  | cons x r =>
    have a := h x List.mem_cons_self
    have b := rkV_le x
    rw [xle] at a b
    have c : (nI 6).toInt = 6 := by decide
    have d : (5 : Int32).toInt = 5 := by decide
    omega
theorem open_st {u : Int32} {y : Nat → Int32} {n : Nat} {o p : Nat} {c hl : List Int32} {dg b : Int32} (l : hl.length < 50) (ho : o < 5) (hb : b = 33 ∨ b = 40) (eb : y p = b) : rdS u (y p) (c, hl, nI o) dg true = some ((c, b :: hl, nI (o + 1)), 0, true) := by
  have nd : isDg b = false := by rcases hb with z | z <;> subst z <;> decide
  have nn : ∀ i, ¬ b = nmC u i := by
    intro i e
    unfold nmC at e
    rcases hb with z | z
    all_goals subst z
    all_goals split at e
    all_goals split at e
    all_goals first
      | exact absurd e (by decide)
      | (split at e
         all_goals exact absurd e (by decide))
  have n5 : ¬ nI o = 5 := fun z => by
    have q := congrArg Int32.toInt z
    rw [nI_toInt (by omega), show (5 : Int32).toInt = 5 by decide] at q
    omega
  unfold rdS
  rw [eb, nd, if_neg Bool.false_ne_true, if_pos rfl, if_neg (nn 0), if_neg (nn 1), if_neg (nn 2), if_pos hb, if_neg n5]
  show some ((c, hoL hl b, nI o + 1), (0 : Int32), true) = _
  rw [hoL_ok l, nI_1]
theorem sim_bang {u : Int32} {y : Nat → Int32} {n : Nat} {A B C : Int32} (hn : n ≤ 50) {m o p : Nat} {c hl : List Int32} {dg : Int32} (l : c.length + hl.length ≤ p) (pn : p < n) (eb : y p = 33) (ho : o < 5) (S : simT u y n A B C m 0 (o + 1)) : ((grG u A B C (bY y n) m 0 (o + 1) (p + 1)).2.2 = true → simGood u y n A B C 0 o p c hl dg (if (grG u A B C (bY y n) m 0 (o + 1) (p + 1)).1 = 0 then 1 else 0, (grG u A B C (bY y n) m 0 (o + 1) (p + 1)).2)) ∧ ((grG u A B C (bY y n) m 0 (o + 1) (p + 1)).2.2 = false → resL u y n p ((c, hl, nI o), dg, true) = (none, (grG u A B C (bY y n) m 0 (o + 1) (p + 1)).2.1)) := by
  have st := open_st (u := u) (y := y) (n := n) (c := c) (dg := dg) (show hl.length < 50 by omega) ho (Or.inl rfl) eb
  have X := S (p + 1) c (33 :: hl) 0 (by omega) (by show c.length + (hl.length + 1) ≤ p + 1; omega) (Or.inl rfl)
  obtain ⟨r, er⟩ : ∃ r, r = grG u A B C (bY y n) m 0 (o + 1) (p + 1) := ⟨_, rfl⟩
  rw [← er] at X ⊢
  refine ⟨fun g => ?_, fun g => ?_⟩
  · obtain ⟨c0, ops, k, d, e1, e2, e3, e4, e5, e6, e7⟩ := X.1 g
    have e0 := ops_nil e2
    subst e0
    refine ⟨c0, [], k + 1, d, ?_, fun x hx => absurd hx List.not_mem_nil, ?_, ?_, e5, nextOK_0, e7⟩
    · rw [resL_go pn st, e1]
      have q : List.replicate k (33 : Int32) ++ ([] ++ 33 :: hl) = List.replicate (k + 1) 33 ++ ([] ++ hl) := by
        rw [List.replicate_succ']
        simp
      rw [q, show o + 1 + k = o + (k + 1) by omega]
    · have p := push_not e3
      have q : c0 ++ List.replicate k (20033 : Int32) ++ [].map (fun x : Int32 => 20000 + x) ++ [20033] = c0 ++ List.replicate (k + 1) 20033 ++ [].map (fun x : Int32 => 20000 + x) := by
        rw [List.replicate_succ']
        simp
      rw [q] at p
      exact p
    · have e4 : p + 1 + c0.length + k + 0 ≤ r.2.1 := e4
      show p + c0.length + (k + 1) + 0 ≤ r.2.1
      omega
  · rw [resL_go pn st]
    exact X.2 g
