/-! ===== both readings: names, and what is refused ===== -/
theorem resL_wants {u : Int32} {y : Nat → Int32} {n : Nat} {q : rdT} {dg : Int32} : resL u y n n (q, dg, true) = (none, n) := by
  rw [resL_end]
  have e : rdW (q, dg, true) = none := by
    unfold rdW
    exact if_pos rfl
  rw [e]
theorem nmC_ne {u : Int32} {i : Nat} : ¬ (-1 : Int32) = nmC u i := by
  intro e
  unfold nmC at e
  split at e
  · split at e
    · exact absurd e (by decide)
    split at e
    · exact absurd e (by decide)
    · exact absurd e (by decide)
  · split at e
    · exact absurd e (by decide)
    split at e
    · exact absurd e (by decide)
    · exact absurd e (by decide)
theorem bY_ne {y : Nat → Int32} {n p : Nat} (h : ¬ bY y n p = -1) : p < n ∧ bY y n p = y p := by
  unfold bY at h ⊢
  by_cases c : p < n
  · exact ⟨c, if_pos c⟩
  · rw [if_neg c] at h
    exact absurd rfl h
/-- a name's word laid -/
theorem sim_word {u : Int32} {y : Nat → Int32} {n : Nat} {A B C : Int32} (hn : n ≤ 50) {o p : Nat} {c hl : List Int32} {dg : Int32} (l : c.length + hl.length ≤ p) (pn : p < n) (w v : Int32) (st : rdS u (y p) (c, hl, nI o) dg true = some ((emL c w, hl, nI o), 0, false)) (pu : pushes A B C [w] v) : simGood u y n A B C 0 o p c hl dg (v, p + 1, true) := by
  rw [emL_ok (show c.length < 50 by omega)] at st
  refine ⟨[w], [], 0, 0, ?_, fun x hx => absurd hx List.not_mem_nil, pu, ?_, Or.inr (Or.inl rfl), nextOK_0, pn⟩
  · rw [resL_go pn st]
    rfl
  · show p + 1 + 0 + 0 ≤ p + 1
    omega
theorem sim_named {u : Int32} {y : Nat → Int32} {n : Nat} {A B C : Int32} (hn : n ≤ 50) {o p : Nat} {c hl : List Int32} {dg : Int32} (pn : p ≤ n) (l : c.length + hl.length ≤ p) (h : isDg (bY y n p) = false) (h1 : ¬ (bY y n p = 33 ∨ bY y n p = 40)) : ((nmG u A B C (bY y n p) p).2.2 = true → simGood u y n A B C 0 o p c hl dg (nmG u A B C (bY y n p) p)) ∧ ((nmG u A B C (bY y n p) p).2.2 = false → resL u y n p ((c, hl, nI o), dg, true) = (none, (nmG u A B C (bY y n p) p).2.1)) := by
  by_cases m1 : bY y n p = -1
  · have e : nmG u A B C (bY y n p) p = (0, p, false) := by
      rw [m1]
      exact (if_neg nmC_ne).trans ((if_neg nmC_ne).trans (if_neg nmC_ne))
    rw [e]
    refine ⟨fun z => absurd z Bool.false_ne_true, fun _ => ?_⟩
    by_cases pl : p < n
    · have eb : bY y n p = y p := if_pos pl
      have st : rdS u (y p) (c, hl, nI o) dg true = none := by
        unfold rdS
        rw [← eb, h, if_neg Bool.false_ne_true, if_pos rfl, m1, if_neg nmC_ne, if_neg nmC_ne, if_neg nmC_ne, if_neg (by decide)]
      exact resL_no pl st
    · have en : p = n := by omega
      subst en
      exact resL_wants
  · obtain ⟨pl, eb⟩ := bY_ne m1
    have st0 : rdS u (y p) (c, hl, nI o) dg true = if bY y n p = nmC u 0 then some ((emL c 10000, hl, nI o), 0, false) else if bY y n p = nmC u 1 then some ((emL c 10001, hl, nI o), 0, false) else if bY y n p = nmC u 2 then some ((emL c 10002, hl, nI o), 0, false) else none := by
      unfold rdS
      rw [← eb, h, if_neg Bool.false_ne_true, if_pos rfl, if_neg h1]
    by_cases c0 : bY y n p = nmC u 0
    · have e : nmG u A B C (bY y n p) p = (A, p + 1, true) := if_pos c0
      rw [e]
      rw [if_pos c0] at st0
      exact ⟨fun _ => sim_word hn l pl _ _ st0 push_a, fun z => absurd (show true = false from z) (by decide)⟩
    rw [if_neg c0] at st0
    by_cases c1 : bY y n p = nmC u 1
    · have e : nmG u A B C (bY y n p) p = (B, p + 1, true) := (if_neg c0).trans (if_pos c1)
      rw [e]
      rw [if_pos c1] at st0
      exact ⟨fun _ => sim_word hn l pl _ _ st0 push_b, fun z => absurd (show true = false from z) (by decide)⟩
    rw [if_neg c1] at st0
    by_cases c2 : bY y n p = nmC u 2
    · have e : nmG u A B C (bY y n p) p = (C, p + 1, true) := (if_neg c0).trans ((if_neg c1).trans (if_pos c2))
      rw [e]
      rw [if_pos c2] at st0
      exact ⟨fun _ => sim_word hn l pl _ _ st0 push_c, fun z => absurd (show true = false from z) (by decide)⟩
    · have e : nmG u A B C (bY y n p) p = (0, p, false) := (if_neg c0).trans ((if_neg c1).trans (if_neg c2))
      rw [e]
      rw [if_neg c2] at st0
      exact ⟨fun z => absurd z Bool.false_ne_true, fun _ => resL_no pl st0⟩
