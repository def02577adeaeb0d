/-! ===== both readings: a level of the grammar ===== -/
/-- the first held sign that stands below sums compares -/
def lowCmp (ops : List Int32) : Prop := ∃ a x b, ops = a ++ x :: b ∧ (∀ z, z ∈ a → 4 ≤ rkV z) ∧ rkV x = 3
/-- what the next byte may be behind a level -/
def nextOK (i : Nat) (b : Int32) (ops : List Int32) : Prop := (1 ≤ i → opMul b = false) ∧ (2 ≤ i → opAdd b = false) ∧ (3 ≤ i → opCmp b = true → lowCmp ops) ∧ (4 ≤ i → opAnd b = false) ∧ (5 ≤ i → opOr b = false)
def simGood (u : Int32) (y : Nat → Int32) (n : Nat) (A B C : Int32) (i o p : Nat) (c hl : List Int32) (dg : Int32) (r : gVal) : Prop := ∃ (c0 ops : List Int32) (k : Nat) (d : Int32), resL u y n p ((c, hl, nI o), dg, true) = resL u y n r.2.1 ((c ++ c0, List.replicate k 33 ++ (ops ++ hl), nI (o + k)), d, false) ∧ (∀ x, x ∈ ops → nI (6 - i) ≤ rkV x) ∧ pushes A B C (c0 ++ List.replicate k 20033 ++ ops.map (fun x => 20000 + x)) r.1 ∧ p + c0.length + k + ops.length ≤ r.2.1 ∧ (isDg (bY y n r.2.1) = false ∨ d = 0 ∨ d = 4) ∧ nextOK i (bY y n r.2.1) ops ∧ r.2.1 ≤ n
def simT (u : Int32) (y : Nat → Int32) (n : Nat) (A B C : Int32) (m i o : Nat) : Prop := ∀ (p : Nat) (c hl : List Int32) (dg : Int32), p ≤ n → c.length + hl.length ≤ p → (i = 0 ∨ topB (nI (6 - i)) hl) → ((grG u A B C (bY y n) m i o p).2.2 = true → simGood u y n A B C i o p c hl dg (grG u A B C (bY y n) m i o p)) ∧ ((grG u A B C (bY y n) m i o p).2.2 = false → resL u y n p ((c, hl, nI o), dg, true) = (none, (grG u A B C (bY y n) m i o p).2.1))
theorem numL_le {y : Nat → Int32} {n : Nat} : ∀ {d : Nat} {x : Int32} {p : Nat}, p ≤ n → (numL (bY y n) d x p).2 ≤ n := by
  intro d
  induction d with
  | zero => intro x p h; exact h
  | succ d ih =>
    intro x p h
    unfold numL
    cases e : isDg (bY y n p) with
    | false => rw [if_neg Bool.false_ne_true]; exact h
    | true => rw [if_pos rfl]; exact ih (bY_dg e).1
theorem nextOK_0 {b : Int32} {ops : List Int32} : nextOK 0 b ops := ⟨fun h => absurd h (by decide), fun h => absurd h (by decide), fun h => absurd h (by decide), fun h => absurd h (by decide), fun h => absurd h (by decide)⟩
/-- a number -/
theorem sim_num {u : Int32} {y : Nat → Int32} {n : Nat} {A B C : Int32} (hn : n ≤ 50) {o p : Nat} {c hl : List Int32} {dg : Int32} (pn : p ≤ n) (l : c.length + hl.length ≤ p) (h : isDg (bY y n p) = true) : simGood u y n A B C 0 o p c hl dg ((numL (bY y n) 4 0 p).1, (numL (bY y n) 4 0 p).2, true) := by
  obtain ⟨pl, eb⟩ := bY_dg h
  obtain ⟨w, hw, ew⟩ := dg_of h
  have e48 : nI (48 + w) - 48 = nI w := by
    have q : nI (48 + w) = nI w + 48 := by rw [Nat.add_comm]; exact (nI_add w 48).symm
    rw [q, Int32.add_sub_cancel]
  have e : numL (bY y n) 4 0 p = numL (bY y n) 3 (nI w) (p + 1) := by
    show (if isDg (bY y n p) then numL (bY y n) 3 (10 * 0 + bY y n p - 48) (p + 1) else _) = _
    rw [h, if_pos rfl, ew]
    have q : (10 : Int32) * 0 + nI (48 + w) - 48 = nI w := by
      rw [show (10 : Int32) * 0 = 0 by decide, Int32.zero_add, e48]
    rw [q]
  have st : rdS u (y p) (c, hl, nI o) dg true = some ((c ++ [nI w], hl, nI o), nI 1, false) := by
    unfold rdS
    rw [← eb, h, if_pos rfl, if_pos rfl, ew, e48]
    show some ((emL c (nI w), hl, nI o), (1 : Int32), false) = _
    rw [emL_ok (by omega)]
    rfl
  obtain ⟨k2, m2, h1, h2, h3, h4, h5, h6⟩ := num_sim (u := u) (y := y) (n := n) (c := c) (hl := hl) (o := nI o) 3 1 w (p + 1) rfl (Nat.le_refl 1) (by omega)
  have mono := numL_mono (bt := bY y n) (d := 3) (x := nI w) (p := p + 1)
  rw [e]
  refine ⟨[nI m2], [], 0, nI k2, ?_, fun x hx => absurd hx List.not_mem_nil, ?_, ?_, ?_, nextOK_0, numL_le pl⟩
  · rw [resL_go pl st]
    exact h6
  · rw [h4]
    exact push_num h3
  · show p + 1 + 0 + 0 ≤ (numL (bY y n) 3 (nI w) (p + 1)).2
    omega
  · rcases h5 with z | z
    · subst z; exact Or.inr (Or.inr rfl)
    · exact Or.inl z
