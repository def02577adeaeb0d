/-! ===== what is held, and its release ===== -/
theorem emL_ok {c : List Int32} {x : Int32} (h : c.length < 50) : emL c x = c ++ [x] := if_pos h
theorem hoL_ok {c : List Int32} {x : Int32} (h : c.length < 50) : hoL c x = x :: c := if_pos h
/-- the top of what is held is no ! and stands below a rank -/
def topB (k : Int32) : List Int32 → Prop
  | [] => True
  | x :: _ => ¬ x = 33 ∧ rkV x < k
theorem cnL_stop {k : Int32} {c hl : List Int32} {o : Int32} (h : topB k hl) : cnL c hl o = (c, hl, o) := by
  cases hl with
  | nil => rfl
  | cons x r => exact if_neg h.1
theorem cnL_bang {hl : List Int32} : ∀ (k : Nat) (c : List Int32) (o : Int32), c.length + k ≤ 50 → cnL c (List.replicate k 33 ++ hl) o = cnL (c ++ List.replicate k 20033) hl (o - nI k) := by
  intro k
  induction k with
  | zero =>
    intro c o _
    show cnL c hl o = cnL (c ++ []) hl (o - 0)
    rw [List.append_nil, Int32.sub_zero]
  | succ k ih =>
    intro c o h
    have e : cnL c (List.replicate (k + 1) 33 ++ hl) o = cnL (emL c 20033) (List.replicate k 33 ++ hl) (o - 1) := if_pos rfl
    rw [e, emL_ok (by omega), ih _ _ (by rw [List.length_append]; show c.length + 1 + k ≤ 50; omega)]
    have e2 : c ++ [20033] ++ List.replicate k 20033 = c ++ List.replicate (k + 1) 20033 := by
      rw [List.append_assoc]
      rfl
    have e3 : o - 1 - nI k = o - nI (k + 1) := by
      rw [← nI_1, Int32.sub_sub, Int32.add_comm 1 (nI k)]
    rw [e2, e3]
theorem rlL_stop {k : Int32} {c hl : List Int32} {o : Int32} (h : topB k hl) : rlL k c o hl = (c, hl, o) := by
  cases hl with
  | nil => rfl
  | cons x r => exact if_neg (fun z => by have q := h.2; rw [xlt] at q; rw [xle] at z; omega)
theorem rlL_ops {k : Int32} {hl : List Int32} {o : Int32} : ∀ (ops c : List Int32), (∀ x, x ∈ ops → k ≤ rkV x) → c.length + ops.length ≤ 50 → rlL k c o (ops ++ hl) = rlL k (c ++ ops.map (fun x => 20000 + x)) o hl := by
  intro ops
  induction ops with
  | nil =>
    intro c _ _
    show rlL k c o hl = rlL k (c ++ []) o hl
    rw [List.append_nil]
  | cons x r ih =>
    intro c h l
    have l : c.length + (r.length + 1) ≤ 50 := l
    have e : rlL k c o ((x :: r) ++ hl) = rlL k (emL c (20000 + x)) o (r ++ hl) := if_pos (h x List.mem_cons_self)
    rw [e, emL_ok (by omega), ih _ (fun y hy => h y (List.mem_cons_of_mem x hy)) (by rw [List.length_append]; show c.length + 1 + r.length ≤ 50; omega)]
    have e2 : c ++ [20000 + x] ++ r.map (fun x => 20000 + x) = c ++ (x :: r).map (fun x => 20000 + x) := by
      rw [List.append_assoc]
      rfl
    rw [e2]
/-- released by a lower rank, ops that stand above it -/
theorem rlL_all {k : Int32} {hl ops c : List Int32} {o : Int32} (h : ∀ x, x ∈ ops → k ≤ rkV x) (l : c.length + ops.length ≤ 50) (b : topB k hl) : rlL k c o (ops ++ hl) = (c ++ ops.map (fun x => 20000 + x), hl, o) := by
  rw [rlL_ops ops c h l, rlL_stop b]
