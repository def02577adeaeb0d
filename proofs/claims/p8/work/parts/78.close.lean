/-! ===== both readings: the next byte behind a whole ===== -/
/-- a bracket or nothing is held below -/
def flr (hl : List Int32) : Prop := hl = [] ∨ ∃ r, hl = 40 :: r
theorem flr.top {hl : List Int32} (h : flr hl) (k : Int32) (hk : 0 < k) : topB k hl := by
  rcases h with e | ⟨r, e⟩
  · subst e; trivial
  · subst e
    exact ⟨by decide, by rw [show rkV 40 = 0 by decide]; exact hk⟩
theorem top_ops {k : Int32} {ops hl : List Int32} (h : ∀ x, x ∈ ops → 1 ≤ rkV x) (b : topB k hl) : ∀ (c : List Int32) (o : Int32), cnL c (ops ++ hl) o = (c, ops ++ hl, o) := by
  intro c o
  cases ops with
  | nil => exact cnL_stop b
  | cons x r =>
    refine if_neg (fun e => ?_)
    have q := h x List.mem_cons_self
    rw [e] at q
    exact absurd q (by decide)
/-- closing all that is held above a floor -/
theorem close_all {c c0 ops hl : List Int32} {k : Nat} {o : Int32} (h : ∀ x, x ∈ ops → 1 ≤ rkV x) (f : flr hl) (l : (c ++ c0).length + k + ops.length ≤ 50) : (cnL (c ++ c0) (List.replicate k 33 ++ (ops ++ hl)) o) = (c ++ c0 ++ List.replicate k 20033, ops ++ hl, o - nI k) ∧ rlL 1 (c ++ c0 ++ List.replicate k 20033) (o - nI k) (ops ++ hl) = (c ++ c0 ++ List.replicate k 20033 ++ ops.map (fun x => 20000 + x), hl, o - nI k) := by
  refine ⟨?_, ?_⟩
  · rw [cnL_bang k _ _ (by omega), top_ops h (f.top 1 (by decide))]
  · exact rlL_all h (by rw [List.length_append, List.length_replicate]; omega) (f.top 1 (by decide))
