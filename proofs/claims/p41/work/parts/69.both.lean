/-! ===== both readings of a text ===== -/
def bY (y : Nat → Int32) (n k : Nat) : Int32 := if k < n then y k else -1
/-- what the rest of a tape makes of a state -/
def resL (u : Int32) (y : Nat → Int32) (n p : Nat) (s : rdU) : Option (List Int32) × Nat := match rdA u y (n - p) p s with
  | (i, none) => (none, i)
  | (_, some s) => (rdW s, n)
theorem resL_end {u : Int32} {y : Nat → Int32} {n : Nat} {s : rdU} : resL u y n n s = (rdW s, n) := by
  unfold resL
  rw [Nat.sub_self]
  rfl
theorem resL_no {u : Int32} {y : Nat → Int32} {n p : Nat} {s : rdU} (h : p < n) (e : rdS u (y p) s.1 s.2.1 s.2.2 = none) : resL u y n p s = (none, p) := by
  obtain ⟨d, hd⟩ : ∃ d, n - p = d + 1 := ⟨n - p - 1, by omega⟩
  unfold resL
  rw [hd]
  unfold rdA
  rw [e]
theorem resL_go {u : Int32} {y : Nat → Int32} {n p : Nat} {s s2 : rdU} (h : p < n) (e : rdS u (y p) s.1 s.2.1 s.2.2 = some s2) : resL u y n p s = resL u y n (p + 1) s2 := by
  obtain ⟨d, hd⟩ : ∃ d, n - p = d + 1 := ⟨n - p - 1, by omega⟩
  have hd2 : n - (p + 1) = d := by omega
  unfold resL
  rw [hd, hd2]
  have q : rdA u y (d + 1) p s = rdA u y d (p + 1) s2 := by
    show (match rdS u (y p) s.1 s.2.1 s.2.2 with
      | none => (p, none)
      | some s2 => rdA u y d (p + 1) s2) = _
    rw [e]
  rw [q]
theorem rdF_res {u : Int32} {y : Nat → Int32} {n : Nat} : rdF u y n = resL u y n 0 rd0 := by
  unfold rdF resL
  rw [Nat.sub_zero]
  obtain ⟨r, er⟩ : ∃ r, r = rdA u y n 0 rd0 := ⟨_, rfl⟩
  rw [← er]
  obtain ⟨i, s⟩ := r
  cases s <;> rfl
theorem bY_dg {y : Nat → Int32} {n p : Nat} (h : isDg (bY y n p) = true) : p < n ∧ bY y n p = y p := by
  unfold bY at h ⊢
  by_cases c : p < n
  · exact ⟨c, if_pos c⟩
  · rw [if_neg c] at h
    exact absurd h (by decide)
theorem dg_of {c : Int32} (h : isDg c = true) : ∃ d : Nat, d < 10 ∧ c = nI (48 + d) := by
  have h2 : 48 ≤ c.toInt ∧ c.toInt ≤ 57 := of_decide_eq_true h
  obtain ⟨k, hk, e, -⟩ := nI_ofx c (n := 58) ⟨by omega, by omega⟩ (by decide)
  have q := congrArg Int32.toInt e
  rw [nI_toInt (by omega)] at q
  exact ⟨k - 48, by omega, by rw [e]; congr 1; omega⟩
theorem dg_grow {m d : Nat} : 10 * nI m + nI (48 + d) - 48 = nI (10 * m + d) ∧ nI m * 10 + (nI (48 + d) - 48) = nI (10 * m + d) := by
  have e : nI (48 + d) - 48 = nI d := by
    have q : nI (48 + d) = nI d + 48 := by rw [Nat.add_comm]; exact (nI_add d 48).symm
    rw [q, Int32.add_sub_cancel]
  refine ⟨?_, ?_⟩
  · have q : 10 * nI m + nI (48 + d) = nI (10 * m + d) + 48 := by
      rw [show (10 : Int32) = nI 10 from rfl, nI_mul, nI_add, show (48 : Int32) = nI 48 from rfl, nI_add]
      congr 1
      omega
    rw [q, Int32.add_sub_cancel]
  · rw [e, show (10 : Int32) = nI 10 from rfl, nI_mul, nI_add, Nat.mul_comm]
theorem growL_app {c : List Int32} {x d : Int32} : growL (c ++ [x]) d = c ++ [x * 10 + d] := by
  unfold growL
  rw [List.dropLast_concat, List.length_append]
  have e : (c ++ [x]).getD (c.length + [x].length - 1) 0 = x := getD_last
  rw [e]
/-- digits behind a first one -/
theorem num_sim {u : Int32} {y : Nat → Int32} {n : Nat} {c hl : List Int32} {o : Int32} : ∀ (d k m p : Nat), k + d = 4 → 1 ≤ k → m < 10 ^ k → ∃ k2 m2, k2 ≤ 4 ∧ 1 ≤ k2 ∧ m2 < 10000 ∧ (numL (bY y n) d (nI m) p).1 = nI m2 ∧ (k2 = 4 ∨ isDg (bY y n (numL (bY y n) d (nI m) p).2) = false) ∧ resL u y n p ((c ++ [nI m], hl, o), nI k, false) = resL u y n (numL (bY y n) d (nI m) p).2 ((c ++ [nI m2], hl, o), nI k2, false) := by
  intro d
  induction d with
  | zero =>
    intro k m p hk h1 hm
    have hk : k = 4 := hk
    subst hk
    exact ⟨4, m, Nat.le_refl _, by omega, hm, rfl, Or.inl rfl, rfl⟩
  | succ d ih =>
    intro k m p hk h1 hm
    have k4 : 10 ^ k ≤ 10 ^ 4 := Nat.pow_le_pow_right (by decide) (by omega)
    cases dg : isDg (bY y n p) with
    | false =>
      have e : numL (bY y n) (d + 1) (nI m) p = (nI m, p) := by
        show (if isDg (bY y n p) then _ else _) = _
        rw [dg]
        exact if_neg Bool.false_ne_true
      rw [e]
      exact ⟨k, m, by omega, h1, by omega, rfl, Or.inr dg, rfl⟩
    | true =>
      obtain ⟨pn, eb⟩ := bY_dg dg
      obtain ⟨w, hw, ew⟩ := dg_of dg
      have e : numL (bY y n) (d + 1) (nI m) p = numL (bY y n) d (nI (10 * m + w)) (p + 1) := by
        show (if isDg (bY y n p) then numL (bY y n) d (10 * nI m + bY y n p - 48) (p + 1) else _) = _
        rw [dg, if_pos rfl, ew, dg_grow.1]
      rw [e]
      have st : rdS u (y p) (c ++ [nI m], hl, o) (nI k) false = some ((c ++ [nI (10 * m + w)], hl, o), nI (k + 1), false) := by
        unfold rdS
        rw [← eb, dg, if_pos rfl, if_neg Bool.false_ne_true, if_neg (nI_ne0 (by omega) (by omega)), if_neg (fun z => ?_), if_neg (fun z => ?_), ew]
        · show some ((growL (c ++ [nI m]) (nI (48 + w) - 48), hl, o), nI k + 1, false) = _
          rw [growL_app, dg_grow.2, nI_1]
        · have z : (c ++ [nI m]).length = 0 := z
          rw [List.length_append] at z
          exact absurd z (Nat.succ_ne_zero _)
        · have q := congrArg Int32.toInt z
          rw [nI_toInt (by omega)] at q
          have q : (k : Int) = 4 := q
          omega
      rw [resL_go pn st]
      exact ih (k + 1) (10 * m + w) (p + 1) (by omega) (by omega) (by rw [Nat.pow_succ]; omega)
