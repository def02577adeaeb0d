/-! ===== the tried side: a whole tape read ===== -/
theorem growL_len {c : List Int32} {d : Int32} (h : ¬ c.length = 0) : (growL c d).length = c.length := by
  unfold growL
  rw [List.length_append, List.length_dropLast]
  show c.length - 1 + 1 = c.length
  omega
theorem growL_get {c : List Int32} {d : Int32} {i : Nat} (h : i < c.length - 1) : (growL c d).getD i 0 = c.getD i 0 := by
  unfold growL
  rw [getD_app (by rw [List.length_dropLast]; exact h)]
  rw [List.getD_eq_getElem?_getD, List.getD_eq_getElem?_getD, List.getElem?_dropLast, if_pos h]
theorem growL_last {c : List Int32} {d : Int32} (h : ¬ c.length = 0) : (growL c d).getD (c.length - 1) 0 = c.getD (c.length - 1) 0 * 10 + d := by
  unfold growL
  have z := getD_last (c := c.dropLast) (x := c.getD (c.length - 1) 0 * 10 + d)
  rw [List.length_dropLast] at z
  exact z
set_option maxRecDepth 100000 in
theorem sx_readDigit (F v : xS) (q : rdT) (dg : Int32) (w : Bool) (R : rdR F v q dg w) (u b : Int32) (hb : isDg b = true) {K : xKo} (h : rdK K (rdS u b q dg w)) : C_R_readDigit [.ref 0, .int (b - 48)] (xfill F v 0 (wR0 0)) K := by
  unfold rdS at h
  rw [hb, if_pos rfl] at h
  have e6 : v 0 6 = b2i w := R.2.2.2.2
  have e5 : v 0 5 = dg := R.2.2.2.1
  have e1 : v 0 1 = nI q.1.length := R.1.1
  have l50 : q.1.length ≤ 50 := R.1.2.1
  refine xM_go rfl 100 [] fun P hP => ?_
  refine br_c (fun z => ?_) (fun z => ?_)
  · have z : v 0 6 = 0 := z
    have wf : w = false := by
      rw [e6] at z
      cases w with
      | false => rfl
      | true => exact absurd z (by decide)
    subst wf
    rw [if_neg (by decide)] at h
    refine br_c (fun a => ?_) (fun a => ?_)
    · have a : v 0 5 = 0 := a
      rw [e5] at a
      rw [if_pos a] at h
      exact ⟨Or.inl rfl, h F v (rd_I R)⟩
    have a : ¬ v 0 5 = 0 := a
    rw [e5] at a
    rw [if_neg a] at h
    refine br_c (fun a2 => ?_) (fun a2 => ?_)
    · have a2 : v 0 5 = 4 := a2
      rw [e5] at a2
      rw [if_pos a2] at h
      exact ⟨Or.inl rfl, h F v (rd_I R)⟩
    have a2 : ¬ v 0 5 = 4 := a2
    rw [e5] at a2
    rw [if_neg a2] at h
    refine br_n (fun a3 => ?_) (fun a3 => ?_)
    · have a3 : ¬ v 0 1 = 0 := a3
      rw [e1] at a3
      have n3 : ¬ q.1.length = 0 := fun y => a3 (by rw [y]; rfl)
      rw [if_neg n3] at h
      obtain ⟨k, hk⟩ : ∃ k, q.1.length = k + 1 := ⟨q.1.length - 1, by omega⟩
      have ei : v 0 1 - 1 = nI k := by rw [e1, hk, nI_pred]
      have ni : nat (v 0 1 - 1) = k := by rw [ei]; exact nI_clamp (by omega)
      have b1 : vp_in (v 0 1 - 1) 50 := by rw [ei]; exact vp_in_nI (by omega) (by omega)
      refine ⟨b1, ?_⟩
      refine ⟨b1, ?_⟩
      have fin : rdR (va_up F 1 (upd (F 1) (nat (v 0 1 - 1)) (F 1 (nat (v 0 1 - 1)) * 10 + (b - 48)))) (va_up v 0 (va_up (v 0) 5 (v 0 5 + 1))) (growL q.1 (b - 48), q.2) (dg + 1) false := by
        refine ⟨⟨?_, ?_, fun i hi => ?_⟩, R.2.1, R.2.2.1, by show v 0 5 + 1 = dg + 1; rw [e5], e6⟩
        · show v 0 1 = nI (growL q.1 (b - 48)).length
          rw [growL_len n3]; exact e1
        · show (growL q.1 (b - 48)).length ≤ 50
          rw [growL_len n3]; exact l50
        · have hi : i < (growL q.1 (b - 48)).length := hi
          rw [growL_len n3] at hi
          show upd (F 1) (nat (v 0 1 - 1)) (F 1 (nat (v 0 1 - 1)) * 10 + (b - 48)) i = (growL q.1 (b - 48)).getD i 0
          rw [ni]
          by_cases e : i = k
          · rw [e, pk_us, R.1.2.2 k (by omega)]
            have z := growL_last (c := q.1) (d := b - 48) n3
            rw [show q.1.length - 1 = k by omega] at z
            exact z.symm
          · rw [pk_un e, growL_get (by omega)]
            exact R.1.2.2 i hi
      exact ⟨Or.inr rfl, h _ _ fin⟩
    · have a3 : v 0 1 = 0 := a3
      rw [e1] at a3
      have n3 : q.1.length = 0 := by
        by_cases y : q.1.length = 0
        · exact y
        · exact absurd a3 (nI_ne0 (by omega) (by omega))
      rw [if_pos n3] at h
      exact ⟨Or.inl rfl, h F v (rd_I R)⟩
  · have z : ¬ v 0 6 = 0 := z
    have wt : w = true := by
      rw [e6] at z
      cases w with
      | false => exact absurd rfl z
      | true => rfl
    subst wt
    rw [if_pos rfl] at h
    refine xcall (sx_emit F v q dg true R _ (fun F' v' R' => ?_))
    refine ⟨Or.inl rfl, ?_⟩
    have fin := (R'.w false).dg 1
    exact ⟨Or.inr rfl, h F' (va_up v' 0 (va_up (va_up (v' 0) 6 0) 5 1)) fin⟩
theorem xNM_at {u : Int32} {i : Nat} (hu : u = 0 ∨ u = 1) (hi : i < 3) : vp_in (3 * u + nI i) 6 ∧ xNM (nat (3 * u + nI i)) = nmC u i := by
  rcases (show i = 0 ∨ i = 1 ∨ i = 2 by omega) with e | e | e
  all_goals subst e
  all_goals rcases hu with e | e
  all_goals subst e
  all_goals exact ⟨vin (by decide), by decide⟩
set_option maxRecDepth 100000 in
theorem sx_readStart (F v : xS) (q : rdT) (R : rdR F v q 0 true) (u b : Int32) (hu : u = 0 ∨ u = 1) (hb : isDg b = false) {K : xKo} (h : rdK K (rdS u b q 0 true)) : C_R_readStart [.ref 0, .int b, .int u] (xfill F v 0 (wR0 0)) K := by
  unfold rdS at h
  rw [hb, if_neg (by decide), if_pos rfl] at h
  have e4 : v 0 4 = q.2.2 := R.2.2.1
  have hit : ∀ (i : Nat) (P2 : Prop), i < 3 → (∀ F' v', rdR F' v' (emL q.1 (10000 + nI i), q.2) 0 false → K (some (.int 1)) (xfill F' v' 0 (wR0 0))) → True := fun _ _ _ _ => trivial
  have fin : ¬ b = nmC u 0 → ¬ b = nmC u 1 → ¬ b = nmC u 2 → xWP pg_R_readStart K 42 [(0, .ref 0), (1, .int b), (2, .int u), (3, .int (nI 3))] [] (xfill F v 0 (wR0 0)) (0, 0) := by
    intro n0 n1 n2
    rw [if_neg n0, if_neg n1, if_neg n2] at h
    have go : (b = 33 ∨ b = 40) → ¬ q.2.2 = 5 → ∀ K2 : xKo, (∀ F' v', rdR F' v' (q.1, hoL q.2.1 b, q.2.2) 0 true → K2 none (xfill F' v' 0 (wR0 0))) → C_R_hold [.ref 0, .int b] (xfill F v 0 (wR0 0)) K2 := fun _ _ K2 k => sx_hold F v q 0 true R b k
    have leaf : (b = 33 ∨ b = 40) → ¬ q.2.2 = 5 → ∀ F' v', rdR F' v' (q.1, hoL q.2.1 b, q.2.2) 0 true → K (some (.int 1)) (xfill F' (va_up v' 0 (va_up (v' 0) 4 (v' 0 4 + 1))) 0 (wR0 0)) := by
      intro c1 c2 F' v' R'
      rw [if_pos c1, if_neg c2] at h
      exact h F' _ ⟨R'.1, R'.2.1, by show v' 0 4 + 1 = q.2.2 + 1; rw [R'.2.2.1], R'.2.2.2⟩
    have no : (b = 33 ∨ b = 40) → q.2.2 = 5 → K (some (.int 0)) (xfill F v 0 (wR0 0)) := by
      intro c1 c2
      rw [if_pos c1, if_pos c2] at h
      exact h F v (rd_I R)
    refine xWP_go 100 [] fun P hP => ?_
    refine br_c (fun c1 => ?_) (fun c1 => ?_)
    · have c1 : b = 33 := c1
      refine br_n (fun c2 => ?_) (fun c2 => ?_)
      · have c2 : ¬ v 0 4 = 5 := c2
        rw [e4] at c2
        refine xcall (go (Or.inl c1) c2 _ (fun F' v' R' => ?_))
        exact ⟨Or.inr rfl, leaf (Or.inl c1) c2 F' v' R'⟩
      · have c2 : v 0 4 = 5 := c2
        rw [e4] at c2
        exact ⟨Or.inl rfl, no (Or.inl c1) c2⟩
    have c1 : ¬ b = 33 := c1
    refine br_n (fun c3 => ?_) (fun c3 => ?_)
    · have c3 : ¬ b = 40 := c3
      rw [if_neg (fun z => z.elim c1 c3)] at h
      exact ⟨Or.inl rfl, h F v (rd_I R)⟩
    · have c3 : b = 40 := c3
      refine br_n (fun c2 => ?_) (fun c2 => ?_)
      · have c2 : ¬ v 0 4 = 5 := c2
        rw [e4] at c2
        refine xcall (go (Or.inr c3) c2 _ (fun F' v' R' => ?_))
        exact ⟨Or.inr rfl, leaf (Or.inr c3) c2 F' v' R'⟩
      · have c2 : v 0 4 = 5 := c2
        rw [e4] at c2
        exact ⟨Or.inl rfl, no (Or.inr c3) c2⟩
  have name : ∀ i : Nat, i < 3 → (∀ j, j < i → ¬ b = nmC u j) → b = nmC u i → ∀ F' v', rdR F' v' (emL q.1 (10000 + nI i), q.2) 0 true → K (some (.int 1)) (xfill F' (va_up v' 0 (va_up (v' 0) 6 0)) 0 (wR0 0)) := by
    intro i hi hn he F' v' R'
    rcases (show i = 0 ∨ i = 1 ∨ i = 2 by omega) with e | e | e
    all_goals subst e
    · rw [if_pos he] at h
      exact h F' _ (R'.w false)
    · rw [if_neg (hn 0 (by omega)), if_pos he] at h
      exact h F' _ (R'.w false)
    · rw [if_neg (hn 0 (by omega)), if_neg (hn 1 (by omega)), if_pos he] at h
      exact h F' _ (R'.w false)
  have key : ∀ (d i : Nat), i + d = 3 → (∀ j, j < i → ¬ b = nmC u j) → xWP pg_R_readStart K 2 [(0, .ref 0), (1, .int b), (2, .int u), (3, .int (nI i))] [] (xfill F v 0 (wR0 0)) (0, 0) := by
    intro d
    induction d with
    | zero =>
      intro i hi hn
      have hi : i = 3 := hi
      subst hi
      refine xWP_go 100 [(2, [0, 1, 2, 3]), (42, [0, 1, 2, 3])] fun P hP => ?_
      refine br_c (fun _ => ?_) (fun z => absurd (by decide) z)
      refine hP _ _ _ _ _ ?_
      exact fin (hn 0 (by omega)) (hn 1 (by omega)) (hn 2 (by omega))
    | succ d ih =>
      intro i hi hn
      have X := xNM_at (i := i) hu (by omega)
      refine xWP_go 100 [(2, [0, 1, 2, 3]), (42, [0, 1, 2, 3])] fun P hP => ?_
      refine br_c (fun z => ?_) (fun _ => ?_)
      · have z : nI 3 ≤ nI i := z
        rw [nI_leI (by omega) (by omega)] at z
        omega
      refine ⟨rfl, X.1, ?_⟩
      refine br_n (fun a => ?_) (fun a => ?_)
      · have a : ¬ b = xNM (nat (3 * u + nI i)) := a
        rw [X.2] at a
        refine hP _ _ _ _ _ ?_
        rw [nI_1]
        refine ih (i + 1) (by omega) (fun j hj => ?_)
        by_cases e : j = i
        · rw [e]; exact a
        · exact hn j (by omega)
      · have a : b = xNM (nat (3 * u + nI i)) := a
        rw [X.2] at a
        refine xcall (sx_emit F v q 0 true R _ (fun F' v' R' => ?_))
        refine ⟨Or.inl rfl, ?_⟩
        exact ⟨Or.inr rfl, name i (by omega) hn a F' v' R'⟩
  refine xM_go rfl 100 [(2, [0, 1, 2, 3])] fun P hP => ?_
  refine hP _ _ _ _ _ ?_
  exact key 3 0 (by omega) (fun j hj => absurd hj (Nat.not_lt_zero j))
