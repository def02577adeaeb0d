/-! ===== the tried side: signs, and a whole tape ===== -/
set_option maxRecDepth 100000 in
theorem sx_readNext (F v : xS) (q : rdT) (R : rdR F v q 0 false) (u b : Int32) (hb : isDg b = false) {K : xKo} (h : rdK K (rdS u b q 0 false)) : C_R_readNext [.ref 0, .int b] (xfill F v 0 (wR0 0)) K := by
  unfold rdS at h
  rw [hb, if_neg (by decide), if_neg (by decide)] at h
  refine xM_go rfl 100 [] fun P hP => ?_
  refine xcall (sxc_closeNots R (fun F1 v1 R1 => ?_))
  refine br_n (fun c1 => ?_) (fun c1 => ?_)
  · have c1 : ¬ b = 41 := c1
    rw [if_neg c1] at h
    refine xcall (sx_rankOf b ?_)
    refine br_c (fun c2 => ?_) (fun c2 => ?_)
    · have c2 : 1 ≤ rkV b := c2
      rw [if_neg (fun z => by rw [xlt] at z; rw [xle] at c2; omega)] at h
      refine br_n (fun c3 => ?_) (fun c3 => ?_)
      · have c3 : ¬ rkV b = 3 := c3
        rw [if_neg c3] at h
        refine xcall (sxc_release R1 (rkV b) (fun F2 v2 R2 => ?_))
        refine xcall (sx_hold F2 v2 _ 0 false R2 b (fun F3 v3 R3 => ?_))
        refine ⟨Or.inr rfl, ?_⟩
        exact ⟨Or.inr rfl, h F3 _ (R3.w true)⟩
      · have c3 : rkV b = 3 := c3
        rw [if_pos c3] at h
        rw [c3]
        obtain ⟨r4, er4⟩ : ∃ r4, r4 = (rlL 4 (cnL q.1 q.2.1 q.2.2).1 (cnL q.1 q.2.1 q.2.2).2.2 (cnL q.1 q.2.1 q.2.2).2.1) := ⟨_, rfl⟩
        rw [← er4] at h
        refine xcall (sxc_release R1 4 (fun F2 v2 R2 => ?_))
        have R2 : rdR F2 v2 r4 0 false := by rw [er4]; exact R2
        obtain ⟨c, hl, o⟩ := r4
        cases hl with
        | nil =>
          have e3 : v2 0 3 = 0 := R2.2.1.1
          refine br_c (fun _ => ?_) (fun z => ?_)
          · refine xcall (sx_hold F2 v2 (c, [], o) 0 false R2 b (fun F3 v3 R3 => ?_))
            refine ⟨Or.inr rfl, ?_⟩
            exact ⟨Or.inr rfl, h F3 _ (R3.w true)⟩
          · have z : ¬ v2 0 3 ≤ 0 := z
            rw [e3] at z
            exact absurd (by decide) z
        | cons x r =>
          have T := rd_top R2
          refine br_c (fun z => absurd z T.1) (fun _ => ?_)
          refine ⟨T.2.1, ?_⟩
          refine xcall (sx_rankOf _ ?_)
          have h : rdK K (if rkV x = 3 then none else some ((c, hoL (x :: r) b, o), 0, true)) := h
          refine br_n (fun c4 => ?_) (fun c4 => ?_)
          · have c4 : ¬ rkV (F2 2 (nat (v2 0 3 - 1))) = 3 := c4
            rw [T.2.2.2.1] at c4
            rw [if_neg c4] at h
            refine xcall (sx_hold F2 v2 (c, x :: r, o) 0 false R2 b (fun F3 v3 R3 => ?_))
            refine ⟨Or.inr rfl, ?_⟩
            exact ⟨Or.inr rfl, h F3 _ (R3.w true)⟩
          · have c4 : rkV (F2 2 (nat (v2 0 3 - 1))) = 3 := c4
            rw [T.2.2.2.1] at c4
            rw [if_pos c4] at h
            exact ⟨Or.inl rfl, h F2 v2 (rd_I R2)⟩
    · have c2 : ¬ 1 ≤ rkV b := c2
      rw [if_pos (by rw [xlt]; rw [xle] at c2; omega)] at h
      exact ⟨Or.inl rfl, h F1 v1 (rd_I R1)⟩
  · have c1 : b = 41 := c1
    rw [if_pos c1] at h
    have cr : ∀ K2 : xKo, rdK K2 (rdB (rlL 1 (cnL q.1 q.2.1 q.2.2).1 (cnL q.1 q.2.1 q.2.2).2.2 (cnL q.1 q.2.1 q.2.2).2.1)) → C_R_closeRound [.ref 0] (xfill F1 v1 0 (wR0 0)) K2 := by
      intro K2 k
      obtain ⟨r4, er4⟩ : ∃ r4, r4 = (rlL 1 (cnL q.1 q.2.1 q.2.2).1 (cnL q.1 q.2.1 q.2.2).2.2 (cnL q.1 q.2.1 q.2.2).2.1) := ⟨_, rfl⟩
      rw [← er4] at k
      refine xM_go rfl 100 [] fun P hP => ?_
      refine xcall (sxc_release R1 1 (fun F2 v2 R2 => ?_))
      have R2 : rdR F2 v2 r4 0 false := by rw [er4]; exact R2
      obtain ⟨c, hl, o⟩ := r4
      cases hl with
      | nil =>
        have e3 : v2 0 3 = 0 := R2.2.1.1
        refine br_n (fun z => absurd e3 z) (fun _ => ?_)
        exact ⟨Or.inl rfl, k F2 v2 (rd_I R2)⟩
      | cons x r =>
        have T := rd_top R2
        have e4 : v2 0 4 = o := R2.2.2.1
        refine br_n (fun _ => ?_) (fun z => absurd (by rw [show v2 0 3 = 0 from z]; decide) T.1)
        refine ⟨Or.inr rfl, ?_⟩
        have q2 := k F2 _ (rd_pop R2 (o - 1))
        rw [← e4] at q2
        exact q2
    have hh : ∀ s, rdK K s → rdK (fun r w => (match r with
      | some (.int x) => (x = 0 ∨ x = 1) ∧ K (some (.int x)) w
      | _ => K r w)) s := by
      intro s k
      cases s with
      | none => exact fun F' v' J => ⟨Or.inl rfl, k F' v' J⟩
      | some s => exact fun F' v' J => ⟨Or.inr rfl, k F' v' J⟩
    refine xcall (cr _ ?_)
    cases hs : rdB (rlL 1 (cnL q.1 q.2.1 q.2.2).1 (cnL q.1 q.2.1 q.2.2).2.2 (cnL q.1 q.2.1 q.2.2).2.1) with
    | none =>
      rw [hs] at h
      exact fun F' v' J => ⟨Or.inl rfl, h F' v' J⟩
    | some s =>
      rw [hs] at h
      exact fun F' v' J => ⟨Or.inr rfl, h F' v' J⟩
set_option maxRecDepth 100000 in
theorem sx_goesOn (F v : xS) (q : rdT) (dg : Int32) (w : Bool) (R : rdR F v q dg w) (u b : Int32) (hu : u = 0 ∨ u = 1) {K : xKo} (h : rdK K (rdS u b q dg w)) : C_R_goesOn [.ref 0, .int b, .int u] (xfill F v 0 (wR0 0)) K := by
  have out : isDg b = false → rdK K (rdS u b q dg w) → rdK K (rdS u b q 0 w) := by
    intro hb k
    have e : rdS u b q dg w = rdS u b q 0 w := by
      unfold rdS
      rw [hb]
      rfl
    rw [← e]
    exact k
  have R0 := R.dg 0
  have e6 : v 0 6 = b2i w := R.2.2.2.2
  have fin : isDg b = false → ∀ P : Nat → xL → List Value → xW → xB → Prop, True := fun _ _ => trivial
  have nd : isDg b = false → xWP pg_R_goesOn K 21 [(0, .ref 0), (1, .int b), (2, .int u)] [] (xfill F v 0 (wR0 0)) (0, 0) := by
    intro hb
    have h0 := out hb h
    refine xWP_go 100 [] fun P hP => ?_
    refine br_c (fun z => ?_) (fun z => ?_)
    · have z : v 0 6 = 0 := z
      have wf : w = false := by
        rw [e6] at z
        cases w with
        | false => rfl
        | true => exact absurd z (by decide)
      subst wf
      refine xcall (sx_readNext F (va_up v 0 (va_up (v 0) 5 0)) q R0 u b hb ?_)
      cases hs : rdS u b q 0 false with
      | none =>
        rw [hs] at h0
        exact fun F' v' J => ⟨Or.inl rfl, h0 F' v' J⟩
      | some s =>
        rw [hs] at h0
        exact fun F' v' J => ⟨Or.inr rfl, h0 F' v' J⟩
    · have z : ¬ v 0 6 = 0 := z
      have wt : w = true := by
        rw [e6] at z
        cases w with
        | false => exact absurd rfl z
        | true => rfl
      subst wt
      refine xcall (sx_readStart F (va_up v 0 (va_up (v 0) 5 0)) q R0 u b hu hb ?_)
      cases hs : rdS u b q 0 true with
      | none =>
        rw [hs] at h0
        exact fun F' v' J => ⟨Or.inl rfl, h0 F' v' J⟩
      | some s =>
        rw [hs] at h0
        exact fun F' v' J => ⟨Or.inr rfl, h0 F' v' J⟩
  refine xM_go rfl 100 [(21, [0, 1, 2])] fun P hP => ?_
  refine br_c (fun a => ?_) (fun a => ?_)
  · have a : b < 48 := a
    rw [xlt, show (48 : Int32).toInt = 48 by decide] at a
    exact hP _ _ _ _ _ (nd (decide_eq_false (by omega)))
  have a : ¬ b < 48 := a
  rw [xlt, show (48 : Int32).toInt = 48 by decide] at a
  refine br_c (fun a2 => ?_) (fun a2 => ?_)
  · have a2 : 57 < b := a2
    rw [xlt, show (57 : Int32).toInt = 57 by decide] at a2
    exact hP _ _ _ _ _ (nd (decide_eq_false (by omega)))
  have a2 : ¬ 57 < b := a2
  rw [xlt, show (57 : Int32).toInt = 57 by decide] at a2
  refine xcall (sx_readDigit F v q dg w R u b (decide_eq_true ⟨by omega, by omega⟩) ?_)
  cases hs : rdS u b q dg w with
  | none =>
    rw [hs] at h
    exact fun F' v' J => ⟨Or.inl rfl, h F' v' J⟩
  | some s =>
    rw [hs] at h
    exact fun F' v' J => ⟨Or.inr rfl, h F' v' J⟩
