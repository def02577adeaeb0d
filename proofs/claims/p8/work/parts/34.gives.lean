/-! ===== the tried side: what a text gives ===== -/
variable {Φ : hRw → Prop}
def evPush (q : (Nat → Int32) × Nat) (x : Int32) : (Nat → Int32) × Nat := if q.2 < 50 then (upd q.1 q.2 x, q.2 + 1) else q
def evPop (q : (Nat → Int32) × Nat) : Int32 × ((Nat → Int32) × Nat) := if q.2 = 0 then (0, q) else (q.1 (q.2 - 1), (q.1, q.2 - 1))
def wk (s l r : Int32) : Int32 := if s = 38 then (if l = 0 then 0 else if r = 0 then 0 else 1) else if s = 42 then l * r else if s = 43 then l + r else if s = 45 then l - r else if s = 47 then (if r = 0 then 0 else l / r) else if s = 60 then (if r ≤ l then 0 else 1) else if s = 61 then (if l = r then 1 else 0) else if s = 62 then (if l ≤ r then 0 else 1) else if s = 124 then (if l = 0 then (if r = 0 then 0 else 1) else 1) else (if r = 0 then 0 else l - l / r * r)
def evStep (a b c w : Int32) (q : (Nat → Int32) × Nat) : (Nat → Int32) × Nat := if w < 10000 then evPush q w else if w < 20000 then evPush q (if w = 10000 then a else if w = 10001 then b else c) else if w = 20033 then evPush (evPop q).2 (if (evPop q).1 = 0 then 1 else 0) else evPush (evPop (evPop q).2).2 (wk (w - 20000) (evPop (evPop q).2).1 (evPop q).1)
def evRun (a b c : Int32) (code : Nat → Int32) : Nat → Nat → (Nat → Int32) × Nat → (Nat → Int32) × Nat
  | 0, _, q => q
  | d + 1, i, q => evRun a b c code d (i + 1) (evStep a b c (code i) q)
def clamp1 (x : Int32) : Int32 := if (if 1 ≤ x then 1 else x) ≤ 0 then 0 else (if 1 ≤ x then 1 else x)
theorem evPush_le {q : (Nat → Int32) × Nat} {x : Int32} (h : q.2 ≤ 50) : (evPush q x).2 ≤ 50 := by
  unfold evPush
  split
  · show q.2 + 1 ≤ 50
    omega
  · exact h
theorem evPop_le {q : (Nat → Int32) × Nat} (h : q.2 ≤ 50) : (evPop q).2.2 ≤ 50 := by
  unfold evPop
  split
  · exact h
  · show q.2 - 1 ≤ 50
    omega
theorem evStep_le {a b c w : Int32} {q : (Nat → Int32) × Nat} (h : q.2 ≤ 50) : (evStep a b c w q).2 ≤ 50 := by
  unfold evStep
  split
  · exact evPush_le h
  split
  · exact evPush_le h
  split
  · exact evPush_le (evPop_le h)
  · exact evPush_le (evPop_le (evPop_le h))
abbrev LW (F v : xS) (q : (Nat → Int32) × Nat) : xW := xfill (va_up F 2 q.1) (va_up v 0 (va_up (v 0) 3 (nI q.2))) 0 (wL0 0)
theorem sp_push (F v : xS) (q : (Nat → Int32) × Nat) (x : Int32) (hq : q.2 ≤ 50) {K : xKo} (h : K none (LW F v (evPush q x))) : C_L_push [.ref 0, .int x] (LW F v q) K := by
  refine xM_go rfl 60 [] fun P hP => ?_
  refine br_c (fun a => ?_) (fun a => ?_)
  · have a : nI 50 ≤ nI q.2 := a
    rw [nI_leI (by omega) (by omega)] at a
    unfold evPush at h
    rw [if_neg (by omega)] at h
    exact h
  · have a : ¬ nI 50 ≤ nI q.2 := a
    rw [nI_leI (by omega) (by omega)] at a
    unfold evPush at h
    rw [if_pos (by omega)] at h
    refine ⟨vp_in_nI (by omega) (by omega), ?_⟩
    have h2 : K none (xfill (va_up F 2 (upd q.1 (nat (nI q.2)) x)) (va_up v 0 (va_up (v 0) 3 (nI q.2 + 1))) 0 (wL0 0)) := by
      rw [show nat (nI q.2) = q.2 from nI_clamp (by omega), nI_1]
      exact h
    exact h2
theorem sp_pop (F v : xS) (q : (Nat → Int32) × Nat) (hq : q.2 ≤ 50) {K : xKo} (h : K (some (.int (evPop q).1)) (LW F v (evPop q).2)) : C_L_pop [.ref 0] (LW F v q) K := by
  refine xM_go rfl 60 [] fun P hP => ?_
  refine br_n (fun a => ?_) (fun a => ?_)
  · have hz : ¬ q.2 = 0 := fun z => a (by show nI q.2 = 0; rw [z]; rfl)
    obtain ⟨m, hm⟩ : ∃ m, q.2 = m + 1 := ⟨q.2 - 1, by omega⟩
    have e1 : nI q.2 - 1 = nI (q.2 - 1) := by rw [hm, nI_pred]; rfl
    unfold evPop at h
    rw [if_neg hz] at h
    refine ⟨by show vp_in (nI q.2 - 1) 50; rw [e1]; exact vp_in_nI (by omega) (by omega), ?_⟩
    have h2 : K (some (.int (q.1 (nat (nI q.2 - 1))))) (xfill (va_up F 2 q.1) (va_up v 0 (va_up (v 0) 3 (nI q.2 - 1))) 0 (wL0 0)) := by
      rw [e1, show nat (nI (q.2 - 1)) = q.2 - 1 from nI_clamp (by omega)]
      exact h
    exact h2
  · have hz : q.2 = 0 := by
      have a : nI q.2 = 0 := a
      exact Nat.eq_zero_of_not_pos fun z => nI_ne0 z (by omega) a
    unfold evPop at h
    rw [if_pos hz] at h
    exact h
theorem sp_worked (s l r : Int32) {K : xKo} (h : K (some (.int (wk s l r))) []) : C_L_worked [.int s, .int l, .int r] [] K := by
  unfold wk at h
  refine xM_go rfl 60 [] fun P hP => ?_
  refine ⟨fun a => ?_, fun n1 => ?_⟩
  · rw [if_pos a] at h
    refine br_c (fun b => ?_) (fun b => ?_)
    · rw [if_pos b] at h; exact h
    rw [if_neg b] at h
    refine br_c (fun b => ?_) (fun b => ?_)
    · rw [if_pos b] at h; exact h
    · rw [if_neg b] at h; exact h
  rw [if_neg n1] at h
  refine ⟨fun a => ?_, fun n2 => ?_⟩
  · rw [if_pos a] at h; exact h
  rw [if_neg n2] at h
  refine ⟨fun a => ?_, fun n3 => ?_⟩
  · rw [if_pos a] at h; exact h
  rw [if_neg n3] at h
  refine ⟨fun a => ?_, fun n4 => ?_⟩
  · rw [if_pos a] at h; exact h
  rw [if_neg n4] at h
  refine ⟨fun a => ?_, fun n5 => ?_⟩
  · rw [if_pos a] at h
    refine br_n (fun b => ?_) (fun b => ?_)
    · rw [if_neg b] at h
      exact ⟨b, h⟩
    · rw [if_pos b] at h; exact h
  rw [if_neg n5] at h
  refine ⟨fun a => ?_, fun n6 => ?_⟩
  · rw [if_pos a] at h
    refine br_c (fun b => ?_) (fun b => ?_)
    · rw [if_pos b] at h; exact h
    · rw [if_neg b] at h; exact h
  rw [if_neg n6] at h
  refine ⟨fun a => ?_, fun n7 => ?_⟩
  · rw [if_pos a] at h
    refine br_n (fun b => ?_) (fun b => ?_)
    · rw [if_neg b] at h; exact h
    · rw [if_pos b] at h; exact h
  rw [if_neg n7] at h
  refine ⟨fun a => ?_, fun n8 => ?_⟩
  · rw [if_pos a] at h
    refine br_c (fun b => ?_) (fun b => ?_)
    · rw [if_pos b] at h; exact h
    · rw [if_neg b] at h; exact h
  rw [if_neg n8] at h
  refine ⟨fun a => ?_, fun n9 => ?_⟩
  · rw [if_pos a] at h
    refine br_n (fun b => ?_) (fun b => ?_)
    · rw [if_neg b] at h; exact h
    · rw [if_pos b] at h
      refine br_c (fun b => ?_) (fun b => ?_)
      · rw [if_pos b] at h; exact h
      · rw [if_neg b] at h; exact h
  rw [if_neg n9] at h
  refine br_n (fun b => ?_) (fun b => ?_)
  · rw [if_neg b] at h
    exact ⟨b, h⟩
  · rw [if_pos b] at h; exact h
/-- what a text gives, and what lies on the stack behind it -/
def evGives (a b c : Int32) (code : Nat → Int32) (n : Nat) (S : Nat → Int32) : Int32 × ((Nat → Int32) × Nat) := (clamp1 (evPop (evRun a b c code n 0 (S, 0))).1, (evPop (evRun a b c code n 0 (S, 0))).2)
theorem sp_gives (F v : xS) (a b c : Int32) (n : Nat) (hn : n ≤ 50) (e : v 0 1 = nI n) {K : xKo} (h0 : n = 0 → K (some (.int 1)) (xfill F v 0 (wL0 0))) (h : ¬ n = 0 → K (some (.int (evGives a b c (F 1) n (F 2)).1)) (LW F v (evGives a b c (F 1) n (F 2)).2)) : C_L_gives [.ref 0, .int a, .int b, .int c] (xfill F v 0 (wL0 0)) K := by
  have key : ∀ (d i : Nat) (q : (Nat → Int32) × Nat), i + d = n → q.2 ≤ 50 → K (some (.int (clamp1 (evPop (evRun a b c (F 1) d i q)).1))) (LW F v (evPop (evRun a b c (F 1) d i q)).2) → xWP pg_L_gives K 17 [(0, .ref 0), (1, .int a), (2, .int b), (3, .int c), (4, .int (nI i))] [] (LW F v q) (0, 0) := by
    intro d
    induction d with
    | zero =>
      intro i q hi hq hk
      have hi : i = n := hi
      subst hi
      refine xWP_go 100 [(17, [0, 1, 2, 3, 4])] fun P hP => ?_
      refine br_c (fun _ => ?_) (fun z => absurd (by show v 0 1 ≤ nI i; rw [e]; exact nI_le (Nat.le_refl _) (by omega)) z)
      refine xcall (sp_pop F v q hq ?_)
      refine xcall (sp_min _ _ ?_)
      refine xcall (sp_max _ _ ?_)
      exact hk
    | succ d ih =>
      intro i q hi hq hk
      refine xWP_go 100 [(17, [0, 1, 2, 3, 4])] fun P hP => ?_
      refine br_c (fun z => ?_) (fun _ => ?_)
      · have z : v 0 1 ≤ nI i := z
        rw [e] at z
        exact absurd z (nI_ge (by omega) (by omega))
      refine ⟨vp_in_nI (by omega) (by omega), ?_⟩
      have ec : nat (nI i) = i := nI_clamp (by omega)
      have nx : ∀ q2, evStep a b c (F 1 (nat (nI i))) q = q2 → q2.2 ≤ 50 → xWP pg_L_gives K 17 [(0, .ref 0), (1, .int a), (2, .int b), (3, .int c), (4, .int (nI i + 1))] [] (LW F v q2) (0, 0) := by
        intro q2 e2 h2
        rw [nI_1]
        refine ih (i + 1) q2 (by omega) h2 ?_
        rw [← e2, ec]
        exact hk
      refine br_c (fun w1 => ?_) (fun w1 => ?_)
      · have w1 : (10000 : Int32) ≤ F 1 (nat (nI i)) := w1
        refine br_c (fun w2 => ?_) (fun w2 => ?_)
        · have w2 : (20000 : Int32) ≤ F 1 (nat (nI i)) := w2
          refine br_n (fun w3 => ?_) (fun w3 => ?_)
          · refine xcall (sp_pop F v q hq ?_)
            refine xcall (sp_pop F v _ (evPop_le hq) ?_)
            refine xcall (sp_worked _ _ _ ?_)
            refine xcall (sp_push F v _ _ (evPop_le (evPop_le hq)) ?_)
            refine hP _ _ _ _ _ ?_
            refine nx _ ?_ (evPush_le (evPop_le (evPop_le hq)))
            exact (if_neg (fun z => by rw [xlt] at z; rw [xle] at w1; omega)).trans ((if_neg (fun z => by rw [xlt] at z; rw [xle] at w2; omega)).trans (if_neg w3))
          · refine xcall (sp_pop F v q hq ?_)
            refine br_n (fun w4 => ?_) (fun w4 => ?_)
            · refine xcall (sp_push F v _ _ (evPop_le hq) ?_)
              refine hP _ _ _ _ _ ?_
              refine nx _ ?_ (evPush_le (evPop_le hq))
              refine (if_neg (fun z => by rw [xlt] at z; rw [xle] at w1; omega)).trans ((if_neg (fun z => by rw [xlt] at z; rw [xle] at w2; omega)).trans ((if_pos w3).trans ?_))
              rw [if_neg w4]
            · refine xcall (sp_push F v _ _ (evPop_le hq) ?_)
              refine hP _ _ _ _ _ ?_
              refine nx _ ?_ (evPush_le (evPop_le hq))
              refine (if_neg (fun z => by rw [xlt] at z; rw [xle] at w1; omega)).trans ((if_neg (fun z => by rw [xlt] at z; rw [xle] at w2; omega)).trans ((if_pos w3).trans ?_))
              rw [if_pos w4]
        · have w2 : ¬ (20000 : Int32) ≤ F 1 (nat (nI i)) := w2
          have p1 : ¬ F 1 (nat (nI i)) < 10000 := fun z => by rw [xlt] at z; rw [xle] at w1; omega
          have p2 : F 1 (nat (nI i)) < 20000 := by rw [xlt]; rw [xle] at w2; omega
          refine br_n (fun w3 => ?_) (fun w3 => ?_)
          · refine br_n (fun w4 => ?_) (fun w4 => ?_)
            · refine xcall (sp_push F v q _ hq ?_)
              refine hP _ _ _ _ _ ?_
              refine nx _ ?_ (evPush_le hq)
              exact (if_neg p1).trans ((if_pos p2).trans (congrArg (evPush q) ((if_neg w3).trans (if_neg w4))))
            · refine xcall (sp_push F v q _ hq ?_)
              refine hP _ _ _ _ _ ?_
              refine nx _ ?_ (evPush_le hq)
              exact (if_neg p1).trans ((if_pos p2).trans (congrArg (evPush q) ((if_neg w3).trans (if_pos w4))))
          · refine xcall (sp_push F v q _ hq ?_)
            refine hP _ _ _ _ _ ?_
            refine nx _ ?_ (evPush_le hq)
            exact (if_neg p1).trans ((if_pos p2).trans (congrArg (evPush q) (if_pos w3)))
      · have w1 : ¬ (10000 : Int32) ≤ F 1 (nat (nI i)) := w1
        have p1 : F 1 (nat (nI i)) < 10000 := by rw [xlt]; rw [xle] at w1; omega
        refine xcall (sp_push F v q _ hq ?_)
        refine hP _ _ _ _ _ ?_
        exact nx _ (if_pos p1) (evPush_le hq)
  refine xM_go rfl 100 [(17, [0, 1, 2, 3, 4])] fun P hP => ?_
  refine br_n (fun z => ?_) (fun z => ?_)
  · have hz : ¬ n = 0 := fun y => z (by show v 0 1 = 0; rw [e, y]; rfl)
    refine hP _ _ _ _ _ ?_
    exact key n 0 (F 2, 0) (by omega) (Nat.zero_le _) (h hz)
  · have hz : n = 0 := by
      have z : v 0 1 = 0 := z
      rw [e] at z
      exact Nat.eq_zero_of_not_pos fun y => nI_ne0 y (by omega) z
    exact h0 hz
