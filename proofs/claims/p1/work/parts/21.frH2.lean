/-! ===== a new object of the class: the longer calls ===== -/
def xv0 : Nat → Nat → Int32 := fun k j => match k, j with
  | 0, 9 => -1
  | 0, 11 => 1
  | 18, 9 => -1
  | 18, 11 => 1
  | _, _ => 0
set_option maxRecDepth 100000 in
theorem sp_copy0 {K : xKo} (h : ∀ F, K none (xfill F xv0 0 (wT0 0 ++ wT0 18))) : C_T_copy [.ref 0, .ref 18] (wT0 0 ++ wT0 18) K := by
  have := sp_copy (K := K) (fun _ _ => 0) xv0 0 0 (by decide) (by decide) rfl rfl (h _)
  exact this
theorem sp_addThingS {w : xW} (hw : xsame (wT0 0) w = true) (ht : xobjs w 0 2 = 0) (hc : xobjs w 0 8 = 0) (c m : Int32) {K : xKo} (h : ∀ F v, v 0 8 = 0 → K (some (.int 0)) (xfill F v 0 (wT0 0))) : C_T_addThing [.ref 0, .int c, .int m] w K := by
  have key : ∀ F v, v 0 2 = 0 → v 0 8 = 0 → C_T_addThing [.ref 0, .int c, .int m] (xfill F v 0 (wT0 0)) K := by
    intro F v h2 h8
    have e : (v 0 2).toInt = 0 := by rw [h2]; decide
    refine xM_go rfl 60 [] fun P hP => ?_
    refine ⟨vin (by rw [e]; decide), ?_⟩
    refine ⟨vin (by rw [e]; decide), ?_⟩
    have q := h (va_up (va_up F 1 (upd (F 1) (v 0 2).toNatClampNeg c)) 2 (upd (F 2) (v 0 2).toNatClampNeg m)) (va_up v 0 (va_up (v 0) 2 (v 0 2 + 1))) h8
    have e2 : v 0 2 + 1 - 1 = 0 := by rw [h2]; decide
    rw [← e2] at q
    exact q
  rw [xsame_fill hw]
  exact key _ _ ht hc
set_option maxRecDepth 100000 in
theorem sp_scoreFor0_0 {K : xKo} (h : K (some (.int 0)) wH0) : C_H_scoreFor [.ref 0, .int 0, .int 0] wH0 K := by
  refine xM_go rfl 60 [] fun P hP => ?_
  refine br_c (fun _ => ?_) (fun z => absurd (by decide) z)
  exact h
set_option maxRecDepth 100000 in
theorem sp_scoreFor0_1 {K : xKo} (h : K (some (.int 0)) wH0) : C_H_scoreFor [.ref 0, .int 1, .int 0] wH0 K := by
  refine xM_go rfl 60 [] fun P hP => ?_
  refine br_c (fun z => absurd z (by decide)) (fun _ => ?_)
  refine br_c (fun z => absurd z (by decide)) (fun _ => ?_)
  exact h
theorem sp_runners0 {K : xKo} (h : K (some (.int 0)) (wT0 0)) : C_T_runners [.ref 0] (wT0 0) K := by
  refine xM_go rfl 60 [] fun P hP => ?_
  refine br_n (fun z => absurd (by decide) z) (fun _ => ?_)
  exact h
set_option maxRecDepth 100000 in
theorem sp_scoreFor0_2 {K : xKo} (h : K (some (.int 0)) wH0) : C_H_scoreFor [.ref 0, .int 2, .int 0] wH0 K := by
  refine xM_go rfl 60 [] fun P hP => ?_
  refine br_c (fun z => absurd z (by decide)) (fun _ => ?_)
  refine br_c (fun _ => ?_) (fun z => absurd (by decide) z)
  refine xcall (sp_runners0 ?_)
  refine xcall (sp_abs _ ?_)
  rw [if_pos (by decide)]
  exact h
/-- bytes fed to the empty tape -/
theorem sp_addBytes0 (x : Int64) (n : Nat) (hn : n ≤ 8) {K : xKo} (h : ∀ F v, K (some (.int (nI n))) (xfill F v 0 (wT0 0))) : C_T_addBytes [.ref 0, .long x, .int (nI n)] (wT0 0) K := by
  have key : ∀ (d k : Nat) (F v : Nat → Nat → Int32), k + d = n → v 0 14 = nI k → xWP pg_T_addBytes K 3 [(0, .ref 0), (1, .long x), (3, .int (nI n)), (4, .int (nI k))] [] (xfill F v 0 (wT0 0)) (0, 0) := by
    intro d
    induction d with
    | zero =>
      intro k F v hk hv
      have hk : k = n := hk
      subst hk
      refine xWP_go 100 [(3, [0, 1, 3, 4])] fun P hP => ?_
      refine br_c (fun e => ?_) (fun e => absurd (nI_le (Nat.le_refl _) (by omega)) e)
      have q := h F v
      rw [← hv] at q
      exact q
    | succ d ih =>
      intro k F v hk hv
      refine xWP_go 100 [(3, [0, 1, 3, 4])] fun P hP => ?_
      refine br_c (fun e => absurd e (nI_ge (by omega) (by omega))) (fun e => ?_)
      refine ⟨by rw [hv]; exact vp_in_nI (by omega) (by omega), ?_⟩
      refine hP _ _ _ _ _ ?_
      rw [nI_1]
      exact ih (k + 1) (va_up F 15 _) (va_up v 0 (va_up (v 0) 14 (v 0 14 + 1))) (by omega) (by show v 0 14 + 1 = _; rw [hv, nI_1])
  refine xM_go rfl 100 [(3, [0, 1, 3, 4])] fun P hP => ?_
  refine hP _ _ _ _ _ ?_
  exact key n 0 (fun _ _ => 0) xv0 (Nat.zero_add n) rfl

set_option maxRecDepth 100000 in
set_option maxHeartbeats 1000000 in
theorem sp_markFor0_0 (a b : Int32) {K : xKo} (h : ∀ F v, K (some (.int (if xin a 10 ∧ xin b 2 then 0 else -1000000001))) (xfill F v 0 wH0)) : C_H_markFor [.ref 0, .int 0, .int a, .int b] wH0 K := by
  refine xM_go rfl 138 [] fun P hP => ?_
  refine xcall (sp_isSteps _ (fun a1 => ?_) (fun a1 => ?_))
  · refine br_c (fun _ => ?_) (fun z => absurd (by decide) z)
    refine xcall (sp_error rfl 1 (by decide) fun F v => ?_)
    exact xgenK (w0 := wH0) (K := K) (fun F v => by have q := h F v; rw [if_neg (show ¬ (xin a 10 ∧ xin b 2) by simp only [xin, xlt, xle, xeq, Int32.reduceToInt] at a1 ⊢; omega)] at q; exact q) rfl
  · refine br_c (fun z => absurd z (by decide)) (fun _ => ?_)
    refine xcall (sp_isBelow _ _ (fun a2 => ?_) (fun a2 => ?_))
    · refine br_n (fun z => absurd (by decide) z) (fun _ => ?_)
      refine xcall (sp_error rfl 1 (by decide) fun F v => ?_)
      exact xgenK (w0 := wH0) (K := K) (fun F v => by have q := h F v; rw [if_neg (show ¬ (xin a 10 ∧ xin b 2) by simp only [xin, xlt, xle, xeq, Int32.reduceToInt] at a1 a2 ⊢; omega)] at q; exact q) rfl
    · refine br_n (fun _ => ?_) (fun z => absurd z (by decide))
      refine br_c (fun z => absurd z (by decide)) (fun _ => ?_)
      refine xcall (sp_wouldBeHad0 rfl (by exact rfl) _ _ ?_)
      refine xcall (sp_bitCount0 ?_)
      refine xcall (sp_scoreFor0_0 ?_)
      refine br_c (fun z => absurd z (by decide)) (fun _ => ?_)
      refine br_c (fun z => absurd z (by decide)) (fun _ => ?_)
      refine xcall (sp_wouldBeHad0 rfl (by exact rfl) _ _ ?_)
      refine xcall (sp_bitCount0 ?_)
      refine xcall (sp_scoreFor0_0 ?_)
      refine br_c (fun _ => ?_) (fun z => absurd (by decide) z)
      refine br_c (fun z => absurd z (by decide)) (fun _ => ?_)
      refine xcall (sp_wouldBeHad0 rfl (by exact rfl) _ _ ?_)
      refine xcall (sp_bitCount0 ?_)
      refine xcall (sp_scoreFor0_0 ?_)
      refine br_c (fun _ => ?_) (fun z => absurd (by decide) z)
      refine br_c (fun z => absurd z (by decide)) (fun _ => ?_)
      refine xcall (sp_wouldBeHad0 rfl (by exact rfl) _ _ ?_)
      refine xcall (sp_bitCount0 ?_)
      refine xcall (sp_scoreFor0_0 ?_)
      refine br_c (fun _ => ?_) (fun z => absurd (by decide) z)
      refine br_c (fun z => absurd z (by decide)) (fun _ => ?_)
      refine xcall (sp_wouldBeHad0 rfl (by exact rfl) _ _ ?_)
      refine xcall (sp_bitCount0 ?_)
      refine xcall (sp_scoreFor0_0 ?_)
      refine br_c (fun _ => ?_) (fun z => absurd (by decide) z)
      refine br_c (fun z => absurd z (by decide)) (fun _ => ?_)
      refine xcall (sp_wouldBeHad0 rfl (by exact rfl) _ _ ?_)
      refine xcall (sp_bitCount0 ?_)
      refine xcall (sp_scoreFor0_0 ?_)
      refine br_c (fun _ => ?_) (fun z => absurd (by decide) z)
      refine br_c (fun _ => ?_) (fun z => absurd (by decide) z)
      refine br_n (fun a3 => ?_) (fun a3 => ?_)
      · refine xcall (sp_abs _ ?_)
        rw [if_pos (by decide)]
        exact xgenK (w0 := wH0) (K := K) (fun F v => by have q := h F v; rw [if_pos (show xin a 10 ∧ xin b 2 by simp only [xin, xlt, xle, xeq, Int32.reduceToInt] at a1 a2 a3 ⊢; omega)] at q; exact q) rfl
      · exact xgenK (w0 := wH0) (K := K) (fun F v => by have q := h F v; rw [if_pos (show xin a 10 ∧ xin b 2 by simp only [xin, xlt, xle, xeq, Int32.reduceToInt] at a1 a2 a3 ⊢; omega)] at q; exact q) rfl
abbrev an_worst (a b : Int32) : Int32 := if xin a 10 ∧ xin b 2 then 0 else -1000000001
set_option maxRecDepth 100000 in
theorem fr_worst (a b : Int32) {K : xKo} (h : ∀ F v, K (some (.int (an_worst a b))) (xfill F v 0 wH0)) : C_H_worst [.ref 0, .int a, .int b] wH0 K := by
  refine xM_go rfl 20 [] fun P hP => ?_
  refine xcall (sp_markFor0_0 _ _ fun F v => ?_)
  exact h F v
set_option maxRecDepth 100000 in
set_option maxHeartbeats 1000000 in
theorem sp_markFor0_1 (a b : Int32) {K : xKo} (h : ∀ F v, K (some (.int (if xin a 10 ∧ xin b 2 then 0 else -1000000001))) (xfill F v 0 wH0)) : C_H_markFor [.ref 0, .int 1, .int a, .int b] wH0 K := by
  refine xM_go rfl 138 [] fun P hP => ?_
  refine xcall (sp_isSteps _ (fun a1 => ?_) (fun a1 => ?_))
  · refine br_c (fun _ => ?_) (fun z => absurd (by decide) z)
    refine xcall (sp_error rfl 1 (by decide) fun F v => ?_)
    exact xgenK (w0 := wH0) (K := K) (fun F v => by have q := h F v; rw [if_neg (show ¬ (xin a 10 ∧ xin b 2) by simp only [xin, xlt, xle, xeq, Int32.reduceToInt] at a1 ⊢; omega)] at q; exact q) rfl
  · refine br_c (fun z => absurd z (by decide)) (fun _ => ?_)
    refine xcall (sp_isBelow _ _ (fun a2 => ?_) (fun a2 => ?_))
    · refine br_n (fun z => absurd (by decide) z) (fun _ => ?_)
      refine xcall (sp_error rfl 1 (by decide) fun F v => ?_)
      exact xgenK (w0 := wH0) (K := K) (fun F v => by have q := h F v; rw [if_neg (show ¬ (xin a 10 ∧ xin b 2) by simp only [xin, xlt, xle, xeq, Int32.reduceToInt] at a1 a2 ⊢; omega)] at q; exact q) rfl
    · refine br_n (fun _ => ?_) (fun z => absurd z (by decide))
      refine br_c (fun z => absurd z (by decide)) (fun _ => ?_)
      refine xcall (sp_wouldBeHad0 rfl (by exact rfl) _ _ ?_)
      refine xcall (sp_bitCount0 ?_)
      refine xcall (sp_scoreFor0_1 ?_)
      refine br_c (fun z => absurd z (by decide)) (fun _ => ?_)
      refine br_c (fun z => absurd z (by decide)) (fun _ => ?_)
      refine xcall (sp_wouldBeHad0 rfl (by exact rfl) _ _ ?_)
      refine xcall (sp_bitCount0 ?_)
      refine xcall (sp_scoreFor0_1 ?_)
      refine br_c (fun _ => ?_) (fun z => absurd (by decide) z)
      refine br_c (fun z => absurd z (by decide)) (fun _ => ?_)
      refine xcall (sp_wouldBeHad0 rfl (by exact rfl) _ _ ?_)
      refine xcall (sp_bitCount0 ?_)
      refine xcall (sp_scoreFor0_1 ?_)
      refine br_c (fun _ => ?_) (fun z => absurd (by decide) z)
      refine br_c (fun z => absurd z (by decide)) (fun _ => ?_)
      refine xcall (sp_wouldBeHad0 rfl (by exact rfl) _ _ ?_)
      refine xcall (sp_bitCount0 ?_)
      refine xcall (sp_scoreFor0_1 ?_)
      refine br_c (fun _ => ?_) (fun z => absurd (by decide) z)
      refine br_c (fun z => absurd z (by decide)) (fun _ => ?_)
      refine xcall (sp_wouldBeHad0 rfl (by exact rfl) _ _ ?_)
      refine xcall (sp_bitCount0 ?_)
      refine xcall (sp_scoreFor0_1 ?_)
      refine br_c (fun _ => ?_) (fun z => absurd (by decide) z)
      refine br_c (fun z => absurd z (by decide)) (fun _ => ?_)
      refine xcall (sp_wouldBeHad0 rfl (by exact rfl) _ _ ?_)
      refine xcall (sp_bitCount0 ?_)
      refine xcall (sp_scoreFor0_1 ?_)
      refine br_c (fun _ => ?_) (fun z => absurd (by decide) z)
      refine br_c (fun _ => ?_) (fun z => absurd (by decide) z)
      refine br_n (fun a3 => ?_) (fun a3 => ?_)
      · refine xcall (sp_abs _ ?_)
        rw [if_pos (by decide)]
        exact xgenK (w0 := wH0) (K := K) (fun F v => by have q := h F v; rw [if_pos (show xin a 10 ∧ xin b 2 by simp only [xin, xlt, xle, xeq, Int32.reduceToInt] at a1 a2 a3 ⊢; omega)] at q; exact q) rfl
      · exact xgenK (w0 := wH0) (K := K) (fun F v => by have q := h F v; rw [if_pos (show xin a 10 ∧ xin b 2 by simp only [xin, xlt, xle, xeq, Int32.reduceToInt] at a1 a2 a3 ⊢; omega)] at q; exact q) rfl
abbrev an_best (a b : Int32) : Int32 := if xin a 10 ∧ xin b 2 then 0 else -1000000001
set_option maxRecDepth 100000 in
theorem fr_best (a b : Int32) {K : xKo} (h : ∀ F v, K (some (.int (an_best a b))) (xfill F v 0 wH0)) : C_H_best [.ref 0, .int a, .int b] wH0 K := by
  refine xM_go rfl 20 [] fun P hP => ?_
  refine xcall (sp_markFor0_1 _ _ fun F v => ?_)
  exact h F v
set_option maxRecDepth 100000 in
set_option maxHeartbeats 1000000 in
theorem sp_markFor0_2 (a b : Int32) {K : xKo} (h : ∀ F v, K (some (.int (if xin a 10 ∧ xin b 2 then 0 else -1000000001))) (xfill F v 0 wH0)) : C_H_markFor [.ref 0, .int 2, .int a, .int b] wH0 K := by
  refine xM_go rfl 138 [] fun P hP => ?_
  refine xcall (sp_isSteps _ (fun a1 => ?_) (fun a1 => ?_))
  · refine br_c (fun _ => ?_) (fun z => absurd (by decide) z)
    refine xcall (sp_error rfl 1 (by decide) fun F v => ?_)
    exact xgenK (w0 := wH0) (K := K) (fun F v => by have q := h F v; rw [if_neg (show ¬ (xin a 10 ∧ xin b 2) by simp only [xin, xlt, xle, xeq, Int32.reduceToInt] at a1 ⊢; omega)] at q; exact q) rfl
  · refine br_c (fun z => absurd z (by decide)) (fun _ => ?_)
    refine xcall (sp_isBelow _ _ (fun a2 => ?_) (fun a2 => ?_))
    · refine br_n (fun z => absurd (by decide) z) (fun _ => ?_)
      refine xcall (sp_error rfl 1 (by decide) fun F v => ?_)
      exact xgenK (w0 := wH0) (K := K) (fun F v => by have q := h F v; rw [if_neg (show ¬ (xin a 10 ∧ xin b 2) by simp only [xin, xlt, xle, xeq, Int32.reduceToInt] at a1 a2 ⊢; omega)] at q; exact q) rfl
    · refine br_n (fun _ => ?_) (fun z => absurd z (by decide))
      refine br_c (fun z => absurd z (by decide)) (fun _ => ?_)
      refine xcall (sp_wouldBeHad0 rfl (by exact rfl) _ _ ?_)
      refine xcall (sp_bitCount0 ?_)
      refine xcall (sp_scoreFor0_2 ?_)
      refine br_c (fun z => absurd z (by decide)) (fun _ => ?_)
      refine br_c (fun z => absurd z (by decide)) (fun _ => ?_)
      refine xcall (sp_wouldBeHad0 rfl (by exact rfl) _ _ ?_)
      refine xcall (sp_bitCount0 ?_)
      refine xcall (sp_scoreFor0_2 ?_)
      refine br_c (fun _ => ?_) (fun z => absurd (by decide) z)
      refine br_c (fun z => absurd z (by decide)) (fun _ => ?_)
      refine xcall (sp_wouldBeHad0 rfl (by exact rfl) _ _ ?_)
      refine xcall (sp_bitCount0 ?_)
      refine xcall (sp_scoreFor0_2 ?_)
      refine br_c (fun _ => ?_) (fun z => absurd (by decide) z)
      refine br_c (fun z => absurd z (by decide)) (fun _ => ?_)
      refine xcall (sp_wouldBeHad0 rfl (by exact rfl) _ _ ?_)
      refine xcall (sp_bitCount0 ?_)
      refine xcall (sp_scoreFor0_2 ?_)
      refine br_c (fun _ => ?_) (fun z => absurd (by decide) z)
      refine br_c (fun z => absurd z (by decide)) (fun _ => ?_)
      refine xcall (sp_wouldBeHad0 rfl (by exact rfl) _ _ ?_)
      refine xcall (sp_bitCount0 ?_)
      refine xcall (sp_scoreFor0_2 ?_)
      refine br_c (fun _ => ?_) (fun z => absurd (by decide) z)
      refine br_c (fun z => absurd z (by decide)) (fun _ => ?_)
      refine xcall (sp_wouldBeHad0 rfl (by exact rfl) _ _ ?_)
      refine xcall (sp_bitCount0 ?_)
      refine xcall (sp_scoreFor0_2 ?_)
      refine br_c (fun _ => ?_) (fun z => absurd (by decide) z)
      refine br_c (fun _ => ?_) (fun z => absurd (by decide) z)
      refine br_n (fun a3 => ?_) (fun a3 => ?_)
      · refine xcall (sp_abs _ ?_)
        rw [if_pos (by decide)]
        exact xgenK (w0 := wH0) (K := K) (fun F v => by have q := h F v; rw [if_pos (show xin a 10 ∧ xin b 2 by simp only [xin, xlt, xle, xeq, Int32.reduceToInt] at a1 a2 a3 ⊢; omega)] at q; exact q) rfl
      · exact xgenK (w0 := wH0) (K := K) (fun F v => by have q := h F v; rw [if_pos (show xin a 10 ∧ xin b 2 by simp only [xin, xlt, xle, xeq, Int32.reduceToInt] at a1 a2 a3 ⊢; omega)] at q; exact q) rfl
abbrev an_parts (a b : Int32) : Int32 := if xin a 10 ∧ xin b 2 then 0 else -1000000001
set_option maxRecDepth 100000 in
theorem fr_parts (a b : Int32) {K : xKo} (h : ∀ F v, K (some (.int (an_parts a b))) (xfill F v 0 wH0)) : C_H_parts [.ref 0, .int a, .int b] wH0 K := by
  refine xM_go rfl 20 [] fun P hP => ?_
  refine xcall (sp_markFor0_2 _ _ fun F v => ?_)
  exact h F v
abbrev an_called (a b : Int32) : Int32 := if xin a 1 ∧ xin b 10 then 63 else -1000000001
set_option maxRecDepth 100000 in
set_option maxHeartbeats 1000000 in
theorem fr_called1 (b : Int32) {K : xKo} (h : ∀ F v, K (some (.int (if xin b 10 then 63 else -1000000001))) (xfill F v 0 wH0)) : C_H_called [.ref 0, .int 0, .int b] wH0 K := by
  refine xM_go rfl 133 [] fun P hP => ?_
  refine xcall (sp_isBelow _ _ (fun z => absurd (show xin 0 1 by decide) z) (fun _ => ?_))
  refine br_c (fun z => absurd z (by decide)) (fun _ => ?_)
  refine xcall (sp_isSteps _ (fun a1 => ?_) (fun a1 => ?_))
  · refine br_n (fun z => absurd (by decide) z) (fun _ => ?_)
    refine xcall (sp_error rfl 1 (by decide) fun F v => ?_)
    exact xgenK (w0 := wH0) (K := K) (fun F v => by have q := h F v; rw [if_neg (show ¬ xin b 10 by simp only [xin, xlt, xle, xeq, Int32.reduceToInt] at a1 ⊢; omega)] at q; exact q) rfl
  · refine br_n (fun _ => ?_) (fun z => absurd z (by decide))
    refine br_c (fun z => absurd z (by decide)) (fun _ => ?_)
    refine xcall (sp_wouldBeHad0 rfl (by exact rfl) _ _ ?_)
    refine br_n (fun z => absurd (by decide) z) (fun _ => ?_)
    refine br_c (fun z => absurd z (by decide)) (fun _ => ?_)
    refine xcall (sp_wouldBeHad0 rfl (by exact rfl) _ _ ?_)
    refine br_n (fun z => absurd (by decide) z) (fun _ => ?_)
    refine br_c (fun z => absurd z (by decide)) (fun _ => ?_)
    refine xcall (sp_wouldBeHad0 rfl (by exact rfl) _ _ ?_)
    refine br_n (fun z => absurd (by decide) z) (fun _ => ?_)
    refine br_c (fun z => absurd z (by decide)) (fun _ => ?_)
    refine xcall (sp_wouldBeHad0 rfl (by exact rfl) _ _ ?_)
    refine br_n (fun z => absurd (by decide) z) (fun _ => ?_)
    refine br_c (fun z => absurd z (by decide)) (fun _ => ?_)
    refine xcall (sp_wouldBeHad0 rfl (by exact rfl) _ _ ?_)
    refine br_n (fun z => absurd (by decide) z) (fun _ => ?_)
    refine br_c (fun z => absurd z (by decide)) (fun _ => ?_)
    refine xcall (sp_wouldBeHad0 rfl (by exact rfl) _ _ ?_)
    refine br_n (fun z => absurd (by decide) z) (fun _ => ?_)
    refine br_c (fun _ => ?_) (fun z => absurd (by decide) z)
    exact xgenK (w0 := wH0) (K := K) (fun F v => by have q := h F v; rw [if_pos (show xin b 10 by simp only [xin, xlt, xle, xeq, Int32.reduceToInt] at a1 ⊢; omega)] at q; exact q) rfl
set_option maxRecDepth 100000 in
theorem fr_called (a b : Int32) {K : xKo} (h : ∀ F v, K (some (.int (an_called a b))) (xfill F v 0 wH0)) : C_H_called [.ref 0, .int a, .int b] wH0 K := by
  by_cases ha : a = 0
  · subst ha
    refine fr_called1 b fun F v => ?_
    have q := h F v
    unfold an_called at q
    by_cases hb : xin b 10
    · rw [if_pos ⟨by decide, hb⟩] at q; rw [if_pos hb]; exact q
    · rw [if_neg (fun z => hb z.2)] at q; rw [if_neg hb]; exact q
  · refine xM_go rfl 40 [] fun P hP => ?_
    refine xcall (sp_isBelow _ _ (fun a1 => ?_) (fun a1 => ?_))
    · refine br_c (fun _ => ?_) (fun z => absurd (by decide) z)
      refine xcall (sp_error rfl 1 (by decide) fun F v => ?_)
      exact xgenK (w0 := wH0) (K := K) (fun F v => by have q := h F v; unfold an_called at q; rw [if_neg (fun z => ha (by have := z.1; simp only [xin, xeq, Int32.reduceToInt] at this ⊢; omega))] at q; exact q) rfl
    · exfalso
      replace a1 : xin a 1 := a1
      exact ha (by simp only [xin, xeq, Int32.reduceToInt] at a1 ⊢; omega)
abbrev an_lay (a b c : Int32) : Int32 := if xin a 6 ∧ xin b 10 ∧ xin c 2 then 0 else -1000000001
set_option maxRecDepth 100000 in
set_option maxHeartbeats 1000000 in
theorem fr_lay (a b c : Int32) {K : xKo} (h : ∀ F v, K (some (.int (an_lay a b c))) (xfill F v 0 wH0)) : C_H_lay [.ref 0, .int a, .int b, .int c] wH0 K := by
  refine xM_go rfl 304 [] fun P hP => ?_
  refine xcall (sp_isBelow _ _ (fun a1 => ?_) (fun a1 => ?_))
  · refine br_c (fun _ => ?_) (fun z => absurd (by decide) z)
    refine xcall (sp_error rfl 1 (by decide) fun F v => ?_)
    exact xgenK (w0 := wH0) (K := K) (fun F v => by have q := h F v; unfold an_lay at q; rw [if_neg (show ¬ (xin a 6 ∧ xin b 10 ∧ xin c 2) by simp only [xin, xlt, xle, xeq, Int32.reduceToInt] at a1 ⊢; omega)] at q; exact q) rfl
  · refine br_c (fun z => absurd z (by decide)) (fun _ => ?_)
    refine xcall (sp_isSteps _ (fun a2 => ?_) (fun a2 => ?_))
    · refine br_c (fun _ => ?_) (fun z => absurd (by decide) z)
      refine xcall (sp_error rfl 1 (by decide) fun F v => ?_)
      exact xgenK (w0 := wH0) (K := K) (fun F v => by have q := h F v; unfold an_lay at q; rw [if_neg (show ¬ (xin a 6 ∧ xin b 10 ∧ xin c 2) by simp only [xin, xlt, xle, xeq, Int32.reduceToInt] at a1 a2 ⊢; omega)] at q; exact q) rfl
    · refine br_c (fun z => absurd z (by decide)) (fun _ => ?_)
      refine xcall (sp_isBelow _ _ (fun a3 => ?_) (fun a3 => ?_))
      · refine br_n (fun z => absurd (by decide) z) (fun _ => ?_)
        refine xcall (sp_error rfl 1 (by decide) fun F v => ?_)
        exact xgenK (w0 := wH0) (K := K) (fun F v => by have q := h F v; unfold an_lay at q; rw [if_neg (show ¬ (xin a 6 ∧ xin b 10 ∧ xin c 2) by simp only [xin, xlt, xle, xeq, Int32.reduceToInt] at a1 a2 a3 ⊢; omega)] at q; exact q) rfl
      · refine br_n (fun _ => ?_) (fun z => absurd z (by decide))
        refine br_c (fun _ => ?_) (fun z => absurd (by decide) z)
        refine xcall (sp_copy0 fun F => ?_)
        refine xcall (sp_addThingS rfl (by exact rfl) (by exact rfl) _ _ fun F v hv => ?_)
        refine br_c (fun z => absurd z (by decide)) (fun _ => ?_)
        refine ⟨vin (by decide), ?_⟩
        refine xcall (sp_wouldBeHad0 rfl (by exact hv) _ _ ?_)
        refine xcall (sp_bitCount0 ?_)
        refine br_c (fun z => absurd z (by decide)) (fun _ => ?_)
        refine br_c (fun z => absurd z (by decide)) (fun _ => ?_)
        refine ⟨vin (by decide), ?_⟩
        refine xcall (sp_wouldBeHad0 rfl (by exact hv) _ _ ?_)
        refine xcall (sp_bitCount0 ?_)
        refine br_c (fun _ => ?_) (fun z => absurd (by decide) z)
        refine br_c (fun z => absurd z (by decide)) (fun _ => ?_)
        refine ⟨vin (by decide), ?_⟩
        refine xcall (sp_wouldBeHad0 rfl (by exact hv) _ _ ?_)
        refine xcall (sp_bitCount0 ?_)
        refine br_c (fun _ => ?_) (fun z => absurd (by decide) z)
        refine br_c (fun z => absurd z (by decide)) (fun _ => ?_)
        refine ⟨vin (by decide), ?_⟩
        refine xcall (sp_wouldBeHad0 rfl (by exact hv) _ _ ?_)
        refine xcall (sp_bitCount0 ?_)
        refine br_c (fun _ => ?_) (fun z => absurd (by decide) z)
        refine br_c (fun z => absurd z (by decide)) (fun _ => ?_)
        refine ⟨vin (by decide), ?_⟩
        refine xcall (sp_wouldBeHad0 rfl (by exact hv) _ _ ?_)
        refine xcall (sp_bitCount0 ?_)
        refine br_c (fun _ => ?_) (fun z => absurd (by decide) z)
        refine br_c (fun z => absurd z (by decide)) (fun _ => ?_)
        refine ⟨vin (by decide), ?_⟩
        refine xcall (sp_wouldBeHad0 rfl (by exact hv) _ _ ?_)
        refine xcall (sp_bitCount0 ?_)
        refine br_c (fun _ => ?_) (fun z => absurd (by decide) z)
        refine br_c (fun z => absurd z (by decide)) (fun _ => ?_)
        refine ⟨vin (by decide), ?_⟩
        refine xcall (sp_wouldBeHad0 rfl (by exact hv) _ _ ?_)
        refine xcall (sp_bitCount0 ?_)
        refine br_c (fun _ => ?_) (fun z => absurd (by decide) z)
        refine br_c (fun z => absurd z (by decide)) (fun _ => ?_)
        refine ⟨vin (by decide), ?_⟩
        refine xcall (sp_wouldBeHad0 rfl (by exact hv) _ _ ?_)
        refine xcall (sp_bitCount0 ?_)
        refine br_c (fun _ => ?_) (fun z => absurd (by decide) z)
        refine br_c (fun z => absurd z (by decide)) (fun _ => ?_)
        refine ⟨vin (by decide), ?_⟩
        refine xcall (sp_wouldBeHad0 rfl (by exact hv) _ _ ?_)
        refine xcall (sp_bitCount0 ?_)
        refine br_c (fun _ => ?_) (fun z => absurd (by decide) z)
        refine br_c (fun z => absurd z (by decide)) (fun _ => ?_)
        refine ⟨vin (by decide), ?_⟩
        refine xcall (sp_wouldBeHad0 rfl (by exact hv) _ _ ?_)
        refine xcall (sp_bitCount0 ?_)
        refine br_c (fun _ => ?_) (fun z => absurd (by decide) z)
        refine br_c (fun z => absurd z (by decide)) (fun _ => ?_)
        refine ⟨vin (by decide), ?_⟩
        refine xcall (sp_wouldBeHad0 rfl (by exact hv) _ _ ?_)
        refine xcall (sp_bitCount0 ?_)
        refine br_c (fun _ => ?_) (fun z => absurd (by decide) z)
        refine br_c (fun z => absurd z (by decide)) (fun _ => ?_)
        refine ⟨vin (by decide), ?_⟩
        refine xcall (sp_wouldBeHad0 rfl (by exact hv) _ _ ?_)
        refine xcall (sp_bitCount0 ?_)
        refine br_c (fun _ => ?_) (fun z => absurd (by decide) z)
        refine br_c (fun _ => ?_) (fun z => absurd (by decide) z)
        refine br_n (fun a4 => ?_) (fun a4 => ?_)
        · exact xgenK (w0 := wH0) (K := K) (fun F v => by have q := h F v; unfold an_lay at q; rw [if_pos (show xin a 6 ∧ xin b 10 ∧ xin c 2 by simp only [xin, xlt, xle, xeq, Int32.reduceToInt] at a1 a2 a3 a4 ⊢; omega)] at q; exact q) rfl
        · exact xgenK (w0 := wH0) (K := K) (fun F v => by have q := h F v; unfold an_lay at q; rw [if_pos (show xin a 6 ∧ xin b 10 ∧ xin c 2 by simp only [xin, xlt, xle, xeq, Int32.reduceToInt] at a1 a2 a3 a4 ⊢; omega)] at q; exact q) rfl
abbrev an_image : Int32 := 1
set_option maxRecDepth 100000 in
set_option maxHeartbeats 1000000 in
theorem fr_image {K : xKo} (h : ∀ F v, K (some (.int an_image)) (xfill F v 0 wH0)) : C_H_image [.ref 0] wH0 K := by
  refine xM_go rfl 19 [] fun P hP => ?_
  refine xcall (sp_copy0 fun F => ?_)
  exact xgenK h rfl
abbrev an_feed (n : Int32) : Int32 := if 1 ≤ n.toInt ∧ n.toInt ≤ 8 then n else -1000000001
set_option maxRecDepth 100000 in
theorem fr_feed (x : Int64) (n : Int32) {K : xKo} (h : ∀ F v, K (some (.int (an_feed n))) (xfill F v 0 wH0)) : C_H_feed [.ref 0, .long x, .int n] wH0 K := by
  refine xM_go rfl 60 [] fun P hP => ?_
  refine br_c (fun a1 => ?_) (fun a1 => ?_)
  · refine xcall (sp_error rfl 1 (by decide) fun F v => ?_)
    exact xgenK (w0 := wH0) (K := K) (fun F v => by have q := h F v; unfold an_feed at q; rw [if_neg (show ¬ (1 ≤ n.toInt ∧ n.toInt ≤ 8) by simp only [xlt, Int32.reduceToInt] at a1; omega)] at q; exact q) rfl
  · refine br_c (fun a2 => ?_) (fun a2 => ?_)
    · have hn : 1 ≤ n.toInt ∧ n.toInt ≤ 8 := by simp only [xlt, xle, Int32.reduceToInt] at a1 a2; omega
      obtain ⟨j, hj, rfl⟩ : ∃ j : Nat, j ≤ 8 ∧ n = nI j := nI_of2 (M := 8) (n := 8) rfl (by simp only [xlt, Int32.reduceToInt] at *; omega) (by simp only [xle, Int32.reduceToInt] at *; omega)
      have hs : ((0 : Int32) + nI j).toInt = j := by rw [show (0 : Int32) = nI 0 from rfl, nI_add, nI_toInt (by omega)]; omega
      refine br_c (fun _ => ?_) (fun z => absurd (show (0 : Int32) + nI j ≤ 50 by simp only [xle, Int32.reduceToInt]; rw [hs]; omega) z)
      refine xcall (sp_addBytes0 x j hj fun F v => ?_)
      exact xgenK (w0 := wH0) (K := K) (fun F v => by have q := h F v; unfold an_feed at q; rw [if_pos hn] at q; exact q) rfl
    · refine xcall (sp_error rfl 1 (by decide) fun F v => ?_)
      exact xgenK (w0 := wH0) (K := K) (fun F v => by have q := h F v; unfold an_feed at q; rw [if_neg (show ¬ (1 ≤ n.toInt ∧ n.toInt ≤ 8) by simp only [xle, Int32.reduceToInt] at a2; omega)] at q; exact q) rfl
abbrev an_loose (n : Int32) : Int32 := if 1 ≤ n.toInt ∧ n.toInt ≤ 40 then 0 else -1000000001
set_option maxRecDepth 100000 in
theorem fr_loose (n : Int32) {K : xKo} (h : ∀ F v, K (some (.int (an_loose n))) (xfill F v 0 wH0)) : C_H_loose [.ref 0, .int n] wH0 K := by
  have key : ∀ (N : Nat), N ≤ 40 → (∀ F v, K (some (.int 0)) (xfill F v 0 wH0)) → ∀ (d k : Nat) (F v : Nat → Nat → Int32), k + d = N → v 1 8 = 0 → xWP pg_H_loose K 42 [(0, .ref 0), (1, .int (nI N)), (2, .int 0), (3, .int (nI k))] [] (xfill F v 0 wH0) (0, 0) := by
    intro N hN h d
    induction d with
    | zero =>
      intro k F v hk hv
      have hk : k = N := hk
      subst hk
      refine xWP_go 100 [(42, [0, 1, 2, 3])] fun P hP => ?_
      refine br_c (fun e => ?_) (fun e => absurd (nI_le (Nat.le_refl _) (by omega)) e)
      exact h F v
    | succ d ih =>
      intro k F v hk hv
      refine xWP_go 100 [(42, [0, 1, 2, 3])] fun P hP => ?_
      refine br_c (fun e => absurd e (nI_ge (by omega) (by omega))) (fun e => ?_)
      refine xcall (sp_draw0 rfl (by exact hv) fun r1 F1 v1 hv1 => ?_)
      refine ⟨by decide, ?_⟩
      refine xcall (sp_draw0 rfl (by exact hv1) fun r2 F2 v2 hv2 => ?_)
      refine ⟨by decide, ?_⟩
      refine xcall (sp_play0 rfl (by exact hv2) _ _ fun F3 v3 hv3 => ?_)
      refine xcall (sp_bitCount0 ?_)
      refine hP _ _ _ _ _ ?_
      rw [nI_1]
      exact ih (k + 1) (fun i => if i < 1 then F i else if i < 19 then F3 (i - 1) else F i) (fun i => if i < 1 then v i else if i < 19 then v3 (i - 1) else v i) (by omega) hv3
  refine xM_go rfl 100 [(42, [0, 1, 2, 3])] fun P hP => ?_
  refine br_c (fun a1 => ?_) (fun a1 => ?_)
  · refine xcall (sp_error rfl 1 (by decide) fun F v => ?_)
    exact xgenK (w0 := wH0) (K := K) (fun F v => by have q := h F v; unfold an_loose at q; rw [if_neg (show ¬ (1 ≤ n.toInt ∧ n.toInt ≤ 40) by simp only [xlt, Int32.reduceToInt] at a1; omega)] at q; exact q) rfl
  · refine br_c (fun a2 => ?_) (fun a2 => ?_)
    · have hn : 1 ≤ n.toInt ∧ n.toInt ≤ 40 := by simp only [xlt, xle, Int32.reduceToInt] at a1 a2; omega
      obtain ⟨j, hj, rfl⟩ : ∃ j : Nat, j ≤ 40 ∧ n = nI j := nI_of2 (M := 40) (n := 40) rfl (by simp only [xlt, Int32.reduceToInt] at *; omega) (by simp only [xle, Int32.reduceToInt] at *; omega)
      have hs : ((0 : Int32) + nI j).toInt = j := by rw [show (0 : Int32) = nI 0 from rfl, nI_add, nI_toInt (by omega)]; omega
      refine br_c (fun _ => ?_) (fun z => absurd (show (0 : Int32) + nI j ≤ 9999 by simp only [xle, Int32.reduceToInt]; rw [hs]; omega) z)
      refine hP _ _ _ _ _ ?_
      exact key j hj (fun F v => by have q := h F v; unfold an_loose at q; rw [if_pos hn] at q; exact q) j 0 (xarrs wH0) (xobjs wH0) (Nat.zero_add j) rfl
    · refine xcall (sp_error rfl 1 (by decide) fun F v => ?_)
      exact xgenK (w0 := wH0) (K := K) (fun F v => by have q := h F v; unfold an_loose at q; rw [if_neg (show ¬ (1 ≤ n.toInt ∧ n.toInt ≤ 40) by simp only [xle, Int32.reduceToInt] at a2; omega)] at q; exact q) rfl

