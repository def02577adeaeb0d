/-! ===== one call of each method on a new object of the class ===== -/
set_option maxRecDepth 100000 in
theorem sp_isChild0 (c : Int32) {K : xKo} (h : K (some (.int 0)) wH0) : C_H_isChild [.ref 0, .int c] wH0 K := by
  refine xM_go rfl 40 [] fun P hP => ?_
  refine xcall (sp_isBelow _ _ (fun a => ?_) (fun a => ?_))
  · exact ⟨Or.inl rfl, h⟩
  · exfalso; simp only [xin, Int32.reduceToInt] at a; omega
theorem sp_addChild0 (km c : Int32) {K : xKo} (h : ∀ F v, K (some (.int 0)) (xfill F v 0 (wT0 0))) : C_T_addChild [.ref 0, .int km, .int c] (wT0 0) K := by
  refine xM_go rfl 60 [] fun P hP => ?_
  refine ⟨by decide, ?_⟩
  refine ⟨vin (by decide), ?_⟩
  refine ⟨by decide, ?_⟩
  refine ⟨vin (by decide), ?_⟩
  refine ⟨vin (by decide), ?_⟩
  exact xgenK h rfl
theorem sp_isWhole0 (F : Nat → Nat → Int32) (v : Nat → Nat → Int32) (hv : v 0 6 = 1) {K : xKo} (h : K (some (.int 0)) (xfill F v 0 (wR0 0))) : C_R_isWhole [.ref 0] (xfill F v 0 (wR0 0)) K := by
  refine xM_go rfl 60 [] fun P hP => ?_
  refine br_c (fun e => ?_) (fun e => ?_)
  · exact absurd (e.symm.trans hv) (by decide)
  · exact ⟨Or.inl rfl, h⟩
theorem sp_faultOf0 (u : Int32) {K : xKo} (h : ∀ F v, K (some (.int 0)) (xfill F v 0 (wR0 0 ++ [.inl (50, fun _ => 0)]))) : C_R_faultOf [.ref 0, .ref 3, .int 0, .int u] (wR0 0 ++ [.inl (50, fun _ => 0)]) K := by
  refine xM_go rfl 100 [] fun P hP => ?_
  refine ⟨Or.inr rfl, ?_⟩
  refine xcall (sp_min _ _ ?_)
  refine br_c (fun e => ?_) (fun e => absurd (by decide) e)
  refine xcall (sp_isWhole0 (fun _ _ => 0) (fun _ j => if j = 6 then 1 else 0) rfl ?_)
  refine br_c (fun e => ?_) (fun e => absurd rfl e)
  exact xgenK h rfl
theorem sp_gives0 (a b c : Int32) {K : xKo} (h : K (some (.int 1)) (wL0 0)) : C_L_gives [.ref 0, .int a, .int b, .int c] (wL0 0) K := by
  refine xM_go rfl 100 [] fun P hP => ?_
  refine br_n (fun e => absurd rfl e) (fun e => ?_)
  exact h
theorem sp_isMissing0 (a b : Nat) {K : xKo} (h : K (some (.int 1)) (wS0 0)) : C_S_isMissing [.ref 0] (wS0 0) K := by
  refine xM_go rfl 100 [] fun P hP => ?_
  refine br_n (fun e => absurd rfl e) (fun e => ?_)
  exact ⟨Or.inr rfl, h⟩
theorem sp_sum0 (q : Nat) {K : xKo} (h : K (some (.int 0)) (wT0 0)) (hq : q = 6 ∨ q = 7 := by first | exact Or.inl rfl | exact Or.inr rfl) : C_T_sum [.ref 0, .ref q] (wT0 0) K := by
  rcases hq with rfl | rfl
  · refine xM_go rfl 100 [] fun P hP => ?_
    refine br_c (fun e => ?_) (fun e => absurd (by decide) e)
    exact h
  · refine xM_go rfl 100 [] fun P hP => ?_
    refine br_c (fun e => ?_) (fun e => absurd (by decide) e)
    exact h
/-- a row filled -/
theorem sp_fill (n : Nat) (hn : n ≤ 1000) (x : Int32) (f : Nat → Int32) {K : xKo} (h : ∀ g, (∀ j, j < n → g j = x) → (∀ j, n ≤ j → g j = f j) → K none [.inl (n, g)]) : C_Y_fill [.ref 0, .int x] [.inl (n, f)] K := by
  refine xM_go rfl 100 [(5, [0, 1, 2, 3])] fun P hP => ?_
  refine hP _ _ _ _ _ ?_
  have key : ∀ (d k : Nat) (g : Nat → Int32), k + d = n → (∀ j, j < k → g j = x) → (∀ j, k ≤ j → g j = f j) → xWP pg_Y_fill K 5 [(0, .ref 0), (1, .int x), (2, .int (nI k)), (3, .int (nI n))] [] [.inl (n, g)] (0, 0) := by
    intro d
    induction d with
    | zero =>
      intro k g hk h1 h2
      have hk : k = n := hk
      subst hk
      refine xWP_go 100 [(5, [0, 1, 2, 3])] fun P hP => ?_
      refine br_c (fun e => ?_) (fun e => absurd (nI_le (Nat.le_refl _) (by omega)) e)
      exact h g h1 h2
    | succ d ih =>
      intro k g hk h1 h2
      have e1 : (nI k).toNatClampNeg = k := nI_clamp (by omega)
      refine xWP_go 100 [(5, [0, 1, 2, 3])] fun P hP => ?_
      refine br_c (fun e => absurd e (nI_ge (by omega) (by omega))) (fun e => ?_)
      refine ⟨vp_in_nI (by omega) (by omega), ?_⟩
      refine hP _ _ _ _ _ ?_
      rw [e1, nI_1]
      refine ih (k + 1) _ (by omega) (fun j hj => ?_) (fun j hj => ?_)
      · by_cases hjk : j = k
        · subst hjk; exact pk_us
        · rw [pk_un hjk]; exact h1 j (by omega)
      · rw [pk_un (by omega)]; exact h2 j (by omega)
  exact key n 0 f (Nat.zero_add n) (fun j hj => absurd hj (Nat.not_lt_zero j)) (fun j _ => rfl)
theorem sp_begin0 (a b : Int32) {K : xKo} (h : ∀ F v, K none (xfill F v 0 (wS0 0))) : C_S_begin [.ref 0, .int a, .int b] (wS0 0) K := by
  refine xM_go rfl 100 [] fun P hP => ?_
  refine xcall (sp_fill 40 (by decide) 0 _ fun g _ _ => ?_)
  exact xgenK h rfl

abbrev an_thing (a b : Int32) : Int32 := if xin a 12 ∧ xin b 64 then 0 else -1000000001
set_option maxRecDepth 100000 in
theorem fr_thing (a b : Int32) {K : xKo} (h : ∀ F v, K (some (.int (an_thing a b))) (xfill F v 0 wH0)) : C_H_thing [.ref 0, .int a, .int b] wH0 K := by
  refine xM_go rfl 24 [] fun P hP => ?_
  refine xcall (sp_isBelow _ _ (fun a1 => ?_) (fun a1 => ?_))
  · refine br_c (fun _ => ?_) (fun z => absurd (by decide) z)
    refine xcall (sp_error rfl 1 (by decide) fun F v => ?_)
    exact xgenK (w0 := wH0) (K := K) (fun F v => by have q := h F v; unfold an_thing at q; rw [if_neg (show ¬ (xin a 12 ∧ xin b 64) by simp only [xin, xlt, xle, xeq, Int32.reduceToInt] at a1 ⊢; omega)] at q; exact q) rfl
  · refine br_c (fun z => absurd z (by decide)) (fun _ => ?_)
    refine xcall (sp_isBelow _ _ (fun a2 => ?_) (fun a2 => ?_))
    · refine br_n (fun z => absurd (by decide) z) (fun _ => ?_)
      refine xcall (sp_error rfl 1 (by decide) fun F v => ?_)
      exact xgenK (w0 := wH0) (K := K) (fun F v => by have q := h F v; unfold an_thing at q; rw [if_neg (show ¬ (xin a 12 ∧ xin b 64) by simp only [xin, xlt, xle, xeq, Int32.reduceToInt] at a1 a2 ⊢; omega)] at q; exact q) rfl
    · refine br_n (fun _ => ?_) (fun z => absurd z (by decide))
      refine br_c (fun _ => ?_) (fun z => absurd (by decide) z)
      refine xcall (sp_addThing0 _ _ fun F v => ?_)
      exact xgenK (w0 := wH0) (K := K) (fun F v => by have q := h F v; unfold an_thing at q; rw [if_pos (show xin a 12 ∧ xin b 64 by simp only [xin, xlt, xle, xeq, Int32.reduceToInt] at a1 a2 ⊢; omega)] at q; exact q) rfl
abbrev an_ofThing (a b : Int32) : Int32 := -1000000001
set_option maxRecDepth 100000 in
theorem fr_ofThing (a b : Int32) {K : xKo} (h : ∀ F v, K (some (.int (an_ofThing a b))) (xfill F v 0 wH0)) : C_H_ofThing [.ref 0, .int a, .int b] wH0 K := by
  refine xM_go rfl 15 [] fun P hP => ?_
  refine xcall (sp_isBelow _ _ (fun a1 => ?_) (fun a1 => (by exfalso; simp only [xin, Int32.reduceToInt] at a1; omega)))
  refine br_c (fun _ => ?_) (fun z => absurd (by decide) z)
  refine xcall (sp_error rfl 1 (by decide) fun F v => ?_)
  exact xgenK h rfl
abbrev an_shift (a b c : Int32) : Int32 := -1000000001
set_option maxRecDepth 100000 in
theorem fr_shift (a b c : Int32) {K : xKo} (h : ∀ F v, K (some (.int (an_shift a b c))) (xfill F v 0 wH0)) : C_H_shift [.ref 0, .int a, .int b, .int c] wH0 K := by
  refine xM_go rfl 15 [] fun P hP => ?_
  refine xcall (sp_isBelow _ _ (fun a1 => ?_) (fun a1 => (by exfalso; simp only [xin, Int32.reduceToInt] at a1; omega)))
  refine br_c (fun _ => ?_) (fun z => absurd (by decide) z)
  refine xcall (sp_error rfl 1 (by decide) fun F v => ?_)
  exact xgenK h rfl
abbrev an_child (a b : Int32) : Int32 := if xin a 70 ∧ xin b 12 then 0 else -1000000001
set_option maxRecDepth 100000 in
theorem fr_child (a b : Int32) {K : xKo} (h : ∀ F v, K (some (.int (an_child a b))) (xfill F v 0 wH0)) : C_H_child [.ref 0, .int a, .int b] wH0 K := by
  refine xM_go rfl 24 [] fun P hP => ?_
  refine xcall (sp_isBelow _ _ (fun a1 => ?_) (fun a1 => ?_))
  · refine br_c (fun _ => ?_) (fun z => absurd (by decide) z)
    refine xcall (sp_error rfl 1 (by decide) fun F v => ?_)
    exact xgenK (w0 := wH0) (K := K) (fun F v => by have q := h F v; unfold an_child at q; rw [if_neg (show ¬ (xin a 70 ∧ xin b 12) by simp only [xin, xlt, xle, xeq, Int32.reduceToInt] at a1 ⊢; omega)] at q; exact q) rfl
  · refine br_c (fun z => absurd z (by decide)) (fun _ => ?_)
    refine xcall (sp_isBelow _ _ (fun a2 => ?_) (fun a2 => ?_))
    · refine br_n (fun z => absurd (by decide) z) (fun _ => ?_)
      refine xcall (sp_error rfl 1 (by decide) fun F v => ?_)
      exact xgenK (w0 := wH0) (K := K) (fun F v => by have q := h F v; unfold an_child at q; rw [if_neg (show ¬ (xin a 70 ∧ xin b 12) by simp only [xin, xlt, xle, xeq, Int32.reduceToInt] at a1 a2 ⊢; omega)] at q; exact q) rfl
    · refine br_n (fun _ => ?_) (fun z => absurd z (by decide))
      refine br_c (fun _ => ?_) (fun z => absurd (by decide) z)
      refine xcall (sp_addChild0 _ _ fun F v => ?_)
      exact xgenK (w0 := wH0) (K := K) (fun F v => by have q := h F v; unfold an_child at q; rw [if_pos (show xin a 70 ∧ xin b 12 by simp only [xin, xlt, xle, xeq, Int32.reduceToInt] at a1 a2 ⊢; omega)] at q; exact q) rfl
abbrev an_ofChild (a b : Int32) : Int32 := -1000000001
set_option maxRecDepth 100000 in
theorem fr_ofChild (a b : Int32) {K : xKo} (h : ∀ F v, K (some (.int (an_ofChild a b))) (xfill F v 0 wH0)) : C_H_ofChild [.ref 0, .int a, .int b] wH0 K := by
  refine xM_go rfl 13 [] fun P hP => ?_
  refine xcall (sp_isChild0 _ ?_)
  refine br_n (fun z => absurd (by decide) z) (fun _ => ?_)
  refine xcall (sp_error rfl 1 (by decide) fun F v => ?_)
  exact xgenK h rfl
abbrev an_change (a b c : Int32) : Int32 := -1000000001
set_option maxRecDepth 100000 in
theorem fr_change (a b c : Int32) {K : xKo} (h : ∀ F v, K (some (.int (an_change a b c))) (xfill F v 0 wH0)) : C_H_change [.ref 0, .int a, .int b, .int c] wH0 K := by
  refine xM_go rfl 13 [] fun P hP => ?_
  refine xcall (sp_isChild0 _ ?_)
  refine br_c (fun _ => ?_) (fun z => absurd (by decide) z)
  refine xcall (sp_error rfl 1 (by decide) fun F v => ?_)
  exact xgenK h rfl
abbrev an_it (a : Int32) : Int32 := if a = -1 then -1 else -1000000001
set_option maxRecDepth 100000 in
theorem fr_it (a : Int32) {K : xKo} (h : ∀ F v, K (some (.int (an_it a))) (xfill F v 0 wH0)) : C_H_it [.ref 0, .int a] wH0 K := by
  refine xM_go rfl 18 [] fun P hP => ?_
  refine br_c (fun a1 => ?_) (fun a1 => ?_)
  · exact xgenK (w0 := wH0) (K := K) (fun F v => by have q := h F v; unfold an_it at q; rw [if_pos (show a = -1 by simp only [xin, xlt, xle, xeq, Int32.reduceToInt] at a1 ⊢; omega)] at q; exact q) rfl
  · refine xcall (sp_isChild0 _ ?_)
    refine br_n (fun z => absurd (by decide) z) (fun _ => ?_)
    refine xcall (sp_error rfl 1 (by decide) fun F v => ?_)
    exact xgenK (w0 := wH0) (K := K) (fun F v => by have q := h F v; unfold an_it at q; rw [if_neg (show ¬ (a = -1) by simp only [xin, xlt, xle, xeq, Int32.reduceToInt] at a1 ⊢; omega)] at q; exact q) rfl
abbrev an_become (a b : Int32) : Int32 := -1000000001
set_option maxRecDepth 100000 in
theorem fr_become (a b : Int32) {K : xKo} (h : ∀ F v, K (some (.int (an_become a b))) (xfill F v 0 wH0)) : C_H_become [.ref 0, .int a, .int b] wH0 K := by
  refine xM_go rfl 13 [] fun P hP => ?_
  refine xcall (sp_isChild0 _ ?_)
  refine br_c (fun _ => ?_) (fun z => absurd (by decide) z)
  refine xcall (sp_error rfl 1 (by decide) fun F v => ?_)
  exact xgenK h rfl
abbrev an_as (a b : Int32) : Int32 := -1000000001
set_option maxRecDepth 100000 in
theorem fr_as (a b : Int32) {K : xKo} (h : ∀ F v, K (some (.int (an_as a b))) (xfill F v 0 wH0)) : C_H_as [.ref 0, .int a, .int b] wH0 K := by
  refine xM_go rfl 13 [] fun P hP => ?_
  refine xcall (sp_isChild0 _ ?_)
  refine br_c (fun _ => ?_) (fun z => absurd (by decide) z)
  refine xcall (sp_error rfl 1 (by decide) fun F v => ?_)
  exact xgenK h rfl
abbrev an_text (a : Int32) : Int32 := if xin a 2 then -10 else -1000000001
set_option maxRecDepth 100000 in
theorem fr_text (a : Int32) {K : xKo} (h : ∀ F v, K (some (.int (an_text a))) (xfill F v 0 wH0)) : C_H_text [.ref 0, .int a] wH0 K := by
  refine xM_go rfl 31 [] fun P hP => ?_
  refine xcall (sp_isBelow _ _ (fun a1 => ?_) (fun a1 => ?_))
  · refine br_n (fun z => absurd (by decide) z) (fun _ => ?_)
    refine xcall (sp_error rfl 1 (by decide) fun F v => ?_)
    exact xgenK (w0 := wH0) (K := K) (fun F v => by have q := h F v; unfold an_text at q; rw [if_neg (show ¬ (xin a 2) by simp only [xin, xlt, xle, xeq, Int32.reduceToInt] at a1 ⊢; omega)] at q; exact q) rfl
  · refine br_n (fun _ => ?_) (fun z => absurd z (by decide))
    refine xcall (sp_faultOf0 _ fun F v => ?_)
    refine br_c (fun z => absurd z (by decide)) (fun _ => ?_)
    exact xgenK (w0 := wH0) (K := K) (fun F v => by have q := h F v; unfold an_text at q; rw [if_pos (show xin a 2 by simp only [xin, xlt, xle, xeq, Int32.reduceToInt] at a1 ⊢; omega)] at q; exact q) rfl
abbrev an_law (a b c d : Int32) : Int32 := if xin a 2 then 1 else -1000000001
set_option maxRecDepth 100000 in
theorem fr_law (a b c d : Int32) {K : xKo} (h : ∀ F v, K (some (.int (an_law a b c d))) (xfill F v 0 wH0)) : C_H_law [.ref 0, .int a, .int b, .int c, .int d] wH0 K := by
  refine xM_go rfl 19 [] fun P hP => ?_
  refine xcall (sp_isBelow _ _ (fun a1 => ?_) (fun a1 => ?_))
  · refine br_n (fun z => absurd (by decide) z) (fun _ => ?_)
    refine xcall (sp_error rfl 1 (by decide) fun F v => ?_)
    exact xgenK (w0 := wH0) (K := K) (fun F v => by have q := h F v; unfold an_law at q; rw [if_neg (show ¬ (xin a 2) by simp only [xin, xlt, xle, xeq, Int32.reduceToInt] at a1 ⊢; omega)] at q; exact q) rfl
  · refine br_n (fun _ => ?_) (fun z => absurd z (by decide))
    refine ⟨vin (by simp only [xin, xlt, xle, Int32.reduceToInt] at a1 ⊢; omega), ⟨fun a2 => ?_, ⟨fun a2 => ?_, trivial⟩⟩⟩
    · refine xcall (sp_gives0 _ _ _ ?_)
      exact xgenK (w0 := wH0) (K := K) (fun F v => by have q := h F v; unfold an_law at q; rw [if_pos (show xin a 2 by simp only [xin, xlt, xle, xeq, Int32.reduceToInt] at a1 a2 ⊢; omega)] at q; exact q) rfl
    · refine xcall (sp_gives0 _ _ _ ?_)
      exact xgenK (w0 := wH0) (K := K) (fun F v => by have q := h F v; unfold an_law at q; rw [if_pos (show xin a 2 by simp only [xin, xlt, xle, xeq, Int32.reduceToInt] at a1 a2 ⊢; omega)] at q; exact q) rfl
abbrev an_call (a b : Int32) : Int32 := if xin a 6 ∧ xin b 10 then 0 else -1000000001
set_option maxRecDepth 100000 in
theorem fr_call (a b : Int32) {K : xKo} (h : ∀ F v, K (some (.int (an_call a b))) (xfill F v 0 wH0)) : C_H_call [.ref 0, .int a, .int b] wH0 K := by
  refine xM_go rfl 23 [] fun P hP => ?_
  refine xcall (sp_isBelow _ _ (fun a1 => ?_) (fun a1 => ?_))
  · refine br_c (fun _ => ?_) (fun z => absurd (by decide) z)
    refine xcall (sp_error rfl 1 (by decide) fun F v => ?_)
    exact xgenK (w0 := wH0) (K := K) (fun F v => by have q := h F v; unfold an_call at q; rw [if_neg (show ¬ (xin a 6 ∧ xin b 10) by simp only [xin, xlt, xle, xeq, Int32.reduceToInt] at a1 ⊢; omega)] at q; exact q) rfl
  · refine br_c (fun z => absurd z (by decide)) (fun _ => ?_)
    refine xcall (sp_isSteps _ (fun a2 => ?_) (fun a2 => ?_))
    · refine br_n (fun z => absurd (by decide) z) (fun _ => ?_)
      refine xcall (sp_error rfl 1 (by decide) fun F v => ?_)
      exact xgenK (w0 := wH0) (K := K) (fun F v => by have q := h F v; unfold an_call at q; rw [if_neg (show ¬ (xin a 6 ∧ xin b 10) by simp only [xin, xlt, xle, xeq, Int32.reduceToInt] at a1 a2 ⊢; omega)] at q; exact q) rfl
    · refine br_n (fun _ => ?_) (fun z => absurd z (by decide))
      refine br_c (fun _ => ?_) (fun z => absurd (by decide) z)
      refine xcall (sp_play0 rfl (by exact rfl) _ _ fun F v hv => ?_)
      exact xgenK (w0 := wH0) (K := K) (fun F v => by have q := h F v; unfold an_call at q; rw [if_pos (show xin a 6 ∧ xin b 10 by simp only [xin, xlt, xle, xeq, Int32.reduceToInt] at a1 a2 ⊢; omega)] at q; exact q) rfl
abbrev an_hadBy (a b : Int32) : Int32 := if xin a 6 ∧ xin b 10 then 0 else -1000000001
set_option maxRecDepth 100000 in
theorem fr_hadBy (a b : Int32) {K : xKo} (h : ∀ F v, K (some (.int (an_hadBy a b))) (xfill F v 0 wH0)) : C_H_hadBy [.ref 0, .int a, .int b] wH0 K := by
  refine xM_go rfl 18 [] fun P hP => ?_
  refine xcall (sp_isBelow _ _ (fun a1 => ?_) (fun a1 => ?_))
  · refine br_c (fun _ => ?_) (fun z => absurd (by decide) z)
    refine xcall (sp_error rfl 1 (by decide) fun F v => ?_)
    exact xgenK (w0 := wH0) (K := K) (fun F v => by have q := h F v; unfold an_hadBy at q; rw [if_neg (show ¬ (xin a 6 ∧ xin b 10) by simp only [xin, xlt, xle, xeq, Int32.reduceToInt] at a1 ⊢; omega)] at q; exact q) rfl
  · refine br_c (fun z => absurd z (by decide)) (fun _ => ?_)
    refine xcall (sp_isSteps _ (fun a2 => ?_) (fun a2 => ?_))
    · refine br_n (fun z => absurd (by decide) z) (fun _ => ?_)
      refine xcall (sp_error rfl 1 (by decide) fun F v => ?_)
      exact xgenK (w0 := wH0) (K := K) (fun F v => by have q := h F v; unfold an_hadBy at q; rw [if_neg (show ¬ (xin a 6 ∧ xin b 10) by simp only [xin, xlt, xle, xeq, Int32.reduceToInt] at a1 a2 ⊢; omega)] at q; exact q) rfl
    · refine br_n (fun _ => ?_) (fun z => absurd z (by decide))
      refine xcall (sp_wouldBeHad0 rfl (by exact rfl) _ _ ?_)
      exact xgenK (w0 := wH0) (K := K) (fun F v => by have q := h F v; unfold an_hadBy at q; rw [if_pos (show xin a 6 ∧ xin b 10 by simp only [xin, xlt, xle, xeq, Int32.reduceToInt] at a1 a2 ⊢; omega)] at q; exact q) rfl
abbrev an_runsTo (a b c : Int32) : Int32 := -1000000001
set_option maxRecDepth 100000 in
theorem fr_runsTo (a b c : Int32) {K : xKo} (h : ∀ F v, K (some (.int (an_runsTo a b c))) (xfill F v 0 wH0)) : C_H_runsTo [.ref 0, .int a, .int b, .int c] wH0 K := by
  refine xM_go rfl 13 [] fun P hP => ?_
  refine xcall (sp_isChild0 _ ?_)
  refine br_c (fun _ => ?_) (fun z => absurd (by decide) z)
  refine xcall (sp_error rfl 1 (by decide) fun F v => ?_)
  exact xgenK h rfl
abbrev an_stand (a b c : Int32) : Int32 := -1000000001
set_option maxRecDepth 100000 in
theorem fr_stand (a b c : Int32) {K : xKo} (h : ∀ F v, K (some (.int (an_stand a b c))) (xfill F v 0 wH0)) : C_H_stand [.ref 0, .int a, .int b, .int c] wH0 K := by
  refine xM_go rfl 13 [] fun P hP => ?_
  refine xcall (sp_isChild0 _ ?_)
  refine br_c (fun _ => ?_) (fun z => absurd (by decide) z)
  refine xcall (sp_error rfl 1 (by decide) fun F v => ?_)
  exact xgenK h rfl
abbrev an_steps (a : Int32) : Int32 := if xin a 6 then 0 else -1000000001
set_option maxRecDepth 100000 in
theorem fr_steps (a : Int32) {K : xKo} (h : ∀ F v, K (some (.int (an_steps a))) (xfill F v 0 wH0)) : C_H_steps [.ref 0, .int a] wH0 K := by
  refine xM_go rfl 22 [] fun P hP => ?_
  refine xcall (sp_isBelow _ _ (fun a1 => ?_) (fun a1 => ?_))
  · refine br_n (fun z => absurd (by decide) z) (fun _ => ?_)
    refine xcall (sp_error rfl 1 (by decide) fun F v => ?_)
    exact xgenK (w0 := wH0) (K := K) (fun F v => by have q := h F v; unfold an_steps at q; rw [if_neg (show ¬ (xin a 6) by simp only [xin, xlt, xle, xeq, Int32.reduceToInt] at a1 ⊢; omega)] at q; exact q) rfl
  · refine br_n (fun _ => ?_) (fun z => absurd z (by decide))
    refine br_c (fun z => absurd z (by decide)) (fun _ => ?_)
    refine xcall (sp_wouldBeHad0 rfl (by exact rfl) _ _ ?_)
    refine br_n (fun z => absurd (by decide) z) (fun _ => ?_)
    exact xgenK (w0 := wH0) (K := K) (fun F v => by have q := h F v; unfold an_steps at q; rw [if_pos (show xin a 6 by simp only [xin, xlt, xle, xeq, Int32.reduceToInt] at a1 ⊢; omega)] at q; exact q) rfl
abbrev an_take (a b c : Int32) : Int32 := -1000000001
set_option maxRecDepth 100000 in
theorem fr_take (a b c : Int32) {K : xKo} (h : ∀ F v, K (some (.int (an_take a b c))) (xfill F v 0 wH0)) : C_H_take [.ref 0, .int a, .int b, .int c] wH0 K := by
  refine xM_go rfl 13 [] fun P hP => ?_
  refine xcall (sp_isChild0 _ ?_)
  refine br_c (fun _ => ?_) (fun z => absurd (by decide) z)
  refine xcall (sp_error rfl 1 (by decide) fun F v => ?_)
  exact xgenK h rfl
abbrev an_never (a : Int32) : Int32 := if xin a 10 then 0 else -1000000001
set_option maxRecDepth 100000 in
theorem fr_never (a : Int32) {K : xKo} (h : ∀ F v, K (some (.int (an_never a))) (xfill F v 0 wH0)) : C_H_never [.ref 0, .int a] wH0 K := by
  refine xM_go rfl 113 [] fun P hP => ?_
  refine xcall (sp_isSteps _ (fun a1 => ?_) (fun a1 => ?_))
  · refine br_n (fun z => absurd (by decide) z) (fun _ => ?_)
    refine xcall (sp_error rfl 1 (by decide) fun F v => ?_)
    exact xgenK (w0 := wH0) (K := K) (fun F v => by have q := h F v; unfold an_never at q; rw [if_neg (show ¬ (xin a 10) by simp only [xin, xlt, xle, xeq, Int32.reduceToInt] at a1 ⊢; omega)] at q; exact q) rfl
  · refine br_n (fun _ => ?_) (fun z => absurd z (by decide))
    refine br_c (fun z => absurd z (by decide)) (fun _ => ?_)
    refine xcall (sp_wouldBeHad0 rfl (by exact rfl) _ _ ?_)
    refine br_c (fun z => absurd z (by decide)) (fun _ => ?_)
    refine xcall (sp_wouldBeHad0 rfl (by exact rfl) _ _ ?_)
    refine br_c (fun z => absurd z (by decide)) (fun _ => ?_)
    refine xcall (sp_wouldBeHad0 rfl (by exact rfl) _ _ ?_)
    refine br_c (fun z => absurd z (by decide)) (fun _ => ?_)
    refine xcall (sp_wouldBeHad0 rfl (by exact rfl) _ _ ?_)
    refine br_c (fun z => absurd z (by decide)) (fun _ => ?_)
    refine xcall (sp_wouldBeHad0 rfl (by exact rfl) _ _ ?_)
    refine br_c (fun z => absurd z (by decide)) (fun _ => ?_)
    refine xcall (sp_wouldBeHad0 rfl (by exact rfl) _ _ ?_)
    refine br_c (fun _ => ?_) (fun z => absurd (by decide) z)
    exact xgenK (w0 := wH0) (K := K) (fun F v => by have q := h F v; unfold an_never at q; rw [if_pos (show xin a 10 by simp only [xin, xlt, xle, xeq, Int32.reduceToInt] at a1 ⊢; omega)] at q; exact q) rfl
abbrev an_series (a b c : Int32) : Int32 := if xin a 4 ∧ xin b 10 ∧ xin c 2 then -1000000002 else -1000000001
set_option maxRecDepth 100000 in
theorem fr_series (a b c : Int32) {K : xKo} (h : ∀ F v, K (some (.int (an_series a b c))) (xfill F v 0 wH0)) : C_H_series [.ref 0, .int a, .int b, .int c] wH0 K := by
  refine xM_go rfl 28 [] fun P hP => ?_
  refine xcall (sp_isBelow _ _ (fun a1 => ?_) (fun a1 => ?_))
  · refine br_c (fun _ => ?_) (fun z => absurd (by decide) z)
    refine xcall (sp_error rfl 1 (by decide) fun F v => ?_)
    exact xgenK (w0 := wH0) (K := K) (fun F v => by have q := h F v; unfold an_series at q; rw [if_neg (show ¬ (xin a 4 ∧ xin b 10 ∧ xin c 2) by simp only [xin, xlt, xle, xeq, Int32.reduceToInt] at a1 ⊢; omega)] at q; exact q) rfl
  · refine br_c (fun z => absurd z (by decide)) (fun _ => ?_)
    refine xcall (sp_isSteps _ (fun a2 => ?_) (fun a2 => ?_))
    · refine br_c (fun _ => ?_) (fun z => absurd (by decide) z)
      refine xcall (sp_error rfl 1 (by decide) fun F v => ?_)
      exact xgenK (w0 := wH0) (K := K) (fun F v => by have q := h F v; unfold an_series at q; rw [if_neg (show ¬ (xin a 4 ∧ xin b 10 ∧ xin c 2) by simp only [xin, xlt, xle, xeq, Int32.reduceToInt] at a1 a2 ⊢; omega)] at q; exact q) rfl
    · refine br_c (fun z => absurd z (by decide)) (fun _ => ?_)
      refine xcall (sp_isBelow _ _ (fun a3 => ?_) (fun a3 => ?_))
      · refine br_n (fun z => absurd (by decide) z) (fun _ => ?_)
        refine xcall (sp_error rfl 1 (by decide) fun F v => ?_)
        exact xgenK (w0 := wH0) (K := K) (fun F v => by have q := h F v; unfold an_series at q; rw [if_neg (show ¬ (xin a 4 ∧ xin b 10 ∧ xin c 2) by simp only [xin, xlt, xle, xeq, Int32.reduceToInt] at a1 a2 a3 ⊢; omega)] at q; exact q) rfl
      · refine br_n (fun _ => ?_) (fun z => absurd z (by decide))
        refine ⟨vin (by simp only [xin, xlt, xle, Int32.reduceToInt] at a1 a2 a3 ⊢; omega), ⟨fun a4 => ?_, ⟨fun a4 => ?_, ⟨fun a4 => ?_, ⟨fun a4 => ?_, trivial⟩⟩⟩⟩⟩
        · refine xcall (sp_isMissing0 0 0 ?_)
          refine br_c (fun z => absurd z (by decide)) (fun _ => ?_)
          refine xcall (sp_error rfl 2 (by decide) fun F v => ?_)
          exact xgenK (w0 := wH0) (K := K) (fun F v => by have q := h F v; unfold an_series at q; rw [if_pos (show xin a 4 ∧ xin b 10 ∧ xin c 2 by simp only [xin, xlt, xle, xeq, Int32.reduceToInt] at a1 a2 a3 a4 ⊢; omega)] at q; exact q) rfl
        · refine xcall (sp_isMissing0 0 0 ?_)
          refine br_c (fun z => absurd z (by decide)) (fun _ => ?_)
          refine xcall (sp_error rfl 2 (by decide) fun F v => ?_)
          exact xgenK (w0 := wH0) (K := K) (fun F v => by have q := h F v; unfold an_series at q; rw [if_pos (show xin a 4 ∧ xin b 10 ∧ xin c 2 by simp only [xin, xlt, xle, xeq, Int32.reduceToInt] at a1 a2 a3 a4 ⊢; omega)] at q; exact q) rfl
        · refine xcall (sp_isMissing0 0 0 ?_)
          refine br_c (fun z => absurd z (by decide)) (fun _ => ?_)
          refine xcall (sp_error rfl 2 (by decide) fun F v => ?_)
          exact xgenK (w0 := wH0) (K := K) (fun F v => by have q := h F v; unfold an_series at q; rw [if_pos (show xin a 4 ∧ xin b 10 ∧ xin c 2 by simp only [xin, xlt, xle, xeq, Int32.reduceToInt] at a1 a2 a3 a4 ⊢; omega)] at q; exact q) rfl
        · refine xcall (sp_isMissing0 0 0 ?_)
          refine br_c (fun z => absurd z (by decide)) (fun _ => ?_)
          refine xcall (sp_error rfl 2 (by decide) fun F v => ?_)
          exact xgenK (w0 := wH0) (K := K) (fun F v => by have q := h F v; unfold an_series at q; rw [if_pos (show xin a 4 ∧ xin b 10 ∧ xin c 2 by simp only [xin, xlt, xle, xeq, Int32.reduceToInt] at a1 a2 a3 a4 ⊢; omega)] at q; exact q) rfl
abbrev an_odds (a b c : Int32) : Int32 := -1000000001
set_option maxRecDepth 100000 in
theorem fr_odds (a b c : Int32) {K : xKo} (h : ∀ F v, K (some (.int (an_odds a b c))) (xfill F v 0 wH0)) : C_H_odds [.ref 0, .int a, .int b, .int c] wH0 K := by
  refine xM_go rfl 13 [] fun P hP => ?_
  refine xcall (sp_isChild0 _ ?_)
  refine br_c (fun _ => ?_) (fun z => absurd (by decide) z)
  refine xcall (sp_error rfl 1 (by decide) fun F v => ?_)
  exact xgenK h rfl
abbrev an_seed (a : Int32) : Int32 := 1
set_option maxRecDepth 100000 in
theorem fr_seed (a : Int32) {K : xKo} (h : ∀ F v, K (some (.int (an_seed a))) (xfill F v 0 wH0)) : C_H_seed [.ref 0, .int a] wH0 K := by
  refine xM_go rfl 15 [] fun P hP => ?_
  exact xgenK h rfl
abbrev an_voice (a b c : Int32) : Int32 := -1000000001
set_option maxRecDepth 100000 in
theorem fr_voice (a b c : Int32) {K : xKo} (h : ∀ F v, K (some (.int (an_voice a b c))) (xfill F v 0 wH0)) : C_H_voice [.ref 0, .int a, .int b, .int c] wH0 K := by
  refine xM_go rfl 13 [] fun P hP => ?_
  refine xcall (sp_isChild0 _ ?_)
  refine br_c (fun _ => ?_) (fun z => absurd (by decide) z)
  refine xcall (sp_error rfl 1 (by decide) fun F v => ?_)
  exact xgenK h rfl
abbrev an_trace (a : Int32) : Int32 := -1000000002
set_option maxRecDepth 100000 in
theorem fr_trace (a : Int32) {K : xKo} (h : ∀ F v, K (some (.int (an_trace a))) (xfill F v 0 wH0)) : C_H_trace [.ref 0, .int a] wH0 K := by
  refine xM_go rfl 15 [] fun P hP => ?_
  refine xcall (sp_isBelow _ _ (fun a1 => ?_) (fun a1 => (by exfalso; simp only [xin, Int32.reduceToInt] at a1; omega)))
  refine br_n (fun z => absurd (by decide) z) (fun _ => ?_)
  refine xcall (sp_error rfl 2 (by decide) fun F v => ?_)
  exact xgenK h rfl
abbrev an_put (a b c : Int32) : Int32 := if xin a 4 then -1000000002 else -1000000001
set_option maxRecDepth 100000 in
theorem fr_put (a b c : Int32) {K : xKo} (h : ∀ F v, K (some (.int (an_put a b c))) (xfill F v 0 wH0)) : C_H_put [.ref 0, .int a, .int b, .int c] wH0 K := by
  refine xM_go rfl 21 [] fun P hP => ?_
  refine xcall (sp_isBelow _ _ (fun a1 => ?_) (fun a1 => ?_))
  · refine br_n (fun z => absurd (by decide) z) (fun _ => ?_)
    refine xcall (sp_error rfl 1 (by decide) fun F v => ?_)
    exact xgenK (w0 := wH0) (K := K) (fun F v => by have q := h F v; unfold an_put at q; rw [if_neg (show ¬ (xin a 4) by simp only [xin, xlt, xle, xeq, Int32.reduceToInt] at a1 ⊢; omega)] at q; exact q) rfl
  · refine br_n (fun _ => ?_) (fun z => absurd z (by decide))
    refine ⟨vin (by simp only [xin, xlt, xle, Int32.reduceToInt] at a1 ⊢; omega), ⟨fun a2 => ?_, ⟨fun a2 => ?_, ⟨fun a2 => ?_, ⟨fun a2 => ?_, trivial⟩⟩⟩⟩⟩
    · refine xcall (sp_isMissing0 0 0 ?_)
      refine br_c (fun z => absurd z (by decide)) (fun _ => ?_)
      refine xcall (sp_error rfl 2 (by decide) fun F v => ?_)
      exact xgenK (w0 := wH0) (K := K) (fun F v => by have q := h F v; unfold an_put at q; rw [if_pos (show xin a 4 by simp only [xin, xlt, xle, xeq, Int32.reduceToInt] at a1 a2 ⊢; omega)] at q; exact q) rfl
    · refine xcall (sp_isMissing0 0 0 ?_)
      refine br_c (fun z => absurd z (by decide)) (fun _ => ?_)
      refine xcall (sp_error rfl 2 (by decide) fun F v => ?_)
      exact xgenK (w0 := wH0) (K := K) (fun F v => by have q := h F v; unfold an_put at q; rw [if_pos (show xin a 4 by simp only [xin, xlt, xle, xeq, Int32.reduceToInt] at a1 a2 ⊢; omega)] at q; exact q) rfl
    · refine xcall (sp_isMissing0 0 0 ?_)
      refine br_c (fun z => absurd z (by decide)) (fun _ => ?_)
      refine xcall (sp_error rfl 2 (by decide) fun F v => ?_)
      exact xgenK (w0 := wH0) (K := K) (fun F v => by have q := h F v; unfold an_put at q; rw [if_pos (show xin a 4 by simp only [xin, xlt, xle, xeq, Int32.reduceToInt] at a1 a2 ⊢; omega)] at q; exact q) rfl
    · refine xcall (sp_isMissing0 0 0 ?_)
      refine br_c (fun z => absurd z (by decide)) (fun _ => ?_)
      refine xcall (sp_error rfl 2 (by decide) fun F v => ?_)
      exact xgenK (w0 := wH0) (K := K) (fun F v => by have q := h F v; unfold an_put at q; rw [if_pos (show xin a 4 by simp only [xin, xlt, xle, xeq, Int32.reduceToInt] at a1 a2 ⊢; omega)] at q; exact q) rfl
abbrev an_move (a b c d e : Int32) : Int32 := if xin a 4 ∧ xin c 4 then -1000000002 else -1000000001
set_option maxRecDepth 100000 in
theorem fr_move (a b c d e : Int32) {K : xKo} (h : ∀ F v, K (some (.int (an_move a b c d e))) (xfill F v 0 wH0)) : C_H_move [.ref 0, .int a, .int b, .int c, .int d, .int e] wH0 K := by
  refine xM_go rfl 30 [] fun P hP => ?_
  refine xcall (sp_isBelow _ _ (fun a1 => ?_) (fun a1 => ?_))
  · refine br_c (fun _ => ?_) (fun z => absurd (by decide) z)
    refine xcall (sp_error rfl 1 (by decide) fun F v => ?_)
    exact xgenK (w0 := wH0) (K := K) (fun F v => by have q := h F v; unfold an_move at q; rw [if_neg (show ¬ (xin a 4 ∧ xin c 4) by simp only [xin, xlt, xle, xeq, Int32.reduceToInt] at a1 ⊢; omega)] at q; exact q) rfl
  · refine br_c (fun z => absurd z (by decide)) (fun _ => ?_)
    refine xcall (sp_isBelow _ _ (fun a2 => ?_) (fun a2 => ?_))
    · refine br_n (fun z => absurd (by decide) z) (fun _ => ?_)
      refine xcall (sp_error rfl 1 (by decide) fun F v => ?_)
      exact xgenK (w0 := wH0) (K := K) (fun F v => by have q := h F v; unfold an_move at q; rw [if_neg (show ¬ (xin a 4 ∧ xin c 4) by simp only [xin, xlt, xle, xeq, Int32.reduceToInt] at a1 a2 ⊢; omega)] at q; exact q) rfl
    · refine br_n (fun _ => ?_) (fun z => absurd z (by decide))
      refine ⟨vin (by simp only [xin, xlt, xle, Int32.reduceToInt] at a1 a2 ⊢; omega), ⟨fun a3 => ?_, ⟨fun a3 => ?_, ⟨fun a3 => ?_, ⟨fun a3 => ?_, trivial⟩⟩⟩⟩⟩
      · refine ⟨vin (by simp only [xin, xlt, xle, Int32.reduceToInt] at a1 a2 a3 ⊢; omega), ⟨fun a4 => ?_, ⟨fun a4 => ?_, ⟨fun a4 => ?_, ⟨fun a4 => ?_, trivial⟩⟩⟩⟩⟩
        · refine xcall (sp_isMissing0 0 0 ?_)
          refine br_n (fun _ => ?_) (fun z => absurd z (by decide))
          refine xcall (sp_error rfl 2 (by decide) fun F v => ?_)
          exact xgenK (w0 := wH0) (K := K) (fun F v => by have q := h F v; unfold an_move at q; rw [if_pos (show xin a 4 ∧ xin c 4 by simp only [xin, xlt, xle, xeq, Int32.reduceToInt] at a1 a2 a3 a4 ⊢; omega)] at q; exact q) rfl
        · refine xcall (sp_isMissing0 0 0 ?_)
          refine br_n (fun _ => ?_) (fun z => absurd z (by decide))
          refine xcall (sp_error rfl 2 (by decide) fun F v => ?_)
          exact xgenK (w0 := wH0) (K := K) (fun F v => by have q := h F v; unfold an_move at q; rw [if_pos (show xin a 4 ∧ xin c 4 by simp only [xin, xlt, xle, xeq, Int32.reduceToInt] at a1 a2 a3 a4 ⊢; omega)] at q; exact q) rfl
        · refine xcall (sp_isMissing0 0 0 ?_)
          refine br_n (fun _ => ?_) (fun z => absurd z (by decide))
          refine xcall (sp_error rfl 2 (by decide) fun F v => ?_)
          exact xgenK (w0 := wH0) (K := K) (fun F v => by have q := h F v; unfold an_move at q; rw [if_pos (show xin a 4 ∧ xin c 4 by simp only [xin, xlt, xle, xeq, Int32.reduceToInt] at a1 a2 a3 a4 ⊢; omega)] at q; exact q) rfl
        · refine xcall (sp_isMissing0 0 0 ?_)
          refine br_n (fun _ => ?_) (fun z => absurd z (by decide))
          refine xcall (sp_error rfl 2 (by decide) fun F v => ?_)
          exact xgenK (w0 := wH0) (K := K) (fun F v => by have q := h F v; unfold an_move at q; rw [if_pos (show xin a 4 ∧ xin c 4 by simp only [xin, xlt, xle, xeq, Int32.reduceToInt] at a1 a2 a3 a4 ⊢; omega)] at q; exact q) rfl
      · refine ⟨vin (by simp only [xin, xlt, xle, Int32.reduceToInt] at a1 a2 a3 ⊢; omega), ⟨fun a5 => ?_, ⟨fun a5 => ?_, ⟨fun a5 => ?_, ⟨fun a5 => ?_, trivial⟩⟩⟩⟩⟩
        · refine xcall (sp_isMissing0 0 0 ?_)
          refine br_n (fun _ => ?_) (fun z => absurd z (by decide))
          refine xcall (sp_error rfl 2 (by decide) fun F v => ?_)
          exact xgenK (w0 := wH0) (K := K) (fun F v => by have q := h F v; unfold an_move at q; rw [if_pos (show xin a 4 ∧ xin c 4 by simp only [xin, xlt, xle, xeq, Int32.reduceToInt] at a1 a2 a3 a5 ⊢; omega)] at q; exact q) rfl
        · refine xcall (sp_isMissing0 0 0 ?_)
          refine br_n (fun _ => ?_) (fun z => absurd z (by decide))
          refine xcall (sp_error rfl 2 (by decide) fun F v => ?_)
          exact xgenK (w0 := wH0) (K := K) (fun F v => by have q := h F v; unfold an_move at q; rw [if_pos (show xin a 4 ∧ xin c 4 by simp only [xin, xlt, xle, xeq, Int32.reduceToInt] at a1 a2 a3 a5 ⊢; omega)] at q; exact q) rfl
        · refine xcall (sp_isMissing0 0 0 ?_)
          refine br_n (fun _ => ?_) (fun z => absurd z (by decide))
          refine xcall (sp_error rfl 2 (by decide) fun F v => ?_)
          exact xgenK (w0 := wH0) (K := K) (fun F v => by have q := h F v; unfold an_move at q; rw [if_pos (show xin a 4 ∧ xin c 4 by simp only [xin, xlt, xle, xeq, Int32.reduceToInt] at a1 a2 a3 a5 ⊢; omega)] at q; exact q) rfl
        · refine xcall (sp_isMissing0 0 0 ?_)
          refine br_n (fun _ => ?_) (fun z => absurd z (by decide))
          refine xcall (sp_error rfl 2 (by decide) fun F v => ?_)
          exact xgenK (w0 := wH0) (K := K) (fun F v => by have q := h F v; unfold an_move at q; rw [if_pos (show xin a 4 ∧ xin c 4 by simp only [xin, xlt, xle, xeq, Int32.reduceToInt] at a1 a2 a3 a5 ⊢; omega)] at q; exact q) rfl
      · refine ⟨vin (by simp only [xin, xlt, xle, Int32.reduceToInt] at a1 a2 a3 ⊢; omega), ⟨fun a6 => ?_, ⟨fun a6 => ?_, ⟨fun a6 => ?_, ⟨fun a6 => ?_, trivial⟩⟩⟩⟩⟩
        · refine xcall (sp_isMissing0 0 0 ?_)
          refine br_n (fun _ => ?_) (fun z => absurd z (by decide))
          refine xcall (sp_error rfl 2 (by decide) fun F v => ?_)
          exact xgenK (w0 := wH0) (K := K) (fun F v => by have q := h F v; unfold an_move at q; rw [if_pos (show xin a 4 ∧ xin c 4 by simp only [xin, xlt, xle, xeq, Int32.reduceToInt] at a1 a2 a3 a6 ⊢; omega)] at q; exact q) rfl
        · refine xcall (sp_isMissing0 0 0 ?_)
          refine br_n (fun _ => ?_) (fun z => absurd z (by decide))
          refine xcall (sp_error rfl 2 (by decide) fun F v => ?_)
          exact xgenK (w0 := wH0) (K := K) (fun F v => by have q := h F v; unfold an_move at q; rw [if_pos (show xin a 4 ∧ xin c 4 by simp only [xin, xlt, xle, xeq, Int32.reduceToInt] at a1 a2 a3 a6 ⊢; omega)] at q; exact q) rfl
        · refine xcall (sp_isMissing0 0 0 ?_)
          refine br_n (fun _ => ?_) (fun z => absurd z (by decide))
          refine xcall (sp_error rfl 2 (by decide) fun F v => ?_)
          exact xgenK (w0 := wH0) (K := K) (fun F v => by have q := h F v; unfold an_move at q; rw [if_pos (show xin a 4 ∧ xin c 4 by simp only [xin, xlt, xle, xeq, Int32.reduceToInt] at a1 a2 a3 a6 ⊢; omega)] at q; exact q) rfl
        · refine xcall (sp_isMissing0 0 0 ?_)
          refine br_n (fun _ => ?_) (fun z => absurd z (by decide))
          refine xcall (sp_error rfl 2 (by decide) fun F v => ?_)
          exact xgenK (w0 := wH0) (K := K) (fun F v => by have q := h F v; unfold an_move at q; rw [if_pos (show xin a 4 ∧ xin c 4 by simp only [xin, xlt, xle, xeq, Int32.reduceToInt] at a1 a2 a3 a6 ⊢; omega)] at q; exact q) rfl
      · refine ⟨vin (by simp only [xin, xlt, xle, Int32.reduceToInt] at a1 a2 a3 ⊢; omega), ⟨fun a7 => ?_, ⟨fun a7 => ?_, ⟨fun a7 => ?_, ⟨fun a7 => ?_, trivial⟩⟩⟩⟩⟩
        · refine xcall (sp_isMissing0 0 0 ?_)
          refine br_n (fun _ => ?_) (fun z => absurd z (by decide))
          refine xcall (sp_error rfl 2 (by decide) fun F v => ?_)
          exact xgenK (w0 := wH0) (K := K) (fun F v => by have q := h F v; unfold an_move at q; rw [if_pos (show xin a 4 ∧ xin c 4 by simp only [xin, xlt, xle, xeq, Int32.reduceToInt] at a1 a2 a3 a7 ⊢; omega)] at q; exact q) rfl
        · refine xcall (sp_isMissing0 0 0 ?_)
          refine br_n (fun _ => ?_) (fun z => absurd z (by decide))
          refine xcall (sp_error rfl 2 (by decide) fun F v => ?_)
          exact xgenK (w0 := wH0) (K := K) (fun F v => by have q := h F v; unfold an_move at q; rw [if_pos (show xin a 4 ∧ xin c 4 by simp only [xin, xlt, xle, xeq, Int32.reduceToInt] at a1 a2 a3 a7 ⊢; omega)] at q; exact q) rfl
        · refine xcall (sp_isMissing0 0 0 ?_)
          refine br_n (fun _ => ?_) (fun z => absurd z (by decide))
          refine xcall (sp_error rfl 2 (by decide) fun F v => ?_)
          exact xgenK (w0 := wH0) (K := K) (fun F v => by have q := h F v; unfold an_move at q; rw [if_pos (show xin a 4 ∧ xin c 4 by simp only [xin, xlt, xle, xeq, Int32.reduceToInt] at a1 a2 a3 a7 ⊢; omega)] at q; exact q) rfl
        · refine xcall (sp_isMissing0 0 0 ?_)
          refine br_n (fun _ => ?_) (fun z => absurd z (by decide))
          refine xcall (sp_error rfl 2 (by decide) fun F v => ?_)
          exact xgenK (w0 := wH0) (K := K) (fun F v => by have q := h F v; unfold an_move at q; rw [if_pos (show xin a 4 ∧ xin c 4 by simp only [xin, xlt, xle, xeq, Int32.reduceToInt] at a1 a2 a3 a7 ⊢; omega)] at q; exact q) rfl
abbrev an_places (a : Int32) : Int32 := if xin a 4 then -1000000002 else -1000000001
set_option maxRecDepth 100000 in
theorem fr_places (a : Int32) {K : xKo} (h : ∀ F v, K (some (.int (an_places a))) (xfill F v 0 wH0)) : C_H_places [.ref 0, .int a] wH0 K := by
  refine xM_go rfl 21 [] fun P hP => ?_
  refine xcall (sp_isBelow _ _ (fun a1 => ?_) (fun a1 => ?_))
  · refine br_n (fun z => absurd (by decide) z) (fun _ => ?_)
    refine xcall (sp_error rfl 1 (by decide) fun F v => ?_)
    exact xgenK (w0 := wH0) (K := K) (fun F v => by have q := h F v; unfold an_places at q; rw [if_neg (show ¬ (xin a 4) by simp only [xin, xlt, xle, xeq, Int32.reduceToInt] at a1 ⊢; omega)] at q; exact q) rfl
  · refine br_n (fun _ => ?_) (fun z => absurd z (by decide))
    refine ⟨vin (by simp only [xin, xlt, xle, Int32.reduceToInt] at a1 ⊢; omega), ⟨fun a2 => ?_, ⟨fun a2 => ?_, ⟨fun a2 => ?_, ⟨fun a2 => ?_, trivial⟩⟩⟩⟩⟩
    · refine xcall (sp_isMissing0 0 0 ?_)
      refine br_c (fun z => absurd z (by decide)) (fun _ => ?_)
      refine xcall (sp_error rfl 2 (by decide) fun F v => ?_)
      exact xgenK (w0 := wH0) (K := K) (fun F v => by have q := h F v; unfold an_places at q; rw [if_pos (show xin a 4 by simp only [xin, xlt, xle, xeq, Int32.reduceToInt] at a1 a2 ⊢; omega)] at q; exact q) rfl
    · refine xcall (sp_isMissing0 0 0 ?_)
      refine br_c (fun z => absurd z (by decide)) (fun _ => ?_)
      refine xcall (sp_error rfl 2 (by decide) fun F v => ?_)
      exact xgenK (w0 := wH0) (K := K) (fun F v => by have q := h F v; unfold an_places at q; rw [if_pos (show xin a 4 by simp only [xin, xlt, xle, xeq, Int32.reduceToInt] at a1 a2 ⊢; omega)] at q; exact q) rfl
    · refine xcall (sp_isMissing0 0 0 ?_)
      refine br_c (fun z => absurd z (by decide)) (fun _ => ?_)
      refine xcall (sp_error rfl 2 (by decide) fun F v => ?_)
      exact xgenK (w0 := wH0) (K := K) (fun F v => by have q := h F v; unfold an_places at q; rw [if_pos (show xin a 4 by simp only [xin, xlt, xle, xeq, Int32.reduceToInt] at a1 a2 ⊢; omega)] at q; exact q) rfl
    · refine xcall (sp_isMissing0 0 0 ?_)
      refine br_c (fun z => absurd z (by decide)) (fun _ => ?_)
      refine xcall (sp_error rfl 2 (by decide) fun F v => ?_)
      exact xgenK (w0 := wH0) (K := K) (fun F v => by have q := h F v; unfold an_places at q; rw [if_pos (show xin a 4 by simp only [xin, xlt, xle, xeq, Int32.reduceToInt] at a1 a2 ⊢; omega)] at q; exact q) rfl
abbrev an_judge (a : Int32) : Int32 := if xin a 4 then -1000000002 else -1000000001
set_option maxRecDepth 100000 in
theorem fr_judge (a : Int32) {K : xKo} (h : ∀ F v, K (some (.int (an_judge a))) (xfill F v 0 wH0)) : C_H_judge [.ref 0, .int a] wH0 K := by
  refine xM_go rfl 21 [] fun P hP => ?_
  refine xcall (sp_isBelow _ _ (fun a1 => ?_) (fun a1 => ?_))
  · refine br_n (fun z => absurd (by decide) z) (fun _ => ?_)
    refine xcall (sp_error rfl 1 (by decide) fun F v => ?_)
    exact xgenK (w0 := wH0) (K := K) (fun F v => by have q := h F v; unfold an_judge at q; rw [if_neg (show ¬ (xin a 4) by simp only [xin, xlt, xle, xeq, Int32.reduceToInt] at a1 ⊢; omega)] at q; exact q) rfl
  · refine br_n (fun _ => ?_) (fun z => absurd z (by decide))
    refine ⟨vin (by simp only [xin, xlt, xle, Int32.reduceToInt] at a1 ⊢; omega), ⟨fun a2 => ?_, ⟨fun a2 => ?_, ⟨fun a2 => ?_, ⟨fun a2 => ?_, trivial⟩⟩⟩⟩⟩
    · refine xcall (sp_isMissing0 0 0 ?_)
      refine br_c (fun z => absurd z (by decide)) (fun _ => ?_)
      refine xcall (sp_error rfl 2 (by decide) fun F v => ?_)
      exact xgenK (w0 := wH0) (K := K) (fun F v => by have q := h F v; unfold an_judge at q; rw [if_pos (show xin a 4 by simp only [xin, xlt, xle, xeq, Int32.reduceToInt] at a1 a2 ⊢; omega)] at q; exact q) rfl
    · refine xcall (sp_isMissing0 0 0 ?_)
      refine br_c (fun z => absurd z (by decide)) (fun _ => ?_)
      refine xcall (sp_error rfl 2 (by decide) fun F v => ?_)
      exact xgenK (w0 := wH0) (K := K) (fun F v => by have q := h F v; unfold an_judge at q; rw [if_pos (show xin a 4 by simp only [xin, xlt, xle, xeq, Int32.reduceToInt] at a1 a2 ⊢; omega)] at q; exact q) rfl
    · refine xcall (sp_isMissing0 0 0 ?_)
      refine br_c (fun z => absurd z (by decide)) (fun _ => ?_)
      refine xcall (sp_error rfl 2 (by decide) fun F v => ?_)
      exact xgenK (w0 := wH0) (K := K) (fun F v => by have q := h F v; unfold an_judge at q; rw [if_pos (show xin a 4 by simp only [xin, xlt, xle, xeq, Int32.reduceToInt] at a1 a2 ⊢; omega)] at q; exact q) rfl
    · refine xcall (sp_isMissing0 0 0 ?_)
      refine br_c (fun z => absurd z (by decide)) (fun _ => ?_)
      refine xcall (sp_error rfl 2 (by decide) fun F v => ?_)
      exact xgenK (w0 := wH0) (K := K) (fun F v => by have q := h F v; unfold an_judge at q; rw [if_pos (show xin a 4 by simp only [xin, xlt, xle, xeq, Int32.reduceToInt] at a1 a2 ⊢; omega)] at q; exact q) rfl
abbrev an_restore : Int32 := -1000000002
set_option maxRecDepth 100000 in
theorem fr_restore {K : xKo} (h : ∀ F v, K (some (.int an_restore)) (xfill F v 0 wH0)) : C_H_restore [.ref 0] wH0 K := by
  refine xM_go rfl 12 [] fun P hP => ?_
  refine br_n (fun z => absurd (by decide) z) (fun _ => ?_)
  refine xcall (sp_error rfl 2 (by decide) fun F v => ?_)
  exact xgenK h rfl
abbrev an_tell (a : Int32) : Int32 := 1
set_option maxRecDepth 100000 in
theorem fr_tell (a : Int32) {K : xKo} (h : ∀ F v, K (some (.int (an_tell a))) (xfill F v 0 wH0)) : C_H_tell [.ref 0, .int a] wH0 K := by
  refine xM_go rfl 29 [] fun P hP => ?_
  refine br_c (fun _ => ?_) (fun z => absurd (by decide) z)
  refine ⟨vin (by decide), ?_⟩
  exact xgenK h rfl
abbrev an_check : Int32 := 0
set_option maxRecDepth 100000 in
theorem fr_check {K : xKo} (h : ∀ F v, K (some (.int an_check)) (xfill F v 0 wH0)) : C_H_check [.ref 0] wH0 K := by
  refine xM_go rfl 20 [] fun P hP => ?_
  refine br_c (fun _ => ?_) (fun z => absurd (by decide) z)
  exact xgenK h rfl
abbrev an_count (a : Int32) : Int32 := if a = 3 then -1 else if a = 9 then 1 else if xin a 10 then 0 else -1000000001
set_option maxRecDepth 100000 in
theorem fr_count (a : Int32) {K : xKo} (h : ∀ F v, K (some (.int (an_count a))) (xfill F v 0 wH0)) : C_H_count [.ref 0, .int a] wH0 K := by
  refine xM_go rfl 14 [] fun P hP => ?_
  refine br_c (fun a1 => ?_) (fun a1 => ?_)
  · exact xgenK (w0 := wH0) (K := K) (fun F v => by have q := h F v; unfold an_count at q; rw [if_neg (show ¬ (a = 3) by simp only [xin, xlt, xle, xeq, Int32.reduceToInt] at a1 ⊢; omega), if_neg (show ¬ (a = 9) by simp only [xin, xlt, xle, xeq, Int32.reduceToInt] at a1 ⊢; omega), if_pos (show xin a 10 by simp only [xin, xlt, xle, xeq, Int32.reduceToInt] at a1 ⊢; omega)] at q; exact q) rfl
  refine br_c (fun a2 => ?_) (fun a2 => ?_)
  · exact xgenK (w0 := wH0) (K := K) (fun F v => by have q := h F v; unfold an_count at q; rw [if_neg (show ¬ (a = 3) by simp only [xin, xlt, xle, xeq, Int32.reduceToInt] at a1 a2 ⊢; omega), if_neg (show ¬ (a = 9) by simp only [xin, xlt, xle, xeq, Int32.reduceToInt] at a1 a2 ⊢; omega), if_pos (show xin a 10 by simp only [xin, xlt, xle, xeq, Int32.reduceToInt] at a1 a2 ⊢; omega)] at q; exact q) rfl
  refine br_c (fun a3 => ?_) (fun a3 => ?_)
  · exact xgenK (w0 := wH0) (K := K) (fun F v => by have q := h F v; unfold an_count at q; rw [if_neg (show ¬ (a = 3) by simp only [xin, xlt, xle, xeq, Int32.reduceToInt] at a1 a2 a3 ⊢; omega), if_neg (show ¬ (a = 9) by simp only [xin, xlt, xle, xeq, Int32.reduceToInt] at a1 a2 a3 ⊢; omega), if_pos (show xin a 10 by simp only [xin, xlt, xle, xeq, Int32.reduceToInt] at a1 a2 a3 ⊢; omega)] at q; exact q) rfl
  refine br_c (fun a4 => ?_) (fun a4 => ?_)
  · exact xgenK (w0 := wH0) (K := K) (fun F v => by have q := h F v; unfold an_count at q; rw [if_pos (show a = 3 by simp only [xin, xlt, xle, xeq, Int32.reduceToInt] at a1 a2 a3 a4 ⊢; omega)] at q; exact q) rfl
  refine br_c (fun a5 => ?_) (fun a5 => ?_)
  · refine xcall (sp_sum0 _ ?_)
    exact xgenK (w0 := wH0) (K := K) (fun F v => by have q := h F v; unfold an_count at q; rw [if_neg (show ¬ (a = 3) by simp only [xin, xlt, xle, xeq, Int32.reduceToInt] at a1 a2 a3 a4 a5 ⊢; omega), if_neg (show ¬ (a = 9) by simp only [xin, xlt, xle, xeq, Int32.reduceToInt] at a1 a2 a3 a4 a5 ⊢; omega), if_pos (show xin a 10 by simp only [xin, xlt, xle, xeq, Int32.reduceToInt] at a1 a2 a3 a4 a5 ⊢; omega)] at q; exact q) rfl
  refine br_c (fun a6 => ?_) (fun a6 => ?_)
  · refine xcall (sp_sum0 _ ?_)
    exact xgenK (w0 := wH0) (K := K) (fun F v => by have q := h F v; unfold an_count at q; rw [if_neg (show ¬ (a = 3) by simp only [xin, xlt, xle, xeq, Int32.reduceToInt] at a1 a2 a3 a4 a5 a6 ⊢; omega), if_neg (show ¬ (a = 9) by simp only [xin, xlt, xle, xeq, Int32.reduceToInt] at a1 a2 a3 a4 a5 a6 ⊢; omega), if_pos (show xin a 10 by simp only [xin, xlt, xle, xeq, Int32.reduceToInt] at a1 a2 a3 a4 a5 a6 ⊢; omega)] at q; exact q) rfl
  refine br_c (fun a7 => ?_) (fun a7 => ?_)
  · exact xgenK (w0 := wH0) (K := K) (fun F v => by have q := h F v; unfold an_count at q; rw [if_neg (show ¬ (a = 3) by simp only [xin, xlt, xle, xeq, Int32.reduceToInt] at a1 a2 a3 a4 a5 a6 a7 ⊢; omega), if_neg (show ¬ (a = 9) by simp only [xin, xlt, xle, xeq, Int32.reduceToInt] at a1 a2 a3 a4 a5 a6 a7 ⊢; omega), if_pos (show xin a 10 by simp only [xin, xlt, xle, xeq, Int32.reduceToInt] at a1 a2 a3 a4 a5 a6 a7 ⊢; omega)] at q; exact q) rfl
  refine br_c (fun a8 => ?_) (fun a8 => ?_)
  · exact xgenK (w0 := wH0) (K := K) (fun F v => by have q := h F v; unfold an_count at q; rw [if_neg (show ¬ (a = 3) by simp only [xin, xlt, xle, xeq, Int32.reduceToInt] at a1 a2 a3 a4 a5 a6 a7 a8 ⊢; omega), if_neg (show ¬ (a = 9) by simp only [xin, xlt, xle, xeq, Int32.reduceToInt] at a1 a2 a3 a4 a5 a6 a7 a8 ⊢; omega), if_pos (show xin a 10 by simp only [xin, xlt, xle, xeq, Int32.reduceToInt] at a1 a2 a3 a4 a5 a6 a7 a8 ⊢; omega)] at q; exact q) rfl
  refine br_c (fun a9 => ?_) (fun a9 => ?_)
  · exact xgenK (w0 := wH0) (K := K) (fun F v => by have q := h F v; unfold an_count at q; rw [if_neg (show ¬ (a = 3) by simp only [xin, xlt, xle, xeq, Int32.reduceToInt] at a1 a2 a3 a4 a5 a6 a7 a8 a9 ⊢; omega), if_neg (show ¬ (a = 9) by simp only [xin, xlt, xle, xeq, Int32.reduceToInt] at a1 a2 a3 a4 a5 a6 a7 a8 a9 ⊢; omega), if_pos (show xin a 10 by simp only [xin, xlt, xle, xeq, Int32.reduceToInt] at a1 a2 a3 a4 a5 a6 a7 a8 a9 ⊢; omega)] at q; exact q) rfl
  refine br_c (fun a10 => ?_) (fun a10 => ?_)
  · exact xgenK (w0 := wH0) (K := K) (fun F v => by have q := h F v; unfold an_count at q; rw [if_neg (show ¬ (a = 3) by simp only [xin, xlt, xle, xeq, Int32.reduceToInt] at a1 a2 a3 a4 a5 a6 a7 a8 a9 a10 ⊢; omega), if_pos (show a = 9 by simp only [xin, xlt, xle, xeq, Int32.reduceToInt] at a1 a2 a3 a4 a5 a6 a7 a8 a9 a10 ⊢; omega)] at q; exact q) rfl
  refine xcall (sp_error rfl 1 (by decide) fun F v => ?_)
  exact xgenK (w0 := wH0) (K := K) (fun F v => by have q := h F v; unfold an_count at q; rw [if_neg (show ¬ (a = 3) by simp only [xin, xlt, xle, xeq, Int32.reduceToInt] at a1 a2 a3 a4 a5 a6 a7 a8 a9 a10 ⊢; omega), if_neg (show ¬ (a = 9) by simp only [xin, xlt, xle, xeq, Int32.reduceToInt] at a1 a2 a3 a4 a5 a6 a7 a8 a9 a10 ⊢; omega), if_neg (show ¬ (xin a 10) by simp only [xin, xlt, xle, xeq, Int32.reduceToInt] at a1 a2 a3 a4 a5 a6 a7 a8 a9 a10 ⊢; omega)] at q; exact q) rfl
abbrev an_told (a : Int32) : Int32 := if 1 ≤ a.toInt ∧ a.toInt ≤ 5 then 0 else -1000000001
set_option maxRecDepth 100000 in
theorem fr_told (a : Int32) {K : xKo} (h : ∀ F v, K (some (.int (an_told a))) (xfill F v 0 wH0)) : C_H_told [.ref 0, .int a] wH0 K := by
  refine xM_go rfl 16 [] fun P hP => ?_
  refine br_c (fun a1 => ?_) (fun a1 => ?_)
  · refine xcall (sp_error rfl 1 (by decide) fun F v => ?_)
    exact xgenK (w0 := wH0) (K := K) (fun F v => by have q := h F v; unfold an_told at q; rw [if_neg (show ¬ (1 ≤ a.toInt ∧ a.toInt ≤ 5) by simp only [xin, xlt, xle, xeq, Int32.reduceToInt] at a1 ⊢; omega)] at q; exact q) rfl
  · refine br_c (fun a2 => ?_) (fun a2 => ?_)
    · refine ⟨vin (by simp only [xin, xlt, xle, Int32.reduceToInt] at a1 a2 ⊢; omega), ?_⟩
      exact xgenK (w0 := wH0) (K := K) (fun F v => by have q := h F v; unfold an_told at q; rw [if_pos (show 1 ≤ a.toInt ∧ a.toInt ≤ 5 by simp only [xin, xlt, xle, xeq, Int32.reduceToInt] at a1 a2 ⊢; omega)] at q; exact q) rfl
    · refine xcall (sp_error rfl 1 (by decide) fun F v => ?_)
      exact xgenK (w0 := wH0) (K := K) (fun F v => by have q := h F v; unfold an_told at q; rw [if_neg (show ¬ (1 ≤ a.toInt ∧ a.toInt ≤ 5) by simp only [xin, xlt, xle, xeq, Int32.reduceToInt] at a1 a2 ⊢; omega)] at q; exact q) rfl
abbrev an_sheet (a b c : Int32) : Int32 := if xin a 4 ∧ b = 0 then 1 else if xin a 4 ∧ (b = 8 ∨ b = 16 ∨ b = 32) ∧ c.toInt < 0 then -1000000003 else if xin a 4 ∧ (b = 8 ∨ b = 16 ∨ b = 32) ∧ c.toInt ≤ 40 then 1 else -1000000001
set_option maxRecDepth 100000 in
theorem fr_sheet (a b c : Int32) {K : xKo} (h : ∀ F v, K (some (.int (an_sheet a b c))) (xfill F v 0 wH0)) : C_H_sheet [.ref 0, .int a, .int b, .int c] wH0 K := by
  refine xM_go rfl 36 [] fun P hP => ?_
  refine xcall (sp_isBelow _ _ (fun a1 => ?_) (fun a1 => ?_))
  · refine br_c (fun _ => ?_) (fun z => absurd (by decide) z)
    refine xcall (sp_error rfl 1 (by decide) fun F v => ?_)
    exact xgenK (w0 := wH0) (K := K) (fun F v => by have q := h F v; unfold an_sheet at q; rw [if_neg (show ¬ (xin a 4 ∧ b = 0) by simp only [xin, xlt, xle, xeq, Int32.reduceToInt] at a1 ⊢; omega), if_neg (show ¬ (xin a 4 ∧ (b = 8 ∨ b = 16 ∨ b = 32) ∧ c.toInt < 0) by simp only [xin, xlt, xle, xeq, Int32.reduceToInt] at a1 ⊢; omega), if_neg (show ¬ (xin a 4 ∧ (b = 8 ∨ b = 16 ∨ b = 32) ∧ c.toInt ≤ 40) by simp only [xin, xlt, xle, xeq, Int32.reduceToInt] at a1 ⊢; omega)] at q; exact q) rfl
  · refine br_c (fun z => absurd z (by decide)) (fun _ => ?_)
    refine br_c (fun a2 => ?_) (fun a2 => ?_)
    · refine br_n (fun a3 => ?_) (fun a3 => ?_)
      · refine br_c (fun a4 => ?_) (fun a4 => ?_)
        · refine br_c (fun a5 => ?_) (fun a5 => ?_)
          · refine ⟨vin (by simp only [xin, xlt, xle, Int32.reduceToInt] at a1 a2 a3 a4 a5 ⊢; omega), ⟨fun a6 => ?_, ⟨fun a6 => ?_, ⟨fun a6 => ?_, ⟨fun a6 => ?_, trivial⟩⟩⟩⟩⟩
            · refine xcall (sp_begin0 _ _ fun F v => ?_)
              first | (exact xgenK (w0 := wH0) (K := K) (fun F v => by have q := h F v; unfold an_sheet at q; rw [if_pos (show xin a 4 ∧ b = 0 by simp only [xin, xlt, xle, xeq, Int32.reduceToInt] at a1 a2 a3 a4 a5 a6 ⊢; omega)] at q; exact q) rfl) | (exact xgenK (w0 := wH0) (K := K) (fun F v => by have q := h F v; unfold an_sheet at q; rw [if_neg (show ¬ (xin a 4 ∧ b = 0) by simp only [xin, xlt, xle, xeq, Int32.reduceToInt] at a1 a2 a3 a4 a5 a6 ⊢; omega), if_neg (show ¬ (xin a 4 ∧ (b = 8 ∨ b = 16 ∨ b = 32) ∧ c.toInt < 0) by simp only [xin, xlt, xle, xeq, Int32.reduceToInt] at a1 a2 a3 a4 a5 a6 ⊢; omega), if_pos (show xin a 4 ∧ (b = 8 ∨ b = 16 ∨ b = 32) ∧ c.toInt ≤ 40 by simp only [xin, xlt, xle, xeq, Int32.reduceToInt] at a1 a2 a3 a4 a5 a6 ⊢; omega)] at q; exact q) rfl)
            · refine xcall (sp_begin0 _ _ fun F v => ?_)
              first | (exact xgenK (w0 := wH0) (K := K) (fun F v => by have q := h F v; unfold an_sheet at q; rw [if_pos (show xin a 4 ∧ b = 0 by simp only [xin, xlt, xle, xeq, Int32.reduceToInt] at a1 a2 a3 a4 a5 a6 ⊢; omega)] at q; exact q) rfl) | (exact xgenK (w0 := wH0) (K := K) (fun F v => by have q := h F v; unfold an_sheet at q; rw [if_neg (show ¬ (xin a 4 ∧ b = 0) by simp only [xin, xlt, xle, xeq, Int32.reduceToInt] at a1 a2 a3 a4 a5 a6 ⊢; omega), if_neg (show ¬ (xin a 4 ∧ (b = 8 ∨ b = 16 ∨ b = 32) ∧ c.toInt < 0) by simp only [xin, xlt, xle, xeq, Int32.reduceToInt] at a1 a2 a3 a4 a5 a6 ⊢; omega), if_pos (show xin a 4 ∧ (b = 8 ∨ b = 16 ∨ b = 32) ∧ c.toInt ≤ 40 by simp only [xin, xlt, xle, xeq, Int32.reduceToInt] at a1 a2 a3 a4 a5 a6 ⊢; omega)] at q; exact q) rfl)
            · refine xcall (sp_begin0 _ _ fun F v => ?_)
              first | (exact xgenK (w0 := wH0) (K := K) (fun F v => by have q := h F v; unfold an_sheet at q; rw [if_pos (show xin a 4 ∧ b = 0 by simp only [xin, xlt, xle, xeq, Int32.reduceToInt] at a1 a2 a3 a4 a5 a6 ⊢; omega)] at q; exact q) rfl) | (exact xgenK (w0 := wH0) (K := K) (fun F v => by have q := h F v; unfold an_sheet at q; rw [if_neg (show ¬ (xin a 4 ∧ b = 0) by simp only [xin, xlt, xle, xeq, Int32.reduceToInt] at a1 a2 a3 a4 a5 a6 ⊢; omega), if_neg (show ¬ (xin a 4 ∧ (b = 8 ∨ b = 16 ∨ b = 32) ∧ c.toInt < 0) by simp only [xin, xlt, xle, xeq, Int32.reduceToInt] at a1 a2 a3 a4 a5 a6 ⊢; omega), if_pos (show xin a 4 ∧ (b = 8 ∨ b = 16 ∨ b = 32) ∧ c.toInt ≤ 40 by simp only [xin, xlt, xle, xeq, Int32.reduceToInt] at a1 a2 a3 a4 a5 a6 ⊢; omega)] at q; exact q) rfl)
            · refine xcall (sp_begin0 _ _ fun F v => ?_)
              first | (exact xgenK (w0 := wH0) (K := K) (fun F v => by have q := h F v; unfold an_sheet at q; rw [if_pos (show xin a 4 ∧ b = 0 by simp only [xin, xlt, xle, xeq, Int32.reduceToInt] at a1 a2 a3 a4 a5 a6 ⊢; omega)] at q; exact q) rfl) | (exact xgenK (w0 := wH0) (K := K) (fun F v => by have q := h F v; unfold an_sheet at q; rw [if_neg (show ¬ (xin a 4 ∧ b = 0) by simp only [xin, xlt, xle, xeq, Int32.reduceToInt] at a1 a2 a3 a4 a5 a6 ⊢; omega), if_neg (show ¬ (xin a 4 ∧ (b = 8 ∨ b = 16 ∨ b = 32) ∧ c.toInt < 0) by simp only [xin, xlt, xle, xeq, Int32.reduceToInt] at a1 a2 a3 a4 a5 a6 ⊢; omega), if_pos (show xin a 4 ∧ (b = 8 ∨ b = 16 ∨ b = 32) ∧ c.toInt ≤ 40 by simp only [xin, xlt, xle, xeq, Int32.reduceToInt] at a1 a2 a3 a4 a5 a6 ⊢; omega)] at q; exact q) rfl)
          · refine xcall (sp_error rfl 1 (by decide) fun F v => ?_)
            exact xgenK (w0 := wH0) (K := K) (fun F v => by have q := h F v; unfold an_sheet at q; rw [if_neg (show ¬ (xin a 4 ∧ b = 0) by simp only [xin, xlt, xle, xeq, Int32.reduceToInt] at a1 a2 a3 a4 a5 ⊢; omega), if_neg (show ¬ (xin a 4 ∧ (b = 8 ∨ b = 16 ∨ b = 32) ∧ c.toInt < 0) by simp only [xin, xlt, xle, xeq, Int32.reduceToInt] at a1 a2 a3 a4 a5 ⊢; omega), if_neg (show ¬ (xin a 4 ∧ (b = 8 ∨ b = 16 ∨ b = 32) ∧ c.toInt ≤ 40) by simp only [xin, xlt, xle, xeq, Int32.reduceToInt] at a1 a2 a3 a4 a5 ⊢; omega)] at q; exact q) rfl
        · refine xcall (sp_error rfl 3 (by decide) fun F v => ?_)
          exact xgenK (w0 := wH0) (K := K) (fun F v => by have q := h F v; unfold an_sheet at q; rw [if_neg (show ¬ (xin a 4 ∧ b = 0) by simp only [xin, xlt, xle, xeq, Int32.reduceToInt] at a1 a2 a3 a4 ⊢; omega), if_pos (show xin a 4 ∧ (b = 8 ∨ b = 16 ∨ b = 32) ∧ c.toInt < 0 by simp only [xin, xlt, xle, xeq, Int32.reduceToInt] at a1 a2 a3 a4 ⊢; omega)] at q; exact q) rfl
      · refine ⟨vin (by simp only [xin, xlt, xle, Int32.reduceToInt] at a1 a2 a3 ⊢; omega), ⟨fun a7 => ?_, ⟨fun a7 => ?_, ⟨fun a7 => ?_, ⟨fun a7 => ?_, trivial⟩⟩⟩⟩⟩
        · refine xcall (sp_begin0 _ _ fun F v => ?_)
          first | (exact xgenK (w0 := wH0) (K := K) (fun F v => by have q := h F v; unfold an_sheet at q; rw [if_pos (show xin a 4 ∧ b = 0 by simp only [xin, xlt, xle, xeq, Int32.reduceToInt] at a1 a2 a3 a7 ⊢; omega)] at q; exact q) rfl) | (exact xgenK (w0 := wH0) (K := K) (fun F v => by have q := h F v; unfold an_sheet at q; rw [if_neg (show ¬ (xin a 4 ∧ b = 0) by simp only [xin, xlt, xle, xeq, Int32.reduceToInt] at a1 a2 a3 a7 ⊢; omega), if_neg (show ¬ (xin a 4 ∧ (b = 8 ∨ b = 16 ∨ b = 32) ∧ c.toInt < 0) by simp only [xin, xlt, xle, xeq, Int32.reduceToInt] at a1 a2 a3 a7 ⊢; omega), if_pos (show xin a 4 ∧ (b = 8 ∨ b = 16 ∨ b = 32) ∧ c.toInt ≤ 40 by simp only [xin, xlt, xle, xeq, Int32.reduceToInt] at a1 a2 a3 a7 ⊢; omega)] at q; exact q) rfl)
        · refine xcall (sp_begin0 _ _ fun F v => ?_)
          first | (exact xgenK (w0 := wH0) (K := K) (fun F v => by have q := h F v; unfold an_sheet at q; rw [if_pos (show xin a 4 ∧ b = 0 by simp only [xin, xlt, xle, xeq, Int32.reduceToInt] at a1 a2 a3 a7 ⊢; omega)] at q; exact q) rfl) | (exact xgenK (w0 := wH0) (K := K) (fun F v => by have q := h F v; unfold an_sheet at q; rw [if_neg (show ¬ (xin a 4 ∧ b = 0) by simp only [xin, xlt, xle, xeq, Int32.reduceToInt] at a1 a2 a3 a7 ⊢; omega), if_neg (show ¬ (xin a 4 ∧ (b = 8 ∨ b = 16 ∨ b = 32) ∧ c.toInt < 0) by simp only [xin, xlt, xle, xeq, Int32.reduceToInt] at a1 a2 a3 a7 ⊢; omega), if_pos (show xin a 4 ∧ (b = 8 ∨ b = 16 ∨ b = 32) ∧ c.toInt ≤ 40 by simp only [xin, xlt, xle, xeq, Int32.reduceToInt] at a1 a2 a3 a7 ⊢; omega)] at q; exact q) rfl)
        · refine xcall (sp_begin0 _ _ fun F v => ?_)
          first | (exact xgenK (w0 := wH0) (K := K) (fun F v => by have q := h F v; unfold an_sheet at q; rw [if_pos (show xin a 4 ∧ b = 0 by simp only [xin, xlt, xle, xeq, Int32.reduceToInt] at a1 a2 a3 a7 ⊢; omega)] at q; exact q) rfl) | (exact xgenK (w0 := wH0) (K := K) (fun F v => by have q := h F v; unfold an_sheet at q; rw [if_neg (show ¬ (xin a 4 ∧ b = 0) by simp only [xin, xlt, xle, xeq, Int32.reduceToInt] at a1 a2 a3 a7 ⊢; omega), if_neg (show ¬ (xin a 4 ∧ (b = 8 ∨ b = 16 ∨ b = 32) ∧ c.toInt < 0) by simp only [xin, xlt, xle, xeq, Int32.reduceToInt] at a1 a2 a3 a7 ⊢; omega), if_pos (show xin a 4 ∧ (b = 8 ∨ b = 16 ∨ b = 32) ∧ c.toInt ≤ 40 by simp only [xin, xlt, xle, xeq, Int32.reduceToInt] at a1 a2 a3 a7 ⊢; omega)] at q; exact q) rfl)
        · refine xcall (sp_begin0 _ _ fun F v => ?_)
          first | (exact xgenK (w0 := wH0) (K := K) (fun F v => by have q := h F v; unfold an_sheet at q; rw [if_pos (show xin a 4 ∧ b = 0 by simp only [xin, xlt, xle, xeq, Int32.reduceToInt] at a1 a2 a3 a7 ⊢; omega)] at q; exact q) rfl) | (exact xgenK (w0 := wH0) (K := K) (fun F v => by have q := h F v; unfold an_sheet at q; rw [if_neg (show ¬ (xin a 4 ∧ b = 0) by simp only [xin, xlt, xle, xeq, Int32.reduceToInt] at a1 a2 a3 a7 ⊢; omega), if_neg (show ¬ (xin a 4 ∧ (b = 8 ∨ b = 16 ∨ b = 32) ∧ c.toInt < 0) by simp only [xin, xlt, xle, xeq, Int32.reduceToInt] at a1 a2 a3 a7 ⊢; omega), if_pos (show xin a 4 ∧ (b = 8 ∨ b = 16 ∨ b = 32) ∧ c.toInt ≤ 40 by simp only [xin, xlt, xle, xeq, Int32.reduceToInt] at a1 a2 a3 a7 ⊢; omega)] at q; exact q) rfl)
    · refine br_c (fun a8 => ?_) (fun a8 => ?_)
      · refine br_n (fun a9 => ?_) (fun a9 => ?_)
        · refine br_c (fun a10 => ?_) (fun a10 => ?_)
          · refine br_c (fun a11 => ?_) (fun a11 => ?_)
            · refine ⟨vin (by simp only [xin, xlt, xle, Int32.reduceToInt] at a1 a2 a8 a9 a10 a11 ⊢; omega), ⟨fun a12 => ?_, ⟨fun a12 => ?_, ⟨fun a12 => ?_, ⟨fun a12 => ?_, trivial⟩⟩⟩⟩⟩
              · refine xcall (sp_begin0 _ _ fun F v => ?_)
                first | (exact xgenK (w0 := wH0) (K := K) (fun F v => by have q := h F v; unfold an_sheet at q; rw [if_pos (show xin a 4 ∧ b = 0 by simp only [xin, xlt, xle, xeq, Int32.reduceToInt] at a1 a2 a8 a9 a10 a11 a12 ⊢; omega)] at q; exact q) rfl) | (exact xgenK (w0 := wH0) (K := K) (fun F v => by have q := h F v; unfold an_sheet at q; rw [if_neg (show ¬ (xin a 4 ∧ b = 0) by simp only [xin, xlt, xle, xeq, Int32.reduceToInt] at a1 a2 a8 a9 a10 a11 a12 ⊢; omega), if_neg (show ¬ (xin a 4 ∧ (b = 8 ∨ b = 16 ∨ b = 32) ∧ c.toInt < 0) by simp only [xin, xlt, xle, xeq, Int32.reduceToInt] at a1 a2 a8 a9 a10 a11 a12 ⊢; omega), if_pos (show xin a 4 ∧ (b = 8 ∨ b = 16 ∨ b = 32) ∧ c.toInt ≤ 40 by simp only [xin, xlt, xle, xeq, Int32.reduceToInt] at a1 a2 a8 a9 a10 a11 a12 ⊢; omega)] at q; exact q) rfl)
              · refine xcall (sp_begin0 _ _ fun F v => ?_)
                first | (exact xgenK (w0 := wH0) (K := K) (fun F v => by have q := h F v; unfold an_sheet at q; rw [if_pos (show xin a 4 ∧ b = 0 by simp only [xin, xlt, xle, xeq, Int32.reduceToInt] at a1 a2 a8 a9 a10 a11 a12 ⊢; omega)] at q; exact q) rfl) | (exact xgenK (w0 := wH0) (K := K) (fun F v => by have q := h F v; unfold an_sheet at q; rw [if_neg (show ¬ (xin a 4 ∧ b = 0) by simp only [xin, xlt, xle, xeq, Int32.reduceToInt] at a1 a2 a8 a9 a10 a11 a12 ⊢; omega), if_neg (show ¬ (xin a 4 ∧ (b = 8 ∨ b = 16 ∨ b = 32) ∧ c.toInt < 0) by simp only [xin, xlt, xle, xeq, Int32.reduceToInt] at a1 a2 a8 a9 a10 a11 a12 ⊢; omega), if_pos (show xin a 4 ∧ (b = 8 ∨ b = 16 ∨ b = 32) ∧ c.toInt ≤ 40 by simp only [xin, xlt, xle, xeq, Int32.reduceToInt] at a1 a2 a8 a9 a10 a11 a12 ⊢; omega)] at q; exact q) rfl)
              · refine xcall (sp_begin0 _ _ fun F v => ?_)
                first | (exact xgenK (w0 := wH0) (K := K) (fun F v => by have q := h F v; unfold an_sheet at q; rw [if_pos (show xin a 4 ∧ b = 0 by simp only [xin, xlt, xle, xeq, Int32.reduceToInt] at a1 a2 a8 a9 a10 a11 a12 ⊢; omega)] at q; exact q) rfl) | (exact xgenK (w0 := wH0) (K := K) (fun F v => by have q := h F v; unfold an_sheet at q; rw [if_neg (show ¬ (xin a 4 ∧ b = 0) by simp only [xin, xlt, xle, xeq, Int32.reduceToInt] at a1 a2 a8 a9 a10 a11 a12 ⊢; omega), if_neg (show ¬ (xin a 4 ∧ (b = 8 ∨ b = 16 ∨ b = 32) ∧ c.toInt < 0) by simp only [xin, xlt, xle, xeq, Int32.reduceToInt] at a1 a2 a8 a9 a10 a11 a12 ⊢; omega), if_pos (show xin a 4 ∧ (b = 8 ∨ b = 16 ∨ b = 32) ∧ c.toInt ≤ 40 by simp only [xin, xlt, xle, xeq, Int32.reduceToInt] at a1 a2 a8 a9 a10 a11 a12 ⊢; omega)] at q; exact q) rfl)
              · refine xcall (sp_begin0 _ _ fun F v => ?_)
                first | (exact xgenK (w0 := wH0) (K := K) (fun F v => by have q := h F v; unfold an_sheet at q; rw [if_pos (show xin a 4 ∧ b = 0 by simp only [xin, xlt, xle, xeq, Int32.reduceToInt] at a1 a2 a8 a9 a10 a11 a12 ⊢; omega)] at q; exact q) rfl) | (exact xgenK (w0 := wH0) (K := K) (fun F v => by have q := h F v; unfold an_sheet at q; rw [if_neg (show ¬ (xin a 4 ∧ b = 0) by simp only [xin, xlt, xle, xeq, Int32.reduceToInt] at a1 a2 a8 a9 a10 a11 a12 ⊢; omega), if_neg (show ¬ (xin a 4 ∧ (b = 8 ∨ b = 16 ∨ b = 32) ∧ c.toInt < 0) by simp only [xin, xlt, xle, xeq, Int32.reduceToInt] at a1 a2 a8 a9 a10 a11 a12 ⊢; omega), if_pos (show xin a 4 ∧ (b = 8 ∨ b = 16 ∨ b = 32) ∧ c.toInt ≤ 40 by simp only [xin, xlt, xle, xeq, Int32.reduceToInt] at a1 a2 a8 a9 a10 a11 a12 ⊢; omega)] at q; exact q) rfl)
            · refine xcall (sp_error rfl 1 (by decide) fun F v => ?_)
              exact xgenK (w0 := wH0) (K := K) (fun F v => by have q := h F v; unfold an_sheet at q; rw [if_neg (show ¬ (xin a 4 ∧ b = 0) by simp only [xin, xlt, xle, xeq, Int32.reduceToInt] at a1 a2 a8 a9 a10 a11 ⊢; omega), if_neg (show ¬ (xin a 4 ∧ (b = 8 ∨ b = 16 ∨ b = 32) ∧ c.toInt < 0) by simp only [xin, xlt, xle, xeq, Int32.reduceToInt] at a1 a2 a8 a9 a10 a11 ⊢; omega), if_neg (show ¬ (xin a 4 ∧ (b = 8 ∨ b = 16 ∨ b = 32) ∧ c.toInt ≤ 40) by simp only [xin, xlt, xle, xeq, Int32.reduceToInt] at a1 a2 a8 a9 a10 a11 ⊢; omega)] at q; exact q) rfl
          · refine xcall (sp_error rfl 3 (by decide) fun F v => ?_)
            exact xgenK (w0 := wH0) (K := K) (fun F v => by have q := h F v; unfold an_sheet at q; rw [if_neg (show ¬ (xin a 4 ∧ b = 0) by simp only [xin, xlt, xle, xeq, Int32.reduceToInt] at a1 a2 a8 a9 a10 ⊢; omega), if_pos (show xin a 4 ∧ (b = 8 ∨ b = 16 ∨ b = 32) ∧ c.toInt < 0 by simp only [xin, xlt, xle, xeq, Int32.reduceToInt] at a1 a2 a8 a9 a10 ⊢; omega)] at q; exact q) rfl
        · refine ⟨vin (by simp only [xin, xlt, xle, Int32.reduceToInt] at a1 a2 a8 a9 ⊢; omega), ⟨fun a13 => ?_, ⟨fun a13 => ?_, ⟨fun a13 => ?_, ⟨fun a13 => ?_, trivial⟩⟩⟩⟩⟩
          · refine xcall (sp_begin0 _ _ fun F v => ?_)
            first | (exact xgenK (w0 := wH0) (K := K) (fun F v => by have q := h F v; unfold an_sheet at q; rw [if_pos (show xin a 4 ∧ b = 0 by simp only [xin, xlt, xle, xeq, Int32.reduceToInt] at a1 a2 a8 a9 a13 ⊢; omega)] at q; exact q) rfl) | (exact xgenK (w0 := wH0) (K := K) (fun F v => by have q := h F v; unfold an_sheet at q; rw [if_neg (show ¬ (xin a 4 ∧ b = 0) by simp only [xin, xlt, xle, xeq, Int32.reduceToInt] at a1 a2 a8 a9 a13 ⊢; omega), if_neg (show ¬ (xin a 4 ∧ (b = 8 ∨ b = 16 ∨ b = 32) ∧ c.toInt < 0) by simp only [xin, xlt, xle, xeq, Int32.reduceToInt] at a1 a2 a8 a9 a13 ⊢; omega), if_pos (show xin a 4 ∧ (b = 8 ∨ b = 16 ∨ b = 32) ∧ c.toInt ≤ 40 by simp only [xin, xlt, xle, xeq, Int32.reduceToInt] at a1 a2 a8 a9 a13 ⊢; omega)] at q; exact q) rfl)
          · refine xcall (sp_begin0 _ _ fun F v => ?_)
            first | (exact xgenK (w0 := wH0) (K := K) (fun F v => by have q := h F v; unfold an_sheet at q; rw [if_pos (show xin a 4 ∧ b = 0 by simp only [xin, xlt, xle, xeq, Int32.reduceToInt] at a1 a2 a8 a9 a13 ⊢; omega)] at q; exact q) rfl) | (exact xgenK (w0 := wH0) (K := K) (fun F v => by have q := h F v; unfold an_sheet at q; rw [if_neg (show ¬ (xin a 4 ∧ b = 0) by simp only [xin, xlt, xle, xeq, Int32.reduceToInt] at a1 a2 a8 a9 a13 ⊢; omega), if_neg (show ¬ (xin a 4 ∧ (b = 8 ∨ b = 16 ∨ b = 32) ∧ c.toInt < 0) by simp only [xin, xlt, xle, xeq, Int32.reduceToInt] at a1 a2 a8 a9 a13 ⊢; omega), if_pos (show xin a 4 ∧ (b = 8 ∨ b = 16 ∨ b = 32) ∧ c.toInt ≤ 40 by simp only [xin, xlt, xle, xeq, Int32.reduceToInt] at a1 a2 a8 a9 a13 ⊢; omega)] at q; exact q) rfl)
          · refine xcall (sp_begin0 _ _ fun F v => ?_)
            first | (exact xgenK (w0 := wH0) (K := K) (fun F v => by have q := h F v; unfold an_sheet at q; rw [if_pos (show xin a 4 ∧ b = 0 by simp only [xin, xlt, xle, xeq, Int32.reduceToInt] at a1 a2 a8 a9 a13 ⊢; omega)] at q; exact q) rfl) | (exact xgenK (w0 := wH0) (K := K) (fun F v => by have q := h F v; unfold an_sheet at q; rw [if_neg (show ¬ (xin a 4 ∧ b = 0) by simp only [xin, xlt, xle, xeq, Int32.reduceToInt] at a1 a2 a8 a9 a13 ⊢; omega), if_neg (show ¬ (xin a 4 ∧ (b = 8 ∨ b = 16 ∨ b = 32) ∧ c.toInt < 0) by simp only [xin, xlt, xle, xeq, Int32.reduceToInt] at a1 a2 a8 a9 a13 ⊢; omega), if_pos (show xin a 4 ∧ (b = 8 ∨ b = 16 ∨ b = 32) ∧ c.toInt ≤ 40 by simp only [xin, xlt, xle, xeq, Int32.reduceToInt] at a1 a2 a8 a9 a13 ⊢; omega)] at q; exact q) rfl)
          · refine xcall (sp_begin0 _ _ fun F v => ?_)
            first | (exact xgenK (w0 := wH0) (K := K) (fun F v => by have q := h F v; unfold an_sheet at q; rw [if_pos (show xin a 4 ∧ b = 0 by simp only [xin, xlt, xle, xeq, Int32.reduceToInt] at a1 a2 a8 a9 a13 ⊢; omega)] at q; exact q) rfl) | (exact xgenK (w0 := wH0) (K := K) (fun F v => by have q := h F v; unfold an_sheet at q; rw [if_neg (show ¬ (xin a 4 ∧ b = 0) by simp only [xin, xlt, xle, xeq, Int32.reduceToInt] at a1 a2 a8 a9 a13 ⊢; omega), if_neg (show ¬ (xin a 4 ∧ (b = 8 ∨ b = 16 ∨ b = 32) ∧ c.toInt < 0) by simp only [xin, xlt, xle, xeq, Int32.reduceToInt] at a1 a2 a8 a9 a13 ⊢; omega), if_pos (show xin a 4 ∧ (b = 8 ∨ b = 16 ∨ b = 32) ∧ c.toInt ≤ 40 by simp only [xin, xlt, xle, xeq, Int32.reduceToInt] at a1 a2 a8 a9 a13 ⊢; omega)] at q; exact q) rfl)
      · refine br_c (fun a14 => ?_) (fun a14 => ?_)
        · refine br_n (fun a15 => ?_) (fun a15 => ?_)
          · refine br_c (fun a16 => ?_) (fun a16 => ?_)
            · refine br_c (fun a17 => ?_) (fun a17 => ?_)
              · refine ⟨vin (by simp only [xin, xlt, xle, Int32.reduceToInt] at a1 a2 a8 a14 a15 a16 a17 ⊢; omega), ⟨fun a18 => ?_, ⟨fun a18 => ?_, ⟨fun a18 => ?_, ⟨fun a18 => ?_, trivial⟩⟩⟩⟩⟩
                · refine xcall (sp_begin0 _ _ fun F v => ?_)
                  first | (exact xgenK (w0 := wH0) (K := K) (fun F v => by have q := h F v; unfold an_sheet at q; rw [if_pos (show xin a 4 ∧ b = 0 by simp only [xin, xlt, xle, xeq, Int32.reduceToInt] at a1 a2 a8 a14 a15 a16 a17 a18 ⊢; omega)] at q; exact q) rfl) | (exact xgenK (w0 := wH0) (K := K) (fun F v => by have q := h F v; unfold an_sheet at q; rw [if_neg (show ¬ (xin a 4 ∧ b = 0) by simp only [xin, xlt, xle, xeq, Int32.reduceToInt] at a1 a2 a8 a14 a15 a16 a17 a18 ⊢; omega), if_neg (show ¬ (xin a 4 ∧ (b = 8 ∨ b = 16 ∨ b = 32) ∧ c.toInt < 0) by simp only [xin, xlt, xle, xeq, Int32.reduceToInt] at a1 a2 a8 a14 a15 a16 a17 a18 ⊢; omega), if_pos (show xin a 4 ∧ (b = 8 ∨ b = 16 ∨ b = 32) ∧ c.toInt ≤ 40 by simp only [xin, xlt, xle, xeq, Int32.reduceToInt] at a1 a2 a8 a14 a15 a16 a17 a18 ⊢; omega)] at q; exact q) rfl)
                · refine xcall (sp_begin0 _ _ fun F v => ?_)
                  first | (exact xgenK (w0 := wH0) (K := K) (fun F v => by have q := h F v; unfold an_sheet at q; rw [if_pos (show xin a 4 ∧ b = 0 by simp only [xin, xlt, xle, xeq, Int32.reduceToInt] at a1 a2 a8 a14 a15 a16 a17 a18 ⊢; omega)] at q; exact q) rfl) | (exact xgenK (w0 := wH0) (K := K) (fun F v => by have q := h F v; unfold an_sheet at q; rw [if_neg (show ¬ (xin a 4 ∧ b = 0) by simp only [xin, xlt, xle, xeq, Int32.reduceToInt] at a1 a2 a8 a14 a15 a16 a17 a18 ⊢; omega), if_neg (show ¬ (xin a 4 ∧ (b = 8 ∨ b = 16 ∨ b = 32) ∧ c.toInt < 0) by simp only [xin, xlt, xle, xeq, Int32.reduceToInt] at a1 a2 a8 a14 a15 a16 a17 a18 ⊢; omega), if_pos (show xin a 4 ∧ (b = 8 ∨ b = 16 ∨ b = 32) ∧ c.toInt ≤ 40 by simp only [xin, xlt, xle, xeq, Int32.reduceToInt] at a1 a2 a8 a14 a15 a16 a17 a18 ⊢; omega)] at q; exact q) rfl)
                · refine xcall (sp_begin0 _ _ fun F v => ?_)
                  first | (exact xgenK (w0 := wH0) (K := K) (fun F v => by have q := h F v; unfold an_sheet at q; rw [if_pos (show xin a 4 ∧ b = 0 by simp only [xin, xlt, xle, xeq, Int32.reduceToInt] at a1 a2 a8 a14 a15 a16 a17 a18 ⊢; omega)] at q; exact q) rfl) | (exact xgenK (w0 := wH0) (K := K) (fun F v => by have q := h F v; unfold an_sheet at q; rw [if_neg (show ¬ (xin a 4 ∧ b = 0) by simp only [xin, xlt, xle, xeq, Int32.reduceToInt] at a1 a2 a8 a14 a15 a16 a17 a18 ⊢; omega), if_neg (show ¬ (xin a 4 ∧ (b = 8 ∨ b = 16 ∨ b = 32) ∧ c.toInt < 0) by simp only [xin, xlt, xle, xeq, Int32.reduceToInt] at a1 a2 a8 a14 a15 a16 a17 a18 ⊢; omega), if_pos (show xin a 4 ∧ (b = 8 ∨ b = 16 ∨ b = 32) ∧ c.toInt ≤ 40 by simp only [xin, xlt, xle, xeq, Int32.reduceToInt] at a1 a2 a8 a14 a15 a16 a17 a18 ⊢; omega)] at q; exact q) rfl)
                · refine xcall (sp_begin0 _ _ fun F v => ?_)
                  first | (exact xgenK (w0 := wH0) (K := K) (fun F v => by have q := h F v; unfold an_sheet at q; rw [if_pos (show xin a 4 ∧ b = 0 by simp only [xin, xlt, xle, xeq, Int32.reduceToInt] at a1 a2 a8 a14 a15 a16 a17 a18 ⊢; omega)] at q; exact q) rfl) | (exact xgenK (w0 := wH0) (K := K) (fun F v => by have q := h F v; unfold an_sheet at q; rw [if_neg (show ¬ (xin a 4 ∧ b = 0) by simp only [xin, xlt, xle, xeq, Int32.reduceToInt] at a1 a2 a8 a14 a15 a16 a17 a18 ⊢; omega), if_neg (show ¬ (xin a 4 ∧ (b = 8 ∨ b = 16 ∨ b = 32) ∧ c.toInt < 0) by simp only [xin, xlt, xle, xeq, Int32.reduceToInt] at a1 a2 a8 a14 a15 a16 a17 a18 ⊢; omega), if_pos (show xin a 4 ∧ (b = 8 ∨ b = 16 ∨ b = 32) ∧ c.toInt ≤ 40 by simp only [xin, xlt, xle, xeq, Int32.reduceToInt] at a1 a2 a8 a14 a15 a16 a17 a18 ⊢; omega)] at q; exact q) rfl)
              · refine xcall (sp_error rfl 1 (by decide) fun F v => ?_)
                exact xgenK (w0 := wH0) (K := K) (fun F v => by have q := h F v; unfold an_sheet at q; rw [if_neg (show ¬ (xin a 4 ∧ b = 0) by simp only [xin, xlt, xle, xeq, Int32.reduceToInt] at a1 a2 a8 a14 a15 a16 a17 ⊢; omega), if_neg (show ¬ (xin a 4 ∧ (b = 8 ∨ b = 16 ∨ b = 32) ∧ c.toInt < 0) by simp only [xin, xlt, xle, xeq, Int32.reduceToInt] at a1 a2 a8 a14 a15 a16 a17 ⊢; omega), if_neg (show ¬ (xin a 4 ∧ (b = 8 ∨ b = 16 ∨ b = 32) ∧ c.toInt ≤ 40) by simp only [xin, xlt, xle, xeq, Int32.reduceToInt] at a1 a2 a8 a14 a15 a16 a17 ⊢; omega)] at q; exact q) rfl
            · refine xcall (sp_error rfl 3 (by decide) fun F v => ?_)
              exact xgenK (w0 := wH0) (K := K) (fun F v => by have q := h F v; unfold an_sheet at q; rw [if_neg (show ¬ (xin a 4 ∧ b = 0) by simp only [xin, xlt, xle, xeq, Int32.reduceToInt] at a1 a2 a8 a14 a15 a16 ⊢; omega), if_pos (show xin a 4 ∧ (b = 8 ∨ b = 16 ∨ b = 32) ∧ c.toInt < 0 by simp only [xin, xlt, xle, xeq, Int32.reduceToInt] at a1 a2 a8 a14 a15 a16 ⊢; omega)] at q; exact q) rfl
          · refine ⟨vin (by simp only [xin, xlt, xle, Int32.reduceToInt] at a1 a2 a8 a14 a15 ⊢; omega), ⟨fun a19 => ?_, ⟨fun a19 => ?_, ⟨fun a19 => ?_, ⟨fun a19 => ?_, trivial⟩⟩⟩⟩⟩
            · refine xcall (sp_begin0 _ _ fun F v => ?_)
              first | (exact xgenK (w0 := wH0) (K := K) (fun F v => by have q := h F v; unfold an_sheet at q; rw [if_pos (show xin a 4 ∧ b = 0 by simp only [xin, xlt, xle, xeq, Int32.reduceToInt] at a1 a2 a8 a14 a15 a19 ⊢; omega)] at q; exact q) rfl) | (exact xgenK (w0 := wH0) (K := K) (fun F v => by have q := h F v; unfold an_sheet at q; rw [if_neg (show ¬ (xin a 4 ∧ b = 0) by simp only [xin, xlt, xle, xeq, Int32.reduceToInt] at a1 a2 a8 a14 a15 a19 ⊢; omega), if_neg (show ¬ (xin a 4 ∧ (b = 8 ∨ b = 16 ∨ b = 32) ∧ c.toInt < 0) by simp only [xin, xlt, xle, xeq, Int32.reduceToInt] at a1 a2 a8 a14 a15 a19 ⊢; omega), if_pos (show xin a 4 ∧ (b = 8 ∨ b = 16 ∨ b = 32) ∧ c.toInt ≤ 40 by simp only [xin, xlt, xle, xeq, Int32.reduceToInt] at a1 a2 a8 a14 a15 a19 ⊢; omega)] at q; exact q) rfl)
            · refine xcall (sp_begin0 _ _ fun F v => ?_)
              first | (exact xgenK (w0 := wH0) (K := K) (fun F v => by have q := h F v; unfold an_sheet at q; rw [if_pos (show xin a 4 ∧ b = 0 by simp only [xin, xlt, xle, xeq, Int32.reduceToInt] at a1 a2 a8 a14 a15 a19 ⊢; omega)] at q; exact q) rfl) | (exact xgenK (w0 := wH0) (K := K) (fun F v => by have q := h F v; unfold an_sheet at q; rw [if_neg (show ¬ (xin a 4 ∧ b = 0) by simp only [xin, xlt, xle, xeq, Int32.reduceToInt] at a1 a2 a8 a14 a15 a19 ⊢; omega), if_neg (show ¬ (xin a 4 ∧ (b = 8 ∨ b = 16 ∨ b = 32) ∧ c.toInt < 0) by simp only [xin, xlt, xle, xeq, Int32.reduceToInt] at a1 a2 a8 a14 a15 a19 ⊢; omega), if_pos (show xin a 4 ∧ (b = 8 ∨ b = 16 ∨ b = 32) ∧ c.toInt ≤ 40 by simp only [xin, xlt, xle, xeq, Int32.reduceToInt] at a1 a2 a8 a14 a15 a19 ⊢; omega)] at q; exact q) rfl)
            · refine xcall (sp_begin0 _ _ fun F v => ?_)
              first | (exact xgenK (w0 := wH0) (K := K) (fun F v => by have q := h F v; unfold an_sheet at q; rw [if_pos (show xin a 4 ∧ b = 0 by simp only [xin, xlt, xle, xeq, Int32.reduceToInt] at a1 a2 a8 a14 a15 a19 ⊢; omega)] at q; exact q) rfl) | (exact xgenK (w0 := wH0) (K := K) (fun F v => by have q := h F v; unfold an_sheet at q; rw [if_neg (show ¬ (xin a 4 ∧ b = 0) by simp only [xin, xlt, xle, xeq, Int32.reduceToInt] at a1 a2 a8 a14 a15 a19 ⊢; omega), if_neg (show ¬ (xin a 4 ∧ (b = 8 ∨ b = 16 ∨ b = 32) ∧ c.toInt < 0) by simp only [xin, xlt, xle, xeq, Int32.reduceToInt] at a1 a2 a8 a14 a15 a19 ⊢; omega), if_pos (show xin a 4 ∧ (b = 8 ∨ b = 16 ∨ b = 32) ∧ c.toInt ≤ 40 by simp only [xin, xlt, xle, xeq, Int32.reduceToInt] at a1 a2 a8 a14 a15 a19 ⊢; omega)] at q; exact q) rfl)
            · refine xcall (sp_begin0 _ _ fun F v => ?_)
              first | (exact xgenK (w0 := wH0) (K := K) (fun F v => by have q := h F v; unfold an_sheet at q; rw [if_pos (show xin a 4 ∧ b = 0 by simp only [xin, xlt, xle, xeq, Int32.reduceToInt] at a1 a2 a8 a14 a15 a19 ⊢; omega)] at q; exact q) rfl) | (exact xgenK (w0 := wH0) (K := K) (fun F v => by have q := h F v; unfold an_sheet at q; rw [if_neg (show ¬ (xin a 4 ∧ b = 0) by simp only [xin, xlt, xle, xeq, Int32.reduceToInt] at a1 a2 a8 a14 a15 a19 ⊢; omega), if_neg (show ¬ (xin a 4 ∧ (b = 8 ∨ b = 16 ∨ b = 32) ∧ c.toInt < 0) by simp only [xin, xlt, xle, xeq, Int32.reduceToInt] at a1 a2 a8 a14 a15 a19 ⊢; omega), if_pos (show xin a 4 ∧ (b = 8 ∨ b = 16 ∨ b = 32) ∧ c.toInt ≤ 40 by simp only [xin, xlt, xle, xeq, Int32.reduceToInt] at a1 a2 a8 a14 a15 a19 ⊢; omega)] at q; exact q) rfl)
        · refine br_c (fun a20 => ?_) (fun a20 => ?_)
          · refine br_n (fun a21 => ?_) (fun a21 => ?_)
            · refine br_c (fun a22 => ?_) (fun a22 => ?_)
              · refine br_c (fun a23 => ?_) (fun a23 => ?_)
                · refine ⟨vin (by simp only [xin, xlt, xle, Int32.reduceToInt] at a1 a2 a8 a14 a20 a21 a22 a23 ⊢; omega), ⟨fun a24 => ?_, ⟨fun a24 => ?_, ⟨fun a24 => ?_, ⟨fun a24 => ?_, trivial⟩⟩⟩⟩⟩
                  · refine xcall (sp_begin0 _ _ fun F v => ?_)
                    first | (exact xgenK (w0 := wH0) (K := K) (fun F v => by have q := h F v; unfold an_sheet at q; rw [if_pos (show xin a 4 ∧ b = 0 by simp only [xin, xlt, xle, xeq, Int32.reduceToInt] at a1 a2 a8 a14 a20 a21 a22 a23 a24 ⊢; omega)] at q; exact q) rfl) | (exact xgenK (w0 := wH0) (K := K) (fun F v => by have q := h F v; unfold an_sheet at q; rw [if_neg (show ¬ (xin a 4 ∧ b = 0) by simp only [xin, xlt, xle, xeq, Int32.reduceToInt] at a1 a2 a8 a14 a20 a21 a22 a23 a24 ⊢; omega), if_neg (show ¬ (xin a 4 ∧ (b = 8 ∨ b = 16 ∨ b = 32) ∧ c.toInt < 0) by simp only [xin, xlt, xle, xeq, Int32.reduceToInt] at a1 a2 a8 a14 a20 a21 a22 a23 a24 ⊢; omega), if_pos (show xin a 4 ∧ (b = 8 ∨ b = 16 ∨ b = 32) ∧ c.toInt ≤ 40 by simp only [xin, xlt, xle, xeq, Int32.reduceToInt] at a1 a2 a8 a14 a20 a21 a22 a23 a24 ⊢; omega)] at q; exact q) rfl)
                  · refine xcall (sp_begin0 _ _ fun F v => ?_)
                    first | (exact xgenK (w0 := wH0) (K := K) (fun F v => by have q := h F v; unfold an_sheet at q; rw [if_pos (show xin a 4 ∧ b = 0 by simp only [xin, xlt, xle, xeq, Int32.reduceToInt] at a1 a2 a8 a14 a20 a21 a22 a23 a24 ⊢; omega)] at q; exact q) rfl) | (exact xgenK (w0 := wH0) (K := K) (fun F v => by have q := h F v; unfold an_sheet at q; rw [if_neg (show ¬ (xin a 4 ∧ b = 0) by simp only [xin, xlt, xle, xeq, Int32.reduceToInt] at a1 a2 a8 a14 a20 a21 a22 a23 a24 ⊢; omega), if_neg (show ¬ (xin a 4 ∧ (b = 8 ∨ b = 16 ∨ b = 32) ∧ c.toInt < 0) by simp only [xin, xlt, xle, xeq, Int32.reduceToInt] at a1 a2 a8 a14 a20 a21 a22 a23 a24 ⊢; omega), if_pos (show xin a 4 ∧ (b = 8 ∨ b = 16 ∨ b = 32) ∧ c.toInt ≤ 40 by simp only [xin, xlt, xle, xeq, Int32.reduceToInt] at a1 a2 a8 a14 a20 a21 a22 a23 a24 ⊢; omega)] at q; exact q) rfl)
                  · refine xcall (sp_begin0 _ _ fun F v => ?_)
                    first | (exact xgenK (w0 := wH0) (K := K) (fun F v => by have q := h F v; unfold an_sheet at q; rw [if_pos (show xin a 4 ∧ b = 0 by simp only [xin, xlt, xle, xeq, Int32.reduceToInt] at a1 a2 a8 a14 a20 a21 a22 a23 a24 ⊢; omega)] at q; exact q) rfl) | (exact xgenK (w0 := wH0) (K := K) (fun F v => by have q := h F v; unfold an_sheet at q; rw [if_neg (show ¬ (xin a 4 ∧ b = 0) by simp only [xin, xlt, xle, xeq, Int32.reduceToInt] at a1 a2 a8 a14 a20 a21 a22 a23 a24 ⊢; omega), if_neg (show ¬ (xin a 4 ∧ (b = 8 ∨ b = 16 ∨ b = 32) ∧ c.toInt < 0) by simp only [xin, xlt, xle, xeq, Int32.reduceToInt] at a1 a2 a8 a14 a20 a21 a22 a23 a24 ⊢; omega), if_pos (show xin a 4 ∧ (b = 8 ∨ b = 16 ∨ b = 32) ∧ c.toInt ≤ 40 by simp only [xin, xlt, xle, xeq, Int32.reduceToInt] at a1 a2 a8 a14 a20 a21 a22 a23 a24 ⊢; omega)] at q; exact q) rfl)
                  · refine xcall (sp_begin0 _ _ fun F v => ?_)
                    first | (exact xgenK (w0 := wH0) (K := K) (fun F v => by have q := h F v; unfold an_sheet at q; rw [if_pos (show xin a 4 ∧ b = 0 by simp only [xin, xlt, xle, xeq, Int32.reduceToInt] at a1 a2 a8 a14 a20 a21 a22 a23 a24 ⊢; omega)] at q; exact q) rfl) | (exact xgenK (w0 := wH0) (K := K) (fun F v => by have q := h F v; unfold an_sheet at q; rw [if_neg (show ¬ (xin a 4 ∧ b = 0) by simp only [xin, xlt, xle, xeq, Int32.reduceToInt] at a1 a2 a8 a14 a20 a21 a22 a23 a24 ⊢; omega), if_neg (show ¬ (xin a 4 ∧ (b = 8 ∨ b = 16 ∨ b = 32) ∧ c.toInt < 0) by simp only [xin, xlt, xle, xeq, Int32.reduceToInt] at a1 a2 a8 a14 a20 a21 a22 a23 a24 ⊢; omega), if_pos (show xin a 4 ∧ (b = 8 ∨ b = 16 ∨ b = 32) ∧ c.toInt ≤ 40 by simp only [xin, xlt, xle, xeq, Int32.reduceToInt] at a1 a2 a8 a14 a20 a21 a22 a23 a24 ⊢; omega)] at q; exact q) rfl)
                · refine xcall (sp_error rfl 1 (by decide) fun F v => ?_)
                  exact xgenK (w0 := wH0) (K := K) (fun F v => by have q := h F v; unfold an_sheet at q; rw [if_neg (show ¬ (xin a 4 ∧ b = 0) by simp only [xin, xlt, xle, xeq, Int32.reduceToInt] at a1 a2 a8 a14 a20 a21 a22 a23 ⊢; omega), if_neg (show ¬ (xin a 4 ∧ (b = 8 ∨ b = 16 ∨ b = 32) ∧ c.toInt < 0) by simp only [xin, xlt, xle, xeq, Int32.reduceToInt] at a1 a2 a8 a14 a20 a21 a22 a23 ⊢; omega), if_neg (show ¬ (xin a 4 ∧ (b = 8 ∨ b = 16 ∨ b = 32) ∧ c.toInt ≤ 40) by simp only [xin, xlt, xle, xeq, Int32.reduceToInt] at a1 a2 a8 a14 a20 a21 a22 a23 ⊢; omega)] at q; exact q) rfl
              · refine xcall (sp_error rfl 3 (by decide) fun F v => ?_)
                exact xgenK (w0 := wH0) (K := K) (fun F v => by have q := h F v; unfold an_sheet at q; rw [if_neg (show ¬ (xin a 4 ∧ b = 0) by simp only [xin, xlt, xle, xeq, Int32.reduceToInt] at a1 a2 a8 a14 a20 a21 a22 ⊢; omega), if_pos (show xin a 4 ∧ (b = 8 ∨ b = 16 ∨ b = 32) ∧ c.toInt < 0 by simp only [xin, xlt, xle, xeq, Int32.reduceToInt] at a1 a2 a8 a14 a20 a21 a22 ⊢; omega)] at q; exact q) rfl
            · refine ⟨vin (by simp only [xin, xlt, xle, Int32.reduceToInt] at a1 a2 a8 a14 a20 a21 ⊢; omega), ⟨fun a25 => ?_, ⟨fun a25 => ?_, ⟨fun a25 => ?_, ⟨fun a25 => ?_, trivial⟩⟩⟩⟩⟩
              · refine xcall (sp_begin0 _ _ fun F v => ?_)
                first | (exact xgenK (w0 := wH0) (K := K) (fun F v => by have q := h F v; unfold an_sheet at q; rw [if_pos (show xin a 4 ∧ b = 0 by simp only [xin, xlt, xle, xeq, Int32.reduceToInt] at a1 a2 a8 a14 a20 a21 a25 ⊢; omega)] at q; exact q) rfl) | (exact xgenK (w0 := wH0) (K := K) (fun F v => by have q := h F v; unfold an_sheet at q; rw [if_neg (show ¬ (xin a 4 ∧ b = 0) by simp only [xin, xlt, xle, xeq, Int32.reduceToInt] at a1 a2 a8 a14 a20 a21 a25 ⊢; omega), if_neg (show ¬ (xin a 4 ∧ (b = 8 ∨ b = 16 ∨ b = 32) ∧ c.toInt < 0) by simp only [xin, xlt, xle, xeq, Int32.reduceToInt] at a1 a2 a8 a14 a20 a21 a25 ⊢; omega), if_pos (show xin a 4 ∧ (b = 8 ∨ b = 16 ∨ b = 32) ∧ c.toInt ≤ 40 by simp only [xin, xlt, xle, xeq, Int32.reduceToInt] at a1 a2 a8 a14 a20 a21 a25 ⊢; omega)] at q; exact q) rfl)
              · refine xcall (sp_begin0 _ _ fun F v => ?_)
                first | (exact xgenK (w0 := wH0) (K := K) (fun F v => by have q := h F v; unfold an_sheet at q; rw [if_pos (show xin a 4 ∧ b = 0 by simp only [xin, xlt, xle, xeq, Int32.reduceToInt] at a1 a2 a8 a14 a20 a21 a25 ⊢; omega)] at q; exact q) rfl) | (exact xgenK (w0 := wH0) (K := K) (fun F v => by have q := h F v; unfold an_sheet at q; rw [if_neg (show ¬ (xin a 4 ∧ b = 0) by simp only [xin, xlt, xle, xeq, Int32.reduceToInt] at a1 a2 a8 a14 a20 a21 a25 ⊢; omega), if_neg (show ¬ (xin a 4 ∧ (b = 8 ∨ b = 16 ∨ b = 32) ∧ c.toInt < 0) by simp only [xin, xlt, xle, xeq, Int32.reduceToInt] at a1 a2 a8 a14 a20 a21 a25 ⊢; omega), if_pos (show xin a 4 ∧ (b = 8 ∨ b = 16 ∨ b = 32) ∧ c.toInt ≤ 40 by simp only [xin, xlt, xle, xeq, Int32.reduceToInt] at a1 a2 a8 a14 a20 a21 a25 ⊢; omega)] at q; exact q) rfl)
              · refine xcall (sp_begin0 _ _ fun F v => ?_)
                first | (exact xgenK (w0 := wH0) (K := K) (fun F v => by have q := h F v; unfold an_sheet at q; rw [if_pos (show xin a 4 ∧ b = 0 by simp only [xin, xlt, xle, xeq, Int32.reduceToInt] at a1 a2 a8 a14 a20 a21 a25 ⊢; omega)] at q; exact q) rfl) | (exact xgenK (w0 := wH0) (K := K) (fun F v => by have q := h F v; unfold an_sheet at q; rw [if_neg (show ¬ (xin a 4 ∧ b = 0) by simp only [xin, xlt, xle, xeq, Int32.reduceToInt] at a1 a2 a8 a14 a20 a21 a25 ⊢; omega), if_neg (show ¬ (xin a 4 ∧ (b = 8 ∨ b = 16 ∨ b = 32) ∧ c.toInt < 0) by simp only [xin, xlt, xle, xeq, Int32.reduceToInt] at a1 a2 a8 a14 a20 a21 a25 ⊢; omega), if_pos (show xin a 4 ∧ (b = 8 ∨ b = 16 ∨ b = 32) ∧ c.toInt ≤ 40 by simp only [xin, xlt, xle, xeq, Int32.reduceToInt] at a1 a2 a8 a14 a20 a21 a25 ⊢; omega)] at q; exact q) rfl)
              · refine xcall (sp_begin0 _ _ fun F v => ?_)
                first | (exact xgenK (w0 := wH0) (K := K) (fun F v => by have q := h F v; unfold an_sheet at q; rw [if_pos (show xin a 4 ∧ b = 0 by simp only [xin, xlt, xle, xeq, Int32.reduceToInt] at a1 a2 a8 a14 a20 a21 a25 ⊢; omega)] at q; exact q) rfl) | (exact xgenK (w0 := wH0) (K := K) (fun F v => by have q := h F v; unfold an_sheet at q; rw [if_neg (show ¬ (xin a 4 ∧ b = 0) by simp only [xin, xlt, xle, xeq, Int32.reduceToInt] at a1 a2 a8 a14 a20 a21 a25 ⊢; omega), if_neg (show ¬ (xin a 4 ∧ (b = 8 ∨ b = 16 ∨ b = 32) ∧ c.toInt < 0) by simp only [xin, xlt, xle, xeq, Int32.reduceToInt] at a1 a2 a8 a14 a20 a21 a25 ⊢; omega), if_pos (show xin a 4 ∧ (b = 8 ∨ b = 16 ∨ b = 32) ∧ c.toInt ≤ 40 by simp only [xin, xlt, xle, xeq, Int32.reduceToInt] at a1 a2 a8 a14 a20 a21 a25 ⊢; omega)] at q; exact q) rfl)
          · refine xcall (sp_error rfl 1 (by decide) fun F v => ?_)
            exact xgenK (w0 := wH0) (K := K) (fun F v => by have q := h F v; unfold an_sheet at q; rw [if_neg (show ¬ (xin a 4 ∧ b = 0) by simp only [xin, xlt, xle, xeq, Int32.reduceToInt] at a1 a2 a8 a14 a20 ⊢; omega), if_neg (show ¬ (xin a 4 ∧ (b = 8 ∨ b = 16 ∨ b = 32) ∧ c.toInt < 0) by simp only [xin, xlt, xle, xeq, Int32.reduceToInt] at a1 a2 a8 a14 a20 ⊢; omega), if_neg (show ¬ (xin a 4 ∧ (b = 8 ∨ b = 16 ∨ b = 32) ∧ c.toInt ≤ 40) by simp only [xin, xlt, xle, xeq, Int32.reduceToInt] at a1 a2 a8 a14 a20 ⊢; omega)] at q; exact q) rfl
