/-! ===== the tried side: calls, without their outcome ===== -/
/-- all but some rows and fields is as it was -/
def tR (A : Nat → Bool) (B : Nat → Nat → Bool) (F v F' v' : xS) : Prop := (∀ k, A k = false → F' k = F k) ∧ ∀ k j, B k j = false → v' k j = v k j
theorem tR.rf {A : Nat → Bool} {B : Nat → Nat → Bool} {F v : xS} : tR A B F v F v := ⟨fun _ _ => rfl, fun _ _ _ => rfl⟩
theorem tR.tr {A : Nat → Bool} {B : Nat → Nat → Bool} {F v F' v' F2 v2 : xS} (h : tR A B F v F' v') (g : tR A B F' v' F2 v2) : tR A B F v F2 v2 := ⟨fun k a => (g.1 k a).trans (h.1 k a), fun k j a => (g.2 k j a).trans (h.2 k j a)⟩
theorem tR.wd {A A2 : Nat → Bool} {B B2 : Nat → Nat → Bool} {F v F' v' : xS} (h : tR A B F v F' v') (a : ∀ k, A2 k = false → A k = false) (b : ∀ k j, B2 k j = false → B k j = false) : tR A2 B2 F v F' v' := ⟨fun k z => h.1 k (a k z), fun k j z => h.2 k j (b k j z)⟩
theorem tR.fu {A : Nat → Bool} {B : Nat → Nat → Bool} {F v F' v' : xS} {k : Nat} {x : Nat → Int32} (h : tR A B F v F' v') (a : A k = true) : tR A B F v (va_up F' k x) v' := ⟨fun i z => by
    have n : ¬ i = k := fun e => by rw [e, a] at z; exact absurd z (by decide)
    have e : va_up F' k x i = F' i := if_neg n
    rw [e]; exact h.1 i z, h.2⟩
theorem tR.vu {A : Nat → Bool} {B : Nat → Nat → Bool} {F v F' v' : xS} {k j : Nat} {x : Int32} (h : tR A B F v F' v') (a : B k j = true) : tR A B F v F' (va_up v' k (va_up (v' k) j x)) := ⟨h.1, fun i l z => by
    by_cases n : i = k
    · subst n
      have m : ¬ l = j := fun e => by rw [e, a] at z; exact absurd z (by decide)
      have e : va_up v' i (va_up (v' i) j x) i l = v' i l := (congrFun (if_pos rfl) l).trans (if_neg m)
      rw [e]; exact h.2 i l z
    · have e : va_up v' k (va_up (v' k) j x) i = v' i := if_neg n
      rw [e]; exact h.2 i l z⟩
def aE (k : Nat) : Bool := k == 11 || k == 14 || k == 17
def bE (k j : Nat) : Bool := (k == 9 || k == 12) && j == 3
def aP (k : Nat) : Bool := k == 11 || k == 14 || k == 17 || k == 5 || k == 6 || k == 7
def bP (k j : Nat) : Bool := (k == 9 || k == 12) && j == 3 || k == 0 && j == 9
def bQ (k j : Nat) : Bool := (k == 9 || k == 12) && j == 3 || k == 0 && (j == 9 || j == 10)
theorem tE.p {F v F' v' : xS} (h : tR aE bE F v F' v') : tR aP bP F v F' v' := h.wd (fun k z => by simp only [aP, aE, Bool.or_eq_false_iff] at z ⊢; exact ⟨⟨z.1.1.1.1.1, z.1.1.1.1.2⟩, z.1.1.1.2⟩) (fun k j z => by simp only [bP, bE, Bool.or_eq_false_iff] at z ⊢; exact z.1)
theorem tP.q {F v F' v' : xS} (h : tR aP bP F v F' v') : tR aP bQ F v F' v' := h.wd (fun k z => z) (fun k j z => by
    simp only [bP, bQ, Bool.or_eq_false_iff, Bool.and_eq_false_iff] at z ⊢
    exact ⟨z.1, z.2.elim Or.inl fun y => Or.inr y.1⟩)
def tI (v : xS) : Prop := (below 8 (v 0 2) ∧ below 7 (v 0 8)) ∧ below 50 (v 9 1) ∧ below 50 (v 12 1)
theorem tI.q {F v F' v' : xS} (h : tI v) (g : tR aP bQ F v F' v') : tI v' := ⟨⟨(g.2 0 2 rfl).symm ▸ h.1.1, (g.2 0 8 rfl).symm ▸ h.1.2⟩, (g.2 9 1 rfl).symm ▸ h.2.1, (g.2 12 1 rfl).symm ▸ h.2.2⟩
theorem tI.e {F v F' v' : xS} (h : tI v) (g : tR aE bE F v F' v') : tI v' := h.q (tP.q (tE.p g))
theorem sw_floorMod (a : Int32) {K : xKo} (h : ∀ r, K (some (.int r)) []) : C_A_floorMod [.int a, .int 12] [] K := by
  refine xM_go rfl 40 [] fun P hP => ?_
  refine ⟨by decide, ?_⟩
  refine br_c (fun _ => h _) (fun _ => ?_)
  refine br_c (fun _ => h _) (fun _ => h _)
theorem sw_bitCount (a : Int32) {K : xKo} (h : ∀ r, K (some (.int r)) []) : C_I_bitCount [.int a] [] K := by
  refine xM_go rfl 60 [] fun P hP => ?_
  exact h _
theorem sw_cellsOff (a b : Int32) {K : xKo} (h : ∀ r, K (some (.int r)) []) : C_T_cellsOff [.int a, .int b] [] K := by
  refine xM_go rfl 60 [] fun P hP => ?_
  refine xcall (sp_abs _ ?_)
  refine xcall (sp_min _ _ ?_)
  exact h _
set_option maxRecDepth 100000 in
theorem sw_goalOf (F v : xS) (I : tI v) (c m : Int32) (hc : vp_in c 7) {K : xKo} (h : ∀ g F' v', tR aE bE F v F' v' → (g = -1 ∨ vp_in g 8) → K (some (.int g)) (xfill F' v' 0 (wT0 0))) : C_T_goalOf [.ref 0, .int c, .int m] (xfill F v 0 (wT0 0)) K := by
  obtain ⟨n, hn, en⟩ := I.1.1
  have key : ∀ (d i : Nat) (g nr : Int32) (F' v' : xS), i + d = n → tR aE bE F v F' v' → (g = -1 ∨ vp_in g 8) → xWP pg_T_goalOf K 14 [(0, .ref 0), (1, .int c), (2, .int m), (3, .int g), (4, .int nr), (5, .int (nI i))] [] (xfill F' v' 0 (wT0 0)) (0, 0) := by
    intro d
    induction d with
    | zero =>
      intro i g nr F' v' hi E hg
      have e : v' 0 2 = nI n := (E.2 0 2 rfl).trans en
      have hi : i = n := hi
      subst hi
      refine xWP_go 100 [(14, [0, 1, 2, 3, 4, 5])] fun P hP => ?_
      refine br_c (fun _ => h _ _ _ E hg) (fun z => absurd (by show v' 0 2 ≤ nI i; rw [e]; exact nI_le (Nat.le_refl _) (by omega)) z)
    | succ d ih =>
      intro i g nr F' v' hi E hg
      have e : v' 0 2 = nI n := (E.2 0 2 rfl).trans en
      obtain ⟨n0, h0, e0⟩ := (I.e E).2.1
      refine xWP_go 100 [(14, [0, 1, 2, 3, 4, 5])] fun P hP => ?_
      refine br_c (fun z => ?_) (fun _ => ?_)
      · have z : v' 0 2 ≤ nI i := z
        rw [e] at z
        exact absurd z (nI_ge (by omega) (by omega))
      have nx : ∀ (g nr : Int32) (F2 v2 : xS), tR aE bE F' v' F2 v2 → (g = -1 ∨ vp_in g 8) → xWP pg_T_goalOf K 14 [(0, .ref 0), (1, .int c), (2, .int m), (3, .int g), (4, .int nr), (5, .int (nI i + 1))] [] (xfill F2 v2 0 (wT0 0)) (0, 0) := by
        intro g nr F2 v2 E2 hg
        rw [nI_1]
        exact ih (i + 1) g nr F2 v2 (by omega) (E.tr E2) hg
      have bi : vp_in (nI i) 8 := vp_in_nI (by omega) (by omega)
      refine ⟨hc, ?_⟩
      refine ⟨bi, ?_⟩
      refine xcall (sw_cellsOff _ _ (fun off => ?_))
      refine ⟨bi, ?_⟩
      refine xcall (sp_isIn _ _ (fun z1 => ?_) (fun z1 => ?_))
      · refine br_c (fun _ => ?_) (fun z => absurd rfl z)
        refine hP _ _ _ _ _ ?_
        exact nx _ _ _ _ tR.rf hg
      refine br_c (fun z => absurd z (by decide)) (fun _ => ?_)
      refine br_c (fun _ => ?_) (fun _ => ?_)
      · refine hP _ _ _ _ _ ?_
        exact nx _ _ _ _ tR.rf hg
      refine ⟨vin (by decide), ⟨fun _ => ?_, ⟨fun a => absurd a (by decide), trivial⟩⟩⟩
      refine ⟨hc, ?_⟩
      refine xcall (sp_gives (fun k => F' (9 + k)) (fun k => v' (9 + k)) off m _ n0 h0 e0 (fun z => ?_) (fun z => ?_))
      · refine br_c (fun z => absurd z (by decide)) (fun _ => ?_)
        refine hP _ _ _ _ _ ?_
        exact nx _ _ _ _ tR.rf (Or.inr bi)
      · refine br_c (fun _ => ?_) (fun _ => ?_)
        · refine hP _ _ _ _ _ ?_
          exact nx _ _ (va_up F' 11 _) (va_up v' 9 (va_up (v' 9) 3 _)) ((tR.rf.fu rfl).vu rfl) hg
        · refine hP _ _ _ _ _ ?_
          exact nx _ _ (va_up F' 11 _) (va_up v' 9 (va_up (v' 9) 3 _)) ((tR.rf.fu rfl).vu rfl) (Or.inr bi)
  refine xM_go rfl 100 [(14, [0, 1, 2, 3, 4, 5])] fun P hP => ?_
  refine xcall (sp_far F v c hc ?_)
  refine hP _ _ _ _ _ ?_
  exact key n 0 _ _ F v (by omega) tR.rf (Or.inl rfl)
set_option maxRecDepth 100000 in
theorem sw_endOf (F v : xS) (I : tI v) (c m s : Int32) (hc : vp_in c 7) {K : xKo} (h : ∀ r F' v', tR aE bE F v F' v' → K (some (.int r)) (xfill F' v' 0 (wT0 0))) : C_T_endOf [.ref 0, .int c, .int m, .int s] (xfill F v 0 (wT0 0)) K := by
  have fin : ∀ (g : Int32) (F' v' : xS), tR aE bE F v F' v' → (g = -1 ∨ vp_in g 8) → xWP pg_T_endOf K 18 [(0, .ref 0), (1, .int c), (2, .int m), (3, .int s)] [.int g] (xfill F' v' 0 (wT0 0)) (0, 0) := by
    intro g F' v' E hg
    refine xWP_go 100 [] fun P hP => ?_
    refine br_c (fun a => ?_) (fun a => ?_)
    · have hg : vp_in g 8 := hg.elim (fun z => by subst z; exact absurd a (by decide)) id
      refine ⟨hg, ?_⟩
      refine ⟨hc, ?_⟩
      refine xcall (sw_floorMod _ (fun up => ?_))
      refine xcall (sp_min _ _ ?_)
      refine xcall (sp_pace F' v' c hc ?_)
      refine xcall (sp_min _ _ ?_)
      refine br_c (fun _ => ?_) (fun _ => ?_)
      · refine ⟨hc, ?_⟩
        refine xcall (sw_floorMod _ (fun r => ?_))
        exact h _ _ _ E
      · refine ⟨hc, ?_⟩
        refine xcall (sw_floorMod _ (fun r => ?_))
        exact h _ _ _ E
    · refine ⟨hc, ?_⟩
      exact h _ _ _ E
  refine xM_go rfl 100 [(18, [0, 1, 2, 3])] fun P hP => ?_
  refine br_n (fun _ => ?_) (fun _ => ?_)
  · refine xcall (sw_goalOf F v I c m hc (fun g F' v' E hg => ?_))
    refine hP _ _ _ _ _ ?_
    exact fin g F' v' E hg
  · refine hP _ _ _ _ _ ?_
    exact fin _ F v tR.rf (Or.inl rfl)
set_option maxRecDepth 100000 in
theorem sw_crowdIn (F v : xS) (I : tI v) (c : Int32) {K : xKo} (h : ∀ r, K (some (.int r)) (xfill F v 0 (wT0 0))) : C_T_crowdIn [.ref 0, .int c] (xfill F v 0 (wT0 0)) K := by
  obtain ⟨n, hn, en⟩ := I.1.2
  have key : ∀ (d i : Nat) (g : Int32), i + d = n → xWP pg_T_crowdIn K 4 [(0, .ref 0), (1, .int c), (2, .int g), (3, .int (nI i))] [] (xfill F v 0 (wT0 0)) (0, 0) := by
    intro d
    induction d with
    | zero =>
      intro i g hi
      have hi : i = n := hi
      subst hi
      refine xWP_go 100 [(4, [0, 1, 2, 3])] fun P hP => ?_
      refine br_c (fun _ => h _) (fun z => absurd (by show v 0 8 ≤ nI i; rw [en]; exact nI_le (Nat.le_refl _) (by omega)) z)
    | succ d ih =>
      intro i g hi
      refine xWP_go 100 [(4, [0, 1, 2, 3])] fun P hP => ?_
      refine br_c (fun z => ?_) (fun _ => ?_)
      · have z : v 0 8 ≤ nI i := z
        rw [en] at z
        exact absurd z (nI_ge (by omega) (by omega))
      have nx : ∀ g : Int32, xWP pg_T_crowdIn K 4 [(0, .ref 0), (1, .int c), (2, .int g), (3, .int (nI i + 1))] [] (xfill F v 0 (wT0 0)) (0, 0) := by
        intro g
        rw [nI_1]
        exact ih (i + 1) g (by omega)
      refine br_c (fun _ => ?_) (fun _ => ?_)
      · refine hP _ _ _ _ _ ?_
        exact nx _
      refine ⟨vp_in_nI (by omega) (by omega), ?_⟩
      refine br_n (fun _ => ?_) (fun _ => ?_)
      · refine hP _ _ _ _ _ ?_
        exact nx _
      · refine hP _ _ _ _ _ ?_
        exact nx _
  refine xM_go rfl 100 [(4, [0, 1, 2, 3])] fun P hP => ?_
  refine hP _ _ _ _ _ ?_
  exact key n 0 0 (by omega)
set_option maxRecDepth 100000 in
theorem sw_isHeld (F v : xS) (I : tI v) (c m : Int32) {K : xKo} (h : ∀ r F' v', tR aE bE F v F' v' → (r = 0 ∨ r = 1) → K (some (.int r)) (xfill F' v' 0 (wT0 0))) : C_T_isHeld [.ref 0, .int c, .int m] (xfill F v 0 (wT0 0)) K := by
  obtain ⟨n, hn, en⟩ := I.1.1
  obtain ⟨n1, h1, e1⟩ := I.2.2
  have key : ∀ (d i : Nat), i + d = n → xWP pg_T_isHeld K 2 [(0, .ref 0), (1, .int c), (2, .int m), (3, .int (nI i))] [] (xfill F v 0 (wT0 0)) (0, 0) := by
    intro d
    induction d with
    | zero =>
      intro i hi
      have hi : i = n := hi
      subst hi
      refine xWP_go 100 [(2, [0, 1, 2, 3])] fun P hP => ?_
      refine br_c (fun _ => ?_) (fun z => absurd (by show v 0 2 ≤ nI i; rw [en]; exact nI_le (Nat.le_refl _) (by omega)) z)
      exact ⟨Or.inl rfl, h _ _ _ tR.rf (Or.inl rfl)⟩
    | succ d ih =>
      intro i hi
      refine xWP_go 100 [(2, [0, 1, 2, 3])] fun P hP => ?_
      refine br_c (fun z => ?_) (fun _ => ?_)
      · have z : v 0 2 ≤ nI i := z
        rw [en] at z
        exact absurd z (nI_ge (by omega) (by omega))
      have nx : xWP pg_T_isHeld K 2 [(0, .ref 0), (1, .int c), (2, .int m), (3, .int (nI i + 1))] [] (xfill F v 0 (wT0 0)) (0, 0) := by
        rw [nI_1]
        exact ih (i + 1) (by omega)
      have bi : vp_in (nI i) 8 := vp_in_nI (by omega) (by omega)
      refine ⟨bi, ?_⟩
      refine br_n (fun _ => ?_) (fun _ => ?_)
      · refine hP _ _ _ _ _ ?_
        exact nx
      refine ⟨bi, ?_⟩
      refine xcall (sp_isIn _ _ (fun z1 => ?_) (fun z1 => ?_))
      · refine br_c (fun _ => ?_) (fun z => absurd rfl z)
        refine hP _ _ _ _ _ ?_
        exact nx
      refine br_c (fun z => absurd z (by decide)) (fun _ => ?_)
      refine ⟨vin (by decide), ⟨fun a => absurd a (by decide), ⟨fun _ => ?_, trivial⟩⟩⟩
      refine xcall (sw_crowdIn F v I c (fun cr => ?_))
      refine ⟨bi, ?_⟩
      refine xcall (sp_gives (fun k => F (12 + k)) (fun k => v (12 + k)) cr _ m n1 h1 e1 (fun z => ?_) (fun z => ?_))
      · refine br_c (fun z => absurd z (by decide)) (fun _ => ?_)
        exact ⟨Or.inr rfl, h _ _ _ tR.rf (Or.inr rfl)⟩
      · refine br_c (fun _ => ?_) (fun _ => ?_)
        · exact ⟨Or.inl rfl, h _ (va_up F 14 _) (va_up v 12 (va_up (v 12) 3 _)) ((tR.rf.fu rfl).vu rfl) (Or.inl rfl)⟩
        · exact ⟨Or.inr rfl, h _ (va_up F 14 _) (va_up v 12 (va_up (v 12) 3 _)) ((tR.rf.fu rfl).vu rfl) (Or.inr rfl)⟩
  refine xM_go rfl 100 [(2, [0, 1, 2, 3])] fun P hP => ?_
  refine hP _ _ _ _ _ ?_
  exact key n 0 (by omega)
set_option maxRecDepth 100000 in
theorem sw_wouldBeHad (F v : xS) (I : tI v) (m s : Int32) {K : xKo} (h : ∀ r F' v', tR aE bE F v F' v' → K (some (.int r)) (xfill F' v' 0 (wT0 0))) : C_T_wouldBeHad [.ref 0, .int m, .int s] (xfill F v 0 (wT0 0)) K := by
  obtain ⟨n, hn, en⟩ := I.1.2
  have two : ∀ (d i : Nat) (g : Int32) (F' v' : xS), i + d = n → tR aE bE F v F' v' → xWP pg_T_wouldBeHad K 34 [(0, .ref 0), (1, .int m), (2, .int s), (3, .int g), (4, .int (nI i))] [] (xfill F' v' 0 (wT0 0)) (0, 0) := by
    intro d
    induction d with
    | zero =>
      intro i g F' v' hi E
      have e : v' 0 8 = nI n := (E.2 0 8 rfl).trans en
      have hi : i = n := hi
      subst hi
      refine xWP_go 100 [(34, [0, 1, 2, 3, 4])] fun P hP => ?_
      refine br_c (fun _ => h _ _ _ E) (fun z => absurd (by show v' 0 8 ≤ nI i; rw [e]; exact nI_le (Nat.le_refl _) (by omega)) z)
    | succ d ih =>
      intro i g F' v' hi E
      have e : v' 0 8 = nI n := (E.2 0 8 rfl).trans en
      refine xWP_go 100 [(34, [0, 1, 2, 3, 4])] fun P hP => ?_
      refine br_c (fun z => ?_) (fun _ => ?_)
      · have z : v' 0 8 ≤ nI i := z
        rw [e] at z
        exact absurd z (nI_ge (by omega) (by omega))
      have nx : ∀ (g : Int32) (F2 v2 : xS), tR aE bE F' v' F2 v2 → xWP pg_T_wouldBeHad K 34 [(0, .ref 0), (1, .int m), (2, .int s), (3, .int g), (4, .int (nI i + 1))] [] (xfill F2 v2 0 (wT0 0)) (0, 0) := by
        intro g F2 v2 E2
        rw [nI_1]
        exact ih (i + 1) g F2 v2 (by omega) (E.tr E2)
      refine br_c (fun _ => ?_) (fun _ => ?_)
      · refine hP _ _ _ _ _ ?_
        exact nx _ _ _ tR.rf
      refine ⟨vp_in_nI (by omega) (by omega), ?_⟩
      refine xcall (sw_isHeld F' v' (I.e E) _ m (fun r F2 v2 E2 hr => ?_))
      refine br_n (fun _ => ?_) (fun _ => ?_)
      · refine hP _ _ _ _ _ ?_
        exact nx _ _ _ E2
      · refine hP _ _ _ _ _ ?_
        exact nx _ _ _ E2
  have one : ∀ (d i : Nat) (F' v' : xS), i + d = n → tR aE bE F v F' v' → xWP pg_T_wouldBeHad K 2 [(0, .ref 0), (1, .int m), (2, .int s), (3, .int (nI i))] [] (xfill F' v' 0 (wT0 0)) (0, 0) := by
    intro d
    induction d with
    | zero =>
      intro i F' v' hi E
      have e : v' 0 8 = nI n := (E.2 0 8 rfl).trans en
      have hi : i = n := hi
      subst hi
      refine xWP_go 100 [(2, [0, 1, 2, 3]), (34, [0, 1, 2, 3, 4])] fun P hP => ?_
      refine br_c (fun _ => ?_) (fun z => absurd (by show v' 0 8 ≤ nI i; rw [e]; exact nI_le (Nat.le_refl _) (by omega)) z)
      refine hP _ _ _ _ _ ?_
      exact two i 0 0 F' v' (by omega) E
    | succ d ih =>
      intro i F' v' hi E
      have e : v' 0 8 = nI n := (E.2 0 8 rfl).trans en
      refine xWP_go 100 [(2, [0, 1, 2, 3]), (34, [0, 1, 2, 3, 4])] fun P hP => ?_
      refine br_c (fun z => ?_) (fun _ => ?_)
      · have z : v' 0 8 ≤ nI i := z
        rw [e] at z
        exact absurd z (nI_ge (by omega) (by omega))
      have bi : vp_in (nI i) 7 := vp_in_nI (by omega) (by omega)
      refine xcall (sw_endOf F' v' (I.e E) _ m s bi (fun r F2 v2 E2 => ?_))
      refine ⟨bi, ?_⟩
      refine hP _ _ _ _ _ ?_
      rw [nI_1]
      exact ih (i + 1) (va_up F2 17 _) v2 (by omega) ((E.tr E2).fu rfl)
  refine xM_go rfl 100 [(2, [0, 1, 2, 3])] fun P hP => ?_
  refine hP _ _ _ _ _ ?_
  exact one n 0 F v (by omega) tR.rf
set_option maxRecDepth 100000 in
theorem sw_play (F v : xS) (I : tI v) (m s : Int32) {K : xKo} (h : ∀ r F' v', tR aP bQ F v F' v' → v' 0 10 = v 0 10 + 1 → K (some (.int r)) (xfill F' v' 0 (wT0 0))) : C_T_play [.ref 0, .int m, .int s] (xfill F v 0 (wT0 0)) K := by
  obtain ⟨n, hn, en⟩ := I.1.2
  have key : ∀ (d i : Nat) (q : Int32) (x : Int32) (F' v' : xS), i + d = n → tR aP bP F v F' v' → xWP pg_T_play K 13 [(0, .ref 0), (1, .int m), (2, .int s), (3, .int q), (4, .int x), (5, .int (nI i))] [] (xfill F' v' 0 (wT0 0)) (0, 0) := by
    intro d
    induction d with
    | zero =>
      intro i q x F' v' hi E
      have e : v' 0 8 = nI n := (E.2 0 8 rfl).trans en
      have hi : i = n := hi
      subst hi
      refine xWP_go 100 [(13, [0, 1, 2, 3, 4, 5])] fun P hP => ?_
      refine br_c (fun _ => ?_) (fun z => absurd (by show v' 0 8 ≤ nI i; rw [e]; exact nI_le (Nat.le_refl _) (by omega)) z)
      refine h _ F' (va_up v' 0 (va_up (va_up (v' 0) 9 x) 10 (v' 0 10 + 1))) ⟨E.1, fun k j z => ?_⟩ ?_
      · have q := (((tP.q E).vu (x := x) (k := 0) (j := 9) rfl).vu (x := v' 0 10 + 1) (k := 0) (j := 10) rfl).2 k j z
        rw [← q]
        by_cases k0 : k = 0
        · subst k0; rfl
        · exact (congrFun (if_neg k0) j).trans ((congrFun (if_neg k0) j).trans (congrFun (if_neg k0) j)).symm
      · show v' 0 10 + 1 = v 0 10 + 1
        rw [E.2 0 10 rfl]
    | succ d ih =>
      intro i q x F' v' hi E
      have e : v' 0 8 = nI n := (E.2 0 8 rfl).trans en
      refine xWP_go 100 [(13, [0, 1, 2, 3, 4, 5])] fun P hP => ?_
      refine br_c (fun z => ?_) (fun _ => ?_)
      · have z : v' 0 8 ≤ nI i := z
        rw [e] at z
        exact absurd z (nI_ge (by omega) (by omega))
      have nx : ∀ (x : Int32) (F2 v2 : xS), tR aP bP F' v' F2 v2 → xWP pg_T_play K 13 [(0, .ref 0), (1, .int m), (2, .int s), (3, .int q), (4, .int x), (5, .int (nI i + 1))] [] (xfill F2 v2 0 (wT0 0)) (0, 0) := by
        intro x F2 v2 E2
        rw [nI_1]
        exact ih (i + 1) q x F2 v2 (by omega) (E.tr E2)
      have bi : vp_in (nI i) 7 := vp_in_nI (by omega) (by omega)
      refine ⟨bi, ?_⟩
      refine ⟨bi, ?_⟩
      refine xcall (sp_isIn _ _ (fun z1 => ?_) (fun z1 => ?_))
      · refine br_c (fun _ => ?_) (fun z => absurd rfl z)
        refine br_c (fun _ => ?_) (fun _ => ?_)
        · refine hP _ _ _ _ _ ?_
          exact nx _ (va_up F' 5 _) v' (tR.rf.fu rfl)
        refine ⟨bi, ?_⟩
        refine xcall (sp_min _ _ ?_)
        refine ⟨bi, ?_⟩
        refine hP _ _ _ _ _ ?_
        exact nx _ (va_up (va_up F' 5 _) 7 _) v' ((tR.rf.fu rfl).fu rfl)
      refine br_c (fun z => absurd z (by decide)) (fun _ => ?_)
      refine ⟨bi, ?_⟩
      refine xcall (sp_min _ _ ?_)
      refine ⟨bi, ?_⟩
      refine br_n (fun _ => ?_) (fun _ => ?_)
      · refine hP _ _ _ _ _ ?_
        exact nx _ (va_up (va_up F' 5 _) 6 _) v' ((tR.rf.fu rfl).fu rfl)
      · refine hP _ _ _ _ _ ?_
        exact nx _ (va_up (va_up F' 5 _) 6 _) v' ((tR.rf.fu rfl).fu rfl)
  refine xM_go rfl 100 [(13, [0, 1, 2, 3, 4, 5])] fun P hP => ?_
  refine xcall (sw_wouldBeHad F v I m s (fun r F' v' E => ?_))
  refine hP _ _ _ _ _ ?_
  exact key n 0 r _ F' v' (by omega) (tE.p E)
