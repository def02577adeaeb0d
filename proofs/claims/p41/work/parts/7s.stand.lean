/-! ===== stand, odds: exactly ===== -/
def hofL (s : xS) (X : xXt) (c t : Int32) : Nat → Nat → Nat → Nat
  | 0, _, q => q
  | d + 1, i, q => hofL s X c t d (i + 1) (if mk (eSet s X (nI i) t) c then q + 1 else q)
def hofN (s : xS) (X : xXt) (c t : Int32) : Nat := hofL s X c t 6 0 0
theorem hofL_le {s : xS} {X : xXt} {c t : Int32} : ∀ {d i q : Nat}, hofL s X c t d i q ≤ q + d := by
  intro d
  induction d with
  | zero => intro i q; exact Nat.le_refl q
  | succ d ih =>
    intro i q
    unfold hofL
    split
    · have := ih (i := i + 1) (q := q + 1); omega
    · have := ih (i := i + 1) (q := q); omega
theorem hofN_le {s : xS} {X : xXt} {c t : Int32} : hofN s X c t ≤ 6 := by
  have := hofL_le (s := s) (X := X) (c := c) (t := t) (d := 6) (i := 0) (q := 0)
  unfold hofN
  omega
set_option maxRecDepth 100000 in
theorem sx_marksThatHave (F v s : xS) (X : xXt) (T : tH F v s X) (I : cIv s X) (c : Int32) (u : Nat) (hu : u < 10) {K : xKo} (h : ∀ F' v', tR aE bE F v F' v' → K (some (.int (nI (hofN s X c (nI u))))) (xfill F' v' 0 (wT0 0))) : C_T_marksThatHave [.ref 0, .int c, .int (nI u)] (xfill F v 0 (wT0 0)) K := by
  have key : ∀ (d i q : Nat) (F' v' : xS), i + d = 6 → tR aE bE F v F' v' → hofL s X c (nI u) d i q = hofN s X c (nI u) → xWP pg_T_marksThatHave K 5 [(0, .ref 0), (1, .int c), (2, .int (nI u)), (3, .int (nI q)), (4, .int (nI i))] [] (xfill F' v' 0 (wT0 0)) (0, 0) := by
    intro d
    induction d with
    | zero =>
      intro i q F' v' hi E er
      have er : q = hofN s X c (nI u) := er
      refine xWP_go 200 [(5, [0, 1, 2, 3, 4])] fun P hP => ?_
      refine br_c (fun _ => ?_) (fun z => ?_)
      · rw [er]
        exact h _ _ E
      have z : ¬ nI 6 ≤ nI i := z
      exact absurd (by rw [nI_leI (by omega) (by omega)]; omega) z
    | succ d ih =>
      intro i q F' v' hi E er
      have er : hofL s X c (nI u) d (i + 1) (if mk (eSet s X (nI i) (nI u)) c then q + 1 else q) = hofN s X c (nI u) := er
      refine xWP_go 200 [(5, [0, 1, 2, 3, 4])] fun P hP => ?_
      refine br_c (fun z => ?_) (fun _ => ?_)
      · have z : nI 6 ≤ nI i := z
        rw [nI_leI (by omega) (by omega)] at z
        omega
      refine xcall (sx_wouldBeHad F' v' s X (T.e E) I (nI i) u hu (fun F2 v2 E2 _ => ?_))
      refine xcall (sp_isIn _ _ (fun y => ?_) (fun y => ?_))
      · have y : ¬ mk (eSet s X (nI i) (nI u)) c := y
        rw [if_neg y] at er
        refine br_c (fun _ => ?_) (fun z => absurd rfl z)
        refine hP _ _ _ _ _ ?_
        rw [nI_1]
        exact ih (i + 1) _ F2 v2 (by omega) (E.tr E2) er
      · have y : mk (eSet s X (nI i) (nI u)) c := y
        rw [if_pos y] at er
        refine br_c (fun z => absurd z (by decide)) (fun _ => ?_)
        refine hP _ _ _ _ _ ?_
        rw [nI_1, nI_1]
        exact ih (i + 1) _ F2 v2 (by omega) (E.tr E2) er
  refine xM_go rfl 200 [(5, [0, 1, 2, 3, 4])] fun P hP => ?_
  refine hP _ _ _ _ _ ?_
  exact key 6 0 0 F v (by omega) tR.rf rfl
set_option maxRecDepth 100000 in
theorem sx_hadOften (F v s : xS) (X : xXt) (T : tM (F 1) s X) (I : cIv s X) (c : Int32) (u : Nat) (hu : u < 10) {K : xKo} (h : ∀ F' v', mR r0 F v F' v' → K (some (.int (nI (hofN (sm (v 0 15) s) X c (nI u))))) (xfill F' v' 0 (wM0 0))) : C_M_hadOften [.ref 0, .int c, .int (nI u)] (xfill F v 0 (wM0 0)) K := by
  obtain ⟨S, eS⟩ : ∃ S, S = sm (v 0 15) s := ⟨_, rfl⟩
  rw [← eS] at h
  have key : ∀ (d i q : Nat) (F' v' : xS), i + d = 6 → mR r0 F v F' v' → hofL S X c (nI u) d i q = hofN S X c (nI u) → xWP pg_M_hadOften K 5 [(0, .ref 0), (1, .int c), (2, .int (nI u)), (3, .int (nI q)), (4, .int (nI i))] [] (xfill F' v' 0 (wM0 0)) (0, 0) := by
    intro d
    induction d with
    | zero =>
      intro i q F' v' hi E er
      have er : q = hofN S X c (nI u) := er
      refine xWP_go 200 [(5, [0, 1, 2, 3, 4])] fun P hP => ?_
      refine br_c (fun _ => ?_) (fun z => ?_)
      · rw [er]
        exact h _ _ E
      have z : ¬ nI 6 ≤ nI i := z
      exact absurd (by rw [nI_leI (by omega) (by omega)]; omega) z
    | succ d ih =>
      intro i q F' v' hi E er
      have er : hofL S X c (nI u) d (i + 1) (if mk (eSet S X (nI i) (nI u)) c then q + 1 else q) = hofN S X c (nI u) := er
      refine xWP_go 200 [(5, [0, 1, 2, 3, 4])] fun P hP => ?_
      refine br_c (fun z => ?_) (fun _ => ?_)
      · have z : nI 6 ≤ nI i := z
        rw [nI_leI (by omega) (by omega)] at z
        omega
      have T' : tM (F' 1) s X := T.of I.1.1 I.1.2 (fun j hj => E.2.1 j hj rfl)
      refine xcall (sx_wouldBe F' v' s X T' I (nI i) u hu (fun F2 v2 E2 => ?_))
      rw [E.v (j := 15) (by omega), ← eS]
      refine hP _ _ _ _ _ ?_
      rw [nI_1]
      by_cases y : mk (eSet S X (nI i) (nI u)) c
      · rw [if_pos y] at er
        have q2 := ih (i + 1) _ F2 v2 (by omega) (E.tr E2) er
        rw [← nI_1, ← (show (eSet S X (nI i) (nI u) >>> (c &&& 31)) &&& 1 = 1 from y)] at q2
        exact q2
      · rw [if_neg y] at er
        have y0 : (eSet S X (nI i) (nI u) >>> (c &&& 31)) &&& 1 = 0 := (and1 _).resolve_right y
        have q2 := ih (i + 1) _ F2 v2 (by omega) (E.tr E2) er
        rw [← Int32.add_zero (nI q), ← y0] at q2
        exact q2
  refine xM_go rfl 200 [(5, [0, 1, 2, 3, 4])] fun P hP => ?_
  refine hP _ _ _ _ _ ?_
  exact key 6 0 0 F v (by omega) mR.rf rfl
/-- one child elsewhere -/
def stX (X : xXt) (c : Nat) (y : Int32) : xXt := (va_up X.1 0 (upd (X.1 0) c y), X.2)
def stS (s : xS) (X : xXt) (c : Nat) (t : Int32) (i : Nat) : Int32 := nI (hofN s (stX X c (nI i)) (nI c) t)
def z_stand (c t w : Int32) (σ : xZ) : Int32 := if xin c (σ.1.1 6 1).toInt ∧ xin t 10 ∧ xin w 2 then (if w = 0 then (mfL (stS σ.1.1 σ.2.1 (nat c) t) 12 0 (0, 7)).1 else (mfL (stS σ.1.1 σ.2.1 (nat c) t) 12 0 (0, 7)).2) else -1000000001
theorem tH.ext {F v s : xS} {X X' : xXt} (T : tH F v s X) (e2 : X'.2 = X.2) (e : ∀ k j, k < 3 → j < 7 → X'.1 k j = X.1 k j) : tH F v s X' := by
  obtain ⟨a, b, c, d, l⟩ := T
  refine ⟨by rw [e2]; exact a, b, c, fun j hj => ?_, by rw [e2]; exact l⟩
  rw [e 0 j (by decide) hj, e 1 j (by decide) hj, e 2 j (by decide) hj]
  exact d j hj
theorem tH.at {F v s : xS} {X : xXt} (T : tH F v s X) (c : Nat) (x : Int32) : tH (va_up F 5 (upd (F 5) c x)) v s (stX X c x) := by
  obtain ⟨a, b, d, e, l⟩ := T
  refine ⟨a, b, d, fun j hj => ⟨?_, (e j hj).2⟩, l⟩
  show upd (F 5) c x j = upd (X.1 0) c x j
  exact upS0 (fun j hj => (e j hj).1) j hj
theorem stX_2 {X : xXt} {c : Nat} {x y : Int32} (k j : Nat) : (stX (stX X c y) c x).1 k j = (stX X c x).1 k j := by
  by_cases k0 : k = 0
  · subst k0
    show upd (upd (X.1 0) c y) c x j = upd (X.1 0) c x j
    by_cases e : j = c
    · rw [e, pk_us, pk_us]
    · rw [pk_un e, pk_un e, pk_un e]
  · exact (congrFun (if_neg k0) j).trans ((congrFun (if_neg k0) j).trans (congrFun (if_neg k0) j).symm)
def thF (F : xS) : xS := fun k => if k < 18 then F (37 + k) else F (1 + (k - 18))
/-- a copy tells the same -/
theorem tH.copy {F v s : xS} {X : xXt} {n0 n1 : Nat} (T : tH (fun k => F (1 + k)) (fun k => v (1 + k)) s X) (I : cIv s X) (h0 : n0 ≤ 50) (h1 : n1 ≤ 50) (e0 : v 10 1 = nI n0) (e1 : v 13 1 = nI n1) : tH (cpF (thF F) n0 n1) (cpV (thF v) n0 n1) s X := by
  have b8 := bel_nat I.1.1 (by omega)
  have b7 := bel_nat I.1.2 (by omega)
  obtain ⟨a, b, c, d, l0, l1⟩ := T
  refine ⟨a, fun j hj => ⟨(cpy0 (by omega)).trans (b j hj).1, (cpy0 (by omega)).trans (b j hj).2⟩, fun j hj => ⟨(cpy0 (by omega)).trans (c j hj).1, (cpy0 (by omega)).trans (c j hj).2⟩, fun j hj => ⟨(cpy0 hj).trans (d j hj).1, (cpy0 hj).trans (d j hj).2.1, (cpy0 hj).trans (d j hj).2.2⟩, l0.of e0 h0 rfl (fun j hj => cpy0 hj), l1.of e1 h1 rfl (fun j hj => cpy0 hj)⟩
set_option maxRecDepth 100000 in
theorem HX_stand (n : Nat) (σ : xZ) (F v : xS) (R : HR n σ F v) (c s w : Int32) {K : xKo} (h : hK n σ (z_stand c s w σ) K) : C_H_stand [.ref 0, .int c, .int s, .int w] (xfill F v 0 wH0) K := by
  obtain ⟨n0, h0, e0⟩ := R.2.2.2.1.1
  obtain ⟨n1, h1, e1⟩ := R.2.2.2.1.2
  refine xM_go rfl 200 [(50, [0, 1, 2, 3, 4, 5, 6])] fun P hP => ?_
  refine xcall (sp_isChild F v _ (fun a1 => ?_) (fun a1 => ?_))
  · rw [R.n1.2.1] at a1
    refine br_c (fun _ => ?_) (fun z => absurd rfl z)
    refine xcall (sp_errH F v 1 (by decide) ?_)
    exact R.err h _ (if_neg fun z => a1 z.1)
  rw [R.n1.2.1] at a1
  refine br_c (fun z => absurd z (by decide)) (fun _ => ?_)
  refine xcall (sp_isSteps _ (fun a2 => ?_) (fun a2 => ?_))
  · refine br_c (fun _ => ?_) (fun z => absurd rfl z)
    refine xcall (sp_errH F v 1 (by decide) ?_)
    exact R.err h _ (if_neg fun z => a2 z.2.1)
  refine br_c (fun z => absurd z (by decide)) (fun _ => ?_)
  refine xcall (sp_isBelow _ _ (fun a3 => ?_) (fun a3 => ?_))
  · refine br_n (fun z => absurd rfl z) (fun _ => ?_)
    refine xcall (sp_errH F v 1 (by decide) ?_)
    exact R.err h _ (if_neg fun z => a3 z.2.2)
  refine br_n (fun _ => ?_) (fun z => absurd z (by decide))
  have ef : z_stand c s w σ = if w = 0 then (mfL (stS σ.1.1 σ.2.1 (nat c) s) 12 0 (0, 7)).1 else (mfL (stS σ.1.1 σ.2.1 (nat c) s) 12 0 (0, 7)).2 := if_pos ⟨a1, a2, a3⟩
  obtain ⟨u, hu, rfl, -⟩ := nI_ofx s (n := 10) a2 (by decide)
  have hu : u < 10 := by omega
  obtain ⟨k, hk, rfl, ek, lt⟩ := xin_ex R.c.1.2 (by omega) a1
  have k7 : k < 7 := by have := bel_nat R.c.1.2 (by omega); omega
  have ek2 : Int32.toNatClampNeg (nI k) = k := ek
  rw [ek] at ef
  obtain ⟨R0, eR⟩ : ∃ R0, R0 = mfL (stS σ.1.1 σ.2.1 k (nI u)) 12 0 (0, 7) := ⟨_, rfl⟩
  rw [← eR] at ef
  have key : ∀ (d i : Nat) (p q : Int32) (F' v' : xS), i + d = 12 → hG F v F' v' → (∃ y, tH (fun k => F' (37 + k)) (fun k => v' (37 + k)) σ.1.1 (stX σ.2.1 k y)) → mfL (stS σ.1.1 σ.2.1 k (nI u)) d i (p, q) = R0 → xWP pg_H_stand K 50 [(0, .ref 0), (1, .int (nI k)), (2, .int (nI u)), (3, .int w), (4, .int p), (5, .int q), (6, .int (nI i))] [] (xfill F' v' 0 wH0) (0, 0) := by
    intro d
    induction d with
    | zero =>
      intro i p q F' v' hi E TT er
      have er : (p, q) = R0 := er
      rw [← er] at ef
      refine xWP_go 200 [(50, [0, 1, 2, 3, 4, 5, 6])] fun P hP => ?_
      refine br_c (fun _ => ?_) (fun z => ?_)
      · refine br_n (fun y => ?_) (fun y => ?_)
        · rw [if_neg y] at ef
          exact R.go h E ef
        · rw [if_pos y] at ef
          exact R.go h E ef
      · have z : ¬ nI 12 ≤ nI i := z
        exact absurd (by rw [nI_leI (by omega) (by omega)]; omega) z
    | succ d ih =>
      intro i p q F' v' hi E TT er
      obtain ⟨y, TY⟩ := TT
      have er : mfL (stS σ.1.1 σ.2.1 k (nI u)) d (i + 1) (if stS σ.1.1 σ.2.1 k (nI u) i < q then (nI i, stS σ.1.1 σ.2.1 k (nI u) i) else (p, q)) = R0 := er
      refine xWP_go 200 [(50, [0, 1, 2, 3, 4, 5, 6])] fun P hP => ?_
      refine br_c (fun z => ?_) (fun _ => ?_)
      · have z : nI 12 ≤ nI i := z
        rw [nI_leI (by omega) (by omega)] at z
        omega
      refine ⟨vp_in_nI k7 (by omega), ?_⟩
      have T1 : tH (fun j => va_up F' 42 (upd (F' 42) (Int32.toNatClampNeg (nI k)) (nI i)) (37 + j)) (fun k => v' (37 + k)) σ.1.1 (stX σ.2.1 k (nI i)) := by
        rw [ek2]
        exact (TY.at k (nI i)).ext rfl (fun k j _ _ => (stX_2 k j).symm)
      have I1 : cIv σ.1.1 (stX σ.2.1 k (nI i)) := R.c.ch lt (Or.inl ⟨rfl, ⟨i, by omega, rfl⟩⟩)
      refine xcall (sx_marksThatHave (fun j => va_up F' 42 (upd (F' 42) (Int32.toNatClampNeg (nI k)) (nI i)) (37 + j)) (fun k => v' (37 + k)) σ.1.1 (stX σ.2.1 k (nI i)) T1 I1 (nI k) u hu (fun G w2 E2 => ?_))
      have E3 : hG F v (upS 37 (va_up F' 42 (upd (F' 42) (Int32.toNatClampNeg (nI k)) (nI i))) G) (upS 37 v' w2) := (E.fu (k := 42) rfl).tr hG.up37
      have T3 : tH (fun j => upS 37 (va_up F' 42 (upd (F' 42) (Int32.toNatClampNeg (nI k)) (nI i))) G (37 + j)) (fun j => upS 37 v' w2 (37 + j)) σ.1.1 (stX σ.2.1 k (nI i)) := by have T2 := T1.e E2; exact T2
      refine br_c (fun z => ?_) (fun z => ?_)
      · have z : q ≤ stS σ.1.1 σ.2.1 k (nI u) i := z
        rw [if_neg (fun y => by rw [xlt] at y; rw [xle] at z; omega)] at er
        refine hP _ _ _ _ _ ?_
        rw [nI_1]
        exact ih (i + 1) _ _ _ _ (by omega) E3 ⟨_, T3⟩ er
      · have z : ¬ q ≤ stS σ.1.1 σ.2.1 k (nI u) i := z
        rw [if_pos (by rw [xlt]; rw [xle] at z; omega)] at er
        refine hP _ _ _ _ _ ?_
        rw [nI_1]
        exact ih (i + 1) _ _ _ _ (by omega) E3 ⟨_, T3⟩ er
  refine xcall (sp_copy (thF F) (thF v) n0 n1 h0 h1 e0 e1 ?_)
  refine hP _ _ _ _ _ ?_
  have TC := R.t.copy R.c h0 h1 e0 e1
  refine key 12 0 _ _ (upS 37 F (cpF (thF F) n0 n1)) (upS 37 v (cpV (thF v) n0 n1)) (by omega) hG.up37 ⟨σ.2.1.1 0 k, ?_⟩ eR.symm
  have TD : tH (fun j => upS 37 F (cpF (thF F) n0 n1) (37 + j)) (fun j => upS 37 v (cpV (thF v) n0 n1) (37 + j)) σ.1.1 σ.2.1 := TC
  refine TD.ext rfl (fun w j hw hj => ?_)
  by_cases w0 : w = 0
  · subst w0
    show upd (σ.2.1.1 0) k (σ.2.1.1 0 k) j = σ.2.1.1 0 j
    by_cases e : j = k
    · rw [e, pk_us]
    · rw [pk_un e]
  · exact congrFun (if_neg w0) j
set_option maxRecDepth 100000 in
theorem MX_stand (n : Nat) (σ : xZ) (F v : xS) (R : MR n σ F v) (c s w : Int32) {K : xKo} (h : mK n σ (z_stand c s w σ) K) : C_M_stand [.ref 0, .int c, .int s, .int w] (xfill F v 0 (wM0 0)) K := by
  refine xM_go rfl 200 [(49, [0, 1, 2, 3, 4, 5, 6, 7])] fun P hP => ?_
  refine xcall (sp_isChildM F v _ R.J.1.1.2.1 (fun a1 => ?_) (fun a1 => ?_))
  · rw [R.n1.2.1] at a1
    refine br_c (fun _ => ?_) (fun z => absurd rfl z)
    refine xcall (sp_errM F v (-1000000001) 1 (by decide) (by decide) ?_)
    exact R.err h _ (if_neg fun z => a1 z.1)
  rw [R.n1.2.1] at a1
  refine br_c (fun z => absurd z (by decide)) (fun _ => ?_)
  refine xcall (sp_areSteps _ (fun a2 => ?_) (fun a2 => ?_))
  · refine br_c (fun _ => ?_) (fun z => absurd rfl z)
    refine xcall (sp_errM F v (-1000000001) 1 (by decide) (by decide) ?_)
    exact R.err h _ (if_neg fun z => a2 z.2.1)
  refine br_c (fun z => absurd z (by decide)) (fun _ => ?_)
  refine xcall (sp_inx _ 1 2 (by decide) (fun a3 => ?_) (fun a3 => ?_))
  · refine br_n (fun z => absurd rfl z) (fun _ => ?_)
    refine xcall (sp_errM F v (-1000000001) 1 (by decide) (by decide) ?_)
    exact R.err h _ (if_neg fun z => a3 z.2.2)
  refine br_n (fun _ => ?_) (fun z => absurd z (by decide))
  have ef : z_stand c s w σ = if w = 0 then (mfL (stS σ.1.1 σ.2.1 (nat c) s) 12 0 (0, 7)).1 else (mfL (stS σ.1.1 σ.2.1 (nat c) s) 12 0 (0, 7)).2 := if_pos ⟨a1, a2, a3⟩
  obtain ⟨u, hu, rfl, -⟩ := nI_ofx s (n := 10) a2 (by decide)
  have hu : u < 10 := by omega
  obtain ⟨k, hk, rfl, ek, lt⟩ := xin_ex R.c.1.2 (by omega) a1
  have k7 : k < 7 := by have := bel_nat R.c.1.2 (by omega); omega
  rw [ek] at ef
  obtain ⟨R0, eR⟩ : ∃ R0, R0 = mfL (stS σ.1.1 σ.2.1 k (nI u)) 12 0 (0, 7) := ⟨_, rfl⟩
  rw [← eR] at ef
  have rr := r1_at (i := k) (w := 2) k7 (by omega) (by omega)
  rw [nc5 (by omega) (by omega)] at rr
  have up : ∀ (f : Nat → Int32) (y x : Int32), tM f σ.1.1 (stX σ.2.1 k y) → tM (upd f (25 + 5 * k + 2) x) σ.1.1 (stX σ.2.1 k x) := by
    intro f y x TY
    refine TY.up (X' := stX σ.2.1 k x) R.c.1.1 R.c.1.2 k7 (by decide) x rfl (fun w j hw hj => ?_)
    rcases (show w = 0 ∨ w = 1 ∨ w = 2 by omega) with e | e | e
    all_goals subst e
    · show upd (σ.2.1.1 0) k x j = if 0 + 2 = 2 ∧ j = k then x else upd (σ.2.1.1 0) k y j
      by_cases ej : j = k
      · rw [ej, pk_us, if_pos ⟨rfl, rfl⟩]
      · have r : (if 0 + 2 = 2 ∧ j = k then x else upd (σ.2.1.1 0) k y j) = upd (σ.2.1.1 0) k y j := if_neg (fun z => ej z.2)
        rw [r, pk_un ej, pk_un ej]
    · exact (if_neg (fun z => absurd z.1 (by decide))).symm
    · exact (if_neg (fun z => absurd z.1 (by decide))).symm
  have back : ∀ f : Nat → Int32, tM f σ.1.1 (stX σ.2.1 k (σ.2.1.1 0 k)) → tM f σ.1.1 σ.2.1 := by
    intro f TY
    refine TY.ext rfl (fun w j hw hj => ?_)
    by_cases w0 : w = 0
    · subst w0
      show σ.2.1.1 0 j = upd (σ.2.1.1 0) k (σ.2.1.1 0 k) j
      by_cases e : j = k
      · rw [e, pk_us]
      · rw [pk_un e]
    · exact (congrFun (if_neg w0) j).symm
  refine xcall (sx_its F v k 2 k7 (by omega) 2 rfl (σ.2.1.1 0 k) (R.t.2.2.2.1 k k7).1 ?_)
  have key : ∀ (d i : Nat) (p q : Int32) (F' v' : xS), i + d = 12 → mR r1 F v F' v' → (∃ y, tM (F' 1) σ.1.1 (stX σ.2.1 k y)) → mfL (stS σ.1.1 σ.2.1 k (nI u)) d i (p, q) = R0 → xWP pg_M_stand K 49 [(0, .ref 0), (1, .int (nI k)), (2, .int (nI u)), (3, .int w), (4, .int (σ.2.1.1 0 k)), (5, .int p), (6, .int q), (7, .int (nI i))] [] (xfill F' v' 0 (wM0 0)) (0, 0) := by
    intro d
    induction d with
    | zero =>
      intro i p q F' v' hi E TT er
      obtain ⟨y, TY⟩ := TT
      have er : (p, q) = R0 := er
      rw [← er] at ef
      refine xWP_go 200 [(49, [0, 1, 2, 3, 4, 5, 6, 7])] fun P hP => ?_
      refine br_c (fun _ => ?_) (fun z => ?_)
      · refine xcall (sx_gets F' v' k 2 k7 (by omega) 2 rfl (σ.2.1.1 0 k) ?_)
        have T2 := back _ (up _ y (σ.2.1.1 0 k) TY)
        have RF : MR (n + 1) σ (va_up F' 1 (upd (F' 1) (25 + 5 * k + 2) (σ.2.1.1 0 k))) v' := R.tell (E.row rr) ⟨T2.2.2.2.1, T2.1.2.2.2, T2.2.2.2.2⟩ R.2.1.1
        refine br_n (fun y => ?_) (fun y => ?_)
        · rw [if_neg y] at ef
          rw [ef] at h
          exact h _ _ RF
        · rw [if_pos y] at ef
          rw [ef] at h
          exact h _ _ RF
      · have z : ¬ nI 12 ≤ nI i := z
        exact absurd (by rw [nI_leI (by omega) (by omega)]; omega) z
    | succ d ih =>
      intro i p q F' v' hi E TT er
      obtain ⟨y, TY⟩ := TT
      have er : mfL (stS σ.1.1 σ.2.1 k (nI u)) d (i + 1) (if stS σ.1.1 σ.2.1 k (nI u) i < q then (nI i, stS σ.1.1 σ.2.1 k (nI u) i) else (p, q)) = R0 := er
      refine xWP_go 200 [(49, [0, 1, 2, 3, 4, 5, 6, 7])] fun P hP => ?_
      refine br_c (fun z => ?_) (fun _ => ?_)
      · have z : nI 12 ≤ nI i := z
        rw [nI_leI (by omega) (by omega)] at z
        omega
      refine xcall (sx_gets F' v' k 2 k7 (by omega) 2 rfl (nI i) ?_)
      have E1 := E.row (x := nI i) rr
      have T1 := up _ y (nI i) TY
      have I1 : cIv σ.1.1 (stX σ.2.1 k (nI i)) := R.c.ch lt (Or.inl ⟨rfl, ⟨i, by omega, rfl⟩⟩)
      refine xcall (sx_hadOften (va_up F' 1 (upd (F' 1) (25 + 5 * k + 2) (nI i))) v' σ.1.1 (stX σ.2.1 k (nI i)) T1 I1 (nI k) u hu (fun F2 v2 E2 => ?_))
      rw [E.v (j := 15) (by omega), R.tk, sm_0]
      have T3 : tM (F2 1) σ.1.1 (stX σ.2.1 k (nI i)) := T1.of R.c.1.1 R.c.1.2 (fun j hj => E2.2.1 j hj rfl)
      have E3 := E1.tr E2.c0
      refine br_c (fun z => ?_) (fun z => ?_)
      · refine br_c (fun z2 => ?_) (fun z2 => absurd z z2)
        have z : q ≤ stS σ.1.1 σ.2.1 k (nI u) i := z
        rw [if_neg (fun y => by rw [xlt] at y; rw [xle] at z; omega)] at er
        refine hP _ _ _ _ _ ?_
        rw [nI_1]
        exact ih (i + 1) _ _ F2 v2 (by omega) E3 ⟨_, T3⟩ er
      · refine br_c (fun z2 => absurd z2 z) (fun z2 => ?_)
        have z : ¬ q ≤ stS σ.1.1 σ.2.1 k (nI u) i := z
        rw [if_pos (by rw [xlt]; rw [xle] at z; omega)] at er
        refine hP _ _ _ _ _ ?_
        rw [nI_1]
        exact ih (i + 1) _ _ F2 v2 (by omega) E3 ⟨_, T3⟩ er
  refine hP _ _ _ _ _ ?_
  refine key 12 0 _ _ F v (by omega) mR.rf ⟨σ.2.1.1 0 k, R.t.ext rfl (fun w j hw hj => ?_)⟩ eR.symm
  by_cases w0 : w = 0
  · subst w0
    show upd (σ.2.1.1 0) k (σ.2.1.1 0 k) j = σ.2.1.1 0 j
    by_cases e : j = k
    · rw [e, pk_us]
    · rw [pk_un e]
  · exact congrFun (if_neg w0) j
-- odds
def sfN (s : xS) (X : xXt) (c t : Int32) : Nat := if c = X.2.1 then 0 else 6 - hofN s X c t
def odV (part k : Int32) (x : Nat) : Int32 := (if part = 0 then k else 6) / nI (Nat.gcd x 6)
def z_odds (c t w : Int32) (σ : xZ) : Int32 := if xin c (σ.1.1 6 1).toInt ∧ xin t 10 ∧ xin w 2 then odV w (nI (sfN σ.1.1 σ.2.1 c t)) (sfN σ.1.1 σ.2.1 c t) else -1000000001
theorem six_sub {k : Nat} (h : k ≤ 6) : (6 : Int32) - nI k = nI (6 - k) := by
  have q : ∀ k : Fin 7, (6 : Int32) - nI k.val = nI (6 - k.val) := by decide +kernel
  exact q ⟨k, by omega⟩
set_option maxRecDepth 100000 in
theorem HX_odds (n : Nat) (σ : xZ) (F v : xS) (R : HR n σ F v) (c s w : Int32) {K : xKo} (h : hK n σ (z_odds c s w σ) K) : C_H_odds [.ref 0, .int c, .int s, .int w] (xfill F v 0 wH0) K := by
  have kk : ∀ (m x : Nat) (u y : Int32) (F' v' : xS), x ≤ 6 → 1 ≤ m → m ≤ 6 → (∀ j, m < j → j ≤ 6 → ¬ (x % j = 0 ∧ 6 % j = 0)) → hG F v F' v' → z_odds c s w σ = y / nI (Nat.gcd x 6) → xWP pg_H_odds K 75 [(0, .ref 0), (1, .int c), (2, .int u), (3, .int w), (4, .int (nI x)), (5, .int y), (6, .int (nI m))] [] (xfill F' v' 0 wH0) (0, 0) := by
    intro m
    induction m with
    | zero => intro x u y F' v' _ h1 _ _ _ _; exact absurd h1 (by decide)
    | succ m ih =>
      intro x u y F' v' hx h1 h6 hn E ef
      by_cases m0 : m = 0
      · subst m0
        have g1 : Nat.gcd x 6 = 1 := by
          have q : ∀ x : Fin 7, (∀ j : Fin 7, 1 < j.val → ¬ (x.val % j.val = 0 ∧ 6 % j.val = 0)) → Nat.gcd x.val 6 = 1 := by decide +kernel
          exact q ⟨x, by omega⟩ (fun j hj => hn j.val (by omega) (by have := j.isLt; omega))
        have e1 : y / nI 1 = y := by
          show y / 1 = y
          exact Int32.div_one
        rw [g1, e1] at ef
        refine xWP_go 200 [(75, [0, 1, 2, 3, 4, 5, 6])] fun P hP => ?_
        refine br_c (fun _ => ?_) (fun z => absurd (by decide) z)
        exact R.go h E ef
      · have ch : ∀ (x : Fin 7) (j : Fin 7), 2 ≤ j.val → (¬ nI j.val ≤ 1) ∧ (¬ nI j.val = 0) ∧ (nI x.val - nI x.val / nI j.val * nI j.val = 0 ↔ x.val % j.val = 0) ∧ (6 - 6 / nI j.val * nI j.val = 0 ↔ 6 % j.val = 0) := by decide +kernel
        obtain ⟨c1, c2, c3, c4⟩ := ch ⟨x, by omega⟩ ⟨m + 1, by omega⟩ (by show 2 ≤ m + 1; omega)
        have nx : ¬ (x % (m + 1) = 0 ∧ 6 % (m + 1) = 0) → xWP pg_H_odds K 75 [(0, .ref 0), (1, .int c), (2, .int u), (3, .int w), (4, .int (nI x)), (5, .int y), (6, .int (nI (m + 1) + -1))] [] (xfill F' v' 0 wH0) (0, 0) := by
          intro no
          have e : nI (m + 1) + -1 = nI m := by rw [am1, nI_pred]
          rw [e]
          refine ih x u y F' v' hx (by omega) (by omega) (fun j a b => ?_) E ef
          by_cases ej : j = m + 1
          · rw [ej]; exact no
          · exact hn j (by omega) b
        refine xWP_go 200 [(75, [0, 1, 2, 3, 4, 5, 6])] fun P hP => ?_
        refine br_c (fun z => absurd z c1) (fun _ => ?_)
        refine ⟨c2, ?_⟩
        refine br_n (fun z => ?_) (fun z => ?_)
        · refine hP _ _ _ _ _ ?_
          exact nx (fun y => z (c3.mpr y.1))
        refine ⟨c2, ?_⟩
        refine br_n (fun z2 => ?_) (fun z2 => ?_)
        · refine hP _ _ _ _ _ ?_
          exact nx (fun y => z2 (c4.mpr y.2))
        refine ⟨c2, ?_⟩
        have gm : Nat.gcd x 6 = m + 1 := by
          have q : ∀ (x : Fin 7) (m : Fin 7), 2 ≤ m.val → x.val % m.val = 0 → 6 % m.val = 0 → (∀ j : Fin 7, m.val < j.val → ¬ (x.val % j.val = 0 ∧ 6 % j.val = 0)) → Nat.gcd x.val 6 = m.val := by decide +kernel
          exact q ⟨x, by omega⟩ ⟨m + 1, by omega⟩ (by show 2 ≤ m + 1; omega) (c3.mp z) (c4.mp z2) (fun j hj => hn j.val hj (by have := j.isLt; omega))
        rw [gm] at ef
        exact R.go h E ef
  have k56 : ∀ (x : Nat) (u : Int32) (F' v' : xS), x ≤ 6 → hG F v F' v' → z_odds c s w σ = odV w (nI x) x → xWP pg_H_odds K 56 [(0, .ref 0), (1, .int c), (2, .int u), (3, .int w)] [.int (nI x)] (xfill F' v' 0 wH0) (0, 0) := by
    intro x u F' v' hx E ef
    unfold odV at ef
    have k75 := fun y ef => kk 6 x u y F' v' hx (by decide) (by decide) (fun j a b => by omega) E ef
    refine xWP_go 200 [(75, [0, 1, 2, 3, 4, 5, 6])] fun P hP => ?_
    refine br_n (fun z => ?_) (fun z => ?_)
    · rw [if_neg z] at ef
      refine hP _ _ _ _ _ ?_
      exact k75 _ ef
    · rw [if_pos z] at ef
      refine hP _ _ _ _ _ ?_
      exact k75 _ ef
  refine xM_go rfl 200 [(56, [0, 1, 2, 3])] fun P hP => ?_
  refine xcall (sp_isChild F v _ (fun a1 => ?_) (fun a1 => ?_))
  · rw [R.n1.2.1] at a1
    refine br_c (fun _ => ?_) (fun z => absurd rfl z)
    refine xcall (sp_errH F v 1 (by decide) ?_)
    exact R.err h _ (if_neg fun z => a1 z.1)
  rw [R.n1.2.1] at a1
  refine br_c (fun z => absurd z (by decide)) (fun _ => ?_)
  refine xcall (sp_isSteps _ (fun a2 => ?_) (fun a2 => ?_))
  · refine br_c (fun _ => ?_) (fun z => absurd rfl z)
    refine xcall (sp_errH F v 1 (by decide) ?_)
    exact R.err h _ (if_neg fun z => a2 z.2.1)
  refine br_c (fun z => absurd z (by decide)) (fun _ => ?_)
  refine xcall (sp_isBelow _ _ (fun a3 => ?_) (fun a3 => ?_))
  · refine br_n (fun z => absurd rfl z) (fun _ => ?_)
    refine xcall (sp_errH F v 1 (by decide) ?_)
    exact R.err h _ (if_neg fun z => a3 z.2.2)
  refine br_n (fun _ => ?_) (fun z => absurd z (by decide))
  have ef : z_odds c s w σ = odV w (nI (sfN σ.1.1 σ.2.1 c s)) (sfN σ.1.1 σ.2.1 c s) := if_pos ⟨a1, a2, a3⟩
  have e9 : v 1 9 = σ.2.1.2.1 := R.t.1.2.2.2
  refine br_n (fun z => ?_) (fun z => ?_)
  · have z : ¬ c = v 1 9 := z
    rw [e9] at z
    obtain ⟨u, hu, rfl, -⟩ := nI_ofx s (n := 10) a2 (by decide)
    have es : sfN σ.1.1 σ.2.1 c (nI u) = 6 - hofN σ.1.1 σ.2.1 c (nI u) := if_neg z
    rw [es, ← six_sub hofN_le] at ef
    refine xcall (sx_marksThatHave (fun k => F (1 + k)) (fun k => v (1 + k)) σ.1.1 σ.2.1 R.t R.c c u (by omega) (fun G w2 E2 => ?_))
    refine hP _ _ _ _ _ ?_
    have q := k56 (6 - hofN σ.1.1 σ.2.1 c (nI u)) (nI u) (upS 1 F G) (upS 1 v w2) (by omega) (hG.e1 E2) (by rw [← six_sub hofN_le]; exact ef)
    rw [← six_sub hofN_le] at q
    exact q
  · have z : c = v 1 9 := z
    rw [e9] at z
    have es : sfN σ.1.1 σ.2.1 c s = 0 := if_pos z
    rw [es] at ef
    refine hP _ _ _ _ _ ?_
    exact k56 0 s F v (by decide) tR.rf ef
theorem sx_divisor (x : Nat) (hx : x ≤ 6) {K : xKo} (h : K (some (.int (nI (Nat.gcd x 6)))) []) : C_M_divisor [.int (nI x), .int 6] [] K := by
  have key : ∀ (m a b : Nat), b ≤ m → a ≤ 6 → b ≤ 6 → (¬ (a = 0 ∧ b = 0)) → Nat.gcd a b = Nat.gcd x 6 → ∀ l : Int32 × Int32, xWP pg_M_divisor K 4 [(0, .int l.1), (1, .int l.2), (2, .int (nI a)), (3, .int (nI b))] [] [] (0, 0) := by
    intro m
    induction m with
    | zero =>
      intro a b hb ha h6 nz eg l
      have b0 : b = 0 := by omega
      subst b0
      rw [Nat.gcd_zero_right] at eg
      refine xWP_go 100 [(4, [0, 1, 2, 3])] fun P hP => ?_
      refine br_c (fun _ => ?_) (fun z => absurd rfl z)
      rw [eg]
      exact h
    | succ m ih =>
      intro a b hb ha h6 nz eg l
      refine xWP_go 100 [(4, [0, 1, 2, 3])] fun P hP => ?_
      by_cases b0 : b = 0
      · subst b0
        rw [Nat.gcd_zero_right] at eg
        refine br_c (fun _ => ?_) (fun z => absurd rfl z)
        rw [eg]
        exact h
      · have nb : ¬ nI b = 0 := nI_ne0 (by omega) (by omega)
        refine br_c (fun z => absurd z nb) (fun _ => ?_)
        refine ⟨nb, ?_⟩
        have q : ∀ (a b : Fin 7), 0 < b.val → nI a.val - nI a.val / nI b.val * nI b.val = nI (a.val % b.val) ∧ Nat.gcd b.val (a.val % b.val) = Nat.gcd a.val b.val := by decide +kernel
        obtain ⟨e1, e2⟩ := q ⟨a, by omega⟩ ⟨b, by omega⟩ (by show 0 < b; omega)
        have lm := Nat.mod_lt a (show 0 < b by omega)
        refine hP _ _ _ _ _ ?_
        have r := ih b (a % b) (by omega) h6 (by omega) (fun z => b0 z.1) (e2.trans eg) l
        rw [← e1] at r
        exact r
  refine xM_go rfl 60 [(4, [0, 1, 2, 3])] fun P hP => ?_
  refine hP _ _ _ _ _ ?_
  exact key 6 x 6 (Nat.le_refl _) hx (Nat.le_refl _) (fun z => absurd z.2 (by decide)) rfl (nI x, 6)
set_option maxRecDepth 100000 in
theorem MX_odds (n : Nat) (σ : xZ) (F v : xS) (R : MR n σ F v) (c s w : Int32) {K : xKo} (h : mK n σ (z_odds c s w σ) K) : C_M_odds [.ref 0, .int c, .int s, .int w] (xfill F v 0 (wM0 0)) K := by
  have go : ∀ (x : Nat) (u : Int32) (F' v' : xS), x ≤ 6 → mR r0 F v F' v' → z_odds c s w σ = odV w (nI x) x → xWP pg_M_odds K 55 [(0, .ref 0), (1, .int c), (2, .int u), (3, .int w)] [.int (nI x)] (xfill F' v' 0 (wM0 0)) (0, 0) := by
    intro x u F' v' hx E ef
    unfold odV at ef
    have ng : ¬ nI (Nat.gcd x 6) = 0 := by
      have q : ∀ x : Fin 7, ¬ nI (Nat.gcd x.val 6) = 0 := by decide +kernel
      exact q ⟨x, by omega⟩
    refine xWP_go 100 [] fun P hP => ?_
    refine xcall (sx_divisor x hx ?_)
    refine br_n (fun z => ⟨ng, ?_⟩) (fun z => ⟨ng, ?_⟩)
    · rw [if_neg z] at ef
      exact R.go h E ef
    · rw [if_pos z] at ef
      exact R.go h E ef
  refine xM_go rfl 200 [(55, [0, 1, 2, 3])] fun P hP => ?_
  refine xcall (sp_isChildM F v _ R.J.1.1.2.1 (fun a1 => ?_) (fun a1 => ?_))
  · rw [R.n1.2.1] at a1
    refine br_c (fun _ => ?_) (fun z => absurd rfl z)
    refine xcall (sp_errM F v (-1000000001) 1 (by decide) (by decide) ?_)
    exact R.err h _ (if_neg fun z => a1 z.1)
  rw [R.n1.2.1] at a1
  refine br_c (fun z => absurd z (by decide)) (fun _ => ?_)
  refine xcall (sp_areSteps _ (fun a2 => ?_) (fun a2 => ?_))
  · refine br_c (fun _ => ?_) (fun z => absurd rfl z)
    refine xcall (sp_errM F v (-1000000001) 1 (by decide) (by decide) ?_)
    exact R.err h _ (if_neg fun z => a2 z.2.1)
  refine br_c (fun z => absurd z (by decide)) (fun _ => ?_)
  refine xcall (sp_inx _ 1 2 (by decide) (fun a3 => ?_) (fun a3 => ?_))
  · refine br_n (fun z => absurd rfl z) (fun _ => ?_)
    refine xcall (sp_errM F v (-1000000001) 1 (by decide) (by decide) ?_)
    exact R.err h _ (if_neg fun z => a3 z.2.2)
  refine br_n (fun _ => ?_) (fun z => absurd z (by decide))
  have ef : z_odds c s w σ = odV w (nI (sfN σ.1.1 σ.2.1 c s)) (sfN σ.1.1 σ.2.1 c s) := if_pos ⟨a1, a2, a3⟩
  have e8 : F 1 (Int32.toNatClampNeg 8) = σ.2.1.2.1 := R.t.1.2.2.2
  refine ⟨vin (by decide), ?_⟩
  refine br_n (fun z => ?_) (fun z => ?_)
  · have z : ¬ c = F 1 (Int32.toNatClampNeg 8) := z
    rw [e8] at z
    obtain ⟨u, hu, rfl, -⟩ := nI_ofx s (n := 10) a2 (by decide)
    have es : sfN σ.1.1 σ.2.1 c (nI u) = 6 - hofN σ.1.1 σ.2.1 c (nI u) := if_neg z
    rw [es] at ef
    refine xcall (sx_hadOften F v σ.1.1 σ.2.1 R.t R.c c u (by omega) (fun F' v' E => ?_))
    rw [eS0 R]
    have q := go (6 - hofN σ.1.1 σ.2.1 c (nI u)) (nI u) F' v' (by omega) E ef
    rw [← six_sub hofN_le] at q
    exact hP _ _ _ _ _ q
  · have z : c = F 1 (Int32.toNatClampNeg 8) := z
    rw [e8] at z
    have es : sfN σ.1.1 σ.2.1 c s = 0 := if_pos z
    rw [es] at ef
    exact hP _ _ _ _ _ (go 0 s F v (by decide) mR.rf ef)
