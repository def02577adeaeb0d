/-! ===== the reference: searches by marks ===== -/
theorem sx_players (F v s : xS) (X : xXt) (T : tM (F 1) s X) (hit : X.2.1 < 0 ↔ X.2.1 = -1) {K : xKo} (h : K (some (.int (rnV s X))) (xfill F v 0 (wM0 0))) : C_M_players [.ref 0] (xfill F v 0 (wM0 0)) K := by
  unfold rnV at h
  have e8 : F 1 (Int32.toNatClampNeg 8) = X.2.1 := T.1.2.2.2
  have e2 : F 1 (Int32.toNatClampNeg 2) = s 6 1 := T.1.2.1
  refine xM_go rfl 100 [] fun P hP => ?_
  refine ⟨vin (by decide), ?_⟩
  refine br_c (fun d => ?_) (fun d => ?_)
  · have d : 0 ≤ F 1 (Int32.toNatClampNeg 8) := d
    rw [e8] at d
    rw [if_neg (fun z => by have q := hit.mpr z; rw [xlt] at q; rw [xle] at d; omega), ← e2] at h
    refine ⟨vin (by decide), ?_⟩
    exact h
  · have d : ¬ 0 ≤ F 1 (Int32.toNatClampNeg 8) := d
    rw [e8] at d
    rw [if_pos (hit.mp (by rw [xlt]; rw [xle] at d; omega)), ← e2] at h
    refine ⟨vin (by decide), ?_⟩
    exact h
theorem sc_1 {s : xS} {X : xXt} {t : Int32} {i : Nat} : scV 1 s X t i = nI (cnN s X (nI i) t) := by
  unfold scV sV
  rw [if_neg (show ¬ (1 : Int32) = 0 by decide), if_neg (show ¬ (1 : Int32) = 2 by decide)]
theorem sc_0 {s : xS} {X : xXt} {t : Int32} {i : Nat} : scV 0 s X t i = -(nI (cnN s X (nI i) t)) := by
  unfold scV sV
  rw [if_pos rfl]
theorem sc_2 {s : xS} {X : xXt} {t : Int32} {i : Nat} : scV 2 s X t i = abV (nI (cnN s X (nI i) t) - (rnV s X - nI (cnN s X (nI i) t))) := by
  unfold scV sV
  rw [if_neg (show ¬ (2 : Int32) = 0 by decide), if_pos rfl]
set_option maxRecDepth 100000 in
theorem MX_best (n : Nat) (σ : xZ) (F v : xS) (R : MR n σ F v) (s w : Int32) {K : xKo} (h : mK n σ (z_mark 1 s w σ) K) : C_M_best [.ref 0, .int s, .int w] (xfill F v 0 (wM0 0)) K := by
  refine xM_go rfl 200 [(32, [0, 1, 2, 3, 4, 5])] fun P hP => ?_
  refine xcall (sp_areSteps _ (fun a1 => ?_) (fun a1 => ?_))
  · refine br_c (fun _ => ?_) (fun z => absurd rfl z)
    refine xcall (sp_errM F v (-1000000001) 1 (by decide) (by decide) ?_)
    exact R.err h _ (if_neg fun z => a1 z.1)
  refine br_c (fun z => absurd z (by decide)) (fun _ => ?_)
  refine xcall (sp_inx _ 1 2 (by decide) (fun a2 => ?_) (fun a2 => ?_))
  · refine br_n (fun z => absurd rfl z) (fun _ => ?_)
    refine xcall (sp_errM F v (-1000000001) 1 (by decide) (by decide) ?_)
    exact R.err h _ (if_neg fun z => a2 z.2)
  refine br_n (fun _ => ?_) (fun z => absurd z (by decide))
  have ef : z_mark 1 s w σ = if w = 0 then (mfL (scV 1 σ.1.1 σ.2.1 s) 6 0 (0, 8)).1 else abV (mfL (scV 1 σ.1.1 σ.2.1 s) 6 0 (0, 8)).2 := if_pos ⟨a1, a2⟩
  obtain ⟨u, hu, rfl, -⟩ := nI_ofx s (n := 10) a1 (by decide)
  have hu : u < 10 := by omega
  obtain ⟨R0, e0⟩ : ∃ R0, R0 = mfL (scV 1 σ.1.1 σ.2.1 (nI u)) 6 0 (0, 8) := ⟨_, rfl⟩
  rw [← e0] at ef
  have key : ∀ (d i : Nat) (p : Int32) (q : Nat) (F' v' : xS), i + d = 6 → q ≤ 8 → mR r0 F v F' v' → mfL (scV 1 σ.1.1 σ.2.1 (nI u)) d i (p, nI q) = R0 → xWP pg_M_best K 32 [(0, .ref 0), (1, .int (nI u)), (2, .int w), (3, .int p), (4, .int (nI q)), (5, .int (nI i))] [] (xfill F' v' 0 (wM0 0)) (0, 0) := by
    intro d
    induction d with
    | zero =>
      intro i p q F' v' hi hq E er
      have er : (p, nI q) = R0 := er
      rw [← er] at ef
      have ea : abV (nI q) = nI q := if_pos (nI_pos' (by omega))
      refine xWP_go 200 [(32, [0, 1, 2, 3, 4, 5])] fun P hP => ?_
      refine br_c (fun _ => ?_) (fun z => ?_)
      · refine br_n (fun y => ?_) (fun y => ?_)
        · rw [if_neg y] at ef
          exact R.go h E (ef.trans ea)
        · rw [if_pos y] at ef
          exact R.go h E ef
      · have z : ¬ nI 6 ≤ nI i := z
        exact absurd (by rw [nI_leI (by omega) (by omega)]; omega) z
    | succ d ih =>
      intro i p q F' v' hi hq E er
      have er : mfL (scV 1 σ.1.1 σ.2.1 (nI u)) d (i + 1) (if scV 1 σ.1.1 σ.2.1 (nI u) i < nI q then (nI i, scV 1 σ.1.1 σ.2.1 (nI u) i) else (p, nI q)) = R0 := er
      rw [sc_1] at er
      have c7 := cnN_le R.c (b := nI i) (t := nI u)
      refine xWP_go 200 [(32, [0, 1, 2, 3, 4, 5])] fun P hP => ?_
      refine br_c (fun z => ?_) (fun _ => ?_)
      · have z : nI 6 ≤ nI i := z
        rw [nI_leI (by omega) (by omega)] at z
        omega
      have R' := R.keep E
      refine xcall (sx_wouldBe F' v' σ.1.1 σ.2.1 R'.t R.c (nI i) u hu (fun F2 v2 E2 => ?_))
      rw [eS0 R']
      refine xcall (sx_bits _ (stN (eHad σ.1.1 σ.2.1 (nI i) (nI u)) (nat (σ.1.1 6 1))) rfl (by have := st128 R.c (b := nI i) (t := nI u); omega) ?_)
      have E3 := E.tr E2
      refine br_c (fun y => ?_) (fun y => ?_)
      · refine br_c (fun y2 => ?_) (fun y2 => absurd y y2)
        have y : nI q ≤ nI (cnN σ.1.1 σ.2.1 (nI i) (nI u)) := y
        rw [if_neg (fun z => by rw [xlt] at z; rw [xle] at y; omega)] at er
        refine hP _ _ _ _ _ ?_
        rw [nI_1]
        exact ih (i + 1) _ _ F2 v2 (by omega) hq E3 er
      · refine br_c (fun y2 => absurd y2 y) (fun y2 => ?_)
        have y : ¬ nI q ≤ nI (cnN σ.1.1 σ.2.1 (nI i) (nI u)) := y
        rw [if_pos (by rw [xlt]; rw [xle] at y; omega)] at er
        refine hP _ _ _ _ _ ?_
        rw [nI_1]
        exact ih (i + 1) _ (cnN σ.1.1 σ.2.1 (nI i) (nI u)) F2 v2 (by omega) (by omega) E3 er
  refine hP _ _ _ _ _ ?_
  exact key 6 0 0 8 F v (by omega) (by omega) mR.rf e0.symm
theorem ng_lt {c k : Nat} (hc : c ≤ 7) (hk : k ≤ 7) : -(nI c) < -(nI k) ↔ nI k < nI c := by
  have q : ∀ c k : Fin 8, decide (-(nI c.val) < -(nI k.val)) = decide (nI k.val < nI c.val) := by decide +kernel
  have e := q ⟨c, by omega⟩ ⟨k, by omega⟩
  exact decide_eq_decide.mp e
theorem ng_ab {k : Nat} (hk : k ≤ 7) : abV (-(nI k)) = nI k ∧ -(nI k) < 8 ∧ ¬ nI k ≤ -1 := by
  have q : ∀ k : Fin 8, abV (-(nI k.val)) = nI k.val ∧ -(nI k.val) < 8 ∧ ¬ nI k.val ≤ -1 := by decide +kernel
  exact q ⟨k, by omega⟩
set_option maxRecDepth 100000 in
theorem MX_worst (n : Nat) (σ : xZ) (F v : xS) (R : MR n σ F v) (s w : Int32) {K : xKo} (h : mK n σ (z_mark 0 s w σ) K) : C_M_worst [.ref 0, .int s, .int w] (xfill F v 0 (wM0 0)) K := by
  refine xM_go rfl 200 [(31, [0, 1, 2, 3, 4, 5])] fun P hP => ?_
  refine xcall (sp_areSteps _ (fun a1 => ?_) (fun a1 => ?_))
  · refine br_c (fun _ => ?_) (fun z => absurd rfl z)
    refine xcall (sp_errM F v (-1000000001) 1 (by decide) (by decide) ?_)
    exact R.err h _ (if_neg fun z => a1 z.1)
  refine br_c (fun z => absurd z (by decide)) (fun _ => ?_)
  refine xcall (sp_inx _ 1 2 (by decide) (fun a2 => ?_) (fun a2 => ?_))
  · refine br_n (fun z => absurd rfl z) (fun _ => ?_)
    refine xcall (sp_errM F v (-1000000001) 1 (by decide) (by decide) ?_)
    exact R.err h _ (if_neg fun z => a2 z.2)
  refine br_n (fun _ => ?_) (fun z => absurd z (by decide))
  have ef : z_mark 0 s w σ = if w = 0 then (mfL (scV 0 σ.1.1 σ.2.1 s) 6 0 (0, 8)).1 else abV (mfL (scV 0 σ.1.1 σ.2.1 s) 6 0 (0, 8)).2 := if_pos ⟨a1, a2⟩
  obtain ⟨u, hu, rfl, -⟩ := nI_ofx s (n := 10) a1 (by decide)
  have hu : u < 10 := by omega
  obtain ⟨R0, e0⟩ : ∃ R0, R0 = mfL (scV 0 σ.1.1 σ.2.1 (nI u)) 6 0 (0, 8) := ⟨_, rfl⟩
  rw [← e0] at ef
  have key : ∀ (d i : Nat) (p q q' : Int32) (F' v' : xS), i + d = 6 → ((∃ k, k ≤ 7 ∧ q = nI k ∧ q' = -(nI k)) ∨ (i = 0 ∧ q = -1 ∧ q' = 8)) → mR r0 F v F' v' → mfL (scV 0 σ.1.1 σ.2.1 (nI u)) d i (p, q') = R0 → xWP pg_M_worst K 31 [(0, .ref 0), (1, .int (nI u)), (2, .int w), (3, .int p), (4, .int q), (5, .int (nI i))] [] (xfill F' v' 0 (wM0 0)) (0, 0) := by
    intro d
    induction d with
    | zero =>
      intro i p q q' F' v' hi hq E er
      have er : (p, q') = R0 := er
      rw [← er] at ef
      rcases hq with ⟨k, hk, rfl, rfl⟩ | ⟨i0, -⟩
      · have ea := (ng_ab hk).1
        refine xWP_go 200 [(31, [0, 1, 2, 3, 4, 5])] fun P hP => ?_
        refine br_c (fun _ => ?_) (fun z => ?_)
        · refine br_n (fun y => ?_) (fun y => ?_)
          · rw [if_neg y] at ef
            exact R.go h E (ef.trans ea)
          · rw [if_pos y] at ef
            exact R.go h E ef
        · have z : ¬ nI 6 ≤ nI i := z
          exact absurd (by rw [nI_leI (by omega) (by omega)]; omega) z
      · omega
    | succ d ih =>
      intro i p q q' F' v' hi hq E er
      have er : mfL (scV 0 σ.1.1 σ.2.1 (nI u)) d (i + 1) (if scV 0 σ.1.1 σ.2.1 (nI u) i < q' then (nI i, scV 0 σ.1.1 σ.2.1 (nI u) i) else (p, q')) = R0 := er
      rw [sc_0] at er
      have c7 := cnN_le R.c (b := nI i) (t := nI u)
      have iff : (nI (cnN σ.1.1 σ.2.1 (nI i) (nI u)) ≤ q) ↔ ¬ (-(nI (cnN σ.1.1 σ.2.1 (nI i) (nI u))) < q') := by
        rcases hq with ⟨k, hk, rfl, rfl⟩ | ⟨i0, rfl, rfl⟩
        · rw [ng_lt c7 hk, nI_leI (by omega) (by omega), nI_ltI (by omega) (by omega)]
          omega
        · obtain ⟨-, b, c⟩ := ng_ab c7
          exact ⟨fun z => absurd z c, fun z => absurd b z⟩
      refine xWP_go 200 [(31, [0, 1, 2, 3, 4, 5])] fun P hP => ?_
      refine br_c (fun z => ?_) (fun _ => ?_)
      · have z : nI 6 ≤ nI i := z
        rw [nI_leI (by omega) (by omega)] at z
        omega
      have R' := R.keep E
      refine xcall (sx_wouldBe F' v' σ.1.1 σ.2.1 R'.t R.c (nI i) u hu (fun F2 v2 E2 => ?_))
      rw [eS0 R']
      refine xcall (sx_bits _ (stN (eHad σ.1.1 σ.2.1 (nI i) (nI u)) (nat (σ.1.1 6 1))) rfl (by have := st128 R.c (b := nI i) (t := nI u); omega) ?_)
      have E3 := E.tr E2
      refine br_c (fun y => ?_) (fun y => ?_)
      · refine br_c (fun y2 => ?_) (fun y2 => absurd y y2)
        have y : nI (cnN σ.1.1 σ.2.1 (nI i) (nI u)) ≤ q := y
        rw [if_neg (iff.mp y)] at er
        refine hP _ _ _ _ _ ?_
        rw [nI_1]
        refine ih (i + 1) _ _ _ F2 v2 (by omega) (Or.inl ?_) E3 er
        rcases hq with z | ⟨i0, q1, -⟩
        · exact z
        · rw [q1] at y
          exact absurd y (ng_ab c7).2.2
      · refine br_c (fun y2 => absurd y2 y) (fun y2 => ?_)
        have y : ¬ nI (cnN σ.1.1 σ.2.1 (nI i) (nI u)) ≤ q := y
        have y3 : -(nI (cnN σ.1.1 σ.2.1 (nI i) (nI u))) < q' := by
          by_cases z : -(nI (cnN σ.1.1 σ.2.1 (nI i) (nI u))) < q'
          · exact z
          · exact absurd (iff.mpr z) y
        rw [if_pos y3] at er
        refine hP _ _ _ _ _ ?_
        rw [nI_1]
        exact ih (i + 1) _ _ _ F2 v2 (by omega) (Or.inl ⟨_, c7, rfl, rfl⟩) E3 er
  refine hP _ _ _ _ _ ?_
  exact key 6 0 0 (-1) 8 F v (by omega) (Or.inr ⟨rfl, rfl, rfl⟩) mR.rf e0.symm
theorem ab_lt (x : Int32) : (if x < 0 then -x else x) = abV x := by
  unfold abV
  by_cases h : x < 0
  · rw [if_pos h, if_neg (fun z => by rw [xlt] at h; rw [xle] at z; omega)]
  · rw [if_neg h, if_pos (by rw [xle]; rw [xlt] at h; omega)]
theorem rn_in {s : xS} {X : xXt} (I : cIv s X) : ∃ k, k ≤ 8 ∧ rnV s X = nI k - 1 := by
  obtain ⟨c, hc, e⟩ := I.1.2
  unfold rnV
  rw [e]
  split
  · exact ⟨c + 1, by omega, (nI_pred c).symm⟩
  · exact ⟨c, by omega, rfl⟩
theorem pa_eq {a k : Nat} (ha : a ≤ 7) (hk : k ≤ 8) : nI a - (nI k - 1 - nI a) = 2 * nI a - (nI k - 1) ∧ ∃ j, j ≤ 15 ∧ abV (2 * nI a - (nI k - 1)) = nI j := by
  have q : ∀ (a : Fin 8) (k : Fin 9), nI a.val - (nI k.val - 1 - nI a.val) = 2 * nI a.val - (nI k.val - 1) ∧ ∃ j : Fin 16, abV (2 * nI a.val - (nI k.val - 1)) = nI j.val := by decide +kernel
  obtain ⟨e, j, ej⟩ := q ⟨a, by omega⟩ ⟨k, by omega⟩
  exact ⟨e, j.val, by have := j.isLt; omega, ej⟩
set_option maxRecDepth 100000 in
theorem MX_parts (n : Nat) (σ : xZ) (F v : xS) (R : MR n σ F v) (s w : Int32) {K : xKo} (h : mK n σ (z_mark 2 s w σ) K) : C_M_parts [.ref 0, .int s, .int w] (xfill F v 0 (wM0 0)) K := by
  refine xM_go rfl 200 [(32, [0, 1, 2, 3, 4, 5]), (73, [0, 1, 2, 3, 4, 5, 6])] fun P hP => ?_
  refine xcall (sp_areSteps _ (fun a1 => ?_) (fun a1 => ?_))
  · refine br_c (fun _ => ?_) (fun z => absurd rfl z)
    refine xcall (sp_errM F v (-1000000001) 1 (by decide) (by decide) ?_)
    exact R.err h _ (if_neg fun z => a1 z.1)
  refine br_c (fun z => absurd z (by decide)) (fun _ => ?_)
  refine xcall (sp_inx _ 1 2 (by decide) (fun a2 => ?_) (fun a2 => ?_))
  · refine br_n (fun z => absurd rfl z) (fun _ => ?_)
    refine xcall (sp_errM F v (-1000000001) 1 (by decide) (by decide) ?_)
    exact R.err h _ (if_neg fun z => a2 z.2)
  refine br_n (fun _ => ?_) (fun z => absurd z (by decide))
  have ef : z_mark 2 s w σ = if w = 0 then (mfL (scV 2 σ.1.1 σ.2.1 s) 6 0 (0, 8)).1 else abV (mfL (scV 2 σ.1.1 σ.2.1 s) 6 0 (0, 8)).2 := if_pos ⟨a1, a2⟩
  obtain ⟨u, hu, rfl, -⟩ := nI_ofx s (n := 10) a1 (by decide)
  have hu : u < 10 := by omega
  obtain ⟨R0, e0⟩ : ∃ R0, R0 = mfL (scV 2 σ.1.1 σ.2.1 (nI u)) 6 0 (0, 8) := ⟨_, rfl⟩
  rw [← e0] at ef
  obtain ⟨rk, hrk, erk⟩ := rn_in R.c
  have key : ∀ (d i : Nat) (p : Int32) (q : Nat) (F' v' : xS), i + d = 6 → q ≤ 15 → mR r0 F v F' v' → mfL (scV 2 σ.1.1 σ.2.1 (nI u)) d i (p, nI q) = R0 → xWP pg_M_parts K 32 [(0, .ref 0), (1, .int (nI u)), (2, .int w), (3, .int p), (4, .int (nI q)), (5, .int (nI i))] [] (xfill F' v' 0 (wM0 0)) (0, 0) := by
    intro d
    induction d with
    | zero =>
      intro i p q F' v' hi hq E er
      have er : (p, nI q) = R0 := er
      rw [← er] at ef
      have ea : abV (nI q) = nI q := if_pos (nI_pos' (by omega))
      refine xWP_go 200 [(32, [0, 1, 2, 3, 4, 5]), (73, [0, 1, 2, 3, 4, 5, 6])] fun P hP => ?_
      refine br_c (fun _ => ?_) (fun z => ?_)
      · refine br_n (fun y => ?_) (fun y => ?_)
        · rw [if_neg y] at ef
          exact R.go h E (ef.trans ea)
        · rw [if_pos y] at ef
          exact R.go h E ef
      · have z : ¬ nI 6 ≤ nI i := z
        exact absurd (by rw [nI_leI (by omega) (by omega)]; omega) z
    | succ d ih =>
      intro i p q F' v' hi hq E er
      have er : mfL (scV 2 σ.1.1 σ.2.1 (nI u)) d (i + 1) (if scV 2 σ.1.1 σ.2.1 (nI u) i < nI q then (nI i, scV 2 σ.1.1 σ.2.1 (nI u) i) else (p, nI q)) = R0 := er
      have c7 := cnN_le R.c (b := nI i) (t := nI u)
      obtain ⟨c, ec⟩ : ∃ c, c = cnN σ.1.1 σ.2.1 (nI i) (nI u) := ⟨_, rfl⟩
      rw [← ec] at c7
      obtain ⟨pe, j, hj, ej⟩ := pa_eq c7 hrk
      have esc : scV 2 σ.1.1 σ.2.1 (nI u) i = nI j := by rw [sc_2, ← ec, erk, pe, ej]
      rw [esc] at er
      refine xWP_go 200 [(32, [0, 1, 2, 3, 4, 5]), (73, [0, 1, 2, 3, 4, 5, 6])] fun P hP => ?_
      refine br_c (fun z => ?_) (fun _ => ?_)
      · have z : nI 6 ≤ nI i := z
        rw [nI_leI (by omega) (by omega)] at z
        omega
      have R' := R.keep E
      refine xcall (sx_wouldBe F' v' σ.1.1 σ.2.1 R'.t R.c (nI i) u hu (fun F2 v2 E2 => ?_))
      rw [eS0 R']
      refine xcall (sx_bits _ (stN (eHad σ.1.1 σ.2.1 (nI i) (nI u)) (nat (σ.1.1 6 1))) rfl (by have := st128 R.c (b := nI i) (t := nI u); omega) ?_)
      have E3 := E.tr E2
      refine xcall (sx_players F2 v2 σ.1.1 σ.2.1 (R.keep E3).t R.c.hit ?_)
      have k73 : ∀ a : Int32, a = nI j → xWP pg_M_parts K 73 [(0, .ref 0), (1, .int (nI u)), (2, .int w), (3, .int p), (4, .int (nI q)), (5, .int (nI i)), (6, .int a)] [] (xfill F2 v2 0 (wM0 0)) (0, 0) := by
        intro a ea
        subst ea
        refine xWP_go 200 [(32, [0, 1, 2, 3, 4, 5])] fun P hP => ?_
        refine br_c (fun y => ?_) (fun y => ?_)
        · refine br_c (fun y2 => ?_) (fun y2 => absurd y y2)
          have y : nI q ≤ nI j := y
          rw [if_neg (fun z => by rw [xlt] at z; rw [xle] at y; omega)] at er
          refine hP _ _ _ _ _ ?_
          rw [nI_1]
          exact ih (i + 1) _ _ F2 v2 (by omega) hq E3 er
        · refine br_c (fun y2 => absurd y2 y) (fun y2 => ?_)
          have y : ¬ nI q ≤ nI j := y
          rw [if_pos (by rw [xlt]; rw [xle] at y; omega)] at er
          refine hP _ _ _ _ _ ?_
          rw [nI_1]
          exact ih (i + 1) _ _ F2 v2 (by omega) hj E3 er
      have e2 : 2 * nI (popN (stN (eHad σ.1.1 σ.2.1 (nI i) (nI u)) (nat (σ.1.1 6 1)))) - rnV σ.1.1 σ.2.1 = 2 * nI c - (nI rk - 1) := by rw [erk, ec]; rfl
      refine br_c (fun y => ?_) (fun y => ?_)
      · have y : 0 ≤ 2 * nI (popN (stN (eHad σ.1.1 σ.2.1 (nI i) (nI u)) (nat (σ.1.1 6 1)))) - rnV σ.1.1 σ.2.1 := y
        rw [e2] at y
        refine hP _ _ _ _ _ (k73 _ ?_)
        show 2 * nI (popN (stN (eHad σ.1.1 σ.2.1 (nI i) (nI u)) (nat (σ.1.1 6 1)))) - rnV σ.1.1 σ.2.1 = nI j
        rw [e2, ← ej]
        exact (if_pos y).symm
      · have y : ¬ 0 ≤ 2 * nI (popN (stN (eHad σ.1.1 σ.2.1 (nI i) (nI u)) (nat (σ.1.1 6 1)))) - rnV σ.1.1 σ.2.1 := y
        rw [e2] at y
        refine hP _ _ _ _ _ (k73 _ ?_)
        show -(2 * nI (popN (stN (eHad σ.1.1 σ.2.1 (nI i) (nI u)) (nat (σ.1.1 6 1)))) - rnV σ.1.1 σ.2.1) = nI j
        rw [e2, ← ej]
        exact (if_neg y).symm
  refine hP _ _ _ _ _ ?_
  exact key 6 0 0 8 F v (by omega) (by omega) mR.rf e0.symm
set_option maxRecDepth 100000 in
theorem MX_steps (n : Nat) (σ : xZ) (F v : xS) (R : MR n σ F v) (m : Int32) {K : xKo} (h : mK n σ (z_steps m σ) K) : C_M_steps [.ref 0, .int m] (xfill F v 0 (wM0 0)) K := by
  refine xM_go rfl 200 [(16, [0, 1, 2]), (37, [0, 1, 2])] fun P hP => ?_
  refine xcall (sp_isMark _ (fun a1 => ?_) (fun a1 => ?_))
  · refine br_n (fun z => absurd rfl z) (fun _ => ?_)
    refine xcall (sp_errM F v (-1000000001) 1 (by decide) (by decide) ?_)
    exact R.err h _ (if_neg a1)
  refine br_n (fun _ => ?_) (fun z => absurd z (by decide))
  have ef : z_steps m σ = stpL σ.1.1 σ.2.1 m 10 0 := if_pos a1
  have k37 : ∀ (i : Nat) (F' v' : xS), i ≤ 10 → (if i ≤ 9 then nI i else -1000000002) = stpL σ.1.1 σ.2.1 m 10 0 → mR r0 F v F' v' → xWP pg_M_steps K 37 [(0, .ref 0), (1, .int m), (2, .int (nI i))] [] (xfill F' v' 0 (wM0 0)) (0, 0) := by
    intro i F' v' hi er E
    refine xWP_go 200 [] fun P hP => ?_
    refine br_c (fun y => ?_) (fun y => ?_)
    · have y : nI i ≤ nI 9 := y
      rw [nI_leI (by omega) (by omega)] at y
      rw [if_pos y] at er
      exact R.go h E (ef.trans er.symm)
    · have y : ¬ nI i ≤ nI 9 := y
      rw [nI_leI (by omega) (by omega)] at y
      rw [if_neg y] at er
      refine xcall (sp_errM F' v' (-1000000002) 2 (by decide) (by decide) ?_)
      exact R.go h (E.f3 (Or.inr (Or.inr rfl))) (ef.trans er.symm)
  have key : ∀ (d i : Nat) (F' v' : xS), i + d = 10 → mR r0 F v F' v' → stpL σ.1.1 σ.2.1 m d i = stpL σ.1.1 σ.2.1 m 10 0 → xWP pg_M_steps K 16 [(0, .ref 0), (1, .int m), (2, .int (nI i))] [] (xfill F' v' 0 (wM0 0)) (0, 0) := by
    intro d
    induction d with
    | zero =>
      intro i F' v' hi E er
      refine xWP_go 200 [(16, [0, 1, 2]), (37, [0, 1, 2])] fun P hP => ?_
      refine br_c (fun _ => ?_) (fun z => ?_)
      · exact hP _ _ _ _ _ (k37 i F' v' (by omega) (by rw [if_neg (by omega)]; exact er) E)
      · have z : ¬ nI 9 < nI i := z
        exact absurd (by rw [nI_ltI (by omega) (by omega)]; omega) z
    | succ d ih =>
      intro i F' v' hi E er
      have er : (if eSet σ.1.1 σ.2.1 m (nI i) = 0 then nI i else stpL σ.1.1 σ.2.1 m d (i + 1)) = stpL σ.1.1 σ.2.1 m 10 0 := er
      refine xWP_go 200 [(16, [0, 1, 2]), (37, [0, 1, 2])] fun P hP => ?_
      refine br_c (fun z => ?_) (fun _ => ?_)
      · have z : nI 9 < nI i := z
        rw [nI_ltI (by omega) (by omega)] at z
        omega
      have R' := R.keep E
      refine xcall (sx_wouldBe F' v' σ.1.1 σ.2.1 R'.t R.c m i (by omega) (fun F2 v2 E2 => ?_))
      rw [eS0 R']
      refine br_c (fun y => ?_) (fun y => ?_)
      · rw [if_pos y] at er
        exact hP _ _ _ _ _ (k37 i F2 v2 (by omega) (by rw [if_pos (by omega)]; exact er) (E.tr E2))
      · rw [if_neg y] at er
        refine hP _ _ _ _ _ ?_
        rw [nI_1]
        exact ih (i + 1) F2 v2 (by omega) (E.tr E2) er
  refine hP _ _ _ _ _ ?_
  exact key 10 0 F v (by omega) mR.rf rfl
theorem shl_b {x : Int32} (h : below 7 x) : below 128 ((1 : Int32) <<< (x &&& 31)) := by
  obtain ⟨k, hk, rfl⟩ := h
  have q : ∀ k : Fin 8, ∃ j : Fin 129, (1 : Int32) <<< (nI k.val &&& 31) = nI j.val := by decide +kernel
  obtain ⟨j, e⟩ := q ⟨k, by omega⟩
  exact ⟨j.val, by have := j.isLt; omega, e⟩
set_option maxRecDepth 100000 in
theorem MX_called (n : Nat) (σ : xZ) (F v : xS) (R : MR n σ F v) (c s : Int32) {K : xKo} (h : mK n σ (z_called c s σ) K) : C_M_called [.ref 0, .int c, .int s] (xfill F v 0 (wM0 0)) K := by
  have e2 : F 1 (Int32.toNatClampNeg 2) = σ.1.1 6 1 := R.n1.2.1
  have pre := in_pre (k := c) (shl_b R.c.1.2) (by omega)
  refine xM_go rfl 200 [(37, [0, 1, 2, 3, 4])] fun P hP => ?_
  refine ⟨vin (by decide), ?_⟩
  refine xcall (sp_in _ _ _ (fun a1 => ?_) (fun a1 => ?_))
  · have a1 : ¬ ((0 : Int32).toInt ≤ c.toInt ∧ c.toInt ≤ ((1 : Int32) <<< (F 1 (Int32.toNatClampNeg 2) &&& 31) - 1).toInt) := a1
    rw [e2] at a1
    refine br_c (fun _ => ?_) (fun z => absurd rfl z)
    refine xcall (sp_errM F v (-1000000001) 1 (by decide) (by decide) ?_)
    exact R.err h _ (if_neg fun z => a1 (pre.mpr z.1))
  have a1 : (0 : Int32).toInt ≤ c.toInt ∧ c.toInt ≤ ((1 : Int32) <<< (F 1 (Int32.toNatClampNeg 2) &&& 31) - 1).toInt := a1
  rw [e2] at a1
  have a1 := pre.mp a1
  refine br_c (fun z => absurd z (by decide)) (fun _ => ?_)
  refine xcall (sp_areSteps _ (fun a2 => ?_) (fun a2 => ?_))
  · refine br_n (fun z => absurd rfl z) (fun _ => ?_)
    refine xcall (sp_errM F v (-1000000001) 1 (by decide) (by decide) ?_)
    exact R.err h _ (if_neg fun z => a2 z.2)
  refine br_n (fun _ => ?_) (fun z => absurd z (by decide))
  have ef : z_called c s σ = nI (stN (fun b => decide (eSet σ.1.1 σ.2.1 (nI b) s = c)) 6) := if_pos ⟨a1, a2⟩
  obtain ⟨u, hu, rfl, -⟩ := nI_ofx s (n := 10) a2 (by decide)
  have hu : u < 10 := by omega
  obtain ⟨H, eH⟩ : ∃ H : Nat → Bool, H = fun b => decide (eSet σ.1.1 σ.2.1 (nI b) (nI u) = c) := ⟨_, rfl⟩
  rw [← eH] at ef
  have key : ∀ (d i : Nat) (F' v' : xS), i + d = 6 → mR r0 F v F' v' → xWP pg_M_called K 37 [(0, .ref 0), (1, .int c), (2, .int (nI u)), (3, .int (nI (stN H i))), (4, .int (nI i))] [] (xfill F' v' 0 (wM0 0)) (0, 0) := by
    intro d
    induction d with
    | zero =>
      intro i F' v' hi E
      have hi : i = 6 := hi
      subst hi
      refine xWP_go 200 [(37, [0, 1, 2, 3, 4])] fun P hP => ?_
      refine br_c (fun _ => ?_) (fun z => ?_)
      · exact R.go h E ef
      · have z : ¬ nI 6 ≤ nI 6 := z
        exact absurd (nI_le (Nat.le_refl _) (by omega)) z
    | succ d ih =>
      intro i F' v' hi E
      have est : stN H (i + 1) = if H i then stN H i + 2 ^ i else stN H i := rfl
      have eHi : H i = decide (eSet σ.1.1 σ.2.1 (nI i) (nI u) = c) := by rw [eH]
      refine xWP_go 200 [(37, [0, 1, 2, 3, 4])] fun P hP => ?_
      refine br_c (fun z => ?_) (fun _ => ?_)
      · have z : nI 6 ≤ nI i := z
        rw [nI_leI (by omega) (by omega)] at z
        omega
      have R' := R.keep E
      refine xcall (sx_wouldBe F' v' σ.1.1 σ.2.1 R'.t R.c (nI i) u hu (fun F2 v2 E2 => ?_))
      rw [eS0 R']
      have nx := ih (i + 1) F2 v2 (by omega) (E.tr E2)
      refine br_n (fun y => ?_) (fun y => ?_)
      · rw [est, eHi, decide_eq_false y, if_neg Bool.false_ne_true, ← st_or0 (k := stN H i)] at nx
        refine hP _ _ _ _ _ ?_
        rw [nI_1]
        exact nx
      · rw [est, eHi, decide_eq_true y, if_pos rfl, ← st_or (by omega) stN_lt] at nx
        refine hP _ _ _ _ _ ?_
        rw [nI_1]
        exact nx
  refine hP _ _ _ _ _ ?_
  exact key 6 0 F v (by omega) mR.rf
set_option maxRecDepth 100000 in
theorem MX_never (n : Nat) (σ : xZ) (F v : xS) (R : MR n σ F v) (s : Int32) {K : xKo} (h : mK n σ (z_never s σ) K) : C_M_never [.ref 0, .int s] (xfill F v 0 (wM0 0)) K := by
  have e2 : F 1 (Int32.toNatClampNeg 2) = σ.1.1 6 1 := R.n1.2.1
  refine xM_go rfl 200 [(27, [0, 1, 2, 3])] fun P hP => ?_
  refine xcall (sp_areSteps _ (fun a1 => ?_) (fun a1 => ?_))
  · refine br_n (fun z => absurd rfl z) (fun _ => ?_)
    refine xcall (sp_errM F v (-1000000001) 1 (by decide) (by decide) ?_)
    exact R.err h _ (if_neg a1)
  refine br_n (fun _ => ?_) (fun z => absurd z (by decide))
  have ef : z_never s σ = nvL σ.1.1 σ.2.1 s 6 0 (((1 : Int32) <<< (σ.1.1 6 1 &&& 31)) - 1) := if_pos a1
  obtain ⟨u, hu, rfl, -⟩ := nI_ofx s (n := 10) a1 (by decide)
  have hu : u < 10 := by omega
  have key : ∀ (d i : Nat) (p : Int32) (F' v' : xS), i + d = 6 → mR r0 F v F' v' → z_never (nI u) σ = nvL σ.1.1 σ.2.1 (nI u) d i p → xWP pg_M_never K 27 [(0, .ref 0), (1, .int (nI u)), (2, .int p), (3, .int (nI i))] [] (xfill F' v' 0 (wM0 0)) (0, 0) := by
    intro d
    induction d with
    | zero =>
      intro i p F' v' hi E er
      refine xWP_go 200 [(27, [0, 1, 2, 3])] fun P hP => ?_
      refine br_c (fun _ => ?_) (fun z => ?_)
      · exact R.go h E er
      · have z : ¬ nI 6 ≤ nI i := z
        exact absurd (by rw [nI_leI (by omega) (by omega)]; omega) z
    | succ d ih =>
      intro i p F' v' hi E er
      refine xWP_go 200 [(27, [0, 1, 2, 3])] fun P hP => ?_
      refine br_c (fun z => ?_) (fun _ => ?_)
      · have z : nI 6 ≤ nI i := z
        rw [nI_leI (by omega) (by omega)] at z
        omega
      have R' := R.keep E
      refine xcall (sx_wouldBe F' v' σ.1.1 σ.2.1 R'.t R.c (nI i) u hu (fun F2 v2 E2 => ?_))
      rw [eS0 R']
      refine hP _ _ _ _ _ ?_
      rw [nI_1]
      exact ih (i + 1) _ F2 v2 (by omega) (E.tr E2) er
  refine ⟨vin (by decide), ?_⟩
  refine hP _ _ _ _ _ ?_
  refine key 6 0 _ F v (by omega) mR.rf (ef.trans ?_)
  rw [← e2]
