/-! ===== the reference: what changes what is told, exactly ===== -/
set_option maxRecDepth 100000 in
theorem MX_child (n : Nat) (σ : xZ) (F v : xS) (R : MR n σ F v) (m c : Int32) {K : xKo} (h : mKy n (y_child m c σ) (f_child m c σ.1) K) : C_M_child [.ref 0, .int m, .int c] (xfill F v 0 (wM0 0)) K := by
  have I := R.J
  have Z := mXr.row.mp R.z.1
  have b3 := bel_nat (show below 8 (F 1 3) from I.1.1.1) (by omega)
  have b2 := bel_nat (show below 7 (F 1 2) from I.1.1.2.1) (by omega)
  have b4 := bel_nat (show below 50 (F 1 4) from I.1.1.2.2.2.1) (by omega)
  have b5 := bel_nat (show below 20 (F 1 5) from I.1.1.2.2.2.2) (by omega)
  obtain ⟨k, hk, e⟩ : below 7 (F 1 2) := I.1.1.2.1
  have e2 : F 1 2 = σ.1.1 6 1 := R.n1.2.1
  have en : nat (F 1 2) = k := by rw [e]; exact nI_clamp (by omega)
  have e0 : F 1 (Int32.toNatClampNeg 2) = nI k := e
  have n2 : Int32.toNatClampNeg 2 = 2 := by decide
  have go : k < 7 → (xin m 70 ∧ xin c 12) → xWP pg_M_child K 49 [(0, .ref 0), (1, .int m), (2, .int c), (3, .int (nI k))] [] (xfill F v 0 (wM0 0)) (0, 0) := by
    intro k7 ok
    have c7 : nat (F 1 2) < 7 := by omega
    have okA : (xin m 70 ∧ xin c 12) ∧ nat (σ.1.1 6 1) < 7 := ⟨ok, by rw [← e2]; exact c7⟩
    unfold y_child at h
    rw [if_pos okA, show f_child m c σ.1 = F 1 2 from (if_pos ok).trans ((if_pos okA.2).trans e2.symm)] at h
    refine xWP_go 100 [] fun P hP => ?_
    refine ⟨by decide, ?_⟩
    refine xcall (sp_getsA F v (F 1) k 0 k7 (by omega) (m / 10) fun p1 p1n p1e => ?_)
    refine ⟨by decide, ?_⟩
    refine xcall (sp_getsA F v p1 k 1 k7 (by omega) (m - m / 10 * 10) fun p2 p2n p2e => ?_)
    refine xcall (sp_getsA F v p2 k 2 k7 (by omega) c fun p3 p3n p3e => ?_)
    refine xcall (sp_getsA F v p3 k 3 k7 (by omega) 0 fun p4 p4n p4e => ?_)
    refine xcall (sp_getsA F v p4 k 4 k7 (by omega) 0 fun p5 p5n p5e => ?_)
    refine ⟨vin (by decide), ?_⟩
    refine ⟨vin (by decide), ?_⟩
    have w : ∀ i, i < 25 + 5 * k ∨ 25 + 5 * k + 5 ≤ i → p5 i = F 1 i := by
      intro i hi
      rw [p5n i (by omega), p4n i (by omega), p3n i (by omega), p2n i (by omega), p1n i (by omega)]
    have w0 : p5 (25 + 5 * k + 0) = m / 10 := by
      rw [p5n _ (by omega), p4n _ (by omega), p3n _ (by omega), p2n _ (by omega), p1e]
    have w1 : p5 (25 + 5 * k + 1) = m - m / 10 * 10 := by
      rw [p5n _ (by omega), p4n _ (by omega), p3n _ (by omega), p2e]
    have w2 : p5 (25 + 5 * k + 2) = c := by
      rw [p5n _ (by omega), p4n _ (by omega), p3e]
    have w3 : p5 (25 + 5 * k + 3) = 0 := by
      rw [p5n _ (by omega), p4e]
    have fin : ∀ f, f = upd p5 2 (nI (k + 1)) → K (some (.int (nI k))) (xfill (va_up F 1 f) v 0 (wM0 0)) := by
      intro f ef
      have f1 : ∀ i, ¬ i = 2 → f i = p5 i := fun i hi => by rw [ef]; exact pk_un hi
      have f2 : f 2 = nI (k + 1) := by rw [ef]; exact pk_us
      have AG : agr (mA (va_up F 1 f) v) (g_child m c (mA F v)) := by
        rw [show g_child m c (mA F v) = _ from if_pos ⟨ok, c7⟩]
        refine mrow ⟨⟨(f1 3 (by omega)).trans (w 3 (by omega)), by show f 2 = F 1 2 + 1; rw [f2, e, nI_1], (f1 0 (by omega)).trans (w 0 (by omega)), (f1 1 (by omega)).trans (w 1 (by omega)), (f1 4 (by omega)).trans (w 4 (by omega)), (f1 5 (by omega)).trans (w 5 (by omega))⟩, fun j hj => ?_, fun j hj => ?_, fun j hj => ?_, fun j hj => ?_⟩
        · have hj : j < nat (f 3) := hj
          rw [f1 3 (by omega), w 3 (by omega)] at hj
          exact ⟨(f1 (9 + 2 * j) (by omega)).trans (w _ (by omega)), (f1 (9 + 2 * j + 1) (by omega)).trans (w _ (by omega))⟩
        · have hj : j < nat (f 2) := hj
          rw [f2, show nat (nI (k + 1)) = k + 1 from nI_clamp (by omega)] at hj
          show f (25 + 5 * j + 0) = upd (mSt (F 1) 2) (nat (F 1 2)) (m / 10) j ∧ f (25 + 5 * j + 1) = upd (mSt (F 1) 3) (nat (F 1 2)) (m - m / 10 * 10) j
          rw [en]
          by_cases jk : j = k
          · subst jk
            rw [pk_us, pk_us]
            exact ⟨(f1 _ (by omega)).trans w0, (f1 _ (by omega)).trans w1⟩
          · rw [pk_un jk, pk_un jk]
            exact ⟨(f1 _ (by omega)).trans (w _ (by omega)), (f1 _ (by omega)).trans (w _ (by omega))⟩
        · have hj : j < nat (f 4) := hj
          rw [f1 4 (by omega), w 4 (by omega)] at hj
          exact (f1 (60 + j) (by omega)).trans (w _ (by omega))
        · have hj : j < nat (f 5) := hj
          rw [f1 5 (by omega), w 5 (by omega)] at hj
          exact (f1 (110 + j) (by omega)).trans (w _ (by omega))
      have gk : (g_child m c σ.1).2 = σ.1.2 := by
        have q : g_child m c σ.1 = _ := if_pos okA
        rw [q]
      have CI := child_iv (X := σ.2.1) R.c R.2.1.1.2 okA
      have sk : nat (σ.1.1 6 1) = k := by rw [← e2]; exact en
      have q := h (va_up F 1 f) v ⟨(pi_child R.1 m c).up, ⟨CI, ?_⟩, AG.tr (pg_child R.2.2.1 I m c), R.mS ⟨?_, ?_⟩ rfl ⟨rfl, rfl, rfl⟩ ⟨rfl, rfl⟩ ⟨fun j hj => ?_, ?_, ?_, ?_⟩ ?_ rfl⟩
      · rw [e] at q
        exact q
      · show ¬ (g_child m c σ.1).2.2 6 0 = 0 → cIv (g_child m c σ.1).2.1 σ.2.2 ∧ out0 (g_child m c σ.1).2.1 σ.2.2
        rw [gk]
        exact R.2.1.2
      · show (f 6).toInt ≤ 50
        rw [f1 6 (by omega), w 6 (by omega)]; exact R.2.2.2.1.1
      · show (f 7).toInt ≤ 50
        rw [f1 7 (by omega), w 7 (by omega)]; exact R.2.2.2.1.2
      · show f (25 + 5 * j + 2) = upd (σ.2.1.1 0) (nat (σ.1.1 6 1)) c j ∧ f (25 + 5 * j + 3) = σ.2.1.1 1 j ∧ f (25 + 5 * j + 4) = σ.2.1.1 2 j
        rw [sk, f1 _ (by omega), f1 _ (by omega), f1 _ (by omega)]
        by_cases jk : j = k
        · subst jk
          obtain ⟨o1, o2⟩ := R.2.1.1.2 j (by omega) (by omega)
          rw [pk_us, o1, o2]
          exact ⟨w2, w3, p5e⟩
        · rw [pk_un jk, w _ (by omega), w _ (by omega), w _ (by omega)]
          exact Z.1 j hj
      · show f 8 = σ.2.1.2.1
        rw [f1 8 (by omega), w 8 (by omega)]; exact Z.2.1
      · exact Z.2.2.1.of (by decide) ((f1 _ (by omega)).trans (w _ (by omega))) (fun x a l => (f1 _ (by omega)).trans (w _ (by omega)))
      · exact Z.2.2.2.of (by decide) ((f1 _ (by omega)).trans (w _ (by omega))) (fun x a l => (f1 _ (by omega)).trans (w _ (by omega)))
      · show (g_child m c σ.1).2.2 6 0 = σ.1.2.2 6 0
        rw [gk]
    refine fin (upd p5 (Int32.toNatClampNeg 2) (p5 (Int32.toNatClampNeg 2) + 1)) ?_
    rw [n2, w 2 (by omega), e, nI_1]
  refine xM_go rfl 100 [(49, [0, 1, 2, 3])] fun P hP => ?_
  refine xcall (sp_inx _ 69 70 (by decide) (fun a1 => ?_) (fun a1 => ?_))
  · refine br_c (fun _ => ?_) (fun z => absurd rfl z)
    refine xcall (sp_errM F v (-1000000001) 1 (by decide) (by decide) ?_)
    exact R.no h _ (if_neg fun z => a1 z.1.1) (if_neg fun z => a1 z.1)
  refine br_c (fun z => absurd z (by decide)) (fun _ => ?_)
  refine xcall (sp_isCell _ (fun a2 => ?_) (fun a2 => ?_))
  · refine br_n (fun z => absurd rfl z) (fun _ => ?_)
    refine xcall (sp_errM F v (-1000000001) 1 (by decide) (by decide) ?_)
    exact R.no h _ (if_neg fun z => a2 z.1.2) (if_neg fun z => a2 z.2)
  refine br_n (fun _ => ?_) (fun z => absurd z (by decide))
  refine ⟨vin (by decide), ?_⟩
  refine br_n (fun a3 => ?_) (fun a3 => ?_)
  · have a3 : ¬ F 1 2 = nI 7 := a3
    have k7 : k < 7 := by
      have : ¬ k = 7 := fun z => a3 (by rw [e, z])
      omega
    refine ⟨vin (by decide), ?_⟩
    refine hP _ _ _ _ _ ?_
    rw [e0]
    exact go k7 ⟨a1, a2⟩
  · have a3 : F 1 2 = nI 7 := a3
    have c7 : ¬ nat (σ.1.1 6 1) < 7 := by rw [← e2, a3]; decide
    refine xcall (sp_errM F v (-1000000004) 4 (by decide) (by decide) ?_)
    exact R.no h _ (if_neg fun z => c7 z.2) ((if_pos ⟨a1, a2⟩).trans (if_neg c7))
set_option maxRecDepth 100000 in
theorem MX_check (n : Nat) (σ : xZ) (F v : xS) (R : MR n σ F v) {K : xKo} (h : mKy n (y_check σ) (z_check σ) K) : C_M_check [.ref 0] (xfill F v 0 (wM0 0)) K := by
  have I := R.J
  have Z := mXr.row.mp R.z.1
  have T := R.t
  have b3 := bel_nat (show below 8 (F 1 3) from I.1.1.1) (by omega)
  have b2 := bel_nat (show below 7 (F 1 2) from I.1.1.2.1) (by omega)
  have b4 := bel_nat (show below 50 (F 1 4) from I.1.1.2.2.2.1) (by omega)
  have b5 := bel_nat (show below 20 (F 1 5) from I.1.1.2.2.2.2) (by omega)
  obtain ⟨q, hq, e⟩ : below 20 (F 1 5) := I.1.1.2.2.2.2
  have e0 : F 1 (Int32.toNatClampNeg 5) = nI q := e
  obtain ⟨c, hc, ec⟩ : below 7 (σ.1.1 6 1) := R.c.1.2
  have ecc : nat (σ.1.1 6 1) = c := by rw [ec]; exact nI_clamp (by omega)
  have e2 : F 1 2 = nI c := R.n1.2.1.trans ec
  have e16 : nat (σ.1.1 6 5) = q := by rw [← R.n1.2.2.2.2.2, e]; exact nI_clamp (by omega)
  have W : ∀ j, j < q → F 1 (110 + j) = σ.1.1 5 j := fun j hj => R.2.2.1.1.2.2.2.2 j (by show j < nat (F 1 5); rw [R.n1.2.2.2.2.2, e16]; exact hj)
  unfold z_check at h
  rw [ecc, e16] at h
  have fin : ∀ f, f = upd (F 1) 5 0 → ∀ r, r = chkL c (σ.1.1 5) (σ.2.1.1 1) q 0 → K (some (.int r)) (xfill (va_up F 1 f) v 0 (wM0 0)) := by
    intro f ef r er
    have f1 : ∀ i, ¬ i = 5 → f i = F 1 i := fun i hi => by rw [ef]; exact pk_un hi
    have f2 : f 5 = 0 := by rw [ef]; exact pk_us
    have AG : agr (mA (va_up F 1 f) v) (g_check (mA F v)) := by
      refine mrow ⟨⟨f1 3 (by omega), f1 2 (by omega), f1 0 (by omega), f1 1 (by omega), f1 4 (by omega), f2⟩, fun j hj => ⟨f1 _ (by omega), f1 _ (by omega)⟩, fun j hj => ⟨f1 _ (by omega), f1 _ (by omega)⟩, fun j hj => f1 _ (by omega), fun j hj => ?_⟩
      have hj : j < nat (f 5) := hj
      rw [f2] at hj
      exact absurd (show j < 0 from hj) (Nat.not_lt_zero j)
    rw [er]
    exact h (va_up F 1 f) v (MR.st (σ := σ) (pi_check R.1).up R.2.1 rfl (AG.tr (pg_check R.2.2.1)) (R.2.2.2.row fun j hj => f1 j (by have := exi_in hj; omega)))
  have k55 : ∀ i : Nat, i < 21 → (if i = q then (0 : Int32) else 1 + nI i) = chkL c (σ.1.1 5) (σ.2.1.1 1) q 0 → xWP pg_M_check K 55 [(0, .ref 0), (1, .int (nI q)), (2, .int (nI i))] [] (xfill (va_up F 1 (upd (F 1) 5 0)) v 0 (wM0 0)) (0, 0) := by
    intro i hi hr
    refine xWP_go 100 [] fun P hP => ?_
    refine br_n (fun y => ?_) (fun y => ?_)
    · have y : ¬ nI i = nI q := y
      rw [if_neg (fun z => y (by rw [z]))] at hr
      exact fin _ rfl _ hr
    · have y : nI i = nI q := y
      rw [if_pos ((nI_eq (by omega) (by omega)).mp y)] at hr
      exact fin _ rfl _ hr
  have key : ∀ (d i : Nat), i + d = q → chkL c (σ.1.1 5) (σ.2.1.1 1) d i = chkL c (σ.1.1 5) (σ.2.1.1 1) q 0 → xWP pg_M_check K 16 [(0, .ref 0), (1, .int (nI q)), (2, .int (nI i))] [] (xfill (va_up F 1 (upd (F 1) 5 0)) v 0 (wM0 0)) (0, 0) := by
    intro d
    induction d with
    | zero =>
      intro i hi hr
      have hr : (0 : Int32) = chkL c (σ.1.1 5) (σ.2.1.1 1) q 0 := hr
      refine xWP_go 100 [(16, [0, 1, 2]), (55, [0, 1, 2])] fun P hP => ?_
      refine br_c (fun _ => hP _ _ _ _ _ (k55 i (by omega) (by rw [if_pos (show i = q by omega)]; exact hr))) (fun z => ?_)
      have z : ¬ nI q ≤ nI i := z
      rw [nI_leI (by omega) (by omega)] at z
      omega
    | succ d ih =>
      intro i hi hr
      have hr : (if i < c ∧ σ.1.1 5 i = σ.2.1.1 1 i then chkL c (σ.1.1 5) (σ.2.1.1 1) d (i + 1) else 1 + nI i) = chkL c (σ.1.1 5) (σ.2.1.1 1) q 0 := hr
      refine xWP_go 100 [(16, [0, 1, 2]), (55, [0, 1, 2])] fun P hP => ?_
      refine br_c (fun z => ?_) (fun _ => ?_)
      · have z : nI q ≤ nI i := z
        rw [nI_leI (by omega) (by omega)] at z
        omega
      refine ⟨vin (by decide), ?_⟩
      refine br_c (fun z => ?_) (fun z => ?_)
      · have z : F 1 2 ≤ nI i := z
        rw [e2, nI_leI (by omega) (by omega)] at z
        rw [if_neg (fun y => by omega)] at hr
        exact hP _ _ _ _ _ (k55 i (by omega) (by rw [if_neg (by omega)]; exact hr))
      have z : ¬ F 1 2 ≤ nI i := z
      rw [e2, nI_leI (by omega) (by omega)] at z
      have i7 : i < 7 := by omega
      refine ⟨by show vp_in (nI 110 + nI i) 230; rw [nI_add]; exact vp_in_nI (by omega) (by omega), ?_⟩
      have n110 : Int32.toNatClampNeg (nI 110 + nI i) = 110 + i := by rw [nI_add]; exact nI_clamp (by omega)
      have w1 : upd (F 1) 5 0 (Int32.toNatClampNeg ((110 : Int32) + nI i)) = σ.1.1 5 i := by
        rw [show Int32.toNatClampNeg ((110 : Int32) + nI i) = 110 + i from n110, pk_un (by omega)]
        exact W i (by omega)
      refine xcall (sx_its (va_up F 1 (upd (F 1) 5 0)) v i 3 i7 (by omega) 3 rfl (σ.2.1.1 1 i) ((pk_un (by omega)).trans (T.2.2.2.1 i i7).2.1) ?_)
      refine br_n (fun y => ?_) (fun y => ?_)
      · have y : ¬ upd (F 1) 5 0 (Int32.toNatClampNeg ((110 : Int32) + nI i)) = σ.2.1.1 1 i := y
        rw [w1] at y
        rw [if_neg (fun z => y z.2)] at hr
        exact hP _ _ _ _ _ (k55 i (by omega) (by rw [if_neg (by omega)]; exact hr))
      · have y : upd (F 1) 5 0 (Int32.toNatClampNeg ((110 : Int32) + nI i)) = σ.2.1.1 1 i := y
        rw [w1] at y
        rw [if_pos ⟨by omega, y⟩] at hr
        refine hP _ _ _ _ _ ?_
        rw [nI_1]
        exact ih (i + 1) (by omega) hr
  refine xM_go rfl 100 [(16, [0, 1, 2]), (55, [0, 1, 2])] fun P hP => ?_
  refine ⟨vin (by decide), ?_⟩
  refine ⟨vin (by decide), ?_⟩
  refine hP _ _ _ _ _ ?_
  rw [e0, nq5]
  exact key q 0 (by omega) rfl
set_option maxRecDepth 100000 in
theorem MX_image (n : Nat) (σ : xZ) (F v : xS) (R : MR n σ F v) (hn : n < 1000) {K : xKo} (h : mKy n (y_image σ) (f_image σ.1) K) : C_M_image [.ref 0] (xfill F v 0 (wM0 0)) K := by
  have I := R.J
  have Z := mXr.row.mp R.z.1
  have S := R.2.2.2
  have b3 := bel_nat (show below 8 (F 1 3) from I.1.1.1) (by omega)
  have b2 := bel_nat (show below 7 (F 1 2) from I.1.1.2.1) (by omega)
  have b4 := bel_nat (show below 50 (F 1 4) from I.1.1.2.2.2.1) (by omega)
  have b5 := bel_nat (show below 20 (F 1 5) from I.1.1.2.2.2.2) (by omega)
  obtain ⟨m, hm, em⟩ : below n (v 0 5) := I.2.1.1.1
  have ef : f_image σ.1 = v 0 5 + 1 := congrArg (· + 1) R.2.2.1.2.1.2.2.1.1.symm
  rw [ef] at h
  refine xM_go rfl 100 [] fun P hP => ?_
  refine xcall (sp_moveAll_1_2 F v fun g g1 g2 => ?_)
  refine ⟨Or.inr rfl, ?_⟩
  have nz : ¬ v 0 5 + 1 = 0 := by
    rw [em, nI_1]
    exact nI_ne0 (by omega) (by omega)
  have g6 := g1 6 (by omega)
  have g7 := g1 7 (by omega)
  have AG : agr (mA (va_up F 2 g) (va_up v 0 (va_up (va_up (v 0) 4 1) 5 (v 0 5 + 1)))) (g_image (mA F v)) := by
    refine ⟨sAgr.rf, ⟨⟨fun _ _ => rfl, fun _ _ => rfl, fun _ _ => rfl, fun _ _ => rfl⟩, ⟨⟨rfl, rfl, rfl, rfl⟩, rfl, rfl, rfl, rfl⟩, ⟨rfl, rfl⟩, fun _ _ => rfl⟩, fun _ => ⟨⟨g1 3 (by omega), g1 2 (by omega), g1 0 (by omega), g1 1 (by omega), g1 4 (by omega), g1 5 (by omega)⟩, fun j hj => ?_, fun j hj => ?_, fun j hj => ?_, fun j hj => ?_⟩⟩
    · have hj : j < nat (g 3) := hj
      rw [g1 3 (by omega)] at hj
      exact ⟨g1 (9 + 2 * j) (by omega), g1 (9 + 2 * j + 1) (by omega)⟩
    · have hj : j < nat (g 2) := hj
      rw [g1 2 (by omega)] at hj
      exact ⟨g1 (25 + 5 * j + 0) (by omega), g1 (25 + 5 * j + 1) (by omega)⟩
    · have hj : j < nat (g 4) := hj
      rw [g1 4 (by omega)] at hj
      exact g1 (60 + j) (by omega)
    · have hj : j < nat (g 5) := hj
      rw [g1 5 (by omega)] at hj
      exact g1 (110 + j) (by omega)
  have ZG : mXr g σ.2.1 := Z.of fun j hj => g1 j (by have := exi_in hj; omega)
  exact h (va_up F 2 g) (va_up v 0 (va_up (va_up (v 0) 4 1) 5 (v 0 5 + 1))) ⟨pi_image R.1, ⟨R.2.1.1, fun _ => R.2.1.1⟩, AG.tr (pg_image R.2.2.1), S.1, ⟨⟨by show (g 6).toInt ≤ 50; rw [g6]; exact S.1.1, by show (g 7).toInt ≤ 50; rw [g7]; exact S.1.2⟩, R.z.1, fun _ => mXr.row.mpr ZG⟩, (by show (1 : Int32) = if v 0 5 + 1 = 0 then 0 else 1; exact (if_neg nz).symm), S.2.2.2⟩
set_option maxRecDepth 100000 in
theorem MX_restore (n : Nat) (σ : xZ) (F v : xS) (R : MR n σ F v) {K : xKo} (h : mKy n (y_restore σ) (f_restore σ.1) K) : C_M_restore [.ref 0] (xfill F v 0 (wM0 0)) K := by
  have I := R.J
  have S := R.2.2.2
  have ek := S.2.2.1
  have ei : v 0 5 = σ.1.2.2 6 0 := R.2.2.1.2.1.2.2.1.1
  refine xM_go rfl 100 [] fun P hP => ?_
  refine br_n (fun a => ?_) (fun a => ?_)
  · have a : ¬ v 0 4 = 0 := a
    have nz : ¬ v 0 5 = 0 := fun z => a (by rw [ek, if_pos z])
    have a2 : ¬ σ.1.2.2 6 0 = 0 := by rw [← ei]; exact nz
    have J : sIv (mSt (F 2)) := I.2.2 nz
    have b3 := bel_nat (show below 8 (F 2 3) from J.1.1) (by omega)
    have b2 := bel_nat (show below 7 (F 2 2) from J.1.2.1) (by omega)
    have b4 := bel_nat (show below 50 (F 2 4) from J.1.2.2.2.1) (by omega)
    have b5 := bel_nat (show below 20 (F 2 5) from J.1.2.2.2.2) (by omega)
    have eg : g_restore σ.1 = (σ.1.2.1, σ.1.2.1, σ.1.2.2) := if_neg a2
    have ef : f_restore σ.1 = F 2 0 := (if_neg a2).trans (R.2.2.1.2.2 nz).1.2.2.1.symm
    unfold y_restore at h
    rw [if_neg a2, ef, eg] at h
    refine xcall (sp_moveAll_2_1 F v fun g g1 g2 => ?_)
    refine ⟨vin (by decide), ?_⟩
    have g6 := g1 6 (by omega)
    have g7 := g1 7 (by omega)
    have AG : agr (mA (va_up F 1 g) v) (g_restore (mA F v)) := by
      rw [show g_restore (mA F v) = _ from if_neg nz]
      refine ⟨⟨⟨g1 3 (by omega), g1 2 (by omega), g1 0 (by omega), g1 1 (by omega), g1 4 (by omega), g1 5 (by omega)⟩, fun j hj => ?_, fun j hj => ?_, fun j hj => ?_, fun j hj => ?_⟩, ⟨⟨fun _ _ => rfl, fun _ _ => rfl, fun _ _ => rfl, fun _ _ => rfl⟩, ⟨⟨rfl, rfl, rfl, rfl⟩, rfl, rfl, rfl, rfl⟩, ⟨rfl, rfl⟩, fun _ _ => rfl⟩, fun _ => sAgr.rf⟩
      · have hj : j < nat (g 3) := hj
        rw [g1 3 (by omega)] at hj
        exact ⟨g1 (9 + 2 * j) (by omega), g1 (9 + 2 * j + 1) (by omega)⟩
      · have hj : j < nat (g 2) := hj
        rw [g1 2 (by omega)] at hj
        exact ⟨g1 (25 + 5 * j + 0) (by omega), g1 (25 + 5 * j + 1) (by omega)⟩
      · have hj : j < nat (g 4) := hj
        rw [g1 4 (by omega)] at hj
        exact g1 (60 + j) (by omega)
      · have hj : j < nat (g 5) := hj
        rw [g1 5 (by omega)] at hj
        exact g1 (110 + j) (by omega)
    have A2 := AG.tr (pg_restore R.2.2.1)
    have I2 := (pi_restore R.1).up
    rw [eg] at A2 I2
    have Z2 := R.z.2 a2
    have ZG : mXr g σ.2.2 := (mXr.row.mp Z2).of fun j hj => g1 j (by have := exi_in hj; omega)
    have fin := h (va_up F 1 g) v ⟨I2, ⟨R.2.1.2 a2, fun _ => R.2.1.2 a2⟩, A2, ⟨by show (g 6).toInt ≤ 50; rw [g6]; exact S.2.1.1.1, by show (g 7).toInt ≤ 50; rw [g7]; exact S.2.1.1.2⟩, ⟨S.2.1.1, mXr.row.mpr ZG, fun _ => Z2⟩, S.2.2⟩
    rw [← g1 0 (by omega)] at fin
    exact fin
  · have a : v 0 4 = 0 := a
    have z0 : v 0 5 = 0 := by
      by_cases z : v 0 5 = 0
      · exact z
      · rw [ek, if_neg z] at a
        exact absurd a (by decide)
    have a2 : σ.1.2.2 6 0 = 0 := by rw [← ei]; exact z0
    refine xcall (sp_errM F v (-1000000002) 2 (by decide) (by decide) ?_)
    refine R.no h _ ?_ (if_pos a2)
    unfold y_restore g_restore
    rw [if_pos a2, if_pos a2]
theorem MR.play {n : Nat} {σ : xZ} {F v F' v' : xS} {s' : xS} {X' : xXt} (R : MR n σ F v) (G : ∀ k, ¬ k = 1 ∧ ¬ k = 3 ∧ ¬ k = 4 ∧ ¬ k = 5 → F' k = F k) (V : ∀ j, 7 ≤ j ∧ j < 15 ∨ v' 0 j = v 0 j) (E : ∀ j, j < 230 → r2 j = false → ¬ j = 1 → F' 1 j = F 1 j) (T : tM (F' 1) s' X') (e : (s' 6 0 = σ.1.1 6 0 ∧ s' 6 1 = σ.1.1 6 1 ∧ s' 6 3 = F' 1 1 ∧ s' 6 4 = σ.1.1 6 4 ∧ s' 6 5 = σ.1.1 6 5) ∧ (∀ k, k < 6 → s' k = σ.1.1 k)) (b : below 9999 (s' 6 2)) (Z : cIv s' X' ∧ out0 s' X') : MR (n + 1) ((s', σ.1.2), X', σ.2.2) F' v' := by
  have A := R.2.2.1
  have I := R.1.up
  have S := R.2.2.2
  have gv : ∀ j, ¬ (7 ≤ j ∧ j < 15) → v' 0 j = v 0 j := fun j hj => (V j).elim (fun z => absurd z hj) (fun y => y)
  have b4 := bel_nat (show below 50 (σ.1.1 6 4) from I.1.1.2.2.2.1) (by omega)
  have b5 := bel_nat (show below 20 (σ.1.1 6 5) from I.1.1.2.2.2.2) (by omega)
  have rf : ∀ j, ¬ j = 8 → ¬ j = 0 → (j < 25 ∨ 60 ≤ j) → r2 j = false := fun j h8 h0 hj => by
    unfold r2
    rw [r1_f h8 (by omega), Bool.false_or]
    exact beq_eq_false_iff_ne.mpr h0
  have AG : agr (mA F' v') (s', σ.1.2) := by
    refine ⟨⟨⟨T.1.1, T.1.2.1, T.1.2.2.1, e.1.2.2.1.symm, ?_, ?_⟩, fun j hj => ?_, fun j hj => ?_, fun j hj => ?_, fun j hj => ?_⟩, ?_, ?_⟩
    · show F' 1 4 = s' 6 4
      rw [E 4 (by omega) rfl (by decide), e.1.2.2.2.1]
      exact A.1.1.2.2.2.2.1
    · show F' 1 5 = s' 6 5
      rw [E 5 (by omega) rfl (by decide), e.1.2.2.2.2]
      exact A.1.1.2.2.2.2.2
    · have hj : j < nat (F' 1 3) := hj
      rw [T.1.1] at hj
      exact T.2.1 j hj
    · have hj : j < nat (F' 1 2) := hj
      rw [T.1.2.1] at hj
      exact T.2.2.1 j hj
    · have hj : j < nat (F' 1 4) := hj
      rw [E 4 (by omega) rfl (by decide)] at hj
      have l : j < 50 := by
        have q : F 1 4 = σ.1.1 6 4 := A.1.1.2.2.2.2.1
        rw [q] at hj
        omega
      show F' 1 (60 + j) = s' 4 j
      rw [E _ (by omega) (rf _ (by omega) (by omega) (by omega)) (by omega), e.2 4 (by decide)]
      exact A.1.2.2.2.1 j hj
    · have hj : j < nat (F' 1 5) := hj
      rw [E 5 (by omega) rfl (by decide)] at hj
      have l : j < 20 := by
        have q : F 1 5 = σ.1.1 6 5 := A.1.1.2.2.2.2.2
        rw [q] at hj
        omega
      show F' 1 (110 + j) = s' 5 j
      rw [E _ (by omega) (rf _ (by omega) (by omega) (by omega)) (by omega), e.2 5 (by decide)]
      exact A.1.2.2.2.2 j hj
    · have q : mRs F' v' = mRs F v := by
        unfold mRs
        rw [G 6 (by decide), G 7 (by decide), G 8 (by decide), G 10 (by decide), gv 5 (by omega), gv 21 (by omega)]
      show rAgr (mRs F' v') _
      rw [q]
      exact A.2.1
    · intro z
      have z : ¬ v' 0 5 = 0 := z
      rw [gv 5 (by omega)] at z
      show sAgr (mSt (F' 2)) _
      rw [G 2 (by decide)]
      exact A.2.2 z
  refine ⟨⟨⟨⟨by show below 8 (s' 6 0); rw [e.1.1]; exact I.1.1.1, by show below 7 (s' 6 1); rw [e.1.2.1]; exact I.1.1.2.1, b, by show below 50 (s' 6 4); rw [e.1.2.2.2.1]; exact I.1.1.2.2.2.1, by show below 20 (s' 6 5); rw [e.1.2.2.2.2]; exact I.1.1.2.2.2.2⟩, fun j hj => ?_⟩, I.2⟩, ⟨Z, R.2.1.2⟩, AG, R.mS ⟨?_, ?_⟩ (G 2 (by decide)) ⟨gv 4 (by omega), gv 5 (by omega), gv 15 (by omega)⟩ ⟨G 6 (by decide), G 8 (by decide)⟩ ⟨T.2.2.2.1, T.1.2.2.2, T.2.2.2.2⟩ rfl rfl⟩
  · have hj : j < nat (s' 6 1) := hj
    rw [e.1.2.1] at hj
    show below 6 (s' 2 j)
    rw [e.2 2 (by decide)]
    exact I.1.2 j hj
  · rw [E 6 (by omega) rfl (by decide)]; exact S.1.1
  · rw [E 7 (by omega) rfl (by decide)]; exact S.1.2
set_option maxRecDepth 100000 in
theorem MX_call (n : Nat) (σ : xZ) (F v : xS) (R : MR n σ F v) (m s : Int32) {K : xKo} (h : mKy n (y_call m s σ) (z_call m s σ) K) : C_M_call [.ref 0, .int m, .int s] (xfill F v 0 (wM0 0)) K := by
  have b9 : below 9999 (F 1 0) := R.J.1.1.2.2.1
  have e0 : F 1 0 = σ.1.1 6 2 := R.n1.2.2.1
  refine xM_go rfl 200 [] fun P hP => ?_
  refine xcall (sp_isMark _ (fun a1 => ?_) (fun a1 => ?_))
  · refine br_c (fun _ => ?_) (fun z => absurd rfl z)
    refine xcall (sp_errM F v (-1000000001) 1 (by decide) (by decide) ?_)
    exact R.no h _ (if_neg fun z => a1 z.1.1) (if_neg fun z => a1 z.1)
  refine br_c (fun z => absurd z (by decide)) (fun _ => ?_)
  refine xcall (sp_areSteps _ (fun a2 => ?_) (fun a2 => ?_))
  · refine br_n (fun z => absurd rfl z) (fun _ => ?_)
    refine xcall (sp_errM F v (-1000000001) 1 (by decide) (by decide) ?_)
    exact R.no h _ (if_neg fun z => a2 z.1.2) (if_neg fun z => a2 z.2)
  refine br_n (fun _ => ?_) (fun z => absurd z (by decide))
  refine ⟨vin (by decide), ?_⟩
  obtain ⟨c, hc, ec⟩ := id b9
  refine br_n (fun a3 => ?_) (fun a3 => ?_)
  · have a3 : ¬ F 1 0 = nI 9999 := a3
    have a4 : nat (F 1 0) < 9999 := by
      have : ¬ c = 9999 := fun z => a3 (by rw [ec, z])
      rw [ec, show nat (nI c) = c from nI_clamp (by omega)]
      omega
    rw [e0] at a4 b9
    unfold y_call z_call at h
    rw [if_pos ⟨⟨a1, a2⟩, a4⟩, if_pos ⟨a1, a2⟩, if_pos a4] at h
    obtain ⟨u, hu, rfl, -⟩ := nI_ofx s (n := 10) a2 (by decide)
    refine xcall (sx_calls F v σ.1.1 σ.2.1 R.t R.c m u (by omega) (fun F' v' G E T' => ?_))
    rw [eS0 R] at T' ⊢
    refine h F' v' (R.play (fun k hk => G k hk.1) E.2.2 (fun j hj hr _ => E.2.1 j hj hr) T' ⟨⟨rfl, rfl, ?_, rfl, rfl⟩, fun k hk => if_neg (by omega)⟩ (b9.inc a4 (by omega)).1 ⟨R.c.play, R.2.1.1.2.play⟩)
    show σ.1.1 6 3 = F' 1 1
    rw [E.2.1 1 (by omega) rfl]
    exact R.n1.2.2.2.1.symm
  · have a3 : F 1 0 = nI 9999 := a3
    have a4 : ¬ nat (σ.1.1 6 2) < 9999 := by rw [← e0, a3]; decide
    refine xcall (sp_errM F v (-1000000003) 3 (by decide) (by decide) ?_)
    exact R.no h _ (if_neg fun z => a4 z.2) ((if_pos ⟨a1, a2⟩).trans (if_neg a4))
