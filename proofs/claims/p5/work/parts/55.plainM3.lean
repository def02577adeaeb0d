/-! ===== the reference: plain methods, third part ===== -/
theorem nq0 : Int32.toNatClampNeg 0 = 0 := by decide
theorem nq1 : Int32.toNatClampNeg 1 = 1 := by decide
theorem nq2 : Int32.toNatClampNeg 2 = 2 := by decide
theorem nq3 : Int32.toNatClampNeg 3 = 3 := by decide
theorem nq4 : Int32.toNatClampNeg 4 = 4 := by decide
theorem nq5 : Int32.toNatClampNeg 5 = 5 := by decide
theorem nq6 : Int32.toNatClampNeg 6 = 6 := by decide
theorem nq7 : Int32.toNatClampNeg 7 = 7 := by decide
theorem nq8 : Int32.toNatClampNeg 8 = 8 := by decide
set_option maxRecDepth 100000 in
theorem ms_seed (n : Nat) (F v : xS) (I : aIv n (mA F v)) (S : mS F v) (x : Int32) {K : xKo} (h : mTo F v (g_seed x) (f_seed x) K) : C_M_seed [.ref 0, .int x] (xfill F v 0 (wM0 0)) K := by
  have b3 := bel_nat (show below 8 (F 1 3) from I.1.1.1) (by omega)
  have b2 := bel_nat (show below 7 (F 1 2) from I.1.1.2.1) (by omega)
  have b4 := bel_nat (show below 50 (F 1 4) from I.1.1.2.2.2.1) (by omega)
  have b5 := bel_nat (show below 20 (F 1 5) from I.1.1.2.2.2.2) (by omega)
  refine xM_go rfl 100 [] fun P hP => ?_
  refine ⟨vin (by decide), ?_⟩
  refine ⟨vin (by decide), ?_⟩
  have fin : ∀ f, f = upd (F 1) 1 x → K (some (.int (F 1 1))) (xfill (va_up F 1 f) v 0 (wM0 0)) := by
    intro f ef
    have f1 : ∀ i, ¬ i = 1 → f i = F 1 i := fun i hi => by rw [ef]; exact pk_un hi
    have f2 : f 1 = x := by rw [ef]; exact pk_us
    refine h.ok (F' := va_up F 1 f) (v' := v) (S.row (f1 6 (by omega)) (f1 7 (by omega))) ?_ rfl
    refine mrow ⟨⟨f1 3 (by omega), f1 2 (by omega), f1 0 (by omega), f2, f1 4 (by omega), f1 5 (by omega)⟩, fun j hj => ⟨f1 _ (by omega), f1 _ (by omega)⟩, fun j hj => ⟨f1 _ (by omega), f1 _ (by omega)⟩, fun j hj => f1 _ (by omega), fun j hj => f1 _ (by omega)⟩
  exact fin (upd (F 1) (Int32.toNatClampNeg 1) x) (by rw [nq1])
set_option maxRecDepth 100000 in
theorem ms_trace (n : Nat) (F v : xS) (I : aIv n (mA F v)) (S : mS F v) (i : Int32) {K : xKo} (h : mTo F v (fun s => s) (f_trace i) K) : C_M_trace [.ref 0, .int i] (xfill F v 0 (wM0 0)) K := by
  have b : below 40 (v 0 21) := I.2.1.1.2
  refine xM_go rfl 100 [] fun P hP => ?_
  refine xcall (sp_in _ _ _ (fun a => ?_) (fun a => ?_))
  · have a1 : ¬ xin i (v 0 21).toInt := fun z => a ((in_pre b (by omega)).mpr z)
    refine br_c (fun _ => ?_) (fun z => absurd rfl z)
    refine xcall (sp_errM F v (-1000000002) 2 (by decide) (by decide) ?_)
    exact h.err S _ rfl (if_neg a1)
  · have a1 : xin i (v 0 21).toInt := (in_pre b (by omega)).mp a
    refine br_c (fun z => absurd z (by decide)) (fun _ => ?_)
    refine ⟨vinB b a1 (Nat.le_refl _) (by omega), ?_⟩
    exact h.id S rfl (if_pos a1)
set_option maxRecDepth 100000 in
theorem ms_tell (n : Nat) (F v : xS) (I : aIv n (mA F v)) (S : mS F v) (x : Int32) {K : xKo} (h : mTo F v (g_tell x) (f_tell x) K) : C_M_tell [.ref 0, .int x] (xfill F v 0 (wM0 0)) K := by
  have b3 := bel_nat (show below 8 (F 1 3) from I.1.1.1) (by omega)
  have b2 := bel_nat (show below 7 (F 1 2) from I.1.1.2.1) (by omega)
  have b4 := bel_nat (show below 50 (F 1 4) from I.1.1.2.2.2.1) (by omega)
  have b5 := bel_nat (show below 20 (F 1 5) from I.1.1.2.2.2.2) (by omega)
  obtain ⟨k, hk, e⟩ : below 20 (F 1 5) := I.1.1.2.2.2.2
  have en : nat (F 1 5) = k := by rw [e]; exact nI_clamp (by omega)
  have e0 : F 1 (Int32.toNatClampNeg 5) = nI k := e
  have ei : (110 : Int32) + nI k = nI (110 + k) := by rw [show (110 : Int32) = nI 110 from rfl, nI_add]
  have ni : Int32.toNatClampNeg ((110 : Int32) + nI k) = 110 + k := by rw [ei]; exact nI_clamp (by omega)
  refine xM_go rfl 100 [] fun P hP => ?_
  refine ⟨vin (by decide), ?_⟩
  refine br_n (fun a3 => ?_) (fun a3 => ?_)
  · have a3 : ¬ F 1 5 = nI 20 := a3
    have k20 : k < 20 := by
      have : ¬ k = 20 := fun z => a3 (by rw [e, z])
      omega
    have c20 : nat (F 1 5) < 20 := by omega
    refine ⟨vin (by decide), ?_⟩
    refine ⟨by show vp_in ((110 : Int32) + F 1 (Int32.toNatClampNeg 5)) 230; rw [e0, ei]; exact vp_in_nI (by omega) (by omega), ?_⟩
    refine ⟨vin (by decide), ?_⟩
    refine ⟨vin (by decide), ?_⟩
    refine ⟨vin (by decide), ?_⟩
    have fin : ∀ f, f = upd (upd (F 1) (110 + k) x) 5 (nI (k + 1)) → K (some (.int (nI k + 1))) (xfill (va_up F 1 f) v 0 (wM0 0)) := by
      intro f ef
      have f1 : ∀ i, ¬ i = 110 + k → ¬ i = 5 → f i = F 1 i := fun i h0 h1 => by rw [ef, pk_un h1, pk_un h0]
      have f2 : f (110 + k) = x := by rw [ef, pk_un (by omega), pk_us]
      have f3 : f 5 = nI (k + 1) := by rw [ef, pk_us]
      refine h.ok (F' := va_up F 1 f) (v' := v) (S.row (f1 6 (by omega) (by omega)) (f1 7 (by omega) (by omega))) ?_ ((if_pos c20).trans (by show F 1 5 + 1 = _; rw [e]))
      rw [show g_tell x (mA F v) = _ from if_pos c20]
      refine mrow ⟨⟨f1 3 (by omega) (by omega), f1 2 (by omega) (by omega), f1 0 (by omega) (by omega), f1 1 (by omega) (by omega), f1 4 (by omega) (by omega), by show f 5 = F 1 5 + 1; rw [f3, e, nI_1]⟩, fun j hj => ?_, fun j hj => ?_, fun j hj => ?_, fun j hj => ?_⟩
      · have hj : j < nat (f 3) := hj
        rw [f1 3 (by omega) (by omega)] at hj
        exact ⟨f1 (9 + 2 * j) (by omega) (by omega), f1 (9 + 2 * j + 1) (by omega) (by omega)⟩
      · have hj : j < nat (f 2) := hj
        rw [f1 2 (by omega) (by omega)] at hj
        exact ⟨f1 (25 + 5 * j + 0) (by omega) (by omega), f1 (25 + 5 * j + 1) (by omega) (by omega)⟩
      · have hj : j < nat (f 4) := hj
        rw [f1 4 (by omega) (by omega)] at hj
        exact f1 (60 + j) (by omega) (by omega)
      · show f (110 + j) = upd (mSt (F 1) 5) (nat (F 1 5)) x j
        rw [en]
        by_cases jk : j = k
        · subst jk
          rw [pk_us]
          exact f2
        · rw [pk_un jk]
          exact f1 _ (by omega) (by omega)
    have q := fin (upd (upd (F 1) (Int32.toNatClampNeg (110 + F 1 (Int32.toNatClampNeg 5))) x) (Int32.toNatClampNeg 5) (upd (F 1) (Int32.toNatClampNeg (110 + F 1 (Int32.toNatClampNeg 5))) x (Int32.toNatClampNeg 5) + 1)) (by
      rw [e0, ni, nq5, pk_un (by omega), e, nI_1])
    have ev : nI k + 1 = upd (upd (F 1) (Int32.toNatClampNeg (110 + F 1 (Int32.toNatClampNeg 5))) x) (Int32.toNatClampNeg 5) (upd (F 1) (Int32.toNatClampNeg (110 + F 1 (Int32.toNatClampNeg 5))) x (Int32.toNatClampNeg 5) + 1) (Int32.toNatClampNeg 5) := by
      rw [pk_us, e0, ni, nq5, pk_un (by omega), e]
    rw [ev] at q
    exact q
  · have a3 : F 1 5 = nI 20 := a3
    have c20 : ¬ nat (F 1 5) < 20 := by rw [a3]; decide
    refine xcall (sp_errM F v (-1000000004) 4 (by decide) (by decide) ?_)
    exact h.err S _ (if_neg c20) (if_neg c20)
set_option maxRecDepth 100000 in
theorem ms_check (n : Nat) (F v : xS) (I : aIv n (mA F v)) (S : mS F v) {K : xKo} (h : mTw F v g_check K) : C_M_check [.ref 0] (xfill F v 0 (wM0 0)) K := by
  have b3 := bel_nat (show below 8 (F 1 3) from I.1.1.1) (by omega)
  have b2 := bel_nat (show below 7 (F 1 2) from I.1.1.2.1) (by omega)
  have b4 := bel_nat (show below 50 (F 1 4) from I.1.1.2.2.2.1) (by omega)
  have b5 := bel_nat (show below 20 (F 1 5) from I.1.1.2.2.2.2) (by omega)
  obtain ⟨q, hq, e⟩ : below 20 (F 1 5) := I.1.1.2.2.2.2
  have e0 : F 1 (Int32.toNatClampNeg 5) = nI q := e
  have fin : ∀ f, f = upd (F 1) 5 0 → ∀ r, K (some (.int r)) (xfill (va_up F 1 f) v 0 (wM0 0)) := by
    intro f ef r
    have f1 : ∀ i, ¬ i = 5 → f i = F 1 i := fun i hi => by rw [ef]; exact pk_un hi
    have f2 : f 5 = 0 := by rw [ef]; exact pk_us
    refine h r (va_up F 1 f) v (S.row (f1 6 (by omega)) (f1 7 (by omega))) ?_
    refine mrow ⟨⟨f1 3 (by omega), f1 2 (by omega), f1 0 (by omega), f1 1 (by omega), f1 4 (by omega), f2⟩, fun j hj => ⟨f1 _ (by omega), f1 _ (by omega)⟩, fun j hj => ⟨f1 _ (by omega), f1 _ (by omega)⟩, fun j hj => f1 _ (by omega), fun j hj => ?_⟩
    have hj : j < nat (f 5) := hj
    rw [f2] at hj
    exact absurd (show j < 0 from hj) (Nat.not_lt_zero j)
  have k55 : ∀ i : Int32, xWP pg_M_check K 55 [(0, .ref 0), (1, .int (nI q)), (2, .int i)] [] (xfill (va_up F 1 (upd (F 1) 5 0)) v 0 (wM0 0)) (0, 0) := by
    intro i
    refine xWP_go 100 [] fun P hP => ?_
    exact br_n (fun _ => fin _ rfl _) (fun _ => fin _ rfl _)
  have key : ∀ (d i : Nat), i + d = q → xWP pg_M_check K 16 [(0, .ref 0), (1, .int (nI q)), (2, .int (nI i))] [] (xfill (va_up F 1 (upd (F 1) 5 0)) v 0 (wM0 0)) (0, 0) := by
    intro d
    induction d with
    | zero =>
      intro i hi
      refine xWP_go 100 [(16, [0, 1, 2]), (55, [0, 1, 2])] fun P hP => ?_
      refine br_c (fun _ => hP _ _ _ _ _ (k55 _)) (fun z => ?_)
      have z : ¬ nI q ≤ nI i := z
      rw [nI_leI (by omega) (by omega)] at z
      omega
    | succ d ih =>
      intro i hi
      refine xWP_go 100 [(16, [0, 1, 2]), (55, [0, 1, 2])] fun P hP => ?_
      refine br_c (fun z => ?_) (fun _ => ?_)
      · have z : nI q ≤ nI i := z
        rw [nI_leI (by omega) (by omega)] at z
        omega
      refine ⟨vin (by decide), ?_⟩
      refine br_c (fun _ => hP _ _ _ _ _ (k55 _)) (fun z => ?_)
      have i7 : i < 7 := by
        obtain ⟨m, hm, em⟩ : below 7 (F 1 2) := I.1.1.2.1
        have z : ¬ F 1 2 ≤ nI i := z
        rw [em, nI_leI (by omega) (by omega)] at z
        omega
      refine ⟨by show vp_in (nI 110 + nI i) 230; rw [nI_add]; exact vp_in_nI (by omega) (by omega), ?_⟩
      refine xcall (sp_its (va_up F 1 (upd (F 1) 5 0)) v (nI i) 3 (vc5 i7 (w := 3) (by omega)) ?_)
      refine br_n (fun _ => hP _ _ _ _ _ (k55 _)) (fun _ => ?_)
      refine hP _ _ _ _ _ ?_
      rw [nI_1]
      exact ih (i + 1) (by omega)
  refine xM_go rfl 100 [(16, [0, 1, 2]), (55, [0, 1, 2])] fun P hP => ?_
  refine ⟨vin (by decide), ?_⟩
  refine ⟨vin (by decide), ?_⟩
  refine hP _ _ _ _ _ ?_
  rw [e0, nq5]
  exact key q 0 (by omega)
set_option maxRecDepth 100000 in
theorem ms_image (n : Nat) (F v : xS) (I : aIv n (mA F v)) (S : mS F v) (hn : n < 1000) {K : xKo} (h : mTo F v g_image f_image K) : C_M_image [.ref 0] (xfill F v 0 (wM0 0)) K := by
  have b3 := bel_nat (show below 8 (F 1 3) from I.1.1.1) (by omega)
  have b2 := bel_nat (show below 7 (F 1 2) from I.1.1.2.1) (by omega)
  have b4 := bel_nat (show below 50 (F 1 4) from I.1.1.2.2.2.1) (by omega)
  have b5 := bel_nat (show below 20 (F 1 5) from I.1.1.2.2.2.2) (by omega)
  obtain ⟨m, hm, em⟩ : below n (v 0 5) := I.2.1.1.1
  refine xM_go rfl 100 [] fun P hP => ?_
  refine xcall (sp_moveAll_1_2 F v fun g g1 g2 => ?_)
  refine ⟨Or.inr rfl, ?_⟩
  have nz : ¬ v 0 5 + 1 = 0 := by
    rw [em, nI_1]
    exact nI_ne0 (by omega) (by omega)
  have g6 := g1 6 (by omega)
  have g7 := g1 7 (by omega)
  refine h.ok (F' := va_up F 2 g) (v' := va_up v 0 (va_up (va_up (v 0) 4 1) 5 (v 0 5 + 1))) ⟨S.1, ⟨by show (g 6).toInt ≤ 50; rw [g6]; exact S.1.1, by show (g 7).toInt ≤ 50; rw [g7]; exact S.1.2⟩, (by show (1 : Int32) = if v 0 5 + 1 = 0 then 0 else 1; exact (if_neg nz).symm), S.2.2.2⟩ ?_ rfl
  refine ⟨sAgr.rf, ⟨⟨fun _ _ => rfl, fun _ _ => rfl, fun _ _ => rfl, fun _ _ => rfl⟩, ⟨⟨rfl, rfl, rfl, rfl⟩, rfl, rfl, rfl, rfl⟩, ⟨rfl, rfl⟩, fun _ _ => rfl⟩, fun _ => ⟨⟨g1 3 (by omega), g1 2 (by omega), g1 0 (by omega), g1 1 (by omega), g1 4 (by omega), g1 5 (by omega)⟩, fun j hj => ?_, fun j hj => ?_, fun j hj => ?_, fun j hj => ?_⟩⟩
  · have hj : j < nat (g 3) := hj
    rw [g1 3 (by omega)] at hj
    exact ⟨g1 (9 + 2 * j) (by omega), g1 (9 + 2 * j + 1) (by omega)⟩
  · have hj : j < nat (g 2) := hj
    rw [g1 2 (by omega)] at hj
    exact ⟨g1 (25 + 5 * j + 0) (by omega), g1 (25 + 5 * j + 1) (by omega)⟩
  · have hj : j < nat (g 4) := hj
    rw [g1 4 (by omega)] at hj
    exact g1 (60 + j) (by omega)
  · have hj : j < nat (g 5) := hj
    rw [g1 5 (by omega)] at hj
    exact g1 (110 + j) (by omega)
set_option maxRecDepth 100000 in
theorem ms_restore (n : Nat) (F v : xS) (I : aIv n (mA F v)) (S : mS F v) {K : xKo} (h : mTo F v g_restore f_restore K) : C_M_restore [.ref 0] (xfill F v 0 (wM0 0)) K := by
  have ek := S.2.2.1
  refine xM_go rfl 100 [] fun P hP => ?_
  refine br_n (fun a => ?_) (fun a => ?_)
  · have a : ¬ v 0 4 = 0 := a
    have nz : ¬ v 0 5 = 0 := fun z => a (by rw [ek, if_pos z])
    have J : sIv (mSt (F 2)) := I.2.2 nz
    have b3 := bel_nat (show below 8 (F 2 3) from J.1.1) (by omega)
    have b2 := bel_nat (show below 7 (F 2 2) from J.1.2.1) (by omega)
    have b4 := bel_nat (show below 50 (F 2 4) from J.1.2.2.2.1) (by omega)
    have b5 := bel_nat (show below 20 (F 2 5) from J.1.2.2.2.2) (by omega)
    refine xcall (sp_moveAll_2_1 F v fun g g1 g2 => ?_)
    refine ⟨vin (by decide), ?_⟩
    have g6 := g1 6 (by omega)
    have g7 := g1 7 (by omega)
    have fin : K (some (.int (F 2 0))) (xfill (va_up F 1 g) v 0 (wM0 0)) := by
      refine h.ok (F' := va_up F 1 g) (v' := v) ⟨⟨by show (g 6).toInt ≤ 50; rw [g6]; exact S.2.1.1, by show (g 7).toInt ≤ 50; rw [g7]; exact S.2.1.2⟩, S.2⟩ ?_ (if_neg nz)
      rw [show g_restore (mA F v) = _ from if_neg nz]
      refine ⟨⟨⟨g1 3 (by omega), g1 2 (by omega), g1 0 (by omega), g1 1 (by omega), g1 4 (by omega), g1 5 (by omega)⟩, fun j hj => ?_, fun j hj => ?_, fun j hj => ?_, fun j hj => ?_⟩, ⟨⟨fun _ _ => rfl, fun _ _ => rfl, fun _ _ => rfl, fun _ _ => rfl⟩, ⟨⟨rfl, rfl, rfl, rfl⟩, rfl, rfl, rfl, rfl⟩, ⟨rfl, rfl⟩, fun _ _ => rfl⟩, fun _ => sAgr.rf⟩
      · have hj : j < nat (g 3) := hj
        rw [g1 3 (by omega)] at hj
        exact ⟨g1 (9 + 2 * j) (by omega), g1 (9 + 2 * j + 1) (by omega)⟩
      · have hj : j < nat (g 2) := hj
        rw [g1 2 (by omega)] at hj
        exact ⟨g1 (25 + 5 * j + 0) (by omega), g1 (25 + 5 * j + 1) (by omega)⟩
      · have hj : j < nat (g 4) := hj
        rw [g1 4 (by omega)] at hj
        exact g1 (60 + j) (by omega)
      · have hj : j < nat (g 5) := hj
        rw [g1 5 (by omega)] at hj
        exact g1 (110 + j) (by omega)
    rw [← g1 0 (by omega)] at fin
    exact fin
  · have a : v 0 4 = 0 := a
    have z0 : v 0 5 = 0 := by
      by_cases z : v 0 5 = 0
      · exact z
      · rw [ek, if_neg z] at a
        exact absurd a (by decide)
    refine xcall (sp_errM F v (-1000000002) 2 (by decide) (by decide) ?_)
    exact h.err S _ (if_pos z0) (if_pos z0)
set_option maxRecDepth 100000 in
theorem ms_told (n : Nat) (F v : xS) (I : aIv n (mA F v)) (S : mS F v) (i : Int32) {K : xKo} (h : mTw F v (fun s => s) K) : C_M_told [.ref 0, .int i] (xfill F v 0 (wM0 0)) K := by
  refine xM_go rfl 100 [] fun P hP => ?_
  refine xcall (sp_in _ _ _ (fun a => ?_) (fun a => ?_))
  · refine br_c (fun _ => ?_) (fun z => absurd rfl z)
    refine xcall (sp_errM F v (-1000000001) 1 (by decide) (by decide) ?_)
    exact h.err S _ rfl
  · refine br_c (fun z => absurd z (by decide)) (fun _ => ?_)
    simp only [Int32.reduceToInt] at a
    refine ⟨vin (by omega), ?_⟩
    exact h.id S rfl
theorem ms_it (n : Nat) (F v : xS) (I : aIv n (mA F v)) (S : mS F v) (c : Int32) {K : xKo} (h : mTw F v (fun s => s) K) : C_M_it [.ref 0, .int c] (xfill F v 0 (wM0 0)) K := by
  have go : ∀ r, K (some (.int r)) (xfill (va_up F 1 (upd (F 1) (nat 8) c)) v 0 (wM0 0)) := fun r => h.r I S (mR.rf.row rfl) rfl
  refine xM_go rfl 100 [] fun P hP => ?_
  refine br_c (fun _ => ?_) (fun _ => ?_)
  · refine xcall (sp_becomesM F v 8 c (vin (by decide)) ?_)
    exact go _
  refine xcall (sp_isChildM F v _ I.1.1.2.1 (fun a1 => ?_) (fun a1 => ?_))
  · refine br_c (fun _ => ?_) (fun z => absurd rfl z)
    refine xcall (sp_errM F v (-1000000001) 1 (by decide) (by decide) ?_)
    exact h.err S _ rfl
  · refine br_c (fun z => absurd z (by decide)) (fun _ => ?_)
    refine xcall (sp_becomesM F v 8 c (vin (by decide)) ?_)
    exact go _
set_option maxRecDepth 100000 in
theorem ms_change (n : Nat) (F v : xS) (I : aIv n (mA F v)) (S : mS F v) (c w x : Int32) {K : xKo} (h : mTw F v (fun s => s) K) : C_M_change [.ref 0, .int c, .int w, .int x] (xfill F v 0 (wM0 0)) K := by
  have go : ∀ s : Int32, (¬ s = 0 → xin w 3) → xWP pg_M_change K 36 [(0, .ref 0), (1, .int c), (2, .int w), (3, .int x)] [.int s] (xfill F v 0 (wM0 0)) (0, 0) := by
    intro s s1
    refine xWP_go 100 [] fun P hP => ?_
    refine xcall (sp_isChildM F v _ I.1.1.2.1 (fun a3 => ?_) (fun a3 => ?_))
    · refine br_c (fun _ => ?_) (fun z => absurd rfl z)
      refine xcall (sp_errM F v (-1000000001) 1 (by decide) (by decide) ?_)
      exact h.err S _ rfl
    refine br_c (fun z => absurd z (by decide)) (fun _ => ?_)
    refine br_c (fun z => ?_) (fun z => ?_)
    · skip
      refine xcall (sp_errM F v (-1000000001) 1 (by decide) (by decide) ?_)
      exact h.err S _ rfl
    obtain ⟨k, hk, rfl, ek, lt⟩ := xin_ex I.1.1.2.1 (by omega) a3
    obtain ⟨j, hj, rfl, ej⟩ := nI_ofx w (n := 3) (s1 z) (by decide)
    have ei : (25 : Int32) + 5 * nI k + 2 + nI j = nI (25 + 5 * k + (2 + j)) := by
      rw [ix25, show (2 : Int32) = nI 2 from rfl, nI_add, nI_add, Nat.add_assoc]
    have b : vp_in ((25 : Int32) + 5 * nI k + 2 + nI j) 230 := by rw [ei]; exact vp_in_nI (by omega) (by omega)
    refine xcall (sp_becomesM F v _ x b ?_)
    refine h.r I S (mR.rf.row ?_) rfl
    show r1 (Int32.toNatClampNeg ((25 : Int32) + 5 * nI k + 2 + nI j)) = true
    rw [ei]
    have q := r1_at (i := k) (w := 2 + j) hk (by omega) (by omega)
    rw [ix5] at q
    exact q
  refine xM_go rfl 100 [(36, [0, 1, 2, 3])] fun P hP => ?_
  refine br_n (fun w0 => ?_) (fun w0 => ?_)
  · refine xcall (sp_in _ _ _ (fun a => ?_) (fun a => ?_))
    · refine br_c (fun _ => ?_) (fun z => absurd rfl z)
      exact hP _ _ _ _ _ (go 0 (fun z => absurd rfl z))
    · refine br_c (fun z => absurd z (by decide)) (fun _ => ?_)
      refine xcall (sp_in _ _ _ (fun a2 => ?_) (fun a2 => ?_))
      · refine br_c (fun _ => ?_) (fun z => absurd rfl z)
        exact hP _ _ _ _ _ (go 0 (fun z => absurd rfl z))
      · refine br_c (fun z => absurd z (by decide)) (fun _ => ?_)
        exact hP _ _ _ _ _ (go 1 (fun _ => by simp only [xin, Int32.reduceToInt] at a ⊢; omega))
  · have w0 : w = 0 := w0
    refine xcall (sp_isCell _ (fun a => ?_) (fun a => ?_))
    · exact hP _ _ _ _ _ (go 0 (fun z => absurd rfl z))
    · exact hP _ _ _ _ _ (go 1 (fun _ => by rw [w0]; decide))
set_option maxRecDepth 100000 in
theorem ms_law (n : Nat) (F v : xS) (I : aIv n (mA F v)) (S : mS F v) (u a b c : Int32) {K : xKo} (h : mTw F v (fun s => s) K) : C_M_law [.ref 0, .int u, .int a, .int b, .int c] (xfill F v 0 (wM0 0)) K := by
  refine xM_go rfl 100 [] fun P hP => ?_
  refine xcall (sp_inx _ 1 2 (by decide) (fun a1 => ?_) (fun a1 => ?_))
  · refine br_c (fun _ => ?_) (fun z => absurd rfl z)
    refine xcall (sp_errM F v (-1000000001) 1 (by decide) (by decide) ?_)
    exact h.err S _ rfl
  refine br_c (fun z => absurd z (by decide)) (fun _ => ?_)
  obtain ⟨j, hj, rfl, ej⟩ := nI_ofx u (n := 2) a1 (by decide)
  refine xcall (sw_lawOf F v (mI.o I S) (nI j) a b c ?_ (fun r v' R => ?_))
  · rcases (show j = 0 ∨ j = 1 by omega) with z | z
    · subst z; exact Or.inl rfl
    · subst z; exact Or.inr rfl
  · exact h.r I S (mR.rf.vs R) rfl
set_option maxRecDepth 100000 in
theorem ms_ofChild (n : Nat) (F v : xS) (I : aIv n (mA F v)) (S : mS F v) (c w : Int32) {K : xKo} (h : mTw F v (fun s => s) K) : C_M_ofChild [.ref 0, .int c, .int w] (xfill F v 0 (wM0 0)) K := by
  refine xM_go rfl 100 [] fun P hP => ?_
  refine xcall (sp_isChildM F v _ I.1.1.2.1 (fun a1 => ?_) (fun a1 => ?_))
  · refine br_c (fun _ => ?_) (fun z => absurd rfl z)
    refine xcall (sp_errM F v (-1000000001) 1 (by decide) (by decide) ?_)
    exact h.err S _ rfl
  refine br_c (fun z => absurd z (by decide)) (fun _ => ?_)
  refine xcall (sp_inx _ 6 7 (by decide) (fun a2 => ?_) (fun a2 => ?_))
  · refine br_n (fun z => absurd rfl z) (fun _ => ?_)
    refine xcall (sp_errM F v (-1000000001) 1 (by decide) (by decide) ?_)
    exact h.err S _ rfl
  refine br_n (fun _ => ?_) (fun z => absurd z (by decide))
  obtain ⟨k, hk, rfl, ek, lt⟩ := xin_ex I.1.1.2.1 (by omega) a1
  obtain ⟨j, hj, rfl, ej⟩ := nI_ofx w (n := 7) a2 (by decide)
  refine br_c (fun _ => ?_) (fun z => ?_)
  · refine br_n (fun _ => ?_) (fun _ => ?_)
    · exact xcall (sw_farM F v k hk (fun r => h.id S rfl))
    · exact xcall (sw_paceM F v k hk (fun r => h.id S rfl))
  · have z : ¬ nI 5 ≤ nI j := z
    rw [nI_leI (by omega) (by omega)] at z
    exact xcall (sp_its F v (nI k) (nI j) (vc5 hk (by omega)) (h.id S rfl))
set_option maxRecDepth 100000 in
theorem sw_sumOf (F v : xS) (b : below 7 (F 1 2)) (w : Nat) (hw : w < 5) {K : xKo} (h : ∀ r, K (some (.int r)) (xfill F v 0 (wM0 0))) : C_M_sumOf [.ref 0, .int (nI w)] (xfill F v 0 (wM0 0)) K := by
  obtain ⟨m, hm, em⟩ := b
  have key : ∀ (d i : Nat) (q : Int32), i + d = m → xWP pg_M_sumOf K 4 [(0, .ref 0), (1, .int (nI w)), (2, .int q), (3, .int (nI i))] [] (xfill F v 0 (wM0 0)) (0, 0) := by
    intro d
    induction d with
    | zero =>
      intro i q hi
      refine xWP_go 100 [(4, [0, 1, 2, 3])] fun P hP => ?_
      refine ⟨vin (by decide), ?_⟩
      refine br_c (fun _ => h _) (fun z => ?_)
      have z : ¬ F 1 2 ≤ nI i := z
      rw [em, nI_leI (by omega) (by omega)] at z
      omega
    | succ d ih =>
      intro i q hi
      refine xWP_go 100 [(4, [0, 1, 2, 3])] fun P hP => ?_
      refine ⟨vin (by decide), ?_⟩
      refine br_c (fun z => ?_) (fun _ => ?_)
      · have z : F 1 2 ≤ nI i := z
        rw [em, nI_leI (by omega) (by omega)] at z
        omega
      refine xcall (sp_its F v (nI i) (nI w) (vc5 (by omega) hw) ?_)
      refine hP _ _ _ _ _ ?_
      rw [nI_1]
      exact ih (i + 1) _ (by omega)
  refine xM_go rfl 100 [(4, [0, 1, 2, 3])] fun P hP => ?_
  refine hP _ _ _ _ _ ?_
  exact key m 0 _ (by omega)
set_option maxRecDepth 100000 in
theorem ms_count (n : Nat) (F v : xS) (I : aIv n (mA F v)) (S : mS F v) (w : Int32) {K : xKo} (h : mTw F v (fun s => s) K) : C_M_count [.ref 0, .int w] (xfill F v 0 (wM0 0)) K := by
  refine xM_go rfl 100 [] fun P hP => ?_
  refine ⟨fun _ => ⟨vin (by decide), h.id S rfl⟩, fun _ => ?_⟩
  refine ⟨fun _ => ⟨vin (by decide), h.id S rfl⟩, fun _ => ?_⟩
  refine ⟨fun _ => ⟨vin (by decide), h.id S rfl⟩, fun _ => ?_⟩
  refine ⟨fun _ => ⟨vin (by decide), h.id S rfl⟩, fun _ => ?_⟩
  refine ⟨fun _ => xcall (sw_sumOf F v I.1.1.2.1 3 (by omega) (fun r => h.id S rfl)), fun _ => ?_⟩
  refine ⟨fun _ => xcall (sw_sumOf F v I.1.1.2.1 4 (by omega) (fun r => h.id S rfl)), fun _ => ?_⟩
  refine ⟨fun _ => ⟨vin (by decide), h.id S rfl⟩, fun _ => ?_⟩
  refine ⟨fun _ => ⟨vin (by decide), h.id S rfl⟩, fun _ => ?_⟩
  refine ⟨fun _ => h.id S rfl, fun _ => ?_⟩
  refine ⟨fun _ => ⟨vin (by decide), h.id S rfl⟩, fun _ => ?_⟩
  refine xcall (sp_errM F v (-1000000001) 1 (by decide) (by decide) ?_)
  exact h.err S _ rfl
