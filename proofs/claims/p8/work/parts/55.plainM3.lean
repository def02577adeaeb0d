/-! ===== the reference: plain methods, third part ===== -/
variable {Ψ : mRw → Prop}
theorem nq0 : Int32.toNatClampNeg 0 = 0 := by decide
theorem nq1 : Int32.toNatClampNeg 1 = 1 := by decide
theorem nq2 : Int32.toNatClampNeg 2 = 2 := by decide
theorem nq3 : Int32.toNatClampNeg 3 = 3 := by decide
theorem nq4 : Int32.toNatClampNeg 4 = 4 := by decide
theorem nq5 : Int32.toNatClampNeg 5 = 5 := by decide
theorem nq6 : Int32.toNatClampNeg 6 = 6 := by decide
theorem nq7 : Int32.toNatClampNeg 7 = 7 := by decide
theorem nq8 : Int32.toNatClampNeg 8 = 8 := by decide
set_option maxRecDepth 100000 in
theorem ms_seed (n : Nat) (F v : xS) (I : aIv n (mA F v)) (S : mS Ψ F v) (x : Int32) {K : xKo} (h : mTo Ψ F v (g_seed x) (f_seed x) K) : C_M_seed [.ref 0, .int x] (xfill F v 0 (wM0 0)) K := by
  have b3 := bel_nat (show below 8 (F 1 3) from I.1.1.1) (by omega)
  have b2 := bel_nat (show below 7 (F 1 2) from I.1.1.2.1) (by omega)
  have b4 := bel_nat (show below 50 (F 1 4) from I.1.1.2.2.2.1) (by omega)
  have b5 := bel_nat (show below 20 (F 1 5) from I.1.1.2.2.2.2) (by omega)
  refine xM_go rfl 100 [] fun P hP => ?_
  refine ⟨vin (by decide), ?_⟩
  refine ⟨vin (by decide), ?_⟩
  have fin : ∀ f, f = upd (F 1) 1 x → K (some (.int (F 1 1))) (xfill (va_up F 1 f) v 0 (wM0 0)) := by
    intro f ef
    have f1 : ∀ i, ¬ i = 1 → f i = F 1 i := fun i hi => by rw [ef]; exact pk_un hi
    have f2 : f 1 = x := by rw [ef]; exact pk_us
    refine h.ok (F' := va_up F 1 f) (v' := v) (S.row (fun j hj => by have q := exi_in hj; exact f1 j (by omega))) ?_ rfl
    refine mrow ⟨⟨f1 3 (by omega), f1 2 (by omega), f1 0 (by omega), f2, f1 4 (by omega), f1 5 (by omega)⟩, fun j hj => ⟨f1 _ (by omega), f1 _ (by omega)⟩, fun j hj => ⟨f1 _ (by omega), f1 _ (by omega)⟩, fun j hj => f1 _ (by omega), fun j hj => f1 _ (by omega)⟩
  exact fin (upd (F 1) (Int32.toNatClampNeg 1) x) (by rw [nq1])
set_option maxRecDepth 100000 in
theorem ms_trace (n : Nat) (F v : xS) (I : aIv n (mA F v)) (S : mS Ψ F v) (i : Int32) {K : xKo} (h : mTo Ψ F v (fun s => s) (f_trace i) K) : C_M_trace [.ref 0, .int i] (xfill F v 0 (wM0 0)) K := by
  have b : below 40 (v 0 21) := I.2.1.1.2
  refine xM_go rfl 100 [] fun P hP => ?_
  refine xcall (sp_in _ _ _ (fun a => ?_) (fun a => ?_))
  · have a1 : ¬ xin i (v 0 21).toInt := fun z => a ((in_pre b (by omega)).mpr z)
    refine br_c (fun _ => ?_) (fun z => absurd rfl z)
    refine xcall (sp_errM F v (-1000000002) 2 (by decide) (by decide) ?_)
    exact h.err S _ rfl (if_neg a1)
  · have a1 : xin i (v 0 21).toInt := (in_pre b (by omega)).mp a
    refine br_c (fun z => absurd z (by decide)) (fun _ => ?_)
    refine ⟨vinB b a1 (Nat.le_refl _) (by omega), ?_⟩
    exact h.id S rfl (if_pos a1)
set_option maxRecDepth 100000 in
theorem ms_tell (n : Nat) (F v : xS) (I : aIv n (mA F v)) (S : mS Ψ F v) (x : Int32) {K : xKo} (h : mTo Ψ F v (g_tell x) (f_tell x) K) : C_M_tell [.ref 0, .int x] (xfill F v 0 (wM0 0)) K := by
  have b3 := bel_nat (show below 8 (F 1 3) from I.1.1.1) (by omega)
  have b2 := bel_nat (show below 7 (F 1 2) from I.1.1.2.1) (by omega)
  have b4 := bel_nat (show below 50 (F 1 4) from I.1.1.2.2.2.1) (by omega)
  have b5 := bel_nat (show below 20 (F 1 5) from I.1.1.2.2.2.2) (by omega)
  obtain ⟨k, hk, e⟩ : below 20 (F 1 5) := I.1.1.2.2.2.2
  have en : nat (F 1 5) = k := by rw [e]; exact nI_clamp (by omega)
  have e0 : F 1 (Int32.toNatClampNeg 5) = nI k := e
  have ei : (110 : Int32) + nI k = nI (110 + k) := by rw [show (110 : Int32) = nI 110 from rfl, nI_add]
  have ni : Int32.toNatClampNeg ((110 : Int32) + nI k) = 110 + k := by rw [ei]; exact nI_clamp (by omega)
  refine xM_go rfl 100 [] fun P hP => ?_
  refine ⟨vin (by decide), ?_⟩
  refine br_n (fun a3 => ?_) (fun a3 => ?_)
  · have a3 : ¬ F 1 5 = nI 20 := a3
    have k20 : k < 20 := by
      have : ¬ k = 20 := fun z => a3 (by rw [e, z])
      omega
    have c20 : nat (F 1 5) < 20 := by omega
    refine ⟨vin (by decide), ?_⟩
    refine ⟨by show vp_in ((110 : Int32) + F 1 (Int32.toNatClampNeg 5)) 230; rw [e0, ei]; exact vp_in_nI (by omega) (by omega), ?_⟩
    refine ⟨vin (by decide), ?_⟩
    refine ⟨vin (by decide), ?_⟩
    refine ⟨vin (by decide), ?_⟩
    have fin : ∀ f, f = upd (upd (F 1) (110 + k) x) 5 (nI (k + 1)) → K (some (.int (nI k + 1))) (xfill (va_up F 1 f) v 0 (wM0 0)) := by
      intro f ef
      have f1 : ∀ i, ¬ i = 110 + k → ¬ i = 5 → f i = F 1 i := fun i h0 h1 => by rw [ef, pk_un h1, pk_un h0]
      have f2 : f (110 + k) = x := by rw [ef, pk_un (by omega), pk_us]
      have f3 : f 5 = nI (k + 1) := by rw [ef, pk_us]
      refine h.ok (F' := va_up F 1 f) (v' := v) (S.row (fun j hj => by have q := exi_in hj; exact f1 j (by omega) (by omega))) ?_ ((if_pos c20).trans (by show F 1 5 + 1 = _; rw [e]))
      rw [show g_tell x (mA F v) = _ from if_pos c20]
      refine mrow ⟨⟨f1 3 (by omega) (by omega), f1 2 (by omega) (by omega), f1 0 (by omega) (by omega), f1 1 (by omega) (by omega), f1 4 (by omega) (by omega), by show f 5 = F 1 5 + 1; rw [f3, e, nI_1]⟩, fun j hj => ?_, fun j hj => ?_, fun j hj => ?_, fun j hj => ?_⟩
      · have hj : j < nat (f 3) := hj
        rw [f1 3 (by omega) (by omega)] at hj
        exact ⟨f1 (9 + 2 * j) (by omega) (by omega), f1 (9 + 2 * j + 1) (by omega) (by omega)⟩
      · have hj : j < nat (f 2) := hj
        rw [f1 2 (by omega) (by omega)] at hj
        exact ⟨f1 (25 + 5 * j + 0) (by omega) (by omega), f1 (25 + 5 * j + 1) (by omega) (by omega)⟩
      · have hj : j < nat (f 4) := hj
        rw [f1 4 (by omega) (by omega)] at hj
        exact f1 (60 + j) (by omega) (by omega)
      · show f (110 + j) = upd (mSt (F 1) 5) (nat (F 1 5)) x j
        rw [en]
        by_cases jk : j = k
        · subst jk
          rw [pk_us]
          exact f2
        · rw [pk_un jk]
          exact f1 _ (by omega) (by omega)
    have q := fin (upd (upd (F 1) (Int32.toNatClampNeg (110 + F 1 (Int32.toNatClampNeg 5))) x) (Int32.toNatClampNeg 5) (upd (F 1) (Int32.toNatClampNeg (110 + F 1 (Int32.toNatClampNeg 5))) x (Int32.toNatClampNeg 5) + 1)) (by
      rw [e0, ni, nq5, pk_un (by omega), e, nI_1])
    have ev : nI k + 1 = upd (upd (F 1) (Int32.toNatClampNeg (110 + F 1 (Int32.toNatClampNeg 5))) x) (Int32.toNatClampNeg 5) (upd (F 1) (Int32.toNatClampNeg (110 + F 1 (Int32.toNatClampNeg 5))) x (Int32.toNatClampNeg 5) + 1) (Int32.toNatClampNeg 5) := by
      rw [pk_us, e0, ni, nq5, pk_un (by omega), e]
    rw [ev] at q
    exact q
  · have a3 : F 1 5 = nI 20 := a3
    have c20 : ¬ nat (F 1 5) < 20 := by rw [a3]; decide
    refine xcall (sp_errM F v (-1000000004) 4 (by decide) (by decide) ?_)
    exact h.err S _ (if_neg c20) (if_neg c20)
set_option maxRecDepth 100000 in
theorem sw_sumOf (F v : xS) (b : below 7 (F 1 2)) (w : Nat) (hw : w < 5) {K : xKo} (h : ∀ r, K (some (.int r)) (xfill F v 0 (wM0 0))) : C_M_sumOf [.ref 0, .int (nI w)] (xfill F v 0 (wM0 0)) K := by
  obtain ⟨m, hm, em⟩ := b
  have key : ∀ (d i : Nat) (q : Int32), i + d = m → xWP pg_M_sumOf K 4 [(0, .ref 0), (1, .int (nI w)), (2, .int q), (3, .int (nI i))] [] (xfill F v 0 (wM0 0)) (0, 0) := by
    intro d
    induction d with
    | zero =>
      intro i q hi
      refine xWP_go 100 [(4, [0, 1, 2, 3])] fun P hP => ?_
      refine ⟨vin (by decide), ?_⟩
      refine br_c (fun _ => h _) (fun z => ?_)
      have z : ¬ F 1 2 ≤ nI i := z
      rw [em, nI_leI (by omega) (by omega)] at z
      omega
    | succ d ih =>
      intro i q hi
      refine xWP_go 100 [(4, [0, 1, 2, 3])] fun P hP => ?_
      refine ⟨vin (by decide), ?_⟩
      refine br_c (fun z => ?_) (fun _ => ?_)
      · have z : F 1 2 ≤ nI i := z
        rw [em, nI_leI (by omega) (by omega)] at z
        omega
      refine xcall (sp_its F v (nI i) (nI w) (vc5 (by omega) hw) ?_)
      refine hP _ _ _ _ _ ?_
      rw [nI_1]
      exact ih (i + 1) _ (by omega)
  refine xM_go rfl 100 [(4, [0, 1, 2, 3])] fun P hP => ?_
  refine hP _ _ _ _ _ ?_
  exact key m 0 _ (by omega)
