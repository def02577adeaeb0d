/-! ===== the reference: small methods, exactly ===== -/
theorem mXr.of {f g : xRw} {X : xXt} (h : mXr f X) (e : ∀ j, exi j = true → g j = f j) : mXr g X := by
  refine ⟨fun j hj => ?_, (e 8 rfl).trans h.2.1, h.2.2.1.of (by decide) (e 6 rfl) (fun k a l => e k (exi_of (Or.inr (Or.inr (Or.inr (Or.inr ⟨a, l⟩)))))), h.2.2.2.of (by decide) (e 7 rfl) (fun k a l => e k (exi_of (Or.inr (Or.inr (Or.inr (Or.inr ⟨a, l⟩))))))⟩
  rw [e _ (exi_of (Or.inr (Or.inr (Or.inr (Or.inl ⟨by omega, by omega, by omega⟩))))), e _ (exi_of (Or.inr (Or.inr (Or.inr (Or.inl ⟨by omega, by omega, by omega⟩))))), e _ (exi_of (Or.inr (Or.inr (Or.inr (Or.inl ⟨by omega, by omega, by omega⟩)))))]
  exact h.1 j hj
/-- the reference's own ranges, and what is told, of a new state -/
theorem MR.mS {n : Nat} {σ σ' : xZ} {F v F' v' : xS} (R : MR n σ F v) (h6 : (F' 1 6).toInt ≤ 50 ∧ (F' 1 7).toInt ≤ 50) (h2 : F' 2 = F 2) (hv : v' 0 4 = v 0 4 ∧ v' 0 5 = v 0 5 ∧ v' 0 15 = v 0 15) (h8 : F' 6 = F 6 ∧ F' 8 = F 8) (Z : mXr (F' 1) σ'.2.1) (e : σ'.1.2.2 6 0 = σ.1.2.2 6 0) (e2 : σ'.2.2 = σ.2.2) : mS (mZ σ') F' v' := by
  have S := R.2.2.2
  refine ⟨h6, ⟨by rw [h2]; exact S.2.1.1, mXr.row.mpr Z, ?_⟩, ?_, ?_, ?_⟩
  · rw [e, e2]
    show ¬ σ.1.2.2 6 0 = 0 → mXr (fun j => if exi j then F' 2 j else 0) σ.2.2
    rw [h2]
    exact R.z.2
  · rw [hv.1, hv.2.1]; exact S.2.2.1
  · rw [hv.2.2]; exact S.2.2.2.1
  · rw [h8.1, h8.2]; exact S.2.2.2.2
/-- a step that changes what is told now, not the street's tables -/
theorem MR.tell {n : Nat} {σ : xZ} {F v F' v' : xS} {X' : xXt} (R : MR n σ F v) (E : mR r1 F v F' v') (Z : mXr (F' 1) X') (Q : cIv σ.1.1 X' ∧ out0 σ.1.1 X') : MR (n + 1) (σ.1, X', σ.2.2) F' v' := by
  have S := R.2.2.2
  refine ⟨R.1.up, ⟨Q, R.2.1.2⟩, (E.agr ok_r1 R.J rfl rfl).tr R.2.2.1, R.mS (σ' := (σ.1, X', σ.2.2)) ⟨?_, ?_⟩ (E.k ⟨by decide, by decide, by decide, by decide⟩) ⟨E.v (by omega), E.v (by omega), E.v (by omega)⟩ ⟨E.k ⟨by decide, by decide, by decide, by decide⟩, E.k ⟨by decide, by decide, by decide, by decide⟩⟩ Z rfl rfl⟩
  · rw [E.2.1 6 (by omega) rfl]; exact S.1.1
  · rw [E.2.1 7 (by omega) rfl]; exact S.1.2
theorem eS0 {n : Nat} {σ : xZ} {F v : xS} (R : MR n σ F v) (s : xS) : sm (v 0 15) s = s := by rw [R.tk, sm_0]
set_option maxRecDepth 100000 in
theorem MX_law (n : Nat) (σ : xZ) (F v : xS) (R : MR n σ F v) (u a b c : Int32) {K : xKo} (h : mK n σ (z_law u a b c σ) K) : C_M_law [.ref 0, .int u, .int a, .int b, .int c] (xfill F v 0 (wM0 0)) K := by
  refine xM_go rfl 100 [] fun P hP => ?_
  refine xcall (sp_inx _ 1 2 (by decide) (fun a1 => ?_) (fun a1 => ?_))
  · refine br_c (fun _ => ?_) (fun z => absurd rfl z)
    refine xcall (sp_errM F v (-1000000001) 1 (by decide) (by decide) ?_)
    exact R.err h _ (if_neg a1)
  refine br_c (fun z => absurd z (by decide)) (fun _ => ?_)
  have ef : z_law u a b c σ = σ.2.1.2.2 (nat u) a b c := if_pos a1
  obtain ⟨j, hj, rfl, ej⟩ := nI_ofx u (n := 2) a1 (by decide)
  rw [ej] at ef
  have LM : mLw (F 1) j (σ.2.1.2.2 j) := by
    rcases (show j = 0 ∨ j = 1 by omega) with z | z
    all_goals subst z
    · exact R.t.2.2.2.2.1
    · exact R.t.2.2.2.2.2
  refine xcall (sx_lawOf F v j (by omega) (nI j) rfl (σ.2.1.2.2 j) LM a b c (fun v' E => ?_))
  exact R.go h (mR.vr E) ef
set_option maxRecDepth 100000 in
theorem MX_hadBy (n : Nat) (σ : xZ) (F v : xS) (R : MR n σ F v) (m s : Int32) {K : xKo} (h : mK n σ (z_hadBy m s σ) K) : C_M_hadBy [.ref 0, .int m, .int s] (xfill F v 0 (wM0 0)) K := by
  refine xM_go rfl 200 [] fun P hP => ?_
  refine xcall (sp_isMark _ (fun a1 => ?_) (fun a1 => ?_))
  · refine br_c (fun _ => ?_) (fun z => absurd rfl z)
    refine xcall (sp_errM F v (-1000000001) 1 (by decide) (by decide) ?_)
    exact R.err h _ (if_neg fun z => a1 z.1)
  refine br_c (fun z => absurd z (by decide)) (fun _ => ?_)
  refine xcall (sp_areSteps _ (fun a2 => ?_) (fun a2 => ?_))
  · refine br_c (fun _ => ?_) (fun z => absurd rfl z)
    refine xcall (sp_errM F v (-1000000001) 1 (by decide) (by decide) ?_)
    exact R.err h _ (if_neg fun z => a2 z.2)
  refine br_c (fun z => absurd z (by decide)) (fun _ => ?_)
  have ef : z_hadBy m s σ = eSet σ.1.1 σ.2.1 m s := if_pos ⟨a1, a2⟩
  obtain ⟨u, hu, rfl, -⟩ := nI_ofx s (n := 10) a2 (by decide)
  refine xcall (sx_wouldBe F v σ.1.1 σ.2.1 R.t R.c m u (by omega) (fun F' v' E => ?_))
  rw [eS0 R]
  exact R.go h E ef
set_option maxRecDepth 100000 in
theorem MX_runsTo (n : Nat) (σ : xZ) (F v : xS) (R : MR n σ F v) (c m s : Int32) {K : xKo} (h : mK n σ (z_runsTo c m s σ) K) : C_M_runsTo [.ref 0, .int c, .int m, .int s] (xfill F v 0 (wM0 0)) K := by
  refine xM_go rfl 200 [] fun P hP => ?_
  refine xcall (sp_isChildM F v _ R.J.1.1.2.1 (fun a1 => ?_) (fun a1 => ?_))
  · rw [R.n1.2.1] at a1
    refine br_c (fun _ => ?_) (fun z => absurd rfl z)
    refine xcall (sp_errM F v (-1000000001) 1 (by decide) (by decide) ?_)
    exact R.err h _ (if_neg fun z => a1 z.1)
  rw [R.n1.2.1] at a1
  refine br_c (fun z => absurd z (by decide)) (fun _ => ?_)
  refine xcall (sp_isMark _ (fun a2 => ?_) (fun a2 => ?_))
  · refine br_c (fun _ => ?_) (fun z => absurd rfl z)
    refine xcall (sp_errM F v (-1000000001) 1 (by decide) (by decide) ?_)
    exact R.err h _ (if_neg fun z => a2 z.2.1)
  refine br_c (fun z => absurd z (by decide)) (fun _ => ?_)
  refine xcall (sp_areSteps _ (fun a3 => ?_) (fun a3 => ?_))
  · refine br_c (fun _ => ?_) (fun z => absurd rfl z)
    refine xcall (sp_errM F v (-1000000001) 1 (by decide) (by decide) ?_)
    exact R.err h _ (if_neg fun z => a3 z.2.2)
  refine br_c (fun z => absurd z (by decide)) (fun _ => ?_)
  have ef : z_runsTo c m s σ = eEnd σ.1.1 σ.2.1 m s (nat c) := if_pos ⟨a1, a2, a3⟩
  obtain ⟨u, hu, rfl, -⟩ := nI_ofx s (n := 10) a3 (by decide)
  obtain ⟨i, hi, rfl, ei, li⟩ := xin_ex R.c.1.2 (by omega) a1
  rw [ei] at ef
  refine xcall (sx_ends F v σ.1.1 σ.2.1 R.t R.c i li m u (by omega) (fun v' E => ?_))
  rw [eS0 R]
  exact R.go h (mR.vr E) ef
set_option maxRecDepth 100000 in
theorem MX_ofChild (n : Nat) (σ : xZ) (F v : xS) (R : MR n σ F v) (c w : Int32) {K : xKo} (h : mK n σ (z_ofChild c w σ) K) : C_M_ofChild [.ref 0, .int c, .int w] (xfill F v 0 (wM0 0)) K := by
  have T := R.t
  refine xM_go rfl 100 [] fun P hP => ?_
  refine xcall (sp_isChildM F v _ R.J.1.1.2.1 (fun a1 => ?_) (fun a1 => ?_))
  · rw [R.n1.2.1] at a1
    refine br_c (fun _ => ?_) (fun z => absurd rfl z)
    refine xcall (sp_errM F v (-1000000001) 1 (by decide) (by decide) ?_)
    exact R.err h _ (if_neg a1)
  rw [R.n1.2.1] at a1
  unfold z_ofChild at h
  rw [if_pos a1] at h
  refine br_c (fun z => absurd z (by decide)) (fun _ => ?_)
  refine xcall (sp_inx _ 6 7 (by decide) (fun a2 => ?_) (fun a2 => ?_))
  · refine br_n (fun z => absurd rfl z) (fun _ => ?_)
    refine xcall (sp_errM F v (-1000000001) 1 (by decide) (by decide) ?_)
    have ne : ∀ j : Nat, j < 7 → ¬ w = nI j := fun j hj e => a2 (by rw [e]; exact ⟨by rw [nI_toInt (by omega)]; omega, by rw [nI_toInt (by omega)]; omega⟩)
    exact R.err h _ ((if_neg (ne 0 (by omega))).trans ((if_neg (ne 1 (by omega))).trans ((if_neg (ne 2 (by omega))).trans ((if_neg (ne 3 (by omega))).trans ((if_neg (ne 4 (by omega))).trans ((if_neg (ne 5 (by omega))).trans (if_neg (ne 6 (by omega)))))))))
  refine br_n (fun _ => ?_) (fun z => absurd z (by decide))
  obtain ⟨k, hk, rfl, ek, lt⟩ := xin_ex R.c.1.2 (by omega) a1
  have k7 : k < 7 := by have := bel_nat R.c.1.2 (by omega); omega
  rw [ek] at h
  obtain ⟨j, hj, rfl, ej⟩ := nI_ofx w (n := 7) a2 (by decide)
  obtain ⟨t0, t1⟩ := T.2.2.1 k lt
  obtain ⟨t2, t3, t4⟩ := T.2.2.2.1 k k7
  refine br_c (fun z => ?_) (fun z => ?_)
  · have z : nI 5 ≤ nI j := z
    rw [nI_leI (by omega) (by omega)] at z
    refine br_n (fun y => ?_) (fun y => ?_)
    · have y : ¬ nI j = nI 5 := y
      have j6 : j = 6 := by
        have : ¬ j = 5 := fun e => y (by rw [e])
        omega
      subst j6
      refine xcall (sx_farM F v σ.1.1 σ.2.1 T k lt k7 ?_)
      exact R.id h ((if_neg (by decide)).trans ((if_neg (by decide)).trans ((if_neg (by decide)).trans ((if_neg (by decide)).trans ((if_neg (by decide)).trans ((if_neg (by decide)).trans (if_pos rfl)))))))
    · have y : nI j = nI 5 := y
      have j5 : j = 5 := (nI_eq (by omega) (by omega)).mp y
      subst j5
      refine xcall (sx_paceM F v σ.1.1 σ.2.1 T R.c.hit k lt k7 ?_)
      exact R.id h ((if_neg (by decide)).trans ((if_neg (by decide)).trans ((if_neg (by decide)).trans ((if_neg (by decide)).trans ((if_neg (by decide)).trans (if_pos rfl))))))
  · have z : ¬ nI 5 ≤ nI j := z
    rw [nI_leI (by omega) (by omega)] at z
    rcases (show j = 0 ∨ j = 1 ∨ j = 2 ∨ j = 3 ∨ j = 4 by omega) with e | e | e | e | e
    all_goals subst e
    · exact xcall (sx_its F v k 0 k7 (by omega) _ rfl (σ.1.1 2 k) t0 (R.id h (if_pos rfl)))
    · exact xcall (sx_its F v k 1 k7 (by omega) _ rfl (σ.1.1 3 k) t1 (R.id h ((if_neg (by decide)).trans (if_pos rfl))))
    · exact xcall (sx_its F v k 2 k7 (by omega) _ rfl (σ.2.1.1 0 k) t2 (R.id h ((if_neg (by decide)).trans ((if_neg (by decide)).trans (if_pos rfl)))))
    · exact xcall (sx_its F v k 3 k7 (by omega) _ rfl (σ.2.1.1 1 k) t3 (R.id h ((if_neg (by decide)).trans ((if_neg (by decide)).trans ((if_neg (by decide)).trans (if_pos rfl))))))
    · exact xcall (sx_its F v k 4 k7 (by omega) _ rfl (σ.2.1.1 2 k) t4 (R.id h ((if_neg (by decide)).trans ((if_neg (by decide)).trans ((if_neg (by decide)).trans ((if_neg (by decide)).trans (if_pos rfl)))))))
theorem sx_sumOf (F v : xS) (m : Nat) (hm : m ≤ 7) (em : F 1 2 = nI m) (w : Nat) (hw : w < 5) {K : xKo} (h : K (some (.int (sumV (fun j => F 1 (25 + 5 * j + w)) m))) (xfill F v 0 (wM0 0))) : C_M_sumOf [.ref 0, .int (nI w)] (xfill F v 0 (wM0 0)) K := by
  have key : ∀ (d i : Nat), i + d = m → xWP pg_M_sumOf K 4 [(0, .ref 0), (1, .int (nI w)), (2, .int (sumV (fun j => F 1 (25 + 5 * j + w)) i)), (3, .int (nI i))] [] (xfill F v 0 (wM0 0)) (0, 0) := by
    intro d
    induction d with
    | zero =>
      intro i hi
      have hi : i = m := hi
      subst hi
      refine xWP_go 100 [(4, [0, 1, 2, 3])] fun P hP => ?_
      refine ⟨vin (by decide), ?_⟩
      refine br_c (fun _ => h) (fun z => ?_)
      have z : ¬ F 1 2 ≤ nI i := z
      rw [em, nI_leI (by omega) (by omega)] at z
      omega
    | succ d ih =>
      intro i hi
      refine xWP_go 100 [(4, [0, 1, 2, 3])] fun P hP => ?_
      refine ⟨vin (by decide), ?_⟩
      refine br_c (fun z => ?_) (fun _ => ?_)
      · have z : F 1 2 ≤ nI i := z
        rw [em, nI_leI (by omega) (by omega)] at z
        omega
      refine xcall (sx_its F v i w (by omega) hw _ rfl (F 1 (25 + 5 * i + w)) rfl ?_)
      refine hP _ _ _ _ _ ?_
      rw [nI_1]
      exact ih (i + 1) (by omega)
  refine xM_go rfl 100 [(4, [0, 1, 2, 3])] fun P hP => ?_
  refine hP _ _ _ _ _ ?_
  exact key m 0 (by omega)
set_option maxRecDepth 100000 in
theorem MX_count (n : Nat) (σ : xZ) (F v : xS) (R : MR n σ F v) (w : Int32) {K : xKo} (h : mK n σ (z_count w σ) K) : C_M_count [.ref 0, .int w] (xfill F v 0 (wM0 0)) K := by
  obtain ⟨c, hc, e⟩ : below 7 (σ.1.1 6 1) := R.c.1.2
  have ec : nat (σ.1.1 6 1) = c := by rw [e]; exact nI_clamp (by omega)
  obtain ⟨n3, n2, n0, n1, n4, n5⟩ := R.n1
  have T := R.t
  unfold z_count at h
  rw [ec] at h
  refine xM_go rfl 100 [] fun P hP => ?_
  refine ⟨fun z => ⟨vin (by decide), ?_⟩, fun q0 => ?_⟩
  · rw [if_pos z] at h; exact R.id h n3.symm
  rw [if_neg q0] at h
  refine ⟨fun z => ⟨vin (by decide), ?_⟩, fun q1 => ?_⟩
  · rw [if_pos z] at h; exact R.id h n2.symm
  rw [if_neg q1] at h
  refine ⟨fun z => ⟨vin (by decide), ?_⟩, fun q2 => ?_⟩
  · rw [if_pos z] at h; exact R.id h n0.symm
  rw [if_neg q2] at h
  refine ⟨fun z => ⟨vin (by decide), ?_⟩, fun q3 => ?_⟩
  · rw [if_pos z] at h; exact R.id h T.1.2.2.2.symm
  rw [if_neg q3] at h
  refine ⟨fun z => xcall (sx_sumOf F v c hc (n2.trans e) 3 (by omega) ?_), fun q4 => ?_⟩
  · rw [if_pos z] at h
    exact R.id h (sumV_congr fun j hj => (T.2.2.2.1 j (by omega)).2.1.symm)
  rw [if_neg q4] at h
  refine ⟨fun z => xcall (sx_sumOf F v c hc (n2.trans e) 4 (by omega) ?_), fun q5 => ?_⟩
  · rw [if_pos z] at h
    exact R.id h (sumV_congr fun j hj => (T.2.2.2.1 j (by omega)).2.2.symm)
  rw [if_neg q5] at h
  refine ⟨fun z => ⟨vin (by decide), ?_⟩, fun q6 => ?_⟩
  · rw [if_pos z] at h; exact R.id h n4.symm
  rw [if_neg q6] at h
  refine ⟨fun z => ⟨vin (by decide), ?_⟩, fun q7 => ?_⟩
  · rw [if_pos z] at h; exact R.id h n5.symm
  rw [if_neg q7] at h
  refine ⟨fun z => ?_, fun q8 => ?_⟩
  · rw [if_pos z] at h; exact R.id h R.2.2.1.2.1.2.2.1.2.symm
  rw [if_neg q8] at h
  refine ⟨fun z => ⟨vin (by decide), ?_⟩, fun q9 => ?_⟩
  · rw [if_pos z] at h; exact R.id h n1.symm
  rw [if_neg q9] at h
  refine xcall (sp_errM F v (-1000000001) 1 (by decide) (by decide) ?_)
  exact R.err h _ rfl
set_option maxRecDepth 100000 in
theorem MX_told (n : Nat) (σ : xZ) (F v : xS) (R : MR n σ F v) (i : Int32) {K : xKo} (h : ∀ r F' v', MR (n + 1) σ F' v' → K (some (.int r)) (xfill F' v' 0 (wM0 0))) : C_M_told [.ref 0, .int i] (xfill F v 0 (wM0 0)) K := by
  refine xM_go rfl 100 [] fun P hP => ?_
  refine xcall (sp_in _ _ _ (fun a => ?_) (fun a => ?_))
  · refine br_c (fun _ => ?_) (fun z => absurd rfl z)
    refine xcall (sp_errM F v (-1000000001) 1 (by decide) (by decide) ?_)
    exact R.err (h _) _ rfl
  · refine br_c (fun z => absurd z (by decide)) (fun _ => ?_)
    simp only [Int32.reduceToInt] at a
    refine ⟨vin (by omega), ?_⟩
    exact R.id (h _) rfl
set_option maxRecDepth 100000 in
theorem MX_it (n : Nat) (σ : xZ) (F v : xS) (R : MR n σ F v) (c : Int32) {K : xKo} (h : mKy n (y_it c σ) (z_it c σ) K) : C_M_it [.ref 0, .int c] (xfill F v 0 (wM0 0)) K := by
  have Z := mXr.row.mp R.z.1
  have n8 : Int32.toNatClampNeg 8 = 8 := by decide
  have go : (c = -1 ∨ xin c (σ.1.1 6 1).toInt) → K (some (.int (F 1 (Int32.toNatClampNeg 8)))) (xfill (va_up F 1 (upd (F 1) (Int32.toNatClampNeg 8) c)) v 0 (wM0 0)) := by
    intro ok
    have e8 : F 1 8 = σ.2.1.2.1 := R.t.1.2.2.2
    unfold y_it z_it at h
    rw [if_pos ok, if_pos ok, ← e8] at h
    rw [n8]
    have f1 : ∀ j, ¬ j = 8 → va_up F 1 (upd (F 1) 8 c) 1 j = F 1 j := fun j hj => pk_un hj
    have f8 : va_up F 1 (upd (F 1) 8 c) 1 8 = c := (show upd (F 1) 8 c 8 = c from pk_us)
    refine h _ _ (R.tell (F' := va_up F 1 (upd (F 1) 8 c)) (v' := v) (mR.rf.row rfl) ⟨fun j hj => ?_, f8, ?_, ?_⟩ ?_)
    · rw [f1 _ (by omega), f1 _ (by omega), f1 _ (by omega)]
      exact Z.1 j hj
    · exact Z.2.2.1.of (by decide) (f1 _ (by decide)) (fun k a l => f1 k (by omega))
    · exact Z.2.2.2.of (by decide) (f1 _ (by decide)) (fun k a l => f1 k (by omega))
    obtain ⟨⟨⟨a, b, d, e, f, g⟩, o⟩, -⟩ := R.2.1
    refine ⟨⟨a, b, d, e, f, ?_⟩, o⟩
    rcases ok with z | z
    · exact Or.inl z
    · obtain ⟨i, hi, e1, ei, li⟩ := xin_ex R.c.1.2 (by omega) z
      exact Or.inr ⟨i, li, e1⟩
  refine xM_go rfl 100 [] fun P hP => ?_
  refine br_c (fun a1 => ?_) (fun a1 => ?_)
  · refine xcall (sp_becomesM F v 8 c (vin (by decide)) ?_)
    exact go (Or.inl a1)
  refine xcall (sp_isChildM F v _ R.J.1.1.2.1 (fun a2 => ?_) (fun a2 => ?_))
  · rw [R.n1.2.1] at a2
    refine br_c (fun _ => ?_) (fun z => absurd rfl z)
    refine xcall (sp_errM F v (-1000000001) 1 (by decide) (by decide) ?_)
    exact R.no h _ (if_neg fun z => z.elim a1 a2) (if_neg fun z => z.elim a1 a2)
  · rw [R.n1.2.1] at a2
    refine br_c (fun z => absurd z (by decide)) (fun _ => ?_)
    refine xcall (sp_becomesM F v 8 c (vin (by decide)) ?_)
    exact go (Or.inr a2)
set_option maxRecDepth 100000 in
theorem MX_change (n : Nat) (σ : xZ) (F v : xS) (R : MR n σ F v) (c w x : Int32) {K : xKo} (h : mKy n (y_change c w x σ) (z_change c w x σ) K) : C_M_change [.ref 0, .int c, .int w, .int x] (xfill F v 0 (wM0 0)) K := by
  have T := R.t
  have go : ∀ s : Int32, (s = 0 ∧ ¬ (xin w 3 ∧ xin x (if w = 0 then 12 else 1000)) ∨ s = 1 ∧ (xin w 3 ∧ xin x (if w = 0 then 12 else 1000))) → xWP pg_M_change K 36 [(0, .ref 0), (1, .int c), (2, .int w), (3, .int x)] [.int s] (xfill F v 0 (wM0 0)) (0, 0) := by
    intro s hs
    refine xWP_go 100 [] fun P hP => ?_
    refine xcall (sp_isChildM F v _ R.J.1.1.2.1 (fun a3 => ?_) (fun a3 => ?_))
    · rw [R.n1.2.1] at a3
      refine br_c (fun _ => ?_) (fun z => absurd rfl z)
      refine xcall (sp_errM F v (-1000000001) 1 (by decide) (by decide) ?_)
      exact R.no h _ (if_neg fun z => a3 z.1.1) (if_neg fun z => a3 z.1.1)
    rw [R.n1.2.1] at a3
    refine br_c (fun z => absurd z (by decide)) (fun _ => ?_)
    refine br_c (fun z => ?_) (fun z => ?_)
    · have z : s = 0 := z
      have no : ¬ (xin w 3 ∧ xin x (if w = 0 then 12 else 1000)) := by
        rcases hs with y | y
        · exact y.2
        · rw [y.1] at z; exact absurd z (by decide)
      refine xcall (sp_errM F v (-1000000001) 1 (by decide) (by decide) ?_)
      exact R.no h _ (if_neg fun z => no ⟨z.1.2, z.2⟩) (if_neg fun z => no ⟨z.1.2, z.2⟩)
    have z : ¬ s = 0 := z
    have yes : xin w 3 ∧ xin x (if w = 0 then 12 else 1000) := by
      rcases hs with y | y
      · exact absurd y.1 z
      · exact y.2
    have ok : chOk c w x σ := ⟨⟨a3, yes.1⟩, yes.2⟩
    unfold y_change z_change at h
    rw [if_pos ok, if_pos ok] at h
    obtain ⟨i, hi, rfl, ei, li⟩ := xin_ex R.c.1.2 (by omega) a3
    have i7 : i < 7 := by have := bel_nat R.c.1.2 (by omega); omega
    obtain ⟨j, hj, ew, ej⟩ := nI_ofx w (n := 3) yes.1 (by decide)
    rw [ej, ei] at h
    have hk : (j = 0 ∧ below 11 x) ∨ ((j = 1 ∨ j = 2) ∧ below 999 x) := by
      by_cases j0 : j = 0
      · have y := yes.2
        rw [if_pos (show w = 0 by rw [ew, j0]; rfl)] at y
        exact Or.inl ⟨j0, b11 y⟩
      · have y := yes.2
        rw [if_neg (fun e => j0 (by
          have q : nI j = nI 0 := ew.symm.trans e
          exact (nI_eq (by omega) (by omega)).mp q))] at y
        exact Or.inr ⟨by omega, b999 y⟩
    have ee : (25 : Int32) + 5 * nI i + 2 + w = nI (25 + 5 * i + (j + 2)) := by
      rw [ew, ix25, show (2 : Int32) = nI 2 from rfl, nI_add, nI_add, Nat.add_assoc, Nat.add_comm 2 j]
    have b : vp_in ((25 : Int32) + 5 * nI i + 2 + w) 230 := by rw [ee]; exact vp_in_nI (by omega) (by omega)
    have nn : Int32.toNatClampNeg ((25 : Int32) + 5 * nI i + 2 + w) = 25 + 5 * i + (j + 2) := by rw [ee]; exact nI_clamp (by omega)
    have wr : F 1 (Int32.toNatClampNeg ((25 : Int32) + 5 * nI i + 2 + w)) = σ.2.1.1 j i := by
      rw [nn]
      obtain ⟨t2, t3, t4⟩ := T.2.2.2.1 i i7
      rcases (show j = 0 ∨ j = 1 ∨ j = 2 by omega) with z | z | z
      all_goals subst z
      · exact t2
      · exact t3
      · exact t4
    refine xcall (sp_becomesM F v _ x b ?_)
    have q := h (va_up F 1 (upd (F 1) (25 + 5 * i + (j + 2)) x)) v (R.tell (mR.rf.row ?_) ?_ ⟨R.c.ch li hk, out0.ch R.2.1.1.2 li⟩)
    · rw [← wr, ← nn] at q
      exact q
    · have rr := r1_at (i := i) (w := j + 2) i7 (by omega) (by omega)
      rw [nc5 (by omega) (by omega)] at rr
      exact rr
    · have TU := T.up (X' := (va_up σ.2.1.1 j (upd (σ.2.1.1 j) i x), σ.2.1.2)) (i := i) (w := j + 2) R.c.1.1 R.c.1.2 i7 ⟨by omega, by omega⟩ x rfl (fun k l hk hl => by
        show va_up σ.2.1.1 j (upd (σ.2.1.1 j) i x) k l = _
        by_cases e : k = j
        · subst e
          by_cases e2 : l = i
          · subst e2
            rw [if_pos ⟨rfl, rfl⟩]
            exact (congrFun (if_pos rfl) l).trans pk_us
          · rw [if_neg (fun z => e2 z.2)]
            exact (congrFun (if_pos rfl) l).trans (pk_un e2)
        · rw [if_neg (fun z => e (by omega))]
          exact congrFun (if_neg e) l)
      exact ⟨TU.2.2.2.1, TU.1.2.2.2, TU.2.2.2.2⟩
  refine xM_go rfl 100 [(36, [0, 1, 2, 3])] fun P hP => ?_
  have i3 : (3 : Int) = 3 := rfl
  refine br_n (fun w0 => ?_) (fun w0 => ?_)
  · have w0 : ¬ w = 0 := w0
    refine xcall (sp_in _ _ _ (fun a => ?_) (fun a => ?_))
    · have a : ¬ ((1 : Int32).toInt ≤ w.toInt ∧ w.toInt ≤ (2 : Int32).toInt) := a
      rw [show (1 : Int32).toInt = 1 by decide, show (2 : Int32).toInt = 2 by decide] at a
      refine br_c (fun _ => ?_) (fun z => absurd rfl z)
      refine hP _ _ _ _ _ (go 0 (Or.inl ⟨rfl, fun z => a ?_⟩))
      have y := z.1
      have n0 : ¬ w.toInt = 0 := fun e => w0 (Int32.toInt_inj.mp (by rw [e]; decide))
      simp only [xin] at y
      omega
    · have a : (1 : Int32).toInt ≤ w.toInt ∧ w.toInt ≤ (2 : Int32).toInt := a
      rw [show (1 : Int32).toInt = 1 by decide, show (2 : Int32).toInt = 2 by decide] at a
      refine br_c (fun z => absurd z (by decide)) (fun _ => ?_)
      refine xcall (sp_inx _ 999 1000 (by decide) (fun a2 => ?_) (fun a2 => ?_))
      · refine br_c (fun _ => ?_) (fun z => absurd rfl z)
        refine hP _ _ _ _ _ (go 0 (Or.inl ⟨rfl, fun z => ?_⟩))
        have y := z.2
        rw [if_neg w0] at y
        exact a2 y
      · refine br_c (fun z => absurd z (by decide)) (fun _ => ?_)
        refine hP _ _ _ _ _ (go 1 (Or.inr ⟨rfl, ⟨by omega, by omega⟩, by rw [if_neg w0]; exact a2⟩))
  · have w0 : w = 0 := w0
    refine xcall (sp_isCell _ (fun a => ?_) (fun a => ?_))
    · refine hP _ _ _ _ _ (go 0 (Or.inl ⟨rfl, fun z => ?_⟩))
      have y := z.2
      rw [if_pos w0] at y
      exact a y
    · refine hP _ _ _ _ _ (go 1 (Or.inr ⟨rfl, by rw [w0]; decide, by rw [if_pos w0]; exact a⟩))
