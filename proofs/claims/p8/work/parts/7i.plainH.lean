/-! ===== the tried side: small methods, exactly ===== -/
set_option maxRecDepth 100000 in
theorem HX_law (n : Nat) (σ : xZ) (F v : xS) (R : HR n σ F v) (u a b c : Int32) {K : xKo} (h : hK n σ (z_law u a b c σ) K) : C_H_law [.ref 0, .int u, .int a, .int b, .int c] (xfill F v 0 wH0) K := by
  obtain ⟨n0, h0, e0, w0, w1⟩ := R.t.2.2.2.2.1
  obtain ⟨n1, h1, e1, y0, y1⟩ := R.t.2.2.2.2.2
  refine xM_go rfl 100 [] fun P hP => ?_
  refine xcall (sp_isBelow _ _ (fun a1 => ?_) (fun a1 => ?_))
  · refine br_n (fun z => absurd rfl z) (fun _ => ?_)
    refine xcall (sp_errH F v 1 (by decide) ?_)
    exact R.err h _ (if_neg a1)
  refine br_n (fun _ => ?_) (fun z => absurd z (by decide))
  refine ⟨vin a1, ⟨fun e => ?_, ⟨fun e => ?_, trivial⟩⟩⟩
  · have ef : z_law u a b c σ = σ.2.1.2.2 0 a b c := (if_pos a1).trans (by rw [e]; rfl)
    refine xcall (sp_gives (fun k => F (10 + k)) (fun k => v (10 + k)) a b c n0 h0 e0 (fun z => ?_) (fun z => ?_))
    · exact R.id h (ef.trans (w0 z a b c))
    · exact R.go h (F' := va_up F 12 _) (v' := va_up v 10 (va_up (v 10) 3 _)) ((tR.rf.fu rfl).vu rfl) (ef.trans (w1 z a b c _).symm)
  · have ef : z_law u a b c σ = σ.2.1.2.2 1 a b c := (if_pos a1).trans (by rw [e]; rfl)
    refine xcall (sp_gives (fun k => F (13 + k)) (fun k => v (13 + k)) a b c n1 h1 e1 (fun z => ?_) (fun z => ?_))
    · exact R.id h (ef.trans (y0 z a b c))
    · exact R.go h (F' := va_up F 15 _) (v' := va_up v 13 (va_up (v 13) 3 _)) ((tR.rf.fu rfl).vu rfl) (ef.trans (y1 z a b c _).symm)
set_option maxRecDepth 100000 in
theorem HX_hadBy (n : Nat) (σ : xZ) (F v : xS) (R : HR n σ F v) (m s : Int32) {K : xKo} (h : hK n σ (z_hadBy m s σ) K) : C_H_hadBy [.ref 0, .int m, .int s] (xfill F v 0 wH0) K := by
  refine xM_go rfl 200 [] fun P hP => ?_
  refine xcall (sp_isBelow _ _ (fun a1 => ?_) (fun a1 => ?_))
  · refine br_c (fun _ => ?_) (fun z => absurd rfl z)
    refine xcall (sp_errH F v 1 (by decide) ?_)
    exact R.err h _ (if_neg fun z => a1 z.1)
  refine br_c (fun z => absurd z (by decide)) (fun _ => ?_)
  refine xcall (sp_isSteps _ (fun a2 => ?_) (fun a2 => ?_))
  · refine br_n (fun z => absurd rfl z) (fun _ => ?_)
    refine xcall (sp_errH F v 1 (by decide) ?_)
    exact R.err h _ (if_neg fun z => a2 z.2)
  refine br_n (fun _ => ?_) (fun z => absurd z (by decide))
  have ef : z_hadBy m s σ = eSet σ.1.1 σ.2.1 m s := if_pos ⟨a1, a2⟩
  obtain ⟨u, hu, rfl, -⟩ := nI_ofx s (n := 10) a2 (by decide)
  refine xcall (sx_wouldBeHad (fun k => F (1 + k)) (fun k => v (1 + k)) σ.1.1 σ.2.1 R.t R.c m u (by omega) (fun G w E _ => ?_))
  exact R.go h (F' := upS 1 F G) (v' := upS 1 v w) (hG.e1 E) ef
set_option maxRecDepth 100000 in
theorem HX_runsTo (n : Nat) (σ : xZ) (F v : xS) (R : HR n σ F v) (c m s : Int32) {K : xKo} (h : hK n σ (z_runsTo c m s σ) K) : C_H_runsTo [.ref 0, .int c, .int m, .int s] (xfill F v 0 wH0) K := by
  refine xM_go rfl 200 [] fun P hP => ?_
  refine xcall (sp_isChild F v _ (fun a1 => ?_) (fun a1 => ?_))
  · rw [R.n1.2.1] at a1
    refine br_c (fun _ => ?_) (fun z => absurd rfl z)
    refine xcall (sp_errH F v 1 (by decide) ?_)
    exact R.err h _ (if_neg fun z => a1 z.1)
  rw [R.n1.2.1] at a1
  refine br_c (fun z => absurd z (by decide)) (fun _ => ?_)
  refine xcall (sp_isBelow _ _ (fun a2 => ?_) (fun a2 => ?_))
  · refine br_c (fun _ => ?_) (fun z => absurd rfl z)
    refine xcall (sp_errH F v 1 (by decide) ?_)
    exact R.err h _ (if_neg fun z => a2 z.2.1)
  refine br_c (fun z => absurd z (by decide)) (fun _ => ?_)
  refine xcall (sp_isSteps _ (fun a3 => ?_) (fun a3 => ?_))
  · refine br_n (fun z => absurd rfl z) (fun _ => ?_)
    refine xcall (sp_errH F v 1 (by decide) ?_)
    exact R.err h _ (if_neg fun z => a3 z.2.2)
  refine br_n (fun _ => ?_) (fun z => absurd z (by decide))
  have ef : z_runsTo c m s σ = eEnd σ.1.1 σ.2.1 m s (nat c) := if_pos ⟨a1, a2, a3⟩
  obtain ⟨u, hu, rfl, -⟩ := nI_ofx s (n := 10) a3 (by decide)
  obtain ⟨i, hi, rfl, ei, li⟩ := xin_ex R.c.1.2 (by omega) a1
  refine xcall (sx_endOf (fun k => F (1 + k)) (fun k => v (1 + k)) σ.1.1 σ.2.1 R.t R.c i li m u (by omega) (fun G w E => ?_))
  refine R.go h (F' := upS 1 F G) (v' := upS 1 v w) (hG.e1 E.ge) (ef.trans ?_)
  rw [ei]
set_option maxRecDepth 100000 in
theorem HX_ofChild (n : Nat) (σ : xZ) (F v : xS) (R : HR n σ F v) (c w : Int32) {K : xKo} (h : hK n σ (z_ofChild c w σ) K) : C_H_ofChild [.ref 0, .int c, .int w] (xfill F v 0 wH0) K := by
  refine xM_go rfl 100 [] fun P hP => ?_
  refine xcall (sp_isChild F v _ (fun a1 => ?_) (fun a1 => ?_))
  · rw [R.n1.2.1] at a1
    refine br_n (fun z => absurd rfl z) (fun _ => ?_)
    refine xcall (sp_errH F v 1 (by decide) ?_)
    exact R.err h _ (if_neg a1)
  rw [R.n1.2.1] at a1
  refine br_n (fun _ => ?_) (fun z => absurd z (by decide))
  obtain ⟨i, hi, rfl, ei, li⟩ := xin_ex R.c.1.2 (by omega) a1
  have i7 : i < 7 := by have := bel_nat R.c.1.2 (by omega); omega
  have b : vp_in (nI i) 7 := vp_in_nI i7 (by omega)
  have T := R.t
  obtain ⟨t3, t4⟩ := T.2.2.1 i li
  obtain ⟨t5, t6, t7⟩ := T.2.2.2.1 i i7
  have ek : Int32.toNatClampNeg (nI i) = i := ei
  have t3 : F 4 (Int32.toNatClampNeg (nI i)) = σ.1.1 2 i := by rw [ek]; exact t3
  have t4 : F 5 (Int32.toNatClampNeg (nI i)) = σ.1.1 3 i := by rw [ek]; exact t4
  have t5 : F 6 (Int32.toNatClampNeg (nI i)) = σ.2.1.1 0 i := by rw [ek]; exact t5
  have t6 : F 7 (Int32.toNatClampNeg (nI i)) = σ.2.1.1 1 i := by rw [ek]; exact t6
  have t7 : F 8 (Int32.toNatClampNeg (nI i)) = σ.2.1.1 2 i := by rw [ek]; exact t7
  unfold z_ofChild at h
  rw [if_pos a1, ei] at h
  refine ⟨fun e => ⟨b, ?_⟩, fun q0 => ?_⟩
  · rw [if_pos e] at h; exact R.id h t3.symm
  rw [if_neg q0] at h
  refine ⟨fun e => ⟨b, ?_⟩, fun q1 => ?_⟩
  · rw [if_pos e] at h; exact R.id h t4.symm
  rw [if_neg q1] at h
  refine ⟨fun e => ⟨b, ?_⟩, fun q2 => ?_⟩
  · rw [if_pos e] at h; exact R.id h t5.symm
  rw [if_neg q2] at h
  refine ⟨fun e => ⟨b, ?_⟩, fun q3 => ?_⟩
  · rw [if_pos e] at h; exact R.id h t6.symm
  rw [if_neg q3] at h
  refine ⟨fun e => ⟨b, ?_⟩, fun q4 => ?_⟩
  · rw [if_pos e] at h; exact R.id h t7.symm
  rw [if_neg q4] at h
  refine ⟨fun e => xcall (sp_pace (fun k => F (1 + k)) (fun k => v (1 + k)) (nI i) b ?_), fun q5 => ?_⟩
  · rw [if_pos e] at h
    refine R.id h ?_
    have c1 : v 1 10 = σ.1.1 6 2 := R.n1.2.2.1
    have c2 : v 1 9 = σ.2.1.2.1 := T.1.2.2.2
    show _ = paceV (F 4 (Int32.toNatClampNeg (nI i))) (F 5 (Int32.toNatClampNeg (nI i))) (v 1 10) (v 1 9)
    rw [t3, t4, c1, c2]
  rw [if_neg q5] at h
  refine ⟨fun e => xcall (sp_far (fun k => F (1 + k)) (fun k => v (1 + k)) (nI i) b ?_), fun q6 => ?_⟩
  · rw [if_pos e] at h
    refine R.id h ?_
    show _ = farV (F 4 (Int32.toNatClampNeg (nI i))) (F 5 (Int32.toNatClampNeg (nI i)))
    rw [t3, t4]
  rw [if_neg q6] at h
  refine xcall (sp_errH F v 1 (by decide) ?_)
  exact R.err h _ rfl
theorem sumV_congr {f g : Nat → Int32} : ∀ {n : Nat}, (∀ j, j < n → f j = g j) → sumV f n = sumV g n := by
  intro n
  induction n with
  | zero => intro _; rfl
  | succ n ih =>
    intro h
    show sumV f n + f n = sumV g n + g n
    rw [ih (fun j hj => h j (by omega)), h n (by omega)]
set_option maxRecDepth 100000 in
theorem HX_count (n : Nat) (σ : xZ) (F v : xS) (R : HR n σ F v) (w : Int32) {K : xKo} (h : hK n σ (z_count w σ) K) : C_H_count [.ref 0, .int w] (xfill F v 0 wH0) K := by
  obtain ⟨c, hc, e⟩ : below 7 (σ.1.1 6 1) := R.c.1.2
  have ec : nat (σ.1.1 6 1) = c := by rw [e]; exact nI_clamp (by omega)
  obtain ⟨n2, n8, n10, n11, n14, n16⟩ := R.n1
  have T := R.t
  unfold z_count at h
  rw [ec] at h
  refine xM_go rfl 100 [] fun P hP => ?_
  refine ⟨fun z => ?_, fun q0 => ?_⟩
  · rw [if_pos z] at h; exact R.id h n2.symm
  rw [if_neg q0] at h
  refine ⟨fun z => ?_, fun q1 => ?_⟩
  · rw [if_pos z] at h; exact R.id h n8.symm
  rw [if_neg q1] at h
  refine ⟨fun z => ?_, fun q2 => ?_⟩
  · rw [if_pos z] at h; exact R.id h n10.symm
  rw [if_neg q2] at h
  refine ⟨fun z => ?_, fun q3 => ?_⟩
  · rw [if_pos z] at h; exact R.id h T.1.2.2.2.symm
  rw [if_neg q3] at h
  refine ⟨fun z => xcall (sp_sum6 (fun k => F (1 + k)) (fun k => v (1 + k)) c hc (n8.trans e) ?_), fun q4 => ?_⟩
  · rw [if_pos z] at h
    exact R.id h (sumV_congr fun j hj => (T.2.2.2.1 j (by omega)).2.1.symm)
  rw [if_neg q4] at h
  refine ⟨fun z => xcall (sp_sum7 (fun k => F (1 + k)) (fun k => v (1 + k)) c hc (n8.trans e) ?_), fun q5 => ?_⟩
  · rw [if_pos z] at h
    exact R.id h (sumV_congr fun j hj => (T.2.2.2.1 j (by omega)).2.2.symm)
  rw [if_neg q5] at h
  refine ⟨fun z => ?_, fun q6 => ?_⟩
  · rw [if_pos z] at h; exact R.id h n14.symm
  rw [if_neg q6] at h
  refine ⟨fun z => ?_, fun q7 => ?_⟩
  · rw [if_pos z] at h; exact R.id h n16.symm
  rw [if_neg q7] at h
  refine ⟨fun z => ?_, fun q8 => ?_⟩
  · rw [if_pos z] at h; exact R.id h R.2.2.1.2.1.2.2.1.2.symm
  rw [if_neg q8] at h
  refine ⟨fun z => ?_, fun q9 => ?_⟩
  · rw [if_pos z] at h; exact R.id h n11.symm
  rw [if_neg q9] at h
  refine xcall (sp_errH F v 1 (by decide) ?_)
  exact R.err h _ rfl
/-- a step that changes what is told now, not the street's tables -/
theorem HR.tell {n : Nat} {σ : xZ} {F v F' v' : xS} {X' : xXt} (R : HR n σ F v) (A : agr (hA F' v') (hA F v)) (B : (v' 10 1 = v 10 1 ∧ v' 13 1 = v 13 1) ∧ v' 28 1 = v 28 1 ∧ v' 31 1 = v 31 1) (C : (hX F' v').2 = (hX F v).2) (Z : hXr (hX F' v').1 X') (Q : cIv σ.1.1 X' ∧ out0 σ.1.1 X') : HR (n + 1) (σ.1, X', σ.2.2) F' v' := by
  obtain ⟨I, Y, A0, S⟩ := R
  refine ⟨I.up, ⟨Q, Y.2⟩, A.tr A0, ⟨?_, ?_⟩, ?_, ?_, Z, fun z => ?_⟩
  · rw [B.1.1]; exact S.1.1
  · rw [B.1.2]; exact S.1.2
  · rw [B.2.1]; exact S.2.1
  · rw [B.2.2]; exact S.2.2.1
  · rw [C]; exact S.2.2.2.2 z
set_option maxRecDepth 100000 in
theorem HX_it (n : Nat) (σ : xZ) (F v : xS) (R : HR n σ F v) (c : Int32) {K : xKo} (h : hKy n (y_it c σ) (z_it c σ) K) : C_H_it [.ref 0, .int c] (xfill F v 0 wH0) K := by
  obtain ⟨zx, zl⟩ := R.z.1.2.2
  have go : (c = -1 ∨ xin c (σ.1.1 6 1).toInt) → K (some (.int (v 1 9))) (xfill F (va_up v 1 (va_up (v 1) 9 c)) 0 wH0) := by
    intro ok
    have e9 : v 1 9 = σ.2.1.2.1 := R.t.1.2.2.2
    unfold y_it z_it at h
    rw [if_pos ok, if_pos ok, ← e9] at h
    refine h F _ (R.tell (F' := F) (v' := va_up v 1 (va_up (v 1) 9 c)) (⟨⟨⟨rfl, rfl, rfl, rfl, rfl, rfl⟩, fun _ _ => ⟨rfl, rfl⟩, fun _ _ => ⟨rfl, rfl⟩, fun _ _ => rfl, fun _ _ => rfl⟩, ⟨⟨fun _ _ => rfl, fun _ _ => rfl, fun _ _ => rfl, fun _ _ => rfl⟩, ⟨⟨rfl, rfl, rfl, rfl⟩, rfl, rfl, rfl, rfl⟩, ⟨rfl, rfl⟩, fun _ _ => rfl⟩, fun _ => ⟨⟨rfl, rfl, rfl, rfl, rfl, rfl⟩, fun _ _ => ⟨rfl, rfl⟩, fun _ _ => ⟨rfl, rfl⟩, fun _ _ => rfl, fun _ _ => rfl⟩⟩) ⟨⟨rfl, rfl⟩, rfl, rfl⟩ rfl ⟨R.z.1.1, rfl, zx, zl⟩ ?_)
    obtain ⟨⟨⟨a, b, d, e, f, g⟩, o⟩, -⟩ := R.2.1
    refine ⟨⟨a, b, d, e, f, ?_⟩, o⟩
    rcases ok with z | z
    · exact Or.inl z
    · obtain ⟨i, hi, e1, ei, li⟩ := xin_ex R.c.1.2 (by omega) z
      exact Or.inr ⟨i, li, e1⟩
  refine xM_go rfl 100 [] fun P hP => ?_
  refine br_c (fun a1 => ?_) (fun a1 => ?_)
  · exact go (Or.inl a1)
  refine xcall (sp_isChild F v _ (fun a2 => ?_) (fun a2 => ?_))
  · rw [R.n1.2.1] at a2
    refine br_n (fun z => absurd rfl z) (fun _ => ?_)
    refine xcall (sp_errH F v 1 (by decide) ?_)
    exact R.no h _ (if_neg fun z => z.elim a1 a2) (if_neg fun z => z.elim a1 a2)
  · rw [R.n1.2.1] at a2
    refine br_n (fun _ => ?_) (fun z => absurd z (by decide))
    exact go (Or.inr a2)
