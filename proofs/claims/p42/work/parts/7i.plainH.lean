section
/-! ===== the tried side: small methods, exactly ===== -/
set_option maxRecDepth 100000 in
theorem HX_law (n : Nat) (σ : xZ) (F v : xS) (R : HR n σ F v) (u a b c : Int32) {K : xKo} (h : hK n σ (z_law u a b c σ) F K) : C_H_law [.ref 0, .int u, .int a, .int b, .int c] (xfill F v 0 wH0) K := by
  obtain ⟨n0, h0, e0, w0, w1⟩ := R.t.2.2.2.2.1
  obtain ⟨n1, h1, e1, y0, y1⟩ := R.t.2.2.2.2.2
  refine xM_go rfl 100 [] fun P hP => ?_
  refine xcall (sp_isBelow _ _ (fun a1 => ?_) (fun a1 => ?_))
  · refine br_n (fun z => absurd rfl z) (fun _ => ?_)
    refine xcall (sp_errH F v 1 (by decide) ?_)
    exact R.err h (if_neg a1)
  refine br_n (fun _ => ?_) (fun z => absurd z (by decide))
  refine ⟨vin a1, ⟨fun e => ?_, ⟨fun e => ?_, trivial⟩⟩⟩
  · have ef : z_law u a b c σ = (σ.2.1.2.2 0 a b c, 0) := (if_pos a1).trans (by rw [e]; rfl)
    refine xcall (sp_gives (fun k => F (10 + k)) (fun k => v (10 + k)) a b c n0 h0 e0 (fun z => ?_) (fun z => ?_))
    · exact R.id h (ef.trans (an_ (w0 z a b c)))
    · exact R.go h (F' := va_up F 12 _) (v' := va_up v 10 (va_up (v 10) 3 _)) ((tR.rf.fu rfl).vu rfl) (ef.trans (an_ (w1 z a b c _).symm))
  · have ef : z_law u a b c σ = (σ.2.1.2.2 1 a b c, 0) := (if_pos a1).trans (by rw [e]; rfl)
    refine xcall (sp_gives (fun k => F (13 + k)) (fun k => v (13 + k)) a b c n1 h1 e1 (fun z => ?_) (fun z => ?_))
    · exact R.id h (ef.trans (an_ (y0 z a b c)))
    · exact R.go h (F' := va_up F 15 _) (v' := va_up v 13 (va_up (v 13) 3 _)) ((tR.rf.fu rfl).vu rfl) (ef.trans (an_ (y1 z a b c _).symm))
set_option maxRecDepth 100000 in
theorem HX_hadBy (n : Nat) (σ : xZ) (F v : xS) (R : HR n σ F v) (m s : Int32) {K : xKo} (h : hK n σ (z_hadBy m s σ) F K) : C_H_hadBy [.ref 0, .int m, .int s] (xfill F v 0 wH0) K := by
  refine xM_go rfl 200 [] fun P hP => ?_
  refine xcall (sp_isBelow _ _ (fun a1 => ?_) (fun a1 => ?_))
  · refine br_c (fun _ => ?_) (fun z => absurd rfl z)
    refine xcall (sp_errH F v 1 (by decide) ?_)
    exact R.err h (if_neg fun z => a1 z.1)
  refine br_c (fun z => absurd z (by decide)) (fun _ => ?_)
  refine xcall (sp_isSteps _ (fun a2 => ?_) (fun a2 => ?_))
  · refine br_n (fun z => absurd rfl z) (fun _ => ?_)
    refine xcall (sp_errH F v 1 (by decide) ?_)
    exact R.err h (if_neg fun z => a2 z.2)
  refine br_n (fun _ => ?_) (fun z => absurd z (by decide))
  have ef : z_hadBy m s σ = (eSet σ.1.1 σ.2.1 m s, 0) := if_pos ⟨a1, a2⟩
  obtain ⟨u, hu, rfl, -⟩ := nI_ofx s (n := 10) a2 (by decide)
  refine xcall (sx_wouldBeHad (fun k => F (1 + k)) (fun k => v (1 + k)) σ.1.1 σ.2.1 R.t R.c m u (by omega) (fun G w E _ => ?_))
  exact R.go h (F' := upS 1 F G) (v' := upS 1 v w) (hG.e1 E) ef
set_option maxRecDepth 100000 in
theorem HX_runsTo (n : Nat) (σ : xZ) (F v : xS) (R : HR n σ F v) (c m s : Int32) {K : xKo} (h : hK n σ (z_runsTo c m s σ) F K) : C_H_runsTo [.ref 0, .int c, .int m, .int s] (xfill F v 0 wH0) K := by
  refine xM_go rfl 200 [] fun P hP => ?_
  refine xcall (sp_isChild F v _ (fun a1 => ?_) (fun a1 => ?_))
  · rw [R.n1.2.1] at a1
    refine br_c (fun _ => ?_) (fun z => absurd rfl z)
    refine xcall (sp_errH F v 1 (by decide) ?_)
    exact R.err h (if_neg fun z => a1 z.1)
  rw [R.n1.2.1] at a1
  refine br_c (fun z => absurd z (by decide)) (fun _ => ?_)
  refine xcall (sp_isBelow _ _ (fun a2 => ?_) (fun a2 => ?_))
  · refine br_c (fun _ => ?_) (fun z => absurd rfl z)
    refine xcall (sp_errH F v 1 (by decide) ?_)
    exact R.err h (if_neg fun z => a2 z.2.1)
  refine br_c (fun z => absurd z (by decide)) (fun _ => ?_)
  refine xcall (sp_isSteps _ (fun a3 => ?_) (fun a3 => ?_))
  · refine br_n (fun z => absurd rfl z) (fun _ => ?_)
    refine xcall (sp_errH F v 1 (by decide) ?_)
    exact R.err h (if_neg fun z => a3 z.2.2)
  refine br_n (fun _ => ?_) (fun z => absurd z (by decide))
  have ef : z_runsTo c m s σ = (eEnd σ.1.1 σ.2.1 m s (nat c), 0) := if_pos ⟨a1, a2, a3⟩
  obtain ⟨u, hu, rfl, -⟩ := nI_ofx s (n := 10) a3 (by decide)
  obtain ⟨i, hi, rfl, ei, li⟩ := xin_ex R.c.1.2 (by omega) a1
  refine xcall (sx_endOf (fun k => F (1 + k)) (fun k => v (1 + k)) σ.1.1 σ.2.1 R.t R.c i li m u (by omega) (fun G w E => ?_))
  refine R.go h (F' := upS 1 F G) (v' := upS 1 v w) (hG.e1 E.ge) (ef.trans (an_ ?_))
  rw [ei]
set_option maxRecDepth 100000 in
theorem HX_ofChild (n : Nat) (σ : xZ) (F v : xS) (R : HR n σ F v) (c w : Int32) {K : xKo} (h : hK n σ (z_ofChild c w σ) F K) : C_H_ofChild [.ref 0, .int c, .int w] (xfill F v 0 wH0) K := by
  refine xM_go rfl 100 [] fun P hP => ?_
  refine xcall (sp_isChild F v _ (fun a1 => ?_) (fun a1 => ?_))
  · rw [R.n1.2.1] at a1
    refine br_n (fun z => absurd rfl z) (fun _ => ?_)
    refine xcall (sp_errH F v 1 (by decide) ?_)
    exact R.err h (if_neg a1)
  rw [R.n1.2.1] at a1
  refine br_n (fun _ => ?_) (fun z => absurd z (by decide))
  obtain ⟨i, hi, rfl, ei, li⟩ := xin_ex R.c.1.2 (by omega) a1
  have i7 : i < 7 := by have := bel_nat R.c.1.2 (by omega); omega
  have b : vp_in (nI i) 7 := vp_in_nI i7 (by omega)
  have T := R.t
  obtain ⟨t3, t4⟩ := T.2.2.1 i li
  obtain ⟨t5, t6, t7⟩ := T.2.2.2.1 i i7
  have ek : Int32.toNatClampNeg (nI i) = i := ei
  have t3 : F 4 (Int32.toNatClampNeg (nI i)) = σ.1.1 2 i := by rw [ek]; exact t3
  have t4 : F 5 (Int32.toNatClampNeg (nI i)) = σ.1.1 3 i := by rw [ek]; exact t4
  have t5 : F 6 (Int32.toNatClampNeg (nI i)) = σ.2.1.1 0 i := by rw [ek]; exact t5
  have t6 : F 7 (Int32.toNatClampNeg (nI i)) = σ.2.1.1 1 i := by rw [ek]; exact t6
  have t7 : F 8 (Int32.toNatClampNeg (nI i)) = σ.2.1.1 2 i := by rw [ek]; exact t7
  unfold z_ofChild at h
  rw [if_pos a1, ei] at h
  refine ⟨fun e => ⟨b, ?_⟩, fun q0 => ?_⟩
  · rw [if_pos e] at h; exact R.id h (an_ t3.symm)
  rw [if_neg q0] at h
  refine ⟨fun e => ⟨b, ?_⟩, fun q1 => ?_⟩
  · rw [if_pos e] at h; exact R.id h (an_ t4.symm)
  rw [if_neg q1] at h
  refine ⟨fun e => ⟨b, ?_⟩, fun q2 => ?_⟩
  · rw [if_pos e] at h; exact R.id h (an_ t5.symm)
  rw [if_neg q2] at h
  refine ⟨fun e => ⟨b, ?_⟩, fun q3 => ?_⟩
  · rw [if_pos e] at h; exact R.id h (an_ t6.symm)
  rw [if_neg q3] at h
  refine ⟨fun e => ⟨b, ?_⟩, fun q4 => ?_⟩
  · rw [if_pos e] at h; exact R.id h (an_ t7.symm)
  rw [if_neg q4] at h
  refine ⟨fun e => xcall (sp_pace (fun k => F (1 + k)) (fun k => v (1 + k)) (nI i) b ?_), fun q5 => ?_⟩
  · rw [if_pos e] at h
    refine R.id h (an_ ?_)
    have c1 : v 1 10 = σ.1.1 6 2 := R.n1.2.2.1
    have c2 : v 1 9 = σ.2.1.2.1 := T.1.2.2.2
    show _ = paceV (F 4 (Int32.toNatClampNeg (nI i))) (F 5 (Int32.toNatClampNeg (nI i))) (v 1 10) (v 1 9)
    rw [t3, t4, c1, c2]
  rw [if_neg q5] at h
  refine ⟨fun e => xcall (sp_far (fun k => F (1 + k)) (fun k => v (1 + k)) (nI i) b ?_), fun q6 => ?_⟩
  · rw [if_pos e] at h
    refine R.id h (an_ ?_)
    show _ = farV (F 4 (Int32.toNatClampNeg (nI i))) (F 5 (Int32.toNatClampNeg (nI i)))
    rw [t3, t4]
  rw [if_neg q6] at h
  refine xcall (sp_errH F v 1 (by decide) ?_)
  exact R.err h rfl
theorem sumV_congr {f g : Nat → Int32} : ∀ {n : Nat}, (∀ j, j < n → f j = g j) → sumV f n = sumV g n := by
  intro n
  induction n with
  | zero => intro _; rfl
  | succ n ih =>
    intro h
    show sumV f n + f n = sumV g n + g n
    rw [ih (fun j hj => h j (by omega)), h n (by omega)]
set_option maxRecDepth 100000 in
theorem HX_count (n : Nat) (σ : xZ) (F v : xS) (R : HR n σ F v) (w : Int32) {K : xKo} (h : hK n σ (z_count w σ) F K) : C_H_count [.ref 0, .int w] (xfill F v 0 wH0) K := by
  obtain ⟨c, hc, e⟩ : below 7 (σ.1.1 6 1) := R.c.1.2
  have ec : nat (σ.1.1 6 1) = c := by rw [e]; exact nI_clamp (by omega)
  obtain ⟨n2, n8, n10, n11, n14, n16⟩ := R.n1
  have T := R.t
  unfold z_count at h
  rw [ec] at h
  refine xM_go rfl 100 [] fun P hP => ?_
  refine ⟨fun z => ?_, fun q0 => ?_⟩
  · rw [if_pos z] at h; exact R.id h (an_ n2.symm)
  rw [if_neg q0] at h
  refine ⟨fun z => ?_, fun q1 => ?_⟩
  · rw [if_pos z] at h; exact R.id h (an_ n8.symm)
  rw [if_neg q1] at h
  refine ⟨fun z => ?_, fun q2 => ?_⟩
  · rw [if_pos z] at h; exact R.id h (an_ n10.symm)
  rw [if_neg q2] at h
  refine ⟨fun z => ?_, fun q3 => ?_⟩
  · rw [if_pos z] at h; exact R.id h (an_ T.1.2.2.2.symm)
  rw [if_neg q3] at h
  refine ⟨fun z => xcall (sp_sum6 (fun k => F (1 + k)) (fun k => v (1 + k)) c hc (n8.trans e) ?_), fun q4 => ?_⟩
  · rw [if_pos z] at h
    exact R.id h (an_ (sumV_congr fun j hj => (T.2.2.2.1 j (by omega)).2.1.symm))
  rw [if_neg q4] at h
  refine ⟨fun z => xcall (sp_sum7 (fun k => F (1 + k)) (fun k => v (1 + k)) c hc (n8.trans e) ?_), fun q5 => ?_⟩
  · rw [if_pos z] at h
    exact R.id h (an_ (sumV_congr fun j hj => (T.2.2.2.1 j (by omega)).2.2.symm))
  rw [if_neg q5] at h
  refine ⟨fun z => ?_, fun q6 => ?_⟩
  · rw [if_pos z] at h; exact R.id h (an_ n14.symm)
  rw [if_neg q6] at h
  refine ⟨fun z => ?_, fun q7 => ?_⟩
  · rw [if_pos z] at h; exact R.id h (an_ n16.symm)
  rw [if_neg q7] at h
  refine ⟨fun z => ?_, fun q8 => ?_⟩
  · rw [if_pos z] at h; exact R.id h (an_ R.2.2.1.2.1.2.2.1.2.symm)
  rw [if_neg q8] at h
  refine ⟨fun z => ?_, fun q9 => ?_⟩
  · rw [if_pos z] at h; exact R.id h (an_ n11.symm)
  rw [if_neg q9] at h
  refine xcall (sp_errH F v 1 (by decide) ?_)
  exact R.err h rfl
/-- a step that changes what is told now, not the street's tables -/
theorem HR.tell {n : Nat} {σ : xZ} {F v F' v' : xS} {X' : xXt} (R : HR n σ F v) (A : agr (hA F' v') (hA F v)) (B : (v' 10 1 = v 10 1 ∧ v' 13 1 = v 13 1) ∧ v' 28 1 = v 28 1 ∧ v' 31 1 = v 31 1) (C : (hX F' v').2 = (hX F v).2) (Z : hXr (hX F' v').1 X') (Q : cIv σ.1.1 X' ∧ out0 σ.1.1 X') : HR (n + 1) (σ.1, X', σ.2.2) F' v' := by
  obtain ⟨I, Y, A0, S⟩ := R
  refine ⟨I.up, ⟨Q, Y.2⟩, A.tr A0, ⟨?_, ?_⟩, ?_, ?_, Z, fun z => ?_⟩
  · rw [B.1.1]; exact S.1.1
  · rw [B.1.2]; exact S.1.2
  · rw [B.2.1]; exact S.2.1
  · rw [B.2.2]; exact S.2.2.1
  · rw [C]; exact S.2.2.2.2 z
set_option maxRecDepth 100000 in
theorem HX_it (n : Nat) (σ : xZ) (F v : xS) (R : HR n σ F v) (c : Int32) {K : xKo} (h : hKy n (y_it c σ) (z_it c σ) F K) : C_H_it [.ref 0, .int c] (xfill F v 0 wH0) K := by
  obtain ⟨zx, zl⟩ := R.z.1.2.2
  have go : (c = -1 ∨ xin c (σ.1.1 6 1).toInt) → K (some (.int (v 1 9))) (xfill F (va_up v 1 (va_up (v 1) 9 c)) 0 wH0) := by
    intro ok
    have e9 : v 1 9 = σ.2.1.2.1 := R.t.1.2.2.2
    unfold y_it z_it at h
    rw [if_pos ok, if_pos ok, ← e9] at h
    refine h F _ (R.tell (F' := F) (v' := va_up v 1 (va_up (v 1) 9 c)) (⟨⟨⟨rfl, rfl, rfl, rfl, rfl, rfl⟩, fun _ _ => ⟨rfl, rfl⟩, fun _ _ => ⟨rfl, rfl⟩, fun _ _ => rfl, fun _ _ => rfl⟩, ⟨⟨fun _ _ => rfl, fun _ _ => rfl, fun _ _ => rfl, fun _ _ => rfl⟩, ⟨⟨rfl, rfl, rfl, rfl⟩, rfl, rfl, rfl, rfl⟩, ⟨rfl, rfl⟩, fun _ _ => rfl⟩, fun _ => ⟨⟨rfl, rfl, rfl, rfl, rfl, rfl⟩, fun _ _ => ⟨rfl, rfl⟩, fun _ _ => ⟨rfl, rfl⟩, fun _ _ => rfl, fun _ _ => rfl⟩⟩) ⟨⟨rfl, rfl⟩, rfl, rfl⟩ rfl ⟨R.z.1.1, rfl, zx, zl⟩ ?_) bm_0.symm
    obtain ⟨⟨⟨a, b, d, e, f, g⟩, o⟩, -⟩ := R.2.1
    refine ⟨⟨a, b, d, e, f, ?_⟩, o⟩
    rcases ok with z | z
    · exact Or.inl z
    · obtain ⟨i, hi, e1, ei, li⟩ := xin_ex R.c.1.2 (by omega) z
      exact Or.inr ⟨i, li, e1⟩
  refine xM_go rfl 100 [] fun P hP => ?_
  refine br_c (fun a1 => ?_) (fun a1 => ?_)
  · exact go (Or.inl a1)
  refine xcall (sp_isChild F v _ (fun a2 => ?_) (fun a2 => ?_))
  · rw [R.n1.2.1] at a2
    refine br_n (fun z => absurd rfl z) (fun _ => ?_)
    refine xcall (sp_errH F v 1 (by decide) ?_)
    exact R.no h (if_neg fun z => z.elim a1 a2) (if_neg fun z => z.elim a1 a2)
  · rw [R.n1.2.1] at a2
    refine br_n (fun _ => ?_) (fun z => absurd z (by decide))
    exact go (Or.inr a2)
end
section
/-! ===== the tried side: what changes what is told, exactly ===== -/
theorem evRun_congr {a b c : Int32} {f g : Nat → Int32} : ∀ (d i : Nat) (q : evQ), (∀ j, i ≤ j → j < i + d → f j = g j) → evRun a b c f d i q = evRun a b c g d i q := by
  intro d
  induction d with
  | zero => intro i q _; rfl
  | succ d ih =>
    intro i q h
    show evRun a b c f d (i + 1) (evStep a b c (f i) q) = evRun a b c g d (i + 1) (evStep a b c (g i) q)
    rw [h i (Nat.le_refl i) (by omega)]
    exact ih (i + 1) _ (fun j x l => h j (by omega) (by omega))
theorem hLw.of {f g : Nat → Int32} {z y : Int32} {L : xLw} {m : Nat} (h : hLw f z L) (ez : z = nI m) (hm : m ≤ 50) (ey : y = nI m) (e : ∀ j, j < m → g j = f j) : hLw g y L := by
  obtain ⟨n, hn, en, w0, w1⟩ := h
  have nm : n = m := (nI_eq (by omega) (by omega)).mp (en.symm.trans ez)
  subst nm
  refine ⟨n, hn, ey, w0, fun nz a b c S => ?_⟩
  rw [← w1 nz a b c S]
  unfold evGives
  rw [evRun_congr n 0 (S, 0) (fun j _ l => e j (by omega))]
theorem cIv.ch {s : xS} {X : xXt} {i k : Nat} {x : Int32} (I : cIv s X) (hi : i < nat (s 6 1)) (hk : (k = 0 ∧ below 11 x) ∨ ((k = 1 ∨ k = 2) ∧ below 999 x)) : cIv s (va_up X.1 k (upd (X.1 k) i x), X.2) := by
  obtain ⟨a, b, d, e, f, g⟩ := I
  have u : ∀ k j, ¬ j = i → ∀ t : xS, va_up t k (upd (t k) i x) k j = t k j := fun k j hj t => (congrFun (if_pos rfl) j).trans (pk_un hj)
  have o : ∀ k q, ¬ q = k → ∀ t : xS, va_up t k (upd (t k) i x) q = t q := fun k q hq t => if_neg hq
  have v : ∀ k, ∀ t : xS, va_up t k (upd (t k) i x) k i = x := fun k t => (congrFun (if_pos rfl) i).trans pk_us
  refine ⟨a, b, d, fun j hj => ?_, fun j hj => ?_, g⟩
  · show below 11 (va_up X.1 k (upd (X.1 k) i x) 0 j)
    rcases hk with ⟨k0, bx⟩ | ⟨k1, bx⟩
    · subst k0
      by_cases ej : j = i
      · subst ej; rw [v]; exact bx
      · rw [u 0 j ej]; exact e j hj
    · rw [o k 0 (by omega)]; exact e j hj
  · obtain ⟨f1, f2⟩ := f j hj
    show below 999 (va_up X.1 k (upd (X.1 k) i x) 1 j) ∧ below 999 (va_up X.1 k (upd (X.1 k) i x) 2 j)
    rcases hk with ⟨k0, bx⟩ | ⟨k1 | k2, bx⟩
    · subst k0
      rw [o 0 1 (by decide), o 0 2 (by decide)]; exact ⟨f1, f2⟩
    · subst k1
      rw [o 1 2 (by decide)]
      by_cases ej : j = i
      · subst ej; rw [v]; exact ⟨bx, f2⟩
      · rw [u 1 j ej]; exact ⟨f1, f2⟩
    · subst k2
      rw [o 2 1 (by decide)]
      by_cases ej : j = i
      · subst ej; rw [v]; exact ⟨f1, bx⟩
      · rw [u 2 j ej]; exact ⟨f1, f2⟩
theorem out0.ch {s : xS} {X : xXt} {i k : Nat} {x : Int32} (I : out0 s X) (hi : i < nat (s 6 1)) : out0 s (va_up X.1 k (upd (X.1 k) i x), X.2) := by
  intro j a b
  have q : ∀ w, va_up X.1 k (upd (X.1 k) i x) w j = X.1 w j := fun w => by
    by_cases e : w = k
    · subst e; exact (congrFun (if_pos rfl) j).trans (pk_un (by omega))
    · exact congrFun (if_neg e) j
  show va_up X.1 k (upd (X.1 k) i x) 1 j = 0 ∧ va_up X.1 k (upd (X.1 k) i x) 2 j = 0
  rw [q, q]
  exact I j a b
theorem b999 {x : Int32} (h : xin x 1000) : below 999 x := by
  obtain ⟨k, hk, e, -⟩ := nI_ofx x (n := 1000) h (by decide)
  exact ⟨k, by omega, e⟩
theorem b11 {x : Int32} (h : xin x 12) : below 11 x := by
  obtain ⟨k, hk, e, -⟩ := nI_ofx x (n := 12) h (by decide)
  exact ⟨k, by omega, e⟩
set_option maxRecDepth 100000 in
theorem HX_change (n : Nat) (σ : xZ) (F v : xS) (R : HR n σ F v) (c w x : Int32) {K : xKo} (h : hKy n (y_change c w x σ) (z_change c w x σ) F K) : C_H_change [.ref 0, .int c, .int w, .int x] (xfill F v 0 wH0) K := by
  obtain ⟨z1, z2, z3⟩ := R.z.1
  refine xM_go rfl 100 [] fun P hP => ?_
  refine xcall (sp_isChild F v _ (fun a1 => ?_) (fun a1 => ?_))
  · rw [R.n1.2.1] at a1
    refine br_c (fun _ => ?_) (fun z => absurd rfl z)
    refine xcall (sp_errH F v 1 (by decide) ?_)
    exact R.no h (if_neg fun z => a1 z.1.1) (if_neg fun z => a1 z.1.1)
  rw [R.n1.2.1] at a1
  refine br_c (fun z => absurd z (by decide)) (fun _ => ?_)
  refine xcall (sp_isBelow _ _ (fun a2 => ?_) (fun a2 => ?_))
  · refine br_n (fun z => absurd rfl z) (fun _ => ?_)
    refine xcall (sp_errH F v 1 (by decide) ?_)
    exact R.no h (if_neg fun z => a2 z.1.2) (if_neg fun z => a2 z.1.2)
  refine br_n (fun _ => ?_) (fun z => absurd z (by decide))
  obtain ⟨i, hi, rfl, ei, li⟩ := xin_ex R.c.1.2 (by omega) a1
  have i7 : i < 7 := by have := bel_nat R.c.1.2 (by omega); omega
  have b : vp_in (nI i) 7 := vp_in_nI i7 (by omega)
  have ek : Int32.toNatClampNeg (nI i) = i := ei
  obtain ⟨q5, q6, q7⟩ := R.t.2.2.2.1 i i7
  -- a row changed
  have leaf : ∀ (k : Nat) (F' : xS) (r : Int32), chOk (nI i) w x σ → nat w = k → F' = va_up F (6 + k) (upd (F (6 + k)) (Int32.toNatClampNeg (nI i)) x) → r = F (6 + k) (Int32.toNatClampNeg (nI i)) → (k = 0 ∧ below 11 x) ∨ ((k = 1 ∨ k = 2) ∧ below 999 x) → K (some (.int r)) (xfill F' v 0 wH0) := by
    intro k F' r ok ew eF er hk
    unfold y_change z_change at h
    rw [if_pos ok, if_pos ok, ew, ei] at h
    have e2 : r = σ.2.1.1 k i := by
      rw [er, ek]
      rcases (show k = 0 ∨ k = 1 ∨ k = 2 by omega) with z | z | z
      all_goals subst z
      · exact q5
      · exact q6
      · exact q7
    rw [e2]
    rw [ek] at eF
    have cv := R.c.ch li hk
    have ov := (out0.ch (k := k) (x := x) R.2.1.1.2 li)
    rcases (show k = 0 ∨ k = 1 ∨ k = 2 by omega) with z | z | z
    all_goals subst z
    all_goals subst eF
    · exact h _ _ (R.tell (F' := va_up F 6 (upd (F 6) i x)) (v' := v) (⟨⟨⟨rfl, rfl, rfl, rfl, rfl, rfl⟩, fun _ _ => ⟨rfl, rfl⟩, fun _ _ => ⟨rfl, rfl⟩, fun _ _ => rfl, fun _ _ => rfl⟩, ⟨⟨fun _ _ => rfl, fun _ _ => rfl, fun _ _ => rfl, fun _ _ => rfl⟩, ⟨⟨rfl, rfl, rfl, rfl⟩, rfl, rfl, rfl, rfl⟩, ⟨rfl, rfl⟩, fun _ _ => rfl⟩, fun _ => ⟨⟨rfl, rfl, rfl, rfl, rfl, rfl⟩, fun _ _ => ⟨rfl, rfl⟩, fun _ _ => ⟨rfl, rfl⟩, fun _ _ => rfl, fun _ _ => rfl⟩⟩) ⟨⟨rfl, rfl⟩, rfl, rfl⟩ rfl ⟨fun j hj => ⟨upS0 (fun j hj => (z1 j hj).1) j hj, (z1 j hj).2.1, (z1 j hj).2.2⟩, z2, z3⟩ ⟨cv, ov⟩) bm_0.symm
    · exact h _ _ (R.tell (F' := va_up F 7 (upd (F 7) i x)) (v' := v) (⟨⟨⟨rfl, rfl, rfl, rfl, rfl, rfl⟩, fun _ _ => ⟨rfl, rfl⟩, fun _ _ => ⟨rfl, rfl⟩, fun _ _ => rfl, fun _ _ => rfl⟩, ⟨⟨fun _ _ => rfl, fun _ _ => rfl, fun _ _ => rfl, fun _ _ => rfl⟩, ⟨⟨rfl, rfl, rfl, rfl⟩, rfl, rfl, rfl, rfl⟩, ⟨rfl, rfl⟩, fun _ _ => rfl⟩, fun _ => ⟨⟨rfl, rfl, rfl, rfl, rfl, rfl⟩, fun _ _ => ⟨rfl, rfl⟩, fun _ _ => ⟨rfl, rfl⟩, fun _ _ => rfl, fun _ _ => rfl⟩⟩) ⟨⟨rfl, rfl⟩, rfl, rfl⟩ rfl ⟨fun j hj => ⟨(z1 j hj).1, upS0 (fun j hj => (z1 j hj).2.1) j hj, (z1 j hj).2.2⟩, z2, z3⟩ ⟨cv, ov⟩) bm_0.symm
    · exact h _ _ (R.tell (F' := va_up F 8 (upd (F 8) i x)) (v' := v) (⟨⟨⟨rfl, rfl, rfl, rfl, rfl, rfl⟩, fun _ _ => ⟨rfl, rfl⟩, fun _ _ => ⟨rfl, rfl⟩, fun _ _ => rfl, fun _ _ => rfl⟩, ⟨⟨fun _ _ => rfl, fun _ _ => rfl, fun _ _ => rfl, fun _ _ => rfl⟩, ⟨⟨rfl, rfl, rfl, rfl⟩, rfl, rfl, rfl, rfl⟩, ⟨rfl, rfl⟩, fun _ _ => rfl⟩, fun _ => ⟨⟨rfl, rfl, rfl, rfl, rfl, rfl⟩, fun _ _ => ⟨rfl, rfl⟩, fun _ _ => ⟨rfl, rfl⟩, fun _ _ => rfl, fun _ _ => rfl⟩⟩) ⟨⟨rfl, rfl⟩, rfl, rfl⟩ rfl ⟨fun j hj => ⟨(z1 j hj).1, (z1 j hj).2.1, upS0 (fun j hj => (z1 j hj).2.2) j hj⟩, z2, z3⟩ ⟨cv, ov⟩) bm_0.symm
  refine br_n (fun a3 => ?_) (fun a3 => ?_)
  · have a3 : ¬ w = 0 := a3
    refine xcall (sp_isBelow _ _ (fun a4 => ?_) (fun a4 => ?_))
    · refine br_n (fun z => absurd rfl z) (fun _ => ?_)
      refine xcall (sp_errH F v 1 (by decide) ?_)
      have no : ¬ chOk (nI i) w x σ := fun z => by
        have y := z.2
        rw [if_neg a3] at y
        exact a4 y
      exact R.no h (if_neg no) (if_neg no)
    have ok : chOk (nI i) w x σ := ⟨⟨a1, a2⟩, by rw [if_neg a3]; exact a4⟩
    refine br_n (fun _ => ?_) (fun z => absurd z (by decide))
    refine br_n (fun a5 => ?_) (fun a5 => absurd a5 a3)
    obtain ⟨j, hj, ew, ej⟩ := nI_ofx w (n := 3) a2 (by decide)
    refine br_n (fun a6 => ?_) (fun a6 => ?_)
    · refine xcall (sp_replace (F 8) 7 (nI i) x b ?_)
      have j2 : nat w = 2 := by
        have n0 : ¬ j = 0 := fun e => a3 (by rw [ew, e]; rfl)
        have n1 : ¬ j = 1 := fun e => a6 (by rw [ew, e]; rfl)
        omega
      exact leaf 2 _ _ ok j2 rfl rfl (Or.inr ⟨Or.inr rfl, b999 a4⟩)
    · have a6 : w = 1 := a6
      refine xcall (sp_replace (F 7) 7 (nI i) x b ?_)
      exact leaf 1 _ _ ok (by rw [a6]; decide) rfl rfl (Or.inr ⟨Or.inl rfl, b999 a4⟩)
  · have a3 : w = 0 := a3
    refine xcall (sp_isBelow _ _ (fun a4 => ?_) (fun a4 => ?_))
    · refine br_n (fun z => absurd rfl z) (fun _ => ?_)
      refine xcall (sp_errH F v 1 (by decide) ?_)
      have no : ¬ chOk (nI i) w x σ := fun z => by
        have y := z.2
        rw [if_pos a3] at y
        exact a4 y
      exact R.no h (if_neg no) (if_neg no)
    have ok : chOk (nI i) w x σ := ⟨⟨a1, a2⟩, by rw [if_pos a3]; exact a4⟩
    refine br_n (fun _ => ?_) (fun z => absurd z (by decide))
    refine br_n (fun a5 => absurd a3 a5) (fun a5 => ?_)
    · refine xcall (sp_replace (F 6) 7 (nI i) x b ?_)
      exact leaf 0 _ _ ok (by rw [a3]; decide) rfl rfl (Or.inl ⟨rfl, b11 a4⟩)
theorem mod10 {m : Int32} (h : xin m 70) : below 9 (m - m / 10 * 10) := by
  obtain ⟨k, hk, rfl, -⟩ := nI_ofx m (n := 70) h (by decide)
  have q : ∀ k : Fin 70, ∃ r : Fin 10, nI k.val - nI k.val / 10 * 10 = nI r.val := by decide +kernel
  obtain ⟨r, e⟩ := q ⟨k, by omega⟩
  exact ⟨r.val, by have := r.isLt; omega, e⟩
/-- a new child: what is always so -/
theorem child_iv {s : xA} {X : xXt} {m c : Int32} (I : cIv s.1 X) (O : out0 s.1 X) (ok : (xin m 70 ∧ xin c 12) ∧ nat (s.1 6 1) < 7) : cIv (g_child m c s).1 (va_up X.1 0 (upd (X.1 0) (nat (s.1 6 1)) c), X.2) ∧ out0 (g_child m c s).1 (va_up X.1 0 (upd (X.1 0) (nat (s.1 6 1)) c), X.2) := by
  have eg : g_child m c s = (va_up (va_up (va_up s.1 2 (upd (s.1 2) (nat (s.1 6 1)) (m / 10))) 3 (upd (s.1 3) (nat (s.1 6 1)) (m - m / 10 * 10))) 6 (upd (s.1 6) 1 (s.1 6 1 + 1)), s.2) := if_pos ok
  rw [eg]
  obtain ⟨a, b, d, e, f, g⟩ := I
  obtain ⟨b1, n1⟩ := a.2.inc ok.2 (by omega)
  refine ⟨⟨⟨a.1, b1⟩, b, fun j hj => ?_, fun j hj => ?_, f, ?_⟩, fun j h1 h2 => ?_⟩
  · have hj : j < nat (s.1 6 1 + 1) := hj
    rw [n1] at hj
    show below 6 (upd (s.1 2) (nat (s.1 6 1)) (m / 10) j) ∧ below 9 (upd (s.1 3) (nat (s.1 6 1)) (m - m / 10 * 10) j)
    by_cases ej : j = nat (s.1 6 1)
    · rw [ej, pk_us, pk_us]; exact ⟨div10 ok.1.1, mod10 ok.1.1⟩
    · rw [pk_un ej, pk_un ej]; exact d j (by omega)
  · have hj : j < nat (s.1 6 1 + 1) := hj
    rw [n1] at hj
    show below 11 (upd (X.1 0) (nat (s.1 6 1)) c j)
    by_cases ej : j = nat (s.1 6 1)
    · rw [ej, pk_us]; exact b11 ok.1.2
    · rw [pk_un ej]; exact e j (by omega)
  · rcases g with g | ⟨i, hi, g⟩
    · exact Or.inl g
    · refine Or.inr ⟨i, ?_, g⟩
      show i < nat (s.1 6 1 + 1)
      omega
  · have h1 : nat (s.1 6 1 + 1) ≤ j := h1
    exact O j (by omega) h2
set_option maxRecDepth 100000 in
theorem HX_child (n : Nat) (σ : xZ) (F v : xS) (R : HR n σ F v) (m c : Int32) {K : xKo} (h : hKy n (y_child m c σ) (f_child m c σ.1) F K) : C_H_child [.ref 0, .int m, .int c] (xfill F v 0 wH0) K := by
  obtain ⟨z1, z2, z3⟩ := R.z.1
  refine xM_go rfl 100 [] fun P hP => ?_
  refine xcall (sp_isBelow _ _ (fun a1 => ?_) (fun a1 => ?_))
  · refine br_c (fun _ => ?_) (fun z => absurd rfl z)
    refine xcall (sp_errH F v 1 (by decide) ?_)
    exact R.no h (if_neg fun z => a1 z.1.1) (if_neg fun z => a1 z.1)
  refine br_c (fun z => absurd z (by decide)) (fun _ => ?_)
  refine xcall (sp_isBelow _ _ (fun a2 => ?_) (fun a2 => ?_))
  · refine br_n (fun z => absurd rfl z) (fun _ => ?_)
    refine xcall (sp_errH F v 1 (by decide) ?_)
    exact R.no h (if_neg fun z => a2 z.1.2) (if_neg fun z => a2 z.2)
  refine br_n (fun _ => ?_) (fun z => absurd z (by decide))
  have b5 : below 7 (v 1 8) := R.J.1.1.2.1
  have e8 : v 1 8 = σ.1.1 6 1 := R.n1.2.1
  obtain ⟨k, hk, e⟩ := id b5
  refine br_c (fun a3 => ?_) (fun a3 => ?_)
  · have a4 : nat (v 1 8) < 7 := (natlt (n := 7) b5 (by omega) (by omega)).mp a3
    have ok : (xin m 70 ∧ xin c 12) ∧ nat (σ.1.1 6 1) < 7 := ⟨⟨a1, a2⟩, by rw [← e8]; exact a4⟩
    refine xcall (sp_addChild (fun k => F (1 + k)) (fun k => v (1 + k)) m c k (by rw [show nat (v 1 8) = k by rw [e]; exact nI_clamp (by omega)] at a4; exact a4) e ?_)
    have ef : f_child m c σ.1 = (v 1 8, 0) := (if_pos ok.1).trans ((if_pos ok.2).trans (an_ e8.symm))
    unfold y_child at h
    rw [if_pos ok, ef] at h
    have eg : g_child m c (hA F v) = _ := if_pos ⟨ok.1, a4⟩
    have A' : agr (hA (va_up (va_up (va_up F 4 (upd (F 4) (nat (v 1 8)) (m / 10))) 5 (upd (F 5) (nat (v 1 8)) (m - m / 10 * 10))) 6 (upd (F 6) (nat (v 1 8)) c)) (va_up v 1 (va_up (v 1) 8 (v 1 8 + 1)))) (g_child m c (hA F v)) := by
      rw [eg]
      exact ⟨⟨⟨rfl, rfl, rfl, rfl, rfl, rfl⟩, fun _ _ => ⟨rfl, rfl⟩, fun _ _ => ⟨rfl, rfl⟩, fun _ _ => rfl, fun _ _ => rfl⟩, ⟨⟨fun _ _ => rfl, fun _ _ => rfl, fun _ _ => rfl, fun _ _ => rfl⟩, ⟨⟨rfl, rfl, rfl, rfl⟩, rfl, rfl, rfl, rfl⟩, ⟨rfl, rfl⟩, fun _ _ => rfl⟩, fun _ => ⟨⟨rfl, rfl, rfl, rfl, rfl, rfl⟩, fun _ _ => ⟨rfl, rfl⟩, fun _ _ => ⟨rfl, rfl⟩, fun _ _ => rfl, fun _ _ => rfl⟩⟩
    have CI := child_iv (X := σ.2.1) R.c R.2.1.1.2 ok
    have gk : (g_child m c σ.1).2 = σ.1.2 := by
      have q : g_child m c σ.1 = _ := if_pos ok
      rw [q]
    refine h _ _ ⟨(pi_child R.1 m c).up, ⟨CI, ?_⟩, A'.tr (pg_child R.2.2.1 R.J m c), R.2.2.2.1, R.2.2.2.2.1, R.2.2.2.2.2.1, ?_⟩ bm_0.symm
    · show ¬ (g_child m c σ.1).2.2 6 0 = 0 → cIv (g_child m c σ.1).2.1 σ.2.2 ∧ out0 (g_child m c σ.1).2.1 σ.2.2
      rw [gk]
      exact R.2.1.2
    · refine ⟨⟨fun j hj => ⟨?_, (z1 j hj).2.1, (z1 j hj).2.2⟩, z2, z3⟩, ?_⟩
      · rw [← e8]
        exact upS0 (fun j hj => (z1 j hj).1) j hj
      · show ¬ (g_child m c σ.1).2.2 6 0 = 0 → _
        rw [gk]
        exact R.z.2
  · have a4 : ¬ nat (σ.1.1 6 1) < 7 := fun z => a3 ((natlt (n := 7) b5 (by omega) (by omega)).mpr (by rw [e8]; exact z))
    refine xcall (sp_errH F v 4 (by decide) ?_)
    exact R.no h (if_neg fun z => a4 z.2) ((if_pos ⟨a1, a2⟩).trans (if_neg a4))
set_option maxRecDepth 100000 in
theorem HX_check (n : Nat) (σ : xZ) (F v : xS) (R : HR n σ F v) {K : xKo} (h : hKy n (y_check σ) (z_check σ) F K) : C_H_check [.ref 0] (xfill F v 0 wH0) K := by
  obtain ⟨k, hk, e⟩ : below 20 (v 1 16) := R.J.1.1.2.2.2.2
  obtain ⟨c, hc, ec⟩ : below 7 (σ.1.1 6 1) := R.c.1.2
  have ecc : nat (σ.1.1 6 1) = c := by rw [ec]; exact nI_clamp (by omega)
  have e8 : v 1 8 = nI c := R.n1.2.1.trans ec
  have e16 : nat (σ.1.1 6 5) = k := by rw [← R.n1.2.2.2.2.2, e]; exact nI_clamp (by omega)
  have W : ∀ j, j < k → F 17 j = σ.1.1 5 j := fun j hj => R.2.2.1.1.2.2.2.2 j (by show j < nat (v 1 16); rw [R.n1.2.2.2.2.2, e16]; exact hj)
  unfold z_check at h
  rw [ecc, e16] at h
  have fin : ∀ r, r = chkL c (σ.1.1 5) (σ.2.1.1 1) k 0 → K (some (.int r)) (xfill F (va_up v 1 (va_up (v 1) 16 0)) 0 wH0) := fun r er => by
    rw [er]
    exact h F _ (HR.st (σ := σ) (pi_check R.1).up R.2.1 rfl ((show agr (hA F (va_up v 1 (va_up (v 1) 16 0))) (g_check (hA F v)) from ⟨⟨⟨rfl, rfl, rfl, rfl, rfl, rfl⟩, fun _ _ => ⟨rfl, rfl⟩, fun _ _ => ⟨rfl, rfl⟩, fun _ _ => rfl, fun _ _ => rfl⟩, ⟨⟨fun _ _ => rfl, fun _ _ => rfl, fun _ _ => rfl, fun _ _ => rfl⟩, ⟨⟨rfl, rfl, rfl, rfl⟩, rfl, rfl, rfl, rfl⟩, ⟨rfl, rfl⟩, fun _ _ => rfl⟩, fun _ => ⟨⟨rfl, rfl, rfl, rfl, rfl, rfl⟩, fun _ _ => ⟨rfl, rfl⟩, fun _ _ => ⟨rfl, rfl⟩, fun _ _ => rfl, fun _ _ => rfl⟩⟩).tr (pg_check R.2.2.1)) R.2.2.2) bm_0.symm
  have key : ∀ (d i : Nat), i + d = k → chkL c (σ.1.1 5) (σ.2.1.1 1) d i = chkL c (σ.1.1 5) (σ.2.1.1 1) k 0 → xWP pg_H_check K 18 [(0, .ref 0), (1, .int (nI k)), (2, .int (nI i))] [] (xfill F (va_up v 1 (va_up (v 1) 16 0)) 0 wH0) (0, 0) := by
    intro d
    induction d with
    | zero =>
      intro i hi hq
      have hi : i = k := hi
      subst hi
      refine xWP_go 100 [(18, [0, 1, 2])] fun P hP => ?_
      refine br_c (fun _ => ?_) (fun a => absurd (nI_le (Nat.le_refl _) (by omega)) a)
      exact fin 0 hq
    | succ d ih =>
      intro i hi hq
      have hq : (if i < c ∧ σ.1.1 5 i = σ.2.1.1 1 i then chkL c (σ.1.1 5) (σ.2.1.1 1) d (i + 1) else 1 + nI i) = chkL c (σ.1.1 5) (σ.2.1.1 1) k 0 := hq
      have ei : Int32.toNatClampNeg (nI i) = i := nI_clamp (by omega)
      refine xWP_go 100 [(18, [0, 1, 2])] fun P hP => ?_
      refine br_c (fun a => absurd a (nI_ge (by omega) (by omega))) (fun _ => ?_)
      refine br_c (fun a => ?_) (fun a => ?_)
      · have a : v 1 8 ≤ nI i := a
        rw [e8, nI_leI (by omega) (by omega)] at a
        rw [if_neg (fun z => by omega)] at hq
        exact fin _ hq
      have a : ¬ v 1 8 ≤ nI i := a
      rw [e8, nI_leI (by omega) (by omega)] at a
      have w1 : F 17 (Int32.toNatClampNeg (nI i)) = σ.1.1 5 i := by rw [ei]; exact W i (by omega)
      have w2 : F 7 (Int32.toNatClampNeg (nI i)) = σ.2.1.1 1 i := by rw [ei]; exact (R.t.2.2.2.1 i (by omega)).2.1
      refine ⟨vp_in_nI (by omega) (by omega), ?_⟩
      refine ⟨vp_in_nI (by omega) (by omega), ?_⟩
      refine br_c (fun y => ?_) (fun y => ?_)
      · have y : F 17 (Int32.toNatClampNeg (nI i)) = F 7 (Int32.toNatClampNeg (nI i)) := y
        rw [w1, w2] at y
        rw [if_pos ⟨by omega, y⟩] at hq
        refine hP _ _ _ _ _ ?_
        rw [nI_1]
        exact ih (i + 1) (by omega) hq
      · have y : ¬ F 17 (Int32.toNatClampNeg (nI i)) = F 7 (Int32.toNatClampNeg (nI i)) := y
        rw [w1, w2] at y
        rw [if_neg (fun z => y z.2)] at hq
        exact fin _ hq
  refine xM_go rfl 100 [(18, [0, 1, 2])] fun P hP => ?_
  refine hP _ _ _ _ _ ?_
  have q := key k 0 (by omega) rfl
  rw [← e] at q
  exact q
def z_told (i : Int32) (e : Nat → Int32) : xAn := if 1 ≤ i.toInt ∧ i.toInt ≤ 5 then (e (nat i), 0) else (-1000000001, 1)
set_option maxRecDepth 100000 in
theorem HX_told (n : Nat) (σ : xZ) (F v : xS) (R : HR n σ F v) (i : Int32) {K : xKo} (h : hK n σ (z_told i (F 69)) F K) : C_H_told [.ref 0, .int i] (xfill F v 0 wH0) K := by
  refine xM_go rfl 100 [] fun P hP => ?_
  refine br_c (fun a1 => ?_) (fun a1 => ?_)
  · have a1 : i < 1 := a1
    rw [xlt, show (1 : Int32).toInt = 1 by decide] at a1
    refine xcall (sp_errH F v 1 (by decide) ?_)
    exact R.err h (if_neg (by omega))
  have a1 : ¬ i < 1 := a1
  rw [xlt, show (1 : Int32).toInt = 1 by decide] at a1
  refine br_c (fun a2 => ?_) (fun a2 => ?_)
  · have a2 : i ≤ 5 := a2
    rw [xle, show (5 : Int32).toInt = 5 by decide] at a2
    refine ⟨vin (by omega), ?_⟩
    exact R.id h (if_pos ⟨by omega, a2⟩)
  · have a2 : ¬ i ≤ 5 := a2
    rw [xle, show (5 : Int32).toInt = 5 by decide] at a2
    refine xcall (sp_errH F v 1 (by decide) ?_)
    exact R.err h (if_neg (by omega))
set_option maxRecDepth 100000 in
theorem HX_image (n : Nat) (σ : xZ) (F v : xS) (R : HR n σ F v) {K : xKo} (h : hKy n (y_image σ) (f_image σ.1) F K) : C_H_image [.ref 0] (xfill F v 0 wH0) K := by
  have J : sIv (hSt F v 1) := R.J.1
  obtain ⟨z1, z2, z3, z4⟩ := R.z.1
  obtain ⟨n0, h0, e0⟩ := R.2.2.2.1.1
  obtain ⟨n1, h1, e1⟩ := R.2.2.2.1.2
  refine xM_go rfl 100 [] fun P hP => ?_
  refine xcall (sp_copy (imF F) (imF v) n0 n1 h0 h1 e0 e1 ?_)
  have ef : f_image σ.1 = (v 0 7 + 1, 0) := an_ (congrArg (· + 1) R.2.2.1.2.1.2.2.1.1.symm)
  rw [ef] at h
  have A' : agr (hA (imF2 F n0 n1) (imV2 v n0 n1)) (g_image (hA F v)) := ⟨⟨⟨rfl, rfl, rfl, rfl, rfl, rfl⟩, fun _ _ => ⟨rfl, rfl⟩, fun _ _ => ⟨rfl, rfl⟩, fun _ _ => rfl, fun _ _ => rfl⟩, ⟨⟨fun _ _ => rfl, fun _ _ => rfl, fun _ _ => rfl, fun _ _ => rfl⟩, ⟨⟨rfl, rfl, rfl, rfl⟩, rfl, rfl, rfl, rfl⟩, ⟨rfl, rfl⟩, fun _ _ => rfl⟩, fun _ => ⟨⟨rfl, rfl, rfl, rfl, rfl, rfl⟩, fun j hj => ⟨cpy0 (Nat.lt_of_lt_of_le hj (bel_nat J.1.1 (by omega))), cpy0 (Nat.lt_of_lt_of_le hj (bel_nat J.1.1 (by omega)))⟩, fun j hj => ⟨cpy0 (Nat.lt_of_lt_of_le hj (bel_nat J.1.2.1 (by omega))), cpy0 (Nat.lt_of_lt_of_le hj (bel_nat J.1.2.1 (by omega)))⟩, fun j hj => cpy0 (Nat.lt_of_lt_of_le hj (bel_nat J.1.2.2.2.1 (by omega))), fun j hj => cpy0 (Nat.lt_of_lt_of_le hj (bel_nat J.1.2.2.2.2 (by omega)))⟩⟩
  refine h (imF2 F n0 n1) (imV2 v n0 n1) ⟨pi_image R.1, ⟨R.2.1.1, fun _ => R.2.1.1⟩, A'.tr (pg_image R.2.2.1), ⟨⟨n0, h0, e0⟩, ⟨n1, h1, e1⟩⟩, ⟨n0, h0, rfl⟩, ⟨n1, h1, rfl⟩, ⟨z1, z2, z3, z4⟩, fun _ => ⟨fun j hj => ?_, z2, ?_, ?_⟩⟩ bm_0.symm
  · obtain ⟨y1, y2, y3⟩ := z1 j hj
    exact ⟨(cpy0 hj).trans y1, (cpy0 hj).trans y2, (cpy0 hj).trans y3⟩
  · exact z3.of e0 h0 rfl (fun j hj => cpy0 hj)
  · exact z4.of e1 h1 rfl (fun j hj => cpy0 hj)
set_option maxRecDepth 100000 in
theorem HX_restore (n : Nat) (σ : xZ) (F v : xS) (R : HR n σ F v) {K : xKo} (h : hKy n (y_restore σ) (f_restore σ.1) F K) : C_H_restore [.ref 0] (xfill F v 0 wH0) K := by
  have ei : v 0 7 = σ.1.2.2 6 0 := R.2.2.1.2.1.2.2.1.1
  refine xM_go rfl 100 [] fun P hP => ?_
  refine br_n (fun a => ?_) (fun a => ?_)
  · have a : ¬ v 0 7 = 0 := a
    have a2 : ¬ σ.1.2.2 6 0 = 0 := by rw [← ei]; exact a
    have J : sIv (hSt F v 19) := R.J.2.2 a
    obtain ⟨z1, z2, z3, z4⟩ := R.z.2 a2
    obtain ⟨n0, h0, e0⟩ := R.2.2.2.2.1
    obtain ⟨n1, h1, e1⟩ := R.2.2.2.2.2.1
    refine xcall (sp_copy (fun k => F (1 + k)) (fun k => v (1 + k)) n0 n1 h0 h1 e0 e1 ?_)
    have A' : agr (hA (reF2 F n0 n1) (reV2 v n0 n1)) (g_restore (hA F v)) := by
      rw [show g_restore (hA F v) = _ from if_neg a]
      exact ⟨⟨⟨rfl, rfl, rfl, rfl, rfl, rfl⟩, fun j hj => ⟨cpy0 (Nat.lt_of_lt_of_le hj (bel_nat J.1.1 (by omega))), cpy0 (Nat.lt_of_lt_of_le hj (bel_nat J.1.1 (by omega)))⟩, fun j hj => ⟨cpy0 (Nat.lt_of_lt_of_le hj (bel_nat J.1.2.1 (by omega))), cpy0 (Nat.lt_of_lt_of_le hj (bel_nat J.1.2.1 (by omega)))⟩, fun j hj => cpy0 (Nat.lt_of_lt_of_le hj (bel_nat J.1.2.2.2.1 (by omega))), fun j hj => cpy0 (Nat.lt_of_lt_of_le hj (bel_nat J.1.2.2.2.2 (by omega)))⟩, ⟨⟨fun _ _ => rfl, fun _ _ => rfl, fun _ _ => rfl, fun _ _ => rfl⟩, ⟨⟨rfl, rfl, rfl, rfl⟩, rfl, rfl, rfl, rfl⟩, ⟨rfl, rfl⟩, fun _ _ => rfl⟩, fun _ => ⟨⟨rfl, rfl, rfl, rfl, rfl, rfl⟩, fun _ _ => ⟨rfl, rfl⟩, fun _ _ => ⟨rfl, rfl⟩, fun _ _ => rfl, fun _ _ => rfl⟩⟩
    have eg : g_restore σ.1 = (σ.1.2.1, σ.1.2.1, σ.1.2.2) := if_neg a2
    have A2 := A'.tr (pg_restore R.2.2.1)
    have I2 := (pi_restore R.1).up
    have ef : f_restore σ.1 = (v 19 10, 0) := (if_neg a2).trans (an_ (R.2.2.1.2.2 a).1.2.2.1.symm)
    unfold y_restore at h
    rw [if_neg a2, ef] at h
    rw [eg] at h A2 I2
    refine h (reF2 F n0 n1) (reV2 v n0 n1) ⟨I2, ⟨R.2.1.2 a2, fun _ => R.2.1.2 a2⟩, A2, ⟨⟨n0, h0, rfl⟩, ⟨n1, h1, rfl⟩⟩, ⟨n0, h0, e0⟩, ⟨n1, h1, e1⟩, ⟨fun j hj => ?_, z2, ?_, ?_⟩, fun _ => ⟨z1, z2, z3, z4⟩⟩ bm_0.symm
    · obtain ⟨y1, y2, y3⟩ := z1 j hj
      exact ⟨(cpy0 hj).trans y1, (cpy0 hj).trans y2, (cpy0 hj).trans y3⟩
    · exact z3.of e0 h0 rfl (fun j hj => cpy0 hj)
    · exact z4.of e1 h1 rfl (fun j hj => cpy0 hj)
  · have a : v 0 7 = 0 := a
    have a2 : σ.1.2.2 6 0 = 0 := by rw [← ei]; exact a
    refine xcall (sp_errH F v 2 (by decide) ?_)
    refine R.no h ?_ (if_pos a2)
    unfold y_restore g_restore
    rw [if_pos a2, if_pos a2]
end
section
/-! ===== the tried side: calls and texts, exactly ===== -/
theorem out0.play {s : xS} {X : xXt} (O : out0 s X) {b t : Int32} : out0 (clS s) (ePlay s X b t) := by
  intro j a l
  have a : nat (s 6 1) ≤ j := a
  have q : ∀ k, (ePlay s X b t).1 k j = X.1 k j := fun k => if_neg (by omega)
  rw [q, q]
  exact O j a l
theorem hQ.X2 {F v F' v' : xS} (E : hQ F v F' v') : (hX F' v').2 = (hX F v).2 := by
  show (((F' 24, F' 25, F' 26, v' 19 9), (F' 29, v' 28 1, F' 32, v' 31 1)) : hRw1) = ((F 24, F 25, F 26, v 19 9), (F 29, v 28 1, F 32, v 31 1))
  rw [E.1 24 rfl, E.1 25 rfl, E.1 26 rfl, E.2 19 9 rfl, E.1 29 rfl, E.2 28 1 rfl, E.1 32 rfl, E.2 31 1 rfl]
/-- a call played: the new state -/
theorem HR.play {n : Nat} {σ : xZ} {F v F' v' : xS} {s' : xS} {X' : xXt} (R : HR n σ F v) (E : hQ F v F' v') (T : tH (fun k => F' (1 + k)) (fun k => v' (1 + k)) s' X') (e : (s' 6 0 = σ.1.1 6 0 ∧ s' 6 1 = σ.1.1 6 1 ∧ s' 6 3 = v' 1 11 ∧ s' 6 4 = σ.1.1 6 4 ∧ s' 6 5 = σ.1.1 6 5) ∧ (∀ k, k < 6 → s' k = σ.1.1 k)) (b : below 9999 (s' 6 2)) (Z : cIv s' X' ∧ out0 s' X') : HR (n + 1) ((s', σ.1.2), X', σ.2.2) F' v' := by
  have A := R.2.2.1
  have I := R.1.up
  have e2 : v' 1 10 = s' 6 2 := T.1.2.2.1
  refine ⟨⟨⟨⟨by show below 8 (s' 6 0); rw [e.1.1]; exact I.1.1.1, by show below 7 (s' 6 1); rw [e.1.2.1]; exact I.1.1.2.1, b, by show below 50 (s' 6 4); rw [e.1.2.2.2.1]; exact I.1.1.2.2.2.1, by show below 20 (s' 6 5); rw [e.1.2.2.2.2]; exact I.1.1.2.2.2.2⟩, fun j hj => ?_⟩, I.2⟩, ⟨Z, R.2.1.2⟩, (E.agr rfl rfl).tr ⟨⟨⟨A.1.1.1.trans e.1.1.symm, A.1.1.2.1.trans e.1.2.1.symm, e2, e.1.2.2.1.symm, A.1.1.2.2.2.2.1.trans e.1.2.2.2.1.symm, A.1.1.2.2.2.2.2.trans e.1.2.2.2.2.symm⟩, ?_, ?_, ?_, ?_⟩, A.2⟩, ⟨?_, ?_⟩, ?_, ?_, ⟨T.2.2.2.1, T.1.2.2.2, T.2.2.2.2⟩, ?_⟩
  · have hj : j < nat (s' 6 1) := hj
    rw [e.1.2.1] at hj
    show below 6 (s' 2 j)
    rw [e.2 2 (by decide)]
    exact I.1.2 j hj
  · show ∀ j, j < nat (v 1 2) → F 2 j = s' 0 j ∧ F 3 j = s' 1 j
    rw [e.2 0 (by decide), e.2 1 (by decide)]; exact A.1.2.1
  · show ∀ j, j < nat (v 1 8) → F 4 j = s' 2 j ∧ F 5 j = s' 3 j
    rw [e.2 2 (by decide), e.2 3 (by decide)]; exact A.1.2.2.1
  · show ∀ j, j < nat (v 1 14) → F 16 j = s' 4 j
    rw [e.2 4 (by decide)]; exact A.1.2.2.2.1
  · show ∀ j, j < nat (v 1 16) → F 17 j = s' 5 j
    rw [e.2 5 (by decide)]; exact A.1.2.2.2.2
  · rw [E.2 10 1 rfl]; exact R.2.2.2.1.1
  · rw [E.2 13 1 rfl]; exact R.2.2.2.1.2
  · rw [E.2 28 1 rfl]; exact R.2.2.2.2.1
  · rw [E.2 31 1 rfl]; exact R.2.2.2.2.2.1
  · rw [E.X2]
    exact R.z.2
set_option maxRecDepth 100000 in
theorem HX_call (n : Nat) (σ : xZ) (F v : xS) (R : HR n σ F v) (m s : Int32) {K : xKo} (h : hKy n (y_call m s σ) (z_call m s σ) F K) : C_H_call [.ref 0, .int m, .int s] (xfill F v 0 wH0) K := by
  have b9 : below 9999 (v 1 10) := R.J.1.1.2.2.1
  have e10 : v 1 10 = σ.1.1 6 2 := R.n1.2.2.1
  refine xM_go rfl 200 [] fun P hP => ?_
  refine xcall (sp_isBelow _ _ (fun a1 => ?_) (fun a1 => ?_))
  · refine br_c (fun _ => ?_) (fun z => absurd rfl z)
    refine xcall (sp_errH F v 1 (by decide) ?_)
    exact R.no h (if_neg fun z => a1 z.1.1) (if_neg fun z => a1 z.1)
  refine br_c (fun z => absurd z (by decide)) (fun _ => ?_)
  refine xcall (sp_isSteps _ (fun a2 => ?_) (fun a2 => ?_))
  · refine br_n (fun z => absurd rfl z) (fun _ => ?_)
    refine xcall (sp_errH F v 1 (by decide) ?_)
    exact R.no h (if_neg fun z => a2 z.1.2) (if_neg fun z => a2 z.2)
  refine br_n (fun _ => ?_) (fun z => absurd z (by decide))
  refine br_c (fun a3 => ?_) (fun a3 => ?_)
  · have a4 : nat (v 1 10) < 9999 := (natlt (n := 9999) b9 (by omega) (by omega)).mp a3
    rw [e10] at a4 b9
    unfold y_call z_call at h
    rw [if_pos ⟨⟨a1, a2⟩, a4⟩, if_pos ⟨a1, a2⟩, if_pos a4] at h
    obtain ⟨u, hu, rfl, -⟩ := nI_ofx s (n := 10) a2 (by decide)
    refine xcall (sx_play (fun k => F (1 + k)) (fun k => v (1 + k)) σ.1.1 σ.2.1 R.t R.c m u (by omega) (fun G w E T' => ?_))
    refine h (upS 1 F G) (upS 1 v w) (R.play (hQ.up1 E) T' ⟨⟨rfl, rfl, ?_, rfl, rfl⟩, fun k hk => if_neg (by omega)⟩ (b9.inc a4 (by omega)).1 ⟨R.c.play, R.2.1.1.2.play⟩) bm_0.symm
    show σ.1.1 6 3 = w 0 11
    rw [E.2 0 11 rfl]
    exact R.n1.2.2.2.1.symm
  · have a4 : ¬ nat (σ.1.1 6 2) < 9999 := fun z => a3 ((natlt (n := 9999) b9 (by omega) (by omega)).mpr (by rw [e10]; exact z))
    refine xcall (sp_errH F v 3 (by decide) ?_)
    exact R.no h (if_neg fun z => a4 z.2) ((if_pos ⟨a1, a2⟩).trans (if_neg a4))
theorem rdA_congr {u : Int32} {y y' : Nat → Int32} : ∀ (d i : Nat) (s : rdU), (∀ k, i ≤ k → k < i + d → y k = y' k) → rdA u y d i s = rdA u y' d i s := by
  intro d
  induction d with
  | zero => intro i s _; rfl
  | succ d ih =>
    intro i s h
    unfold rdA
    rw [h i (Nat.le_refl i) (by omega)]
    cases rdS u (y' i) s.1 s.2.1 s.2.2 with
    | none => rfl
    | some s2 => exact ih (i + 1) s2 (fun k a l => h k (by omega) (by omega))
theorem rdF_congr {u : Int32} {y y' : Nat → Int32} {n : Nat} (h : ∀ k, k < n → y k = y' k) : rdF u y n = rdF u y' n := by
  unfold rdF
  rw [rdA_congr n 0 rd0 (fun k _ l => h k (by omega))]
theorem rdA_le {u : Int32} {y : Nat → Int32} : ∀ (d i : Nat) (s : rdU), (rdA u y d i s).1 ≤ i + d := by
  intro d
  induction d with
  | zero => intro i s; exact Nat.le_refl i
  | succ d ih =>
    intro i s
    unfold rdA
    cases rdS u (y i) s.1 s.2.1 s.2.2 with
    | none => exact Nat.le_add_right i (d + 1)
    | some s2 =>
      have q := ih (i + 1) s2
      show (rdA u y d (i + 1) s2).1 ≤ i + (d + 1)
      omega
theorem rdF_le {u : Int32} {y : Nat → Int32} {n : Nat} : (rdF u y n).2 ≤ n := by
  have q := rdA_le (u := u) (y := y) n 0 rd0
  unfold rdF
  obtain ⟨r, er⟩ : ∃ r, r = rdA u y n 0 rd0 := ⟨_, rfl⟩
  rw [← er] at q ⊢
  obtain ⟨i, s⟩ := r
  cases s with
  | none => have q : i ≤ 0 + n := q; show i ≤ n; omega
  | some s => exact Nat.le_refl n
/-- the code of a text gives what the text gives -/
theorem code_L {u : Int32} {y : Nat → Int32} {n : Nat} (hn : n ≤ 50) {cc : List Int32} {q : Nat} (e : rdF u y n = (some cc, q)) {code : Nat → Int32} (hc : ∀ j, j < cc.length → code j = cc.getD j 0) (l : cc.length ≤ 50) : hLw code (nI cc.length) (nwL u y n) := by
  have pu : ∀ a b c, pushes a b c cc (grG u a b c (bY y n) 60 5 0 0).1 := by
    intro a b c
    have B := both_read (u := u) (y := y) hn a b c
    by_cases g : (grG u a b c (bY y n) 60 5 0 0).2.2 = true ∧ (grG u a b c (bY y n) 60 5 0 0).2.1 = n
    · obtain ⟨c2, e2, p, -⟩ := B.1 g
      rw [e] at e2
      have e3 : cc = c2 := Option.some.inj (Prod.mk.inj e2).1
      rw [e3]
      exact p
    · have z := B.2 g
      rw [e] at z
      exact absurd (Prod.mk.inj z).1 (by intro h; cases h)
  refine ⟨cc.length, l, rfl, fun z => ?_, fun _ a b c S => ?_⟩
  · exact absurd z (by have := (pu 0 0 0).ne l; omega)
  · have p := pu a b c (S, 0) (by show 0 + cc.length ≤ 50; omega)
    have er : evRun a b c code cc.length 0 (S, 0) = evL a b c cc (S, 0) := evRun_L cc 0 (S, 0) (fun j hj => by rw [Nat.zero_add]; exact hc j hj)
    unfold evGives
    rw [er, evPop_ok (k := 0) p.1]
    show clamp1 ((evL a b c cc (S, 0)).1 0) = clamp1 _
    rw [show (evL a b c cc (S, 0)).1 0 = (grG u a b c (bY y n) 60 5 0 0).1 from p.2.1]
set_option maxRecDepth 100000 in
theorem HX_text (n : Nat) (σ : xZ) (F v : xS) (R : HR n σ F v) (u : Int32) {K : xKo} (h : hKy n (y_text u σ) (z_text u σ) F K) : C_H_text [.ref 0, .int u] (xfill F v 0 wH0) K := by
  obtain ⟨n0, h0, e0⟩ := R.2.2.2.1.1
  obtain ⟨n1, h1, e1⟩ := R.2.2.2.1.2
  obtain ⟨z1, z2, z3, z4⟩ := R.z.1
  refine xM_go rfl 100 [] fun P hP => ?_
  refine xcall (sp_isBelow _ _ (fun a1 => ?_) (fun a1 => ?_))
  · refine br_n (fun z => absurd rfl z) (fun _ => ?_)
    refine xcall (sp_errH F v 1 (by decide) ?_)
    exact R.no h (if_neg a1) (if_neg a1)
  refine br_n (fun _ => ?_) (fun z => absurd z (by decide))
  have a1 : xin u 2 := a1
  have hu : u = 0 ∨ u = 1 := by
    obtain ⟨j, hj, rfl, -⟩ := nI_ofx u (n := 2) a1 (by decide)
    rcases (show j = 0 ∨ j = 1 by omega) with e | e
    all_goals subst e
    · exact Or.inl rfl
    · exact Or.inr rfl
  obtain ⟨nb, hb, eb⟩ : below 50 (v 1 14) := R.J.1.1.2.2.2.1
  have e14 : v 1 14 = σ.1.1 6 4 := R.n1.2.2.2.2.1
  have ebn : nat (σ.1.1 6 4) = nb := by rw [← e14, eb]; exact nI_clamp (by omega)
  have tp : ∀ k, k < nb → F 16 k = σ.1.1 4 k := fun k hk => R.2.2.1.1.2.2.2.1 k (by show k < nat (v 1 14); rw [e14, ebn]; exact hk)
  have er : rdF u (F 16) nb = rdF u (σ.1.1 4) nb := rdF_congr tp
  unfold y_text z_text at h
  rw [if_pos a1, if_pos a1, ebn] at h
  obtain ⟨r, hr⟩ : ∃ r, r = rdF u (σ.1.1 4) nb := ⟨_, rfl⟩
  rw [← hr] at h er
  have A0 := R.2.2.1
  have AG : agr (va_up (hA F v).1 6 (upd ((hA F v).1 6) 4 0), (hA F v).2) (va_up σ.1.1 6 (upd (σ.1.1 6) 4 0), σ.1.2) := by
    have q := pg_text A0 u
    rw [show g_text u (hA F v) = _ from if_pos a1, show g_text u σ.1 = _ from if_pos a1] at q
    exact q
  have IG : aIv (n + 1) (va_up σ.1.1 6 (upd (σ.1.1 6) 4 0), σ.1.2) := by
    have q := (pi_text R.1 u).up
    rw [show g_text u σ.1 = _ from if_pos a1] at q
    exact q
  have ZG : ∀ X' : xXt, X'.1 = σ.2.1.1 → X'.2.1 = σ.2.1.2.1 → zIv ((va_up σ.1.1 6 (upd (σ.1.1 6) 4 0), σ.1.2), X', σ.2.2) := by
    intro X' x1 x2
    obtain ⟨⟨⟨a, b, c, d, e, f⟩, o⟩, k⟩ := R.2.1
    refine ⟨⟨⟨a, b, c, ?_, ?_, ?_⟩, ?_⟩, k⟩
    · show ∀ j, j < nat (σ.1.1 6 1) → below 11 (X'.1 0 j)
      rw [x1]; exact d
    · show ∀ j, j < 7 → below 999 (X'.1 1 j) ∧ below 999 (X'.1 2 j)
      rw [x1]; exact e
    · show X'.2.1 = -1 ∨ ∃ c, c < nat (σ.1.1 6 1) ∧ X'.2.1 = nI c
      rw [x2]; exact f
    · show ∀ j, nat (σ.1.1 6 1) ≤ j → j < 7 → X'.1 1 j = 0 ∧ X'.1 2 j = 0
      rw [x1]; exact o
  have fk : ∀ K2 : xKo, (r.1 = none → ∀ G w, rI w → K2 (some (.int (nI r.2))) (xfill G w 0 (wR0 0) ++ [.inl (50, F 16)])) → (∀ c, r.1 = some c → ∀ G w, rI w → cdR G w c → K2 (some (.int (-1))) (xfill G w 0 (wR0 0) ++ [.inl (50, F 16)])) → C_R_faultOf [.ref 0, .ref 3, .int (v 1 14), .int u] (xfill (fun k => F (55 + k)) (fun k => v (55 + k)) 0 (wR0 0) ++ [.inl (50, F 16)]) K2 := by
    intro K2 k0 k1
    rw [← er] at k0 k1
    rw [eb]
    exact sx_faultOf (fun k => F (55 + k)) (fun k => v (55 + k)) (F 16) nb hb u hu k0 k1
  refine xcall (fk _ (fun en G w RI => ?_) (fun cc ec G w RI CD => ?_))
  · have l50 : r.2 ≤ 50 := by rw [hr]; exact Nat.le_trans rdF_le hb
    refine br_c (fun z => ?_) (fun _ => ?_)
    · have z : nI r.2 = -1 := z
      have q := congrArg Int32.toInt z
      rw [nI_toInt (by omega), show (-1 : Int32).toInt = -1 by decide] at q
      omega
    have ea : txA r = -10 - nI r.2 := by
      obtain ⟨r1, r2⟩ := r
      have en : r1 = none := en
      subst en
      rfl
    have ex : txX u (σ.1.1 4) nb σ.2.1 r = σ.2.1 := by
      obtain ⟨r1, r2⟩ := r
      have en : r1 = none := en
      subst en
      rfl
    rw [ea, ex] at h
    exact xgenP (K := K) (P := fun F' v' => HR (n + 1) ((va_up σ.1.1 6 (upd (σ.1.1 6) 4 0), σ.1.2), σ.2.1, σ.2.2) F' v' ∧ F' 69 = F 69) (fun F' v' p => h F' v' p.1 (p.2.trans bm_0.symm)) (by rfl) (by exact ⟨⟨IG, ZG _ rfl rfl, (show agr _ (va_up (hA F v).1 6 (upd ((hA F v).1 6) 4 0), (hA F v).2) from ⟨⟨⟨rfl, rfl, rfl, rfl, rfl, rfl⟩, fun _ _ => ⟨rfl, rfl⟩, fun _ _ => ⟨rfl, rfl⟩, fun _ _ => rfl, fun _ _ => rfl⟩, ⟨⟨fun _ _ => rfl, fun _ _ => rfl, fun _ _ => rfl, fun _ _ => rfl⟩, ⟨⟨rfl, rfl, rfl, rfl⟩, rfl, rfl, rfl, rfl⟩, ⟨rfl, rfl⟩, fun _ _ => rfl⟩, fun _ => ⟨⟨rfl, rfl, rfl, rfl, rfl, rfl⟩, fun _ _ => ⟨rfl, rfl⟩, fun _ _ => ⟨rfl, rfl⟩, fun _ _ => rfl, fun _ _ => rfl⟩⟩).tr AG, ⟨⟨n0, h0, e0⟩, ⟨n1, h1, e1⟩⟩, R.2.2.2.2.1, R.2.2.2.2.2.1, ⟨z1, z2, z3, z4⟩, R.z.2⟩, rfl⟩)
  · have ea : txA r = 1 := by
      obtain ⟨r1, r2⟩ := r
      have ec : r1 = some cc := ec
      subst ec
      rfl
    have ex : txX u (σ.1.1 4) nb σ.2.1 r = (σ.2.1.1, σ.2.1.2.1, fun k => if k = nat u then nwL u (σ.1.1 4) nb else σ.2.1.2.2 k) := by
      obtain ⟨r1, r2⟩ := r
      have ec : r1 = some cc := ec
      subst ec
      rfl
    rw [ea, ex] at h
    have eF : rdF u (σ.1.1 4) nb = (some cc, r.2) := by rw [← hr, ← ec]
    obtain ⟨cm, cl, cg⟩ := CD
    refine br_c (fun _ => ?_) (fun z => absurd rfl z)
    refine ⟨vin a1, ⟨fun eu => ?_, ⟨fun eu => ?_, trivial⟩⟩⟩
    · have eu : u = 0 := eu
      have nu : nat u = 0 := by rw [eu]; decide
      rw [nu] at h
      refine xcall (sp_adopt (fun k => F (10 + k)) (fun k => v (10 + k)) (G 1) cc.length cl cm ?_)
      have LN : hLw (va_cpy (G 1) (F 11) 0 0 cc.length) (nI cc.length) (nwL u (σ.1.1 4) nb) := code_L hb eF (fun j hj => (cpy0 hj).trans (cg j hj)) cl
      exact xgenP (K := K) (P := fun F' v' => HR (n + 1) ((va_up σ.1.1 6 (upd (σ.1.1 6) 4 0), σ.1.2), (σ.2.1.1, σ.2.1.2.1, fun k => if k = 0 then nwL u (σ.1.1 4) nb else σ.2.1.2.2 k), σ.2.2) F' v' ∧ F' 69 = F 69) (fun F' v' p => h F' v' p.1 (p.2.trans bm_0.symm)) (by rfl) (by exact ⟨⟨IG, ZG _ rfl rfl, (show agr _ (va_up (hA F v).1 6 (upd ((hA F v).1 6) 4 0), (hA F v).2) from ⟨⟨⟨rfl, rfl, rfl, rfl, rfl, rfl⟩, fun _ _ => ⟨rfl, rfl⟩, fun _ _ => ⟨rfl, rfl⟩, fun _ _ => rfl, fun _ _ => rfl⟩, ⟨⟨fun _ _ => rfl, fun _ _ => rfl, fun _ _ => rfl, fun _ _ => rfl⟩, ⟨⟨rfl, rfl, rfl, rfl⟩, rfl, rfl, rfl, rfl⟩, ⟨rfl, rfl⟩, fun _ _ => rfl⟩, fun _ => ⟨⟨rfl, rfl, rfl, rfl, rfl, rfl⟩, fun _ _ => ⟨rfl, rfl⟩, fun _ _ => ⟨rfl, rfl⟩, fun _ _ => rfl, fun _ _ => rfl⟩⟩).tr AG, ⟨⟨cc.length, cl, rfl⟩, ⟨n1, h1, e1⟩⟩, R.2.2.2.2.1, R.2.2.2.2.2.1, ⟨z1, z2, LN, z4⟩, R.z.2⟩, rfl⟩)
    · have eu : u = 1 := eu
      have nu : nat u = 1 := by rw [eu]; decide
      rw [nu] at h
      refine xcall (sp_adopt (fun k => F (13 + k)) (fun k => v (13 + k)) (G 1) cc.length cl cm ?_)
      have LN : hLw (va_cpy (G 1) (F 14) 0 0 cc.length) (nI cc.length) (nwL u (σ.1.1 4) nb) := code_L hb eF (fun j hj => (cpy0 hj).trans (cg j hj)) cl
      exact xgenP (K := K) (P := fun F' v' => HR (n + 1) ((va_up σ.1.1 6 (upd (σ.1.1 6) 4 0), σ.1.2), (σ.2.1.1, σ.2.1.2.1, fun k => if k = 1 then nwL u (σ.1.1 4) nb else σ.2.1.2.2 k), σ.2.2) F' v' ∧ F' 69 = F 69) (fun F' v' p => h F' v' p.1 (p.2.trans bm_0.symm)) (by rfl) (by exact ⟨⟨IG, ZG _ rfl rfl, (show agr _ (va_up (hA F v).1 6 (upd ((hA F v).1 6) 4 0), (hA F v).2) from ⟨⟨⟨rfl, rfl, rfl, rfl, rfl, rfl⟩, fun _ _ => ⟨rfl, rfl⟩, fun _ _ => ⟨rfl, rfl⟩, fun _ _ => rfl, fun _ _ => rfl⟩, ⟨⟨fun _ _ => rfl, fun _ _ => rfl, fun _ _ => rfl, fun _ _ => rfl⟩, ⟨⟨rfl, rfl, rfl, rfl⟩, rfl, rfl, rfl, rfl⟩, ⟨rfl, rfl⟩, fun _ _ => rfl⟩, fun _ => ⟨⟨rfl, rfl, rfl, rfl, rfl, rfl⟩, fun _ _ => ⟨rfl, rfl⟩, fun _ _ => ⟨rfl, rfl⟩, fun _ _ => rfl, fun _ _ => rfl⟩⟩).tr AG, ⟨⟨n0, h0, e0⟩, ⟨cc.length, cl, rfl⟩⟩, R.2.2.2.2.1, R.2.2.2.2.2.1, ⟨z1, z2, z3, LN⟩, R.z.2⟩, rfl⟩)
end
section
/-! ===== the plain methods, over a state that both sides tell ===== -/
theorem kd_eq {s : Int32} {p q : xA} (A : agr p q) : kd_judge s p = kd_judge s q := by
  unfold kd_judge
  by_cases z : xin s 4
  · rw [if_pos z, if_pos z, A.2.1.el.2.2.1 _ (nat4 z)]
  · rw [if_neg z, if_neg z]
theorem zIv.g {σ : xZ} {s' : xA} (Z : zIv σ) (h : cIv s'.1 σ.2.1 ∧ out0 s'.1 σ.2.1) (e2 : s'.2.1 = σ.1.2.1) (e : s'.2.2 6 0 = σ.1.2.2 6 0) : zIv (s', σ.2) := ⟨h, fun z => by
  show cIv s'.2.1 σ.2.2 ∧ out0 s'.2.1 σ.2.2
  rw [e2]
  exact Z.2 (by rw [← e]; exact z)⟩
theorem bel_up {f : Nat → Int32} {n N i : Nat} {x : Int32} (h : ∀ j, j < n → below N (f j)) (hx : below N x) : ∀ j, j < n → below N (upd f i x j) := fun j hj => by
  by_cases e : j = i
  · rw [e, pk_us]; exact hx
  · rw [pk_un e]; exact h j hj
theorem bel_up1 {f : Nat → Int32} {n N : Nat} {x : Int32} (h : ∀ j, j < n → below N (f j)) (hx : below N x) : ∀ j, j < n + 1 → below N (upd f n x j) := fun j hj => by
  by_cases e : j = n
  · rw [e, pk_us]; exact hx
  · rw [pk_un e]; exact h j (by omega)
theorem b63 {x : Int32} (h : xin x 64) : below 63 x := by
  obtain ⟨k, hk, e, -⟩ := nI_ofx x (n := 64) h (by decide)
  exact ⟨k, by omega, e⟩
theorem zi_thing {σ : xZ} (Z : zIv σ) (a b : Int32) : zIv (g_thing a b σ.1, σ.2) := by
  unfold g_thing
  by_cases ok : (xin a 12 ∧ xin b 64) ∧ nat (σ.1.1 6 0) < 8
  · rw [if_pos ok]
    obtain ⟨⟨⟨i, c, d, e, f, g⟩, o⟩, -⟩ := id Z
    obtain ⟨b1, n1⟩ := i.1.inc ok.2 (by omega)
    refine Z.g ⟨⟨⟨b1, i.2⟩, fun j hj => ?_, d, e, f, g⟩, o⟩ rfl rfl
    have hj : j < nat (σ.1.1 6 0 + 1) := hj
    rw [n1] at hj
    exact ⟨bel_up1 (fun j hj => (c j hj).1) (b11 ok.1.1) j hj, bel_up1 (fun j hj => (c j hj).2) (b63 ok.1.2) j hj⟩
  · rw [if_neg ok]
    exact Z
theorem zi_shift {σ : xZ} (Z : zIv σ) (i w x : Int32) : zIv (g_shift i w x σ.1, σ.2) := by
  unfold g_shift
  by_cases ok : (xin i (σ.1.1 6 0).toInt ∧ xin w 2) ∧ xin x (if w = 0 then 12 else 64)
  · rw [if_pos ok]
    obtain ⟨⟨⟨a, c, d, e, f, g⟩, o⟩, -⟩ := id Z
    by_cases w0 : w = 0
    · rw [if_pos w0]
      have bx := ok.2
      rw [if_pos w0] at bx
      exact Z.g ⟨⟨a, fun j hj => ⟨bel_up (fun j hj => (c j hj).1) (b11 bx) j hj, (c j hj).2⟩, d, e, f, g⟩, o⟩ rfl rfl
    · rw [if_neg w0]
      have bx := ok.2
      rw [if_neg w0] at bx
      exact Z.g ⟨⟨a, fun j hj => ⟨(c j hj).1, bel_up (fun j hj => (c j hj).2) (b63 bx) j hj⟩, d, e, f, g⟩, o⟩ rfl rfl
  · rw [if_neg ok]
    exact Z
theorem zi_become {σ : xZ} (Z : zIv σ) (c m : Int32) : zIv (g_become c m σ.1, σ.2) := by
  unfold g_become
  by_cases ok : xin c (σ.1.1 6 1).toInt ∧ xin m 70
  · rw [if_pos ok]
    obtain ⟨⟨⟨a, b, d, e, f, g⟩, o⟩, -⟩ := id Z
    exact Z.g ⟨⟨a, b, fun j hj => ⟨bel_up (fun j hj => (d j hj).1) (div10 ok.2) j hj, bel_up (fun j hj => (d j hj).2) (mod10 ok.2) j hj⟩, e, f, g⟩, o⟩ rfl rfl
  · rw [if_neg ok]
    exact Z
theorem zi_feed {σ : xZ} (Z : zIv σ) (w : Int64) (x : Int32) : zIv (g_feed w x σ.1, σ.2) := by
  unfold g_feed
  split
  · exact Z.g Z.1 rfl rfl
  · exact Z
theorem zi_seed {σ : xZ} (Z : zIv σ) (x : Int32) : zIv (g_seed x σ.1, σ.2) := Z.g Z.1 rfl rfl
theorem zi_tell {σ : xZ} (Z : zIv σ) (x : Int32) : zIv (g_tell x σ.1, σ.2) := by
  unfold g_tell
  split
  · exact Z.g Z.1 rfl rfl
  · exact Z
theorem gi_thing (a b : Int32) (s : xA) : (g_thing a b s).2.2 6 0 = s.2.2 6 0 := by
  unfold g_thing
  split <;> rfl
theorem gi_shift (i w x : Int32) (s : xA) : (g_shift i w x s).2.2 6 0 = s.2.2 6 0 := by
  unfold g_shift
  by_cases ok : (xin i (s.1 6 0).toInt ∧ xin w 2) ∧ xin x (if w = 0 then 12 else 64)
  · rw [if_pos ok]
    split <;> rfl
  · rw [if_neg ok]
theorem gi_become (c m : Int32) (s : xA) : (g_become c m s).2.2 6 0 = s.2.2 6 0 := by
  unfold g_become
  split <;> rfl
theorem gi_feed (w : Int64) (x : Int32) (s : xA) : (g_feed w x s).2.2 6 0 = s.2.2 6 0 := by
  unfold g_feed
  split <;> rfl
theorem gi_seed (x : Int32) (s : xA) : (g_seed x s).2.2 6 0 = s.2.2 6 0 := rfl
theorem gi_tell (x : Int32) (s : xA) : (g_tell x s).2.2 6 0 = s.2.2 6 0 := by
  unfold g_tell
  split <;> rfl
theorem gi_voice (c a x : Int32) (s : xA) : (g_voice c a x s).2.2 6 0 = s.2.2 6 0 := by
  unfold g_voice
  split <;> rfl
theorem n46 {s : Int32} (h : xin s 4) : ¬ 6 = nat s := by
  have := nat4 h
  omega
theorem gi_sheet (s b m : Int32) (q : xA) : (g_sheet s b m q).2.2 6 0 = q.2.2 6 0 := by
  unfold g_sheet
  split
  · rename_i ok
    exact congrFun (if_neg (n46 ok.1)) 0
  · rfl
theorem gi_put (s i x : Int32) (q : xA) : (g_put s i x q).2.2 6 0 = q.2.2 6 0 := by
  unfold g_put
  split
  · rename_i ok
    exact congrFun (if_neg (n46 ok.1)) 0
  · rfl
theorem gi_move (s i d j m : Int32) (q : xA) : (g_move s i d j m q).2.2 6 0 = q.2.2 6 0 := by
  unfold g_move
  split
  · rename_i ok
    exact congrFun (if_neg (n46 ok.1.2)) 0
  · rfl
theorem zi_voice {σ : xZ} (Z : zIv σ) (c a x : Int32) : zIv (g_voice c a x σ.1, σ.2) := by
  have e := gi_voice c a x σ.1
  unfold g_voice at e ⊢
  split
  · rename_i ok
    rw [if_pos ok] at e
    exact Z.g Z.1 rfl e
  · exact Z
theorem zi_sheet {σ : xZ} (Z : zIv σ) (s b m : Int32) : zIv (g_sheet s b m σ.1, σ.2) := by
  have e := gi_sheet s b m σ.1
  unfold g_sheet at e ⊢
  split
  · rename_i ok
    rw [if_pos ok] at e
    exact Z.g Z.1 rfl e
  · exact Z
theorem zi_put {σ : xZ} (Z : zIv σ) (s i x : Int32) : zIv (g_put s i x σ.1, σ.2) := by
  have e := gi_put s i x σ.1
  unfold g_put at e ⊢
  split
  · rename_i ok
    rw [if_pos ok] at e
    exact Z.g Z.1 rfl e
  · exact Z
theorem zi_move {σ : xZ} (Z : zIv σ) (s i d j m : Int32) : zIv (g_move s i d j m σ.1, σ.2) := by
  have e := gi_move s i d j m σ.1
  unfold g_move at e ⊢
  split
  · rename_i ok
    rw [if_pos ok] at e
    exact Z.g Z.1 rfl e
  · exact Z
theorem HX_thing (n : Nat) (σ : xZ) (F v : xS) (R : HR n σ F v) (a : Int32) (b : Int32) {K : xKo} (h : hKy n (g_thing a b σ.1, σ.2) (f_thing a b σ.1) F K) : C_H_thing [.ref 0, .int a, .int b] (xfill F v 0 wH0) K := by
  refine hs_thing n F v R.J R.2.2.2 a b (fun F' v' S' B' A' => ?_)
  rw [show f_thing a b (hA F v) = f_thing a b σ.1 from pf_thing R.2.2.1 R.J a b] at B' ⊢
  exact h F' v' (HR.st (pi_thing R.1 a b).up (zi_thing R.2.1 a b) (gi_thing a b σ.1) (A'.tr (pg_thing R.2.2.1 R.J a b)) S') B'
theorem HX_ofThing (n : Nat) (σ : xZ) (F v : xS) (R : HR n σ F v) (i : Int32) (w : Int32) {K : xKo} (h : hKy n σ (f_ofThing i w σ.1) F K) : C_H_ofThing [.ref 0, .int i, .int w] (xfill F v 0 wH0) K := by
  refine hs_ofThing n F v R.J R.2.2.2 i w (fun F' v' S' B' A' => ?_)
  rw [show f_ofThing i w (hA F v) = f_ofThing i w σ.1 from pf_ofThing R.2.2.1 R.J i w] at B' ⊢
  exact h F' v' (HR.st (σ := σ) R.1.up R.2.1 rfl (A'.tr R.2.2.1) S') B'
theorem HX_shift (n : Nat) (σ : xZ) (F v : xS) (R : HR n σ F v) (i : Int32) (w : Int32) (x : Int32) {K : xKo} (h : hKy n (g_shift i w x σ.1, σ.2) (f_shift i w x σ.1) F K) : C_H_shift [.ref 0, .int i, .int w, .int x] (xfill F v 0 wH0) K := by
  refine hs_shift n F v R.J R.2.2.2 i w x (fun F' v' S' B' A' => ?_)
  rw [show f_shift i w x (hA F v) = f_shift i w x σ.1 from pf_shift R.2.2.1 R.J i w x] at B' ⊢
  exact h F' v' (HR.st (pi_shift R.1 i w x).up (zi_shift R.2.1 i w x) (gi_shift i w x σ.1) (A'.tr (pg_shift R.2.2.1 R.J i w x)) S') B'
theorem HX_become (n : Nat) (σ : xZ) (F v : xS) (R : HR n σ F v) (c : Int32) (m : Int32) {K : xKo} (h : hKy n (g_become c m σ.1, σ.2) (f_become c m σ.1) F K) : C_H_become [.ref 0, .int c, .int m] (xfill F v 0 wH0) K := by
  refine hs_become n F v R.J R.2.2.2 c m (fun F' v' S' B' A' => ?_)
  rw [show f_become c m (hA F v) = f_become c m σ.1 from pf_become R.2.2.1 R.J c m] at B' ⊢
  exact h F' v' (HR.st (pi_become R.1 c m).up (zi_become R.2.1 c m) (gi_become c m σ.1) (A'.tr (pg_become R.2.2.1 c m)) S') B'
theorem HX_as (n : Nat) (σ : xZ) (F v : xS) (R : HR n σ F v) (c : Int32) (k : Int32) {K : xKo} (h : hKy n σ (f_as c k σ.1) F K) : C_H_as [.ref 0, .int c, .int k] (xfill F v 0 wH0) K := by
  refine hs_as n F v R.J R.2.2.2 c k (fun F' v' S' B' A' => ?_)
  rw [show f_as c k (hA F v) = f_as c k σ.1 from pf_as R.2.2.1 R.J c k] at B' ⊢
  exact h F' v' (HR.st (σ := σ) R.1.up R.2.1 rfl (A'.tr R.2.2.1) S') B'
theorem HX_feed (n : Nat) (σ : xZ) (F v : xS) (R : HR n σ F v) (w : Int64) (x : Int32) {K : xKo} (h : hKy n (g_feed w x σ.1, σ.2) (f_feed w x σ.1) F K) : C_H_feed [.ref 0, .long w, .int x] (xfill F v 0 wH0) K := by
  refine hs_feed n F v R.J R.2.2.2 w x (fun F' v' S' B' A' => ?_)
  rw [show f_feed w x (hA F v) = f_feed w x σ.1 from pf_feed R.2.2.1 w x] at B' ⊢
  exact h F' v' (HR.st (pi_feed R.1 w x).up (zi_feed R.2.1 w x) (gi_feed w x σ.1) (A'.tr (pg_feed R.2.2.1 R.J w x)) S') B'
theorem HX_seed (n : Nat) (σ : xZ) (F v : xS) (R : HR n σ F v) (x : Int32) {K : xKo} (h : hKy n (g_seed x σ.1, σ.2) (f_seed x σ.1) F K) : C_H_seed [.ref 0, .int x] (xfill F v 0 wH0) K := by
  refine hs_seed n F v R.J R.2.2.2 x (fun F' v' S' B' A' => ?_)
  rw [show f_seed x (hA F v) = f_seed x σ.1 from pf_seed R.2.2.1 x] at B' ⊢
  exact h F' v' (HR.st (pi_seed R.1 x).up (zi_seed R.2.1 x) (gi_seed x σ.1) (A'.tr (pg_seed R.2.2.1 x)) S') B'
theorem HX_trace (n : Nat) (σ : xZ) (F v : xS) (R : HR n σ F v) (i : Int32) {K : xKo} (h : hKy n σ (f_trace i σ.1) F K) : C_H_trace [.ref 0, .int i] (xfill F v 0 wH0) K := by
  refine hs_trace n F v R.J R.2.2.2 i (fun F' v' S' B' A' => ?_)
  rw [show f_trace i (hA F v) = f_trace i σ.1 from pf_trace R.2.2.1 R.J i] at B' ⊢
  exact h F' v' (HR.st (σ := σ) R.1.up R.2.1 rfl (A'.tr R.2.2.1) S') B'
theorem HX_tell (n : Nat) (σ : xZ) (F v : xS) (R : HR n σ F v) (x : Int32) {K : xKo} (h : hKy n (g_tell x σ.1, σ.2) (f_tell x σ.1) F K) : C_H_tell [.ref 0, .int x] (xfill F v 0 wH0) K := by
  refine hs_tell n F v R.J R.2.2.2 x (fun F' v' S' B' A' => ?_)
  rw [show f_tell x (hA F v) = f_tell x σ.1 from pf_tell R.2.2.1 x] at B' ⊢
  exact h F' v' (HR.st (pi_tell R.1 x).up (zi_tell R.2.1 x) (gi_tell x σ.1) (A'.tr (pg_tell R.2.2.1 R.J x)) S') B'
theorem HX_voice (n : Nat) (σ : xZ) (F v : xS) (R : HR n σ F v) (c : Int32) (a : Int32) (x : Int32) {K : xKo} (h : hKy n (g_voice c a x σ.1, σ.2) (f_voice c a x σ.1) F K) : C_H_voice [.ref 0, .int c, .int a, .int x] (xfill F v 0 wH0) K := by
  refine hs_voice n F v R.J R.2.2.2 c a x (fun F' v' S' B' A' => ?_)
  rw [show f_voice c a x (hA F v) = f_voice c a x σ.1 from pf_voice R.2.2.1 R.J c a x] at B' ⊢
  exact h F' v' (HR.st (pi_voice R.1 c a x).up (zi_voice R.2.1 c a x) (gi_voice c a x σ.1) (A'.tr (pg_voice R.2.2.1 R.J c a x)) S') B'
theorem HX_sheet (n : Nat) (σ : xZ) (F v : xS) (R : HR n σ F v) (s : Int32) (b : Int32) (m : Int32) {K : xKo} (h : hKy n (g_sheet s b m σ.1, σ.2) (f_sheet s b m σ.1) F K) : C_H_sheet [.ref 0, .int s, .int b, .int m] (xfill F v 0 wH0) K := by
  refine hs_sheet n F v R.J R.2.2.2 s b m (fun F' v' S' B' A' => ?_)
  rw [show f_sheet s b m (hA F v) = f_sheet s b m σ.1 from pf_sheet s b m] at B' ⊢
  exact h F' v' (HR.st (pi_sheet R.1 s b m).up (zi_sheet R.2.1 s b m) (gi_sheet s b m σ.1) (A'.tr (pg_sheet R.2.2.1 s b m)) S') B'
theorem HX_put (n : Nat) (σ : xZ) (F v : xS) (R : HR n σ F v) (s : Int32) (i : Int32) (x : Int32) {K : xKo} (h : hKy n (g_put s i x σ.1, σ.2) (f_put s i x σ.1) F K) : C_H_put [.ref 0, .int s, .int i, .int x] (xfill F v 0 wH0) K := by
  refine hs_put n F v R.J R.2.2.2 s i x (fun F' v' S' B' A' => ?_)
  rw [show f_put s i x (hA F v) = f_put s i x σ.1 from pf_put R.2.2.1 s i x] at B' ⊢
  exact h F' v' (HR.st (pi_put R.1 s i x).up (zi_put R.2.1 s i x) (gi_put s i x σ.1) (A'.tr (pg_put R.2.2.1 s i x)) S') B'
theorem HX_move (n : Nat) (σ : xZ) (F v : xS) (R : HR n σ F v) (s : Int32) (i : Int32) (d : Int32) (j : Int32) (m : Int32) {K : xKo} (h : hKy n (g_move s i d j m σ.1, σ.2) (f_move s i d j m σ.1) F K) : C_H_move [.ref 0, .int s, .int i, .int d, .int j, .int m] (xfill F v 0 wH0) K := by
  refine hs_move n F v R.J R.2.2.2 s i d j m (fun F' v' S' B' A' => ?_)
  rw [show f_move s i d j m (hA F v) = f_move s i d j m σ.1 from pf_move R.2.2.1 s i d j m] at B' ⊢
  exact h F' v' (HR.st (pi_move R.1 s i d j m).up (zi_move R.2.1 s i d j m) (gi_move s i d j m σ.1) (A'.tr (pg_move R.2.2.1 R.J s i d j m)) S') B'
theorem HX_judge (n : Nat) (σ : xZ) (F v : xS) (R : HR n σ F v) (s : Int32) {K : xKo} (h : ∀ r F' v', HR (n + 1) σ F' v' → F' 69 = bmT (kd_judge s σ.1) (F 69) → K (some (.int r)) (xfill F' v' 0 wH0)) : C_H_judge [.ref 0, .int s] (xfill F v 0 wH0) K := by
  refine hs_judge n F v R.J R.2.2.2 s (fun r F' v' S' B' A' => ?_)
  rw [kd_eq (s := s) R.2.2.1] at B'
  exact h r F' v' (HR.st (σ := σ) R.1.up R.2.1 rfl (A'.tr R.2.2.1) S') B'
theorem MX_thing (n : Nat) (σ : xZ) (F v : xS) (R : MR n σ F v) (a : Int32) (b : Int32) {K : xKo} (h : mKy n (g_thing a b σ.1, σ.2) (f_thing a b σ.1) F K) : C_M_thing [.ref 0, .int a, .int b] (xfill F v 0 (wM0 0)) K := by
  refine ms_thing n F v R.J R.2.2.2 a b (fun F' v' S' B' A' => ?_)
  rw [show f_thing a b (mA F v) = f_thing a b σ.1 from pf_thing R.2.2.1 R.J a b] at B' ⊢
  exact h F' v' (MR.st (pi_thing R.1 a b).up (zi_thing R.2.1 a b) (gi_thing a b σ.1) (A'.tr (pg_thing R.2.2.1 R.J a b)) S') B'
theorem MX_ofThing (n : Nat) (σ : xZ) (F v : xS) (R : MR n σ F v) (i : Int32) (w : Int32) {K : xKo} (h : mKy n σ (f_ofThing i w σ.1) F K) : C_M_ofThing [.ref 0, .int i, .int w] (xfill F v 0 (wM0 0)) K := by
  refine ms_ofThing n F v R.J R.2.2.2 i w (fun F' v' S' B' A' => ?_)
  rw [show f_ofThing i w (mA F v) = f_ofThing i w σ.1 from pf_ofThing R.2.2.1 R.J i w] at B' ⊢
  exact h F' v' (MR.st (σ := σ) R.1.up R.2.1 rfl (A'.tr R.2.2.1) S') B'
theorem MX_shift (n : Nat) (σ : xZ) (F v : xS) (R : MR n σ F v) (i : Int32) (w : Int32) (x : Int32) {K : xKo} (h : mKy n (g_shift i w x σ.1, σ.2) (f_shift i w x σ.1) F K) : C_M_shift [.ref 0, .int i, .int w, .int x] (xfill F v 0 (wM0 0)) K := by
  refine ms_shift n F v R.J R.2.2.2 i w x (fun F' v' S' B' A' => ?_)
  rw [show f_shift i w x (mA F v) = f_shift i w x σ.1 from pf_shift R.2.2.1 R.J i w x] at B' ⊢
  exact h F' v' (MR.st (pi_shift R.1 i w x).up (zi_shift R.2.1 i w x) (gi_shift i w x σ.1) (A'.tr (pg_shift R.2.2.1 R.J i w x)) S') B'
theorem MX_become (n : Nat) (σ : xZ) (F v : xS) (R : MR n σ F v) (c : Int32) (m : Int32) {K : xKo} (h : mKy n (g_become c m σ.1, σ.2) (f_become c m σ.1) F K) : C_M_become [.ref 0, .int c, .int m] (xfill F v 0 (wM0 0)) K := by
  refine ms_become n F v R.J R.2.2.2 c m (fun F' v' S' B' A' => ?_)
  rw [show f_become c m (mA F v) = f_become c m σ.1 from pf_become R.2.2.1 R.J c m] at B' ⊢
  exact h F' v' (MR.st (pi_become R.1 c m).up (zi_become R.2.1 c m) (gi_become c m σ.1) (A'.tr (pg_become R.2.2.1 c m)) S') B'
theorem MX_as (n : Nat) (σ : xZ) (F v : xS) (R : MR n σ F v) (c : Int32) (k : Int32) {K : xKo} (h : mKy n σ (f_as c k σ.1) F K) : C_M_as [.ref 0, .int c, .int k] (xfill F v 0 (wM0 0)) K := by
  refine ms_as n F v R.J R.2.2.2 c k (fun F' v' S' B' A' => ?_)
  rw [show f_as c k (mA F v) = f_as c k σ.1 from pf_as R.2.2.1 R.J c k] at B' ⊢
  exact h F' v' (MR.st (σ := σ) R.1.up R.2.1 rfl (A'.tr R.2.2.1) S') B'
theorem MX_feed (n : Nat) (σ : xZ) (F v : xS) (R : MR n σ F v) (w : Int64) (x : Int32) {K : xKo} (h : mKy n (g_feed w x σ.1, σ.2) (f_feed w x σ.1) F K) : C_M_feed [.ref 0, .long w, .int x] (xfill F v 0 (wM0 0)) K := by
  refine ms_feed n F v R.J R.2.2.2 w x (fun F' v' S' B' A' => ?_)
  rw [show f_feed w x (mA F v) = f_feed w x σ.1 from pf_feed R.2.2.1 w x] at B' ⊢
  exact h F' v' (MR.st (pi_feed R.1 w x).up (zi_feed R.2.1 w x) (gi_feed w x σ.1) (A'.tr (pg_feed R.2.2.1 R.J w x)) S') B'
theorem MX_seed (n : Nat) (σ : xZ) (F v : xS) (R : MR n σ F v) (x : Int32) {K : xKo} (h : mKy n (g_seed x σ.1, σ.2) (f_seed x σ.1) F K) : C_M_seed [.ref 0, .int x] (xfill F v 0 (wM0 0)) K := by
  refine ms_seed n F v R.J R.2.2.2 x (fun F' v' S' B' A' => ?_)
  rw [show f_seed x (mA F v) = f_seed x σ.1 from pf_seed R.2.2.1 x] at B' ⊢
  exact h F' v' (MR.st (pi_seed R.1 x).up (zi_seed R.2.1 x) (gi_seed x σ.1) (A'.tr (pg_seed R.2.2.1 x)) S') B'
theorem MX_trace (n : Nat) (σ : xZ) (F v : xS) (R : MR n σ F v) (i : Int32) {K : xKo} (h : mKy n σ (f_trace i σ.1) F K) : C_M_trace [.ref 0, .int i] (xfill F v 0 (wM0 0)) K := by
  refine ms_trace n F v R.J R.2.2.2 i (fun F' v' S' B' A' => ?_)
  rw [show f_trace i (mA F v) = f_trace i σ.1 from pf_trace R.2.2.1 R.J i] at B' ⊢
  exact h F' v' (MR.st (σ := σ) R.1.up R.2.1 rfl (A'.tr R.2.2.1) S') B'
theorem MX_tell (n : Nat) (σ : xZ) (F v : xS) (R : MR n σ F v) (x : Int32) {K : xKo} (h : mKy n (g_tell x σ.1, σ.2) (f_tell x σ.1) F K) : C_M_tell [.ref 0, .int x] (xfill F v 0 (wM0 0)) K := by
  refine ms_tell n F v R.J R.2.2.2 x (fun F' v' S' B' A' => ?_)
  rw [show f_tell x (mA F v) = f_tell x σ.1 from pf_tell R.2.2.1 x] at B' ⊢
  exact h F' v' (MR.st (pi_tell R.1 x).up (zi_tell R.2.1 x) (gi_tell x σ.1) (A'.tr (pg_tell R.2.2.1 R.J x)) S') B'
theorem MX_voice (n : Nat) (σ : xZ) (F v : xS) (R : MR n σ F v) (c : Int32) (a : Int32) (x : Int32) {K : xKo} (h : mKy n (g_voice c a x σ.1, σ.2) (f_voice c a x σ.1) F K) : C_M_voice [.ref 0, .int c, .int a, .int x] (xfill F v 0 (wM0 0)) K := by
  refine ms_voice n F v R.J R.2.2.2 c a x (fun F' v' S' B' A' => ?_)
  rw [show f_voice c a x (mA F v) = f_voice c a x σ.1 from pf_voice R.2.2.1 R.J c a x] at B' ⊢
  exact h F' v' (MR.st (pi_voice R.1 c a x).up (zi_voice R.2.1 c a x) (gi_voice c a x σ.1) (A'.tr (pg_voice R.2.2.1 R.J c a x)) S') B'
theorem MX_sheet (n : Nat) (σ : xZ) (F v : xS) (R : MR n σ F v) (s : Int32) (b : Int32) (m : Int32) {K : xKo} (h : mKy n (g_sheet s b m σ.1, σ.2) (f_sheet s b m σ.1) F K) : C_M_sheet [.ref 0, .int s, .int b, .int m] (xfill F v 0 (wM0 0)) K := by
  refine ms_sheet n F v R.J R.2.2.2 s b m (fun F' v' S' B' A' => ?_)
  rw [show f_sheet s b m (mA F v) = f_sheet s b m σ.1 from pf_sheet s b m] at B' ⊢
  exact h F' v' (MR.st (pi_sheet R.1 s b m).up (zi_sheet R.2.1 s b m) (gi_sheet s b m σ.1) (A'.tr (pg_sheet R.2.2.1 s b m)) S') B'
theorem MX_put (n : Nat) (σ : xZ) (F v : xS) (R : MR n σ F v) (s : Int32) (i : Int32) (x : Int32) {K : xKo} (h : mKy n (g_put s i x σ.1, σ.2) (f_put s i x σ.1) F K) : C_M_put [.ref 0, .int s, .int i, .int x] (xfill F v 0 (wM0 0)) K := by
  refine ms_put n F v R.J R.2.2.2 s i x (fun F' v' S' B' A' => ?_)
  rw [show f_put s i x (mA F v) = f_put s i x σ.1 from pf_put R.2.2.1 s i x] at B' ⊢
  exact h F' v' (MR.st (pi_put R.1 s i x).up (zi_put R.2.1 s i x) (gi_put s i x σ.1) (A'.tr (pg_put R.2.2.1 s i x)) S') B'
theorem MX_move (n : Nat) (σ : xZ) (F v : xS) (R : MR n σ F v) (s : Int32) (i : Int32) (d : Int32) (j : Int32) (m : Int32) {K : xKo} (h : mKy n (g_move s i d j m σ.1, σ.2) (f_move s i d j m σ.1) F K) : C_M_move [.ref 0, .int s, .int i, .int d, .int j, .int m] (xfill F v 0 (wM0 0)) K := by
  refine ms_move n F v R.J R.2.2.2 s i d j m (fun F' v' S' B' A' => ?_)
  rw [show f_move s i d j m (mA F v) = f_move s i d j m σ.1 from pf_move R.2.2.1 s i d j m] at B' ⊢
  exact h F' v' (MR.st (pi_move R.1 s i d j m).up (zi_move R.2.1 s i d j m) (gi_move s i d j m σ.1) (A'.tr (pg_move R.2.2.1 R.J s i d j m)) S') B'
theorem MX_judge (n : Nat) (σ : xZ) (F v : xS) (R : MR n σ F v) (s : Int32) {K : xKo} (h : ∀ r F' v', MR (n + 1) σ F' v' → F' 5 = bmT (kd_judge s σ.1) (F 5) → K (some (.int r)) (xfill F' v' 0 (wM0 0))) : C_M_judge [.ref 0, .int s] (xfill F v 0 (wM0 0)) K := by
  refine ms_judge n F v R.J R.2.2.2 s (fun r F' v' S' B' A' => ?_)
  rw [kd_eq (s := s) R.2.2.1] at B'
  exact h r F' v' (MR.st (σ := σ) R.1.up R.2.1 rfl (A'.tr R.2.2.1) S') B'
end
section
/-! ===== the reference: small methods, exactly ===== -/
theorem mXr.of {f g : xRw} {X : xXt} (h : mXr f X) (e : ∀ j, exi j = true → g j = f j) : mXr g X := by
  refine ⟨fun j hj => ?_, (e 8 rfl).trans h.2.1, h.2.2.1.of (by decide) (e 6 rfl) (fun k a l => e k (exi_of (Or.inr (Or.inr (Or.inr (Or.inr ⟨a, l⟩)))))), h.2.2.2.of (by decide) (e 7 rfl) (fun k a l => e k (exi_of (Or.inr (Or.inr (Or.inr (Or.inr ⟨a, l⟩))))))⟩
  rw [e _ (exi_of (Or.inr (Or.inr (Or.inr (Or.inl ⟨by omega, by omega, by omega⟩))))), e _ (exi_of (Or.inr (Or.inr (Or.inr (Or.inl ⟨by omega, by omega, by omega⟩))))), e _ (exi_of (Or.inr (Or.inr (Or.inr (Or.inl ⟨by omega, by omega, by omega⟩)))))]
  exact h.1 j hj
/-- the reference's own ranges, and what is told, of a new state -/
theorem MR.mS {n : Nat} {σ σ' : xZ} {F v F' v' : xS} (R : MR n σ F v) (h6 : (F' 1 6).toInt ≤ 50 ∧ (F' 1 7).toInt ≤ 50) (h2 : F' 2 = F 2) (hv : v' 0 4 = v 0 4 ∧ v' 0 5 = v 0 5 ∧ v' 0 15 = v 0 15) (h8 : F' 6 = F 6 ∧ F' 8 = F 8) (Z : mXr (F' 1) σ'.2.1) (e : σ'.1.2.2 6 0 = σ.1.2.2 6 0) (e2 : σ'.2.2 = σ.2.2) : mS (mZ σ') F' v' := by
  have S := R.2.2.2
  refine ⟨h6, ⟨by rw [h2]; exact S.2.1.1, mXr.row.mpr Z, ?_⟩, ?_, ?_, ?_⟩
  · rw [e, e2]
    show ¬ σ.1.2.2 6 0 = 0 → mXr (fun j => if exi j then F' 2 j else 0) σ.2.2
    rw [h2]
    exact R.z.2
  · rw [hv.1, hv.2.1]; exact S.2.2.1
  · rw [hv.2.2]; exact S.2.2.2.1
  · rw [h8.1, h8.2]; exact S.2.2.2.2
/-- a step that changes what is told now, not the street's tables -/
theorem MR.tell {n : Nat} {σ : xZ} {F v F' v' : xS} {X' : xXt} (R : MR n σ F v) (E : mR r1 F v F' v') (Z : mXr (F' 1) X') (Q : cIv σ.1.1 X' ∧ out0 σ.1.1 X') : MR (n + 1) (σ.1, X', σ.2.2) F' v' := by
  have S := R.2.2.2
  refine ⟨R.1.up, ⟨Q, R.2.1.2⟩, (E.agr ok_r1 R.J rfl rfl).tr R.2.2.1, R.mS (σ' := (σ.1, X', σ.2.2)) ⟨?_, ?_⟩ (E.k ⟨by decide, by decide, by decide, by decide⟩) ⟨E.v (by omega), E.v (by omega), E.v (by omega)⟩ ⟨E.k ⟨by decide, by decide, by decide, by decide⟩, E.k ⟨by decide, by decide, by decide, by decide⟩⟩ Z rfl rfl⟩
  · rw [E.2.1 6 (by omega) rfl]; exact S.1.1
  · rw [E.2.1 7 (by omega) rfl]; exact S.1.2
theorem eS0 {n : Nat} {σ : xZ} {F v : xS} (R : MR n σ F v) (s : xS) : sm (v 0 15) s = s := by rw [R.tk, sm_0]
set_option maxRecDepth 100000 in
theorem MX_law (n : Nat) (σ : xZ) (F v : xS) (R : MR n σ F v) (u a b c : Int32) {K : xKo} (h : mK n σ (z_law u a b c σ) F K) : C_M_law [.ref 0, .int u, .int a, .int b, .int c] (xfill F v 0 (wM0 0)) K := by
  refine xM_go rfl 100 [] fun P hP => ?_
  refine xcall (sp_inx _ 1 2 (by decide) (fun a1 => ?_) (fun a1 => ?_))
  · refine br_c (fun _ => ?_) (fun z => absurd rfl z)
    refine xcall (sp_errM F v (-1000000001) 1 (by decide) (by decide) ?_)
    exact R.err h (if_neg a1)
  refine br_c (fun z => absurd z (by decide)) (fun _ => ?_)
  have ef : z_law u a b c σ = (σ.2.1.2.2 (nat u) a b c, 0) := if_pos a1
  obtain ⟨j, hj, rfl, ej⟩ := nI_ofx u (n := 2) a1 (by decide)
  rw [ej] at ef
  have LM : mLw (F 1) j (σ.2.1.2.2 j) := by
    rcases (show j = 0 ∨ j = 1 by omega) with z | z
    all_goals subst z
    · exact R.t.2.2.2.2.1
    · exact R.t.2.2.2.2.2
  refine xcall (sx_lawOf F v j (by omega) (nI j) rfl (σ.2.1.2.2 j) LM a b c (fun v' E => ?_))
  exact R.go h (mR.vr E) ef
set_option maxRecDepth 100000 in
theorem MX_hadBy (n : Nat) (σ : xZ) (F v : xS) (R : MR n σ F v) (m s : Int32) {K : xKo} (h : mK n σ (z_hadBy m s σ) F K) : C_M_hadBy [.ref 0, .int m, .int s] (xfill F v 0 (wM0 0)) K := by
  refine xM_go rfl 200 [] fun P hP => ?_
  refine xcall (sp_isMark _ (fun a1 => ?_) (fun a1 => ?_))
  · refine br_c (fun _ => ?_) (fun z => absurd rfl z)
    refine xcall (sp_errM F v (-1000000001) 1 (by decide) (by decide) ?_)
    exact R.err h (if_neg fun z => a1 z.1)
  refine br_c (fun z => absurd z (by decide)) (fun _ => ?_)
  refine xcall (sp_areSteps _ (fun a2 => ?_) (fun a2 => ?_))
  · refine br_c (fun _ => ?_) (fun z => absurd rfl z)
    refine xcall (sp_errM F v (-1000000001) 1 (by decide) (by decide) ?_)
    exact R.err h (if_neg fun z => a2 z.2)
  refine br_c (fun z => absurd z (by decide)) (fun _ => ?_)
  have ef : z_hadBy m s σ = (eSet σ.1.1 σ.2.1 m s, 0) := if_pos ⟨a1, a2⟩
  obtain ⟨u, hu, rfl, -⟩ := nI_ofx s (n := 10) a2 (by decide)
  refine xcall (sx_wouldBe F v σ.1.1 σ.2.1 R.t R.c m u (by omega) (fun F' v' E => ?_))
  rw [eS0 R]
  exact R.go h E ef
set_option maxRecDepth 100000 in
theorem MX_runsTo (n : Nat) (σ : xZ) (F v : xS) (R : MR n σ F v) (c m s : Int32) {K : xKo} (h : mK n σ (z_runsTo c m s σ) F K) : C_M_runsTo [.ref 0, .int c, .int m, .int s] (xfill F v 0 (wM0 0)) K := by
  refine xM_go rfl 200 [] fun P hP => ?_
  refine xcall (sp_isChildM F v _ R.J.1.1.2.1 (fun a1 => ?_) (fun a1 => ?_))
  · rw [R.n1.2.1] at a1
    refine br_c (fun _ => ?_) (fun z => absurd rfl z)
    refine xcall (sp_errM F v (-1000000001) 1 (by decide) (by decide) ?_)
    exact R.err h (if_neg fun z => a1 z.1)
  rw [R.n1.2.1] at a1
  refine br_c (fun z => absurd z (by decide)) (fun _ => ?_)
  refine xcall (sp_isMark _ (fun a2 => ?_) (fun a2 => ?_))
  · refine br_c (fun _ => ?_) (fun z => absurd rfl z)
    refine xcall (sp_errM F v (-1000000001) 1 (by decide) (by decide) ?_)
    exact R.err h (if_neg fun z => a2 z.2.1)
  refine br_c (fun z => absurd z (by decide)) (fun _ => ?_)
  refine xcall (sp_areSteps _ (fun a3 => ?_) (fun a3 => ?_))
  · refine br_c (fun _ => ?_) (fun z => absurd rfl z)
    refine xcall (sp_errM F v (-1000000001) 1 (by decide) (by decide) ?_)
    exact R.err h (if_neg fun z => a3 z.2.2)
  refine br_c (fun z => absurd z (by decide)) (fun _ => ?_)
  have ef : z_runsTo c m s σ = (eEnd σ.1.1 σ.2.1 m s (nat c), 0) := if_pos ⟨a1, a2, a3⟩
  obtain ⟨u, hu, rfl, -⟩ := nI_ofx s (n := 10) a3 (by decide)
  obtain ⟨i, hi, rfl, ei, li⟩ := xin_ex R.c.1.2 (by omega) a1
  rw [ei] at ef
  refine xcall (sx_ends F v σ.1.1 σ.2.1 R.t R.c i li m u (by omega) (fun v' E => ?_))
  rw [eS0 R]
  exact R.go h (mR.vr E) ef
set_option maxRecDepth 100000 in
theorem MX_ofChild (n : Nat) (σ : xZ) (F v : xS) (R : MR n σ F v) (c w : Int32) {K : xKo} (h : mK n σ (z_ofChild c w σ) F K) : C_M_ofChild [.ref 0, .int c, .int w] (xfill F v 0 (wM0 0)) K := by
  have T := R.t
  refine xM_go rfl 100 [] fun P hP => ?_
  refine xcall (sp_isChildM F v _ R.J.1.1.2.1 (fun a1 => ?_) (fun a1 => ?_))
  · rw [R.n1.2.1] at a1
    refine br_c (fun _ => ?_) (fun z => absurd rfl z)
    refine xcall (sp_errM F v (-1000000001) 1 (by decide) (by decide) ?_)
    exact R.err h (if_neg a1)
  rw [R.n1.2.1] at a1
  unfold z_ofChild at h
  rw [if_pos a1] at h
  refine br_c (fun z => absurd z (by decide)) (fun _ => ?_)
  refine xcall (sp_inx _ 6 7 (by decide) (fun a2 => ?_) (fun a2 => ?_))
  · refine br_n (fun z => absurd rfl z) (fun _ => ?_)
    refine xcall (sp_errM F v (-1000000001) 1 (by decide) (by decide) ?_)
    have ne : ∀ j : Nat, j < 7 → ¬ w = nI j := fun j hj e => a2 (by rw [e]; exact ⟨by rw [nI_toInt (by omega)]; omega, by rw [nI_toInt (by omega)]; omega⟩)
    exact R.err h ((if_neg (ne 0 (by omega))).trans ((if_neg (ne 1 (by omega))).trans ((if_neg (ne 2 (by omega))).trans ((if_neg (ne 3 (by omega))).trans ((if_neg (ne 4 (by omega))).trans ((if_neg (ne 5 (by omega))).trans (if_neg (ne 6 (by omega)))))))))
  refine br_n (fun _ => ?_) (fun z => absurd z (by decide))
  obtain ⟨k, hk, rfl, ek, lt⟩ := xin_ex R.c.1.2 (by omega) a1
  have k7 : k < 7 := by have := bel_nat R.c.1.2 (by omega); omega
  rw [ek] at h
  obtain ⟨j, hj, rfl, ej⟩ := nI_ofx w (n := 7) a2 (by decide)
  obtain ⟨t0, t1⟩ := T.2.2.1 k lt
  obtain ⟨t2, t3, t4⟩ := T.2.2.2.1 k k7
  refine br_c (fun z => ?_) (fun z => ?_)
  · have z : nI 5 ≤ nI j := z
    rw [nI_leI (by omega) (by omega)] at z
    refine br_n (fun y => ?_) (fun y => ?_)
    · have y : ¬ nI j = nI 5 := y
      have j6 : j = 6 := by
        have : ¬ j = 5 := fun e => y (by rw [e])
        omega
      subst j6
      refine xcall (sx_farM F v σ.1.1 σ.2.1 T k lt k7 ?_)
      exact R.id h ((if_neg (by decide)).trans ((if_neg (by decide)).trans ((if_neg (by decide)).trans ((if_neg (by decide)).trans ((if_neg (by decide)).trans ((if_neg (by decide)).trans (if_pos rfl)))))))
    · have y : nI j = nI 5 := y
      have j5 : j = 5 := (nI_eq (by omega) (by omega)).mp y
      subst j5
      refine xcall (sx_paceM F v σ.1.1 σ.2.1 T R.c.hit k lt k7 ?_)
      exact R.id h ((if_neg (by decide)).trans ((if_neg (by decide)).trans ((if_neg (by decide)).trans ((if_neg (by decide)).trans ((if_neg (by decide)).trans (if_pos rfl))))))
  · have z : ¬ nI 5 ≤ nI j := z
    rw [nI_leI (by omega) (by omega)] at z
    rcases (show j = 0 ∨ j = 1 ∨ j = 2 ∨ j = 3 ∨ j = 4 by omega) with e | e | e | e | e
    all_goals subst e
    · exact xcall (sx_its F v k 0 k7 (by omega) _ rfl (σ.1.1 2 k) t0 (R.id h (if_pos rfl)))
    · exact xcall (sx_its F v k 1 k7 (by omega) _ rfl (σ.1.1 3 k) t1 (R.id h ((if_neg (by decide)).trans (if_pos rfl))))
    · exact xcall (sx_its F v k 2 k7 (by omega) _ rfl (σ.2.1.1 0 k) t2 (R.id h ((if_neg (by decide)).trans ((if_neg (by decide)).trans (if_pos rfl)))))
    · exact xcall (sx_its F v k 3 k7 (by omega) _ rfl (σ.2.1.1 1 k) t3 (R.id h ((if_neg (by decide)).trans ((if_neg (by decide)).trans ((if_neg (by decide)).trans (if_pos rfl))))))
    · exact xcall (sx_its F v k 4 k7 (by omega) _ rfl (σ.2.1.1 2 k) t4 (R.id h ((if_neg (by decide)).trans ((if_neg (by decide)).trans ((if_neg (by decide)).trans ((if_neg (by decide)).trans (if_pos rfl)))))))
theorem sx_sumOf (F v : xS) (m : Nat) (hm : m ≤ 7) (em : F 1 2 = nI m) (w : Nat) (hw : w < 5) {K : xKo} (h : K (some (.int (sumV (fun j => F 1 (25 + 5 * j + w)) m))) (xfill F v 0 (wM0 0))) : C_M_sumOf [.ref 0, .int (nI w)] (xfill F v 0 (wM0 0)) K := by
  have key : ∀ (d i : Nat), i + d = m → xWP pg_M_sumOf K 4 [(0, .ref 0), (1, .int (nI w)), (2, .int (sumV (fun j => F 1 (25 + 5 * j + w)) i)), (3, .int (nI i))] [] (xfill F v 0 (wM0 0)) (0, 0) := by
    intro d
    induction d with
    | zero =>
      intro i hi
      have hi : i = m := hi
      subst hi
      refine xWP_go 100 [(4, [0, 1, 2, 3])] fun P hP => ?_
      refine ⟨vin (by decide), ?_⟩
      refine br_c (fun _ => h) (fun z => ?_)
      have z : ¬ F 1 2 ≤ nI i := z
      rw [em, nI_leI (by omega) (by omega)] at z
      omega
    | succ d ih =>
      intro i hi
      refine xWP_go 100 [(4, [0, 1, 2, 3])] fun P hP => ?_
      refine ⟨vin (by decide), ?_⟩
      refine br_c (fun z => ?_) (fun _ => ?_)
      · have z : F 1 2 ≤ nI i := z
        rw [em, nI_leI (by omega) (by omega)] at z
        omega
      refine xcall (sx_its F v i w (by omega) hw _ rfl (F 1 (25 + 5 * i + w)) rfl ?_)
      refine hP _ _ _ _ _ ?_
      rw [nI_1]
      exact ih (i + 1) (by omega)
  refine xM_go rfl 100 [(4, [0, 1, 2, 3])] fun P hP => ?_
  refine hP _ _ _ _ _ ?_
  exact key m 0 (by omega)
set_option maxRecDepth 100000 in
theorem MX_count (n : Nat) (σ : xZ) (F v : xS) (R : MR n σ F v) (w : Int32) {K : xKo} (h : mK n σ (z_count w σ) F K) : C_M_count [.ref 0, .int w] (xfill F v 0 (wM0 0)) K := by
  obtain ⟨c, hc, e⟩ : below 7 (σ.1.1 6 1) := R.c.1.2
  have ec : nat (σ.1.1 6 1) = c := by rw [e]; exact nI_clamp (by omega)
  obtain ⟨n3, n2, n0, n1, n4, n5⟩ := R.n1
  have T := R.t
  unfold z_count at h
  rw [ec] at h
  refine xM_go rfl 100 [] fun P hP => ?_
  refine ⟨fun z => ⟨vin (by decide), ?_⟩, fun q0 => ?_⟩
  · rw [if_pos z] at h; exact R.id h (an_ n3.symm)
  rw [if_neg q0] at h
  refine ⟨fun z => ⟨vin (by decide), ?_⟩, fun q1 => ?_⟩
  · rw [if_pos z] at h; exact R.id h (an_ n2.symm)
  rw [if_neg q1] at h
  refine ⟨fun z => ⟨vin (by decide), ?_⟩, fun q2 => ?_⟩
  · rw [if_pos z] at h; exact R.id h (an_ n0.symm)
  rw [if_neg q2] at h
  refine ⟨fun z => ⟨vin (by decide), ?_⟩, fun q3 => ?_⟩
  · rw [if_pos z] at h; exact R.id h (an_ T.1.2.2.2.symm)
  rw [if_neg q3] at h
  refine ⟨fun z => xcall (sx_sumOf F v c hc (n2.trans e) 3 (by omega) ?_), fun q4 => ?_⟩
  · rw [if_pos z] at h
    exact R.id h (an_ (sumV_congr fun j hj => (T.2.2.2.1 j (by omega)).2.1.symm))
  rw [if_neg q4] at h
  refine ⟨fun z => xcall (sx_sumOf F v c hc (n2.trans e) 4 (by omega) ?_), fun q5 => ?_⟩
  · rw [if_pos z] at h
    exact R.id h (an_ (sumV_congr fun j hj => (T.2.2.2.1 j (by omega)).2.2.symm))
  rw [if_neg q5] at h
  refine ⟨fun z => ⟨vin (by decide), ?_⟩, fun q6 => ?_⟩
  · rw [if_pos z] at h; exact R.id h (an_ n4.symm)
  rw [if_neg q6] at h
  refine ⟨fun z => ⟨vin (by decide), ?_⟩, fun q7 => ?_⟩
  · rw [if_pos z] at h; exact R.id h (an_ n5.symm)
  rw [if_neg q7] at h
  refine ⟨fun z => ?_, fun q8 => ?_⟩
  · rw [if_pos z] at h; exact R.id h (an_ R.2.2.1.2.1.2.2.1.2.symm)
  rw [if_neg q8] at h
  refine ⟨fun z => ⟨vin (by decide), ?_⟩, fun q9 => ?_⟩
  · rw [if_pos z] at h; exact R.id h (an_ n1.symm)
  rw [if_neg q9] at h
  refine xcall (sp_errM F v (-1000000001) 1 (by decide) (by decide) ?_)
  exact R.err h rfl
set_option maxRecDepth 100000 in
theorem MX_told (n : Nat) (σ : xZ) (F v : xS) (R : MR n σ F v) (i : Int32) {K : xKo} (h : mK n σ (z_told i (F 5)) F K) : C_M_told [.ref 0, .int i] (xfill F v 0 (wM0 0)) K := by
  refine xM_go rfl 100 [] fun P hP => ?_
  refine xcall (sp_in _ _ _ (fun a => ?_) (fun a => ?_))
  · rw [show (1 : Int32).toInt = 1 by decide, show (5 : Int32).toInt = 5 by decide] at a
    refine br_c (fun _ => ?_) (fun z => absurd rfl z)
    refine xcall (sp_errM F v (-1000000001) 1 (by decide) (by decide) ?_)
    exact R.err h (if_neg a)
  · rw [show (1 : Int32).toInt = 1 by decide, show (5 : Int32).toInt = 5 by decide] at a
    refine br_c (fun z => absurd z (by decide)) (fun _ => ?_)
    refine ⟨vin (by omega), ?_⟩
    exact R.id h (if_pos a)
set_option maxRecDepth 100000 in
theorem MX_it (n : Nat) (σ : xZ) (F v : xS) (R : MR n σ F v) (c : Int32) {K : xKo} (h : mKy n (y_it c σ) (z_it c σ) F K) : C_M_it [.ref 0, .int c] (xfill F v 0 (wM0 0)) K := by
  have Z := mXr.row.mp R.z.1
  have n8 : Int32.toNatClampNeg 8 = 8 := by decide
  have go : (c = -1 ∨ xin c (σ.1.1 6 1).toInt) → K (some (.int (F 1 (Int32.toNatClampNeg 8)))) (xfill (va_up F 1 (upd (F 1) (Int32.toNatClampNeg 8) c)) v 0 (wM0 0)) := by
    intro ok
    have e8 : F 1 8 = σ.2.1.2.1 := R.t.1.2.2.2
    unfold y_it z_it at h
    rw [if_pos ok, if_pos ok, ← e8] at h
    rw [n8]
    have f1 : ∀ j, ¬ j = 8 → va_up F 1 (upd (F 1) 8 c) 1 j = F 1 j := fun j hj => pk_un hj
    have f8 : va_up F 1 (upd (F 1) 8 c) 1 8 = c := (show upd (F 1) 8 c 8 = c from pk_us)
    refine h _ _ (R.tell (F' := va_up F 1 (upd (F 1) 8 c)) (v' := v) (mR.rf.row rfl) ⟨fun j hj => ?_, f8, ?_, ?_⟩ ?_) bm_0.symm
    · rw [f1 _ (by omega), f1 _ (by omega), f1 _ (by omega)]
      exact Z.1 j hj
    · exact Z.2.2.1.of (by decide) (f1 _ (by decide)) (fun k a l => f1 k (by omega))
    · exact Z.2.2.2.of (by decide) (f1 _ (by decide)) (fun k a l => f1 k (by omega))
    obtain ⟨⟨⟨a, b, d, e, f, g⟩, o⟩, -⟩ := R.2.1
    refine ⟨⟨a, b, d, e, f, ?_⟩, o⟩
    rcases ok with z | z
    · exact Or.inl z
    · obtain ⟨i, hi, e1, ei, li⟩ := xin_ex R.c.1.2 (by omega) z
      exact Or.inr ⟨i, li, e1⟩
  refine xM_go rfl 100 [] fun P hP => ?_
  refine br_c (fun a1 => ?_) (fun a1 => ?_)
  · refine xcall (sp_becomesM F v 8 c (vin (by decide)) ?_)
    exact go (Or.inl a1)
  refine xcall (sp_isChildM F v _ R.J.1.1.2.1 (fun a2 => ?_) (fun a2 => ?_))
  · rw [R.n1.2.1] at a2
    refine br_c (fun _ => ?_) (fun z => absurd rfl z)
    refine xcall (sp_errM F v (-1000000001) 1 (by decide) (by decide) ?_)
    exact R.no h (if_neg fun z => z.elim a1 a2) (if_neg fun z => z.elim a1 a2)
  · rw [R.n1.2.1] at a2
    refine br_c (fun z => absurd z (by decide)) (fun _ => ?_)
    refine xcall (sp_becomesM F v 8 c (vin (by decide)) ?_)
    exact go (Or.inr a2)
set_option maxRecDepth 100000 in
theorem MX_change (n : Nat) (σ : xZ) (F v : xS) (R : MR n σ F v) (c w x : Int32) {K : xKo} (h : mKy n (y_change c w x σ) (z_change c w x σ) F K) : C_M_change [.ref 0, .int c, .int w, .int x] (xfill F v 0 (wM0 0)) K := by
  have T := R.t
  have go : ∀ s : Int32, (s = 0 ∧ ¬ (xin w 3 ∧ xin x (if w = 0 then 12 else 1000)) ∨ s = 1 ∧ (xin w 3 ∧ xin x (if w = 0 then 12 else 1000))) → xWP pg_M_change K 36 [(0, .ref 0), (1, .int c), (2, .int w), (3, .int x)] [.int s] (xfill F v 0 (wM0 0)) (0, 0) := by
    intro s hs
    refine xWP_go 100 [] fun P hP => ?_
    refine xcall (sp_isChildM F v _ R.J.1.1.2.1 (fun a3 => ?_) (fun a3 => ?_))
    · rw [R.n1.2.1] at a3
      refine br_c (fun _ => ?_) (fun z => absurd rfl z)
      refine xcall (sp_errM F v (-1000000001) 1 (by decide) (by decide) ?_)
      exact R.no h (if_neg fun z => a3 z.1.1) (if_neg fun z => a3 z.1.1)
    rw [R.n1.2.1] at a3
    refine br_c (fun z => absurd z (by decide)) (fun _ => ?_)
    refine br_c (fun z => ?_) (fun z => ?_)
    · have z : s = 0 := z
      have no : ¬ (xin w 3 ∧ xin x (if w = 0 then 12 else 1000)) := by
        rcases hs with y | y
        · exact y.2
        · rw [y.1] at z; exact absurd z (by decide)
      refine xcall (sp_errM F v (-1000000001) 1 (by decide) (by decide) ?_)
      exact R.no h (if_neg fun z => no ⟨z.1.2, z.2⟩) (if_neg fun z => no ⟨z.1.2, z.2⟩)
    have z : ¬ s = 0 := z
    have yes : xin w 3 ∧ xin x (if w = 0 then 12 else 1000) := by
      rcases hs with y | y
      · exact absurd y.1 z
      · exact y.2
    have ok : chOk c w x σ := ⟨⟨a3, yes.1⟩, yes.2⟩
    unfold y_change z_change at h
    rw [if_pos ok, if_pos ok] at h
    obtain ⟨i, hi, rfl, ei, li⟩ := xin_ex R.c.1.2 (by omega) a3
    have i7 : i < 7 := by have := bel_nat R.c.1.2 (by omega); omega
    obtain ⟨j, hj, ew, ej⟩ := nI_ofx w (n := 3) yes.1 (by decide)
    rw [ej, ei] at h
    have hk : (j = 0 ∧ below 11 x) ∨ ((j = 1 ∨ j = 2) ∧ below 999 x) := by
      by_cases j0 : j = 0
      · have y := yes.2
        rw [if_pos (show w = 0 by rw [ew, j0]; rfl)] at y
        exact Or.inl ⟨j0, b11 y⟩
      · have y := yes.2
        rw [if_neg (fun e => j0 (by
          have q : nI j = nI 0 := ew.symm.trans e
          exact (nI_eq (by omega) (by omega)).mp q))] at y
        exact Or.inr ⟨by omega, b999 y⟩
    have ee : (25 : Int32) + 5 * nI i + 2 + w = nI (25 + 5 * i + (j + 2)) := by
      rw [ew, ix25, show (2 : Int32) = nI 2 from rfl, nI_add, nI_add, Nat.add_assoc, Nat.add_comm 2 j]
    have b : vp_in ((25 : Int32) + 5 * nI i + 2 + w) 230 := by rw [ee]; exact vp_in_nI (by omega) (by omega)
    have nn : Int32.toNatClampNeg ((25 : Int32) + 5 * nI i + 2 + w) = 25 + 5 * i + (j + 2) := by rw [ee]; exact nI_clamp (by omega)
    have wr : F 1 (Int32.toNatClampNeg ((25 : Int32) + 5 * nI i + 2 + w)) = σ.2.1.1 j i := by
      rw [nn]
      obtain ⟨t2, t3, t4⟩ := T.2.2.2.1 i i7
      rcases (show j = 0 ∨ j = 1 ∨ j = 2 by omega) with z | z | z
      all_goals subst z
      · exact t2
      · exact t3
      · exact t4
    refine xcall (sp_becomesM F v _ x b ?_)
    have q := h (va_up F 1 (upd (F 1) (25 + 5 * i + (j + 2)) x)) v (R.tell (mR.rf.row ?_) ?_ ⟨R.c.ch li hk, out0.ch R.2.1.1.2 li⟩) bm_0.symm
    · rw [← wr, ← nn] at q
      exact q
    · have rr := r1_at (i := i) (w := j + 2) i7 (by omega) (by omega)
      rw [nc5 (by omega) (by omega)] at rr
      exact rr
    · have TU := T.up (X' := (va_up σ.2.1.1 j (upd (σ.2.1.1 j) i x), σ.2.1.2)) (i := i) (w := j + 2) R.c.1.1 R.c.1.2 i7 ⟨by omega, by omega⟩ x rfl (fun k l hk hl => by
        show va_up σ.2.1.1 j (upd (σ.2.1.1 j) i x) k l = _
        by_cases e : k = j
        · subst e
          by_cases e2 : l = i
          · subst e2
            rw [if_pos ⟨rfl, rfl⟩]
            exact (congrFun (if_pos rfl) l).trans pk_us
          · rw [if_neg (fun z => e2 z.2)]
            exact (congrFun (if_pos rfl) l).trans (pk_un e2)
        · rw [if_neg (fun z => e (by omega))]
          exact congrFun (if_neg e) l)
      exact ⟨TU.2.2.2.1, TU.1.2.2.2, TU.2.2.2.2⟩
  refine xM_go rfl 100 [(36, [0, 1, 2, 3])] fun P hP => ?_
  have i3 : (3 : Int) = 3 := rfl
  refine br_n (fun w0 => ?_) (fun w0 => ?_)
  · have w0 : ¬ w = 0 := w0
    refine xcall (sp_in _ _ _ (fun a => ?_) (fun a => ?_))
    · have a : ¬ ((1 : Int32).toInt ≤ w.toInt ∧ w.toInt ≤ (2 : Int32).toInt) := a
      rw [show (1 : Int32).toInt = 1 by decide, show (2 : Int32).toInt = 2 by decide] at a
      refine br_c (fun _ => ?_) (fun z => absurd rfl z)
      refine hP _ _ _ _ _ (go 0 (Or.inl ⟨rfl, fun z => a ?_⟩))
      have y := z.1
      have n0 : ¬ w.toInt = 0 := fun e => w0 (Int32.toInt_inj.mp (by rw [e]; decide))
      simp only [xin] at y
      omega
    · have a : (1 : Int32).toInt ≤ w.toInt ∧ w.toInt ≤ (2 : Int32).toInt := a
      rw [show (1 : Int32).toInt = 1 by decide, show (2 : Int32).toInt = 2 by decide] at a
      refine br_c (fun z => absurd z (by decide)) (fun _ => ?_)
      refine xcall (sp_inx _ 999 1000 (by decide) (fun a2 => ?_) (fun a2 => ?_))
      · refine br_c (fun _ => ?_) (fun z => absurd rfl z)
        refine hP _ _ _ _ _ (go 0 (Or.inl ⟨rfl, fun z => ?_⟩))
        have y := z.2
        rw [if_neg w0] at y
        exact a2 y
      · refine br_c (fun z => absurd z (by decide)) (fun _ => ?_)
        refine hP _ _ _ _ _ (go 1 (Or.inr ⟨rfl, ⟨by omega, by omega⟩, by rw [if_neg w0]; exact a2⟩))
  · have w0 : w = 0 := w0
    refine xcall (sp_isCell _ (fun a => ?_) (fun a => ?_))
    · refine hP _ _ _ _ _ (go 0 (Or.inl ⟨rfl, fun z => ?_⟩))
      have y := z.2
      rw [if_pos w0] at y
      exact a y
    · refine hP _ _ _ _ _ (go 1 (Or.inr ⟨rfl, by rw [w0]; decide, by rw [if_pos w0]; exact a⟩))
end
section
/-! ===== the reference: what changes what is told, exactly ===== -/
set_option maxRecDepth 100000 in
theorem MX_child (n : Nat) (σ : xZ) (F v : xS) (R : MR n σ F v) (m c : Int32) {K : xKo} (h : mKy n (y_child m c σ) (f_child m c σ.1) F K) : C_M_child [.ref 0, .int m, .int c] (xfill F v 0 (wM0 0)) K := by
  have I := R.J
  have Z := mXr.row.mp R.z.1
  have b3 := bel_nat (show below 8 (F 1 3) from I.1.1.1) (by omega)
  have b2 := bel_nat (show below 7 (F 1 2) from I.1.1.2.1) (by omega)
  have b4 := bel_nat (show below 50 (F 1 4) from I.1.1.2.2.2.1) (by omega)
  have b5 := bel_nat (show below 20 (F 1 5) from I.1.1.2.2.2.2) (by omega)
  obtain ⟨k, hk, e⟩ : below 7 (F 1 2) := I.1.1.2.1
  have e2 : F 1 2 = σ.1.1 6 1 := R.n1.2.1
  have en : nat (F 1 2) = k := by rw [e]; exact nI_clamp (by omega)
  have e0 : F 1 (Int32.toNatClampNeg 2) = nI k := e
  have n2 : Int32.toNatClampNeg 2 = 2 := by decide
  have go : k < 7 → (xin m 70 ∧ xin c 12) → xWP pg_M_child K 49 [(0, .ref 0), (1, .int m), (2, .int c), (3, .int (nI k))] [] (xfill F v 0 (wM0 0)) (0, 0) := by
    intro k7 ok
    have c7 : nat (F 1 2) < 7 := by omega
    have okA : (xin m 70 ∧ xin c 12) ∧ nat (σ.1.1 6 1) < 7 := ⟨ok, by rw [← e2]; exact c7⟩
    unfold y_child at h
    rw [if_pos okA, show f_child m c σ.1 = (F 1 2, 0) from (if_pos ok).trans ((if_pos okA.2).trans (an_ e2.symm))] at h
    refine xWP_go 100 [] fun P hP => ?_
    refine ⟨by decide, ?_⟩
    refine xcall (sp_getsA F v (F 1) k 0 k7 (by omega) (m / 10) fun p1 p1n p1e => ?_)
    refine ⟨by decide, ?_⟩
    refine xcall (sp_getsA F v p1 k 1 k7 (by omega) (m - m / 10 * 10) fun p2 p2n p2e => ?_)
    refine xcall (sp_getsA F v p2 k 2 k7 (by omega) c fun p3 p3n p3e => ?_)
    refine xcall (sp_getsA F v p3 k 3 k7 (by omega) 0 fun p4 p4n p4e => ?_)
    refine xcall (sp_getsA F v p4 k 4 k7 (by omega) 0 fun p5 p5n p5e => ?_)
    refine ⟨vin (by decide), ?_⟩
    refine ⟨vin (by decide), ?_⟩
    have w : ∀ i, i < 25 + 5 * k ∨ 25 + 5 * k + 5 ≤ i → p5 i = F 1 i := by
      intro i hi
      rw [p5n i (by omega), p4n i (by omega), p3n i (by omega), p2n i (by omega), p1n i (by omega)]
    have w0 : p5 (25 + 5 * k + 0) = m / 10 := by
      rw [p5n _ (by omega), p4n _ (by omega), p3n _ (by omega), p2n _ (by omega), p1e]
    have w1 : p5 (25 + 5 * k + 1) = m - m / 10 * 10 := by
      rw [p5n _ (by omega), p4n _ (by omega), p3n _ (by omega), p2e]
    have w2 : p5 (25 + 5 * k + 2) = c := by
      rw [p5n _ (by omega), p4n _ (by omega), p3e]
    have w3 : p5 (25 + 5 * k + 3) = 0 := by
      rw [p5n _ (by omega), p4e]
    have fin : ∀ f, f = upd p5 2 (nI (k + 1)) → K (some (.int (nI k))) (xfill (va_up F 1 f) v 0 (wM0 0)) := by
      intro f ef
      have f1 : ∀ i, ¬ i = 2 → f i = p5 i := fun i hi => by rw [ef]; exact pk_un hi
      have f2 : f 2 = nI (k + 1) := by rw [ef]; exact pk_us
      have AG : agr (mA (va_up F 1 f) v) (g_child m c (mA F v)) := by
        rw [show g_child m c (mA F v) = _ from if_pos ⟨ok, c7⟩]
        refine mrow ⟨⟨(f1 3 (by omega)).trans (w 3 (by omega)), by show f 2 = F 1 2 + 1; rw [f2, e, nI_1], (f1 0 (by omega)).trans (w 0 (by omega)), (f1 1 (by omega)).trans (w 1 (by omega)), (f1 4 (by omega)).trans (w 4 (by omega)), (f1 5 (by omega)).trans (w 5 (by omega))⟩, fun j hj => ?_, fun j hj => ?_, fun j hj => ?_, fun j hj => ?_⟩
        · have hj : j < nat (f 3) := hj
          rw [f1 3 (by omega), w 3 (by omega)] at hj
          exact ⟨(f1 (9 + 2 * j) (by omega)).trans (w _ (by omega)), (f1 (9 + 2 * j + 1) (by omega)).trans (w _ (by omega))⟩
        · have hj : j < nat (f 2) := hj
          rw [f2, show nat (nI (k + 1)) = k + 1 from nI_clamp (by omega)] at hj
          show f (25 + 5 * j + 0) = upd (mSt (F 1) 2) (nat (F 1 2)) (m / 10) j ∧ f (25 + 5 * j + 1) = upd (mSt (F 1) 3) (nat (F 1 2)) (m - m / 10 * 10) j
          rw [en]
          by_cases jk : j = k
          · subst jk
            rw [pk_us, pk_us]
            exact ⟨(f1 _ (by omega)).trans w0, (f1 _ (by omega)).trans w1⟩
          · rw [pk_un jk, pk_un jk]
            exact ⟨(f1 _ (by omega)).trans (w _ (by omega)), (f1 _ (by omega)).trans (w _ (by omega))⟩
        · have hj : j < nat (f 4) := hj
          rw [f1 4 (by omega), w 4 (by omega)] at hj
          exact (f1 (60 + j) (by omega)).trans (w _ (by omega))
        · have hj : j < nat (f 5) := hj
          rw [f1 5 (by omega), w 5 (by omega)] at hj
          exact (f1 (110 + j) (by omega)).trans (w _ (by omega))
      have gk : (g_child m c σ.1).2 = σ.1.2 := by
        have q : g_child m c σ.1 = _ := if_pos okA
        rw [q]
      have CI := child_iv (X := σ.2.1) R.c R.2.1.1.2 okA
      have sk : nat (σ.1.1 6 1) = k := by rw [← e2]; exact en
      have q := h (va_up F 1 f) v ⟨(pi_child R.1 m c).up, ⟨CI, ?_⟩, AG.tr (pg_child R.2.2.1 I m c), R.mS ⟨?_, ?_⟩ rfl ⟨rfl, rfl, rfl⟩ ⟨rfl, rfl⟩ ⟨fun j hj => ?_, ?_, ?_, ?_⟩ ?_ rfl⟩ bm_0.symm
      · rw [e] at q
        exact q
      · show ¬ (g_child m c σ.1).2.2 6 0 = 0 → cIv (g_child m c σ.1).2.1 σ.2.2 ∧ out0 (g_child m c σ.1).2.1 σ.2.2
        rw [gk]
        exact R.2.1.2
      · show (f 6).toInt ≤ 50
        rw [f1 6 (by omega), w 6 (by omega)]; exact R.2.2.2.1.1
      · show (f 7).toInt ≤ 50
        rw [f1 7 (by omega), w 7 (by omega)]; exact R.2.2.2.1.2
      · show f (25 + 5 * j + 2) = upd (σ.2.1.1 0) (nat (σ.1.1 6 1)) c j ∧ f (25 + 5 * j + 3) = σ.2.1.1 1 j ∧ f (25 + 5 * j + 4) = σ.2.1.1 2 j
        rw [sk, f1 _ (by omega), f1 _ (by omega), f1 _ (by omega)]
        by_cases jk : j = k
        · subst jk
          obtain ⟨o1, o2⟩ := R.2.1.1.2 j (by omega) (by omega)
          rw [pk_us, o1, o2]
          exact ⟨w2, w3, p5e⟩
        · rw [pk_un jk, w _ (by omega), w _ (by omega), w _ (by omega)]
          exact Z.1 j hj
      · show f 8 = σ.2.1.2.1
        rw [f1 8 (by omega), w 8 (by omega)]; exact Z.2.1
      · exact Z.2.2.1.of (by decide) ((f1 _ (by omega)).trans (w _ (by omega))) (fun x a l => (f1 _ (by omega)).trans (w _ (by omega)))
      · exact Z.2.2.2.of (by decide) ((f1 _ (by omega)).trans (w _ (by omega))) (fun x a l => (f1 _ (by omega)).trans (w _ (by omega)))
      · show (g_child m c σ.1).2.2 6 0 = σ.1.2.2 6 0
        rw [gk]
    refine fin (upd p5 (Int32.toNatClampNeg 2) (p5 (Int32.toNatClampNeg 2) + 1)) ?_
    rw [n2, w 2 (by omega), e, nI_1]
  refine xM_go rfl 100 [(49, [0, 1, 2, 3])] fun P hP => ?_
  refine xcall (sp_inx _ 69 70 (by decide) (fun a1 => ?_) (fun a1 => ?_))
  · refine br_c (fun _ => ?_) (fun z => absurd rfl z)
    refine xcall (sp_errM F v (-1000000001) 1 (by decide) (by decide) ?_)
    exact R.no h (if_neg fun z => a1 z.1.1) (if_neg fun z => a1 z.1)
  refine br_c (fun z => absurd z (by decide)) (fun _ => ?_)
  refine xcall (sp_isCell _ (fun a2 => ?_) (fun a2 => ?_))
  · refine br_n (fun z => absurd rfl z) (fun _ => ?_)
    refine xcall (sp_errM F v (-1000000001) 1 (by decide) (by decide) ?_)
    exact R.no h (if_neg fun z => a2 z.1.2) (if_neg fun z => a2 z.2)
  refine br_n (fun _ => ?_) (fun z => absurd z (by decide))
  refine ⟨vin (by decide), ?_⟩
  refine br_n (fun a3 => ?_) (fun a3 => ?_)
  · have a3 : ¬ F 1 2 = nI 7 := a3
    have k7 : k < 7 := by
      have : ¬ k = 7 := fun z => a3 (by rw [e, z])
      omega
    refine ⟨vin (by decide), ?_⟩
    refine hP _ _ _ _ _ ?_
    rw [e0]
    exact go k7 ⟨a1, a2⟩
  · have a3 : F 1 2 = nI 7 := a3
    have c7 : ¬ nat (σ.1.1 6 1) < 7 := by rw [← e2, a3]; decide
    refine xcall (sp_errM F v (-1000000004) 4 (by decide) (by decide) ?_)
    exact R.no h (if_neg fun z => c7 z.2) ((if_pos ⟨a1, a2⟩).trans (if_neg c7))
set_option maxRecDepth 100000 in
theorem MX_check (n : Nat) (σ : xZ) (F v : xS) (R : MR n σ F v) {K : xKo} (h : mKy n (y_check σ) (z_check σ) F K) : C_M_check [.ref 0] (xfill F v 0 (wM0 0)) K := by
  have I := R.J
  have Z := mXr.row.mp R.z.1
  have T := R.t
  have b3 := bel_nat (show below 8 (F 1 3) from I.1.1.1) (by omega)
  have b2 := bel_nat (show below 7 (F 1 2) from I.1.1.2.1) (by omega)
  have b4 := bel_nat (show below 50 (F 1 4) from I.1.1.2.2.2.1) (by omega)
  have b5 := bel_nat (show below 20 (F 1 5) from I.1.1.2.2.2.2) (by omega)
  obtain ⟨q, hq, e⟩ : below 20 (F 1 5) := I.1.1.2.2.2.2
  have e0 : F 1 (Int32.toNatClampNeg 5) = nI q := e
  obtain ⟨c, hc, ec⟩ : below 7 (σ.1.1 6 1) := R.c.1.2
  have ecc : nat (σ.1.1 6 1) = c := by rw [ec]; exact nI_clamp (by omega)
  have e2 : F 1 2 = nI c := R.n1.2.1.trans ec
  have e16 : nat (σ.1.1 6 5) = q := by rw [← R.n1.2.2.2.2.2, e]; exact nI_clamp (by omega)
  have W : ∀ j, j < q → F 1 (110 + j) = σ.1.1 5 j := fun j hj => R.2.2.1.1.2.2.2.2 j (by show j < nat (F 1 5); rw [R.n1.2.2.2.2.2, e16]; exact hj)
  unfold z_check at h
  rw [ecc, e16] at h
  have fin : ∀ f, f = upd (F 1) 5 0 → ∀ r, r = chkL c (σ.1.1 5) (σ.2.1.1 1) q 0 → K (some (.int r)) (xfill (va_up F 1 f) v 0 (wM0 0)) := by
    intro f ef r er
    have f1 : ∀ i, ¬ i = 5 → f i = F 1 i := fun i hi => by rw [ef]; exact pk_un hi
    have f2 : f 5 = 0 := by rw [ef]; exact pk_us
    have AG : agr (mA (va_up F 1 f) v) (g_check (mA F v)) := by
      refine mrow ⟨⟨f1 3 (by omega), f1 2 (by omega), f1 0 (by omega), f1 1 (by omega), f1 4 (by omega), f2⟩, fun j hj => ⟨f1 _ (by omega), f1 _ (by omega)⟩, fun j hj => ⟨f1 _ (by omega), f1 _ (by omega)⟩, fun j hj => f1 _ (by omega), fun j hj => ?_⟩
      have hj : j < nat (f 5) := hj
      rw [f2] at hj
      exact absurd (show j < 0 from hj) (Nat.not_lt_zero j)
    rw [er]
    exact h (va_up F 1 f) v (MR.st (σ := σ) (pi_check R.1).up R.2.1 rfl (AG.tr (pg_check R.2.2.1)) (R.2.2.2.row fun j hj => f1 j (by have := exi_in hj; omega))) bm_0.symm
  have k55 : ∀ i : Nat, i < 21 → (if i = q then (0 : Int32) else 1 + nI i) = chkL c (σ.1.1 5) (σ.2.1.1 1) q 0 → xWP pg_M_check K 55 [(0, .ref 0), (1, .int (nI q)), (2, .int (nI i))] [] (xfill (va_up F 1 (upd (F 1) 5 0)) v 0 (wM0 0)) (0, 0) := by
    intro i hi hr
    refine xWP_go 100 [] fun P hP => ?_
    refine br_n (fun y => ?_) (fun y => ?_)
    · have y : ¬ nI i = nI q := y
      rw [if_neg (fun z => y (by rw [z]))] at hr
      exact fin _ rfl _ hr
    · have y : nI i = nI q := y
      rw [if_pos ((nI_eq (by omega) (by omega)).mp y)] at hr
      exact fin _ rfl _ hr
  have key : ∀ (d i : Nat), i + d = q → chkL c (σ.1.1 5) (σ.2.1.1 1) d i = chkL c (σ.1.1 5) (σ.2.1.1 1) q 0 → xWP pg_M_check K 16 [(0, .ref 0), (1, .int (nI q)), (2, .int (nI i))] [] (xfill (va_up F 1 (upd (F 1) 5 0)) v 0 (wM0 0)) (0, 0) := by
    intro d
    induction d with
    | zero =>
      intro i hi hr
      have hr : (0 : Int32) = chkL c (σ.1.1 5) (σ.2.1.1 1) q 0 := hr
      refine xWP_go 100 [(16, [0, 1, 2]), (55, [0, 1, 2])] fun P hP => ?_
      refine br_c (fun _ => hP _ _ _ _ _ (k55 i (by omega) (by rw [if_pos (show i = q by omega)]; exact hr))) (fun z => ?_)
      have z : ¬ nI q ≤ nI i := z
      rw [nI_leI (by omega) (by omega)] at z
      omega
    | succ d ih =>
      intro i hi hr
      have hr : (if i < c ∧ σ.1.1 5 i = σ.2.1.1 1 i then chkL c (σ.1.1 5) (σ.2.1.1 1) d (i + 1) else 1 + nI i) = chkL c (σ.1.1 5) (σ.2.1.1 1) q 0 := hr
      refine xWP_go 100 [(16, [0, 1, 2]), (55, [0, 1, 2])] fun P hP => ?_
      refine br_c (fun z => ?_) (fun _ => ?_)
      · have z : nI q ≤ nI i := z
        rw [nI_leI (by omega) (by omega)] at z
        omega
      refine ⟨vin (by decide), ?_⟩
      refine br_c (fun z => ?_) (fun z => ?_)
      · have z : F 1 2 ≤ nI i := z
        rw [e2, nI_leI (by omega) (by omega)] at z
        rw [if_neg (fun y => by omega)] at hr
        exact hP _ _ _ _ _ (k55 i (by omega) (by rw [if_neg (by omega)]; exact hr))
      have z : ¬ F 1 2 ≤ nI i := z
      rw [e2, nI_leI (by omega) (by omega)] at z
      have i7 : i < 7 := by omega
      refine ⟨by show vp_in (nI 110 + nI i) 230; rw [nI_add]; exact vp_in_nI (by omega) (by omega), ?_⟩
      have n110 : Int32.toNatClampNeg (nI 110 + nI i) = 110 + i := by rw [nI_add]; exact nI_clamp (by omega)
      have w1 : upd (F 1) 5 0 (Int32.toNatClampNeg ((110 : Int32) + nI i)) = σ.1.1 5 i := by
        rw [show Int32.toNatClampNeg ((110 : Int32) + nI i) = 110 + i from n110, pk_un (by omega)]
        exact W i (by omega)
      refine xcall (sx_its (va_up F 1 (upd (F 1) 5 0)) v i 3 i7 (by omega) 3 rfl (σ.2.1.1 1 i) ((pk_un (by omega)).trans (T.2.2.2.1 i i7).2.1) ?_)
      refine br_n (fun y => ?_) (fun y => ?_)
      · have y : ¬ upd (F 1) 5 0 (Int32.toNatClampNeg ((110 : Int32) + nI i)) = σ.2.1.1 1 i := y
        rw [w1] at y
        rw [if_neg (fun z => y z.2)] at hr
        exact hP _ _ _ _ _ (k55 i (by omega) (by rw [if_neg (by omega)]; exact hr))
      · have y : upd (F 1) 5 0 (Int32.toNatClampNeg ((110 : Int32) + nI i)) = σ.2.1.1 1 i := y
        rw [w1] at y
        rw [if_pos ⟨by omega, y⟩] at hr
        refine hP _ _ _ _ _ ?_
        rw [nI_1]
        exact ih (i + 1) (by omega) hr
  refine xM_go rfl 100 [(16, [0, 1, 2]), (55, [0, 1, 2])] fun P hP => ?_
  refine ⟨vin (by decide), ?_⟩
  refine ⟨vin (by decide), ?_⟩
  refine hP _ _ _ _ _ ?_
  rw [e0, nq5]
  exact key q 0 (by omega) rfl
set_option maxRecDepth 100000 in
theorem MX_image (n : Nat) (σ : xZ) (F v : xS) (R : MR n σ F v) (hn : n < 1000) {K : xKo} (h : mKy n (y_image σ) (f_image σ.1) F K) : C_M_image [.ref 0] (xfill F v 0 (wM0 0)) K := by
  have I := R.J
  have Z := mXr.row.mp R.z.1
  have S := R.2.2.2
  have b3 := bel_nat (show below 8 (F 1 3) from I.1.1.1) (by omega)
  have b2 := bel_nat (show below 7 (F 1 2) from I.1.1.2.1) (by omega)
  have b4 := bel_nat (show below 50 (F 1 4) from I.1.1.2.2.2.1) (by omega)
  have b5 := bel_nat (show below 20 (F 1 5) from I.1.1.2.2.2.2) (by omega)
  obtain ⟨m, hm, em⟩ : below n (v 0 5) := I.2.1.1.1
  have ef : f_image σ.1 = (v 0 5 + 1, 0) := an_ (congrArg (· + 1) R.2.2.1.2.1.2.2.1.1.symm)
  rw [ef] at h
  refine xM_go rfl 100 [] fun P hP => ?_
  refine xcall (sp_moveAll_1_2 F v fun g g1 g2 => ?_)
  refine ⟨Or.inr rfl, ?_⟩
  have nz : ¬ v 0 5 + 1 = 0 := by
    rw [em, nI_1]
    exact nI_ne0 (by omega) (by omega)
  have g6 := g1 6 (by omega)
  have g7 := g1 7 (by omega)
  have AG : agr (mA (va_up F 2 g) (va_up v 0 (va_up (va_up (v 0) 4 1) 5 (v 0 5 + 1)))) (g_image (mA F v)) := by
    refine ⟨sAgr.rf, ⟨⟨fun _ _ => rfl, fun _ _ => rfl, fun _ _ => rfl, fun _ _ => rfl⟩, ⟨⟨rfl, rfl, rfl, rfl⟩, rfl, rfl, rfl, rfl⟩, ⟨rfl, rfl⟩, fun _ _ => rfl⟩, fun _ => ⟨⟨g1 3 (by omega), g1 2 (by omega), g1 0 (by omega), g1 1 (by omega), g1 4 (by omega), g1 5 (by omega)⟩, fun j hj => ?_, fun j hj => ?_, fun j hj => ?_, fun j hj => ?_⟩⟩
    · have hj : j < nat (g 3) := hj
      rw [g1 3 (by omega)] at hj
      exact ⟨g1 (9 + 2 * j) (by omega), g1 (9 + 2 * j + 1) (by omega)⟩
    · have hj : j < nat (g 2) := hj
      rw [g1 2 (by omega)] at hj
      exact ⟨g1 (25 + 5 * j + 0) (by omega), g1 (25 + 5 * j + 1) (by omega)⟩
    · have hj : j < nat (g 4) := hj
      rw [g1 4 (by omega)] at hj
      exact g1 (60 + j) (by omega)
    · have hj : j < nat (g 5) := hj
      rw [g1 5 (by omega)] at hj
      exact g1 (110 + j) (by omega)
  have ZG : mXr g σ.2.1 := Z.of fun j hj => g1 j (by have := exi_in hj; omega)
  exact h (va_up F 2 g) (va_up v 0 (va_up (va_up (v 0) 4 1) 5 (v 0 5 + 1))) ⟨pi_image R.1, ⟨R.2.1.1, fun _ => R.2.1.1⟩, AG.tr (pg_image R.2.2.1), S.1, ⟨⟨by show (g 6).toInt ≤ 50; rw [g6]; exact S.1.1, by show (g 7).toInt ≤ 50; rw [g7]; exact S.1.2⟩, R.z.1, fun _ => mXr.row.mpr ZG⟩, (by show (1 : Int32) = if v 0 5 + 1 = 0 then 0 else 1; exact (if_neg nz).symm), S.2.2.2⟩ bm_0.symm
set_option maxRecDepth 100000 in
theorem MX_restore (n : Nat) (σ : xZ) (F v : xS) (R : MR n σ F v) {K : xKo} (h : mKy n (y_restore σ) (f_restore σ.1) F K) : C_M_restore [.ref 0] (xfill F v 0 (wM0 0)) K := by
  have I := R.J
  have S := R.2.2.2
  have ek := S.2.2.1
  have ei : v 0 5 = σ.1.2.2 6 0 := R.2.2.1.2.1.2.2.1.1
  refine xM_go rfl 100 [] fun P hP => ?_
  refine br_n (fun a => ?_) (fun a => ?_)
  · have a : ¬ v 0 4 = 0 := a
    have nz : ¬ v 0 5 = 0 := fun z => a (by rw [ek, if_pos z])
    have a2 : ¬ σ.1.2.2 6 0 = 0 := by rw [← ei]; exact nz
    have J : sIv (mSt (F 2)) := I.2.2 nz
    have b3 := bel_nat (show below 8 (F 2 3) from J.1.1) (by omega)
    have b2 := bel_nat (show below 7 (F 2 2) from J.1.2.1) (by omega)
    have b4 := bel_nat (show below 50 (F 2 4) from J.1.2.2.2.1) (by omega)
    have b5 := bel_nat (show below 20 (F 2 5) from J.1.2.2.2.2) (by omega)
    have eg : g_restore σ.1 = (σ.1.2.1, σ.1.2.1, σ.1.2.2) := if_neg a2
    have ef : f_restore σ.1 = (F 2 0, 0) := (if_neg a2).trans (an_ (R.2.2.1.2.2 nz).1.2.2.1.symm)
    unfold y_restore at h
    rw [if_neg a2, ef, eg] at h
    refine xcall (sp_moveAll_2_1 F v fun g g1 g2 => ?_)
    refine ⟨vin (by decide), ?_⟩
    have g6 := g1 6 (by omega)
    have g7 := g1 7 (by omega)
    have AG : agr (mA (va_up F 1 g) v) (g_restore (mA F v)) := by
      rw [show g_restore (mA F v) = _ from if_neg nz]
      refine ⟨⟨⟨g1 3 (by omega), g1 2 (by omega), g1 0 (by omega), g1 1 (by omega), g1 4 (by omega), g1 5 (by omega)⟩, fun j hj => ?_, fun j hj => ?_, fun j hj => ?_, fun j hj => ?_⟩, ⟨⟨fun _ _ => rfl, fun _ _ => rfl, fun _ _ => rfl, fun _ _ => rfl⟩, ⟨⟨rfl, rfl, rfl, rfl⟩, rfl, rfl, rfl, rfl⟩, ⟨rfl, rfl⟩, fun _ _ => rfl⟩, fun _ => sAgr.rf⟩
      · have hj : j < nat (g 3) := hj
        rw [g1 3 (by omega)] at hj
        exact ⟨g1 (9 + 2 * j) (by omega), g1 (9 + 2 * j + 1) (by omega)⟩
      · have hj : j < nat (g 2) := hj
        rw [g1 2 (by omega)] at hj
        exact ⟨g1 (25 + 5 * j + 0) (by omega), g1 (25 + 5 * j + 1) (by omega)⟩
      · have hj : j < nat (g 4) := hj
        rw [g1 4 (by omega)] at hj
        exact g1 (60 + j) (by omega)
      · have hj : j < nat (g 5) := hj
        rw [g1 5 (by omega)] at hj
        exact g1 (110 + j) (by omega)
    have A2 := AG.tr (pg_restore R.2.2.1)
    have I2 := (pi_restore R.1).up
    rw [eg] at A2 I2
    have Z2 := R.z.2 a2
    have ZG : mXr g σ.2.2 := (mXr.row.mp Z2).of fun j hj => g1 j (by have := exi_in hj; omega)
    have fin := h (va_up F 1 g) v ⟨I2, ⟨R.2.1.2 a2, fun _ => R.2.1.2 a2⟩, A2, ⟨by show (g 6).toInt ≤ 50; rw [g6]; exact S.2.1.1.1, by show (g 7).toInt ≤ 50; rw [g7]; exact S.2.1.1.2⟩, ⟨S.2.1.1, mXr.row.mpr ZG, fun _ => Z2⟩, S.2.2⟩ bm_0.symm
    rw [← g1 0 (by omega)] at fin
    exact fin
  · have a : v 0 4 = 0 := a
    have z0 : v 0 5 = 0 := by
      by_cases z : v 0 5 = 0
      · exact z
      · rw [ek, if_neg z] at a
        exact absurd a (by decide)
    have a2 : σ.1.2.2 6 0 = 0 := by rw [← ei]; exact z0
    refine xcall (sp_errM F v (-1000000002) 2 (by decide) (by decide) ?_)
    refine R.no h ?_ (if_pos a2)
    unfold y_restore g_restore
    rw [if_pos a2, if_pos a2]
theorem MR.play {n : Nat} {σ : xZ} {F v F' v' : xS} {s' : xS} {X' : xXt} (R : MR n σ F v) (G : ∀ k, ¬ k = 1 ∧ ¬ k = 3 ∧ ¬ k = 4 ∧ ¬ k = 99 → F' k = F k) (V : ∀ j, 7 ≤ j ∧ j < 15 ∨ v' 0 j = v 0 j) (E : ∀ j, j < 230 → r2 j = false → ¬ j = 1 → F' 1 j = F 1 j) (T : tM (F' 1) s' X') (e : (s' 6 0 = σ.1.1 6 0 ∧ s' 6 1 = σ.1.1 6 1 ∧ s' 6 3 = F' 1 1 ∧ s' 6 4 = σ.1.1 6 4 ∧ s' 6 5 = σ.1.1 6 5) ∧ (∀ k, k < 6 → s' k = σ.1.1 k)) (b : below 9999 (s' 6 2)) (Z : cIv s' X' ∧ out0 s' X') : MR (n + 1) ((s', σ.1.2), X', σ.2.2) F' v' := by
  have A := R.2.2.1
  have I := R.1.up
  have S := R.2.2.2
  have gv : ∀ j, ¬ (7 ≤ j ∧ j < 15) → v' 0 j = v 0 j := fun j hj => (V j).elim (fun z => absurd z hj) (fun y => y)
  have b4 := bel_nat (show below 50 (σ.1.1 6 4) from I.1.1.2.2.2.1) (by omega)
  have b5 := bel_nat (show below 20 (σ.1.1 6 5) from I.1.1.2.2.2.2) (by omega)
  have rf : ∀ j, ¬ j = 8 → ¬ j = 0 → (j < 25 ∨ 60 ≤ j) → r2 j = false := fun j h8 h0 hj => by
    unfold r2
    rw [r1_f h8 (by omega), Bool.false_or]
    exact beq_eq_false_iff_ne.mpr h0
  have AG : agr (mA F' v') (s', σ.1.2) := by
    refine ⟨⟨⟨T.1.1, T.1.2.1, T.1.2.2.1, e.1.2.2.1.symm, ?_, ?_⟩, fun j hj => ?_, fun j hj => ?_, fun j hj => ?_, fun j hj => ?_⟩, ?_, ?_⟩
    · show F' 1 4 = s' 6 4
      rw [E 4 (by omega) rfl (by decide), e.1.2.2.2.1]
      exact A.1.1.2.2.2.2.1
    · show F' 1 5 = s' 6 5
      rw [E 5 (by omega) rfl (by decide), e.1.2.2.2.2]
      exact A.1.1.2.2.2.2.2
    · have hj : j < nat (F' 1 3) := hj
      rw [T.1.1] at hj
      exact T.2.1 j hj
    · have hj : j < nat (F' 1 2) := hj
      rw [T.1.2.1] at hj
      exact T.2.2.1 j hj
    · have hj : j < nat (F' 1 4) := hj
      rw [E 4 (by omega) rfl (by decide)] at hj
      have l : j < 50 := by
        have q : F 1 4 = σ.1.1 6 4 := A.1.1.2.2.2.2.1
        rw [q] at hj
        omega
      show F' 1 (60 + j) = s' 4 j
      rw [E _ (by omega) (rf _ (by omega) (by omega) (by omega)) (by omega), e.2 4 (by decide)]
      exact A.1.2.2.2.1 j hj
    · have hj : j < nat (F' 1 5) := hj
      rw [E 5 (by omega) rfl (by decide)] at hj
      have l : j < 20 := by
        have q : F 1 5 = σ.1.1 6 5 := A.1.1.2.2.2.2.2
        rw [q] at hj
        omega
      show F' 1 (110 + j) = s' 5 j
      rw [E _ (by omega) (rf _ (by omega) (by omega) (by omega)) (by omega), e.2 5 (by decide)]
      exact A.1.2.2.2.2 j hj
    · have q : mRs F' v' = mRs F v := by
        unfold mRs
        rw [G 6 (by decide), G 7 (by decide), G 8 (by decide), G 10 (by decide), gv 5 (by omega), gv 21 (by omega)]
      show rAgr (mRs F' v') _
      rw [q]
      exact A.2.1
    · intro z
      have z : ¬ v' 0 5 = 0 := z
      rw [gv 5 (by omega)] at z
      show sAgr (mSt (F' 2)) _
      rw [G 2 (by decide)]
      exact A.2.2 z
  refine ⟨⟨⟨⟨by show below 8 (s' 6 0); rw [e.1.1]; exact I.1.1.1, by show below 7 (s' 6 1); rw [e.1.2.1]; exact I.1.1.2.1, b, by show below 50 (s' 6 4); rw [e.1.2.2.2.1]; exact I.1.1.2.2.2.1, by show below 20 (s' 6 5); rw [e.1.2.2.2.2]; exact I.1.1.2.2.2.2⟩, fun j hj => ?_⟩, I.2⟩, ⟨Z, R.2.1.2⟩, AG, R.mS ⟨?_, ?_⟩ (G 2 (by decide)) ⟨gv 4 (by omega), gv 5 (by omega), gv 15 (by omega)⟩ ⟨G 6 (by decide), G 8 (by decide)⟩ ⟨T.2.2.2.1, T.1.2.2.2, T.2.2.2.2⟩ rfl rfl⟩
  · have hj : j < nat (s' 6 1) := hj
    rw [e.1.2.1] at hj
    show below 6 (s' 2 j)
    rw [e.2 2 (by decide)]
    exact I.1.2 j hj
  · rw [E 6 (by omega) rfl (by decide)]; exact S.1.1
  · rw [E 7 (by omega) rfl (by decide)]; exact S.1.2
set_option maxRecDepth 100000 in
theorem MX_call (n : Nat) (σ : xZ) (F v : xS) (R : MR n σ F v) (m s : Int32) {K : xKo} (h : mKy n (y_call m s σ) (z_call m s σ) F K) : C_M_call [.ref 0, .int m, .int s] (xfill F v 0 (wM0 0)) K := by
  have b9 : below 9999 (F 1 0) := R.J.1.1.2.2.1
  have e0 : F 1 0 = σ.1.1 6 2 := R.n1.2.2.1
  refine xM_go rfl 200 [] fun P hP => ?_
  refine xcall (sp_isMark _ (fun a1 => ?_) (fun a1 => ?_))
  · refine br_c (fun _ => ?_) (fun z => absurd rfl z)
    refine xcall (sp_errM F v (-1000000001) 1 (by decide) (by decide) ?_)
    exact R.no h (if_neg fun z => a1 z.1.1) (if_neg fun z => a1 z.1)
  refine br_c (fun z => absurd z (by decide)) (fun _ => ?_)
  refine xcall (sp_areSteps _ (fun a2 => ?_) (fun a2 => ?_))
  · refine br_n (fun z => absurd rfl z) (fun _ => ?_)
    refine xcall (sp_errM F v (-1000000001) 1 (by decide) (by decide) ?_)
    exact R.no h (if_neg fun z => a2 z.1.2) (if_neg fun z => a2 z.2)
  refine br_n (fun _ => ?_) (fun z => absurd z (by decide))
  refine ⟨vin (by decide), ?_⟩
  obtain ⟨c, hc, ec⟩ := id b9
  refine br_n (fun a3 => ?_) (fun a3 => ?_)
  · have a3 : ¬ F 1 0 = nI 9999 := a3
    have a4 : nat (F 1 0) < 9999 := by
      have : ¬ c = 9999 := fun z => a3 (by rw [ec, z])
      rw [ec, show nat (nI c) = c from nI_clamp (by omega)]
      omega
    rw [e0] at a4 b9
    unfold y_call z_call at h
    rw [if_pos ⟨⟨a1, a2⟩, a4⟩, if_pos ⟨a1, a2⟩, if_pos a4] at h
    obtain ⟨u, hu, rfl, -⟩ := nI_ofx s (n := 10) a2 (by decide)
    refine xcall (sx_calls F v σ.1.1 σ.2.1 R.t R.c m u (by omega) (fun F' v' G E T' => ?_))
    rw [eS0 R] at T' ⊢
    refine h F' v' (R.play (fun k hk => G k hk.1) E.2.2 (fun j hj hr _ => E.2.1 j hj hr) T' ⟨⟨rfl, rfl, ?_, rfl, rfl⟩, fun k hk => if_neg (by omega)⟩ (b9.inc a4 (by omega)).1 ⟨R.c.play, R.2.1.1.2.play⟩) ((G 5 (by decide)).trans bm_0.symm)
    show σ.1.1 6 3 = F' 1 1
    rw [E.2.1 1 (by omega) rfl]
    exact R.n1.2.2.2.1.symm
  · have a3 : F 1 0 = nI 9999 := a3
    have a4 : ¬ nat (σ.1.1 6 2) < 9999 := by rw [← e0, a3]; decide
    refine xcall (sp_errM F v (-1000000003) 3 (by decide) (by decide) ?_)
    exact R.no h (if_neg fun z => a4 z.2) ((if_pos ⟨a1, a2⟩).trans (if_neg a4))
end
section
/-! ===== places, exactly ===== -/
theorem cntP_in {f : Nat → Int32} : ∀ (d i j : Nat), i ≤ j → j < cntP f d i → xin (f j) 12 := by
  intro d
  induction d with
  | zero => intro i j a l; exact absurd (show j < i from l) (by omega)
  | succ d ih =>
    intro i j a l
    unfold cntP at l
    by_cases x : xin (f i) 12
    · rw [if_pos x] at l
      by_cases e : j = i
      · rw [e]; exact x
      · exact ih (i + 1) j (by omega) l
    · rw [if_neg x] at l
      omega
theorem bare_cell {b x : Int32} (h : xin x 12) : bare b x = x := by
  obtain ⟨k, hk, rfl, -⟩ := nI_ofx x (n := 12) h (by decide)
  have q : ∀ k : Fin 12, nI k.val &&& 255 = nI k.val ∧ nI k.val &&& 65535 = nI k.val := by decide +kernel
  have q := q ⟨k, by omega⟩
  unfold bare
  split
  · exact q.1
  split
  · exact q.2
  · rfl
/-- what places makes of a state -/
theorem pl_iv {n : Nat} {σ : xZ} (I : aIv n σ.1) (Z : zIv σ) {s : Int32} {r : Nat} (a1 : xin s 4) (er : r = cntP (σ.1.2.2 (nat s)) (plN s σ.1) 0) : cIv σ.1.1 (va_up σ.2.1.1 0 (fun j => if j < r then σ.1.2.2 (nat s) j else σ.2.1.1 0 j), σ.2.1.2) ∧ out0 σ.1.1 (va_up σ.2.1.1 0 (fun j => if j < r then σ.1.2.2 (nat s) j else σ.2.1.1 0 j), σ.2.1.2) := by
  obtain ⟨⟨⟨a, b, c, d, e, f⟩, o⟩, -⟩ := Z
  refine ⟨⟨a, b, c, fun j hj => ?_, e, f⟩, o⟩
  show below 11 (if j < r then σ.1.2.2 (nat s) j else σ.2.1.1 0 j)
  by_cases l : j < r
  · rw [if_pos l]
    exact b11 (cntP_in (plN s σ.1) 0 j (Nat.zero_le j) (by rw [← er]; exact l))
  · rw [if_neg l]
    exact d j hj
theorem pl_eq {n : Nat} {s q : xA} (A : agr s q) (I : aIv n s) {a : Int32} (z : xin a 4) : (∀ j, j < 40 → s.2.2 (nat a) j = q.2.2 (nat a) j) ∧ s.2.2 5 (nat a) = q.2.2 5 (nat a) ∧ plN a s = plN a q ∧ cntP (s.2.2 (nat a)) (plN a s) 0 = cntP (q.2.2 (nat a)) (plN a q) 0 ∧ plN a s ≤ 7 := by
  have l := nat4 z
  obtain ⟨h1, h2, h3, -, -⟩ := A.2.1.el
  have ep : plN a s = plN a q := by
    unfold plN
    rw [h2 _ l, A.1.1.2.1]
  have lp : plN a s ≤ 7 := by
    have := bel_nat I.1.1.2.1 (by omega)
    unfold plN
    omega
  refine ⟨fun j hj => h1 _ j l hj, h3 _ l, ep, ?_, lp⟩
  rw [← ep]
  exact cntP_eq fun j hj => by rw [h1 _ j l (by omega)]
theorem pl_H {n : Nat} {σ : xZ} {F v : xS} {K : xKo} {s : Int32} (R : HR n σ F v) (a1 : xin s 4) (u0 : ¬ (hA F v).2.2 5 (nat s) = 0) (h : hKy n (y_places s σ) (f_places s σ.1) F K) (r : Nat) (f : Nat → Int32) (er : r = cntP ((hA F v).2.2 (nat s)) (plN s (hA F v)) 0) (f1 : ∀ j, j < r → f j = (hA F v).2.2 (nat s) j) (f2 : ∀ j, r ≤ j → f j = F 6 j) : K (some (.int (nI r))) (xfill (va_up F 6 f) v 0 wH0) := by
  obtain ⟨p1, p2, p3, p4, p5⟩ := pl_eq R.2.2.1 R.J a1
  have u1 : ¬ σ.1.2.2 5 (nat s) = 0 := by rw [← p2]; exact u0
  have er2 := er.trans p4
  unfold y_places f_places at h
  rw [if_pos ⟨a1, u1⟩, if_pos a1, if_neg u1, ← er2] at h
  have rl : r ≤ 7 := by
    have q := cntP_le (f := (hA F v).2.2 (nat s)) (d := plN s (hA F v)) (i := 0)
    omega
  obtain ⟨z1, z2⟩ := R.z.1
  refine h _ v (R.tell (F' := va_up F 6 f) (v' := v) ⟨⟨⟨rfl, rfl, rfl, rfl, rfl, rfl⟩, fun _ _ => ⟨rfl, rfl⟩, fun _ _ => ⟨rfl, rfl⟩, fun _ _ => rfl, fun _ _ => rfl⟩, ⟨⟨fun _ _ => rfl, fun _ _ => rfl, fun _ _ => rfl, fun _ _ => rfl⟩, ⟨⟨rfl, rfl, rfl, rfl⟩, rfl, rfl, rfl, rfl⟩, ⟨rfl, rfl⟩, fun _ _ => rfl⟩, fun _ => ⟨⟨rfl, rfl, rfl, rfl, rfl, rfl⟩, fun _ _ => ⟨rfl, rfl⟩, fun _ _ => ⟨rfl, rfl⟩, fun _ _ => rfl, fun _ _ => rfl⟩⟩ ⟨⟨rfl, rfl⟩, rfl, rfl⟩ rfl ⟨fun j hj => ⟨?_, (z1 j hj).2.1, (z1 j hj).2.2⟩, z2⟩ (pl_iv R.1 R.2.1 a1 er2)) bm_0.symm
  show f j = if j < r then σ.1.2.2 (nat s) j else σ.2.1.1 0 j
  by_cases l : j < r
  · rw [if_pos l, f1 j l]
    exact p1 j (by omega)
  · rw [if_neg l, f2 j (by omega)]
    exact (z1 j hj).1
theorem pl_H0 {n : Nat} {σ : xZ} {F v : xS} {K : xKo} {s : Int32} (R : HR n σ F v) (a1 : xin s 4) (u0 : (hA F v).2.2 5 (nat s) = 0) (h : hKy n (y_places s σ) (f_places s σ.1) F K) : K (some (.int (-1000000000 - 2))) (xfill (va_up F 69 (upd (F 69) (nat 2) (F 69 (nat 2) + 1))) v 0 wH0) := by
  obtain ⟨p1, p2, p3, p4, p5⟩ := pl_eq R.2.2.1 R.J a1
  have u1 : σ.1.2.2 5 (nat s) = 0 := by rw [← p2]; exact u0
  exact R.no h (if_neg fun z => z.2 u1) ((if_pos a1).trans (if_pos u1))
theorem pl_M {n : Nat} {σ : xZ} {F v : xS} {K : xKo} {s : Int32} (R : MR n σ F v) (a1 : xin s 4) (u0 : ¬ (mA F v).2.2 5 (nat s) = 0) (h : mKy n (y_places s σ) (f_places s σ.1) F K) (r : Nat) (F' : xS) (er : r = cntP ((mA F v).2.2 (nat s)) (plN s (mA F v)) 0) (E : mR r1 F v F' v) (T : tM (F' 1) σ.1.1 (va_up σ.2.1.1 0 (fun j => if j < r then (mA F v).2.2 (nat s) j else σ.2.1.1 0 j), σ.2.1.2)) : K (some (.int (nI r))) (xfill F' v 0 (wM0 0)) := by
  obtain ⟨p1, p2, p3, p4, p5⟩ := pl_eq R.2.2.1 R.J a1
  have u1 : ¬ σ.1.2.2 5 (nat s) = 0 := by rw [← p2]; exact u0
  have er2 := er.trans p4
  unfold y_places f_places at h
  rw [if_pos ⟨a1, u1⟩, if_pos a1, if_neg u1, ← er2] at h
  have rl : r ≤ 7 := by
    have q := cntP_le (f := (mA F v).2.2 (nat s)) (d := plN s (mA F v)) (i := 0)
    omega
  have T2 : tM (F' 1) σ.1.1 (va_up σ.2.1.1 0 (fun j => if j < r then σ.1.2.2 (nat s) j else σ.2.1.1 0 j), σ.2.1.2) := T.ext rfl (fun w j hw hj => by
    by_cases w0 : w = 0
    · subst w0
      show (if j < r then σ.1.2.2 (nat s) j else σ.2.1.1 0 j) = (if j < r then (mA F v).2.2 (nat s) j else σ.2.1.1 0 j)
      by_cases l : j < r
      · rw [if_pos l, if_pos l, p1 j (by omega)]
      · rw [if_neg l, if_neg l]
    · exact (congrFun (if_neg w0) j).trans (congrFun (if_neg w0) j).symm)
  exact h F' v (R.tell E ⟨T2.2.2.2.1, T2.1.2.2.2, T2.2.2.2.2⟩ (pl_iv R.1 R.2.1 a1 er2)) (E.f5.trans bm_0.symm)
theorem pl_M0 {n : Nat} {σ : xZ} {F v : xS} {K : xKo} {s : Int32} (R : MR n σ F v) (a1 : xin s 4) (u0 : (mA F v).2.2 5 (nat s) = 0) (h : mKy n (y_places s σ) (f_places s σ.1) F K) : K (some (.int (-1000000002))) (xfill (va_up F 5 (upd (F 5) 2 (F 5 2 + 1))) v 0 (wM0 0)) := by
  obtain ⟨p1, p2, p3, p4, p5⟩ := pl_eq R.2.2.1 R.J a1
  have u1 : σ.1.2.2 5 (nat s) = 0 := by rw [← p2]; exact u0
  exact R.no h (if_neg fun z => z.2 u1) ((if_pos a1).trans (if_pos u1))
set_option maxRecDepth 100000 in
theorem HX_places (n : Nat) (σ : xZ) (F v : xS) (R : HR n σ F v) (s : Int32) {K : xKo} (h : hKy n (y_places s σ) (f_places s σ.1) F K) : C_H_places [.ref 0, .int s] (xfill F v 0 wH0) K := by
  have I := R.J
  have b8 : below 7 (v 1 8) := I.1.1.2.1
  refine xM_go rfl 100 [(52, [0, 1, 2, 3, 4])] fun P hP => ?_
  refine xcall (sp_isBelow _ _ (fun a1 => ?_) (fun a1 => ?_))
  · refine br_n (fun z => absurd rfl z) (fun _ => ?_)
    refine xcall (sp_errH F v 1 (by decide) ?_)
    exact R.no h (if_neg fun z => a1 z.1) (if_neg a1)
  refine br_n (fun _ => ?_) (fun z => absurd z (by decide))
  refine ⟨vin a1, ⟨fun es0 => ?_, ⟨fun es0 => ?_, ⟨fun es0 => ?_, ⟨fun es0 => ?_, trivial⟩⟩⟩⟩⟩
  · have b4 : below 40 (v 61 1) := I.2.1.2.1.1
    have es : nat s = 0 := by rw [es0]; decide
    refine xcall (sp_isMissing (fun k => F (61 + k)) (fun k => v (61 + k)) (fun m0 => ?_) (fun m0 => ?_))
    · have m0 : ¬ v 61 2 = 0 := m0
      have u0 : ¬ (hA F v).2.2 5 (nat s) = 0 := by rw [es]; exact m0
      refine br_c (fun _ => ?_) (fun z => absurd rfl z)
      refine xcall (sp_min _ _ ?_)
      have m3 := min_eq b4 b8 (by omega) (by omega)
      obtain ⟨m, em⟩ : ∃ m, m = min (nat (v 61 1)) (nat (v 1 8)) := ⟨_, rfl⟩
      rw [← em] at m3
      have m7 : m ≤ 7 := by have := bel_nat b8 (by omega); omega
      have fin : ∀ (r : Nat) (f : Nat → Int32), r = cntP (F 62) m 0 → (∀ j, j < r → f j = F 62 j) → (∀ j, r ≤ j → f j = F 6 j) → K (some (.int (nI r))) (xfill (va_up F 6 f) v 0 wH0) := by
        intro r f er f1 f2
        have ep : plN s (hA F v) = m := by unfold plN; rw [es, em]; rfl
        exact pl_H R a1 u0 h r f (by rw [ep, er, es]; rfl) (fun j hj => by rw [es]; exact f1 j hj) f2
      have key : ∀ (d i : Nat) (f : Nat → Int32), i + d = m → cntP (F 62) d i = cntP (F 62) m 0 → (∀ j, j < i → f j = F 62 j) → (∀ j, i ≤ j → f j = F 6 j) → xWP pg_H_places K 52 [(0, .ref 0), (1, .int s), (2, .ref 61), (3, .int (nI m)), (4, .int (nI i))] [] (xfill (va_up F 6 f) v 0 wH0) (0, 0) := by
        intro d
        induction d with
        | zero =>
          intro i f hi hc f1 f2
          have hi : i = m := hi
          refine xWP_go 100 [(52, [0, 1, 2, 3, 4])] fun P hP => ?_
          refine br_c (fun _ => ?_) (fun z => ?_)
          · exact fin m f (by rw [← hc, ← hi]; rfl) (fun j hj => f1 j (by omega)) (fun j hj => f2 j (by omega))
          · have z : ¬ nI m ≤ nI i := z
            rw [nI_leI (by omega) (by omega)] at z
            omega
        | succ d ih =>
          intro i f hi hc f1 f2
          have ei : Int32.toNatClampNeg (nI i) = i := nI_clamp (by omega)
          refine xWP_go 100 [(52, [0, 1, 2, 3, 4])] fun P hP => ?_
          refine br_c (fun z => absurd z (nI_ge (by omega) (by omega))) (fun _ => ?_)
          refine ⟨vp_in_nI (by omega) (by omega), ?_⟩
          refine xcall (sp_isBelow _ _ (fun z => ?_) (fun z => ?_))
          · have z : ¬ xin (F 62 i) 12 := by
              intro y
              refine z ?_
              show xin (F 62 (Int32.toNatClampNeg (nI i))) (12 : Int32).toInt
              rw [ei]
              exact y
            refine br_n (fun z => absurd rfl z) (fun _ => ?_)
            exact fin i f (by rw [← hc]; exact (if_neg z).symm) f1 f2
          have z : xin (F 62 i) 12 := by
            have z : xin (F 62 (Int32.toNatClampNeg (nI i))) (12 : Int32).toInt := z
            rw [ei] at z
            exact z
          refine br_n (fun _ => ?_) (fun z => absurd z (by decide))
          refine ⟨vp_in_nI (by omega) (by omega), ?_⟩
          refine ⟨vp_in_nI (by omega) (by omega), ?_⟩
          refine hP _ _ _ _ _ ?_
          rw [nI_1]
          refine ih (i + 1) (upd f (nat (nI i)) (F 62 (nat (nI i)))) (by omega) (by rw [← hc]; exact (if_pos z).symm) (fun j hj => ?_) (fun j hj => ?_)
          · rw [show nat (nI i) = i from ei]
            by_cases ej : j = i
            · rw [ej, pk_us]
            · rw [pk_un ej]; exact f1 j (by omega)
          · rw [show nat (nI i) = i from ei, pk_un (by omega)]
            exact f2 j (by omega)
      refine hP _ _ _ _ _ ?_
      have q := key m 0 (F 6) (by omega) rfl (fun j hj => absurd hj (Nat.not_lt_zero j)) (fun _ _ => rfl)
      rw [← m3] at q
      exact q
    · refine br_c (fun z => absurd z (by decide)) (fun _ => ?_)
      refine xcall (sp_errH F v 2 (by decide) ?_)
      exact pl_H0 R a1 (by rw [es]; exact m0) h
  · have b4 : below 40 (v 63 1) := I.2.1.2.1.2.1
    have es : nat s = 1 := by rw [es0]; decide
    refine xcall (sp_isMissing (fun k => F (63 + k)) (fun k => v (63 + k)) (fun m0 => ?_) (fun m0 => ?_))
    · have m0 : ¬ v 63 2 = 0 := m0
      have u0 : ¬ (hA F v).2.2 5 (nat s) = 0 := by rw [es]; exact m0
      refine br_c (fun _ => ?_) (fun z => absurd rfl z)
      refine xcall (sp_min _ _ ?_)
      have m3 := min_eq b4 b8 (by omega) (by omega)
      obtain ⟨m, em⟩ : ∃ m, m = min (nat (v 63 1)) (nat (v 1 8)) := ⟨_, rfl⟩
      rw [← em] at m3
      have m7 : m ≤ 7 := by have := bel_nat b8 (by omega); omega
      have fin : ∀ (r : Nat) (f : Nat → Int32), r = cntP (F 64) m 0 → (∀ j, j < r → f j = F 64 j) → (∀ j, r ≤ j → f j = F 6 j) → K (some (.int (nI r))) (xfill (va_up F 6 f) v 0 wH0) := by
        intro r f er f1 f2
        have ep : plN s (hA F v) = m := by unfold plN; rw [es, em]; rfl
        exact pl_H R a1 u0 h r f (by rw [ep, er, es]; rfl) (fun j hj => by rw [es]; exact f1 j hj) f2
      have key : ∀ (d i : Nat) (f : Nat → Int32), i + d = m → cntP (F 64) d i = cntP (F 64) m 0 → (∀ j, j < i → f j = F 64 j) → (∀ j, i ≤ j → f j = F 6 j) → xWP pg_H_places K 52 [(0, .ref 0), (1, .int s), (2, .ref 63), (3, .int (nI m)), (4, .int (nI i))] [] (xfill (va_up F 6 f) v 0 wH0) (0, 0) := by
        intro d
        induction d with
        | zero =>
          intro i f hi hc f1 f2
          have hi : i = m := hi
          refine xWP_go 100 [(52, [0, 1, 2, 3, 4])] fun P hP => ?_
          refine br_c (fun _ => ?_) (fun z => ?_)
          · exact fin m f (by rw [← hc, ← hi]; rfl) (fun j hj => f1 j (by omega)) (fun j hj => f2 j (by omega))
          · have z : ¬ nI m ≤ nI i := z
            rw [nI_leI (by omega) (by omega)] at z
            omega
        | succ d ih =>
          intro i f hi hc f1 f2
          have ei : Int32.toNatClampNeg (nI i) = i := nI_clamp (by omega)
          refine xWP_go 100 [(52, [0, 1, 2, 3, 4])] fun P hP => ?_
          refine br_c (fun z => absurd z (nI_ge (by omega) (by omega))) (fun _ => ?_)
          refine ⟨vp_in_nI (by omega) (by omega), ?_⟩
          refine xcall (sp_isBelow _ _ (fun z => ?_) (fun z => ?_))
          · have z : ¬ xin (F 64 i) 12 := by
              intro y
              refine z ?_
              show xin (F 64 (Int32.toNatClampNeg (nI i))) (12 : Int32).toInt
              rw [ei]
              exact y
            refine br_n (fun z => absurd rfl z) (fun _ => ?_)
            exact fin i f (by rw [← hc]; exact (if_neg z).symm) f1 f2
          have z : xin (F 64 i) 12 := by
            have z : xin (F 64 (Int32.toNatClampNeg (nI i))) (12 : Int32).toInt := z
            rw [ei] at z
            exact z
          refine br_n (fun _ => ?_) (fun z => absurd z (by decide))
          refine ⟨vp_in_nI (by omega) (by omega), ?_⟩
          refine ⟨vp_in_nI (by omega) (by omega), ?_⟩
          refine hP _ _ _ _ _ ?_
          rw [nI_1]
          refine ih (i + 1) (upd f (nat (nI i)) (F 64 (nat (nI i)))) (by omega) (by rw [← hc]; exact (if_pos z).symm) (fun j hj => ?_) (fun j hj => ?_)
          · rw [show nat (nI i) = i from ei]
            by_cases ej : j = i
            · rw [ej, pk_us]
            · rw [pk_un ej]; exact f1 j (by omega)
          · rw [show nat (nI i) = i from ei, pk_un (by omega)]
            exact f2 j (by omega)
      refine hP _ _ _ _ _ ?_
      have q := key m 0 (F 6) (by omega) rfl (fun j hj => absurd hj (Nat.not_lt_zero j)) (fun _ _ => rfl)
      rw [← m3] at q
      exact q
    · refine br_c (fun z => absurd z (by decide)) (fun _ => ?_)
      refine xcall (sp_errH F v 2 (by decide) ?_)
      exact pl_H0 R a1 (by rw [es]; exact m0) h
  · have b4 : below 40 (v 65 1) := I.2.1.2.1.2.2.1
    have es : nat s = 2 := by rw [es0]; decide
    refine xcall (sp_isMissing (fun k => F (65 + k)) (fun k => v (65 + k)) (fun m0 => ?_) (fun m0 => ?_))
    · have m0 : ¬ v 65 2 = 0 := m0
      have u0 : ¬ (hA F v).2.2 5 (nat s) = 0 := by rw [es]; exact m0
      refine br_c (fun _ => ?_) (fun z => absurd rfl z)
      refine xcall (sp_min _ _ ?_)
      have m3 := min_eq b4 b8 (by omega) (by omega)
      obtain ⟨m, em⟩ : ∃ m, m = min (nat (v 65 1)) (nat (v 1 8)) := ⟨_, rfl⟩
      rw [← em] at m3
      have m7 : m ≤ 7 := by have := bel_nat b8 (by omega); omega
      have fin : ∀ (r : Nat) (f : Nat → Int32), r = cntP (F 66) m 0 → (∀ j, j < r → f j = F 66 j) → (∀ j, r ≤ j → f j = F 6 j) → K (some (.int (nI r))) (xfill (va_up F 6 f) v 0 wH0) := by
        intro r f er f1 f2
        have ep : plN s (hA F v) = m := by unfold plN; rw [es, em]; rfl
        exact pl_H R a1 u0 h r f (by rw [ep, er, es]; rfl) (fun j hj => by rw [es]; exact f1 j hj) f2
      have key : ∀ (d i : Nat) (f : Nat → Int32), i + d = m → cntP (F 66) d i = cntP (F 66) m 0 → (∀ j, j < i → f j = F 66 j) → (∀ j, i ≤ j → f j = F 6 j) → xWP pg_H_places K 52 [(0, .ref 0), (1, .int s), (2, .ref 65), (3, .int (nI m)), (4, .int (nI i))] [] (xfill (va_up F 6 f) v 0 wH0) (0, 0) := by
        intro d
        induction d with
        | zero =>
          intro i f hi hc f1 f2
          have hi : i = m := hi
          refine xWP_go 100 [(52, [0, 1, 2, 3, 4])] fun P hP => ?_
          refine br_c (fun _ => ?_) (fun z => ?_)
          · exact fin m f (by rw [← hc, ← hi]; rfl) (fun j hj => f1 j (by omega)) (fun j hj => f2 j (by omega))
          · have z : ¬ nI m ≤ nI i := z
            rw [nI_leI (by omega) (by omega)] at z
            omega
        | succ d ih =>
          intro i f hi hc f1 f2
          have ei : Int32.toNatClampNeg (nI i) = i := nI_clamp (by omega)
          refine xWP_go 100 [(52, [0, 1, 2, 3, 4])] fun P hP => ?_
          refine br_c (fun z => absurd z (nI_ge (by omega) (by omega))) (fun _ => ?_)
          refine ⟨vp_in_nI (by omega) (by omega), ?_⟩
          refine xcall (sp_isBelow _ _ (fun z => ?_) (fun z => ?_))
          · have z : ¬ xin (F 66 i) 12 := by
              intro y
              refine z ?_
              show xin (F 66 (Int32.toNatClampNeg (nI i))) (12 : Int32).toInt
              rw [ei]
              exact y
            refine br_n (fun z => absurd rfl z) (fun _ => ?_)
            exact fin i f (by rw [← hc]; exact (if_neg z).symm) f1 f2
          have z : xin (F 66 i) 12 := by
            have z : xin (F 66 (Int32.toNatClampNeg (nI i))) (12 : Int32).toInt := z
            rw [ei] at z
            exact z
          refine br_n (fun _ => ?_) (fun z => absurd z (by decide))
          refine ⟨vp_in_nI (by omega) (by omega), ?_⟩
          refine ⟨vp_in_nI (by omega) (by omega), ?_⟩
          refine hP _ _ _ _ _ ?_
          rw [nI_1]
          refine ih (i + 1) (upd f (nat (nI i)) (F 66 (nat (nI i)))) (by omega) (by rw [← hc]; exact (if_pos z).symm) (fun j hj => ?_) (fun j hj => ?_)
          · rw [show nat (nI i) = i from ei]
            by_cases ej : j = i
            · rw [ej, pk_us]
            · rw [pk_un ej]; exact f1 j (by omega)
          · rw [show nat (nI i) = i from ei, pk_un (by omega)]
            exact f2 j (by omega)
      refine hP _ _ _ _ _ ?_
      have q := key m 0 (F 6) (by omega) rfl (fun j hj => absurd hj (Nat.not_lt_zero j)) (fun _ _ => rfl)
      rw [← m3] at q
      exact q
    · refine br_c (fun z => absurd z (by decide)) (fun _ => ?_)
      refine xcall (sp_errH F v 2 (by decide) ?_)
      exact pl_H0 R a1 (by rw [es]; exact m0) h
  · have b4 : below 40 (v 67 1) := I.2.1.2.1.2.2.2
    have es : nat s = 3 := by rw [es0]; decide
    refine xcall (sp_isMissing (fun k => F (67 + k)) (fun k => v (67 + k)) (fun m0 => ?_) (fun m0 => ?_))
    · have m0 : ¬ v 67 2 = 0 := m0
      have u0 : ¬ (hA F v).2.2 5 (nat s) = 0 := by rw [es]; exact m0
      refine br_c (fun _ => ?_) (fun z => absurd rfl z)
      refine xcall (sp_min _ _ ?_)
      have m3 := min_eq b4 b8 (by omega) (by omega)
      obtain ⟨m, em⟩ : ∃ m, m = min (nat (v 67 1)) (nat (v 1 8)) := ⟨_, rfl⟩
      rw [← em] at m3
      have m7 : m ≤ 7 := by have := bel_nat b8 (by omega); omega
      have fin : ∀ (r : Nat) (f : Nat → Int32), r = cntP (F 68) m 0 → (∀ j, j < r → f j = F 68 j) → (∀ j, r ≤ j → f j = F 6 j) → K (some (.int (nI r))) (xfill (va_up F 6 f) v 0 wH0) := by
        intro r f er f1 f2
        have ep : plN s (hA F v) = m := by unfold plN; rw [es, em]; rfl
        exact pl_H R a1 u0 h r f (by rw [ep, er, es]; rfl) (fun j hj => by rw [es]; exact f1 j hj) f2
      have key : ∀ (d i : Nat) (f : Nat → Int32), i + d = m → cntP (F 68) d i = cntP (F 68) m 0 → (∀ j, j < i → f j = F 68 j) → (∀ j, i ≤ j → f j = F 6 j) → xWP pg_H_places K 52 [(0, .ref 0), (1, .int s), (2, .ref 67), (3, .int (nI m)), (4, .int (nI i))] [] (xfill (va_up F 6 f) v 0 wH0) (0, 0) := by
        intro d
        induction d with
        | zero =>
          intro i f hi hc f1 f2
          have hi : i = m := hi
          refine xWP_go 100 [(52, [0, 1, 2, 3, 4])] fun P hP => ?_
          refine br_c (fun _ => ?_) (fun z => ?_)
          · exact fin m f (by rw [← hc, ← hi]; rfl) (fun j hj => f1 j (by omega)) (fun j hj => f2 j (by omega))
          · have z : ¬ nI m ≤ nI i := z
            rw [nI_leI (by omega) (by omega)] at z
            omega
        | succ d ih =>
          intro i f hi hc f1 f2
          have ei : Int32.toNatClampNeg (nI i) = i := nI_clamp (by omega)
          refine xWP_go 100 [(52, [0, 1, 2, 3, 4])] fun P hP => ?_
          refine br_c (fun z => absurd z (nI_ge (by omega) (by omega))) (fun _ => ?_)
          refine ⟨vp_in_nI (by omega) (by omega), ?_⟩
          refine xcall (sp_isBelow _ _ (fun z => ?_) (fun z => ?_))
          · have z : ¬ xin (F 68 i) 12 := by
              intro y
              refine z ?_
              show xin (F 68 (Int32.toNatClampNeg (nI i))) (12 : Int32).toInt
              rw [ei]
              exact y
            refine br_n (fun z => absurd rfl z) (fun _ => ?_)
            exact fin i f (by rw [← hc]; exact (if_neg z).symm) f1 f2
          have z : xin (F 68 i) 12 := by
            have z : xin (F 68 (Int32.toNatClampNeg (nI i))) (12 : Int32).toInt := z
            rw [ei] at z
            exact z
          refine br_n (fun _ => ?_) (fun z => absurd z (by decide))
          refine ⟨vp_in_nI (by omega) (by omega), ?_⟩
          refine ⟨vp_in_nI (by omega) (by omega), ?_⟩
          refine hP _ _ _ _ _ ?_
          rw [nI_1]
          refine ih (i + 1) (upd f (nat (nI i)) (F 68 (nat (nI i)))) (by omega) (by rw [← hc]; exact (if_pos z).symm) (fun j hj => ?_) (fun j hj => ?_)
          · rw [show nat (nI i) = i from ei]
            by_cases ej : j = i
            · rw [ej, pk_us]
            · rw [pk_un ej]; exact f1 j (by omega)
          · rw [show nat (nI i) = i from ei, pk_un (by omega)]
            exact f2 j (by omega)
      refine hP _ _ _ _ _ ?_
      have q := key m 0 (F 6) (by omega) rfl (fun j hj => absurd hj (Nat.not_lt_zero j)) (fun _ _ => rfl)
      rw [← m3] at q
      exact q
    · refine br_c (fun z => absurd z (by decide)) (fun _ => ?_)
      refine xcall (sp_errH F v 2 (by decide) ?_)
      exact pl_H0 R a1 (by rw [es]; exact m0) h
set_option maxRecDepth 100000 in
theorem MX_places (n : Nat) (σ : xZ) (F v : xS) (R : MR n σ F v) (s : Int32) {K : xKo} (h : mKy n (y_places s σ) (f_places s σ.1) F K) : C_M_places [.ref 0, .int s] (xfill F v 0 (wM0 0)) K := by
  have I := R.J
  have S := R.2.2.2
  refine xM_go rfl 200 [(32, [0, 1, 2])] fun P hP => ?_
  refine xcall (sp_isSheet _ (fun a1 => ?_) (fun a1 => ?_))
  · refine br_n (fun z => absurd rfl z) (fun _ => ?_)
    refine xcall (sp_errM F v (-1000000001) 1 (by decide) (by decide) ?_)
    exact R.no h (if_neg fun z => a1 z.1) (if_neg a1)
  refine br_n (fun _ => ?_) (fun z => absurd z (by decide))
  obtain ⟨k, hk, rfl, ek⟩ := nI_ofx s (n := 4) a1 (by decide)
  have bs : vp_in (nI k) 4 := vin a1
  have ek : Int32.toNatClampNeg (nI k) = k := ek
  obtain ⟨q, hq, eq⟩ := rI4 (k := k) I (by omega)
  obtain ⟨mc, hm, em⟩ : below 7 (F 1 2) := I.1.1.2.1
  obtain ⟨N, eN⟩ : ∃ N, N = min q mc := ⟨_, rfl⟩
  have ep : plN (nI k) (mA F v) = N := by
    unfold plN
    rw [show nat (nI k) = k from ek, eN]
    show min (nat (F 7 k)) (nat (F 1 2)) = min q mc
    rw [eq, em, show nat (nI q) = q from nI_clamp (by omega), show nat (nI mc) = mc from nI_clamp (by omega)]
  refine ⟨bs, ?_⟩
  refine br_n (fun c0 => ?_) (fun c0 => ?_)
  · have u0 : ¬ (mA F v).2.2 5 (nat (nI k)) = 0 := c0
    have ecn : cntP ((mA F v).2.2 (nat (nI k))) (plN (nI k) (mA F v)) 0 = cntP (fun j => F 8 (40 * k + j)) N 0 := by
      rw [ep, show nat (nI k) = k from ek]
      refine cntP_eq fun j hj => ?_
      show xin (mRs F v k j) 12 ↔ _
      rw [mSh (by omega)]
      exact sgn_cell (S.2.2.2.2 k j (by omega) (by omega))
    have fin : ∀ (r : Nat) (F' : xS), r = cntP (fun j => F 8 (40 * k + j)) N 0 → mR r1 F v F' v → tM (F' 1) σ.1.1 (Xat σ.2.1 (fun j => F 8 (40 * k + j)) r) → K (some (.int (nI r))) (xfill F' v 0 (wM0 0)) := by
      intro r F' er E T'
      refine pl_M R a1 u0 h r F' (er.trans ecn.symm) E (T'.ext rfl (fun w j hw hj => ?_))
      by_cases w0 : w = 0
      · subst w0
        show (if j < r then (mA F v).2.2 (nat (nI k)) j else σ.2.1.1 0 j) = (if j < r then F 8 (40 * k + j) else σ.2.1.1 0 j)
        by_cases l : j < r
        · rw [if_pos l, if_pos l, show nat (nI k) = k from ek]
          show mRs F v k j = _
          rw [mSh (by omega)]
          exact bare_cell (cntP_in (f := fun j => F 8 (40 * k + j)) N 0 j (Nat.zero_le j) (by rw [← er]; exact l))
        · rw [if_neg l, if_neg l]
      · exact (congrFun (if_neg w0) j).trans (congrFun (if_neg w0) j).symm
    have key : ∀ (d i : Nat) (F' : xS), i + d = N → mR r1 F v F' v → cntP (fun j => F 8 (40 * k + j)) d i = cntP (fun j => F 8 (40 * k + j)) N 0 → tM (F' 1) σ.1.1 (Xat σ.2.1 (fun j => F 8 (40 * k + j)) i) → xWP pg_M_places K 32 [(0, .ref 0), (1, .int (nI k)), (2, .int (nI i))] [] (xfill F' v 0 (wM0 0)) (0, 0) := by
      intro d
      induction d with
      | zero =>
        intro i F' hi E hc TT
        have e7 := E.k (k := 7) (by decide)
        have eM := E.2.1 2 (by omega) rfl
        have f0 := fin i F' (by rw [← hc]; rfl) E TT
        refine xWP_go 200 [(32, [0, 1, 2])] fun P hP => ?_
        refine ⟨bs, ?_⟩
        refine br_c (fun _ => f0) (fun z => ?_)
        have z : ¬ F' 7 (Int32.toNatClampNeg (nI k)) ≤ nI i := z
        rw [ek, e7, eq, nI_leI (by omega) (by omega)] at z
        refine xcall (sp_isChildM F' v _ ⟨mc, hm, eM.trans em⟩ (fun a2 => ?_) (fun a2 => ?_))
        · refine br_c (fun _ => f0) (fun z => absurd rfl z)
        · have y := a2.2
          rw [eM, em, nI_toInt (by omega), nI_toInt (by omega)] at y
          omega
      | succ d ih =>
        intro i F' hi E hc TT
        have e7 := E.k (k := 7) (by decide)
        have e8 := E.k (k := 8) (by decide)
        have eM := E.2.1 2 (by omega) rfl
        have i7 : i < 7 := by omega
        have bi : vp_in ((40 : Int32) * nI k + nI i) 160 := by rw [ix40]; exact vp_in_nI (by omega) (by omega)
        have n40 : Int32.toNatClampNeg ((40 : Int32) * nI k + nI i) = 40 * k + i := by rw [ix40]; exact nI_clamp (by omega)
        refine xWP_go 200 [(32, [0, 1, 2])] fun P hP => ?_
        refine ⟨bs, ?_⟩
        refine br_c (fun z => ?_) (fun _ => ?_)
        · have z : F' 7 (Int32.toNatClampNeg (nI k)) ≤ nI i := z
          rw [ek, e7, eq, nI_leI (by omega) (by omega)] at z
          omega
        refine xcall (sp_isChildM F' v _ ⟨mc, hm, eM.trans em⟩ (fun a2 => ?_) (fun a2 => ?_))
        · exact absurd ⟨by rw [nI_toInt (by omega)]; omega, by rw [eM, em, nI_toInt (by omega), nI_toInt (by omega)]; omega⟩ a2
        refine br_c (fun z => absurd z (by decide)) (fun _ => ?_)
        refine ⟨bi, ?_⟩
        refine xcall (sp_isCell _ (fun a3 => ?_) (fun a3 => ?_))
        · have a3 : ¬ xin (F 8 (40 * k + i)) 12 := by
            have a3 : ¬ xin (F' 8 (Int32.toNatClampNeg ((40 : Int32) * nI k + nI i))) 12 := a3
            rw [n40, e8] at a3
            exact a3
          refine br_c (fun _ => ?_) (fun z => absurd rfl z)
          exact fin i F' (by rw [← hc]; exact (if_neg a3).symm) E TT
        have a3 : xin (F 8 (40 * k + i)) 12 := by
          have a3 : xin (F' 8 (Int32.toNatClampNeg ((40 : Int32) * nI k + nI i))) 12 := a3
          rw [n40, e8] at a3
          exact a3
        refine br_c (fun z => absurd z (by decide)) (fun _ => ?_)
        refine ⟨bi, ?_⟩
        refine xcall (sx_gets F' v i 2 i7 (by omega) 2 rfl _ ?_)
        refine hP _ _ _ _ _ ?_
        rw [nI_1]
        have rr := r1_at (i := i) (w := 2) i7 (by omega) (by omega)
        rw [nc5 (by omega) (by omega)] at rr
        refine ih (i + 1) _ (by omega) (E.row rr) (by rw [← hc]; exact (if_pos a3).symm) (TT.up (X' := Xat σ.2.1 (fun j => F 8 (40 * k + j)) (i + 1)) R.c.1.1 R.c.1.2 i7 (by decide) _ rfl (fun w j hw hj => ?_))
        have n40 : F' 8 (Int32.toNatClampNeg ((40 : Int32) * nI k + nI i)) = F 8 (40 * k + i) := by rw [n40, e8]
        rcases (show w = 0 ∨ w = 1 ∨ w = 2 by omega) with e | e | e
        all_goals subst e
        · show (if j < i + 1 then F 8 (40 * k + j) else σ.2.1.1 0 j) = if 0 + 2 = 2 ∧ j = i then F' 8 (Int32.toNatClampNeg ((40 : Int32) * nI k + nI i)) else (if j < i then F 8 (40 * k + j) else σ.2.1.1 0 j)
          by_cases ej : j = i
          · subst ej
            rw [if_pos (Nat.lt_succ_self j), if_pos ⟨rfl, rfl⟩, n40]
          · have r : (if 0 + 2 = 2 ∧ j = i then F' 8 (Int32.toNatClampNeg ((40 : Int32) * nI k + nI i)) else (if j < i then F 8 (40 * k + j) else σ.2.1.1 0 j)) = (if j < i then F 8 (40 * k + j) else σ.2.1.1 0 j) := if_neg (fun z => ej z.2)
            rw [r]
            by_cases l : j < i
            · rw [if_pos l, if_pos (by omega)]
            · rw [if_neg l, if_neg (by omega)]
        · exact (if_neg (fun z => absurd z.1 (by decide))).symm
        · exact (if_neg (fun z => absurd z.1 (by decide))).symm
    refine hP _ _ _ _ _ ?_
    exact key N 0 F (by omega) mR.rf rfl (R.t.ext rfl (fun w j hw hj => by
      rcases (show w = 0 ∨ w = 1 ∨ w = 2 by omega) with e | e | e
      all_goals subst e
      all_goals rfl))
  · have u0 : (mA F v).2.2 5 (nat (nI k)) = 0 := c0
    refine xcall (sp_errM F v (-1000000002) 2 (by decide) (by decide) ?_)
    exact pl_M0 R a1 u0 h
end
