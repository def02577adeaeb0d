section
/-! ===== one thing laid more, exactly ===== -/
def sL (s : xS) (c k : Int32) : xS := va_up (va_up (va_up s 0 (upd (s 0) (nat (s 6 0)) c)) 1 (upd (s 1) (nat (s 6 0)) k)) 6 (upd (s 6) 0 (s 6 0 + 1))
def lyS (s : xS) (X : xXt) (m t : Int32) (i : Nat) : Int32 := nI (cnN (sL s (nI i) ((1 : Int32) <<< (m &&& 31))) X m t)
def z_lay (m t w : Int32) (σ : xZ) : xAn := if xin m 6 ∧ xin t 10 ∧ xin w 2 then (if nat (σ.1.1 6 0) < 8 then (if w = 0 then ((mfL (lyS σ.1.1 σ.2.1 m t) 12 0 (0, 8)).1, 0) else ((mfL (lyS σ.1.1 σ.2.1 m t) 12 0 (0, 8)).2, 0)) else (-1000000004, 4)) else (-1000000001, 1)
theorem shl_63 {m : Int32} (h : xin m 6) : below 63 ((1 : Int32) <<< (m &&& 31)) := by
  obtain ⟨k, hk, rfl, -⟩ := nI_ofx m (n := 6) h (by decide)
  have q : ∀ k : Fin 6, ∃ j : Fin 64, (1 : Int32) <<< (nI k.val &&& 31) = nI j.val := by decide +kernel
  obtain ⟨j, e⟩ := q ⟨k, by omega⟩
  exact ⟨j.val, by have := j.isLt; omega, e⟩
theorem cIv.lay {s : xS} {X : xXt} {k : Nat} (I : cIv s X) (e : s 6 0 = nI k) (hk : k < 8) {i : Nat} (hi : i < 12) {M : Int32} (hM : below 63 M) : cIv (sL s (nI i) M) X := by
  have ek : nat (s 6 0) = k := by rw [e]; exact nI_clamp (by omega)
  have e1 : s 6 0 + 1 = nI (k + 1) := by rw [e, nI_1]
  refine ⟨⟨⟨k + 1, by omega, e1⟩, I.1.2⟩, fun j hj => ?_, I.2.2⟩
  have hj : j < nat (s 6 0 + 1) := hj
  rw [e1, show nat (nI (k + 1)) = k + 1 from nI_clamp (by omega)] at hj
  show below 11 (upd (s 0) (nat (s 6 0)) (nI i) j) ∧ below 63 (upd (s 1) (nat (s 6 0)) M j)
  rw [ek]
  by_cases ej : j = k
  · subst ej
    rw [pk_us, pk_us]
    exact ⟨⟨i, by omega, rfl⟩, hM⟩
  · rw [pk_un ej, pk_un ej]
    exact I.2.1 j (by rw [ek]; omega)
theorem tH.lay {F v s : xS} {X : xXt} {k : Nat} {c M : Int32} (T : tH F v s X) (e : s 6 0 = nI k) (hk : k < 8) : tH (va_up (va_up F 1 (upd (F 1) (nat (v 0 2)) c)) 2 (upd (F 2) (nat (v 0 2)) M)) (va_up v 0 (va_up (v 0) 2 (v 0 2 + 1))) (sL s c M) X := by
  obtain ⟨⟨a1, a2, a3, a4⟩, b, r⟩ := T
  have ek : nat (s 6 0) = k := by rw [e]; exact nI_clamp (by omega)
  refine ⟨⟨?_, a2, a3, a4⟩, fun j hj => ?_, r⟩
  · show v 0 2 + 1 = s 6 0 + 1
    rw [a1]
  have hj : j < nat (s 6 0 + 1) := hj
  rw [e, nI_1, show nat (nI (k + 1)) = k + 1 from nI_clamp (by omega)] at hj
  show upd (F 1) (nat (v 0 2)) c j = upd (s 0) (nat (s 6 0)) c j ∧ upd (F 2) (nat (v 0 2)) M j = upd (s 1) (nat (s 6 0)) M j
  rw [a1, ek]
  by_cases ej : j = k
  · subst ej
    rw [pk_us, pk_us, pk_us, pk_us]
    exact ⟨rfl, rfl⟩
  · rw [pk_un ej, pk_un ej, pk_un ej, pk_un ej]
    exact b j (by rw [ek]; omega)
theorem tH.cell {F v s : xS} {X : xXt} {k : Nat} {y M : Int32} (T : tH F v (sL s y M) X) (e : s 6 0 = nI k) (hk : k < 8) (x : Int32) : tH (va_up F 1 (upd (F 1) k x)) v (sL s x M) X := by
  obtain ⟨a, b, r⟩ := T
  have ek : nat (s 6 0) = k := by rw [e]; exact nI_clamp (by omega)
  refine ⟨a, fun j hj => ⟨?_, (b j hj).2⟩, r⟩
  have q : F 1 j = upd (s 0) (nat (s 6 0)) y j := (b j hj).1
  show upd (F 1) k x j = upd (s 0) (nat (s 6 0)) x j
  rw [ek] at q ⊢
  by_cases ej : j = k
  · rw [ej, pk_us, pk_us]
  · rw [pk_un ej, pk_un ej]
    rw [pk_un ej] at q
    exact q
theorem tM.lay {f g : Nat → Int32} {s : xS} {X : xXt} {k : Nat} {c M : Int32} (T : tM f s X) (I : cIv s X) (e : s 6 0 = nI k) (hk : k < 8) (g0 : ∀ j, j < 230 → ¬ j = 9 + 2 * k → ¬ j = 9 + 2 * k + 1 → ¬ j = 3 → g j = f j) (g1 : g (9 + 2 * k) = c) (g2 : g (9 + 2 * k + 1) = M) (g3 : g 3 = nI (k + 1)) : tM g (sL s c M) X := by
  have ek : nat (s 6 0) = k := by rw [e]; exact nI_clamp (by omega)
  have e1 : s 6 0 + 1 = nI (k + 1) := by rw [e, nI_1]
  have c7 := bel_nat I.1.2 (by omega)
  obtain ⟨⟨a1, a2, a3, a4⟩, b, d, x, l0, l1⟩ := T
  refine ⟨⟨?_, ?_, ?_, ?_⟩, fun j hj => ?_, fun j hj => ?_, fun j hj => ?_, ?_, ?_⟩
  · show g 3 = s 6 0 + 1
    rw [g3, e1]
  · exact (g0 2 (by omega) (by omega) (by omega) (by omega)).trans a2
  · exact (g0 0 (by omega) (by omega) (by omega) (by omega)).trans a3
  · exact (g0 8 (by omega) (by omega) (by omega) (by omega)).trans a4
  · have hj : j < nat (s 6 0 + 1) := hj
    rw [e1, show nat (nI (k + 1)) = k + 1 from nI_clamp (by omega)] at hj
    show g (9 + 2 * j) = upd (s 0) (nat (s 6 0)) c j ∧ g (9 + 2 * j + 1) = upd (s 1) (nat (s 6 0)) M j
    rw [ek]
    by_cases ej : j = k
    · subst ej
      rw [pk_us, pk_us]
      exact ⟨g1, g2⟩
    · rw [pk_un ej, pk_un ej, g0 (9 + 2 * j) (by omega) (by omega) (by omega) (by omega), g0 (9 + 2 * j + 1) (by omega) (by omega) (by omega) (by omega)]
      exact b j (by rw [ek]; omega)
  · have hj : j < nat (s 6 1) := hj
    rw [g0 (25 + 5 * j + 0) (by omega) (by omega) (by omega) (by omega), g0 (25 + 5 * j + 1) (by omega) (by omega) (by omega) (by omega)]
    exact d j hj
  · rw [g0 (25 + 5 * j + 2) (by omega) (by omega) (by omega) (by omega), g0 (25 + 5 * j + 3) (by omega) (by omega) (by omega) (by omega), g0 (25 + 5 * j + 4) (by omega) (by omega) (by omega) (by omega)]
    exact x j hj
  · exact l0.of (by decide) (g0 6 (by omega) (by omega) (by omega) (by omega)) (fun y a b => g0 y (by omega) (by omega) (by omega) (by omega))
  · exact l1.of (by decide) (g0 7 (by omega) (by omega) (by omega) (by omega)) (fun y a b => g0 y (by omega) (by omega) (by omega) (by omega))
set_option maxRecDepth 100000 in
theorem HX_lay (n : Nat) (σ : xZ) (F v : xS) (R : HR n σ F v) (m s w : Int32) {K : xKo} (h : hK n σ (z_lay m s w σ) F K) : C_H_lay [.ref 0, .int m, .int s, .int w] (xfill F v 0 wH0) K := by
  obtain ⟨kt, hkt, es⟩ : below 8 (σ.1.1 6 0) := R.c.1.1
  have et : v 1 2 = nI kt := R.n1.1.trans es
  have ek : nat (σ.1.1 6 0) = kt := by rw [es]; exact nI_clamp (by omega)
  obtain ⟨n0, h0, e0⟩ := R.2.2.2.1.1
  obtain ⟨n1, h1, e1⟩ := R.2.2.2.1.2
  refine xM_go rfl 200 [(82, [0, 1, 2, 3, 4, 5, 6, 7])] fun P hP => ?_
  refine xcall (sp_isBelow _ _ (fun a1 => ?_) (fun a1 => ?_))
  · refine br_c (fun _ => ?_) (fun z => absurd rfl z)
    refine xcall (sp_errH F v 1 (by decide) ?_)
    exact R.err h (if_neg fun z => a1 z.1)
  have a1 : xin m 6 := a1
  refine br_c (fun z => absurd z (by decide)) (fun _ => ?_)
  refine xcall (sp_isSteps _ (fun a2 => ?_) (fun a2 => ?_))
  · refine br_c (fun _ => ?_) (fun z => absurd rfl z)
    refine xcall (sp_errH F v 1 (by decide) ?_)
    exact R.err h (if_neg fun z => a2 z.2.1)
  refine br_c (fun z => absurd z (by decide)) (fun _ => ?_)
  refine xcall (sp_isBelow _ _ (fun a3 => ?_) (fun a3 => ?_))
  · refine br_n (fun z => absurd rfl z) (fun _ => ?_)
    refine xcall (sp_errH F v 1 (by decide) ?_)
    exact R.err h (if_neg fun z => a3 z.2.2)
  refine br_n (fun _ => ?_) (fun z => absurd z (by decide))
  have ef : z_lay m s w σ = if nat (σ.1.1 6 0) < 8 then (if w = 0 then ((mfL (lyS σ.1.1 σ.2.1 m s) 12 0 (0, 8)).1, 0) else ((mfL (lyS σ.1.1 σ.2.1 m s) 12 0 (0, 8)).2, 0)) else (-1000000004, 4) := if_pos ⟨a1, a2, a3⟩
  refine br_c (fun a4 => ?_) (fun a4 => ?_)
  rotate_left
  · have a4 : ¬ v 1 2 < nI 8 := a4
    rw [et, nI_ltI (by omega) (by omega)] at a4
    rw [if_neg (by rw [ek]; exact a4)] at ef
    refine xcall (sp_errH F v 4 (by decide) ?_)
    exact R.err h ef
  have a4 : v 1 2 < nI 8 := a4
  rw [et, nI_ltI (by omega) (by omega)] at a4
  rw [if_pos (by rw [ek]; exact a4)] at ef
  obtain ⟨u, hu, rfl, -⟩ := nI_ofx s (n := 10) a2 (by decide)
  have hu : u < 10 := by omega
  obtain ⟨M, eM⟩ : ∃ M, M = (1 : Int32) <<< (m &&& 31) := ⟨_, rfl⟩
  have hM : below 63 M := by rw [eM]; exact shl_63 a1
  obtain ⟨R0, eR⟩ : ∃ R0, R0 = mfL (lyS σ.1.1 σ.2.1 m (nI u)) 12 0 (0, 8) := ⟨_, rfl⟩
  rw [← eR] at ef
  have esc : ∀ i, lyS σ.1.1 σ.2.1 m (nI u) i = nI (cnN (sL σ.1.1 (nI i) M) σ.2.1 m (nI u)) := fun i => by rw [eM]; rfl
  have nkt : Int32.toNatClampNeg (nI kt) = kt := nI_clamp (by omega)
  have key : ∀ (d i : Nat) (p q : Int32) (F' v' : xS), i + d = 12 → hG F v F' v' → (∃ y, tH (fun k => F' (37 + k)) (fun k => v' (37 + k)) (sL σ.1.1 y M) σ.2.1) → mfL (lyS σ.1.1 σ.2.1 m (nI u)) d i (p, q) = R0 → xWP pg_H_lay K 82 [(0, .ref 0), (1, .int m), (2, .int (nI u)), (3, .int w), (4, .int (nI kt)), (5, .int p), (6, .int q), (7, .int (nI i))] [] (xfill F' v' 0 wH0) (0, 0) := by
    intro d
    induction d with
    | zero =>
      intro i p q F' v' hi E TT er
      have er : (p, q) = R0 := er
      rw [← er] at ef
      refine xWP_go 200 [(82, [0, 1, 2, 3, 4, 5, 6, 7])] fun P hP => ?_
      refine br_c (fun _ => ?_) (fun z => ?_)
      · refine br_n (fun y => ?_) (fun y => ?_)
        · rw [if_neg y] at ef
          exact R.go h E ef
        · rw [if_pos y] at ef
          exact R.go h E ef
      · have z : ¬ nI 12 ≤ nI i := z
        exact absurd (by rw [nI_leI (by omega) (by omega)]; omega) z
    | succ d ih =>
      intro i p q F' v' hi E TT er
      obtain ⟨y, TY⟩ := TT
      have er : mfL (lyS σ.1.1 σ.2.1 m (nI u)) d (i + 1) (if lyS σ.1.1 σ.2.1 m (nI u) i < q then (nI i, lyS σ.1.1 σ.2.1 m (nI u) i) else (p, q)) = R0 := er
      have ei := esc i
      refine xWP_go 200 [(82, [0, 1, 2, 3, 4, 5, 6, 7])] fun P hP => ?_
      refine br_c (fun z => ?_) (fun _ => ?_)
      · have z : nI 12 ≤ nI i := z
        rw [nI_leI (by omega) (by omega)] at z
        omega
      refine ⟨vp_in_nI a4 (by omega), ?_⟩
      have T1 : tH (fun j => va_up F' 38 (upd (F' 38) (Int32.toNatClampNeg (nI kt)) (nI i)) (37 + j)) (fun k => v' (37 + k)) (sL σ.1.1 (nI i) M) σ.2.1 := by
        rw [nkt]
        exact (TY.cell es a4 (nI i)).ext rfl (fun _ _ _ _ => rfl)
      have I1 : cIv (sL σ.1.1 (nI i) M) σ.2.1 := R.c.lay es a4 (by omega) hM
      refine xcall (sx_wouldBeHad (fun j => va_up F' 38 (upd (F' 38) (Int32.toNatClampNeg (nI kt)) (nI i)) (37 + j)) (fun k => v' (37 + k)) (sL σ.1.1 (nI i) M) σ.2.1 T1 I1 m u hu (fun G w2 E2 _ => ?_))
      have E3 : hG F v (upS 37 (va_up F' 38 (upd (F' 38) (Int32.toNatClampNeg (nI kt)) (nI i))) G) (upS 37 v' w2) := (E.fu (k := 38) rfl).tr hG.up37
      have T3 : tH (fun j => upS 37 (va_up F' 38 (upd (F' 38) (Int32.toNatClampNeg (nI kt)) (nI i))) G (37 + j)) (fun j => upS 37 v' w2 (37 + j)) (sL σ.1.1 (nI i) M) σ.2.1 := by have T2 := T1.e E2; exact T2
      refine xcall (sx_bitCount _ (stN (eHad (sL σ.1.1 (nI i) M) σ.2.1 m (nI u)) (nat ((sL σ.1.1 (nI i) M) 6 1))) rfl (by have := st128 I1 (b := m) (t := nI u); omega) ?_)
      refine br_c (fun z => ?_) (fun z => ?_)
      · have z : q ≤ nI (cnN (sL σ.1.1 (nI i) M) σ.2.1 m (nI u)) := z
        rw [← ei] at z
        rw [if_neg (fun y => by rw [xlt] at y; rw [xle] at z; omega)] at er
        refine hP _ _ _ _ _ ?_
        rw [nI_1]
        exact ih (i + 1) _ _ _ _ (by omega) E3 ⟨_, T3⟩ er
      · have z : ¬ q ≤ nI (cnN (sL σ.1.1 (nI i) M) σ.2.1 m (nI u)) := z
        rw [← ei] at z
        rw [if_pos (by rw [xlt]; rw [xle] at z; omega)] at er
        rw [ei] at er
        refine hP _ _ _ _ _ ?_
        rw [nI_1]
        exact ih (i + 1) _ _ _ _ (by omega) E3 ⟨_, T3⟩ er
  refine xcall (sp_copy (thF F) (thF v) n0 n1 h0 h1 e0 e1 ?_)
  refine xcall (sp_addThing (cpF (thF F) n0 n1) (cpV (thF v) n0 n1) 0 _ kt (by omega) et ?_)
  refine hP _ _ _ _ _ ?_
  have TC := (R.t.copy R.c h0 h1 e0 e1).lay (c := 0) (M := M) es a4
  rw [eM] at TC
  have q := key 12 0 0 8 (upS 37 F (va_up (va_up (cpF (thF F) n0 n1) 1 (upd (cpF (thF F) n0 n1 1) (nat (cpV (thF v) n0 n1 0 2)) 0)) 2 (upd (cpF (thF F) n0 n1 2) (nat (cpV (thF v) n0 n1 0 2)) ((1 : Int32) <<< (m &&& 31))))) (upS 37 v (va_up (cpV (thF v) n0 n1) 0 (va_up (cpV (thF v) n0 n1 0) 2 (cpV (thF v) n0 n1 0 2 + 1)))) (by omega) hG.up37 ⟨0, by rw [eM]; exact TC⟩ eR.symm
  rw [← et] at q
  exact q
-- the reference
def rL (k j : Nat) : Bool := j == 9 + 2 * k || j == 9 + 2 * k + 1
theorem rL_n {k j : Nat} (h0 : ¬ j = 9 + 2 * k) (h1 : ¬ j = 9 + 2 * k + 1) : rL k j = false := by
  unfold rL
  rw [Bool.or_eq_false_iff]
  exact ⟨by simpa using h0, by simpa using h1⟩
theorem MR.lay {n k : Nat} {σ : xZ} {F v F' v' : xS} (R : MR n σ F v) (hk : k < 8) (e : F 1 3 = nI k) (E : mR (rL k) F v F' v') : MR (n + 1) σ F' v' := by
  have g : ∀ j, j < 230 → ¬ j = 9 + 2 * k → ¬ j = 9 + 2 * k + 1 → F' 1 j = F 1 j := fun j l h0 h1 => E.2.1 j l (rL_n h0 h1)
  have I := R.J
  have n2 : nat (F 1 2) ≤ 7 := bel_nat I.1.1.2.1 (by omega)
  have n4 : nat (F 1 4) ≤ 50 := bel_nat I.1.1.2.2.2.1 (by omega)
  have n5 : nat (F 1 5) ≤ 20 := bel_nat I.1.1.2.2.2.2 (by omega)
  have S := R.2.2.2
  have ZZ := mXr.row.mp R.z.1
  refine ⟨R.1.up, R.2.1, agr.tr (t := mA F v) ?_ R.2.2.1, R.mS (σ' := σ) ⟨?_, ?_⟩ (E.k ⟨by decide, by decide, by decide, by decide⟩) ⟨E.v (by omega), E.v (by omega), E.v (by omega)⟩ ⟨E.k ⟨by decide, by decide, by decide, by decide⟩, E.k ⟨by decide, by decide, by decide, by decide⟩⟩ ⟨fun j hj => ?_, ?_, ?_, ?_⟩ rfl rfl⟩
  · refine ⟨⟨⟨g 3 (by omega) (by omega) (by omega), g 2 (by omega) (by omega) (by omega), g 0 (by omega) (by omega) (by omega), g 1 (by omega) (by omega) (by omega), g 4 (by omega) (by omega) (by omega), g 5 (by omega) (by omega) (by omega)⟩, fun j hj => ?_, fun j hj => ?_, fun j hj => ?_, fun j hj => ?_⟩, ?_, fun _ => ?_⟩
    · have hj : j < nat (F' 1 3) := hj
      rw [g 3 (by omega) (by omega) (by omega), e, show nat (nI k) = k from nI_clamp (by omega)] at hj
      exact ⟨g (9 + 2 * j) (by omega) (by omega) (by omega), g (9 + 2 * j + 1) (by omega) (by omega) (by omega)⟩
    · have hj : j < nat (F' 1 2) := hj
      rw [g 2 (by omega) (by omega) (by omega)] at hj
      exact ⟨g (25 + 5 * j + 0) (by omega) (by omega) (by omega), g (25 + 5 * j + 1) (by omega) (by omega) (by omega)⟩
    · have hj : j < nat (F' 1 4) := hj
      rw [g 4 (by omega) (by omega) (by omega)] at hj
      exact g (60 + j) (by omega) (by omega) (by omega)
    · have hj : j < nat (F' 1 5) := hj
      rw [g 5 (by omega) (by omega) (by omega)] at hj
      exact g (110 + j) (by omega) (by omega) (by omega)
    · have q : mRs F' v' = mRs F v := by
        unfold mRs
        rw [E.k (k := 6) ⟨by decide, by decide, by decide, by decide⟩, E.k (k := 7) ⟨by decide, by decide, by decide, by decide⟩, E.k (k := 8) ⟨by decide, by decide, by decide, by decide⟩, E.k (k := 10) ⟨by decide, by decide, by decide, by decide⟩, E.v (j := 5) (by omega), E.v (j := 21) (by omega)]
      show rAgr (mRs F' v') (mRs F v)
      rw [q]
      exact rAgr.rf
    · show sAgr (mSt (F' 2)) (mSt (F 2))
      rw [E.k (k := 2) ⟨by decide, by decide, by decide, by decide⟩]
      exact sAgr.rf
  · rw [g 6 (by omega) (by omega) (by omega)]; exact S.1.1
  · rw [g 7 (by omega) (by omega) (by omega)]; exact S.1.2
  · rw [g (25 + 5 * j + 2) (by omega) (by omega) (by omega), g (25 + 5 * j + 3) (by omega) (by omega) (by omega), g (25 + 5 * j + 4) (by omega) (by omega) (by omega)]
    exact ZZ.1 j hj
  · rw [g 8 (by omega) (by omega) (by omega)]
    exact ZZ.2.1
  · exact ZZ.2.2.1.of (by decide) (g 6 (by omega) (by omega) (by omega)) (fun y a b => g y (by omega) (by omega) (by omega))
  · exact ZZ.2.2.2.of (by decide) (g 7 (by omega) (by omega) (by omega)) (fun y a b => g y (by omega) (by omega) (by omega))
set_option maxRecDepth 100000 in
theorem MX_lay (n : Nat) (σ : xZ) (F v : xS) (R : MR n σ F v) (m s w : Int32) {K : xKo} (h : mK n σ (z_lay m s w σ) F K) : C_M_lay [.ref 0, .int m, .int s, .int w] (xfill F v 0 (wM0 0)) K := by
  obtain ⟨k, hk, es⟩ : below 8 (σ.1.1 6 0) := R.c.1.1
  have e : F 1 3 = nI k := R.n1.1.trans es
  have ek : nat (σ.1.1 6 0) = k := by rw [es]; exact nI_clamp (by omega)
  refine xM_go rfl 200 [(58, [0, 1, 2, 3, 4, 5, 6])] fun P hP => ?_
  refine xcall (sp_isMark _ (fun a1 => ?_) (fun a1 => ?_))
  · refine br_c (fun _ => ?_) (fun z => absurd rfl z)
    refine xcall (sp_errM F v (-1000000001) 1 (by decide) (by decide) ?_)
    exact R.err h (if_neg fun z => a1 z.1)
  refine br_c (fun z => absurd z (by decide)) (fun _ => ?_)
  refine xcall (sp_areSteps _ (fun a2 => ?_) (fun a2 => ?_))
  · refine br_c (fun _ => ?_) (fun z => absurd rfl z)
    refine xcall (sp_errM F v (-1000000001) 1 (by decide) (by decide) ?_)
    exact R.err h (if_neg fun z => a2 z.2.1)
  refine br_c (fun z => absurd z (by decide)) (fun _ => ?_)
  refine xcall (sp_inx _ 1 2 (by decide) (fun a3 => ?_) (fun a3 => ?_))
  · refine br_n (fun z => absurd rfl z) (fun _ => ?_)
    refine xcall (sp_errM F v (-1000000001) 1 (by decide) (by decide) ?_)
    exact R.err h (if_neg fun z => a3 z.2.2)
  refine br_n (fun _ => ?_) (fun z => absurd z (by decide))
  have ef : z_lay m s w σ = if nat (σ.1.1 6 0) < 8 then (if w = 0 then ((mfL (lyS σ.1.1 σ.2.1 m s) 12 0 (0, 8)).1, 0) else ((mfL (lyS σ.1.1 σ.2.1 m s) 12 0 (0, 8)).2, 0)) else (-1000000004, 4) := if_pos ⟨a1, a2, a3⟩
  refine ⟨vin (by decide), ?_⟩
  refine br_n (fun z => ?_) (fun z => ?_)
  rotate_left
  · have z : F 1 3 = nI 8 := z
    have k8 : k = 8 := by
      have q := congrArg nat (e.symm.trans z)
      rw [show nat (nI k) = k from nI_clamp (by omega), show nat (nI 8) = 8 from nI_clamp (by omega)] at q
      exact q
    rw [if_neg (by rw [ek, k8]; decide)] at ef
    refine xcall (sp_errM F v (-1000000004) 4 (by decide) (by decide) ?_)
    exact R.err h ef
  have z : ¬ F 1 3 = nI 8 := z
  have k8 : k < 8 := by
    have : ¬ k = 8 := fun y => z (by rw [e, y])
    omega
  rw [if_pos (by rw [ek]; exact k8)] at ef
  obtain ⟨u, hu, rfl, -⟩ := nI_ofx s (n := 10) a2 (by decide)
  have hu : u < 10 := by omega
  obtain ⟨M, eM⟩ : ∃ M, M = (1 : Int32) <<< (m &&& 31) := ⟨_, rfl⟩
  have hM : below 63 M := by rw [eM]; exact shl_63 a1
  obtain ⟨R0, eR⟩ : ∃ R0, R0 = mfL (lyS σ.1.1 σ.2.1 m (nI u)) 12 0 (0, 8) := ⟨_, rfl⟩
  rw [← eR] at ef
  have esc : ∀ i, lyS σ.1.1 σ.2.1 m (nI u) i = nI (cnN (sL σ.1.1 (nI i) M) σ.2.1 m (nI u)) := fun i => by rw [eM]; rfl
  have key : ∀ (d i : Nat) (p q : Int32) (F' v' : xS), i + d = 12 → mR (rL k) F v F' v' → mfL (lyS σ.1.1 σ.2.1 m (nI u)) d i (p, q) = R0 → xWP pg_M_lay K 58 [(0, .ref 0), (1, .int m), (2, .int (nI u)), (3, .int w), (4, .int p), (5, .int q), (6, .int (nI i))] [] (xfill F' v' 0 (wM0 0)) (0, 0) := by
    intro d
    induction d with
    | zero =>
      intro i p q F' v' hi E er
      have er : (p, q) = R0 := er
      rw [← er] at ef
      have RF := R.lay k8 e E
      refine xWP_go 200 [(58, [0, 1, 2, 3, 4, 5, 6])] fun P hP => ?_
      refine br_c (fun _ => ?_) (fun z => ?_)
      · refine br_n (fun y => ?_) (fun y => ?_)
        · rw [if_neg y] at ef
          rw [ef] at h
          exact h _ _ RF (E.f5.trans bm_0.symm)
        · rw [if_pos y] at ef
          rw [ef] at h
          exact h _ _ RF (E.f5.trans bm_0.symm)
      · have z : ¬ nI 12 ≤ nI i := z
        exact absurd (by rw [nI_leI (by omega) (by omega)]; omega) z
    | succ d ih =>
      intro i p q F' v' hi E er
      have er : mfL (lyS σ.1.1 σ.2.1 m (nI u)) d (i + 1) (if lyS σ.1.1 σ.2.1 m (nI u) i < q then (nI i, lyS σ.1.1 σ.2.1 m (nI u) i) else (p, q)) = R0 := er
      have ei := esc i
      have g : ∀ j, j < 230 → ¬ j = 9 + 2 * k → ¬ j = 9 + 2 * k + 1 → F' 1 j = F 1 j := fun j l h0 h1 => E.2.1 j l (rL_n h0 h1)
      have e' : F' 1 3 = nI k := (g 3 (by omega) (by omega) (by omega)).trans e
      refine xWP_go 200 [(58, [0, 1, 2, 3, 4, 5, 6])] fun P hP => ?_
      refine br_c (fun z => ?_) (fun _ => ?_)
      · have z : nI 12 ≤ nI i := z
        rw [nI_leI (by omega) (by omega)] at z
        omega
      refine xcall (sp_addsM F' v' (nI i) _ k k8 e' fun f f1 f2 f3 f4 => ?_)
      have T1 : tM f (sL σ.1.1 (nI i) M) σ.2.1 := R.t.lay R.c es k8 (fun j hj j0 j1 j3 => (f1 j j0 j1 j3).trans (g j hj j0 j1)) f2 (f3.trans eM.symm) f4
      have I1 : cIv (sL σ.1.1 (nI i) M) σ.2.1 := R.c.lay es k8 (by omega) hM
      refine xcall (sx_wouldBe (va_up F' 1 f) v' (sL σ.1.1 (nI i) M) σ.2.1 T1 I1 m u hu (fun F2 v2 E2 => ?_))
      have e15 : v' 0 15 = 0 := (E.v (j := 15) (by omega)).trans R.tk
      rw [e15, sm_0]
      refine xcall (sx_bits _ (stN (eHad (sL σ.1.1 (nI i) M) σ.2.1 m (nI u)) (nat ((sL σ.1.1 (nI i) M) 6 1))) rfl (by have := st128 I1 (b := m) (t := nI u); omega) ?_)
      refine ⟨vin (by decide), ?_⟩
      refine ⟨vin (by decide), ?_⟩
      have E3 : mR (rL k) F v (va_up F2 1 (upd (F2 1) 3 (nI k))) v2 := by
        refine E.tr ⟨fun x => ?_, fun j hj z => ?_, E2.2.2⟩
        · by_cases x1 : x = 1
          · exact Or.inl x1
          · rw [show va_up F2 1 (upd (F2 1) 3 (nI k)) x = F2 x from if_neg x1]
            rcases E2.1 x with y | y | y | y | y
            · exact Or.inl y
            · exact Or.inr (Or.inl y)
            · exact Or.inr (Or.inr (Or.inl y))
            · exact Or.inr (Or.inr (Or.inr (Or.inl y)))
            · exact Or.inr (Or.inr (Or.inr (Or.inr (y.trans (if_neg x1)))))
        · show upd (F2 1) 3 (nI k) j = F' 1 j
          have z1 : ¬ j = 9 + 2 * k ∧ ¬ j = 9 + 2 * k + 1 := by
            unfold rL at z
            rw [Bool.or_eq_false_iff] at z
            exact ⟨by simpa using z.1, by simpa using z.2⟩
          by_cases j3 : j = 3
          · rw [j3, pk_us, e']
          · rw [pk_un j3, E2.2.1 j hj rfl]
            exact f1 j z1.1 z1.2 j3
      have er3 : upd (F2 1) 3 (nI k) = upd (F2 1) (Int32.toNatClampNeg 3) (F2 1 (Int32.toNatClampNeg 3) - 1) := by
        rw [nq3, E2.2.1 3 (by omega) rfl]
        show upd (F2 1) 3 (nI k) = upd (F2 1) 3 (f 3 - 1)
        rw [f4, nI_pred]
      rw [er3] at E3
      refine br_c (fun z => ?_) (fun z => ?_)
      · refine br_c (fun z2 => ?_) (fun z2 => absurd z z2)
        have z : q ≤ nI (cnN (sL σ.1.1 (nI i) M) σ.2.1 m (nI u)) := z
        rw [← ei] at z
        rw [if_neg (fun y => by rw [xlt] at y; rw [xle] at z; omega)] at er
        refine hP _ _ _ _ _ ?_
        rw [nI_1]
        exact ih (i + 1) _ _ _ _ (by omega) E3 er
      · refine br_c (fun z2 => absurd z2 z) (fun z2 => ?_)
        have z : ¬ q ≤ nI (cnN (sL σ.1.1 (nI i) M) σ.2.1 m (nI u)) := z
        rw [← ei] at z
        rw [if_pos (by rw [xlt]; rw [xle] at z; omega)] at er
        rw [ei] at er
        refine hP _ _ _ _ _ ?_
        rw [nI_1]
        exact ih (i + 1) _ _ _ _ (by omega) E3 er
  refine hP _ _ _ _ _ ?_
  exact key 12 0 0 8 F v (by omega) mR.rf eR.symm
end
section
/-! ===== games by draws, exactly ===== -/
theorem ushr8 (y : Int32) : ∃ q, q < 2 ^ 24 ∧ ushr y 8 = nI q := by
  have ea : ushr y 8 = (y.toUInt32 >>> 8).toInt32 := by
    unfold ushr
    rw [show (Int32.toUInt32 8 &&& Int32.toUInt32 31) = 8 by decide]
  have l : (y.toUInt32 >>> 8).toNat < 2 ^ 24 := by
    have q : (y.toUInt32 >>> 8).toNat = y.toUInt32.toNat >>> 8 := by
      rw [UInt32.toNat_shiftRight]
      rfl
    have h := y.toUInt32.toNat_lt
    rw [q, Nat.shiftRight_eq_div_pow]
    omega
  refine ⟨(y.toUInt32 >>> 8).toNat, l, ?_⟩
  rw [ea]
  refine xeq.mpr ?_
  rw [nI_toInt (by omega)]
  have l2 : (y.toUInt32 >>> 8).toBitVec.toNat < 2 ^ 24 := l
  show (y.toUInt32 >>> 8).toBitVec.toInt = _
  rw [BitVec.toInt_eq_toNat_of_lt (by omega)]
  rfl
theorem rem_tm (x y : Int32) (h : ¬ y = 0) : (x - x / y * y).toInt = x.toInt.tmod y.toInt := by
  have hy : ¬ y.toInt = 0 := fun z => h (xeq.mpr (by rw [z]; rfl))
  rw [Int32.toInt_sub, Int32.toInt_mul, Int32.toInt_div, Int.bmod_mul_bmod, Int.sub_bmod_bmod, Int.mul_comm, ← Int.tmod_def]
  have l := Int.natAbs_tmod x.toInt y.toInt
  have q : x.toInt.natAbs % y.toInt.natAbs < y.toInt.natAbs := Nat.mod_lt _ (by omega)
  have y1 := y.toInt_lt
  have y2 := y.le_toInt
  refine Int.bmod_eq_of_le ?_ ?_
  · have := Int.natAbs_tmod x.toInt y.toInt; omega
  · omega
theorem rem_nI {q k : Nat} (hq : q < 2 ^ 31) (h0 : 0 < k) (hk : k < 2 ^ 31) : nI q - nI q / nI k * nI k = nI (q % k) := by
  have l : q % k < k := Nat.mod_lt _ h0
  have n0 : ¬ nI k = 0 := nI_ne0 (by omega) hk
  refine xeq.mpr ?_
  rw [rem_tm _ _ n0, nI_toInt hq, nI_toInt hk, nI_toInt (by omega)]
  rfl
def mdV (y k : Int32) : Int32 := ushr y 8 - ushr y 8 / k * k
theorem md_in (y : Int32) {k : Nat} (h0 : 0 < k) (hk : k < 2 ^ 31) : ∃ j, j < k ∧ mdV y (nI k) = nI j := by
  obtain ⟨q, hq, e⟩ := ushr8 y
  refine ⟨q % k, Nat.mod_lt _ h0, ?_⟩
  unfold mdV
  rw [e]
  exact rem_nI (by omega) h0 hk
def lsS (s : xS) (z : Int32) : xS := va_up s 6 (upd (s 6) 3 z)
/-- one drawn game -/
def lz1 (p : xS × xXt) : xS × xXt := (clS (lsS p.1 (zS (zS (p.1 6 3)))), ePlay (lsS p.1 (zS (zS (p.1 6 3)))) p.2 (mdV (zS (p.1 6 3)) 6) (mdV (zS (zS (p.1 6 3))) 5))
def lzc (p : xS × xXt) : Int32 := nI (cnN (lsS p.1 (zS (zS (p.1 6 3)))) p.2 (mdV (zS (p.1 6 3)) 6) (mdV (zS (zS (p.1 6 3))) 5))
def lzG : Nat → xS × xXt → xS × xXt
  | 0, p => p
  | n + 1, p => lz1 (lzG n p)
def lzC : Nat → xS × xXt → Int32
  | 0, _ => 0
  | n + 1, p => lzC n p + lzc (lzG n p)
abbrev lsOk (n : Int32) (σ : xZ) : Prop := (1 ≤ n.toInt ∧ n.toInt ≤ 40) ∧ nat (σ.1.1 6 2) + nat n ≤ 9999
def z_loose (n : Int32) (σ : xZ) : xAn := if 1 ≤ n.toInt ∧ n.toInt ≤ 40 then (if nat (σ.1.1 6 2) + nat n ≤ 9999 then (lzC (nat n) (σ.1.1, σ.2.1), 0) else (-1000000003, 3)) else (-1000000001, 1)
def y_loose (n : Int32) (σ : xZ) : xZ := if lsOk n σ then (((lzG (nat n) (σ.1.1, σ.2.1)).1, σ.1.2), (lzG (nat n) (σ.1.1, σ.2.1)).2, σ.2.2) else σ
def lzI (s : xS) (c i : Nat) (p : xS × xXt) : Prop := ((p.1 6 0 = s 6 0 ∧ p.1 6 1 = s 6 1 ∧ p.1 6 4 = s 6 4 ∧ p.1 6 5 = s 6 5) ∧ ∀ k, k < 6 → p.1 k = s k) ∧ (p.1 6 2 = nI (c + i) ∧ p.1 6 3 = zN i (s 6 3)) ∧ cIv p.1 p.2 ∧ out0 p.1 p.2
theorem cIv.ls {s : xS} {X : xXt} (I : cIv s X) (z : Int32) : cIv (lsS s z) X := I
theorem out0.ls {s : xS} {X : xXt} (O : out0 s X) (z : Int32) : out0 (lsS s z) X := O
theorem lzI.go {s : xS} {c i : Nat} {p : xS × xXt} (h : lzI s c i p) : lzI s c (i + 1) (lz1 p) := by
  obtain ⟨⟨⟨a0, a1, a2, a3⟩, b⟩, ⟨d, e⟩, I, O⟩ := h
  refine ⟨⟨⟨a0, a1, a2, a3⟩, fun k hk => ?_⟩, ⟨?_, ?_⟩, (I.ls _).play, (O.ls _).play⟩
  · exact (if_neg (by omega)).trans ((if_neg (by omega)).trans (b k hk))
  · show p.1 6 2 + 1 = nI (c + (i + 1))
    rw [d, nI_1]
    rfl
  · show zS (zS (p.1 6 3)) = zN (i + 1) (s 6 3)
    rw [e]
    rfl
theorem lzI.all {s : xS} {X : xXt} {c : Nat} (e : s 6 2 = nI c) (I : cIv s X) (O : out0 s X) : ∀ i, lzI s c i (lzG i (s, X)) := by
  intro i
  induction i with
  | zero => exact ⟨⟨⟨rfl, rfl, rfl, rfl⟩, fun _ _ => rfl⟩, ⟨e, rfl⟩, I, O⟩
  | succ i ih => exact ih.go
theorem sx_draw (F v : xS) (y : Int32) (hy : y = zS (v 0 11)) {K : xKo} (h : K (some (.int (ushr y 8))) (xfill F (va_up v 0 (va_up (v 0) 11 y)) 0 (wT0 0))) : C_T_draw [.ref 0] (xfill F v 0 (wT0 0)) K := by
  refine xM_go rfl 60 [] fun P hP => ?_
  subst hy
  exact h
theorem sx_drawn (F v : xS) (k y : Int32) (hk : ¬ k = 0) (hy : y = zS (F 1 1)) {K : xKo} (h : K (some (.int (mdV y k))) (xfill (va_up F 1 (upd (F 1) 1 y)) v 0 (wM0 0))) : C_M_drawn [.ref 0, .int k] (xfill F v 0 (wM0 0)) K := by
  refine xM_go rfl 60 [] fun P hP => ?_
  subst hy
  refine ⟨vin (by decide), ?_⟩
  refine ⟨vin (by decide), ?_⟩
  refine ⟨vin (by decide), ?_⟩
  refine ⟨hk, ?_⟩
  exact h
set_option maxRecDepth 100000 in
theorem sx_playE (F v s : xS) (X : xXt) (T : tH F v s X) (I : cIv s X) (m t : Int32) (u : Nat) (hu : u < 10) (et : t = nI u) {K : xKo} (h : ∀ F' v', tR aP bQ F v F' v' → tH F' v' (clS s) (ePlay s X m t) → K (some (.int (eSet s X m t))) (xfill F' v' 0 (wT0 0))) : C_T_play [.ref 0, .int m, .int t] (xfill F v 0 (wT0 0)) K := by
  subst et
  exact sx_play F v s X T I m u hu h
theorem sx_callsE (F v s : xS) (X : xXt) (T : tM (F 1) s X) (I : cIv s X) (b t : Int32) (u : Nat) (hu : u < 10) (et : t = nI u) (tk : v 0 15 = 0) {K : xKo} (h : ∀ F' v', (∀ k, ¬ k = 1 → F' k = F k) → mR r2 F v F' v' → tM (F' 1) (clS s) (ePlay s X b t) → K (some (.int (eSet s X b t))) (xfill F' v' 0 (wM0 0))) : C_M_calls [.ref 0, .int b, .int t] (xfill F v 0 (wM0 0)) K := by
  subst et
  refine sx_calls F v s X T I b u hu (fun F' v' G E T' => ?_)
  rw [tk, sm_0] at T' ⊢
  exact h F' v' G E T'
set_option maxRecDepth 100000 in
theorem HX_loose (n : Nat) (σ : xZ) (F v : xS) (R : HR n σ F v) (x : Int32) {K : xKo} (h : hKy n (y_loose x σ) (z_loose x σ) F K) : C_H_loose [.ref 0, .int x] (xfill F v 0 wH0) K := by
  obtain ⟨c, hc, es⟩ : below 9999 (σ.1.1 6 2) := R.1.1.1.2.2.1
  have ec : v 1 10 = nI c := R.n1.2.2.1.trans es
  have ez : v 1 11 = σ.1.1 6 3 := R.n1.2.2.2.1
  have en : nat (σ.1.1 6 2) = c := by rw [es]; exact nI_clamp (by omega)
  refine xM_go rfl 200 [(42, [0, 1, 2, 3])] fun P hP => ?_
  refine br_c (fun a1 => ?_) (fun a1 => ?_)
  · have a1 : x < 1 := a1
    rw [xlt, show (1 : Int32).toInt = 1 by decide] at a1
    refine xcall (sp_errH F v 1 (by decide) ?_)
    exact R.no h (if_neg (fun z => by have := z.1.1; omega)) (if_neg (by omega))
  have a1 : ¬ x < 1 := a1
  rw [xlt, show (1 : Int32).toInt = 1 by decide] at a1
  refine br_c (fun a2 => ?_) (fun a2 => ?_)
  rotate_left
  · have a2 : ¬ x ≤ 40 := a2
    rw [xle, show (40 : Int32).toInt = 40 by decide] at a2
    refine xcall (sp_errH F v 1 (by decide) ?_)
    exact R.no h (if_neg (fun z => by have := z.1.2; omega)) (if_neg (by omega))
  have a2 : x ≤ 40 := a2
  rw [xle, show (40 : Int32).toInt = 40 by decide] at a2
  obtain ⟨m, hm, rfl, em⟩ := nI_ofx x (n := 41) ⟨by omega, by omega⟩ (by decide)
  have c1 : 1 ≤ (nI m).toInt ∧ (nI m).toInt ≤ 40 := ⟨by omega, a2⟩
  have ess : v 1 10 + nI m = nI (c + m) := by rw [ec, nI_add]
  refine br_c (fun a3 => ?_) (fun a3 => ?_)
  rotate_left
  · have a3 : ¬ v 1 10 + nI m ≤ nI 9999 := a3
    rw [ess, nI_leI (by omega) (by omega)] at a3
    have c2 : ¬ nat (σ.1.1 6 2) + nat (nI m) ≤ 9999 := by omega
    refine xcall (sp_errH F v 3 (by decide) ?_)
    exact R.no h (if_neg fun z => c2 z.2) ((if_pos c1).trans (if_neg c2))
  have a3 : v 1 10 + nI m ≤ nI 9999 := a3
  rw [ess, nI_leI (by omega) (by omega)] at a3
  have c2 : nat (σ.1.1 6 2) + nat (nI m) ≤ 9999 := by omega
  unfold y_loose z_loose at h
  rw [if_pos ⟨c1, c2⟩, if_pos c1, if_pos c2, em] at h
  have LI := lzI.all es R.c R.2.1.1.2
  have key : ∀ (d i : Nat) (F' v' : xS), i + d = m → hQ F v F' v' → tH (fun k => F' (1 + k)) (fun k => v' (1 + k)) (lzG i (σ.1.1, σ.2.1)).1 (lzG i (σ.1.1, σ.2.1)).2 → v' 1 11 = (lzG i (σ.1.1, σ.2.1)).1 6 3 → xWP pg_H_loose K 42 [(0, .ref 0), (1, .int (nI m)), (2, .int (lzC i (σ.1.1, σ.2.1))), (3, .int (nI i))] [] (xfill F' v' 0 wH0) (0, 0) := by
    intro d
    induction d with
    | zero =>
      intro i F' v' hi E T e2
      have hi : i = m := hi
      subst hi
      obtain ⟨⟨⟨l0, l1, l2, l3⟩, l4⟩, ⟨l5, l6⟩, lI, lO⟩ := LI i
      refine xWP_go 100 [(42, [0, 1, 2, 3])] fun P hP => ?_
      refine br_c (fun _ => ?_) (fun z => absurd (nI_le (Nat.le_refl _) (by omega)) z)
      refine h F' v' (R.play E T ⟨⟨l0, l1, e2.symm, l2, l3⟩, l4⟩ ⟨c + i, by omega, l5⟩ ⟨lI, lO⟩) ((E.1 69 rfl).trans bm_0.symm)
    | succ d ih =>
      intro i F' v' hi E T e2
      obtain ⟨p, ep⟩ : ∃ p, p = lzG i (σ.1.1, σ.2.1) := ⟨_, rfl⟩
      have LIi := LI i
      have nx := ih (i + 1)
      have eG : lzG (i + 1) (σ.1.1, σ.2.1) = lz1 p := by rw [ep]; rfl
      have eC : lzC (i + 1) (σ.1.1, σ.2.1) = lzC i (σ.1.1, σ.2.1) + lzc p := by rw [ep]; rfl
      rw [eG, eC] at nx
      rw [← ep] at T e2 LIi
      obtain ⟨-, -, lI, lO⟩ := LIi
      refine xWP_go 100 [(42, [0, 1, 2, 3])] fun P hP => ?_
      refine br_c (fun z => absurd z (nI_ge (by omega) (by omega))) (fun _ => ?_)
      obtain ⟨y1, hy1⟩ : ∃ y, y = zS (v' 1 11) := ⟨_, rfl⟩
      obtain ⟨y2, hy2⟩ : ∃ y, y = zS y1 := ⟨_, rfl⟩
      have d1 : zS (p.1 6 3) = y1 := by rw [hy1, e2]
      have d2 : zS (zS (p.1 6 3)) = y2 := by rw [d1, hy2]
      have eP : lz1 p = (clS (lsS p.1 y2), ePlay (lsS p.1 y2) p.2 (mdV y1 6) (mdV y2 5)) := by unfold lz1; rw [d2, d1]
      have eQ : lzc p = nI (cnN (lsS p.1 y2) p.2 (mdV y1 6) (mdV y2 5)) := by unfold lzc; rw [d2, d1]
      rw [eP, eQ] at nx
      obtain ⟨u, hu, eu⟩ := md_in y2 (k := 5) (by decide) (by decide)
      have eu : mdV y2 5 = nI u := eu
      refine xcall (sx_draw (fun k => F' (1 + k)) (fun k => v' (1 + k)) y1 hy1 ?_)
      refine ⟨by decide, ?_⟩
      refine xcall (sx_draw (fun k => F' (1 + k)) (va_up (fun k => v' (1 + k)) 0 (va_up (v' 1) 11 y1)) y2 hy2 ?_)
      refine ⟨by decide, ?_⟩
      have E2 : hQ F v F' (va_up v' 1 (va_up (v' 1) 11 y2)) := E.vu rfl
      have T2 : tH (fun k => F' (1 + k)) (fun k => va_up v' 1 (va_up (v' 1) 11 y2) (1 + k)) (lsS p.1 y2) p.2 := T
      have I2 : cIv (lsS p.1 y2) p.2 := lI.ls y2
      refine xcall (sx_playE (fun k => F' (1 + k)) (fun k => va_up v' 1 (va_up (v' 1) 11 y2) (1 + k)) (lsS p.1 y2) p.2 T2 I2 (mdV y1 6) (mdV y2 5) u (by omega) eu (fun G w E3 T3 => ?_))
      refine xcall (sx_bitCount _ (stN (eHad (lsS p.1 y2) p.2 (mdV y1 6) (mdV y2 5)) (nat ((lsS p.1 y2) 6 1))) rfl (by have := st128 I2 (b := mdV y1 6) (t := mdV y2 5); omega) ?_)
      refine hP _ _ _ _ _ ?_
      rw [nI_1]
      refine nx (upS 1 F' G) (upS 1 (va_up v' 1 (va_up (v' 1) 11 y2)) w) (by omega) (E2.tr (hQ.up1 E3)) T3 ?_
      show w 0 11 = y2
      exact E3.2 0 11 rfl
  refine hP _ _ _ _ _ ?_
  exact key m 0 F v (by omega) tR.rf R.t ez
-- the reference
theorem tM.z {f g : Nat → Int32} {s : xS} {X : xXt} (T : tM f s X) (I : cIv s X) (z : Int32) (g0 : ∀ j, j < 230 → ¬ j = 1 → g j = f j) : tM g (lsS s z) X := by
  have c8 := bel_nat I.1.1 (by omega)
  have c7 := bel_nat I.1.2 (by omega)
  obtain ⟨⟨a1, a2, a3, a4⟩, b, d, x, l0, l1⟩ := T
  refine ⟨⟨(g0 3 (by omega) (by omega)).trans a1, (g0 2 (by omega) (by omega)).trans a2, (g0 0 (by omega) (by omega)).trans a3, (g0 8 (by omega) (by omega)).trans a4⟩, fun j hj => ?_, fun j hj => ?_, fun j hj => ?_, ?_, ?_⟩
  · have hj : j < nat (s 6 0) := hj
    rw [g0 (9 + 2 * j) (by omega) (by omega), g0 (9 + 2 * j + 1) (by omega) (by omega)]
    exact b j hj
  · have hj : j < nat (s 6 1) := hj
    rw [g0 (25 + 5 * j + 0) (by omega) (by omega), g0 (25 + 5 * j + 1) (by omega) (by omega)]
    exact d j hj
  · rw [g0 (25 + 5 * j + 2) (by omega) (by omega), g0 (25 + 5 * j + 3) (by omega) (by omega), g0 (25 + 5 * j + 4) (by omega) (by omega)]
    exact x j hj
  · exact l0.of (by decide) (g0 6 (by omega) (by omega)) (fun y a b => g0 y (by omega) (by omega))
  · exact l1.of (by decide) (g0 7 (by omega) (by omega)) (fun y a b => g0 y (by omega) (by omega))
theorem vR.both {v v' v2 : xS} (h : vR v v') (g : vR v' v2) : vR v v2 := fun j => by
  rcases g j with a | a
  · exact Or.inl a
  · rcases h j with b | b
    · exact Or.inl b
    · exact Or.inr (a.trans b)
set_option maxRecDepth 100000 in
theorem MX_loose (n : Nat) (σ : xZ) (F v : xS) (R : MR n σ F v) (x : Int32) {K : xKo} (h : mKy n (y_loose x σ) (z_loose x σ) F K) : C_M_loose [.ref 0, .int x] (xfill F v 0 (wM0 0)) K := by
  obtain ⟨c, hc, es⟩ : below 9999 (σ.1.1 6 2) := R.1.1.1.2.2.1
  have ec : F 1 0 = nI c := R.n1.2.2.1.trans es
  have ez : F 1 1 = σ.1.1 6 3 := R.n1.2.2.2.1
  have en : nat (σ.1.1 6 2) = c := by rw [es]; exact nI_clamp (by omega)
  refine xM_go rfl 200 [(42, [0, 1, 2, 3])] fun P hP => ?_
  refine xcall (sp_in _ _ _ (fun a1 => ?_) (fun a1 => ?_))
  · rw [show (1 : Int32).toInt = 1 by decide, show (40 : Int32).toInt = 40 by decide] at a1
    refine br_n (fun z => absurd rfl z) (fun _ => ?_)
    refine xcall (sp_errM F v (-1000000001) 1 (by decide) (by decide) ?_)
    exact R.no h (if_neg fun z => a1 z.1) (if_neg a1)
  rw [show (1 : Int32).toInt = 1 by decide, show (40 : Int32).toInt = 40 by decide] at a1
  refine br_n (fun _ => ?_) (fun z => absurd z (by decide))
  obtain ⟨m, hm, rfl, em⟩ := nI_ofx x (n := 41) ⟨by omega, by omega⟩ (by decide)
  have ess : F 1 (Int32.toNatClampNeg 0) + nI m = nI (c + m) := by rw [nq0, ec, nI_add]
  refine ⟨vin (by decide), ?_⟩
  refine br_c (fun a3 => ?_) (fun a3 => ?_)
  rotate_left
  · have a3 : ¬ F 1 (Int32.toNatClampNeg 0) + nI m ≤ nI 9999 := a3
    rw [ess, nI_leI (by omega) (by omega)] at a3
    have c2 : ¬ nat (σ.1.1 6 2) + nat (nI m) ≤ 9999 := by omega
    refine xcall (sp_errM F v (-1000000003) 3 (by decide) (by decide) ?_)
    exact R.no h (if_neg fun z => c2 z.2) ((if_pos a1).trans (if_neg c2))
  have a3 : F 1 (Int32.toNatClampNeg 0) + nI m ≤ nI 9999 := a3
  rw [ess, nI_leI (by omega) (by omega)] at a3
  have c2 : nat (σ.1.1 6 2) + nat (nI m) ≤ 9999 := by omega
  unfold y_loose z_loose at h
  rw [if_pos ⟨a1, c2⟩, if_pos a1, if_pos c2, em] at h
  have LI := lzI.all es R.c R.2.1.1.2
  have key : ∀ (d i : Nat) (F' v' : xS), i + d = m → ((∀ k, ¬ k = 1 → F' k = F k) ∧ vR v v' ∧ ∀ j, j < 230 → r2 j = false → ¬ j = 1 → F' 1 j = F 1 j) → tM (F' 1) (lzG i (σ.1.1, σ.2.1)).1 (lzG i (σ.1.1, σ.2.1)).2 → F' 1 1 = (lzG i (σ.1.1, σ.2.1)).1 6 3 → xWP pg_M_loose K 42 [(0, .ref 0), (1, .int (nI m)), (2, .int (lzC i (σ.1.1, σ.2.1))), (3, .int (nI i))] [] (xfill F' v' 0 (wM0 0)) (0, 0) := by
    intro d
    induction d with
    | zero =>
      intro i F' v' hi E T e2
      have hi : i = m := hi
      subst hi
      obtain ⟨⟨⟨l0, l1, l2, l3⟩, l4⟩, ⟨l5, l6⟩, lI, lO⟩ := LI i
      refine xWP_go 100 [(42, [0, 1, 2, 3])] fun P hP => ?_
      refine br_c (fun _ => ?_) (fun z => absurd (nI_le (Nat.le_refl _) (by omega)) z)
      exact h F' v' (R.play (fun k hk => E.1 k hk.1) E.2.1 E.2.2 T ⟨⟨l0, l1, e2.symm, l2, l3⟩, l4⟩ ⟨c + i, by omega, l5⟩ ⟨lI, lO⟩) ((E.1 5 (by decide)).trans bm_0.symm)
    | succ d ih =>
      intro i F' v' hi E T e2
      obtain ⟨p, ep⟩ : ∃ p, p = lzG i (σ.1.1, σ.2.1) := ⟨_, rfl⟩
      have LIi := LI i
      have nx := ih (i + 1)
      have eG : lzG (i + 1) (σ.1.1, σ.2.1) = lz1 p := by rw [ep]; rfl
      have eC : lzC (i + 1) (σ.1.1, σ.2.1) = lzC i (σ.1.1, σ.2.1) + lzc p := by rw [ep]; rfl
      rw [eG, eC] at nx
      rw [← ep] at T e2 LIi
      obtain ⟨-, -, lI, lO⟩ := LIi
      refine xWP_go 100 [(42, [0, 1, 2, 3])] fun P hP => ?_
      refine br_c (fun z => absurd z (nI_ge (by omega) (by omega))) (fun _ => ?_)
      obtain ⟨y1, hy1⟩ : ∃ y, y = zS (F' 1 1) := ⟨_, rfl⟩
      obtain ⟨y2, hy2⟩ : ∃ y, y = zS y1 := ⟨_, rfl⟩
      have d1 : zS (p.1 6 3) = y1 := by rw [hy1, e2]
      have d2 : zS (zS (p.1 6 3)) = y2 := by rw [d1, hy2]
      have eP : lz1 p = (clS (lsS p.1 y2), ePlay (lsS p.1 y2) p.2 (mdV y1 6) (mdV y2 5)) := by unfold lz1; rw [d2, d1]
      have eQ : lzc p = nI (cnN (lsS p.1 y2) p.2 (mdV y1 6) (mdV y2 5)) := by unfold lzc; rw [d2, d1]
      rw [eP, eQ] at nx
      obtain ⟨u, hu, eu⟩ := md_in y2 (k := 5) (by decide) (by decide)
      have eu : mdV y2 5 = nI u := eu
      refine xcall (sx_drawn F' v' 6 y1 (by decide) hy1 ?_)
      refine xcall (sx_drawn (va_up F' 1 (upd (F' 1) 1 y1)) v' 5 y2 (by decide) hy2 ?_)
      have T2 : tM (upd (upd (F' 1) 1 y1) 1 y2) (lsS p.1 y2) p.2 := T.z lI y2 (fun j _ j1 => (pk_un j1).trans (pk_un j1))
      have I2 : cIv (lsS p.1 y2) p.2 := lI.ls y2
      have e15 : v' 0 15 = 0 := (E.2.1.at (j := 15) (by omega)).trans R.tk
      refine xcall (sx_callsE (va_up F' 1 (upd (upd (F' 1) 1 y1) 1 y2)) v' (lsS p.1 y2) p.2 T2 I2 (mdV y1 6) (mdV y2 5) u (by omega) eu e15 (fun F3 v3 G3 E3 T3 => ?_))
      refine xcall (sx_bits _ (stN (eHad (lsS p.1 y2) p.2 (mdV y1 6) (mdV y2 5)) (nat ((lsS p.1 y2) 6 1))) rfl (by have := st128 I2 (b := mdV y1 6) (t := mdV y2 5); omega) ?_)
      refine hP _ _ _ _ _ ?_
      rw [nI_1]
      refine nx F3 v3 (by omega) ⟨fun k hk => (G3 k hk).trans ((if_neg hk).trans (E.1 k hk)), E.2.1.both E3.2.2, fun j hj hr j1 => (E3.2.1 j hj hr).trans ((pk_un j1).trans ((pk_un j1).trans (E.2.2 j hj hr j1)))⟩ T3 ?_
      show F3 1 1 = y2
      refine (E3.2.1 1 (by omega) rfl).trans ?_
      show upd (upd (F' 1) 1 y1) 1 y2 1 = y2
      exact pk_us
  refine hP _ _ _ _ _ ?_
  exact key m 0 F v (by omega) ⟨fun _ _ => rfl, fun _ => Or.inr rfl, fun _ _ _ _ => rfl⟩ R.t ez
end
section
/-! ===== a sheet played in thought, exactly ===== -/
def srM (x : Int32) : Int32 := if 6 ≤ x &&& 7 then (x &&& 7) - 6 else x &&& 7
def sr1 (t x : Int32) (p : xS × xXt) : xS × xXt := (clS p.1, ePlay p.1 p.2 (srM x) t)
def srG (f : Nat → Int32) (t : Int32) : Nat → xS × xXt → xS × xXt
  | 0, p => p
  | n + 1, p => sr1 t (f n) (srG f t n p)
def srC (f : Nat → Int32) (t : Int32) : Nat → xS × xXt → Int32
  | 0, _ => 0
  | n + 1, p => srC f t n p + nI (cnN (srG f t n p).1 (srG f t n p).2 (srM (f n)) t)
abbrev srZ (s t : Int32) (σ : xZ) : xS × xXt := srG (σ.1.2.2 (nat s)) t (nat (σ.1.2.2 4 (nat s))) (σ.1.1, σ.2.1)
abbrev srW (s t : Int32) (σ : xZ) : Int32 := srC (σ.1.2.2 (nat s)) t (nat (σ.1.2.2 4 (nat s))) (σ.1.1, σ.2.1)
def z_series (s t w : Int32) (σ : xZ) : xAn := if xin s 4 ∧ xin t 10 ∧ xin w 2 then (if σ.1.2.2 5 (nat s) = 0 then (-1000000002, 2) else if w = 0 then ((srZ s t σ).2.2.1, 0) else (srW s t σ, 0)) else (-1000000001, 1)
theorem srI {f : Nat → Int32} {t : Int32} {s : xS} {X : xXt} (I : cIv s X) : ∀ i, cIv (srG f t i (s, X)).1 (srG f t i (s, X)).2 := by
  intro i
  induction i with
  | zero => exact I
  | succ i ih => exact cIv.play ih
theorem bare7 (b x : Int32) : bare b x &&& 7 = x &&& 7 := by
  unfold bare
  split
  · rw [Int32.and_assoc, show (255 : Int32) &&& 7 = 7 by decide]
  split
  · rw [Int32.and_assoc, show (65535 : Int32) &&& 7 = 7 by decide]
  · rfl
theorem sr_bare (b x : Int32) : srM (bare b x) = srM x := by
  unfold srM
  rw [bare7]
theorem sx_playE2 (F v s : xS) (X : xXt) (T : tH F v s X) (I : cIv s X) (m0 m t : Int32) (u : Nat) (hu : u < 10) (et : t = nI u) (em : m = m0) {K : xKo} (h : ∀ F' v', tR aP bQ F v F' v' → tH F' v' (clS s) (ePlay s X m0 t) → K (some (.int (eSet s X m0 t))) (xfill F' v' 0 (wT0 0))) : C_T_play [.ref 0, .int m, .int t] (xfill F v 0 (wT0 0)) K := by
  subst et
  subst em
  exact sx_play F v s X T I m u hu h
theorem sx_callsE2 (F v s : xS) (X : xXt) (T : tM (F 1) s X) (I : cIv s X) (b0 b t : Int32) (u : Nat) (hu : u < 10) (et : t = nI u) (eb : b = b0) (tk : v 0 15 = 0) {K : xKo} (h : ∀ F' v', (∀ k, ¬ k = 1 → F' k = F k) → mR r2 F v F' v' → tM (F' 1) (clS s) (ePlay s X b0 t) → K (some (.int (eSet s X b0 t))) (xfill F' v' 0 (wM0 0))) : C_M_calls [.ref 0, .int b, .int t] (xfill F v 0 (wM0 0)) K := by
  subst eb
  exact sx_callsE F v s X T I b t u hu et tk h
set_option maxRecDepth 100000 in
theorem HX_series (n : Nat) (σ : xZ) (F v : xS) (R : HR n σ F v) (s t w : Int32) {K : xKo} (h : hK n σ (z_series s t w σ) F K) : C_H_series [.ref 0, .int s, .int t, .int w] (xfill F v 0 wH0) K := by
  obtain ⟨n0, h0, e0⟩ := R.2.2.2.1.1
  obtain ⟨n1, h1, e1⟩ := R.2.2.2.1.2
  have I := R.J
  obtain ⟨hj, h4, h5, -, -⟩ := R.2.2.1.2.1.el
  refine xM_go rfl 200 [(68, [0, 1, 2, 3, 4, 5, 6])] fun P hP => ?_
  refine xcall (sp_isBelow _ _ (fun a1 => ?_) (fun a1 => ?_))
  · refine br_c (fun _ => ?_) (fun z => absurd rfl z)
    refine xcall (sp_errH F v 1 (by decide) ?_)
    exact R.err h (if_neg fun z => a1 z.1)
  have a1 : xin s 4 := a1
  refine br_c (fun z => absurd z (by decide)) (fun _ => ?_)
  refine xcall (sp_isSteps _ (fun a2 => ?_) (fun a2 => ?_))
  · refine br_c (fun _ => ?_) (fun z => absurd rfl z)
    refine xcall (sp_errH F v 1 (by decide) ?_)
    exact R.err h (if_neg fun z => a2 z.2.1)
  refine br_c (fun z => absurd z (by decide)) (fun _ => ?_)
  refine xcall (sp_isBelow _ _ (fun a3 => ?_) (fun a3 => ?_))
  · refine br_n (fun z => absurd rfl z) (fun _ => ?_)
    refine xcall (sp_errH F v 1 (by decide) ?_)
    exact R.err h (if_neg fun z => a3 z.2.2)
  refine br_n (fun _ => ?_) (fun z => absurd z (by decide))
  have ef : z_series s t w σ = if σ.1.2.2 5 (nat s) = 0 then (-1000000002, 2) else if w = 0 then ((srZ s t σ).2.2.1, 0) else (srW s t σ, 0) := if_pos ⟨a1, a2, a3⟩
  obtain ⟨u, hu, eu, -⟩ := nI_ofx t (n := 10) a2 (by decide)
  have hu : u < 10 := by omega
  refine ⟨vin a1, ⟨fun es => ?_, ⟨fun es => ?_, ⟨fun es => ?_, ⟨fun es => ?_, trivial⟩⟩⟩⟩⟩
  · have es : s = 0 := es
    have ek : nat s = 0 := by rw [es]; decide
    rw [ek] at ef
    have b4 : below 40 (v 61 1) := I.2.1.2.1.1
    obtain ⟨nn, hnn, enn⟩ := b4
    have e4 : σ.1.2.2 4 0 = nI nn := ((h4 0 (by decide)).symm.trans (show hRs F v 4 0 = v 61 1 from rfl)).trans enn
    have e5 : v 61 2 = σ.1.2.2 5 0 := (show v 61 2 = hRs F v 5 0 from rfl).trans (h5 0 (by decide))
    have fj : ∀ j, j < 40 → F 62 j = σ.1.2.2 0 j := fun j l => (show F 62 j = hRs F v 0 j from rfl).trans (hj 0 j (by decide) l)
    obtain ⟨f, ff⟩ : ∃ f : Nat → Int32, f = σ.1.2.2 0 := ⟨_, rfl⟩
    have eZ : srZ s t σ = srG f t nn (σ.1.1, σ.2.1) := by
      show srG (σ.1.2.2 (nat s)) t (nat (σ.1.2.2 4 (nat s))) (σ.1.1, σ.2.1) = _
      rw [ek, e4, ff, show nat (nI nn) = nn from nI_clamp (by omega)]
    have eW : srW s t σ = srC f t nn (σ.1.1, σ.2.1) := by
      show srC (σ.1.2.2 (nat s)) t (nat (σ.1.2.2 4 (nat s))) (σ.1.1, σ.2.1) = _
      rw [ek, e4, ff, show nat (nI nn) = nn from nI_clamp (by omega)]
    rw [eZ, eW] at ef
    rw [← ff] at fj
    have key : ¬ σ.1.2.2 5 0 = 0 → ∀ (d i : Nat) (F' v' : xS), i + d = nn → hG F v F' v' → tH (fun k => F' (37 + k)) (fun k => v' (37 + k)) (srG f t i (σ.1.1, σ.2.1)).1 (srG f t i (σ.1.1, σ.2.1)).2 → xWP pg_H_series K 68 [(0, .ref 0), (1, .int s), (2, .int t), (3, .int w), (4, .ref 61), (5, .int (srC f t i (σ.1.1, σ.2.1))), (6, .int (nI i))] [] (xfill F' v' 0 wH0) (0, 0) := by
      intro u0 d
      rw [if_neg u0] at ef
      induction d with
      | zero =>
        intro i F' v' hi E T
        have hi : i = nn := hi
        subst hi
        have e : v' 61 1 = nI i := (E.2 61 1 rfl).trans enn
        refine xWP_go 200 [(68, [0, 1, 2, 3, 4, 5, 6])] fun P hP => ?_
        refine br_c (fun _ => ?_) (fun z => ?_)
        · refine br_n (fun y => ?_) (fun y => ?_)
          · rw [if_neg y] at ef
            exact R.go h E ef
          · rw [if_pos y] at ef
            exact R.go h E (ef.trans (an_ T.1.2.2.2.symm))
        · have z : ¬ v' 61 1 ≤ nI i := z
          rw [e, nI_leI (by omega) (by omega)] at z
          omega
      | succ d ih =>
        intro i F' v' hi E T
        have e : v' 61 1 = nI nn := (E.2 61 1 rfl).trans enn
        have nx := ih (i + 1)
        obtain ⟨p, ep⟩ : ∃ p, p = srG f t i (σ.1.1, σ.2.1) := ⟨_, rfl⟩
        have eG : srG f t (i + 1) (σ.1.1, σ.2.1) = (clS p.1, ePlay p.1 p.2 (srM (f i)) t) := by rw [ep]; rfl
        have eC : srC f t (i + 1) (σ.1.1, σ.2.1) = srC f t i (σ.1.1, σ.2.1) + nI (cnN p.1 p.2 (srM (f i)) t) := by rw [ep]; rfl
        have Ip : cIv p.1 p.2 := by rw [ep]; exact srI R.c i
        rw [eG, eC] at nx
        rw [← ep] at T
        have ei : Int32.toNatClampNeg (nI i) = i := nI_clamp (by omega)
        have en : F' 62 (Int32.toNatClampNeg (nI i)) = f i := by rw [ei, E.1 62 rfl]; exact fj i (by omega)
        refine xWP_go 200 [(68, [0, 1, 2, 3, 4, 5, 6])] fun P hP => ?_
        refine br_c (fun z => ?_) (fun _ => ?_)
        · have z : v' 61 1 ≤ nI i := z
          rw [e, nI_leI (by omega) (by omega)] at z
          omega
        refine ⟨vp_in_nI (by omega) (by omega), ?_⟩
        refine br_c (fun z => ?_) (fun z => ?_)
        · have z : 6 ≤ F' 62 (Int32.toNatClampNeg (nI i)) &&& 7 := z
          have em : (F' 62 (Int32.toNatClampNeg (nI i)) &&& 7) - 6 = srM (f i) := by
            rw [en] at z ⊢
            exact (if_pos z).symm
          refine xcall (sx_playE2 (fun k => F' (37 + k)) (fun k => v' (37 + k)) p.1 p.2 T Ip (srM (f i)) _ t u hu eu em (fun G w2 E2 T2 => ?_))
          refine xcall (sx_bitCount _ (stN (eHad p.1 p.2 (srM (f i)) t) (nat (p.1 6 1))) rfl (by have := st128 Ip (b := srM (f i)) (t := t); omega) ?_)
          refine hP _ _ _ _ _ ?_
          rw [nI_1]
          exact nx (upS 37 F' G) (upS 37 v' w2) (by omega) (E.tr hG.up37) T2
        · have z : ¬ 6 ≤ F' 62 (Int32.toNatClampNeg (nI i)) &&& 7 := z
          have em : F' 62 (Int32.toNatClampNeg (nI i)) &&& 7 = srM (f i) := by
            rw [en] at z ⊢
            exact (if_neg z).symm
          refine xcall (sx_playE2 (fun k => F' (37 + k)) (fun k => v' (37 + k)) p.1 p.2 T Ip (srM (f i)) _ t u hu eu em (fun G w2 E2 T2 => ?_))
          refine xcall (sx_bitCount _ (stN (eHad p.1 p.2 (srM (f i)) t) (nat (p.1 6 1))) rfl (by have := st128 Ip (b := srM (f i)) (t := t); omega) ?_)
          refine hP _ _ _ _ _ ?_
          rw [nI_1]
          exact nx (upS 37 F' G) (upS 37 v' w2) (by omega) (E.tr hG.up37) T2
    refine xcall (sp_isMissing (fun k => F (61 + k)) (fun k => v (61 + k)) (fun m0 => ?_) (fun m0 => ?_))
    · have m0 : ¬ v 61 2 = 0 := m0
      rw [e5] at m0
      refine br_c (fun _ => ?_) (fun z => absurd rfl z)
      refine xcall (sp_copy (thF F) (thF v) n0 n1 h0 h1 e0 e1 ?_)
      refine hP _ _ _ _ _ ?_
      exact key m0 nn 0 (upS 37 F (cpF (thF F) n0 n1)) (upS 37 v (cpV (thF v) n0 n1)) (by omega) hG.up37 (R.t.copy R.c h0 h1 e0 e1)
    · have m0 : v 61 2 = 0 := m0
      rw [e5] at m0
      rw [if_pos m0] at ef
      refine br_c (fun z => absurd z (by decide)) (fun _ => ?_)
      refine xcall (sp_errH F v 2 (by decide) ?_)
      exact R.err h ef
  · have es : s = 1 := es
    have ek : nat s = 1 := by rw [es]; decide
    rw [ek] at ef
    have b4 : below 40 (v 63 1) := I.2.1.2.1.2.1
    obtain ⟨nn, hnn, enn⟩ := b4
    have e4 : σ.1.2.2 4 1 = nI nn := ((h4 1 (by decide)).symm.trans (show hRs F v 4 1 = v 63 1 from rfl)).trans enn
    have e5 : v 63 2 = σ.1.2.2 5 1 := (show v 63 2 = hRs F v 5 1 from rfl).trans (h5 1 (by decide))
    have fj : ∀ j, j < 40 → F 64 j = σ.1.2.2 1 j := fun j l => (show F 64 j = hRs F v 1 j from rfl).trans (hj 1 j (by decide) l)
    obtain ⟨f, ff⟩ : ∃ f : Nat → Int32, f = σ.1.2.2 1 := ⟨_, rfl⟩
    have eZ : srZ s t σ = srG f t nn (σ.1.1, σ.2.1) := by
      show srG (σ.1.2.2 (nat s)) t (nat (σ.1.2.2 4 (nat s))) (σ.1.1, σ.2.1) = _
      rw [ek, e4, ff, show nat (nI nn) = nn from nI_clamp (by omega)]
    have eW : srW s t σ = srC f t nn (σ.1.1, σ.2.1) := by
      show srC (σ.1.2.2 (nat s)) t (nat (σ.1.2.2 4 (nat s))) (σ.1.1, σ.2.1) = _
      rw [ek, e4, ff, show nat (nI nn) = nn from nI_clamp (by omega)]
    rw [eZ, eW] at ef
    rw [← ff] at fj
    have key : ¬ σ.1.2.2 5 1 = 0 → ∀ (d i : Nat) (F' v' : xS), i + d = nn → hG F v F' v' → tH (fun k => F' (37 + k)) (fun k => v' (37 + k)) (srG f t i (σ.1.1, σ.2.1)).1 (srG f t i (σ.1.1, σ.2.1)).2 → xWP pg_H_series K 68 [(0, .ref 0), (1, .int s), (2, .int t), (3, .int w), (4, .ref 63), (5, .int (srC f t i (σ.1.1, σ.2.1))), (6, .int (nI i))] [] (xfill F' v' 0 wH0) (0, 0) := by
      intro u0 d
      rw [if_neg u0] at ef
      induction d with
      | zero =>
        intro i F' v' hi E T
        have hi : i = nn := hi
        subst hi
        have e : v' 63 1 = nI i := (E.2 63 1 rfl).trans enn
        refine xWP_go 200 [(68, [0, 1, 2, 3, 4, 5, 6])] fun P hP => ?_
        refine br_c (fun _ => ?_) (fun z => ?_)
        · refine br_n (fun y => ?_) (fun y => ?_)
          · rw [if_neg y] at ef
            exact R.go h E ef
          · rw [if_pos y] at ef
            exact R.go h E (ef.trans (an_ T.1.2.2.2.symm))
        · have z : ¬ v' 63 1 ≤ nI i := z
          rw [e, nI_leI (by omega) (by omega)] at z
          omega
      | succ d ih =>
        intro i F' v' hi E T
        have e : v' 63 1 = nI nn := (E.2 63 1 rfl).trans enn
        have nx := ih (i + 1)
        obtain ⟨p, ep⟩ : ∃ p, p = srG f t i (σ.1.1, σ.2.1) := ⟨_, rfl⟩
        have eG : srG f t (i + 1) (σ.1.1, σ.2.1) = (clS p.1, ePlay p.1 p.2 (srM (f i)) t) := by rw [ep]; rfl
        have eC : srC f t (i + 1) (σ.1.1, σ.2.1) = srC f t i (σ.1.1, σ.2.1) + nI (cnN p.1 p.2 (srM (f i)) t) := by rw [ep]; rfl
        have Ip : cIv p.1 p.2 := by rw [ep]; exact srI R.c i
        rw [eG, eC] at nx
        rw [← ep] at T
        have ei : Int32.toNatClampNeg (nI i) = i := nI_clamp (by omega)
        have en : F' 64 (Int32.toNatClampNeg (nI i)) = f i := by rw [ei, E.1 64 rfl]; exact fj i (by omega)
        refine xWP_go 200 [(68, [0, 1, 2, 3, 4, 5, 6])] fun P hP => ?_
        refine br_c (fun z => ?_) (fun _ => ?_)
        · have z : v' 63 1 ≤ nI i := z
          rw [e, nI_leI (by omega) (by omega)] at z
          omega
        refine ⟨vp_in_nI (by omega) (by omega), ?_⟩
        refine br_c (fun z => ?_) (fun z => ?_)
        · have z : 6 ≤ F' 64 (Int32.toNatClampNeg (nI i)) &&& 7 := z
          have em : (F' 64 (Int32.toNatClampNeg (nI i)) &&& 7) - 6 = srM (f i) := by
            rw [en] at z ⊢
            exact (if_pos z).symm
          refine xcall (sx_playE2 (fun k => F' (37 + k)) (fun k => v' (37 + k)) p.1 p.2 T Ip (srM (f i)) _ t u hu eu em (fun G w2 E2 T2 => ?_))
          refine xcall (sx_bitCount _ (stN (eHad p.1 p.2 (srM (f i)) t) (nat (p.1 6 1))) rfl (by have := st128 Ip (b := srM (f i)) (t := t); omega) ?_)
          refine hP _ _ _ _ _ ?_
          rw [nI_1]
          exact nx (upS 37 F' G) (upS 37 v' w2) (by omega) (E.tr hG.up37) T2
        · have z : ¬ 6 ≤ F' 64 (Int32.toNatClampNeg (nI i)) &&& 7 := z
          have em : F' 64 (Int32.toNatClampNeg (nI i)) &&& 7 = srM (f i) := by
            rw [en] at z ⊢
            exact (if_neg z).symm
          refine xcall (sx_playE2 (fun k => F' (37 + k)) (fun k => v' (37 + k)) p.1 p.2 T Ip (srM (f i)) _ t u hu eu em (fun G w2 E2 T2 => ?_))
          refine xcall (sx_bitCount _ (stN (eHad p.1 p.2 (srM (f i)) t) (nat (p.1 6 1))) rfl (by have := st128 Ip (b := srM (f i)) (t := t); omega) ?_)
          refine hP _ _ _ _ _ ?_
          rw [nI_1]
          exact nx (upS 37 F' G) (upS 37 v' w2) (by omega) (E.tr hG.up37) T2
    refine xcall (sp_isMissing (fun k => F (63 + k)) (fun k => v (63 + k)) (fun m0 => ?_) (fun m0 => ?_))
    · have m0 : ¬ v 63 2 = 0 := m0
      rw [e5] at m0
      refine br_c (fun _ => ?_) (fun z => absurd rfl z)
      refine xcall (sp_copy (thF F) (thF v) n0 n1 h0 h1 e0 e1 ?_)
      refine hP _ _ _ _ _ ?_
      exact key m0 nn 0 (upS 37 F (cpF (thF F) n0 n1)) (upS 37 v (cpV (thF v) n0 n1)) (by omega) hG.up37 (R.t.copy R.c h0 h1 e0 e1)
    · have m0 : v 63 2 = 0 := m0
      rw [e5] at m0
      rw [if_pos m0] at ef
      refine br_c (fun z => absurd z (by decide)) (fun _ => ?_)
      refine xcall (sp_errH F v 2 (by decide) ?_)
      exact R.err h ef
  · have es : s = 2 := es
    have ek : nat s = 2 := by rw [es]; decide
    rw [ek] at ef
    have b4 : below 40 (v 65 1) := I.2.1.2.1.2.2.1
    obtain ⟨nn, hnn, enn⟩ := b4
    have e4 : σ.1.2.2 4 2 = nI nn := ((h4 2 (by decide)).symm.trans (show hRs F v 4 2 = v 65 1 from rfl)).trans enn
    have e5 : v 65 2 = σ.1.2.2 5 2 := (show v 65 2 = hRs F v 5 2 from rfl).trans (h5 2 (by decide))
    have fj : ∀ j, j < 40 → F 66 j = σ.1.2.2 2 j := fun j l => (show F 66 j = hRs F v 2 j from rfl).trans (hj 2 j (by decide) l)
    obtain ⟨f, ff⟩ : ∃ f : Nat → Int32, f = σ.1.2.2 2 := ⟨_, rfl⟩
    have eZ : srZ s t σ = srG f t nn (σ.1.1, σ.2.1) := by
      show srG (σ.1.2.2 (nat s)) t (nat (σ.1.2.2 4 (nat s))) (σ.1.1, σ.2.1) = _
      rw [ek, e4, ff, show nat (nI nn) = nn from nI_clamp (by omega)]
    have eW : srW s t σ = srC f t nn (σ.1.1, σ.2.1) := by
      show srC (σ.1.2.2 (nat s)) t (nat (σ.1.2.2 4 (nat s))) (σ.1.1, σ.2.1) = _
      rw [ek, e4, ff, show nat (nI nn) = nn from nI_clamp (by omega)]
    rw [eZ, eW] at ef
    rw [← ff] at fj
    have key : ¬ σ.1.2.2 5 2 = 0 → ∀ (d i : Nat) (F' v' : xS), i + d = nn → hG F v F' v' → tH (fun k => F' (37 + k)) (fun k => v' (37 + k)) (srG f t i (σ.1.1, σ.2.1)).1 (srG f t i (σ.1.1, σ.2.1)).2 → xWP pg_H_series K 68 [(0, .ref 0), (1, .int s), (2, .int t), (3, .int w), (4, .ref 65), (5, .int (srC f t i (σ.1.1, σ.2.1))), (6, .int (nI i))] [] (xfill F' v' 0 wH0) (0, 0) := by
      intro u0 d
      rw [if_neg u0] at ef
      induction d with
      | zero =>
        intro i F' v' hi E T
        have hi : i = nn := hi
        subst hi
        have e : v' 65 1 = nI i := (E.2 65 1 rfl).trans enn
        refine xWP_go 200 [(68, [0, 1, 2, 3, 4, 5, 6])] fun P hP => ?_
        refine br_c (fun _ => ?_) (fun z => ?_)
        · refine br_n (fun y => ?_) (fun y => ?_)
          · rw [if_neg y] at ef
            exact R.go h E ef
          · rw [if_pos y] at ef
            exact R.go h E (ef.trans (an_ T.1.2.2.2.symm))
        · have z : ¬ v' 65 1 ≤ nI i := z
          rw [e, nI_leI (by omega) (by omega)] at z
          omega
      | succ d ih =>
        intro i F' v' hi E T
        have e : v' 65 1 = nI nn := (E.2 65 1 rfl).trans enn
        have nx := ih (i + 1)
        obtain ⟨p, ep⟩ : ∃ p, p = srG f t i (σ.1.1, σ.2.1) := ⟨_, rfl⟩
        have eG : srG f t (i + 1) (σ.1.1, σ.2.1) = (clS p.1, ePlay p.1 p.2 (srM (f i)) t) := by rw [ep]; rfl
        have eC : srC f t (i + 1) (σ.1.1, σ.2.1) = srC f t i (σ.1.1, σ.2.1) + nI (cnN p.1 p.2 (srM (f i)) t) := by rw [ep]; rfl
        have Ip : cIv p.1 p.2 := by rw [ep]; exact srI R.c i
        rw [eG, eC] at nx
        rw [← ep] at T
        have ei : Int32.toNatClampNeg (nI i) = i := nI_clamp (by omega)
        have en : F' 66 (Int32.toNatClampNeg (nI i)) = f i := by rw [ei, E.1 66 rfl]; exact fj i (by omega)
        refine xWP_go 200 [(68, [0, 1, 2, 3, 4, 5, 6])] fun P hP => ?_
        refine br_c (fun z => ?_) (fun _ => ?_)
        · have z : v' 65 1 ≤ nI i := z
          rw [e, nI_leI (by omega) (by omega)] at z
          omega
        refine ⟨vp_in_nI (by omega) (by omega), ?_⟩
        refine br_c (fun z => ?_) (fun z => ?_)
        · have z : 6 ≤ F' 66 (Int32.toNatClampNeg (nI i)) &&& 7 := z
          have em : (F' 66 (Int32.toNatClampNeg (nI i)) &&& 7) - 6 = srM (f i) := by
            rw [en] at z ⊢
            exact (if_pos z).symm
          refine xcall (sx_playE2 (fun k => F' (37 + k)) (fun k => v' (37 + k)) p.1 p.2 T Ip (srM (f i)) _ t u hu eu em (fun G w2 E2 T2 => ?_))
          refine xcall (sx_bitCount _ (stN (eHad p.1 p.2 (srM (f i)) t) (nat (p.1 6 1))) rfl (by have := st128 Ip (b := srM (f i)) (t := t); omega) ?_)
          refine hP _ _ _ _ _ ?_
          rw [nI_1]
          exact nx (upS 37 F' G) (upS 37 v' w2) (by omega) (E.tr hG.up37) T2
        · have z : ¬ 6 ≤ F' 66 (Int32.toNatClampNeg (nI i)) &&& 7 := z
          have em : F' 66 (Int32.toNatClampNeg (nI i)) &&& 7 = srM (f i) := by
            rw [en] at z ⊢
            exact (if_neg z).symm
          refine xcall (sx_playE2 (fun k => F' (37 + k)) (fun k => v' (37 + k)) p.1 p.2 T Ip (srM (f i)) _ t u hu eu em (fun G w2 E2 T2 => ?_))
          refine xcall (sx_bitCount _ (stN (eHad p.1 p.2 (srM (f i)) t) (nat (p.1 6 1))) rfl (by have := st128 Ip (b := srM (f i)) (t := t); omega) ?_)
          refine hP _ _ _ _ _ ?_
          rw [nI_1]
          exact nx (upS 37 F' G) (upS 37 v' w2) (by omega) (E.tr hG.up37) T2
    refine xcall (sp_isMissing (fun k => F (65 + k)) (fun k => v (65 + k)) (fun m0 => ?_) (fun m0 => ?_))
    · have m0 : ¬ v 65 2 = 0 := m0
      rw [e5] at m0
      refine br_c (fun _ => ?_) (fun z => absurd rfl z)
      refine xcall (sp_copy (thF F) (thF v) n0 n1 h0 h1 e0 e1 ?_)
      refine hP _ _ _ _ _ ?_
      exact key m0 nn 0 (upS 37 F (cpF (thF F) n0 n1)) (upS 37 v (cpV (thF v) n0 n1)) (by omega) hG.up37 (R.t.copy R.c h0 h1 e0 e1)
    · have m0 : v 65 2 = 0 := m0
      rw [e5] at m0
      rw [if_pos m0] at ef
      refine br_c (fun z => absurd z (by decide)) (fun _ => ?_)
      refine xcall (sp_errH F v 2 (by decide) ?_)
      exact R.err h ef
  · have es : s = 3 := es
    have ek : nat s = 3 := by rw [es]; decide
    rw [ek] at ef
    have b4 : below 40 (v 67 1) := I.2.1.2.1.2.2.2
    obtain ⟨nn, hnn, enn⟩ := b4
    have e4 : σ.1.2.2 4 3 = nI nn := ((h4 3 (by decide)).symm.trans (show hRs F v 4 3 = v 67 1 from rfl)).trans enn
    have e5 : v 67 2 = σ.1.2.2 5 3 := (show v 67 2 = hRs F v 5 3 from rfl).trans (h5 3 (by decide))
    have fj : ∀ j, j < 40 → F 68 j = σ.1.2.2 3 j := fun j l => (show F 68 j = hRs F v 3 j from rfl).trans (hj 3 j (by decide) l)
    obtain ⟨f, ff⟩ : ∃ f : Nat → Int32, f = σ.1.2.2 3 := ⟨_, rfl⟩
    have eZ : srZ s t σ = srG f t nn (σ.1.1, σ.2.1) := by
      show srG (σ.1.2.2 (nat s)) t (nat (σ.1.2.2 4 (nat s))) (σ.1.1, σ.2.1) = _
      rw [ek, e4, ff, show nat (nI nn) = nn from nI_clamp (by omega)]
    have eW : srW s t σ = srC f t nn (σ.1.1, σ.2.1) := by
      show srC (σ.1.2.2 (nat s)) t (nat (σ.1.2.2 4 (nat s))) (σ.1.1, σ.2.1) = _
      rw [ek, e4, ff, show nat (nI nn) = nn from nI_clamp (by omega)]
    rw [eZ, eW] at ef
    rw [← ff] at fj
    have key : ¬ σ.1.2.2 5 3 = 0 → ∀ (d i : Nat) (F' v' : xS), i + d = nn → hG F v F' v' → tH (fun k => F' (37 + k)) (fun k => v' (37 + k)) (srG f t i (σ.1.1, σ.2.1)).1 (srG f t i (σ.1.1, σ.2.1)).2 → xWP pg_H_series K 68 [(0, .ref 0), (1, .int s), (2, .int t), (3, .int w), (4, .ref 67), (5, .int (srC f t i (σ.1.1, σ.2.1))), (6, .int (nI i))] [] (xfill F' v' 0 wH0) (0, 0) := by
      intro u0 d
      rw [if_neg u0] at ef
      induction d with
      | zero =>
        intro i F' v' hi E T
        have hi : i = nn := hi
        subst hi
        have e : v' 67 1 = nI i := (E.2 67 1 rfl).trans enn
        refine xWP_go 200 [(68, [0, 1, 2, 3, 4, 5, 6])] fun P hP => ?_
        refine br_c (fun _ => ?_) (fun z => ?_)
        · refine br_n (fun y => ?_) (fun y => ?_)
          · rw [if_neg y] at ef
            exact R.go h E ef
          · rw [if_pos y] at ef
            exact R.go h E (ef.trans (an_ T.1.2.2.2.symm))
        · have z : ¬ v' 67 1 ≤ nI i := z
          rw [e, nI_leI (by omega) (by omega)] at z
          omega
      | succ d ih =>
        intro i F' v' hi E T
        have e : v' 67 1 = nI nn := (E.2 67 1 rfl).trans enn
        have nx := ih (i + 1)
        obtain ⟨p, ep⟩ : ∃ p, p = srG f t i (σ.1.1, σ.2.1) := ⟨_, rfl⟩
        have eG : srG f t (i + 1) (σ.1.1, σ.2.1) = (clS p.1, ePlay p.1 p.2 (srM (f i)) t) := by rw [ep]; rfl
        have eC : srC f t (i + 1) (σ.1.1, σ.2.1) = srC f t i (σ.1.1, σ.2.1) + nI (cnN p.1 p.2 (srM (f i)) t) := by rw [ep]; rfl
        have Ip : cIv p.1 p.2 := by rw [ep]; exact srI R.c i
        rw [eG, eC] at nx
        rw [← ep] at T
        have ei : Int32.toNatClampNeg (nI i) = i := nI_clamp (by omega)
        have en : F' 68 (Int32.toNatClampNeg (nI i)) = f i := by rw [ei, E.1 68 rfl]; exact fj i (by omega)
        refine xWP_go 200 [(68, [0, 1, 2, 3, 4, 5, 6])] fun P hP => ?_
        refine br_c (fun z => ?_) (fun _ => ?_)
        · have z : v' 67 1 ≤ nI i := z
          rw [e, nI_leI (by omega) (by omega)] at z
          omega
        refine ⟨vp_in_nI (by omega) (by omega), ?_⟩
        refine br_c (fun z => ?_) (fun z => ?_)
        · have z : 6 ≤ F' 68 (Int32.toNatClampNeg (nI i)) &&& 7 := z
          have em : (F' 68 (Int32.toNatClampNeg (nI i)) &&& 7) - 6 = srM (f i) := by
            rw [en] at z ⊢
            exact (if_pos z).symm
          refine xcall (sx_playE2 (fun k => F' (37 + k)) (fun k => v' (37 + k)) p.1 p.2 T Ip (srM (f i)) _ t u hu eu em (fun G w2 E2 T2 => ?_))
          refine xcall (sx_bitCount _ (stN (eHad p.1 p.2 (srM (f i)) t) (nat (p.1 6 1))) rfl (by have := st128 Ip (b := srM (f i)) (t := t); omega) ?_)
          refine hP _ _ _ _ _ ?_
          rw [nI_1]
          exact nx (upS 37 F' G) (upS 37 v' w2) (by omega) (E.tr hG.up37) T2
        · have z : ¬ 6 ≤ F' 68 (Int32.toNatClampNeg (nI i)) &&& 7 := z
          have em : F' 68 (Int32.toNatClampNeg (nI i)) &&& 7 = srM (f i) := by
            rw [en] at z ⊢
            exact (if_neg z).symm
          refine xcall (sx_playE2 (fun k => F' (37 + k)) (fun k => v' (37 + k)) p.1 p.2 T Ip (srM (f i)) _ t u hu eu em (fun G w2 E2 T2 => ?_))
          refine xcall (sx_bitCount _ (stN (eHad p.1 p.2 (srM (f i)) t) (nat (p.1 6 1))) rfl (by have := st128 Ip (b := srM (f i)) (t := t); omega) ?_)
          refine hP _ _ _ _ _ ?_
          rw [nI_1]
          exact nx (upS 37 F' G) (upS 37 v' w2) (by omega) (E.tr hG.up37) T2
    refine xcall (sp_isMissing (fun k => F (67 + k)) (fun k => v (67 + k)) (fun m0 => ?_) (fun m0 => ?_))
    · have m0 : ¬ v 67 2 = 0 := m0
      rw [e5] at m0
      refine br_c (fun _ => ?_) (fun z => absurd rfl z)
      refine xcall (sp_copy (thF F) (thF v) n0 n1 h0 h1 e0 e1 ?_)
      refine hP _ _ _ _ _ ?_
      exact key m0 nn 0 (upS 37 F (cpF (thF F) n0 n1)) (upS 37 v (cpV (thF v) n0 n1)) (by omega) hG.up37 (R.t.copy R.c h0 h1 e0 e1)
    · have m0 : v 67 2 = 0 := m0
      rw [e5] at m0
      rw [if_pos m0] at ef
      refine br_c (fun z => absurd z (by decide)) (fun _ => ?_)
      refine xcall (sp_errH F v 2 (by decide) ?_)
      exact R.err h ef
-- the reference
set_option maxRecDepth 100000 in
theorem MX_series (n : Nat) (σ : xZ) (F v : xS) (R : MR n σ F v) (s t w : Int32) {K : xKo} (h : mK n σ (z_series s t w σ) F K) : C_M_series [.ref 0, .int s, .int t, .int w] (xfill F v 0 (wM0 0)) K := by
  have I := R.J
  obtain ⟨hj, h4, h5, -, -⟩ := R.2.2.1.2.1.el
  refine xM_go rfl 200 [(64, [0, 1, 2, 3, 4, 5]), (128, [0, 1, 2, 3, 4, 5])] fun P hP => ?_
  refine xcall (sp_isSheet _ (fun a1 => ?_) (fun a1 => ?_))
  · refine br_c (fun _ => ?_) (fun z => absurd rfl z)
    refine xcall (sp_errM F v (-1000000001) 1 (by decide) (by decide) ?_)
    exact R.err h (if_neg fun z => a1 z.1)
  refine br_c (fun z => absurd z (by decide)) (fun _ => ?_)
  refine xcall (sp_areSteps _ (fun a2 => ?_) (fun a2 => ?_))
  · refine br_c (fun _ => ?_) (fun z => absurd rfl z)
    refine xcall (sp_errM F v (-1000000001) 1 (by decide) (by decide) ?_)
    exact R.err h (if_neg fun z => a2 z.2.1)
  refine br_c (fun z => absurd z (by decide)) (fun _ => ?_)
  refine xcall (sp_inx _ 1 2 (by decide) (fun a3 => ?_) (fun a3 => ?_))
  · refine br_n (fun z => absurd rfl z) (fun _ => ?_)
    refine xcall (sp_errM F v (-1000000001) 1 (by decide) (by decide) ?_)
    exact R.err h (if_neg fun z => a3 z.2.2)
  refine br_n (fun _ => ?_) (fun z => absurd z (by decide))
  have ef : z_series s t w σ = if σ.1.2.2 5 (nat s) = 0 then (-1000000002, 2) else if w = 0 then ((srZ s t σ).2.2.1, 0) else (srW s t σ, 0) := if_pos ⟨a1, a2, a3⟩
  obtain ⟨u, hu, eu, -⟩ := nI_ofx t (n := 10) a2 (by decide)
  have hu : u < 10 := by omega
  obtain ⟨k, hk, rfl, ek⟩ := nI_ofx s (n := 4) a1 (by decide)
  have bs : vp_in (nI k) 4 := vin a1
  have k4 : k < 4 := by omega
  have ek2 : nat (nI k) = k := ek
  have ek : Int32.toNatClampNeg (nI k) = k := ek
  obtain ⟨q, hq, eq⟩ := rI4 (k := k) I k4
  have e4 : σ.1.2.2 4 k = nI q := ((h4 k k4).symm.trans (show mRs F v 4 k = F 7 k from rfl)).trans eq
  have e5 : F 6 k = σ.1.2.2 5 k := (show F 6 k = mRs F v 5 k from rfl).trans (h5 k k4)
  obtain ⟨f, ff⟩ : ∃ f : Nat → Int32, f = σ.1.2.2 k := ⟨_, rfl⟩
  have fj : ∀ j, j < 40 → srM (F 8 (40 * k + j)) = srM (f j) := fun j l => by
    have x : mRs F v k j = σ.1.2.2 k j := hj k j k4 l
    rw [mSh k4] at x
    rw [ff, ← x, sr_bare]
  have eZ : srZ (nI k) t σ = srG f t q (σ.1.1, σ.2.1) := by
    show srG (σ.1.2.2 (nat (nI k))) t (nat (σ.1.2.2 4 (nat (nI k)))) (σ.1.1, σ.2.1) = _
    rw [ek2, e4, ff, show nat (nI q) = q from nI_clamp (by omega)]
  have eW : srW (nI k) t σ = srC f t q (σ.1.1, σ.2.1) := by
    show srC (σ.1.2.2 (nat (nI k))) t (nat (σ.1.2.2 4 (nat (nI k)))) (σ.1.1, σ.2.1) = _
    rw [ek2, e4, ff, show nat (nI q) = q from nI_clamp (by omega)]
  rw [eZ, eW, ek2, ← e5] at ef
  refine ⟨bs, ?_⟩
  refine br_n (fun c0 => ?_) (fun c0 => ?_)
  rotate_left
  · have c0 : F 6 (Int32.toNatClampNeg (nI k)) = 0 := c0
    rw [ek] at c0
    rw [if_pos c0] at ef
    refine xcall (sp_errM F v (-1000000002) 2 (by decide) (by decide) ?_)
    exact R.err h ef
  have c0 : ¬ F 6 (Int32.toNatClampNeg (nI k)) = 0 := c0
  rw [ek] at c0
  rw [if_neg c0] at ef
  refine xcall (sp_moveAll_1_3 F v fun g g1 g2 => ?_)
  have key : ∀ (d i : Nat) (F' v' : xS), i + d = q → vR v v' → (∀ k, ¬ k = 1 → F' k = va_up F 3 g k) → tM (F' 1) (srG f t i (σ.1.1, σ.2.1)).1 (srG f t i (σ.1.1, σ.2.1)).2 → xWP pg_M_series K 64 [(0, .ref 0), (1, .int (nI k)), (2, .int t), (3, .int w), (4, .int (srC f t i (σ.1.1, σ.2.1))), (5, .int (nI i))] [] (xfill F' v' 0 (wM0 0)) (0, 0) := by
    intro d
    induction d with
    | zero =>
      intro i F' v' hi E G T
      have hi : i = q := hi
      subst hi
      have e7 : F' 7 (Int32.toNatClampNeg (nI k)) = nI i := by rw [ek, G 7 (by decide)]; exact eq
      refine xWP_go 200 [(64, [0, 1, 2, 3, 4, 5]), (128, [0, 1, 2, 3, 4, 5])] fun P hP => ?_
      refine ⟨bs, ?_⟩
      refine br_c (fun _ => ?_) (fun z => ?_)
      · have k128 : xWP pg_M_series K 128 [(0, .ref 0), (1, .int (nI k)), (2, .int t), (3, .int w), (4, .int (srC f t i (σ.1.1, σ.2.1))), (5, .int (nI i))] [] (xfill F' v' 0 (wM0 0)) (0, 0) := by
          refine xWP_go 200 [] fun P hP => ?_
          refine ⟨vin (by decide), ?_⟩
          refine xcall (sp_moveAll_3_1 F' v' fun g' k1 k2 => ?_)
          have E2 : mR r0 F v (va_up F' 1 g') v' := by
            refine ⟨fun x => ?_, fun j hj _ => ?_, E⟩
            · by_cases h1 : x = 1
              · exact Or.inl h1
              by_cases h3 : x = 3
              · exact Or.inr (Or.inl h3)
              rw [show va_up F' 1 g' x = F' x from if_neg h1, G x h1]
              exact Or.inr (Or.inr (Or.inr (Or.inr (if_neg h3))))
            · show g' j = F 1 j
              rw [k1 j hj, G 3 (by decide)]
              exact g1 j hj
          have e8 : F' 1 (Int32.toNatClampNeg 8) = (srG f t i (σ.1.1, σ.2.1)).2.2.1 := by rw [nq8]; exact T.1.2.2.2
          refine br_n (fun y => ?_) (fun y => ?_)
          · rw [if_neg y] at ef
            exact R.go h E2 ef
          · rw [if_pos y] at ef
            exact R.go h E2 (ef.trans (an_ e8.symm))
        exact hP _ _ _ _ _ k128
      · have z : ¬ F' 7 (Int32.toNatClampNeg (nI k)) ≤ nI i := z
        rw [e7, nI_leI (by omega) (by omega)] at z
        omega
    | succ d ih =>
      intro i F' v' hi E G T
      have e7 : F' 7 (Int32.toNatClampNeg (nI k)) = nI q := by rw [ek, G 7 (by decide)]; exact eq
      have nx := ih (i + 1)
      obtain ⟨p, ep⟩ : ∃ p, p = srG f t i (σ.1.1, σ.2.1) := ⟨_, rfl⟩
      have eG : srG f t (i + 1) (σ.1.1, σ.2.1) = (clS p.1, ePlay p.1 p.2 (srM (f i)) t) := by rw [ep]; rfl
      have eC : srC f t (i + 1) (σ.1.1, σ.2.1) = srC f t i (σ.1.1, σ.2.1) + nI (cnN p.1 p.2 (srM (f i)) t) := by rw [ep]; rfl
      have Ip : cIv p.1 p.2 := by rw [ep]; exact srI R.c i
      rw [eG, eC] at nx
      rw [← ep] at T
      have e15 : v' 0 15 = 0 := (E.at (j := 15) (by omega)).trans R.tk
      have n40 : Int32.toNatClampNeg ((40 : Int32) * nI k + nI i) = 40 * k + i := by rw [ix40]; exact nI_clamp (by omega)
      have en : srM (F' 8 (Int32.toNatClampNeg ((40 : Int32) * nI k + nI i))) = srM (f i) := by rw [n40, G 8 (by decide)]; exact fj i (by omega)
      refine xWP_go 200 [(64, [0, 1, 2, 3, 4, 5]), (128, [0, 1, 2, 3, 4, 5])] fun P hP => ?_
      refine ⟨bs, ?_⟩
      refine br_c (fun z => ?_) (fun _ => ?_)
      · have z : F' 7 (Int32.toNatClampNeg (nI k)) ≤ nI i := z
        rw [e7, nI_leI (by omega) (by omega)] at z
        omega
      refine ⟨by show vp_in ((40 : Int32) * nI k + nI i) 160; rw [ix40]; exact vp_in_nI (by omega) (by omega), ?_⟩
      refine br_c (fun z => ?_) (fun z => ?_)
      · have z : 6 ≤ F' 8 (Int32.toNatClampNeg ((40 : Int32) * nI k + nI i)) &&& 7 := z
        have em : (F' 8 (Int32.toNatClampNeg ((40 : Int32) * nI k + nI i)) &&& 7) - 6 = srM (f i) := by
          rw [← en]
          exact (if_pos z).symm
        refine xcall (sx_callsE2 F' v' p.1 p.2 T Ip (srM (f i)) _ t u hu eu em e15 (fun F2 v2 G2 E2 T2 => ?_))
        refine xcall (sx_bits _ (stN (eHad p.1 p.2 (srM (f i)) t) (nat (p.1 6 1))) rfl (by have := st128 Ip (b := srM (f i)) (t := t); omega) ?_)
        refine hP _ _ _ _ _ ?_
        rw [nI_1]
        exact nx F2 v2 (by omega) (E.tr E2.2.2) (fun x hx => (G2 x hx).trans (G x hx)) T2
      · have z : ¬ 6 ≤ F' 8 (Int32.toNatClampNeg ((40 : Int32) * nI k + nI i)) &&& 7 := z
        have em : F' 8 (Int32.toNatClampNeg ((40 : Int32) * nI k + nI i)) &&& 7 = srM (f i) := by
          rw [← en]
          exact (if_neg z).symm
        refine xcall (sx_callsE2 F' v' p.1 p.2 T Ip (srM (f i)) _ t u hu eu em e15 (fun F2 v2 G2 E2 T2 => ?_))
        refine xcall (sx_bits _ (stN (eHad p.1 p.2 (srM (f i)) t) (nat (p.1 6 1))) rfl (by have := st128 Ip (b := srM (f i)) (t := t); omega) ?_)
        refine hP _ _ _ _ _ ?_
        rw [nI_1]
        exact nx F2 v2 (by omega) (E.tr E2.2.2) (fun x hx => (G2 x hx).trans (G x hx)) T2
  refine hP _ _ _ _ _ ?_
  exact key q 0 (va_up F 3 g) v (by omega) (fun _ => Or.inr rfl) (fun _ _ => rfl) R.t
end
section
/-! ===== things taken away, exactly ===== -/
theorem mk_0 {m : Int32} : ¬ mk 0 m := by
  intro z
  have q : (0 : Int32) >>> (m &&& 31) = 0 := Int32.zero_shiftRight
  have z : (0 >>> (m &&& 31)) &&& 1 = (1 : Int32) := z
  rw [q] at z
  exact absurd z (by decide)
theorem gLp_M {s : xS} {X : xXt} {c : Nat} {b : Int32} {M M' : Nat → Int32} : ∀ (d i : Nat) (g r : Int32), (∀ j, i ≤ j → j < i + d → (M j = M' j ∨ ¬ mk (M j) b ∧ ¬ mk (M' j) b)) → gLp (va_up s 1 M) X c b d i g r = gLp (va_up s 1 M') X c b d i g r := by
  intro d
  induction d with
  | zero => intro i g r _; rfl
  | succ d ih =>
    intro i g r h
    have em : mk (M i) b ↔ mk (M' i) b := by
      rcases h i (Nat.le_refl i) (by omega) with e | ⟨x, y⟩
      · rw [e]
      · exact ⟨fun z => absurd z x, fun z => absurd z y⟩
    show (if (mk (M i) b ∧ off (X.1 0 c) (s 0 i) < r) ∧ ¬ X.2.2 0 (off (X.1 0 c) (s 0 i)) b (s 3 c) = 0 then gLp (va_up s 1 M) X c b d (i + 1) (nI i) (off (X.1 0 c) (s 0 i)) else gLp (va_up s 1 M) X c b d (i + 1) g r) = (if (mk (M' i) b ∧ off (X.1 0 c) (s 0 i) < r) ∧ ¬ X.2.2 0 (off (X.1 0 c) (s 0 i)) b (s 3 c) = 0 then gLp (va_up s 1 M') X c b d (i + 1) (nI i) (off (X.1 0 c) (s 0 i)) else gLp (va_up s 1 M') X c b d (i + 1) g r)
    rw [ih (i + 1) (nI i) (off (X.1 0 c) (s 0 i)) (fun j a l => h j (by omega) (by omega)), ih (i + 1) g r (fun j a l => h j (by omega) (by omega))]
    by_cases m1 : mk (M i) b
    · have m2 := em.mp m1
      by_cases z : off (X.1 0 c) (s 0 i) < r ∧ ¬ X.2.2 0 (off (X.1 0 c) (s 0 i)) b (s 3 c) = 0
      · rw [if_pos ⟨⟨m1, z.1⟩, z.2⟩, if_pos ⟨⟨m2, z.1⟩, z.2⟩]
      · rw [if_neg (fun y => z ⟨y.1.2, y.2⟩), if_neg (fun y => z ⟨y.1.2, y.2⟩)]
    · have m2 : ¬ mk (M' i) b := fun z => m1 (em.mpr z)
      rw [if_neg (fun y => m1 y.1.1), if_neg (fun y => m2 y.1.1)]
theorem hdL_M {s : xS} {L : xLw} {cr cell b : Int32} {M M' : Nat → Int32} : ∀ (d i : Nat), (∀ j, i ≤ j → j < i + d → (M j = M' j ∨ ¬ mk (M j) b ∧ ¬ mk (M' j) b)) → hdL (va_up s 1 M) L cr cell b d i = hdL (va_up s 1 M') L cr cell b d i := by
  intro d
  induction d with
  | zero => intro i _; rfl
  | succ d ih =>
    intro i h
    show (if s 0 i = cell ∧ mk (M i) b then (if L cr (M i) b = 0 then 0 else 1) else hdL (va_up s 1 M) L cr cell b d (i + 1)) = (if s 0 i = cell ∧ mk (M' i) b then (if L cr (M' i) b = 0 then 0 else 1) else hdL (va_up s 1 M') L cr cell b d (i + 1))
    rw [ih (i + 1) (fun j a l => h j (by omega) (by omega))]
    rcases h i (Nat.le_refl i) (by omega) with e | ⟨x, y⟩
    · rw [e]
    · rw [if_neg (fun z => x z.2), if_neg (fun z => y z.2)]
theorem eSet_M {s : xS} {X : xXt} {b t : Int32} {M M' : Nat → Int32} (h : ∀ j, j < nat (s 6 0) → (M j = M' j ∨ ¬ mk (M j) b ∧ ¬ mk (M' j) b)) : eSet (va_up s 1 M) X b t = eSet (va_up s 1 M') X b t := by
  have g : ∀ c, eGoal (va_up s 1 M) X c b = eGoal (va_up s 1 M') X c b := fun c => gLp_M (nat (s 6 0)) 0 (-1) (farV (s 2 c) (s 3 c) + 1) (fun j _ l => h j (by omega))
  have e : ∀ c, eEnd (va_up s 1 M) X b t c = eEnd (va_up s 1 M') X b t c := fun c => by
    unfold eEnd
    rw [g c]
    rfl
  have e2 : eEnd (va_up s 1 M) X b t = eEnd (va_up s 1 M') X b t := funext e
  have hh : ∀ (E : Nat → Int32) (cell : Int32), eHeld (va_up s 1 M) X E cell b = eHeld (va_up s 1 M') X E cell b := fun E cell => hdL_M (nat (s 6 0)) 0 (fun j _ l => h j (by omega))
  have hd : eHad (va_up s 1 M) X b t = eHad (va_up s 1 M') X b t := by
    funext c
    unfold eHad
    rw [e2, hh]
  show nI (stN (eHad (va_up s 1 M) X b t) (nat (s 6 1))) = nI (stN (eHad (va_up s 1 M') X b t) (nat (s 6 1)))
  rw [hd]
-- the first of the fewest
def tkn : Option Nat → Nat
  | none => 9
  | some b => popN b
def tkR (Q : Nat → Bool) : Nat → Option Nat
  | 0 => none
  | n + 1 => if popN n < tkn (tkR Q n) ∧ Q n = true then some n else tkR Q n
theorem tk_le {Q : Nat → Bool} : ∀ (n k : Nat), k < n → Q k = true → tkn (tkR Q n) ≤ popN k := by
  intro n
  induction n with
  | zero => intro k h _; exact absurd h (Nat.not_lt_zero k)
  | succ n ih =>
    intro k h q
    unfold tkR
    by_cases e : k = n
    · subst e
      by_cases l : popN k < tkn (tkR Q k)
      · rw [if_pos ⟨l, q⟩]
        exact Nat.le_refl _
      · rw [if_neg (fun z => l z.1)]
        omega
    · have x := ih k (by omega) q
      by_cases l : popN n < tkn (tkR Q n) ∧ Q n = true
      · rw [if_pos l]
        show popN n ≤ popN k
        have := l.1
        omega
      · rw [if_neg l]
        exact x
theorem tk_eq {A P : Nat → Bool} {N : Nat} (h : ∀ n, n < N → P n = true → A n = false → ∃ k, k < n ∧ P k = true ∧ popN k < popN n) : ∀ n, n ≤ N → tkR P n = tkR (fun k => A k && P k) n := by
  intro n
  induction n with
  | zero => intro _; rfl
  | succ n ih =>
    intro hn
    have e := ih (by omega)
    show (if popN n < tkn (tkR P n) ∧ P n = true then some n else tkR P n) = (if popN n < tkn (tkR (fun k => A k && P k) n) ∧ (A n && P n) = true then some n else tkR (fun k => A k && P k) n)
    rw [← e]
    cases p : P n with
    | false =>
      rw [if_neg (fun z => Bool.false_ne_true z.2), Bool.and_false, if_neg (fun z => Bool.false_ne_true z.2)]
    | true =>
      cases a : A n with
      | true => rfl
      | false =>
        obtain ⟨k, k1, k2, k3⟩ := h n (by omega) p a
        have x := tk_le n k k1 k2
        rw [if_neg (fun z => by have := z.1; omega), if_neg (fun z => Bool.false_ne_true z.2)]
theorem tk_in {Q : Nat → Bool} : ∀ (n b : Nat), tkR Q n = some b → b < n := by
  intro n
  induction n with
  | zero => intro b h; have h : none = some b := h; cases h
  | succ n ih =>
    intro b h
    have h : (if popN n < tkn (tkR Q n) ∧ Q n = true then some n else tkR Q n) = some b := h
    by_cases l : popN n < tkn (tkR Q n) ∧ Q n = true
    · rw [if_pos l] at h
      have q : n = b := Option.some.inj h
      omega
    · rw [if_neg l] at h
      have := ih b h
      omega
def tkP (c m t : Int32) (σ : xZ) (k : Nat) : Bool := decide (mk (eSet (sm (nI k) σ.1.1) σ.2.1 m t) c)
def tkH (m : Int32) (s : xS) (k : Nat) : Bool := decide (∀ j, j < nat (s 6 0) → mk (nI k) (nI j) → mk (s 1 j) m)
def tkA : Option Nat → xAn
  | none => (-1000000002, 2)
  | some b => (nI b, 0)
def tkp : Option Nat → Int32
  | none => 0
  | some b => nI b
def tkb : Option Nat → Int32
  | none => -1
  | some b => nI b
def z_take (c m t : Int32) (σ : xZ) : xAn := if xin c (σ.1.1 6 1).toInt ∧ xin m 6 ∧ xin t 10 then tkA (tkR (tkP c m t σ) (2 ^ nat (σ.1.1 6 0))) else (-1000000001, 1)
theorem pop8 {k : Nat} (h : k < 256) : popN k ≤ 8 := by
  have q : ∀ k : Fin 256, popN k.val ≤ 8 := by decide +kernel
  exact q ⟨k, h⟩
theorem bt_sub {k j : Nat} (hk : k < 256) (hj : j < 8) (b : k.testBit j = true) : k - 2 ^ j < k ∧ popN (k - 2 ^ j) < popN k ∧ (k - 2 ^ j).testBit j = false ∧ ∀ i, i < 8 → ¬ i = j → (k - 2 ^ j).testBit i = k.testBit i := by
  have q : ∀ (k : Fin 256) (j : Fin 8), k.val.testBit j.val = true → k.val - 2 ^ j.val < k.val ∧ popN (k.val - 2 ^ j.val) < popN k.val ∧ (k.val - 2 ^ j.val).testBit j.val = false ∧ ∀ i : Fin 8, ¬ i.val = j.val → (k.val - 2 ^ j.val).testBit i.val = k.val.testBit i.val := by decide +kernel
  obtain ⟨a, c, d, e⟩ := q ⟨k, hk⟩ ⟨j, hj⟩ b
  exact ⟨a, c, d, fun i hi n => e ⟨i, hi⟩ n⟩
theorem pow8 {kt : Nat} (h : kt ≤ 8) : 2 ^ kt ≤ 256 ∧ (1 : Int32) <<< (nI kt &&& 31) = nI (2 ^ kt) := by
  have q : ∀ kt : Fin 9, 2 ^ kt.val ≤ 256 ∧ (1 : Int32) <<< (nI kt.val &&& 31) = nI (2 ^ kt.val) := by decide +kernel
  exact q ⟨kt, by omega⟩
/-- to take away a thing without the mark changes nothing -/
theorem tk_same {c m t : Int32} {σ : xZ} {kt : Nat} (hk : kt ≤ 8) (ek : nat (σ.1.1 6 0) = kt) : tkR (tkP c m t σ) (2 ^ kt) = tkR (fun k => tkH m σ.1.1 k && tkP c m t σ k) (2 ^ kt) := by
  refine tk_eq (N := 2 ^ kt) (fun n hn p a => ?_) _ (Nat.le_refl _)
  have n256 : n < 256 := by have := (pow8 hk).1; omega
  have a := of_decide_eq_false a
  obtain ⟨j, hj⟩ := Classical.not_forall.mp a
  obtain ⟨j1, hj⟩ := Classical.not_imp.mp hj
  obtain ⟨j2, j3⟩ := Classical.not_imp.mp hj
  rw [ek] at j1
  have b := (mk_nI n256 (by omega)).mp j2
  obtain ⟨x1, x2, x3, x4⟩ := bt_sub n256 (by omega) b
  refine ⟨n - 2 ^ j, x1, ?_, x2⟩
  have e : eSet (sm (nI (n - 2 ^ j)) σ.1.1) σ.2.1 m t = eSet (sm (nI n) σ.1.1) σ.2.1 m t := by
    refine eSet_M (s := σ.1.1) (M := fun i => if mk (nI (n - 2 ^ j)) (nI i) then 0 else σ.1.1 1 i) (M' := fun i => if mk (nI n) (nI i) then 0 else σ.1.1 1 i) (fun i hi => ?_)
    rw [ek] at hi
    by_cases ij : i = j
    · subst ij
      refine Or.inr ⟨?_, ?_⟩
      · show ¬ mk (if mk (nI (n - 2 ^ i)) (nI i) then 0 else σ.1.1 1 i) m
        rw [if_neg (fun z => by have y := (mk_nI (by omega) (by omega)).mp z; rw [x3] at y; exact Bool.false_ne_true y)]
        exact j3
      · show ¬ mk (if mk (nI n) (nI i) then 0 else σ.1.1 1 i) m
        rw [if_pos j2]
        exact mk_0
    · refine Or.inl ?_
      show (if mk (nI (n - 2 ^ j)) (nI i) then 0 else σ.1.1 1 i) = (if mk (nI n) (nI i) then 0 else σ.1.1 1 i)
      have q := x4 i (by omega) ij
      by_cases z : n.testBit i = true
      · rw [if_pos ((mk_nI (by omega) (by omega)).mpr (q.trans z)), if_pos ((mk_nI n256 (by omega)).mpr z)]
      · rw [if_neg (fun y => z (q.symm.trans ((mk_nI (by omega) (by omega)).mp y))), if_neg (fun y => z ((mk_nI n256 (by omega)).mp y))]
  unfold tkP at p ⊢
  rw [e]
  exact p
set_option maxRecDepth 100000 in
theorem sx_allHave (F v s : xS) (X : xXt) (T : tH F v s X) (I : cIv s X) (k : Nat) (hk : k < 256) (m : Int32) {K : xKo} (h0 : tkH m s k = false → K (some (.int 0)) (xfill F v 0 (wT0 0))) (h1 : tkH m s k = true → K (some (.int 1)) (xfill F v 0 (wT0 0))) : C_T_allHave [.ref 0, .int (nI k), .int m] (xfill F v 0 (wT0 0)) K := by
  obtain ⟨n, hn, en⟩ := I.1.1
  have ek : nat (s 6 0) = n := by rw [en]; exact nI_clamp (by omega)
  have e2 : v 0 2 = nI n := T.1.1.trans en
  have key : ∀ (d i : Nat), i + d = n → (∀ j, j < i → mk (nI k) (nI j) → mk (s 1 j) m) → xWP pg_T_allHave K 2 [(0, .ref 0), (1, .int (nI k)), (2, .int m), (3, .int (nI i))] [] (xfill F v 0 (wT0 0)) (0, 0) := by
    intro d
    induction d with
    | zero =>
      intro i hi al
      have hi : i = n := hi
      refine xWP_go 200 [(2, [0, 1, 2, 3])] fun P hP => ?_
      refine br_c (fun _ => ⟨Or.inr rfl, h1 (decide_eq_true fun j hj => al j (by omega))⟩) (fun z => ?_)
      have z : ¬ v 0 2 ≤ nI i := z
      rw [e2, nI_leI (by omega) (by omega)] at z
      omega
    | succ d ih =>
      intro i hi al
      have em : F 2 (Int32.toNatClampNeg (nI i)) = s 1 i := by
        rw [show Int32.toNatClampNeg (nI i) = i from nI_clamp (by omega)]
        exact (T.2.1 i (by rw [ek]; omega)).2
      refine xWP_go 200 [(2, [0, 1, 2, 3])] fun P hP => ?_
      refine br_c (fun z => ?_) (fun _ => ?_)
      · have z : v 0 2 ≤ nI i := z
        rw [e2, nI_leI (by omega) (by omega)] at z
        omega
      refine xcall (sp_isIn _ _ (fun y => ?_) (fun y => ?_))
      · have y : ¬ mk (nI k) (nI i) := y
        refine br_c (fun _ => ?_) (fun z => absurd rfl z)
        refine hP _ _ _ _ _ ?_
        rw [nI_1]
        refine ih (i + 1) (by omega) (fun j hj x => ?_)
        by_cases e : j = i
        · rw [e] at x; exact absurd x y
        · exact al j (by omega) x
      have y : mk (nI k) (nI i) := y
      refine br_c (fun z => absurd z (by decide)) (fun _ => ?_)
      refine ⟨vp_in_nI (by omega) (by omega), ?_⟩
      refine xcall (sp_isIn _ _ (fun x => ?_) (fun x => ?_))
      · have x : ¬ mk (F 2 (Int32.toNatClampNeg (nI i))) m := x
        rw [em] at x
        refine br_n (fun z => absurd rfl z) (fun _ => ?_)
        exact ⟨Or.inl rfl, h0 (decide_eq_false fun z => x (z i (by rw [ek]; omega) y))⟩
      · have x : mk (F 2 (Int32.toNatClampNeg (nI i))) m := x
        rw [em] at x
        refine br_n (fun _ => ?_) (fun z => absurd z (by decide))
        refine hP _ _ _ _ _ ?_
        rw [nI_1]
        refine ih (i + 1) (by omega) (fun j hj w => ?_)
        by_cases e : j = i
        · rw [e]; exact x
        · exact al j (by omega) w
  refine xM_go rfl 200 [(2, [0, 1, 2, 3])] fun P hP => ?_
  refine hP _ _ _ _ _ ?_
  exact key n 0 (by omega) (fun j hj => absurd hj (Nat.not_lt_zero j))
theorem tH.marks {F v s : xS} {X : xXt} {M M' : Nat → Int32} (T : tH F v (va_up s 1 M) X) (h : ∀ j, j < nat (s 6 0) → F 2 j = M' j) : tH F v (va_up s 1 M') X := ⟨T.1, fun j hj => ⟨(T.2.1 j hj).1, h j hj⟩, T.2.2⟩
theorem tH.put {F v s : xS} {X : xXt} {M f : Nat → Int32} (T : tH F v (va_up s 1 M) X) : tH (va_up F 2 f) v (va_up s 1 f) X := ⟨T.1, fun j hj => ⟨(T.2.1 j hj).1, rfl⟩, T.2.2⟩
set_option maxRecDepth 100000 in
theorem sx_hadWithout (F v s : xS) (X : xXt) (Tn : tH (fun k => F (1 + k)) (fun k => v (1 + k)) s X) (T : ∃ M, tH (fun k => F (37 + k)) (fun k => v (37 + k)) (va_up s 1 M) X) (I : cIv s X) (k : Nat) (c m : Int32) (u : Nat) (hu : u < 10) {K : xKo} (h0 : ¬ mk (eSet (sm (nI k) s) X m (nI u)) c → ∀ F' v', hG F v F' v' → (∃ M, tH (fun k => F' (37 + k)) (fun k => v' (37 + k)) (va_up s 1 M) X) → K (some (.int 0)) (xfill F' v' 0 wH0)) (h1 : mk (eSet (sm (nI k) s) X m (nI u)) c → ∀ F' v', hG F v F' v' → (∃ M, tH (fun k => F' (37 + k)) (fun k => v' (37 + k)) (va_up s 1 M) X) → K (some (.int 1)) (xfill F' v' 0 wH0)) : C_H_hadWithout [.ref 0, .int (nI k), .int c, .int m, .int (nI u)] (xfill F v 0 wH0) K := by
  obtain ⟨n, hn, en⟩ := I.1.1
  have ek : nat (s 6 0) = n := by rw [en]; exact nI_clamp (by omega)
  have e2 : v 1 2 = nI n := Tn.1.1.trans en
  have key : ∀ (d i : Nat) (F' v' : xS), i + d = n → hG F v F' v' → (∃ M, tH (fun k => F' (37 + k)) (fun k => v' (37 + k)) (va_up s 1 M) X) → (∀ j, j < i → F' 39 j = if mk (nI k) (nI j) then 0 else s 1 j) → xWP pg_H_hadWithout K 3 [(0, .ref 0), (1, .int (nI k)), (2, .int c), (3, .int m), (4, .int (nI u)), (5, .int (nI i))] [] (xfill F' v' 0 wH0) (0, 0) := by
    intro d
    induction d with
    | zero =>
      intro i F' v' hi E TT al
      have hi : i = n := hi
      obtain ⟨M, TM⟩ := TT
      have e : v' 1 2 = nI n := (E.2 1 2 rfl).trans e2
      have T1 : tH (fun k => F' (37 + k)) (fun k => v' (37 + k)) (sm (nI k) s) X := TM.marks (M' := fun j => if mk (nI k) (nI j) then 0 else s 1 j) (fun j hj => al j (by rw [ek] at hj; omega))
      refine xWP_go 200 [(3, [0, 1, 2, 3, 4, 5])] fun P hP => ?_
      refine br_c (fun _ => ?_) (fun z => ?_)
      · refine xcall (sx_wouldBeHad (fun k => F' (37 + k)) (fun k => v' (37 + k)) (sm (nI k) s) X T1 (I.sm (nI k)) m u hu (fun G w E2 _ => ?_))
        have T3 : ∃ M, tH (fun k => upS 37 F' G (37 + k)) (fun k => upS 37 v' w (37 + k)) (va_up s 1 M) X := ⟨fun j => if mk (nI k) (nI j) then 0 else s 1 j, by have T2 := T1.e E2; exact T2⟩
        refine xcall (sp_isIn _ _ (fun y => ?_) (fun y => ?_))
        · exact ⟨Or.inl rfl, h0 y (upS 37 F' G) (upS 37 v' w) (E.tr hG.up37) T3⟩
        · exact ⟨Or.inr rfl, h1 y (upS 37 F' G) (upS 37 v' w) (E.tr hG.up37) T3⟩
      · have z : ¬ v' 1 2 ≤ nI i := z
        rw [e, nI_leI (by omega) (by omega)] at z
        omega
    | succ d ih =>
      intro i F' v' hi E TT al
      obtain ⟨M, TM⟩ := TT
      have e : v' 1 2 = nI n := (E.2 1 2 rfl).trans e2
      have ei : Int32.toNatClampNeg (nI i) = i := nI_clamp (by omega)
      have em : F' 3 (Int32.toNatClampNeg (nI i)) = s 1 i := by
        rw [ei, E.1 3 rfl]
        exact (Tn.2.1 i (by rw [ek]; omega)).2
      have nx : ∀ x : Int32, x = (if mk (nI k) (nI i) then 0 else s 1 i) → xWP pg_H_hadWithout K 3 [(0, .ref 0), (1, .int (nI k)), (2, .int c), (3, .int m), (4, .int (nI u)), (5, .int (nI (i + 1)))] [] (xfill (va_up F' 39 (upd (F' 39) (Int32.toNatClampNeg (nI i)) x)) v' 0 wH0) (0, 0) := by
        intro x ex
        refine ih (i + 1) (va_up F' 39 (upd (F' 39) (Int32.toNatClampNeg (nI i)) x)) v' (by omega) (E.fu rfl) ⟨_, TM.put (f := upd (F' 39) (Int32.toNatClampNeg (nI i)) x) |>.ext rfl (fun _ _ _ _ => rfl)⟩ (fun j hj => ?_)
        show upd (F' 39) (Int32.toNatClampNeg (nI i)) x j = _
        rw [ei]
        by_cases ej : j = i
        · rw [ej, pk_us]; exact ex
        · rw [pk_un ej]; exact al j (by omega)
      refine xWP_go 200 [(3, [0, 1, 2, 3, 4, 5])] fun P hP => ?_
      refine br_c (fun z => ?_) (fun _ => ?_)
      · have z : v' 1 2 ≤ nI i := z
        rw [e, nI_leI (by omega) (by omega)] at z
        omega
      have bi : vp_in (nI i) 8 := vp_in_nI (by omega) (by omega)
      refine xcall (sp_isIn _ _ (fun y => ?_) (fun y => ?_))
      · have y : ¬ mk (nI k) (nI i) := y
        refine br_c (fun _ => ?_) (fun z => absurd rfl z)
        refine ⟨bi, ?_⟩
        refine ⟨bi, ?_⟩
        refine hP _ _ _ _ _ ?_
        rw [nI_1]
        exact nx (F' 3 (Int32.toNatClampNeg (nI i))) (em.trans (if_neg y).symm)
      · have y : mk (nI k) (nI i) := y
        refine br_c (fun z => absurd z (by decide)) (fun _ => ?_)
        refine ⟨bi, ?_⟩
        refine hP _ _ _ _ _ ?_
        rw [nI_1]
        exact nx 0 (if_pos y).symm
  refine xM_go rfl 200 [(3, [0, 1, 2, 3, 4, 5])] fun P hP => ?_
  refine hP _ _ _ _ _ ?_
  exact key n 0 F v (by omega) tR.rf T (fun j hj => absurd hj (Nat.not_lt_zero j))
set_option maxRecDepth 100000 in
theorem HX_take (n : Nat) (σ : xZ) (F v : xS) (R : HR n σ F v) (c m s : Int32) {K : xKo} (h : hK n σ (z_take c m s σ) F K) : C_H_take [.ref 0, .int c, .int m, .int s] (xfill F v 0 wH0) K := by
  obtain ⟨kt, hkt, et⟩ : below 8 (σ.1.1 6 0) := R.c.1.1
  have ekt : nat (σ.1.1 6 0) = kt := by rw [et]; exact nI_clamp (by omega)
  obtain ⟨pN, eN⟩ := pow8 hkt
  have e12 : v 1 2 = nI kt := R.n1.1.trans et
  obtain ⟨n0, h0, e0⟩ := R.2.2.2.1.1
  obtain ⟨n1, h1, e1⟩ := R.2.2.2.1.2
  refine xM_go rfl 200 [(51, [0, 1, 2, 3, 4, 5, 6])] fun P hP => ?_
  refine xcall (sp_isChild F v _ (fun a1 => ?_) (fun a1 => ?_))
  · rw [R.n1.2.1] at a1
    refine br_c (fun _ => ?_) (fun z => absurd rfl z)
    refine xcall (sp_errH F v 1 (by decide) ?_)
    exact R.err h (if_neg fun z => a1 z.1)
  rw [R.n1.2.1] at a1
  refine br_c (fun z => absurd z (by decide)) (fun _ => ?_)
  refine xcall (sp_isBelow _ _ (fun a2 => ?_) (fun a2 => ?_))
  · refine br_c (fun _ => ?_) (fun z => absurd rfl z)
    refine xcall (sp_errH F v 1 (by decide) ?_)
    exact R.err h (if_neg fun z => a2 z.2.1)
  have a2 : xin m 6 := a2
  refine br_c (fun z => absurd z (by decide)) (fun _ => ?_)
  refine xcall (sp_isSteps _ (fun a3 => ?_) (fun a3 => ?_))
  · refine br_n (fun z => absurd rfl z) (fun _ => ?_)
    refine xcall (sp_errH F v 1 (by decide) ?_)
    exact R.err h (if_neg fun z => a3 z.2.2)
  refine br_n (fun _ => ?_) (fun z => absurd z (by decide))
  have ef : z_take c m s σ = tkA (tkR (tkP c m s σ) (2 ^ nat (σ.1.1 6 0))) := if_pos ⟨a1, a2, a3⟩
  rw [ekt, tk_same hkt ekt] at ef
  obtain ⟨u, hu, rfl, -⟩ := nI_ofx s (n := 10) a3 (by decide)
  have hu : u < 10 := by omega
  obtain ⟨Q, eQ⟩ : ∃ Q : Nat → Bool, Q = fun k => tkH m σ.1.1 k && tkP c m (nI u) σ k := ⟨_, rfl⟩
  rw [← eQ] at ef
  have key : ∀ (d i : Nat) (r : Option Nat) (F' v' : xS), i + d = 2 ^ kt → hG F v F' v' → (∃ M, tH (fun k => F' (37 + k)) (fun k => v' (37 + k)) (va_up σ.1.1 1 M) σ.2.1) → r = tkR Q i → xWP pg_H_take K 51 [(0, .ref 0), (1, .int c), (2, .int m), (3, .int (nI u)), (4, .int (tkp r)), (5, .int (nI (tkn r))), (6, .int (nI i))] [] (xfill F' v' 0 wH0) (0, 0) := by
    intro d
    induction d with
    | zero =>
      intro i r F' v' hi E T er
      have hi : i = 2 ^ kt := hi
      rw [← hi, ← er] at ef
      have e : v' 1 2 = v 1 2 := E.2 1 2 rfl
      refine xWP_go 200 [(51, [0, 1, 2, 3, 4, 5, 6])] fun P hP => ?_
      refine br_c (fun _ => ?_) (fun z => ?_)
      · cases r with
        | none =>
          refine br_c (fun z => ?_) (fun z => ?_)
          · have z : nI 9 ≤ nI 8 := z
            rw [nI_leI (by omega) (by omega)] at z
            omega
          · refine xcall (sp_errH F' v' 2 (by decide) ?_)
            exact R.goe h E ef
        | some b =>
          have b1 := tk_in i b er.symm
          have b8 := pop8 (k := b) (by omega)
          refine br_c (fun z => ?_) (fun z => ?_)
          · exact R.go h E ef
          · have z : ¬ nI (popN b) ≤ nI 8 := z
            rw [nI_leI (by omega) (by omega)] at z
            omega
      · have z : ¬ (1 : Int32) <<< (v' 1 2 &&& 31) ≤ nI i := z
        rw [e, e12, eN, nI_leI (by omega) (by omega)] at z
        omega
    | succ d ih =>
      intro i r F' v' hi E T er
      have e : v' 1 2 = v 1 2 := E.2 1 2 rfl
      have i256 : i < 256 := by omega
      have p8 := pop8 i256
      have t9 : tkn r ≤ 9 := by
        cases r with
        | none => exact Nat.le_refl _
        | some b =>
          have b1 := tk_in i b er.symm
          have b8 := pop8 (k := b) (by omega)
          show popN b ≤ 9
          omega
      have RE := R.keep E
      have es : tkR Q (i + 1) = if popN i < tkn r ∧ Q i = true then some i else r := by rw [er]; rfl
      have eQi : Q i = (tkH m σ.1.1 i && tkP c m (nI u) σ i) := by rw [eQ]
      have no : ∀ (F2 v2 : xS), hG F' v' F2 v2 → (∃ M, tH (fun k => F2 (37 + k)) (fun k => v2 (37 + k)) (va_up σ.1.1 1 M) σ.2.1) → ¬ (popN i < tkn r ∧ Q i = true) → xWP pg_H_take K 51 [(0, .ref 0), (1, .int c), (2, .int m), (3, .int (nI u)), (4, .int (tkp r)), (5, .int (nI (tkn r))), (6, .int (nI i + 1))] [] (xfill F2 v2 0 wH0) (0, 0) := by
        intro F2 v2 E2 T2 z
        rw [nI_1]
        exact ih (i + 1) r F2 v2 (by omega) (E.tr E2) T2 (by rw [es, if_neg z])
      refine xWP_go 200 [(51, [0, 1, 2, 3, 4, 5, 6])] fun P hP => ?_
      refine br_c (fun z => ?_) (fun _ => ?_)
      · have z : (1 : Int32) <<< (v' 1 2 &&& 31) ≤ nI i := z
        rw [e, e12, eN, nI_leI (by omega) (by omega)] at z
        omega
      refine xcall (sx_bitCount _ i rfl i256 ?_)
      refine br_c (fun z => ?_) (fun z => ?_)
      · have z : nI (tkn r) ≤ nI (popN i) := z
        rw [nI_leI (by omega) (by omega)] at z
        refine hP _ _ _ _ _ ?_
        exact no F' v' tR.rf T (fun y => by have := y.1; omega)
      have z : ¬ nI (tkn r) ≤ nI (popN i) := z
      rw [nI_leI (by omega) (by omega)] at z
      refine xcall (sx_allHave (fun k => F' (1 + k)) (fun k => v' (1 + k)) σ.1.1 σ.2.1 RE.t R.c i i256 m (fun y => ?_) (fun y => ?_))
      · refine br_c (fun _ => ?_) (fun z => absurd rfl z)
        refine hP _ _ _ _ _ ?_
        exact no F' v' tR.rf T (fun x => by have q := x.2; rw [eQi, y, Bool.false_and] at q; exact Bool.false_ne_true q)
      refine br_c (fun z => absurd z (by decide)) (fun _ => ?_)
      refine xcall (sx_hadWithout F' v' σ.1.1 σ.2.1 RE.t T R.c i c m u hu (fun x F2 v2 E2 T2 => ?_) (fun x F2 v2 E2 T2 => ?_))
      · refine br_c (fun _ => ?_) (fun z => absurd rfl z)
        refine hP _ _ _ _ _ ?_
        exact no F2 v2 E2 T2 (fun w => by have q := w.2; rw [eQi, y, Bool.true_and] at q; exact x (of_decide_eq_true q))
      · refine br_c (fun z => absurd z (by decide)) (fun _ => ?_)
        refine hP _ _ _ _ _ ?_
        have q : Q i = true := by rw [eQi, y, Bool.true_and]; exact decide_eq_true x
        rw [nI_1]
        exact ih (i + 1) (some i) F2 v2 (by omega) (E.tr E2) T2 (by rw [es, if_pos ⟨by omega, q⟩])
  refine xcall (sp_copy (thF F) (thF v) n0 n1 h0 h1 e0 e1 ?_)
  refine hP _ _ _ _ _ ?_
  have TC := R.t.copy R.c h0 h1 e0 e1
  exact key (2 ^ kt) 0 none (upS 37 F (cpF (thF F) n0 n1)) (upS 37 v (cpV (thF v) n0 n1)) (by omega) hG.up37 ⟨σ.1.1 1, TC⟩ rfl
-- the reference
set_option maxRecDepth 100000 in
theorem MX_take (n : Nat) (σ : xZ) (F v : xS) (R : MR n σ F v) (c m s : Int32) {K : xKo} (h : mK n σ (z_take c m s σ) F K) : C_M_take [.ref 0, .int c, .int m, .int s] (xfill F v 0 (wM0 0)) K := by
  obtain ⟨kt, hkt, et⟩ : below 8 (σ.1.1 6 0) := R.c.1.1
  have ekt : nat (σ.1.1 6 0) = kt := by rw [et]; exact nI_clamp (by omega)
  obtain ⟨pN, eN⟩ := pow8 hkt
  have e13 : F 1 3 = nI kt := R.n1.1.trans et
  refine xM_go rfl 200 [(35, [0, 1, 2, 3, 4, 5]), (66, [0, 1, 2, 3, 4, 5])] fun P hP => ?_
  refine xcall (sp_isChildM F v _ R.J.1.1.2.1 (fun a1 => ?_) (fun a1 => ?_))
  · rw [R.n1.2.1] at a1
    refine br_c (fun _ => ?_) (fun z => absurd rfl z)
    refine xcall (sp_errM F v (-1000000001) 1 (by decide) (by decide) ?_)
    exact R.err h (if_neg fun z => a1 z.1)
  rw [R.n1.2.1] at a1
  refine br_c (fun z => absurd z (by decide)) (fun _ => ?_)
  refine xcall (sp_isMark _ (fun a2 => ?_) (fun a2 => ?_))
  · refine br_c (fun _ => ?_) (fun z => absurd rfl z)
    refine xcall (sp_errM F v (-1000000001) 1 (by decide) (by decide) ?_)
    exact R.err h (if_neg fun z => a2 z.2.1)
  refine br_c (fun z => absurd z (by decide)) (fun _ => ?_)
  refine xcall (sp_areSteps _ (fun a3 => ?_) (fun a3 => ?_))
  · refine br_n (fun z => absurd rfl z) (fun _ => ?_)
    refine xcall (sp_errM F v (-1000000001) 1 (by decide) (by decide) ?_)
    exact R.err h (if_neg fun z => a3 z.2.2)
  refine br_n (fun _ => ?_) (fun z => absurd z (by decide))
  have ef : z_take c m s σ = tkA (tkR (tkP c m s σ) (2 ^ nat (σ.1.1 6 0))) := if_pos ⟨a1, a2, a3⟩
  rw [ekt] at ef
  obtain ⟨u, hu, rfl, -⟩ := nI_ofx s (n := 10) a3 (by decide)
  have hu : u < 10 := by omega
  obtain ⟨Q, eQ⟩ : ∃ Q : Nat → Bool, Q = tkP c m (nI u) σ := ⟨_, rfl⟩
  rw [← eQ] at ef
  have key : ∀ (d i : Nat) (r : Option Nat) (F' v' : xS), i + d = 2 ^ kt → (∀ k, k = 1 ∨ k = 3 ∨ k = 4 ∨ k = 99 ∨ F' k = F k) → (∀ j, j < 230 → F' 1 j = F 1 j) → (∀ j, (7 ≤ j ∧ j < 16) ∨ v' 0 j = v 0 j) → r = tkR Q i → xWP pg_M_take K 35 [(0, .ref 0), (1, .int c), (2, .int m), (3, .int (nI u)), (4, .int (tkb r)), (5, .int (nI i))] [] (xfill F' v' 0 (wM0 0)) (0, 0) := by
    intro d
    induction d with
    | zero =>
      intro i r F' v' hi g1 g2 g3 er
      have hi : i = 2 ^ kt := hi
      rw [← hi, ← er] at ef
      have e3 : F' 1 (Int32.toNatClampNeg 3) = nI kt := by rw [nq3, g2 3 (by omega)]; exact e13
      have E2 : mR r0 F v F' (va_up v' 0 (va_up (v' 0) 15 0)) := by
        refine ⟨g1, fun j hj _ => g2 j hj, fun j => ?_⟩
        by_cases e : j = 15
        · subst e
          exact Or.inr R.tk.symm
        · have q : va_up v' 0 (va_up (v' 0) 15 0) 0 j = v' 0 j := if_neg e
          rw [q]
          rcases g3 j with d | d
          · exact Or.inl ⟨d.1, by omega⟩
          · exact Or.inr d
      refine xWP_go 200 [(35, [0, 1, 2, 3, 4, 5]), (66, [0, 1, 2, 3, 4, 5])] fun P hP => ?_
      refine ⟨vin (by decide), ?_⟩
      refine br_c (fun _ => ?_) (fun z => ?_)
      · cases r with
        | none =>
          refine br_c (fun z => absurd z (by decide)) (fun _ => ?_)
          refine xcall (sp_errM F' (va_up v' 0 (va_up (v' 0) 15 0)) (-1000000002) 2 (by decide) (by decide) ?_)
          exact R.goe h E2 ef
        | some b =>
          have b1 := tk_in i b er.symm
          refine br_c (fun _ => ?_) (fun z => ?_)
          · exact R.go h E2 ef
          · have z : ¬ 0 ≤ nI b := z
            exact absurd (nI_pos' (by omega)) z
      · have z : ¬ (1 : Int32) <<< (F' 1 (Int32.toNatClampNeg 3) &&& 31) ≤ nI i := z
        rw [e3, eN, nI_leI (by omega) (by omega)] at z
        omega
    | succ d ih =>
      intro i r F' v' hi g1 g2 g3 er
      have e3 : F' 1 (Int32.toNatClampNeg 3) = nI kt := by rw [nq3, g2 3 (by omega)]; exact e13
      have i256 : i < 256 := by omega
      have p8 := pop8 i256
      have es : tkR Q (i + 1) = if popN i < tkn r ∧ Q i = true then some i else r := by rw [er]; rfl
      have eQi : Q i = tkP c m (nI u) σ i := by rw [eQ]
      have T1 : tM (F' 1) σ.1.1 σ.2.1 := R.t.of R.c.1.1 R.c.1.2 g2
      refine xWP_go 200 [(35, [0, 1, 2, 3, 4, 5]), (66, [0, 1, 2, 3, 4, 5])] fun P hP => ?_
      refine ⟨vin (by decide), ?_⟩
      refine br_c (fun z => ?_) (fun _ => ?_)
      · have z : (1 : Int32) <<< (F' 1 (Int32.toNatClampNeg 3) &&& 31) ≤ nI i := z
        rw [e3, eN, nI_leI (by omega) (by omega)] at z
        omega
      have k66 : popN i < tkn r → xWP pg_M_take K 66 [(0, .ref 0), (1, .int c), (2, .int m), (3, .int (nI u)), (4, .int (tkb r)), (5, .int (nI i))] [] (xfill F' v' 0 (wM0 0)) (0, 0) := by
        intro lt
        refine xWP_go 200 [(35, [0, 1, 2, 3, 4, 5])] fun P hP => ?_
        refine xcall (sx_wouldBe F' (va_up v' 0 (va_up (v' 0) 15 (nI i))) σ.1.1 σ.2.1 T1 R.c m u hu (fun F2 v2 E2 => ?_))
        have f1 : ∀ k, k = 1 ∨ k = 3 ∨ k = 4 ∨ k = 99 ∨ F2 k = F k := by
          intro k
          rcases E2.1 k with e | e | e | e | e
          · exact Or.inl e
          · exact Or.inr (Or.inl e)
          · exact Or.inr (Or.inr (Or.inl e))
          · exact Or.inr (Or.inr (Or.inr (Or.inl e)))
          · rcases g1 k with d | d | d | d | d
            · exact Or.inl d
            · exact Or.inr (Or.inl d)
            · exact Or.inr (Or.inr (Or.inl d))
            · exact Or.inr (Or.inr (Or.inr (Or.inl d)))
            · exact Or.inr (Or.inr (Or.inr (Or.inr (e.trans d))))
        have f2 : ∀ j, j < 230 → F2 1 j = F 1 j := fun j hj => (E2.2.1 j hj rfl).trans (g2 j hj)
        have f3 : ∀ j, (7 ≤ j ∧ j < 16) ∨ v2 0 j = v 0 j := by
          intro j
          by_cases e : j = 15
          · exact Or.inl ⟨by omega, by omega⟩
          · rcases E2.2.2 j with d | d
            · exact Or.inl ⟨d.1, by omega⟩
            · have q : va_up v' 0 (va_up (v' 0) 15 (nI i)) 0 j = v' 0 j := if_neg e
              rw [q] at d
              rcases g3 j with y | y
              · exact Or.inl y
              · exact Or.inr (d.trans y)
        refine br_n (fun y => ?_) (fun y => ?_)
        · have y : ¬ mk (eSet (sm (nI i) σ.1.1) σ.2.1 m (nI u)) c := y
          have q : ¬ (popN i < tkn r ∧ Q i = true) := fun z => by have w := z.2; rw [eQi] at w; exact y (of_decide_eq_true w)
          refine hP _ _ _ _ _ ?_
          rw [nI_1]
          exact ih (i + 1) r F2 v2 (by omega) f1 f2 f3 (by rw [es, if_neg q])
        · have y : mk (eSet (sm (nI i) σ.1.1) σ.2.1 m (nI u)) c := y
          have q : Q i = true := by rw [eQi]; exact decide_eq_true y
          refine hP _ _ _ _ _ ?_
          rw [nI_1]
          exact ih (i + 1) (some i) F2 v2 (by omega) f1 f2 f3 (by rw [es, if_pos ⟨lt, q⟩])
      cases r with
      | none =>
        refine br_c (fun _ => hP _ _ _ _ _ (k66 (by show popN i < 9; omega))) (fun z => absurd (by decide) z)
      | some b =>
        have b1 := tk_in i b er.symm
        have b8 := pop8 (k := b) (by omega)
        refine br_c (fun z => ?_) (fun _ => ?_)
        · have z : nI b < 0 := z
          rw [xlt, nI_toInt (by omega), show (0 : Int32).toInt = 0 by decide] at z
          omega
        refine xcall (sx_bits _ i rfl i256 ?_)
        refine xcall (sx_bits _ b rfl (by omega) ?_)
        refine br_c (fun z => ?_) (fun z => ?_)
        · have z : nI (popN b) ≤ nI (popN i) := z
          rw [nI_leI (by omega) (by omega)] at z
          have q : ¬ (popN i < tkn (some b) ∧ Q i = true) := fun y => by have w : popN i < popN b := y.1; omega
          refine hP _ _ _ _ _ ?_
          rw [nI_1]
          exact ih (i + 1) (some b) F' v' (by omega) g1 g2 g3 (by rw [es, if_neg q])
        · have z : ¬ nI (popN b) ≤ nI (popN i) := z
          rw [nI_leI (by omega) (by omega)] at z
          exact hP _ _ _ _ _ (k66 (by show popN i < popN b; omega))
  refine hP _ _ _ _ _ ?_
  exact key (2 ^ kt) 0 none F v (by omega) (fun _ => Or.inr (Or.inr (Or.inr (Or.inr rfl)))) (fun _ _ => rfl) (fun _ => Or.inr rfl) rfl
end
