/-! ===== one thing laid more, exactly ===== -/
def sL (s : xS) (c k : Int32) : xS := va_up (va_up (va_up s 0 (upd (s 0) (nat (s 6 0)) c)) 1 (upd (s 1) (nat (s 6 0)) k)) 6 (upd (s 6) 0 (s 6 0 + 1))
def lyS (s : xS) (X : xXt) (m t : Int32) (i : Nat) : Int32 := nI (cnN (sL s (nI i) ((1 : Int32) <<< (m &&& 31))) X m t)
def z_lay (m t w : Int32) (σ : xZ) : Int32 := if xin m 6 ∧ xin t 10 ∧ xin w 2 then (if nat (σ.1.1 6 0) < 8 then (if w = 0 then (mfL (lyS σ.1.1 σ.2.1 m t) 12 0 (0, 8)).1 else (mfL (lyS σ.1.1 σ.2.1 m t) 12 0 (0, 8)).2) else -1000000004) else -1000000001
theorem shl_63 {m : Int32} (h : xin m 6) : below 63 ((1 : Int32) <<< (m &&& 31)) := by
  obtain ⟨k, hk, rfl, -⟩ := nI_ofx m (n := 6) h (by decide)
  have q : ∀ k : Fin 6, ∃ j : Fin 64, (1 : Int32) <<< (nI k.val &&& 31) = nI j.val := by decide +kernel
  obtain ⟨j, e⟩ := q ⟨k, by omega⟩
  exact ⟨j.val, by have := j.isLt; omega, e⟩
theorem cIv.lay {s : xS} {X : xXt} {k : Nat} (I : cIv s X) (e : s 6 0 = nI k) (hk : k < 8) {i : Nat} (hi : i < 12) {M : Int32} (hM : below 63 M) : cIv (sL s (nI i) M) X := by
  have ek : nat (s 6 0) = k := by rw [e]; exact nI_clamp (by omega)
  have e1 : s 6 0 + 1 = nI (k + 1) := by rw [e, nI_1]
  refine ⟨⟨⟨k + 1, by omega, e1⟩, I.1.2⟩, fun j hj => ?_, I.2.2⟩
  have hj : j < nat (s 6 0 + 1) := hj
  rw [e1, show nat (nI (k + 1)) = k + 1 from nI_clamp (by omega)] at hj
  show below 11 (upd (s 0) (nat (s 6 0)) (nI i) j) ∧ below 63 (upd (s 1) (nat (s 6 0)) M j)
  rw [ek]
  by_cases ej : j = k
  · subst ej
    rw [pk_us, pk_us]
    exact ⟨⟨i, by omega, rfl⟩, hM⟩
  · rw [pk_un ej, pk_un ej]
    exact I.2.1 j (by rw [ek]; omega)
theorem tH.lay {F v s : xS} {X : xXt} {k : Nat} {c M : Int32} (T : tH F v s X) (e : s 6 0 = nI k) (hk : k < 8) : tH (va_up (va_up F 1 (upd (F 1) (nat (v 0 2)) c)) 2 (upd (F 2) (nat (v 0 2)) M)) (va_up v 0 (va_up (v 0) 2 (v 0 2 + 1))) (sL s c M) X := by
  obtain ⟨⟨a1, a2, a3, a4⟩, b, r⟩ := T
  have ek : nat (s 6 0) = k := by rw [e]; exact nI_clamp (by omega)
  refine ⟨⟨?_, a2, a3, a4⟩, fun j hj => ?_, r⟩
  · show v 0 2 + 1 = s 6 0 + 1
    rw [a1]
  have hj : j < nat (s 6 0 + 1) := hj
  rw [e, nI_1, show nat (nI (k + 1)) = k + 1 from nI_clamp (by omega)] at hj
  show upd (F 1) (nat (v 0 2)) c j = upd (s 0) (nat (s 6 0)) c j ∧ upd (F 2) (nat (v 0 2)) M j = upd (s 1) (nat (s 6 0)) M j
  rw [a1, ek]
  by_cases ej : j = k
  · subst ej
    rw [pk_us, pk_us, pk_us, pk_us]
    exact ⟨rfl, rfl⟩
  · rw [pk_un ej, pk_un ej, pk_un ej, pk_un ej]
    exact b j (by rw [ek]; omega)
theorem tH.cell {F v s : xS} {X : xXt} {k : Nat} {y M : Int32} (T : tH F v (sL s y M) X) (e : s 6 0 = nI k) (hk : k < 8) (x : Int32) : tH (va_up F 1 (upd (F 1) k x)) v (sL s x M) X := by
  obtain ⟨a, b, r⟩ := T
  have ek : nat (s 6 0) = k := by rw [e]; exact nI_clamp (by omega)
  refine ⟨a, fun j hj => ⟨?_, (b j hj).2⟩, r⟩
  have q : F 1 j = upd (s 0) (nat (s 6 0)) y j := (b j hj).1
  show upd (F 1) k x j = upd (s 0) (nat (s 6 0)) x j
  rw [ek] at q ⊢
  by_cases ej : j = k
  · rw [ej, pk_us, pk_us]
  · rw [pk_un ej, pk_un ej]
    rw [pk_un ej] at q
    exact q
theorem tM.lay {f g : Nat → Int32} {s : xS} {X : xXt} {k : Nat} {c M : Int32} (T : tM f s X) (I : cIv s X) (e : s 6 0 = nI k) (hk : k < 8) (g0 : ∀ j, j < 230 → ¬ j = 9 + 2 * k → ¬ j = 9 + 2 * k + 1 → ¬ j = 3 → g j = f j) (g1 : g (9 + 2 * k) = c) (g2 : g (9 + 2 * k + 1) = M) (g3 : g 3 = nI (k + 1)) : tM g (sL s c M) X := by
  have ek : nat (s 6 0) = k := by rw [e]; exact nI_clamp (by omega)
  have e1 : s 6 0 + 1 = nI (k + 1) := by rw [e, nI_1]
  have c7 := bel_nat I.1.2 (by omega)
  obtain ⟨⟨a1, a2, a3, a4⟩, b, d, x, l0, l1⟩ := T
  refine ⟨⟨?_, ?_, ?_, ?_⟩, fun j hj => ?_, fun j hj => ?_, fun j hj => ?_, ?_, ?_⟩
  · show g 3 = s 6 0 + 1
    rw [g3, e1]
  · exact (g0 2 (by omega) (by omega) (by omega) (by omega)).trans a2
  · exact (g0 0 (by omega) (by omega) (by omega) (by omega)).trans a3
  · exact (g0 8 (by omega) (by omega) (by omega) (by omega)).trans a4
  · have hj : j < nat (s 6 0 + 1) := hj
    rw [e1, show nat (nI (k + 1)) = k + 1 from nI_clamp (by omega)] at hj
    show g (9 + 2 * j) = upd (s 0) (nat (s 6 0)) c j ∧ g (9 + 2 * j + 1) = upd (s 1) (nat (s 6 0)) M j
    rw [ek]
    by_cases ej : j = k
    · subst ej
      rw [pk_us, pk_us]
      exact ⟨g1, g2⟩
    · rw [pk_un ej, pk_un ej, g0 (9 + 2 * j) (by omega) (by omega) (by omega) (by omega), g0 (9 + 2 * j + 1) (by omega) (by omega) (by omega) (by omega)]
      exact b j (by rw [ek]; omega)
  · have hj : j < nat (s 6 1) := hj
    rw [g0 (25 + 5 * j + 0) (by omega) (by omega) (by omega) (by omega), g0 (25 + 5 * j + 1) (by omega) (by omega) (by omega) (by omega)]
    exact d j hj
  · rw [g0 (25 + 5 * j + 2) (by omega) (by omega) (by omega) (by omega), g0 (25 + 5 * j + 3) (by omega) (by omega) (by omega) (by omega), g0 (25 + 5 * j + 4) (by omega) (by omega) (by omega) (by omega)]
    exact x j hj
  · exact l0.of (by decide) (g0 6 (by omega) (by omega) (by omega) (by omega)) (fun y a b => g0 y (by omega) (by omega) (by omega) (by omega))
  · exact l1.of (by decide) (g0 7 (by omega) (by omega) (by omega) (by omega)) (fun y a b => g0 y (by omega) (by omega) (by omega) (by omega))
set_option maxRecDepth 100000 in
theorem HX_lay (n : Nat) (σ : xZ) (F v : xS) (R : HR n σ F v) (m s w : Int32) {K : xKo} (h : hK n σ (z_lay m s w σ) K) : C_H_lay [.ref 0, .int m, .int s, .int w] (xfill F v 0 wH0) K := by
  obtain ⟨kt, hkt, es⟩ : below 8 (σ.1.1 6 0) := R.c.1.1
  have et : v 1 2 = nI kt := R.n1.1.trans es
  have ek : nat (σ.1.1 6 0) = kt := by rw [es]; exact nI_clamp (by omega)
  obtain ⟨n0, h0, e0⟩ := R.2.2.2.1.1
  obtain ⟨n1, h1, e1⟩ := R.2.2.2.1.2
  refine xM_go rfl 200 [(82, [0, 1, 2, 3, 4, 5, 6, 7])] fun P hP => ?_
  refine xcall (sp_isBelow _ _ (fun a1 => ?_) (fun a1 => ?_))
  · refine br_c (fun _ => ?_) (fun z => absurd rfl z)
    refine xcall (sp_errH F v 1 (by decide) ?_)
    exact R.err h _ (if_neg fun z => a1 z.1)
  have a1 : xin m 6 := a1
  refine br_c (fun z => absurd z (by decide)) (fun _ => ?_)
  refine xcall (sp_isSteps _ (fun a2 => ?_) (fun a2 => ?_))
  · refine br_c (fun _ => ?_) (fun z => absurd rfl z)
    refine xcall (sp_errH F v 1 (by decide) ?_)
    exact R.err h _ (if_neg fun z => a2 z.2.1)
  refine br_c (fun z => absurd z (by decide)) (fun _ => ?_)
  refine xcall (sp_isBelow _ _ (fun a3 => ?_) (fun a3 => ?_))
  · refine br_n (fun z => absurd rfl z) (fun _ => ?_)
    refine xcall (sp_errH F v 1 (by decide) ?_)
    exact R.err h _ (if_neg fun z => a3 z.2.2)
  refine br_n (fun _ => ?_) (fun z => absurd z (by decide))
  have ef : z_lay m s w σ = if nat (σ.1.1 6 0) < 8 then (if w = 0 then (mfL (lyS σ.1.1 σ.2.1 m s) 12 0 (0, 8)).1 else (mfL (lyS σ.1.1 σ.2.1 m s) 12 0 (0, 8)).2) else -1000000004 := if_pos ⟨a1, a2, a3⟩
  refine br_c (fun a4 => ?_) (fun a4 => ?_)
  rotate_left
  · have a4 : ¬ v 1 2 < nI 8 := a4
    rw [et, nI_ltI (by omega) (by omega)] at a4
    rw [if_neg (by rw [ek]; exact a4)] at ef
    refine xcall (sp_errH F v 4 (by decide) ?_)
    exact R.err h _ ef
  have a4 : v 1 2 < nI 8 := a4
  rw [et, nI_ltI (by omega) (by omega)] at a4
  rw [if_pos (by rw [ek]; exact a4)] at ef
  obtain ⟨u, hu, rfl, -⟩ := nI_ofx s (n := 10) a2 (by decide)
  have hu : u < 10 := by omega
  obtain ⟨M, eM⟩ : ∃ M, M = (1 : Int32) <<< (m &&& 31) := ⟨_, rfl⟩
  have hM : below 63 M := by rw [eM]; exact shl_63 a1
  obtain ⟨R0, eR⟩ : ∃ R0, R0 = mfL (lyS σ.1.1 σ.2.1 m (nI u)) 12 0 (0, 8) := ⟨_, rfl⟩
  rw [← eR] at ef
  have esc : ∀ i, lyS σ.1.1 σ.2.1 m (nI u) i = nI (cnN (sL σ.1.1 (nI i) M) σ.2.1 m (nI u)) := fun i => by rw [eM]; rfl
  have nkt : Int32.toNatClampNeg (nI kt) = kt := nI_clamp (by omega)
  have key : ∀ (d i : Nat) (p q : Int32) (F' v' : xS), i + d = 12 → hG F v F' v' → (∃ y, tH (fun k => F' (37 + k)) (fun k => v' (37 + k)) (sL σ.1.1 y M) σ.2.1) → mfL (lyS σ.1.1 σ.2.1 m (nI u)) d i (p, q) = R0 → xWP pg_H_lay K 82 [(0, .ref 0), (1, .int m), (2, .int (nI u)), (3, .int w), (4, .int (nI kt)), (5, .int p), (6, .int q), (7, .int (nI i))] [] (xfill F' v' 0 wH0) (0, 0) := by
    intro d
    induction d with
    | zero =>
      intro i p q F' v' hi E TT er
      have er : (p, q) = R0 := er
      rw [← er] at ef
      refine xWP_go 200 [(82, [0, 1, 2, 3, 4, 5, 6, 7])] fun P hP => ?_
      refine br_c (fun _ => ?_) (fun z => ?_)
      · refine br_n (fun y => ?_) (fun y => ?_)
        · rw [if_neg y] at ef
          exact R.go h E ef
        · rw [if_pos y] at ef
          exact R.go h E ef
      · have z : ¬ nI 12 ≤ nI i := z
        exact absurd (by rw [nI_leI (by omega) (by omega)]; omega) z
    | succ d ih =>
      intro i p q F' v' hi E TT er
      obtain ⟨y, TY⟩ := TT
      have er : mfL (lyS σ.1.1 σ.2.1 m (nI u)) d (i + 1) (if lyS σ.1.1 σ.2.1 m (nI u) i < q then (nI i, lyS σ.1.1 σ.2.1 m (nI u) i) else (p, q)) = R0 := er
      have ei := esc i
      refine xWP_go 200 [(82, [0, 1, 2, 3, 4, 5, 6, 7])] fun P hP => ?_
      refine br_c (fun z => ?_) (fun _ => ?_)
      · have z : nI 12 ≤ nI i := z
        rw [nI_leI (by omega) (by omega)] at z
        omega
      refine ⟨vp_in_nI a4 (by omega), ?_⟩
      have T1 : tH (fun j => va_up F' 38 (upd (F' 38) (Int32.toNatClampNeg (nI kt)) (nI i)) (37 + j)) (fun k => v' (37 + k)) (sL σ.1.1 (nI i) M) σ.2.1 := by
        rw [nkt]
        exact (TY.cell es a4 (nI i)).ext rfl (fun _ _ _ _ => rfl)
      have I1 : cIv (sL σ.1.1 (nI i) M) σ.2.1 := R.c.lay es a4 (by omega) hM
      refine xcall (sx_wouldBeHad (fun j => va_up F' 38 (upd (F' 38) (Int32.toNatClampNeg (nI kt)) (nI i)) (37 + j)) (fun k => v' (37 + k)) (sL σ.1.1 (nI i) M) σ.2.1 T1 I1 m u hu (fun G w2 E2 _ => ?_))
      have E3 : hG F v (upS 37 (va_up F' 38 (upd (F' 38) (Int32.toNatClampNeg (nI kt)) (nI i))) G) (upS 37 v' w2) := (E.fu (k := 38) rfl).tr hG.up37
      have T3 : tH (fun j => upS 37 (va_up F' 38 (upd (F' 38) (Int32.toNatClampNeg (nI kt)) (nI i))) G (37 + j)) (fun j => upS 37 v' w2 (37 + j)) (sL σ.1.1 (nI i) M) σ.2.1 := by have T2 := T1.e E2; exact T2
      refine xcall (sx_bitCount _ (stN (eHad (sL σ.1.1 (nI i) M) σ.2.1 m (nI u)) (nat ((sL σ.1.1 (nI i) M) 6 1))) rfl (by have := st128 I1 (b := m) (t := nI u); omega) ?_)
      refine br_c (fun z => ?_) (fun z => ?_)
      · have z : q ≤ nI (cnN (sL σ.1.1 (nI i) M) σ.2.1 m (nI u)) := z
        rw [← ei] at z
        rw [if_neg (fun y => by rw [xlt] at y; rw [xle] at z; omega)] at er
        refine hP _ _ _ _ _ ?_
        rw [nI_1]
        exact ih (i + 1) _ _ _ _ (by omega) E3 ⟨_, T3⟩ er
      · have z : ¬ q ≤ nI (cnN (sL σ.1.1 (nI i) M) σ.2.1 m (nI u)) := z
        rw [← ei] at z
        rw [if_pos (by rw [xlt]; rw [xle] at z; omega)] at er
        rw [ei] at er
        refine hP _ _ _ _ _ ?_
        rw [nI_1]
        exact ih (i + 1) _ _ _ _ (by omega) E3 ⟨_, T3⟩ er
  refine xcall (sp_copy (thF F) (thF v) n0 n1 h0 h1 e0 e1 ?_)
  refine xcall (sp_addThing (cpF (thF F) n0 n1) (cpV (thF v) n0 n1) 0 _ kt (by omega) et ?_)
  refine hP _ _ _ _ _ ?_
  have TC := (R.t.copy R.c h0 h1 e0 e1).lay (c := 0) (M := M) es a4
  rw [eM] at TC
  have q := key 12 0 0 8 (upS 37 F (va_up (va_up (cpF (thF F) n0 n1) 1 (upd (cpF (thF F) n0 n1 1) (nat (cpV (thF v) n0 n1 0 2)) 0)) 2 (upd (cpF (thF F) n0 n1 2) (nat (cpV (thF v) n0 n1 0 2)) ((1 : Int32) <<< (m &&& 31))))) (upS 37 v (va_up (cpV (thF v) n0 n1) 0 (va_up (cpV (thF v) n0 n1 0) 2 (cpV (thF v) n0 n1 0 2 + 1)))) (by omega) hG.up37 ⟨0, by rw [eM]; exact TC⟩ eR.symm
  rw [← et] at q
  exact q
-- the reference
def rL (k j : Nat) : Bool := j == 9 + 2 * k || j == 9 + 2 * k + 1
theorem rL_n {k j : Nat} (h0 : ¬ j = 9 + 2 * k) (h1 : ¬ j = 9 + 2 * k + 1) : rL k j = false := by
  unfold rL
  rw [Bool.or_eq_false_iff]
  exact ⟨by simpa using h0, by simpa using h1⟩
theorem MR.lay {n k : Nat} {σ : xZ} {F v F' v' : xS} (R : MR n σ F v) (hk : k < 8) (e : F 1 3 = nI k) (E : mR (rL k) F v F' v') : MR (n + 1) σ F' v' := by
  have g : ∀ j, j < 230 → ¬ j = 9 + 2 * k → ¬ j = 9 + 2 * k + 1 → F' 1 j = F 1 j := fun j l h0 h1 => E.2.1 j l (rL_n h0 h1)
  have I := R.J
  have n2 : nat (F 1 2) ≤ 7 := bel_nat I.1.1.2.1 (by omega)
  have n4 : nat (F 1 4) ≤ 50 := bel_nat I.1.1.2.2.2.1 (by omega)
  have n5 : nat (F 1 5) ≤ 20 := bel_nat I.1.1.2.2.2.2 (by omega)
  have S := R.2.2.2
  have ZZ := mXr.row.mp R.z.1
  refine ⟨R.1.up, R.2.1, agr.tr (t := mA F v) ?_ R.2.2.1, R.mS (σ' := σ) ⟨?_, ?_⟩ (E.k ⟨by decide, by decide, by decide, by decide⟩) ⟨E.v (by omega), E.v (by omega), E.v (by omega)⟩ ⟨E.k ⟨by decide, by decide, by decide, by decide⟩, E.k ⟨by decide, by decide, by decide, by decide⟩⟩ ⟨fun j hj => ?_, ?_, ?_, ?_⟩ rfl rfl⟩
  · refine ⟨⟨⟨g 3 (by omega) (by omega) (by omega), g 2 (by omega) (by omega) (by omega), g 0 (by omega) (by omega) (by omega), g 1 (by omega) (by omega) (by omega), g 4 (by omega) (by omega) (by omega), g 5 (by omega) (by omega) (by omega)⟩, fun j hj => ?_, fun j hj => ?_, fun j hj => ?_, fun j hj => ?_⟩, ?_, fun _ => ?_⟩
    · have hj : j < nat (F' 1 3) := hj
      rw [g 3 (by omega) (by omega) (by omega), e, show nat (nI k) = k from nI_clamp (by omega)] at hj
      exact ⟨g (9 + 2 * j) (by omega) (by omega) (by omega), g (9 + 2 * j + 1) (by omega) (by omega) (by omega)⟩
    · have hj : j < nat (F' 1 2) := hj
      rw [g 2 (by omega) (by omega) (by omega)] at hj
      exact ⟨g (25 + 5 * j + 0) (by omega) (by omega) (by omega), g (25 + 5 * j + 1) (by omega) (by omega) (by omega)⟩
    · have hj : j < nat (F' 1 4) := hj
      rw [g 4 (by omega) (by omega) (by omega)] at hj
      exact g (60 + j) (by omega) (by omega) (by omega)
    · have hj : j < nat (F' 1 5) := hj
      rw [g 5 (by omega) (by omega) (by omega)] at hj
      exact g (110 + j) (by omega) (by omega) (by omega)
    · have q : mRs F' v' = mRs F v := by
        unfold mRs
        rw [E.k (k := 6) ⟨by decide, by decide, by decide, by decide⟩, E.k (k := 7) ⟨by decide, by decide, by decide, by decide⟩, E.k (k := 8) ⟨by decide, by decide, by decide, by decide⟩, E.k (k := 10) ⟨by decide, by decide, by decide, by decide⟩, E.v (j := 5) (by omega), E.v (j := 21) (by omega)]
      show rAgr (mRs F' v') (mRs F v)
      rw [q]
      exact rAgr.rf
    · show sAgr (mSt (F' 2)) (mSt (F 2))
      rw [E.k (k := 2) ⟨by decide, by decide, by decide, by decide⟩]
      exact sAgr.rf
  · rw [g 6 (by omega) (by omega) (by omega)]; exact S.1.1
  · rw [g 7 (by omega) (by omega) (by omega)]; exact S.1.2
  · rw [g (25 + 5 * j + 2) (by omega) (by omega) (by omega), g (25 + 5 * j + 3) (by omega) (by omega) (by omega), g (25 + 5 * j + 4) (by omega) (by omega) (by omega)]
    exact ZZ.1 j hj
  · rw [g 8 (by omega) (by omega) (by omega)]
    exact ZZ.2.1
  · exact ZZ.2.2.1.of (by decide) (g 6 (by omega) (by omega) (by omega)) (fun y a b => g y (by omega) (by omega) (by omega))
  · exact ZZ.2.2.2.of (by decide) (g 7 (by omega) (by omega) (by omega)) (fun y a b => g y (by omega) (by omega) (by omega))
set_option maxRecDepth 100000 in
theorem MX_lay (n : Nat) (σ : xZ) (F v : xS) (R : MR n σ F v) (m s w : Int32) {K : xKo} (h : mK n σ (z_lay m s w σ) K) : C_M_lay [.ref 0, .int m, .int s, .int w] (xfill F v 0 (wM0 0)) K := by
  obtain ⟨k, hk, es⟩ : below 8 (σ.1.1 6 0) := R.c.1.1
  have e : F 1 3 = nI k := R.n1.1.trans es
  have ek : nat (σ.1.1 6 0) = k := by rw [es]; exact nI_clamp (by omega)
  refine xM_go rfl 200 [(58, [0, 1, 2, 3, 4, 5, 6])] fun P hP => ?_
  refine xcall (sp_isMark _ (fun a1 => ?_) (fun a1 => ?_))
  · refine br_c (fun _ => ?_) (fun z => absurd rfl z)
    refine xcall (sp_errM F v (-1000000001) 1 (by decide) (by decide) ?_)
    exact R.err h _ (if_neg fun z => a1 z.1)
  refine br_c (fun z => absurd z (by decide)) (fun _ => ?_)
  refine xcall (sp_areSteps _ (fun a2 => ?_) (fun a2 => ?_))
  · refine br_c (fun _ => ?_) (fun z => absurd rfl z)
    refine xcall (sp_errM F v (-1000000001) 1 (by decide) (by decide) ?_)
    exact R.err h _ (if_neg fun z => a2 z.2.1)
  refine br_c (fun z => absurd z (by decide)) (fun _ => ?_)
  refine xcall (sp_inx _ 1 2 (by decide) (fun a3 => ?_) (fun a3 => ?_))
  · refine br_n (fun z => absurd rfl z) (fun _ => ?_)
    refine xcall (sp_errM F v (-1000000001) 1 (by decide) (by decide) ?_)
    exact R.err h _ (if_neg fun z => a3 z.2.2)
  refine br_n (fun _ => ?_) (fun z => absurd z (by decide))
  have ef : z_lay m s w σ = if nat (σ.1.1 6 0) < 8 then (if w = 0 then (mfL (lyS σ.1.1 σ.2.1 m s) 12 0 (0, 8)).1 else (mfL (lyS σ.1.1 σ.2.1 m s) 12 0 (0, 8)).2) else -1000000004 := if_pos ⟨a1, a2, a3⟩
  refine ⟨vin (by decide), ?_⟩
  refine br_n (fun z => ?_) (fun z => ?_)
  rotate_left
  · have z : F 1 3 = nI 8 := z
    have k8 : k = 8 := by
      have q := congrArg nat (e.symm.trans z)
      rw [show nat (nI k) = k from nI_clamp (by omega), show nat (nI 8) = 8 from nI_clamp (by omega)] at q
      exact q
    rw [if_neg (by rw [ek, k8]; decide)] at ef
    refine xcall (sp_errM F v (-1000000004) 4 (by decide) (by decide) ?_)
    exact R.err h _ ef
  have z : ¬ F 1 3 = nI 8 := z
  have k8 : k < 8 := by
    have : ¬ k = 8 := fun y => z (by rw [e, y])
    omega
  rw [if_pos (by rw [ek]; exact k8)] at ef
  obtain ⟨u, hu, rfl, -⟩ := nI_ofx s (n := 10) a2 (by decide)
  have hu : u < 10 := by omega
  obtain ⟨M, eM⟩ : ∃ M, M = (1 : Int32) <<< (m &&& 31) := ⟨_, rfl⟩
  have hM : below 63 M := by rw [eM]; exact shl_63 a1
  obtain ⟨R0, eR⟩ : ∃ R0, R0 = mfL (lyS σ.1.1 σ.2.1 m (nI u)) 12 0 (0, 8) := ⟨_, rfl⟩
  rw [← eR] at ef
  have esc : ∀ i, lyS σ.1.1 σ.2.1 m (nI u) i = nI (cnN (sL σ.1.1 (nI i) M) σ.2.1 m (nI u)) := fun i => by rw [eM]; rfl
  have key : ∀ (d i : Nat) (p q : Int32) (F' v' : xS), i + d = 12 → mR (rL k) F v F' v' → mfL (lyS σ.1.1 σ.2.1 m (nI u)) d i (p, q) = R0 → xWP pg_M_lay K 58 [(0, .ref 0), (1, .int m), (2, .int (nI u)), (3, .int w), (4, .int p), (5, .int q), (6, .int (nI i))] [] (xfill F' v' 0 (wM0 0)) (0, 0) := by
    intro d
    induction d with
    | zero =>
      intro i p q F' v' hi E er
      have er : (p, q) = R0 := er
      rw [← er] at ef
      have RF := R.lay k8 e E
      refine xWP_go 200 [(58, [0, 1, 2, 3, 4, 5, 6])] fun P hP => ?_
      refine br_c (fun _ => ?_) (fun z => ?_)
      · refine br_n (fun y => ?_) (fun y => ?_)
        · rw [if_neg y] at ef
          rw [ef] at h
          exact h _ _ RF
        · rw [if_pos y] at ef
          rw [ef] at h
          exact h _ _ RF
      · have z : ¬ nI 12 ≤ nI i := z
        exact absurd (by rw [nI_leI (by omega) (by omega)]; omega) z
    | succ d ih =>
      intro i p q F' v' hi E er
      have er : mfL (lyS σ.1.1 σ.2.1 m (nI u)) d (i + 1) (if lyS σ.1.1 σ.2.1 m (nI u) i < q then (nI i, lyS σ.1.1 σ.2.1 m (nI u) i) else (p, q)) = R0 := er
      have ei := esc i
      have g : ∀ j, j < 230 → ¬ j = 9 + 2 * k → ¬ j = 9 + 2 * k + 1 → F' 1 j = F 1 j := fun j l h0 h1 => E.2.1 j l (rL_n h0 h1)
      have e' : F' 1 3 = nI k := (g 3 (by omega) (by omega) (by omega)).trans e
      refine xWP_go 200 [(58, [0, 1, 2, 3, 4, 5, 6])] fun P hP => ?_
      refine br_c (fun z => ?_) (fun _ => ?_)
      · have z : nI 12 ≤ nI i := z
        rw [nI_leI (by omega) (by omega)] at z
        omega
      refine xcall (sp_addsM F' v' (nI i) _ k k8 e' fun f f1 f2 f3 f4 => ?_)
      have T1 : tM f (sL σ.1.1 (nI i) M) σ.2.1 := R.t.lay R.c es k8 (fun j hj j0 j1 j3 => (f1 j j0 j1 j3).trans (g j hj j0 j1)) f2 (f3.trans eM.symm) f4
      have I1 : cIv (sL σ.1.1 (nI i) M) σ.2.1 := R.c.lay es k8 (by omega) hM
      refine xcall (sx_wouldBe (va_up F' 1 f) v' (sL σ.1.1 (nI i) M) σ.2.1 T1 I1 m u hu (fun F2 v2 E2 => ?_))
      have e15 : v' 0 15 = 0 := (E.v (j := 15) (by omega)).trans R.tk
      rw [e15, sm_0]
      refine xcall (sx_bits _ (stN (eHad (sL σ.1.1 (nI i) M) σ.2.1 m (nI u)) (nat ((sL σ.1.1 (nI i) M) 6 1))) rfl (by have := st128 I1 (b := m) (t := nI u); omega) ?_)
      refine ⟨vin (by decide), ?_⟩
      refine ⟨vin (by decide), ?_⟩
      have E3 : mR (rL k) F v (va_up F2 1 (upd (F2 1) 3 (nI k))) v2 := by
        refine E.tr ⟨fun x => ?_, fun j hj z => ?_, E2.2.2⟩
        · by_cases x1 : x = 1
          · exact Or.inl x1
          · rw [show va_up F2 1 (upd (F2 1) 3 (nI k)) x = F2 x from if_neg x1]
            rcases E2.1 x with y | y | y | y | y
            · exact Or.inl y
            · exact Or.inr (Or.inl y)
            · exact Or.inr (Or.inr (Or.inl y))
            · exact Or.inr (Or.inr (Or.inr (Or.inl y)))
            · exact Or.inr (Or.inr (Or.inr (Or.inr (y.trans (if_neg x1)))))
        · show upd (F2 1) 3 (nI k) j = F' 1 j
          have z1 : ¬ j = 9 + 2 * k ∧ ¬ j = 9 + 2 * k + 1 := by
            unfold rL at z
            rw [Bool.or_eq_false_iff] at z
            exact ⟨by simpa using z.1, by simpa using z.2⟩
          by_cases j3 : j = 3
          · rw [j3, pk_us, e']
          · rw [pk_un j3, E2.2.1 j hj rfl]
            exact f1 j z1.1 z1.2 j3
      have er3 : upd (F2 1) 3 (nI k) = upd (F2 1) (Int32.toNatClampNeg 3) (F2 1 (Int32.toNatClampNeg 3) - 1) := by
        rw [nq3, E2.2.1 3 (by omega) rfl]
        show upd (F2 1) 3 (nI k) = upd (F2 1) 3 (f 3 - 1)
        rw [f4, nI_pred]
      rw [er3] at E3
      refine br_c (fun z => ?_) (fun z => ?_)
      · refine br_c (fun z2 => ?_) (fun z2 => absurd z z2)
        have z : q ≤ nI (cnN (sL σ.1.1 (nI i) M) σ.2.1 m (nI u)) := z
        rw [← ei] at z
        rw [if_neg (fun y => by rw [xlt] at y; rw [xle] at z; omega)] at er
        refine hP _ _ _ _ _ ?_
        rw [nI_1]
        exact ih (i + 1) _ _ _ _ (by omega) E3 er
      · refine br_c (fun z2 => absurd z2 z) (fun z2 => ?_)
        have z : ¬ q ≤ nI (cnN (sL σ.1.1 (nI i) M) σ.2.1 m (nI u)) := z
        rw [← ei] at z
        rw [if_pos (by rw [xlt]; rw [xle] at z; omega)] at er
        rw [ei] at er
        refine hP _ _ _ _ _ ?_
        rw [nI_1]
        exact ih (i + 1) _ _ _ _ (by omega) E3 er
  refine hP _ _ _ _ _ ?_
  exact key 12 0 0 8 F v (by omega) mR.rf eR.symm
