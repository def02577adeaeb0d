/-! ===== the reference: take, lay, series, odds, without their outcome ===== -/
theorem fin2 {n : Nat} {F v : xS} (I : aIv n (mA F v)) (S : mS F v) {K : xKo} (h : mTw F v (fun s => s) K) (r : Int32) (F' v' : xS) (h1 : ∀ k, k = 1 ∨ k = 3 ∨ k = 4 ∨ k = 5 ∨ F' k = F k) (h2 : ∀ j, j < 230 → F' 1 j = F 1 j) (h3 : ∀ j, (7 ≤ j ∧ j < 16) ∨ v' 0 j = v 0 j) : K (some (.int r)) (xfill F' (va_up v' 0 (va_up (v' 0) 15 0)) 0 (wM0 0)) ∧ K (some (.int r)) (xfill (va_up F' 5 (upd (F' 5) 2 (F' 5 2 + 1))) (va_up v' 0 (va_up (v' 0) 15 0)) 0 (wM0 0)) := by
  have E2 : mR r1 F v F' (va_up v' 0 (va_up (v' 0) 15 0)) := by
    refine ⟨h1, fun j hj z => h2 j hj, fun j => ?_⟩
    by_cases e : j = 15
    · subst e
      exact Or.inr S.2.2.2.1.symm
    · have q : va_up v' 0 (va_up (v' 0) 15 0) 0 j = v' 0 j := if_neg e
      rw [q]
      rcases h3 j with d | d
      · exact Or.inl ⟨d.1, by omega⟩
      · exact Or.inr d
  exact ⟨h.r I S E2 rfl, h.r I S E2.er rfl⟩
set_option maxRecDepth 100000 in
theorem ms_take (n : Nat) (F v : xS) (I : aIv n (mA F v)) (S : mS F v) (c m s : Int32) {K : xKo} (h : mTw F v (fun s => s) K) : C_M_take [.ref 0, .int c, .int m, .int s] (xfill F v 0 (wM0 0)) K := by
  obtain ⟨kt, hkt, et⟩ : below 8 (F 1 3) := I.1.1.1
  have es : ∃ N : Nat, N ≤ 256 ∧ (1 : Int32) <<< (nI kt &&& 31) = nI N := by
    rcases (show kt = 0 ∨ kt = 1 ∨ kt = 2 ∨ kt = 3 ∨ kt = 4 ∨ kt = 5 ∨ kt = 6 ∨ kt = 7 ∨ kt = 8 by omega) with z | z | z | z | z | z | z | z | z
    all_goals subst z
    · exact ⟨1, by omega, by decide⟩
    · exact ⟨2, by omega, by decide⟩
    · exact ⟨4, by omega, by decide⟩
    · exact ⟨8, by omega, by decide⟩
    · exact ⟨16, by omega, by decide⟩
    · exact ⟨32, by omega, by decide⟩
    · exact ⟨64, by omega, by decide⟩
    · exact ⟨128, by omega, by decide⟩
    · exact ⟨256, by omega, by decide⟩
  obtain ⟨N, hN, eN⟩ := es
  have key : ∀ (d i : Nat) (p : Int32) (F' v' : xS), i + d = N → (∀ k, k = 1 ∨ k = 3 ∨ k = 4 ∨ k = 5 ∨ F' k = F k) → (∀ j, j < 230 → F' 1 j = F 1 j) → (∀ j, (7 ≤ j ∧ j < 16) ∨ v' 0 j = v 0 j) → xWP pg_M_take K 35 [(0, .ref 0), (1, .int c), (2, .int m), (3, .int s), (4, .int p), (5, .int (nI i))] [] (xfill F' v' 0 (wM0 0)) (0, 0) := by
    intro d
    induction d with
    | zero =>
      intro i p F' v' hi h1 h2 h3
      have e3 : F' 1 (Int32.toNatClampNeg 3) = nI kt := by rw [nq3, h2 3 (by omega)]; exact et
      have f2 := fun r => fin2 (F := F) (v := v) I S h r F' v' h1 h2 h3
      refine xWP_go 200 [(35, [0, 1, 2, 3, 4, 5]), (66, [0, 1, 2, 3, 4, 5])] fun P hP => ?_
      refine ⟨vin (by decide), ?_⟩
      refine br_c (fun _ => ?_) (fun z => ?_)
      · refine br_c (fun _ => ?_) (fun _ => ?_)
        · exact (f2 _).1
        · refine xcall (sp_errM F' (va_up v' 0 (va_up (v' 0) 15 0)) (-1000000002) 2 (by decide) (by decide) ?_)
          exact (f2 _).2
      · have z : ¬ (1 : Int32) <<< (F' 1 (Int32.toNatClampNeg 3) &&& 31) ≤ nI i := z
        rw [e3, eN, nI_leI (by omega) (by omega)] at z
        omega
    | succ d ih =>
      intro i p F' v' hi h1 h2 h3
      have e3 : F' 1 (Int32.toNatClampNeg 3) = nI kt := by rw [nq3, h2 3 (by omega)]; exact et
      have mi : mI F' := ⟨⟨by rw [h2 3 (by omega)]; exact I.1.1.1, by rw [h2 2 (by omega)]; exact I.1.1.2.1⟩, by rw [h2 6 (by omega)]; exact S.1.1, by rw [h2 7 (by omega)]; exact S.1.2⟩
      refine xWP_go 200 [(35, [0, 1, 2, 3, 4, 5]), (66, [0, 1, 2, 3, 4, 5])] fun P hP => ?_
      refine ⟨vin (by decide), ?_⟩
      refine br_c (fun z => ?_) (fun _ => ?_)
      · have z : (1 : Int32) <<< (F' 1 (Int32.toNatClampNeg 3) &&& 31) ≤ nI i := z
        rw [e3, eN, nI_leI (by omega) (by omega)] at z
        omega
      have k66 : xWP pg_M_take K 66 [(0, .ref 0), (1, .int c), (2, .int m), (3, .int s), (4, .int p), (5, .int (nI i))] [] (xfill F' v' 0 (wM0 0)) (0, 0) := by
        refine xWP_go 200 [(35, [0, 1, 2, 3, 4, 5])] fun P hP => ?_
        refine xcall (sw_wouldBe F' (va_up v' 0 (va_up (v' 0) 15 (nI i))) mi m s (fun r F2 v2 E2 => ?_))
        have g1 : ∀ k, k = 1 ∨ k = 3 ∨ k = 4 ∨ k = 5 ∨ F2 k = F k := by
          intro k
          rcases E2.1 k with e | e | e | e | e
          · exact Or.inl e
          · exact Or.inr (Or.inl e)
          · exact Or.inr (Or.inr (Or.inl e))
          · exact Or.inr (Or.inr (Or.inr (Or.inl e)))
          · rcases h1 k with d | d | d | d | d
            · exact Or.inl d
            · exact Or.inr (Or.inl d)
            · exact Or.inr (Or.inr (Or.inl d))
            · exact Or.inr (Or.inr (Or.inr (Or.inl d)))
            · exact Or.inr (Or.inr (Or.inr (Or.inr (e.trans d))))
        have g2 : ∀ j, j < 230 → F2 1 j = F 1 j := fun j hj => (E2.2.1 j hj rfl).trans (h2 j hj)
        have g3 : ∀ j, (7 ≤ j ∧ j < 16) ∨ v2 0 j = v 0 j := by
          intro j
          by_cases e : j = 15
          · exact Or.inl ⟨by omega, by omega⟩
          · rcases E2.2.2 j with d | d
            · exact Or.inl ⟨d.1, by omega⟩
            · have q : va_up v' 0 (va_up (v' 0) 15 (nI i)) 0 j = v' 0 j := if_neg e
              rw [q] at d
              rcases h3 j with y | y
              · exact Or.inl y
              · exact Or.inr (d.trans y)
        refine br_n (fun _ => ?_) (fun _ => ?_)
        · refine hP _ _ _ _ _ ?_
          rw [nI_1]
          exact ih (i + 1) _ F2 v2 (by omega) g1 g2 g3
        · refine hP _ _ _ _ _ ?_
          rw [nI_1]
          exact ih (i + 1) _ F2 v2 (by omega) g1 g2 g3
      refine br_c (fun _ => hP _ _ _ _ _ k66) (fun _ => ?_)
      refine xcall (sw_bits _ (fun b1 => ?_))
      refine xcall (sw_bits _ (fun b2 => ?_))
      refine br_c (fun _ => ?_) (fun _ => hP _ _ _ _ _ k66)
      refine hP _ _ _ _ _ ?_
      rw [nI_1]
      exact ih (i + 1) _ F' v' (by omega) h1 h2 h3
  refine xM_go rfl 200 [(35, [0, 1, 2, 3, 4, 5]), (66, [0, 1, 2, 3, 4, 5])] fun P hP => ?_
  refine xcall (sp_isChildM F v _ I.1.1.2.1 (fun a1 => ?_) (fun a1 => ?_))
  · refine br_c (fun _ => ?_) (fun z => absurd rfl z)
    refine xcall (sp_errM F v (-1000000001) 1 (by decide) (by decide) ?_)
    exact h.err S _ rfl
  refine br_c (fun z => absurd z (by decide)) (fun _ => ?_)
  refine xcall (sp_isMark _ (fun a2 => ?_) (fun a2 => ?_))
  · refine br_c (fun _ => ?_) (fun z => absurd rfl z)
    refine xcall (sp_errM F v (-1000000001) 1 (by decide) (by decide) ?_)
    exact h.err S _ rfl
  refine br_c (fun z => absurd z (by decide)) (fun _ => ?_)
  refine xcall (sp_areSteps _ (fun a3 => ?_) (fun a3 => ?_))
  · refine br_n (fun z => absurd rfl z) (fun _ => ?_)
    refine xcall (sp_errM F v (-1000000001) 1 (by decide) (by decide) ?_)
    exact h.err S _ rfl
  refine br_n (fun _ => ?_) (fun z => absurd z (by decide))
  refine hP _ _ _ _ _ ?_
  exact key N 0 _ F v (by omega) (fun _ => Or.inr (Or.inr (Or.inr (Or.inr rfl)))) (fun _ _ => rfl) (fun _ => Or.inr rfl)
set_option maxRecDepth 100000 in
theorem ms_series (n : Nat) (F v : xS) (I : aIv n (mA F v)) (S : mS F v) (s u w : Int32) {K : xKo} (h : mTw F v (fun s => s) K) : C_M_series [.ref 0, .int s, .int u, .int w] (xfill F v 0 (wM0 0)) K := by
  refine xM_go rfl 200 [(64, [0, 1, 2, 3, 4, 5]), (128, [0, 1, 2, 3, 4, 5])] fun P hP => ?_
  refine xcall (sp_isSheet _ (fun a1 => ?_) (fun a1 => ?_))
  · refine br_c (fun _ => ?_) (fun z => absurd rfl z)
    refine xcall (sp_errM F v (-1000000001) 1 (by decide) (by decide) ?_)
    exact h.err S _ rfl
  refine br_c (fun z => absurd z (by decide)) (fun _ => ?_)
  refine xcall (sp_areSteps _ (fun a2 => ?_) (fun a2 => ?_))
  · refine br_c (fun _ => ?_) (fun z => absurd rfl z)
    refine xcall (sp_errM F v (-1000000001) 1 (by decide) (by decide) ?_)
    exact h.err S _ rfl
  refine br_c (fun z => absurd z (by decide)) (fun _ => ?_)
  refine xcall (sp_inx _ 1 2 (by decide) (fun a3 => ?_) (fun a3 => ?_))
  · refine br_n (fun z => absurd rfl z) (fun _ => ?_)
    refine xcall (sp_errM F v (-1000000001) 1 (by decide) (by decide) ?_)
    exact h.err S _ rfl
  refine br_n (fun _ => ?_) (fun z => absurd z (by decide))
  obtain ⟨k, hk, rfl, ek⟩ := nI_ofx s (n := 4) a1 (by decide)
  have bs : vp_in (nI k) 4 := vin a1
  have ek : Int32.toNatClampNeg (nI k) = k := ek
  obtain ⟨q, hq, eq⟩ := rI4 (k := k) I (by omega)
  refine ⟨bs, ?_⟩
  refine br_n (fun c0 => ?_) (fun c0 => ?_)
  · refine xcall (sp_moveAll_1_3 F v fun g g1 g2 => ?_)
    have mi : mI (va_up F 3 g) := (mI.o I S)
    have key : ∀ (d i : Nat) (p : Int32) (F' v' : xS), i + d = q → mR r2 (va_up F 3 g) v F' v' → (∀ k, ¬ k = 1 → F' k = va_up F 3 g k) → xWP pg_M_series K 64 [(0, .ref 0), (1, .int (nI k)), (2, .int u), (3, .int w), (4, .int p), (5, .int (nI i))] [] (xfill F' v' 0 (wM0 0)) (0, 0) := by
      intro d
      induction d with
      | zero =>
        intro i p F' v' hi E G
        have e7 : F' 7 (Int32.toNatClampNeg (nI k)) = nI q := by rw [ek, G 7 (by decide)]; exact eq
        refine xWP_go 200 [(64, [0, 1, 2, 3, 4, 5]), (128, [0, 1, 2, 3, 4, 5])] fun P hP => ?_
        refine ⟨bs, ?_⟩
        refine br_c (fun _ => ?_) (fun z => ?_)
        · have k128 : xWP pg_M_series K 128 [(0, .ref 0), (1, .int (nI k)), (2, .int u), (3, .int w), (4, .int p), (5, .int (nI i))] [] (xfill F' v' 0 (wM0 0)) (0, 0) := by
            refine xWP_go 200 [] fun P hP => ?_
            refine ⟨vin (by decide), ?_⟩
            refine xcall (sp_moveAll_3_1 F' v' fun g' k1 k2 => ?_)
            have E2 : mR r1 F v (va_up F' 1 g') v' := by
              refine ⟨fun x => ?_, fun j hj _ => ?_, E.2.2⟩
              · by_cases h1 : x = 1
                · exact Or.inl h1
                by_cases h3 : x = 3
                · exact Or.inr (Or.inl h3)
                rw [show va_up F' 1 g' x = F' x from if_neg h1, G x h1]
                exact Or.inr (Or.inr (Or.inr (Or.inr (if_neg h3))))
              · show g' j = F 1 j
                rw [k1 j hj, G 3 (by decide)]
                exact g1 j hj
            exact br_n (fun _ => h.r I S E2 rfl) (fun _ => h.r I S E2 rfl)
          exact hP _ _ _ _ _ k128
        · have z : ¬ F' 7 (Int32.toNatClampNeg (nI k)) ≤ nI i := z
          rw [e7, nI_leI (by omega) (by omega)] at z
          omega
      | succ d ih =>
        intro i p F' v' hi E G
        have e7 : F' 7 (Int32.toNatClampNeg (nI k)) = nI q := by rw [ek, G 7 (by decide)]; exact eq
        refine xWP_go 200 [(64, [0, 1, 2, 3, 4, 5]), (128, [0, 1, 2, 3, 4, 5])] fun P hP => ?_
        refine ⟨bs, ?_⟩
        refine br_c (fun z => ?_) (fun _ => ?_)
        · have z : F' 7 (Int32.toNatClampNeg (nI k)) ≤ nI i := z
          rw [e7, nI_leI (by omega) (by omega)] at z
          omega
        refine ⟨by show vp_in ((40 : Int32) * nI k + nI i) 160; rw [ix40]; exact vp_in_nI (by omega) (by omega), ?_⟩
        refine br_c (fun _ => ?_) (fun _ => ?_)
        all_goals
          refine xcall (sw_calls F' v' (mi.e ok_r2 E) _ u (fun r F2 v2 E2 _ G2 => ?_))
          refine xcall (sw_bits _ (fun bc => ?_))
          refine hP _ _ _ _ _ ?_
          rw [nI_1]
          exact ih (i + 1) _ F2 v2 (by omega) (E.tr E2) (fun x hx => (G2 x hx).trans (G x hx))
    refine hP _ _ _ _ _ ?_
    exact key q 0 _ (va_up F 3 g) v (by omega) mR.rf (fun _ _ => rfl)
  · refine xcall (sp_errM F v (-1000000002) 2 (by decide) (by decide) ?_)
    exact h.err S _ rfl
def rL (k j : Nat) : Bool := j == 9 + 2 * k || j == 9 + 2 * k + 1
theorem agrL_of {n k : Nat} {F v F' v' : xS} (hk : k < 8) (e : F 1 3 = nI k) (E : mR (rL k) F v F' v') (I : aIv n (mA F v)) (S : mS F v) : agr (mA F' v') (mA F v) ∧ mS F' v' := by
  have g : ∀ j, j < 230 → ¬ j = 9 + 2 * k → ¬ j = 9 + 2 * k + 1 → F' 1 j = F 1 j := fun j l h0 h1 => E.2.1 j l (by unfold rL; rw [Bool.or_eq_false_iff]; exact ⟨by simpa using h0, by simpa using h1⟩)
  have n2 : nat (F 1 2) ≤ 7 := bel_nat I.1.1.2.1 (by omega)
  have n4 : nat (F 1 4) ≤ 50 := bel_nat I.1.1.2.2.2.1 (by omega)
  have n5 : nat (F 1 5) ≤ 20 := bel_nat I.1.1.2.2.2.2 (by omega)
  obtain ⟨⟨a0, a1⟩, a2, a3, a4, a5⟩ := S
  refine ⟨⟨⟨⟨g 3 (by omega) (by omega) (by omega), g 2 (by omega) (by omega) (by omega), g 0 (by omega) (by omega) (by omega), g 1 (by omega) (by omega) (by omega), g 4 (by omega) (by omega) (by omega), g 5 (by omega) (by omega) (by omega)⟩, fun j hj => ?_, fun j hj => ?_, fun j hj => ?_, fun j hj => ?_⟩, ?_, fun _ => ?_⟩, ⟨?_, ?_⟩, ?_, ?_, ?_, ?_⟩
  · have hj : j < nat (F' 1 3) := hj
    rw [g 3 (by omega) (by omega) (by omega), e, show nat (nI k) = k from nI_clamp (by omega)] at hj
    exact ⟨g (9 + 2 * j) (by omega) (by omega) (by omega), g (9 + 2 * j + 1) (by omega) (by omega) (by omega)⟩
  · have hj : j < nat (F' 1 2) := hj
    rw [g 2 (by omega) (by omega) (by omega)] at hj
    exact ⟨g (25 + 5 * j + 0) (by omega) (by omega) (by omega), g (25 + 5 * j + 1) (by omega) (by omega) (by omega)⟩
  · have hj : j < nat (F' 1 4) := hj
    rw [g 4 (by omega) (by omega) (by omega)] at hj
    exact g (60 + j) (by omega) (by omega) (by omega)
  · have hj : j < nat (F' 1 5) := hj
    rw [g 5 (by omega) (by omega) (by omega)] at hj
    exact g (110 + j) (by omega) (by omega) (by omega)
  · have q : mRs F' v' = mRs F v := by
      unfold mRs
      rw [E.k (k := 6) (by decide), E.k (k := 7) (by decide), E.k (k := 8) (by decide), E.k (k := 10) (by decide), E.v (j := 5) (by decide), E.v (j := 21) (by decide)]
    show rAgr (mRs F' v') (mRs F v)
    rw [q]
    exact rAgr.rf
  · show sAgr (mSt (F' 2)) (mSt (F 2))
    rw [E.k (k := 2) (by decide)]
    exact sAgr.rf
  · rw [g 6 (by omega) (by omega) (by omega)]; exact a0
  · rw [g 7 (by omega) (by omega) (by omega)]; exact a1
  · rw [E.k (k := 2) (by decide)]; exact a2
  · rw [E.v (j := 4) (by decide), E.v (j := 5) (by decide)]; exact a3
  · rw [E.v (j := 15) (by decide)]; exact a4
  · rw [E.k (k := 6) (by decide), E.k (k := 8) (by decide)]; exact a5
set_option maxRecDepth 100000 in
theorem ms_lay (n : Nat) (F v : xS) (I : aIv n (mA F v)) (S : mS F v) (m s w : Int32) {K : xKo} (h : mTw F v (fun s => s) K) : C_M_lay [.ref 0, .int m, .int s, .int w] (xfill F v 0 (wM0 0)) K := by
  obtain ⟨k, hk, e⟩ : below 8 (F 1 3) := I.1.1.1
  have key : k < 8 → ∀ (d i : Nat) (p q : Int32) (F' v' : xS), i + d = 12 → mR (rL k) F v F' v' → xWP pg_M_lay K 58 [(0, .ref 0), (1, .int m), (2, .int s), (3, .int w), (4, .int p), (5, .int q), (6, .int (nI i))] [] (xfill F' v' 0 (wM0 0)) (0, 0) := by
    intro k8 d
    induction d with
    | zero =>
      intro i p q F' v' hi E
      have hi : i = 12 := hi
      subst hi
      obtain ⟨A, S2⟩ := agrL_of k8 e E I S
      refine xWP_go 200 [(58, [0, 1, 2, 3, 4, 5, 6])] fun P hP => ?_
      refine br_c (fun _ => ?_) (fun z => absurd (by decide) z)
      exact br_n (fun _ => h _ F' v' S2 A) (fun _ => h _ F' v' S2 A)
    | succ d ih =>
      intro i p q F' v' hi E
      have g : ∀ j, j < 230 → ¬ j = 9 + 2 * k → ¬ j = 9 + 2 * k + 1 → F' 1 j = F 1 j := fun j l h0 h1 => E.2.1 j l (by unfold rL; rw [Bool.or_eq_false_iff]; exact ⟨by simpa using h0, by simpa using h1⟩)
      have e' : F' 1 3 = nI k := (g 3 (by omega) (by omega) (by omega)).trans e
      refine xWP_go 200 [(58, [0, 1, 2, 3, 4, 5, 6])] fun P hP => ?_
      refine br_c (fun z => ?_) (fun _ => ?_)
      · have z : nI 12 ≤ nI i := z
        rw [nI_leI (by omega) (by omega)] at z
        omega
      refine xcall (sp_addsM F' v' (nI i) _ k k8 e' fun f f1 f2 f3 f4 => ?_)
      have mi : mI (va_up F' 1 f) := by
        refine ⟨⟨⟨k + 1, by omega, f4⟩, ?_⟩, ?_, ?_⟩
        · show below 7 (f 2)
          rw [f1 2 (by omega) (by omega) (by omega), g 2 (by omega) (by omega) (by omega)]; exact I.1.1.2.1
        · show (f 6).toInt ≤ 50
          rw [f1 6 (by omega) (by omega) (by omega), g 6 (by omega) (by omega) (by omega)]; exact S.1.1
        · show (f 7).toInt ≤ 50
          rw [f1 7 (by omega) (by omega) (by omega), g 7 (by omega) (by omega) (by omega)]; exact S.1.2
      refine xcall (sw_wouldBe (va_up F' 1 f) v' mi m s (fun r F2 v2 E2 => ?_))
      refine xcall (sw_bits _ (fun bc => ?_))
      refine ⟨vin (by decide), ?_⟩
      refine ⟨vin (by decide), ?_⟩
      have E3 : mR (rL k) F v (va_up F2 1 (upd (F2 1) 3 (nI k))) v2 := by
        refine E.tr ⟨fun x => ?_, fun j hj z => ?_, E2.2.2⟩
        · by_cases x1 : x = 1
          · exact Or.inl x1
          · rw [show va_up F2 1 (upd (F2 1) 3 (nI k)) x = F2 x from if_neg x1]
            rcases E2.1 x with y | y | y | y | y
            · exact Or.inl y
            · exact Or.inr (Or.inl y)
            · exact Or.inr (Or.inr (Or.inl y))
            · exact Or.inr (Or.inr (Or.inr (Or.inl y)))
            · exact Or.inr (Or.inr (Or.inr (Or.inr (y.trans (if_neg x1)))))
        · show upd (F2 1) 3 (nI k) j = F' 1 j
          have z1 : ¬ j = 9 + 2 * k ∧ ¬ j = 9 + 2 * k + 1 := by
            unfold rL at z
            rw [Bool.or_eq_false_iff] at z
            exact ⟨by simpa using z.1, by simpa using z.2⟩
          by_cases j3 : j = 3
          · rw [j3, pk_us, e']
          · rw [pk_un j3, E2.2.1 j hj rfl]
            exact f1 j z1.1 z1.2 j3
      have er : upd (F2 1) 3 (nI k) = upd (F2 1) (Int32.toNatClampNeg 3) (F2 1 (Int32.toNatClampNeg 3) - 1) := by
        rw [nq3, E2.2.1 3 (by omega) rfl]
        show upd (F2 1) 3 (nI k) = upd (F2 1) 3 (f 3 - 1)
        rw [f4, nI_pred]
      rw [er] at E3
      refine br_c (fun _ => ?_) (fun _ => ?_)
      all_goals
        refine br_c (fun _ => ?_) (fun _ => ?_)
        · refine hP _ _ _ _ _ ?_
          rw [nI_1]
          exact ih (i + 1) _ _ _ _ (by omega) E3
        · refine hP _ _ _ _ _ ?_
          rw [nI_1]
          exact ih (i + 1) _ _ _ _ (by omega) E3
  refine xM_go rfl 200 [(58, [0, 1, 2, 3, 4, 5, 6])] fun P hP => ?_
  refine xcall (sp_isMark _ (fun a1 => ?_) (fun a1 => ?_))
  · refine br_c (fun _ => ?_) (fun z => absurd rfl z)
    refine xcall (sp_errM F v (-1000000001) 1 (by decide) (by decide) ?_)
    exact h.err S _ rfl
  refine br_c (fun z => absurd z (by decide)) (fun _ => ?_)
  refine xcall (sp_areSteps _ (fun a2 => ?_) (fun a2 => ?_))
  · refine br_c (fun _ => ?_) (fun z => absurd rfl z)
    refine xcall (sp_errM F v (-1000000001) 1 (by decide) (by decide) ?_)
    exact h.err S _ rfl
  refine br_c (fun z => absurd z (by decide)) (fun _ => ?_)
  refine xcall (sp_inx _ 1 2 (by decide) (fun a3 => ?_) (fun a3 => ?_))
  · refine br_n (fun z => absurd rfl z) (fun _ => ?_)
    refine xcall (sp_errM F v (-1000000001) 1 (by decide) (by decide) ?_)
    exact h.err S _ rfl
  refine br_n (fun _ => ?_) (fun z => absurd z (by decide))
  refine ⟨vin (by decide), ?_⟩
  refine br_n (fun z => ?_) (fun _ => ?_)
  · have z : ¬ F 1 3 = nI 8 := z
    have k8 : k < 8 := by
      have : ¬ k = 8 := fun y => z (by rw [e, y])
      omega
    refine hP _ _ _ _ _ ?_
    exact key k8 12 0 _ _ F v (by omega) mR.rf
  · refine xcall (sp_errM F v (-1000000004) 4 (by decide) (by decide) ?_)
    exact h.err S _ rfl
theorem rem_lt (x y : Int32) (h : ¬ y = 0) : (x - x / y * y).toInt.natAbs < y.toInt.natAbs := by
  have hy : ¬ y.toInt = 0 := fun z => h (xeq.mpr (by rw [z]; rfl))
  have e : (x - x / y * y).toInt = x.toInt.tmod y.toInt := by
    rw [Int32.toInt_sub, Int32.toInt_mul, Int32.toInt_div, Int.bmod_mul_bmod, Int.sub_bmod_bmod, Int.mul_comm, ← Int.tmod_def]
    have l := Int.natAbs_tmod x.toInt y.toInt
    have q : x.toInt.natAbs % y.toInt.natAbs < y.toInt.natAbs := Nat.mod_lt _ (by omega)
    have y1 := y.toInt_lt
    have y2 := y.le_toInt
    refine Int.bmod_eq_of_le ?_ ?_
    · have := Int.natAbs_tmod x.toInt y.toInt; omega
    · omega
  rw [e, Int.natAbs_tmod]
  exact Nat.mod_lt _ (by omega)
set_option maxRecDepth 100000 in
theorem sw_divisor (a : Int32) {K : xKo} (h : ∀ r, ¬ r = 0 → K (some (.int r)) []) : C_M_divisor [.int a, .int 6] [] K := by
  have key : ∀ (m : Nat) (x y z : Int32), ¬ x = 0 → y.toInt.natAbs ≤ m → xWP pg_M_divisor K 4 [(0, .int a), (1, .int 6), (2, .int x), (3, .int y)] [] [] (0, 0) := by
    intro m
    induction m using Nat.strongRecOn with
    | ind m ih =>
      intro x y z hx hm
      refine xWP_go 100 [(4, [0, 1, 2, 3])] fun P hP => ?_
      refine br_c (fun _ => h _ hx) (fun hy => ?_)
      have l := rem_lt x y hy
      refine ⟨hy, ?_⟩
      refine hP _ _ _ _ _ ?_
      exact ih (m - 1) (by omega) y _ 0 hy (by show (x - x / y * y).toInt.natAbs ≤ m - 1; omega)
  refine xM_go rfl 60 [(4, [0, 1, 2, 3])] fun P hP => ?_
  have k1 : xWP pg_M_divisor K 4 [(0, .int a), (1, .int 6), (2, .int a), (3, .int 6)] [] [] (0, 0) := by
    refine xWP_go 100 [(4, [0, 1, 2, 3])] fun P hP => ?_
    refine br_c (fun z => absurd z (by decide)) (fun hy => ?_)
    refine ⟨hy, ?_⟩
    refine hP _ _ _ _ _ ?_
    exact key _ 6 _ 0 (by decide) (Nat.le_refl _)
  exact hP _ _ _ _ _ k1
set_option maxRecDepth 100000 in
theorem ms_odds (n : Nat) (F v : xS) (I : aIv n (mA F v)) (S : mS F v) (c s w : Int32) {K : xKo} (h : mTw F v (fun s => s) K) : C_M_odds [.ref 0, .int c, .int s, .int w] (xfill F v 0 (wM0 0)) K := by
  have go : ∀ (a : Int32) (F' v' : xS), mR r1 F v F' v' → xWP pg_M_odds K 55 [(0, .ref 0), (1, .int c), (2, .int s), (3, .int w)] [.int a] (xfill F' v' 0 (wM0 0)) (0, 0) := by
    intro a F' v' E
    refine xWP_go 100 [] fun P hP => ?_
    refine xcall (sw_divisor a (fun r nr => ?_))
    exact br_n (fun _ => ⟨nr, h.r I S E rfl⟩) (fun _ => ⟨nr, h.r I S E rfl⟩)
  refine xM_go rfl 200 [(55, [0, 1, 2, 3])] fun P hP => ?_
  refine xcall (sp_isChildM F v _ I.1.1.2.1 (fun a1 => ?_) (fun a1 => ?_))
  · refine br_c (fun _ => ?_) (fun z => absurd rfl z)
    refine xcall (sp_errM F v (-1000000001) 1 (by decide) (by decide) ?_)
    exact h.err S _ rfl
  refine br_c (fun z => absurd z (by decide)) (fun _ => ?_)
  refine xcall (sp_areSteps _ (fun a2 => ?_) (fun a2 => ?_))
  · refine br_c (fun _ => ?_) (fun z => absurd rfl z)
    refine xcall (sp_errM F v (-1000000001) 1 (by decide) (by decide) ?_)
    exact h.err S _ rfl
  refine br_c (fun z => absurd z (by decide)) (fun _ => ?_)
  refine xcall (sp_inx _ 1 2 (by decide) (fun a3 => ?_) (fun a3 => ?_))
  · refine br_n (fun z => absurd rfl z) (fun _ => ?_)
    refine xcall (sp_errM F v (-1000000001) 1 (by decide) (by decide) ?_)
    exact h.err S _ rfl
  refine br_n (fun _ => ?_) (fun z => absurd z (by decide))
  refine ⟨vin (by decide), ?_⟩
  refine br_n (fun _ => ?_) (fun _ => ?_)
  · refine xcall (sw_hadOften F v (mI.o I S) c s (fun r F' v' E => ?_))
    exact hP _ _ _ _ _ (go _ F' v' E.to1)
  · exact hP _ _ _ _ _ (go _ F v mR.rf)
