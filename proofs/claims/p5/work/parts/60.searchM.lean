/-! ===== the reference: searches, without their outcome ===== -/
theorem mI.e {R : Nat → Bool} {F v F' v' : xS} (I : mI F) (o : okR R) (E : mR R F v F' v') : mI F' := I.of E ⟨o.f (by omega) (by omega), o.f (by omega) (by omega), o.f (by omega) (by omega), o.f (by omega) (by omega)⟩
theorem mR.to1 {F v F' v' : xS} (E : mR r0 F v F' v') : mR r1 F v F' v' := E.c0
set_option maxRecDepth 100000 in
theorem ms_hadBy (n : Nat) (F v : xS) (I : aIv n (mA F v)) (S : mS F v) (m s : Int32) {K : xKo} (h : mTw F v (fun s => s) K) : C_M_hadBy [.ref 0, .int m, .int s] (xfill F v 0 (wM0 0)) K := by
  refine xM_go rfl 200 [] fun P hP => ?_
  refine xcall (sp_isMark _ (fun a1 => ?_) (fun a1 => ?_))
  · refine br_c (fun _ => ?_) (fun z => absurd rfl z)
    refine xcall (sp_errM F v (-1000000001) 1 (by decide) (by decide) ?_)
    exact h.err S _ rfl
  refine br_c (fun z => absurd z (by decide)) (fun _ => ?_)
  refine xcall (sp_areSteps _ (fun a2 => ?_) (fun a2 => ?_))
  · refine br_c (fun _ => ?_) (fun z => absurd rfl z)
    refine xcall (sp_errM F v (-1000000001) 1 (by decide) (by decide) ?_)
    exact h.err S _ rfl
  refine br_c (fun z => absurd z (by decide)) (fun _ => ?_)
  refine xcall (sw_wouldBe F v (mI.o I S) m s (fun r F' v' E => ?_))
  exact h.r I S E.to1 rfl
set_option maxRecDepth 100000 in
theorem ms_runsTo (n : Nat) (F v : xS) (I : aIv n (mA F v)) (S : mS F v) (c m s : Int32) {K : xKo} (h : mTw F v (fun s => s) K) : C_M_runsTo [.ref 0, .int c, .int m, .int s] (xfill F v 0 (wM0 0)) K := by
  refine xM_go rfl 200 [] fun P hP => ?_
  refine xcall (sp_isChildM F v _ I.1.1.2.1 (fun a1 => ?_) (fun a1 => ?_))
  · refine br_c (fun _ => ?_) (fun z => absurd rfl z)
    refine xcall (sp_errM F v (-1000000001) 1 (by decide) (by decide) ?_)
    exact h.err S _ rfl
  refine br_c (fun z => absurd z (by decide)) (fun _ => ?_)
  refine xcall (sp_isMark _ (fun a2 => ?_) (fun a2 => ?_))
  · refine br_c (fun _ => ?_) (fun z => absurd rfl z)
    refine xcall (sp_errM F v (-1000000001) 1 (by decide) (by decide) ?_)
    exact h.err S _ rfl
  refine br_c (fun z => absurd z (by decide)) (fun _ => ?_)
  refine xcall (sp_areSteps _ (fun a3 => ?_) (fun a3 => ?_))
  · refine br_c (fun _ => ?_) (fun z => absurd rfl z)
    refine xcall (sp_errM F v (-1000000001) 1 (by decide) (by decide) ?_)
    exact h.err S _ rfl
  refine br_c (fun z => absurd z (by decide)) (fun _ => ?_)
  obtain ⟨k, hk, rfl, ek, lt⟩ := xin_ex I.1.1.2.1 (by omega) a1
  refine xcall (sw_ends F v (mI.o I S) k hk m s (fun r v' E => ?_))
  exact h.r I S (mR.rf.vs E) rfl
set_option maxRecDepth 100000 in
theorem ms_call (n : Nat) (F v : xS) (I : aIv n (mA F v)) (S : mS F v) (m s : Int32) {K : xKo} (h : mTw F v (g_call m s) K) : C_M_call [.ref 0, .int m, .int s] (xfill F v 0 (wM0 0)) K := by
  have b9 : below 9999 (F 1 0) := I.1.1.2.2.1
  refine xM_go rfl 200 [] fun P hP => ?_
  refine xcall (sp_isMark _ (fun a1 => ?_) (fun a1 => ?_))
  · refine br_c (fun _ => ?_) (fun z => absurd rfl z)
    refine xcall (sp_errM F v (-1000000001) 1 (by decide) (by decide) ?_)
    exact h.err S _ (if_neg fun z => a1 z.1.1)
  refine br_c (fun z => absurd z (by decide)) (fun _ => ?_)
  refine xcall (sp_areSteps _ (fun a2 => ?_) (fun a2 => ?_))
  · refine br_n (fun z => absurd rfl z) (fun _ => ?_)
    refine xcall (sp_errM F v (-1000000001) 1 (by decide) (by decide) ?_)
    exact h.err S _ (if_neg fun z => a2 z.1.2)
  refine br_n (fun _ => ?_) (fun z => absurd z (by decide))
  refine ⟨vin (by decide), ?_⟩
  obtain ⟨c, hc, ec⟩ := id b9
  refine br_n (fun a3 => ?_) (fun a3 => ?_)
  · have a3 : ¬ F 1 0 = nI 9999 := a3
    have a4 : nat (F 1 0) < 9999 := by
      have : ¬ c = 9999 := fun z => a3 (by rw [ec, z])
      rw [ec, show nat (nI c) = c from nI_clamp (by omega)]
      omega
    refine xcall (sw_calls F v (mI.o I S) m s (fun r F' v' E e G => ?_))
    refine h r F' v' (E.S ok_r2 S) ?_
    rw [show g_call m s (mA F v) = _ from if_pos ⟨⟨a1, a2⟩, a4⟩]
    exact E.agr2 ok_r2 I e (E.2.1 1 (by omega) rfl)
  · have a3 : F 1 0 = nI 9999 := a3
    have a4 : ¬ nat (F 1 0) < 9999 := by rw [a3]; decide
    refine xcall (sp_errM F v (-1000000003) 3 (by decide) (by decide) ?_)
    exact h.err S _ (if_neg fun z => a4 z.2)
def r3 (j : Nat) : Bool := r2 j || j == 1
theorem ok_r3 : okR r3 := fun j z => by
  simp only [r3, Bool.or_eq_true, beq_iff_eq] at z
  exact z.elim (fun y => ok_r2 j y) (fun y => Or.inr (Or.inl y))
theorem mR.to3 {F v F' v' : xS} (E : mR r2 F v F' v') : mR r3 F v F' v' := E.wd (fun j z => by
  simp only [r3, Bool.or_eq_false_iff] at z
  exact z.1)
set_option maxRecDepth 100000 in
theorem ms_loose (n : Nat) (F v : xS) (I : aIv n (mA F v)) (S : mS F v) (x : Int32) {K : xKo} (h : mTw F v (g_loose x) K) : C_M_loose [.ref 0, .int x] (xfill F v 0 (wM0 0)) K := by
  obtain ⟨c, hc, ec⟩ : below 9999 (F 1 0) := I.1.1.2.2.1
  have en : nat (F 1 0) = c := by rw [ec]; exact nI_clamp (by omega)
  refine xM_go rfl 200 [(42, [0, 1, 2, 3])] fun P hP => ?_
  refine xcall (sp_in _ _ _ (fun a1 => ?_) (fun a1 => ?_))
  · rw [show (1 : Int32).toInt = 1 by decide, show (40 : Int32).toInt = 40 by decide] at a1
    refine br_n (fun z => absurd rfl z) (fun _ => ?_)
    refine xcall (sp_errM F v (-1000000001) 1 (by decide) (by decide) ?_)
    exact h.err S _ (if_neg fun z => a1 z.1)
  rw [show (1 : Int32).toInt = 1 by decide, show (40 : Int32).toInt = 40 by decide] at a1
  refine br_n (fun _ => ?_) (fun z => absurd z (by decide))
  obtain ⟨m, hm, rfl, em⟩ := nI_ofx x (n := 41) ⟨by omega, by omega⟩ (by decide)
  have es : F 1 (Int32.toNatClampNeg 0) + nI m = nI (c + m) := by rw [nq0, ec, nI_add]
  refine ⟨vin (by decide), ?_⟩
  refine br_c (fun a3 => ?_) (fun a3 => ?_)
  · have a3 : F 1 (Int32.toNatClampNeg 0) + nI m ≤ nI 9999 := a3
    rw [es, nI_leI (by omega) (by omega)] at a3
    have c2 : nat (F 1 0) + nat (nI m) ≤ 9999 := by omega
    have key : ∀ (d i : Nat) (q : Int32) (F' v' : xS), i + d = m → mR r3 F v F' v' → F' 1 0 = nI (c + i) → F' 1 1 = zN i (F 1 1) → xWP pg_M_loose K 42 [(0, .ref 0), (1, .int (nI m)), (2, .int q), (3, .int (nI i))] [] (xfill F' v' 0 (wM0 0)) (0, 0) := by
      intro d
      induction d with
      | zero =>
        intro i q F' v' hi E e1 e2
        have hi : i = m := hi
        subst hi
        refine xWP_go 100 [(42, [0, 1, 2, 3])] fun P hP => ?_
        refine br_c (fun _ => ?_) (fun z => absurd (nI_le (Nat.le_refl _) (by omega)) z)
        refine h _ F' v' (E.S ok_r3 S) ?_
        have eg : g_loose (nI i) (mA F v) = (va_up (mA F v).1 6 (upd (upd ((mA F v).1 6) 2 (nI (c + i))) 3 (zN i (F 1 1))), (mA F v).2) := (if_pos ⟨a1, c2⟩).trans (by
          show (va_up (mA F v).1 6 (upd (upd ((mA F v).1 6) 2 (nI (nat (F 1 0) + nat (nI i)))) 3 (zN (nat (nI i)) (F 1 1))), (mA F v).2) = _
          rw [en, em])
        rw [eg]
        exact E.agr2 ok_r3 I e1 e2
      | succ d ih =>
        intro i q F' v' hi E e1 e2
        refine xWP_go 100 [(42, [0, 1, 2, 3])] fun P hP => ?_
        refine br_c (fun z => absurd z (nI_ge (by omega) (by omega))) (fun _ => ?_)
        obtain ⟨y1, hy1⟩ : ∃ y, y = zS (F' 1 1) := ⟨_, rfl⟩
        obtain ⟨y2, hy2⟩ : ∃ y, y = zS y1 := ⟨_, rfl⟩
        refine xcall (sp_drawn F' v' 6 y1 (by decide) hy1 (fun q1 => ?_))
        refine xcall (sp_drawn (va_up F' 1 (upd (F' 1) 1 y1)) v' 5 y2 (by decide) hy2 (fun q2 => ?_))
        have E2 : mR r3 F v (va_up F' 1 (upd (upd (F' 1) 1 y1) 1 y2)) v' := by
          refine ⟨fun k => ?_, fun j hj z => ?_, E.2.2⟩
          · by_cases k1 : k = 1
            · exact Or.inl k1
            · rw [show va_up F' 1 (upd (upd (F' 1) 1 y1) 1 y2) k = F' k from if_neg k1]; exact E.1 k
          · have j1 : ¬ j = 1 := fun e => by rw [e] at z; exact absurd z (by decide)
            rw [show va_up F' 1 (upd (upd (F' 1) 1 y1) 1 y2) 1 j = F' 1 j from (if_neg j1).trans (if_neg j1)]
            exact E.2.1 j hj z
        refine xcall (sw_calls (va_up F' 1 (upd (upd (F' 1) 1 y1) 1 y2)) v' ((mI.o I S).e ok_r3 E2) _ _ (fun r F3 v3 E3 e3 G => ?_))
        refine xcall (sw_bits _ (fun bc => ?_))
        refine hP _ _ _ _ _ ?_
        rw [nI_1]
        refine ih (i + 1) _ F3 v3 (by omega) (E2.tr E3.to3) ?_ ?_
        · rw [e3]
          show F' 1 0 + 1 = nI (c + (i + 1))
          rw [e1, nI_1]
          rfl
        · rw [E3.2.1 1 (by omega) rfl]
          show y2 = zN (i + 1) (F 1 1)
          rw [hy2, hy1, e2]
          rfl
    refine hP _ _ _ _ _ ?_
    exact key m 0 0 F v (by omega) mR.rf ec rfl
  · have a3 : ¬ F 1 (Int32.toNatClampNeg 0) + nI m ≤ nI 9999 := a3
    rw [es, nI_leI (by omega) (by omega)] at a3
    have c2 : ¬ nat (F 1 0) + nat (nI m) ≤ 9999 := by omega
    refine xcall (sp_errM F v (-1000000003) 3 (by decide) (by decide) ?_)
    exact h.err S _ (if_neg fun z => c2 z.2)
set_option maxRecDepth 100000 in
theorem ms_worst (n : Nat) (F v : xS) (I : aIv n (mA F v)) (S : mS F v) (s w : Int32) {K : xKo} (h : mTw F v (fun s => s) K) : C_M_worst [.ref 0, .int s, .int w] (xfill F v 0 (wM0 0)) K := by
  have key : ∀ (d i : Nat) (p : Int32) (q : Int32) (F' v' : xS), i + d = 6 → mR r1 F v F' v' → xWP pg_M_worst K 31 [(0, .ref 0), (1, .int s), (2, .int w), (3, .int p), (4, .int q), (5, .int (nI i))] [] (xfill F' v' 0 (wM0 0)) (0, 0) := by
    intro d
    induction d with
    | zero =>
      intro i p q F' v' hi E
      refine xWP_go 200 [(31, [0, 1, 2, 3, 4, 5])] fun P hP => ?_
      refine br_c (fun _ => ?_) (fun z => ?_)
      · exact br_n (fun _ => h.r I S E rfl) (fun _ => h.r I S E rfl)
      · have z : ¬ nI 6 ≤ nI i := z
        exact absurd (by rw [nI_leI (by omega) (by omega)]; omega) z
    | succ d ih =>
      intro i p q F' v' hi E
      refine xWP_go 200 [(31, [0, 1, 2, 3, 4, 5])] fun P hP => ?_
      refine br_c (fun z => ?_) (fun _ => ?_)
      · have z : nI 6 ≤ nI i := z
        rw [nI_leI (by omega) (by omega)] at z
        omega
      refine xcall (sw_wouldBe F' v' ((mI.o I S).e ok_r1 E) _ s (fun r F2 v2 E2 => ?_))
      refine xcall (sw_bits _ (fun bc => ?_))
      refine br_c (fun _ => ?_) (fun _ => ?_)
      · refine br_c (fun _ => ?_) (fun _ => ?_)
        · skip
          refine hP _ _ _ _ _ ?_
          rw [nI_1]
          exact ih (i + 1) _ _ F2 v2 (by omega) (E.tr E2.to1)
        · skip
          refine hP _ _ _ _ _ ?_
          rw [nI_1]
          exact ih (i + 1) _ _ F2 v2 (by omega) (E.tr E2.to1)
      · refine br_c (fun _ => ?_) (fun _ => ?_)
        · skip
          refine hP _ _ _ _ _ ?_
          rw [nI_1]
          exact ih (i + 1) _ _ F2 v2 (by omega) (E.tr E2.to1)
        · skip
          refine hP _ _ _ _ _ ?_
          rw [nI_1]
          exact ih (i + 1) _ _ F2 v2 (by omega) (E.tr E2.to1)
  refine xM_go rfl 200 [(31, [0, 1, 2, 3, 4, 5])] fun P hP => ?_
  refine xcall (sp_areSteps _ (fun a1 => ?_) (fun a1 => ?_))
  · refine br_c (fun _ => ?_) (fun z => absurd rfl z)
    refine xcall (sp_errM F v (-1000000001) 1 (by decide) (by decide) ?_)
    exact h.err S _ rfl
  refine br_c (fun z => absurd z (by decide)) (fun _ => ?_)
  refine xcall (sp_inx _ 1 2 (by decide) (fun a2 => ?_) (fun a2 => ?_))
  · refine br_n (fun z => absurd rfl z) (fun _ => ?_)
    refine xcall (sp_errM F v (-1000000001) 1 (by decide) (by decide) ?_)
    exact h.err S _ rfl
  refine br_n (fun _ => ?_) (fun z => absurd z (by decide))
  refine hP _ _ _ _ _ ?_
  exact key 6 0 _ _ F v (by omega) mR.rf
set_option maxRecDepth 100000 in
theorem ms_best (n : Nat) (F v : xS) (I : aIv n (mA F v)) (S : mS F v) (s w : Int32) {K : xKo} (h : mTw F v (fun s => s) K) : C_M_best [.ref 0, .int s, .int w] (xfill F v 0 (wM0 0)) K := by
  have key : ∀ (d i : Nat) (p : Int32) (q : Int32) (F' v' : xS), i + d = 6 → mR r1 F v F' v' → xWP pg_M_best K 32 [(0, .ref 0), (1, .int s), (2, .int w), (3, .int p), (4, .int q), (5, .int (nI i))] [] (xfill F' v' 0 (wM0 0)) (0, 0) := by
    intro d
    induction d with
    | zero =>
      intro i p q F' v' hi E
      refine xWP_go 200 [(32, [0, 1, 2, 3, 4, 5])] fun P hP => ?_
      refine br_c (fun _ => ?_) (fun z => ?_)
      · exact br_n (fun _ => h.r I S E rfl) (fun _ => h.r I S E rfl)
      · have z : ¬ nI 6 ≤ nI i := z
        exact absurd (by rw [nI_leI (by omega) (by omega)]; omega) z
    | succ d ih =>
      intro i p q F' v' hi E
      refine xWP_go 200 [(32, [0, 1, 2, 3, 4, 5])] fun P hP => ?_
      refine br_c (fun z => ?_) (fun _ => ?_)
      · have z : nI 6 ≤ nI i := z
        rw [nI_leI (by omega) (by omega)] at z
        omega
      refine xcall (sw_wouldBe F' v' ((mI.o I S).e ok_r1 E) _ s (fun r F2 v2 E2 => ?_))
      refine xcall (sw_bits _ (fun bc => ?_))
      refine br_c (fun _ => ?_) (fun _ => ?_)
      · refine br_c (fun _ => ?_) (fun _ => ?_)
        · skip
          refine hP _ _ _ _ _ ?_
          rw [nI_1]
          exact ih (i + 1) _ _ F2 v2 (by omega) (E.tr E2.to1)
        · skip
          refine hP _ _ _ _ _ ?_
          rw [nI_1]
          exact ih (i + 1) _ _ F2 v2 (by omega) (E.tr E2.to1)
      · refine br_c (fun _ => ?_) (fun _ => ?_)
        · skip
          refine hP _ _ _ _ _ ?_
          rw [nI_1]
          exact ih (i + 1) _ _ F2 v2 (by omega) (E.tr E2.to1)
        · skip
          refine hP _ _ _ _ _ ?_
          rw [nI_1]
          exact ih (i + 1) _ _ F2 v2 (by omega) (E.tr E2.to1)
  refine xM_go rfl 200 [(32, [0, 1, 2, 3, 4, 5])] fun P hP => ?_
  refine xcall (sp_areSteps _ (fun a1 => ?_) (fun a1 => ?_))
  · refine br_c (fun _ => ?_) (fun z => absurd rfl z)
    refine xcall (sp_errM F v (-1000000001) 1 (by decide) (by decide) ?_)
    exact h.err S _ rfl
  refine br_c (fun z => absurd z (by decide)) (fun _ => ?_)
  refine xcall (sp_inx _ 1 2 (by decide) (fun a2 => ?_) (fun a2 => ?_))
  · refine br_n (fun z => absurd rfl z) (fun _ => ?_)
    refine xcall (sp_errM F v (-1000000001) 1 (by decide) (by decide) ?_)
    exact h.err S _ rfl
  refine br_n (fun _ => ?_) (fun z => absurd z (by decide))
  refine hP _ _ _ _ _ ?_
  exact key 6 0 _ _ F v (by omega) mR.rf
set_option maxRecDepth 100000 in
theorem sw_players (F v : xS) {K : xKo} (h : ∀ r, K (some (.int r)) (xfill F v 0 (wM0 0))) : C_M_players [.ref 0] (xfill F v 0 (wM0 0)) K := by
  refine xM_go rfl 100 [] fun P hP => ?_
  refine ⟨vin (by decide), ?_⟩
  refine br_c (fun _ => ⟨vin (by decide), h _⟩) (fun _ => ⟨vin (by decide), h _⟩)
set_option maxRecDepth 100000 in
theorem ms_parts (n : Nat) (F v : xS) (I : aIv n (mA F v)) (S : mS F v) (s w : Int32) {K : xKo} (h : mTw F v (fun s => s) K) : C_M_parts [.ref 0, .int s, .int w] (xfill F v 0 (wM0 0)) K := by
  have key : ∀ (d i : Nat) (p : Int32) (q : Int32) (F' v' : xS), i + d = 6 → mR r1 F v F' v' → xWP pg_M_parts K 32 [(0, .ref 0), (1, .int s), (2, .int w), (3, .int p), (4, .int q), (5, .int (nI i))] [] (xfill F' v' 0 (wM0 0)) (0, 0) := by
    intro d
    induction d with
    | zero =>
      intro i p q F' v' hi E
      refine xWP_go 200 [(32, [0, 1, 2, 3, 4, 5]), (73, [0, 1, 2, 3, 4, 5, 6])] fun P hP => ?_
      refine br_c (fun _ => ?_) (fun z => ?_)
      · exact br_n (fun _ => h.r I S E rfl) (fun _ => h.r I S E rfl)
      · have z : ¬ nI 6 ≤ nI i := z
        exact absurd (by rw [nI_leI (by omega) (by omega)]; omega) z
    | succ d ih =>
      intro i p q F' v' hi E
      refine xWP_go 200 [(32, [0, 1, 2, 3, 4, 5]), (73, [0, 1, 2, 3, 4, 5, 6])] fun P hP => ?_
      refine br_c (fun z => ?_) (fun _ => ?_)
      · have z : nI 6 ≤ nI i := z
        rw [nI_leI (by omega) (by omega)] at z
        omega
      refine xcall (sw_wouldBe F' v' ((mI.o I S).e ok_r1 E) _ s (fun r F2 v2 E2 => ?_))
      refine xcall (sw_bits _ (fun bc => ?_))
      refine xcall (sw_players F2 v2 (fun pl => ?_))
      have k73 : ∀ a : Int32, xWP pg_M_parts K 73 [(0, .ref 0), (1, .int s), (2, .int w), (3, .int p), (4, .int q), (5, .int (nI i)), (6, .int a)] [] (xfill F2 v2 0 (wM0 0)) (0, 0) := by
        intro a
        refine xWP_go 200 [(32, [0, 1, 2, 3, 4, 5])] fun P hP => ?_
        refine br_c (fun _ => ?_) (fun _ => ?_)
        · refine br_c (fun _ => ?_) (fun _ => ?_)
          · skip
            refine hP _ _ _ _ _ ?_
            rw [nI_1]
            exact ih (i + 1) _ _ F2 v2 (by omega) (E.tr E2.to1)
          · skip
            refine hP _ _ _ _ _ ?_
            rw [nI_1]
            exact ih (i + 1) _ _ F2 v2 (by omega) (E.tr E2.to1)
        · refine br_c (fun _ => ?_) (fun _ => ?_)
          · skip
            refine hP _ _ _ _ _ ?_
            rw [nI_1]
            exact ih (i + 1) _ _ F2 v2 (by omega) (E.tr E2.to1)
          · skip
            refine hP _ _ _ _ _ ?_
            rw [nI_1]
            exact ih (i + 1) _ _ F2 v2 (by omega) (E.tr E2.to1)
      exact br_c (fun _ => hP _ _ _ _ _ (k73 _)) (fun _ => hP _ _ _ _ _ (k73 _))
  refine xM_go rfl 200 [(32, [0, 1, 2, 3, 4, 5]), (73, [0, 1, 2, 3, 4, 5, 6])] fun P hP => ?_
  refine xcall (sp_areSteps _ (fun a1 => ?_) (fun a1 => ?_))
  · refine br_c (fun _ => ?_) (fun z => absurd rfl z)
    refine xcall (sp_errM F v (-1000000001) 1 (by decide) (by decide) ?_)
    exact h.err S _ rfl
  refine br_c (fun z => absurd z (by decide)) (fun _ => ?_)
  refine xcall (sp_inx _ 1 2 (by decide) (fun a2 => ?_) (fun a2 => ?_))
  · refine br_n (fun z => absurd rfl z) (fun _ => ?_)
    refine xcall (sp_errM F v (-1000000001) 1 (by decide) (by decide) ?_)
    exact h.err S _ rfl
  refine br_n (fun _ => ?_) (fun z => absurd z (by decide))
  refine hP _ _ _ _ _ ?_
  exact key 6 0 _ _ F v (by omega) mR.rf
set_option maxRecDepth 100000 in
theorem ms_never (n : Nat) (F v : xS) (I : aIv n (mA F v)) (S : mS F v) (s : Int32) {K : xKo} (h : mTw F v (fun s => s) K) : C_M_never [.ref 0, .int s] (xfill F v 0 (wM0 0)) K := by
  have key : ∀ (d i : Nat) (p : Int32) (F' v' : xS), i + d = 6 → mR r1 F v F' v' → xWP pg_M_never K 27 [(0, .ref 0), (1, .int s), (2, .int p), (3, .int (nI i))] [] (xfill F' v' 0 (wM0 0)) (0, 0) := by
    intro d
    induction d with
    | zero =>
      intro i p F' v' hi E
      refine xWP_go 200 [(27, [0, 1, 2, 3])] fun P hP => ?_
      refine br_c (fun _ => ?_) (fun z => ?_)
      · exact h.r I S E rfl
      · have z : ¬ nI 6 ≤ nI i := z
        exact absurd (by rw [nI_leI (by omega) (by omega)]; omega) z
    | succ d ih =>
      intro i p F' v' hi E
      refine xWP_go 200 [(27, [0, 1, 2, 3])] fun P hP => ?_
      refine br_c (fun z => ?_) (fun _ => ?_)
      · have z : nI 6 ≤ nI i := z
        rw [nI_leI (by omega) (by omega)] at z
        omega
      refine xcall (sw_wouldBe F' v' ((mI.o I S).e ok_r1 E) _ s (fun r F2 v2 E2 => ?_))
      refine hP _ _ _ _ _ ?_
      rw [nI_1]
      exact ih (i + 1) _ F2 v2 (by omega) (E.tr E2.to1)
  refine xM_go rfl 200 [(27, [0, 1, 2, 3])] fun P hP => ?_
  refine xcall (sp_areSteps _ (fun a1 => ?_) (fun a1 => ?_))
  · refine br_n (fun z => absurd rfl z) (fun _ => ?_)
    refine xcall (sp_errM F v (-1000000001) 1 (by decide) (by decide) ?_)
    exact h.err S _ rfl
  refine br_n (fun _ => ?_) (fun z => absurd z (by decide))
  refine ⟨vin (by decide), ?_⟩
  refine hP _ _ _ _ _ ?_
  exact key 6 0 _ F v (by omega) mR.rf
set_option maxRecDepth 100000 in
theorem ms_called (n : Nat) (F v : xS) (I : aIv n (mA F v)) (S : mS F v) (c s : Int32) {K : xKo} (h : mTw F v (fun s => s) K) : C_M_called [.ref 0, .int c, .int s] (xfill F v 0 (wM0 0)) K := by
  have key : ∀ (d i : Nat) (p : Int32) (F' v' : xS), i + d = 6 → mR r1 F v F' v' → xWP pg_M_called K 37 [(0, .ref 0), (1, .int c), (2, .int s), (3, .int p), (4, .int (nI i))] [] (xfill F' v' 0 (wM0 0)) (0, 0) := by
    intro d
    induction d with
    | zero =>
      intro i p F' v' hi E
      refine xWP_go 200 [(37, [0, 1, 2, 3, 4])] fun P hP => ?_
      refine br_c (fun _ => ?_) (fun z => ?_)
      · exact h.r I S E rfl
      · have z : ¬ nI 6 ≤ nI i := z
        exact absurd (by rw [nI_leI (by omega) (by omega)]; omega) z
    | succ d ih =>
      intro i p F' v' hi E
      refine xWP_go 200 [(37, [0, 1, 2, 3, 4])] fun P hP => ?_
      refine br_c (fun z => ?_) (fun _ => ?_)
      · have z : nI 6 ≤ nI i := z
        rw [nI_leI (by omega) (by omega)] at z
        omega
      refine xcall (sw_wouldBe F' v' ((mI.o I S).e ok_r1 E) _ s (fun r F2 v2 E2 => ?_))
      refine br_n (fun _ => ?_) (fun _ => ?_)
      · skip
        refine hP _ _ _ _ _ ?_
        rw [nI_1]
        exact ih (i + 1) _ F2 v2 (by omega) (E.tr E2.to1)
      · skip
        refine hP _ _ _ _ _ ?_
        rw [nI_1]
        exact ih (i + 1) _ F2 v2 (by omega) (E.tr E2.to1)
  refine xM_go rfl 200 [(37, [0, 1, 2, 3, 4])] fun P hP => ?_
  refine ⟨vin (by decide), ?_⟩
  refine xcall (sp_in _ _ _ (fun a1 => ?_) (fun a1 => ?_))
  · refine br_c (fun _ => ?_) (fun z => absurd rfl z)
    refine xcall (sp_errM F v (-1000000001) 1 (by decide) (by decide) ?_)
    exact h.err S _ rfl
  refine br_c (fun z => absurd z (by decide)) (fun _ => ?_)
  refine xcall (sp_areSteps _ (fun a2 => ?_) (fun a2 => ?_))
  · refine br_n (fun z => absurd rfl z) (fun _ => ?_)
    refine xcall (sp_errM F v (-1000000001) 1 (by decide) (by decide) ?_)
    exact h.err S _ rfl
  refine br_n (fun _ => ?_) (fun z => absurd z (by decide))
  refine hP _ _ _ _ _ ?_
  exact key 6 0 _ F v (by omega) mR.rf
set_option maxRecDepth 100000 in
theorem ms_steps (n : Nat) (F v : xS) (I : aIv n (mA F v)) (S : mS F v) (m : Int32) {K : xKo} (h : mTw F v (fun s => s) K) : C_M_steps [.ref 0, .int m] (xfill F v 0 (wM0 0)) K := by
  have k37 : ∀ (i : Nat) (F' v' : xS), mR r1 F v F' v' → xWP pg_M_steps K 37 [(0, .ref 0), (1, .int m), (2, .int (nI i))] [] (xfill F' v' 0 (wM0 0)) (0, 0) := by
    intro i F' v' E
    refine xWP_go 200 [] fun P hP => ?_
    refine br_c (fun _ => h.r I S E rfl) (fun _ => ?_)
    refine xcall (sp_errM F' v' (-1000000002) 2 (by decide) (by decide) ?_)
    exact h.r I S E.er rfl
  have key : ∀ (d i : Nat)  (F' v' : xS), i + d = 10 → mR r1 F v F' v' → xWP pg_M_steps K 16 [(0, .ref 0), (1, .int m), (2, .int (nI i))] [] (xfill F' v' 0 (wM0 0)) (0, 0) := by
    intro d
    induction d with
    | zero =>
      intro i  F' v' hi E
      refine xWP_go 200 [(16, [0, 1, 2]), (37, [0, 1, 2])] fun P hP => ?_
      refine br_c (fun _ => ?_) (fun z => ?_)
      · exact hP _ _ _ _ _ (k37 i F' v' E)
      · have z : ¬ nI 9 < nI i := z
        exact absurd (by rw [nI_ltI (by omega) (by omega)]; omega) z
    | succ d ih =>
      intro i  F' v' hi E
      refine xWP_go 200 [(16, [0, 1, 2]), (37, [0, 1, 2])] fun P hP => ?_
      refine br_c (fun z => ?_) (fun _ => ?_)
      · have z : nI 9 < nI i := z
        rw [nI_ltI (by omega) (by omega)] at z
        omega
      refine xcall (sw_wouldBe F' v' ((mI.o I S).e ok_r1 E) m _ (fun r F2 v2 E2 => ?_))
      refine br_c (fun _ => hP _ _ _ _ _ (k37 i F2 v2 (E.tr E2.to1))) (fun _ => ?_)
      refine hP _ _ _ _ _ ?_
      rw [nI_1]
      exact ih (i + 1)  F2 v2 (by omega) (E.tr E2.to1)
  refine xM_go rfl 200 [(16, [0, 1, 2]), (37, [0, 1, 2])] fun P hP => ?_
  refine xcall (sp_isMark _ (fun a1 => ?_) (fun a1 => ?_))
  · refine br_n (fun z => absurd rfl z) (fun _ => ?_)
    refine xcall (sp_errM F v (-1000000001) 1 (by decide) (by decide) ?_)
    exact h.err S _ rfl
  refine br_n (fun _ => ?_) (fun z => absurd z (by decide))
  refine hP _ _ _ _ _ ?_
  exact key 10 0 F v (by omega) mR.rf
set_option maxRecDepth 100000 in
theorem sw_hadOften (F v : xS) (I : mI F) (c s : Int32) {K : xKo} (h : ∀ r F' v', mR r0 F v F' v' → K (some (.int r)) (xfill F' v' 0 (wM0 0))) : C_M_hadOften [.ref 0, .int c, .int s] (xfill F v 0 (wM0 0)) K := by
  have key : ∀ (d i : Nat) (p : Int32) (F' v' : xS), i + d = 6 → mR r0 F v F' v' → xWP pg_M_hadOften K 5 [(0, .ref 0), (1, .int c), (2, .int s), (3, .int p), (4, .int (nI i))] [] (xfill F' v' 0 (wM0 0)) (0, 0) := by
    intro d
    induction d with
    | zero =>
      intro i p F' v' hi E
      refine xWP_go 200 [(5, [0, 1, 2, 3, 4])] fun P hP => ?_
      refine br_c (fun _ => ?_) (fun z => ?_)
      · exact h _ _ _ E
      · have z : ¬ nI 6 ≤ nI i := z
        exact absurd (by rw [nI_leI (by omega) (by omega)]; omega) z
    | succ d ih =>
      intro i p F' v' hi E
      refine xWP_go 200 [(5, [0, 1, 2, 3, 4])] fun P hP => ?_
      refine br_c (fun z => ?_) (fun _ => ?_)
      · have z : nI 6 ≤ nI i := z
        rw [nI_leI (by omega) (by omega)] at z
        omega
      refine xcall (sw_wouldBe F' v' (I.e ok_r0 E) _ s (fun r F2 v2 E2 => ?_))
      refine hP _ _ _ _ _ ?_
      rw [nI_1]
      exact ih (i + 1) _ F2 v2 (by omega) (E.tr E2)
  refine xM_go rfl 200 [(5, [0, 1, 2, 3, 4])] fun P hP => ?_
  refine hP _ _ _ _ _ ?_
  exact key 6 0 _ F v (by omega) mR.rf
set_option maxRecDepth 100000 in
theorem ms_stand (n : Nat) (F v : xS) (I : aIv n (mA F v)) (S : mS F v) (c s w : Int32) {K : xKo} (h : mTw F v (fun s => s) K) : C_M_stand [.ref 0, .int c, .int s, .int w] (xfill F v 0 (wM0 0)) K := by
  refine xM_go rfl 200 [(49, [0, 1, 2, 3, 4, 5, 6, 7])] fun P hP => ?_
  refine xcall (sp_isChildM F v _ I.1.1.2.1 (fun a1 => ?_) (fun a1 => ?_))
  · refine br_c (fun _ => ?_) (fun z => absurd rfl z)
    refine xcall (sp_errM F v (-1000000001) 1 (by decide) (by decide) ?_)
    exact h.err S _ rfl
  refine br_c (fun z => absurd z (by decide)) (fun _ => ?_)
  refine xcall (sp_areSteps _ (fun a2 => ?_) (fun a2 => ?_))
  · refine br_c (fun _ => ?_) (fun z => absurd rfl z)
    refine xcall (sp_errM F v (-1000000001) 1 (by decide) (by decide) ?_)
    exact h.err S _ rfl
  refine br_c (fun z => absurd z (by decide)) (fun _ => ?_)
  refine xcall (sp_inx _ 1 2 (by decide) (fun a3 => ?_) (fun a3 => ?_))
  · refine br_n (fun z => absurd rfl z) (fun _ => ?_)
    refine xcall (sp_errM F v (-1000000001) 1 (by decide) (by decide) ?_)
    exact h.err S _ rfl
  refine br_n (fun _ => ?_) (fun z => absurd z (by decide))
  obtain ⟨k, hk, rfl, ek, lt⟩ := xin_ex I.1.1.2.1 (by omega) a1
  refine xcall (sp_its F v (nI k) 2 (vc5 hk (w := 2) (by omega)) ?_)
  have key : ∀ (u : Int32) (d i : Nat) (p : Int32) (q : Int32) (F' v' : xS), i + d = 12 → mR r1 F v F' v' → xWP pg_M_stand K 49 [(0, .ref 0), (1, .int (nI k)), (2, .int s), (3, .int w), (4, .int u), (5, .int p), (6, .int q), (7, .int (nI i))] [] (xfill F' v' 0 (wM0 0)) (0, 0) := by
    intro u d
    induction d with
    | zero =>
      intro i p q F' v' hi E
      refine xWP_go 200 [(49, [0, 1, 2, 3, 4, 5, 6, 7])] fun P hP => ?_
      refine br_c (fun _ => ?_) (fun z => ?_)
      · refine xcall (sp_getsM F' v' (nI k) 2 _ (vc5 hk (w := 2) (by omega)) ?_)
        have E1 := fun x => E.row (x := x) (r1_at (i := k) (w := 2) hk (by omega) (by omega))
        exact br_n (fun _ => h.r I S (E1 _) rfl) (fun _ => h.r I S (E1 _) rfl)
      · have z : ¬ nI 12 ≤ nI i := z
        exact absurd (by rw [nI_leI (by omega) (by omega)]; omega) z
    | succ d ih =>
      intro i p q F' v' hi E
      refine xWP_go 200 [(49, [0, 1, 2, 3, 4, 5, 6, 7])] fun P hP => ?_
      refine br_c (fun z => ?_) (fun _ => ?_)
      · have z : nI 12 ≤ nI i := z
        rw [nI_leI (by omega) (by omega)] at z
        omega
      refine xcall (sp_getsM F' v' (nI k) 2 _ (vc5 hk (w := 2) (by omega)) ?_)
      have E1 := E.row (x := nI i) (r1_at (i := k) (w := 2) hk (by omega) (by omega))
      refine xcall (sw_hadOften _ v' ((mI.o I S).e ok_r1 E1) _ s (fun r F2 v2 E2 => ?_))
      refine br_c (fun _ => ?_) (fun _ => ?_)
      · refine br_c (fun _ => ?_) (fun _ => ?_)
        · refine hP _ _ _ _ _ ?_
          rw [nI_1]
          exact ih (i + 1) _ _ F2 v2 (by omega) (E1.tr E2.to1)
        · refine hP _ _ _ _ _ ?_
          rw [nI_1]
          exact ih (i + 1) _ _ F2 v2 (by omega) (E1.tr E2.to1)
      · refine br_c (fun _ => ?_) (fun _ => ?_)
        · refine hP _ _ _ _ _ ?_
          rw [nI_1]
          exact ih (i + 1) _ _ F2 v2 (by omega) (E1.tr E2.to1)
        · refine hP _ _ _ _ _ ?_
          rw [nI_1]
          exact ih (i + 1) _ _ F2 v2 (by omega) (E1.tr E2.to1)
  refine hP _ _ _ _ _ ?_
  exact key _ 12 0 _ _ F v (by omega) mR.rf
