/-! ===== the tried side: searches, without their outcome ===== -/
theorem sw_runners (F v : xS) {K : xKo} (h : ∀ r, K (some (.int r)) (xfill F v 0 (wT0 0))) : C_T_runners [.ref 0] (xfill F v 0 (wT0 0)) K := by
  refine xM_go rfl 100 [] fun P hP => ?_
  refine br_n (fun _ => ?_) (fun _ => ?_)
  · exact h _
  · exact h _
set_option maxRecDepth 100000 in
theorem sw_scoreFor (F v : xS) (a b : Int32) {K : xKo} (h : ∀ r, K (some (.int r)) (xfill F v 0 wH0)) : C_H_scoreFor [.ref 0, .int a, .int b] (xfill F v 0 wH0) K := by
  refine xM_go rfl 100 [] fun P hP => ?_
  refine ⟨fun _ => h _, fun _ => ?_⟩
  refine ⟨fun _ => ?_, fun _ => h _⟩
  refine xcall (sw_runners (fun k => F (1 + k)) (fun k => v (1 + k)) (fun r => ?_))
  refine xcall (sp_abs _ ?_)
  exact h _
set_option maxRecDepth 100000 in
theorem sw_markFor (n : Nat) (F v : xS) (I : aIv n (hA F v)) (S : hS v) (a s w : Int32) {K : xKo} (h : hTw F v (fun s => s) K) : C_H_markFor [.ref 0, .int a, .int s, .int w] (xfill F v 0 wH0) K := by
  have key : ∀ (d i : Nat) (p : Int32) (q : Int32) (F' v' : xS), i + d = 6 → hR F v F' v' → xWP pg_H_markFor K 31 [(0, .ref 0), (1, .int a), (2, .int s), (3, .int w), (4, .int p), (5, .int q), (6, .int (nI i))] [] (xfill F' v' 0 wH0) (0, 0) := by
    intro d
    induction d with
    | zero =>
      intro i p q F' v' hi E 
      refine xWP_go 200 [(31, [0, 1, 2, 3, 4, 5, 6])] fun P hP => ?_
      refine br_c (fun _ => ?_) (fun z => ?_)
      · refine br_n (fun _ => ?_) (fun _ => ?_)
        · refine xcall (sp_abs _ ?_)
          exact h.r S E rfl
        · exact h.r S E rfl
      · have z : ¬ nI 6 ≤ nI i := z
        exact absurd (by rw [nI_leI (by omega) (by omega)]; omega) z
    | succ d ih =>
      intro i p q F' v' hi E 
      refine xWP_go 200 [(31, [0, 1, 2, 3, 4, 5, 6])] fun P hP => ?_
      refine br_c (fun z => ?_) (fun _ => ?_)
      · have z : nI 6 ≤ nI i := z
        rw [nI_leI (by omega) (by omega)] at z
        omega
      refine xcall (sw_wouldBeHad (fun k => F' (1 + k)) (fun k => v' (1 + k)) (tI.o2 (tI.o I S) E.q) _ s (fun r G w E2 => ?_))
      refine xcall (sw_bitCount _ (fun bc => ?_))
      refine xcall (sw_scoreFor (upS 1 F' G) (upS 1 v' w) a _ (fun sc => ?_))
      refine br_c (fun _ => ?_) (fun _ => ?_)
      · refine hP _ _ _ _ _ ?_
        rw [nI_1]
        exact ih (i + 1) _ _ (upS 1 F' G) (upS 1 v' w) (by omega) (E.tr (hR.e1 E2))
      · refine hP _ _ _ _ _ ?_
        rw [nI_1]
        exact ih (i + 1) _ _ (upS 1 F' G) (upS 1 v' w) (by omega) (E.tr (hR.e1 E2))
  refine xM_go rfl 200 [(31, [0, 1, 2, 3, 4, 5, 6])] fun P hP => ?_
  refine xcall (sp_isSteps _ (fun a1 => ?_) (fun a1 => ?_))
  · refine br_c (fun _ => ?_) (fun z => absurd rfl z)
    refine xcall (sp_errH F v 1 (by decide) ?_)
    exact h.err S _ rfl
  refine br_c (fun z => absurd z (by decide)) (fun _ => ?_)
  refine xcall (sp_isBelow _ _ (fun a2 => ?_) (fun a2 => ?_))
  · refine br_n (fun z => absurd rfl z) (fun _ => ?_)
    refine xcall (sp_errH F v 1 (by decide) ?_)
    exact h.err S _ rfl
  refine br_n (fun _ => ?_) (fun z => absurd z (by decide))
  refine hP _ _ _ _ _ ?_
  exact key 6 0 _ _ F v (by omega) tR.rf
set_option maxRecDepth 100000 in
theorem hs_worst (n : Nat) (F v : xS) (I : aIv n (hA F v)) (S : hS v) (s w : Int32) {K : xKo} (h : hTw F v (fun s => s) K) : C_H_worst [.ref 0, .int s, .int w] (xfill F v 0 wH0) K := by
  refine xM_go rfl 100 [] fun P hP => ?_
  exact xcall (sw_markFor n F v I S _ s w h)
set_option maxRecDepth 100000 in
theorem hs_best (n : Nat) (F v : xS) (I : aIv n (hA F v)) (S : hS v) (s w : Int32) {K : xKo} (h : hTw F v (fun s => s) K) : C_H_best [.ref 0, .int s, .int w] (xfill F v 0 wH0) K := by
  refine xM_go rfl 100 [] fun P hP => ?_
  exact xcall (sw_markFor n F v I S _ s w h)
set_option maxRecDepth 100000 in
theorem hs_parts (n : Nat) (F v : xS) (I : aIv n (hA F v)) (S : hS v) (s w : Int32) {K : xKo} (h : hTw F v (fun s => s) K) : C_H_parts [.ref 0, .int s, .int w] (xfill F v 0 wH0) K := by
  refine xM_go rfl 100 [] fun P hP => ?_
  exact xcall (sw_markFor n F v I S _ s w h)
set_option maxRecDepth 100000 in
theorem sw_marksThatHave (F v : xS) (I : tI v) (c s : Int32) {K : xKo} (h : ∀ r F' v', tR aE bE F v F' v' → K (some (.int r)) (xfill F' v' 0 (wT0 0))) : C_T_marksThatHave [.ref 0, .int c, .int s] (xfill F v 0 (wT0 0)) K := by
  have key : ∀ (d i : Nat) (q : Int32) (F' v' : xS), i + d = 6 → tR aE bE F v F' v' → xWP pg_T_marksThatHave K 5 [(0, .ref 0), (1, .int c), (2, .int s), (3, .int q), (4, .int (nI i))] [] (xfill F' v' 0 (wT0 0)) (0, 0) := by
    intro d
    induction d with
    | zero =>
      intro i q F' v' hi E
      refine xWP_go 200 [(5, [0, 1, 2, 3, 4])] fun P hP => ?_
      refine br_c (fun _ => h _ _ _ E) (fun z => ?_)
      have z : ¬ nI 6 ≤ nI i := z
      exact absurd (by rw [nI_leI (by omega) (by omega)]; omega) z
    | succ d ih =>
      intro i q F' v' hi E
      refine xWP_go 200 [(5, [0, 1, 2, 3, 4])] fun P hP => ?_
      refine br_c (fun z => ?_) (fun _ => ?_)
      · have z : nI 6 ≤ nI i := z
        rw [nI_leI (by omega) (by omega)] at z
        omega
      refine xcall (sw_wouldBeHad F' v' (I.e E) _ s (fun r F2 v2 E2 => ?_))
      refine xcall (sp_isIn _ _ (fun _ => ?_) (fun _ => ?_))
      · refine br_c (fun _ => ?_) (fun z => absurd rfl z)
        refine hP _ _ _ _ _ ?_
        rw [nI_1]
        exact ih (i + 1) _ F2 v2 (by omega) (E.tr E2)
      · refine br_c (fun z => absurd z (by decide)) (fun _ => ?_)
        refine hP _ _ _ _ _ ?_
        rw [nI_1]
        exact ih (i + 1) _ F2 v2 (by omega) (E.tr E2)
  refine xM_go rfl 200 [(5, [0, 1, 2, 3, 4])] fun P hP => ?_
  refine hP _ _ _ _ _ ?_
  exact key 6 0 _ F v (by omega) tR.rf
def thF (F : xS) : xS := fun k => if k < 18 then F (37 + k) else F (1 + (k - 18))
def thI (v : xS) : Prop := tI (fun k => v (37 + k))
theorem thI.up {w F v' F2 : xS} (I : tI (fun k => v' (37 + k))) (E : tR aP bQ F (fun k => v' (37 + k)) F2 w) : thI (upS 37 v' w) := by
  have q := I.q E
  exact q
set_option maxRecDepth 100000 in
theorem hs_stand (n : Nat) (F v : xS) (I : aIv n (hA F v)) (S : hS v) (c s w : Int32) {K : xKo} (h : hTw F v (fun s => s) K) : C_H_stand [.ref 0, .int c, .int s, .int w] (xfill F v 0 wH0) K := by
  obtain ⟨n0, h0, e0⟩ := S.1.1
  obtain ⟨n1, h1, e1⟩ := S.1.2
  have key : ∀ (d i : Nat) (p : Int32) (q : Int32) (F' v' : xS), i + d = 12 → hR F v F' v' → thI v' → vp_in c 7 → xWP pg_H_stand K 50 [(0, .ref 0), (1, .int c), (2, .int s), (3, .int w), (4, .int p), (5, .int q), (6, .int (nI i))] [] (xfill F' v' 0 wH0) (0, 0) := by
    intro d
    induction d with
    | zero =>
      intro i p q F' v' hi E T hc
      refine xWP_go 200 [(50, [0, 1, 2, 3, 4, 5, 6])] fun P hP => ?_
      refine br_c (fun _ => ?_) (fun z => ?_)
      · refine br_n (fun _ => ?_) (fun _ => ?_)
        · exact h.r S E rfl
        · exact h.r S E rfl
      · have z : ¬ nI 12 ≤ nI i := z
        exact absurd (by rw [nI_leI (by omega) (by omega)]; omega) z
    | succ d ih =>
      intro i p q F' v' hi E T hc
      refine xWP_go 200 [(50, [0, 1, 2, 3, 4, 5, 6])] fun P hP => ?_
      refine br_c (fun z => ?_) (fun _ => ?_)
      · have z : nI 12 ≤ nI i := z
        rw [nI_leI (by omega) (by omega)] at z
        omega
      refine ⟨hc, ?_⟩
      refine xcall (sw_marksThatHave (fun k => va_up F' 42 (upd (F' 42) (nat c) (nI i)) (37 + k)) (fun k => v' (37 + k)) T c s (fun r G w E2 => ?_))
      have E3 : hR F v (upS 37 (va_up F' 42 (upd (F' 42) (nat c) (nI i))) G) (upS 37 v' w) := (E.fu (k := 42) rfl).tr hR.up37
      have T3 : thI (upS 37 v' w) := thI.up T (tP.q (tE.p E2))
      refine br_c (fun _ => ?_) (fun _ => ?_)
      · refine hP _ _ _ _ _ ?_
        rw [nI_1]
        exact ih (i + 1) _ _ _ _ (by omega) E3 T3 hc
      · refine hP _ _ _ _ _ ?_
        rw [nI_1]
        exact ih (i + 1) _ _ _ _ (by omega) E3 T3 hc
  refine xM_go rfl 200 [(50, [0, 1, 2, 3, 4, 5, 6])] fun P hP => ?_
  refine xcall (sp_isChild F v _ (fun a1 => ?_) (fun a1 => ?_))
  · refine br_c (fun _ => ?_) (fun z => absurd rfl z)
    refine xcall (sp_errH F v 1 (by decide) ?_)
    exact h.err S _ rfl
  refine br_c (fun z => absurd z (by decide)) (fun _ => ?_)
  refine xcall (sp_isSteps _ (fun a2 => ?_) (fun a2 => ?_))
  · refine br_c (fun _ => ?_) (fun z => absurd rfl z)
    refine xcall (sp_errH F v 1 (by decide) ?_)
    exact h.err S _ rfl
  refine br_c (fun z => absurd z (by decide)) (fun _ => ?_)
  refine xcall (sp_isBelow _ _ (fun a3 => ?_) (fun a3 => ?_))
  · refine br_n (fun z => absurd rfl z) (fun _ => ?_)
    refine xcall (sp_errH F v 1 (by decide) ?_)
    exact h.err S _ rfl
  refine br_n (fun _ => ?_) (fun z => absurd z (by decide))
  have T0 : thI (upS 37 v (cpV (thF v) n0 n1)) := ⟨⟨I.1.1.1, I.1.1.2.1⟩, ⟨n0, h0, rfl⟩, ⟨n1, h1, rfl⟩⟩
  refine xcall (sp_copy (thF F) (thF v) n0 n1 h0 h1 e0 e1 ?_)
  refine hP _ _ _ _ _ ?_
  exact key 12 0 _ _ (upS 37 F (cpF (thF F) n0 n1)) (upS 37 v (cpV (thF v) n0 n1)) (by omega) hR.up37 T0 (vinB I.1.1.2.1 a1 (Nat.le_refl _) (by omega))
set_option maxRecDepth 100000 in
theorem hs_steps (n : Nat) (F v : xS) (I : aIv n (hA F v)) (S : hS v) (m : Int32) {K : xKo} (h : hTw F v (fun s => s) K) : C_H_steps [.ref 0, .int m] (xfill F v 0 wH0) K := by
  have key : ∀ (d i : Nat)  (F' v' : xS), i + d = 10 → hR F v F' v' → xWP pg_H_steps K 17 [(0, .ref 0), (1, .int m), (2, .int (nI i))] [] (xfill F' v' 0 wH0) (0, 0) := by
    intro d
    induction d with
    | zero =>
      intro i  F' v' hi E 
      refine xWP_go 200 [(17, [0, 1, 2])] fun P hP => ?_
      refine br_c (fun _ => ?_) (fun z => ?_)
      · refine xcall (sp_errH F' v' 2 (by decide) ?_)
        exact h.r S E.er rfl
      · have z : ¬ nI 9 < nI i := z
        exact absurd (by rw [nI_ltI (by omega) (by omega)]; omega) z
    | succ d ih =>
      intro i  F' v' hi E 
      refine xWP_go 200 [(17, [0, 1, 2])] fun P hP => ?_
      refine br_c (fun z => ?_) (fun _ => ?_)
      · have z : nI 9 < nI i := z
        rw [nI_ltI (by omega) (by omega)] at z
        omega
      refine xcall (sw_wouldBeHad (fun k => F' (1 + k)) (fun k => v' (1 + k)) (tI.o2 (tI.o I S) E.q) m _ (fun r G w E2 => ?_))
      refine br_n (fun _ => ?_) (fun _ => ?_)
      · refine hP _ _ _ _ _ ?_
        rw [nI_1]
        exact ih (i + 1) (upS 1 F' G) (upS 1 v' w) (by omega) (E.tr (hR.e1 E2))
      · exact h.r (F' := upS 1 F' G) (v' := upS 1 v' w) S (E.tr (hR.e1 E2)) rfl
  refine xM_go rfl 200 [(17, [0, 1, 2])] fun P hP => ?_
  refine xcall (sp_isBelow _ _ (fun a1 => ?_) (fun a1 => ?_))
  · refine br_n (fun z => absurd rfl z) (fun _ => ?_)
    refine xcall (sp_errH F v 1 (by decide) ?_)
    exact h.err S _ rfl
  refine br_n (fun _ => ?_) (fun z => absurd z (by decide))
  refine hP _ _ _ _ _ ?_
  exact key 10 0 F v (by omega) tR.rf
set_option maxRecDepth 100000 in
theorem hs_called (n : Nat) (F v : xS) (I : aIv n (hA F v)) (S : hS v) (c s : Int32) {K : xKo} (h : hTw F v (fun s => s) K) : C_H_called [.ref 0, .int c, .int s] (xfill F v 0 wH0) K := by
  have key : ∀ (d i : Nat) (p : Int32) (F' v' : xS), i + d = 6 → hR F v F' v' → xWP pg_H_called K 34 [(0, .ref 0), (1, .int c), (2, .int s), (3, .int p), (4, .int (nI i))] [] (xfill F' v' 0 wH0) (0, 0) := by
    intro d
    induction d with
    | zero =>
      intro i p F' v' hi E 
      refine xWP_go 200 [(34, [0, 1, 2, 3, 4])] fun P hP => ?_
      refine br_c (fun _ => ?_) (fun z => ?_)
      · exact h.r S E rfl
      · have z : ¬ nI 6 ≤ nI i := z
        exact absurd (by rw [nI_leI (by omega) (by omega)]; omega) z
    | succ d ih =>
      intro i p F' v' hi E 
      refine xWP_go 200 [(34, [0, 1, 2, 3, 4])] fun P hP => ?_
      refine br_c (fun z => ?_) (fun _ => ?_)
      · have z : nI 6 ≤ nI i := z
        rw [nI_leI (by omega) (by omega)] at z
        omega
      refine xcall (sw_wouldBeHad (fun k => F' (1 + k)) (fun k => v' (1 + k)) (tI.o2 (tI.o I S) E.q) _ s (fun r G w E2 => ?_))
      refine br_n (fun _ => ?_) (fun _ => ?_)
      · refine hP _ _ _ _ _ ?_
        rw [nI_1]
        exact ih (i + 1) _ (upS 1 F' G) (upS 1 v' w) (by omega) (E.tr (hR.e1 E2))
      · refine hP _ _ _ _ _ ?_
        rw [nI_1]
        exact ih (i + 1) _ (upS 1 F' G) (upS 1 v' w) (by omega) (E.tr (hR.e1 E2))
  refine xM_go rfl 200 [(34, [0, 1, 2, 3, 4])] fun P hP => ?_
  refine xcall (sp_isBelow _ _ (fun a1 => ?_) (fun a1 => ?_))
  · refine br_c (fun _ => ?_) (fun z => absurd rfl z)
    refine xcall (sp_errH F v 1 (by decide) ?_)
    exact h.err S _ rfl
  refine br_c (fun z => absurd z (by decide)) (fun _ => ?_)
  refine xcall (sp_isSteps _ (fun a2 => ?_) (fun a2 => ?_))
  · refine br_n (fun z => absurd rfl z) (fun _ => ?_)
    refine xcall (sp_errH F v 1 (by decide) ?_)
    exact h.err S _ rfl
  refine br_n (fun _ => ?_) (fun z => absurd z (by decide))
  refine hP _ _ _ _ _ ?_
  exact key 6 0 _ F v (by omega) tR.rf
set_option maxRecDepth 100000 in
theorem hs_never (n : Nat) (F v : xS) (I : aIv n (hA F v)) (S : hS v) (s : Int32) {K : xKo} (h : hTw F v (fun s => s) K) : C_H_never [.ref 0, .int s] (xfill F v 0 wH0) K := by
  have key : ∀ (d i : Nat) (p : Int32) (F' v' : xS), i + d = 6 → hR F v F' v' → xWP pg_H_never K 27 [(0, .ref 0), (1, .int s), (2, .int p), (3, .int (nI i))] [] (xfill F' v' 0 wH0) (0, 0) := by
    intro d
    induction d with
    | zero =>
      intro i p F' v' hi E 
      refine xWP_go 200 [(27, [0, 1, 2, 3])] fun P hP => ?_
      refine br_c (fun _ => ?_) (fun z => ?_)
      · exact h.r S E rfl
      · have z : ¬ nI 6 ≤ nI i := z
        exact absurd (by rw [nI_leI (by omega) (by omega)]; omega) z
    | succ d ih =>
      intro i p F' v' hi E 
      refine xWP_go 200 [(27, [0, 1, 2, 3])] fun P hP => ?_
      refine br_c (fun z => ?_) (fun _ => ?_)
      · have z : nI 6 ≤ nI i := z
        rw [nI_leI (by omega) (by omega)] at z
        omega
      refine xcall (sw_wouldBeHad (fun k => F' (1 + k)) (fun k => v' (1 + k)) (tI.o2 (tI.o I S) E.q) _ s (fun r G w E2 => ?_))
      refine hP _ _ _ _ _ ?_
      rw [nI_1]
      exact ih (i + 1) _ (upS 1 F' G) (upS 1 v' w) (by omega) (E.tr (hR.e1 E2))
  refine xM_go rfl 200 [(27, [0, 1, 2, 3])] fun P hP => ?_
  refine xcall (sp_isSteps _ (fun a1 => ?_) (fun a1 => ?_))
  · refine br_n (fun z => absurd rfl z) (fun _ => ?_)
    refine xcall (sp_errH F v 1 (by decide) ?_)
    exact h.err S _ rfl
  refine br_n (fun _ => ?_) (fun z => absurd z (by decide))
  refine hP _ _ _ _ _ ?_
  exact key 6 0 _ F v (by omega) tR.rf
set_option maxRecDepth 100000 in
theorem hs_lay (n : Nat) (F v : xS) (I : aIv n (hA F v)) (S : hS v) (m s w : Int32) {K : xKo} (h : hTw F v (fun s => s) K) : C_H_lay [.ref 0, .int m, .int s, .int w] (xfill F v 0 wH0) K := by
  have b2 : below 8 (v 1 2) := I.1.1.1
  obtain ⟨kt, hkt, et⟩ := id b2
  obtain ⟨n0, h0, e0⟩ := S.1.1
  obtain ⟨n1, h1, e1⟩ := S.1.2
  have key : ∀ (d i : Nat) (x : Int32) (p : Int32) (q : Int32) (F' v' : xS), i + d = 12 → hR F v F' v' → thI v' → vp_in x 8 → xWP pg_H_lay K 82 [(0, .ref 0), (1, .int m), (2, .int s), (3, .int w), (4, .int x), (5, .int p), (6, .int q), (7, .int (nI i))] [] (xfill F' v' 0 wH0) (0, 0) := by
    intro d
    induction d with
    | zero =>
      intro i x p q F' v' hi E T hx
      refine xWP_go 200 [(82, [0, 1, 2, 3, 4, 5, 6, 7])] fun P hP => ?_
      refine br_c (fun _ => ?_) (fun z => ?_)
      · refine br_n (fun _ => ?_) (fun _ => ?_)
        · exact h.r S E rfl
        · exact h.r S E rfl
      · have z : ¬ nI 12 ≤ nI i := z
        exact absurd (by rw [nI_leI (by omega) (by omega)]; omega) z
    | succ d ih =>
      intro i x p q F' v' hi E T hx
      refine xWP_go 200 [(82, [0, 1, 2, 3, 4, 5, 6, 7])] fun P hP => ?_
      refine br_c (fun z => ?_) (fun _ => ?_)
      · have z : nI 12 ≤ nI i := z
        rw [nI_leI (by omega) (by omega)] at z
        omega
      refine ⟨hx, ?_⟩
      refine xcall (sw_wouldBeHad (fun k => va_up F' 38 (upd (F' 38) (nat x) (nI i)) (37 + k)) (fun k => v' (37 + k)) T m s (fun r G w E2 => ?_))
      have E3 : hR F v (upS 37 (va_up F' 38 (upd (F' 38) (nat x) (nI i))) G) (upS 37 v' w) := (E.fu (k := 38) rfl).tr hR.up37
      have T3 : thI (upS 37 v' w) := thI.up T (tP.q (tE.p E2))
      refine xcall (sw_bitCount _ (fun bc => ?_))
      refine br_c (fun _ => ?_) (fun _ => ?_)
      · refine hP _ _ _ _ _ ?_
        rw [nI_1]
        exact ih (i + 1) _ _ _ _ _ (by omega) E3 T3 hx
      · refine hP _ _ _ _ _ ?_
        rw [nI_1]
        exact ih (i + 1) _ _ _ _ _ (by omega) E3 T3 hx
  refine xM_go rfl 200 [(82, [0, 1, 2, 3, 4, 5, 6, 7])] fun P hP => ?_
  refine xcall (sp_isBelow _ _ (fun a1 => ?_) (fun a1 => ?_))
  · refine br_c (fun _ => ?_) (fun z => absurd rfl z)
    refine xcall (sp_errH F v 1 (by decide) ?_)
    exact h.err S _ rfl
  refine br_c (fun z => absurd z (by decide)) (fun _ => ?_)
  refine xcall (sp_isSteps _ (fun a2 => ?_) (fun a2 => ?_))
  · refine br_c (fun _ => ?_) (fun z => absurd rfl z)
    refine xcall (sp_errH F v 1 (by decide) ?_)
    exact h.err S _ rfl
  refine br_c (fun z => absurd z (by decide)) (fun _ => ?_)
  refine xcall (sp_isBelow _ _ (fun a3 => ?_) (fun a3 => ?_))
  · refine br_n (fun z => absurd rfl z) (fun _ => ?_)
    refine xcall (sp_errH F v 1 (by decide) ?_)
    exact h.err S _ rfl
  refine br_n (fun _ => ?_) (fun z => absurd z (by decide))
  refine br_c (fun a4 => ?_) (fun a4 => ?_)
  · have a4 : nat (v 1 2) < 8 := (natlt (n := 8) b2 (by omega) (by omega)).mp a4
    have ek : nat (v 1 2) = kt := by rw [et]; exact nI_clamp (by omega)
    refine xcall (sp_copy (thF F) (thF v) n0 n1 h0 h1 e0 e1 ?_)
    refine xcall (sp_addThing (cpF (thF F) n0 n1) (cpV (thF v) n0 n1) 0 _ kt (by omega) et ?_)
    refine hP _ _ _ _ _ ?_
    refine key 12 0 _ _ _ (upS 37 F (va_up (va_up (cpF (thF F) n0 n1) 1 (upd (cpF (thF F) n0 n1 1) (nat (cpV (thF v) n0 n1 0 2)) 0)) 2 (upd (cpF (thF F) n0 n1 2) (nat (cpV (thF v) n0 n1 0 2)) ((1 : Int32) <<< (m &&& 31))))) (upS 37 v (va_up (cpV (thF v) n0 n1) 0 (va_up (cpV (thF v) n0 n1 0) 2 (cpV (thF v) n0 n1 0 2 + 1)))) (by omega) hR.up37 ?_ ?_
    · exact ⟨⟨⟨kt + 1, by omega, by show v 1 2 + 1 = nI (kt + 1); rw [et, nI_1]⟩, I.1.1.2.1⟩, ⟨n0, h0, rfl⟩, ⟨n1, h1, rfl⟩⟩
    · exact vinN b2 a4 (by omega)
  · refine xcall (sp_errH F v 4 (by decide) ?_)
    exact h.err S _ rfl
set_option maxRecDepth 100000 in
theorem sw_allHave (F v : xS) (I : tI v) (a m : Int32) {K : xKo} (h : ∀ r, (r = 0 ∨ r = 1) → K (some (.int r)) (xfill F v 0 (wT0 0))) : C_T_allHave [.ref 0, .int a, .int m] (xfill F v 0 (wT0 0)) K := by
  obtain ⟨n, hn, en⟩ := I.1.1
  have key : ∀ (d i : Nat), i + d = n → xWP pg_T_allHave K 2 [(0, .ref 0), (1, .int a), (2, .int m), (3, .int (nI i))] [] (xfill F v 0 (wT0 0)) (0, 0) := by
    intro d
    induction d with
    | zero =>
      intro i hi
      refine xWP_go 200 [(2, [0, 1, 2, 3])] fun P hP => ?_
      refine br_c (fun _ => ⟨Or.inr rfl, h _ (Or.inr rfl)⟩) (fun z => ?_)
      have z : ¬ v 0 2 ≤ nI i := z
      rw [en, nI_leI (by omega) (by omega)] at z
      omega
    | succ d ih =>
      intro i hi
      refine xWP_go 200 [(2, [0, 1, 2, 3])] fun P hP => ?_
      refine br_c (fun z => ?_) (fun _ => ?_)
      · have z : v 0 2 ≤ nI i := z
        rw [en, nI_leI (by omega) (by omega)] at z
        omega
      refine xcall (sp_isIn _ _ (fun _ => ?_) (fun _ => ?_))
      · refine br_c (fun _ => ?_) (fun z => absurd rfl z)
        refine hP _ _ _ _ _ ?_
        rw [nI_1]
        exact ih (i + 1) (by omega)
      refine br_c (fun z => absurd z (by decide)) (fun _ => ?_)
      refine ⟨vp_in_nI (by omega) (by omega), ?_⟩
      refine xcall (sp_isIn _ _ (fun _ => ?_) (fun _ => ?_))
      · refine br_n (fun z => absurd rfl z) (fun _ => ?_)
        exact ⟨Or.inl rfl, h _ (Or.inl rfl)⟩
      · refine br_n (fun _ => ?_) (fun z => absurd z (by decide))
        refine hP _ _ _ _ _ ?_
        rw [nI_1]
        exact ih (i + 1) (by omega)
  refine xM_go rfl 200 [(2, [0, 1, 2, 3])] fun P hP => ?_
  refine hP _ _ _ _ _ ?_
  exact key n 0 (by omega)
set_option maxRecDepth 100000 in
theorem sw_hadWithout (F v : xS) (I : tI (fun k => v (1 + k))) (T : thI v) (a c m s : Int32) {K : xKo} (h : ∀ r F' v', (r = 0 ∨ r = 1) → hR F v F' v' → thI v' → K (some (.int r)) (xfill F' v' 0 wH0)) : C_H_hadWithout [.ref 0, .int a, .int c, .int m, .int s] (xfill F v 0 wH0) K := by
  obtain ⟨n, hn, en⟩ := I.1.1
  have en : v 1 2 = nI n := en
  have key : ∀ (d i : Nat) (F' v' : xS), i + d = n → hR F v F' v' → thI v' → xWP pg_H_hadWithout K 3 [(0, .ref 0), (1, .int a), (2, .int c), (3, .int m), (4, .int s), (5, .int (nI i))] [] (xfill F' v' 0 wH0) (0, 0) := by
    intro d
    induction d with
    | zero =>
      intro i F' v' hi E T
      have e : v' 1 2 = nI n := (E.2 1 2 rfl).trans en
      refine xWP_go 200 [(3, [0, 1, 2, 3, 4, 5])] fun P hP => ?_
      refine br_c (fun _ => ?_) (fun z => ?_)
      · refine xcall (sw_wouldBeHad (fun k => F' (37 + k)) (fun k => v' (37 + k)) T m s (fun r G w E2 => ?_))
        have T3 : thI (upS 37 v' w) := thI.up T (tP.q (tE.p E2))
        refine xcall (sp_isIn _ _ (fun _ => ?_) (fun _ => ?_))
        · exact ⟨Or.inl rfl, h _ (upS 37 F' G) (upS 37 v' w) (Or.inl rfl) (E.tr hR.up37) T3⟩
        · exact ⟨Or.inr rfl, h _ (upS 37 F' G) (upS 37 v' w) (Or.inr rfl) (E.tr hR.up37) T3⟩
      · have z : ¬ v' 1 2 ≤ nI i := z
        rw [e, nI_leI (by omega) (by omega)] at z
        omega
    | succ d ih =>
      intro i F' v' hi E T
      have e : v' 1 2 = nI n := (E.2 1 2 rfl).trans en
      refine xWP_go 200 [(3, [0, 1, 2, 3, 4, 5])] fun P hP => ?_
      refine br_c (fun z => ?_) (fun _ => ?_)
      · have z : v' 1 2 ≤ nI i := z
        rw [e, nI_leI (by omega) (by omega)] at z
        omega
      have bi : vp_in (nI i) 8 := vp_in_nI (by omega) (by omega)
      refine xcall (sp_isIn _ _ (fun _ => ?_) (fun _ => ?_))
      · refine br_c (fun _ => ?_) (fun z => absurd rfl z)
        refine ⟨bi, ?_⟩
        refine ⟨bi, ?_⟩
        refine hP _ _ _ _ _ ?_
        rw [nI_1]
        exact ih (i + 1) (va_up F' 39 _) v' (by omega) (E.fu rfl) T
      · refine br_c (fun z => absurd z (by decide)) (fun _ => ?_)
        refine ⟨bi, ?_⟩
        refine hP _ _ _ _ _ ?_
        rw [nI_1]
        exact ih (i + 1) (va_up F' 39 _) v' (by omega) (E.fu rfl) T
  refine xM_go rfl 200 [(3, [0, 1, 2, 3, 4, 5])] fun P hP => ?_
  refine hP _ _ _ _ _ ?_
  exact key n 0 F v (by omega) tR.rf T
set_option maxRecDepth 100000 in
theorem hs_take (n : Nat) (F v : xS) (I : aIv n (hA F v)) (S : hS v) (c m s : Int32) {K : xKo} (h : hTw F v (fun s => s) K) : C_H_take [.ref 0, .int c, .int m, .int s] (xfill F v 0 wH0) K := by
  obtain ⟨kt, hkt, et⟩ : below 8 (v 1 2) := I.1.1.1
  have es : ∃ N : Nat, N ≤ 256 ∧ (1 : Int32) <<< (v 1 2 &&& 31) = nI N := by
    rw [et]
    have : kt = 0 ∨ kt = 1 ∨ kt = 2 ∨ kt = 3 ∨ kt = 4 ∨ kt = 5 ∨ kt = 6 ∨ kt = 7 ∨ kt = 8 := by omega
    rcases this with z | z | z | z | z | z | z | z | z
    all_goals subst z
    · exact ⟨1, by omega, by decide⟩
    · exact ⟨2, by omega, by decide⟩
    · exact ⟨4, by omega, by decide⟩
    · exact ⟨8, by omega, by decide⟩
    · exact ⟨16, by omega, by decide⟩
    · exact ⟨32, by omega, by decide⟩
    · exact ⟨64, by omega, by decide⟩
    · exact ⟨128, by omega, by decide⟩
    · exact ⟨256, by omega, by decide⟩
  obtain ⟨N, hN, eN⟩ := es
  obtain ⟨n0, h0, e0⟩ := S.1.1
  obtain ⟨n1, h1, e1⟩ := S.1.2
  have key : ∀ (d i : Nat) (p q : Int32) (F' v' : xS), i + d = N → hR F v F' v' → thI v' → xWP pg_H_take K 51 [(0, .ref 0), (1, .int c), (2, .int m), (3, .int s), (4, .int p), (5, .int q), (6, .int (nI i))] [] (xfill F' v' 0 wH0) (0, 0) := by
    intro d
    induction d with
    | zero =>
      intro i p q F' v' hi E T
      have e : v' 1 2 = v 1 2 := E.2 1 2 rfl
      refine xWP_go 200 [(51, [0, 1, 2, 3, 4, 5, 6])] fun P hP => ?_
      refine br_c (fun _ => ?_) (fun z => ?_)
      · refine br_c (fun _ => ?_) (fun _ => ?_)
        · exact h.r S E rfl
        · refine xcall (sp_errH F' v' 2 (by decide) ?_)
          exact h.r S E.er rfl
      · have z : ¬ (1 : Int32) <<< (v' 1 2 &&& 31) ≤ nI i := z
        rw [e, eN, nI_leI (by omega) (by omega)] at z
        omega
    | succ d ih =>
      intro i p q F' v' hi E T
      have e : v' 1 2 = v 1 2 := E.2 1 2 rfl
      refine xWP_go 200 [(51, [0, 1, 2, 3, 4, 5, 6])] fun P hP => ?_
      refine br_c (fun z => ?_) (fun _ => ?_)
      · have z : (1 : Int32) <<< (v' 1 2 &&& 31) ≤ nI i := z
        rw [e, eN, nI_leI (by omega) (by omega)] at z
        omega
      have nx : ∀ (p q : Int32) (F2 v2 : xS), hR F' v' F2 v2 → thI v2 → xWP pg_H_take K 51 [(0, .ref 0), (1, .int c), (2, .int m), (3, .int s), (4, .int p), (5, .int q), (6, .int (nI i + 1))] [] (xfill F2 v2 0 wH0) (0, 0) := by
        intro p q F2 v2 E2 T2
        rw [nI_1]
        exact ih (i + 1) p q F2 v2 (by omega) (E.tr E2) T2
      refine xcall (sw_bitCount _ (fun bc => ?_))
      refine br_c (fun _ => ?_) (fun _ => ?_)
      · refine hP _ _ _ _ _ ?_
        exact nx _ _ _ _ tR.rf T
      refine xcall (sw_allHave (fun k => F' (1 + k)) (fun k => v' (1 + k)) (tI.o2 (tI.o I S) E.q) _ m (fun r hr => ?_))
      refine br_c (fun _ => ?_) (fun _ => ?_)
      · refine hP _ _ _ _ _ ?_
        exact nx _ _ _ _ tR.rf T
      refine xcall (sw_hadWithout F' v' (tI.o2 (tI.o I S) E.q) T _ c m s (fun r F2 v2 hr E2 T2 => ?_))
      refine br_c (fun _ => ?_) (fun _ => ?_)
      · refine hP _ _ _ _ _ ?_
        exact nx _ _ _ _ E2 T2
      · refine hP _ _ _ _ _ ?_
        exact nx _ _ _ _ E2 T2
  refine xM_go rfl 200 [(51, [0, 1, 2, 3, 4, 5, 6])] fun P hP => ?_
  refine xcall (sp_isChild F v _ (fun a1 => ?_) (fun a1 => ?_))
  · refine br_c (fun _ => ?_) (fun z => absurd rfl z)
    refine xcall (sp_errH F v 1 (by decide) ?_)
    exact h.err S _ rfl
  refine br_c (fun z => absurd z (by decide)) (fun _ => ?_)
  refine xcall (sp_isBelow _ _ (fun a2 => ?_) (fun a2 => ?_))
  · refine br_c (fun _ => ?_) (fun z => absurd rfl z)
    refine xcall (sp_errH F v 1 (by decide) ?_)
    exact h.err S _ rfl
  refine br_c (fun z => absurd z (by decide)) (fun _ => ?_)
  refine xcall (sp_isSteps _ (fun a3 => ?_) (fun a3 => ?_))
  · refine br_n (fun z => absurd rfl z) (fun _ => ?_)
    refine xcall (sp_errH F v 1 (by decide) ?_)
    exact h.err S _ rfl
  refine br_n (fun _ => ?_) (fun z => absurd z (by decide))
  have T0 : thI (upS 37 v (cpV (thF v) n0 n1)) := ⟨⟨I.1.1.1, I.1.1.2.1⟩, ⟨n0, h0, rfl⟩, ⟨n1, h1, rfl⟩⟩
  refine xcall (sp_copy (thF F) (thF v) n0 n1 h0 h1 e0 e1 ?_)
  refine hP _ _ _ _ _ ?_
  exact key N 0 _ _ (upS 37 F (cpF (thF F) n0 n1)) (upS 37 v (cpV (thF v) n0 n1)) (by omega) hR.up37 T0
set_option maxRecDepth 100000 in
theorem hs_odds (n : Nat) (F v : xS) (I : aIv n (hA F v)) (S : hS v) (c s w : Int32) {K : xKo} (h : hTw F v (fun s => s) K) : C_H_odds [.ref 0, .int c, .int s, .int w] (xfill F v 0 wH0) K := by
  have k1 : ∀ (x y : Int32) (F' v' : xS), hR F v F' v' → xWP pg_H_odds K 75 [(0, .ref 0), (1, .int c), (2, .int s), (3, .int w), (4, .int x), (5, .int y), (6, .int 1)] [] (xfill F' v' 0 wH0) (0, 0) := by
    intro x y F' v' E
    refine xWP_go 200 [(75, [0, 1, 2, 3, 4, 5, 6])] fun P hP => ?_
    refine br_c (fun _ => ?_) (fun z => absurd (by decide) z)
    exact h.r S E rfl
  have k2 : ∀ (x y : Int32) (F' v' : xS), hR F v F' v' → xWP pg_H_odds K 75 [(0, .ref 0), (1, .int c), (2, .int s), (3, .int w), (4, .int x), (5, .int y), (6, .int 2)] [] (xfill F' v' 0 wH0) (0, 0) := by
    intro x y F' v' E
    refine xWP_go 200 [(75, [0, 1, 2, 3, 4, 5, 6])] fun P hP => ?_
    refine br_c (fun z => absurd z (by decide)) (fun _ => ?_)
    refine ⟨by decide, ?_⟩
    refine br_n (fun _ => ?_) (fun _ => ?_)
    · refine hP _ _ _ _ _ ?_
      exact k1 x y F' v' E
    refine ⟨by decide, ?_⟩
    refine br_n (fun _ => ?_) (fun _ => ?_)
    · refine hP _ _ _ _ _ ?_
      exact k1 x y F' v' E
    refine ⟨by decide, ?_⟩
    exact h.r S E rfl
  have k3 : ∀ (x y : Int32) (F' v' : xS), hR F v F' v' → xWP pg_H_odds K 75 [(0, .ref 0), (1, .int c), (2, .int s), (3, .int w), (4, .int x), (5, .int y), (6, .int 3)] [] (xfill F' v' 0 wH0) (0, 0) := by
    intro x y F' v' E
    refine xWP_go 200 [(75, [0, 1, 2, 3, 4, 5, 6])] fun P hP => ?_
    refine br_c (fun z => absurd z (by decide)) (fun _ => ?_)
    refine ⟨by decide, ?_⟩
    refine br_n (fun _ => ?_) (fun _ => ?_)
    · refine hP _ _ _ _ _ ?_
      exact k2 x y F' v' E
    refine ⟨by decide, ?_⟩
    refine br_n (fun _ => ?_) (fun _ => ?_)
    · refine hP _ _ _ _ _ ?_
      exact k2 x y F' v' E
    refine ⟨by decide, ?_⟩
    exact h.r S E rfl
  have k4 : ∀ (x y : Int32) (F' v' : xS), hR F v F' v' → xWP pg_H_odds K 75 [(0, .ref 0), (1, .int c), (2, .int s), (3, .int w), (4, .int x), (5, .int y), (6, .int 4)] [] (xfill F' v' 0 wH0) (0, 0) := by
    intro x y F' v' E
    refine xWP_go 200 [(75, [0, 1, 2, 3, 4, 5, 6])] fun P hP => ?_
    refine br_c (fun z => absurd z (by decide)) (fun _ => ?_)
    refine ⟨by decide, ?_⟩
    refine br_n (fun _ => ?_) (fun _ => ?_)
    · refine hP _ _ _ _ _ ?_
      exact k3 x y F' v' E
    refine ⟨by decide, ?_⟩
    refine br_n (fun _ => ?_) (fun _ => ?_)
    · refine hP _ _ _ _ _ ?_
      exact k3 x y F' v' E
    refine ⟨by decide, ?_⟩
    exact h.r S E rfl
  have k5 : ∀ (x y : Int32) (F' v' : xS), hR F v F' v' → xWP pg_H_odds K 75 [(0, .ref 0), (1, .int c), (2, .int s), (3, .int w), (4, .int x), (5, .int y), (6, .int 5)] [] (xfill F' v' 0 wH0) (0, 0) := by
    intro x y F' v' E
    refine xWP_go 200 [(75, [0, 1, 2, 3, 4, 5, 6])] fun P hP => ?_
    refine br_c (fun z => absurd z (by decide)) (fun _ => ?_)
    refine ⟨by decide, ?_⟩
    refine br_n (fun _ => ?_) (fun _ => ?_)
    · refine hP _ _ _ _ _ ?_
      exact k4 x y F' v' E
    refine ⟨by decide, ?_⟩
    refine br_n (fun _ => ?_) (fun _ => ?_)
    · refine hP _ _ _ _ _ ?_
      exact k4 x y F' v' E
    refine ⟨by decide, ?_⟩
    exact h.r S E rfl
  have k6 : ∀ (x y : Int32) (F' v' : xS), hR F v F' v' → xWP pg_H_odds K 75 [(0, .ref 0), (1, .int c), (2, .int s), (3, .int w), (4, .int x), (5, .int y), (6, .int 6)] [] (xfill F' v' 0 wH0) (0, 0) := by
    intro x y F' v' E
    refine xWP_go 200 [(75, [0, 1, 2, 3, 4, 5, 6])] fun P hP => ?_
    refine br_c (fun z => absurd z (by decide)) (fun _ => ?_)
    refine ⟨by decide, ?_⟩
    refine br_n (fun _ => ?_) (fun _ => ?_)
    · refine hP _ _ _ _ _ ?_
      exact k5 x y F' v' E
    refine ⟨by decide, ?_⟩
    refine br_n (fun _ => ?_) (fun _ => ?_)
    · refine hP _ _ _ _ _ ?_
      exact k5 x y F' v' E
    refine ⟨by decide, ?_⟩
    exact h.r S E rfl
  refine xM_go rfl 200 [(75, [0, 1, 2, 3, 4, 5, 6])] fun P hP => ?_
  refine xcall (sp_isChild F v _ (fun a1 => ?_) (fun a1 => ?_))
  · refine br_c (fun _ => ?_) (fun z => absurd rfl z)
    refine xcall (sp_errH F v 1 (by decide) ?_)
    exact h.err S _ rfl
  refine br_c (fun z => absurd z (by decide)) (fun _ => ?_)
  refine xcall (sp_isSteps _ (fun a2 => ?_) (fun a2 => ?_))
  · refine br_c (fun _ => ?_) (fun z => absurd rfl z)
    refine xcall (sp_errH F v 1 (by decide) ?_)
    exact h.err S _ rfl
  refine br_c (fun z => absurd z (by decide)) (fun _ => ?_)
  refine xcall (sp_isBelow _ _ (fun a3 => ?_) (fun a3 => ?_))
  · refine br_n (fun z => absurd rfl z) (fun _ => ?_)
    refine xcall (sp_errH F v 1 (by decide) ?_)
    exact h.err S _ rfl
  refine br_n (fun _ => ?_) (fun z => absurd z (by decide))
  refine br_n (fun _ => ?_) (fun _ => ?_)
  · refine xcall (sw_marksThatHave (fun k => F (1 + k)) (fun k => v (1 + k)) (tI.o I S) c s (fun r G w E2 => ?_))
    refine br_n (fun _ => ?_) (fun _ => ?_)
    · refine hP _ _ _ _ _ ?_
      exact k6 _ _ (upS 1 F G) (upS 1 v w) (hR.e1 E2)
    · refine hP _ _ _ _ _ ?_
      exact k6 _ _ (upS 1 F G) (upS 1 v w) (hR.e1 E2)
  · refine br_n (fun _ => ?_) (fun _ => ?_)
    · refine hP _ _ _ _ _ ?_
      exact k6 _ _ F v tR.rf
    · refine hP _ _ _ _ _ ?_
      exact k6 _ _ F v tR.rf
set_option maxRecDepth 100000 in
theorem hs_series (n : Nat) (F v : xS) (I : aIv n (hA F v)) (S : hS v) (s u w : Int32) {K : xKo} (h : hTw F v (fun s => s) K) : C_H_series [.ref 0, .int s, .int u, .int w] (xfill F v 0 wH0) K := by
  obtain ⟨n0, h0, e0⟩ := S.1.1
  obtain ⟨n1, h1, e1⟩ := S.1.2
  refine xM_go rfl 200 [(68, [0, 1, 2, 3, 4, 5, 6])] fun P hP => ?_
  refine xcall (sp_isBelow _ _ (fun a1 => ?_) (fun a1 => ?_))
  · refine br_c (fun _ => ?_) (fun z => absurd rfl z)
    refine xcall (sp_errH F v 1 (by decide) ?_)
    exact h.err S _ rfl
  refine br_c (fun z => absurd z (by decide)) (fun _ => ?_)
  refine xcall (sp_isSteps _ (fun a2 => ?_) (fun a2 => ?_))
  · refine br_c (fun _ => ?_) (fun z => absurd rfl z)
    refine xcall (sp_errH F v 1 (by decide) ?_)
    exact h.err S _ rfl
  refine br_c (fun z => absurd z (by decide)) (fun _ => ?_)
  refine xcall (sp_isBelow _ _ (fun a3 => ?_) (fun a3 => ?_))
  · refine br_n (fun z => absurd rfl z) (fun _ => ?_)
    refine xcall (sp_errH F v 1 (by decide) ?_)
    exact h.err S _ rfl
  refine br_n (fun _ => ?_) (fun z => absurd z (by decide))
  refine ⟨vin a1, ⟨fun es0 => ?_, ⟨fun es0 => ?_, ⟨fun es0 => ?_, ⟨fun es0 => ?_, trivial⟩⟩⟩⟩⟩
  · have b4 : below 40 (v 61 1) := I.2.1.2.1.1
    obtain ⟨nn, hnn, enn⟩ := b4
    have key : ∀ (d i : Nat) (p : Int32) (F' v' : xS), i + d = nn → hR F v F' v' → thI v' → xWP pg_H_series K 68 [(0, .ref 0), (1, .int s), (2, .int u), (3, .int w), (4, .ref 61), (5, .int p), (6, .int (nI i))] [] (xfill F' v' 0 wH0) (0, 0) := by
      intro d
      induction d with
      | zero =>
        intro i p F' v' hi E T
        have e : v' 61 1 = nI nn := (E.2 61 1 rfl).trans enn
        refine xWP_go 200 [(68, [0, 1, 2, 3, 4, 5, 6])] fun P hP => ?_
        refine br_c (fun _ => ?_) (fun z => ?_)
        · refine br_n (fun _ => ?_) (fun _ => ?_)
          · exact h.r S E rfl
          · exact h.r S E rfl
        · have z : ¬ v' 61 1 ≤ nI i := z
          rw [e, nI_leI (by omega) (by omega)] at z
          omega
      | succ d ih =>
        intro i p F' v' hi E T
        have e : v' 61 1 = nI nn := (E.2 61 1 rfl).trans enn
        refine xWP_go 200 [(68, [0, 1, 2, 3, 4, 5, 6])] fun P hP => ?_
        refine br_c (fun z => ?_) (fun _ => ?_)
        · have z : v' 61 1 ≤ nI i := z
          rw [e, nI_leI (by omega) (by omega)] at z
          omega
        refine ⟨vp_in_nI (by omega) (by omega), ?_⟩
        refine br_c (fun _ => ?_) (fun _ => ?_)
        all_goals
          refine xcall (sw_play (fun k => F' (37 + k)) (fun k => v' (37 + k)) T _ u (fun r G w E2 _ => ?_))
          have T3 : thI (upS 37 v' w) := thI.up T E2
          refine xcall (sw_bitCount _ (fun bc => ?_))
          refine hP _ _ _ _ _ ?_
          rw [nI_1]
          exact ih (i + 1) _ (upS 37 F' G) (upS 37 v' w) (by omega) (E.tr hR.up37) T3
    refine xcall (sp_isMissing (fun k => F (61 + k)) (fun k => v (61 + k)) (fun m0 => ?_) (fun m0 => ?_))
    · refine br_c (fun _ => ?_) (fun z => absurd rfl z)
      refine xcall (sp_copy (thF F) (thF v) n0 n1 h0 h1 e0 e1 ?_)
      refine hP _ _ _ _ _ ?_
      exact key nn 0 _ (upS 37 F (cpF (thF F) n0 n1)) (upS 37 v (cpV (thF v) n0 n1)) (by omega) hR.up37 ⟨⟨I.1.1.1, I.1.1.2.1⟩, ⟨n0, h0, rfl⟩, ⟨n1, h1, rfl⟩⟩
    · refine br_c (fun z => absurd z (by decide)) (fun _ => ?_)
      refine xcall (sp_errH F v 2 (by decide) ?_)
      exact h.err S _ rfl
  · have b4 : below 40 (v 63 1) := I.2.1.2.1.2.1
    obtain ⟨nn, hnn, enn⟩ := b4
    have key : ∀ (d i : Nat) (p : Int32) (F' v' : xS), i + d = nn → hR F v F' v' → thI v' → xWP pg_H_series K 68 [(0, .ref 0), (1, .int s), (2, .int u), (3, .int w), (4, .ref 63), (5, .int p), (6, .int (nI i))] [] (xfill F' v' 0 wH0) (0, 0) := by
      intro d
      induction d with
      | zero =>
        intro i p F' v' hi E T
        have e : v' 63 1 = nI nn := (E.2 63 1 rfl).trans enn
        refine xWP_go 200 [(68, [0, 1, 2, 3, 4, 5, 6])] fun P hP => ?_
        refine br_c (fun _ => ?_) (fun z => ?_)
        · refine br_n (fun _ => ?_) (fun _ => ?_)
          · exact h.r S E rfl
          · exact h.r S E rfl
        · have z : ¬ v' 63 1 ≤ nI i := z
          rw [e, nI_leI (by omega) (by omega)] at z
          omega
      | succ d ih =>
        intro i p F' v' hi E T
        have e : v' 63 1 = nI nn := (E.2 63 1 rfl).trans enn
        refine xWP_go 200 [(68, [0, 1, 2, 3, 4, 5, 6])] fun P hP => ?_
        refine br_c (fun z => ?_) (fun _ => ?_)
        · have z : v' 63 1 ≤ nI i := z
          rw [e, nI_leI (by omega) (by omega)] at z
          omega
        refine ⟨vp_in_nI (by omega) (by omega), ?_⟩
        refine br_c (fun _ => ?_) (fun _ => ?_)
        all_goals
          refine xcall (sw_play (fun k => F' (37 + k)) (fun k => v' (37 + k)) T _ u (fun r G w E2 _ => ?_))
          have T3 : thI (upS 37 v' w) := thI.up T E2
          refine xcall (sw_bitCount _ (fun bc => ?_))
          refine hP _ _ _ _ _ ?_
          rw [nI_1]
          exact ih (i + 1) _ (upS 37 F' G) (upS 37 v' w) (by omega) (E.tr hR.up37) T3
    refine xcall (sp_isMissing (fun k => F (63 + k)) (fun k => v (63 + k)) (fun m0 => ?_) (fun m0 => ?_))
    · refine br_c (fun _ => ?_) (fun z => absurd rfl z)
      refine xcall (sp_copy (thF F) (thF v) n0 n1 h0 h1 e0 e1 ?_)
      refine hP _ _ _ _ _ ?_
      exact key nn 0 _ (upS 37 F (cpF (thF F) n0 n1)) (upS 37 v (cpV (thF v) n0 n1)) (by omega) hR.up37 ⟨⟨I.1.1.1, I.1.1.2.1⟩, ⟨n0, h0, rfl⟩, ⟨n1, h1, rfl⟩⟩
    · refine br_c (fun z => absurd z (by decide)) (fun _ => ?_)
      refine xcall (sp_errH F v 2 (by decide) ?_)
      exact h.err S _ rfl
  · have b4 : below 40 (v 65 1) := I.2.1.2.1.2.2.1
    obtain ⟨nn, hnn, enn⟩ := b4
    have key : ∀ (d i : Nat) (p : Int32) (F' v' : xS), i + d = nn → hR F v F' v' → thI v' → xWP pg_H_series K 68 [(0, .ref 0), (1, .int s), (2, .int u), (3, .int w), (4, .ref 65), (5, .int p), (6, .int (nI i))] [] (xfill F' v' 0 wH0) (0, 0) := by
      intro d
      induction d with
      | zero =>
        intro i p F' v' hi E T
        have e : v' 65 1 = nI nn := (E.2 65 1 rfl).trans enn
        refine xWP_go 200 [(68, [0, 1, 2, 3, 4, 5, 6])] fun P hP => ?_
        refine br_c (fun _ => ?_) (fun z => ?_)
        · refine br_n (fun _ => ?_) (fun _ => ?_)
          · exact h.r S E rfl
          · exact h.r S E rfl
        · have z : ¬ v' 65 1 ≤ nI i := z
          rw [e, nI_leI (by omega) (by omega)] at z
          omega
      | succ d ih =>
        intro i p F' v' hi E T
        have e : v' 65 1 = nI nn := (E.2 65 1 rfl).trans enn
        refine xWP_go 200 [(68, [0, 1, 2, 3, 4, 5, 6])] fun P hP => ?_
        refine br_c (fun z => ?_) (fun _ => ?_)
        · have z : v' 65 1 ≤ nI i := z
          rw [e, nI_leI (by omega) (by omega)] at z
          omega
        refine ⟨vp_in_nI (by omega) (by omega), ?_⟩
        refine br_c (fun _ => ?_) (fun _ => ?_)
        all_goals
          refine xcall (sw_play (fun k => F' (37 + k)) (fun k => v' (37 + k)) T _ u (fun r G w E2 _ => ?_))
          have T3 : thI (upS 37 v' w) := thI.up T E2
          refine xcall (sw_bitCount _ (fun bc => ?_))
          refine hP _ _ _ _ _ ?_
          rw [nI_1]
          exact ih (i + 1) _ (upS 37 F' G) (upS 37 v' w) (by omega) (E.tr hR.up37) T3
    refine xcall (sp_isMissing (fun k => F (65 + k)) (fun k => v (65 + k)) (fun m0 => ?_) (fun m0 => ?_))
    · refine br_c (fun _ => ?_) (fun z => absurd rfl z)
      refine xcall (sp_copy (thF F) (thF v) n0 n1 h0 h1 e0 e1 ?_)
      refine hP _ _ _ _ _ ?_
      exact key nn 0 _ (upS 37 F (cpF (thF F) n0 n1)) (upS 37 v (cpV (thF v) n0 n1)) (by omega) hR.up37 ⟨⟨I.1.1.1, I.1.1.2.1⟩, ⟨n0, h0, rfl⟩, ⟨n1, h1, rfl⟩⟩
    · refine br_c (fun z => absurd z (by decide)) (fun _ => ?_)
      refine xcall (sp_errH F v 2 (by decide) ?_)
      exact h.err S _ rfl
  · have b4 : below 40 (v 67 1) := I.2.1.2.1.2.2.2
    obtain ⟨nn, hnn, enn⟩ := b4
    have key : ∀ (d i : Nat) (p : Int32) (F' v' : xS), i + d = nn → hR F v F' v' → thI v' → xWP pg_H_series K 68 [(0, .ref 0), (1, .int s), (2, .int u), (3, .int w), (4, .ref 67), (5, .int p), (6, .int (nI i))] [] (xfill F' v' 0 wH0) (0, 0) := by
      intro d
      induction d with
      | zero =>
        intro i p F' v' hi E T
        have e : v' 67 1 = nI nn := (E.2 67 1 rfl).trans enn
        refine xWP_go 200 [(68, [0, 1, 2, 3, 4, 5, 6])] fun P hP => ?_
        refine br_c (fun _ => ?_) (fun z => ?_)
        · refine br_n (fun _ => ?_) (fun _ => ?_)
          · exact h.r S E rfl
          · exact h.r S E rfl
        · have z : ¬ v' 67 1 ≤ nI i := z
          rw [e, nI_leI (by omega) (by omega)] at z
          omega
      | succ d ih =>
        intro i p F' v' hi E T
        have e : v' 67 1 = nI nn := (E.2 67 1 rfl).trans enn
        refine xWP_go 200 [(68, [0, 1, 2, 3, 4, 5, 6])] fun P hP => ?_
        refine br_c (fun z => ?_) (fun _ => ?_)
        · have z : v' 67 1 ≤ nI i := z
          rw [e, nI_leI (by omega) (by omega)] at z
          omega
        refine ⟨vp_in_nI (by omega) (by omega), ?_⟩
        refine br_c (fun _ => ?_) (fun _ => ?_)
        all_goals
          refine xcall (sw_play (fun k => F' (37 + k)) (fun k => v' (37 + k)) T _ u (fun r G w E2 _ => ?_))
          have T3 : thI (upS 37 v' w) := thI.up T E2
          refine xcall (sw_bitCount _ (fun bc => ?_))
          refine hP _ _ _ _ _ ?_
          rw [nI_1]
          exact ih (i + 1) _ (upS 37 F' G) (upS 37 v' w) (by omega) (E.tr hR.up37) T3
    refine xcall (sp_isMissing (fun k => F (67 + k)) (fun k => v (67 + k)) (fun m0 => ?_) (fun m0 => ?_))
    · refine br_c (fun _ => ?_) (fun z => absurd rfl z)
      refine xcall (sp_copy (thF F) (thF v) n0 n1 h0 h1 e0 e1 ?_)
      refine hP _ _ _ _ _ ?_
      exact key nn 0 _ (upS 37 F (cpF (thF F) n0 n1)) (upS 37 v (cpV (thF v) n0 n1)) (by omega) hR.up37 ⟨⟨I.1.1.1, I.1.1.2.1⟩, ⟨n0, h0, rfl⟩, ⟨n1, h1, rfl⟩⟩
    · refine br_c (fun z => absurd z (by decide)) (fun _ => ?_)
      refine xcall (sp_errH F v 2 (by decide) ?_)
      exact h.err S _ rfl
