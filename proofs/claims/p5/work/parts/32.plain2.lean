/-! ===== the tried side: children, texts fed, waiting, images ===== -/
theorem xin_nat {N : Nat} {i x : Int32} (hx : below N x) (hN : N < 2 ^ 31) (h : xin i x.toInt) : nat i < nat x := by
  obtain ⟨k, hk, rfl⟩ := hx
  rw [nI_toInt (by omega)] at h
  obtain ⟨j, hj, -, e⟩ := nI_ofx i h (by omega)
  rw [e, show nat (nI k) = k from nI_clamp (by omega)]
  omega
theorem vin_below {N n : Nat} {x : Int32} (hx : below N x) (hN : N < n) (hn : n < 2 ^ 31) : vp_in x n := by
  obtain ⟨k, hk, rfl⟩ := hx
  exact vp_in_nI (by omega) hn
def g_child (m c : Int32) (s : xA) : xA := if (xin m 70 ∧ xin c 12) ∧ nat (s.1 6 1) < 7 then (va_up (va_up (va_up s.1 2 (upd (s.1 2) (nat (s.1 6 1)) (m / 10))) 3 (upd (s.1 3) (nat (s.1 6 1)) (m - m / 10 * 10))) 6 (upd (s.1 6) 1 (s.1 6 1 + 1)), s.2) else s
def f_child (m c : Int32) (s : xA) : Int32 := if xin m 70 ∧ xin c 12 then (if nat (s.1 6 1) < 7 then s.1 6 1 else -1000000004) else -1000000001
def g_become (c m : Int32) (s : xA) : xA := if xin c (s.1 6 1).toInt ∧ xin m 70 then (va_up (va_up s.1 2 (upd (s.1 2) (nat c) (m / 10))) 3 (upd (s.1 3) (nat c) (m - m / 10 * 10)), s.2) else s
def f_become (c m : Int32) (s : xA) : Int32 := if xin c (s.1 6 1).toInt ∧ xin m 70 then s.1 2 (nat c) else -1000000001
def asOk (q k : Int32) : Prop := ((xIS (nat q)) >>> (k &&& 31)) &&& 1 = 1
def f_as (c k : Int32) (s : xA) : Int32 := if xin c (s.1 6 1).toInt ∧ xin k 7 then (if ((xIS (nat (s.1 2 (nat c)))) >>> (k &&& 31)) &&& 1 = 1 then s.1 3 (nat c) else -1000000005) else -1000000001
set_option maxRecDepth 100000 in
theorem sp_addChild (F v : xS) (m c : Int32) (k : Nat) (hk : k < 7) (e : v 0 8 = nI k) {K : xKo} (h : K (some (.int (v 0 8))) (xfill (va_up (va_up (va_up F 3 (upd (F 3) (nat (v 0 8)) (m / 10))) 4 (upd (F 4) (nat (v 0 8)) (m - m / 10 * 10))) 5 (upd (F 5) (nat (v 0 8)) c)) (va_up v 0 (va_up (v 0) 8 (v 0 8 + 1))) 0 (wT0 0))) : C_T_addChild [.ref 0, .int m, .int c] (xfill F v 0 (wT0 0)) K := by
  have b : vp_in (v 0 8) 7 := by rw [e]; exact vp_in_nI hk (by omega)
  refine xM_go rfl 60 [] fun P hP => ?_
  refine ⟨by decide, ?_⟩
  refine ⟨b, ?_⟩
  refine ⟨by decide, ?_⟩
  refine ⟨b, ?_⟩
  refine ⟨b, ?_⟩
  have e2 : v 0 8 + 1 - 1 = v 0 8 := by rw [e, nI_1, nI_pred]
  have h2 : K (some (.int (v 0 8 + 1 - 1))) (xfill (va_up (va_up (va_up F 3 (upd (F 3) (nat (v 0 8)) (m / 10))) 4 (upd (F 4) (nat (v 0 8)) (m - m / 10 * 10))) 5 (upd (F 5) (nat (v 0 8)) c)) (va_up v 0 (va_up (v 0) 8 (v 0 8 + 1))) 0 (wT0 0)) := by
    rw [e2]
    exact h
  exact h2
set_option maxRecDepth 100000 in
theorem hs_child (n : Nat) (F v : xS) (I : aIv n (hA F v)) (S : hS v) (m c : Int32) {K : xKo} (h : hTo F v (g_child m c) (f_child m c) K) : C_H_child [.ref 0, .int m, .int c] (xfill F v 0 wH0) K := by
  refine xM_go rfl 100 [] fun P hP => ?_
  refine xcall (sp_isBelow _ _ (fun a1 => ?_) (fun a1 => ?_))
  · refine br_c (fun _ => ?_) (fun z => absurd rfl z)
    refine xcall (sp_errH F v 1 (by decide) ?_)
    exact h.err S _ (if_neg fun z => a1 z.1.1) (if_neg fun z => a1 z.1)
  refine br_c (fun z => absurd z (by decide)) (fun _ => ?_)
  refine xcall (sp_isBelow _ _ (fun a2 => ?_) (fun a2 => ?_))
  · refine br_n (fun z => absurd rfl z) (fun _ => ?_)
    refine xcall (sp_errH F v 1 (by decide) ?_)
    exact h.err S _ (if_neg fun z => a2 z.1.2) (if_neg fun z => a2 z.2)
  refine br_n (fun _ => ?_) (fun z => absurd z (by decide))
  have b5 : below 7 (v 1 8) := I.1.1.2.1
  obtain ⟨k, hk, e⟩ := id b5
  refine br_c (fun a3 => ?_) (fun a3 => ?_)
  · have a4 : nat (v 1 8) < 7 := (natlt (n := 7) b5 (by omega) (by omega)).mp a3
    refine xcall (sp_addChild (fun k => F (1 + k)) (fun k => v (1 + k)) m c k (by rw [show nat (v 1 8) = k by rw [e]; exact nI_clamp (by omega)] at a4; exact a4) e ?_)
    refine h.ok (F' := va_up (va_up (va_up F 4 (upd (F 4) (nat (v 1 8)) (m / 10))) 5 (upd (F 5) (nat (v 1 8)) (m - m / 10 * 10))) 6 (upd (F 6) (nat (v 1 8)) c)) (v' := va_up v 1 (va_up (v 1) 8 (v 1 8 + 1))) S ?_ ((if_pos ⟨a1, a2⟩).trans (if_pos a4))
    rw [show g_child m c (hA F v) = _ from if_pos ⟨⟨a1, a2⟩, a4⟩]
    exact ⟨⟨⟨rfl, rfl, rfl, rfl, rfl, rfl⟩, fun _ _ => ⟨rfl, rfl⟩, fun _ _ => ⟨rfl, rfl⟩, fun _ _ => rfl, fun _ _ => rfl⟩, ⟨⟨fun _ _ => rfl, fun _ _ => rfl, fun _ _ => rfl, fun _ _ => rfl⟩, ⟨⟨rfl, rfl, rfl, rfl⟩, rfl, rfl, rfl, rfl⟩, ⟨rfl, rfl⟩, fun _ _ => rfl⟩, fun _ => ⟨⟨rfl, rfl, rfl, rfl, rfl, rfl⟩, fun _ _ => ⟨rfl, rfl⟩, fun _ _ => ⟨rfl, rfl⟩, fun _ _ => rfl, fun _ _ => rfl⟩⟩
  · have a4 : ¬ nat (v 1 8) < 7 := fun z => a3 ((natlt (n := 7) b5 (by omega) (by omega)).mpr z)
    refine xcall (sp_errH F v 4 (by decide) ?_)
    exact h.err S _ (if_neg fun z => a4 z.2) ((if_pos ⟨a1, a2⟩).trans (if_neg a4))
set_option maxRecDepth 100000 in
theorem hs_become (n : Nat) (F v : xS) (I : aIv n (hA F v)) (S : hS v) (c m : Int32) {K : xKo} (h : hTo F v (g_become c m) (f_become c m) K) : C_H_become [.ref 0, .int c, .int m] (xfill F v 0 wH0) K := by
  refine xM_go rfl 100 [] fun P hP => ?_
  refine xcall (sp_isChild F v _ (fun a1 => ?_) (fun a1 => ?_))
  · refine br_c (fun _ => ?_) (fun z => absurd rfl z)
    refine xcall (sp_errH F v 1 (by decide) ?_)
    exact h.err S _ (if_neg fun z => a1 z.1) (if_neg fun z => a1 z.1)
  refine br_c (fun z => absurd z (by decide)) (fun _ => ?_)
  refine xcall (sp_isBelow _ _ (fun a2 => ?_) (fun a2 => ?_))
  · refine br_n (fun z => absurd rfl z) (fun _ => ?_)
    refine xcall (sp_errH F v 1 (by decide) ?_)
    exact h.err S _ (if_neg fun z => a2 z.2) (if_neg fun z => a2 z.2)
  refine br_n (fun _ => ?_) (fun z => absurd z (by decide))
  have b : vp_in c 7 := vinB I.1.1.2.1 a1 (Nat.le_refl _) (by omega)
  refine ⟨by decide, ?_⟩
  refine ⟨b, ?_⟩
  refine ⟨by decide, ?_⟩
  refine xcall (sp_replace (F 4) 7 c (m / 10) b ?_)
  refine h.ok (F' := va_up (va_up F 4 (upd (F 4) (nat c) (m / 10))) 5 (upd (F 5) (nat c) (m - m / 10 * 10))) (v' := v) S ?_ (if_pos ⟨a1, a2⟩)
  rw [show g_become c m (hA F v) = _ from if_pos ⟨a1, a2⟩]
  exact ⟨⟨⟨rfl, rfl, rfl, rfl, rfl, rfl⟩, fun _ _ => ⟨rfl, rfl⟩, fun _ _ => ⟨rfl, rfl⟩, fun _ _ => rfl, fun _ _ => rfl⟩, ⟨⟨fun _ _ => rfl, fun _ _ => rfl, fun _ _ => rfl, fun _ _ => rfl⟩, ⟨⟨rfl, rfl, rfl, rfl⟩, rfl, rfl, rfl, rfl⟩, ⟨rfl, rfl⟩, fun _ _ => rfl⟩, fun _ => ⟨⟨rfl, rfl, rfl, rfl, rfl, rfl⟩, fun _ _ => ⟨rfl, rfl⟩, fun _ _ => ⟨rfl, rfl⟩, fun _ _ => rfl, fun _ _ => rfl⟩⟩
set_option maxRecDepth 100000 in
theorem hs_as (n : Nat) (F v : xS) (I : aIv n (hA F v)) (S : hS v) (c k : Int32) {K : xKo} (h : hTo F v (fun s => s) (f_as c k) K) : C_H_as [.ref 0, .int c, .int k] (xfill F v 0 wH0) K := by
  refine xM_go rfl 100 [] fun P hP => ?_
  refine xcall (sp_isChild F v _ (fun a1 => ?_) (fun a1 => ?_))
  · refine br_c (fun _ => ?_) (fun z => absurd rfl z)
    refine xcall (sp_errH F v 1 (by decide) ?_)
    exact h.err S _ rfl (if_neg fun z => a1 z.1)
  refine br_c (fun z => absurd z (by decide)) (fun _ => ?_)
  refine xcall (sp_isBelow _ _ (fun a2 => ?_) (fun a2 => ?_))
  · refine br_n (fun z => absurd rfl z) (fun _ => ?_)
    refine xcall (sp_errH F v 1 (by decide) ?_)
    exact h.err S _ rfl (if_neg fun z => a2 z.2)
  refine br_n (fun _ => ?_) (fun z => absurd z (by decide))
  have b : vp_in c 7 := vinB I.1.1.2.1 a1 (Nat.le_refl _) (by omega)
  have hc : nat c < nat (v 1 8) := xin_nat I.1.1.2.1 (by omega) a1
  have b6 : below 6 (F 4 (nat c)) := I.1.2 (nat c) hc
  refine ⟨b, ?_⟩
  refine ⟨rfl, vin_below b6 (by omega) (by omega), ?_⟩
  refine xcall (sp_isIn _ _ (fun a3 => ?_) (fun a3 => ?_))
  · refine br_n (fun z => absurd rfl z) (fun _ => ?_)
    refine xcall (sp_errH F v 5 (by decide) ?_)
    exact h.err S _ rfl ((if_pos ⟨a1, a2⟩).trans (if_neg a3))
  · refine br_n (fun _ => ?_) (fun z => absurd z (by decide))
    refine ⟨b, ?_⟩
    exact h.id S rfl ((if_pos ⟨a1, a2⟩).trans (if_pos a3))
def g_check (s : xA) : xA := (va_up s.1 6 (upd (s.1 6) 5 0), s.2)
def g_image (s : xA) : xA := (s.1, s.1, va_up s.2.2 6 (upd (s.2.2 6) 0 (s.2.2 6 0 + 1)))
def f_image (s : xA) : Int32 := s.2.2 6 0 + 1
def g_restore (s : xA) : xA := if s.2.2 6 0 = 0 then s else (s.2.1, s.2.1, s.2.2)
def f_restore (s : xA) : Int32 := if s.2.2 6 0 = 0 then -1000000002 else s.2.1 6 2
set_option maxRecDepth 100000 in
theorem hs_check (n : Nat) (F v : xS) (I : aIv n (hA F v)) (S : hS v) {K : xKo} (h : hTw F v g_check K) : C_H_check [.ref 0] (xfill F v 0 wH0) K := by
  obtain ⟨k, hk, e⟩ : below 20 (v 1 16) := I.1.1.2.2.2.2
  have fin : ∀ r, K (some (.int r)) (xfill F (va_up v 1 (va_up (v 1) 16 0)) 0 wH0) := fun r => h r F (va_up v 1 (va_up (v 1) 16 0)) S ⟨⟨⟨rfl, rfl, rfl, rfl, rfl, rfl⟩, fun _ _ => ⟨rfl, rfl⟩, fun _ _ => ⟨rfl, rfl⟩, fun _ _ => rfl, fun _ _ => rfl⟩, ⟨⟨fun _ _ => rfl, fun _ _ => rfl, fun _ _ => rfl, fun _ _ => rfl⟩, ⟨⟨rfl, rfl, rfl, rfl⟩, rfl, rfl, rfl, rfl⟩, ⟨rfl, rfl⟩, fun _ _ => rfl⟩, fun _ => ⟨⟨rfl, rfl, rfl, rfl, rfl, rfl⟩, fun _ _ => ⟨rfl, rfl⟩, fun _ _ => ⟨rfl, rfl⟩, fun _ _ => rfl, fun _ _ => rfl⟩⟩
  have key : ∀ (d i : Nat), i + d = k → xWP pg_H_check K 18 [(0, .ref 0), (1, .int (nI k)), (2, .int (nI i))] [] (xfill F (va_up v 1 (va_up (v 1) 16 0)) 0 wH0) (0, 0) := by
    intro d
    induction d with
    | zero =>
      intro i hi
      have hi : i = k := hi
      subst hi
      refine xWP_go 100 [(18, [0, 1, 2])] fun P hP => ?_
      refine br_c (fun _ => ?_) (fun a => absurd (nI_le (Nat.le_refl _) (by omega)) a)
      exact fin 0
    | succ d ih =>
      intro i hi
      refine xWP_go 100 [(18, [0, 1, 2])] fun P hP => ?_
      refine br_c (fun a => absurd a (nI_ge (by omega) (by omega))) (fun _ => ?_)
      refine br_c (fun _ => ?_) (fun a => ?_)
      · exact fin _
      have hc : i < 7 := by
        obtain ⟨q, hq, eq⟩ : below 7 (v 1 8) := I.1.1.2.1
        have a : ¬ v 1 8 ≤ nI i := a
        rw [eq, nI_leI (by omega) (by omega)] at a
        omega
      refine ⟨vp_in_nI (by omega) (by omega), ?_⟩
      refine ⟨vp_in_nI (by omega) (by omega), ?_⟩
      refine br_c (fun _ => ?_) (fun _ => ?_)
      · refine hP _ _ _ _ _ ?_
        rw [nI_1]
        exact ih (i + 1) (by omega)
      · exact fin _
  refine xM_go rfl 100 [(18, [0, 1, 2])] fun P hP => ?_
  refine hP _ _ _ _ _ ?_
  have q := key k 0 (by omega)
  rw [← e] at q
  exact q
