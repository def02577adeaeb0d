/-! ===== the tried side: children, texts fed, waiting, images ===== -/
variable {Φ : hRw → Prop}
theorem xin_nat {N : Nat} {i x : Int32} (hx : below N x) (hN : N < 2 ^ 31) (h : xin i x.toInt) : nat i < nat x := by
  obtain ⟨k, hk, rfl⟩ := hx
  rw [nI_toInt (by omega)] at h
  obtain ⟨j, hj, -, e⟩ := nI_ofx i h (by omega)
  rw [e, show nat (nI k) = k from nI_clamp (by omega)]
  omega
theorem vin_below {N n : Nat} {x : Int32} (hx : below N x) (hN : N < n) (hn : n < 2 ^ 31) : vp_in x n := by
  obtain ⟨k, hk, rfl⟩ := hx
  exact vp_in_nI (by omega) hn
def g_child (m c : Int32) (s : xA) : xA := if (xin m 70 ∧ xin c 12) ∧ nat (s.1 6 1) < 7 then (va_up (va_up (va_up s.1 2 (upd (s.1 2) (nat (s.1 6 1)) (m / 10))) 3 (upd (s.1 3) (nat (s.1 6 1)) (m - m / 10 * 10))) 6 (upd (s.1 6) 1 (s.1 6 1 + 1)), s.2) else s
def f_child (m c : Int32) (s : xA) : Int32 := if xin m 70 ∧ xin c 12 then (if nat (s.1 6 1) < 7 then s.1 6 1 else -1000000004) else -1000000001
def g_become (c m : Int32) (s : xA) : xA := if xin c (s.1 6 1).toInt ∧ xin m 70 then (va_up (va_up s.1 2 (upd (s.1 2) (nat c) (m / 10))) 3 (upd (s.1 3) (nat c) (m - m / 10 * 10)), s.2) else s
def f_become (c m : Int32) (s : xA) : Int32 := if xin c (s.1 6 1).toInt ∧ xin m 70 then s.1 2 (nat c) else -1000000001
def asOk (q k : Int32) : Prop := ((xIS (nat q)) >>> (k &&& 31)) &&& 1 = 1
def f_as (c k : Int32) (s : xA) : Int32 := if xin c (s.1 6 1).toInt ∧ xin k 7 then (if ((xIS (nat (s.1 2 (nat c)))) >>> (k &&& 31)) &&& 1 = 1 then s.1 3 (nat c) else -1000000005) else -1000000001
set_option maxRecDepth 100000 in
theorem sp_addChild (F v : xS) (m c : Int32) (k : Nat) (hk : k < 7) (e : v 0 8 = nI k) {K : xKo} (h : K (some (.int (v 0 8))) (xfill (va_up (va_up (va_up F 3 (upd (F 3) (nat (v 0 8)) (m / 10))) 4 (upd (F 4) (nat (v 0 8)) (m - m / 10 * 10))) 5 (upd (F 5) (nat (v 0 8)) c)) (va_up v 0 (va_up (v 0) 8 (v 0 8 + 1))) 0 (wT0 0))) : C_T_addChild [.ref 0, .int m, .int c] (xfill F v 0 (wT0 0)) K := by
  have b : vp_in (v 0 8) 7 := by rw [e]; exact vp_in_nI hk (by omega)
  refine xM_go rfl 60 [] fun P hP => ?_
  refine ⟨by decide, ?_⟩
  refine ⟨b, ?_⟩
  refine ⟨by decide, ?_⟩
  refine ⟨b, ?_⟩
  refine ⟨b, ?_⟩
  have e2 : v 0 8 + 1 - 1 = v 0 8 := by rw [e, nI_1, nI_pred]
  have h2 : K (some (.int (v 0 8 + 1 - 1))) (xfill (va_up (va_up (va_up F 3 (upd (F 3) (nat (v 0 8)) (m / 10))) 4 (upd (F 4) (nat (v 0 8)) (m - m / 10 * 10))) 5 (upd (F 5) (nat (v 0 8)) c)) (va_up v 0 (va_up (v 0) 8 (v 0 8 + 1))) 0 (wT0 0)) := by
    rw [e2]
    exact h
  exact h2
set_option maxRecDepth 100000 in
theorem hs_become (n : Nat) (F v : xS) (I : aIv n (hA F v)) (S : hS Φ F v) (c m : Int32) {K : xKo} (h : hTo Φ F v (g_become c m) (f_become c m) K) : C_H_become [.ref 0, .int c, .int m] (xfill F v 0 wH0) K := by
  refine xM_go rfl 100 [] fun P hP => ?_
  refine xcall (sp_isChild F v _ (fun a1 => ?_) (fun a1 => ?_))
  · refine br_c (fun _ => ?_) (fun z => absurd rfl z)
    refine xcall (sp_errH F v 1 (by decide) ?_)
    exact h.err S _ (if_neg fun z => a1 z.1) (if_neg fun z => a1 z.1)
  refine br_c (fun z => absurd z (by decide)) (fun _ => ?_)
  refine xcall (sp_isBelow _ _ (fun a2 => ?_) (fun a2 => ?_))
  · refine br_n (fun z => absurd rfl z) (fun _ => ?_)
    refine xcall (sp_errH F v 1 (by decide) ?_)
    exact h.err S _ (if_neg fun z => a2 z.2) (if_neg fun z => a2 z.2)
  refine br_n (fun _ => ?_) (fun z => absurd z (by decide))
  have b : vp_in c 7 := vinB I.1.1.2.1 a1 (Nat.le_refl _) (by omega)
  refine ⟨by decide, ?_⟩
  refine ⟨b, ?_⟩
  refine ⟨by decide, ?_⟩
  refine xcall (sp_replace (F 4) 7 c (m / 10) b ?_)
  refine h.ok (F' := va_up (va_up F 4 (upd (F 4) (nat c) (m / 10))) 5 (upd (F 5) (nat c) (m - m / 10 * 10))) (v' := v) S ?_ (if_pos ⟨a1, a2⟩)
  rw [show g_become c m (hA F v) = _ from if_pos ⟨a1, a2⟩]
  exact ⟨⟨⟨rfl, rfl, rfl, rfl, rfl, rfl⟩, fun _ _ => ⟨rfl, rfl⟩, fun _ _ => ⟨rfl, rfl⟩, fun _ _ => rfl, fun _ _ => rfl⟩, ⟨⟨fun _ _ => rfl, fun _ _ => rfl, fun _ _ => rfl, fun _ _ => rfl⟩, ⟨⟨rfl, rfl, rfl, rfl⟩, rfl, rfl, rfl, rfl⟩, ⟨rfl, rfl⟩, fun _ _ => rfl⟩, fun _ => ⟨⟨rfl, rfl, rfl, rfl, rfl, rfl⟩, fun _ _ => ⟨rfl, rfl⟩, fun _ _ => ⟨rfl, rfl⟩, fun _ _ => rfl, fun _ _ => rfl⟩⟩
set_option maxRecDepth 100000 in
theorem hs_as (n : Nat) (F v : xS) (I : aIv n (hA F v)) (S : hS Φ F v) (c k : Int32) {K : xKo} (h : hTo Φ F v (fun s => s) (f_as c k) K) : C_H_as [.ref 0, .int c, .int k] (xfill F v 0 wH0) K := by
  refine xM_go rfl 100 [] fun P hP => ?_
  refine xcall (sp_isChild F v _ (fun a1 => ?_) (fun a1 => ?_))
  · refine br_c (fun _ => ?_) (fun z => absurd rfl z)
    refine xcall (sp_errH F v 1 (by decide) ?_)
    exact h.err S _ rfl (if_neg fun z => a1 z.1)
  refine br_c (fun z => absurd z (by decide)) (fun _ => ?_)
  refine xcall (sp_isBelow _ _ (fun a2 => ?_) (fun a2 => ?_))
  · refine br_n (fun z => absurd rfl z) (fun _ => ?_)
    refine xcall (sp_errH F v 1 (by decide) ?_)
    exact h.err S _ rfl (if_neg fun z => a2 z.2)
  refine br_n (fun _ => ?_) (fun z => absurd z (by decide))
  have b : vp_in c 7 := vinB I.1.1.2.1 a1 (Nat.le_refl _) (by omega)
  have hc : nat c < nat (v 1 8) := xin_nat I.1.1.2.1 (by omega) a1
  have b6 : below 6 (F 4 (nat c)) := I.1.2 (nat c) hc
  refine ⟨b, ?_⟩
  refine ⟨rfl, vin_below b6 (by omega) (by omega), ?_⟩
  refine xcall (sp_isIn _ _ (fun a3 => ?_) (fun a3 => ?_))
  · refine br_n (fun z => absurd rfl z) (fun _ => ?_)
    refine xcall (sp_errH F v 5 (by decide) ?_)
    exact h.err S _ rfl ((if_pos ⟨a1, a2⟩).trans (if_neg a3))
  · refine br_n (fun _ => ?_) (fun z => absurd z (by decide))
    refine ⟨b, ?_⟩
    exact h.id S rfl ((if_pos ⟨a1, a2⟩).trans (if_pos a3))
def g_check (s : xA) : xA := (va_up s.1 6 (upd (s.1 6) 5 0), s.2)
def g_image (s : xA) : xA := (s.1, s.1, va_up s.2.2 6 (upd (s.2.2 6) 0 (s.2.2 6 0 + 1)))
def f_image (s : xA) : Int32 := s.2.2 6 0 + 1
def g_restore (s : xA) : xA := if s.2.2 6 0 = 0 then s else (s.2.1, s.2.1, s.2.2)
def f_restore (s : xA) : Int32 := if s.2.2 6 0 = 0 then -1000000002 else s.2.1 6 2
