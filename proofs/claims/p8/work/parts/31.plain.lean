/-! ===== the tried side: plain methods on any state ===== -/
variable {Φ : hRw → Prop}
theorem hTo.err {F v : xS} {g : xA → xA} {f : xA → Int32} {K : xKo} {k : Int32} (h : hTo Φ F v g f K) (S : hS Φ F v) (x : Nat → Int32) (eg : g (hA F v) = hA F v) (ef : f (hA F v) = k) : K (some (.int k)) (xfill (va_up F 69 x) v 0 wH0) := by
  have q := h (va_up F 69 x) v S (by rw [eg]; exact ⟨⟨⟨rfl, rfl, rfl, rfl, rfl, rfl⟩, fun _ _ => ⟨rfl, rfl⟩, fun _ _ => ⟨rfl, rfl⟩, fun _ _ => rfl, fun _ _ => rfl⟩, ⟨⟨fun _ _ => rfl, fun _ _ => rfl, fun _ _ => rfl, fun _ _ => rfl⟩, ⟨⟨rfl, rfl, rfl, rfl⟩, rfl, rfl, rfl, rfl⟩, ⟨rfl, rfl⟩, fun _ _ => rfl⟩, fun _ => ⟨⟨rfl, rfl, rfl, rfl, rfl, rfl⟩, fun _ _ => ⟨rfl, rfl⟩, fun _ _ => ⟨rfl, rfl⟩, fun _ _ => rfl, fun _ _ => rfl⟩⟩)
  rw [ef] at q
  exact q
theorem hTo.id {F v : xS} {g : xA → xA} {f : xA → Int32} {K : xKo} {k : Int32} (h : hTo Φ F v g f K) (S : hS Φ F v) (eg : g (hA F v) = hA F v) (ef : f (hA F v) = k) : K (some (.int k)) (xfill F v 0 wH0) := by
  have q := h F v S (by rw [eg]; exact agr.rf)
  rw [ef] at q
  exact q
theorem hTo.ok {F v F' v' : xS} {g : xA → xA} {f : xA → Int32} {K : xKo} {k : Int32} (h : hTo Φ F v g f K) (S : hS Φ F' v') (ea : agr (hA F' v') (g (hA F v))) (ef : f (hA F v) = k) : K (some (.int k)) (xfill F' v' 0 wH0) := by
  have q := h F' v' S ea
  rw [ef] at q
  exact q
theorem hTw.err {F v : xS} {g : xA → xA} {K : xKo} {k : Int32} (h : hTw Φ F v g K) (S : hS Φ F v) (x : Nat → Int32) (eg : g (hA F v) = hA F v) : K (some (.int k)) (xfill (va_up F 69 x) v 0 wH0) := h k (va_up F 69 x) v S (by rw [eg]; exact ⟨⟨⟨rfl, rfl, rfl, rfl, rfl, rfl⟩, fun _ _ => ⟨rfl, rfl⟩, fun _ _ => ⟨rfl, rfl⟩, fun _ _ => rfl, fun _ _ => rfl⟩, ⟨⟨fun _ _ => rfl, fun _ _ => rfl, fun _ _ => rfl, fun _ _ => rfl⟩, ⟨⟨rfl, rfl, rfl, rfl⟩, rfl, rfl, rfl, rfl⟩, ⟨rfl, rfl⟩, fun _ _ => rfl⟩, fun _ => ⟨⟨rfl, rfl, rfl, rfl, rfl, rfl⟩, fun _ _ => ⟨rfl, rfl⟩, fun _ _ => ⟨rfl, rfl⟩, fun _ _ => rfl, fun _ _ => rfl⟩⟩)
theorem hTw.id {F v : xS} {g : xA → xA} {K : xKo} {k : Int32} (h : hTw Φ F v g K) (S : hS Φ F v) (eg : g (hA F v) = hA F v) : K (some (.int k)) (xfill F v 0 wH0) := h k F v S (by rw [eg]; exact agr.rf)
theorem nI_ofx (x : Int32) {n : Int} (h : xin x n) (hn : n ≤ 2147483647) : ∃ k : Nat, (k : Int) < n ∧ x = nI k ∧ nat x = k := by
  obtain ⟨j, hj, e⟩ := nI_of2 (x := x) (M := x) (n := x.toInt.toNat) (by simp only [xin] at h; omega) (by simp only [xin] at h; simp only [xlt, Int32.reduceToInt]; omega) (by rw [xle]; omega)
  have hk : j < 2 ^ 31 := by simp only [xin] at h; omega
  refine ⟨j, ?_, e, ?_⟩
  · have q := congrArg Int32.toInt e
    rw [nI_toInt hk] at q
    simp only [xin] at h
    omega
  · rw [e]; exact nI_clamp hk
set_option maxRecDepth 100000 in
theorem sp_addThing (F v : xS) (c m : Int32) (k : Nat) (hk : k < 8) (e : v 0 2 = nI k) {K : xKo} (h : K (some (.int (v 0 2))) (xfill (va_up (va_up F 1 (upd (F 1) (nat (v 0 2)) c)) 2 (upd (F 2) (nat (v 0 2)) m)) (va_up v 0 (va_up (v 0) 2 (v 0 2 + 1))) 0 (wT0 0))) : C_T_addThing [.ref 0, .int c, .int m] (xfill F v 0 (wT0 0)) K := by
  refine xM_go rfl 40 [] fun P hP => ?_
  refine ⟨by show vp_in (v 0 2) 8; rw [e]; exact vp_in_nI hk (by omega), ?_⟩
  refine ⟨by show vp_in (v 0 2) 8; rw [e]; exact vp_in_nI hk (by omega), ?_⟩
  have e2 : v 0 2 + 1 - 1 = v 0 2 := by rw [e, nI_1, nI_pred]
  have h2 : K (some (.int (v 0 2 + 1 - 1))) (xfill (va_up (va_up F 1 (upd (F 1) (nat (v 0 2)) c)) 2 (upd (F 2) (nat (v 0 2)) m)) (va_up v 0 (va_up (v 0) 2 (v 0 2 + 1))) 0 (wT0 0)) := by
    rw [e2]
    exact h
  exact h2
def g_thing (a b : Int32) (s : xA) : xA := if (xin a 12 ∧ xin b 64) ∧ nat (s.1 6 0) < 8 then (va_up (va_up (va_up s.1 0 (upd (s.1 0) (nat (s.1 6 0)) a)) 1 (upd (s.1 1) (nat (s.1 6 0)) b)) 6 (upd (s.1 6) 0 (s.1 6 0 + 1)), s.2) else s
def f_thing (a b : Int32) (s : xA) : Int32 := if xin a 12 ∧ xin b 64 then (if nat (s.1 6 0) < 8 then s.1 6 0 else -1000000004) else -1000000001
set_option maxRecDepth 100000 in
theorem hs_thing (n : Nat) (F v : xS) (I : aIv n (hA F v)) (S : hS Φ F v) (a b : Int32) {K : xKo} (h : hTo Φ F v (g_thing a b) (f_thing a b) K) : C_H_thing [.ref 0, .int a, .int b] (xfill F v 0 wH0) K := by
  obtain ⟨k, hk, e⟩ : below 8 (v 1 2) := I.1.1.1
  have en : nat (v 1 2) = k := by rw [e]; exact nI_clamp (by omega)
  refine xM_go rfl 100 [] fun P hP => ?_
  refine xcall (sp_isBelow _ _ (fun a1 => ?_) (fun a1 => ?_))
  · refine br_c (fun _ => ?_) (fun z => absurd rfl z)
    refine xcall (sp_errH F v 1 (by decide) ?_)
    exact h.err S _ (if_neg fun z => a1 z.1.1) (if_neg fun z => a1 z.1)
  refine br_c (fun z => absurd z (by decide)) (fun _ => ?_)
  refine xcall (sp_isBelow _ _ (fun a2 => ?_) (fun a2 => ?_))
  · refine br_n (fun z => absurd rfl z) (fun _ => ?_)
    refine xcall (sp_errH F v 1 (by decide) ?_)
    exact h.err S _ (if_neg fun z => a2 z.1.2) (if_neg fun z => a2 z.2)
  refine br_n (fun _ => ?_) (fun z => absurd z (by decide))
  refine br_c (fun a3 => ?_) (fun a3 => ?_)
  · have hk8 : k < 8 := by
      have a3 : v 1 2 < 8 := a3
      rw [e] at a3
      exact (nI_ltI (a := k) (b := 8) (by omega) (by decide)).mp a3
    have en8 : nat (v 1 2) < 8 := by omega
    refine xcall (sp_addThing (fun k => F (1 + k)) (fun k => v (1 + k)) a b k hk8 e ?_)
    refine h.ok (F' := va_up (va_up F 2 (upd (F 2) (nat (v 1 2)) a)) 3 (upd (F 3) (nat (v 1 2)) b)) (v' := va_up v 1 (va_up (v 1) 2 (v 1 2 + 1))) S ?_ ?_
    · rw [show g_thing a b (hA F v) = _ from if_pos ⟨⟨a1, a2⟩, en8⟩]
      exact ⟨⟨⟨rfl, rfl, rfl, rfl, rfl, rfl⟩, fun _ _ => ⟨rfl, rfl⟩, fun _ _ => ⟨rfl, rfl⟩, fun _ _ => rfl, fun _ _ => rfl⟩, ⟨⟨fun _ _ => rfl, fun _ _ => rfl, fun _ _ => rfl, fun _ _ => rfl⟩, ⟨⟨rfl, rfl, rfl, rfl⟩, rfl, rfl, rfl, rfl⟩, ⟨rfl, rfl⟩, fun _ _ => rfl⟩, fun _ => ⟨⟨rfl, rfl, rfl, rfl, rfl, rfl⟩, fun _ _ => ⟨rfl, rfl⟩, fun _ _ => ⟨rfl, rfl⟩, fun _ _ => rfl, fun _ _ => rfl⟩⟩
    · exact (if_pos ⟨a1, a2⟩).trans (if_pos en8)
  · have hk8 : ¬ nat (v 1 2) < 8 := by
      intro z
      refine a3 ?_
      show v 1 2 < 8
      rw [e]
      exact (nI_ltI (a := k) (b := 8) (by omega) (by decide)).mpr (by omega)
    refine xcall (sp_errH F v 4 (by decide) ?_)
    exact h.err S _ (if_neg fun z => hk8 z.2) ((if_pos ⟨a1, a2⟩).trans (if_neg hk8))
theorem vinB {N n : Nat} {i x : Int32} (hx : below N x) (h : xin i x.toInt) (hN : N ≤ n) (hn : N < 2 ^ 31) : vp_in i n := by
  obtain ⟨k, hk, rfl⟩ := hx
  rw [nI_toInt (by omega)] at h
  exact vin ⟨h.1, by simp only [xin] at h; omega⟩
theorem vinN {N n : Nat} {x : Int32} (hx : below N x) (h : nat x < n) (hn : N < 2 ^ 31) : vp_in x n := by
  obtain ⟨k, hk, rfl⟩ := hx
  rw [show nat (nI k) = k from nI_clamp (by omega)] at h
  exact vin ⟨by rw [nI_toInt (by omega)]; omega, by rw [nI_toInt (by omega)]; omega⟩
theorem natlt {N n : Nat} {x : Int32} (hx : below N x) (hN : N < 2 ^ 31) (hn : n < 2 ^ 31) : x < nI n ↔ nat x < n := by
  obtain ⟨k, hk, rfl⟩ := hx
  rw [show nat (nI k) = k from nI_clamp (by omega)]
  exact nI_ltI (by omega) hn
theorem sp_isIn (m s : Int32) {K : xKo} (h0 : ¬ ((s >>> (m &&& 31)) &&& 1 = 1) → K (some (.int 0)) []) (h1 : (s >>> (m &&& 31)) &&& 1 = 1 → K (some (.int 1)) []) : C_H_isIn [.int m, .int s] [] K := by
  refine xM_go rfl 40 [] fun P hP => ?_
  refine br_n (fun a => ?_) (fun a => ?_)
  · exact ⟨Or.inl rfl, h0 a⟩
  · exact ⟨Or.inr rfl, h1 a⟩
theorem sp_replace (f : Nat → Int32) (n : Nat) (i x : Int32) (hi : vp_in i n) {K : xKo} (h : K (some (.int (f (nat i)))) [.inl (n, upd f (nat i) x)]) : C_H_replace [.ref 0, .int i, .int x] [.inl (n, f)] K := by
  refine xM_go rfl 40 [] fun P hP => ?_
  refine ⟨hi, ?_⟩
  refine ⟨hi, ?_⟩
  exact h
theorem sp_rowOfThings (F v : xS) (w : Int32) {K : xKo} (h0 : w = 0 → K (some (.ref 1)) (xfill F v 0 (wT0 0))) (h1 : ¬ w = 0 → K (some (.ref 2)) (xfill F v 0 (wT0 0))) : C_T_rowOfThings [.ref 0, .int w] (xfill F v 0 (wT0 0)) K := by
  refine xM_go rfl 40 [] fun P hP => ?_
  refine br_n (fun a => ?_) (fun a => ?_)
  · exact h1 a
  · exact h0 a
set_option maxRecDepth 100000 in
theorem sp_isChild (F v : xS) (c : Int32) {K : xKo} (h0 : ¬ xin c (v 1 8).toInt → K (some (.int 0)) (xfill F v 0 wH0)) (h1 : xin c (v 1 8).toInt → K (some (.int 1)) (xfill F v 0 wH0)) : C_H_isChild [.ref 0, .int c] (xfill F v 0 wH0) K := by
  refine xM_go rfl 40 [] fun P hP => ?_
  refine xcall (sp_isBelow _ _ (fun a => ?_) (fun a => ?_))
  · exact ⟨Or.inl rfl, h0 a⟩
  · exact ⟨Or.inr rfl, h1 a⟩
def f_ofThing (i w : Int32) (s : xA) : Int32 := if xin i (s.1 6 0).toInt ∧ xin w 2 then (if w = 0 then s.1 0 (nat i) else s.1 1 (nat i)) else -1000000001
def g_shift (i w x : Int32) (s : xA) : xA := if (xin i (s.1 6 0).toInt ∧ xin w 2) ∧ xin x (if w = 0 then 12 else 64) then (if w = 0 then (va_up s.1 0 (upd (s.1 0) (nat i) x), s.2) else (va_up s.1 1 (upd (s.1 1) (nat i) x), s.2)) else s
def f_shift (i w x : Int32) (s : xA) : Int32 := if (xin i (s.1 6 0).toInt ∧ xin w 2) ∧ xin x (if w = 0 then 12 else 64) then (if w = 0 then s.1 0 (nat i) else s.1 1 (nat i)) else -1000000001
set_option maxRecDepth 100000 in
theorem hs_ofThing (n : Nat) (F v : xS) (I : aIv n (hA F v)) (S : hS Φ F v) (i w : Int32) {K : xKo} (h : hTo Φ F v (fun s => s) (f_ofThing i w) K) : C_H_ofThing [.ref 0, .int i, .int w] (xfill F v 0 wH0) K := by
  refine xM_go rfl 100 [] fun P hP => ?_
  refine xcall (sp_isBelow _ _ (fun a1 => ?_) (fun a1 => ?_))
  · refine br_c (fun _ => ?_) (fun z => absurd rfl z)
    refine xcall (sp_errH F v 1 (by decide) ?_)
    exact h.err S _ rfl (if_neg fun z => a1 z.1)
  refine br_c (fun z => absurd z (by decide)) (fun _ => ?_)
  refine xcall (sp_isBelow _ _ (fun a2 => ?_) (fun a2 => ?_))
  · refine br_n (fun z => absurd rfl z) (fun _ => ?_)
    refine xcall (sp_errH F v 1 (by decide) ?_)
    exact h.err S _ rfl (if_neg fun z => a2 z.2)
  refine br_n (fun _ => ?_) (fun z => absurd z (by decide))
  refine xcall (sp_rowOfThings (fun k => F (1 + k)) (fun k => v (1 + k)) w (fun a3 => ?_) (fun a3 => ?_))
  · refine ⟨vinB I.1.1.1 a1 (Nat.le_refl _) (by omega), ?_⟩
    exact h.id S rfl ((if_pos ⟨a1, a2⟩).trans (if_pos a3))
  · refine ⟨vinB I.1.1.1 a1 (Nat.le_refl _) (by omega), ?_⟩
    exact h.id S rfl ((if_pos ⟨a1, a2⟩).trans (if_neg a3))
set_option maxRecDepth 100000 in
theorem hs_shift (n : Nat) (F v : xS) (I : aIv n (hA F v)) (S : hS Φ F v) (i w x : Int32) {K : xKo} (h : hTo Φ F v (g_shift i w x) (f_shift i w x) K) : C_H_shift [.ref 0, .int i, .int w, .int x] (xfill F v 0 wH0) K := by
  refine xM_go rfl 100 [] fun P hP => ?_
  refine xcall (sp_isBelow _ _ (fun a1 => ?_) (fun a1 => ?_))
  · refine br_c (fun _ => ?_) (fun z => absurd rfl z)
    refine xcall (sp_errH F v 1 (by decide) ?_)
    exact h.err S _ (if_neg fun z => a1 z.1.1) (if_neg fun z => a1 z.1.1)
  refine br_c (fun z => absurd z (by decide)) (fun _ => ?_)
  refine xcall (sp_isBelow _ _ (fun a2 => ?_) (fun a2 => ?_))
  · refine br_n (fun z => absurd rfl z) (fun _ => ?_)
    refine xcall (sp_errH F v 1 (by decide) ?_)
    exact h.err S _ (if_neg fun z => a2 z.1.2) (if_neg fun z => a2 z.1.2)
  refine br_n (fun _ => ?_) (fun z => absurd z (by decide))
  refine br_n (fun a3 => ?_) (fun a3 => ?_)
  · skip
    refine xcall (sp_isBelow _ _ (fun a4 => ?_) (fun a4 => ?_))
    · refine br_n (fun z => absurd rfl z) (fun _ => ?_)
      refine xcall (sp_errH F v 1 (by decide) ?_)
      have n4 : ¬ xin x (if w = 0 then 12 else 64) := by rw [if_neg a3]; exact a4
      exact h.err S _ (if_neg fun z => n4 z.2) (if_neg fun z => n4 z.2)
    refine br_n (fun _ => ?_) (fun z => absurd z (by decide))
    have p4 : xin x (if w = 0 then 12 else 64) := by rw [if_neg a3]; exact a4
    refine xcall (sp_rowOfThings (fun k => F (1 + k)) (fun k => v (1 + k)) w (fun a5 => ?_) (fun a5 => ?_))
    · exact absurd a5 a3
    · refine xcall (sp_replace (F 3) 8 i x (vinB I.1.1.1 a1 (Nat.le_refl _) (by omega)) ?_)
      refine h.ok (F' := va_up F 3 (upd (F 3) (nat i) x)) (v' := v) S ?_ ?_
      · rw [show g_shift i w x (hA F v) = (va_up (hA F v).1 1 (upd ((hA F v).1 1) (nat i) x), (hA F v).2) from (if_pos ⟨⟨a1, a2⟩, p4⟩).trans (if_neg a3)]
        exact ⟨⟨⟨rfl, rfl, rfl, rfl, rfl, rfl⟩, fun _ _ => ⟨rfl, rfl⟩, fun _ _ => ⟨rfl, rfl⟩, fun _ _ => rfl, fun _ _ => rfl⟩, ⟨⟨fun _ _ => rfl, fun _ _ => rfl, fun _ _ => rfl, fun _ _ => rfl⟩, ⟨⟨rfl, rfl, rfl, rfl⟩, rfl, rfl, rfl, rfl⟩, ⟨rfl, rfl⟩, fun _ _ => rfl⟩, fun _ => ⟨⟨rfl, rfl, rfl, rfl, rfl, rfl⟩, fun _ _ => ⟨rfl, rfl⟩, fun _ _ => ⟨rfl, rfl⟩, fun _ _ => rfl, fun _ _ => rfl⟩⟩
      · exact (if_pos ⟨⟨a1, a2⟩, p4⟩).trans (if_neg a3)
  · skip
    refine xcall (sp_isBelow _ _ (fun a4 => ?_) (fun a4 => ?_))
    · refine br_n (fun z => absurd rfl z) (fun _ => ?_)
      refine xcall (sp_errH F v 1 (by decide) ?_)
      have n4 : ¬ xin x (if w = 0 then 12 else 64) := by rw [if_pos a3]; exact a4
      exact h.err S _ (if_neg fun z => n4 z.2) (if_neg fun z => n4 z.2)
    refine br_n (fun _ => ?_) (fun z => absurd z (by decide))
    have p4 : xin x (if w = 0 then 12 else 64) := by rw [if_pos a3]; exact a4
    refine xcall (sp_rowOfThings (fun k => F (1 + k)) (fun k => v (1 + k)) w (fun a5 => ?_) (fun a5 => ?_))
    · refine xcall (sp_replace (F 2) 8 i x (vinB I.1.1.1 a1 (Nat.le_refl _) (by omega)) ?_)
      refine h.ok (F' := va_up F 2 (upd (F 2) (nat i) x)) (v' := v) S ?_ ?_
      · rw [show g_shift i w x (hA F v) = (va_up (hA F v).1 0 (upd ((hA F v).1 0) (nat i) x), (hA F v).2) from (if_pos ⟨⟨a1, a2⟩, p4⟩).trans (if_pos a3)]
        exact ⟨⟨⟨rfl, rfl, rfl, rfl, rfl, rfl⟩, fun _ _ => ⟨rfl, rfl⟩, fun _ _ => ⟨rfl, rfl⟩, fun _ _ => rfl, fun _ _ => rfl⟩, ⟨⟨fun _ _ => rfl, fun _ _ => rfl, fun _ _ => rfl, fun _ _ => rfl⟩, ⟨⟨rfl, rfl, rfl, rfl⟩, rfl, rfl, rfl, rfl⟩, ⟨rfl, rfl⟩, fun _ _ => rfl⟩, fun _ => ⟨⟨rfl, rfl, rfl, rfl, rfl, rfl⟩, fun _ _ => ⟨rfl, rfl⟩, fun _ _ => ⟨rfl, rfl⟩, fun _ _ => rfl, fun _ _ => rfl⟩⟩
      · exact (if_pos ⟨⟨a1, a2⟩, p4⟩).trans (if_pos a3)
    · exact absurd a3 a5
def f_seed (x : Int32) (s : xA) : Int32 := s.1 6 3
def g_seed (x : Int32) (s : xA) : xA := (va_up s.1 6 (upd (s.1 6) 3 x), s.2)
def f_trace (i : Int32) (s : xA) : Int32 := if xin i (s.2.2 6 1).toInt then s.2.2 7 (nat i) else -1000000002
def f_tell (x : Int32) (s : xA) : Int32 := if nat (s.1 6 5) < 20 then s.1 6 5 + 1 else -1000000004
def g_tell (x : Int32) (s : xA) : xA := if nat (s.1 6 5) < 20 then (va_up (va_up s.1 5 (upd (s.1 5) (nat (s.1 6 5)) x)) 6 (upd (s.1 6) 5 (s.1 6 5 + 1)), s.2) else s
set_option maxRecDepth 100000 in
theorem hs_seed (n : Nat) (F v : xS) (I : aIv n (hA F v)) (S : hS Φ F v) (x : Int32) {K : xKo} (h : hTo Φ F v (g_seed x) (f_seed x) K) : C_H_seed [.ref 0, .int x] (xfill F v 0 wH0) K := by
  refine xM_go rfl 100 [] fun P hP => ?_
  refine h.ok (F' := F) (v' := va_up v 1 (va_up (v 1) 11 x)) S ?_ rfl
  exact ⟨⟨⟨rfl, rfl, rfl, rfl, rfl, rfl⟩, fun _ _ => ⟨rfl, rfl⟩, fun _ _ => ⟨rfl, rfl⟩, fun _ _ => rfl, fun _ _ => rfl⟩, ⟨⟨fun _ _ => rfl, fun _ _ => rfl, fun _ _ => rfl, fun _ _ => rfl⟩, ⟨⟨rfl, rfl, rfl, rfl⟩, rfl, rfl, rfl, rfl⟩, ⟨rfl, rfl⟩, fun _ _ => rfl⟩, fun _ => ⟨⟨rfl, rfl, rfl, rfl, rfl, rfl⟩, fun _ _ => ⟨rfl, rfl⟩, fun _ _ => ⟨rfl, rfl⟩, fun _ _ => rfl, fun _ _ => rfl⟩⟩
set_option maxRecDepth 100000 in
theorem hs_trace (n : Nat) (F v : xS) (I : aIv n (hA F v)) (S : hS Φ F v) (i : Int32) {K : xKo} (h : hTo Φ F v (fun s => s) (f_trace i) K) : C_H_trace [.ref 0, .int i] (xfill F v 0 wH0) K := by
  refine xM_go rfl 100 [] fun P hP => ?_
  refine xcall (sp_isBelow _ _ (fun a1 => ?_) (fun a1 => ?_))
  · refine br_n (fun z => absurd rfl z) (fun _ => ?_)
    refine xcall (sp_errH F v 2 (by decide) ?_)
    exact h.err S _ rfl (if_neg a1)
  refine br_n (fun _ => ?_) (fun z => absurd z (by decide))
  refine ⟨vinB I.2.1.1.2 a1 (Nat.le_refl _) (by omega), ?_⟩
  exact h.id S rfl (if_pos a1)
set_option maxRecDepth 100000 in
theorem hs_tell (n : Nat) (F v : xS) (I : aIv n (hA F v)) (S : hS Φ F v) (x : Int32) {K : xKo} (h : hTo Φ F v (g_tell x) (f_tell x) K) : C_H_tell [.ref 0, .int x] (xfill F v 0 wH0) K := by
  refine xM_go rfl 100 [] fun P hP => ?_
  have b5 : below 20 (v 1 16) := I.1.1.2.2.2.2
  refine br_c (fun a1 => ?_) (fun a1 => ?_)
  · have a2 : nat (v 1 16) < 20 := (natlt (n := 20) b5 (by omega) (by omega)).mp a1
    refine ⟨vinN b5 a2 (by omega), ?_⟩
    refine h.ok (F' := va_up F 17 (upd (F 17) (nat (v 1 16)) x)) (v' := va_up v 1 (va_up (v 1) 16 (v 1 16 + 1))) S ?_ (if_pos a2)
    rw [show g_tell x (hA F v) = _ from if_pos a2]
    exact ⟨⟨⟨rfl, rfl, rfl, rfl, rfl, rfl⟩, fun _ _ => ⟨rfl, rfl⟩, fun _ _ => ⟨rfl, rfl⟩, fun _ _ => rfl, fun _ _ => rfl⟩, ⟨⟨fun _ _ => rfl, fun _ _ => rfl, fun _ _ => rfl, fun _ _ => rfl⟩, ⟨⟨rfl, rfl, rfl, rfl⟩, rfl, rfl, rfl, rfl⟩, ⟨rfl, rfl⟩, fun _ _ => rfl⟩, fun _ => ⟨⟨rfl, rfl, rfl, rfl, rfl, rfl⟩, fun _ _ => ⟨rfl, rfl⟩, fun _ _ => ⟨rfl, rfl⟩, fun _ _ => rfl, fun _ _ => rfl⟩⟩
  · have a2 : ¬ nat (v 1 16) < 20 := fun z => a1 ((natlt (n := 20) b5 (by omega) (by omega)).mpr z)
    refine xcall (sp_errH F v 4 (by decide) ?_)
    exact h.err S _ (if_neg a2) (if_neg a2)
