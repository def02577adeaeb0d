/-! ===== the tried side: images, sheets, small ones ===== -/
theorem cpy0 {f g : Nat → Int32} {n j : Nat} (h : j < n) : va_cpy f g 0 0 n j = f j := by
  rw [pk_cpy_in (Nat.zero_le _) (by omega)]
  congr 1
  omega
theorem bel_nat {N : Nat} {x : Int32} (hx : below N x) (hN : N < 2 ^ 31) : nat x ≤ N := by
  obtain ⟨k, hk, rfl⟩ := hx
  rw [show nat (nI k) = k from nI_clamp (by omega)]
  exact hk
def imF (F : xS) : xS := fun k => if k < 18 then F (19 + k) else F (1 + (k - 18))
def imF2 (F : xS) (n0 n1 : Nat) : xS := fun k => if 19 ≤ k ∧ k < 37 then cpF (imF F) n0 n1 (k - 19) else F k
def imV2 (v : xS) (n0 n1 : Nat) : xS := va_up (fun k => if 19 ≤ k ∧ k < 37 then cpV (imF v) n0 n1 (k - 19) else v k) 0 (va_up (v 0) 7 (v 0 7 + 1))
def reF2 (F : xS) (n0 n1 : Nat) : xS := fun k => if 1 ≤ k ∧ k < 19 then cpF (fun k => F (1 + k)) n0 n1 (k - 1) else F k
def reV2 (v : xS) (n0 n1 : Nat) : xS := fun k => if 1 ≤ k ∧ k < 19 then cpV (fun k => v (1 + k)) n0 n1 (k - 1) else v k
set_option maxRecDepth 100000 in
theorem hs_image (n : Nat) (F v : xS) (I : aIv n (hA F v)) (S : hS v) {K : xKo} (h : hTo F v g_image f_image K) : C_H_image [.ref 0] (xfill F v 0 wH0) K := by
  have J : sIv (hSt F v 1) := I.1
  obtain ⟨n0, h0, e0⟩ := S.1.1
  obtain ⟨n1, h1, e1⟩ := S.1.2
  refine xM_go rfl 100 [] fun P hP => ?_
  refine xcall (sp_copy (imF F) (imF v) n0 n1 h0 h1 e0 e1 ?_)
  refine h.ok (F' := imF2 F n0 n1) (v' := imV2 v n0 n1) ⟨⟨⟨n0, h0, e0⟩, ⟨n1, h1, e1⟩⟩, ⟨n0, h0, rfl⟩, ⟨n1, h1, rfl⟩⟩ ?_ rfl
  exact ⟨⟨⟨rfl, rfl, rfl, rfl, rfl, rfl⟩, fun _ _ => ⟨rfl, rfl⟩, fun _ _ => ⟨rfl, rfl⟩, fun _ _ => rfl, fun _ _ => rfl⟩, ⟨⟨fun _ _ => rfl, fun _ _ => rfl, fun _ _ => rfl, fun _ _ => rfl⟩, ⟨⟨rfl, rfl, rfl, rfl⟩, rfl, rfl, rfl, rfl⟩, ⟨rfl, rfl⟩, fun _ _ => rfl⟩, fun _ => ⟨⟨rfl, rfl, rfl, rfl, rfl, rfl⟩, fun j hj => ⟨cpy0 (Nat.lt_of_lt_of_le hj (bel_nat J.1.1 (by omega))), cpy0 (Nat.lt_of_lt_of_le hj (bel_nat J.1.1 (by omega)))⟩, fun j hj => ⟨cpy0 (Nat.lt_of_lt_of_le hj (bel_nat J.1.2.1 (by omega))), cpy0 (Nat.lt_of_lt_of_le hj (bel_nat J.1.2.1 (by omega)))⟩, fun j hj => cpy0 (Nat.lt_of_lt_of_le hj (bel_nat J.1.2.2.2.1 (by omega))), fun j hj => cpy0 (Nat.lt_of_lt_of_le hj (bel_nat J.1.2.2.2.2 (by omega)))⟩⟩
set_option maxRecDepth 100000 in
theorem hs_restore (n : Nat) (F v : xS) (I : aIv n (hA F v)) (S : hS v) {K : xKo} (h : hTo F v g_restore f_restore K) : C_H_restore [.ref 0] (xfill F v 0 wH0) K := by
  refine xM_go rfl 100 [] fun P hP => ?_
  refine br_n (fun a => ?_) (fun a => ?_)
  · have J : sIv (hSt F v 19) := I.2.2 a
    obtain ⟨n0, h0, e0⟩ := S.2.1
    obtain ⟨n1, h1, e1⟩ := S.2.2
    refine xcall (sp_copy (fun k => F (1 + k)) (fun k => v (1 + k)) n0 n1 h0 h1 e0 e1 ?_)
    refine h.ok (F' := reF2 F n0 n1) (v' := reV2 v n0 n1) ⟨⟨⟨n0, h0, rfl⟩, ⟨n1, h1, rfl⟩⟩, ⟨n0, h0, e0⟩, ⟨n1, h1, e1⟩⟩ ?_ (if_neg a)
    rw [show g_restore (hA F v) = _ from if_neg a]
    exact ⟨⟨⟨rfl, rfl, rfl, rfl, rfl, rfl⟩, fun j hj => ⟨cpy0 (Nat.lt_of_lt_of_le hj (bel_nat J.1.1 (by omega))), cpy0 (Nat.lt_of_lt_of_le hj (bel_nat J.1.1 (by omega)))⟩, fun j hj => ⟨cpy0 (Nat.lt_of_lt_of_le hj (bel_nat J.1.2.1 (by omega))), cpy0 (Nat.lt_of_lt_of_le hj (bel_nat J.1.2.1 (by omega)))⟩, fun j hj => cpy0 (Nat.lt_of_lt_of_le hj (bel_nat J.1.2.2.2.1 (by omega))), fun j hj => cpy0 (Nat.lt_of_lt_of_le hj (bel_nat J.1.2.2.2.2 (by omega)))⟩, ⟨⟨fun _ _ => rfl, fun _ _ => rfl, fun _ _ => rfl, fun _ _ => rfl⟩, ⟨⟨rfl, rfl, rfl, rfl⟩, rfl, rfl, rfl, rfl⟩, ⟨rfl, rfl⟩, fun _ _ => rfl⟩, fun _ => ⟨⟨rfl, rfl, rfl, rfl, rfl, rfl⟩, fun _ _ => ⟨rfl, rfl⟩, fun _ _ => ⟨rfl, rfl⟩, fun _ _ => rfl, fun _ _ => rfl⟩⟩
  · refine xcall (sp_errH F v 2 (by decide) ?_)
    exact h.err S _ (if_pos a) (if_pos a)
set_option maxRecDepth 100000 in
theorem hs_told (n : Nat) (F v : xS) (I : aIv n (hA F v)) (S : hS v) (i : Int32) {K : xKo} (h : hTw F v (fun s => s) K) : C_H_told [.ref 0, .int i] (xfill F v 0 wH0) K := by
  refine xM_go rfl 100 [] fun P hP => ?_
  refine br_c (fun a1 => ?_) (fun a1 => ?_)
  · refine xcall (sp_errH F v 1 (by decide) ?_)
    exact h.err S _ rfl
  refine br_c (fun a2 => ?_) (fun a2 => ?_)
  · refine ⟨vin (by simp only [xlt, xle, Int32.reduceToInt] at a1 a2; omega), ?_⟩
    exact h.id S rfl
  · refine xcall (sp_errH F v 1 (by decide) ?_)
    exact h.err S _ rfl
set_option maxRecDepth 100000 in
theorem hs_it (n : Nat) (F v : xS) (I : aIv n (hA F v)) (S : hS v) (c : Int32) {K : xKo} (h : hTw F v (fun s => s) K) : C_H_it [.ref 0, .int c] (xfill F v 0 wH0) K := by
  have go : ∀ r, K (some (.int r)) (xfill F (va_up v 1 (va_up (v 1) 9 c)) 0 wH0) := fun r => h r F _ S ⟨⟨⟨rfl, rfl, rfl, rfl, rfl, rfl⟩, fun _ _ => ⟨rfl, rfl⟩, fun _ _ => ⟨rfl, rfl⟩, fun _ _ => rfl, fun _ _ => rfl⟩, ⟨⟨fun _ _ => rfl, fun _ _ => rfl, fun _ _ => rfl, fun _ _ => rfl⟩, ⟨⟨rfl, rfl, rfl, rfl⟩, rfl, rfl, rfl, rfl⟩, ⟨rfl, rfl⟩, fun _ _ => rfl⟩, fun _ => ⟨⟨rfl, rfl, rfl, rfl, rfl, rfl⟩, fun _ _ => ⟨rfl, rfl⟩, fun _ _ => ⟨rfl, rfl⟩, fun _ _ => rfl, fun _ _ => rfl⟩⟩
  refine xM_go rfl 100 [] fun P hP => ?_
  refine br_c (fun a1 => ?_) (fun a1 => ?_)
  · exact go _
  refine xcall (sp_isChild F v _ (fun a2 => ?_) (fun a2 => ?_))
  · refine br_n (fun z => absurd rfl z) (fun _ => ?_)
    refine xcall (sp_errH F v 1 (by decide) ?_)
    exact h.err S _ rfl
  · refine br_n (fun _ => ?_) (fun z => absurd z (by decide))
    exact go _
set_option maxRecDepth 100000 in
theorem hs_change (n : Nat) (F v : xS) (I : aIv n (hA F v)) (S : hS v) (c w x : Int32) {K : xKo} (h : hTw F v (fun s => s) K) : C_H_change [.ref 0, .int c, .int w, .int x] (xfill F v 0 wH0) K := by
  refine xM_go rfl 100 [] fun P hP => ?_
  refine xcall (sp_isChild F v _ (fun a1 => ?_) (fun a1 => ?_))
  · refine br_c (fun _ => ?_) (fun z => absurd rfl z)
    refine xcall (sp_errH F v 1 (by decide) ?_)
    exact h.err S _ rfl
  refine br_c (fun z => absurd z (by decide)) (fun _ => ?_)
  refine xcall (sp_isBelow _ _ (fun a2 => ?_) (fun a2 => ?_))
  · refine br_n (fun z => absurd rfl z) (fun _ => ?_)
    refine xcall (sp_errH F v 1 (by decide) ?_)
    exact h.err S _ rfl
  refine br_n (fun _ => ?_) (fun z => absurd z (by decide))
  have b : vp_in c 7 := vinB I.1.1.2.1 a1 (Nat.le_refl _) (by omega)
  refine br_n (fun a3 => ?_) (fun a3 => ?_)
  · refine xcall (sp_isBelow _ _ (fun a4 => ?_) (fun a4 => ?_))
    · refine br_n (fun z => absurd rfl z) (fun _ => ?_)
      refine xcall (sp_errH F v 1 (by decide) ?_)
      exact h.err S _ rfl
    refine br_n (fun _ => ?_) (fun z => absurd z (by decide))
    refine br_n (fun a5 => ?_) (fun a5 => absurd a5 a3)
    refine br_n (fun a6 => ?_) (fun a6 => ?_)
    · refine xcall (sp_replace (F 8) 7 c x b ?_)
      exact h _ (va_up F 8 (upd (F 8) (nat c) x)) v S ⟨⟨⟨rfl, rfl, rfl, rfl, rfl, rfl⟩, fun _ _ => ⟨rfl, rfl⟩, fun _ _ => ⟨rfl, rfl⟩, fun _ _ => rfl, fun _ _ => rfl⟩, ⟨⟨fun _ _ => rfl, fun _ _ => rfl, fun _ _ => rfl, fun _ _ => rfl⟩, ⟨⟨rfl, rfl, rfl, rfl⟩, rfl, rfl, rfl, rfl⟩, ⟨rfl, rfl⟩, fun _ _ => rfl⟩, fun _ => ⟨⟨rfl, rfl, rfl, rfl, rfl, rfl⟩, fun _ _ => ⟨rfl, rfl⟩, fun _ _ => ⟨rfl, rfl⟩, fun _ _ => rfl, fun _ _ => rfl⟩⟩
    · refine xcall (sp_replace (F 7) 7 c x b ?_)
      exact h _ (va_up F 7 (upd (F 7) (nat c) x)) v S ⟨⟨⟨rfl, rfl, rfl, rfl, rfl, rfl⟩, fun _ _ => ⟨rfl, rfl⟩, fun _ _ => ⟨rfl, rfl⟩, fun _ _ => rfl, fun _ _ => rfl⟩, ⟨⟨fun _ _ => rfl, fun _ _ => rfl, fun _ _ => rfl, fun _ _ => rfl⟩, ⟨⟨rfl, rfl, rfl, rfl⟩, rfl, rfl, rfl, rfl⟩, ⟨rfl, rfl⟩, fun _ _ => rfl⟩, fun _ => ⟨⟨rfl, rfl, rfl, rfl, rfl, rfl⟩, fun _ _ => ⟨rfl, rfl⟩, fun _ _ => ⟨rfl, rfl⟩, fun _ _ => rfl, fun _ _ => rfl⟩⟩
  · refine xcall (sp_isBelow _ _ (fun a4 => ?_) (fun a4 => ?_))
    · refine br_n (fun z => absurd rfl z) (fun _ => ?_)
      refine xcall (sp_errH F v 1 (by decide) ?_)
      exact h.err S _ rfl
    refine br_n (fun _ => ?_) (fun z => absurd z (by decide))
    refine br_n (fun a5 => absurd a3 a5) (fun a5 => ?_)
    · refine xcall (sp_replace (F 6) 7 c x b ?_)
      exact h _ (va_up F 6 (upd (F 6) (nat c) x)) v S ⟨⟨⟨rfl, rfl, rfl, rfl, rfl, rfl⟩, fun _ _ => ⟨rfl, rfl⟩, fun _ _ => ⟨rfl, rfl⟩, fun _ _ => rfl, fun _ _ => rfl⟩, ⟨⟨fun _ _ => rfl, fun _ _ => rfl, fun _ _ => rfl, fun _ _ => rfl⟩, ⟨⟨rfl, rfl, rfl, rfl⟩, rfl, rfl, rfl, rfl⟩, ⟨rfl, rfl⟩, fun _ _ => rfl⟩, fun _ => ⟨⟨rfl, rfl, rfl, rfl, rfl, rfl⟩, fun _ _ => ⟨rfl, rfl⟩, fun _ _ => ⟨rfl, rfl⟩, fun _ _ => rfl, fun _ _ => rfl⟩⟩
