/-! ===== the tried side: bytes fed ===== -/
variable {Φ : hRw → Prop}
def byteH (w : Int64) (i : Nat) : Int32 := ((w.toUInt64 >>> ((8 * nI i).toInt64.toUInt64 &&& Int64.toUInt64 63)).toInt64 &&& 255).toInt32
def fedT (f : Nat → Int32) (w : Int64) (nb n : Nat) : Nat → Int32 := fun j => if nb ≤ j ∧ j < nb + n then byteH w (j - nb) else f j
theorem fedT_0 {f : Nat → Int32} {w : Int64} {nb : Nat} : fedT f w nb 0 = f := by
  funext j
  exact if_neg (fun z => by omega)
theorem fedT_s {f : Nat → Int32} {w : Int64} {nb n : Nat} : upd (fedT f w nb n) (nb + n) (byteH w n) = fedT f w nb (n + 1) := by
  funext j
  unfold fedT upd
  by_cases h : j = nb + n
  · subst h
    rw [if_pos rfl, if_pos ⟨by omega, by omega⟩, Nat.add_sub_cancel_left]
  · rw [if_neg h]
    dsimp only
    by_cases g : nb ≤ j ∧ j < nb + n
    · rw [if_pos g, if_pos ⟨g.1, by omega⟩]
    · rw [if_neg g, if_neg (fun z => g ⟨z.1, by omega⟩)]
set_option maxRecDepth 100000 in
theorem sp_addBytes (F v : xS) (w : Int64) (n nb : Nat) (hn : nb + n ≤ 50) (e : v 0 14 = nI nb) {K : xKo} (h : K (some (.int (nI (nb + n)))) (xfill (va_up F 15 (fedT (F 15) w nb n)) (va_up v 0 (va_up (v 0) 14 (nI (nb + n)))) 0 (wT0 0))) : C_T_addBytes [.ref 0, .long w, .int (nI n)] (xfill F v 0 (wT0 0)) K := by
  have key : ∀ (d i : Nat), i + d = n → xWP pg_T_addBytes K 3 [(0, .ref 0), (1, .long w), (3, .int (nI n)), (4, .int (nI i))] [] (xfill (va_up F 15 (fedT (F 15) w nb i)) (va_up v 0 (va_up (v 0) 14 (nI (nb + i)))) 0 (wT0 0)) (0, 0) := by
    intro d
    induction d with
    | zero =>
      intro i hi
      have hi : i = n := hi
      subst hi
      refine xWP_go 100 [(3, [0, 1, 3, 4])] fun P hP => ?_
      refine br_c (fun _ => h) (fun z => absurd (nI_le (Nat.le_refl _) (by omega)) z)
    | succ d ih =>
      intro i hi
      refine xWP_go 100 [(3, [0, 1, 3, 4])] fun P hP => ?_
      refine br_c (fun z => absurd z (nI_ge (by omega) (by omega))) (fun _ => ?_)
      refine ⟨vp_in_nI (by omega) (by omega), ?_⟩
      refine hP _ _ _ _ _ ?_
      have q := ih (i + 1) (by omega)
      rw [← fedT_s, ← Nat.add_assoc, ← nI_1, ← nI_1, show upd (fedT (F 15) w nb i) (nb + i) (byteH w i) = upd (fedT (F 15) w nb i) (nat (nI (nb + i))) (byteH w i) by rw [show nat (nI (nb + i)) = nb + i from nI_clamp (by omega)]] at q
      exact q
  refine xM_go rfl 100 [(3, [0, 1, 3, 4])] fun P hP => ?_
  refine hP _ _ _ _ _ ?_
  have q := key n 0 (by omega)
  rw [fedT_0, Nat.add_zero, ← e] at q
  exact q
def g_feed (w : Int64) (n : Int32) (s : xA) : xA := if (1 ≤ n.toInt ∧ n.toInt ≤ 8) ∧ nat (s.1 6 4) + nat n ≤ 50 then (va_up (va_up s.1 4 (fedT (s.1 4) w (nat (s.1 6 4)) (nat n))) 6 (upd (s.1 6) 4 (nI (nat (s.1 6 4) + nat n))), s.2) else s
def f_feed (w : Int64) (n : Int32) (s : xA) : Int32 := if 1 ≤ n.toInt ∧ n.toInt ≤ 8 then (if nat (s.1 6 4) + nat n ≤ 50 then nI (nat (s.1 6 4) + nat n) else -1000000004) else -1000000001
set_option maxRecDepth 100000 in
theorem hs_feed (n : Nat) (F v : xS) (I : aIv n (hA F v)) (S : hS Φ F v) (w : Int64) (n : Int32) {K : xKo} (h : hTo Φ F v (g_feed w n) (f_feed w n) K) : C_H_feed [.ref 0, .long w, .int n] (xfill F v 0 wH0) K := by
  obtain ⟨nb, hb, e⟩ : below 50 (v 1 14) := I.1.1.2.2.2.1
  have eb : nat (v 1 14) = nb := by rw [e]; exact nI_clamp (by omega)
  refine xM_go rfl 100 [] fun P hP => ?_
  refine br_c (fun a1 => ?_) (fun a1 => ?_)
  · have a1 : n < 1 := a1
    rw [xlt, show (1 : Int32).toInt = 1 by decide] at a1
    refine xcall (sp_errH F v 1 (by decide) ?_)
    exact h.err S _ (if_neg (by omega)) (if_neg (by omega))
  have a1 : ¬ n < 1 := a1
  rw [xlt, show (1 : Int32).toInt = 1 by decide] at a1
  refine br_c (fun a2 => ?_) (fun a2 => ?_)
  · have a2 : n ≤ 8 := a2
    rw [xle, show (8 : Int32).toInt = 8 by decide] at a2
    obtain ⟨m, hm, rfl, em⟩ := nI_ofx n (n := 9) ⟨by omega, by omega⟩ (by decide)
    have c1 : 1 ≤ (nI m).toInt ∧ (nI m).toInt ≤ 8 := ⟨by omega, a2⟩
    have es : v 1 14 + nI m = nI (nb + m) := by rw [e, nI_add]
    refine br_c (fun a3 => ?_) (fun a3 => ?_)
    · have a3 : v 1 14 + nI m ≤ nI 50 := a3
      rw [es, nI_leI (by omega) (by omega)] at a3
      have c2 : nat (v 1 14) + nat (nI m) ≤ 50 := by omega
      refine xcall (sp_addBytes (fun k => F (1 + k)) (fun k => v (1 + k)) w m nb a3 e ?_)
      refine h.ok (F' := va_up F 16 (fedT (F 16) w nb m)) (v' := va_up v 1 (va_up (v 1) 14 (nI (nb + m)))) S ?_ ((if_pos c1).trans ((if_pos c2).trans (by show nI (nat (v 1 14) + nat (nI m)) = nI (nb + m); rw [eb, em])))
      have eg : g_feed w (nI m) (hA F v) = (va_up (va_up (hA F v).1 4 (fedT (F 16) w nb m)) 6 (upd ((hA F v).1 6) 4 (nI (nb + m))), (hA F v).2) := (if_pos ⟨c1, c2⟩).trans (by
        show (va_up (va_up (hA F v).1 4 (fedT (F 16) w (nat (v 1 14)) (nat (nI m)))) 6 (upd ((hA F v).1 6) 4 (nI (nat (v 1 14) + nat (nI m)))), (hA F v).2) = _
        rw [eb, em])
      rw [eg]
      exact ⟨⟨⟨rfl, rfl, rfl, rfl, rfl, rfl⟩, fun _ _ => ⟨rfl, rfl⟩, fun _ _ => ⟨rfl, rfl⟩, fun _ _ => rfl, fun _ _ => rfl⟩, ⟨⟨fun _ _ => rfl, fun _ _ => rfl, fun _ _ => rfl, fun _ _ => rfl⟩, ⟨⟨rfl, rfl, rfl, rfl⟩, rfl, rfl, rfl, rfl⟩, ⟨rfl, rfl⟩, fun _ _ => rfl⟩, fun _ => ⟨⟨rfl, rfl, rfl, rfl, rfl, rfl⟩, fun _ _ => ⟨rfl, rfl⟩, fun _ _ => ⟨rfl, rfl⟩, fun _ _ => rfl, fun _ _ => rfl⟩⟩
    · have a3 : ¬ v 1 14 + nI m ≤ nI 50 := a3
      rw [es, nI_leI (by omega) (by omega)] at a3
      have c2 : ¬ nat (v 1 14) + nat (nI m) ≤ 50 := by omega
      refine xcall (sp_errH F v 4 (by decide) ?_)
      exact h.err S _ (if_neg fun z => c2 z.2) ((if_pos c1).trans (if_neg c2))
  · have a2 : ¬ n ≤ 8 := a2
    rw [xle, show (8 : Int32).toInt = 8 by decide] at a2
    refine xcall (sp_errH F v 1 (by decide) ?_)
    exact h.err S _ (if_neg (by omega)) (if_neg (by omega))
