section
/-! ===== the tried side: bytes fed ===== -/
variable {Φ : hRw → Prop}
def byteH (w : Int64) (i : Nat) : Int32 := ((w.toUInt64 >>> ((8 * nI i).toInt64.toUInt64 &&& Int64.toUInt64 63)).toInt64 &&& 255).toInt32
def fedT (f : Nat → Int32) (w : Int64) (nb n : Nat) : Nat → Int32 := fun j => if nb ≤ j ∧ j < nb + n then byteH w (j - nb) else f j
theorem fedT_0 {f : Nat → Int32} {w : Int64} {nb : Nat} : fedT f w nb 0 = f := by
  funext j
  exact if_neg (fun z => by omega)
theorem fedT_s {f : Nat → Int32} {w : Int64} {nb n : Nat} : upd (fedT f w nb n) (nb + n) (byteH w n) = fedT f w nb (n + 1) := by
  funext j
  unfold fedT upd
  by_cases h : j = nb + n
  · subst h
    rw [if_pos rfl, if_pos ⟨by omega, by omega⟩, Nat.add_sub_cancel_left]
  · rw [if_neg h]
    dsimp only
    by_cases g : nb ≤ j ∧ j < nb + n
    · rw [if_pos g, if_pos ⟨g.1, by omega⟩]
    · rw [if_neg g, if_neg (fun z => g ⟨z.1, by omega⟩)]
set_option maxRecDepth 100000 in
theorem sp_addBytes (F v : xS) (w : Int64) (n nb : Nat) (hn : nb + n ≤ 50) (e : v 0 14 = nI nb) {K : xKo} (h : K (some (.int (nI (nb + n)))) (xfill (va_up F 15 (fedT (F 15) w nb n)) (va_up v 0 (va_up (v 0) 14 (nI (nb + n)))) 0 (wT0 0))) : C_T_addBytes [.ref 0, .long w, .int (nI n)] (xfill F v 0 (wT0 0)) K := by
  have key : ∀ (d i : Nat), i + d = n → xWP pg_T_addBytes K 3 [(0, .ref 0), (1, .long w), (3, .int (nI n)), (4, .int (nI i))] [] (xfill (va_up F 15 (fedT (F 15) w nb i)) (va_up v 0 (va_up (v 0) 14 (nI (nb + i)))) 0 (wT0 0)) (0, 0) := by
    intro d
    induction d with
    | zero =>
      intro i hi
      have hi : i = n := hi
      subst hi
      refine xWP_go 100 [(3, [0, 1, 3, 4])] fun P hP => ?_
      refine br_c (fun _ => h) (fun z => absurd (nI_le (Nat.le_refl _) (by omega)) z)
    | succ d ih =>
      intro i hi
      refine xWP_go 100 [(3, [0, 1, 3, 4])] fun P hP => ?_
      refine br_c (fun z => absurd z (nI_ge (by omega) (by omega))) (fun _ => ?_)
      refine ⟨vp_in_nI (by omega) (by omega), ?_⟩
      refine hP _ _ _ _ _ ?_
      have q := ih (i + 1) (by omega)
      rw [← fedT_s, ← Nat.add_assoc, ← nI_1, ← nI_1, show upd (fedT (F 15) w nb i) (nb + i) (byteH w i) = upd (fedT (F 15) w nb i) (nat (nI (nb + i))) (byteH w i) by rw [show nat (nI (nb + i)) = nb + i from nI_clamp (by omega)]] at q
      exact q
  refine xM_go rfl 100 [(3, [0, 1, 3, 4])] fun P hP => ?_
  refine hP _ _ _ _ _ ?_
  have q := key n 0 (by omega)
  rw [fedT_0, Nat.add_zero, ← e] at q
  exact q
def g_feed (w : Int64) (n : Int32) (s : xA) : xA := if (1 ≤ n.toInt ∧ n.toInt ≤ 8) ∧ nat (s.1 6 4) + nat n ≤ 50 then (va_up (va_up s.1 4 (fedT (s.1 4) w (nat (s.1 6 4)) (nat n))) 6 (upd (s.1 6) 4 (nI (nat (s.1 6 4) + nat n))), s.2) else s
def f_feed (w : Int64) (n : Int32) (s : xA) : xAn := if 1 ≤ n.toInt ∧ n.toInt ≤ 8 then (if nat (s.1 6 4) + nat n ≤ 50 then (nI (nat (s.1 6 4) + nat n), 0) else (-1000000004, 4)) else (-1000000001, 1)
set_option maxRecDepth 100000 in
theorem hs_feed (n : Nat) (F v : xS) (I : aIv n (hA F v)) (S : hS Φ F v) (w : Int64) (n : Int32) {K : xKo} (h : hTo Φ F v (g_feed w n) (f_feed w n) K) : C_H_feed [.ref 0, .long w, .int n] (xfill F v 0 wH0) K := by
  obtain ⟨nb, hb, e⟩ : below 50 (v 1 14) := I.1.1.2.2.2.1
  have eb : nat (v 1 14) = nb := by rw [e]; exact nI_clamp (by omega)
  refine xM_go rfl 100 [] fun P hP => ?_
  refine br_c (fun a1 => ?_) (fun a1 => ?_)
  · have a1 : n < 1 := a1
    rw [xlt, show (1 : Int32).toInt = 1 by decide] at a1
    refine xcall (sp_errH F v 1 (by decide) ?_)
    exact h.err S (if_neg (by omega)) (if_neg (by omega))
  have a1 : ¬ n < 1 := a1
  rw [xlt, show (1 : Int32).toInt = 1 by decide] at a1
  refine br_c (fun a2 => ?_) (fun a2 => ?_)
  · have a2 : n ≤ 8 := a2
    rw [xle, show (8 : Int32).toInt = 8 by decide] at a2
    obtain ⟨m, hm, rfl, em⟩ := nI_ofx n (n := 9) ⟨by omega, by omega⟩ (by decide)
    have c1 : 1 ≤ (nI m).toInt ∧ (nI m).toInt ≤ 8 := ⟨by omega, a2⟩
    have es : v 1 14 + nI m = nI (nb + m) := by rw [e, nI_add]
    refine br_c (fun a3 => ?_) (fun a3 => ?_)
    · have a3 : v 1 14 + nI m ≤ nI 50 := a3
      rw [es, nI_leI (by omega) (by omega)] at a3
      have c2 : nat (v 1 14) + nat (nI m) ≤ 50 := by omega
      refine xcall (sp_addBytes (fun k => F (1 + k)) (fun k => v (1 + k)) w m nb a3 e ?_)
      refine h.ok (F' := va_up F 16 (fedT (F 16) w nb m)) (v' := va_up v 1 (va_up (v 1) 14 (nI (nb + m)))) S ?_ ((if_pos c1).trans ((if_pos c2).trans (an_ (by show nI (nat (v 1 14) + nat (nI m)) = nI (nb + m); rw [eb, em]))))
      have eg : g_feed w (nI m) (hA F v) = (va_up (va_up (hA F v).1 4 (fedT (F 16) w nb m)) 6 (upd ((hA F v).1 6) 4 (nI (nb + m))), (hA F v).2) := (if_pos ⟨c1, c2⟩).trans (by
        show (va_up (va_up (hA F v).1 4 (fedT (F 16) w (nat (v 1 14)) (nat (nI m)))) 6 (upd ((hA F v).1 6) 4 (nI (nat (v 1 14) + nat (nI m)))), (hA F v).2) = _
        rw [eb, em])
      rw [eg]
      exact ⟨⟨⟨rfl, rfl, rfl, rfl, rfl, rfl⟩, fun _ _ => ⟨rfl, rfl⟩, fun _ _ => ⟨rfl, rfl⟩, fun _ _ => rfl, fun _ _ => rfl⟩, ⟨⟨fun _ _ => rfl, fun _ _ => rfl, fun _ _ => rfl, fun _ _ => rfl⟩, ⟨⟨rfl, rfl, rfl, rfl⟩, rfl, rfl, rfl, rfl⟩, ⟨rfl, rfl⟩, fun _ _ => rfl⟩, fun _ => ⟨⟨rfl, rfl, rfl, rfl, rfl, rfl⟩, fun _ _ => ⟨rfl, rfl⟩, fun _ _ => ⟨rfl, rfl⟩, fun _ _ => rfl, fun _ _ => rfl⟩⟩
    · have a3 : ¬ v 1 14 + nI m ≤ nI 50 := a3
      rw [es, nI_leI (by omega) (by omega)] at a3
      have c2 : ¬ nat (v 1 14) + nat (nI m) ≤ 50 := by omega
      refine xcall (sp_errH F v 4 (by decide) ?_)
      exact h.err S (if_neg fun z => c2 z.2) ((if_pos c1).trans (if_neg c2))
  · have a2 : ¬ n ≤ 8 := a2
    rw [xle, show (8 : Int32).toInt = 8 by decide] at a2
    refine xcall (sp_errH F v 1 (by decide) ?_)
    exact h.err S (if_neg (by omega)) (if_neg (by omega))
end
section
/-! ===== the tried side: calls, without their outcome ===== -/
/-- all but some rows and fields is as it was -/
def tR (A : Nat → Bool) (B : Nat → Nat → Bool) (F v F' v' : xS) : Prop := (∀ k, A k = false → F' k = F k) ∧ ∀ k j, B k j = false → v' k j = v k j
theorem tR.rf {A : Nat → Bool} {B : Nat → Nat → Bool} {F v : xS} : tR A B F v F v := ⟨fun _ _ => rfl, fun _ _ _ => rfl⟩
theorem tR.tr {A : Nat → Bool} {B : Nat → Nat → Bool} {F v F' v' F2 v2 : xS} (h : tR A B F v F' v') (g : tR A B F' v' F2 v2) : tR A B F v F2 v2 := ⟨fun k a => (g.1 k a).trans (h.1 k a), fun k j a => (g.2 k j a).trans (h.2 k j a)⟩
theorem tR.wd {A A2 : Nat → Bool} {B B2 : Nat → Nat → Bool} {F v F' v' : xS} (h : tR A B F v F' v') (a : ∀ k, A2 k = false → A k = false) (b : ∀ k j, B2 k j = false → B k j = false) : tR A2 B2 F v F' v' := ⟨fun k z => h.1 k (a k z), fun k j z => h.2 k j (b k j z)⟩
theorem tR.fu {A : Nat → Bool} {B : Nat → Nat → Bool} {F v F' v' : xS} {k : Nat} {x : Nat → Int32} (h : tR A B F v F' v') (a : A k = true) : tR A B F v (va_up F' k x) v' := ⟨fun i z => by
    have n : ¬ i = k := fun e => by rw [e, a] at z; exact absurd z (by decide)
    have e : va_up F' k x i = F' i := if_neg n
    rw [e]; exact h.1 i z, h.2⟩
theorem tR.vu {A : Nat → Bool} {B : Nat → Nat → Bool} {F v F' v' : xS} {k j : Nat} {x : Int32} (h : tR A B F v F' v') (a : B k j = true) : tR A B F v F' (va_up v' k (va_up (v' k) j x)) := ⟨h.1, fun i l z => by
    by_cases n : i = k
    · subst n
      have m : ¬ l = j := fun e => by rw [e, a] at z; exact absurd z (by decide)
      have e : va_up v' i (va_up (v' i) j x) i l = v' i l := (congrFun (if_pos rfl) l).trans (if_neg m)
      rw [e]; exact h.2 i l z
    · have e : va_up v' k (va_up (v' k) j x) i = v' i := if_neg n
      rw [e]; exact h.2 i l z⟩
def aE (k : Nat) : Bool := k == 11 || k == 14 || k == 17
def bE (k j : Nat) : Bool := (k == 9 || k == 12) && j == 3
def aP (k : Nat) : Bool := k == 11 || k == 14 || k == 17 || k == 5 || k == 6 || k == 7
def bP (k j : Nat) : Bool := (k == 9 || k == 12) && j == 3 || k == 0 && j == 9
def bQ (k j : Nat) : Bool := (k == 9 || k == 12) && j == 3 || k == 0 && (j == 9 || j == 10)
theorem tE.p {F v F' v' : xS} (h : tR aE bE F v F' v') : tR aP bP F v F' v' := h.wd (fun k z => by simp only [aP, aE, Bool.or_eq_false_iff] at z ⊢; exact ⟨⟨z.1.1.1.1.1, z.1.1.1.1.2⟩, z.1.1.1.2⟩) (fun k j z => by simp only [bP, bE, Bool.or_eq_false_iff] at z ⊢; exact z.1)
theorem tP.q {F v F' v' : xS} (h : tR aP bP F v F' v') : tR aP bQ F v F' v' := h.wd (fun k z => z) (fun k j z => by
    simp only [bP, bQ, Bool.or_eq_false_iff, Bool.and_eq_false_iff] at z ⊢
    exact ⟨z.1, z.2.elim Or.inl fun y => Or.inr y.1⟩)
def tI (v : xS) : Prop := (below 8 (v 0 2) ∧ below 7 (v 0 8)) ∧ below 50 (v 9 1) ∧ below 50 (v 12 1)
theorem tI.q {F v F' v' : xS} (h : tI v) (g : tR aP bQ F v F' v') : tI v' := ⟨⟨(g.2 0 2 rfl).symm ▸ h.1.1, (g.2 0 8 rfl).symm ▸ h.1.2⟩, (g.2 9 1 rfl).symm ▸ h.2.1, (g.2 12 1 rfl).symm ▸ h.2.2⟩
theorem tI.e {F v F' v' : xS} (h : tI v) (g : tR aE bE F v F' v') : tI v' := h.q (tP.q (tE.p g))
theorem sw_floorMod (a : Int32) {K : xKo} (h : ∀ r, K (some (.int r)) []) : C_A_floorMod [.int a, .int 12] [] K := by
  refine xM_go rfl 40 [] fun P hP => ?_
  refine ⟨by decide, ?_⟩
  refine br_c (fun _ => h _) (fun _ => ?_)
  refine br_c (fun _ => h _) (fun _ => h _)
theorem sw_bitCount (a : Int32) {K : xKo} (h : ∀ r, K (some (.int r)) []) : C_I_bitCount [.int a] [] K := by
  refine xM_go rfl 60 [] fun P hP => ?_
  exact h _
theorem sw_cellsOff (a b : Int32) {K : xKo} (h : ∀ r, K (some (.int r)) []) : C_T_cellsOff [.int a, .int b] [] K := by
  refine xM_go rfl 60 [] fun P hP => ?_
  refine xcall (sp_abs _ ?_)
  refine xcall (sp_min _ _ ?_)
  exact h _
set_option maxRecDepth 100000 in
theorem sw_goalOf (F v : xS) (I : tI v) (c m : Int32) (hc : vp_in c 7) {K : xKo} (h : ∀ g F' v', tR aE bE F v F' v' → (g = -1 ∨ vp_in g 8) → K (some (.int g)) (xfill F' v' 0 (wT0 0))) : C_T_goalOf [.ref 0, .int c, .int m] (xfill F v 0 (wT0 0)) K := by
  obtain ⟨n, hn, en⟩ := I.1.1
  have key : ∀ (d i : Nat) (g nr : Int32) (F' v' : xS), i + d = n → tR aE bE F v F' v' → (g = -1 ∨ vp_in g 8) → xWP pg_T_goalOf K 14 [(0, .ref 0), (1, .int c), (2, .int m), (3, .int g), (4, .int nr), (5, .int (nI i))] [] (xfill F' v' 0 (wT0 0)) (0, 0) := by
    intro d
    induction d with
    | zero =>
      intro i g nr F' v' hi E hg
      have e : v' 0 2 = nI n := (E.2 0 2 rfl).trans en
      have hi : i = n := hi
      subst hi
      refine xWP_go 100 [(14, [0, 1, 2, 3, 4, 5])] fun P hP => ?_
      refine br_c (fun _ => h _ _ _ E hg) (fun z => absurd (by show v' 0 2 ≤ nI i; rw [e]; exact nI_le (Nat.le_refl _) (by omega)) z)
    | succ d ih =>
      intro i g nr F' v' hi E hg
      have e : v' 0 2 = nI n := (E.2 0 2 rfl).trans en
      obtain ⟨n0, h0, e0⟩ := (I.e E).2.1
      refine xWP_go 100 [(14, [0, 1, 2, 3, 4, 5])] fun P hP => ?_
      refine br_c (fun z => ?_) (fun _ => ?_)
      · have z : v' 0 2 ≤ nI i := z
        rw [e] at z
        exact absurd z (nI_ge (by omega) (by omega))
      have nx : ∀ (g nr : Int32) (F2 v2 : xS), tR aE bE F' v' F2 v2 → (g = -1 ∨ vp_in g 8) → xWP pg_T_goalOf K 14 [(0, .ref 0), (1, .int c), (2, .int m), (3, .int g), (4, .int nr), (5, .int (nI i + 1))] [] (xfill F2 v2 0 (wT0 0)) (0, 0) := by
        intro g nr F2 v2 E2 hg
        rw [nI_1]
        exact ih (i + 1) g nr F2 v2 (by omega) (E.tr E2) hg
      have bi : vp_in (nI i) 8 := vp_in_nI (by omega) (by omega)
      refine ⟨hc, ?_⟩
      refine ⟨bi, ?_⟩
      refine xcall (sw_cellsOff _ _ (fun off => ?_))
      refine ⟨bi, ?_⟩
      refine xcall (sp_isIn _ _ (fun z1 => ?_) (fun z1 => ?_))
      · refine br_c (fun _ => ?_) (fun z => absurd rfl z)
        refine hP _ _ _ _ _ ?_
        exact nx _ _ _ _ tR.rf hg
      refine br_c (fun z => absurd z (by decide)) (fun _ => ?_)
      refine br_c (fun _ => ?_) (fun _ => ?_)
      · refine hP _ _ _ _ _ ?_
        exact nx _ _ _ _ tR.rf hg
      refine ⟨vin (by decide), ⟨fun _ => ?_, ⟨fun a => absurd a (by decide), trivial⟩⟩⟩
      refine ⟨hc, ?_⟩
      refine xcall (sp_gives (fun k => F' (9 + k)) (fun k => v' (9 + k)) off m _ n0 h0 e0 (fun z => ?_) (fun z => ?_))
      · refine br_c (fun z => absurd z (by decide)) (fun _ => ?_)
        refine hP _ _ _ _ _ ?_
        exact nx _ _ _ _ tR.rf (Or.inr bi)
      · refine br_c (fun _ => ?_) (fun _ => ?_)
        · refine hP _ _ _ _ _ ?_
          exact nx _ _ (va_up F' 11 _) (va_up v' 9 (va_up (v' 9) 3 _)) ((tR.rf.fu rfl).vu rfl) hg
        · refine hP _ _ _ _ _ ?_
          exact nx _ _ (va_up F' 11 _) (va_up v' 9 (va_up (v' 9) 3 _)) ((tR.rf.fu rfl).vu rfl) (Or.inr bi)
  refine xM_go rfl 100 [(14, [0, 1, 2, 3, 4, 5])] fun P hP => ?_
  refine xcall (sp_far F v c hc ?_)
  refine hP _ _ _ _ _ ?_
  exact key n 0 _ _ F v (by omega) tR.rf (Or.inl rfl)
set_option maxRecDepth 100000 in
theorem sw_endOf (F v : xS) (I : tI v) (c m s : Int32) (hc : vp_in c 7) {K : xKo} (h : ∀ r F' v', tR aE bE F v F' v' → K (some (.int r)) (xfill F' v' 0 (wT0 0))) : C_T_endOf [.ref 0, .int c, .int m, .int s] (xfill F v 0 (wT0 0)) K := by
  have fin : ∀ (g : Int32) (F' v' : xS), tR aE bE F v F' v' → (g = -1 ∨ vp_in g 8) → xWP pg_T_endOf K 18 [(0, .ref 0), (1, .int c), (2, .int m), (3, .int s)] [.int g] (xfill F' v' 0 (wT0 0)) (0, 0) := by
    intro g F' v' E hg
    refine xWP_go 100 [] fun P hP => ?_
    refine br_c (fun a => ?_) (fun a => ?_)
    · have hg : vp_in g 8 := hg.elim (fun z => by subst z; exact absurd a (by decide)) id
      refine ⟨hg, ?_⟩
      refine ⟨hc, ?_⟩
      refine xcall (sw_floorMod _ (fun up => ?_))
      refine xcall (sp_min _ _ ?_)
      refine xcall (sp_pace F' v' c hc ?_)
      refine xcall (sp_min _ _ ?_)
      refine br_c (fun _ => ?_) (fun _ => ?_)
      · refine ⟨hc, ?_⟩
        refine xcall (sw_floorMod _ (fun r => ?_))
        exact h _ _ _ E
      · refine ⟨hc, ?_⟩
        refine xcall (sw_floorMod _ (fun r => ?_))
        exact h _ _ _ E
    · refine ⟨hc, ?_⟩
      exact h _ _ _ E
  refine xM_go rfl 100 [(18, [0, 1, 2, 3])] fun P hP => ?_
  refine br_n (fun _ => ?_) (fun _ => ?_)
  · refine xcall (sw_goalOf F v I c m hc (fun g F' v' E hg => ?_))
    refine hP _ _ _ _ _ ?_
    exact fin g F' v' E hg
  · refine hP _ _ _ _ _ ?_
    exact fin _ F v tR.rf (Or.inl rfl)
set_option maxRecDepth 100000 in
theorem sw_crowdIn (F v : xS) (I : tI v) (c : Int32) {K : xKo} (h : ∀ r, K (some (.int r)) (xfill F v 0 (wT0 0))) : C_T_crowdIn [.ref 0, .int c] (xfill F v 0 (wT0 0)) K := by
  obtain ⟨n, hn, en⟩ := I.1.2
  have key : ∀ (d i : Nat) (g : Int32), i + d = n → xWP pg_T_crowdIn K 4 [(0, .ref 0), (1, .int c), (2, .int g), (3, .int (nI i))] [] (xfill F v 0 (wT0 0)) (0, 0) := by
    intro d
    induction d with
    | zero =>
      intro i g hi
      have hi : i = n := hi
      subst hi
      refine xWP_go 100 [(4, [0, 1, 2, 3])] fun P hP => ?_
      refine br_c (fun _ => h _) (fun z => absurd (by show v 0 8 ≤ nI i; rw [en]; exact nI_le (Nat.le_refl _) (by omega)) z)
    | succ d ih =>
      intro i g hi
      refine xWP_go 100 [(4, [0, 1, 2, 3])] fun P hP => ?_
      refine br_c (fun z => ?_) (fun _ => ?_)
      · have z : v 0 8 ≤ nI i := z
        rw [en] at z
        exact absurd z (nI_ge (by omega) (by omega))
      have nx : ∀ g : Int32, xWP pg_T_crowdIn K 4 [(0, .ref 0), (1, .int c), (2, .int g), (3, .int (nI i + 1))] [] (xfill F v 0 (wT0 0)) (0, 0) := by
        intro g
        rw [nI_1]
        exact ih (i + 1) g (by omega)
      refine br_c (fun _ => ?_) (fun _ => ?_)
      · refine hP _ _ _ _ _ ?_
        exact nx _
      refine ⟨vp_in_nI (by omega) (by omega), ?_⟩
      refine br_n (fun _ => ?_) (fun _ => ?_)
      · refine hP _ _ _ _ _ ?_
        exact nx _
      · refine hP _ _ _ _ _ ?_
        exact nx _
  refine xM_go rfl 100 [(4, [0, 1, 2, 3])] fun P hP => ?_
  refine hP _ _ _ _ _ ?_
  exact key n 0 0 (by omega)
set_option maxRecDepth 100000 in
theorem sw_isHeld (F v : xS) (I : tI v) (c m : Int32) {K : xKo} (h : ∀ r F' v', tR aE bE F v F' v' → (r = 0 ∨ r = 1) → K (some (.int r)) (xfill F' v' 0 (wT0 0))) : C_T_isHeld [.ref 0, .int c, .int m] (xfill F v 0 (wT0 0)) K := by
  obtain ⟨n, hn, en⟩ := I.1.1
  obtain ⟨n1, h1, e1⟩ := I.2.2
  have key : ∀ (d i : Nat), i + d = n → xWP pg_T_isHeld K 2 [(0, .ref 0), (1, .int c), (2, .int m), (3, .int (nI i))] [] (xfill F v 0 (wT0 0)) (0, 0) := by
    intro d
    induction d with
    | zero =>
      intro i hi
      have hi : i = n := hi
      subst hi
      refine xWP_go 100 [(2, [0, 1, 2, 3])] fun P hP => ?_
      refine br_c (fun _ => ?_) (fun z => absurd (by show v 0 2 ≤ nI i; rw [en]; exact nI_le (Nat.le_refl _) (by omega)) z)
      exact ⟨Or.inl rfl, h _ _ _ tR.rf (Or.inl rfl)⟩
    | succ d ih =>
      intro i hi
      refine xWP_go 100 [(2, [0, 1, 2, 3])] fun P hP => ?_
      refine br_c (fun z => ?_) (fun _ => ?_)
      · have z : v 0 2 ≤ nI i := z
        rw [en] at z
        exact absurd z (nI_ge (by omega) (by omega))
      have nx : xWP pg_T_isHeld K 2 [(0, .ref 0), (1, .int c), (2, .int m), (3, .int (nI i + 1))] [] (xfill F v 0 (wT0 0)) (0, 0) := by
        rw [nI_1]
        exact ih (i + 1) (by omega)
      have bi : vp_in (nI i) 8 := vp_in_nI (by omega) (by omega)
      refine ⟨bi, ?_⟩
      refine br_n (fun _ => ?_) (fun _ => ?_)
      · refine hP _ _ _ _ _ ?_
        exact nx
      refine ⟨bi, ?_⟩
      refine xcall (sp_isIn _ _ (fun z1 => ?_) (fun z1 => ?_))
      · refine br_c (fun _ => ?_) (fun z => absurd rfl z)
        refine hP _ _ _ _ _ ?_
        exact nx
      refine br_c (fun z => absurd z (by decide)) (fun _ => ?_)
      refine ⟨vin (by decide), ⟨fun a => absurd a (by decide), ⟨fun _ => ?_, trivial⟩⟩⟩
      refine xcall (sw_crowdIn F v I c (fun cr => ?_))
      refine ⟨bi, ?_⟩
      refine xcall (sp_gives (fun k => F (12 + k)) (fun k => v (12 + k)) cr _ m n1 h1 e1 (fun z => ?_) (fun z => ?_))
      · refine br_c (fun z => absurd z (by decide)) (fun _ => ?_)
        exact ⟨Or.inr rfl, h _ _ _ tR.rf (Or.inr rfl)⟩
      · refine br_c (fun _ => ?_) (fun _ => ?_)
        · exact ⟨Or.inl rfl, h _ (va_up F 14 _) (va_up v 12 (va_up (v 12) 3 _)) ((tR.rf.fu rfl).vu rfl) (Or.inl rfl)⟩
        · exact ⟨Or.inr rfl, h _ (va_up F 14 _) (va_up v 12 (va_up (v 12) 3 _)) ((tR.rf.fu rfl).vu rfl) (Or.inr rfl)⟩
  refine xM_go rfl 100 [(2, [0, 1, 2, 3])] fun P hP => ?_
  refine hP _ _ _ _ _ ?_
  exact key n 0 (by omega)
set_option maxRecDepth 100000 in
theorem sw_wouldBeHad (F v : xS) (I : tI v) (m s : Int32) {K : xKo} (h : ∀ r F' v', tR aE bE F v F' v' → K (some (.int r)) (xfill F' v' 0 (wT0 0))) : C_T_wouldBeHad [.ref 0, .int m, .int s] (xfill F v 0 (wT0 0)) K := by
  obtain ⟨n, hn, en⟩ := I.1.2
  have two : ∀ (d i : Nat) (g : Int32) (F' v' : xS), i + d = n → tR aE bE F v F' v' → xWP pg_T_wouldBeHad K 34 [(0, .ref 0), (1, .int m), (2, .int s), (3, .int g), (4, .int (nI i))] [] (xfill F' v' 0 (wT0 0)) (0, 0) := by
    intro d
    induction d with
    | zero =>
      intro i g F' v' hi E
      have e : v' 0 8 = nI n := (E.2 0 8 rfl).trans en
      have hi : i = n := hi
      subst hi
      refine xWP_go 100 [(34, [0, 1, 2, 3, 4])] fun P hP => ?_
      refine br_c (fun _ => h _ _ _ E) (fun z => absurd (by show v' 0 8 ≤ nI i; rw [e]; exact nI_le (Nat.le_refl _) (by omega)) z)
    | succ d ih =>
      intro i g F' v' hi E
      have e : v' 0 8 = nI n := (E.2 0 8 rfl).trans en
      refine xWP_go 100 [(34, [0, 1, 2, 3, 4])] fun P hP => ?_
      refine br_c (fun z => ?_) (fun _ => ?_)
      · have z : v' 0 8 ≤ nI i := z
        rw [e] at z
        exact absurd z (nI_ge (by omega) (by omega))
      have nx : ∀ (g : Int32) (F2 v2 : xS), tR aE bE F' v' F2 v2 → xWP pg_T_wouldBeHad K 34 [(0, .ref 0), (1, .int m), (2, .int s), (3, .int g), (4, .int (nI i + 1))] [] (xfill F2 v2 0 (wT0 0)) (0, 0) := by
        intro g F2 v2 E2
        rw [nI_1]
        exact ih (i + 1) g F2 v2 (by omega) (E.tr E2)
      refine br_c (fun _ => ?_) (fun _ => ?_)
      · refine hP _ _ _ _ _ ?_
        exact nx _ _ _ tR.rf
      refine ⟨vp_in_nI (by omega) (by omega), ?_⟩
      refine xcall (sw_isHeld F' v' (I.e E) _ m (fun r F2 v2 E2 hr => ?_))
      refine br_n (fun _ => ?_) (fun _ => ?_)
      · refine hP _ _ _ _ _ ?_
        exact nx _ _ _ E2
      · refine hP _ _ _ _ _ ?_
        exact nx _ _ _ E2
  have one : ∀ (d i : Nat) (F' v' : xS), i + d = n → tR aE bE F v F' v' → xWP pg_T_wouldBeHad K 2 [(0, .ref 0), (1, .int m), (2, .int s), (3, .int (nI i))] [] (xfill F' v' 0 (wT0 0)) (0, 0) := by
    intro d
    induction d with
    | zero =>
      intro i F' v' hi E
      have e : v' 0 8 = nI n := (E.2 0 8 rfl).trans en
      have hi : i = n := hi
      subst hi
      refine xWP_go 100 [(2, [0, 1, 2, 3]), (34, [0, 1, 2, 3, 4])] fun P hP => ?_
      refine br_c (fun _ => ?_) (fun z => absurd (by show v' 0 8 ≤ nI i; rw [e]; exact nI_le (Nat.le_refl _) (by omega)) z)
      refine hP _ _ _ _ _ ?_
      exact two i 0 0 F' v' (by omega) E
    | succ d ih =>
      intro i F' v' hi E
      have e : v' 0 8 = nI n := (E.2 0 8 rfl).trans en
      refine xWP_go 100 [(2, [0, 1, 2, 3]), (34, [0, 1, 2, 3, 4])] fun P hP => ?_
      refine br_c (fun z => ?_) (fun _ => ?_)
      · have z : v' 0 8 ≤ nI i := z
        rw [e] at z
        exact absurd z (nI_ge (by omega) (by omega))
      have bi : vp_in (nI i) 7 := vp_in_nI (by omega) (by omega)
      refine xcall (sw_endOf F' v' (I.e E) _ m s bi (fun r F2 v2 E2 => ?_))
      refine ⟨bi, ?_⟩
      refine hP _ _ _ _ _ ?_
      rw [nI_1]
      exact ih (i + 1) (va_up F2 17 _) v2 (by omega) ((E.tr E2).fu rfl)
  refine xM_go rfl 100 [(2, [0, 1, 2, 3])] fun P hP => ?_
  refine hP _ _ _ _ _ ?_
  exact one n 0 F v (by omega) tR.rf
set_option maxRecDepth 100000 in
theorem sw_play (F v : xS) (I : tI v) (m s : Int32) {K : xKo} (h : ∀ r F' v', tR aP bQ F v F' v' → v' 0 10 = v 0 10 + 1 → K (some (.int r)) (xfill F' v' 0 (wT0 0))) : C_T_play [.ref 0, .int m, .int s] (xfill F v 0 (wT0 0)) K := by
  obtain ⟨n, hn, en⟩ := I.1.2
  have key : ∀ (d i : Nat) (q : Int32) (x : Int32) (F' v' : xS), i + d = n → tR aP bP F v F' v' → xWP pg_T_play K 13 [(0, .ref 0), (1, .int m), (2, .int s), (3, .int q), (4, .int x), (5, .int (nI i))] [] (xfill F' v' 0 (wT0 0)) (0, 0) := by
    intro d
    induction d with
    | zero =>
      intro i q x F' v' hi E
      have e : v' 0 8 = nI n := (E.2 0 8 rfl).trans en
      have hi : i = n := hi
      subst hi
      refine xWP_go 100 [(13, [0, 1, 2, 3, 4, 5])] fun P hP => ?_
      refine br_c (fun _ => ?_) (fun z => absurd (by show v' 0 8 ≤ nI i; rw [e]; exact nI_le (Nat.le_refl _) (by omega)) z)
      refine h _ F' (va_up v' 0 (va_up (va_up (v' 0) 9 x) 10 (v' 0 10 + 1))) ⟨E.1, fun k j z => ?_⟩ ?_
      · have q := (((tP.q E).vu (x := x) (k := 0) (j := 9) rfl).vu (x := v' 0 10 + 1) (k := 0) (j := 10) rfl).2 k j z
        rw [← q]
        by_cases k0 : k = 0
        · subst k0; rfl
        · exact (congrFun (if_neg k0) j).trans ((congrFun (if_neg k0) j).trans (congrFun (if_neg k0) j)).symm
      · show v' 0 10 + 1 = v 0 10 + 1
        rw [E.2 0 10 rfl]
    | succ d ih =>
      intro i q x F' v' hi E
      have e : v' 0 8 = nI n := (E.2 0 8 rfl).trans en
      refine xWP_go 100 [(13, [0, 1, 2, 3, 4, 5])] fun P hP => ?_
      refine br_c (fun z => ?_) (fun _ => ?_)
      · have z : v' 0 8 ≤ nI i := z
        rw [e] at z
        exact absurd z (nI_ge (by omega) (by omega))
      have nx : ∀ (x : Int32) (F2 v2 : xS), tR aP bP F' v' F2 v2 → xWP pg_T_play K 13 [(0, .ref 0), (1, .int m), (2, .int s), (3, .int q), (4, .int x), (5, .int (nI i + 1))] [] (xfill F2 v2 0 (wT0 0)) (0, 0) := by
        intro x F2 v2 E2
        rw [nI_1]
        exact ih (i + 1) q x F2 v2 (by omega) (E.tr E2)
      have bi : vp_in (nI i) 7 := vp_in_nI (by omega) (by omega)
      refine ⟨bi, ?_⟩
      refine ⟨bi, ?_⟩
      refine xcall (sp_isIn _ _ (fun z1 => ?_) (fun z1 => ?_))
      · refine br_c (fun _ => ?_) (fun z => absurd rfl z)
        refine br_c (fun _ => ?_) (fun _ => ?_)
        · refine hP _ _ _ _ _ ?_
          exact nx _ (va_up F' 5 _) v' (tR.rf.fu rfl)
        refine ⟨bi, ?_⟩
        refine xcall (sp_min _ _ ?_)
        refine ⟨bi, ?_⟩
        refine hP _ _ _ _ _ ?_
        exact nx _ (va_up (va_up F' 5 _) 7 _) v' ((tR.rf.fu rfl).fu rfl)
      refine br_c (fun z => absurd z (by decide)) (fun _ => ?_)
      refine ⟨bi, ?_⟩
      refine xcall (sp_min _ _ ?_)
      refine ⟨bi, ?_⟩
      refine br_n (fun _ => ?_) (fun _ => ?_)
      · refine hP _ _ _ _ _ ?_
        exact nx _ (va_up (va_up F' 5 _) 6 _) v' ((tR.rf.fu rfl).fu rfl)
      · refine hP _ _ _ _ _ ?_
        exact nx _ (va_up (va_up F' 5 _) 6 _) v' ((tR.rf.fu rfl).fu rfl)
  refine xM_go rfl 100 [(13, [0, 1, 2, 3, 4, 5])] fun P hP => ?_
  refine xcall (sw_wouldBeHad F v I m s (fun r F' v' E => ?_))
  refine hP _ _ _ _ _ ?_
  exact key n 0 r _ F' v' (by omega) (tE.p E)
end
section
/-! ===== the tried side: what would be, without its outcome ===== -/
def upS (b : Nat) (F G : xS) : xS := fun k => if b ≤ k ∧ k < b + 18 then G (k - b) else F k
def wA (k : Nat) : Bool := (Nat.ble 1 k && Nat.blt k 19 && aP (k - 1)) || (Nat.ble 37 k && Nat.blt k 55) || k == 99
def wB (k j : Nat) : Bool := (Nat.ble 1 k && Nat.blt k 19 && bP (k - 1) j) || (Nat.ble 37 k && Nat.blt k 55)
def wC (k j : Nat) : Bool := wB k j || k == 1 && (j == 10 || j == 11)
abbrev hR (F v F' v' : xS) : Prop := tR wA wB F v F' v'
abbrev hQ (F v F' v' : xS) : Prop := tR wA wC F v F' v'
theorem hR.q {F v F' v' : xS} (h : hR F v F' v') : hQ F v F' v' := h.wd (fun _ z => z) (fun k j z => by
  simp only [wC, Bool.or_eq_false_iff] at z
  exact z.1)
theorem up_in {b : Nat} {F G : xS} {k : Nat} (h : b ≤ k ∧ k < b + 18) : upS b F G k = G (k - b) := if_pos h
theorem up_out {b : Nat} {F G : xS} {k : Nat} (h : ¬ (b ≤ k ∧ k < b + 18)) : upS b F G k = F k := if_neg h
theorem hR.up37 {F v G w : xS} : hR F v (upS 37 F G) (upS 37 v w) := by
  have k : ∀ k, ¬ (37 ≤ k ∧ k < 37 + 18) ∨ (Nat.ble 37 k && Nat.blt k 55) = true := fun k => by
    by_cases h : 37 ≤ k ∧ k < 37 + 18
    · refine Or.inr ?_
      rw [Bool.and_eq_true]
      exact ⟨Nat.ble_eq_true_of_le h.1, Nat.ble_eq_true_of_le h.2⟩
    · exact Or.inl h
  refine ⟨fun i z => ?_, fun i j z => ?_⟩
  · rcases k i with h | h
    · exact up_out h
    · rw [show wA i = true by unfold wA; rw [h]; simp] at z
      exact absurd z (by decide)
  · rcases k i with h | h
    · exact congrFun (up_out h) j
    · rw [show wB i j = true by unfold wB; rw [h]; simp] at z
      exact absurd z (by decide)
theorem hQ.up1 {F v G w : xS} (E : tR aP bQ (fun k => F (1 + k)) (fun k => v (1 + k)) G w) : hQ F v (upS 1 F G) (upS 1 v w) := by
  refine ⟨fun i z => ?_, fun i j z => ?_⟩
  · by_cases h : 1 ≤ i ∧ i < 1 + 18
    · rw [up_in h]
      have a : aP (i - 1) = false := by
        simp only [wA, Bool.or_eq_false_iff] at z
        rw [show (Nat.ble 1 i && Nat.blt i 19) = true by rw [Bool.and_eq_true]; exact ⟨Nat.ble_eq_true_of_le h.1, Nat.ble_eq_true_of_le h.2⟩] at z
        simpa using z.1.1
      have q := E.1 (i - 1) a
      rw [q]
      show F (1 + (i - 1)) = F i
      rw [show 1 + (i - 1) = i by omega]
    · exact up_out h
  · by_cases h : 1 ≤ i ∧ i < 1 + 18
    · rw [up_in h]
      have a : bQ (i - 1) j = false := by
        simp only [wC, wB, Bool.or_eq_false_iff] at z
        rw [show (Nat.ble 1 i && Nat.blt i 19) = true by rw [Bool.and_eq_true]; exact ⟨Nat.ble_eq_true_of_le h.1, Nat.ble_eq_true_of_le h.2⟩] at z
        have z1 : bP (i - 1) j = false := by simpa using z.1.1
        have z2 := z.2
        unfold bP at z1
        unfold bQ
        simp only [Bool.or_eq_false_iff, Bool.and_eq_false_iff, beq_eq_false_iff_ne] at z1 z2 ⊢
        refine ⟨z1.1, ?_⟩
        by_cases i0 : i - 1 = 0
        · have i1 : i = 1 := by omega
          exact Or.inr ⟨z1.2.elim (fun y => absurd i0 y) id, z2.elim (fun y => absurd i1 y) fun y => y.1⟩
        · exact Or.inl i0
      have q := E.2 (i - 1) j a
      rw [q]
      show v (1 + (i - 1)) j = v i j
      rw [show 1 + (i - 1) = i by omega]
    · exact congrFun (up_out h) j
theorem hR.up1 {F v G w : xS} (E : tR aP bP (fun k => F (1 + k)) (fun k => v (1 + k)) G w) : hR F v (upS 1 F G) (upS 1 v w) := by
  refine ⟨(hQ.up1 (tP.q E)).1, fun i j z => ?_⟩
  by_cases h : 1 ≤ i ∧ i < 1 + 18
  · rw [up_in h]
    have a : bP (i - 1) j = false := by
      simp only [wB, Bool.or_eq_false_iff] at z
      rw [show (Nat.ble 1 i && Nat.blt i 19) = true by rw [Bool.and_eq_true]; exact ⟨Nat.ble_eq_true_of_le h.1, Nat.ble_eq_true_of_le h.2⟩] at z
      simpa using z.1
    have q := E.2 (i - 1) j a
    rw [q]
    show v (1 + (i - 1)) j = v i j
    rw [show 1 + (i - 1) = i by omega]
  · exact congrFun (up_out h) j
theorem hR.e1 {F v G w : xS} (E : tR aE bE (fun k => F (1 + k)) (fun k => v (1 + k)) G w) : hR F v (upS 1 F G) (upS 1 v w) := hR.up1 (tE.p E)
theorem hR.agr {F v F' v' : xS} (E : hR F v F' v') : agr (hA F' v') (hA F v) := ⟨⟨⟨E.2 1 2 rfl, E.2 1 8 rfl, E.2 1 10 rfl, E.2 1 11 rfl, E.2 1 14 rfl, E.2 1 16 rfl⟩, fun j _ => ⟨congrFun (E.1 2 rfl) j, congrFun (E.1 3 rfl) j⟩, fun j _ => ⟨congrFun (E.1 4 rfl) j, congrFun (E.1 5 rfl) j⟩, fun j _ => congrFun (E.1 16 rfl) j, fun j _ => congrFun (E.1 17 rfl) j⟩, ⟨⟨fun j _ => congrFun (E.1 62 rfl) j, fun j _ => congrFun (E.1 64 rfl) j, fun j _ => congrFun (E.1 66 rfl) j, fun j _ => congrFun (E.1 68 rfl) j⟩, ⟨⟨E.2 61 1 rfl, E.2 63 1 rfl, E.2 65 1 rfl, E.2 67 1 rfl⟩, E.2 61 2 rfl, E.2 63 2 rfl, E.2 65 2 rfl, E.2 67 2 rfl⟩, ⟨E.2 0 7 rfl, E.2 58 1 rfl⟩, fun j _ => congrFun (E.1 59 rfl) j⟩, fun _ => ⟨⟨E.2 19 2 rfl, E.2 19 8 rfl, E.2 19 10 rfl, E.2 19 11 rfl, E.2 19 14 rfl, E.2 19 16 rfl⟩, fun j _ => ⟨congrFun (E.1 20 rfl) j, congrFun (E.1 21 rfl) j⟩, fun j _ => ⟨congrFun (E.1 22 rfl) j, congrFun (E.1 23 rfl) j⟩, fun j _ => congrFun (E.1 34 rfl) j, fun j _ => congrFun (E.1 35 rfl) j⟩⟩
theorem hQ.agr {F v F' v' : xS} (E : hQ F v F' v') {a b : Int32} (ha : v' 1 10 = a) (hb : v' 1 11 = b) : agr (hA F' v') (va_up (hA F v).1 6 (upd (upd ((hA F v).1 6) 2 a) 3 b), (hA F v).2) := ⟨⟨⟨E.2 1 2 rfl, E.2 1 8 rfl, ha, hb, E.2 1 14 rfl, E.2 1 16 rfl⟩, fun j _ => ⟨congrFun (E.1 2 rfl) j, congrFun (E.1 3 rfl) j⟩, fun j _ => ⟨congrFun (E.1 4 rfl) j, congrFun (E.1 5 rfl) j⟩, fun j _ => congrFun (E.1 16 rfl) j, fun j _ => congrFun (E.1 17 rfl) j⟩, ⟨⟨fun j _ => congrFun (E.1 62 rfl) j, fun j _ => congrFun (E.1 64 rfl) j, fun j _ => congrFun (E.1 66 rfl) j, fun j _ => congrFun (E.1 68 rfl) j⟩, ⟨⟨E.2 61 1 rfl, E.2 63 1 rfl, E.2 65 1 rfl, E.2 67 1 rfl⟩, E.2 61 2 rfl, E.2 63 2 rfl, E.2 65 2 rfl, E.2 67 2 rfl⟩, ⟨E.2 0 7 rfl, E.2 58 1 rfl⟩, fun j _ => congrFun (E.1 59 rfl) j⟩, fun _ => ⟨⟨E.2 19 2 rfl, E.2 19 8 rfl, E.2 19 10 rfl, E.2 19 11 rfl, E.2 19 14 rfl, E.2 19 16 rfl⟩, fun j _ => ⟨congrFun (E.1 20 rfl) j, congrFun (E.1 21 rfl) j⟩, fun j _ => ⟨congrFun (E.1 22 rfl) j, congrFun (E.1 23 rfl) j⟩, fun j _ => congrFun (E.1 34 rfl) j, fun j _ => congrFun (E.1 35 rfl) j⟩⟩
theorem tI.o2 {F v F' v' : xS} (I : tI (fun k => v (1 + k))) (E : hQ F v F' v') : tI (fun k => v' (1 + k)) := ⟨⟨by show below 8 (v' 1 2); rw [E.2 1 2 rfl]; exact I.1.1, by show below 7 (v' 1 8); rw [E.2 1 8 rfl]; exact I.1.2⟩, by show below 50 (v' 10 1); rw [E.2 10 1 rfl]; exact I.2.1, by show below 50 (v' 13 1); rw [E.2 13 1 rfl]; exact I.2.2⟩
def g_call (m t : Int32) (s : xA) : xA := if (xin m 6 ∧ xin t 10) ∧ nat (s.1 6 2) < 9999 then (va_up s.1 6 (upd (upd (s.1 6) 2 (s.1 6 2 + 1)) 3 (s.1 6 3)), s.2) else s
def zS (z : Int32) : Int32 := z * 1103515245 + 12345
def zN : Nat → Int32 → Int32
  | 0, z => z
  | n + 1, z => zS (zS (zN n z))
def g_loose (n : Int32) (s : xA) : xA := if (1 ≤ n.toInt ∧ n.toInt ≤ 40) ∧ nat (s.1 6 2) + nat n ≤ 9999 then (va_up s.1 6 (upd (upd (s.1 6) 2 (nI (nat (s.1 6 2) + nat n))) 3 (zN (nat n) (s.1 6 3))), s.2) else s
theorem sp_draw (F v : xS) (y : Int32) (hy : y = zS (v 0 11)) {K : xKo} (h : ∀ r, K (some (.int r)) (xfill F (va_up v 0 (va_up (v 0) 11 y)) 0 (wT0 0))) : C_T_draw [.ref 0] (xfill F v 0 (wT0 0)) K := by
  refine xM_go rfl 60 [] fun P hP => ?_
  subst hy
  exact h _
theorem hQ.z {F v F' v' : xS} {x : Int32} (E : hQ F v F' v') : hQ F v F' (va_up v' 1 (va_up (v' 1) 11 x)) := E.vu rfl
end
section
/-! ===== the tried side: voices ===== -/
variable {Φ : hRw → Prop}
abbrev xTq : Type := (Nat → Int32) × Nat
def nt (q : xTq) (b : Int32) : xTq := if q.2 < 40 then (upd q.1 q.2 b, q.2 + 1) else q
theorem nt_le {q : xTq} {b : Int32} (h : q.2 ≤ 40) : (nt q b).2 ≤ 40 := by
  unfold nt
  split
  · show q.2 + 1 ≤ 40
    omega
  · exact h
def shV (k : Nat) (n x : Int32) (q : xTq) : Int32 × xTq := if k = 1 ∨ k = 4 then ((x + n) * 3, nt (nt q 20) 10) else (x + n, nt q 10)
def toV (k : Nat) (n m x : Int32) (q : xTq) : Int32 × xTq := if k = 3 then (-(x - m), nt (nt q 40) 12) else if k = 6 then (-(x - m) ^^^ n, nt (nt (nt q 70) 40) 12) else (x - m, nt q 12)
def ru0 (z : Nat) (n x : Int32) (q : xTq) : Int32 × xTq := ((shV z n x (nt q 11)).1 * 2, (shV z n x (nt q 11)).2)
def ru2 (z : Nat) (n m x : Int32) (q : xTq) : Int32 × xTq := ((ru0 z n x (nt q 30)).1 - (toV z n m 1 (ru0 z n x (nt q 30)).2).1, (toV z n m 1 (ru0 z n x (nt q 30)).2).2)
def ruV (z : Nat) (n m : Int32) (k : Nat) (x : Int32) (q : xTq) : Int32 × xTq := if k = 2 then ru2 z n m x q else if k = 5 then ru2 z n m (x + 1) (nt q 60) else ru0 z n x q
def te0 (z : Nat) (n m x : Int32) (q : xTq) : Int32 × xTq := ((ruV z n m z x (nt q 13)).1 ^^^ (toV z n m x (ruV z n m z x (nt q 13)).2).1, (toV z n m x (ruV z n m z x (nt q 13)).2).2)
def teV (z : Nat) (n m : Int32) (k : Nat) (x : Int32) (q : xTq) : Int32 × xTq := if k = 4 then ((te0 z n m x (nt q 50)).1 - (shV z n 2 (te0 z n m x (nt q 50)).2).1, (shV z n 2 (te0 z n m x (nt q 50)).2).2) else if k = 6 then ((ruV z n m z x (nt q 71)).1 - (te0 z n m x (ruV z n m z x (nt q 71)).2).1, (te0 z n m x (ruV z n m z x (nt q 71)).2).2) else te0 z n m x q
theorem shV_le {k : Nat} {n x : Int32} {q : xTq} (h : q.2 ≤ 40) : (shV k n x q).2.2 ≤ 40 := by
  unfold shV
  split
  · exact nt_le (nt_le h)
  · exact nt_le h
theorem toV_le {k : Nat} {n m x : Int32} {q : xTq} (h : q.2 ≤ 40) : (toV k n m x q).2.2 ≤ 40 := by
  unfold toV
  split
  · exact nt_le (nt_le h)
  split
  · exact nt_le (nt_le (nt_le h))
  · exact nt_le h
theorem ru0_le {z : Nat} {n x : Int32} {q : xTq} (h : q.2 ≤ 40) : (ru0 z n x q).2.2 ≤ 40 := shV_le (nt_le h)
theorem ru2_le {z : Nat} {n m x : Int32} {q : xTq} (h : q.2 ≤ 40) : (ru2 z n m x q).2.2 ≤ 40 := toV_le (ru0_le (nt_le h))
theorem ruV_le {z : Nat} {n m : Int32} {k : Nat} {x : Int32} {q : xTq} (h : q.2 ≤ 40) : (ruV z n m k x q).2.2 ≤ 40 := by
  unfold ruV
  split
  · exact ru2_le h
  split
  · exact ru2_le (nt_le h)
  · exact ru0_le h
theorem te0_le {z : Nat} {n m x : Int32} {q : xTq} (h : q.2 ≤ 40) : (te0 z n m x q).2.2 ≤ 40 := toV_le (ruV_le (nt_le h))
theorem teV_le {z : Nat} {n m : Int32} {k : Nat} {x : Int32} {q : xTq} (h : q.2 ≤ 40) : (teV z n m k x q).2.2 ≤ 40 := by
  unfold teV
  split
  · exact shV_le (te0_le (nt_le h))
  split
  · exact te0_le (ruV_le (nt_le h))
  · exact te0_le h
abbrev PW (F v : xS) (q : xTq) : xW := xfill (va_up F 1 q.1) (va_up v 0 (va_up (v 0) 1 (nI q.2))) 0 (wP0 0)
theorem sp_note (F v : xS) (q : xTq) (b : Int32) (hq : q.2 ≤ 40) {K : xKo} (h : K none (PW F v (nt q b))) : C_P_note [.ref 0, .int b] (PW F v q) K := by
  refine xM_go rfl 60 [] fun P hP => ?_
  refine br_c (fun a => ?_) (fun a => ?_)
  · have a : nI 40 ≤ nI q.2 := a
    rw [nI_leI (by omega) (by omega)] at a
    unfold nt at h
    rw [if_neg (by omega)] at h
    exact h
  · have a : ¬ nI 40 ≤ nI q.2 := a
    rw [nI_leI (by omega) (by omega)] at a
    unfold nt at h
    rw [if_pos (by omega)] at h
    refine ⟨vp_in_nI (by omega) (by omega), ?_⟩
    have h2 : K none (xfill (va_up F 1 (upd q.1 (nat (nI q.2)) b)) (va_up v 0 (va_up (v 0) 1 (nI q.2 + 1))) 0 (wP0 0)) := by
      rw [show nat (nI q.2) = q.2 from nI_clamp (by omega), nI_1]
      exact h
    exact h2
set_option maxRecDepth 100000 in
theorem sp_sp (l : Nat) (F v : xS) (k a : Int32) (x : Int32) (d : Nat) (q : xTq) (hq : q.2 ≤ 40) (hd : d ≤ 40) (B : Int32) (hB : xBD (nat (4 * k + a)) = B) (hi : vp_in (4 * k + a) 28) {K : xKo} (h : xWP (pg_P_speak (G_speak l)) K 26 [(0, .ref 0), (1, .int k), (2, .int a), (3, .int x), (4, .int (nI d)), (5, .int B)] [] (PW F v (nt q B)) (0, 0)) : G_speak (l + 1) 0 [.ref 0, .int k, .int a, .int x, .int (nI d)] (PW F v q) K := by
  have eG : G_speak (l + 1) 0 = xM 7 (pg_P_speak (G_speak l)) := by simp only [G_speak]
  rw [eG]
  refine xM_go rfl 60 [(26, [0, 1, 2, 3, 4, 5])] fun P hP => ?_
  refine br_c (fun _ => ?_) (fun z => ?_)
  · refine ⟨rfl, hi, ?_⟩
    subst hB
    refine xcall (sp_note F v q _ hq ?_)
    refine hP _ _ _ _ _ ?_
    exact h
  · have z : ¬ nI d ≤ nI 40 := z
    rw [nI_leI (by omega) (by omega)] at z
    omega
set_option maxRecDepth 100000 in
theorem sp_b10 (c : Nat → xPT) (F v : xS) (k a x : Int32) (d : Nat) (q : xTq) {K : xKo} (h : K (some (.int (x + v 0 3))) (PW F v q)) : xWP (pg_P_speak c) K 26 [(0, .ref 0), (1, .int k), (2, .int a), (3, .int x), (4, .int (nI d)), (5, .int 10)] [] (PW F v q) (0, 0) := by
  refine xWP_go 60 [] fun P hP => ?_
  refine ⟨fun _ => ?_, fun z => absurd rfl z⟩
  exact h
set_option maxRecDepth 100000 in
theorem sp_b12 (c : Nat → xPT) (F v : xS) (k a x : Int32) (d : Nat) (q : xTq) {K : xKo} (h : K (some (.int (x - v 0 4))) (PW F v q)) : xWP (pg_P_speak c) K 26 [(0, .ref 0), (1, .int k), (2, .int a), (3, .int x), (4, .int (nI d)), (5, .int 12)] [] (PW F v q) (0, 0) := by
  refine xWP_go 60 [] fun P hP => ?_
  refine ⟨fun z => absurd z (by decide), fun _ => ?_⟩
  refine ⟨fun z => absurd z (by decide), fun _ => ?_⟩
  refine ⟨fun _ => ?_, fun z => absurd rfl z⟩
  exact h
set_option maxRecDepth 100000 in
theorem sp_b11 (c : Nat → xPT) (F v : xS) (k a x : Int32) (d : Nat) (q : xTq) (r1 : Int32 × xTq) (h1 : ∀ K2 : xKo, K2 (some (.int r1.1)) (PW F v r1.2) → c 0 [.ref 0, .int (v 0 2), .int 0, .int x, .int (nI (d + 1))] (PW F v q) K2) {K : xKo} (h : K (some (.int (r1.1 * 2))) (PW F v r1.2)) : xWP (pg_P_speak c) K 26 [(0, .ref 0), (1, .int k), (2, .int a), (3, .int x), (4, .int (nI d)), (5, .int 11)] [] (PW F v q) (0, 0) := by
  rw [← nI_1] at h1
  refine xWP_go 60 [] fun P hP => ?_
  refine ⟨fun z => absurd z (by decide), fun _ => ?_⟩
  refine ⟨fun _ => ?_, fun z => absurd rfl z⟩
  refine xcall (h1 _ ?_)
  exact h
set_option maxRecDepth 100000 in
theorem sp_b13 (c : Nat → xPT) (F v : xS) (k a x : Int32) (d : Nat) (q : xTq) (r1 : Int32 × xTq) (r2 : Int32 × xTq) (h1 : ∀ K2 : xKo, K2 (some (.int r1.1)) (PW F v r1.2) → c 0 [.ref 0, .int (v 0 2), .int 1, .int x, .int (nI (d + 1))] (PW F v q) K2) (h2 : ∀ K2 : xKo, K2 (some (.int r2.1)) (PW F v r2.2) → c 0 [.ref 0, .int (v 0 2), .int 2, .int x, .int (nI (d + 1))] (PW F v r1.2) K2) {K : xKo} (h : K (some (.int (r1.1 ^^^ r2.1))) (PW F v r2.2)) : xWP (pg_P_speak c) K 26 [(0, .ref 0), (1, .int k), (2, .int a), (3, .int x), (4, .int (nI d)), (5, .int 13)] [] (PW F v q) (0, 0) := by
  rw [← nI_1] at h1
  rw [← nI_1] at h2
  refine xWP_go 60 [] fun P hP => ?_
  refine ⟨fun z => absurd z (by decide), fun _ => ?_⟩
  refine ⟨fun z => absurd z (by decide), fun _ => ?_⟩
  refine ⟨fun z => absurd z (by decide), fun _ => ?_⟩
  refine ⟨fun _ => ?_, fun z => absurd rfl z⟩
  refine xcall (h1 _ ?_)
  refine xcall (h2 _ ?_)
  exact h
set_option maxRecDepth 100000 in
theorem sp_b20 (c : Nat → xPT) (F v : xS) (k a x : Int32) (d : Nat) (q : xTq) (r1 : Int32 × xTq) (h1 : ∀ K2 : xKo, K2 (some (.int r1.1)) (PW F v r1.2) → c 0 [.ref 0, .int 0, .int 0, .int x, .int (nI (d + 1))] (PW F v q) K2) {K : xKo} (h : K (some (.int (r1.1 * 3))) (PW F v r1.2)) : xWP (pg_P_speak c) K 26 [(0, .ref 0), (1, .int k), (2, .int a), (3, .int x), (4, .int (nI d)), (5, .int 20)] [] (PW F v q) (0, 0) := by
  rw [← nI_1] at h1
  refine xWP_go 60 [] fun P hP => ?_
  refine ⟨fun z => absurd z (by decide), fun _ => ?_⟩
  refine ⟨fun z => absurd z (by decide), fun _ => ?_⟩
  refine ⟨fun z => absurd z (by decide), fun _ => ?_⟩
  refine ⟨fun z => absurd z (by decide), fun _ => ?_⟩
  refine ⟨fun _ => ?_, fun z => absurd rfl z⟩
  refine xcall (h1 _ ?_)
  exact h
set_option maxRecDepth 100000 in
theorem sp_b30 (c : Nat → xPT) (F v : xS) (k a x : Int32) (d : Nat) (q : xTq) (r1 : Int32 × xTq) (r2 : Int32 × xTq) (h1 : ∀ K2 : xKo, K2 (some (.int r1.1)) (PW F v r1.2) → c 0 [.ref 0, .int 0, .int 1, .int x, .int (nI (d + 1))] (PW F v q) K2) (h2 : ∀ K2 : xKo, K2 (some (.int r2.1)) (PW F v r2.2) → c 0 [.ref 0, .int (v 0 2), .int 2, .int 1, .int (nI (d + 1))] (PW F v r1.2) K2) {K : xKo} (h : K (some (.int (r1.1 - r2.1))) (PW F v r2.2)) : xWP (pg_P_speak c) K 26 [(0, .ref 0), (1, .int k), (2, .int a), (3, .int x), (4, .int (nI d)), (5, .int 30)] [] (PW F v q) (0, 0) := by
  rw [← nI_1] at h1
  rw [← nI_1] at h2
  refine xWP_go 60 [] fun P hP => ?_
  refine ⟨fun z => absurd z (by decide), fun _ => ?_⟩
  refine ⟨fun z => absurd z (by decide), fun _ => ?_⟩
  refine ⟨fun z => absurd z (by decide), fun _ => ?_⟩
  refine ⟨fun z => absurd z (by decide), fun _ => ?_⟩
  refine ⟨fun z => absurd z (by decide), fun _ => ?_⟩
  refine ⟨fun _ => ?_, fun z => absurd rfl z⟩
  refine xcall (h1 _ ?_)
  refine xcall (h2 _ ?_)
  exact h
set_option maxRecDepth 100000 in
theorem sp_b40 (c : Nat → xPT) (F v : xS) (k a x : Int32) (d : Nat) (q : xTq) (r1 : Int32 × xTq) (h1 : ∀ K2 : xKo, K2 (some (.int r1.1)) (PW F v r1.2) → c 0 [.ref 0, .int 0, .int 2, .int x, .int (nI (d + 1))] (PW F v q) K2) {K : xKo} (h : K (some (.int (-r1.1))) (PW F v r1.2)) : xWP (pg_P_speak c) K 26 [(0, .ref 0), (1, .int k), (2, .int a), (3, .int x), (4, .int (nI d)), (5, .int 40)] [] (PW F v q) (0, 0) := by
  rw [← nI_1] at h1
  refine xWP_go 60 [] fun P hP => ?_
  refine ⟨fun z => absurd z (by decide), fun _ => ?_⟩
  refine ⟨fun z => absurd z (by decide), fun _ => ?_⟩
  refine ⟨fun z => absurd z (by decide), fun _ => ?_⟩
  refine ⟨fun z => absurd z (by decide), fun _ => ?_⟩
  refine ⟨fun z => absurd z (by decide), fun _ => ?_⟩
  refine ⟨fun z => absurd z (by decide), fun _ => ?_⟩
  refine ⟨fun _ => ?_, fun z => absurd rfl z⟩
  refine xcall (h1 _ ?_)
  exact h
set_option maxRecDepth 100000 in
theorem sp_b50 (c : Nat → xPT) (F v : xS) (k a x : Int32) (d : Nat) (q : xTq) (r1 : Int32 × xTq) (r2 : Int32 × xTq) (h1 : ∀ K2 : xKo, K2 (some (.int r1.1)) (PW F v r1.2) → c 0 [.ref 0, .int 1, .int 3, .int x, .int (nI (d + 1))] (PW F v q) K2) (h2 : ∀ K2 : xKo, K2 (some (.int r2.1)) (PW F v r2.2) → c 0 [.ref 0, .int (v 0 2), .int 0, .int 2, .int (nI (d + 1))] (PW F v r1.2) K2) {K : xKo} (h : K (some (.int (r1.1 - r2.1))) (PW F v r2.2)) : xWP (pg_P_speak c) K 26 [(0, .ref 0), (1, .int k), (2, .int a), (3, .int x), (4, .int (nI d)), (5, .int 50)] [] (PW F v q) (0, 0) := by
  rw [← nI_1] at h1
  rw [← nI_1] at h2
  refine xWP_go 60 [] fun P hP => ?_
  refine ⟨fun z => absurd z (by decide), fun _ => ?_⟩
  refine ⟨fun z => absurd z (by decide), fun _ => ?_⟩
  refine ⟨fun z => absurd z (by decide), fun _ => ?_⟩
  refine ⟨fun z => absurd z (by decide), fun _ => ?_⟩
  refine ⟨fun z => absurd z (by decide), fun _ => ?_⟩
  refine ⟨fun z => absurd z (by decide), fun _ => ?_⟩
  refine ⟨fun z => absurd z (by decide), fun _ => ?_⟩
  refine ⟨fun _ => ?_, fun z => absurd rfl z⟩
  refine xcall (h1 _ ?_)
  refine xcall (h2 _ ?_)
  exact h
set_option maxRecDepth 100000 in
theorem sp_b60 (c : Nat → xPT) (F v : xS) (k a x : Int32) (d : Nat) (q : xTq) (r1 : Int32 × xTq) (h1 : ∀ K2 : xKo, K2 (some (.int r1.1)) (PW F v r1.2) → c 0 [.ref 0, .int 2, .int 1, .int (x + 1), .int (nI (d + 1))] (PW F v q) K2) {K : xKo} (h : K (some (.int (r1.1))) (PW F v r1.2)) : xWP (pg_P_speak c) K 26 [(0, .ref 0), (1, .int k), (2, .int a), (3, .int x), (4, .int (nI d)), (5, .int 60)] [] (PW F v q) (0, 0) := by
  rw [← nI_1] at h1
  refine xWP_go 60 [] fun P hP => ?_
  refine ⟨fun z => absurd z (by decide), fun _ => ?_⟩
  refine ⟨fun z => absurd z (by decide), fun _ => ?_⟩
  refine ⟨fun z => absurd z (by decide), fun _ => ?_⟩
  refine ⟨fun z => absurd z (by decide), fun _ => ?_⟩
  refine ⟨fun z => absurd z (by decide), fun _ => ?_⟩
  refine ⟨fun z => absurd z (by decide), fun _ => ?_⟩
  refine ⟨fun z => absurd z (by decide), fun _ => ?_⟩
  refine ⟨fun z => absurd z (by decide), fun _ => ?_⟩
  refine ⟨fun _ => ?_, fun z => absurd rfl z⟩
  refine xcall (h1 _ ?_)
  exact h
set_option maxRecDepth 100000 in
theorem sp_b70 (c : Nat → xPT) (F v : xS) (k a x : Int32) (d : Nat) (q : xTq) (r1 : Int32 × xTq) (h1 : ∀ K2 : xKo, K2 (some (.int r1.1)) (PW F v r1.2) → c 0 [.ref 0, .int 3, .int 2, .int x, .int (nI (d + 1))] (PW F v q) K2) {K : xKo} (h : K (some (.int (r1.1 ^^^ v 0 3))) (PW F v r1.2)) : xWP (pg_P_speak c) K 26 [(0, .ref 0), (1, .int k), (2, .int a), (3, .int x), (4, .int (nI d)), (5, .int 70)] [] (PW F v q) (0, 0) := by
  rw [← nI_1] at h1
  refine xWP_go 60 [] fun P hP => ?_
  refine ⟨fun z => absurd z (by decide), fun _ => ?_⟩
  refine ⟨fun z => absurd z (by decide), fun _ => ?_⟩
  refine ⟨fun z => absurd z (by decide), fun _ => ?_⟩
  refine ⟨fun z => absurd z (by decide), fun _ => ?_⟩
  refine ⟨fun z => absurd z (by decide), fun _ => ?_⟩
  refine ⟨fun z => absurd z (by decide), fun _ => ?_⟩
  refine ⟨fun z => absurd z (by decide), fun _ => ?_⟩
  refine ⟨fun z => absurd z (by decide), fun _ => ?_⟩
  refine ⟨fun z => absurd z (by decide), fun _ => ?_⟩
  refine ⟨fun _ => ?_, fun z => absurd rfl z⟩
  refine xcall (h1 _ ?_)
  exact h
set_option maxRecDepth 100000 in
theorem sp_b71 (c : Nat → xPT) (F v : xS) (k a x : Int32) (d : Nat) (q : xTq) (r1 : Int32 × xTq) (r2 : Int32 × xTq) (h1 : ∀ K2 : xKo, K2 (some (.int r1.1)) (PW F v r1.2) → c 0 [.ref 0, .int (v 0 2), .int 1, .int x, .int (nI (d + 1))] (PW F v q) K2) (h2 : ∀ K2 : xKo, K2 (some (.int r2.1)) (PW F v r2.2) → c 0 [.ref 0, .int 3, .int 3, .int x, .int (nI (d + 1))] (PW F v r1.2) K2) {K : xKo} (h : K (some (.int (r1.1 - r2.1))) (PW F v r2.2)) : xWP (pg_P_speak c) K 26 [(0, .ref 0), (1, .int k), (2, .int a), (3, .int x), (4, .int (nI d)), (5, .int 71)] [] (PW F v q) (0, 0) := by
  rw [← nI_1] at h1
  rw [← nI_1] at h2
  refine xWP_go 60 [] fun P hP => ?_
  refine ⟨fun z => absurd z (by decide), fun _ => ?_⟩
  refine ⟨fun z => absurd z (by decide), fun _ => ?_⟩
  refine ⟨fun z => absurd z (by decide), fun _ => ?_⟩
  refine ⟨fun z => absurd z (by decide), fun _ => ?_⟩
  refine ⟨fun z => absurd z (by decide), fun _ => ?_⟩
  refine ⟨fun z => absurd z (by decide), fun _ => ?_⟩
  refine ⟨fun z => absurd z (by decide), fun _ => ?_⟩
  refine ⟨fun z => absurd z (by decide), fun _ => ?_⟩
  refine ⟨fun z => absurd z (by decide), fun _ => ?_⟩
  refine ⟨fun z => absurd z (by decide), fun _ => ?_⟩
  refine ⟨fun _ => ?_, fun z => absurd rfl z⟩
  refine xcall (h1 _ ?_)
  refine xcall (h2 _ ?_)
  exact h
set_option maxRecDepth 100000 in
theorem sp_sh (l : Nat) (F v : xS) (z : Nat) (hz : z < 7) (ez : v 0 2 = nI z) (k : Nat) (hk : k < 7) (x : Int32) (d : Nat) (q : xTq) (hq : q.2 ≤ 40) (hd : d + 2 ≤ 40) {K : xKo} (h : K (some (.int (shV k (v 0 3) x q).1)) (PW F v (shV k (v 0 3) x q).2)) : G_speak (l + 2) 0 [.ref 0, .int (nI k), .int 0, .int x, .int (nI d)] (PW F v q) K := by
  rcases (show k = 0 ∨ k = 1 ∨ k = 2 ∨ k = 3 ∨ k = 4 ∨ k = 5 ∨ k = 6 by omega) with e | e | e | e | e | e | e
  all_goals subst e
  · refine sp_sp (l + 1) F v (nI 0) 0 x d q hq (by omega) 10 (by decide) (vin (by decide)) ?_
    exact sp_b10 _ F v _ _ x d _ h
  · refine sp_sp (l + 1) F v (nI 1) 0 x d q hq (by omega) 20 (by decide) (vin (by decide)) ?_
    refine sp_b20 _ F v _ _ x d _ (x + v 0 3, nt (nt q 20) 10) (fun K2 g => ?_) ?_
    · exact sp_sp l F v 0 0 x (d + 1) (nt q 20) (nt_le hq) (by omega) 10 (by decide) (vin (by decide)) (sp_b10 _ F v _ _ x (d + 1) _ g)
    · exact h
  · refine sp_sp (l + 1) F v (nI 2) 0 x d q hq (by omega) 10 (by decide) (vin (by decide)) ?_
    exact sp_b10 _ F v _ _ x d _ h
  · refine sp_sp (l + 1) F v (nI 3) 0 x d q hq (by omega) 10 (by decide) (vin (by decide)) ?_
    exact sp_b10 _ F v _ _ x d _ h
  · refine sp_sp (l + 1) F v (nI 4) 0 x d q hq (by omega) 20 (by decide) (vin (by decide)) ?_
    refine sp_b20 _ F v _ _ x d _ (x + v 0 3, nt (nt q 20) 10) (fun K2 g => ?_) ?_
    · exact sp_sp l F v 0 0 x (d + 1) (nt q 20) (nt_le hq) (by omega) 10 (by decide) (vin (by decide)) (sp_b10 _ F v _ _ x (d + 1) _ g)
    · exact h
  · refine sp_sp (l + 1) F v (nI 5) 0 x d q hq (by omega) 10 (by decide) (vin (by decide)) ?_
    exact sp_b10 _ F v _ _ x d _ h
  · refine sp_sp (l + 1) F v (nI 6) 0 x d q hq (by omega) 10 (by decide) (vin (by decide)) ?_
    exact sp_b10 _ F v _ _ x d _ h
set_option maxRecDepth 100000 in
theorem sp_to (l : Nat) (F v : xS) (z : Nat) (hz : z < 7) (ez : v 0 2 = nI z) (k : Nat) (hk : k < 7) (x : Int32) (d : Nat) (q : xTq) (hq : q.2 ≤ 40) (hd : d + 3 ≤ 40) {K : xKo} (h : K (some (.int (toV k (v 0 3) (v 0 4) x q).1)) (PW F v (toV k (v 0 3) (v 0 4) x q).2)) : G_speak (l + 3) 0 [.ref 0, .int (nI k), .int 2, .int x, .int (nI d)] (PW F v q) K := by
  rcases (show k = 0 ∨ k = 1 ∨ k = 2 ∨ k = 3 ∨ k = 4 ∨ k = 5 ∨ k = 6 by omega) with e | e | e | e | e | e | e
  all_goals subst e
  · refine sp_sp (l + 2) F v (nI 0) 2 x d q hq (by omega) 12 (by decide) (vin (by decide)) ?_
    exact sp_b12 _ F v _ _ x d _ h
  · refine sp_sp (l + 2) F v (nI 1) 2 x d q hq (by omega) 12 (by decide) (vin (by decide)) ?_
    exact sp_b12 _ F v _ _ x d _ h
  · refine sp_sp (l + 2) F v (nI 2) 2 x d q hq (by omega) 12 (by decide) (vin (by decide)) ?_
    exact sp_b12 _ F v _ _ x d _ h
  · refine sp_sp (l + 2) F v (nI 3) 2 x d q hq (by omega) 40 (by decide) (vin (by decide)) ?_
    refine sp_b40 _ F v _ _ x d _ (x - v 0 4, nt (nt q 40) 12) (fun K2 g => ?_) ?_
    · exact sp_sp (l + 1) F v 0 2 x (d + 1) (nt q 40) (nt_le hq) (by omega) 12 (by decide) (vin (by decide)) (sp_b12 _ F v _ _ x (d + 1) _ g)
    · exact h
  · refine sp_sp (l + 2) F v (nI 4) 2 x d q hq (by omega) 12 (by decide) (vin (by decide)) ?_
    exact sp_b12 _ F v _ _ x d _ h
  · refine sp_sp (l + 2) F v (nI 5) 2 x d q hq (by omega) 12 (by decide) (vin (by decide)) ?_
    exact sp_b12 _ F v _ _ x d _ h
  · refine sp_sp (l + 2) F v (nI 6) 2 x d q hq (by omega) 70 (by decide) (vin (by decide)) ?_
    refine sp_b70 _ F v _ _ x d _ (-(x - v 0 4), nt (nt (nt q 70) 40) 12) (fun K2 g => ?_) ?_
    · refine sp_sp (l + 1) F v 3 2 x (d + 1) (nt q 70) (nt_le hq) (by omega) 40 (by decide) (vin (by decide)) ?_
      refine sp_b40 _ F v _ _ x (d + 1) _ (x - v 0 4, nt (nt (nt q 70) 40) 12) (fun K3 g3 => ?_) g
      exact sp_sp l F v 0 2 x (d + 2) (nt (nt q 70) 40) (nt_le (nt_le hq)) (by omega) 12 (by decide) (vin (by decide)) (sp_b12 _ F v _ _ x (d + 2) _ g3)
    · exact h
set_option maxRecDepth 100000 in
theorem sp_ru0 (l : Nat) (F v : xS) (z : Nat) (hz : z < 7) (ez : v 0 2 = nI z) (k : Int32) (x : Int32) (d : Nat) (q : xTq) (hq : q.2 ≤ 40) (hd : d + 3 ≤ 40) (hB : xBD (nat (4 * k + 1)) = 11) (hi : vp_in (4 * k + 1) 28) {K : xKo} (h : K (some (.int (ru0 z (v 0 3) x q).1)) (PW F v (ru0 z (v 0 3) x q).2)) : G_speak (l + 3) 0 [.ref 0, .int k, .int 1, .int x, .int (nI d)] (PW F v q) K := by
  refine sp_sp (l + 2) F v k 1 x d q hq (by omega) 11 hB hi ?_
  refine sp_b11 _ F v _ _ x d _ (shV z (v 0 3) x (nt q 11)) (fun K2 g => ?_) h
  rw [ez]
  exact sp_sh l F v z hz ez z hz x (d + 1) _ (nt_le hq) (by omega) g
set_option maxRecDepth 100000 in
theorem sp_ru2 (l : Nat) (F v : xS) (z : Nat) (hz : z < 7) (ez : v 0 2 = nI z) (x : Int32) (d : Nat) (q : xTq) (hq : q.2 ≤ 40) (hd : d + 4 ≤ 40) {K : xKo} (h : K (some (.int (ru2 z (v 0 3) (v 0 4) x q).1)) (PW F v (ru2 z (v 0 3) (v 0 4) x q).2)) : G_speak (l + 4) 0 [.ref 0, .int 2, .int 1, .int x, .int (nI d)] (PW F v q) K := by
  refine sp_sp (l + 3) F v 2 1 x d q hq (by omega) 30 (by decide) (vin (by decide)) ?_
  refine sp_b30 _ F v _ _ x d _ (ru0 z (v 0 3) x (nt q 30)) (toV z (v 0 3) (v 0 4) 1 (ru0 z (v 0 3) x (nt q 30)).2) (fun K2 g => ?_) (fun K2 g => ?_) h
  · exact sp_ru0 l F v z hz ez 0 x (d + 1) _ (nt_le hq) (by omega) (by decide) (vin (by decide)) g
  · rw [ez]
    exact sp_to l F v z hz ez z hz 1 (d + 1) _ (ru0_le (nt_le hq)) (by omega) g
set_option maxRecDepth 100000 in
theorem sp_ru (l : Nat) (F v : xS) (z : Nat) (hz : z < 7) (ez : v 0 2 = nI z) (k : Nat) (hk : k < 7) (x : Int32) (d : Nat) (q : xTq) (hq : q.2 ≤ 40) (hd : d + 5 ≤ 40) {K : xKo} (h : K (some (.int (ruV z (v 0 3) (v 0 4) k x q).1)) (PW F v (ruV z (v 0 3) (v 0 4) k x q).2)) : G_speak (l + 5) 0 [.ref 0, .int (nI k), .int 1, .int x, .int (nI d)] (PW F v q) K := by
  rcases (show k = 0 ∨ k = 1 ∨ k = 2 ∨ k = 3 ∨ k = 4 ∨ k = 5 ∨ k = 6 by omega) with e | e | e | e | e | e | e
  all_goals subst e
  · exact sp_ru0 (l + 2) F v z hz ez (nI 0) x d q hq (by omega) (by decide) (vin (by decide)) h
  · exact sp_ru0 (l + 2) F v z hz ez (nI 1) x d q hq (by omega) (by decide) (vin (by decide)) h
  · exact sp_ru2 (l + 1) F v z hz ez x d q hq (by omega) h
  · exact sp_ru0 (l + 2) F v z hz ez (nI 3) x d q hq (by omega) (by decide) (vin (by decide)) h
  · exact sp_ru0 (l + 2) F v z hz ez (nI 4) x d q hq (by omega) (by decide) (vin (by decide)) h
  · refine sp_sp (l + 4) F v (nI 5) 1 x d q hq (by omega) 60 (by decide) (vin (by decide)) ?_
    refine sp_b60 _ F v _ _ x d _ (ru2 z (v 0 3) (v 0 4) (x + 1) (nt q 60)) (fun K2 g => ?_) h
    exact sp_ru2 l F v z hz ez (x + 1) (d + 1) _ (nt_le hq) (by omega) g
  · exact sp_ru0 (l + 2) F v z hz ez (nI 6) x d q hq (by omega) (by decide) (vin (by decide)) h
set_option maxRecDepth 100000 in
theorem sp_te0 (l : Nat) (F v : xS) (z : Nat) (hz : z < 7) (ez : v 0 2 = nI z) (k : Int32) (x : Int32) (d : Nat) (q : xTq) (hq : q.2 ≤ 40) (hd : d + 6 ≤ 40) (hB : xBD (nat (4 * k + 3)) = 13) (hi : vp_in (4 * k + 3) 28) {K : xKo} (h : K (some (.int (te0 z (v 0 3) (v 0 4) x q).1)) (PW F v (te0 z (v 0 3) (v 0 4) x q).2)) : G_speak (l + 6) 0 [.ref 0, .int k, .int 3, .int x, .int (nI d)] (PW F v q) K := by
  refine sp_sp (l + 5) F v k 3 x d q hq (by omega) 13 hB hi ?_
  refine sp_b13 _ F v _ _ x d _ (ruV z (v 0 3) (v 0 4) z x (nt q 13)) (toV z (v 0 3) (v 0 4) x (ruV z (v 0 3) (v 0 4) z x (nt q 13)).2) (fun K2 g => ?_) (fun K2 g => ?_) h
  · rw [ez]
    exact sp_ru l F v z hz ez z hz x (d + 1) _ (nt_le hq) (by omega) g
  · rw [ez]
    exact sp_to (l + 2) F v z hz ez z hz x (d + 1) _ (ruV_le (nt_le hq)) (by omega) g
set_option maxRecDepth 100000 in
theorem sp_te (l : Nat) (F v : xS) (z : Nat) (hz : z < 7) (ez : v 0 2 = nI z) (k : Nat) (hk : k < 7) (x : Int32) (d : Nat) (q : xTq) (hq : q.2 ≤ 40) (hd : d + 7 ≤ 40) {K : xKo} (h : K (some (.int (teV z (v 0 3) (v 0 4) k x q).1)) (PW F v (teV z (v 0 3) (v 0 4) k x q).2)) : G_speak (l + 7) 0 [.ref 0, .int (nI k), .int 3, .int x, .int (nI d)] (PW F v q) K := by
  rcases (show k = 0 ∨ k = 1 ∨ k = 2 ∨ k = 3 ∨ k = 4 ∨ k = 5 ∨ k = 6 by omega) with e | e | e | e | e | e | e
  all_goals subst e
  · exact sp_te0 (l + 1) F v z hz ez (nI 0) x d q hq (by omega) (by decide) (vin (by decide)) h
  · exact sp_te0 (l + 1) F v z hz ez (nI 1) x d q hq (by omega) (by decide) (vin (by decide)) h
  · exact sp_te0 (l + 1) F v z hz ez (nI 2) x d q hq (by omega) (by decide) (vin (by decide)) h
  · exact sp_te0 (l + 1) F v z hz ez (nI 3) x d q hq (by omega) (by decide) (vin (by decide)) h
  · refine sp_sp (l + 6) F v (nI 4) 3 x d q hq (by omega) 50 (by decide) (vin (by decide)) ?_
    refine sp_b50 _ F v _ _ x d _ (te0 z (v 0 3) (v 0 4) x (nt q 50)) (shV z (v 0 3) 2 (te0 z (v 0 3) (v 0 4) x (nt q 50)).2) (fun K2 g => ?_) (fun K2 g => ?_) h
    · exact sp_te0 l F v z hz ez 1 x (d + 1) _ (nt_le hq) (by omega) (by decide) (vin (by decide)) g
    · rw [ez]
      exact sp_sh (l + 4) F v z hz ez z hz 2 (d + 1) _ (te0_le (nt_le hq)) (by omega) g
  · exact sp_te0 (l + 1) F v z hz ez (nI 5) x d q hq (by omega) (by decide) (vin (by decide)) h
  · refine sp_sp (l + 6) F v (nI 6) 3 x d q hq (by omega) 71 (by decide) (vin (by decide)) ?_
    refine sp_b71 _ F v _ _ x d _ (ruV z (v 0 3) (v 0 4) z x (nt q 71)) (te0 z (v 0 3) (v 0 4) x (ruV z (v 0 3) (v 0 4) z x (nt q 71)).2) (fun K2 g => ?_) (fun K2 g => ?_) h
    · rw [ez]
      exact sp_ru (l + 1) F v z hz ez z hz x (d + 1) _ (nt_le hq) (by omega) g
    · exact sp_te0 l F v z hz ez 3 x (d + 1) _ (ruV_le (nt_le hq)) (by omega) (by decide) (vin (by decide)) g
def voV (z : Nat) (n m a x : Int32) (f : Nat → Int32) : Int32 × xTq := if a = 0 then shV z n x (f, 0) else if a = 1 then ruV z n m z x (f, 0) else if a = 2 then toV z n m x (f, 0) else teV z n m z x (f, 0)
theorem voV_le {z : Nat} {n m a x : Int32} {f : Nat → Int32} : (voV z n m a x f).2.2 ≤ 40 := by
  have o : ((f, 0) : xTq).2 ≤ 40 := Nat.zero_le 40
  unfold voV
  split
  · exact shV_le o
  split
  · exact ruV_le o
  split
  · exact toV_le o
  · exact teV_le o
set_option maxRecDepth 100000 in
theorem sp_answer (F v : xS) (z : Nat) (hz : z < 7) (n m a x : Int32) (ha : xin a 4) {K : xKo} (h : K (some (.int (voV z n m a x (F 1)).1)) (xfill (va_up F 1 (voV z n m a x (F 1)).2.1) (va_up v 0 (va_up (va_up (va_up (va_up (v 0) 1 (nI (voV z n m a x (F 1)).2.2)) 2 (nI z)) 3 n) 4 m)) 0 (wP0 0))) : C_P_answer [.ref 0, .int (nI z), .int n, .int m, .int a, .int x] (xfill F v 0 (wP0 0)) K := by
  have o : ((F 1, 0) : xTq).2 ≤ 40 := Nat.zero_le 40
  have hV : ∀ V : Int32 × xTq, voV z n m a x (F 1) = V → K (some (.int V.1)) (PW F (va_up v 0 (va_up (va_up (va_up (v 0) 2 (nI z)) 3 n) 4 m)) V.2) := by
    intro V e
    subst e
    exact h
  refine xM_go rfl 60 [] fun P hP => ?_
  obtain ⟨j, hj, rfl, -⟩ := nI_ofx a ha (by decide)
  rcases (show j = 0 ∨ j = 1 ∨ j = 2 ∨ j = 3 by omega) with e | e | e | e
  all_goals subst e
  · exact xcall (sp_sh 10 F (va_up v 0 (va_up (va_up (va_up (v 0) 2 (nI z)) 3 n) 4 m)) z hz rfl z hz x 0 (F 1, 0) o (by omega) (hV _ rfl))
  · exact xcall (sp_ru 7 F (va_up v 0 (va_up (va_up (va_up (v 0) 2 (nI z)) 3 n) 4 m)) z hz rfl z hz x 0 (F 1, 0) o (by omega) (hV _ rfl))
  · exact xcall (sp_to 9 F (va_up v 0 (va_up (va_up (va_up (v 0) 2 (nI z)) 3 n) 4 m)) z hz rfl z hz x 0 (F 1, 0) o (by omega) (hV _ rfl))
  · exact xcall (sp_te 5 F (va_up v 0 (va_up (va_up (va_up (v 0) 2 (nI z)) 3 n) 4 m)) z hz rfl z hz x 0 (F 1, 0) o (by omega) (hV _ rfl))
def g_voice (c a x : Int32) (s : xA) : xA := if xin c (s.1 6 1).toInt ∧ xin a 4 then (s.1, s.2.1, va_up (va_up s.2.2 7 (voV (nat (s.1 2 (nat c))) c (s.1 3 (nat c)) a x (s.2.2 7)).2.1) 6 (upd (s.2.2 6) 1 (nI (voV (nat (s.1 2 (nat c))) c (s.1 3 (nat c)) a x (s.2.2 7)).2.2))) else s
def f_voice (c a x : Int32) (s : xA) : xAn := if xin c (s.1 6 1).toInt ∧ xin a 4 then ((voV (nat (s.1 2 (nat c))) c (s.1 3 (nat c)) a x (s.2.2 7)).1, 0) else (-1000000001, 1)
set_option maxRecDepth 100000 in
theorem hs_voice (n : Nat) (F v : xS) (I : aIv n (hA F v)) (S : hS Φ F v) (c a x : Int32) {K : xKo} (h : hTo Φ F v (g_voice c a x) (f_voice c a x) K) : C_H_voice [.ref 0, .int c, .int a, .int x] (xfill F v 0 wH0) K := by
  refine xM_go rfl 100 [] fun P hP => ?_
  refine xcall (sp_isChild F v _ (fun a1 => ?_) (fun a1 => ?_))
  · refine br_c (fun _ => ?_) (fun z => absurd rfl z)
    refine xcall (sp_errH F v 1 (by decide) ?_)
    exact h.err S (if_neg fun z => a1 z.1) (if_neg fun z => a1 z.1)
  refine br_c (fun z => absurd z (by decide)) (fun _ => ?_)
  refine xcall (sp_isBelow _ _ (fun a2 => ?_) (fun a2 => ?_))
  · refine br_n (fun z => absurd rfl z) (fun _ => ?_)
    refine xcall (sp_errH F v 1 (by decide) ?_)
    exact h.err S (if_neg fun z => a2 z.2) (if_neg fun z => a2 z.2)
  refine br_n (fun _ => ?_) (fun z => absurd z (by decide))
  have b : vp_in c 7 := vinB I.1.1.2.1 a1 (Nat.le_refl _) (by omega)
  have hc : nat c < nat (v 1 8) := xin_nat I.1.1.2.1 (by omega) a1
  obtain ⟨z, hz6, ez⟩ : below 6 (F 4 (nat c)) := I.1.2 (nat c) hc
  have hz : z < 7 := by omega
  have nz : nat (F 4 (nat c)) = z := by rw [ez]; exact nI_clamp (by omega)
  refine ⟨b, ?_⟩
  refine ⟨b, ?_⟩
  have fin : K (some (.int (voV z c (F 5 (nat c)) a x (F 59)).1)) (xfill (va_up F 59 (voV z c (F 5 (nat c)) a x (F 59)).2.1) (va_up v 58 (va_up (va_up (va_up (va_up (v 58) 1 (nI (voV z c (F 5 (nat c)) a x (F 59)).2.2)) 2 (nI z)) 3 c) 4 (F 5 (nat c)))) 0 wH0) := by
    refine h.ok (F' := va_up F 59 (voV z c (F 5 (nat c)) a x (F 59)).2.1) (v' := va_up v 58 (va_up (va_up (va_up (va_up (v 58) 1 (nI (voV z c (F 5 (nat c)) a x (F 59)).2.2)) 2 (nI z)) 3 c) 4 (F 5 (nat c)))) S ?_ ?_
    · have eg : g_voice c a x (hA F v) = ((hA F v).1, (hA F v).2.1, va_up (va_up (hA F v).2.2 7 (voV z c (F 5 (nat c)) a x (F 59)).2.1) 6 (upd ((hA F v).2.2 6) 1 (nI (voV z c (F 5 (nat c)) a x (F 59)).2.2))) := by
        rw [← nz]
        exact if_pos ⟨a1, a2⟩
      rw [eg]
      exact ⟨⟨⟨rfl, rfl, rfl, rfl, rfl, rfl⟩, fun _ _ => ⟨rfl, rfl⟩, fun _ _ => ⟨rfl, rfl⟩, fun _ _ => rfl, fun _ _ => rfl⟩, ⟨⟨fun _ _ => rfl, fun _ _ => rfl, fun _ _ => rfl, fun _ _ => rfl⟩, ⟨⟨rfl, rfl, rfl, rfl⟩, rfl, rfl, rfl, rfl⟩, ⟨rfl, rfl⟩, fun _ _ => rfl⟩, fun _ => ⟨⟨rfl, rfl, rfl, rfl, rfl, rfl⟩, fun _ _ => ⟨rfl, rfl⟩, fun _ _ => ⟨rfl, rfl⟩, fun _ _ => rfl, fun _ _ => rfl⟩⟩
    · rw [← nz]
      exact if_pos ⟨a1, a2⟩
  rw [show F (1 + 3) (nat c) = nI z from ez]
  exact xcall (sp_answer (fun k => F (58 + k)) (fun k => v (58 + k)) z hz c _ a x a2 fin)
end
section
/-! ===== the tried side: texts read, without their outcome ===== -/
variable {Φ : hRw → Prop}
theorem xgenW {w0 w' : xW} {Q : xW → Prop} {P : xS → xS → Prop} (h : ∀ F v, P F v → Q (xfill F v 0 w0)) (hs : xsame w0 w' = true) (hp : P (xarrs w') (xobjs w')) : Q w' := by
  rw [xsame_fill hs]
  exact h _ _ hp
theorem xM_at {n : Nat} {prog : List xEl} {av : List Value} {w : xW} {K : xKo} (hs : Nat.ble (lg_sl av).length n = true) (h : xWP prog K 0 (lv_args 0 av) [] w (0, 0)) : xM n prog av w K := by
  unfold xM
  rw [hs]
  exact h
def rI (v : xS) : Prop := below 50 (v 0 1) ∧ below 50 (v 0 3)
theorem below.suc {n : Nat} {x : Int32} (h : below 50 x) (z : ¬ nI 50 ≤ x) (hn : n = 50) : vp_in x n ∧ below 50 (x + 1) := by
  obtain ⟨k, hk, rfl⟩ := h
  subst hn
  rw [nI_leI (by omega) (by omega)] at z
  exact ⟨vp_in_nI (by omega) (by omega), k + 1, by omega, nI_1 _⟩
theorem below.pre {x : Int32} (h : below 50 x) (z : ¬ x = 0) : vp_in (x - 1) 50 ∧ below 50 (x - 1) := by
  obtain ⟨k, hk, rfl⟩ := h
  cases k with
  | zero => exact absurd rfl z
  | succ k =>
    rw [nI_pred]
    exact ⟨vp_in_nI (by omega) (by omega), k, by omega, rfl⟩
theorem below.pos {x : Int32} (h : below 50 x) (z : ¬ x ≤ 0) : ¬ x = 0 := fun e => z (by rw [e]; decide)
theorem sw_emit (F v : xS) (I : rI v) (x : Int32) {K : xKo} (h : ∀ F' s, below 50 s → K none (xfill F' (va_up v 0 (va_up (v 0) 1 s)) 0 (wR0 0))) : C_R_emit [.ref 0, .int x] (xfill F v 0 (wR0 0)) K := by
  refine xM_go rfl 60 [] fun P hP => ?_
  refine br_c (fun a => ?_) (fun a => ?_)
  · exact h F (v 0 1) I.1
  · obtain ⟨b1, b2⟩ := I.1.suc (n := 50) a rfl
    refine ⟨b1, ?_⟩
    exact h (va_up F 1 _) _ b2
theorem sw_hold (F v : xS) (I : rI v) (x : Int32) {K : xKo} (h : ∀ F' v', rI v' → K none (xfill F' v' 0 (wR0 0))) : C_R_hold [.ref 0, .int x] (xfill F v 0 (wR0 0)) K := by
  refine xM_go rfl 60 [] fun P hP => ?_
  refine br_c (fun a => ?_) (fun a => ?_)
  · exact h F v I
  · obtain ⟨b1, b2⟩ := I.2.suc (n := 50) a rfl
    refine ⟨b1, ?_⟩
    exact h (va_up F 2 _) (va_up v 0 (va_up (v 0) 3 (v 0 3 + 1))) ⟨I.1, b2⟩
theorem sw_rankOf (x : Int32) {K : xKo} (h : ∀ r, K (some (.int r)) []) : C_R_rankOf [.int x] [] K := by
  refine xM_go rfl 60 [] fun P hP => ?_
  refine ⟨fun _ => h _, fun _ => ?_⟩
  refine ⟨fun _ => h _, fun _ => ?_⟩
  refine ⟨fun _ => h _, fun _ => ?_⟩
  refine ⟨fun _ => h _, fun _ => ?_⟩
  refine ⟨fun _ => h _, fun _ => ?_⟩
  refine ⟨fun _ => h _, fun _ => ?_⟩
  refine ⟨fun _ => h _, fun _ => ?_⟩
  refine ⟨fun _ => h _, fun _ => ?_⟩
  refine ⟨fun _ => h _, fun _ => ?_⟩
  refine ⟨fun _ => h _, fun _ => ?_⟩
  exact h _
set_option maxRecDepth 100000 in
theorem sw_closeNots (F v : xS) (I : rI v) {K : xKo} (h : ∀ F' v', rI v' → K none (xfill F' v' 0 (wR0 0))) : C_R_closeNots [.ref 0] (xfill F v 0 (wR0 0)) K := by
  have key : ∀ (d : Nat) (F v : xS), rI v → v 0 3 = nI d → d ≤ 50 → xWP pg_R_closeNots K 0 [(0, .ref 0)] [] (xfill F v 0 (wR0 0)) (0, 0) := by
    intro d
    induction d with
    | zero =>
      intro F v I e hd
      refine xWP_go 100 [(0, [0])] fun P hP => ?_
      refine br_c (fun _ => h F v I) (fun z => ?_)
      have z : ¬ v 0 3 ≤ 0 := z
      rw [e] at z
      exact absurd (by decide) z
    | succ d ih =>
      intro F v I e hd
      have e1 : v 0 3 - 1 = nI d := by rw [e, nI_pred]
      have b1 : vp_in (v 0 3 - 1) 50 := by rw [e1]; exact vp_in_nI (by omega) (by omega)
      have nx : ∀ (F' : xS) (s u : Int32), below 50 s → xWP pg_R_closeNots K 0 [(0, .ref 0)] [] (xfill F' (va_up v 0 (va_up (va_up (va_up (v 0) 1 s) 4 u) 3 (v 0 3 - 1))) 0 (wR0 0)) (0, 0) := fun F' s u hs => ih F' _ ⟨hs, ⟨d, by omega, e1⟩⟩ e1 (by omega)
      refine xWP_go 100 [(0, [0])] fun P hP => ?_
      refine br_c (fun _ => h F v I) (fun _ => ?_)
      refine ⟨b1, ?_⟩
      refine br_n (fun _ => h F v I) (fun _ => ?_)
      refine xcall (sw_emit F v I _ (fun F' s hs => ?_))
      refine hP _ _ _ _ _ ?_
      exact nx F' s _ hs
  refine xM_at rfl ?_
  obtain ⟨k, hk, e⟩ := id I.2
  exact key k F v I e hk
set_option maxRecDepth 100000 in
theorem sw_release (F v : xS) (I : rI v) (x : Int32) {K : xKo} (h : ∀ F' v', rI v' → K none (xfill F' v' 0 (wR0 0))) : C_R_release [.ref 0, .int x] (xfill F v 0 (wR0 0)) K := by
  have key : ∀ (d : Nat) (F v : xS), rI v → v 0 3 = nI d → d ≤ 50 → xWP pg_R_release K 0 [(0, .ref 0), (1, .int x)] [] (xfill F v 0 (wR0 0)) (0, 0) := by
    intro d
    induction d with
    | zero =>
      intro F v I e hd
      refine xWP_go 100 [(0, [0, 1])] fun P hP => ?_
      refine br_c (fun _ => h F v I) (fun z => ?_)
      have z : ¬ v 0 3 ≤ 0 := z
      rw [e] at z
      exact absurd (by decide) z
    | succ d ih =>
      intro F v I e hd
      have e1 : v 0 3 - 1 = nI d := by rw [e, nI_pred]
      have b1 : vp_in (v 0 3 - 1) 50 := by rw [e1]; exact vp_in_nI (by omega) (by omega)
      have nx : ∀ (F' : xS) (s u : Int32), below 50 s → xWP pg_R_release K 0 [(0, .ref 0), (1, .int x)] [] (xfill F' (va_up v 0 (va_up (va_up (va_up (v 0) 1 s) 4 u) 3 (v 0 3 - 1))) 0 (wR0 0)) (0, 0) := fun F' s u hs => ih F' _ ⟨hs, ⟨d, by omega, e1⟩⟩ e1 (by omega)
      refine xWP_go 100 [(0, [0, 1])] fun P hP => ?_
      refine br_c (fun _ => h F v I) (fun _ => ?_)
      refine ⟨b1, ?_⟩
      refine xcall (sw_rankOf _ (fun r => ?_))
      refine br_c (fun _ => h F v I) (fun _ => ?_)
      refine ⟨b1, ?_⟩
      refine xcall (sw_emit F v I _ (fun F' s hs => ?_))
      refine hP _ _ _ _ _ ?_
      exact nx F' s (v 0 4) hs
  refine xM_at rfl ?_
  obtain ⟨k, hk, e⟩ := id I.2
  exact key k F v I e hk
set_option maxRecDepth 100000 in
theorem sw_readDigit (F v : xS) (I : rI v) (x : Int32) {K : xKo} (h : ∀ r F' v', rI v' → (r = 0 ∨ r = 1) → K (some (.int r)) (xfill F' v' 0 (wR0 0))) : C_R_readDigit [.ref 0, .int x] (xfill F v 0 (wR0 0)) K := by
  refine xM_go rfl 100 [] fun P hP => ?_
  refine br_c (fun _ => ?_) (fun _ => ?_)
  · refine br_c (fun _ => ?_) (fun _ => ?_)
    · exact ⟨Or.inl rfl, xgenP (K := K) (P := fun _ v => rI v) (fun F' v' p => h _ F' v' p (Or.inl rfl)) (by rfl) (by exact I)⟩
    refine br_c (fun _ => ?_) (fun _ => ?_)
    · exact ⟨Or.inl rfl, xgenP (K := K) (P := fun _ v => rI v) (fun F' v' p => h _ F' v' p (Or.inl rfl)) (by rfl) (by exact I)⟩
    refine br_n (fun a => ?_) (fun _ => ?_)
    · obtain ⟨b1, b2⟩ := I.1.pre a
      refine ⟨b1, ?_⟩
      refine ⟨b1, ?_⟩
      exact ⟨Or.inr rfl, xgenP (K := K) (P := fun _ v => rI v) (fun F' v' p => h _ F' v' p (Or.inr rfl)) (by rfl) (by exact I)⟩
    · exact ⟨Or.inl rfl, xgenP (K := K) (P := fun _ v => rI v) (fun F' v' p => h _ F' v' p (Or.inl rfl)) (by rfl) (by exact I)⟩
  · refine xcall (sw_emit F v I _ (fun F' s hs => ?_))
    refine ⟨Or.inl rfl, ?_⟩
    exact ⟨Or.inr rfl, xgenP (K := K) (P := fun _ v => rI v) (fun F' v' p => h _ F' v' p (Or.inr rfl)) (by rfl) (by exact ⟨hs, I.2⟩)⟩
theorem sw_readStart (F v : xS) (I : rI v) (x u : Int32) (hu : u = 0 ∨ u = 1) {K : xKo} (h : ∀ r F' v', rI v' → (r = 0 ∨ r = 1) → K (some (.int r)) (xfill F' v' 0 (wR0 0))) : C_R_readStart [.ref 0, .int x, .int u] (xfill F v 0 (wR0 0)) K := by
  have fin : xWP pg_R_readStart K 42 [(0, .ref 0), (1, .int x), (2, .int u), (3, .int 3)] [] (xfill F v 0 (wR0 0)) (0, 0) := by
    refine xWP_go 100 [] fun P hP => ?_
    refine br_c (fun _ => ?_) (fun _ => ?_)
    · refine br_n (fun _ => ?_) (fun _ => ?_)
      · refine xcall (sw_hold F v I _ (fun F' v' I' => ?_))
        exact ⟨Or.inr rfl, xgenP (K := K) (P := fun _ v => rI v) (fun F' v' p => h _ F' v' p (Or.inr rfl)) (by rfl) (by exact I')⟩
      · exact ⟨Or.inl rfl, xgenP (K := K) (P := fun _ v => rI v) (fun F' v' p => h _ F' v' p (Or.inl rfl)) (by rfl) (by exact I)⟩
    refine br_n (fun _ => ?_) (fun _ => ?_)
    · exact ⟨Or.inl rfl, xgenP (K := K) (P := fun _ v => rI v) (fun F' v' p => h _ F' v' p (Or.inl rfl)) (by rfl) (by exact I)⟩
    · refine br_n (fun _ => ?_) (fun _ => ?_)
      · refine xcall (sw_hold F v I _ (fun F' v' I' => ?_))
        exact ⟨Or.inr rfl, xgenP (K := K) (P := fun _ v => rI v) (fun F' v' p => h _ F' v' p (Or.inr rfl)) (by rfl) (by exact I')⟩
      · exact ⟨Or.inl rfl, xgenP (K := K) (P := fun _ v => rI v) (fun F' v' p => h _ F' v' p (Or.inl rfl)) (by rfl) (by exact I)⟩
  have key : ∀ (d i : Nat), i + d = 3 → xWP pg_R_readStart K 2 [(0, .ref 0), (1, .int x), (2, .int u), (3, .int (nI i))] [] (xfill F v 0 (wR0 0)) (0, 0) := by
    intro d
    induction d with
    | zero =>
      intro i hi
      have hi : i = 3 := hi
      subst hi
      refine xWP_go 100 [(2, [0, 1, 2, 3]), (42, [0, 1, 2, 3])] fun P hP => ?_
      refine br_c (fun _ => ?_) (fun z => absurd (by decide) z)
      refine hP _ _ _ _ _ ?_
      exact fin
    | succ d ih =>
      intro i hi
      refine xWP_go 100 [(2, [0, 1, 2, 3]), (42, [0, 1, 2, 3])] fun P hP => ?_
      refine br_c (fun z => ?_) (fun _ => ?_)
      · have z : nI 3 ≤ nI i := z
        rw [nI_leI (by omega) (by omega)] at z
        omega
      have b : vp_in (3 * u + nI i) 6 := by
        rcases (show i = 0 ∨ i = 1 ∨ i = 2 by omega) with e | e | e
        all_goals subst e
        all_goals rcases hu with e | e
        all_goals subst e
        all_goals exact vin (by decide)
      refine ⟨rfl, b, ?_⟩
      refine br_n (fun _ => ?_) (fun _ => ?_)
      · refine hP _ _ _ _ _ ?_
        rw [nI_1]
        exact ih (i + 1) (by omega)
      · refine xcall (sw_emit F v I _ (fun F' s hs => ?_))
        refine ⟨Or.inl rfl, ?_⟩
        exact ⟨Or.inr rfl, xgenP (K := K) (P := fun _ v => rI v) (fun F' v' p => h _ F' v' p (Or.inr rfl)) (by rfl) (by exact ⟨hs, I.2⟩)⟩
  refine xM_go rfl 100 [(2, [0, 1, 2, 3])] fun P hP => ?_
  refine hP _ _ _ _ _ ?_
  exact key 3 0 (by omega)
theorem sw_closeRound (F v : xS) (I : rI v) {K : xKo} (h : ∀ r F' v', rI v' → (r = 0 ∨ r = 1) → K (some (.int r)) (xfill F' v' 0 (wR0 0))) : C_R_closeRound [.ref 0] (xfill F v 0 (wR0 0)) K := by
  refine xM_go rfl 100 [] fun P hP => ?_
  refine xcall (sw_release F v I _ (fun F' v' I' => ?_))
  refine br_n (fun a => ?_) (fun _ => ?_)
  · obtain ⟨b1, b2⟩ := I'.2.pre a
    exact ⟨Or.inr rfl, xgenP (K := K) (P := fun _ v => rI v) (fun F' v' p => h _ F' v' p (Or.inr rfl)) (by rfl) (by exact ⟨I'.1, b2⟩)⟩
  · exact ⟨Or.inl rfl, xgenP (K := K) (P := fun _ v => rI v) (fun F' v' p => h _ F' v' p (Or.inl rfl)) (by rfl) (by exact I')⟩
theorem sw_isWhole (F v : xS) (I : rI v) {K : xKo} (h : ∀ r F' v', rI v' → (r = 0 ∨ r = 1) → K (some (.int r)) (xfill F' v' 0 (wR0 0))) : C_R_isWhole [.ref 0] (xfill F v 0 (wR0 0)) K := by
  refine xM_go rfl 100 [] fun P hP => ?_
  refine br_c (fun _ => ?_) (fun _ => ?_)
  · refine xcall (sw_closeNots F v I (fun F' v' I' => ?_))
    refine xcall (sw_release F' v' I' _ (fun F2 v2 I2 => ?_))
    refine br_n (fun _ => ?_) (fun _ => ?_)
    · exact ⟨Or.inl rfl, xgenP (K := K) (P := fun _ v => rI v) (fun F' v' p => h _ F' v' p (Or.inl rfl)) (by rfl) (by exact I2)⟩
    · exact ⟨Or.inr rfl, xgenP (K := K) (P := fun _ v => rI v) (fun F' v' p => h _ F' v' p (Or.inr rfl)) (by rfl) (by exact I2)⟩
  · exact ⟨Or.inl rfl, xgenP (K := K) (P := fun _ v => rI v) (fun F' v' p => h _ F' v' p (Or.inl rfl)) (by rfl) (by exact I)⟩
theorem sw_readNext (F v : xS) (I : rI v) (x : Int32) {K : xKo} (h : ∀ r F' v', rI v' → (r = 0 ∨ r = 1) → K (some (.int r)) (xfill F' v' 0 (wR0 0))) : C_R_readNext [.ref 0, .int x] (xfill F v 0 (wR0 0)) K := by
  refine xM_go rfl 100 [] fun P hP => ?_
  refine xcall (sw_closeNots F v I (fun F1 v1 I1 => ?_))
  refine br_n (fun _ => ?_) (fun _ => ?_)
  · refine xcall (sw_rankOf _ (fun r => ?_))
    refine br_c (fun _ => ?_) (fun _ => ?_)
    rotate_left
    · exact ⟨Or.inl rfl, xgenP (K := K) (P := fun _ v => rI v) (fun F' v' p => h _ F' v' p (Or.inl rfl)) (by rfl) (by exact I1)⟩
    refine br_n (fun _ => ?_) (fun _ => ?_)
    · refine xcall (sw_release F1 v1 I1 _ (fun F2 v2 I2 => ?_))
      refine xcall (sw_hold F2 v2 I2 _ (fun F3 v3 I3 => ?_))
      refine ⟨Or.inr rfl, ?_⟩
      exact ⟨Or.inr rfl, xgenP (K := K) (P := fun _ v => rI v) (fun F' v' p => h _ F' v' p (Or.inr rfl)) (by rfl) (by exact I3)⟩
    · refine xcall (sw_release F1 v1 I1 _ (fun F2 v2 I2 => ?_))
      refine br_c (fun _ => ?_) (fun a => ?_)
      · refine xcall (sw_hold F2 v2 I2 _ (fun F3 v3 I3 => ?_))
        refine ⟨Or.inr rfl, ?_⟩
        exact ⟨Or.inr rfl, xgenP (K := K) (P := fun _ v => rI v) (fun F' v' p => h _ F' v' p (Or.inr rfl)) (by rfl) (by exact I3)⟩
      · obtain ⟨b1, b2⟩ := I2.2.pre (I2.2.pos a)
        refine ⟨b1, ?_⟩
        refine xcall (sw_rankOf _ (fun r2 => ?_))
        refine br_n (fun _ => ?_) (fun _ => ?_)
        · refine xcall (sw_hold F2 v2 I2 _ (fun F3 v3 I3 => ?_))
          refine ⟨Or.inr rfl, ?_⟩
          exact ⟨Or.inr rfl, xgenP (K := K) (P := fun _ v => rI v) (fun F' v' p => h _ F' v' p (Or.inr rfl)) (by rfl) (by exact I3)⟩
        · exact ⟨Or.inl rfl, xgenP (K := K) (P := fun _ v => rI v) (fun F' v' p => h _ F' v' p (Or.inl rfl)) (by rfl) (by exact I2)⟩
  · refine xcall (sw_closeRound F1 v1 I1 (fun r F2 v2 I2 hr => ?_))
    exact ⟨hr, h _ F2 v2 I2 hr⟩
theorem sw_goesOn (F v : xS) (I : rI v) (x u : Int32) (hu : u = 0 ∨ u = 1) {K : xKo} (h : ∀ r F' v', rI v' → (r = 0 ∨ r = 1) → K (some (.int r)) (xfill F' v' 0 (wR0 0))) : C_R_goesOn [.ref 0, .int x, .int u] (xfill F v 0 (wR0 0)) K := by
  have I2 : rI (va_up v 0 (va_up (v 0) 5 0)) := I
  refine xM_go rfl 100 [] fun P hP => ?_
  refine br_c (fun _ => ?_) (fun _ => ?_)
  · refine br_c (fun _ => ?_) (fun _ => ?_)
    · refine xcall (sw_readNext F _ I2 x (fun r F2 v2 I2 hr => ?_))
      exact ⟨hr, h _ F2 v2 I2 hr⟩
    · refine xcall (sw_readStart F _ I2 x u hu (fun r F2 v2 I2 hr => ?_))
      exact ⟨hr, h _ F2 v2 I2 hr⟩
  refine br_c (fun _ => ?_) (fun _ => ?_)
  · refine br_c (fun _ => ?_) (fun _ => ?_)
    · refine xcall (sw_readNext F _ I2 x (fun r F2 v2 I2 hr => ?_))
      exact ⟨hr, h _ F2 v2 I2 hr⟩
    · refine xcall (sw_readStart F _ I2 x u hu (fun r F2 v2 I2 hr => ?_))
      exact ⟨hr, h _ F2 v2 I2 hr⟩
  · refine xcall (sw_readDigit F v I _ (fun r F2 v2 I2 hr => ?_))
    exact ⟨hr, h _ F2 v2 I2 hr⟩
set_option maxRecDepth 100000 in
theorem sw_faultOf (F v : xS) (g : Nat → Int32) (b u : Int32) (hb : below 50 b) (hu : u = 0 ∨ u = 1) {K : xKo} (h : ∀ r F' v', rI v' → K (some (.int r)) (xfill F' v' 0 (wR0 0) ++ [.inl (50, g)])) : C_R_faultOf [.ref 0, .ref 3, .int b, .int u] ((xfill F v 0 (wR0 0)) ++ [.inl (50, g)]) K := by
  obtain ⟨n, hn, rfl⟩ := hb
  have key : ∀ (d i : Nat) (F v : xS), i + d = n → rI v → xWP pg_R_faultOf K 36 [(0, .ref 0), (1, .ref 3), (2, .int (nI n)), (3, .int u), (4, .int (nI n)), (5, .int (nI i))] [] ((xfill F v 0 (wR0 0)) ++ [.inl (50, g)]) (0, 0) := by
    intro d
    induction d with
    | zero =>
      intro i F v hi I
      refine xWP_go 100 [(36, [0, 1, 2, 3, 4, 5])] fun P hP => ?_
      refine br_c (fun _ => ?_) (fun z => ?_)
      · refine xcall (sw_isWhole F v I (fun r F2 v2 I2 hr => ?_))
        refine br_c (fun _ => h _ F2 v2 I2) (fun _ => h _ F2 v2 I2)
      · have z : ¬ nI n ≤ nI i := z
        rw [nI_leI (by omega) (by omega)] at z
        omega
    | succ d ih =>
      intro i F v hi I
      refine xWP_go 100 [(36, [0, 1, 2, 3, 4, 5])] fun P hP => ?_
      refine br_c (fun z => ?_) (fun _ => ?_)
      · have z : nI n ≤ nI i := z
        rw [nI_leI (by omega) (by omega)] at z
        omega
      refine ⟨vp_in_nI (by omega) (by omega), ?_⟩
      refine xcall (sw_goesOn F v I _ u hu (fun r F2 v2 I2 hr => ?_))
      refine br_n (fun _ => ?_) (fun _ => ?_)
      · refine hP _ _ _ _ _ ?_
        rw [nI_1]
        exact ih (i + 1) F2 v2 (by omega) I2
      · exact h _ F2 v2 I2
  refine xM_go rfl 100 [(36, [0, 1, 2, 3, 4, 5])] fun P hP => ?_
  refine ⟨Or.inr rfl, ?_⟩
  refine xcall (sp_min _ _ ?_)
  rw [show (if nI n ≤ Int32.ofNat 50 then nI n else Int32.ofNat 50) = nI n from if_pos (nI_le hn (by decide))]
  refine hP _ _ _ _ _ ?_
  exact key n 0 F (va_up v 0 (va_up (va_up (va_up (va_up (va_up (v 0) 1 0) 3 0) 4 0) 5 0) 6 1)) (by omega) ⟨⟨0, by omega, rfl⟩, ⟨0, by omega, rfl⟩⟩
def g_text (u : Int32) (s : xA) : xA := if xin u 2 then (va_up s.1 6 (upd (s.1 6) 4 0), s.2) else s
end
section
/-! ===== the reference: texts, without their outcome ===== -/
def gI (v : xS) : Prop := (v 0 7 = 0 ∨ v 0 7 = 1) ∧ below 50 (v 0 8) ∧ (v 0 9).toInt ≤ 50
def gR (v v' : xS) : Prop := (∀ j, ¬ j = 8 → ¬ j = 14 → v' 0 j = v 0 j) ∧ below 50 (v' 0 8) ∧ nat (v 0 8) ≤ nat (v' 0 8)
theorem gR.rf {v : xS} (I : gI v) : gR v v := ⟨fun _ _ _ => rfl, I.2.1, Nat.le_refl _⟩
theorem gR.tr {v v' v2 : xS} (h : gR v v') (g : gR v' v2) : gR v v2 := ⟨fun j a b => (g.1 j a b).trans (h.1 j a b), g.2.1, Nat.le_trans h.2.2 g.2.2⟩
theorem gI.of {v v' : xS} (I : gI v) (h : gR v v') : gI v' := ⟨by rw [h.1 7 (by decide) (by decide)]; exact I.1, h.2.1, by rw [h.1 9 (by decide) (by decide)]; exact I.2.2⟩
abbrev A1 (v : xS) : xS := va_up v 0 (va_up (v 0) 8 (v 0 8 + 1))
abbrev A0 (v : xS) : xS := va_up v 0 (va_up (v 0) 14 0)
theorem gI.adv {v : xS} (I : gI v) (a : (v 0 8).toInt < (v 0 9).toInt) : below 50 (v 0 8 + 1) ∧ nat (v 0 8 + 1) = nat (v 0 8) + 1 := by
  obtain ⟨k, hk, e⟩ := I.2.1
  have c := I.2.2
  rw [e, nI_toInt (by omega)] at a
  rw [e, nI_1, show nat (nI (k + 1)) = k + 1 from nI_clamp (by omega), show nat (nI k) = k from nI_clamp (by omega)]
  exact ⟨⟨k + 1, by omega, rfl⟩, rfl⟩
theorem gR.adv {v : xS} (I : gI v) (a : (v 0 8).toInt < (v 0 9).toInt) : gR v (A1 v) := by
  obtain ⟨b, c⟩ := I.adv a
  refine ⟨fun j n8 n14 => ?_, b, ?_⟩
  · show va_up (v 0) 8 _ j = v 0 j
    exact if_neg n8
  · show nat (v 0 8) ≤ nat (v 0 8 + 1)
    omega
theorem gR.off {v : xS} (I : gI v) : gR v (A0 v) := ⟨fun j n8 n14 => if_neg n14, I.2.1, Nat.le_refl _⟩
theorem sw_byteAt (F v : xS) (k : Int32) (I : gI v) (hk : below 50 k) {K : xKo} (h : ∀ r, (¬ r = -1 → k.toInt < (v 0 9).toInt) → K (some (.int r)) (xfill F v 0 (wM0 0))) : C_M_byteAt [.ref 0, .int k] (xfill F v 0 (wM0 0)) K := by
  obtain ⟨q, hq, rfl⟩ := hk
  have eq : (nI q).toInt = q := nI_toInt (by omega)
  have I3 := I.2.2
  refine xM_go rfl 100 [] fun P hP => ?_
  refine br_c (fun _ => ?_) (fun a => ?_)
  · exact h _ (fun z => absurd rfl z)
  · have a : ¬ v 0 9 ≤ nI q := a
    rw [xle] at a
    have b : vp_in (130 + 50 * v 0 7 + nI q) 230 := by
      have hq : q < 50 := by omega
      rcases I.1 with e | e
      · rw [e, show (130 : Int32) + 50 * 0 = nI 130 by decide, nI_add]
        exact vp_in_nI (by omega) (by omega)
      · rw [e, show (130 : Int32) + 50 * 1 = nI 180 by decide, nI_add]
        exact vp_in_nI (by omega) (by omega)
    refine ⟨b, ?_⟩
    exact h _ (fun _ => by omega)
theorem sw_isDigit (c : Int32) {K : xKo} (h0 : K (some (.int 0)) []) (h1 : ¬ c = -1 → K (some (.int 1)) []) : C_M_isDigit [.int c] [] K := by
  refine xM_go rfl 100 [] fun P hP => ?_
  refine xcall (sp_in _ _ _ (fun a => ?_) (fun a => ?_))
  · exact ⟨Or.inl rfl, h0⟩
  · exact ⟨Or.inr rfl, h1 fun z => by rw [z] at a; exact absurd a (by decide)⟩
theorem sp_fails (F v : xS) {K : xKo} (h : K (some (.int 0)) (xfill F (A0 v) 0 (wM0 0))) : C_M_fails [.ref 0] (xfill F v 0 (wM0 0)) K := by
  refine xM_go rfl 100 [] fun P hP => ?_
  refine ⟨Or.inl rfl, ?_⟩
  exact h
set_option maxRecDepth 100000 in
theorem sw_number (F v : xS) (I : gI v) {K : xKo} (h : ∀ r v', gR v v' → K (some (.int r)) (xfill F v' 0 (wM0 0))) : C_M_number [.ref 0] (xfill F v 0 (wM0 0)) K := by
  have key : ∀ (d i : Nat) (x : Int32) (v' : xS), i + d = 4 → gR v v' → xWP pg_M_number K 4 [(0, .ref 0), (1, .int x), (2, .int (nI i))] [] (xfill F v' 0 (wM0 0)) (0, 0) := by
    intro d
    induction d with
    | zero =>
      intro i x v' hi R
      have hi : i = 4 := hi
      subst hi
      refine xWP_go 100 [(4, [0, 1, 2])] fun P hP => ?_
      exact br_c (fun _ => h _ _ R) (fun z => absurd (by decide) z)
    | succ d ih =>
      intro i x v' hi R
      have I' := I.of R
      refine xWP_go 100 [(4, [0, 1, 2])] fun P hP => ?_
      refine br_c (fun z => ?_) (fun _ => ?_)
      · have z : nI 4 ≤ nI i := z
        rw [nI_leI (by omega) (by omega)] at z
        omega
      refine xcall (sw_byteAt F v' _ I' I'.2.1 (fun r hr => ?_))
      refine xcall (sw_isDigit r ?_ (fun hn => ?_))
      · refine br_c (fun _ => h _ _ R) (fun z => absurd rfl z)
      refine br_c (fun z => absurd z (by decide)) (fun _ => ?_)
      refine xcall (sw_byteAt F v' _ I' I'.2.1 (fun r2 _ => ?_))
      refine hP _ _ _ _ _ ?_
      rw [nI_1]
      exact ih (i + 1) _ (A1 v') (by omega) (R.tr (gR.adv I' (hr hn)))
  refine xM_go rfl 100 [(4, [0, 1, 2])] fun P hP => ?_
  refine hP _ _ _ _ _ ?_
  exact key 4 0 0 v (by omega) (gR.rf I)
set_option maxRecDepth 100000 in
theorem sw_named (F v : xS) (I : gI v) (c : Int32) (hc : ¬ c = -1 → (v 0 8).toInt < (v 0 9).toInt) {K : xKo} (h : ∀ r v', gR v v' → K (some (.int r)) (xfill F v' 0 (wM0 0))) : C_M_named [.ref 0, .int c] (xfill F v 0 (wM0 0)) K := by
  have k91 : ¬ c = -1 → ∀ p q s : Int32, xWP pg_M_named K 91 [(0, .ref 0), (1, .int c), (2, .int p), (3, .int q), (4, .int s)] [] (xfill F v 0 (wM0 0)) (0, 0) := by
    intro n p q s
    refine xWP_go 100 [] fun P hP => ?_
    refine br_c (fun _ => ?_) (fun _ => h _ (A1 v) (gR.adv I (hc n)))
    exact br_c (fun _ => h _ (A1 v) (gR.adv I (hc n))) (fun _ => h _ (A1 v) (gR.adv I (hc n)))
  have k73 : ∀ (p q s : Int32), True → (¬ p = 0 → ¬ c = -1) → (¬ q = 0 → ¬ c = -1) → (¬ s = 0 → ¬ c = -1) → xWP pg_M_named K 73 [(0, .ref 0), (1, .int c), (2, .int p), (3, .int q), (4, .int s)] [] (xfill F v 0 (wM0 0)) (0, 0) := by
    intro p q s _ hp hq hs
    refine xWP_go 100 [(91, [0, 1, 2, 3, 4])] fun P hP => ?_
    refine br_n (fun a => ?_) (fun _ => ?_)
    · refine hP _ _ _ _ _ ?_
      exact k91 (hp a) _ _ _
    refine br_n (fun a => ?_) (fun _ => ?_)
    · refine hP _ _ _ _ _ ?_
      exact k91 (hq a) _ _ _
    refine br_n (fun a => ?_) (fun _ => ?_)
    · refine hP _ _ _ _ _ ?_
      exact k91 (hs a) _ _ _
    refine xcall (sp_fails F v ?_)
    exact h _ _ (gR.off I)
  have k48 : ∀ (p : Int32) (q : Int32), True → (¬ p = 0 → ¬ c = -1) → (¬ q = 0 → ¬ c = -1) → xWP pg_M_named K 48 [(0, .ref 0), (1, .int c), (2, .int p), (3, .int q)] [] (xfill F v 0 (wM0 0)) (0, 0) := by
    intro p q _ hp hq
    refine xWP_go 100 [(24, [0, 1, 2]), (48, [0, 1, 2, 3]), (73, [0, 1, 2, 3, 4])] fun P hP => ?_
    refine br_n (fun _ => ?_) (fun _ => ?_)
    all_goals
      refine br_n (fun _ => ?_) (fun a => ?_)
      · refine hP _ _ _ _ _ ?_
        exact k73 p q 0 trivial hp hq (fun z => absurd rfl z)
      · refine hP _ _ _ _ _ ?_
        exact k73 p q 1 trivial hp hq (fun _ z => by rw [z] at a; exact absurd a (by decide))
  have k24 : ∀ (p : Int32), True → (¬ p = 0 → ¬ c = -1) → xWP pg_M_named K 24 [(0, .ref 0), (1, .int c), (2, .int p)] [] (xfill F v 0 (wM0 0)) (0, 0) := by
    intro p _ hp
    refine xWP_go 100 [(24, [0, 1, 2]), (48, [0, 1, 2, 3]), (73, [0, 1, 2, 3, 4])] fun P hP => ?_
    refine br_n (fun _ => ?_) (fun _ => ?_)
    all_goals
      refine br_n (fun _ => ?_) (fun a => ?_)
      · refine hP _ _ _ _ _ ?_
        exact k48 p 0 trivial hp (fun z => absurd rfl z)
      · refine hP _ _ _ _ _ ?_
        exact k48 p 1 trivial hp (fun _ z => by rw [z] at a; exact absurd a (by decide))
  refine xM_go rfl 100 [(24, [0, 1, 2]), (48, [0, 1, 2, 3]), (73, [0, 1, 2, 3, 4])] fun P hP => ?_
  refine br_n (fun _ => ?_) (fun _ => ?_)
  all_goals
    refine br_n (fun _ => ?_) (fun a => ?_)
    · refine hP _ _ _ _ _ ?_
      exact k24 0 trivial (fun z => absurd rfl z)
    · refine hP _ _ _ _ _ ?_
      exact k24 1 trivial (fun _ z => by rw [z] at a; exact absurd a (by decide))
def gSpec (i n o : Nat) : Prop := ∀ (F v : xS) (K : xKo), gI v → v 0 10 = nI o → (∀ r v', gR v v' → K (some (.int r)) (xfill F v' 0 (wM0 0))) → G_gram n i [.ref 0] (xfill F v 0 (wM0 0)) K
theorem gR.o {v v' : xS} {o : Nat} (R : gR v v') (e : v 0 10 = nI o) : v' 0 10 = nI o := (R.1 10 (by decide) (by decide)).trans e
set_option maxRecDepth 100000 in
theorem g_product {n o : Nat} (hf : gSpec 0 n o) : gSpec 1 (n + 1) o := by
  intro F v K I e h
  have eG : G_gram (n + 1) 1 = xM 4 (pg_M_product (G_gram n)) := by simp only [G_gram]
  rw [eG]
  have key : ∀ (m : Nat) (y : Int32) (v' : xS), gR v v' → 50 ≤ nat (v' 0 8) + m → xWP (pg_M_product (G_gram n)) K 5 [(0, .ref 0), (1, .int y)] [] (xfill F v' 0 (wM0 0)) (0, 0) := by
    intro m
    induction m using Nat.strongRecOn with
    | ind m ih =>
      intro y v' R hm
      have I' := I.of R
      have nx : (v' 0 8).toInt < (v' 0 9).toInt → ∀ (y : Int32) (v2 : xS), gR (A1 v') v2 → xWP (pg_M_product (G_gram n)) K 5 [(0, .ref 0), (1, .int y)] [] (xfill F v2 0 (wM0 0)) (0, 0) := by
        intro a y v2 R2
        obtain ⟨b, c⟩ := I'.adv a
        have d : nat (v' 0 8 + 1) ≤ nat (v2 0 8) := R2.2.2
        have b5 := bel_nat b (by omega)
        exact ih (m - 1) (by omega) y v2 ((R.tr (gR.adv I' a)).tr R2) (by omega)
      have I2 : (v' 0 8).toInt < (v' 0 9).toInt → gI (A1 v') := fun a => I'.of (gR.adv I' a)
      have e2 : (v' 0 8).toInt < (v' 0 9).toInt → (A1 v') 0 10 = nI o := fun a => (gR.adv I' a).o (R.o e)
      have kJ : (v' 0 8).toInt < (v' 0 9).toInt → xWP (pg_M_product (G_gram n)) K 51 [(0, .ref 0), (1, .int y)] [] (xfill F v' 0 (wM0 0)) (0, 0) := by
        intro a
        refine xWP_go 200 [(5, [0, 1])] fun P hP => ?_
        refine xcall (sw_byteAt F v' _ I' I'.2.1 (fun r3 _ => ?_))
        refine xcall (hf F (A1 v') _ (I2 a) (e2 a) (fun w v2 R2 => ?_))
        refine br_n (fun _ => ?_) (fun _ => ?_)
        · refine br_n (fun wz => ?_) (fun _ => ?_)
          · refine br_n (fun _ => ?_) (fun _ => ?_)
            · refine ⟨wz, ?_⟩
              refine hP _ _ _ _ _ ?_
              exact nx a _ v2 R2
            · refine ⟨wz, ?_⟩
              refine hP _ _ _ _ _ ?_
              exact nx a _ v2 R2
          · skip
            refine hP _ _ _ _ _ ?_
            exact nx a _ v2 R2
        · skip
          refine hP _ _ _ _ _ ?_
          exact nx a _ v2 R2
      refine xWP_go 200 [(5, [0, 1]), (51, [0, 1])] fun P hP => ?_
      refine br_c (fun _ => h _ _ R) (fun _ => ?_)
      refine xcall (sw_byteAt F v' _ I' I'.2.1 (fun r0 h0 => ?_))
      refine br_c (fun a => ?_) (fun _ => ?_)
      · refine hP _ _ _ _ _ ?_
        exact kJ (h0 (fun z => by rw [z] at a; exact absurd a (by decide)))
      refine xcall (sw_byteAt F v' _ I' I'.2.1 (fun r1 h1 => ?_))
      refine br_c (fun a => ?_) (fun _ => ?_)
      · refine hP _ _ _ _ _ ?_
        exact kJ (h1 (fun z => by rw [z] at a; exact absurd a (by decide)))
      refine xcall (sw_byteAt F v' _ I' I'.2.1 (fun r2 h2 => ?_))
      refine br_n (fun _ => h _ _ R) (fun a => ?_)
      have a := h2 (fun z => by rw [z] at a; exact absurd a (by decide))
      refine hP _ _ _ _ _ ?_
      exact kJ a
  refine xM_go rfl 100 [(5, [0, 1]), (51, [0, 1])] fun P hP => ?_
  refine xcall (hf F v _ I e (fun w v2 R2 => ?_))
  refine hP _ _ _ _ _ ?_
  exact key 50 _ v2 R2 (by omega)
set_option maxRecDepth 100000 in
theorem g_sum {n o : Nat} (hf : gSpec 1 n o) : gSpec 2 (n + 1) o := by
  intro F v K I e h
  have eG : G_gram (n + 1) 2 = xM 4 (pg_M_sum (G_gram n)) := by simp only [G_gram]
  rw [eG]
  have key : ∀ (m : Nat) (y : Int32) (v' : xS), gR v v' → 50 ≤ nat (v' 0 8) + m → xWP (pg_M_sum (G_gram n)) K 5 [(0, .ref 0), (1, .int y)] [] (xfill F v' 0 (wM0 0)) (0, 0) := by
    intro m
    induction m using Nat.strongRecOn with
    | ind m ih =>
      intro y v' R hm
      have I' := I.of R
      have nx : (v' 0 8).toInt < (v' 0 9).toInt → ∀ (y : Int32) (v2 : xS), gR (A1 v') v2 → xWP (pg_M_sum (G_gram n)) K 5 [(0, .ref 0), (1, .int y)] [] (xfill F v2 0 (wM0 0)) (0, 0) := by
        intro a y v2 R2
        obtain ⟨b, c⟩ := I'.adv a
        have d : nat (v' 0 8 + 1) ≤ nat (v2 0 8) := R2.2.2
        have b5 := bel_nat b (by omega)
        exact ih (m - 1) (by omega) y v2 ((R.tr (gR.adv I' a)).tr R2) (by omega)
      have I2 : (v' 0 8).toInt < (v' 0 9).toInt → gI (A1 v') := fun a => I'.of (gR.adv I' a)
      have e2 : (v' 0 8).toInt < (v' 0 9).toInt → (A1 v') 0 10 = nI o := fun a => (gR.adv I' a).o (R.o e)
      have kJ : (v' 0 8).toInt < (v' 0 9).toInt → xWP (pg_M_sum (G_gram n)) K 38 [(0, .ref 0), (1, .int y)] [] (xfill F v' 0 (wM0 0)) (0, 0) := by
        intro a
        refine xWP_go 200 [(5, [0, 1])] fun P hP => ?_
        refine xcall (sw_byteAt F v' _ I' I'.2.1 (fun r3 _ => ?_))
        refine xcall (hf F (A1 v') _ (I2 a) (e2 a) (fun w v2 R2 => ?_))
        refine br_n (fun _ => ?_) (fun _ => ?_)
        · skip
          refine hP _ _ _ _ _ ?_
          exact nx a _ v2 R2
        · skip
          refine hP _ _ _ _ _ ?_
          exact nx a _ v2 R2
      refine xWP_go 200 [(5, [0, 1]), (38, [0, 1])] fun P hP => ?_
      refine br_c (fun _ => h _ _ R) (fun _ => ?_)
      refine xcall (sw_byteAt F v' _ I' I'.2.1 (fun r0 h0 => ?_))
      refine br_c (fun a => ?_) (fun _ => ?_)
      · refine hP _ _ _ _ _ ?_
        exact kJ (h0 (fun z => by rw [z] at a; exact absurd a (by decide)))
      refine xcall (sw_byteAt F v' _ I' I'.2.1 (fun r1 h1 => ?_))
      refine br_n (fun _ => h _ _ R) (fun a => ?_)
      have a := h1 (fun z => by rw [z] at a; exact absurd a (by decide))
      refine hP _ _ _ _ _ ?_
      exact kJ a
  refine xM_go rfl 100 [(5, [0, 1]), (38, [0, 1])] fun P hP => ?_
  refine xcall (hf F v _ I e (fun w v2 R2 => ?_))
  refine hP _ _ _ _ _ ?_
  exact key 50 _ v2 R2 (by omega)
set_option maxRecDepth 100000 in
theorem g_both {n o : Nat} (hf : gSpec 3 n o) : gSpec 4 (n + 1) o := by
  intro F v K I e h
  have eG : G_gram (n + 1) 4 = xM 3 (pg_M_both (G_gram n)) := by simp only [G_gram]
  rw [eG]
  have key : ∀ (m : Nat) (y : Int32) (v' : xS), gR v v' → 50 ≤ nat (v' 0 8) + m → xWP (pg_M_both (G_gram n)) K 5 [(0, .ref 0), (1, .int y)] [] (xfill F v' 0 (wM0 0)) (0, 0) := by
    intro m
    induction m using Nat.strongRecOn with
    | ind m ih =>
      intro y v' R hm
      have I' := I.of R
      have nx : (v' 0 8).toInt < (v' 0 9).toInt → ∀ (y : Int32) (v2 : xS), gR (A1 v') v2 → xWP (pg_M_both (G_gram n)) K 5 [(0, .ref 0), (1, .int y)] [] (xfill F v2 0 (wM0 0)) (0, 0) := by
        intro a y v2 R2
        obtain ⟨b, c⟩ := I'.adv a
        have d : nat (v' 0 8 + 1) ≤ nat (v2 0 8) := R2.2.2
        have b5 := bel_nat b (by omega)
        exact ih (m - 1) (by omega) y v2 ((R.tr (gR.adv I' a)).tr R2) (by omega)
      have I2 : (v' 0 8).toInt < (v' 0 9).toInt → gI (A1 v') := fun a => I'.of (gR.adv I' a)
      have e2 : (v' 0 8).toInt < (v' 0 9).toInt → (A1 v') 0 10 = nI o := fun a => (gR.adv I' a).o (R.o e)
      refine xWP_go 200 [(5, [0, 1])] fun P hP => ?_
      refine br_c (fun _ => h _ _ R) (fun _ => ?_)
      refine xcall (sw_byteAt F v' _ I' I'.2.1 (fun r0 h0 => ?_))
      refine br_n (fun _ => h _ _ R) (fun a => ?_)
      have a := h0 (fun z => by rw [z] at a; exact absurd a (by decide))
      refine xcall (hf F (A1 v') _ (I2 a) (e2 a) (fun w v2 R2 => ?_))
      refine br_c (fun _ => ?_) (fun _ => ?_)
      · skip
        refine hP _ _ _ _ _ ?_
        exact nx a _ v2 R2
      refine br_c (fun _ => ?_) (fun _ => ?_)
      · skip
        refine hP _ _ _ _ _ ?_
        exact nx a _ v2 R2
      · skip
        refine hP _ _ _ _ _ ?_
        exact nx a _ v2 R2
  refine xM_go rfl 100 [(5, [0, 1])] fun P hP => ?_
  refine xcall (hf F v _ I e (fun w v2 R2 => ?_))
  refine hP _ _ _ _ _ ?_
  exact key 50 _ v2 R2 (by omega)
set_option maxRecDepth 100000 in
theorem g_whole {n o : Nat} (hf : gSpec 4 n o) : gSpec 5 (n + 1) o := by
  intro F v K I e h
  have eG : G_gram (n + 1) 5 = xM 3 (pg_M_whole (G_gram n)) := by simp only [G_gram]
  rw [eG]
  have key : ∀ (m : Nat) (y : Int32) (v' : xS), gR v v' → 50 ≤ nat (v' 0 8) + m → xWP (pg_M_whole (G_gram n)) K 5 [(0, .ref 0), (1, .int y)] [] (xfill F v' 0 (wM0 0)) (0, 0) := by
    intro m
    induction m using Nat.strongRecOn with
    | ind m ih =>
      intro y v' R hm
      have I' := I.of R
      have nx : (v' 0 8).toInt < (v' 0 9).toInt → ∀ (y : Int32) (v2 : xS), gR (A1 v') v2 → xWP (pg_M_whole (G_gram n)) K 5 [(0, .ref 0), (1, .int y)] [] (xfill F v2 0 (wM0 0)) (0, 0) := by
        intro a y v2 R2
        obtain ⟨b, c⟩ := I'.adv a
        have d : nat (v' 0 8 + 1) ≤ nat (v2 0 8) := R2.2.2
        have b5 := bel_nat b (by omega)
        exact ih (m - 1) (by omega) y v2 ((R.tr (gR.adv I' a)).tr R2) (by omega)
      have I2 : (v' 0 8).toInt < (v' 0 9).toInt → gI (A1 v') := fun a => I'.of (gR.adv I' a)
      have e2 : (v' 0 8).toInt < (v' 0 9).toInt → (A1 v') 0 10 = nI o := fun a => (gR.adv I' a).o (R.o e)
      refine xWP_go 200 [(5, [0, 1])] fun P hP => ?_
      refine br_c (fun _ => h _ _ R) (fun _ => ?_)
      refine xcall (sw_byteAt F v' _ I' I'.2.1 (fun r0 h0 => ?_))
      refine br_n (fun _ => h _ _ R) (fun a => ?_)
      have a := h0 (fun z => by rw [z] at a; exact absurd a (by decide))
      refine xcall (hf F (A1 v') _ (I2 a) (e2 a) (fun w v2 R2 => ?_))
      refine br_n (fun _ => ?_) (fun _ => ?_)
      · skip
        refine hP _ _ _ _ _ ?_
        exact nx a _ v2 R2
      refine br_c (fun _ => ?_) (fun _ => ?_)
      · skip
        refine hP _ _ _ _ _ ?_
        exact nx a _ v2 R2
      · skip
        refine hP _ _ _ _ _ ?_
        exact nx a _ v2 R2
  refine xM_go rfl 100 [(5, [0, 1])] fun P hP => ?_
  refine xcall (hf F v _ I e (fun w v2 R2 => ?_))
  refine hP _ _ _ _ _ ?_
  exact key 50 _ v2 R2 (by omega)
set_option maxRecDepth 100000 in
theorem g_compared {n o : Nat} (hf : gSpec 2 n o) : gSpec 3 (n + 1) o := by
  intro F v K I e h
  have eG : G_gram (n + 1) 3 = xM 5 (pg_M_compared (G_gram n)) := by simp only [G_gram]
  rw [eG]
  have fin : ∀ (q : Int32) (ls : xL) (v' : xS), gR v v' → True := fun _ _ _ _ => trivial
  have k110 : ∀ (y s w q : Int32) (v' : xS), gR v v' → xWP (pg_M_compared (G_gram n)) K 108 [(0, .ref 0), (1, .int y), (2, .int s), (3, .int w)] [.int q] (xfill F v' 0 (wM0 0)) (0, 0) := by
    intro y s w q v' R
    refine xWP_go 100 [] fun P hP => ?_
    exact br_c (fun _ => h _ _ R) (fun _ => h _ _ R)
  have k45 : ∀ (y s : Int32) (v' : xS), gR v v' → (v' 0 8).toInt < (v' 0 9).toInt → xWP (pg_M_compared (G_gram n)) K 45 [(0, .ref 0), (1, .int y), (2, .int s)] [] (xfill F v' 0 (wM0 0)) (0, 0) := by
    intro y s v' R a
    have I' := I.of R
    have R1 := gR.adv I' a
    refine xWP_go 200 [(108, [0, 1, 2, 3])] fun P hP => ?_
    refine xcall (hf F (A1 v') _ (I'.of R1) (R1.o (R.o e)) (fun w v2 R2 => ?_))
    have go : ∀ q : Int32, xWP (pg_M_compared (G_gram n)) K 108 [(0, .ref 0), (1, .int y), (2, .int s), (3, .int w)] [.int q] (xfill F v2 0 (wM0 0)) (0, 0) := fun q => k110 _ _ _ _ _ ((R.tr R1).tr R2)
    refine br_n (fun _ => ?_) (fun _ => ?_)
    · refine br_n (fun _ => ?_) (fun _ => ?_)
      · refine br_c (fun _ => hP _ _ _ _ _ (go 0)) (fun _ => hP _ _ _ _ _ (go 1))
      · refine br_n (fun _ => hP _ _ _ _ _ (go 0)) (fun _ => hP _ _ _ _ _ (go 1))
    · refine br_c (fun _ => hP _ _ _ _ _ (go 0)) (fun _ => hP _ _ _ _ _ (go 1))
  have k25 : ∀ (y s : Int32) (v' : xS), gR v v' → (¬ s = -1 → (v' 0 8).toInt < (v' 0 9).toInt) → xWP (pg_M_compared (G_gram n)) K 25 [(0, .ref 0), (1, .int y), (2, .int s)] [] (xfill F v' 0 (wM0 0)) (0, 0) := by
    intro y s v' R a
    refine xWP_go 200 [(45, [0, 1, 2])] fun P hP => ?_
    refine br_c (fun b => hP _ _ _ _ _ (k45 _ _ _ R (a (fun z => by rw [z] at b; exact absurd b (by decide))))) (fun _ => ?_)
    refine br_c (fun b => hP _ _ _ _ _ (k45 _ _ _ R (a (fun z => by rw [z] at b; exact absurd b (by decide))))) (fun _ => ?_)
    exact br_c (fun b => hP _ _ _ _ _ (k45 _ _ _ R (a (fun z => by rw [z] at b; exact absurd b (by decide))))) (fun _ => h _ _ R)
  refine xM_go rfl 200 [(25, [0, 1, 2])] fun P hP => ?_
  refine xcall (hf F v _ I e (fun y v' R => ?_))
  have I' := I.of R
  refine br_c (fun _ => ?_) (fun _ => ?_)
  · exact hP _ _ _ _ _ (k25 _ _ _ R (fun z => absurd rfl z))
  · refine xcall (sw_byteAt F v' _ I' I'.2.1 (fun r hr => ?_))
    exact hP _ _ _ _ _ (k25 _ _ _ R hr)
set_option maxRecDepth 100000 in
theorem g_factor {n o : Nat} (ho : o ≤ 5) (hf : o < 5 → gSpec 0 n (o + 1) ∧ gSpec 5 n (o + 1)) : gSpec 0 (n + 1) o := by
  intro F v K I e h
  have eG : G_gram (n + 1) 0 = xM 3 (pg_M_factor (G_gram n)) := by simp only [G_gram]
  rw [eG]
  have k39 : ∀ c : Int32, (¬ c = -1 → (v 0 8).toInt < (v 0 9).toInt) → ¬ c = -1 → xWP (pg_M_factor (G_gram n)) K 39 [(0, .ref 0), (1, .int c)] [] (xfill F v 0 (wM0 0)) (0, 0) := by
    intro c hc nc
    have a := hc nc
    refine xWP_go 200 [(89, [0, 1])] fun P hP => ?_
    refine br_n (fun n5 => ?_) (fun _ => ?_)
    · have n5 : ¬ v 0 10 = nI 5 := n5
      have o5 : o < 5 := by
        by_cases z : o = 5
        · exact absurd (by rw [e, z]) n5
        · omega
      obtain ⟨f0, f5⟩ := hf o5
      have R1 : gR v (A1 v) := gR.adv I a
      obtain ⟨v1, ev1⟩ : ∃ v1, v1 = va_up v 0 (va_up (va_up (v 0) 10 (v 0 10 + 1)) 8 (v 0 8 + 1)) := ⟨_, rfl⟩
      have J1 : gI v1 := by rw [ev1]; exact ⟨I.1, (I.adv a).1, I.2.2⟩
      have J2 : v1 0 10 = nI (o + 1) := by rw [ev1, ← nI_1, ← e]; rfl
      have J3 : ∀ j, ¬ j = 8 → ¬ j = 10 → v1 0 j = v 0 j := by
        intro j n8 n10
        rw [ev1]
        exact (if_neg n8).trans (if_neg n10)
      have J4 : nat (v 0 8) ≤ nat (v1 0 8) := by rw [ev1]; exact R1.2.2
      have bk : ∀ (r : Int32) (v2 : xS), gR v1 v2 → xWP (pg_M_factor (G_gram n)) K 89 [(0, .ref 0), (1, .int c)] [.int r] (xfill F v2 0 (wM0 0)) (0, 0) := by
        intro r v2 R2
        have R3 : gR v (va_up v2 0 (va_up (v2 0) 10 (v2 0 10 - 1))) := by
          refine ⟨fun j n8 n14 => ?_, R2.2.1, Nat.le_trans J4 R2.2.2⟩
          show va_up (v2 0) 10 (v2 0 10 - 1) j = v 0 j
          by_cases n10 : j = 10
          · subst n10
            have q : va_up (v2 0) 10 (v2 0 10 - 1) 10 = v2 0 10 - 1 := rfl
            rw [q, R2.o J2, nI_pred, e]
          · exact (if_neg n10).trans ((R2.1 j n8 n14).trans (J3 j n8 n10))
        have I3 := I.of R3
        refine xWP_go 200 [] fun P hP => ?_
        refine br_n (fun _ => ?_) (fun _ => ?_)
        · refine br_c (fun _ => ?_) (fun _ => ?_)
          · refine xcall (sp_fails F (va_up v2 0 (va_up (v2 0) 10 (v2 0 10 - 1))) ?_)
            exact h _ _ (R3.tr (gR.off I3))
          · refine xcall (sw_byteAt F (va_up v2 0 (va_up (v2 0) 10 (v2 0 10 - 1))) _ I3 I3.2.1 (fun b hb => ?_))
            refine br_n (fun _ => ?_) (fun y => ?_)
            · refine xcall (sp_fails F (va_up v2 0 (va_up (v2 0) 10 (v2 0 10 - 1))) ?_)
              exact h _ _ (R3.tr (gR.off I3))
            · have y2 := hb (fun z => by rw [z] at y; exact absurd y (by decide))
              exact h _ (A1 (va_up v2 0 (va_up (v2 0) 10 (v2 0 10 - 1)))) (R3.tr (gR.adv I3 y2))
        · exact br_n (fun _ => h _ _ R3) (fun _ => h _ _ R3)
      refine br_n (fun _ => ?_) (fun _ => ?_)
      · refine xcall (f5 F (va_up v 0 (va_up (va_up (v 0) 10 (v 0 10 + 1)) 8 (v 0 8 + 1))) _ (by rw [← ev1]; exact J1) (by rw [← ev1]; exact J2) (fun r v2 R2 => ?_))
        exact hP _ _ _ _ _ (bk r v2 (by rw [ev1]; exact R2))
      · refine xcall (f0 F (va_up v 0 (va_up (va_up (v 0) 10 (v 0 10 + 1)) 8 (v 0 8 + 1))) _ (by rw [← ev1]; exact J1) (by rw [← ev1]; exact J2) (fun r v2 R2 => ?_))
        exact hP _ _ _ _ _ (bk r v2 (by rw [ev1]; exact R2))
    · refine xcall (sp_fails F v ?_)
      exact h _ _ (gR.off I)
  refine xM_go rfl 200 [(39, [0, 1])] fun P hP => ?_
  refine xcall (sw_byteAt F v _ I I.2.1 (fun c hc => ?_))
  refine xcall (sw_isDigit c ?_ (fun hn => ?_))
  · refine br_c (fun _ => ?_) (fun z => absurd rfl z)
    refine br_c (fun a => ?_) (fun _ => ?_)
    · exact hP _ _ _ _ _ (k39 c hc (fun z => by rw [z] at a; exact absurd a (by decide)))
    refine br_c (fun a => ?_) (fun _ => ?_)
    · exact hP _ _ _ _ _ (k39 c hc (fun z => by rw [z] at a; exact absurd a (by decide)))
    refine xcall (sw_named F v I c hc (fun r v' R => ?_))
    exact h _ _ R
  · refine br_c (fun z => absurd z (by decide)) (fun _ => ?_)
    refine xcall (sw_number F v I (fun r v' R => ?_))
    exact h _ _ R
theorem g_up {n o : Nat} (h : gSpec 0 n o) : gSpec 5 (n + 5) o := g_whole (g_both (g_compared (g_sum (g_product h))))
theorem g_all : ∀ (d o l : Nat), o + d = 5 → gSpec 0 (l + 6 * d + 1) o := by
  intro d
  induction d with
  | zero => exact fun o l e => g_factor (by omega) (fun z => by omega)
  | succ d ih =>
    intro o l e
    have q1 := ih (o + 1) (l + 5) (by omega)
    have q2 := g_up (ih (o + 1) l (by omega))
    rw [show l + 6 * d + 1 + 5 = l + 6 * (d + 1) by omega] at q2
    rw [show l + 5 + 6 * d + 1 = l + 6 * (d + 1) by omega] at q1
    exact g_factor (by omega) (fun _ => ⟨q1, q2⟩)
theorem g_text60 : gSpec 5 60 0 := g_up (g_all 5 0 24 (by omega))
end
