/-! ===== the reference: bytes fed, texts read ===== -/
variable {Ψ : mRw → Prop}
def byteM (w : Int64) (i : Nat) : Int32 := ((w >>> ((8 * nI i).toInt64 &&& 63)) &&& 255).toInt32
theorem sh8 (b : BitVec 64) (s : Nat) (h : s ≤ 56) : b.sshiftRight s &&& 255#64 = b >>> s &&& 255#64 := by
  refine BitVec.eq_of_getLsbD_eq fun i hi => ?_
  rw [BitVec.getLsbD_and, BitVec.getLsbD_and]
  by_cases c : i < 8
  · rw [BitVec.getLsbD_sshiftRight, BitVec.getLsbD_ushiftRight]
    have q : s + i < 64 := by omega
    have q2 : ¬ 64 ≤ i := by omega
    simp [q, q2]
  · have z : (255#64).getLsbD i = false := by
      have e : (255#64).getLsbD i = Nat.testBit 255 i := rfl
      rw [e]
      exact Nat.testBit_lt_two_pow (Nat.lt_of_lt_of_le (show 255 < 2 ^ 8 by decide) (Nat.pow_le_pow_right (by decide) (by omega)))
    rw [z, Bool.and_false, Bool.and_false]
theorem byteMH (w : Int64) (i : Nat) (h : i < 8) : byteM w i = byteH w i := by
  have key : ∀ s : Int64, (∃ n : Nat, n ≤ 56 ∧ s.toBitVec.smod 64 = BitVec.ofNat 64 n ∧ ((s.toUInt64 &&& Int64.toUInt64 63).toBitVec).toNat % 64 = n) → True := fun _ _ => trivial
  unfold byteM byteH
  refine congrArg Int64.toInt32 (Int64.toBitVec_inj.mp ?_)
  rcases (show i = 0 ∨ i = 1 ∨ i = 2 ∨ i = 3 ∨ i = 4 ∨ i = 5 ∨ i = 6 ∨ i = 7 by omega) with e | e | e | e | e | e | e | e
  all_goals subst e
  · exact sh8 w.toBitVec 0 (by decide)
  · exact sh8 w.toBitVec 8 (by decide)
  · exact sh8 w.toBitVec 16 (by decide)
  · exact sh8 w.toBitVec 24 (by decide)
  · exact sh8 w.toBitVec 32 (by decide)
  · exact sh8 w.toBitVec 40 (by decide)
  · exact sh8 w.toBitVec 48 (by decide)
  · exact sh8 w.toBitVec 56 (by decide)
set_option maxRecDepth 100000 in
theorem ms_feed (n : Nat) (F v : xS) (I : aIv n (mA F v)) (S : mS Ψ F v) (w : Int64) (c : Int32) {K : xKo} (h : mTo Ψ F v (g_feed w c) (f_feed w c) K) : C_M_feed [.ref 0, .long w, .int c] (xfill F v 0 (wM0 0)) K := by
  have b3 := bel_nat (show below 8 (F 1 3) from I.1.1.1) (by omega)
  have b2 := bel_nat (show below 7 (F 1 2) from I.1.1.2.1) (by omega)
  have b4 := bel_nat (show below 50 (F 1 4) from I.1.1.2.2.2.1) (by omega)
  have b5 := bel_nat (show below 20 (F 1 5) from I.1.1.2.2.2.2) (by omega)
  obtain ⟨nb, hb, e⟩ : below 50 (F 1 4) := I.1.1.2.2.2.1
  have eb : nat (F 1 4) = nb := by rw [e]; exact nI_clamp (by omega)
  refine xM_go rfl 200 [(40, [0, 1, 3, 4])] fun P hP => ?_
  refine xcall (sp_in _ _ _ (fun a1 => ?_) (fun a1 => ?_))
  · rw [show (1 : Int32).toInt = 1 by decide, show (8 : Int32).toInt = 8 by decide] at a1
    refine br_n (fun z => absurd rfl z) (fun _ => ?_)
    refine xcall (sp_errM F v (-1000000001) 1 (by decide) (by decide) ?_)
    exact h.err S _ (if_neg fun z => a1 z.1) (if_neg a1)
  rw [show (1 : Int32).toInt = 1 by decide, show (8 : Int32).toInt = 8 by decide] at a1
  refine br_n (fun _ => ?_) (fun z => absurd z (by decide))
  obtain ⟨m, hm, rfl, em⟩ := nI_ofx c (n := 9) ⟨by omega, by omega⟩ (by decide)
  have e4 : F 1 (Int32.toNatClampNeg 4) + nI m = nI (nb + m) := by rw [nq4, e, nI_add]
  refine ⟨vin (by decide), ?_⟩
  refine br_c (fun a3 => ?_) (fun a3 => ?_)
  · have a3 : F 1 (Int32.toNatClampNeg 4) + nI m ≤ nI 50 := a3
    rw [e4, nI_leI (by omega) (by omega)] at a3
    have c2 : nat (F 1 4) + nat (nI m) ≤ 50 := by omega
    have ib : ∀ i : Nat, (60 : Int32) + nI i = nI (60 + i) := fun i => by
      rw [show (60 : Int32) = nI 60 from rfl, nI_add]
    have key : ∀ (d i : Nat) (p : Nat → Int32), i + d = m → (∀ x, (x < 60 + nb ∨ 60 + nb + i ≤ x) → ¬ x = 4 → p x = F 1 x) → (∀ j, j < i → p (60 + nb + j) = byteH w j) → p 4 = nI (nb + i) → xWP pg_M_feed K 40 [(0, .ref 0), (1, .long w), (3, .int (nI m)), (4, .int (nI i))] [] (xfill (va_up F 1 p) v 0 (wM0 0)) (0, 0) := by
      intro d
      induction d with
      | zero =>
        intro i p hi p1 p2 p4
        have hi : i = m := hi
        subst hi
        refine xWP_go 200 [(40, [0, 1, 3, 4])] fun P hP => ?_
        refine br_c (fun _ => ?_) (fun z => absurd (nI_le (Nat.le_refl _) (by omega)) z)
        refine ⟨vin (by decide), ?_⟩
        have fin : K (some (.int (nI (nb + i)))) (xfill (va_up F 1 p) v 0 (wM0 0)) := by
          refine h.ok (F' := va_up F 1 p) (v' := v) (S.row (fun j hj => by have q := exi_in hj; exact p1 j (by omega) (by omega))) ?_ ((if_pos a1).trans ((if_pos c2).trans (by show nI (nat (F 1 4) + nat (nI i)) = nI (nb + i); rw [eb, em])))
          have eg : g_feed w (nI i) (mA F v) = (va_up (va_up (mA F v).1 4 (fedT (fun j => F 1 (60 + j)) w nb i)) 6 (upd ((mA F v).1 6) 4 (nI (nb + i))), (mA F v).2) := (if_pos ⟨a1, c2⟩).trans (by
            show (va_up (va_up (mA F v).1 4 (fedT (fun j => F 1 (60 + j)) w (nat (F 1 4)) (nat (nI i)))) 6 (upd ((mA F v).1 6) 4 (nI (nat (F 1 4) + nat (nI i)))), (mA F v).2) = _
            rw [eb, em])
          rw [eg]
          refine mrow ⟨⟨p1 3 (by omega) (by omega), p1 2 (by omega) (by omega), p1 0 (by omega) (by omega), p1 1 (by omega) (by omega), p4, p1 5 (by omega) (by omega)⟩, fun j hj => ?_, fun j hj => ?_, fun j hj => ?_, fun j hj => ?_⟩
          · have hj : j < nat (p 3) := hj
            rw [p1 3 (by omega) (by omega)] at hj
            exact ⟨p1 (9 + 2 * j) (by omega) (by omega), p1 (9 + 2 * j + 1) (by omega) (by omega)⟩
          · have hj : j < nat (p 2) := hj
            rw [p1 2 (by omega) (by omega)] at hj
            exact ⟨p1 (25 + 5 * j + 0) (by omega) (by omega), p1 (25 + 5 * j + 1) (by omega) (by omega)⟩
          · show p (60 + j) = fedT (fun j => F 1 (60 + j)) w nb i j
            unfold fedT
            by_cases g : nb ≤ j ∧ j < nb + i
            · rw [if_pos g]
              have q := p2 (j - nb) (by omega)
              rw [show 60 + nb + (j - nb) = 60 + j by omega] at q
              exact q
            · rw [if_neg g]
              exact p1 (60 + j) (by omega) (by omega)
          · have hj : j < nat (p 5) := hj
            rw [p1 5 (by omega) (by omega)] at hj
            exact p1 (110 + j) (by omega) (by omega)
        rw [← p4, ← nq4] at fin
        exact fin
      | succ d ih =>
        intro i p hi p1 p2 p4
        have p4' : p (Int32.toNatClampNeg 4) = nI (nb + i) := by rw [nq4]; exact p4
        have n60 : Int32.toNatClampNeg ((60 : Int32) + nI (nb + i)) = 60 + nb + i := by rw [ib, ← Nat.add_assoc]; exact nI_clamp (by omega)
        refine xWP_go 200 [(40, [0, 1, 3, 4])] fun P hP => ?_
        refine br_c (fun z => absurd z (nI_ge (by omega) (by omega))) (fun _ => ?_)
        refine ⟨vin (by decide), ?_⟩
        refine ⟨by show vp_in ((60 : Int32) + p (Int32.toNatClampNeg 4)) 230; rw [p4', ib]; exact vp_in_nI (by omega) (by omega), ?_⟩
        refine ⟨vin (by decide), ?_⟩
        refine ⟨vin (by decide), ?_⟩
        refine hP _ _ _ _ _ ?_
        have q := ih (i + 1) (upd (upd p (60 + nb + i) (byteH w i)) 4 (nI (nb + i) + 1)) (by omega) (fun x hx h4 => ?_) (fun j hj => ?_) ?_
        rotate_left
        · rw [pk_un h4, pk_un (by omega)]
          exact p1 x (by omega) h4
        · rw [pk_un (by omega)]
          by_cases ej : j = i
          · subst ej; exact pk_us
          · rw [pk_un (by omega)]; exact p2 j (by omega)
        · rw [pk_us, nI_1]
          rfl
        rw [← byteMH w i (by omega)] at q
        have er : upd (upd p (60 + nb + i) (byteM w i)) 4 (nI (nb + i) + 1) = upd (upd p (Int32.toNatClampNeg ((60 : Int32) + p (Int32.toNatClampNeg 4))) (byteM w i)) (Int32.toNatClampNeg 4) (upd p (Int32.toNatClampNeg ((60 : Int32) + p (Int32.toNatClampNeg 4))) (byteM w i) (Int32.toNatClampNeg 4) + 1) := by
          rw [p4', n60, nq4, pk_un (by omega), p4]
        rw [er, ← nI_1] at q
        exact q
    refine hP _ _ _ _ _ ?_
    exact key m 0 (F 1) (by omega) (fun x _ _ => rfl) (fun j hj => absurd hj (Nat.not_lt_zero j)) e
  · have a3 : ¬ F 1 (Int32.toNatClampNeg 4) + nI m ≤ nI 50 := a3
    rw [e4, nI_leI (by omega) (by omega)] at a3
    have c2 : ¬ nat (F 1 4) + nat (nI m) ≤ 50 := by omega
    refine xcall (sp_errM F v (-1000000004) 4 (by decide) (by decide) ?_)
    exact h.err S _ (if_neg fun z => c2 z.2) ((if_pos a1).trans (if_neg c2))
