/-! ===== the reference: sheets ===== -/
variable {Ψ : mRw → Prop}
theorem vu_eq {α : Type} {f : Nat → α} {k : Nat} {x : α} : va_up f k x k = x := if_pos rfl
theorem vu_ne {α : Type} {f : Nat → α} {k c : Nat} {x : α} (h : ¬ c = k) : va_up f k x c = f c := if_neg h
theorem vu3 {α : Type} {f : Nat → α} {k c : Nat} {x y z : α} (h5 : ¬ c = 5) (h4 : ¬ c = 4) (hk : ¬ c = k) : va_up (va_up (va_up f k x) 4 y) 5 z c = f c := (if_neg h5).trans ((if_neg h4).trans (if_neg hk))
theorem and255 (a : BitVec 32) : a &&& 255#32 = (a.setWidth 8).setWidth 32 := by
  refine BitVec.eq_of_toNat_eq ?_
  rw [BitVec.toNat_and, BitVec.toNat_setWidth, BitVec.toNat_setWidth, show (255#32).toNat = 2 ^ 8 - 1 from rfl, Nat.and_two_pow_sub_one_eq_mod]
  have := a.isLt
  omega
theorem and65535 (a : BitVec 32) : a &&& 65535#32 = (a.setWidth 16).setWidth 32 := by
  refine BitVec.eq_of_toNat_eq ?_
  rw [BitVec.toNat_and, BitVec.toNat_setWidth, BitVec.toNat_setWidth, show (65535#32).toNat = 2 ^ 16 - 1 from rfl, Nat.and_two_pow_sub_one_eq_mod]
  have := a.isLt
  omega
theorem bare8 (x : Int32) : x.toInt8.toInt32 &&& 255 = x &&& 255 := by
  refine Int32.toBitVec_inj.mp ?_
  rw [Int32.toBitVec_and, Int32.toBitVec_and]
  show _ &&& 255#32 = _ &&& 255#32
  rw [and255, and255]
  have w : ∀ y : Int32, y.toBitVec.setWidth 8 = y.toInt8.toBitVec := fun y => by rw [Int32.toBitVec_toInt8, BitVec.signExtend_eq_setWidth_of_le _ (by decide)]
  rw [w, w, Int8.toInt8_toInt32]
theorem bare16 (x : Int32) : x.toInt16.toInt32 &&& 65535 = x &&& 65535 := by
  refine Int32.toBitVec_inj.mp ?_
  rw [Int32.toBitVec_and, Int32.toBitVec_and]
  show _ &&& 65535#32 = _ &&& 65535#32
  rw [and65535, and65535]
  have w : ∀ y : Int32, y.toBitVec.setWidth 16 = y.toInt16.toBitVec := fun y => by rw [Int32.toBitVec_toInt16, BitVec.signExtend_eq_setWidth_of_le _ (by decide)]
  rw [w, w, Int16.toInt16_toInt32]
theorem bare_sgn (b x : Int32) : bare b (sgn b x) = bare b x := by
  unfold bare sgn
  by_cases h : b = 8
  · rw [if_pos h, if_pos h, if_pos h]; exact bare8 x
  · rw [if_neg h, if_neg h, if_neg h]
    by_cases g : b = 16
    · rw [if_pos g, if_pos g, if_pos g]; exact bare16 x
    · rw [if_neg g, if_neg g, if_neg g]
theorem sgn_sgn (b x : Int32) : sgn b (sgn b x) = sgn b x := by
  unfold sgn
  by_cases h : b = 8
  · rw [if_pos h, if_pos h, Int8.toInt8_toInt32]
  · rw [if_neg h, if_neg h]
    by_cases g : b = 16
    · rw [if_pos g, if_pos g, Int16.toInt16_toInt32]
    · rw [if_neg g, if_neg g]
theorem bare_0 (b : Int32) : bare b 0 = 0 := by
  unfold bare
  split
  · decide
  split
  · decide
  · rfl
theorem sgn_0 (b : Int32) : sgn b 0 = 0 := by
  unfold sgn
  split
  · decide
  split
  · decide
  · rfl
theorem mSh {F v : xS} {k : Nat} (h : k < 4) : mRs F v k = fun j => bare (F 6 k) (F 8 (40 * k + j)) := by
  rcases (show k = 0 ∨ k = 1 ∨ k = 2 ∨ k = 3 by omega) with e | e | e | e
  all_goals subst e; rfl
theorem rAgr.mk2 {s q : xS} (h : ∀ k j, k < 4 → j < 40 → s k j = q k j) (h4 : ∀ k, k < 4 → s 4 k = q 4 k) (h5 : ∀ k, k < 4 → s 5 k = q 5 k) (h6 : s 6 = q 6) (h7 : s 7 = q 7) : rAgr s q := ⟨⟨fun j => h 0 j (by omega), fun j => h 1 j (by omega), fun j => h 2 j (by omega), fun j => h 3 j (by omega)⟩, ⟨⟨h4 0 (by omega), h4 1 (by omega), h4 2 (by omega), h4 3 (by omega)⟩, h5 0 (by omega), h5 1 (by omega), h5 2 (by omega), h5 3 (by omega)⟩, ⟨congrFun h6 0, congrFun h6 1⟩, fun j _ => congrFun h7 j⟩
theorem ix40 {k i : Nat} : (40 : Int32) * nI k + nI i = nI (40 * k + i) := by
  rw [show (40 : Int32) = nI 40 from rfl, nI_mul, nI_add]
theorem rI4 {n : Nat} {F v : xS} (I : aIv n (mA F v)) {k : Nat} (h : k < 4) : below 40 (F 7 k) := by
  have q := I.2.1.2.1
  rcases (show k = 0 ∨ k = 1 ∨ k = 2 ∨ k = 3 by omega) with e | e | e | e
  all_goals subst e
  · exact q.1
  · exact q.2.1
  · exact q.2.2.1
  · exact q.2.2.2
theorem sp_narrow (b x : Int32) {K : xKo} (h : K (some (.int (sgn b x))) []) : C_M_narrow [.int b, .int x] [] K := by
  unfold sgn at h
  refine xM_go rfl 60 [] fun P hP => ?_
  refine br_n (fun e => ?_) (fun e => ?_)
  · have e : ¬ b = 8 := e
    rw [if_neg e] at h
    refine br_n (fun d => ?_) (fun d => ?_)
    · have d : ¬ b = 16 := d
      rw [if_neg d] at h
      exact h
    · have d : b = 16 := d
      rw [if_pos d] at h
      exact h
  · have e : b = 8 := e
    rw [if_pos e] at h
    exact h
set_option maxRecDepth 100000 in
theorem ms_sheet (n : Nat) (F v : xS) (I : aIv n (mA F v)) (S : mS Ψ F v) (s b m : Int32) {K : xKo} (h : mTo Ψ F v (g_sheet s b m) (f_sheet s b m) K) : C_M_sheet [.ref 0, .int s, .int b, .int m] (xfill F v 0 (wM0 0)) K := by
  have W : ∀ (k : Nat) (z : Int32), k < 4 → s = nI k → (b = 0 ∨ ((b = 8 ∨ b = 16 ∨ b = 32) ∧ xin m 41)) → z = (if b = 0 then 0 else m) → ∀ (d i : Nat) (p : Nat → Int32), i + d = 40 → (∀ j, 40 * k ≤ j → j < 40 * k + i → p j = 0) → (∀ j, j < 40 * k ∨ 40 * k + 40 ≤ j → p j = F 8 j) → xWP pg_M_sheet K 93 [(0, .ref 0), (1, .int s), (2, .int b), (3, .int m), (4, .int (nI i))] [] (xfill (va_up (va_up (va_up F 6 (upd (F 6) k b)) 7 (upd (F 7) k z)) 8 p) v 0 (wM0 0)) (0, 0) := by
    intro k z hk es ok ez d
    subst es
    have ek : nat (nI k) = k := nI_clamp (by omega)
    have x4 : xin (nI k) 4 := ⟨by rw [nI_toInt (by omega)]; omega, by rw [nI_toInt (by omega)]; omega⟩
    induction d with
    | zero =>
      intro i p hi p0 p1
      have hi : i = 40 := hi
      subst hi
      refine xWP_go 100 [(36, [0, 1, 2, 3]), (93, [0, 1, 2, 3, 4])] fun P hP => ?_
      refine br_c (fun _ => ?_) (fun z => absurd (by decide) z)
      refine h.ok (F' := va_up (va_up (va_up F 6 (upd (F 6) k b)) 7 (upd (F 7) k z)) 8 p) (v' := v) ⟨S.1, S.2.1, S.2.2.1, S.2.2.2.1, fun s j hs hj => ?_⟩ ?_ ?_
      · show sgn (upd (F 6) k b s) (p (40 * s + j)) = p (40 * s + j)
        by_cases e : s = k
        · subst e
          rw [p0 _ (by omega) (by omega), sgn_0]
        · rw [pk_un e, p1 _ (by omega)]
          exact S.2.2.2.2 s j hs hj
      · rw [show g_sheet (nI k) b m (mA F v) = _ from if_pos ⟨x4, ok⟩, ek]
        refine ⟨sAgr.rf, rAgr.mk2 (fun c j hc hj => ?_) (fun c hc => ?_) (fun c hc => ?_) ?_ ?_, fun _ => sAgr.rf⟩
        · have e1 : va_up (va_up (va_up (mA F v).2.2 k (fun _ => 0)) 4 (upd ((mA F v).2.2 4) k (if b = 0 then 0 else m))) 5 (upd ((mA F v).2.2 5) k b) c = va_up (mA F v).2.2 k (fun _ => 0) c := (if_neg (by omega)).trans (if_neg (by omega))
          refine Eq.trans ?_ (congrFun e1 j).symm
          show mRs _ v c j = _
          rw [mSh hc]
          show bare (upd (F 6) k b c) (p (40 * c + j)) = _
          by_cases e : c = k
          · subst e
            rw [p0 _ (by omega) (by omega), bare_0]
            rw [vu_eq]
          · rw [pk_un e, p1 _ (by omega)]
            rw [vu_ne e]
            show _ = mRs F v c j
            rw [mSh hc]
        · show upd (F 7) k z c = upd (F 7) k (if b = 0 then 0 else m) c
          rw [ez]
        · rfl
        · show _ = va_up (va_up (va_up (mA F v).2.2 k (fun _ => 0)) 4 (upd ((mA F v).2.2 4) k (if b = 0 then 0 else m))) 5 (upd ((mA F v).2.2 5) k b) 6
          rw [vu3 (by omega) (by omega) (by omega)]
          rfl
        · show _ = va_up (va_up (va_up (mA F v).2.2 k (fun _ => 0)) 4 (upd ((mA F v).2.2 4) k (if b = 0 then 0 else m))) 5 (upd ((mA F v).2.2 5) k b) 7
          rw [vu3 (by omega) (by omega) (by omega)]
          rfl
      · have eb : b = 0 ∨ b = 8 ∨ b = 16 ∨ b = 32 := ok.elim Or.inl fun y => Or.inr y.1
        refine (if_pos ⟨x4, eb⟩).trans ?_
        by_cases b0 : b = 0
        · exact if_pos b0
        · have y := ok.resolve_left b0
          exact (if_neg b0).trans ((if_neg (by have := y.2.1; omega)).trans (if_neg (by have := y.2.2; omega)))
    | succ d ih =>
      intro i p hi p0 p1
      refine xWP_go 100 [(36, [0, 1, 2, 3]), (93, [0, 1, 2, 3, 4])] fun P hP => ?_
      refine br_c (fun z => ?_) (fun _ => ?_)
      · have z : nI 40 ≤ nI i := z
        rw [nI_leI (by omega) (by omega)] at z
        omega
      have bi : vp_in ((40 : Int32) * nI k + nI i) 160 := by rw [ix40]; exact vp_in_nI (by omega) (by omega)
      refine ⟨bi, ?_⟩
      refine hP _ _ _ _ _ ?_
      have q := ih (i + 1) (upd p (40 * k + i) 0) (by omega) (fun j h1 h2 => ?_) (fun j hj => ?_)
      · rw [← nI_1, show 40 * k + i = Int32.toNatClampNeg ((40 : Int32) * nI k + nI i) by rw [ix40]; exact (nI_clamp (by omega)).symm] at q
        exact q
      · by_cases e : j = 40 * k + i
        · subst e; exact pk_us
        · rw [pk_un e]; exact p0 j h1 (by omega)
      · rw [pk_un (by omega)]; exact p1 j hj
  have go : xin s 4 → (b = 0 ∨ b = 8 ∨ b = 16 ∨ b = 32) → xWP pg_M_sheet K 36 [(0, .ref 0), (1, .int s), (2, .int b), (3, .int m)] [] (xfill F v 0 (wM0 0)) (0, 0) := by
    intro a1 hb
    obtain ⟨k, hk, es, ek⟩ := nI_ofx s (n := 4) a1 (by decide)
    have bs : vp_in s 4 := vin a1
    have run : ∀ z : Int32, z = (if b = 0 then 0 else m) → (b = 0 ∨ ((b = 8 ∨ b = 16 ∨ b = 32) ∧ xin m 41)) → xWP pg_M_sheet K 93 [(0, .ref 0), (1, .int s), (2, .int b), (3, .int m), (4, .int 0)] [] (xfill (va_up (va_up F 6 (upd (F 6) (nat s) b)) 7 (upd (F 7) (nat s) z)) v 0 (wM0 0)) (0, 0) := by
      intro z ez ok
      rw [ek]
      exact W k z (by omega) es ok ez 40 0 (F 8) (by omega) (fun j h1 h2 => by omega) (fun j _ => rfl)
    refine xWP_go 200 [(36, [0, 1, 2, 3]), (93, [0, 1, 2, 3, 4])] fun P hP => ?_
    refine br_c (fun b0 => ?_) (fun b0 => ?_)
    · have b0 : b = 0 := b0
      refine br_c (fun _ => ?_) (fun z => absurd b0 z)
      refine ⟨bs, ?_⟩
      refine br_n (fun z => absurd b0 z) (fun _ => ?_)
      refine ⟨bs, ?_⟩
      exact hP _ _ _ _ _ (run 0 (if_pos b0).symm (Or.inl b0))
    · have b0 : ¬ b = 0 := b0
      have hb3 := hb.resolve_left b0
      refine br_c (fun c0 => ?_) (fun c0 => ?_)
      · have c0 : (0 : Int32) ≤ m := c0
        rw [xle, show (0 : Int32).toInt = 0 by decide] at c0
        refine br_c (fun z => absurd z b0) (fun _ => ?_)
        refine br_c (fun c1 => ?_) (fun c1 => ?_)
        · have c1 : m ≤ 40 := c1
          rw [xle, show (40 : Int32).toInt = 40 by decide] at c1
          refine ⟨bs, ?_⟩
          refine br_n (fun _ => ?_) (fun z => absurd z b0)
          refine ⟨bs, ?_⟩
          exact hP _ _ _ _ _ (run m (if_neg b0).symm (Or.inr ⟨hb3, c0, by omega⟩))
        · have c1 : ¬ m ≤ 40 := c1
          rw [xle, show (40 : Int32).toInt = 40 by decide] at c1
          refine xcall (sp_errM F v (-1000000001) 1 (by decide) (by decide) ?_)
          exact h.err S _ (if_neg fun z => by have q := (z.2.resolve_left b0).2.2; omega) ((if_pos ⟨a1, hb⟩).trans ((if_neg b0).trans ((if_neg (by omega)).trans (if_pos (by omega)))))
      · have c0 : ¬ (0 : Int32) ≤ m := c0
        rw [xle, show (0 : Int32).toInt = 0 by decide] at c0
        refine xcall (sp_errM F v (-1000000003) 3 (by decide) (by decide) ?_)
        exact h.err S _ (if_neg fun z => c0 (z.2.resolve_left b0).2.1) ((if_pos ⟨a1, hb⟩).trans ((if_neg b0).trans (if_pos (by omega))))
  refine xM_go rfl 200 [(36, [0, 1, 2, 3]), (93, [0, 1, 2, 3, 4])] fun P hP => ?_
  refine xcall (sp_isSheet _ (fun a1 => ?_) (fun a1 => ?_))
  · refine br_c (fun _ => ?_) (fun z => absurd rfl z)
    refine xcall (sp_errM F v (-1000000001) 1 (by decide) (by decide) ?_)
    exact h.err S _ (if_neg fun z => a1 z.1) (if_neg fun z => a1 z.1)
  refine br_c (fun z => absurd z (by decide)) (fun _ => ?_)
  refine br_c (fun e => hP _ _ _ _ _ (go a1 (Or.inl e))) (fun n0 => ?_)
  refine br_c (fun e => hP _ _ _ _ _ (go a1 (Or.inr (Or.inl e)))) (fun n1 => ?_)
  refine br_c (fun e => hP _ _ _ _ _ (go a1 (Or.inr (Or.inr (Or.inl e))))) (fun n2 => ?_)
  refine br_c (fun e => hP _ _ _ _ _ (go a1 (Or.inr (Or.inr (Or.inr e))))) (fun n3 => ?_)
  refine xcall (sp_errM F v (-1000000001) 1 (by decide) (by decide) ?_)
  refine h.err S _ (if_neg fun z => ?_) (if_neg fun z => ?_)
  · rcases z.2 with y | ⟨y | y | y, -⟩
    · exact n0 y
    · exact n1 y
    · exact n2 y
    · exact n3 y
  · rcases z.2 with y | y | y | y
    · exact n0 y
    · exact n1 y
    · exact n2 y
    · exact n3 y
set_option maxRecDepth 100000 in
theorem ms_put (n : Nat) (F v : xS) (I : aIv n (mA F v)) (S : mS Ψ F v) (s i x : Int32) {K : xKo} (h : mTo Ψ F v (g_put s i x) (f_put s i x) K) : C_M_put [.ref 0, .int s, .int i, .int x] (xfill F v 0 (wM0 0)) K := by
  refine xM_go rfl 200 [] fun P hP => ?_
  refine xcall (sp_isSheet _ (fun a1 => ?_) (fun a1 => ?_))
  · refine br_n (fun z => absurd rfl z) (fun _ => ?_)
    refine xcall (sp_errM F v (-1000000001) 1 (by decide) (by decide) ?_)
    exact h.err S _ (if_neg fun z => a1 z.1) (if_neg a1)
  refine br_n (fun _ => ?_) (fun z => absurd z (by decide))
  obtain ⟨k, hk, rfl, ek⟩ := nI_ofx s (n := 4) a1 (by decide)
  have bs : vp_in (nI k) 4 := vin a1
  have b40 : below 40 (F 7 k) := rI4 I (by omega)
  refine ⟨bs, ?_⟩
  refine br_n (fun c0 => ?_) (fun c0 => ?_)
  · have c0 : ¬ F 6 (nat (nI k)) = 0 := c0
    have c1 : ¬ F 6 k = 0 := by rw [ek] at c0; exact c0
    have e7 : F 7 (Int32.toNatClampNeg (nI k)) = F 7 k := by rw [show Int32.toNatClampNeg (nI k) = k from ek]
    have e6 : F 6 (Int32.toNatClampNeg (nI k)) = F 6 k := by rw [show Int32.toNatClampNeg (nI k) = k from ek]
    refine ⟨bs, ?_⟩
    refine xcall (sp_in _ _ _ (fun a2 => ?_) (fun a2 => ?_))
    · have a2 : ¬ xin i (F 7 k).toInt := fun z => a2 (by
        show (0 : Int32).toInt ≤ i.toInt ∧ i.toInt ≤ (F 7 (Int32.toNatClampNeg (nI k)) - 1).toInt
        rw [e7]
        exact (in_pre b40 (by omega)).mpr z)
      refine br_n (fun z => absurd rfl z) (fun _ => ?_)
      refine xcall (sp_errM F v (-1000000001) 1 (by decide) (by decide) ?_)
      exact h.err S _ (if_neg fun z => a2 (by have y := z.2.2; rw [ek] at y; exact y)) ((if_pos a1).trans ((if_neg c0).trans (if_neg (by show ¬ xin i (F 7 (nat (nI k))).toInt; rw [ek]; exact a2))))
    · have a2 : xin i (F 7 k).toInt := by
        have a2 : (0 : Int32).toInt ≤ i.toInt ∧ i.toInt ≤ (F 7 (Int32.toNatClampNeg (nI k)) - 1).toInt := a2
        rw [e7] at a2
        exact (in_pre b40 (by omega)).mp a2
      refine br_n (fun _ => ?_) (fun z => absurd z (by decide))
      obtain ⟨j, hj, rfl, ej, lt⟩ := xin_ex b40 (by omega) a2
      refine ⟨bs, ?_⟩
      refine xcall (sp_narrow _ _ ?_)
      have bi : vp_in ((40 : Int32) * nI k + nI j) 160 := by rw [ix40]; exact vp_in_nI (by omega) (by omega)
      refine ⟨bi, ?_⟩
      have fin : K (some (.int 1)) (xfill (va_up F 8 (upd (F 8) (40 * k + j) (sgn (F 6 k) x))) v 0 (wM0 0)) := by
        have gp : xin (nI k) 4 ∧ ¬ (mA F v).2.2 5 (nat (nI k)) = 0 ∧ xin (nI j) ((mA F v).2.2 4 (nat (nI k))).toInt := ⟨a1, c0, by show xin (nI j) (F 7 (nat (nI k))).toInt; rw [ek]; exact a2⟩
        refine h.ok (F' := va_up F 8 (upd (F 8) (40 * k + j) (sgn (F 6 k) x))) (v' := v) ⟨S.1, S.2.1, S.2.2.1, S.2.2.2.1, fun s l hs hl => ?_⟩ ?_ ((if_pos a1).trans ((if_neg c0).trans (if_pos gp.2.2)))
        · show sgn (F 6 s) (upd (F 8) (40 * k + j) (sgn (F 6 k) x) (40 * s + l)) = upd (F 8) (40 * k + j) (sgn (F 6 k) x) (40 * s + l)
          by_cases e : 40 * s + l = 40 * k + j
          · have es : s = k := by omega
            subst es
            rw [e, pk_us, sgn_sgn]
          · rw [pk_un e]
            exact S.2.2.2.2 s l hs hl
        · rw [show g_put (nI k) (nI j) x (mA F v) = _ from if_pos gp, ek, ej]
          refine ⟨sAgr.rf, rAgr.mk2 (fun c l hc hl => ?_) (fun c hc => ?_) (fun c hc => ?_) ?_ ?_, fun _ => sAgr.rf⟩
          · show mRs _ v c l = _
            rw [mSh hc]
            show bare (F 6 c) (upd (F 8) (40 * k + j) (sgn (F 6 k) x) (40 * c + l)) = va_up (mA F v).2.2 k (upd ((mA F v).2.2 k) j (bare ((mA F v).2.2 5 k) x)) c l
            by_cases ck : c = k
            · subst ck
              rw [vu_eq]
              by_cases lj : l = j
              · subst lj
                rw [pk_us, pk_us, bare_sgn]
                rfl
              · rw [pk_un (by omega), pk_un lj]
                show _ = mRs F v c l
                rw [mSh hc]
            · rw [vu_ne ck, pk_un (by omega)]
              show _ = mRs F v c l
              rw [mSh hc]
          · exact (congrFun (show va_up (mA F v).2.2 k _ 4 = (mA F v).2.2 4 from if_neg (by omega)) c).symm
          · exact (congrFun (show va_up (mA F v).2.2 k _ 5 = (mA F v).2.2 5 from if_neg (by omega)) c).symm
          · exact (show va_up (mA F v).2.2 k _ 6 = (mA F v).2.2 6 from if_neg (by omega)).symm
          · exact (show va_up (mA F v).2.2 k _ 7 = (mA F v).2.2 7 from if_neg (by omega)).symm
      rw [show 40 * k + j = Int32.toNatClampNeg ((40 : Int32) * nI k + nI j) by rw [ix40]; exact (nI_clamp (by omega)).symm, ← e6] at fin
      exact fin
  · have c0 : F 6 (nat (nI k)) = 0 := c0
    refine xcall (sp_errM F v (-1000000002) 2 (by decide) (by decide) ?_)
    exact h.err S _ (if_neg fun z => z.2.1 c0) ((if_pos a1).trans (if_pos c0))
