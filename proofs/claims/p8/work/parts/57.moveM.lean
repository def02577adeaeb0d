/-! ===== the reference: sheets moved and read ===== -/
variable {Ψ : mRw → Prop}
set_option maxRecDepth 100000 in
theorem mv_run (F v : xS) (k l i j m : Nat) (hk : k < 4) (hl : l < 4) (hi : i + m ≤ 40) (hj : j + m ≤ 40) {K : xKo} (h : ∀ p g : Nat → Int32, (∀ x, x < m → p (40 * l + j + x) = F 8 (40 * k + i + x)) → (∀ x, (x < 40 * l + j ∨ 40 * l + j + m ≤ x) → p x = F 8 x) → K (some (.int (nI m))) (xfill (va_up (va_up F 9 g) 8 p) v 0 (wM0 0))) : xWP pg_M_move K 119 [(0, .ref 0), (1, .int (nI k)), (2, .int (nI i)), (3, .int (nI l)), (4, .int (nI j)), (5, .int (nI m)), (6, .int 0)] [] (xfill F v 0 (wM0 0)) (0, 0) := by
  have i3 : ∀ a b c : Nat, (40 : Int32) * nI a + nI b + nI c = nI (40 * a + b + c) := fun a b c => by rw [ix40, nI_add]
  have c3 : ∀ a b c : Nat, a < 4 → b < 41 → c < 41 → Int32.toNatClampNeg ((40 : Int32) * nI a + nI b + nI c) = 40 * a + b + c := fun a b c _ _ _ => by rw [i3]; exact nI_clamp (by omega)
  have two : ∀ (d x : Nat) (g p : Nat → Int32), x + d = m → (∀ y, y < m → g y = F 8 (40 * k + i + y)) → (∀ y, y < x → p (40 * l + j + y) = F 8 (40 * k + i + y)) → (∀ y, (y < 40 * l + j ∨ 40 * l + j + m ≤ y) → p y = F 8 y) → xWP pg_M_move K 156 [(0, .ref 0), (1, .int (nI k)), (2, .int (nI i)), (3, .int (nI l)), (4, .int (nI j)), (5, .int (nI m)), (6, .int (nI x))] [] (xfill (va_up (va_up F 9 g) 8 p) v 0 (wM0 0)) (0, 0) := by
    intro d
    induction d with
    | zero =>
      intro x g p hx hg p0 p1
      have hx : x = m := hx
      subst hx
      refine xWP_go 100 [(109, [0, 1, 2, 3, 4, 5]), (119, [0, 1, 2, 3, 4, 5, 6]), (156, [0, 1, 2, 3, 4, 5, 6])] fun P hP => ?_
      refine br_c (fun _ => h p g p0 p1) (fun z => absurd (nI_le (Nat.le_refl _) (by omega)) z)
    | succ d ih =>
      intro x g p hx hg p0 p1
      have ex : Int32.toNatClampNeg (nI x) = x := nI_clamp (by omega)
      refine xWP_go 100 [(109, [0, 1, 2, 3, 4, 5]), (119, [0, 1, 2, 3, 4, 5, 6]), (156, [0, 1, 2, 3, 4, 5, 6])] fun P hP => ?_
      refine br_c (fun z => absurd z (nI_ge (by omega) (by omega))) (fun _ => ?_)
      refine ⟨vp_in_nI (by omega) (by omega), ?_⟩
      refine ⟨by show vp_in ((40 : Int32) * nI l + nI j + nI x) 160; rw [i3]; exact vp_in_nI (by omega) (by omega), ?_⟩
      refine hP _ _ _ _ _ ?_
      have q := ih (x + 1) g (upd p (40 * l + j + x) (g x)) (by omega) hg (fun y hy => ?_) (fun y hy => ?_)
      · rw [← nI_1, ← c3 l j x hl (by omega) (by omega), show g x = g (Int32.toNatClampNeg (nI x)) by rw [ex]] at q
        exact q
      · by_cases e : y = x
        · subst e; rw [pk_us]; exact hg y (by omega)
        · rw [pk_un (by omega)]; exact p0 y (by omega)
      · rw [pk_un (by omega)]; exact p1 y hy
  have one : ∀ (d x : Nat) (g : Nat → Int32), x + d = m → (∀ y, y < x → g y = F 8 (40 * k + i + y)) → xWP pg_M_move K 119 [(0, .ref 0), (1, .int (nI k)), (2, .int (nI i)), (3, .int (nI l)), (4, .int (nI j)), (5, .int (nI m)), (6, .int (nI x))] [] (xfill (va_up F 9 g) v 0 (wM0 0)) (0, 0) := by
    intro d
    induction d with
    | zero =>
      intro x g hx hg
      have hx : x = m := hx
      subst hx
      refine xWP_go 100 [(109, [0, 1, 2, 3, 4, 5]), (119, [0, 1, 2, 3, 4, 5, 6]), (156, [0, 1, 2, 3, 4, 5, 6])] fun P hP => ?_
      refine br_c (fun _ => ?_) (fun z => absurd (nI_le (Nat.le_refl _) (by omega)) z)
      refine hP _ _ _ _ _ ?_
      exact two x 0 g (F 8) (by omega) hg (fun y hy => absurd hy (Nat.not_lt_zero y)) (fun y _ => rfl)
    | succ d ih =>
      intro x g hx hg
      refine xWP_go 100 [(109, [0, 1, 2, 3, 4, 5]), (119, [0, 1, 2, 3, 4, 5, 6]), (156, [0, 1, 2, 3, 4, 5, 6])] fun P hP => ?_
      refine br_c (fun z => absurd z (nI_ge (by omega) (by omega))) (fun _ => ?_)
      refine ⟨by show vp_in ((40 : Int32) * nI k + nI i + nI x) 160; rw [i3]; exact vp_in_nI (by omega) (by omega), ?_⟩
      refine ⟨vp_in_nI (by omega) (by omega), ?_⟩
      refine hP _ _ _ _ _ ?_
      have q := ih (x + 1) (upd g x (F 8 (40 * k + i + x))) (by omega) (fun y hy => ?_)
      · rw [← nI_1, ← c3 k i x hk (by omega) (by omega)] at q
        have ex : upd g x = upd g (Int32.toNatClampNeg (nI x)) := by rw [show Int32.toNatClampNeg (nI x) = x from nI_clamp (by omega)]
        rw [ex] at q
        exact q
      · by_cases e : y = x
        · subst e; rw [pk_us]
        · rw [pk_un e]; exact hg y (by omega)
  exact one m 0 (F 9) (by omega) (fun y hy => absurd hy (Nat.not_lt_zero y))
set_option maxRecDepth 100000 in
theorem ms_move (n : Nat) (F v : xS) (I : aIv n (mA F v)) (S : mS Ψ F v) (s i d j m : Int32) {K : xKo} (h : mTo Ψ F v (g_move s i d j m) (f_move s i d j m) K) : C_M_move [.ref 0, .int s, .int i, .int d, .int j, .int m] (xfill F v 0 (wM0 0)) K := by
  refine xM_go rfl 200 [(109, [0, 1, 2, 3, 4, 5]), (119, [0, 1, 2, 3, 4, 5, 6])] fun P hP => ?_
  refine xcall (sp_isSheet _ (fun a1 => ?_) (fun a1 => ?_))
  · refine br_c (fun _ => ?_) (fun z => absurd rfl z)
    refine xcall (sp_errM F v (-1000000001) 1 (by decide) (by decide) ?_)
    exact h.err S _ (if_neg fun z => a1 z.1.1) (if_neg fun z => a1 z.1)
  refine br_c (fun z => absurd z (by decide)) (fun _ => ?_)
  refine xcall (sp_isSheet _ (fun a2 => ?_) (fun a2 => ?_))
  · refine br_n (fun z => absurd rfl z) (fun _ => ?_)
    refine xcall (sp_errM F v (-1000000001) 1 (by decide) (by decide) ?_)
    exact h.err S _ (if_neg fun z => a2 z.1.2) (if_neg fun z => a2 z.2)
  refine br_n (fun _ => ?_) (fun z => absurd z (by decide))
  obtain ⟨k, hk, rfl, ek⟩ := nI_ofx s (n := 4) a1 (by decide)
  obtain ⟨l, hl, rfl, el⟩ := nI_ofx d (n := 4) a2 (by decide)
  have bk : vp_in (nI k) 4 := vin a1
  have bl : vp_in (nI l) 4 := vin a2
  have b40k : below 40 (F 7 k) := rI4 I (by omega)
  have b40l : below 40 (F 7 l) := rI4 I (by omega)
  have ek : Int32.toNatClampNeg (nI k) = k := ek
  have el : Int32.toNatClampNeg (nI l) = l := el
  refine ⟨bk, ?_⟩
  have miss : (F 6 k = 0 ∨ F 6 l = 0) → K (some (.int (-1000000002))) (xfill (va_up F 5 (upd (F 5) 2 (F 5 2 + 1))) v 0 (wM0 0)) := by
    intro z
    have u : (mA F v).2.2 5 (nat (nI k)) = 0 ∨ (mA F v).2.2 5 (nat (nI l)) = 0 := by rw [show nat (nI k) = k from ek, show nat (nI l) = l from el]; exact z
    exact h.err S _ (if_neg fun y => y.2.1 u) ((if_pos ⟨a1, a2⟩).trans (if_pos u))
  refine br_c (fun c0 => ?_) (fun c0 => ?_)
  · have c0 : F 6 (Int32.toNatClampNeg (nI k)) = 0 := c0
    rw [ek] at c0
    refine xcall (sp_errM F v (-1000000002) 2 (by decide) (by decide) ?_)
    exact miss (Or.inl c0)
  have c0 : ¬ F 6 (Int32.toNatClampNeg (nI k)) = 0 := c0
  refine ⟨bl, ?_⟩
  refine br_n (fun c1 => ?_) (fun c1 => ?_)
  rotate_left
  · have c1 : F 6 (Int32.toNatClampNeg (nI l)) = 0 := c1
    rw [el] at c1
    refine xcall (sp_errM F v (-1000000002) 2 (by decide) (by decide) ?_)
    exact miss (Or.inr c1)
  have c1 : ¬ F 6 (Int32.toNatClampNeg (nI l)) = 0 := c1
  rw [ek] at c0
  rw [el] at c1
  have u1 : ¬ ((mA F v).2.2 5 (nat (nI k)) = 0 ∨ (mA F v).2.2 5 (nat (nI l)) = 0) := by rw [show nat (nI k) = k from ek, show nat (nI l) = l from el]; exact fun z => z.elim c0 c1
  refine ⟨bk, ?_⟩
  refine ⟨bl, ?_⟩
  refine br_c (fun c2 => ?_) (fun c2 => ?_)
  rotate_left
  · have c2 : ¬ F 6 (Int32.toNatClampNeg (nI k)) = F 6 (Int32.toNatClampNeg (nI l)) := c2
    have u2 : ¬ (mA F v).2.2 5 (nat (nI k)) = (mA F v).2.2 5 (nat (nI l)) := c2
    refine xcall (sp_errM F v (-1000000005) 5 (by decide) (by decide) ?_)
    exact h.err S _ (if_neg fun y => u2 y.2.2.1) ((if_pos ⟨a1, a2⟩).trans ((if_neg u1).trans (if_neg u2)))
  have c2 : F 6 (Int32.toNatClampNeg (nI k)) = F 6 (Int32.toNatClampNeg (nI l)) := c2
  have u2 : (mA F v).2.2 5 (nat (nI k)) = (mA F v).2.2 5 (nat (nI l)) := c2
  have ru : runs i j m ((mA F v).2.2 4 (nat (nI k))) ((mA F v).2.2 4 (nat (nI l))) ↔ runs i j m (F 7 k) (F 7 l) := by
    rw [show nat (nI k) = k from ek, show nat (nI l) = l from el]
    exact Iff.rfl
  have bad : ¬ runs i j m (F 7 k) (F 7 l) → xWP pg_M_move K 109 [(0, .ref 0), (1, .int (nI k)), (2, .int i), (3, .int (nI l)), (4, .int j), (5, .int m)] [] (xfill F v 0 (wM0 0)) (0, 0) := by
    intro nr
    refine xWP_go 100 [] fun P hP => ?_
    refine xcall (sp_errM F v (-1000000001) 1 (by decide) (by decide) ?_)
    exact h.err S _ (if_neg fun y => nr (ru.mp y.2.2.2)) ((if_pos ⟨a1, a2⟩).trans ((if_neg u1).trans ((if_pos u2).trans (if_neg fun y => nr (ru.mp y)))))
  have tk : ∃ q : Nat, q ≤ 40 ∧ F 7 k = nI q := b40k
  have tl : ∃ q : Nat, q ≤ 40 ∧ F 7 l = nI q := b40l
  obtain ⟨qk, hqk, eqk⟩ := tk
  obtain ⟨ql, hql, eql⟩ := tl
  have tik : (F 7 k).toInt = qk := by rw [eqk]; exact nI_toInt (by omega)
  have til : (F 7 l).toInt = ql := by rw [eql]; exact nI_toInt (by omega)
  have o0 : (0 : Int32).toInt = 0 := by decide
  refine br_c (fun c3 => hP _ _ _ _ _ (bad fun y => ?_)) (fun c3 => ?_)
  · have c3 : m < 0 := c3
    rw [xlt] at c3
    have := y.1.2.1
    omega
  have c3 : ¬ m < 0 := c3
  rw [xlt] at c3
  refine br_c (fun c4 => hP _ _ _ _ _ (bad fun y => ?_)) (fun c4 => ?_)
  · have c4 : i < 0 := c4
    rw [xlt] at c4
    have := y.1.1
    omega
  have c4 : ¬ i < 0 := c4
  rw [xlt] at c4
  refine br_c (fun c5 => hP _ _ _ _ _ (bad fun y => ?_)) (fun c5 => ?_)
  · have c5 : j < 0 := c5
    rw [xlt] at c5
    have := y.2.1
    omega
  have c5 : ¬ j < 0 := c5
  rw [xlt] at c5
  have sub : ∀ (Z : Int32) (q : Nat), q ≤ 40 → Z = nI q → (Z - m).toInt = q - m.toInt := by
    intro Z q hq e
    have ml := m.toInt_lt
    rw [Int32.toInt_sub, e, nI_toInt (by omega)]
    exact Int.bmod_eq_of_le (by omega) (by omega)
  refine ⟨bk, ?_⟩
  refine br_c (fun c6 => hP _ _ _ _ _ (bad fun y => ?_)) (fun c6 => ?_)
  · have c6 : F 7 (Int32.toNatClampNeg (nI k)) - m < i := c6
    rw [ek, xlt, sub _ qk hqk eqk] at c6
    have := y.1.2.2
    omega
  have c6 : ¬ F 7 (Int32.toNatClampNeg (nI k)) - m < i := c6
  rw [ek, xlt, sub _ qk hqk eqk] at c6
  refine ⟨bl, ?_⟩
  refine br_c (fun c7 => ?_) (fun c7 => hP _ _ _ _ _ (bad fun y => ?_))
  rotate_left
  · have c7 : ¬ j ≤ F 7 (Int32.toNatClampNeg (nI l)) - m := c7
    rw [el, xle, sub _ ql hql eql] at c7
    have := y.2.2.2
    omega
  have c7 : j ≤ F 7 (Int32.toNatClampNeg (nI l)) - m := c7
  rw [el, xle, sub _ ql hql eql] at c7
  have r0 : runs i j m (F 7 k) (F 7 l) := ⟨⟨by omega, by omega, by omega⟩, by omega, by omega, by omega⟩
  obtain ⟨i', hi', rfl, ei⟩ := nI_ofx i (n := 41) ⟨by omega, by omega⟩ (by decide)
  obtain ⟨j', hj', rfl, ej⟩ := nI_ofx j (n := 41) ⟨by omega, by omega⟩ (by decide)
  obtain ⟨m', hm', rfl, em⟩ := nI_ofx m (n := 41) ⟨by omega, by omega⟩ (by decide)
  have ti : (nI i').toInt = i' := nI_toInt (by omega)
  have tj : (nI j').toInt = j' := nI_toInt (by omega)
  have tm : (nI m').toInt = m' := nI_toInt (by omega)
  refine hP _ _ _ _ _ ?_
  refine mv_run F v k l i' j' m' (by omega) (by omega) (by omega) (by omega) (fun p g p0 p1 => ?_)
  refine h.ok (F' := va_up (va_up F 9 g) 8 p) (v' := v) ⟨S.1, S.2.1, S.2.2.1, S.2.2.2.1, fun s x hs hx => ?_⟩ ?_ ((if_pos ⟨a1, a2⟩).trans ((if_neg u1).trans ((if_pos u2).trans (if_pos (ru.mpr r0)))))
  · show sgn (F 6 s) (p (40 * s + x)) = p (40 * s + x)
    by_cases e : 40 * l + j' ≤ 40 * s + x ∧ 40 * s + x < 40 * l + j' + m'
    · have es : s = l := by omega
      have q := p0 (40 * s + x - (40 * l + j')) (by omega)
      rw [show 40 * l + j' + (40 * s + x - (40 * l + j')) = 40 * s + x by omega] at q
      have c2 : F 6 k = F 6 l := by rw [ek, el] at c2; exact c2
      rw [q, es, ← c2, show 40 * k + i' + (40 * l + x - (40 * l + j')) = 40 * k + (i' + (x - j')) by omega]
      exact S.2.2.2.2 k _ (by omega) (by omega)
    · rw [p1 _ (by omega)]
      exact S.2.2.2.2 s x hs hx
  · rw [show g_move (nI k) (nI i') (nI l) (nI j') (nI m') (mA F v) = _ from if_pos ⟨⟨a1, a2⟩, u1, u2, ru.mpr r0⟩, show nat (nI k) = k from ek, show nat (nI l) = l from el, ei, ej, em]
    refine ⟨sAgr.rf, rAgr.mk2 (fun c x hc hx => ?_) (fun c hc => ?_) (fun c hc => ?_) ?_ ?_, fun _ => sAgr.rf⟩
    · show mRs _ v c x = _
      rw [mSh hc]
      show bare (F 6 c) (p (40 * c + x)) = va_up (mA F v).2.2 l (va_cpy ((mA F v).2.2 k) ((mA F v).2.2 l) i' j' m') c x
      by_cases cl : c = l
      · subst cl
        rw [vu_eq]
        by_cases e : j' ≤ x ∧ x < j' + m'
        · rw [pk_cpy_in e.1 e.2]
          have q := p0 (x - j') (by omega)
          rw [show 40 * c + j' + (x - j') = 40 * c + x by omega] at q
          have c2 : F 6 k = F 6 c := by rw [ek, el] at c2; exact c2
          rw [q]
          show _ = mRs F v k (i' + (x - j'))
          rw [mSh (by omega), ← c2, show 40 * k + i' + (x - j') = 40 * k + (i' + (x - j')) by omega]
        · rw [pk_cpy_out (by omega), p1 _ (by omega)]
          show _ = mRs F v c x
          rw [mSh hc]
      · rw [vu_ne cl, p1 _ (by omega)]
        show _ = mRs F v c x
        rw [mSh hc]
    · exact (congrFun (show va_up (mA F v).2.2 l _ 4 = (mA F v).2.2 4 from if_neg (by omega)) c).symm
    · exact (congrFun (show va_up (mA F v).2.2 l _ 5 = (mA F v).2.2 5 from if_neg (by omega)) c).symm
    · exact (show va_up (mA F v).2.2 l _ 6 = (mA F v).2.2 6 from if_neg (by omega)).symm
    · exact (show va_up (mA F v).2.2 l _ 7 = (mA F v).2.2 7 from if_neg (by omega)).symm
set_option maxRecDepth 100000 in
theorem ms_judge (n : Nat) (F v : xS) (I : aIv n (mA F v)) (S : mS Ψ F v) (s : Int32) {K : xKo} (h : mTw Ψ F v (fun s => s) K) : C_M_judge [.ref 0, .int s] (xfill F v 0 (wM0 0)) K := by
  refine xM_go rfl 200 [(32, [0, 1, 2]), (78, [0, 1, 2])] fun P hP => ?_
  refine xcall (sp_isSheet _ (fun a1 => ?_) (fun a1 => ?_))
  · refine br_n (fun z => absurd rfl z) (fun _ => ?_)
    refine xcall (sp_errM F v (-1000000001) 1 (by decide) (by decide) ?_)
    exact h.err S _ rfl
  refine br_n (fun _ => ?_) (fun z => absurd z (by decide))
  obtain ⟨k, hk, rfl, ek⟩ := nI_ofx s (n := 4) a1 (by decide)
  have bs : vp_in (nI k) 4 := vin a1
  obtain ⟨mc, hm, em⟩ : below 7 (F 1 2) := I.1.1.2.1
  have fin : ∀ i : Nat, xWP pg_M_judge K 78 [(0, .ref 0), (1, .int (nI k)), (2, .int (nI i))] [] (xfill F v 0 (wM0 0)) (0, 0) := by
    intro i
    refine xWP_go 200 [] fun P hP => ?_
    refine ⟨vin (by decide), ?_⟩
    refine br_n (fun _ => h.id S rfl) (fun _ => ?_)
    refine ⟨bs, ?_⟩
    exact br_n (fun _ => h.id S rfl) (fun _ => h.id S rfl)
  have key : ∀ (d i : Nat), i + d = mc → xWP pg_M_judge K 32 [(0, .ref 0), (1, .int (nI k)), (2, .int (nI i))] [] (xfill F v 0 (wM0 0)) (0, 0) := by
    intro d
    induction d with
    | zero =>
      intro i hi
      refine xWP_go 200 [(32, [0, 1, 2]), (78, [0, 1, 2])] fun P hP => ?_
      refine ⟨vin (by decide), ?_⟩
      refine br_c (fun _ => hP _ _ _ _ _ (fin i)) (fun z => ?_)
      have z : ¬ F 1 2 ≤ nI i := z
      rw [em, nI_leI (by omega) (by omega)] at z
      omega
    | succ d ih =>
      intro i hi
      refine xWP_go 200 [(32, [0, 1, 2]), (78, [0, 1, 2])] fun P hP => ?_
      refine ⟨vin (by decide), ?_⟩
      refine br_c (fun z => ?_) (fun _ => ?_)
      · have z : F 1 2 ≤ nI i := z
        rw [em, nI_leI (by omega) (by omega)] at z
        omega
      refine ⟨bs, ?_⟩
      refine br_c (fun _ => hP _ _ _ _ _ (fin i)) (fun _ => ?_)
      refine ⟨by show vp_in ((40 : Int32) * nI k + nI i) 160; rw [ix40]; exact vp_in_nI (by omega) (by omega), ?_⟩
      refine xcall (sp_its F v (nI i) 4 (vc5 (by omega) (w := 4) (by omega)) ?_)
      refine br_n (fun _ => hP _ _ _ _ _ (fin i)) (fun _ => ?_)
      refine hP _ _ _ _ _ ?_
      rw [nI_1]
      exact ih (i + 1) (by omega)
  refine ⟨bs, ?_⟩
  refine br_n (fun c0 => ?_) (fun c0 => ?_)
  · refine hP _ _ _ _ _ ?_
    exact key mc 0 (by omega)
  · refine xcall (sp_errM F v (-1000000002) 2 (by decide) (by decide) ?_)
    exact h.err S _ rfl
