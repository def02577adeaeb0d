/-! ===== the reference: plain methods, second part ===== -/
variable {Ψ : mRw → Prop}
theorem ix25 {k : Nat} : (25 : Int32) + 5 * nI k = nI (25 + 5 * k) := by
  rw [show (25 : Int32) = nI 25 from rfl, show (5 : Int32) = nI 5 from rfl, nI_mul, nI_add]
theorem sp_getsA (F v : xS) (p : Nat → Int32) (c w : Nat) (hc : c < 7) (hw : w < 5) (x : Int32) {K : xKo} (h : ∀ f : Nat → Int32, (∀ i, ¬ i = 25 + 5 * c + w → f i = p i) → f (25 + 5 * c + w) = x → K none (xfill (va_up F 1 f) v 0 (wM0 0))) : C_M_gets [.ref 0, .int (nI c), .int (nI w), .int x] (xfill (va_up F 1 p) v 0 (wM0 0)) K := by
  refine sp_getsM (va_up F 1 p) v (nI c) (nI w) x (vc5 hc hw) ?_
  rw [nc5 (by omega) (by omega)]
  exact h (upd p (25 + 5 * c + w) x) (fun i hi => pk_un hi) pk_us
theorem sp_becomesA (F v : xS) (p : Nat → Int32) (i : Nat) (hi : i < 230) (k : Int32) (hk : k = nI i) (x : Int32) {K : xKo} (h : ∀ f : Nat → Int32, (∀ j, ¬ j = i → f j = p j) → f i = x → K (some (.int (p i))) (xfill (va_up F 1 f) v 0 (wM0 0))) : C_M_becomes [.ref 0, .int k, .int x] (xfill (va_up F 1 p) v 0 (wM0 0)) K := by
  subst hk
  have e : nat (nI i) = i := nI_clamp (by omega)
  refine sp_becomesM (va_up F 1 p) v (nI i) x (vp_in_nI hi (by omega)) ?_
  rw [e]
  exact h (upd p i x) (fun j hj => pk_un hj) pk_us
set_option maxRecDepth 100000 in
theorem ms_shift (n : Nat) (F v : xS) (I : aIv n (mA F v)) (S : mS Ψ F v) (i w x : Int32) {K : xKo} (h : mTo Ψ F v (g_shift i w x) (f_shift i w x) K) : C_M_shift [.ref 0, .int i, .int w, .int x] (xfill F v 0 (wM0 0)) K := by
  have b3 := bel_nat (show below 8 (F 1 3) from I.1.1.1) (by omega)
  have b2 := bel_nat (show below 7 (F 1 2) from I.1.1.2.1) (by omega)
  have b4 := bel_nat (show below 50 (F 1 4) from I.1.1.2.2.2.1) (by omega)
  have b5 := bel_nat (show below 20 (F 1 5) from I.1.1.2.2.2.2) (by omega)
  have go : ∀ s : Int32, (s = 0 → ¬ (xin w 2 ∧ xin x (if w = 0 then 12 else 64))) → (¬ s = 0 → xin w 2 ∧ xin x (if w = 0 then 12 else 64)) → xWP pg_M_shift K 31 [(0, .ref 0), (1, .int i), (2, .int w), (3, .int x)] [.int s] (xfill F v 0 (wM0 0)) (0, 0) := by
    intro s s0 s1
    refine xWP_go 100 [] fun P hP => ?_
    refine xcall (sp_isThingM F v _ I.1.1.1 (fun a3 => ?_) (fun a3 => ?_))
    · refine br_c (fun _ => ?_) (fun z => absurd rfl z)
      refine xcall (sp_errM F v (-1000000001) 1 (by decide) (by decide) ?_)
      exact h.err S _ (if_neg fun z => a3 z.1.1) (if_neg fun z => a3 z.1.1)
    refine br_c (fun z => absurd z (by decide)) (fun _ => ?_)
    refine br_c (fun z => ?_) (fun z => ?_)
    · have n := s0 z
      refine xcall (sp_errM F v (-1000000001) 1 (by decide) (by decide) ?_)
      exact h.err S _ (if_neg fun z => n ⟨z.1.2, z.2⟩) (if_neg fun z => n ⟨z.1.2, z.2⟩)
    have ok := s1 z
    obtain ⟨k, hk, rfl, ek, lt⟩ := xin_ex I.1.1.1 (by omega) a3
    obtain ⟨j, hj, rfl, ej⟩ := nI_ofx w (n := 2) ok.1 (by decide)
    rcases (show j = 0 ∨ j = 1 by omega) with z | z
    all_goals subst z
    · have ei : (9 : Int32) + 2 * nI k + nI 0 = nI (9 + 2 * k + 0) := by rw [ix2, nI_add]
      refine xcall (sp_becomesA F v (F 1) (9 + 2 * k + 0) (by omega) _ ei x fun f f1 f2 => ?_)
      have q : K (some (.int (F 1 (9 + 2 * k + 0)))) (xfill (va_up F 1 f) v 0 (wM0 0)) := by
        refine h.ok (F' := va_up F 1 f) (v' := v) (S.row (fun j hj => by have q := exi_in hj; exact f1 j (by omega))) ?_ ((if_pos ⟨⟨a3, ok.1⟩, ok.2⟩).trans ((if_pos rfl).trans (by show F 1 (9 + 2 * nat (nI k)) = _; rw [ek]; rfl)))
        rw [show g_shift (nI k) (nI 0) x (mA F v) = (va_up (mA F v).1 0 (upd ((mA F v).1 0) (nat (nI k)) x), (mA F v).2) from (if_pos ⟨⟨a3, ok.1⟩, ok.2⟩).trans (if_pos rfl)]
        refine mrow ⟨⟨f1 3 (by omega), f1 2 (by omega), f1 0 (by omega), f1 1 (by omega), f1 4 (by omega), f1 5 (by omega)⟩, fun j hj => ?_, fun j hj => ?_, fun j hj => ?_, fun j hj => ?_⟩
        · have hj : j < nat (f 3) := hj
          rw [f1 3 (by omega)] at hj
          show f (9 + 2 * j) = upd (mSt (F 1) 0) (nat (nI k)) x j ∧ f (9 + 2 * j + 1) = mSt (F 1) 1 j
          rw [ek]
          by_cases jk : j = k
          · subst jk
            rw [pk_us]
            exact ⟨f2, f1 _ (by omega)⟩
          · rw [pk_un jk]
            exact ⟨f1 _ (by omega), f1 _ (by omega)⟩
        · have hj : j < nat (f 2) := hj
          rw [f1 2 (by omega)] at hj
          exact ⟨f1 (25 + 5 * j + 0) (by omega), f1 (25 + 5 * j + 1) (by omega)⟩
        · exact f1 (60 + j) (by omega)
        · exact f1 (110 + j) (by omega)
      exact q
    · have ei : (9 : Int32) + 2 * nI k + nI 1 = nI (9 + 2 * k + 1) := by rw [ix2, nI_add]
      refine xcall (sp_becomesA F v (F 1) (9 + 2 * k + 1) (by omega) _ ei x fun f f1 f2 => ?_)
      have q : K (some (.int (F 1 (9 + 2 * k + 1)))) (xfill (va_up F 1 f) v 0 (wM0 0)) := by
        refine h.ok (F' := va_up F 1 f) (v' := v) (S.row (fun j hj => by have q := exi_in hj; exact f1 j (by omega))) ?_ ((if_pos ⟨⟨a3, ok.1⟩, ok.2⟩).trans ((if_neg (by decide)).trans (by show F 1 (9 + 2 * nat (nI k) + 1) = _; rw [ek])))
        rw [show g_shift (nI k) (nI 1) x (mA F v) = (va_up (mA F v).1 1 (upd ((mA F v).1 1) (nat (nI k)) x), (mA F v).2) from (if_pos ⟨⟨a3, ok.1⟩, ok.2⟩).trans (if_neg (by decide))]
        refine mrow ⟨⟨f1 3 (by omega), f1 2 (by omega), f1 0 (by omega), f1 1 (by omega), f1 4 (by omega), f1 5 (by omega)⟩, fun j hj => ?_, fun j hj => ?_, fun j hj => ?_, fun j hj => ?_⟩
        · have hj : j < nat (f 3) := hj
          rw [f1 3 (by omega)] at hj
          show f (9 + 2 * j) = mSt (F 1) 0 j ∧ f (9 + 2 * j + 1) = upd (mSt (F 1) 1) (nat (nI k)) x j
          rw [ek]
          by_cases jk : j = k
          · subst jk
            rw [pk_us]
            exact ⟨f1 _ (by omega), f2⟩
          · rw [pk_un jk]
            exact ⟨f1 _ (by omega), f1 _ (by omega)⟩
        · have hj : j < nat (f 2) := hj
          rw [f1 2 (by omega)] at hj
          exact ⟨f1 (25 + 5 * j + 0) (by omega), f1 (25 + 5 * j + 1) (by omega)⟩
        · exact f1 (60 + j) (by omega)
        · exact f1 (110 + j) (by omega)
      exact q
  refine xM_go rfl 100 [(31, [0, 1, 2, 3])] fun P hP => ?_
  refine br_n (fun w0 => ?_) (fun w0 => ?_)
  · have w0 : ¬ w = 0 := w0
    refine br_n (fun w1 => ?_) (fun w1 => ?_)
    · have w1 : ¬ w = 1 := w1
      refine hP _ _ _ _ _ (go 0 (fun _ z => ?_) (fun z => absurd rfl z))
      obtain ⟨j, hj, rfl, ej⟩ := nI_ofx w (n := 2) z.1 (by decide)
      rcases (show j = 0 ∨ j = 1 by omega) with y | y
      · subst y; exact w0 rfl
      · subst y; exact w1 rfl
    · have w1 : w = 1 := w1
      have x2 : xin w 2 := by rw [w1]; decide
      refine xcall (sp_inx _ 63 64 (by decide) (fun a => ?_) (fun a => ?_))
      · refine br_c (fun _ => ?_) (fun z => absurd rfl z)
        exact hP _ _ _ _ _ (go 0 (fun _ z => a (by have y := z.2; rw [if_neg w0] at y; exact y)) (fun z => absurd rfl z))
      · refine br_c (fun z => absurd z (by decide)) (fun _ => ?_)
        exact hP _ _ _ _ _ (go 1 (fun z => absurd z (by decide)) (fun _ => ⟨x2, by rw [if_neg w0]; exact a⟩))
  · have w0 : w = 0 := w0
    have x2 : xin w 2 := by rw [w0]; decide
    refine xcall (sp_isCell _ (fun a => ?_) (fun a => ?_))
    · exact hP _ _ _ _ _ (go 0 (fun _ z => a (by have y := z.2; rw [if_pos w0] at y; exact y)) (fun z => absurd rfl z))
    · exact hP _ _ _ _ _ (go 1 (fun z => absurd z (by decide)) (fun _ => ⟨x2, by rw [if_pos w0]; exact a⟩))
set_option maxRecDepth 100000 in
theorem ms_become (n : Nat) (F v : xS) (I : aIv n (mA F v)) (S : mS Ψ F v) (c m : Int32) {K : xKo} (h : mTo Ψ F v (g_become c m) (f_become c m) K) : C_M_become [.ref 0, .int c, .int m] (xfill F v 0 (wM0 0)) K := by
  have b3 := bel_nat (show below 8 (F 1 3) from I.1.1.1) (by omega)
  have b2 := bel_nat (show below 7 (F 1 2) from I.1.1.2.1) (by omega)
  have b4 := bel_nat (show below 50 (F 1 4) from I.1.1.2.2.2.1) (by omega)
  have b5 := bel_nat (show below 20 (F 1 5) from I.1.1.2.2.2.2) (by omega)
  refine xM_go rfl 100 [] fun P hP => ?_
  refine xcall (sp_isChildM F v _ I.1.1.2.1 (fun a1 => ?_) (fun a1 => ?_))
  · refine br_c (fun _ => ?_) (fun z => absurd rfl z)
    refine xcall (sp_errM F v (-1000000001) 1 (by decide) (by decide) ?_)
    exact h.err S _ (if_neg fun z => a1 z.1) (if_neg fun z => a1 z.1)
  refine br_c (fun z => absurd z (by decide)) (fun _ => ?_)
  refine xcall (sp_inx _ 69 70 (by decide) (fun a2 => ?_) (fun a2 => ?_))
  · refine br_n (fun z => absurd rfl z) (fun _ => ?_)
    refine xcall (sp_errM F v (-1000000001) 1 (by decide) (by decide) ?_)
    exact h.err S _ (if_neg fun z => a2 z.2) (if_neg fun z => a2 z.2)
  refine br_n (fun _ => ?_) (fun z => absurd z (by decide))
  obtain ⟨k, hk, rfl, ek, lt⟩ := xin_ex I.1.1.2.1 (by omega) a1
  refine ⟨by decide, ?_⟩
  refine xcall (sp_getsA F v (F 1) k 1 hk (by omega) (m - m / 10 * 10) fun p1 p1n p1e => ?_)
  refine ⟨by decide, ?_⟩
  refine xcall (sp_becomesA F v p1 (25 + 5 * k) (by omega) _ ix25 (m / 10) fun f fn fe => ?_)
  have w : ∀ i, ¬ i = 25 + 5 * k → ¬ i = 25 + 5 * k + 1 → f i = F 1 i := fun i h0 h1 => (fn i h0).trans (p1n i h1)
  have q : K (some (.int (F 1 (25 + 5 * k + 0)))) (xfill (va_up F 1 f) v 0 (wM0 0)) := by
    refine h.ok (F' := va_up F 1 f) (v' := v) (S.row (fun j hj => by have q := exi_in hj; exact w j (by omega) (by omega))) ?_ ((if_pos ⟨a1, a2⟩).trans (by show F 1 (25 + 5 * nat (nI k) + 0) = _; rw [ek]))
    rw [show g_become (nI k) m (mA F v) = _ from if_pos ⟨a1, a2⟩]
    refine mrow ⟨⟨w 3 (by omega) (by omega), w 2 (by omega) (by omega), w 0 (by omega) (by omega), w 1 (by omega) (by omega), w 4 (by omega) (by omega), w 5 (by omega) (by omega)⟩, fun j hj => ?_, fun j hj => ?_, fun j hj => ?_, fun j hj => ?_⟩
    · have hj : j < nat (f 3) := hj
      rw [w 3 (by omega) (by omega)] at hj
      exact ⟨w (9 + 2 * j) (by omega) (by omega), w (9 + 2 * j + 1) (by omega) (by omega)⟩
    · show f (25 + 5 * j + 0) = upd (mSt (F 1) 2) (nat (nI k)) (m / 10) j ∧ f (25 + 5 * j + 1) = upd (mSt (F 1) 3) (nat (nI k)) (m - m / 10 * 10) j
      rw [ek]
      by_cases jk : j = k
      · subst jk
        rw [pk_us, pk_us]
        exact ⟨fe, (fn _ (by omega)).trans p1e⟩
      · rw [pk_un jk, pk_un jk]
        exact ⟨w _ (by omega) (by omega), w _ (by omega) (by omega)⟩
    · have hj : j < nat (f 4) := hj
      exact w (60 + j) (by omega) (by omega)
    · exact w (110 + j) (by omega) (by omega)
  rw [show F 1 (25 + 5 * k + 0) = p1 (25 + 5 * k) from (p1n _ (by omega)).symm] at q
  exact q
theorem sp_above (k : Int32) {K : xKo} (h : K (some (.int (if k = 0 then -1 else if k ≤ 3 then 0 else k - 3))) []) : C_M_above [.int k] [] K := by
  refine xM_go rfl 60 [] fun P hP => ?_
  refine br_n (fun a => ?_) (fun a => ?_)
  · have a : ¬ k = 0 := a
    rw [if_neg a] at h
    refine br_c (fun b => ?_) (fun b => ?_)
    · have b : k ≤ 3 := b
      rw [if_pos b] at h
      exact h
    · have b : ¬ k ≤ 3 := b
      rw [if_neg b] at h
      exact h
  · have a : k = 0 := a
    rw [if_pos a] at h
    exact h
set_option maxRecDepth 100000 in
theorem ms_as (n : Nat) (F v : xS) (I : aIv n (mA F v)) (S : mS Ψ F v) (c kk : Int32) {K : xKo} (h : mTo Ψ F v (fun s => s) (f_as c kk) K) : C_M_as [.ref 0, .int c, .int kk] (xfill F v 0 (wM0 0)) K := by
  have b3 := bel_nat (show below 8 (F 1 3) from I.1.1.1) (by omega)
  have b2 := bel_nat (show below 7 (F 1 2) from I.1.1.2.1) (by omega)
  have b4 := bel_nat (show below 50 (F 1 4) from I.1.1.2.2.2.1) (by omega)
  have b5 := bel_nat (show below 20 (F 1 5) from I.1.1.2.2.2.2) (by omega)
  refine xM_go rfl 100 [(32, [0, 1, 2, 3])] fun P hP => ?_
  refine xcall (sp_isChildM F v _ I.1.1.2.1 (fun a1 => ?_) (fun a1 => ?_))
  · refine br_c (fun _ => ?_) (fun z => absurd rfl z)
    refine xcall (sp_errM F v (-1000000001) 1 (by decide) (by decide) ?_)
    exact h.err S _ rfl (if_neg fun z => a1 z.1)
  refine br_c (fun z => absurd z (by decide)) (fun _ => ?_)
  refine xcall (sp_inx _ 6 7 (by decide) (fun a2 => ?_) (fun a2 => ?_))
  · refine br_n (fun z => absurd rfl z) (fun _ => ?_)
    refine xcall (sp_errM F v (-1000000001) 1 (by decide) (by decide) ?_)
    exact h.err S _ rfl (if_neg fun z => a2 z.2)
  refine br_n (fun _ => ?_) (fun z => absurd z (by decide))
  obtain ⟨k, hk, rfl, ek, lt⟩ := xin_ex I.1.1.2.1 (by omega) a1
  obtain ⟨j, hj, rfl, ej⟩ := nI_ofx kk (n := 7) a2 (by decide)
  have hj7 : j < 7 := by omega
  have s0 : ∀ ok : Prop, (ok → K (some (.int (F 1 (25 + 5 * k + 1)))) (xfill F v 0 (wM0 0))) → (¬ ok → K (some (.int (-1000000005))) (xfill (va_up F 5 (upd (F 5) 5 (F 5 5 + 1))) v 0 (wM0 0))) → ((j = 0) ↔ ok) → xWP pg_M_as K 32 [(0, .ref 0), (1, .int (nI k)), (2, .int (nI j)), (3, .int 0)] [] (xfill F v 0 (wM0 0)) (0, 0) := by
    intro ok hA hB hc
    have sE : ¬ ok → xWP pg_M_as K 32 [(0, .ref 0), (1, .int (nI k)), (2, .int (nI j)), (3, .int (-1))] [] (xfill F v 0 (wM0 0)) (0, 0) := by
      intro nok
      refine xWP_go 100 [] fun P hP => ?_
      refine br_c (fun _ => ?_) (fun z => absurd (by decide) z)
      refine br_c (fun z => absurd z (by decide)) (fun _ => ?_)
      refine xcall (sp_errM F v (-1000000005) 5 (by decide) (by decide) ?_)
      exact hB nok
    refine xWP_go 100 [(32, [0, 1, 2, 3])] fun P hP => ?_
    refine br_c (fun z => absurd z (by decide)) (fun _ => ?_)
    refine br_c (fun eq => ?_) (fun ne => ?_)
    · have eq : nI 0 = nI j := eq
      have jq : j = 0 := by
        have z := congrArg Int32.toInt eq
        rw [nI_toInt (by omega), nI_toInt (by omega)] at z
        omega
      refine br_c (fun _ => ?_) (fun z => absurd (by decide) z)
      refine xcall (sp_its F v (nI k) 1 (vc5 hk (w := 1) (by omega)) ?_)
      have q := hA (hc.mp jq)
      rw [show 25 + 5 * k + 1 = nat ((25 : Int32) + 5 * nI k + nI 1) from (nc5 (by omega) (by omega)).symm] at q
      exact q
    · have jn : ¬ j = 0 := fun z => ne (show nI 0 = nI j by rw [z])
      refine xcall (sp_above _ ?_)
      refine hP _ _ _ _ _ ?_
      exact sE (fun z => jn (hc.mpr z))
  have s1 : ∀ ok : Prop, (ok → K (some (.int (F 1 (25 + 5 * k + 1)))) (xfill F v 0 (wM0 0))) → (¬ ok → K (some (.int (-1000000005))) (xfill (va_up F 5 (upd (F 5) 5 (F 5 5 + 1))) v 0 (wM0 0))) → ((j = 1 ∨ j = 0) ↔ ok) → xWP pg_M_as K 32 [(0, .ref 0), (1, .int (nI k)), (2, .int (nI j)), (3, .int 1)] [] (xfill F v 0 (wM0 0)) (0, 0) := by
    intro ok hA hB hc
    have sE : ¬ ok → xWP pg_M_as K 32 [(0, .ref 0), (1, .int (nI k)), (2, .int (nI j)), (3, .int (-1))] [] (xfill F v 0 (wM0 0)) (0, 0) := by
      intro nok
      refine xWP_go 100 [] fun P hP => ?_
      refine br_c (fun _ => ?_) (fun z => absurd (by decide) z)
      refine br_c (fun z => absurd z (by decide)) (fun _ => ?_)
      refine xcall (sp_errM F v (-1000000005) 5 (by decide) (by decide) ?_)
      exact hB nok
    refine xWP_go 100 [(32, [0, 1, 2, 3])] fun P hP => ?_
    refine br_c (fun z => absurd z (by decide)) (fun _ => ?_)
    refine br_c (fun eq => ?_) (fun ne => ?_)
    · have eq : nI 1 = nI j := eq
      have jq : j = 1 := by
        have z := congrArg Int32.toInt eq
        rw [nI_toInt (by omega), nI_toInt (by omega)] at z
        omega
      refine br_c (fun _ => ?_) (fun z => absurd (by decide) z)
      refine xcall (sp_its F v (nI k) 1 (vc5 hk (w := 1) (by omega)) ?_)
      have q := hA (hc.mp (Or.inl jq))
      rw [show 25 + 5 * k + 1 = nat ((25 : Int32) + 5 * nI k + nI 1) from (nc5 (by omega) (by omega)).symm] at q
      exact q
    · have jn : ¬ j = 1 := fun z => ne (show nI 1 = nI j by rw [z])
      refine xcall (sp_above _ ?_)
      refine hP _ _ _ _ _ ?_
      exact s0 ok hA hB ⟨fun z => hc.mp (Or.inr z), fun z => (hc.mpr z).resolve_left jn⟩
  have s2 : ∀ ok : Prop, (ok → K (some (.int (F 1 (25 + 5 * k + 1)))) (xfill F v 0 (wM0 0))) → (¬ ok → K (some (.int (-1000000005))) (xfill (va_up F 5 (upd (F 5) 5 (F 5 5 + 1))) v 0 (wM0 0))) → ((j = 2 ∨ j = 0) ↔ ok) → xWP pg_M_as K 32 [(0, .ref 0), (1, .int (nI k)), (2, .int (nI j)), (3, .int 2)] [] (xfill F v 0 (wM0 0)) (0, 0) := by
    intro ok hA hB hc
    have sE : ¬ ok → xWP pg_M_as K 32 [(0, .ref 0), (1, .int (nI k)), (2, .int (nI j)), (3, .int (-1))] [] (xfill F v 0 (wM0 0)) (0, 0) := by
      intro nok
      refine xWP_go 100 [] fun P hP => ?_
      refine br_c (fun _ => ?_) (fun z => absurd (by decide) z)
      refine br_c (fun z => absurd z (by decide)) (fun _ => ?_)
      refine xcall (sp_errM F v (-1000000005) 5 (by decide) (by decide) ?_)
      exact hB nok
    refine xWP_go 100 [(32, [0, 1, 2, 3])] fun P hP => ?_
    refine br_c (fun z => absurd z (by decide)) (fun _ => ?_)
    refine br_c (fun eq => ?_) (fun ne => ?_)
    · have eq : nI 2 = nI j := eq
      have jq : j = 2 := by
        have z := congrArg Int32.toInt eq
        rw [nI_toInt (by omega), nI_toInt (by omega)] at z
        omega
      refine br_c (fun _ => ?_) (fun z => absurd (by decide) z)
      refine xcall (sp_its F v (nI k) 1 (vc5 hk (w := 1) (by omega)) ?_)
      have q := hA (hc.mp (Or.inl jq))
      rw [show 25 + 5 * k + 1 = nat ((25 : Int32) + 5 * nI k + nI 1) from (nc5 (by omega) (by omega)).symm] at q
      exact q
    · have jn : ¬ j = 2 := fun z => ne (show nI 2 = nI j by rw [z])
      refine xcall (sp_above _ ?_)
      refine hP _ _ _ _ _ ?_
      exact s0 ok hA hB ⟨fun z => hc.mp (Or.inr z), fun z => (hc.mpr z).resolve_left jn⟩
  have s3 : ∀ ok : Prop, (ok → K (some (.int (F 1 (25 + 5 * k + 1)))) (xfill F v 0 (wM0 0))) → (¬ ok → K (some (.int (-1000000005))) (xfill (va_up F 5 (upd (F 5) 5 (F 5 5 + 1))) v 0 (wM0 0))) → ((j = 3 ∨ j = 0) ↔ ok) → xWP pg_M_as K 32 [(0, .ref 0), (1, .int (nI k)), (2, .int (nI j)), (3, .int 3)] [] (xfill F v 0 (wM0 0)) (0, 0) := by
    intro ok hA hB hc
    have sE : ¬ ok → xWP pg_M_as K 32 [(0, .ref 0), (1, .int (nI k)), (2, .int (nI j)), (3, .int (-1))] [] (xfill F v 0 (wM0 0)) (0, 0) := by
      intro nok
      refine xWP_go 100 [] fun P hP => ?_
      refine br_c (fun _ => ?_) (fun z => absurd (by decide) z)
      refine br_c (fun z => absurd z (by decide)) (fun _ => ?_)
      refine xcall (sp_errM F v (-1000000005) 5 (by decide) (by decide) ?_)
      exact hB nok
    refine xWP_go 100 [(32, [0, 1, 2, 3])] fun P hP => ?_
    refine br_c (fun z => absurd z (by decide)) (fun _ => ?_)
    refine br_c (fun eq => ?_) (fun ne => ?_)
    · have eq : nI 3 = nI j := eq
      have jq : j = 3 := by
        have z := congrArg Int32.toInt eq
        rw [nI_toInt (by omega), nI_toInt (by omega)] at z
        omega
      refine br_c (fun _ => ?_) (fun z => absurd (by decide) z)
      refine xcall (sp_its F v (nI k) 1 (vc5 hk (w := 1) (by omega)) ?_)
      have q := hA (hc.mp (Or.inl jq))
      rw [show 25 + 5 * k + 1 = nat ((25 : Int32) + 5 * nI k + nI 1) from (nc5 (by omega) (by omega)).symm] at q
      exact q
    · have jn : ¬ j = 3 := fun z => ne (show nI 3 = nI j by rw [z])
      refine xcall (sp_above _ ?_)
      refine hP _ _ _ _ _ ?_
      exact s0 ok hA hB ⟨fun z => hc.mp (Or.inr z), fun z => (hc.mpr z).resolve_left jn⟩
  have s4 : ∀ ok : Prop, (ok → K (some (.int (F 1 (25 + 5 * k + 1)))) (xfill F v 0 (wM0 0))) → (¬ ok → K (some (.int (-1000000005))) (xfill (va_up F 5 (upd (F 5) 5 (F 5 5 + 1))) v 0 (wM0 0))) → ((j = 4 ∨ j = 1 ∨ j = 0) ↔ ok) → xWP pg_M_as K 32 [(0, .ref 0), (1, .int (nI k)), (2, .int (nI j)), (3, .int 4)] [] (xfill F v 0 (wM0 0)) (0, 0) := by
    intro ok hA hB hc
    have sE : ¬ ok → xWP pg_M_as K 32 [(0, .ref 0), (1, .int (nI k)), (2, .int (nI j)), (3, .int (-1))] [] (xfill F v 0 (wM0 0)) (0, 0) := by
      intro nok
      refine xWP_go 100 [] fun P hP => ?_
      refine br_c (fun _ => ?_) (fun z => absurd (by decide) z)
      refine br_c (fun z => absurd z (by decide)) (fun _ => ?_)
      refine xcall (sp_errM F v (-1000000005) 5 (by decide) (by decide) ?_)
      exact hB nok
    refine xWP_go 100 [(32, [0, 1, 2, 3])] fun P hP => ?_
    refine br_c (fun z => absurd z (by decide)) (fun _ => ?_)
    refine br_c (fun eq => ?_) (fun ne => ?_)
    · have eq : nI 4 = nI j := eq
      have jq : j = 4 := by
        have z := congrArg Int32.toInt eq
        rw [nI_toInt (by omega), nI_toInt (by omega)] at z
        omega
      refine br_c (fun _ => ?_) (fun z => absurd (by decide) z)
      refine xcall (sp_its F v (nI k) 1 (vc5 hk (w := 1) (by omega)) ?_)
      have q := hA (hc.mp (Or.inl jq))
      rw [show 25 + 5 * k + 1 = nat ((25 : Int32) + 5 * nI k + nI 1) from (nc5 (by omega) (by omega)).symm] at q
      exact q
    · have jn : ¬ j = 4 := fun z => ne (show nI 4 = nI j by rw [z])
      refine xcall (sp_above _ ?_)
      refine hP _ _ _ _ _ ?_
      exact s1 ok hA hB ⟨fun z => hc.mp (Or.inr z), fun z => (hc.mpr z).resolve_left jn⟩
  have s5 : ∀ ok : Prop, (ok → K (some (.int (F 1 (25 + 5 * k + 1)))) (xfill F v 0 (wM0 0))) → (¬ ok → K (some (.int (-1000000005))) (xfill (va_up F 5 (upd (F 5) 5 (F 5 5 + 1))) v 0 (wM0 0))) → ((j = 5 ∨ j = 2 ∨ j = 0) ↔ ok) → xWP pg_M_as K 32 [(0, .ref 0), (1, .int (nI k)), (2, .int (nI j)), (3, .int 5)] [] (xfill F v 0 (wM0 0)) (0, 0) := by
    intro ok hA hB hc
    have sE : ¬ ok → xWP pg_M_as K 32 [(0, .ref 0), (1, .int (nI k)), (2, .int (nI j)), (3, .int (-1))] [] (xfill F v 0 (wM0 0)) (0, 0) := by
      intro nok
      refine xWP_go 100 [] fun P hP => ?_
      refine br_c (fun _ => ?_) (fun z => absurd (by decide) z)
      refine br_c (fun z => absurd z (by decide)) (fun _ => ?_)
      refine xcall (sp_errM F v (-1000000005) 5 (by decide) (by decide) ?_)
      exact hB nok
    refine xWP_go 100 [(32, [0, 1, 2, 3])] fun P hP => ?_
    refine br_c (fun z => absurd z (by decide)) (fun _ => ?_)
    refine br_c (fun eq => ?_) (fun ne => ?_)
    · have eq : nI 5 = nI j := eq
      have jq : j = 5 := by
        have z := congrArg Int32.toInt eq
        rw [nI_toInt (by omega), nI_toInt (by omega)] at z
        omega
      refine br_c (fun _ => ?_) (fun z => absurd (by decide) z)
      refine xcall (sp_its F v (nI k) 1 (vc5 hk (w := 1) (by omega)) ?_)
      have q := hA (hc.mp (Or.inl jq))
      rw [show 25 + 5 * k + 1 = nat ((25 : Int32) + 5 * nI k + nI 1) from (nc5 (by omega) (by omega)).symm] at q
      exact q
    · have jn : ¬ j = 5 := fun z => ne (show nI 5 = nI j by rw [z])
      refine xcall (sp_above _ ?_)
      refine hP _ _ _ _ _ ?_
      exact s2 ok hA hB ⟨fun z => hc.mp (Or.inr z), fun z => (hc.mpr z).resolve_left jn⟩
  have s6 : ∀ ok : Prop, (ok → K (some (.int (F 1 (25 + 5 * k + 1)))) (xfill F v 0 (wM0 0))) → (¬ ok → K (some (.int (-1000000005))) (xfill (va_up F 5 (upd (F 5) 5 (F 5 5 + 1))) v 0 (wM0 0))) → ((j = 6 ∨ j = 3 ∨ j = 0) ↔ ok) → xWP pg_M_as K 32 [(0, .ref 0), (1, .int (nI k)), (2, .int (nI j)), (3, .int 6)] [] (xfill F v 0 (wM0 0)) (0, 0) := by
    intro ok hA hB hc
    have sE : ¬ ok → xWP pg_M_as K 32 [(0, .ref 0), (1, .int (nI k)), (2, .int (nI j)), (3, .int (-1))] [] (xfill F v 0 (wM0 0)) (0, 0) := by
      intro nok
      refine xWP_go 100 [] fun P hP => ?_
      refine br_c (fun _ => ?_) (fun z => absurd (by decide) z)
      refine br_c (fun z => absurd z (by decide)) (fun _ => ?_)
      refine xcall (sp_errM F v (-1000000005) 5 (by decide) (by decide) ?_)
      exact hB nok
    refine xWP_go 100 [(32, [0, 1, 2, 3])] fun P hP => ?_
    refine br_c (fun z => absurd z (by decide)) (fun _ => ?_)
    refine br_c (fun eq => ?_) (fun ne => ?_)
    · have eq : nI 6 = nI j := eq
      have jq : j = 6 := by
        have z := congrArg Int32.toInt eq
        rw [nI_toInt (by omega), nI_toInt (by omega)] at z
        omega
      refine br_c (fun _ => ?_) (fun z => absurd (by decide) z)
      refine xcall (sp_its F v (nI k) 1 (vc5 hk (w := 1) (by omega)) ?_)
      have q := hA (hc.mp (Or.inl jq))
      rw [show 25 + 5 * k + 1 = nat ((25 : Int32) + 5 * nI k + nI 1) from (nc5 (by omega) (by omega)).symm] at q
      exact q
    · have jn : ¬ j = 6 := fun z => ne (show nI 6 = nI j by rw [z])
      refine xcall (sp_above _ ?_)
      refine hP _ _ _ _ _ ?_
      exact s3 ok hA hB ⟨fun z => hc.mp (Or.inr z), fun z => (hc.mpr z).resolve_left jn⟩
  refine xcall (sp_its F v (nI k) 0 (vc5 hk (w := 0) (by omega)) ?_)
  obtain ⟨z, hz, ez⟩ : below 6 (F 1 (25 + 5 * k + 0)) := I.1.2 k lt
  have ei : F 1 (Int32.toNatClampNeg (25 + 5 * nI k + 0)) = nI z := by
    rw [show Int32.toNatClampNeg (25 + 5 * nI k + 0) = 25 + 5 * k + 0 from nc5 (w := 0) (by omega) (by omega)]
    exact ez
  have hA : asOk (nI z) (nI j) → K (some (.int (F 1 (25 + 5 * k + 1)))) (xfill F v 0 (wM0 0)) := fun ok => h.id S rfl ((if_pos ⟨a1, a2⟩).trans ((if_pos (by show asOk (F 1 (25 + 5 * nat (nI k) + 0)) (nI j); rw [ek, ez]; exact ok)).trans (by show F 1 (25 + 5 * nat (nI k) + 1) = _; rw [ek])))
  have hB : ¬ asOk (nI z) (nI j) → K (some (.int (-1000000005))) (xfill (va_up F 5 (upd (F 5) 5 (F 5 5 + 1))) v 0 (wM0 0)) := fun ok => h.err S _ rfl ((if_pos ⟨a1, a2⟩).trans (if_neg (by show ¬ asOk (F 1 (25 + 5 * nat (nI k) + 0)) (nI j); rw [ek, ez]; exact ok)))
  refine hP _ _ _ _ _ ?_
  rw [ei]
  rcases (show z = 0 ∨ z = 1 ∨ z = 2 ∨ z = 3 ∨ z = 4 ∨ z = 5 ∨ z = 6 by omega) with y | y | y | y | y | y | y
  all_goals subst y
  · refine s0 _ hA hB ?_
    rcases (show j = 0 ∨ j = 1 ∨ j = 2 ∨ j = 3 ∨ j = 4 ∨ j = 5 ∨ j = 6 by omega) with y | y | y | y | y | y | y
    all_goals subst y; unfold asOk; decide
  · refine s1 _ hA hB ?_
    rcases (show j = 0 ∨ j = 1 ∨ j = 2 ∨ j = 3 ∨ j = 4 ∨ j = 5 ∨ j = 6 by omega) with y | y | y | y | y | y | y
    all_goals subst y; unfold asOk; decide
  · refine s2 _ hA hB ?_
    rcases (show j = 0 ∨ j = 1 ∨ j = 2 ∨ j = 3 ∨ j = 4 ∨ j = 5 ∨ j = 6 by omega) with y | y | y | y | y | y | y
    all_goals subst y; unfold asOk; decide
  · refine s3 _ hA hB ?_
    rcases (show j = 0 ∨ j = 1 ∨ j = 2 ∨ j = 3 ∨ j = 4 ∨ j = 5 ∨ j = 6 by omega) with y | y | y | y | y | y | y
    all_goals subst y; unfold asOk; decide
  · refine s4 _ hA hB ?_
    rcases (show j = 0 ∨ j = 1 ∨ j = 2 ∨ j = 3 ∨ j = 4 ∨ j = 5 ∨ j = 6 by omega) with y | y | y | y | y | y | y
    all_goals subst y; unfold asOk; decide
  · refine s5 _ hA hB ?_
    rcases (show j = 0 ∨ j = 1 ∨ j = 2 ∨ j = 3 ∨ j = 4 ∨ j = 5 ∨ j = 6 by omega) with y | y | y | y | y | y | y
    all_goals subst y; unfold asOk; decide
  · refine s6 _ hA hB ?_
    rcases (show j = 0 ∨ j = 1 ∨ j = 2 ∨ j = 3 ∨ j = 4 ∨ j = 5 ∨ j = 6 by omega) with y | y | y | y | y | y | y
    all_goals subst y; unfold asOk; decide
