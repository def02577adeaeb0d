section
/-! ===== the reference: texts, exactly ===== -/
theorem mLw.of2 {f g : Nat → Int32} {u : Nat} {L : xLw} (h : mLw f u L) (e6 : g (6 + u) = f (6 + u)) (et : ∀ k, 130 + 50 * u ≤ k → k < 130 + 50 * u + 50 → g k = f k) : mLw g u L := by
  rcases h with ⟨a, b⟩ | ⟨n, hn, e, w⟩
  · exact Or.inl ⟨by rw [e6]; exact a, b⟩
  · refine Or.inr ⟨n, hn, e6.trans e, fun a b c => ?_⟩
    rw [w a b c]
    have q : bY (fun k => g (130 + 50 * u + k)) n = bY (fun k => f (130 + 50 * u + k)) n := bY_congr fun k hk => et _ (by omega) (by omega)
    rw [q]
theorem tx_iv {σ : xZ} (Z : zIv σ) {X' : xXt} (x1 : X'.1 = σ.2.1.1) (x2 : X'.2.1 = σ.2.1.2.1) : zIv ((va_up σ.1.1 6 (upd (σ.1.1 6) 4 0), σ.1.2), X', σ.2.2) := by
  obtain ⟨⟨⟨a, b, c, d, e, f⟩, o⟩, k⟩ := Z
  refine ⟨⟨⟨a, b, c, ?_, ?_, ?_⟩, ?_⟩, k⟩
  · show ∀ j, j < nat (σ.1.1 6 1) → below 11 (X'.1 0 j)
    rw [x1]; exact d
  · show ∀ j, j < 7 → below 999 (X'.1 1 j) ∧ below 999 (X'.1 2 j)
    rw [x1]; exact e
  · show X'.2.1 = -1 ∨ ∃ c, c < nat (σ.1.1 6 1) ∧ X'.2.1 = nI c
    rw [x2]; exact f
  · show ∀ j, nat (σ.1.1 6 1) ≤ j → j < 7 → X'.1 1 j = 0 ∧ X'.1 2 j = 0
    rw [x1]; exact o
set_option maxRecDepth 100000 in
theorem MX_text (n : Nat) (σ : xZ) (F v : xS) (R : MR n σ F v) (u : Int32) {K : xKo} (h : mKy n (y_text u σ) (z_text u σ) F K) : C_M_text [.ref 0, .int u] (xfill F v 0 (wM0 0)) K := by
  have I := R.J
  have S := R.2.2.2
  have ZZ := mXr.row.mp R.z.1
  have b3 := bel_nat (show below 8 (F 1 3) from I.1.1.1) (by omega)
  have b2 := bel_nat (show below 7 (F 1 2) from I.1.1.2.1) (by omega)
  have b4 := bel_nat (show below 50 (F 1 4) from I.1.1.2.2.2.1) (by omega)
  have b5 := bel_nat (show below 20 (F 1 5) from I.1.1.2.2.2.2) (by omega)
  obtain ⟨nb, hb, eb⟩ : below 50 (F 1 4) := I.1.1.2.2.2.1
  have e14 : F 1 4 = σ.1.1 6 4 := R.n1.2.2.2.2.1
  have ebn : nat (σ.1.1 6 4) = nb := by rw [← e14, eb]; exact nI_clamp (by omega)
  have tp : ∀ k, k < nb → F 1 (60 + k) = σ.1.1 4 k := fun k hk => R.2.2.1.1.2.2.2.1 k (by show k < nat (F 1 4); rw [e14, ebn]; exact hk)
  refine xM_go rfl 200 [(30, [0, 1, 2]), (114, [0, 1, 2, 3, 4])] fun P hP => ?_
  refine xcall (sp_inx _ 1 2 (by decide) (fun a1 => ?_) (fun a1 => ?_))
  · refine br_n (fun z => absurd rfl z) (fun _ => ?_)
    refine xcall (sp_errM F v (-1000000001) 1 (by decide) (by decide) ?_)
    exact R.no h (if_neg a1) (if_neg a1)
  have a1 : xin u 2 := a1
  refine br_n (fun _ => ?_) (fun z => absurd z (by decide))
  have AG := pg_text R.2.2.1 u
  rw [show g_text u (mA F v) = _ from if_pos a1, show g_text u σ.1 = _ from if_pos a1] at AG
  have IG := (pi_text R.1 u).up
  rw [show g_text u σ.1 = _ from if_pos a1] at IG
  unfold y_text z_text at h
  rw [if_pos a1, if_pos a1, ebn] at h
  obtain ⟨y, hy, rfl, ey⟩ := nI_ofx u (n := 2) a1 (by decide)
  have hy : y < 2 := by omega
  have yu : nI y = 0 ∨ nI y = 1 := by
    rcases (show y = 0 ∨ y = 1 by omega) with e | e
    all_goals subst e
    · exact Or.inl rfl
    · exact Or.inr rfl
  have fin : ∀ (X' : xXt) (F' v' : xS), (∀ k, ¬ k = 1 → ¬ k = 4 → F' k = F k) → (∀ x, x < 130 → ¬ x = 4 → ¬ x = 6 → ¬ x = 7 → F' 1 x = F 1 x) → F' 1 4 = 0 → (F' 1 6).toInt ≤ 50 → (F' 1 7).toInt ≤ 50 → vR v v' → X'.1 = σ.2.1.1 → X'.2.1 = σ.2.1.2.1 → mLw (F' 1) 0 (X'.2.2 0) → mLw (F' 1) 1 (X'.2.2 1) → MR (n + 1) ((va_up σ.1.1 6 (upd (σ.1.1 6) 4 0), σ.1.2), X', σ.2.2) F' v' := by
    intro X' F' v' hF hp h4 h6 h7 hv x1 x2 l0 l1
    have vv : ∀ j, ¬ (7 ≤ j ∧ j < 15) → v' 0 j = v 0 j := fun j hj => (hv j).elim (fun z => absurd z hj) id
    refine ⟨IG, tx_iv R.2.1 x1 x2, ?_, R.mS ⟨h6, h7⟩ (hF 2 (by decide) (by decide)) ⟨vv 4 (by omega), vv 5 (by omega), vv 15 (by omega)⟩ ⟨hF 6 (by decide) (by decide), hF 8 (by decide) (by decide)⟩ ⟨fun j hj => ?_, ?_, l0, l1⟩ rfl rfl⟩
    · refine agr.tr (t := (va_up (mA F v).1 6 (upd ((mA F v).1 6) 4 0), (mA F v).2)) ?_ AG
      refine ⟨⟨⟨hp 3 (by omega) (by omega) (by omega) (by omega), hp 2 (by omega) (by omega) (by omega) (by omega), hp 0 (by omega) (by omega) (by omega) (by omega), hp 1 (by omega) (by omega) (by omega) (by omega), h4, hp 5 (by omega) (by omega) (by omega) (by omega)⟩, fun j hj => ?_, fun j hj => ?_, fun j hj => ?_, fun j hj => ?_⟩, ?_, fun _ => ?_⟩
      · have hj : j < nat (F' 1 3) := hj
        rw [hp 3 (by omega) (by omega) (by omega) (by omega)] at hj
        exact ⟨hp (9 + 2 * j) (by omega) (by omega) (by omega) (by omega), hp (9 + 2 * j + 1) (by omega) (by omega) (by omega) (by omega)⟩
      · have hj : j < nat (F' 1 2) := hj
        rw [hp 2 (by omega) (by omega) (by omega) (by omega)] at hj
        exact ⟨hp (25 + 5 * j + 0) (by omega) (by omega) (by omega) (by omega), hp (25 + 5 * j + 1) (by omega) (by omega) (by omega) (by omega)⟩
      · have hj : j < nat (F' 1 4) := hj
        rw [h4] at hj
        exact absurd (show j < 0 from hj) (Nat.not_lt_zero j)
      · have hj : j < nat (F' 1 5) := hj
        rw [hp 5 (by omega) (by omega) (by omega) (by omega)] at hj
        exact hp (110 + j) (by omega) (by omega) (by omega) (by omega)
      · have q : mRs F' v' = mRs F v := by
          unfold mRs
          rw [hF 6 (by decide) (by decide), hF 7 (by decide) (by decide), hF 8 (by decide) (by decide), hF 10 (by decide) (by decide), vv 5 (by omega), vv 21 (by omega)]
        show rAgr (mRs F' v') (mRs F v)
        rw [q]
        exact rAgr.rf
      · show sAgr (mSt (F' 2)) (mSt (F 2))
        rw [hF 2 (by decide) (by decide)]
        exact sAgr.rf
    · show F' 1 (25 + 5 * j + 2) = X'.1 0 j ∧ F' 1 (25 + 5 * j + 3) = X'.1 1 j ∧ F' 1 (25 + 5 * j + 4) = X'.1 2 j
      rw [x1, hp _ (by omega) (by omega) (by omega) (by omega), hp _ (by omega) (by omega) (by omega) (by omega), hp _ (by omega) (by omega) (by omega) (by omega)]
      exact ZZ.1 j hj
    · show F' 1 8 = X'.2.1
      rw [x2, hp 8 (by omega) (by omega) (by omega) (by omega)]
      exact ZZ.2.1
  refine xcall (sp_moveAll_1_4 F v fun g g1 g2 => ?_)
  have ia : ∀ i : Nat, (130 : Int32) + 50 * nI y + nI i = nI (130 + 50 * y + i) := fun i => by
    rw [show (130 : Int32) = nI 130 from rfl, show (50 : Int32) = nI 50 from rfl, nI_mul, nI_add, nI_add]
  have ib : ∀ i : Nat, (60 : Int32) + nI i = nI (60 + i) := fun i => by
    rw [show (60 : Int32) = nI 60 from rfl, nI_add]
  have key : ∀ (d i : Nat) (p : Nat → Int32), i + d = 50 → (∀ x, ¬ (130 + 50 * y ≤ x ∧ x < 130 + 50 * y + 50) → p x = F 1 x) → (∀ j, j < i → p (130 + 50 * y + j) = F 1 (60 + j)) → xWP pg_M_text K 30 [(0, .ref 0), (1, .int (nI y)), (2, .int (nI i))] [] (xfill (va_up (va_up F 4 g) 1 p) v 0 (wM0 0)) (0, 0) := by
    intro d
    induction d with
    | zero =>
      intro i p hi hp hq
      have hi : i = 50 := hi
      subst hi
      have b6 : vp_in ((6 : Int32) + nI y) 230 := by
        rcases yu with e | e
        all_goals rw [e]; exact vin (by decide)
      have n6 : Int32.toNatClampNeg ((6 : Int32) + nI y) = 6 + y := by rw [show (6 : Int32) = nI 6 from rfl, nI_add]; exact nI_clamp (by omega)
      obtain ⟨p2, ep2⟩ : ∃ p2, p2 = upd p (Int32.toNatClampNeg ((6 : Int32) + nI y)) (p (Int32.toNatClampNeg 4)) := ⟨_, rfl⟩
      have p2o : ∀ x, ¬ x = 6 + y → p2 x = p x := fun x hx => by rw [ep2, n6]; exact pk_un hx
      have p2e : p2 (6 + y) = F 1 4 := by rw [ep2, n6, pk_us, nq4]; exact hp 4 (by omega)
      have t4 : (F 1 4).toInt ≤ 50 := by
        rw [eb, nI_toInt (by omega)]
        omega
      have c6 : (p2 6).toInt ≤ 50 := by
        by_cases e : 6 = 6 + y
        · rw [e, p2e]; exact t4
        · rw [p2o 6 e, hp 6 (by omega)]; exact S.1.1
      have c7 : (p2 7).toInt ≤ 50 := by
        by_cases e : 7 = 6 + y
        · rw [e, p2e]; exact t4
        · rw [p2o 7 e, hp 7 (by omega)]; exact S.1.2
      have tx : ∀ k, k < nb → p2 (130 + 50 * y + k) = σ.1.1 4 k := fun k hk => by rw [p2o _ (by omega), hq k (by omega)]; exact tp k hk
      have eB : bY (fun k => p2 (130 + 50 * y + k)) nb = bY (σ.1.1 4) nb := bY_congr tx
      -- the new text
      have LN : ∀ f : Nat → Int32, (∀ x, ¬ x = 4 → f x = p2 x) → mLw f y (nwL (nI y) (σ.1.1 4) nb) := by
        intro f hf
        refine Or.inr ⟨nb, hb, ?_, fun a b c => ?_⟩
        · rw [hf _ (by omega), p2e, eb]
        · have q : bY (fun k => f (130 + 50 * y + k)) nb = bY (σ.1.1 4) nb := bY_congr fun k hk => (hf _ (by omega)).trans (tx k hk)
          rw [q]
          rfl
      have LO : ∀ (f : Nat → Int32) (w : Nat) (L : xLw), w < 2 → ¬ w = y → (∀ x, ¬ x = 4 → f x = p2 x) → mLw (F 1) w L → mLw f w L := by
        intro f w L hw hwy hf ml
        exact ml.of2 ((hf _ (by omega)).trans ((p2o _ (by omega)).trans (hp _ (by omega)))) (fun k a l => (hf _ (by omega)).trans ((p2o _ (by omega)).trans (hp _ (by omega))))
      have good1 : ∀ (v' : xS) (cc : List Int32) (q : Nat), vR v v' → rdF (nI y) (σ.1.1 4) nb = (some cc, q) → K (some (.int 1)) (xfill (va_up (va_up F 4 g) 1 (upd p2 4 0)) v' 0 (wM0 0)) := by
        intro v' cc q hv er
        rw [er] at h
        have hf : ∀ x, ¬ x = 4 → upd p2 4 0 x = p2 x := fun x hx => pk_un hx
        have ey : nat (nI y) = y := ey
        refine h _ v' (fin (σ.2.1.1, σ.2.1.2.1, fun k => if k = nat (nI y) then nwL (nI y) (σ.1.1 4) nb else σ.2.1.2.2 k) (va_up (va_up F 4 g) 1 (upd p2 4 0)) v' (fun k h1 h4 => (if_neg h1).trans (if_neg h4)) (fun x h1 h4 h6 h7 => ?_) (show upd p2 4 0 4 = 0 from pk_us) ?_ ?_ hv rfl rfl ?_ ?_) bm_0.symm
        · show upd p2 4 0 x = F 1 x
          rw [pk_un h4, p2o x (by omega), hp x (by omega)]
        · show (upd p2 4 0 6).toInt ≤ 50
          rw [pk_un (by omega)]; exact c6
        · show (upd p2 4 0 7).toInt ≤ 50
          rw [pk_un (by omega)]; exact c7
        · show mLw (upd p2 4 0) 0 (if 0 = nat (nI y) then nwL (nI y) (σ.1.1 4) nb else σ.2.1.2.2 0)
          rw [ey]
          by_cases e : 0 = y
          · rw [if_pos e]
            have q := LN _ hf
            subst e
            exact q
          · rw [if_neg e]
            exact LO _ 0 _ (by decide) e hf ZZ.2.2.1
        · show mLw (upd p2 4 0) 1 (if 1 = nat (nI y) then nwL (nI y) (σ.1.1 4) nb else σ.2.1.2.2 1)
          rw [ey]
          by_cases e : 1 = y
          · rw [if_pos e]
            have q := LN _ hf
            subst e
            exact q
          · rw [if_neg e]
            exact LO _ 1 _ (by decide) e hf ZZ.2.2.2
      have bad1 : ∀ (f : Nat → Int32) (v' : xS) (q : Nat), (∀ x, x < 230 → f x = g x) → vR v v' → rdF (nI y) (σ.1.1 4) nb = (none, q) → K (some (.int (-10 - nI q))) (xfill (va_up (va_up F 4 g) 1 (upd f 4 0)) v' 0 (wM0 0)) := by
        intro f v' q hf hv er
        rw [er] at h
        have fo : ∀ x, x < 230 → ¬ x = 4 → upd f 4 0 x = F 1 x := fun x l hx => (pk_un hx).trans ((hf x l).trans (g1 x l))
        refine h _ v' (fin σ.2.1 (va_up (va_up F 4 g) 1 (upd f 4 0)) v' (fun k h1 h4 => (if_neg h1).trans (if_neg h4)) (fun x h1 h4 h6 h7 => ?_) (show upd f 4 0 4 = 0 from pk_us) ?_ ?_ hv rfl rfl ?_ ?_) bm_0.symm
        · exact fo x (by omega) h4
        · show (upd f 4 0 6).toInt ≤ 50
          rw [fo 6 (by omega) (by omega)]; exact S.1.1
        · show (upd f 4 0 7).toInt ≤ 50
          rw [fo 7 (by omega) (by omega)]; exact S.1.2
        · show mLw (upd f 4 0) 0 (σ.2.1.2.2 0)
          exact ZZ.2.2.1.of2 (fo (6 + 0) (by omega) (by omega)) (fun k a l => fo k (by omega) (by omega))
        · show mLw (upd f 4 0) 1 (σ.2.1.2.2 1)
          exact ZZ.2.2.2.of2 (fo (6 + 1) (by omega) (by omega)) (fun k a l => fo k (by omega) (by omega))
      obtain ⟨r, er⟩ : ∃ r, r = grG (nI y) 1 1 1 (bY (σ.1.1 4) nb) 60 5 0 0 := ⟨_, rfl⟩
      have BR := both_read (u := nI y) (y := σ.1.1 4) hb 1 1 1
      rw [← er] at BR
      have k114 : ∀ (b : Int32) (v' : xS), vR v v' → (b = 0 ∧ ¬ (r.2.2 = true ∧ r.2.1 = nb) ∨ b = 1 ∧ (r.2.2 = true ∧ r.2.1 = nb)) → xWP pg_M_text K 114 [(0, .ref 0), (1, .int (nI y)), (2, .int r.1), (3, .int b), (4, .int (nI r.2.1))] [] (xfill (va_up (va_up F 4 g) 1 p2) v' 0 (wM0 0)) (0, 0) := by
        intro b v' hv hb2
        refine xWP_go 200 [] fun P hP => ?_
        refine br_n (fun nb2 => ?_) (fun zb => ?_)
        · have nb2 : ¬ b = 0 := nb2
          have ok : r.2.2 = true ∧ r.2.1 = nb := by
            rcases hb2 with z | z
            · exact absurd z.1 nb2
            · exact z.2
          obtain ⟨cc, ec, -, -⟩ := BR.1 ok
          refine ⟨vin (by decide), ?_⟩
          refine br_c (fun z => absurd z nb2) (fun _ => ?_)
          have q := good1 v' cc nb hv ec
          rw [← nq4] at q
          exact q
        · have zb : b = 0 := zb
          have no : ¬ (r.2.2 = true ∧ r.2.1 = nb) := by
            rcases hb2 with z | z
            · exact z.2
            · rw [z.1] at zb; exact absurd zb (by decide)
          refine xcall (sp_moveAll_4_1 (va_up (va_up F 4 g) 1 p2) v' fun f f1 f2 => ?_)
          refine ⟨vin (by decide), ?_⟩
          refine br_c (fun _ => ?_) (fun z => absurd zb z)
          have q := bad1 f v' r.2.1 f1 hv (BR.2 no)
          rw [← nq4] at q
          exact q
      refine xWP_go 200 [(30, [0, 1, 2]), (114, [0, 1, 2, 3, 4])] fun P hP => ?_
      refine br_c (fun _ => ?_) (fun z => absurd (by decide) z)
      refine ⟨vin (by decide), ?_⟩
      refine ⟨b6, ?_⟩
      have wk : ∀ K2 : xKo, (∀ v', vR v v' → v' 0 8 = nI r.2.1 → v' 0 14 = b2i (r.2.2 && decide (r.2.1 = nb)) → K2 (some (.int r.1)) (xfill (va_up (va_up F 4 g) 1 (upd p (Int32.toNatClampNeg ((6 : Int32) + nI y)) (p (Int32.toNatClampNeg 4)))) v' 0 (wM0 0))) → C_M_walks [.ref 0, .int (nI y), .int 1, .int 1, .int 1] (xfill (va_up (va_up F 4 g) 1 (upd p (Int32.toNatClampNeg ((6 : Int32) + nI y)) (p (Int32.toNatClampNeg 4)))) v 0 (wM0 0)) K2 := by
        intro K2 hk
        rw [← ep2] at hk ⊢
        have eR : grG (nI y) 1 1 1 (bY (fun k => p2 (130 + 50 * y + k)) nb) 60 5 0 0 = r := by rw [eB, er]
        refine sx_walks (va_up (va_up F 4 g) 1 p2) v y hy 1 1 1 nb hb (p2e.trans eb) (fun v' hv h8 h14 => ?_)
        have h8 : v' 0 8 = nI (grG (nI y) 1 1 1 (bY (fun k => p2 (130 + 50 * y + k)) nb) 60 5 0 0).2.1 := h8
        have h14 : v' 0 14 = b2i ((grG (nI y) 1 1 1 (bY (fun k => p2 (130 + 50 * y + k)) nb) 60 5 0 0).2.2 && decide ((grG (nI y) 1 1 1 (bY (fun k => p2 (130 + 50 * y + k)) nb) 60 5 0 0).2.1 = nb)) := h14
        show K2 (some (.int (grG (nI y) 1 1 1 (bY (fun k => p2 (130 + 50 * y + k)) nb) 60 5 0 0).1)) _
        rw [eR] at h8 h14 ⊢
        exact hk v' hv h8 h14
      refine xcall (wk _ (fun v' hv h8 h14 => ?_))
      have go := fun b hb2 => k114 b v' hv hb2
      rw [ep2, ← h8] at go
      refine br_c (fun z => ?_) (fun z => ?_)
      · have z : v' 0 14 = 0 := z
        rw [h14] at z
        refine hP _ _ _ _ _ (go 0 (Or.inl ⟨rfl, fun ok => ?_⟩))
        rw [ok.1, decide_eq_true ok.2] at z
        exact absurd z (by decide)
      have z : ¬ v' 0 14 = 0 := z
      rw [h14] at z
      refine br_n (fun z => absurd rfl z) (fun _ => ?_)
      refine hP _ _ _ _ _ (go 1 (Or.inr ⟨rfl, ?_⟩))
      cases g1 : r.2.2 with
      | false => rw [g1] at z; exact absurd rfl z
      | true =>
        refine ⟨rfl, ?_⟩
        by_cases e : r.2.1 = nb
        · exact e
        · rw [decide_eq_false e, Bool.and_false] at z
          exact absurd rfl z
    | succ d ih =>
      intro i p hi hp hq
      have n60 : Int32.toNatClampNeg ((60 : Int32) + nI i) = 60 + i := by rw [ib]; exact nI_clamp (by omega)
      have n130 : Int32.toNatClampNeg ((130 : Int32) + 50 * nI y + nI i) = 130 + 50 * y + i := by rw [ia]; exact nI_clamp (by omega)
      refine xWP_go 200 [(30, [0, 1, 2]), (114, [0, 1, 2, 3, 4])] fun P hP => ?_
      refine br_c (fun z => ?_) (fun _ => ?_)
      · have z : nI 50 ≤ nI i := z
        rw [nI_leI (by omega) (by omega)] at z
        omega
      refine ⟨by show vp_in ((60 : Int32) + nI i) 230; rw [ib]; exact vp_in_nI (by omega) (by omega), ?_⟩
      refine ⟨by show vp_in ((130 : Int32) + 50 * nI y + nI i) 230; rw [ia]; exact vp_in_nI (by omega) (by omega), ?_⟩
      refine hP _ _ _ _ _ ?_
      rw [nI_1]
      refine ih (i + 1) (upd p (Int32.toNatClampNeg ((130 : Int32) + 50 * nI y + nI i)) (p (Int32.toNatClampNeg ((60 : Int32) + nI i)))) (by omega) (fun x hx => ?_) (fun j hj => ?_)
      · rw [n130]
        exact (pk_un (by omega)).trans (hp x hx)
      · rw [n130, n60]
        by_cases ej : j = i
        · rw [ej, pk_us]
          exact hp _ (by omega)
        · rw [pk_un (by omega)]
          exact hq j (by omega)
  refine hP _ _ _ _ _ ?_
  exact key 50 0 (F 1) (by omega) (fun _ _ => rfl) (fun j hj => absurd hj (Nat.not_lt_zero j))
end
section
/-! ===== searches by marks: what they find ===== -/
def popN (k : Nat) : Nat := k % 2 + k / 2 % 2 + k / 4 % 2 + k / 8 % 2 + k / 16 % 2 + k / 32 % 2 + k / 64 % 2 + k / 128 % 2
def ushr (x s : Int32) : Int32 := (x.toUInt32 >>> (s.toUInt32 &&& Int32.toUInt32 31)).toInt32
def bc1 (x : Int32) : Int32 := x - (ushr x 1 &&& 1431655765)
def bc2 (x : Int32) : Int32 := (x &&& 858993459) + (ushr x 2 &&& 858993459)
def bc3 (x : Int32) : Int32 := (x + ushr x 4) &&& 252645135
def bc4 (x : Int32) : Int32 := x + ushr x 8
def bc5 (x : Int32) : Int32 := x + ushr x 16
def bcV (x : Int32) : Int32 := bc5 (bc4 (bc3 (bc2 (bc1 x)))) &&& 63
theorem bc_pop {k : Nat} (h : k < 256) : bcV (nI k) = nI (popN k) := by
  have q : ∀ k : Fin 256, bcV (nI k.val) = nI (popN k.val) := by decide +kernel
  exact q ⟨k, h⟩
theorem sx_bitCount (a : Int32) (k : Nat) (ea : a = nI k) (h : k < 256) {K : xKo} (hk : K (some (.int (nI (popN k)))) []) : C_I_bitCount [.int a] [] K := by
  subst ea
  rw [← bc_pop h] at hk
  refine xM_go rfl 60 [] fun P hP => ?_
  exact hk
theorem and_pop {k : Nat} (h : k < 256) (h0 : 0 < k) : ∃ j, j < k ∧ nI k &&& (nI k - 1) = nI j ∧ popN j + 1 = popN k := by
  have q : ∀ k : Fin 256, 0 < k.val → ∃ j : Fin 256, j.val < k.val ∧ nI k.val &&& (nI k.val - 1) = nI j.val ∧ popN j.val + 1 = popN k.val := by decide +kernel
  obtain ⟨j, a, b, c⟩ := q ⟨k, h⟩ h0
  exact ⟨j.val, a, b, c⟩
theorem sx_bits (a : Int32) (k : Nat) (ea : a = nI k) (h : k < 256) {K : xKo} (hk : K (some (.int (nI (popN k)))) []) : C_M_bits [.int a] [] K := by
  subst ea
  have key : ∀ (m j n : Nat), j ≤ m → j < 256 → n + popN j = popN k → xWP pg_M_bits K 4 [(0, .int (nI k)), (1, .int (nI n)), (2, .int (nI j))] [] [] (0, 0) := by
    intro m
    induction m with
    | zero =>
      intro j n hj _ e
      have j0 : j = 0 := by omega
      subst j0
      refine xWP_go 100 [(4, [0, 1, 2])] fun P hP => ?_
      refine br_c (fun _ => ?_) (fun z => absurd rfl z)
      have e : n = popN k := e
      rw [e]
      exact hk
    | succ m ih =>
      intro j n hj l e
      refine xWP_go 100 [(4, [0, 1, 2])] fun P hP => ?_
      by_cases j0 : j = 0
      · subst j0
        refine br_c (fun _ => ?_) (fun z => absurd rfl z)
        have e : n = popN k := e
        rw [e]
        exact hk
      · refine br_c (fun z => absurd z (nI_ne0 (by omega) (by omega))) (fun _ => ?_)
        obtain ⟨i, i1, i2, i3⟩ := and_pop l (by omega)
        refine hP _ _ _ _ _ ?_
        rw [nI_1]
        have q := ih i (n + 1) (by omega) (by omega) (by omega)
        rw [← i2] at q
        exact q
  refine xM_go rfl 60 [(4, [0, 1, 2])] fun P hP => ?_
  refine hP _ _ _ _ _ ?_
  exact key k k 0 (Nat.le_refl _) h (Nat.zero_add _)
theorem pop_le {k : Nat} (h : k < 128) : popN k ≤ 7 := by
  have q : ∀ k : Fin 128, popN k.val ≤ 7 := by decide +kernel
  exact q ⟨k, h⟩
/-- how many would be had -/
def cnN (s : xS) (X : xXt) (b t : Int32) : Nat := popN (stN (eHad s X b t) (nat (s 6 1)))
theorem st128 {s : xS} {X : xXt} (I : cIv s X) {b t : Int32} : stN (eHad s X b t) (nat (s 6 1)) < 128 := by
  have h := bel_nat I.1.2 (by omega)
  have l := stN_lt (h := eHad s X b t) (n := nat (s 6 1))
  have p : 2 ^ nat (s 6 1) ≤ 2 ^ 7 := Nat.pow_le_pow_right (by decide) h
  omega
theorem cnN_le {s : xS} {X : xXt} (I : cIv s X) {b t : Int32} : cnN s X b t ≤ 7 := pop_le (st128 I)
/-- the first of the least -/
def mfL (sc : Nat → Int32) : Nat → Nat → Int32 × Int32 → Int32 × Int32
  | 0, _, r => r
  | d + 1, i, r => mfL sc d (i + 1) (if sc i < r.2 then (nI i, sc i) else r)
def abV (x : Int32) : Int32 := if 0 ≤ x then x else -x
def rnV (s : xS) (X : xXt) : Int32 := if X.2.1 = -1 then s 6 1 else s 6 1 - 1
def sV (a n r : Int32) : Int32 := if a = 0 then -n else if a = 2 then abV (n - (r - n)) else n
def scV (a : Int32) (s : xS) (X : xXt) (t : Int32) (i : Nat) : Int32 := sV a (nI (cnN s X (nI i) t)) (rnV s X)
def z_mark (a t w : Int32) (σ : xZ) : xAn := if xin t 10 ∧ xin w 2 then (if w = 0 then ((mfL (scV a σ.1.1 σ.2.1 t) 6 0 (0, 8)).1, 0) else (abV (mfL (scV a σ.1.1 σ.2.1 t) 6 0 (0, 8)).2, 0)) else (-1000000001, 1)
theorem sx_runners (F v s : xS) (X : xXt) (T : tH F v s X) {K : xKo} (h : K (some (.int (rnV s X))) (xfill F v 0 (wT0 0))) : C_T_runners [.ref 0] (xfill F v 0 (wT0 0)) K := by
  unfold rnV at h
  refine xM_go rfl 100 [] fun P hP => ?_
  have e8 := T.1.2.1
  refine br_n (fun a => ?_) (fun a => ?_)
  · have a : ¬ v 0 9 = -1 := a
    rw [T.1.2.2.2] at a
    rw [if_neg a, ← e8] at h
    exact h
  · have a : v 0 9 = -1 := a
    rw [T.1.2.2.2] at a
    rw [if_pos a, ← e8] at h
    exact h
set_option maxRecDepth 100000 in
theorem sx_scoreFor (F v s : xS) (X : xXt) (T : tH (fun k => F (1 + k)) (fun k => v (1 + k)) s X) (a b : Int32) {K : xKo} (h : K (some (.int (sV a b (rnV s X)))) (xfill F v 0 wH0)) : C_H_scoreFor [.ref 0, .int a, .int b] (xfill F v 0 wH0) K := by
  unfold sV at h
  refine xM_go rfl 100 [] fun P hP => ?_
  refine ⟨fun e => ?_, fun e => ?_⟩
  · rw [if_pos e] at h; exact h
  rw [if_neg e] at h
  refine ⟨fun e => ?_, fun e => ?_⟩
  · rw [if_pos e] at h
    refine xcall (sx_runners (fun k => F (1 + k)) (fun k => v (1 + k)) s X T ?_)
    refine xcall (sp_abs _ ?_)
    exact h
  · rw [if_neg e] at h; exact h
set_option maxRecDepth 100000 in
theorem sx_markFor (n : Nat) (σ : xZ) (F v : xS) (R : HR n σ F v) (a s w : Int32) {K : xKo} (h : hK n σ (z_mark a s w σ) F K) : C_H_markFor [.ref 0, .int a, .int s, .int w] (xfill F v 0 wH0) K := by
  refine xM_go rfl 200 [(31, [0, 1, 2, 3, 4, 5, 6])] fun P hP => ?_
  refine xcall (sp_isSteps _ (fun a1 => ?_) (fun a1 => ?_))
  · refine br_c (fun _ => ?_) (fun z => absurd rfl z)
    refine xcall (sp_errH F v 1 (by decide) ?_)
    exact R.err h (if_neg fun z => a1 z.1)
  refine br_c (fun z => absurd z (by decide)) (fun _ => ?_)
  refine xcall (sp_isBelow _ _ (fun a2 => ?_) (fun a2 => ?_))
  · refine br_n (fun z => absurd rfl z) (fun _ => ?_)
    refine xcall (sp_errH F v 1 (by decide) ?_)
    exact R.err h (if_neg fun z => a2 z.2)
  refine br_n (fun _ => ?_) (fun z => absurd z (by decide))
  have ef : z_mark a s w σ = if w = 0 then ((mfL (scV a σ.1.1 σ.2.1 s) 6 0 (0, 8)).1, 0) else (abV (mfL (scV a σ.1.1 σ.2.1 s) 6 0 (0, 8)).2, 0) := if_pos ⟨a1, a2⟩
  obtain ⟨u, hu, rfl, -⟩ := nI_ofx s (n := 10) a1 (by decide)
  have hu : u < 10 := by omega
  obtain ⟨R0, e0⟩ : ∃ R0, R0 = mfL (scV a σ.1.1 σ.2.1 (nI u)) 6 0 (0, 8) := ⟨_, rfl⟩
  rw [← e0] at ef
  have key : ∀ (d i : Nat) (p : Int32) (q : Int32) (F' v' : xS), i + d = 6 → hG F v F' v' → mfL (scV a σ.1.1 σ.2.1 (nI u)) d i (p, q) = R0 → xWP pg_H_markFor K 31 [(0, .ref 0), (1, .int a), (2, .int (nI u)), (3, .int w), (4, .int p), (5, .int q), (6, .int (nI i))] [] (xfill F' v' 0 wH0) (0, 0) := by
    intro d
    induction d with
    | zero =>
      intro i p q F' v' hi E er
      have er : (p, q) = R0 := er
      rw [← er] at ef
      refine xWP_go 200 [(31, [0, 1, 2, 3, 4, 5, 6])] fun P hP => ?_
      refine br_c (fun _ => ?_) (fun z => ?_)
      · refine br_n (fun y => ?_) (fun y => ?_)
        · rw [if_neg y] at ef
          refine xcall (sp_abs _ ?_)
          exact R.go h E ef
        · rw [if_pos y] at ef
          exact R.go h E ef
      · have z : ¬ nI 6 ≤ nI i := z
        exact absurd (by rw [nI_leI (by omega) (by omega)]; omega) z
    | succ d ih =>
      intro i p q F' v' hi E er
      have er : mfL (scV a σ.1.1 σ.2.1 (nI u)) d (i + 1) (if scV a σ.1.1 σ.2.1 (nI u) i < q then (nI i, scV a σ.1.1 σ.2.1 (nI u) i) else (p, q)) = R0 := er
      refine xWP_go 200 [(31, [0, 1, 2, 3, 4, 5, 6])] fun P hP => ?_
      refine br_c (fun z => ?_) (fun _ => ?_)
      · have z : nI 6 ≤ nI i := z
        rw [nI_leI (by omega) (by omega)] at z
        omega
      have R' := R.keep E
      refine xcall (sx_wouldBeHad (fun k => F' (1 + k)) (fun k => v' (1 + k)) σ.1.1 σ.2.1 R'.t R.c (nI i) u hu (fun G w2 E2 _ => ?_))
      refine xcall (sx_bitCount _ (stN (eHad σ.1.1 σ.2.1 (nI i) (nI u)) (nat (σ.1.1 6 1))) rfl (by have := st128 R.c (b := nI i) (t := nI u); omega) ?_)
      have E3 := E.tr (hG.e1 E2)
      refine xcall (sx_scoreFor (upS 1 F' G) (upS 1 v' w2) σ.1.1 σ.2.1 (R.keep E3).t a _ ?_)
      refine br_c (fun z => ?_) (fun z => ?_)
      · have z : q ≤ scV a σ.1.1 σ.2.1 (nI u) i := z
        rw [if_neg (fun y => by rw [xlt] at y; rw [xle] at z; omega)] at er
        refine hP _ _ _ _ _ ?_
        rw [nI_1]
        exact ih (i + 1) _ _ (upS 1 F' G) (upS 1 v' w2) (by omega) E3 er
      · have z : ¬ q ≤ scV a σ.1.1 σ.2.1 (nI u) i := z
        rw [if_pos (by rw [xlt]; rw [xle] at z; omega)] at er
        refine hP _ _ _ _ _ ?_
        rw [nI_1]
        exact ih (i + 1) _ _ (upS 1 F' G) (upS 1 v' w2) (by omega) E3 er
  refine hP _ _ _ _ _ ?_
  exact key 6 0 _ _ F v (by omega) tR.rf e0.symm
set_option maxRecDepth 100000 in
theorem HX_worst (n : Nat) (σ : xZ) (F v : xS) (R : HR n σ F v) (s w : Int32) {K : xKo} (h : hK n σ (z_mark 0 s w σ) F K) : C_H_worst [.ref 0, .int s, .int w] (xfill F v 0 wH0) K := by
  refine xM_go rfl 100 [] fun P hP => ?_
  exact xcall (sx_markFor n σ F v R 0 s w h)
set_option maxRecDepth 100000 in
theorem HX_best (n : Nat) (σ : xZ) (F v : xS) (R : HR n σ F v) (s w : Int32) {K : xKo} (h : hK n σ (z_mark 1 s w σ) F K) : C_H_best [.ref 0, .int s, .int w] (xfill F v 0 wH0) K := by
  refine xM_go rfl 100 [] fun P hP => ?_
  exact xcall (sx_markFor n σ F v R 1 s w h)
set_option maxRecDepth 100000 in
theorem HX_parts (n : Nat) (σ : xZ) (F v : xS) (R : HR n σ F v) (s w : Int32) {K : xKo} (h : hK n σ (z_mark 2 s w σ) F K) : C_H_parts [.ref 0, .int s, .int w] (xfill F v 0 wH0) K := by
  refine xM_go rfl 100 [] fun P hP => ?_
  exact xcall (sx_markFor n σ F v R 2 s w h)
-- the steps by which nobody would be had
def stpL (s : xS) (X : xXt) (m : Int32) : Nat → Nat → xAn
  | 0, _ => (-1000000002, 2)
  | d + 1, i => if eSet s X m (nI i) = 0 then (nI i, 0) else stpL s X m d (i + 1)
def z_steps (m : Int32) (σ : xZ) : xAn := if xin m 6 then stpL σ.1.1 σ.2.1 m 10 0 else (-1000000001, 1)
set_option maxRecDepth 100000 in
theorem HX_steps (n : Nat) (σ : xZ) (F v : xS) (R : HR n σ F v) (m : Int32) {K : xKo} (h : hK n σ (z_steps m σ) F K) : C_H_steps [.ref 0, .int m] (xfill F v 0 wH0) K := by
  refine xM_go rfl 200 [(17, [0, 1, 2])] fun P hP => ?_
  refine xcall (sp_isBelow _ _ (fun a1 => ?_) (fun a1 => ?_))
  · refine br_n (fun z => absurd rfl z) (fun _ => ?_)
    refine xcall (sp_errH F v 1 (by decide) ?_)
    exact R.err h (if_neg a1)
  refine br_n (fun _ => ?_) (fun z => absurd z (by decide))
  have ef : z_steps m σ = stpL σ.1.1 σ.2.1 m 10 0 := if_pos a1
  have key : ∀ (d i : Nat) (F' v' : xS), i + d = 10 → hG F v F' v' → stpL σ.1.1 σ.2.1 m d i = stpL σ.1.1 σ.2.1 m 10 0 → xWP pg_H_steps K 17 [(0, .ref 0), (1, .int m), (2, .int (nI i))] [] (xfill F' v' 0 wH0) (0, 0) := by
    intro d
    induction d with
    | zero =>
      intro i F' v' hi E er
      refine xWP_go 200 [(17, [0, 1, 2])] fun P hP => ?_
      refine br_c (fun _ => ?_) (fun z => ?_)
      · refine xcall (sp_errH F' v' 2 (by decide) ?_)
        exact R.goe h E (ef.trans er.symm)
      · have z : ¬ nI 9 < nI i := z
        exact absurd (by rw [nI_ltI (by omega) (by omega)]; omega) z
    | succ d ih =>
      intro i F' v' hi E er
      have er : (if eSet σ.1.1 σ.2.1 m (nI i) = 0 then (nI i, 0) else stpL σ.1.1 σ.2.1 m d (i + 1)) = stpL σ.1.1 σ.2.1 m 10 0 := er
      refine xWP_go 200 [(17, [0, 1, 2])] fun P hP => ?_
      refine br_c (fun z => ?_) (fun _ => ?_)
      · have z : nI 9 < nI i := z
        rw [nI_ltI (by omega) (by omega)] at z
        omega
      refine xcall (sx_wouldBeHad (fun k => F' (1 + k)) (fun k => v' (1 + k)) σ.1.1 σ.2.1 (R.keep E).t R.c m i (by omega) (fun G w E2 _ => ?_))
      have E3 := E.tr (hG.e1 E2)
      refine br_n (fun y => ?_) (fun y => ?_)
      · rw [if_neg y] at er
        refine hP _ _ _ _ _ ?_
        rw [nI_1]
        exact ih (i + 1) (upS 1 F' G) (upS 1 v' w) (by omega) E3 er
      · rw [if_pos y] at er
        exact R.go h (F' := upS 1 F' G) (v' := upS 1 v' w) E3 (ef.trans er.symm)
  refine hP _ _ _ _ _ ?_
  exact key 10 0 F v (by omega) tR.rf rfl
-- the marks by which just a set would be had
def z_called (c t : Int32) (σ : xZ) : xAn := if xin c ((1 : Int32) <<< (σ.1.1 6 1 &&& 31)).toInt ∧ xin t 10 then (nI (stN (fun b => decide (eSet σ.1.1 σ.2.1 (nI b) t = c)) 6), 0) else (-1000000001, 1)
set_option maxRecDepth 100000 in
theorem HX_called (n : Nat) (σ : xZ) (F v : xS) (R : HR n σ F v) (c s : Int32) {K : xKo} (h : hK n σ (z_called c s σ) F K) : C_H_called [.ref 0, .int c, .int s] (xfill F v 0 wH0) K := by
  refine xM_go rfl 200 [(34, [0, 1, 2, 3, 4])] fun P hP => ?_
  refine xcall (sp_isBelow _ _ (fun a1 => ?_) (fun a1 => ?_))
  · have a1 : ¬ xin c ((1 : Int32) <<< (v 1 8 &&& 31)).toInt := a1
    rw [R.n1.2.1] at a1
    refine br_c (fun _ => ?_) (fun z => absurd rfl z)
    refine xcall (sp_errH F v 1 (by decide) ?_)
    exact R.err h (if_neg fun z => a1 z.1)
  have a1 : xin c ((1 : Int32) <<< (v 1 8 &&& 31)).toInt := a1
  rw [R.n1.2.1] at a1
  refine br_c (fun z => absurd z (by decide)) (fun _ => ?_)
  refine xcall (sp_isSteps _ (fun a2 => ?_) (fun a2 => ?_))
  · refine br_n (fun z => absurd rfl z) (fun _ => ?_)
    refine xcall (sp_errH F v 1 (by decide) ?_)
    exact R.err h (if_neg fun z => a2 z.2)
  refine br_n (fun _ => ?_) (fun z => absurd z (by decide))
  have ef : z_called c s σ = (nI (stN (fun b => decide (eSet σ.1.1 σ.2.1 (nI b) s = c)) 6), 0) := if_pos ⟨a1, a2⟩
  obtain ⟨u, hu, rfl, -⟩ := nI_ofx s (n := 10) a2 (by decide)
  have hu : u < 10 := by omega
  obtain ⟨H, eH⟩ : ∃ H : Nat → Bool, H = fun b => decide (eSet σ.1.1 σ.2.1 (nI b) (nI u) = c) := ⟨_, rfl⟩
  rw [← eH] at ef
  have key : ∀ (d i : Nat) (F' v' : xS), i + d = 6 → hG F v F' v' → xWP pg_H_called K 34 [(0, .ref 0), (1, .int c), (2, .int (nI u)), (3, .int (nI (stN H i))), (4, .int (nI i))] [] (xfill F' v' 0 wH0) (0, 0) := by
    intro d
    induction d with
    | zero =>
      intro i F' v' hi E
      have hi : i = 6 := hi
      subst hi
      refine xWP_go 200 [(34, [0, 1, 2, 3, 4])] fun P hP => ?_
      refine br_c (fun _ => ?_) (fun z => ?_)
      · exact R.go h E ef
      · have z : ¬ nI 6 ≤ nI 6 := z
        exact absurd (nI_le (Nat.le_refl _) (by omega)) z
    | succ d ih =>
      intro i F' v' hi E
      have est : stN H (i + 1) = if H i then stN H i + 2 ^ i else stN H i := rfl
      have eHi : H i = decide (eSet σ.1.1 σ.2.1 (nI i) (nI u) = c) := by rw [eH]
      refine xWP_go 200 [(34, [0, 1, 2, 3, 4])] fun P hP => ?_
      refine br_c (fun z => ?_) (fun _ => ?_)
      · have z : nI 6 ≤ nI i := z
        rw [nI_leI (by omega) (by omega)] at z
        omega
      refine xcall (sx_wouldBeHad (fun k => F' (1 + k)) (fun k => v' (1 + k)) σ.1.1 σ.2.1 (R.keep E).t R.c (nI i) u hu (fun G w E2 _ => ?_))
      have E3 := E.tr (hG.e1 E2)
      have nx := ih (i + 1) (upS 1 F' G) (upS 1 v' w) (by omega) E3
      refine br_n (fun y => ?_) (fun y => ?_)
      · rw [est, eHi, decide_eq_false y, if_neg Bool.false_ne_true] at nx
        refine hP _ _ _ _ _ ?_
        rw [nI_1]
        exact nx
      · rw [est, eHi, decide_eq_true y, if_pos rfl, ← st_or (by omega) stN_lt] at nx
        refine hP _ _ _ _ _ ?_
        rw [nI_1]
        exact nx
  refine hP _ _ _ _ _ ?_
  exact key 6 0 F v (by omega) tR.rf
-- who would be had by no call
def nvL (s : xS) (X : xXt) (t : Int32) : Nat → Nat → Int32 → Int32
  | 0, _, q => q
  | d + 1, i, q => nvL s X t d (i + 1) (q &&& (eSet s X (nI i) t ^^^ -1))
def z_never (t : Int32) (σ : xZ) : xAn := if xin t 10 then (nvL σ.1.1 σ.2.1 t 6 0 (((1 : Int32) <<< (σ.1.1 6 1 &&& 31)) - 1), 0) else (-1000000001, 1)
set_option maxRecDepth 100000 in
theorem HX_never (n : Nat) (σ : xZ) (F v : xS) (R : HR n σ F v) (s : Int32) {K : xKo} (h : hK n σ (z_never s σ) F K) : C_H_never [.ref 0, .int s] (xfill F v 0 wH0) K := by
  refine xM_go rfl 200 [(27, [0, 1, 2, 3])] fun P hP => ?_
  refine xcall (sp_isSteps _ (fun a1 => ?_) (fun a1 => ?_))
  · refine br_n (fun z => absurd rfl z) (fun _ => ?_)
    refine xcall (sp_errH F v 1 (by decide) ?_)
    exact R.err h (if_neg a1)
  refine br_n (fun _ => ?_) (fun z => absurd z (by decide))
  have ef : z_never s σ = (nvL σ.1.1 σ.2.1 s 6 0 (((1 : Int32) <<< (σ.1.1 6 1 &&& 31)) - 1), 0) := if_pos a1
  obtain ⟨u, hu, rfl, -⟩ := nI_ofx s (n := 10) a1 (by decide)
  have hu : u < 10 := by omega
  have key : ∀ (d i : Nat) (p : Int32) (F' v' : xS), i + d = 6 → hG F v F' v' → z_never (nI u) σ = (nvL σ.1.1 σ.2.1 (nI u) d i p, 0) → xWP pg_H_never K 27 [(0, .ref 0), (1, .int (nI u)), (2, .int p), (3, .int (nI i))] [] (xfill F' v' 0 wH0) (0, 0) := by
    intro d
    induction d with
    | zero =>
      intro i p F' v' hi E er
      refine xWP_go 200 [(27, [0, 1, 2, 3])] fun P hP => ?_
      refine br_c (fun _ => ?_) (fun z => ?_)
      · exact R.go h E er
      · have z : ¬ nI 6 ≤ nI i := z
        exact absurd (by rw [nI_leI (by omega) (by omega)]; omega) z
    | succ d ih =>
      intro i p F' v' hi E er
      refine xWP_go 200 [(27, [0, 1, 2, 3])] fun P hP => ?_
      refine br_c (fun z => ?_) (fun _ => ?_)
      · have z : nI 6 ≤ nI i := z
        rw [nI_leI (by omega) (by omega)] at z
        omega
      refine xcall (sx_wouldBeHad (fun k => F' (1 + k)) (fun k => v' (1 + k)) σ.1.1 σ.2.1 (R.keep E).t R.c (nI i) u hu (fun G w E2 _ => ?_))
      refine hP _ _ _ _ _ ?_
      rw [nI_1]
      exact ih (i + 1) _ (upS 1 F' G) (upS 1 v' w) (by omega) (E.tr (hG.e1 E2)) er
  refine hP _ _ _ _ _ ?_
  refine key 6 0 _ F v (by omega) tR.rf (ef.trans ?_)
  rw [← R.n1.2.1]
end
section
/-! ===== the reference: searches by marks ===== -/
theorem sx_players (F v s : xS) (X : xXt) (T : tM (F 1) s X) (hit : X.2.1 < 0 ↔ X.2.1 = -1) {K : xKo} (h : K (some (.int (rnV s X))) (xfill F v 0 (wM0 0))) : C_M_players [.ref 0] (xfill F v 0 (wM0 0)) K := by
  unfold rnV at h
  have e8 : F 1 (Int32.toNatClampNeg 8) = X.2.1 := T.1.2.2.2
  have e2 : F 1 (Int32.toNatClampNeg 2) = s 6 1 := T.1.2.1
  refine xM_go rfl 100 [] fun P hP => ?_
  refine ⟨vin (by decide), ?_⟩
  refine br_c (fun d => ?_) (fun d => ?_)
  · have d : 0 ≤ F 1 (Int32.toNatClampNeg 8) := d
    rw [e8] at d
    rw [if_neg (fun z => by have q := hit.mpr z; rw [xlt] at q; rw [xle] at d; omega), ← e2] at h
    refine ⟨vin (by decide), ?_⟩
    exact h
  · have d : ¬ 0 ≤ F 1 (Int32.toNatClampNeg 8) := d
    rw [e8] at d
    rw [if_pos (hit.mp (by rw [xlt]; rw [xle] at d; omega)), ← e2] at h
    refine ⟨vin (by decide), ?_⟩
    exact h
theorem sc_1 {s : xS} {X : xXt} {t : Int32} {i : Nat} : scV 1 s X t i = nI (cnN s X (nI i) t) := by
  unfold scV sV
  rw [if_neg (show ¬ (1 : Int32) = 0 by decide), if_neg (show ¬ (1 : Int32) = 2 by decide)]
theorem sc_0 {s : xS} {X : xXt} {t : Int32} {i : Nat} : scV 0 s X t i = -(nI (cnN s X (nI i) t)) := by
  unfold scV sV
  rw [if_pos rfl]
theorem sc_2 {s : xS} {X : xXt} {t : Int32} {i : Nat} : scV 2 s X t i = abV (nI (cnN s X (nI i) t) - (rnV s X - nI (cnN s X (nI i) t))) := by
  unfold scV sV
  rw [if_neg (show ¬ (2 : Int32) = 0 by decide), if_pos rfl]
set_option maxRecDepth 100000 in
theorem MX_best (n : Nat) (σ : xZ) (F v : xS) (R : MR n σ F v) (s w : Int32) {K : xKo} (h : mK n σ (z_mark 1 s w σ) F K) : C_M_best [.ref 0, .int s, .int w] (xfill F v 0 (wM0 0)) K := by
  refine xM_go rfl 200 [(32, [0, 1, 2, 3, 4, 5])] fun P hP => ?_
  refine xcall (sp_areSteps _ (fun a1 => ?_) (fun a1 => ?_))
  · refine br_c (fun _ => ?_) (fun z => absurd rfl z)
    refine xcall (sp_errM F v (-1000000001) 1 (by decide) (by decide) ?_)
    exact R.err h (if_neg fun z => a1 z.1)
  refine br_c (fun z => absurd z (by decide)) (fun _ => ?_)
  refine xcall (sp_inx _ 1 2 (by decide) (fun a2 => ?_) (fun a2 => ?_))
  · refine br_n (fun z => absurd rfl z) (fun _ => ?_)
    refine xcall (sp_errM F v (-1000000001) 1 (by decide) (by decide) ?_)
    exact R.err h (if_neg fun z => a2 z.2)
  refine br_n (fun _ => ?_) (fun z => absurd z (by decide))
  have ef : z_mark 1 s w σ = if w = 0 then ((mfL (scV 1 σ.1.1 σ.2.1 s) 6 0 (0, 8)).1, 0) else (abV (mfL (scV 1 σ.1.1 σ.2.1 s) 6 0 (0, 8)).2, 0) := if_pos ⟨a1, a2⟩
  obtain ⟨u, hu, rfl, -⟩ := nI_ofx s (n := 10) a1 (by decide)
  have hu : u < 10 := by omega
  obtain ⟨R0, e0⟩ : ∃ R0, R0 = mfL (scV 1 σ.1.1 σ.2.1 (nI u)) 6 0 (0, 8) := ⟨_, rfl⟩
  rw [← e0] at ef
  have key : ∀ (d i : Nat) (p : Int32) (q : Nat) (F' v' : xS), i + d = 6 → q ≤ 8 → mR r0 F v F' v' → mfL (scV 1 σ.1.1 σ.2.1 (nI u)) d i (p, nI q) = R0 → xWP pg_M_best K 32 [(0, .ref 0), (1, .int (nI u)), (2, .int w), (3, .int p), (4, .int (nI q)), (5, .int (nI i))] [] (xfill F' v' 0 (wM0 0)) (0, 0) := by
    intro d
    induction d with
    | zero =>
      intro i p q F' v' hi hq E er
      have er : (p, nI q) = R0 := er
      rw [← er] at ef
      have ea : abV (nI q) = nI q := if_pos (nI_pos' (by omega))
      refine xWP_go 200 [(32, [0, 1, 2, 3, 4, 5])] fun P hP => ?_
      refine br_c (fun _ => ?_) (fun z => ?_)
      · refine br_n (fun y => ?_) (fun y => ?_)
        · rw [if_neg y] at ef
          exact R.go h E (ef.trans (an_ ea))
        · rw [if_pos y] at ef
          exact R.go h E ef
      · have z : ¬ nI 6 ≤ nI i := z
        exact absurd (by rw [nI_leI (by omega) (by omega)]; omega) z
    | succ d ih =>
      intro i p q F' v' hi hq E er
      have er : mfL (scV 1 σ.1.1 σ.2.1 (nI u)) d (i + 1) (if scV 1 σ.1.1 σ.2.1 (nI u) i < nI q then (nI i, scV 1 σ.1.1 σ.2.1 (nI u) i) else (p, nI q)) = R0 := er
      rw [sc_1] at er
      have c7 := cnN_le R.c (b := nI i) (t := nI u)
      refine xWP_go 200 [(32, [0, 1, 2, 3, 4, 5])] fun P hP => ?_
      refine br_c (fun z => ?_) (fun _ => ?_)
      · have z : nI 6 ≤ nI i := z
        rw [nI_leI (by omega) (by omega)] at z
        omega
      have R' := R.keep E
      refine xcall (sx_wouldBe F' v' σ.1.1 σ.2.1 R'.t R.c (nI i) u hu (fun F2 v2 E2 => ?_))
      rw [eS0 R']
      refine xcall (sx_bits _ (stN (eHad σ.1.1 σ.2.1 (nI i) (nI u)) (nat (σ.1.1 6 1))) rfl (by have := st128 R.c (b := nI i) (t := nI u); omega) ?_)
      have E3 := E.tr E2
      refine br_c (fun y => ?_) (fun y => ?_)
      · refine br_c (fun y2 => ?_) (fun y2 => absurd y y2)
        have y : nI q ≤ nI (cnN σ.1.1 σ.2.1 (nI i) (nI u)) := y
        rw [if_neg (fun z => by rw [xlt] at z; rw [xle] at y; omega)] at er
        refine hP _ _ _ _ _ ?_
        rw [nI_1]
        exact ih (i + 1) _ _ F2 v2 (by omega) hq E3 er
      · refine br_c (fun y2 => absurd y2 y) (fun y2 => ?_)
        have y : ¬ nI q ≤ nI (cnN σ.1.1 σ.2.1 (nI i) (nI u)) := y
        rw [if_pos (by rw [xlt]; rw [xle] at y; omega)] at er
        refine hP _ _ _ _ _ ?_
        rw [nI_1]
        exact ih (i + 1) _ (cnN σ.1.1 σ.2.1 (nI i) (nI u)) F2 v2 (by omega) (by omega) E3 er
  refine hP _ _ _ _ _ ?_
  exact key 6 0 0 8 F v (by omega) (by omega) mR.rf e0.symm
theorem ng_lt {c k : Nat} (hc : c ≤ 7) (hk : k ≤ 7) : -(nI c) < -(nI k) ↔ nI k < nI c := by
  have q : ∀ c k : Fin 8, decide (-(nI c.val) < -(nI k.val)) = decide (nI k.val < nI c.val) := by decide +kernel
  have e := q ⟨c, by omega⟩ ⟨k, by omega⟩
  exact decide_eq_decide.mp e
theorem ng_ab {k : Nat} (hk : k ≤ 7) : abV (-(nI k)) = nI k ∧ -(nI k) < 8 ∧ ¬ nI k ≤ -1 := by
  have q : ∀ k : Fin 8, abV (-(nI k.val)) = nI k.val ∧ -(nI k.val) < 8 ∧ ¬ nI k.val ≤ -1 := by decide +kernel
  exact q ⟨k, by omega⟩
set_option maxRecDepth 100000 in
theorem MX_worst (n : Nat) (σ : xZ) (F v : xS) (R : MR n σ F v) (s w : Int32) {K : xKo} (h : mK n σ (z_mark 0 s w σ) F K) : C_M_worst [.ref 0, .int s, .int w] (xfill F v 0 (wM0 0)) K := by
  refine xM_go rfl 200 [(31, [0, 1, 2, 3, 4, 5])] fun P hP => ?_
  refine xcall (sp_areSteps _ (fun a1 => ?_) (fun a1 => ?_))
  · refine br_c (fun _ => ?_) (fun z => absurd rfl z)
    refine xcall (sp_errM F v (-1000000001) 1 (by decide) (by decide) ?_)
    exact R.err h (if_neg fun z => a1 z.1)
  refine br_c (fun z => absurd z (by decide)) (fun _ => ?_)
  refine xcall (sp_inx _ 1 2 (by decide) (fun a2 => ?_) (fun a2 => ?_))
  · refine br_n (fun z => absurd rfl z) (fun _ => ?_)
    refine xcall (sp_errM F v (-1000000001) 1 (by decide) (by decide) ?_)
    exact R.err h (if_neg fun z => a2 z.2)
  refine br_n (fun _ => ?_) (fun z => absurd z (by decide))
  have ef : z_mark 0 s w σ = if w = 0 then ((mfL (scV 0 σ.1.1 σ.2.1 s) 6 0 (0, 8)).1, 0) else (abV (mfL (scV 0 σ.1.1 σ.2.1 s) 6 0 (0, 8)).2, 0) := if_pos ⟨a1, a2⟩
  obtain ⟨u, hu, rfl, -⟩ := nI_ofx s (n := 10) a1 (by decide)
  have hu : u < 10 := by omega
  obtain ⟨R0, e0⟩ : ∃ R0, R0 = mfL (scV 0 σ.1.1 σ.2.1 (nI u)) 6 0 (0, 8) := ⟨_, rfl⟩
  rw [← e0] at ef
  have key : ∀ (d i : Nat) (p q q' : Int32) (F' v' : xS), i + d = 6 → ((∃ k, k ≤ 7 ∧ q = nI k ∧ q' = -(nI k)) ∨ (i = 0 ∧ q = -1 ∧ q' = 8)) → mR r0 F v F' v' → mfL (scV 0 σ.1.1 σ.2.1 (nI u)) d i (p, q') = R0 → xWP pg_M_worst K 31 [(0, .ref 0), (1, .int (nI u)), (2, .int w), (3, .int p), (4, .int q), (5, .int (nI i))] [] (xfill F' v' 0 (wM0 0)) (0, 0) := by
    intro d
    induction d with
    | zero =>
      intro i p q q' F' v' hi hq E er
      have er : (p, q') = R0 := er
      rw [← er] at ef
      rcases hq with ⟨k, hk, rfl, rfl⟩ | ⟨i0, -⟩
      · have ea := (ng_ab hk).1
        refine xWP_go 200 [(31, [0, 1, 2, 3, 4, 5])] fun P hP => ?_
        refine br_c (fun _ => ?_) (fun z => ?_)
        · refine br_n (fun y => ?_) (fun y => ?_)
          · rw [if_neg y] at ef
            exact R.go h E (ef.trans (an_ ea))
          · rw [if_pos y] at ef
            exact R.go h E ef
        · have z : ¬ nI 6 ≤ nI i := z
          exact absurd (by rw [nI_leI (by omega) (by omega)]; omega) z
      · omega
    | succ d ih =>
      intro i p q q' F' v' hi hq E er
      have er : mfL (scV 0 σ.1.1 σ.2.1 (nI u)) d (i + 1) (if scV 0 σ.1.1 σ.2.1 (nI u) i < q' then (nI i, scV 0 σ.1.1 σ.2.1 (nI u) i) else (p, q')) = R0 := er
      rw [sc_0] at er
      have c7 := cnN_le R.c (b := nI i) (t := nI u)
      have iff : (nI (cnN σ.1.1 σ.2.1 (nI i) (nI u)) ≤ q) ↔ ¬ (-(nI (cnN σ.1.1 σ.2.1 (nI i) (nI u))) < q') := by
        rcases hq with ⟨k, hk, rfl, rfl⟩ | ⟨i0, rfl, rfl⟩
        · rw [ng_lt c7 hk, nI_leI (by omega) (by omega), nI_ltI (by omega) (by omega)]
          omega
        · obtain ⟨-, b, c⟩ := ng_ab c7
          exact ⟨fun z => absurd z c, fun z => absurd b z⟩
      refine xWP_go 200 [(31, [0, 1, 2, 3, 4, 5])] fun P hP => ?_
      refine br_c (fun z => ?_) (fun _ => ?_)
      · have z : nI 6 ≤ nI i := z
        rw [nI_leI (by omega) (by omega)] at z
        omega
      have R' := R.keep E
      refine xcall (sx_wouldBe F' v' σ.1.1 σ.2.1 R'.t R.c (nI i) u hu (fun F2 v2 E2 => ?_))
      rw [eS0 R']
      refine xcall (sx_bits _ (stN (eHad σ.1.1 σ.2.1 (nI i) (nI u)) (nat (σ.1.1 6 1))) rfl (by have := st128 R.c (b := nI i) (t := nI u); omega) ?_)
      have E3 := E.tr E2
      refine br_c (fun y => ?_) (fun y => ?_)
      · refine br_c (fun y2 => ?_) (fun y2 => absurd y y2)
        have y : nI (cnN σ.1.1 σ.2.1 (nI i) (nI u)) ≤ q := y
        rw [if_neg (iff.mp y)] at er
        refine hP _ _ _ _ _ ?_
        rw [nI_1]
        refine ih (i + 1) _ _ _ F2 v2 (by omega) (Or.inl ?_) E3 er
        rcases hq with z | ⟨i0, q1, -⟩
        · exact z
        · rw [q1] at y
          exact absurd y (ng_ab c7).2.2
      · refine br_c (fun y2 => absurd y2 y) (fun y2 => ?_)
        have y : ¬ nI (cnN σ.1.1 σ.2.1 (nI i) (nI u)) ≤ q := y
        have y3 : -(nI (cnN σ.1.1 σ.2.1 (nI i) (nI u))) < q' := by
          by_cases z : -(nI (cnN σ.1.1 σ.2.1 (nI i) (nI u))) < q'
          · exact z
          · exact absurd (iff.mpr z) y
        rw [if_pos y3] at er
        refine hP _ _ _ _ _ ?_
        rw [nI_1]
        exact ih (i + 1) _ _ _ F2 v2 (by omega) (Or.inl ⟨_, c7, rfl, rfl⟩) E3 er
  refine hP _ _ _ _ _ ?_
  exact key 6 0 0 (-1) 8 F v (by omega) (Or.inr ⟨rfl, rfl, rfl⟩) mR.rf e0.symm
theorem ab_lt (x : Int32) : (if x < 0 then -x else x) = abV x := by
  unfold abV
  by_cases h : x < 0
  · rw [if_pos h, if_neg (fun z => by rw [xlt] at h; rw [xle] at z; omega)]
  · rw [if_neg h, if_pos (by rw [xle]; rw [xlt] at h; omega)]
theorem rn_in {s : xS} {X : xXt} (I : cIv s X) : ∃ k, k ≤ 8 ∧ rnV s X = nI k - 1 := by
  obtain ⟨c, hc, e⟩ := I.1.2
  unfold rnV
  rw [e]
  split
  · exact ⟨c + 1, by omega, (nI_pred c).symm⟩
  · exact ⟨c, by omega, rfl⟩
theorem pa_eq {a k : Nat} (ha : a ≤ 7) (hk : k ≤ 8) : nI a - (nI k - 1 - nI a) = 2 * nI a - (nI k - 1) ∧ ∃ j, j ≤ 15 ∧ abV (2 * nI a - (nI k - 1)) = nI j := by
  have q : ∀ (a : Fin 8) (k : Fin 9), nI a.val - (nI k.val - 1 - nI a.val) = 2 * nI a.val - (nI k.val - 1) ∧ ∃ j : Fin 16, abV (2 * nI a.val - (nI k.val - 1)) = nI j.val := by decide +kernel
  obtain ⟨e, j, ej⟩ := q ⟨a, by omega⟩ ⟨k, by omega⟩
  exact ⟨e, j.val, by have := j.isLt; omega, ej⟩
set_option maxRecDepth 100000 in
theorem MX_parts (n : Nat) (σ : xZ) (F v : xS) (R : MR n σ F v) (s w : Int32) {K : xKo} (h : mK n σ (z_mark 2 s w σ) F K) : C_M_parts [.ref 0, .int s, .int w] (xfill F v 0 (wM0 0)) K := by
  refine xM_go rfl 200 [(32, [0, 1, 2, 3, 4, 5]), (73, [0, 1, 2, 3, 4, 5, 6])] fun P hP => ?_
  refine xcall (sp_areSteps _ (fun a1 => ?_) (fun a1 => ?_))
  · refine br_c (fun _ => ?_) (fun z => absurd rfl z)
    refine xcall (sp_errM F v (-1000000001) 1 (by decide) (by decide) ?_)
    exact R.err h (if_neg fun z => a1 z.1)
  refine br_c (fun z => absurd z (by decide)) (fun _ => ?_)
  refine xcall (sp_inx _ 1 2 (by decide) (fun a2 => ?_) (fun a2 => ?_))
  · refine br_n (fun z => absurd rfl z) (fun _ => ?_)
    refine xcall (sp_errM F v (-1000000001) 1 (by decide) (by decide) ?_)
    exact R.err h (if_neg fun z => a2 z.2)
  refine br_n (fun _ => ?_) (fun z => absurd z (by decide))
  have ef : z_mark 2 s w σ = if w = 0 then ((mfL (scV 2 σ.1.1 σ.2.1 s) 6 0 (0, 8)).1, 0) else (abV (mfL (scV 2 σ.1.1 σ.2.1 s) 6 0 (0, 8)).2, 0) := if_pos ⟨a1, a2⟩
  obtain ⟨u, hu, rfl, -⟩ := nI_ofx s (n := 10) a1 (by decide)
  have hu : u < 10 := by omega
  obtain ⟨R0, e0⟩ : ∃ R0, R0 = mfL (scV 2 σ.1.1 σ.2.1 (nI u)) 6 0 (0, 8) := ⟨_, rfl⟩
  rw [← e0] at ef
  obtain ⟨rk, hrk, erk⟩ := rn_in R.c
  have key : ∀ (d i : Nat) (p : Int32) (q : Nat) (F' v' : xS), i + d = 6 → q ≤ 15 → mR r0 F v F' v' → mfL (scV 2 σ.1.1 σ.2.1 (nI u)) d i (p, nI q) = R0 → xWP pg_M_parts K 32 [(0, .ref 0), (1, .int (nI u)), (2, .int w), (3, .int p), (4, .int (nI q)), (5, .int (nI i))] [] (xfill F' v' 0 (wM0 0)) (0, 0) := by
    intro d
    induction d with
    | zero =>
      intro i p q F' v' hi hq E er
      have er : (p, nI q) = R0 := er
      rw [← er] at ef
      have ea : abV (nI q) = nI q := if_pos (nI_pos' (by omega))
      refine xWP_go 200 [(32, [0, 1, 2, 3, 4, 5]), (73, [0, 1, 2, 3, 4, 5, 6])] fun P hP => ?_
      refine br_c (fun _ => ?_) (fun z => ?_)
      · refine br_n (fun y => ?_) (fun y => ?_)
        · rw [if_neg y] at ef
          exact R.go h E (ef.trans (an_ ea))
        · rw [if_pos y] at ef
          exact R.go h E ef
      · have z : ¬ nI 6 ≤ nI i := z
        exact absurd (by rw [nI_leI (by omega) (by omega)]; omega) z
    | succ d ih =>
      intro i p q F' v' hi hq E er
      have er : mfL (scV 2 σ.1.1 σ.2.1 (nI u)) d (i + 1) (if scV 2 σ.1.1 σ.2.1 (nI u) i < nI q then (nI i, scV 2 σ.1.1 σ.2.1 (nI u) i) else (p, nI q)) = R0 := er
      have c7 := cnN_le R.c (b := nI i) (t := nI u)
      obtain ⟨c, ec⟩ : ∃ c, c = cnN σ.1.1 σ.2.1 (nI i) (nI u) := ⟨_, rfl⟩
      rw [← ec] at c7
      obtain ⟨pe, j, hj, ej⟩ := pa_eq c7 hrk
      have esc : scV 2 σ.1.1 σ.2.1 (nI u) i = nI j := by rw [sc_2, ← ec, erk, pe, ej]
      rw [esc] at er
      refine xWP_go 200 [(32, [0, 1, 2, 3, 4, 5]), (73, [0, 1, 2, 3, 4, 5, 6])] fun P hP => ?_
      refine br_c (fun z => ?_) (fun _ => ?_)
      · have z : nI 6 ≤ nI i := z
        rw [nI_leI (by omega) (by omega)] at z
        omega
      have R' := R.keep E
      refine xcall (sx_wouldBe F' v' σ.1.1 σ.2.1 R'.t R.c (nI i) u hu (fun F2 v2 E2 => ?_))
      rw [eS0 R']
      refine xcall (sx_bits _ (stN (eHad σ.1.1 σ.2.1 (nI i) (nI u)) (nat (σ.1.1 6 1))) rfl (by have := st128 R.c (b := nI i) (t := nI u); omega) ?_)
      have E3 := E.tr E2
      refine xcall (sx_players F2 v2 σ.1.1 σ.2.1 (R.keep E3).t R.c.hit ?_)
      have k73 : ∀ a : Int32, a = nI j → xWP pg_M_parts K 73 [(0, .ref 0), (1, .int (nI u)), (2, .int w), (3, .int p), (4, .int (nI q)), (5, .int (nI i)), (6, .int a)] [] (xfill F2 v2 0 (wM0 0)) (0, 0) := by
        intro a ea
        subst ea
        refine xWP_go 200 [(32, [0, 1, 2, 3, 4, 5])] fun P hP => ?_
        refine br_c (fun y => ?_) (fun y => ?_)
        · refine br_c (fun y2 => ?_) (fun y2 => absurd y y2)
          have y : nI q ≤ nI j := y
          rw [if_neg (fun z => by rw [xlt] at z; rw [xle] at y; omega)] at er
          refine hP _ _ _ _ _ ?_
          rw [nI_1]
          exact ih (i + 1) _ _ F2 v2 (by omega) hq E3 er
        · refine br_c (fun y2 => absurd y2 y) (fun y2 => ?_)
          have y : ¬ nI q ≤ nI j := y
          rw [if_pos (by rw [xlt]; rw [xle] at y; omega)] at er
          refine hP _ _ _ _ _ ?_
          rw [nI_1]
          exact ih (i + 1) _ _ F2 v2 (by omega) hj E3 er
      have e2 : 2 * nI (popN (stN (eHad σ.1.1 σ.2.1 (nI i) (nI u)) (nat (σ.1.1 6 1)))) - rnV σ.1.1 σ.2.1 = 2 * nI c - (nI rk - 1) := by rw [erk, ec]; rfl
      refine br_c (fun y => ?_) (fun y => ?_)
      · have y : 0 ≤ 2 * nI (popN (stN (eHad σ.1.1 σ.2.1 (nI i) (nI u)) (nat (σ.1.1 6 1)))) - rnV σ.1.1 σ.2.1 := y
        rw [e2] at y
        refine hP _ _ _ _ _ (k73 _ ?_)
        show 2 * nI (popN (stN (eHad σ.1.1 σ.2.1 (nI i) (nI u)) (nat (σ.1.1 6 1)))) - rnV σ.1.1 σ.2.1 = nI j
        rw [e2, ← ej]
        exact (if_pos y).symm
      · have y : ¬ 0 ≤ 2 * nI (popN (stN (eHad σ.1.1 σ.2.1 (nI i) (nI u)) (nat (σ.1.1 6 1)))) - rnV σ.1.1 σ.2.1 := y
        rw [e2] at y
        refine hP _ _ _ _ _ (k73 _ ?_)
        show -(2 * nI (popN (stN (eHad σ.1.1 σ.2.1 (nI i) (nI u)) (nat (σ.1.1 6 1)))) - rnV σ.1.1 σ.2.1) = nI j
        rw [e2, ← ej]
        exact (if_neg y).symm
  refine hP _ _ _ _ _ ?_
  exact key 6 0 0 8 F v (by omega) (by omega) mR.rf e0.symm
set_option maxRecDepth 100000 in
theorem MX_steps (n : Nat) (σ : xZ) (F v : xS) (R : MR n σ F v) (m : Int32) {K : xKo} (h : mK n σ (z_steps m σ) F K) : C_M_steps [.ref 0, .int m] (xfill F v 0 (wM0 0)) K := by
  refine xM_go rfl 200 [(16, [0, 1, 2]), (37, [0, 1, 2])] fun P hP => ?_
  refine xcall (sp_isMark _ (fun a1 => ?_) (fun a1 => ?_))
  · refine br_n (fun z => absurd rfl z) (fun _ => ?_)
    refine xcall (sp_errM F v (-1000000001) 1 (by decide) (by decide) ?_)
    exact R.err h (if_neg a1)
  refine br_n (fun _ => ?_) (fun z => absurd z (by decide))
  have ef : z_steps m σ = stpL σ.1.1 σ.2.1 m 10 0 := if_pos a1
  have k37 : ∀ (i : Nat) (F' v' : xS), i ≤ 10 → (if i ≤ 9 then (nI i, 0) else (-1000000002, 2)) = stpL σ.1.1 σ.2.1 m 10 0 → mR r0 F v F' v' → xWP pg_M_steps K 37 [(0, .ref 0), (1, .int m), (2, .int (nI i))] [] (xfill F' v' 0 (wM0 0)) (0, 0) := by
    intro i F' v' hi er E
    refine xWP_go 200 [] fun P hP => ?_
    refine br_c (fun y => ?_) (fun y => ?_)
    · have y : nI i ≤ nI 9 := y
      rw [nI_leI (by omega) (by omega)] at y
      rw [if_pos y] at er
      exact R.go h E (ef.trans er.symm)
    · have y : ¬ nI i ≤ nI 9 := y
      rw [nI_leI (by omega) (by omega)] at y
      rw [if_neg y] at er
      refine xcall (sp_errM F' v' (-1000000002) 2 (by decide) (by decide) ?_)
      exact R.goe h E (ef.trans er.symm)
  have key : ∀ (d i : Nat) (F' v' : xS), i + d = 10 → mR r0 F v F' v' → stpL σ.1.1 σ.2.1 m d i = stpL σ.1.1 σ.2.1 m 10 0 → xWP pg_M_steps K 16 [(0, .ref 0), (1, .int m), (2, .int (nI i))] [] (xfill F' v' 0 (wM0 0)) (0, 0) := by
    intro d
    induction d with
    | zero =>
      intro i F' v' hi E er
      refine xWP_go 200 [(16, [0, 1, 2]), (37, [0, 1, 2])] fun P hP => ?_
      refine br_c (fun _ => ?_) (fun z => ?_)
      · exact hP _ _ _ _ _ (k37 i F' v' (by omega) (by rw [if_neg (by omega)]; exact er) E)
      · have z : ¬ nI 9 < nI i := z
        exact absurd (by rw [nI_ltI (by omega) (by omega)]; omega) z
    | succ d ih =>
      intro i F' v' hi E er
      have er : (if eSet σ.1.1 σ.2.1 m (nI i) = 0 then (nI i, 0) else stpL σ.1.1 σ.2.1 m d (i + 1)) = stpL σ.1.1 σ.2.1 m 10 0 := er
      refine xWP_go 200 [(16, [0, 1, 2]), (37, [0, 1, 2])] fun P hP => ?_
      refine br_c (fun z => ?_) (fun _ => ?_)
      · have z : nI 9 < nI i := z
        rw [nI_ltI (by omega) (by omega)] at z
        omega
      have R' := R.keep E
      refine xcall (sx_wouldBe F' v' σ.1.1 σ.2.1 R'.t R.c m i (by omega) (fun F2 v2 E2 => ?_))
      rw [eS0 R']
      refine br_c (fun y => ?_) (fun y => ?_)
      · rw [if_pos y] at er
        exact hP _ _ _ _ _ (k37 i F2 v2 (by omega) (by rw [if_pos (by omega)]; exact er) (E.tr E2))
      · rw [if_neg y] at er
        refine hP _ _ _ _ _ ?_
        rw [nI_1]
        exact ih (i + 1) F2 v2 (by omega) (E.tr E2) er
  refine hP _ _ _ _ _ ?_
  exact key 10 0 F v (by omega) mR.rf rfl
theorem shl_b {x : Int32} (h : below 7 x) : below 128 ((1 : Int32) <<< (x &&& 31)) := by
  obtain ⟨k, hk, rfl⟩ := h
  have q : ∀ k : Fin 8, ∃ j : Fin 129, (1 : Int32) <<< (nI k.val &&& 31) = nI j.val := by decide +kernel
  obtain ⟨j, e⟩ := q ⟨k, by omega⟩
  exact ⟨j.val, by have := j.isLt; omega, e⟩
set_option maxRecDepth 100000 in
theorem MX_called (n : Nat) (σ : xZ) (F v : xS) (R : MR n σ F v) (c s : Int32) {K : xKo} (h : mK n σ (z_called c s σ) F K) : C_M_called [.ref 0, .int c, .int s] (xfill F v 0 (wM0 0)) K := by
  have e2 : F 1 (Int32.toNatClampNeg 2) = σ.1.1 6 1 := R.n1.2.1
  have pre := in_pre (k := c) (shl_b R.c.1.2) (by omega)
  refine xM_go rfl 200 [(37, [0, 1, 2, 3, 4])] fun P hP => ?_
  refine ⟨vin (by decide), ?_⟩
  refine xcall (sp_in _ _ _ (fun a1 => ?_) (fun a1 => ?_))
  · have a1 : ¬ ((0 : Int32).toInt ≤ c.toInt ∧ c.toInt ≤ ((1 : Int32) <<< (F 1 (Int32.toNatClampNeg 2) &&& 31) - 1).toInt) := a1
    rw [e2] at a1
    refine br_c (fun _ => ?_) (fun z => absurd rfl z)
    refine xcall (sp_errM F v (-1000000001) 1 (by decide) (by decide) ?_)
    exact R.err h (if_neg fun z => a1 (pre.mpr z.1))
  have a1 : (0 : Int32).toInt ≤ c.toInt ∧ c.toInt ≤ ((1 : Int32) <<< (F 1 (Int32.toNatClampNeg 2) &&& 31) - 1).toInt := a1
  rw [e2] at a1
  have a1 := pre.mp a1
  refine br_c (fun z => absurd z (by decide)) (fun _ => ?_)
  refine xcall (sp_areSteps _ (fun a2 => ?_) (fun a2 => ?_))
  · refine br_n (fun z => absurd rfl z) (fun _ => ?_)
    refine xcall (sp_errM F v (-1000000001) 1 (by decide) (by decide) ?_)
    exact R.err h (if_neg fun z => a2 z.2)
  refine br_n (fun _ => ?_) (fun z => absurd z (by decide))
  have ef : z_called c s σ = (nI (stN (fun b => decide (eSet σ.1.1 σ.2.1 (nI b) s = c)) 6), 0) := if_pos ⟨a1, a2⟩
  obtain ⟨u, hu, rfl, -⟩ := nI_ofx s (n := 10) a2 (by decide)
  have hu : u < 10 := by omega
  obtain ⟨H, eH⟩ : ∃ H : Nat → Bool, H = fun b => decide (eSet σ.1.1 σ.2.1 (nI b) (nI u) = c) := ⟨_, rfl⟩
  rw [← eH] at ef
  have key : ∀ (d i : Nat) (F' v' : xS), i + d = 6 → mR r0 F v F' v' → xWP pg_M_called K 37 [(0, .ref 0), (1, .int c), (2, .int (nI u)), (3, .int (nI (stN H i))), (4, .int (nI i))] [] (xfill F' v' 0 (wM0 0)) (0, 0) := by
    intro d
    induction d with
    | zero =>
      intro i F' v' hi E
      have hi : i = 6 := hi
      subst hi
      refine xWP_go 200 [(37, [0, 1, 2, 3, 4])] fun P hP => ?_
      refine br_c (fun _ => ?_) (fun z => ?_)
      · exact R.go h E ef
      · have z : ¬ nI 6 ≤ nI 6 := z
        exact absurd (nI_le (Nat.le_refl _) (by omega)) z
    | succ d ih =>
      intro i F' v' hi E
      have est : stN H (i + 1) = if H i then stN H i + 2 ^ i else stN H i := rfl
      have eHi : H i = decide (eSet σ.1.1 σ.2.1 (nI i) (nI u) = c) := by rw [eH]
      refine xWP_go 200 [(37, [0, 1, 2, 3, 4])] fun P hP => ?_
      refine br_c (fun z => ?_) (fun _ => ?_)
      · have z : nI 6 ≤ nI i := z
        rw [nI_leI (by omega) (by omega)] at z
        omega
      have R' := R.keep E
      refine xcall (sx_wouldBe F' v' σ.1.1 σ.2.1 R'.t R.c (nI i) u hu (fun F2 v2 E2 => ?_))
      rw [eS0 R']
      have nx := ih (i + 1) F2 v2 (by omega) (E.tr E2)
      refine br_n (fun y => ?_) (fun y => ?_)
      · rw [est, eHi, decide_eq_false y, if_neg Bool.false_ne_true, ← st_or0 (k := stN H i)] at nx
        refine hP _ _ _ _ _ ?_
        rw [nI_1]
        exact nx
      · rw [est, eHi, decide_eq_true y, if_pos rfl, ← st_or (by omega) stN_lt] at nx
        refine hP _ _ _ _ _ ?_
        rw [nI_1]
        exact nx
  refine hP _ _ _ _ _ ?_
  exact key 6 0 F v (by omega) mR.rf
set_option maxRecDepth 100000 in
theorem MX_never (n : Nat) (σ : xZ) (F v : xS) (R : MR n σ F v) (s : Int32) {K : xKo} (h : mK n σ (z_never s σ) F K) : C_M_never [.ref 0, .int s] (xfill F v 0 (wM0 0)) K := by
  have e2 : F 1 (Int32.toNatClampNeg 2) = σ.1.1 6 1 := R.n1.2.1
  refine xM_go rfl 200 [(27, [0, 1, 2, 3])] fun P hP => ?_
  refine xcall (sp_areSteps _ (fun a1 => ?_) (fun a1 => ?_))
  · refine br_n (fun z => absurd rfl z) (fun _ => ?_)
    refine xcall (sp_errM F v (-1000000001) 1 (by decide) (by decide) ?_)
    exact R.err h (if_neg a1)
  refine br_n (fun _ => ?_) (fun z => absurd z (by decide))
  have ef : z_never s σ = (nvL σ.1.1 σ.2.1 s 6 0 (((1 : Int32) <<< (σ.1.1 6 1 &&& 31)) - 1), 0) := if_pos a1
  obtain ⟨u, hu, rfl, -⟩ := nI_ofx s (n := 10) a1 (by decide)
  have hu : u < 10 := by omega
  have key : ∀ (d i : Nat) (p : Int32) (F' v' : xS), i + d = 6 → mR r0 F v F' v' → z_never (nI u) σ = (nvL σ.1.1 σ.2.1 (nI u) d i p, 0) → xWP pg_M_never K 27 [(0, .ref 0), (1, .int (nI u)), (2, .int p), (3, .int (nI i))] [] (xfill F' v' 0 (wM0 0)) (0, 0) := by
    intro d
    induction d with
    | zero =>
      intro i p F' v' hi E er
      refine xWP_go 200 [(27, [0, 1, 2, 3])] fun P hP => ?_
      refine br_c (fun _ => ?_) (fun z => ?_)
      · exact R.go h E er
      · have z : ¬ nI 6 ≤ nI i := z
        exact absurd (by rw [nI_leI (by omega) (by omega)]; omega) z
    | succ d ih =>
      intro i p F' v' hi E er
      refine xWP_go 200 [(27, [0, 1, 2, 3])] fun P hP => ?_
      refine br_c (fun z => ?_) (fun _ => ?_)
      · have z : nI 6 ≤ nI i := z
        rw [nI_leI (by omega) (by omega)] at z
        omega
      have R' := R.keep E
      refine xcall (sx_wouldBe F' v' σ.1.1 σ.2.1 R'.t R.c (nI i) u hu (fun F2 v2 E2 => ?_))
      rw [eS0 R']
      refine hP _ _ _ _ _ ?_
      rw [nI_1]
      exact ih (i + 1) _ F2 v2 (by omega) (E.tr E2) er
  refine ⟨vin (by decide), ?_⟩
  refine hP _ _ _ _ _ ?_
  refine key 6 0 _ F v (by omega) mR.rf (ef.trans ?_)
  rw [← e2]
end
