/-! ===== the reference: texts, exactly ===== -/
theorem mLw.of2 {f g : Nat → Int32} {u : Nat} {L : xLw} (h : mLw f u L) (e6 : g (6 + u) = f (6 + u)) (et : ∀ k, 130 + 50 * u ≤ k → k < 130 + 50 * u + 50 → g k = f k) : mLw g u L := by
  rcases h with ⟨a, b⟩ | ⟨n, hn, e, w⟩
  · exact Or.inl ⟨by rw [e6]; exact a, b⟩
  · refine Or.inr ⟨n, hn, e6.trans e, fun a b c => ?_⟩
    rw [w a b c]
    have q : bY (fun k => g (130 + 50 * u + k)) n = bY (fun k => f (130 + 50 * u + k)) n := bY_congr fun k hk => et _ (by omega) (by omega)
    rw [q]
theorem tx_iv {σ : xZ} (Z : zIv σ) {X' : xXt} (x1 : X'.1 = σ.2.1.1) (x2 : X'.2.1 = σ.2.1.2.1) : zIv ((va_up σ.1.1 6 (upd (σ.1.1 6) 4 0), σ.1.2), X', σ.2.2) := by
  obtain ⟨⟨⟨a, b, c, d, e, f⟩, o⟩, k⟩ := Z
  refine ⟨⟨⟨a, b, c, ?_, ?_, ?_⟩, ?_⟩, k⟩
  · show ∀ j, j < nat (σ.1.1 6 1) → below 11 (X'.1 0 j)
    rw [x1]; exact d
  · show ∀ j, j < 7 → below 999 (X'.1 1 j) ∧ below 999 (X'.1 2 j)
    rw [x1]; exact e
  · show X'.2.1 = -1 ∨ ∃ c, c < nat (σ.1.1 6 1) ∧ X'.2.1 = nI c
    rw [x2]; exact f
  · show ∀ j, nat (σ.1.1 6 1) ≤ j → j < 7 → X'.1 1 j = 0 ∧ X'.1 2 j = 0
    rw [x1]; exact o
set_option maxRecDepth 100000 in
theorem MX_text (n : Nat) (σ : xZ) (F v : xS) (R : MR n σ F v) (u : Int32) {K : xKo} (h : mKy n (y_text u σ) (z_text u σ) K) : C_M_text [.ref 0, .int u] (xfill F v 0 (wM0 0)) K := by
  have I := R.J
  have S := R.2.2.2
  have ZZ := mXr.row.mp R.z.1
  have b3 := bel_nat (show below 8 (F 1 3) from I.1.1.1) (by omega)
  have b2 := bel_nat (show below 7 (F 1 2) from I.1.1.2.1) (by omega)
  have b4 := bel_nat (show below 50 (F 1 4) from I.1.1.2.2.2.1) (by omega)
  have b5 := bel_nat (show below 20 (F 1 5) from I.1.1.2.2.2.2) (by omega)
  obtain ⟨nb, hb, eb⟩ : below 50 (F 1 4) := I.1.1.2.2.2.1
  have e14 : F 1 4 = σ.1.1 6 4 := R.n1.2.2.2.2.1
  have ebn : nat (σ.1.1 6 4) = nb := by rw [← e14, eb]; exact nI_clamp (by omega)
  have tp : ∀ k, k < nb → F 1 (60 + k) = σ.1.1 4 k := fun k hk => R.2.2.1.1.2.2.2.1 k (by show k < nat (F 1 4); rw [e14, ebn]; exact hk)
  refine xM_go rfl 200 [(30, [0, 1, 2]), (114, [0, 1, 2, 3, 4])] fun P hP => ?_
  refine xcall (sp_inx _ 1 2 (by decide) (fun a1 => ?_) (fun a1 => ?_))
  · refine br_n (fun z => absurd rfl z) (fun _ => ?_)
    refine xcall (sp_errM F v (-1000000001) 1 (by decide) (by decide) ?_)
    exact R.no h _ (if_neg a1) (if_neg a1)
  have a1 : xin u 2 := a1
  refine br_n (fun _ => ?_) (fun z => absurd z (by decide))
  have AG := pg_text R.2.2.1 u
  rw [show g_text u (mA F v) = _ from if_pos a1, show g_text u σ.1 = _ from if_pos a1] at AG
  have IG := (pi_text R.1 u).up
  rw [show g_text u σ.1 = _ from if_pos a1] at IG
  unfold y_text z_text at h
  rw [if_pos a1, if_pos a1, ebn] at h
  obtain ⟨y, hy, rfl, ey⟩ := nI_ofx u (n := 2) a1 (by decide)
  have hy : y < 2 := by omega
  have yu : nI y = 0 ∨ nI y = 1 := by
    rcases (show y = 0 ∨ y = 1 by omega) with e | e
    all_goals subst e
    · exact Or.inl rfl
    · exact Or.inr rfl
  have fin : ∀ (X' : xXt) (F' v' : xS), (∀ k, ¬ k = 1 → ¬ k = 4 → F' k = F k) → (∀ x, x < 130 → ¬ x = 4 → ¬ x = 6 → ¬ x = 7 → F' 1 x = F 1 x) → F' 1 4 = 0 → (F' 1 6).toInt ≤ 50 → (F' 1 7).toInt ≤ 50 → vR v v' → X'.1 = σ.2.1.1 → X'.2.1 = σ.2.1.2.1 → mLw (F' 1) 0 (X'.2.2 0) → mLw (F' 1) 1 (X'.2.2 1) → MR (n + 1) ((va_up σ.1.1 6 (upd (σ.1.1 6) 4 0), σ.1.2), X', σ.2.2) F' v' := by
    intro X' F' v' hF hp h4 h6 h7 hv x1 x2 l0 l1
    have vv : ∀ j, ¬ (7 ≤ j ∧ j < 15) → v' 0 j = v 0 j := fun j hj => (hv j).elim (fun z => absurd z hj) id
    refine ⟨IG, tx_iv R.2.1 x1 x2, ?_, R.mS ⟨h6, h7⟩ (hF 2 (by decide) (by decide)) ⟨vv 4 (by omega), vv 5 (by omega), vv 15 (by omega)⟩ ⟨hF 6 (by decide) (by decide), hF 8 (by decide) (by decide)⟩ ⟨fun j hj => ?_, ?_, l0, l1⟩ rfl rfl⟩
    · refine agr.tr (t := (va_up (mA F v).1 6 (upd ((mA F v).1 6) 4 0), (mA F v).2)) ?_ AG
      refine ⟨⟨⟨hp 3 (by omega) (by omega) (by omega) (by omega), hp 2 (by omega) (by omega) (by omega) (by omega), hp 0 (by omega) (by omega) (by omega) (by omega), hp 1 (by omega) (by omega) (by omega) (by omega), h4, hp 5 (by omega) (by omega) (by omega) (by omega)⟩, fun j hj => ?_, fun j hj => ?_, fun j hj => ?_, fun j hj => ?_⟩, ?_, fun _ => ?_⟩
      · have hj : j < nat (F' 1 3) := hj
        rw [hp 3 (by omega) (by omega) (by omega) (by omega)] at hj
        exact ⟨hp (9 + 2 * j) (by omega) (by omega) (by omega) (by omega), hp (9 + 2 * j + 1) (by omega) (by omega) (by omega) (by omega)⟩
      · have hj : j < nat (F' 1 2) := hj
        rw [hp 2 (by omega) (by omega) (by omega) (by omega)] at hj
        exact ⟨hp (25 + 5 * j + 0) (by omega) (by omega) (by omega) (by omega), hp (25 + 5 * j + 1) (by omega) (by omega) (by omega) (by omega)⟩
      · have hj : j < nat (F' 1 4) := hj
        rw [h4] at hj
        exact absurd (show j < 0 from hj) (Nat.not_lt_zero j)
      · have hj : j < nat (F' 1 5) := hj
        rw [hp 5 (by omega) (by omega) (by omega) (by omega)] at hj
        exact hp (110 + j) (by omega) (by omega) (by omega) (by omega)
      · have q : mRs F' v' = mRs F v := by
          unfold mRs
          rw [hF 6 (by decide) (by decide), hF 7 (by decide) (by decide), hF 8 (by decide) (by decide), hF 10 (by decide) (by decide), vv 5 (by omega), vv 21 (by omega)]
        show rAgr (mRs F' v') (mRs F v)
        rw [q]
        exact rAgr.rf
      · show sAgr (mSt (F' 2)) (mSt (F 2))
        rw [hF 2 (by decide) (by decide)]
        exact sAgr.rf
    · show F' 1 (25 + 5 * j + 2) = X'.1 0 j ∧ F' 1 (25 + 5 * j + 3) = X'.1 1 j ∧ F' 1 (25 + 5 * j + 4) = X'.1 2 j
      rw [x1, hp _ (by omega) (by omega) (by omega) (by omega), hp _ (by omega) (by omega) (by omega) (by omega), hp _ (by omega) (by omega) (by omega) (by omega)]
      exact ZZ.1 j hj
    · show F' 1 8 = X'.2.1
      rw [x2, hp 8 (by omega) (by omega) (by omega) (by omega)]
      exact ZZ.2.1
  refine xcall (sp_moveAll_1_4 F v fun g g1 g2 => ?_)
  have ia : ∀ i : Nat, (130 : Int32) + 50 * nI y + nI i = nI (130 + 50 * y + i) := fun i => by
    rw [show (130 : Int32) = nI 130 from rfl, show (50 : Int32) = nI 50 from rfl, nI_mul, nI_add, nI_add]
  have ib : ∀ i : Nat, (60 : Int32) + nI i = nI (60 + i) := fun i => by
    rw [show (60 : Int32) = nI 60 from rfl, nI_add]
  have key : ∀ (d i : Nat) (p : Nat → Int32), i + d = 50 → (∀ x, ¬ (130 + 50 * y ≤ x ∧ x < 130 + 50 * y + 50) → p x = F 1 x) → (∀ j, j < i → p (130 + 50 * y + j) = F 1 (60 + j)) → xWP pg_M_text K 30 [(0, .ref 0), (1, .int (nI y)), (2, .int (nI i))] [] (xfill (va_up (va_up F 4 g) 1 p) v 0 (wM0 0)) (0, 0) := by
    intro d
    induction d with
    | zero =>
      intro i p hi hp hq
      have hi : i = 50 := hi
      subst hi
      have b6 : vp_in ((6 : Int32) + nI y) 230 := by
        rcases yu with e | e
        all_goals rw [e]; exact vin (by decide)
      have n6 : Int32.toNatClampNeg ((6 : Int32) + nI y) = 6 + y := by rw [show (6 : Int32) = nI 6 from rfl, nI_add]; exact nI_clamp (by omega)
      obtain ⟨p2, ep2⟩ : ∃ p2, p2 = upd p (Int32.toNatClampNeg ((6 : Int32) + nI y)) (p (Int32.toNatClampNeg 4)) := ⟨_, rfl⟩
      have p2o : ∀ x, ¬ x = 6 + y → p2 x = p x := fun x hx => by rw [ep2, n6]; exact pk_un hx
      have p2e : p2 (6 + y) = F 1 4 := by rw [ep2, n6, pk_us, nq4]; exact hp 4 (by omega)
      have t4 : (F 1 4).toInt ≤ 50 := by
        rw [eb, nI_toInt (by omega)]
        omega
      have c6 : (p2 6).toInt ≤ 50 := by
        by_cases e : 6 = 6 + y
        · rw [e, p2e]; exact t4
        · rw [p2o 6 e, hp 6 (by omega)]; exact S.1.1
      have c7 : (p2 7).toInt ≤ 50 := by
        by_cases e : 7 = 6 + y
        · rw [e, p2e]; exact t4
        · rw [p2o 7 e, hp 7 (by omega)]; exact S.1.2
      have tx : ∀ k, k < nb → p2 (130 + 50 * y + k) = σ.1.1 4 k := fun k hk => by rw [p2o _ (by omega), hq k (by omega)]; exact tp k hk
      have eB : bY (fun k => p2 (130 + 50 * y + k)) nb = bY (σ.1.1 4) nb := bY_congr tx
      -- the new text
      have LN : ∀ f : Nat → Int32, (∀ x, ¬ x = 4 → f x = p2 x) → mLw f y (nwL (nI y) (σ.1.1 4) nb) := by
        intro f hf
        refine Or.inr ⟨nb, hb, ?_, fun a b c => ?_⟩
        · rw [hf _ (by omega), p2e, eb]
        · have q : bY (fun k => f (130 + 50 * y + k)) nb = bY (σ.1.1 4) nb := bY_congr fun k hk => (hf _ (by omega)).trans (tx k hk)
          rw [q]
          rfl
      have LO : ∀ (f : Nat → Int32) (w : Nat) (L : xLw), w < 2 → ¬ w = y → (∀ x, ¬ x = 4 → f x = p2 x) → mLw (F 1) w L → mLw f w L := by
        intro f w L hw hwy hf ml
        exact ml.of2 ((hf _ (by omega)).trans ((p2o _ (by omega)).trans (hp _ (by omega)))) (fun k a l => (hf _ (by omega)).trans ((p2o _ (by omega)).trans (hp _ (by omega))))
      have good1 : ∀ (v' : xS) (cc : List Int32) (q : Nat), vR v v' → rdF (nI y) (σ.1.1 4) nb = (some cc, q) → K (some (.int 1)) (xfill (va_up (va_up F 4 g) 1 (upd p2 4 0)) v' 0 (wM0 0)) := by
        intro v' cc q hv er
        rw [er] at h
        have hf : ∀ x, ¬ x = 4 → upd p2 4 0 x = p2 x := fun x hx => pk_un hx
        have ey : nat (nI y) = y := ey
        refine h _ v' (fin (σ.2.1.1, σ.2.1.2.1, fun k => if k = nat (nI y) then nwL (nI y) (σ.1.1 4) nb else σ.2.1.2.2 k) (va_up (va_up F 4 g) 1 (upd p2 4 0)) v' (fun k h1 h4 => (if_neg h1).trans (if_neg h4)) (fun x h1 h4 h6 h7 => ?_) (show upd p2 4 0 4 = 0 from pk_us) ?_ ?_ hv rfl rfl ?_ ?_)
        · show upd p2 4 0 x = F 1 x
          rw [pk_un h4, p2o x (by omega), hp x (by omega)]
        · show (upd p2 4 0 6).toInt ≤ 50
          rw [pk_un (by omega)]; exact c6
        · show (upd p2 4 0 7).toInt ≤ 50
          rw [pk_un (by omega)]; exact c7
        · show mLw (upd p2 4 0) 0 (if 0 = nat (nI y) then nwL (nI y) (σ.1.1 4) nb else σ.2.1.2.2 0)
          rw [ey]
          by_cases e : 0 = y
          · rw [if_pos e]
            have q := LN _ hf
            subst e
            exact q
          · rw [if_neg e]
            exact LO _ 0 _ (by decide) e hf ZZ.2.2.1
        · show mLw (upd p2 4 0) 1 (if 1 = nat (nI y) then nwL (nI y) (σ.1.1 4) nb else σ.2.1.2.2 1)
          rw [ey]
          by_cases e : 1 = y
          · rw [if_pos e]
            have q := LN _ hf
            subst e
            exact q
          · rw [if_neg e]
            exact LO _ 1 _ (by decide) e hf ZZ.2.2.2
      have bad1 : ∀ (f : Nat → Int32) (v' : xS) (q : Nat), (∀ x, x < 230 → f x = g x) → vR v v' → rdF (nI y) (σ.1.1 4) nb = (none, q) → K (some (.int (-10 - nI q))) (xfill (va_up (va_up F 4 g) 1 (upd f 4 0)) v' 0 (wM0 0)) := by
        intro f v' q hf hv er
        rw [er] at h
        have fo : ∀ x, x < 230 → ¬ x = 4 → upd f 4 0 x = F 1 x := fun x l hx => (pk_un hx).trans ((hf x l).trans (g1 x l))
        refine h _ v' (fin σ.2.1 (va_up (va_up F 4 g) 1 (upd f 4 0)) v' (fun k h1 h4 => (if_neg h1).trans (if_neg h4)) (fun x h1 h4 h6 h7 => ?_) (show upd f 4 0 4 = 0 from pk_us) ?_ ?_ hv rfl rfl ?_ ?_)
        · exact fo x (by omega) h4
        · show (upd f 4 0 6).toInt ≤ 50
          rw [fo 6 (by omega) (by omega)]; exact S.1.1
        · show (upd f 4 0 7).toInt ≤ 50
          rw [fo 7 (by omega) (by omega)]; exact S.1.2
        · show mLw (upd f 4 0) 0 (σ.2.1.2.2 0)
          exact ZZ.2.2.1.of2 (fo (6 + 0) (by omega) (by omega)) (fun k a l => fo k (by omega) (by omega))
        · show mLw (upd f 4 0) 1 (σ.2.1.2.2 1)
          exact ZZ.2.2.2.of2 (fo (6 + 1) (by omega) (by omega)) (fun k a l => fo k (by omega) (by omega))
      obtain ⟨r, er⟩ : ∃ r, r = grG (nI y) 1 1 1 (bY (σ.1.1 4) nb) 60 5 0 0 := ⟨_, rfl⟩
      have BR := both_read (u := nI y) (y := σ.1.1 4) hb 1 1 1
      rw [← er] at BR
      have k114 : ∀ (b : Int32) (v' : xS), vR v v' → (b = 0 ∧ ¬ (r.2.2 = true ∧ r.2.1 = nb) ∨ b = 1 ∧ (r.2.2 = true ∧ r.2.1 = nb)) → xWP pg_M_text K 114 [(0, .ref 0), (1, .int (nI y)), (2, .int r.1), (3, .int b), (4, .int (nI r.2.1))] [] (xfill (va_up (va_up F 4 g) 1 p2) v' 0 (wM0 0)) (0, 0) := by
        intro b v' hv hb2
        refine xWP_go 200 [] fun P hP => ?_
        refine br_n (fun nb2 => ?_) (fun zb => ?_)
        · have nb2 : ¬ b = 0 := nb2
          have ok : r.2.2 = true ∧ r.2.1 = nb := by
            rcases hb2 with z | z
            · exact absurd z.1 nb2
            · exact z.2
          obtain ⟨cc, ec, -, -⟩ := BR.1 ok
          refine ⟨vin (by decide), ?_⟩
          refine br_c (fun z => absurd z nb2) (fun _ => ?_)
          have q := good1 v' cc nb hv ec
          rw [← nq4] at q
          exact q
        · have zb : b = 0 := zb
          have no : ¬ (r.2.2 = true ∧ r.2.1 = nb) := by
            rcases hb2 with z | z
            · exact z.2
            · rw [z.1] at zb; exact absurd zb (by decide)
          refine xcall (sp_moveAll_4_1 (va_up (va_up F 4 g) 1 p2) v' fun f f1 f2 => ?_)
          refine ⟨vin (by decide), ?_⟩
          refine br_c (fun _ => ?_) (fun z => absurd zb z)
          have q := bad1 f v' r.2.1 f1 hv (BR.2 no)
          rw [← nq4] at q
          exact q
      refine xWP_go 200 [(30, [0, 1, 2]), (114, [0, 1, 2, 3, 4])] fun P hP => ?_
      refine br_c (fun _ => ?_) (fun z => absurd (by decide) z)
      refine ⟨vin (by decide), ?_⟩
      refine ⟨b6, ?_⟩
      have wk : ∀ K2 : xKo, (∀ v', vR v v' → v' 0 8 = nI r.2.1 → v' 0 14 = b2i (r.2.2 && decide (r.2.1 = nb)) → K2 (some (.int r.1)) (xfill (va_up (va_up F 4 g) 1 (upd p (Int32.toNatClampNeg ((6 : Int32) + nI y)) (p (Int32.toNatClampNeg 4)))) v' 0 (wM0 0))) → C_M_walks [.ref 0, .int (nI y), .int 1, .int 1, .int 1] (xfill (va_up (va_up F 4 g) 1 (upd p (Int32.toNatClampNeg ((6 : Int32) + nI y)) (p (Int32.toNatClampNeg 4)))) v 0 (wM0 0)) K2 := by
        intro K2 hk
        rw [← ep2] at hk ⊢
        have eR : grG (nI y) 1 1 1 (bY (fun k => p2 (130 + 50 * y + k)) nb) 60 5 0 0 = r := by rw [eB, er]
        refine sx_walks (va_up (va_up F 4 g) 1 p2) v y hy 1 1 1 nb hb (p2e.trans eb) (fun v' hv h8 h14 => ?_)
        have h8 : v' 0 8 = nI (grG (nI y) 1 1 1 (bY (fun k => p2 (130 + 50 * y + k)) nb) 60 5 0 0).2.1 := h8
        have h14 : v' 0 14 = b2i ((grG (nI y) 1 1 1 (bY (fun k => p2 (130 + 50 * y + k)) nb) 60 5 0 0).2.2 && decide ((grG (nI y) 1 1 1 (bY (fun k => p2 (130 + 50 * y + k)) nb) 60 5 0 0).2.1 = nb)) := h14
        show K2 (some (.int (grG (nI y) 1 1 1 (bY (fun k => p2 (130 + 50 * y + k)) nb) 60 5 0 0).1)) _
        rw [eR] at h8 h14 ⊢
        exact hk v' hv h8 h14
      refine xcall (wk _ (fun v' hv h8 h14 => ?_))
      have go := fun b hb2 => k114 b v' hv hb2
      rw [ep2, ← h8] at go
      refine br_c (fun z => ?_) (fun z => ?_)
      · have z : v' 0 14 = 0 := z
        rw [h14] at z
        refine hP _ _ _ _ _ (go 0 (Or.inl ⟨rfl, fun ok => ?_⟩))
        rw [ok.1, decide_eq_true ok.2] at z
        exact absurd z (by decide)
      have z : ¬ v' 0 14 = 0 := z
      rw [h14] at z
      refine br_n (fun z => absurd rfl z) (fun _ => ?_)
      refine hP _ _ _ _ _ (go 1 (Or.inr ⟨rfl, ?_⟩))
      cases g1 : r.2.2 with
      | false => rw [g1] at z; exact absurd rfl z
      | true =>
        refine ⟨rfl, ?_⟩
        by_cases e : r.2.1 = nb
        · exact e
        · rw [decide_eq_false e, Bool.and_false] at z
          exact absurd rfl z
    | succ d ih =>
      intro i p hi hp hq
      have n60 : Int32.toNatClampNeg ((60 : Int32) + nI i) = 60 + i := by rw [ib]; exact nI_clamp (by omega)
      have n130 : Int32.toNatClampNeg ((130 : Int32) + 50 * nI y + nI i) = 130 + 50 * y + i := by rw [ia]; exact nI_clamp (by omega)
      refine xWP_go 200 [(30, [0, 1, 2]), (114, [0, 1, 2, 3, 4])] fun P hP => ?_
      refine br_c (fun z => ?_) (fun _ => ?_)
      · have z : nI 50 ≤ nI i := z
        rw [nI_leI (by omega) (by omega)] at z
        omega
      refine ⟨by show vp_in ((60 : Int32) + nI i) 230; rw [ib]; exact vp_in_nI (by omega) (by omega), ?_⟩
      refine ⟨by show vp_in ((130 : Int32) + 50 * nI y + nI i) 230; rw [ia]; exact vp_in_nI (by omega) (by omega), ?_⟩
      refine hP _ _ _ _ _ ?_
      rw [nI_1]
      refine ih (i + 1) (upd p (Int32.toNatClampNeg ((130 : Int32) + 50 * nI y + nI i)) (p (Int32.toNatClampNeg ((60 : Int32) + nI i)))) (by omega) (fun x hx => ?_) (fun j hj => ?_)
      · rw [n130]
        exact (pk_un (by omega)).trans (hp x hx)
      · rw [n130, n60]
        by_cases ej : j = i
        · rw [ej, pk_us]
          exact hp _ (by omega)
        · rw [pk_un (by omega)]
          exact hq j (by omega)
  refine hP _ _ _ _ _ ?_
  exact key 50 0 (F 1) (by omega) (fun _ _ => rfl) (fun j hj => absurd hj (Nat.not_lt_zero j))
