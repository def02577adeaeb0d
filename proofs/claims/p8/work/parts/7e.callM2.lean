/-! ===== the reference: a call, exactly ===== -/
theorem vR.tr {v v' v2 : xS} (h : vR v v') (g : vR v' v2) : vR v v2 := fun j => by
  rcases h j with e | e
  · exact Or.inl e
  · rcases g j with d | d
    · exact Or.inl d
    · exact Or.inr (d.trans e)
theorem vR.at {v v' : xS} (h : vR v v') {j : Nat} (n : ¬ (7 ≤ j ∧ j < 15)) : v' 0 j = v 0 j := (h j).elim (fun z => absurd z n) id
set_option maxRecDepth 100000 in
theorem sx_aim (F v s : xS) (X : xXt) (T : tM (F 1) s X) (I : cIv s X) (c : Nat) (hc : c < nat (s 6 1)) (b : Int32) {K : xKo} (h : ∀ v', vR v v' → K (some (.int (eGoal (sm (v 0 15) s) X c b))) (xfill F v' 0 (wM0 0))) : C_M_aim [.ref 0, .int (nI c), .int b] (xfill F v 0 (wM0 0)) K := by
  obtain ⟨n, hn, en⟩ := I.1.1
  obtain ⟨nc, hnc, enc⟩ := I.1.2
  have enn : nat (s 6 0) = n := by rw [en]; exact nI_clamp (by omega)
  have hc7 : c < 7 := by
    rw [enc, show nat (nI nc) = nc from nI_clamp (by omega)] at hc
    omega
  have e3 : F 1 (Int32.toNatClampNeg 3) = nI n := T.1.1.trans en
  obtain ⟨x, hx, ex⟩ := b12 (I.2.2.2.1 c hc)
  obtain ⟨fr, hfr, efr⟩ := farV_le (I.2.2.1 c hc).1 (I.2.2.1 c hc).2
  have key : ∀ (d i : Nat) (g : Int32) (nn : Nat) (v' : xS), i + d = n → nn < 13 → vR v v' → (∀ v2, vR v v2 → K (some (.int (gLp (sm (v 0 15) s) X c b d i g (nI (if nn ≤ fr + 1 then nn else fr + 1))))) (xfill F v2 0 (wM0 0))) → xWP pg_M_aim K 9 [(0, .ref 0), (1, .int (nI c)), (2, .int b), (3, .int g), (4, .int (nI nn)), (5, .int (nI i))] [] (xfill F v' 0 (wM0 0)) (0, 0) := by
    intro d
    induction d with
    | zero =>
      intro i g nn v' hi hnn E hk
      refine xWP_go 100 [(9, [0, 1, 2, 3, 4, 5])] fun P hP => ?_
      refine ⟨vin (by decide), ?_⟩
      refine br_c (fun _ => hk _ E) (fun z => ?_)
      have z : ¬ F 1 (Int32.toNatClampNeg 3) ≤ nI i := z
      rw [e3, nI_leI (by omega) (by omega)] at z
      omega
    | succ d ih =>
      intro i g nn v' hi hnn E hk
      have hi8 : i < nat (s 6 0) := by omega
      obtain ⟨y, hy, ey⟩ := b12 (I.2.1 i hi8).1
      have e9 : F 1 (Int32.toNatClampNeg ((9 : Int32) + 2 * nI i)) = nI y := by rw [nk2 (by omega), (T.2.1 i hi8).1]; exact ey
      have o6 := offN_le (a := x) (b := y)
      have eo : off (X.1 0 c) (sm (v 0 15) s 0 i) = nI (offN x y) := by
        show off (X.1 0 c) (s 0 i) = _
        rw [ex, ey]
        exact off_nI hx hy
      have eg : ∀ r : Int32, gLp (sm (v 0 15) s) X c b (d + 1) i g r = if (mk (sm (v 0 15) s 1 i) b ∧ nI (offN x y) < r) ∧ ¬ X.2.2 0 (nI (offN x y)) b (s 3 c) = 0 then gLp (sm (v 0 15) s) X c b d (i + 1) (nI i) (nI (offN x y)) else gLp (sm (v 0 15) s) X c b d (i + 1) g r := by
        intro r
        rw [← eo]
        rfl
      rw [eg] at hk
      have e15 : v' 0 15 = v 0 15 := E.at (by omega)
      refine xWP_go 100 [(9, [0, 1, 2, 3, 4, 5])] fun P hP => ?_
      refine ⟨vin (by decide), ?_⟩
      refine br_c (fun z => ?_) (fun _ => ?_)
      · have z : F 1 (Int32.toNatClampNeg 3) ≤ nI i := z
        rw [e3, nI_leI (by omega) (by omega)] at z
        omega
      have nx : ∀ (g : Int32) (nn : Nat) (v2 : xS), nn < 13 → vR v v2 → (∀ v3, vR v v3 → K (some (.int (gLp (sm (v 0 15) s) X c b d (i + 1) g (nI (if nn ≤ fr + 1 then nn else fr + 1))))) (xfill F v3 0 (wM0 0))) → xWP pg_M_aim K 9 [(0, .ref 0), (1, .int (nI c)), (2, .int b), (3, .int g), (4, .int (nI nn)), (5, .int (nI i + 1))] [] (xfill F v2 0 (wM0 0)) (0, 0) := by
        intro g nn v2 h13 E2 hk2
        rw [nI_1]
        exact ih (i + 1) g nn v2 (by omega) h13 E2 hk2
      refine xcall (sx_its F v' c 2 hc7 (by omega) 2 rfl (nI x) ((T.2.2.2.1 c hc7).1.trans ex) ?_)
      refine ⟨vc2 (by omega), ?_⟩
      refine xcall (sx_round _ _ x y hx hy rfl e9 ?_)
      refine xcall (sx_isMarked F v' s X T i (by omega) hi8 b (fun m => ?_) (fun m => ?_))
      · rw [e15] at m
        rw [if_neg (fun z => m z.1.1)] at hk
        refine br_c (fun _ => ?_) (fun z => absurd rfl z)
        exact hP _ _ _ _ _ (nx _ _ _ hnn E hk)
      rw [e15] at m
      refine br_c (fun z => absurd z (by decide)) (fun _ => ?_)
      refine br_c (fun z => ?_) (fun z => ?_)
      · have z : nI nn ≤ nI (offN x y) := z
        rw [nI_leI (by omega) (by omega)] at z
        rw [if_neg (fun q => by
          have q := q.1.2
          rw [nI_ltI (by omega) (by split <;> omega)] at q
          split at q <;> omega)] at hk
        exact hP _ _ _ _ _ (nx _ _ _ hnn E hk)
      have z : ¬ nI nn ≤ nI (offN x y) := z
      rw [nI_leI (by omega) (by omega)] at z
      refine xcall (sx_farM F v' s X T c hc hc7 ?_)
      rw [efr]
      refine br_c (fun w => ?_) (fun w => ?_)
      · have w : nI fr < nI (offN x y) := w
        rw [nI_ltI (by omega) (by omega)] at w
        rw [if_neg (fun q => by
          have q := q.1.2
          rw [nI_ltI (by omega) (by split <;> omega)] at q
          split at q <;> omega)] at hk
        exact hP _ _ _ _ _ (nx _ _ _ hnn E hk)
      have w : ¬ nI fr < nI (offN x y) := w
      rw [nI_ltI (by omega) (by omega)] at w
      have lt : nI (offN x y) < nI (if nn ≤ fr + 1 then nn else fr + 1) := by
        rw [nI_ltI (by omega) (by split <;> omega)]
        split <;> omega
      refine xcall (sx_its F v' c 1 hc7 (by omega) 1 rfl (s 3 c) (T.2.2.1 c hc).2 ?_)
      refine xcall (sx_lawOf F v' 0 (by decide) 0 rfl (X.2.2 0) T.2.2.2.2.1 (nI (offN x y)) b (s 3 c) (fun v2 E2 => ?_))
      refine br_c (fun y0 => ?_) (fun y0 => ?_)
      · rw [if_neg (fun q => q.2 y0)] at hk
        exact hP _ _ _ _ _ (nx _ _ _ hnn (E.tr E2) hk)
      · rw [if_pos ⟨⟨m, lt⟩, y0⟩] at hk
        refine hP _ _ _ _ _ (nx _ (offN x y) _ (by omega) (E.tr E2) (fun v3 E3 => ?_))
        rw [if_pos (show offN x y ≤ fr + 1 by omega)]
        exact hk v3 E3
  unfold eGoal at h
  have h : ∀ v', vR v v' → K (some (.int (gLp (sm (v 0 15) s) X c b (nat (s 6 0)) 0 (-1) (farV (s 2 c) (s 3 c) + 1)))) (xfill F v' 0 (wM0 0)) := h
  rw [enn, efr, nI_1] at h
  refine xM_go rfl 100 [(9, [0, 1, 2, 3, 4, 5])] fun P hP => ?_
  refine hP _ _ _ _ _ ?_
  refine key n 0 (-1) 12 v (by omega) (by omega) (fun _ => Or.inr rfl) (fun v2 E2 => ?_)
  have q := h v2 E2
  by_cases l : 12 ≤ fr + 1
  · exact absurd l (by omega)
  · rw [if_neg l]
    exact q
set_option maxRecDepth 100000 in
theorem sx_ends (F v s : xS) (X : xXt) (T : tM (F 1) s X) (I : cIv s X) (c : Nat) (hc : c < nat (s 6 1)) (b : Int32) (u : Nat) (hu : u < 10) {K : xKo} (h : ∀ v', vR v v' → K (some (.int (eEnd (sm (v 0 15) s) X b (nI u) c))) (xfill F v' 0 (wM0 0))) : C_M_ends [.ref 0, .int (nI c), .int b, .int (nI u)] (xfill F v 0 (wM0 0)) K := by
  obtain ⟨n, hn, en⟩ := I.1.1
  obtain ⟨nc, hnc, enc⟩ := I.1.2
  have enn : nat (s 6 0) = n := by rw [en]; exact nI_clamp (by omega)
  have hc7 : c < 7 := by
    rw [enc, show nat (nI nc) = nc from nI_clamp (by omega)] at hc
    omega
  obtain ⟨x, hx, ex⟩ := b12 (I.2.2.2.1 c hc)
  have eAT : F 1 (25 + 5 * c + 2) = nI x := (T.2.2.2.1 c hc7).1.trans ex
  unfold eEnd at h
  have fin : ∀ (v' : xS), vR v v' → ¬ nI c = X.2.1 → xWP pg_M_ends K 21 [(0, .ref 0), (1, .int (nI c)), (2, .int b), (3, .int (nI u))] [.int (eGoal (sm (v 0 15) s) X c b)] (xfill F v' 0 (wM0 0)) (0, 0) := by
    intro v' E ncx
    refine xWP_go 200 [(103, [0, 1, 2, 3, 4, 5, 6, 7])] fun P hP => ?_
    rcases eGoal_in (s := sm (v 0 15) s) (X := X) (c := c) (b := b) with eg | ⟨k, hk, eg⟩
    · rw [if_pos (Or.inr (by rw [eg]; decide)), ex] at h
      rw [eg]
      refine br_c (fun a => absurd a (by decide)) (fun a => ?_)
      exact xcall (sx_its F v' c 2 hc7 (by omega) 2 rfl (nI x) eAT (h _ E))
    · have hk : k < nat (s 6 0) := hk
      have ek : Int32.toNatClampNeg (nI k) = k := nI_clamp (by omega)
      obtain ⟨y, hy, ey⟩ := b12 (I.2.1 k hk).1
      have e9 : F 1 (Int32.toNatClampNeg ((9 : Int32) + 2 * nI k)) = nI y := by rw [nk2 (by omega), (T.2.1 k hk).1]; exact ey
      obtain ⟨p, hp, ep⟩ := paceV_le (cs := s 6 2) (it := X.2.1) (I.2.2.1 c hc).1 (I.2.2.1 c hc).2
      have pu : p * u ≤ 27 := Nat.le_trans (Nat.mul_le_mul hp (show u ≤ 9 by omega)) (by decide)
      have h : ∀ v', vR v v' → K (some (.int (wlk (X.1 0 c) (s 0 (nat (nI k))) (paceV (s 2 c) (s 3 c) (s 6 2) X.2.1 * nI u)))) (xfill F v' 0 (wM0 0)) := fun v' E => by
        have q := h v' E
        rw [if_neg (fun z => z.elim ncx fun z => by rw [eg, xlt, nI_toInt (by omega), show (0 : Int32).toInt = 0 by decide] at z; omega), eg] at q
        exact q
      rw [show nat (nI k) = k from ek, ex, ey, ep, nI_mul, wlk_nI hx hy (by omega)] at h
      rw [eg]
      have o6 := offN_le (a := x) (b := y)
      obtain ⟨up, eup⟩ : ∃ up, up = (y + 12 - x) % 12 := ⟨_, rfl⟩
      have hup : up < 12 := by rw [eup]; exact Nat.mod_lt _ (by decide)
      have eoff : offN x y = if up ≤ 12 - up then up else 12 - up := by rw [eup]; rfl
      obtain ⟨w, ew⟩ : ∃ w, w = if offN x y ≤ p * u then offN x y else p * u := ⟨_, rfl⟩
      have hw : w ≤ 6 := by
        rw [ew]
        split <;> omega
      unfold wlkN at h
      rw [← eup, ← ew] at h
      have er : rm12 (F 1 (Int32.toNatClampNeg ((9 : Int32) + 2 * nI k)) - nI x + 12) = nI up := by rw [e9, eup]; exact rm_up hx hy
      refine br_c (fun a => ?_) (fun a => absurd (nI_pos' (by omega)) a)
      refine ⟨vc2 (by omega), ?_⟩
      refine xcall (sx_its F v' c 2 hc7 (by omega) 2 rfl (nI x) eAT ?_)
      refine ⟨by decide, ?_⟩
      refine xcall (sx_its F v' c 2 hc7 (by omega) 2 rfl (nI x) eAT ?_)
      refine xcall (sx_round _ _ x y hx hy rfl e9 ?_)
      refine xcall (sx_paceM F v' s X T I.hit c hc hc7 ?_)
      rw [ep]
      have f2 : ∀ (go to dn : Int32), go = nI w → xWP pg_M_ends K 103 [(0, .ref 0), (1, .int (nI c)), (2, .int b), (3, .int (nI u)), (4, .int (nI k)), (5, .int to), (6, .int (rm12 (F 1 (Int32.toNatClampNeg ((9 : Int32) + 2 * nI k)) - nI x + 12))), (7, .int (nI (offN x y)))] [.int go] (xfill F v' 0 (wM0 0)) (0, 0) := by
        intro go to dn eg2
        subst eg2
        rw [er]
        refine xWP_go 200 [] fun P hP => ?_
        refine xcall (sx_its F v' c 2 hc7 (by omega) 2 rfl (nI x) eAT ?_)
        refine br_n (fun z => ?_) (fun z => ?_)
        · have z : ¬ nI up = nI (offN x y) := z
          rw [nI_eq (by omega) (by omega), eoff] at z
          have nl : ¬ up ≤ 12 - up := fun l => z (by rw [if_pos l])
          refine ⟨by decide, ?_⟩
          have q := h _ E
          rw [if_neg nl, ← rm_sub hx hw] at q
          exact q
        · have z : nI up = nI (offN x y) := z
          rw [nI_eq (by omega) (by omega), eoff] at z
          have l : up ≤ 12 - up := by
            by_cases l : up ≤ 12 - up
            · exact l
            · rw [if_neg l] at z; omega
          refine ⟨by decide, ?_⟩
          have q := h _ E
          rw [if_pos l, ← rm_add hx hw] at q
          exact q
      refine br_c (fun z => ?_) (fun z => ?_)
      · have z : nI (offN x y) ≤ nI p * nI u := z
        rw [nI_mul, nI_leI (by omega) (by omega)] at z
        rw [if_pos z] at ew
        exact hP _ _ _ _ _ (f2 _ _ 0 (by rw [ew]))
      · have z : ¬ nI (offN x y) ≤ nI p * nI u := z
        rw [nI_mul, nI_leI (by omega) (by omega)] at z
        rw [if_neg z] at ew
        refine xcall (sx_paceM F v' s X T I.hit c hc hc7 ?_)
        rw [ep]
        exact hP _ _ _ _ _ (f2 _ _ 0 (by rw [ew]; exact nI_mul p u))
  refine xM_go rfl 100 [(21, [0, 1, 2, 3])] fun P hP => ?_
  refine ⟨vin (by decide), ?_⟩
  have e8 : F 1 (Int32.toNatClampNeg 8) = X.2.1 := T.1.2.2.2
  refine br_n (fun a => ?_) (fun a => ?_)
  · have a : ¬ nI c = F 1 (Int32.toNatClampNeg 8) := a
    rw [e8] at a
    refine xcall (sx_aim F v s X T I c hc b (fun v' E => ?_))
    exact hP _ _ _ _ _ (fin v' E a)
  · have a : nI c = F 1 (Int32.toNatClampNeg 8) := a
    rw [e8] at a
    rw [if_pos (Or.inl a), ex] at h
    refine hP _ _ _ _ _ ?_
    refine xWP_go 200 [] fun P hP => ?_
    refine br_c (fun a => absurd a (by decide)) (fun _ => ?_)
    exact xcall (sx_its F v c 2 hc7 (by omega) 2 rfl (nI x) eAT (h _ (fun _ => Or.inr rfl)))
set_option maxRecDepth 100000 in
theorem sx_isSafe (F v s : xS) (X : xXt) (T : tM (F 1) s X) (I : cIv s X) (c : Nat) (hc : c < nat (s 6 1)) (b : Int32) {K : xKo} (h : ∀ v', vR v v' → K (some (.int (eHeld (sm (v 0 15) s) X (X.1 0) (X.1 0 c) b))) (xfill F v' 0 (wM0 0))) : C_M_isSafe [.ref 0, .int (nI c), .int b] (xfill F v 0 (wM0 0)) K := by
  obtain ⟨n, hn, en⟩ := I.1.1
  obtain ⟨m, hm, em⟩ := I.1.2
  have enn : nat (s 6 0) = n := by rw [en]; exact nI_clamp (by omega)
  have emm : nat (s 6 1) = m := by rw [em]; exact nI_clamp (by omega)
  have hc7 : c < 7 := by omega
  have e3 : F 1 (Int32.toNatClampNeg 3) = nI n := T.1.1.trans en
  have e2 : F 1 (Int32.toNatClampNeg 2) = nI m := T.1.2.1.trans em
  have e8 : F 1 (Int32.toNatClampNeg 8) = X.2.1 := T.1.2.2.2
  have rf : vR v v := fun _ => Or.inr rfl
  have eAT : F 1 (25 + 5 * c + 2) = X.1 0 c := (T.2.2.2.1 c hc7).1
  unfold eHeld at h
  have h : ∀ v', vR v v' → K (some (.int (hdL (sm (v 0 15) s) (X.2.2 1) (crL X.2.1 (X.1 0 c) (X.1 0) (nat (s 6 1)) 0 0) (X.1 0 c) b (nat (s 6 0)) 0))) (xfill F v' 0 (wM0 0)) := h
  rw [enn, emm] at h
  obtain ⟨cr, ecr⟩ : ∃ cr, cr = crL X.2.1 (X.1 0 c) (X.1 0) m 0 0 := ⟨_, rfl⟩
  rw [← ecr] at h
  have two : ∀ (d i : Nat) (k : Nat) (q : Int32), i + d = m → k < n → crL X.2.1 (X.1 0 c) (X.1 0) d i q = cr → (∀ v', vR v v' → K (some (.int (if X.2.2 1 cr (s 1 k) b = 0 then 0 else 1))) (xfill F v' 0 (wM0 0))) → xWP pg_M_isSafe K 65 [(0, .ref 0), (1, .int (nI c)), (2, .int b), (3, .int (nI k)), (4, .int q), (5, .int (nI i))] [] (xfill F v 0 (wM0 0)) (0, 0) := by
    intro d
    induction d with
    | zero =>
      intro i k q hi hk eq hk2
      have eq : q = cr := eq
      subst eq
      have e1 : F 1 (Int32.toNatClampNeg ((9 : Int32) + 2 * nI k + 1)) = s 1 k := by rw [nk21 (by omega)]; exact (T.2.1 k (by omega)).2
      refine xWP_go 200 [(2, [0, 1, 2, 3]), (47, [0, 1, 2, 3]), (65, [0, 1, 2, 3, 4, 5]), (111, [0, 1, 2, 3, 4, 5])] fun P hP => ?_
      refine ⟨vin (by decide), ?_⟩
      refine br_c (fun _ => ?_) (fun z => ?_)
      · refine ⟨vc21 (by omega), ?_⟩
        have lk : ∀ K2 : xKo, (∀ v', vR v v' → K2 (some (.int (X.2.2 1 q (s 1 k) b))) (xfill F v' 0 (wM0 0))) → C_M_lawOf [.ref 0, .int 1, .int q, .int (F 1 (Int32.toNatClampNeg ((9 : Int32) + 2 * nI k + 1))), .int b] (xfill F v 0 (wM0 0)) K2 := by
          intro K2 k2
          rw [e1]
          exact sx_lawOf F v 1 (by decide) 1 rfl (X.2.2 1) T.2.2.2.2.2 q (s 1 k) b k2
        refine xcall (lk _ (fun v2 E2 => ?_))
        refine br_c (fun y0 => ?_) (fun y0 => ?_)
        · rw [if_pos y0] at hk2
          exact ⟨Or.inl rfl, hk2 _ E2⟩
        · rw [if_neg y0] at hk2
          exact ⟨Or.inr rfl, hk2 _ E2⟩
      · have z : ¬ F 1 (Int32.toNatClampNeg 2) ≤ nI i := z
        rw [e2, nI_leI (by omega) (by omega)] at z
        omega
    | succ d ih =>
      intro i k q hi hk eq hk2
      have eq : crL X.2.1 (X.1 0 c) (X.1 0) d (i + 1) (if nI i = X.2.1 then q else if X.1 0 i = X.1 0 c then q + 1 else q) = cr := eq
      refine xWP_go 200 [(2, [0, 1, 2, 3]), (47, [0, 1, 2, 3]), (65, [0, 1, 2, 3, 4, 5]), (111, [0, 1, 2, 3, 4, 5])] fun P hP => ?_
      refine ⟨vin (by decide), ?_⟩
      refine br_c (fun z => ?_) (fun _ => ?_)
      · have z : F 1 (Int32.toNatClampNeg 2) ≤ nI i := z
        rw [e2, nI_leI (by omega) (by omega)] at z
        omega
      have go : ∀ x : Int32, q + x = (if nI i = X.2.1 then q else if X.1 0 i = X.1 0 c then q + 1 else q) → xWP pg_M_isSafe K 111 [(0, .ref 0), (1, .int (nI c)), (2, .int b), (3, .int (nI k)), (4, .int q), (5, .int (nI i))] [.int x, .int q] (xfill F v 0 (wM0 0)) (0, 0) := by
        intro x hx
        refine xWP_go 200 [(65, [0, 1, 2, 3, 4, 5])] fun P hP => ?_
        refine hP _ _ _ _ _ ?_
        rw [nI_1]
        have z := ih (i + 1) k (if nI i = X.2.1 then q else if X.1 0 i = X.1 0 c then q + 1 else q) (by omega) hk eq hk2
        rw [← hx] at z
        exact z
      refine ⟨vin (by decide), ?_⟩
      refine br_c (fun a => ?_) (fun a => ?_)
      · have a : nI i = F 1 (Int32.toNatClampNeg 8) := a
        rw [e8] at a
        exact hP _ _ _ _ _ (go 0 (by rw [if_pos a, Int32.add_zero]))
      have a : ¬ nI i = F 1 (Int32.toNatClampNeg 8) := a
      rw [e8] at a
      refine xcall (sx_its F v i 2 (by omega) (by omega) 2 rfl (X.1 0 i) (T.2.2.2.1 i (by omega)).1 ?_)
      refine xcall (sx_its F v c 2 hc7 (by omega) 2 rfl (X.1 0 c) eAT ?_)
      refine br_n (fun y => ?_) (fun y => ?_)
      · exact hP _ _ _ _ _ (go 0 (by rw [if_neg a, if_neg y, Int32.add_zero]))
      · exact hP _ _ _ _ _ (go 1 (by rw [if_neg a, if_pos y]))
  have fin : ∀ k : Nat, k ≤ n → (k < n → ∀ v', vR v v' → K (some (.int (if X.2.2 1 cr (s 1 k) b = 0 then 0 else 1))) (xfill F v' 0 (wM0 0))) → (k = n → ∀ v', vR v v' → K (some (.int 0)) (xfill F v' 0 (wM0 0))) → xWP pg_M_isSafe K 47 [(0, .ref 0), (1, .int (nI c)), (2, .int b), (3, .int (nI k))] [] (xfill F v 0 (wM0 0)) (0, 0) := by
    intro k hk k1 k0
    refine xWP_go 200 [(65, [0, 1, 2, 3, 4, 5])] fun P hP => ?_
    refine ⟨vin (by decide), ?_⟩
    refine br_n (fun z => ?_) (fun z => ?_)
    · have z : ¬ nI k = F 1 (Int32.toNatClampNeg 3) := z
      have kn : ¬ k = n := fun e => z (by rw [e, e3])
      refine hP _ _ _ _ _ ?_
      exact two m 0 k 0 (by omega) (by omega) ecr.symm (k1 (by omega))
    · have z : nI k = F 1 (Int32.toNatClampNeg 3) := z
      rw [e3, nI_eq (by omega) (by omega)] at z
      exact ⟨Or.inl rfl, k0 z _ rf⟩
  have key : ∀ (d i : Nat), i + d = n → (∀ v', vR v v' → K (some (.int (hdL (sm (v 0 15) s) (X.2.2 1) cr (X.1 0 c) b d i))) (xfill F v' 0 (wM0 0))) → xWP pg_M_isSafe K 2 [(0, .ref 0), (1, .int (nI c)), (2, .int b), (3, .int (nI i))] [] (xfill F v 0 (wM0 0)) (0, 0) := by
    intro d
    induction d with
    | zero =>
      intro i hi hk
      refine xWP_go 200 [(2, [0, 1, 2, 3]), (47, [0, 1, 2, 3]), (65, [0, 1, 2, 3, 4, 5]), (111, [0, 1, 2, 3, 4, 5])] fun P hP => ?_
      refine ⟨vin (by decide), ?_⟩
      refine br_c (fun _ => hP _ _ _ _ _ (fin i (by omega) (fun l => absurd l (by omega)) (fun _ => hk))) (fun z => ?_)
      have z : ¬ F 1 (Int32.toNatClampNeg 3) ≤ nI i := z
      rw [e3, nI_leI (by omega) (by omega)] at z
      omega
    | succ d ih =>
      intro i hi hk
      have hi8 : i < nat (s 6 0) := by omega
      have e9 : F 1 (Int32.toNatClampNeg ((9 : Int32) + 2 * nI i)) = s 0 i := by rw [nk2 (by omega)]; exact (T.2.1 i hi8).1
      have eh : hdL (sm (v 0 15) s) (X.2.2 1) cr (X.1 0 c) b (d + 1) i = if s 0 i = X.1 0 c ∧ mk (sm (v 0 15) s 1 i) b then (if X.2.2 1 cr (sm (v 0 15) s 1 i) b = 0 then 0 else 1) else hdL (sm (v 0 15) s) (X.2.2 1) cr (X.1 0 c) b d (i + 1) := rfl
      rw [eh] at hk
      refine xWP_go 200 [(2, [0, 1, 2, 3]), (47, [0, 1, 2, 3]), (65, [0, 1, 2, 3, 4, 5]), (111, [0, 1, 2, 3, 4, 5])] fun P hP => ?_
      refine ⟨vin (by decide), ?_⟩
      refine br_c (fun z => ?_) (fun _ => ?_)
      · have z : F 1 (Int32.toNatClampNeg 3) ≤ nI i := z
        rw [e3, nI_leI (by omega) (by omega)] at z
        omega
      have nx : (∀ v', vR v v' → K (some (.int (hdL (sm (v 0 15) s) (X.2.2 1) cr (X.1 0 c) b d (i + 1)))) (xfill F v' 0 (wM0 0))) → xWP pg_M_isSafe K 2 [(0, .ref 0), (1, .int (nI c)), (2, .int b), (3, .int (nI i + 1))] [] (xfill F v 0 (wM0 0)) (0, 0) := by
        intro hk2
        rw [nI_1]
        exact ih (i + 1) (by omega) hk2
      refine xcall (sx_isMarked F v s X T i (by omega) hi8 b (fun mm => ?_) (fun mm => ?_))
      · rw [if_neg (fun z => mm z.2)] at hk
        refine br_c (fun _ => hP _ _ _ _ _ (nx hk)) (fun z => absurd rfl z)
      refine br_c (fun z => absurd z (by decide)) (fun _ => ?_)
      refine ⟨vc2 (by omega), ?_⟩
      refine xcall (sx_its F v c 2 hc7 (by omega) 2 rfl (X.1 0 c) eAT ?_)
      refine br_c (fun y => ?_) (fun y => ?_)
      · have y : F 1 (Int32.toNatClampNeg ((9 : Int32) + 2 * nI i)) = X.1 0 c := y
        rw [e9] at y
        rw [if_pos ⟨y, mm⟩] at hk
        have es : sm (v 0 15) s 1 i = s 1 i := by
          show (if mk (v 0 15) (nI i) then 0 else s 1 i) = s 1 i
          refine if_neg (fun z => ?_)
          have q : sm (v 0 15) s 1 i = 0 := if_pos z
          rw [q] at mm
          have q2 : (0 : Int32) >>> (b &&& 31) = 0 := Int32.zero_shiftRight
          have mm : (0 >>> (b &&& 31)) &&& 1 = (1 : Int32) := mm
          rw [q2] at mm
          exact absurd mm (by decide)
        rw [es] at hk
        exact hP _ _ _ _ _ (fin i (by omega) (fun _ => hk) (fun e => absurd e (by omega)))
      · have y : ¬ F 1 (Int32.toNatClampNeg ((9 : Int32) + 2 * nI i)) = X.1 0 c := y
        rw [e9] at y
        rw [if_neg (fun z => y z.1)] at hk
        exact hP _ _ _ _ _ (nx hk)
  refine xM_go rfl 100 [(2, [0, 1, 2, 3]), (47, [0, 1, 2, 3]), (65, [0, 1, 2, 3, 4, 5]), (111, [0, 1, 2, 3, 4, 5])] fun P hP => ?_
  refine hP _ _ _ _ _ ?_
  exact key n 0 (by omega) h
