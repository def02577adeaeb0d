/-! ===== the reference: a call, without its outcome ===== -/
set_option maxRecDepth 100000 in
theorem sw_aim (F v : xS) (I : mI F) (c : Nat) (hc : c < 7) (b : Int32) {K : xKo} (h : ∀ g v', vR v v' → (g = -1 ∨ ∃ k, k < 8 ∧ g = nI k) → K (some (.int g)) (xfill F v' 0 (wM0 0))) : C_M_aim [.ref 0, .int (nI c), .int b] (xfill F v 0 (wM0 0)) K := by
  obtain ⟨n, hn, en⟩ := I.1.1
  have key : ∀ (d i : Nat) (g nr : Int32) (v' : xS), i + d = n → vR v v' → (g = -1 ∨ ∃ k, k < 8 ∧ g = nI k) → xWP pg_M_aim K 9 [(0, .ref 0), (1, .int (nI c)), (2, .int b), (3, .int g), (4, .int nr), (5, .int (nI i))] [] (xfill F v' 0 (wM0 0)) (0, 0) := by
    intro d
    induction d with
    | zero =>
      intro i g nr v' hi E hg
      refine xWP_go 100 [(9, [0, 1, 2, 3, 4, 5])] fun P hP => ?_
      refine ⟨vin (by decide), ?_⟩
      refine br_c (fun _ => h _ _ E hg) (fun z => ?_)
      have z : ¬ F 1 3 ≤ nI i := z
      rw [en, nI_leI (by omega) (by omega)] at z
      omega
    | succ d ih =>
      intro i g nr v' hi E hg
      refine xWP_go 100 [(9, [0, 1, 2, 3, 4, 5])] fun P hP => ?_
      refine ⟨vin (by decide), ?_⟩
      refine br_c (fun z => ?_) (fun _ => ?_)
      · have z : F 1 3 ≤ nI i := z
        rw [en, nI_leI (by omega) (by omega)] at z
        omega
      have nx : ∀ (g nr : Int32) (v2 : xS), vR v' v2 → (g = -1 ∨ ∃ k, k < 8 ∧ g = nI k) → xWP pg_M_aim K 9 [(0, .ref 0), (1, .int (nI c)), (2, .int b), (3, .int g), (4, .int nr), (5, .int (nI i + 1))] [] (xfill F v2 0 (wM0 0)) (0, 0) := by
        intro g nr v2 E2 hg
        rw [nI_1]
        refine ih (i + 1) g nr v2 (by omega) (fun j => ?_) hg
        rcases E j with e | e
        · exact Or.inl e
        · rcases E2 j with d | d
          · exact Or.inl d
          · exact Or.inr (d.trans e)
      have rf : vR v' v' := fun _ => Or.inr rfl
      refine xcall (sp_its F v' (nI c) 2 (vc5 hc (w := 2) (by omega)) ?_)
      refine ⟨vc2 (by omega), ?_⟩
      refine xcall (sw_round _ _ (fun off => ?_))
      refine xcall (sw_isMarked F v' i (by omega) b (fun r hr => ?_))
      refine br_c (fun _ => ?_) (fun _ => ?_)
      · exact hP _ _ _ _ _ (nx _ _ _ rf hg)
      refine br_c (fun _ => ?_) (fun _ => ?_)
      · exact hP _ _ _ _ _ (nx _ _ _ rf hg)
      refine xcall (sw_farM F v' c hc (fun fr => ?_))
      refine br_c (fun _ => ?_) (fun _ => ?_)
      · exact hP _ _ _ _ _ (nx _ _ _ rf hg)
      refine xcall (sp_its F v' (nI c) 1 (vc5 hc (w := 1) (by omega)) ?_)
      refine xcall (sw_lawOf F v' I 0 off b _ (Or.inl rfl) (fun lw v2 E2 => ?_))
      refine br_c (fun _ => ?_) (fun _ => ?_)
      · exact hP _ _ _ _ _ (nx _ _ _ E2 hg)
      · exact hP _ _ _ _ _ (nx _ _ _ E2 (Or.inr ⟨i, by omega, rfl⟩))
  refine xM_go rfl 100 [(9, [0, 1, 2, 3, 4, 5])] fun P hP => ?_
  refine hP _ _ _ _ _ ?_
  exact key n 0 _ _ v (by omega) (fun _ => Or.inr rfl) (Or.inl rfl)
set_option maxRecDepth 100000 in
theorem sw_ends (F v : xS) (I : mI F) (c : Nat) (hc : c < 7) (b s : Int32) {K : xKo} (h : ∀ r v', vR v v' → K (some (.int r)) (xfill F v' 0 (wM0 0))) : C_M_ends [.ref 0, .int (nI c), .int b, .int s] (xfill F v 0 (wM0 0)) K := by
  have b2 := vc5 hc (w := 2) (by omega)
  have fin : ∀ (g : Int32) (v' : xS), vR v v' → (g = -1 ∨ ∃ k, k < 8 ∧ g = nI k) → xWP pg_M_ends K 21 [(0, .ref 0), (1, .int (nI c)), (2, .int b), (3, .int s)] [.int g] (xfill F v' 0 (wM0 0)) (0, 0) := by
    intro g v' E hg
    refine xWP_go 200 [(103, [0, 1, 2, 3, 4, 5, 6, 7])] fun P hP => ?_
    refine br_c (fun a => ?_) (fun a => ?_)
    · obtain ⟨k, hk, rfl⟩ : ∃ k, k < 8 ∧ g = nI k := hg.elim (fun z => by subst z; exact absurd a (by decide)) id
      refine ⟨vc2 hk, ?_⟩
      refine xcall (sp_its F v' (nI c) 2 b2 ?_)
      refine ⟨by decide, ?_⟩
      refine xcall (sp_its F v' (nI c) 2 b2 ?_)
      refine xcall (sw_round _ _ (fun off => ?_))
      refine xcall (sw_paceM F v' c hc (fun pc => ?_))
      have f2 : ∀ go : Int32, ∀ ls : Int32 × Int32 × Int32, xWP pg_M_ends K 103 [(0, .ref 0), (1, .int (nI c)), (2, .int b), (3, .int s), (4, .int (nI k)), (5, .int ls.1), (6, .int ls.2.1), (7, .int ls.2.2)] [.int go] (xfill F v' 0 (wM0 0)) (0, 0) := by
        intro go ls
        refine xWP_go 200 [] fun P hP => ?_
        refine xcall (sp_its F v' (nI c) 2 b2 ?_)
        refine br_n (fun _ => ⟨by decide, h _ _ E⟩) (fun _ => ⟨by decide, h _ _ E⟩)
      refine br_c (fun _ => ?_) (fun _ => ?_)
      · exact hP _ _ _ _ _ (f2 _ (_, _, _))
      · refine xcall (sw_paceM F v' c hc (fun pc2 => ?_))
        exact hP _ _ _ _ _ (f2 _ (_, _, _))
    · refine xcall (sp_its F v' (nI c) 2 b2 ?_)
      exact h _ _ E
  refine xM_go rfl 100 [(21, [0, 1, 2, 3])] fun P hP => ?_
  refine ⟨vin (by decide), ?_⟩
  refine br_n (fun _ => ?_) (fun _ => ?_)
  · refine xcall (sw_aim F v I c hc b (fun g v' E hg => ?_))
    exact hP _ _ _ _ _ (fin g v' E hg)
  · exact hP _ _ _ _ _ (fin _ v (fun _ => Or.inr rfl) (Or.inl rfl))
set_option maxRecDepth 100000 in
theorem sw_isSafe (F v : xS) (I : mI F) (c : Nat) (hc : c < 7) (b : Int32) {K : xKo} (h : ∀ r v', vR v v' → (r = 0 ∨ r = 1) → K (some (.int r)) (xfill F v' 0 (wM0 0))) : C_M_isSafe [.ref 0, .int (nI c), .int b] (xfill F v 0 (wM0 0)) K := by
  obtain ⟨n, hn, en⟩ := I.1.1
  obtain ⟨m, hm, em⟩ := I.1.2
  have b2 := vc5 hc (w := 2) (by omega)
  have rf : vR v v := fun _ => Or.inr rfl
  have two : ∀ (d i : Nat) (k : Nat) (q : Int32), i + d = m → k < 8 → xWP pg_M_isSafe K 65 [(0, .ref 0), (1, .int (nI c)), (2, .int b), (3, .int (nI k)), (4, .int q), (5, .int (nI i))] [] (xfill F v 0 (wM0 0)) (0, 0) := by
    intro d
    induction d with
    | zero =>
      intro i k q hi hk
      refine xWP_go 200 [(2, [0, 1, 2, 3]), (47, [0, 1, 2, 3]), (65, [0, 1, 2, 3, 4, 5]), (111, [0, 1, 2, 3, 4, 5])] fun P hP => ?_
      refine ⟨vin (by decide), ?_⟩
      refine br_c (fun _ => ?_) (fun z => ?_)
      · refine ⟨vc21 hk, ?_⟩
        refine xcall (sw_lawOf F v I 1 q _ b (Or.inr rfl) (fun lw v2 E2 => ?_))
        refine br_c (fun _ => ⟨Or.inl rfl, h _ _ E2 (Or.inl rfl)⟩) (fun _ => ⟨Or.inr rfl, h _ _ E2 (Or.inr rfl)⟩)
      · have z : ¬ F 1 2 ≤ nI i := z
        rw [em, nI_leI (by omega) (by omega)] at z
        omega
    | succ d ih =>
      intro i k q hi hk
      refine xWP_go 200 [(2, [0, 1, 2, 3]), (47, [0, 1, 2, 3]), (65, [0, 1, 2, 3, 4, 5]), (111, [0, 1, 2, 3, 4, 5])] fun P hP => ?_
      refine ⟨vin (by decide), ?_⟩
      refine br_c (fun z => ?_) (fun _ => ?_)
      · have z : F 1 2 ≤ nI i := z
        rw [em, nI_leI (by omega) (by omega)] at z
        omega
      have go : ∀ x : Int32, xWP pg_M_isSafe K 111 [(0, .ref 0), (1, .int (nI c)), (2, .int b), (3, .int (nI k)), (4, .int q), (5, .int (nI i))] [.int x, .int q] (xfill F v 0 (wM0 0)) (0, 0) := by
        intro x
        refine xWP_go 200 [(65, [0, 1, 2, 3, 4, 5])] fun P hP => ?_
        refine hP _ _ _ _ _ ?_
        rw [nI_1]
        exact ih (i + 1) k _ (by omega) hk
      refine ⟨vin (by decide), ?_⟩
      refine br_c (fun _ => ?_) (fun _ => ?_)
      · exact hP _ _ _ _ _ (go 0)
      refine xcall (sp_its F v (nI i) 2 (vc5 (by omega) (w := 2) (by omega)) ?_)
      refine xcall (sp_its F v (nI c) 2 b2 ?_)
      refine br_n (fun _ => ?_) (fun _ => ?_)
      · exact hP _ _ _ _ _ (go 0)
      · exact hP _ _ _ _ _ (go 1)
  have fin : ∀ k : Nat, k ≤ n → xWP pg_M_isSafe K 47 [(0, .ref 0), (1, .int (nI c)), (2, .int b), (3, .int (nI k))] [] (xfill F v 0 (wM0 0)) (0, 0) := by
    intro k hk
    refine xWP_go 200 [(65, [0, 1, 2, 3, 4, 5])] fun P hP => ?_
    refine ⟨vin (by decide), ?_⟩
    refine br_n (fun z => ?_) (fun _ => ?_)
    · have z : ¬ nI k = F 1 3 := z
      have kn : ¬ k = n := fun e => z (by rw [e, en])
      refine hP _ _ _ _ _ ?_
      exact two m 0 k 0 (by omega) (by omega)
    · exact ⟨Or.inl rfl, h _ _ rf (Or.inl rfl)⟩
  have key : ∀ (d i : Nat), i + d = n → xWP pg_M_isSafe K 2 [(0, .ref 0), (1, .int (nI c)), (2, .int b), (3, .int (nI i))] [] (xfill F v 0 (wM0 0)) (0, 0) := by
    intro d
    induction d with
    | zero =>
      intro i hi
      refine xWP_go 200 [(2, [0, 1, 2, 3]), (47, [0, 1, 2, 3]), (65, [0, 1, 2, 3, 4, 5]), (111, [0, 1, 2, 3, 4, 5])] fun P hP => ?_
      refine ⟨vin (by decide), ?_⟩
      refine br_c (fun _ => hP _ _ _ _ _ (fin i (by omega))) (fun z => ?_)
      have z : ¬ F 1 3 ≤ nI i := z
      rw [en, nI_leI (by omega) (by omega)] at z
      omega
    | succ d ih =>
      intro i hi
      refine xWP_go 200 [(2, [0, 1, 2, 3]), (47, [0, 1, 2, 3]), (65, [0, 1, 2, 3, 4, 5]), (111, [0, 1, 2, 3, 4, 5])] fun P hP => ?_
      refine ⟨vin (by decide), ?_⟩
      refine br_c (fun z => ?_) (fun _ => ?_)
      · have z : F 1 3 ≤ nI i := z
        rw [en, nI_leI (by omega) (by omega)] at z
        omega
      have nx : xWP pg_M_isSafe K 2 [(0, .ref 0), (1, .int (nI c)), (2, .int b), (3, .int (nI i + 1))] [] (xfill F v 0 (wM0 0)) (0, 0) := by
        rw [nI_1]
        exact ih (i + 1) (by omega)
      refine xcall (sw_isMarked F v i (by omega) b (fun r hr => ?_))
      refine br_c (fun _ => hP _ _ _ _ _ nx) (fun _ => ?_)
      refine ⟨vc2 (by omega), ?_⟩
      refine xcall (sp_its F v (nI c) 2 b2 ?_)
      exact br_c (fun _ => hP _ _ _ _ _ (fin i (by omega))) (fun _ => hP _ _ _ _ _ nx)
  refine xM_go rfl 100 [(2, [0, 1, 2, 3]), (47, [0, 1, 2, 3]), (65, [0, 1, 2, 3, 4, 5]), (111, [0, 1, 2, 3, 4, 5])] fun P hP => ?_
  refine hP _ _ _ _ _ ?_
  exact key n 0 (by omega)
theorem am1 (x : Int32) : x + -1 = x - 1 := (Int32.sub_eq_add_neg x 1).symm
theorem r1_at {i w : Nat} (hi : i < 7) (h2 : 2 ≤ w) (hw : w < 5) : r1 (nat ((25 : Int32) + 5 * nI i + nI w)) = true := by
  rw [nc5 (by omega) (by omega)]
  have q : Nat.ble 25 (25 + 5 * i + w) = true := Nat.ble_eq_true_of_le (by omega)
  have q2 : Nat.blt (25 + 5 * i + w) 60 = true := Nat.ble_eq_true_of_le (by omega)
  have q3 : Nat.ble 2 ((25 + 5 * i + w - 25) % 5) = true := Nat.ble_eq_true_of_le (by omega)
  unfold r1
  rw [q, q2, q3]
  simp
theorem mR.to2 {F v F' v' : xS} (h : mR r1 F v F' v') : mR r2 F v F' v' := h.wd (fun j z => by
  simp only [r2, Bool.or_eq_false_iff] at z
  exact z.1)
set_option maxRecDepth 100000 in
theorem sw_calls (F v : xS) (I : mI F) (b s : Int32) {K : xKo} (h : ∀ r F' v', mR r2 F v F' v' → F' 1 0 = F 1 0 + 1 → (∀ k, ¬ k = 1 → F' k = F k) → K (some (.int r)) (xfill F' v' 0 (wM0 0))) : C_M_calls [.ref 0, .int b, .int s] (xfill F v 0 (wM0 0)) K := by
  obtain ⟨m, hm, em⟩ := I.1.2
  have three : ∀ (i : Nat) (st x : Int32) (F' v' : xS), i ≤ m → mR r1 F v F' v' → (∀ k, ¬ k = 1 → F' k = F k) → xWP pg_M_calls K 99 [(0, .ref 0), (1, .int b), (2, .int s), (3, .int st), (4, .int x), (5, .int (nI i - 1))] [] (xfill F' v' 0 (wM0 0)) (0, 0) := by
    intro i
    induction i with
    | zero =>
      intro st x F' v' hi E G
      refine xWP_go 200 [(2, [0, 1, 2, 3]), (36, [0, 1, 2, 3, 4]), (78, [0, 1, 2, 3, 4]), (99, [0, 1, 2, 3, 4, 5]), (158, [0, 1, 2, 3, 4, 5])] fun P hP => ?_
      refine br_c (fun _ => ?_) (fun z => absurd (by decide) z)
      refine ⟨vin (by decide), ?_⟩
      refine ⟨vin (by decide), ?_⟩
      refine ⟨vin (by decide), ?_⟩
      refine h _ (va_up F' 1 (upd (upd (F' 1) 8 x) 0 (F' 1 0 + 1))) v' ⟨fun k => ?_, fun j a z => ?_, E.2.2⟩ ?_ (fun k hk => (if_neg hk).trans (G k hk))
      · by_cases e : k = 1
        · exact Or.inl e
        · have q : va_up F' 1 (upd (upd (F' 1) 8 x) 0 (F' 1 0 + 1)) k = F' k := if_neg e
          rw [q]; exact E.1 k
      · have j0 : ¬ j = 0 := fun e => by rw [e] at z; exact absurd z (by decide)
        have j8 : ¬ j = 8 := fun e => by rw [e] at z; exact absurd z (by decide)
        have q : va_up F' 1 (upd (upd (F' 1) 8 x) 0 (F' 1 0 + 1)) 1 j = F' 1 j := (if_neg j0).trans (if_neg j8)
        rw [q]; exact E.to2.2.1 j a z
      · show F' 1 0 + 1 = F 1 0 + 1
        rw [E.2.1 0 (by omega) rfl]
    | succ i ih =>
      intro st x F' v' hi E G
      rw [nI_pred]
      refine xWP_go 200 [(2, [0, 1, 2, 3]), (36, [0, 1, 2, 3, 4]), (78, [0, 1, 2, 3, 4]), (99, [0, 1, 2, 3, 4, 5]), (158, [0, 1, 2, 3, 4, 5])] fun P hP => ?_
      refine br_c (fun z => absurd z (by show ¬ nI i < nI 0; rw [nI_ltI (by omega) (by omega)]; omega)) (fun _ => ?_)
      have k158 : ∀ (F2 : xS), mR r1 F' v' F2 v' → (∀ k, ¬ k = 1 → F2 k = F' k) → xWP pg_M_calls K 158 [(0, .ref 0), (1, .int b), (2, .int s), (3, .int st), (4, .int x), (5, .int (nI i))] [] (xfill F2 v' 0 (wM0 0)) (0, 0) := by
        intro F2 E2 G2
        refine xWP_go 200 [(99, [0, 1, 2, 3, 4, 5])] fun P hP => ?_
        refine br_n (fun _ => ?_) (fun _ => ?_)
        · refine hP _ _ _ _ _ ?_
          have q := fun y => ih st y F2 v' (by omega) (E.tr E2) (fun k hk => (G2 k hk).trans (G k hk))
          rw [← am1] at q
          exact q _
        · refine hP _ _ _ _ _ ?_
          have q := fun y => ih st y F2 v' (by omega) (E.tr E2) (fun k hk => (G2 k hk).trans (G k hk))
          rw [← am1] at q
          exact q _
      refine ⟨vin (by decide), ?_⟩
      refine br_c (fun _ => ?_) (fun _ => ?_)
      · exact hP _ _ _ _ _ (k158 F' mR.rf (fun _ _ => rfl))
      refine br_n (fun _ => ?_) (fun _ => ?_)
      · refine xcall (sp_its F' v' (nI i) 4 (vc5 (by omega) (w := 4) (by omega)) ?_)
        refine xcall (sw_held _ _ _ (fun y => ?_))
        refine xcall (sp_getsM F' v' (nI i) 4 y (vc5 (by omega) (w := 4) (by omega)) ?_)
        exact hP _ _ _ _ _ (k158 _ (mR.rf.row (r1_at (w := 4) (by omega) (by omega) (by omega))) (fun _ hk => if_neg hk))
      · refine xcall (sp_its F' v' (nI i) 3 (vc5 (by omega) (w := 3) (by omega)) ?_)
        refine xcall (sw_held _ _ _ (fun y => ?_))
        refine xcall (sp_getsM F' v' (nI i) 3 y (vc5 (by omega) (w := 3) (by omega)) ?_)
        exact hP _ _ _ _ _ (k158 _ (mR.rf.row (r1_at (w := 3) (by omega) (by omega) (by omega))) (fun _ hk => if_neg hk))
  have two : ∀ (d i : Nat) (st : Int32) (F' v' : xS), i + d = m → mR r1 F v F' v' → (∀ k, ¬ k = 1 → F' k = F k) → xWP pg_M_calls K 36 [(0, .ref 0), (1, .int b), (2, .int s), (3, .int st), (4, .int (nI i))] [] (xfill F' v' 0 (wM0 0)) (0, 0) := by
    intro d
    induction d with
    | zero =>
      intro i st F' v' hi E G
      have e : F' 1 2 = nI m := (E.2.1 2 (by omega) rfl).trans em
      refine xWP_go 200 [(2, [0, 1, 2, 3]), (36, [0, 1, 2, 3, 4]), (78, [0, 1, 2, 3, 4]), (99, [0, 1, 2, 3, 4, 5]), (158, [0, 1, 2, 3, 4, 5])] fun P hP => ?_
      refine ⟨vin (by decide), ?_⟩
      refine br_c (fun _ => ?_) (fun z => ?_)
      · refine ⟨vin (by decide), ?_⟩
        refine hP _ _ _ _ _ ?_
        have q := three m st (-1) F' v' (Nat.le_refl _) E G
        rw [← e] at q
        exact q
      · have z : ¬ F' 1 2 ≤ nI i := z
        rw [e, nI_leI (by omega) (by omega)] at z
        omega
    | succ d ih =>
      intro i st F' v' hi E G
      have e : F' 1 2 = nI m := (E.2.1 2 (by omega) rfl).trans em
      refine xWP_go 200 [(2, [0, 1, 2, 3]), (36, [0, 1, 2, 3, 4]), (78, [0, 1, 2, 3, 4]), (99, [0, 1, 2, 3, 4, 5]), (158, [0, 1, 2, 3, 4, 5])] fun P hP => ?_
      refine ⟨vin (by decide), ?_⟩
      refine br_c (fun z => ?_) (fun _ => ?_)
      · have z : F' 1 2 ≤ nI i := z
        rw [e, nI_leI (by omega) (by omega)] at z
        omega
      have go : ∀ (x : Int32) (v2 : xS), vR v' v2 → xWP pg_M_calls K 78 [(0, .ref 0), (1, .int b), (2, .int s), (3, .int st), (4, .int (nI i))] [.int x, .int st] (xfill F' v2 0 (wM0 0)) (0, 0) := by
        intro x v2 E2
        refine xWP_go 200 [(36, [0, 1, 2, 3, 4])] fun P hP => ?_
        refine hP _ _ _ _ _ ?_
        rw [nI_1]
        exact ih (i + 1) _ F' v2 (by omega) (E.vs E2) G
      refine ⟨vin (by decide), ?_⟩
      refine br_c (fun _ => ?_) (fun _ => ?_)
      · exact hP _ _ _ _ _ (go 0 v' (fun _ => Or.inr rfl))
      refine xcall (sw_isSafe F' v' (I.of E ⟨rfl, rfl, rfl, rfl⟩) i (by omega) b (fun r v2 E2 hr => ?_))
      refine br_n (fun _ => ?_) (fun _ => ?_)
      · exact hP _ _ _ _ _ (go 0 v2 E2)
      · exact hP _ _ _ _ _ (go _ v2 E2)
  have one : ∀ (d i : Nat) (F' v' : xS), i + d = m → mR r1 F v F' v' → (∀ k, ¬ k = 1 → F' k = F k) → xWP pg_M_calls K 2 [(0, .ref 0), (1, .int b), (2, .int s), (3, .int (nI i))] [] (xfill F' v' 0 (wM0 0)) (0, 0) := by
    intro d
    induction d with
    | zero =>
      intro i F' v' hi E G
      have e : F' 1 2 = nI m := (E.2.1 2 (by omega) rfl).trans em
      refine xWP_go 200 [(2, [0, 1, 2, 3]), (36, [0, 1, 2, 3, 4]), (78, [0, 1, 2, 3, 4]), (99, [0, 1, 2, 3, 4, 5]), (158, [0, 1, 2, 3, 4, 5])] fun P hP => ?_
      refine ⟨vin (by decide), ?_⟩
      refine br_c (fun _ => ?_) (fun z => ?_)
      · refine hP _ _ _ _ _ ?_
        exact two m 0 0 F' v' (by omega) E G
      · have z : ¬ F' 1 2 ≤ nI i := z
        rw [e, nI_leI (by omega) (by omega)] at z
        omega
    | succ d ih =>
      intro i F' v' hi E G
      have e : F' 1 2 = nI m := (E.2.1 2 (by omega) rfl).trans em
      refine xWP_go 200 [(2, [0, 1, 2, 3]), (36, [0, 1, 2, 3, 4]), (78, [0, 1, 2, 3, 4]), (99, [0, 1, 2, 3, 4, 5]), (158, [0, 1, 2, 3, 4, 5])] fun P hP => ?_
      refine ⟨vin (by decide), ?_⟩
      refine br_c (fun z => ?_) (fun _ => ?_)
      · have z : F' 1 2 ≤ nI i := z
        rw [e, nI_leI (by omega) (by omega)] at z
        omega
      refine xcall (sw_ends F' v' (I.of E ⟨rfl, rfl, rfl, rfl⟩) i (by omega) b s (fun r v2 E2 => ?_))
      refine xcall (sp_getsM F' v2 (nI i) 2 r (vc5 (by omega) (w := 2) (by omega)) ?_)
      refine hP _ _ _ _ _ ?_
      rw [nI_1]
      exact ih (i + 1) _ v2 (by omega) ((E.vs E2).row (r1_at (w := 2) (by omega) (by omega) (by omega))) (fun k hk => (if_neg hk).trans (G k hk))
  refine xM_go rfl 100 [(2, [0, 1, 2, 3]), (36, [0, 1, 2, 3, 4]), (78, [0, 1, 2, 3, 4]), (99, [0, 1, 2, 3, 4, 5]), (158, [0, 1, 2, 3, 4, 5])] fun P hP => ?_
  refine hP _ _ _ _ _ ?_
  exact one m 0 F v (by omega) mR.rf (fun _ _ => rfl)
set_option maxRecDepth 100000 in
theorem sw_wouldBe (F v : xS) (I : mI F) (b s : Int32) {K : xKo} (h : ∀ r F' v', mR r0 F v F' v' → K (some (.int r)) (xfill F' v' 0 (wM0 0))) : C_M_wouldBe [.ref 0, .int b, .int s] (xfill F v 0 (wM0 0)) K := by
  refine xM_go rfl 100 [] fun P hP => ?_
  refine xcall (sp_moveAll_1_3 F v fun g g1 g2 => ?_)
  refine xcall (sw_calls (va_up F 3 g) v I b s (fun r F' v' E e G => ?_))
  refine xcall (sp_moveAll_3_1 F' v' fun g' k1 k2 => ?_)
  refine h _ (va_up F' 1 g') v' ⟨fun k => ?_, fun j hj _ => ?_, E.2.2⟩
  · by_cases h1 : k = 1
    · exact Or.inl h1
    by_cases h3 : k = 3
    · exact Or.inr (Or.inl h3)
    have q : va_up F' 1 g' k = F' k := if_neg h1
    rw [q, G k h1]
    exact Or.inr (Or.inr (Or.inr (Or.inr (if_neg h3))))
  · show g' j = F 1 j
    rw [k1 j hj, G 3 (by decide)]
    exact g1 j hj
theorem sp_drawn (F v : xS) (k y : Int32) (hk : ¬ k = 0) (hy : y = zS (F 1 1)) {K : xKo} (h : ∀ r, K (some (.int r)) (xfill (va_up F 1 (upd (F 1) 1 y)) v 0 (wM0 0))) : C_M_drawn [.ref 0, .int k] (xfill F v 0 (wM0 0)) K := by
  refine xM_go rfl 60 [] fun P hP => ?_
  subst hy
  refine ⟨vin (by decide), ?_⟩
  refine ⟨vin (by decide), ?_⟩
  refine ⟨vin (by decide), ?_⟩
  refine ⟨hk, ?_⟩
  exact h _
