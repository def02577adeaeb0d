/-! ===== the reference on a new object: the longer calls ===== -/
theorem sp_drawn0 (F v : Nat → Nat → Int32) (m : Int32) (hm : ¬ m = 0) {K : xKo} (h : ∀ (r : Int32) (f : Nat → Int32), f 2 = F 1 2 → K (some (.int r)) (xfill (va_up F 1 f) v 0 (wM0 0))) : C_M_drawn [.ref 0, .int m] (xfill F v 0 (wM0 0)) K := by
  refine xM_go rfl 60 [] fun P hP => ?_
  refine ⟨vin (by decide), ?_⟩
  refine ⟨vin (by decide), ?_⟩
  refine ⟨vin (by decide), ?_⟩
  refine ⟨hm, ?_⟩
  refine h _ (upd (F 1) (Int32.toNatClampNeg 1) (F 1 (Int32.toNatClampNeg 1) * 1103515245 + 12345)) ?_
  rw [show Int32.toNatClampNeg 1 = 1 by decide, pk_un (by decide)]
set_option maxRecDepth 100000 in
theorem fm_loose (n : Int32) {K : xKo} (h : ∀ F v, K (some (.int (an_loose n))) (xfill F v 0 (wM0 0))) : C_M_loose [.ref 0, .int n] (wM0 0) K := by
  have key : ∀ (N : Nat), N ≤ 40 → (∀ F v, K (some (.int 0)) (xfill F v 0 (wM0 0))) → ∀ (d k : Nat) (F : Nat → Nat → Int32), k + d = N → F 1 2 = 0 → xWP pg_M_loose K 42 [(0, .ref 0), (1, .int (nI N)), (2, .int 0), (3, .int (nI k))] [] (xfill F VM0 0 (wM0 0)) (0, 0) := by
    intro N hN h d
    induction d with
    | zero =>
      intro k F hk hv
      have hk : k = N := hk
      subst hk
      refine xWP_go 100 [(42, [0, 1, 2, 3])] fun P hP => ?_
      refine br_c (fun e => ?_) (fun e => absurd (nI_le (Nat.le_refl _) (by omega)) e)
      exact h F VM0
    | succ d ih =>
      intro k F hk hv
      refine xWP_go 100 [(42, [0, 1, 2, 3])] fun P hP => ?_
      refine br_c (fun e => absurd e (nI_ge (by omega) (by omega))) (fun e => ?_)
      refine xcall (sp_drawn0 F VM0 _ (by decide) fun r1 f1 h1 => ?_)
      refine xcall (sp_drawn0 (va_up F 1 f1) VM0 _ (by decide) fun r2 f2 h2 => ?_)
      have hc2 : f2 2 = 0 := h2.trans (h1.trans hv)
      refine xcall (sp_calls0 (va_up (va_up F 1 f1) 1 f2) VM0 (by exact hc2) _ _ fun f3 h3 _ => ?_)
      refine xcall (sp_bits0 ?_)
      refine hP _ _ _ _ _ ?_
      rw [nI_1]
      exact ih (k + 1) (va_up (va_up (va_up F 1 f1) 1 f2) 1 f3) (by omega) (h3.trans hc2)
  refine xM_go rfl 100 [(42, [0, 1, 2, 3])] fun P hP => ?_
  refine xcall (sp_in _ _ _ (fun a1 => ?_) (fun a1 => ?_))
  · refine br_n (fun z => absurd rfl z) (fun _ => ?_)
    refine xcall (sp_errs rfl (-1000000001) (by decide) fun F v => ?_)
    exact xgenK (w0 := wM0 0) (K := K) (fun F v => by have q := h F v; unfold an_loose at q; rw [if_neg (show ¬ (1 ≤ n.toInt ∧ n.toInt ≤ 40) by simp only [Int32.reduceToInt] at a1; omega)] at q; exact q) rfl
  · refine br_n (fun _ => ?_) (fun z => absurd z (by decide))
    have hn : 1 ≤ n.toInt ∧ n.toInt ≤ 40 := by simp only [Int32.reduceToInt] at a1; omega
    obtain ⟨j, hj, rfl⟩ : ∃ j : Nat, j ≤ 40 ∧ n = nI j := nI_of2 (M := 40) (n := 40) rfl (by simp only [xlt, Int32.reduceToInt]; omega) (by simp only [xle, Int32.reduceToInt]; omega)
    have hs : ((0 : Int32) + nI j).toInt = j := by rw [show (0 : Int32) = nI 0 from rfl, nI_add, nI_toInt (by omega)]; omega
    refine ⟨vin (by decide), ?_⟩
    refine br_c (fun _ => ?_) (fun z => absurd (show (0 : Int32) + nI j ≤ 9999 by simp only [xle, Int32.reduceToInt]; rw [hs]; omega) z)
    refine hP _ _ _ _ _ ?_
    exact key j hj (fun F v => by have q := h F v; unfold an_loose at q; rw [if_pos hn] at q; exact q) j 0 FM0 (Nat.zero_add j) rfl
set_option maxRecDepth 100000 in
theorem fm_feed (x : Int64) (n : Int32) {K : xKo} (h : ∀ F v, K (some (.int (an_feed n))) (xfill F v 0 (wM0 0))) : C_M_feed [.ref 0, .long x, .int n] (wM0 0) K := by
  have n4 : Int32.toNatClampNeg 4 = 4 := by decide
  have key : ∀ (N : Nat), N ≤ 8 → (∀ F v, K (some (.int (nI N))) (xfill F v 0 (wM0 0))) → ∀ (d k : Nat) (f : Nat → Int32), k + d = N → f 4 = nI k → xWP pg_M_feed K 40 [(0, .ref 0), (1, .long x), (3, .int (nI N)), (4, .int (nI k))] [] (xfill (va_up FM0 1 f) VM0 0 (wM0 0)) (0, 0) := by
    intro N hN h d
    induction d with
    | zero =>
      intro k f hk hv
      have hk : k = N := hk
      subst hk
      refine xWP_go 100 [(40, [0, 1, 3, 4])] fun P hP => ?_
      refine br_c (fun e => ?_) (fun e => absurd (nI_le (Nat.le_refl _) (by omega)) e)
      refine ⟨vin (by decide), ?_⟩
      have q := h (va_up FM0 1 f) VM0
      rw [← hv] at q
      exact q
    | succ d ih =>
      intro k f hk hv
      have e4 : f (Int32.toNatClampNeg 4) = nI k := hv
      have e60 : ((60 : Int32) + nI k).toNatClampNeg = 60 + k := by rw [show (60 : Int32) = nI 60 from rfl, nI_add]; exact nI_clamp (by omega)
      refine xWP_go 100 [(40, [0, 1, 3, 4])] fun P hP => ?_
      refine br_c (fun e => absurd e (nI_ge (by omega) (by omega))) (fun e => ?_)
      refine ⟨vin (by decide), ?_⟩
      refine ⟨by show vp_in (60 + f (Int32.toNatClampNeg 4)) 230; rw [e4, show (60 : Int32) = nI 60 from rfl, nI_add]; exact vp_in_nI (by omega) (by omega), ?_⟩
      refine ⟨vin (by decide), ?_⟩
      refine ⟨vin (by decide), ?_⟩
      refine hP _ _ _ _ _ ?_
      rw [nI_1]
      refine ih (k + 1) (upd (upd f ((60 : Int32) + f (Int32.toNatClampNeg 4)).toNatClampNeg _) (Int32.toNatClampNeg 4) (upd f ((60 : Int32) + f (Int32.toNatClampNeg 4)).toNatClampNeg _ (Int32.toNatClampNeg 4) + 1)) (by omega) ?_
      rw [n4, pk_us, hv, e60, pk_un (by omega), hv, nI_1]
  refine xM_go rfl 100 [(40, [0, 1, 3, 4])] fun P hP => ?_
  refine xcall (sp_in _ _ _ (fun a1 => ?_) (fun a1 => ?_))
  · refine br_n (fun z => absurd rfl z) (fun _ => ?_)
    refine xcall (sp_errs rfl (-1000000001) (by decide) fun F v => ?_)
    exact xgenK (w0 := wM0 0) (K := K) (fun F v => by have q := h F v; unfold an_feed at q; rw [if_neg (show ¬ (1 ≤ n.toInt ∧ n.toInt ≤ 8) by simp only [Int32.reduceToInt] at a1; omega)] at q; exact q) rfl
  · refine br_n (fun _ => ?_) (fun z => absurd z (by decide))
    have hn : 1 ≤ n.toInt ∧ n.toInt ≤ 8 := by simp only [Int32.reduceToInt] at a1; omega
    obtain ⟨j, hj, rfl⟩ : ∃ j : Nat, j ≤ 8 ∧ n = nI j := nI_of2 (M := 8) (n := 8) rfl (by simp only [xlt, Int32.reduceToInt]; omega) (by simp only [xle, Int32.reduceToInt]; omega)
    have hs : ((0 : Int32) + nI j).toInt = j := by rw [show (0 : Int32) = nI 0 from rfl, nI_add, nI_toInt (by omega)]; omega
    refine ⟨vin (by decide), ?_⟩
    refine br_c (fun _ => ?_) (fun z => absurd (show (0 : Int32) + nI j ≤ 50 by simp only [xle, Int32.reduceToInt]; rw [hs]; omega) z)
    refine hP _ _ _ _ _ ?_
    exact key j hj (fun F v => by have q := h F v; unfold an_feed at q; rw [if_pos hn] at q; exact q) j 0 xrow0 (Nat.zero_add j) rfl
-- the walk over an empty text
theorem sp_byteAt0 (F v : Nat → Nat → Int32) (he : v 0 9 = 0) {i : Int32} (hi : i = 0) {K : xKo} (h : K (some (.int (-1))) (xfill F v 0 (wM0 0))) : C_M_byteAt [.ref 0, .int i] (xfill F v 0 (wM0 0)) K := by
  refine xM_go rfl 60 [] fun P hP => ?_
  refine br_c (fun _ => ?_) (fun z => absurd (show v 0 9 ≤ i by rw [he, hi]; decide) z)
  exact h
theorem sp_fails (F v : Nat → Nat → Int32) {K : xKo} (h : K (some (.int 0)) (xfill F (va_up v 0 (va_up (v 0) 14 0)) 0 (wM0 0))) : C_M_fails [.ref 0] (xfill F v 0 (wM0 0)) K := by
  refine xM_go rfl 60 [] fun P hP => ?_
  refine ⟨Or.inl rfl, ?_⟩
  exact h
theorem sp_named0 (F v : Nat → Nat → Int32) {K : xKo} (h : K (some (.int 0)) (xfill F (va_up v 0 (va_up (v 0) 14 0)) 0 (wM0 0))) : C_M_named [.ref 0, .int (-1)] (xfill F v 0 (wM0 0)) K := by
  refine xM_go rfl 80 [] fun P hP => ?_
  have fin : ∀ (m : Nat) (x y : Prop), True := fun _ _ _ => trivial
  refine br_n (fun a => ?_) (fun a => ?_)
  all_goals refine br_n (fun _ => ?_) (fun z => absurd z (by decide))
  all_goals refine br_n (fun b => ?_) (fun b => ?_)
  all_goals refine br_n (fun _ => ?_) (fun z => absurd z (by decide))
  all_goals refine br_n (fun c => ?_) (fun c => ?_)
  all_goals refine br_n (fun _ => ?_) (fun z => absurd z (by decide))
  all_goals refine br_n (fun z => absurd rfl z) (fun _ => ?_)
  all_goals refine br_n (fun z => absurd rfl z) (fun _ => ?_)
  all_goals refine br_n (fun z => absurd rfl z) (fun _ => ?_)
  all_goals refine xcall (sp_fails F v ?_)
  all_goals exact h
theorem sp_isDigit0 {K : xKo} (h : K (some (.int 0)) []) : C_M_isDigit [.int (-1)] [] K := by
  refine xM_go rfl 60 [] fun P hP => ?_
  refine xcall (sp_in _ _ _ (fun _ => ?_) (fun z => absurd z (by decide)))
  exact ⟨Or.inl rfl, h⟩
theorem sp_factor0 (n : Nat) (F v : Nat → Nat → Int32) (ha : v 0 8 = 0) (he : v 0 9 = 0) {K : xKo} (h : K (some (.int 0)) (xfill F (va_up v 0 (va_up (v 0) 14 0)) 0 (wM0 0))) : G_gram (n + 1) 0 [.ref 0] (xfill F v 0 (wM0 0)) K := by
  refine xM_go (av := [.ref 0]) (n := 3) (prog := pg_M_factor (G_gram n)) rfl 80 [] fun P hP => ?_
  refine xcall (sp_byteAt0 F v he ha ?_)
  refine xcall (sp_isDigit0 ?_)
  refine br_c (fun _ => ?_) (fun z => absurd rfl z)
  refine br_c (fun z => absurd z (by decide)) (fun _ => ?_)
  refine br_c (fun z => absurd z (by decide)) (fun _ => ?_)
  refine xcall (sp_named0 F v ?_)
  exact h
theorem sp_product0 (n : Nat) (F v : Nat → Nat → Int32) (ha : v 0 8 = 0) (he : v 0 9 = 0) {K : xKo} (h : K (some (.int 0)) (xfill F (va_up v 0 (va_up (v 0) 14 0)) 0 (wM0 0))) : G_gram (n + 2) 1 [.ref 0] (xfill F v 0 (wM0 0)) K := by
  refine xM_go (av := [.ref 0]) (n := 4) (prog := pg_M_product (G_gram (n + 1))) rfl 80 [] fun P hP => ?_
  refine xcall (sp_factor0 n F v ha he ?_)
  refine br_c (fun _ => ?_) (fun z => absurd rfl z)
  exact h
theorem sp_sum0M (n : Nat) (F v : Nat → Nat → Int32) (ha : v 0 8 = 0) (he : v 0 9 = 0) {K : xKo} (h : K (some (.int 0)) (xfill F (va_up v 0 (va_up (v 0) 14 0)) 0 (wM0 0))) : G_gram (n + 3) 2 [.ref 0] (xfill F v 0 (wM0 0)) K := by
  refine xM_go (av := [.ref 0]) (n := 4) (prog := pg_M_sum (G_gram (n + 2))) rfl 80 [] fun P hP => ?_
  refine xcall (sp_product0 n F v ha he ?_)
  refine br_c (fun _ => ?_) (fun z => absurd rfl z)
  exact h
theorem sp_compared0 (n : Nat) (F v : Nat → Nat → Int32) (ha : v 0 8 = 0) (he : v 0 9 = 0) {K : xKo} (h : K (some (.int 0)) (xfill F (va_up v 0 (va_up (v 0) 14 0)) 0 (wM0 0))) : G_gram (n + 4) 3 [.ref 0] (xfill F v 0 (wM0 0)) K := by
  refine xM_go (av := [.ref 0]) (n := 5) (prog := pg_M_compared (G_gram (n + 3))) rfl 80 [] fun P hP => ?_
  refine xcall (sp_sum0M n F v ha he ?_)
  refine br_c (fun _ => ?_) (fun z => absurd rfl z)
  refine br_c (fun z => absurd z (by decide)) (fun _ => ?_)
  refine br_c (fun z => absurd z (by decide)) (fun _ => ?_)
  refine br_c (fun z => absurd z (by decide)) (fun _ => ?_)
  exact h
theorem sp_both0 (n : Nat) (F v : Nat → Nat → Int32) (ha : v 0 8 = 0) (he : v 0 9 = 0) {K : xKo} (h : K (some (.int 0)) (xfill F (va_up v 0 (va_up (v 0) 14 0)) 0 (wM0 0))) : G_gram (n + 5) 4 [.ref 0] (xfill F v 0 (wM0 0)) K := by
  refine xM_go (av := [.ref 0]) (n := 3) (prog := pg_M_both (G_gram (n + 4))) rfl 80 [] fun P hP => ?_
  refine xcall (sp_compared0 n F v ha he ?_)
  refine br_c (fun _ => ?_) (fun z => absurd rfl z)
  exact h
theorem sp_whole0 (n : Nat) (F v : Nat → Nat → Int32) (ha : v 0 8 = 0) (he : v 0 9 = 0) {K : xKo} (h : K (some (.int 0)) (xfill F (va_up v 0 (va_up (v 0) 14 0)) 0 (wM0 0))) : G_gram (n + 6) 5 [.ref 0] (xfill F v 0 (wM0 0)) K := by
  refine xM_go (av := [.ref 0]) (n := 3) (prog := pg_M_whole (G_gram (n + 5))) rfl 80 [] fun P hP => ?_
  refine xcall (sp_both0 n F v ha he ?_)
  refine br_c (fun _ => ?_) (fun z => absurd rfl z)
  exact h
set_option maxRecDepth 100000 in
theorem sp_walks0 (F v : Nat → Nat → Int32) (u : Int32) (hu : 0 ≤ (6 + u).toInt ∧ (6 + u).toInt < 230) (hr : F 1 (6 + u).toNatClampNeg = 0) {K : xKo} (h : ∀ v : Nat → Nat → Int32, v 0 14 = 0 → v 0 8 = 0 → K (some (.int 0)) (xfill F v 0 (wM0 0))) : C_M_walks [.ref 0, .int u, .int 1, .int 1, .int 1] (xfill F v 0 (wM0 0)) K := by
  refine xM_go rfl 80 [] fun P hP => ?_
  refine ⟨vin hu, ?_⟩
  refine ⟨Or.inr rfl, ?_⟩
  refine xcall (sp_whole0 54 F (va_up v 0 (va_up (va_up (va_up (va_up (va_up (va_up (va_up (va_up (v 0) 7 u) 8 0) 9 (F 1 (6 + u).toNatClampNeg)) 10 0) 14 1) 11 1) 12 1) 13 1)) rfl hr ?_)
  refine br_c (fun _ => ?_) (fun z => absurd rfl z)
  refine ⟨Or.inl rfl, ?_⟩
  exact h _ rfl rfl

set_option maxRecDepth 100000 in
set_option maxHeartbeats 1000000 in
theorem fm_called1 (b : Int32) {K : xKo} (h : ∀ F v, K (some (.int (if xin b 10 then 63 else -1000000001))) (xfill F v 0 (wM0 0))) : C_M_called [.ref 0, .int 0, .int b] (wM0 0) K := by
  refine xM_go rfl 137 [] fun P hP => ?_
  refine ⟨vin (by decide), ?_⟩
  refine xcall (sp_in _ _ _ (fun z => absurd (show (0:Int32).toInt ≤ (0:Int32).toInt ∧ (0:Int32).toInt ≤ (0:Int32).toInt by decide) z) (fun _ => ?_))
  refine br_c (fun z => absurd z (by decide)) (fun _ => ?_)
  refine xcall (sp_areSteps _ (fun a1 => ?_) (fun a1 => ?_))
  · refine br_n (fun z => absurd (by first | decide | rfl) z) (fun _ => ?_)
    refine xcall (sp_errs rfl (-1000000001) (by decide) fun F v => ?_)
    exact xgenK (w0 := wM0 0) (K := K) (fun F v => by have q := h F v; rw [if_neg (show ¬ xin b 10 by simp only [xin, xlt, xle, xeq, Int32.reduceToInt] at a1 ⊢; omega)] at q; exact q) rfl
  · refine br_n (fun _ => ?_) (fun z => absurd z (by decide))
    refine br_c (fun z => absurd z (by decide)) (fun _ => ?_)
    refine xcall (sp_wouldBe0 FM0 VM0 (by exact rfl) _ _ fun F2 h2 => ?_)
    have hc2 : F2 1 2 = 0 := (h2 2 (by decide)).trans rfl
    have hd2 : F2 1 8 = -1 := (h2 8 (by decide)).trans rfl
    refine br_n (fun z => absurd (by first | decide | rfl) z) (fun _ => ?_)
    refine br_c (fun z => absurd z (by decide)) (fun _ => ?_)
    refine xcall (sp_wouldBe0 F2 VM0 (by exact hc2) _ _ fun F3 h3 => ?_)
    have hc3 : F3 1 2 = 0 := (h3 2 (by decide)).trans hc2
    have hd3 : F3 1 8 = -1 := (h3 8 (by decide)).trans hd2
    refine br_n (fun z => absurd (by first | decide | rfl) z) (fun _ => ?_)
    refine br_c (fun z => absurd z (by decide)) (fun _ => ?_)
    refine xcall (sp_wouldBe0 F3 VM0 (by exact hc3) _ _ fun F4 h4 => ?_)
    have hc4 : F4 1 2 = 0 := (h4 2 (by decide)).trans hc3
    have hd4 : F4 1 8 = -1 := (h4 8 (by decide)).trans hd3
    refine br_n (fun z => absurd (by first | decide | rfl) z) (fun _ => ?_)
    refine br_c (fun z => absurd z (by decide)) (fun _ => ?_)
    refine xcall (sp_wouldBe0 F4 VM0 (by exact hc4) _ _ fun F5 h5 => ?_)
    have hc5 : F5 1 2 = 0 := (h5 2 (by decide)).trans hc4
    have hd5 : F5 1 8 = -1 := (h5 8 (by decide)).trans hd4
    refine br_n (fun z => absurd (by first | decide | rfl) z) (fun _ => ?_)
    refine br_c (fun z => absurd z (by decide)) (fun _ => ?_)
    refine xcall (sp_wouldBe0 F5 VM0 (by exact hc5) _ _ fun F6 h6 => ?_)
    have hc6 : F6 1 2 = 0 := (h6 2 (by decide)).trans hc5
    have hd6 : F6 1 8 = -1 := (h6 8 (by decide)).trans hd5
    refine br_n (fun z => absurd (by first | decide | rfl) z) (fun _ => ?_)
    refine br_c (fun z => absurd z (by decide)) (fun _ => ?_)
    refine xcall (sp_wouldBe0 F6 VM0 (by exact hc6) _ _ fun F7 h7 => ?_)
    have hc7 : F7 1 2 = 0 := (h7 2 (by decide)).trans hc6
    have hd7 : F7 1 8 = -1 := (h7 8 (by decide)).trans hd6
    refine br_n (fun z => absurd (by first | decide | rfl) z) (fun _ => ?_)
    refine br_c (fun _ => ?_) (fun z => absurd (by first | decide | rfl) z)
    exact xgenK (w0 := wM0 0) (K := K) (fun F v => by have q := h F v; rw [if_pos (show xin b 10 by simp only [xin, xlt, xle, xeq, Int32.reduceToInt] at a1 ⊢; omega)] at q; exact q) rfl

set_option maxRecDepth 100000 in
set_option maxHeartbeats 1000000 in
theorem fm_lay (a b c : Int32) {K : xKo} (h : ∀ F v, K (some (.int (an_lay a b c))) (xfill F v 0 (wM0 0))) : C_M_lay [.ref 0, .int a, .int b, .int c] (wM0 0) K := by
  refine xM_go rfl 458 [] fun P hP => ?_
  refine xcall (sp_isMark _ (fun a1 => ?_) (fun a1 => ?_))
  · refine br_c (fun _ => ?_) (fun z => absurd (by first | decide | rfl) z)
    refine xcall (sp_errs rfl (-1000000001) (by decide) fun F v => ?_)
    exact xgenK (w0 := wM0 0) (K := K) (fun F v => by have q := h F v; unfold an_lay at q; rw [if_neg (show ¬ (xin a 6 ∧ xin b 10 ∧ xin c 2) by simp only [xin, xlt, xle, xeq, Int32.reduceToInt] at a1 ⊢; omega)] at q; exact q) rfl
  · refine br_c (fun z => absurd z (by decide)) (fun _ => ?_)
    refine xcall (sp_areSteps _ (fun a2 => ?_) (fun a2 => ?_))
    · refine br_c (fun _ => ?_) (fun z => absurd (by first | decide | rfl) z)
      refine xcall (sp_errs rfl (-1000000001) (by decide) fun F v => ?_)
      exact xgenK (w0 := wM0 0) (K := K) (fun F v => by have q := h F v; unfold an_lay at q; rw [if_neg (show ¬ (xin a 6 ∧ xin b 10 ∧ xin c 2) by simp only [xin, xlt, xle, xeq, Int32.reduceToInt] at a1 a2 ⊢; omega)] at q; exact q) rfl
    · refine br_c (fun z => absurd z (by decide)) (fun _ => ?_)
      refine xcall (sp_in _ _ _ (fun a3 => ?_) (fun a3 => ?_))
      · refine br_n (fun z => absurd (by first | decide | rfl) z) (fun _ => ?_)
        refine xcall (sp_errs rfl (-1000000001) (by decide) fun F v => ?_)
        exact xgenK (w0 := wM0 0) (K := K) (fun F v => by have q := h F v; unfold an_lay at q; rw [if_neg (show ¬ (xin a 6 ∧ xin b 10 ∧ xin c 2) by simp only [xin, xlt, xle, xeq, Int32.reduceToInt] at a1 a2 a3 ⊢; omega)] at q; exact q) rfl
      · refine br_n (fun _ => ?_) (fun z => absurd z (by decide))
        refine ⟨vin (by decide), ?_⟩
        refine br_n (fun _ => ?_) (fun z => absurd z (by decide))
        refine br_c (fun z => absurd z (by decide)) (fun _ => ?_)
        refine xcall (sp_adds FM0 VM0 (by exact rfl) _ _ fun f4 h24 h34 => ?_)
        have hc4 : (va_up FM0 1 f4) 1 2 = 0 := h24.trans rfl
        refine xcall (sp_wouldBe0 (va_up FM0 1 f4) VM0 (by exact hc4) _ _ fun F5 h5 => ?_)
        have hc5 : (va_up F5 1 (upd (F5 1) (Int32.toNatClampNeg 3) (F5 1 (Int32.toNatClampNeg 3) - 1))) 1 2 = 0 := by show upd (F5 1) (Int32.toNatClampNeg 3) (F5 1 (Int32.toNatClampNeg 3) - 1) 2 = 0; rw [show Int32.toNatClampNeg 3 = 3 by decide, pk_un (by decide)]; exact (h5 2 (by decide)).trans hc4
        have h35 : (va_up F5 1 (upd (F5 1) (Int32.toNatClampNeg 3) (F5 1 (Int32.toNatClampNeg 3) - 1))) 1 3 = 0 := by show upd (F5 1) (Int32.toNatClampNeg 3) (F5 1 (Int32.toNatClampNeg 3) - 1) 3 = 0; rw [show Int32.toNatClampNeg 3 = 3 by decide, pk_us, show F5 1 3 = 1 from (h5 3 (by decide)).trans h34]; decide
        refine xcall (sp_bits0 ?_)
        refine ⟨vin (by decide), ?_⟩
        refine ⟨vin (by decide), ?_⟩
        refine br_c (fun z => absurd z (by decide)) (fun _ => ?_)
        refine br_c (fun z => absurd z (by decide)) (fun _ => ?_)
        refine br_c (fun z => absurd z (by decide)) (fun _ => ?_)
        refine xcall (sp_adds (va_up F5 1 (upd (F5 1) (Int32.toNatClampNeg 3) (F5 1 (Int32.toNatClampNeg 3) - 1))) VM0 (by exact h35) _ _ fun f6 h26 h36 => ?_)
        have hc6 : (va_up (va_up F5 1 (upd (F5 1) (Int32.toNatClampNeg 3) (F5 1 (Int32.toNatClampNeg 3) - 1))) 1 f6) 1 2 = 0 := h26.trans hc5
        refine xcall (sp_wouldBe0 (va_up (va_up F5 1 (upd (F5 1) (Int32.toNatClampNeg 3) (F5 1 (Int32.toNatClampNeg 3) - 1))) 1 f6) VM0 (by exact hc6) _ _ fun F7 h7 => ?_)
        have hc7 : (va_up F7 1 (upd (F7 1) (Int32.toNatClampNeg 3) (F7 1 (Int32.toNatClampNeg 3) - 1))) 1 2 = 0 := by show upd (F7 1) (Int32.toNatClampNeg 3) (F7 1 (Int32.toNatClampNeg 3) - 1) 2 = 0; rw [show Int32.toNatClampNeg 3 = 3 by decide, pk_un (by decide)]; exact (h7 2 (by decide)).trans hc6
        have h37 : (va_up F7 1 (upd (F7 1) (Int32.toNatClampNeg 3) (F7 1 (Int32.toNatClampNeg 3) - 1))) 1 3 = 0 := by show upd (F7 1) (Int32.toNatClampNeg 3) (F7 1 (Int32.toNatClampNeg 3) - 1) 3 = 0; rw [show Int32.toNatClampNeg 3 = 3 by decide, pk_us, show F7 1 3 = 1 from (h7 3 (by decide)).trans h36]; decide
        refine xcall (sp_bits0 ?_)
        refine ⟨vin (by decide), ?_⟩
        refine ⟨vin (by decide), ?_⟩
        refine br_c (fun _ => ?_) (fun z => absurd (by first | decide | rfl) z)
        refine br_c (fun _ => ?_) (fun z => absurd (by first | decide | rfl) z)
        refine br_c (fun z => absurd z (by decide)) (fun _ => ?_)
        refine xcall (sp_adds (va_up F7 1 (upd (F7 1) (Int32.toNatClampNeg 3) (F7 1 (Int32.toNatClampNeg 3) - 1))) VM0 (by exact h37) _ _ fun f8 h28 h38 => ?_)
        have hc8 : (va_up (va_up F7 1 (upd (F7 1) (Int32.toNatClampNeg 3) (F7 1 (Int32.toNatClampNeg 3) - 1))) 1 f8) 1 2 = 0 := h28.trans hc7
        refine xcall (sp_wouldBe0 (va_up (va_up F7 1 (upd (F7 1) (Int32.toNatClampNeg 3) (F7 1 (Int32.toNatClampNeg 3) - 1))) 1 f8) VM0 (by exact hc8) _ _ fun F9 h9 => ?_)
        have hc9 : (va_up F9 1 (upd (F9 1) (Int32.toNatClampNeg 3) (F9 1 (Int32.toNatClampNeg 3) - 1))) 1 2 = 0 := by show upd (F9 1) (Int32.toNatClampNeg 3) (F9 1 (Int32.toNatClampNeg 3) - 1) 2 = 0; rw [show Int32.toNatClampNeg 3 = 3 by decide, pk_un (by decide)]; exact (h9 2 (by decide)).trans hc8
        have h39 : (va_up F9 1 (upd (F9 1) (Int32.toNatClampNeg 3) (F9 1 (Int32.toNatClampNeg 3) - 1))) 1 3 = 0 := by show upd (F9 1) (Int32.toNatClampNeg 3) (F9 1 (Int32.toNatClampNeg 3) - 1) 3 = 0; rw [show Int32.toNatClampNeg 3 = 3 by decide, pk_us, show F9 1 3 = 1 from (h9 3 (by decide)).trans h38]; decide
        refine xcall (sp_bits0 ?_)
        refine ⟨vin (by decide), ?_⟩
        refine ⟨vin (by decide), ?_⟩
        refine br_c (fun _ => ?_) (fun z => absurd (by first | decide | rfl) z)
        refine br_c (fun _ => ?_) (fun z => absurd (by first | decide | rfl) z)
        refine br_c (fun z => absurd z (by decide)) (fun _ => ?_)
        refine xcall (sp_adds (va_up F9 1 (upd (F9 1) (Int32.toNatClampNeg 3) (F9 1 (Int32.toNatClampNeg 3) - 1))) VM0 (by exact h39) _ _ fun f10 h210 h310 => ?_)
        have hc10 : (va_up (va_up F9 1 (upd (F9 1) (Int32.toNatClampNeg 3) (F9 1 (Int32.toNatClampNeg 3) - 1))) 1 f10) 1 2 = 0 := h210.trans hc9
        refine xcall (sp_wouldBe0 (va_up (va_up F9 1 (upd (F9 1) (Int32.toNatClampNeg 3) (F9 1 (Int32.toNatClampNeg 3) - 1))) 1 f10) VM0 (by exact hc10) _ _ fun F11 h11 => ?_)
        have hc11 : (va_up F11 1 (upd (F11 1) (Int32.toNatClampNeg 3) (F11 1 (Int32.toNatClampNeg 3) - 1))) 1 2 = 0 := by show upd (F11 1) (Int32.toNatClampNeg 3) (F11 1 (Int32.toNatClampNeg 3) - 1) 2 = 0; rw [show Int32.toNatClampNeg 3 = 3 by decide, pk_un (by decide)]; exact (h11 2 (by decide)).trans hc10
        have h311 : (va_up F11 1 (upd (F11 1) (Int32.toNatClampNeg 3) (F11 1 (Int32.toNatClampNeg 3) - 1))) 1 3 = 0 := by show upd (F11 1) (Int32.toNatClampNeg 3) (F11 1 (Int32.toNatClampNeg 3) - 1) 3 = 0; rw [show Int32.toNatClampNeg 3 = 3 by decide, pk_us, show F11 1 3 = 1 from (h11 3 (by decide)).trans h310]; decide
        refine xcall (sp_bits0 ?_)
        refine ⟨vin (by decide), ?_⟩
        refine ⟨vin (by decide), ?_⟩
        refine br_c (fun _ => ?_) (fun z => absurd (by first | decide | rfl) z)
        refine br_c (fun _ => ?_) (fun z => absurd (by first | decide | rfl) z)
        refine br_c (fun z => absurd z (by decide)) (fun _ => ?_)
        refine xcall (sp_adds (va_up F11 1 (upd (F11 1) (Int32.toNatClampNeg 3) (F11 1 (Int32.toNatClampNeg 3) - 1))) VM0 (by exact h311) _ _ fun f12 h212 h312 => ?_)
        have hc12 : (va_up (va_up F11 1 (upd (F11 1) (Int32.toNatClampNeg 3) (F11 1 (Int32.toNatClampNeg 3) - 1))) 1 f12) 1 2 = 0 := h212.trans hc11
        refine xcall (sp_wouldBe0 (va_up (va_up F11 1 (upd (F11 1) (Int32.toNatClampNeg 3) (F11 1 (Int32.toNatClampNeg 3) - 1))) 1 f12) VM0 (by exact hc12) _ _ fun F13 h13 => ?_)
        have hc13 : (va_up F13 1 (upd (F13 1) (Int32.toNatClampNeg 3) (F13 1 (Int32.toNatClampNeg 3) - 1))) 1 2 = 0 := by show upd (F13 1) (Int32.toNatClampNeg 3) (F13 1 (Int32.toNatClampNeg 3) - 1) 2 = 0; rw [show Int32.toNatClampNeg 3 = 3 by decide, pk_un (by decide)]; exact (h13 2 (by decide)).trans hc12
        have h313 : (va_up F13 1 (upd (F13 1) (Int32.toNatClampNeg 3) (F13 1 (Int32.toNatClampNeg 3) - 1))) 1 3 = 0 := by show upd (F13 1) (Int32.toNatClampNeg 3) (F13 1 (Int32.toNatClampNeg 3) - 1) 3 = 0; rw [show Int32.toNatClampNeg 3 = 3 by decide, pk_us, show F13 1 3 = 1 from (h13 3 (by decide)).trans h312]; decide
        refine xcall (sp_bits0 ?_)
        refine ⟨vin (by decide), ?_⟩
        refine ⟨vin (by decide), ?_⟩
        refine br_c (fun _ => ?_) (fun z => absurd (by first | decide | rfl) z)
        refine br_c (fun _ => ?_) (fun z => absurd (by first | decide | rfl) z)
        refine br_c (fun z => absurd z (by decide)) (fun _ => ?_)
        refine xcall (sp_adds (va_up F13 1 (upd (F13 1) (Int32.toNatClampNeg 3) (F13 1 (Int32.toNatClampNeg 3) - 1))) VM0 (by exact h313) _ _ fun f14 h214 h314 => ?_)
        have hc14 : (va_up (va_up F13 1 (upd (F13 1) (Int32.toNatClampNeg 3) (F13 1 (Int32.toNatClampNeg 3) - 1))) 1 f14) 1 2 = 0 := h214.trans hc13
        refine xcall (sp_wouldBe0 (va_up (va_up F13 1 (upd (F13 1) (Int32.toNatClampNeg 3) (F13 1 (Int32.toNatClampNeg 3) - 1))) 1 f14) VM0 (by exact hc14) _ _ fun F15 h15 => ?_)
        have hc15 : (va_up F15 1 (upd (F15 1) (Int32.toNatClampNeg 3) (F15 1 (Int32.toNatClampNeg 3) - 1))) 1 2 = 0 := by show upd (F15 1) (Int32.toNatClampNeg 3) (F15 1 (Int32.toNatClampNeg 3) - 1) 2 = 0; rw [show Int32.toNatClampNeg 3 = 3 by decide, pk_un (by decide)]; exact (h15 2 (by decide)).trans hc14
        have h315 : (va_up F15 1 (upd (F15 1) (Int32.toNatClampNeg 3) (F15 1 (Int32.toNatClampNeg 3) - 1))) 1 3 = 0 := by show upd (F15 1) (Int32.toNatClampNeg 3) (F15 1 (Int32.toNatClampNeg 3) - 1) 3 = 0; rw [show Int32.toNatClampNeg 3 = 3 by decide, pk_us, show F15 1 3 = 1 from (h15 3 (by decide)).trans h314]; decide
        refine xcall (sp_bits0 ?_)
        refine ⟨vin (by decide), ?_⟩
        refine ⟨vin (by decide), ?_⟩
        refine br_c (fun _ => ?_) (fun z => absurd (by first | decide | rfl) z)
        refine br_c (fun _ => ?_) (fun z => absurd (by first | decide | rfl) z)
        refine br_c (fun z => absurd z (by decide)) (fun _ => ?_)
        refine xcall (sp_adds (va_up F15 1 (upd (F15 1) (Int32.toNatClampNeg 3) (F15 1 (Int32.toNatClampNeg 3) - 1))) VM0 (by exact h315) _ _ fun f16 h216 h316 => ?_)
        have hc16 : (va_up (va_up F15 1 (upd (F15 1) (Int32.toNatClampNeg 3) (F15 1 (Int32.toNatClampNeg 3) - 1))) 1 f16) 1 2 = 0 := h216.trans hc15
        refine xcall (sp_wouldBe0 (va_up (va_up F15 1 (upd (F15 1) (Int32.toNatClampNeg 3) (F15 1 (Int32.toNatClampNeg 3) - 1))) 1 f16) VM0 (by exact hc16) _ _ fun F17 h17 => ?_)
        have hc17 : (va_up F17 1 (upd (F17 1) (Int32.toNatClampNeg 3) (F17 1 (Int32.toNatClampNeg 3) - 1))) 1 2 = 0 := by show upd (F17 1) (Int32.toNatClampNeg 3) (F17 1 (Int32.toNatClampNeg 3) - 1) 2 = 0; rw [show Int32.toNatClampNeg 3 = 3 by decide, pk_un (by decide)]; exact (h17 2 (by decide)).trans hc16
        have h317 : (va_up F17 1 (upd (F17 1) (Int32.toNatClampNeg 3) (F17 1 (Int32.toNatClampNeg 3) - 1))) 1 3 = 0 := by show upd (F17 1) (Int32.toNatClampNeg 3) (F17 1 (Int32.toNatClampNeg 3) - 1) 3 = 0; rw [show Int32.toNatClampNeg 3 = 3 by decide, pk_us, show F17 1 3 = 1 from (h17 3 (by decide)).trans h316]; decide
        refine xcall (sp_bits0 ?_)
        refine ⟨vin (by decide), ?_⟩
        refine ⟨vin (by decide), ?_⟩
        refine br_c (fun _ => ?_) (fun z => absurd (by first | decide | rfl) z)
        refine br_c (fun _ => ?_) (fun z => absurd (by first | decide | rfl) z)
        refine br_c (fun z => absurd z (by decide)) (fun _ => ?_)
        refine xcall (sp_adds (va_up F17 1 (upd (F17 1) (Int32.toNatClampNeg 3) (F17 1 (Int32.toNatClampNeg 3) - 1))) VM0 (by exact h317) _ _ fun f18 h218 h318 => ?_)
        have hc18 : (va_up (va_up F17 1 (upd (F17 1) (Int32.toNatClampNeg 3) (F17 1 (Int32.toNatClampNeg 3) - 1))) 1 f18) 1 2 = 0 := h218.trans hc17
        refine xcall (sp_wouldBe0 (va_up (va_up F17 1 (upd (F17 1) (Int32.toNatClampNeg 3) (F17 1 (Int32.toNatClampNeg 3) - 1))) 1 f18) VM0 (by exact hc18) _ _ fun F19 h19 => ?_)
        have hc19 : (va_up F19 1 (upd (F19 1) (Int32.toNatClampNeg 3) (F19 1 (Int32.toNatClampNeg 3) - 1))) 1 2 = 0 := by show upd (F19 1) (Int32.toNatClampNeg 3) (F19 1 (Int32.toNatClampNeg 3) - 1) 2 = 0; rw [show Int32.toNatClampNeg 3 = 3 by decide, pk_un (by decide)]; exact (h19 2 (by decide)).trans hc18
        have h319 : (va_up F19 1 (upd (F19 1) (Int32.toNatClampNeg 3) (F19 1 (Int32.toNatClampNeg 3) - 1))) 1 3 = 0 := by show upd (F19 1) (Int32.toNatClampNeg 3) (F19 1 (Int32.toNatClampNeg 3) - 1) 3 = 0; rw [show Int32.toNatClampNeg 3 = 3 by decide, pk_us, show F19 1 3 = 1 from (h19 3 (by decide)).trans h318]; decide
        refine xcall (sp_bits0 ?_)
        refine ⟨vin (by decide), ?_⟩
        refine ⟨vin (by decide), ?_⟩
        refine br_c (fun _ => ?_) (fun z => absurd (by first | decide | rfl) z)
        refine br_c (fun _ => ?_) (fun z => absurd (by first | decide | rfl) z)
        refine br_c (fun z => absurd z (by decide)) (fun _ => ?_)
        refine xcall (sp_adds (va_up F19 1 (upd (F19 1) (Int32.toNatClampNeg 3) (F19 1 (Int32.toNatClampNeg 3) - 1))) VM0 (by exact h319) _ _ fun f20 h220 h320 => ?_)
        have hc20 : (va_up (va_up F19 1 (upd (F19 1) (Int32.toNatClampNeg 3) (F19 1 (Int32.toNatClampNeg 3) - 1))) 1 f20) 1 2 = 0 := h220.trans hc19
        refine xcall (sp_wouldBe0 (va_up (va_up F19 1 (upd (F19 1) (Int32.toNatClampNeg 3) (F19 1 (Int32.toNatClampNeg 3) - 1))) 1 f20) VM0 (by exact hc20) _ _ fun F21 h21 => ?_)
        have hc21 : (va_up F21 1 (upd (F21 1) (Int32.toNatClampNeg 3) (F21 1 (Int32.toNatClampNeg 3) - 1))) 1 2 = 0 := by show upd (F21 1) (Int32.toNatClampNeg 3) (F21 1 (Int32.toNatClampNeg 3) - 1) 2 = 0; rw [show Int32.toNatClampNeg 3 = 3 by decide, pk_un (by decide)]; exact (h21 2 (by decide)).trans hc20
        have h321 : (va_up F21 1 (upd (F21 1) (Int32.toNatClampNeg 3) (F21 1 (Int32.toNatClampNeg 3) - 1))) 1 3 = 0 := by show upd (F21 1) (Int32.toNatClampNeg 3) (F21 1 (Int32.toNatClampNeg 3) - 1) 3 = 0; rw [show Int32.toNatClampNeg 3 = 3 by decide, pk_us, show F21 1 3 = 1 from (h21 3 (by decide)).trans h320]; decide
        refine xcall (sp_bits0 ?_)
        refine ⟨vin (by decide), ?_⟩
        refine ⟨vin (by decide), ?_⟩
        refine br_c (fun _ => ?_) (fun z => absurd (by first | decide | rfl) z)
        refine br_c (fun _ => ?_) (fun z => absurd (by first | decide | rfl) z)
        refine br_c (fun z => absurd z (by decide)) (fun _ => ?_)
        refine xcall (sp_adds (va_up F21 1 (upd (F21 1) (Int32.toNatClampNeg 3) (F21 1 (Int32.toNatClampNeg 3) - 1))) VM0 (by exact h321) _ _ fun f22 h222 h322 => ?_)
        have hc22 : (va_up (va_up F21 1 (upd (F21 1) (Int32.toNatClampNeg 3) (F21 1 (Int32.toNatClampNeg 3) - 1))) 1 f22) 1 2 = 0 := h222.trans hc21
        refine xcall (sp_wouldBe0 (va_up (va_up F21 1 (upd (F21 1) (Int32.toNatClampNeg 3) (F21 1 (Int32.toNatClampNeg 3) - 1))) 1 f22) VM0 (by exact hc22) _ _ fun F23 h23 => ?_)
        have hc23 : (va_up F23 1 (upd (F23 1) (Int32.toNatClampNeg 3) (F23 1 (Int32.toNatClampNeg 3) - 1))) 1 2 = 0 := by show upd (F23 1) (Int32.toNatClampNeg 3) (F23 1 (Int32.toNatClampNeg 3) - 1) 2 = 0; rw [show Int32.toNatClampNeg 3 = 3 by decide, pk_un (by decide)]; exact (h23 2 (by decide)).trans hc22
        have h323 : (va_up F23 1 (upd (F23 1) (Int32.toNatClampNeg 3) (F23 1 (Int32.toNatClampNeg 3) - 1))) 1 3 = 0 := by show upd (F23 1) (Int32.toNatClampNeg 3) (F23 1 (Int32.toNatClampNeg 3) - 1) 3 = 0; rw [show Int32.toNatClampNeg 3 = 3 by decide, pk_us, show F23 1 3 = 1 from (h23 3 (by decide)).trans h322]; decide
        refine xcall (sp_bits0 ?_)
        refine ⟨vin (by decide), ?_⟩
        refine ⟨vin (by decide), ?_⟩
        refine br_c (fun _ => ?_) (fun z => absurd (by first | decide | rfl) z)
        refine br_c (fun _ => ?_) (fun z => absurd (by first | decide | rfl) z)
        refine br_c (fun z => absurd z (by decide)) (fun _ => ?_)
        refine xcall (sp_adds (va_up F23 1 (upd (F23 1) (Int32.toNatClampNeg 3) (F23 1 (Int32.toNatClampNeg 3) - 1))) VM0 (by exact h323) _ _ fun f24 h224 h324 => ?_)
        have hc24 : (va_up (va_up F23 1 (upd (F23 1) (Int32.toNatClampNeg 3) (F23 1 (Int32.toNatClampNeg 3) - 1))) 1 f24) 1 2 = 0 := h224.trans hc23
        refine xcall (sp_wouldBe0 (va_up (va_up F23 1 (upd (F23 1) (Int32.toNatClampNeg 3) (F23 1 (Int32.toNatClampNeg 3) - 1))) 1 f24) VM0 (by exact hc24) _ _ fun F25 h25 => ?_)
        have hc25 : (va_up F25 1 (upd (F25 1) (Int32.toNatClampNeg 3) (F25 1 (Int32.toNatClampNeg 3) - 1))) 1 2 = 0 := by show upd (F25 1) (Int32.toNatClampNeg 3) (F25 1 (Int32.toNatClampNeg 3) - 1) 2 = 0; rw [show Int32.toNatClampNeg 3 = 3 by decide, pk_un (by decide)]; exact (h25 2 (by decide)).trans hc24
        have h325 : (va_up F25 1 (upd (F25 1) (Int32.toNatClampNeg 3) (F25 1 (Int32.toNatClampNeg 3) - 1))) 1 3 = 0 := by show upd (F25 1) (Int32.toNatClampNeg 3) (F25 1 (Int32.toNatClampNeg 3) - 1) 3 = 0; rw [show Int32.toNatClampNeg 3 = 3 by decide, pk_us, show F25 1 3 = 1 from (h25 3 (by decide)).trans h324]; decide
        refine xcall (sp_bits0 ?_)
        refine ⟨vin (by decide), ?_⟩
        refine ⟨vin (by decide), ?_⟩
        refine br_c (fun _ => ?_) (fun z => absurd (by first | decide | rfl) z)
        refine br_c (fun _ => ?_) (fun z => absurd (by first | decide | rfl) z)
        refine br_c (fun z => absurd z (by decide)) (fun _ => ?_)
        refine xcall (sp_adds (va_up F25 1 (upd (F25 1) (Int32.toNatClampNeg 3) (F25 1 (Int32.toNatClampNeg 3) - 1))) VM0 (by exact h325) _ _ fun f26 h226 h326 => ?_)
        have hc26 : (va_up (va_up F25 1 (upd (F25 1) (Int32.toNatClampNeg 3) (F25 1 (Int32.toNatClampNeg 3) - 1))) 1 f26) 1 2 = 0 := h226.trans hc25
        refine xcall (sp_wouldBe0 (va_up (va_up F25 1 (upd (F25 1) (Int32.toNatClampNeg 3) (F25 1 (Int32.toNatClampNeg 3) - 1))) 1 f26) VM0 (by exact hc26) _ _ fun F27 h27 => ?_)
        have hc27 : (va_up F27 1 (upd (F27 1) (Int32.toNatClampNeg 3) (F27 1 (Int32.toNatClampNeg 3) - 1))) 1 2 = 0 := by show upd (F27 1) (Int32.toNatClampNeg 3) (F27 1 (Int32.toNatClampNeg 3) - 1) 2 = 0; rw [show Int32.toNatClampNeg 3 = 3 by decide, pk_un (by decide)]; exact (h27 2 (by decide)).trans hc26
        have h327 : (va_up F27 1 (upd (F27 1) (Int32.toNatClampNeg 3) (F27 1 (Int32.toNatClampNeg 3) - 1))) 1 3 = 0 := by show upd (F27 1) (Int32.toNatClampNeg 3) (F27 1 (Int32.toNatClampNeg 3) - 1) 3 = 0; rw [show Int32.toNatClampNeg 3 = 3 by decide, pk_us, show F27 1 3 = 1 from (h27 3 (by decide)).trans h326]; decide
        refine xcall (sp_bits0 ?_)
        refine ⟨vin (by decide), ?_⟩
        refine ⟨vin (by decide), ?_⟩
        refine br_c (fun _ => ?_) (fun z => absurd (by first | decide | rfl) z)
        refine br_c (fun _ => ?_) (fun z => absurd (by first | decide | rfl) z)
        refine br_c (fun _ => ?_) (fun z => absurd (by first | decide | rfl) z)
        refine br_n (fun a28 => ?_) (fun a28 => ?_)
        · exact xgenK (w0 := wM0 0) (K := K) (fun F v => by have q := h F v; unfold an_lay at q; rw [if_pos (show xin a 6 ∧ xin b 10 ∧ xin c 2 by simp only [xin, xlt, xle, xeq, Int32.reduceToInt] at a1 a2 a3 a28 ⊢; omega)] at q; exact q) rfl
        · exact xgenK (w0 := wM0 0) (K := K) (fun F v => by have q := h F v; unfold an_lay at q; rw [if_pos (show xin a 6 ∧ xin b 10 ∧ xin c 2 by simp only [xin, xlt, xle, xeq, Int32.reduceToInt] at a1 a2 a3 a28 ⊢; omega)] at q; exact q) rfl

set_option maxRecDepth 100000 in
theorem fm_called (a b : Int32) {K : xKo} (h : ∀ F v, K (some (.int (an_called a b))) (xfill F v 0 (wM0 0))) : C_M_called [.ref 0, .int a, .int b] (wM0 0) K := by
  by_cases ha : a = 0
  · subst ha
    refine fm_called1 b fun F v => ?_
    have q := h F v
    unfold an_called at q
    by_cases hb : xin b 10
    · rw [if_pos ⟨by decide, hb⟩] at q; rw [if_pos hb]; exact q
    · rw [if_neg (fun z => hb z.2)] at q; rw [if_neg hb]; exact q
  · refine xM_go rfl 40 [] fun P hP => ?_
    refine ⟨vin (by decide), ?_⟩
    refine xcall (sp_in _ _ _ (fun a1 => ?_) (fun a1 => ?_))
    · refine br_c (fun _ => ?_) (fun z => absurd rfl z)
      refine xcall (sp_errs rfl (-1000000001) (by decide) fun F v => ?_)
      exact xgenK (w0 := wM0 0) (K := K) (fun F v => by have q := h F v; unfold an_called at q; rw [if_neg (fun z => ha (by have := z.1; simp only [xin, xeq, Int32.reduceToInt] at this ⊢; omega))] at q; exact q) rfl
    · exfalso
      replace a1 : (0 : Int32).toInt ≤ a.toInt ∧ a.toInt ≤ (0 : Int32).toInt := a1
      exact ha (by simp only [xeq, Int32.reduceToInt] at a1 ⊢; omega)
set_option maxRecDepth 100000 in
theorem fm_text01 (u : Nat) (hu : u = 0 ∨ u = 1) {K : xKo} (h : ∀ F v, K (some (.int (-10))) (xfill F v 0 (wM0 0))) : C_M_text [.ref 0, .int (nI u)] (wM0 0) K := by
  have n4 : Int32.toNatClampNeg 4 = 4 := by decide
  have hu6 : ((6 : Int32) + nI u) = nI (6 + u) := by rw [show (6 : Int32) = nI 6 from rfl, nI_add]
  have key : ∀ (F : Nat → Nat → Int32) (d k : Nat) (f : Nat → Int32), k + d = 50 → f 4 = 0 → xWP pg_M_text K 30 [(0, .ref 0), (1, .int (nI u)), (2, .int (nI k))] [] (xfill (va_up F 1 f) VM0 0 (wM0 0)) (0, 0) := by
    intro F d
    induction d with
    | zero =>
      intro k f hk hv
      have hk : k = 50 := hk
      subst hk
      refine xWP_go 100 [(30, [0, 1, 2])] fun P hP => ?_
      refine br_c (fun e => ?_) (fun e => absurd (by decide) e)
      refine ⟨vin (by decide), ?_⟩
      refine ⟨by show vp_in ((6 : Int32) + nI u) 230; rw [hu6]; exact vp_in_nI (by omega) (by omega), ?_⟩
      refine xcall (sp_walks0 (va_up (va_up F 1 f) 1 (upd f ((6 : Int32) + nI u).toNatClampNeg (f (Int32.toNatClampNeg 4)))) VM0 (nI u) (by rw [hu6, nI_toInt (by omega)]; omega) (by show upd f _ _ _ = 0; rw [pk_us]; exact hv) fun v g1 g2 => ?_)
      refine br_c (fun _ => ?_) (fun z => absurd g1 z)
      refine br_n (fun z => absurd rfl z) (fun _ => ?_)
      refine xcall (sp_moveAll_4_1 (va_up (va_up F 1 f) 1 (upd f ((6 : Int32) + nI u).toNatClampNeg (f (Int32.toNatClampNeg 4)))) v fun g _ _ => ?_)
      refine ⟨vin (by decide), ?_⟩
      refine br_c (fun _ => ?_) (fun z => absurd rfl z)
      have e9 : -10 - v 0 8 = -10 := by rw [g2]; decide
      refine xgenK (w0 := wM0 0) (K := K) (r := some (.int (-10 - v 0 8))) (fun F v => ?_) rfl
      rw [e9]
      exact h F v
    | succ d ih =>
      intro k f hk hv
      have e60 : ((60 : Int32) + nI k) = nI (60 + k) := by rw [show (60 : Int32) = nI 60 from rfl, nI_add]
      have e130 : ((130 : Int32) + 50 * nI u + nI k) = nI (130 + 50 * u + k) := by rw [show (130 : Int32) = nI 130 from rfl, show (50 : Int32) = nI 50 from rfl, pk_mul, nI_add, nI_add]
      refine xWP_go 100 [(30, [0, 1, 2])] fun P hP => ?_
      refine br_c (fun e => absurd e (nI_ge (b := 50) (by omega) (by omega))) (fun e => ?_)
      refine ⟨by show vp_in (60 + nI k) 230; rw [e60]; exact vp_in_nI (by omega) (by omega), ?_⟩
      refine ⟨by show vp_in (130 + 50 * nI u + nI k) 230; rw [e130]; exact vp_in_nI (by omega) (by omega), ?_⟩
      refine hP _ _ _ _ _ ?_
      rw [nI_1]
      refine ih (k + 1) (upd f ((130 : Int32) + 50 * nI u + nI k).toNatClampNeg (f ((60 : Int32) + nI k).toNatClampNeg)) (by omega) ?_
      rw [e130, nI_clamp (by omega), pk_un (by omega)]
      exact hv
  refine xM_go rfl 100 [(30, [0, 1, 2])] fun P hP => ?_
  refine xcall (sp_in _ _ _ (fun a1 => ?_) (fun a1 => ?_))
  · exfalso
    refine a1 ?_
    rw [nI_toInt (by omega)]
    simp only [Int32.reduceToInt]
    omega
  · refine br_n (fun _ => ?_) (fun z => absurd z (by decide))
    refine xcall (sp_moveAll_1_4 FM0 VM0 fun g g1 g2 => ?_)
    refine hP _ _ _ _ _ ?_
    exact key (va_up FM0 4 g) 50 0 xrow0 rfl rfl
set_option maxRecDepth 100000 in
theorem fm_text (a : Int32) {K : xKo} (h : ∀ F v, K (some (.int (an_text a))) (xfill F v 0 (wM0 0))) : C_M_text [.ref 0, .int a] (wM0 0) K := by
  by_cases ha : xin a 2
  · obtain ⟨j, hj, rfl⟩ : ∃ j : Nat, j ≤ 1 ∧ a = nI j := nI_of2 (M := 1) (n := 1) rfl (by simp only [xlt, Int32.reduceToInt]; omega) (by simp only [xle, Int32.reduceToInt]; omega)
    refine fm_text01 j (by omega) fun F v => ?_
    have q := h F v
    unfold an_text at q
    rw [if_pos ha] at q
    exact q
  · refine xM_go rfl 100 [] fun P hP => ?_
    refine xcall (sp_in _ _ _ (fun a1 => ?_) (fun a1 => ?_))
    · refine br_n (fun z => absurd rfl z) (fun _ => ?_)
      refine xcall (sp_errs rfl (-1000000001) (by decide) fun F v => ?_)
      exact xgenK (w0 := wM0 0) (K := K) (fun F v => by have q := h F v; unfold an_text at q; rw [if_neg ha] at q; exact q) rfl
    · exfalso
      exact ha (by simp only [xin, Int32.reduceToInt] at a1 ⊢; omega)
set_option maxRecDepth 100000 in
set_option maxHeartbeats 1000000 in
theorem fm_sheet (a b c : Int32) {K : xKo} (h : ∀ F v, K (some (.int (an_sheet a b c))) (xfill F v 0 (wM0 0))) : C_M_sheet [.ref 0, .int a, .int b, .int c] (wM0 0) K := by
  have key : (∀ F v, K (some (.int 1)) (xfill F v 0 (wM0 0))) → ∀ (u : Nat), u < 4 → ∀ (d k : Nat) (F : Nat → Nat → Int32), k + d = 40 → xWP pg_M_sheet K 93 [(0, .ref 0), (1, .int (nI u)), (4, .int (nI k))] [] (xfill F VM0 0 (wM0 0)) (0, 0) := by
    intro h u hu d
    induction d with
    | zero =>
      intro k F hk
      have hk : k = 40 := hk
      subst hk
      refine xWP_go 100 [(93, [0, 1, 4])] fun P hP => ?_
      refine br_c (fun e => ?_) (fun e => absurd (by decide) e)
      exact h F VM0
    | succ d ih =>
      intro k F hk
      have e40 : ((40 : Int32) * nI u + nI k) = nI (40 * u + k) := by rw [show (40 : Int32) = nI 40 from rfl, pk_mul, nI_add]
      refine xWP_go 100 [(93, [0, 1, 4])] fun P hP => ?_
      refine br_c (fun e => absurd e (nI_ge (b := 40) (by omega) (by omega))) (fun e => ?_)
      refine ⟨by show vp_in (40 * nI u + nI k) 160; rw [e40]; exact vp_in_nI (by omega) (by omega), ?_⟩
      refine hP _ _ _ _ _ ?_
      rw [nI_1]
      exact ih (k + 1) (va_up F 8 _) (by omega)
  have bad : (¬ xin a 4 ∨ (¬ b = 0 ∧ ¬ b = 8 ∧ ¬ b = 16 ∧ ¬ b = 32) ∨ (¬ b = 0 ∧ 40 < c.toInt)) → ∀ F v, K (some (.int (-1000000001))) (xfill F v 0 (wM0 0)) := by
    intro z F v
    have q := h F v
    unfold an_sheet at q
    rw [if_neg (by simp only [xeq] at *; omega), if_neg (by simp only [xeq, Int32.reduceToInt] at *; omega), if_neg (by simp only [xeq, Int32.reduceToInt] at *; omega)] at q
    exact q
  have go : xin a 4 → (b = 0 ∨ ((b = 8 ∨ b = 16 ∨ b = 32) ∧ 0 ≤ c.toInt ∧ c.toInt ≤ 40)) → ∀ F v, K (some (.int 1)) (xfill F v 0 (wM0 0)) := by
    intro z1 z2 F v
    have q := h F v
    unfold an_sheet at q
    by_cases hb : b = 0
    · rw [if_pos ⟨z1, hb⟩] at q
      exact q
    · rw [if_neg (fun y => hb y.2), if_neg (by simp only [xeq] at *; omega), if_pos ⟨z1, by simp only [xeq, Int32.reduceToInt] at *; omega⟩] at q
      exact q
  have fin : xin a 4 → (b = 0 ∨ ((b = 8 ∨ b = 16 ∨ b = 32) ∧ 0 ≤ c.toInt ∧ c.toInt ≤ 40)) → ∃ u : Nat, u < 4 ∧ a = nI u := by
    intro z1 _
    obtain ⟨j, hj, e⟩ : ∃ j : Nat, j ≤ 3 ∧ a = nI j := nI_of2 (M := 3) (n := 3) rfl (by simp only [xlt, Int32.reduceToInt]; omega) (by simp only [xle, Int32.reduceToInt]; omega)
    exact ⟨j, by omega, e⟩
  refine xM_go rfl 100 [(93, [0, 1, 4])] fun P hP => ?_
  refine xcall (sp_isSheet _ (fun a1 => ?_) (fun a1 => ?_))
  · refine br_c (fun _ => ?_) (fun z => absurd rfl z)
    refine xcall (sp_errs rfl (-1000000001) (by decide) fun F v => ?_)
    exact xgenK (bad (Or.inl a1)) rfl
  · refine br_c (fun z => absurd z (by decide)) (fun _ => ?_)
    refine br_c (fun b0 => ?_) (fun b0 => ?_)
    · refine br_c (fun _ => ?_) (fun z => absurd b0 z)
      refine br_c (fun _ => ?_) (fun z => absurd b0 z)
      obtain ⟨u, hu, rfl⟩ := fin a1 (Or.inl b0)
      refine ⟨vp_in_nI (by omega) (by omega), ?_⟩
      refine br_n (fun z => absurd b0 z) (fun _ => ?_)
      refine ⟨vp_in_nI (by omega) (by omega), ?_⟩
      refine hP _ _ _ _ _ ?_
      exact key (go a1 (Or.inl b0)) u hu 40 0 (va_up (va_up FM0 6 _) 7 _) rfl
    · skip
      refine br_c (fun b8 => ?_) (fun b8 => ?_)
      · have hb : b = 8 ∨ b = 16 ∨ b = 32 := Or.inl b8
        refine br_c (fun z => absurd z b0) (fun _ => ?_)
        refine br_c (fun c0 => ?_) (fun c0 => ?_)
        · refine br_c (fun z => absurd z b0) (fun _ => ?_)
          refine br_c (fun c1 => ?_) (fun c1 => ?_)
          · have hg : b = 0 ∨ ((b = 8 ∨ b = 16 ∨ b = 32) ∧ 0 ≤ c.toInt ∧ c.toInt ≤ 40) := Or.inr ⟨hb, by simp only [xle, Int32.reduceToInt] at c0 c1; omega⟩
            obtain ⟨u, hu, rfl⟩ := fin a1 hg
            refine ⟨vp_in_nI (by omega) (by omega), ?_⟩
            refine br_n (fun _ => ?_) (fun z => absurd z b0)
            refine ⟨vp_in_nI (by omega) (by omega), ?_⟩
            refine hP _ _ _ _ _ ?_
            exact key (go a1 hg) u hu 40 0 (va_up (va_up FM0 6 _) 7 _) rfl
          · refine xcall (sp_errs rfl (-1000000001) (by decide) fun F v => ?_)
            exact xgenK (bad (Or.inr (Or.inr ⟨b0, by simp only [xle, Int32.reduceToInt] at c1; omega⟩))) rfl
        · refine xcall (sp_errs rfl (-1000000003) (by decide) fun F v => ?_)
          have hg : ∀ F v, K (some (.int (-1000000003))) (xfill F v 0 (wM0 0)) := by
            intro F v
            have q := h F v
            unfold an_sheet at q
            rw [if_neg (fun y => b0 y.2), if_pos ⟨a1, hb, by simp only [xle, Int32.reduceToInt] at c0; omega⟩] at q
            exact q
          exact xgenK hg rfl
      refine br_c (fun b16 => ?_) (fun b16 => ?_)
      · have hb : b = 8 ∨ b = 16 ∨ b = 32 := Or.inr (Or.inl b16)
        refine br_c (fun z => absurd z b0) (fun _ => ?_)
        refine br_c (fun c0 => ?_) (fun c0 => ?_)
        · refine br_c (fun z => absurd z b0) (fun _ => ?_)
          refine br_c (fun c1 => ?_) (fun c1 => ?_)
          · have hg : b = 0 ∨ ((b = 8 ∨ b = 16 ∨ b = 32) ∧ 0 ≤ c.toInt ∧ c.toInt ≤ 40) := Or.inr ⟨hb, by simp only [xle, Int32.reduceToInt] at c0 c1; omega⟩
            obtain ⟨u, hu, rfl⟩ := fin a1 hg
            refine ⟨vp_in_nI (by omega) (by omega), ?_⟩
            refine br_n (fun _ => ?_) (fun z => absurd z b0)
            refine ⟨vp_in_nI (by omega) (by omega), ?_⟩
            refine hP _ _ _ _ _ ?_
            exact key (go a1 hg) u hu 40 0 (va_up (va_up FM0 6 _) 7 _) rfl
          · refine xcall (sp_errs rfl (-1000000001) (by decide) fun F v => ?_)
            exact xgenK (bad (Or.inr (Or.inr ⟨b0, by simp only [xle, Int32.reduceToInt] at c1; omega⟩))) rfl
        · refine xcall (sp_errs rfl (-1000000003) (by decide) fun F v => ?_)
          have hg : ∀ F v, K (some (.int (-1000000003))) (xfill F v 0 (wM0 0)) := by
            intro F v
            have q := h F v
            unfold an_sheet at q
            rw [if_neg (fun y => b0 y.2), if_pos ⟨a1, hb, by simp only [xle, Int32.reduceToInt] at c0; omega⟩] at q
            exact q
          exact xgenK hg rfl
      refine br_c (fun b32 => ?_) (fun b32 => ?_)
      · have hb : b = 8 ∨ b = 16 ∨ b = 32 := Or.inr (Or.inr b32)
        refine br_c (fun z => absurd z b0) (fun _ => ?_)
        refine br_c (fun c0 => ?_) (fun c0 => ?_)
        · refine br_c (fun z => absurd z b0) (fun _ => ?_)
          refine br_c (fun c1 => ?_) (fun c1 => ?_)
          · have hg : b = 0 ∨ ((b = 8 ∨ b = 16 ∨ b = 32) ∧ 0 ≤ c.toInt ∧ c.toInt ≤ 40) := Or.inr ⟨hb, by simp only [xle, Int32.reduceToInt] at c0 c1; omega⟩
            obtain ⟨u, hu, rfl⟩ := fin a1 hg
            refine ⟨vp_in_nI (by omega) (by omega), ?_⟩
            refine br_n (fun _ => ?_) (fun z => absurd z b0)
            refine ⟨vp_in_nI (by omega) (by omega), ?_⟩
            refine hP _ _ _ _ _ ?_
            exact key (go a1 hg) u hu 40 0 (va_up (va_up FM0 6 _) 7 _) rfl
          · refine xcall (sp_errs rfl (-1000000001) (by decide) fun F v => ?_)
            exact xgenK (bad (Or.inr (Or.inr ⟨b0, by simp only [xle, Int32.reduceToInt] at c1; omega⟩))) rfl
        · refine xcall (sp_errs rfl (-1000000003) (by decide) fun F v => ?_)
          have hg : ∀ F v, K (some (.int (-1000000003))) (xfill F v 0 (wM0 0)) := by
            intro F v
            have q := h F v
            unfold an_sheet at q
            rw [if_neg (fun y => b0 y.2), if_pos ⟨a1, hb, by simp only [xle, Int32.reduceToInt] at c0; omega⟩] at q
            exact q
          exact xgenK hg rfl
      refine xcall (sp_errs rfl (-1000000001) (by decide) fun F v => ?_)
      exact xgenK (bad (Or.inr (Or.inl ⟨b0, b8, b16, b32⟩))) rfl

