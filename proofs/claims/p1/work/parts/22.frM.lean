/-! ===== the reference: small members, and one call each on a new object ===== -/
abbrev FM0 : Nat → Nat → Int32 := xarrs (wM0 0)
abbrev VM0 : Nat → Nat → Int32 := fun _ _ => 0
theorem sp_isMark (v : Int32) {K : xKo} (h0 : ¬ xin v 6 → K (some (.int 0)) []) (h1 : xin v 6 → K (some (.int 1)) []) : C_M_isMark [.int v] [] K := by
  refine xM_go rfl 40 [] fun P hP => ?_
  refine xcall (sp_in v 0 5 (fun a => ?_) (fun a => ?_))
  · exact ⟨Or.inl rfl, h0 (by simp only [xin, Int32.reduceToInt] at a ⊢; omega)⟩
  · exact ⟨Or.inr rfl, h1 (by simp only [xin, Int32.reduceToInt] at a ⊢; omega)⟩
theorem sp_areSteps (v : Int32) {K : xKo} (h0 : ¬ xin v 10 → K (some (.int 0)) []) (h1 : xin v 10 → K (some (.int 1)) []) : C_M_areSteps [.int v] [] K := by
  refine xM_go rfl 40 [] fun P hP => ?_
  refine xcall (sp_in v 0 9 (fun a => ?_) (fun a => ?_))
  · exact ⟨Or.inl rfl, h0 (by simp only [xin, Int32.reduceToInt] at a ⊢; omega)⟩
  · exact ⟨Or.inr rfl, h1 (by simp only [xin, Int32.reduceToInt] at a ⊢; omega)⟩
theorem sp_isSheet (v : Int32) {K : xKo} (h0 : ¬ xin v 4 → K (some (.int 0)) []) (h1 : xin v 4 → K (some (.int 1)) []) : C_M_isSheet [.int v] [] K := by
  refine xM_go rfl 40 [] fun P hP => ?_
  refine xcall (sp_in v 0 3 (fun a => ?_) (fun a => ?_))
  · exact ⟨Or.inl rfl, h0 (by simp only [xin, Int32.reduceToInt] at a ⊢; omega)⟩
  · exact ⟨Or.inr rfl, h1 (by simp only [xin, Int32.reduceToInt] at a ⊢; omega)⟩
theorem sp_bits0 {K : xKo} (h : K (some (.int 0)) []) : C_M_bits [.int 0] [] K := by
  refine xM_go rfl 60 [] fun P hP => ?_
  refine br_c (fun _ => ?_) (fun z => absurd (by decide) z)
  exact h
theorem sp_errs {w : xW} (hw : xsame (wM0 0) w = true) (e : Int32) (he : 0 ≤ (-1000000000 - e).toInt ∧ (-1000000000 - e).toInt < 6) {K : xKo} (h : ∀ F v, K (some (.int e)) (xfill F v 0 (wM0 0))) : C_M_errs [.ref 0, .int e] w K := by
  obtain ⟨F, v, rfl⟩ := xshape hw
  refine xM_go rfl 40 [] fun P hP => ?_
  refine ⟨vin he, ?_⟩
  refine ⟨vin he, ?_⟩
  exact xgenK h rfl
theorem sp_isThing0 (c : Int32) {K : xKo} (h : K (some (.int 0)) (wM0 0)) : C_M_isThing [.ref 0, .int c] (wM0 0) K := by
  refine xM_go rfl 40 [] fun P hP => ?_
  refine ⟨vin (by decide), ?_⟩
  refine xcall (sp_in _ _ _ (fun a => ?_) (fun a => ?_))
  · exact ⟨Or.inl rfl, h⟩
  · exfalso
    have a : (0 : Int32).toInt ≤ c.toInt ∧ c.toInt ≤ (-1 : Int32).toInt := a
    simp only [Int32.reduceToInt] at a
    omega
theorem sp_isChildM0 (c : Int32) {K : xKo} (h : K (some (.int 0)) (wM0 0)) : C_M_isChild [.ref 0, .int c] (wM0 0) K := by
  refine xM_go rfl 40 [] fun P hP => ?_
  refine ⟨vin (by decide), ?_⟩
  refine xcall (sp_in _ _ _ (fun a => ?_) (fun a => ?_))
  · exact ⟨Or.inl rfl, h⟩
  · exfalso
    have a : (0 : Int32).toInt ≤ c.toInt ∧ c.toInt ≤ (-1 : Int32).toInt := a
    simp only [Int32.reduceToInt] at a
    omega
theorem sp_gets {w : xW} (hw : xsame (wM0 0) w = true) (c k x : Int32) (hb : 0 ≤ (25 + 5 * c + k).toInt ∧ (25 + 5 * c + k).toInt < 230) {K : xKo} (h : ∀ F v, K none (xfill F v 0 (wM0 0))) : C_M_gets [.ref 0, .int c, .int k, .int x] w K := by
  obtain ⟨F, v, rfl⟩ := xshape hw
  refine xM_go rfl 40 [] fun P hP => ?_
  refine ⟨vin hb, ?_⟩
  exact xgenK h rfl
theorem sp_becomes0 (x : Int32) {K : xKo} (h : ∀ F v, K (some (.int (-1))) (xfill F v 0 (wM0 0))) : C_M_becomes [.ref 0, .int 8, .int x] (wM0 0) K := by
  refine xM_go rfl 40 [] fun P hP => ?_
  refine ⟨vin (by decide), ?_⟩
  refine ⟨vin (by decide), ?_⟩
  exact xgenK h rfl
theorem sp_adds (F v : Nat → Nat → Int32) (h3 : F 1 3 = 0) (c m : Int32) {K : xKo} (h : ∀ f : Nat → Int32, f 2 = F 1 2 → f 3 = 1 → K none (xfill (va_up F 1 f) v 0 (wM0 0))) : C_M_adds [.ref 0, .int c, .int m] (xfill F v 0 (wM0 0)) K := by
  have e0 : (F 1) (Int32.toNatClampNeg 3) = 0 := h3
  refine xM_go rfl 60 [] fun P hP => ?_
  refine ⟨vin (by decide), ?_⟩
  refine ⟨by rw [e0]; exact vin (by decide), ?_⟩
  have e1 : upd (F 1) (9 + 2 * F 1 (Int32.toNatClampNeg 3)).toNatClampNeg c (Int32.toNatClampNeg 3) = 0 := by
    rw [e0]
    show upd (F 1) 9 c 3 = 0
    rw [pk_un (by decide)]
    exact h3
  refine ⟨vin (by decide), ?_⟩
  refine ⟨by rw [e1]; exact vin (by decide), ?_⟩
  refine ⟨vin (by decide), ?_⟩
  refine ⟨vin (by decide), ?_⟩
  have n3 : Int32.toNatClampNeg 3 = 3 := by decide
  have n9 : ((9 : Int32) + 2 * 0).toNatClampNeg = 9 := by decide
  have n10 : ((9 : Int32) + 2 * 0 + 1).toNatClampNeg = 10 := by decide
  refine h (upd (upd (upd (F 1) (9 + 2 * F 1 (Int32.toNatClampNeg 3)).toNatClampNeg c) (9 + 2 * upd (F 1) (9 + 2 * F 1 (Int32.toNatClampNeg 3)).toNatClampNeg c (Int32.toNatClampNeg 3) + 1).toNatClampNeg m) (Int32.toNatClampNeg 3) (upd (upd (F 1) (9 + 2 * F 1 (Int32.toNatClampNeg 3)).toNatClampNeg c) (9 + 2 * upd (F 1) (9 + 2 * F 1 (Int32.toNatClampNeg 3)).toNatClampNeg c (Int32.toNatClampNeg 3) + 1).toNatClampNeg m (Int32.toNatClampNeg 3) + 1)) ?_ ?_
  · rw [e1, e0, n9, n10, n3, pk_un (by decide), pk_un (by decide), pk_un (by decide)]
  · rw [e1, e0, n9, n10, n3, pk_us, pk_un (by decide), pk_un (by decide), h3]
    decide
theorem sp_calls0 (F v : Nat → Nat → Int32) (hc : F 1 2 = 0) (b t : Int32) {K : xKo} (h : ∀ f : Nat → Int32, f 2 = F 1 2 → f 3 = F 1 3 → K (some (.int 0)) (xfill (va_up F 1 f) v 0 (wM0 0))) : C_M_calls [.ref 0, .int b, .int t] (xfill F v 0 (wM0 0)) K := by
  have e : F 1 (Int32.toNatClampNeg 2) = 0 := hc
  refine xM_go rfl 100 [] fun P hP => ?_
  refine ⟨vin (by decide), ?_⟩
  refine br_c (fun _ => ?_) (fun z => absurd (show F 1 (Int32.toNatClampNeg 2) ≤ 0 by rw [e]; decide) z)
  refine ⟨vin (by decide), ?_⟩
  refine br_c (fun _ => ?_) (fun z => absurd (show F 1 (Int32.toNatClampNeg 2) ≤ 0 by rw [e]; decide) z)
  refine ⟨vin (by decide), ?_⟩
  refine br_c (fun _ => ?_) (fun z => absurd (show F 1 (Int32.toNatClampNeg 2) - 1 < 0 by rw [e]; decide) z)
  refine ⟨vin (by decide), ?_⟩
  refine ⟨vin (by decide), ?_⟩
  refine ⟨vin (by decide), ?_⟩
  have n8 : Int32.toNatClampNeg 8 = 8 := by decide
  have n0 : Int32.toNatClampNeg 0 = 0 := by decide
  refine h (upd (upd (F 1) (Int32.toNatClampNeg 8) (-1)) (Int32.toNatClampNeg 0) (upd (F 1) (Int32.toNatClampNeg 8) (-1) (Int32.toNatClampNeg 0) + 1)) ?_ ?_
  · rw [n8, n0, pk_un (by decide), pk_un (by decide)]
  · rw [n8, n0, pk_un (by decide), pk_un (by decide)]
theorem sp_sumOf0 (k : Int32) {K : xKo} (h : K (some (.int 0)) (wM0 0)) : C_M_sumOf [.ref 0, .int k] (wM0 0) K := by
  refine xM_go rfl 40 [] fun P hP => ?_
  refine ⟨vin (by decide), ?_⟩
  refine br_c (fun _ => ?_) (fun z => absurd (by decide) z)
  exact h
theorem sp_lawOf0 (u a b c : Int32) (hu : 0 ≤ u.toInt ∧ u.toInt ≤ 1) {K : xKo} (h : K (some (.int 1)) (wM0 0)) : C_M_lawOf [.ref 0, .int u, .int a, .int b, .int c] (wM0 0) K := by
  have h2 : u = 0 ∨ u = 1 := by simp only [xeq, Int32.reduceToInt]; omega
  rcases h2 with rfl | rfl
  · refine xM_go rfl 40 [] fun P hP => ?_
    refine ⟨vin (by decide), ?_⟩
    refine br_c (fun z => absurd z (by decide)) (fun _ => ?_)
    exact h
  · refine xM_go rfl 40 [] fun P hP => ?_
    refine ⟨vin (by decide), ?_⟩
    refine br_c (fun z => absurd z (by decide)) (fun _ => ?_)
    exact h

theorem sp_moveAll_1_3 (F : Nat → Nat → Int32) (v : Nat → Nat → Int32) {K : xKo} (h : ∀ g : Nat → Int32, (∀ x, x < 230 → g x = F 1 x) → (∀ x, 230 ≤ x → g x = F 3 x) → K none (xfill (va_up F 3 g) v 0 (wM0 0))) : C_M_moveAll [.ref 0, .ref 1, .ref 3] (xfill F v 0 (wM0 0)) K := by
  have key : ∀ (d k : Nat) (g : Nat → Int32), k + d = 230 → (∀ x, x < k → g x = F 1 x) → (∀ x, k ≤ x → g x = F 3 x) → xWP pg_M_moveAll K 2 [(0, .ref 0), (1, .ref 1), (2, .ref 3), (3, .int (nI k))] [] (xfill (va_up F 3 g) v 0 (wM0 0)) (0, 0) := by
    intro d
    induction d with
    | zero =>
      intro k g hk h1 h2
      have hk : k = 230 := hk
      subst hk
      refine xWP_go 30 [(2, [0, 1, 2, 3])] fun P hP => ?_
      refine br_c (fun e => ?_) (fun e => absurd (by decide) e)
      exact h g h1 h2
    | succ d ih =>
      intro k g hk h1 h2
      have e1 : (nI k).toNatClampNeg = k := nI_clamp (by omega)
      refine xWP_go 30 [(2, [0, 1, 2, 3])] fun P hP => ?_
      refine br_c (fun e => absurd e (nI_ge (b := 230) (by omega) (by omega))) (fun e => ?_)
      refine ⟨vp_in_nI (by omega) (by omega), ?_⟩
      refine ⟨vp_in_nI (by omega) (by omega), ?_⟩
      refine hP _ _ _ _ _ ?_
      rw [e1, nI_1]
      refine ih (k + 1) (upd g k (F 1 k)) (by omega) (fun x hx => ?_) (fun x hx => ?_)
      · by_cases hxk : x = k
        · subst hxk; exact pk_us
        · rw [pk_un hxk]; exact h1 x (by omega)
      · rw [pk_un (by omega)]; exact h2 x (by omega)
  refine xM_go rfl 30 [(2, [0, 1, 2, 3])] fun P hP => ?_
  refine hP _ _ _ _ _ ?_
  exact key 230 0 (F 3) (Nat.zero_add _) (fun x hx => absurd hx (Nat.not_lt_zero x)) (fun x _ => rfl)
theorem sp_moveAll_3_1 (F : Nat → Nat → Int32) (v : Nat → Nat → Int32) {K : xKo} (h : ∀ g : Nat → Int32, (∀ x, x < 230 → g x = F 3 x) → (∀ x, 230 ≤ x → g x = F 1 x) → K none (xfill (va_up F 1 g) v 0 (wM0 0))) : C_M_moveAll [.ref 0, .ref 3, .ref 1] (xfill F v 0 (wM0 0)) K := by
  have key : ∀ (d k : Nat) (g : Nat → Int32), k + d = 230 → (∀ x, x < k → g x = F 3 x) → (∀ x, k ≤ x → g x = F 1 x) → xWP pg_M_moveAll K 2 [(0, .ref 0), (1, .ref 3), (2, .ref 1), (3, .int (nI k))] [] (xfill (va_up F 1 g) v 0 (wM0 0)) (0, 0) := by
    intro d
    induction d with
    | zero =>
      intro k g hk h1 h2
      have hk : k = 230 := hk
      subst hk
      refine xWP_go 30 [(2, [0, 1, 2, 3])] fun P hP => ?_
      refine br_c (fun e => ?_) (fun e => absurd (by decide) e)
      exact h g h1 h2
    | succ d ih =>
      intro k g hk h1 h2
      have e1 : (nI k).toNatClampNeg = k := nI_clamp (by omega)
      refine xWP_go 30 [(2, [0, 1, 2, 3])] fun P hP => ?_
      refine br_c (fun e => absurd e (nI_ge (b := 230) (by omega) (by omega))) (fun e => ?_)
      refine ⟨vp_in_nI (by omega) (by omega), ?_⟩
      refine ⟨vp_in_nI (by omega) (by omega), ?_⟩
      refine hP _ _ _ _ _ ?_
      rw [e1, nI_1]
      refine ih (k + 1) (upd g k (F 3 k)) (by omega) (fun x hx => ?_) (fun x hx => ?_)
      · by_cases hxk : x = k
        · subst hxk; exact pk_us
        · rw [pk_un hxk]; exact h1 x (by omega)
      · rw [pk_un (by omega)]; exact h2 x (by omega)
  refine xM_go rfl 30 [(2, [0, 1, 2, 3])] fun P hP => ?_
  refine hP _ _ _ _ _ ?_
  exact key 230 0 (F 1) (Nat.zero_add _) (fun x hx => absurd hx (Nat.not_lt_zero x)) (fun x _ => rfl)
theorem sp_moveAll_1_4 (F : Nat → Nat → Int32) (v : Nat → Nat → Int32) {K : xKo} (h : ∀ g : Nat → Int32, (∀ x, x < 230 → g x = F 1 x) → (∀ x, 230 ≤ x → g x = F 4 x) → K none (xfill (va_up F 4 g) v 0 (wM0 0))) : C_M_moveAll [.ref 0, .ref 1, .ref 4] (xfill F v 0 (wM0 0)) K := by
  have key : ∀ (d k : Nat) (g : Nat → Int32), k + d = 230 → (∀ x, x < k → g x = F 1 x) → (∀ x, k ≤ x → g x = F 4 x) → xWP pg_M_moveAll K 2 [(0, .ref 0), (1, .ref 1), (2, .ref 4), (3, .int (nI k))] [] (xfill (va_up F 4 g) v 0 (wM0 0)) (0, 0) := by
    intro d
    induction d with
    | zero =>
      intro k g hk h1 h2
      have hk : k = 230 := hk
      subst hk
      refine xWP_go 30 [(2, [0, 1, 2, 3])] fun P hP => ?_
      refine br_c (fun e => ?_) (fun e => absurd (by decide) e)
      exact h g h1 h2
    | succ d ih =>
      intro k g hk h1 h2
      have e1 : (nI k).toNatClampNeg = k := nI_clamp (by omega)
      refine xWP_go 30 [(2, [0, 1, 2, 3])] fun P hP => ?_
      refine br_c (fun e => absurd e (nI_ge (b := 230) (by omega) (by omega))) (fun e => ?_)
      refine ⟨vp_in_nI (by omega) (by omega), ?_⟩
      refine ⟨vp_in_nI (by omega) (by omega), ?_⟩
      refine hP _ _ _ _ _ ?_
      rw [e1, nI_1]
      refine ih (k + 1) (upd g k (F 1 k)) (by omega) (fun x hx => ?_) (fun x hx => ?_)
      · by_cases hxk : x = k
        · subst hxk; exact pk_us
        · rw [pk_un hxk]; exact h1 x (by omega)
      · rw [pk_un (by omega)]; exact h2 x (by omega)
  refine xM_go rfl 30 [(2, [0, 1, 2, 3])] fun P hP => ?_
  refine hP _ _ _ _ _ ?_
  exact key 230 0 (F 4) (Nat.zero_add _) (fun x hx => absurd hx (Nat.not_lt_zero x)) (fun x _ => rfl)
theorem sp_moveAll_4_1 (F : Nat → Nat → Int32) (v : Nat → Nat → Int32) {K : xKo} (h : ∀ g : Nat → Int32, (∀ x, x < 230 → g x = F 4 x) → (∀ x, 230 ≤ x → g x = F 1 x) → K none (xfill (va_up F 1 g) v 0 (wM0 0))) : C_M_moveAll [.ref 0, .ref 4, .ref 1] (xfill F v 0 (wM0 0)) K := by
  have key : ∀ (d k : Nat) (g : Nat → Int32), k + d = 230 → (∀ x, x < k → g x = F 4 x) → (∀ x, k ≤ x → g x = F 1 x) → xWP pg_M_moveAll K 2 [(0, .ref 0), (1, .ref 4), (2, .ref 1), (3, .int (nI k))] [] (xfill (va_up F 1 g) v 0 (wM0 0)) (0, 0) := by
    intro d
    induction d with
    | zero =>
      intro k g hk h1 h2
      have hk : k = 230 := hk
      subst hk
      refine xWP_go 30 [(2, [0, 1, 2, 3])] fun P hP => ?_
      refine br_c (fun e => ?_) (fun e => absurd (by decide) e)
      exact h g h1 h2
    | succ d ih =>
      intro k g hk h1 h2
      have e1 : (nI k).toNatClampNeg = k := nI_clamp (by omega)
      refine xWP_go 30 [(2, [0, 1, 2, 3])] fun P hP => ?_
      refine br_c (fun e => absurd e (nI_ge (b := 230) (by omega) (by omega))) (fun e => ?_)
      refine ⟨vp_in_nI (by omega) (by omega), ?_⟩
      refine ⟨vp_in_nI (by omega) (by omega), ?_⟩
      refine hP _ _ _ _ _ ?_
      rw [e1, nI_1]
      refine ih (k + 1) (upd g k (F 4 k)) (by omega) (fun x hx => ?_) (fun x hx => ?_)
      · by_cases hxk : x = k
        · subst hxk; exact pk_us
        · rw [pk_un hxk]; exact h1 x (by omega)
      · rw [pk_un (by omega)]; exact h2 x (by omega)
  refine xM_go rfl 30 [(2, [0, 1, 2, 3])] fun P hP => ?_
  refine hP _ _ _ _ _ ?_
  exact key 230 0 (F 1) (Nat.zero_add _) (fun x hx => absurd hx (Nat.not_lt_zero x)) (fun x _ => rfl)
theorem sp_moveAll_1_2 (F : Nat → Nat → Int32) (v : Nat → Nat → Int32) {K : xKo} (h : ∀ g : Nat → Int32, (∀ x, x < 230 → g x = F 1 x) → (∀ x, 230 ≤ x → g x = F 2 x) → K none (xfill (va_up F 2 g) v 0 (wM0 0))) : C_M_moveAll [.ref 0, .ref 1, .ref 2] (xfill F v 0 (wM0 0)) K := by
  have key : ∀ (d k : Nat) (g : Nat → Int32), k + d = 230 → (∀ x, x < k → g x = F 1 x) → (∀ x, k ≤ x → g x = F 2 x) → xWP pg_M_moveAll K 2 [(0, .ref 0), (1, .ref 1), (2, .ref 2), (3, .int (nI k))] [] (xfill (va_up F 2 g) v 0 (wM0 0)) (0, 0) := by
    intro d
    induction d with
    | zero =>
      intro k g hk h1 h2
      have hk : k = 230 := hk
      subst hk
      refine xWP_go 30 [(2, [0, 1, 2, 3])] fun P hP => ?_
      refine br_c (fun e => ?_) (fun e => absurd (by decide) e)
      exact h g h1 h2
    | succ d ih =>
      intro k g hk h1 h2
      have e1 : (nI k).toNatClampNeg = k := nI_clamp (by omega)
      refine xWP_go 30 [(2, [0, 1, 2, 3])] fun P hP => ?_
      refine br_c (fun e => absurd e (nI_ge (b := 230) (by omega) (by omega))) (fun e => ?_)
      refine ⟨vp_in_nI (by omega) (by omega), ?_⟩
      refine ⟨vp_in_nI (by omega) (by omega), ?_⟩
      refine hP _ _ _ _ _ ?_
      rw [e1, nI_1]
      refine ih (k + 1) (upd g k (F 1 k)) (by omega) (fun x hx => ?_) (fun x hx => ?_)
      · by_cases hxk : x = k
        · subst hxk; exact pk_us
        · rw [pk_un hxk]; exact h1 x (by omega)
      · rw [pk_un (by omega)]; exact h2 x (by omega)
  refine xM_go rfl 30 [(2, [0, 1, 2, 3])] fun P hP => ?_
  refine hP _ _ _ _ _ ?_
  exact key 230 0 (F 2) (Nat.zero_add _) (fun x hx => absurd hx (Nat.not_lt_zero x)) (fun x _ => rfl)
theorem sp_moveAll_2_1 (F : Nat → Nat → Int32) (v : Nat → Nat → Int32) {K : xKo} (h : ∀ g : Nat → Int32, (∀ x, x < 230 → g x = F 2 x) → (∀ x, 230 ≤ x → g x = F 1 x) → K none (xfill (va_up F 1 g) v 0 (wM0 0))) : C_M_moveAll [.ref 0, .ref 2, .ref 1] (xfill F v 0 (wM0 0)) K := by
  have key : ∀ (d k : Nat) (g : Nat → Int32), k + d = 230 → (∀ x, x < k → g x = F 2 x) → (∀ x, k ≤ x → g x = F 1 x) → xWP pg_M_moveAll K 2 [(0, .ref 0), (1, .ref 2), (2, .ref 1), (3, .int (nI k))] [] (xfill (va_up F 1 g) v 0 (wM0 0)) (0, 0) := by
    intro d
    induction d with
    | zero =>
      intro k g hk h1 h2
      have hk : k = 230 := hk
      subst hk
      refine xWP_go 30 [(2, [0, 1, 2, 3])] fun P hP => ?_
      refine br_c (fun e => ?_) (fun e => absurd (by decide) e)
      exact h g h1 h2
    | succ d ih =>
      intro k g hk h1 h2
      have e1 : (nI k).toNatClampNeg = k := nI_clamp (by omega)
      refine xWP_go 30 [(2, [0, 1, 2, 3])] fun P hP => ?_
      refine br_c (fun e => absurd e (nI_ge (b := 230) (by omega) (by omega))) (fun e => ?_)
      refine ⟨vp_in_nI (by omega) (by omega), ?_⟩
      refine ⟨vp_in_nI (by omega) (by omega), ?_⟩
      refine hP _ _ _ _ _ ?_
      rw [e1, nI_1]
      refine ih (k + 1) (upd g k (F 2 k)) (by omega) (fun x hx => ?_) (fun x hx => ?_)
      · by_cases hxk : x = k
        · subst hxk; exact pk_us
        · rw [pk_un hxk]; exact h1 x (by omega)
      · rw [pk_un (by omega)]; exact h2 x (by omega)
  refine xM_go rfl 30 [(2, [0, 1, 2, 3])] fun P hP => ?_
  refine hP _ _ _ _ _ ?_
  exact key 230 0 (F 1) (Nat.zero_add _) (fun x hx => absurd hx (Nat.not_lt_zero x)) (fun x _ => rfl)

theorem sp_wouldBe0 (F v : Nat → Nat → Int32) (hc : F 1 2 = 0) (b t : Int32) {K : xKo} (h : ∀ F' : Nat → Nat → Int32, (∀ x, x < 230 → F' 1 x = F 1 x) → K (some (.int 0)) (xfill F' v 0 (wM0 0))) : C_M_wouldBe [.ref 0, .int b, .int t] (xfill F v 0 (wM0 0)) K := by
  refine xM_go rfl 60 [] fun P hP => ?_
  refine xcall (sp_moveAll_1_3 F v fun g g1 g2 => ?_)
  refine xcall (sp_calls0 (va_up F 3 g) v (by exact hc) _ _ fun f f2 f3 => ?_)
  refine xcall (sp_moveAll_3_1 (va_up (va_up F 3 g) 1 f) v fun g' k1 k2 => ?_)
  refine h _ ?_
  intro x hx
  exact (k1 x hx).trans (g1 x hx)
theorem sp_players0 (F v : Nat → Nat → Int32) (hc : F 1 2 = 0) (h8 : F 1 8 = -1) {K : xKo} (h : K (some (.int 0)) (xfill F v 0 (wM0 0))) : C_M_players [.ref 0] (xfill F v 0 (wM0 0)) K := by
  refine xM_go rfl 60 [] fun P hP => ?_
  refine ⟨vin (by decide), ?_⟩
  refine br_c (fun z => absurd (show (0 : Int32) ≤ F 1 8 from z) (by rw [h8]; decide)) (fun _ => ?_)
  refine ⟨vin (by decide), ?_⟩
  have e : F 1 (Int32.toNatClampNeg 2) = 0 := hc
  rw [← e] at h
  exact h

set_option maxRecDepth 100000 in
set_option maxHeartbeats 1000000 in
theorem fm_thing (a b : Int32) {K : xKo} (h : ∀ F v, K (some (.int (an_thing a b))) (xfill F v 0 (wM0 0))) : C_M_thing [.ref 0, .int a, .int b] (wM0 0) K := by
  refine xM_go rfl 30 [] fun P hP => ?_
  refine xcall (sp_isCell _ (fun a1 => ?_) (fun a1 => ?_))
  · refine br_c (fun _ => ?_) (fun z => absurd (by first | decide | rfl) z)
    refine xcall (sp_errs rfl (-1000000001) (by decide) fun F v => ?_)
    exact xgenK (w0 := wM0 0) (K := K) (fun F v => by have q := h F v; unfold an_thing at q; rw [if_neg (show ¬ (xin a 12 ∧ xin b 64) by simp only [xin, xlt, xle, xeq, Int32.reduceToInt] at a1 ⊢; omega)] at q; exact q) rfl
  · refine br_c (fun z => absurd z (by decide)) (fun _ => ?_)
    refine xcall (sp_in _ _ _ (fun a2 => ?_) (fun a2 => ?_))
    · refine br_n (fun z => absurd (by first | decide | rfl) z) (fun _ => ?_)
      refine xcall (sp_errs rfl (-1000000001) (by decide) fun F v => ?_)
      exact xgenK (w0 := wM0 0) (K := K) (fun F v => by have q := h F v; unfold an_thing at q; rw [if_neg (show ¬ (xin a 12 ∧ xin b 64) by simp only [xin, xlt, xle, xeq, Int32.reduceToInt] at a1 a2 ⊢; omega)] at q; exact q) rfl
    · refine br_n (fun _ => ?_) (fun z => absurd z (by decide))
      refine ⟨vin (by decide), ?_⟩
      refine br_n (fun _ => ?_) (fun z => absurd z (by decide))
      refine xcall (sp_adds FM0 VM0 rfl _ _ fun f f2 f3 => ?_)
      refine ⟨vin (by decide), ?_⟩
      have e9 : f (Int32.toNatClampNeg 3) - 1 = 0 := by rw [show f (Int32.toNatClampNeg 3) = 1 from f3]; decide
      refine xgenK (w0 := wM0 0) (K := K) (r := some (.int (f (Int32.toNatClampNeg 3) - 1))) (fun F v => ?_) rfl
      rw [e9]
      have q := h F v
      unfold an_thing at q
      rw [if_pos (show xin a 12 ∧ xin b 64 by simp only [xin, xlt, xle, xeq, Int32.reduceToInt] at a1 a2 ⊢; omega)] at q
      exact q
set_option maxRecDepth 100000 in
set_option maxHeartbeats 1000000 in
theorem fm_ofThing (a b : Int32) {K : xKo} (h : ∀ F v, K (some (.int (an_ofThing a b))) (xfill F v 0 (wM0 0))) : C_M_ofThing [.ref 0, .int a, .int b] (wM0 0) K := by
  refine xM_go rfl 13 [] fun P hP => ?_
  refine xcall (sp_isThing0 _ ?_)
  refine br_c (fun _ => ?_) (fun z => absurd (by first | decide | rfl) z)
  refine xcall (sp_errs rfl (-1000000001) (by decide) fun F v => ?_)
  exact xgenK h rfl
set_option maxRecDepth 100000 in
set_option maxHeartbeats 1000000 in
theorem fm_shift (a b c : Int32) {K : xKo} (h : ∀ F v, K (some (.int (an_shift a b c))) (xfill F v 0 (wM0 0))) : C_M_shift [.ref 0, .int a, .int b, .int c] (wM0 0) K := by
  refine xM_go rfl 26 [] fun P hP => ?_
  refine br_n (fun a1 => ?_) (fun a1 => ?_)
  · refine br_n (fun a2 => ?_) (fun a2 => ?_)
    · refine xcall (sp_isThing0 _ ?_)
      refine br_c (fun _ => ?_) (fun z => absurd (by first | decide | rfl) z)
      refine xcall (sp_errs rfl (-1000000001) (by decide) fun F v => ?_)
      exact xgenK h rfl
    · refine xcall (sp_in _ _ _ (fun a3 => ?_) (fun a3 => ?_))
      · refine br_c (fun _ => ?_) (fun z => absurd (by first | decide | rfl) z)
        refine xcall (sp_isThing0 _ ?_)
        refine br_c (fun _ => ?_) (fun z => absurd (by first | decide | rfl) z)
        refine xcall (sp_errs rfl (-1000000001) (by decide) fun F v => ?_)
        exact xgenK h rfl
      · refine br_c (fun z => absurd z (by decide)) (fun _ => ?_)
        refine xcall (sp_isThing0 _ ?_)
        refine br_c (fun _ => ?_) (fun z => absurd (by first | decide | rfl) z)
        refine xcall (sp_errs rfl (-1000000001) (by decide) fun F v => ?_)
        exact xgenK h rfl
  · refine xcall (sp_isCell _ (fun a4 => ?_) (fun a4 => ?_))
    · refine xcall (sp_isThing0 _ ?_)
      refine br_c (fun _ => ?_) (fun z => absurd (by first | decide | rfl) z)
      refine xcall (sp_errs rfl (-1000000001) (by decide) fun F v => ?_)
      exact xgenK h rfl
    · refine xcall (sp_isThing0 _ ?_)
      refine br_c (fun _ => ?_) (fun z => absurd (by first | decide | rfl) z)
      refine xcall (sp_errs rfl (-1000000001) (by decide) fun F v => ?_)
      exact xgenK h rfl
set_option maxRecDepth 100000 in
set_option maxHeartbeats 1000000 in
theorem fm_child (a b : Int32) {K : xKo} (h : ∀ F v, K (some (.int (an_child a b))) (xfill F v 0 (wM0 0))) : C_M_child [.ref 0, .int a, .int b] (wM0 0) K := by
  refine xM_go rfl 63 [] fun P hP => ?_
  refine xcall (sp_in _ _ _ (fun a1 => ?_) (fun a1 => ?_))
  · refine br_c (fun _ => ?_) (fun z => absurd (by first | decide | rfl) z)
    refine xcall (sp_errs rfl (-1000000001) (by decide) fun F v => ?_)
    exact xgenK (w0 := wM0 0) (K := K) (fun F v => by have q := h F v; unfold an_child at q; rw [if_neg (show ¬ (xin a 70 ∧ xin b 12) by simp only [xin, xlt, xle, xeq, Int32.reduceToInt] at a1 ⊢; omega)] at q; exact q) rfl
  · refine br_c (fun z => absurd z (by decide)) (fun _ => ?_)
    refine xcall (sp_isCell _ (fun a2 => ?_) (fun a2 => ?_))
    · refine br_n (fun z => absurd (by first | decide | rfl) z) (fun _ => ?_)
      refine xcall (sp_errs rfl (-1000000001) (by decide) fun F v => ?_)
      exact xgenK (w0 := wM0 0) (K := K) (fun F v => by have q := h F v; unfold an_child at q; rw [if_neg (show ¬ (xin a 70 ∧ xin b 12) by simp only [xin, xlt, xle, xeq, Int32.reduceToInt] at a1 a2 ⊢; omega)] at q; exact q) rfl
    · refine br_n (fun _ => ?_) (fun z => absurd z (by decide))
      refine ⟨vin (by decide), ?_⟩
      refine br_n (fun _ => ?_) (fun z => absurd z (by decide))
      refine ⟨vin (by decide), ?_⟩
      refine ⟨by decide, ?_⟩
      refine xcall (sp_gets rfl _ _ _ (by decide) fun F v => ?_)
      refine ⟨by decide, ?_⟩
      refine xcall (sp_gets rfl _ _ _ (by decide) fun F v => ?_)
      refine xcall (sp_gets rfl _ _ _ (by decide) fun F v => ?_)
      refine xcall (sp_gets rfl _ _ _ (by decide) fun F v => ?_)
      refine xcall (sp_gets rfl _ _ _ (by decide) fun F v => ?_)
      refine ⟨vin (by decide), ?_⟩
      refine ⟨vin (by decide), ?_⟩
      exact xgenK (w0 := wM0 0) (K := K) (fun F v => by have q := h F v; unfold an_child at q; rw [if_pos (show xin a 70 ∧ xin b 12 by simp only [xin, xlt, xle, xeq, Int32.reduceToInt] at a1 a2 ⊢; omega)] at q; exact q) rfl
set_option maxRecDepth 100000 in
set_option maxHeartbeats 1000000 in
theorem fm_ofChild (a b : Int32) {K : xKo} (h : ∀ F v, K (some (.int (an_ofChild a b))) (xfill F v 0 (wM0 0))) : C_M_ofChild [.ref 0, .int a, .int b] (wM0 0) K := by
  refine xM_go rfl 13 [] fun P hP => ?_
  refine xcall (sp_isChildM0 _ ?_)
  refine br_c (fun _ => ?_) (fun z => absurd (by first | decide | rfl) z)
  refine xcall (sp_errs rfl (-1000000001) (by decide) fun F v => ?_)
  exact xgenK h rfl
set_option maxRecDepth 100000 in
set_option maxHeartbeats 1000000 in
theorem fm_change (a b c : Int32) {K : xKo} (h : ∀ F v, K (some (.int (an_change a b c))) (xfill F v 0 (wM0 0))) : C_M_change [.ref 0, .int a, .int b, .int c] (wM0 0) K := by
  refine xM_go rfl 28 [] fun P hP => ?_
  refine br_n (fun a1 => ?_) (fun a1 => ?_)
  · refine xcall (sp_in _ _ _ (fun a2 => ?_) (fun a2 => ?_))
    · refine br_c (fun _ => ?_) (fun z => absurd (by first | decide | rfl) z)
      refine xcall (sp_isChildM0 _ ?_)
      refine br_c (fun _ => ?_) (fun z => absurd (by first | decide | rfl) z)
      refine xcall (sp_errs rfl (-1000000001) (by decide) fun F v => ?_)
      exact xgenK h rfl
    · refine br_c (fun z => absurd z (by decide)) (fun _ => ?_)
      refine xcall (sp_in _ _ _ (fun a3 => ?_) (fun a3 => ?_))
      · refine br_c (fun _ => ?_) (fun z => absurd (by first | decide | rfl) z)
        refine xcall (sp_isChildM0 _ ?_)
        refine br_c (fun _ => ?_) (fun z => absurd (by first | decide | rfl) z)
        refine xcall (sp_errs rfl (-1000000001) (by decide) fun F v => ?_)
        exact xgenK h rfl
      · refine br_c (fun z => absurd z (by decide)) (fun _ => ?_)
        refine xcall (sp_isChildM0 _ ?_)
        refine br_c (fun _ => ?_) (fun z => absurd (by first | decide | rfl) z)
        refine xcall (sp_errs rfl (-1000000001) (by decide) fun F v => ?_)
        exact xgenK h rfl
  · refine xcall (sp_isCell _ (fun a4 => ?_) (fun a4 => ?_))
    · refine xcall (sp_isChildM0 _ ?_)
      refine br_c (fun _ => ?_) (fun z => absurd (by first | decide | rfl) z)
      refine xcall (sp_errs rfl (-1000000001) (by decide) fun F v => ?_)
      exact xgenK h rfl
    · refine xcall (sp_isChildM0 _ ?_)
      refine br_c (fun _ => ?_) (fun z => absurd (by first | decide | rfl) z)
      refine xcall (sp_errs rfl (-1000000001) (by decide) fun F v => ?_)
      exact xgenK h rfl
set_option maxRecDepth 100000 in
set_option maxHeartbeats 1000000 in
theorem fm_it (a : Int32) {K : xKo} (h : ∀ F v, K (some (.int (an_it a))) (xfill F v 0 (wM0 0))) : C_M_it [.ref 0, .int a] (wM0 0) K := by
  refine xM_go rfl 16 [] fun P hP => ?_
  refine br_c (fun a1 => ?_) (fun a1 => ?_)
  · refine xcall (sp_becomes0 _ fun F v => ?_)
    exact xgenK (w0 := wM0 0) (K := K) (fun F v => by have q := h F v; unfold an_it at q; rw [if_pos (show a = -1 by simp only [xin, xlt, xle, xeq, Int32.reduceToInt] at a1 ⊢; omega)] at q; exact q) rfl
  · refine xcall (sp_isChildM0 _ ?_)
    refine br_c (fun _ => ?_) (fun z => absurd (by first | decide | rfl) z)
    refine xcall (sp_errs rfl (-1000000001) (by decide) fun F v => ?_)
    exact xgenK (w0 := wM0 0) (K := K) (fun F v => by have q := h F v; unfold an_it at q; rw [if_neg (show ¬ (a = -1) by simp only [xin, xlt, xle, xeq, Int32.reduceToInt] at a1 ⊢; omega)] at q; exact q) rfl
set_option maxRecDepth 100000 in
set_option maxHeartbeats 1000000 in
theorem fm_become (a b : Int32) {K : xKo} (h : ∀ F v, K (some (.int (an_become a b))) (xfill F v 0 (wM0 0))) : C_M_become [.ref 0, .int a, .int b] (wM0 0) K := by
  refine xM_go rfl 13 [] fun P hP => ?_
  refine xcall (sp_isChildM0 _ ?_)
  refine br_c (fun _ => ?_) (fun z => absurd (by first | decide | rfl) z)
  refine xcall (sp_errs rfl (-1000000001) (by decide) fun F v => ?_)
  exact xgenK h rfl
set_option maxRecDepth 100000 in
set_option maxHeartbeats 1000000 in
theorem fm_as (a b : Int32) {K : xKo} (h : ∀ F v, K (some (.int (an_as a b))) (xfill F v 0 (wM0 0))) : C_M_as [.ref 0, .int a, .int b] (wM0 0) K := by
  refine xM_go rfl 13 [] fun P hP => ?_
  refine xcall (sp_isChildM0 _ ?_)
  refine br_c (fun _ => ?_) (fun z => absurd (by first | decide | rfl) z)
  refine xcall (sp_errs rfl (-1000000001) (by decide) fun F v => ?_)
  exact xgenK h rfl
set_option maxRecDepth 100000 in
set_option maxHeartbeats 1000000 in
theorem fm_law (a b c d : Int32) {K : xKo} (h : ∀ F v, K (some (.int (an_law a b c d))) (xfill F v 0 (wM0 0))) : C_M_law [.ref 0, .int a, .int b, .int c, .int d] (wM0 0) K := by
  refine xM_go rfl 18 [] fun P hP => ?_
  refine xcall (sp_in _ _ _ (fun a1 => ?_) (fun a1 => ?_))
  · refine br_c (fun _ => ?_) (fun z => absurd (by first | decide | rfl) z)
    refine xcall (sp_errs rfl (-1000000001) (by decide) fun F v => ?_)
    exact xgenK (w0 := wM0 0) (K := K) (fun F v => by have q := h F v; unfold an_law at q; rw [if_neg (show ¬ (xin a 2) by simp only [xin, xlt, xle, xeq, Int32.reduceToInt] at a1 ⊢; omega)] at q; exact q) rfl
  · refine br_c (fun z => absurd z (by decide)) (fun _ => ?_)
    refine xcall (sp_lawOf0 _ _ _ _ (by simp only [Int32.reduceToInt] at *; omega) ?_)
    exact xgenK (w0 := wM0 0) (K := K) (fun F v => by have q := h F v; unfold an_law at q; rw [if_pos (show xin a 2 by simp only [xin, xlt, xle, xeq, Int32.reduceToInt] at a1 ⊢; omega)] at q; exact q) rfl
set_option maxRecDepth 100000 in
set_option maxHeartbeats 1000000 in
theorem fm_call (a b : Int32) {K : xKo} (h : ∀ F v, K (some (.int (an_call a b))) (xfill F v 0 (wM0 0))) : C_M_call [.ref 0, .int a, .int b] (wM0 0) K := by
  refine xM_go rfl 22 [] fun P hP => ?_
  refine xcall (sp_isMark _ (fun a1 => ?_) (fun a1 => ?_))
  · refine br_c (fun _ => ?_) (fun z => absurd (by first | decide | rfl) z)
    refine xcall (sp_errs rfl (-1000000001) (by decide) fun F v => ?_)
    exact xgenK (w0 := wM0 0) (K := K) (fun F v => by have q := h F v; unfold an_call at q; rw [if_neg (show ¬ (xin a 6 ∧ xin b 10) by simp only [xin, xlt, xle, xeq, Int32.reduceToInt] at a1 ⊢; omega)] at q; exact q) rfl
  · refine br_c (fun z => absurd z (by decide)) (fun _ => ?_)
    refine xcall (sp_areSteps _ (fun a2 => ?_) (fun a2 => ?_))
    · refine br_n (fun z => absurd (by first | decide | rfl) z) (fun _ => ?_)
      refine xcall (sp_errs rfl (-1000000001) (by decide) fun F v => ?_)
      exact xgenK (w0 := wM0 0) (K := K) (fun F v => by have q := h F v; unfold an_call at q; rw [if_neg (show ¬ (xin a 6 ∧ xin b 10) by simp only [xin, xlt, xle, xeq, Int32.reduceToInt] at a1 a2 ⊢; omega)] at q; exact q) rfl
    · refine br_n (fun _ => ?_) (fun z => absurd z (by decide))
      refine ⟨vin (by decide), ?_⟩
      refine br_n (fun _ => ?_) (fun z => absurd z (by decide))
      refine xcall (sp_calls0 FM0 VM0 rfl _ _ fun f f2 f3 => ?_)
      exact xgenK (w0 := wM0 0) (K := K) (fun F v => by have q := h F v; unfold an_call at q; rw [if_pos (show xin a 6 ∧ xin b 10 by simp only [xin, xlt, xle, xeq, Int32.reduceToInt] at a1 a2 ⊢; omega)] at q; exact q) rfl
set_option maxRecDepth 100000 in
set_option maxHeartbeats 1000000 in
theorem fm_hadBy (a b : Int32) {K : xKo} (h : ∀ F v, K (some (.int (an_hadBy a b))) (xfill F v 0 (wM0 0))) : C_M_hadBy [.ref 0, .int a, .int b] (wM0 0) K := by
  refine xM_go rfl 17 [] fun P hP => ?_
  refine xcall (sp_isMark _ (fun a1 => ?_) (fun a1 => ?_))
  · refine br_c (fun _ => ?_) (fun z => absurd (by first | decide | rfl) z)
    refine xcall (sp_errs rfl (-1000000001) (by decide) fun F v => ?_)
    exact xgenK (w0 := wM0 0) (K := K) (fun F v => by have q := h F v; unfold an_hadBy at q; rw [if_neg (show ¬ (xin a 6 ∧ xin b 10) by simp only [xin, xlt, xle, xeq, Int32.reduceToInt] at a1 ⊢; omega)] at q; exact q) rfl
  · refine br_c (fun z => absurd z (by decide)) (fun _ => ?_)
    refine xcall (sp_areSteps _ (fun a2 => ?_) (fun a2 => ?_))
    · refine br_c (fun _ => ?_) (fun z => absurd (by first | decide | rfl) z)
      refine xcall (sp_errs rfl (-1000000001) (by decide) fun F v => ?_)
      exact xgenK (w0 := wM0 0) (K := K) (fun F v => by have q := h F v; unfold an_hadBy at q; rw [if_neg (show ¬ (xin a 6 ∧ xin b 10) by simp only [xin, xlt, xle, xeq, Int32.reduceToInt] at a1 a2 ⊢; omega)] at q; exact q) rfl
    · refine br_c (fun z => absurd z (by decide)) (fun _ => ?_)
      refine xcall (sp_wouldBe0 FM0 VM0 (by exact rfl) _ _ fun F3 h3 => ?_)
      have hc3 : F3 1 2 = 0 := (h3 2 (by decide)).trans rfl
      have hd3 : F3 1 8 = -1 := (h3 8 (by decide)).trans rfl
      exact xgenK (w0 := wM0 0) (K := K) (fun F v => by have q := h F v; unfold an_hadBy at q; rw [if_pos (show xin a 6 ∧ xin b 10 by simp only [xin, xlt, xle, xeq, Int32.reduceToInt] at a1 a2 ⊢; omega)] at q; exact q) rfl
set_option maxRecDepth 100000 in
set_option maxHeartbeats 1000000 in
theorem fm_runsTo (a b c : Int32) {K : xKo} (h : ∀ F v, K (some (.int (an_runsTo a b c))) (xfill F v 0 (wM0 0))) : C_M_runsTo [.ref 0, .int a, .int b, .int c] (wM0 0) K := by
  refine xM_go rfl 13 [] fun P hP => ?_
  refine xcall (sp_isChildM0 _ ?_)
  refine br_c (fun _ => ?_) (fun z => absurd (by first | decide | rfl) z)
  refine xcall (sp_errs rfl (-1000000001) (by decide) fun F v => ?_)
  exact xgenK h rfl
set_option maxRecDepth 100000 in
set_option maxHeartbeats 1000000 in
theorem fm_stand (a b c : Int32) {K : xKo} (h : ∀ F v, K (some (.int (an_stand a b c))) (xfill F v 0 (wM0 0))) : C_M_stand [.ref 0, .int a, .int b, .int c] (wM0 0) K := by
  refine xM_go rfl 13 [] fun P hP => ?_
  refine xcall (sp_isChildM0 _ ?_)
  refine br_c (fun _ => ?_) (fun z => absurd (by first | decide | rfl) z)
  refine xcall (sp_errs rfl (-1000000001) (by decide) fun F v => ?_)
  exact xgenK h rfl
set_option maxRecDepth 100000 in
set_option maxHeartbeats 1000000 in
theorem fm_steps (a : Int32) {K : xKo} (h : ∀ F v, K (some (.int (an_steps a))) (xfill F v 0 (wM0 0))) : C_M_steps [.ref 0, .int a] (wM0 0) K := by
  refine xM_go rfl 23 [] fun P hP => ?_
  refine xcall (sp_isMark _ (fun a1 => ?_) (fun a1 => ?_))
  · refine br_n (fun z => absurd (by first | decide | rfl) z) (fun _ => ?_)
    refine xcall (sp_errs rfl (-1000000001) (by decide) fun F v => ?_)
    exact xgenK (w0 := wM0 0) (K := K) (fun F v => by have q := h F v; unfold an_steps at q; rw [if_neg (show ¬ (xin a 6) by simp only [xin, xlt, xle, xeq, Int32.reduceToInt] at a1 ⊢; omega)] at q; exact q) rfl
  · refine br_n (fun _ => ?_) (fun z => absurd z (by decide))
    refine br_c (fun z => absurd z (by decide)) (fun _ => ?_)
    refine xcall (sp_wouldBe0 FM0 VM0 (by exact rfl) _ _ fun F2 h2 => ?_)
    have hc2 : F2 1 2 = 0 := (h2 2 (by decide)).trans rfl
    have hd2 : F2 1 8 = -1 := (h2 8 (by decide)).trans rfl
    refine br_c (fun _ => ?_) (fun z => absurd (by first | decide | rfl) z)
    refine br_c (fun _ => ?_) (fun z => absurd (by first | decide | rfl) z)
    exact xgenK (w0 := wM0 0) (K := K) (fun F v => by have q := h F v; unfold an_steps at q; rw [if_pos (show xin a 6 by simp only [xin, xlt, xle, xeq, Int32.reduceToInt] at a1 ⊢; omega)] at q; exact q) rfl
set_option maxRecDepth 100000 in
set_option maxHeartbeats 1000000 in
theorem fm_take (a b c : Int32) {K : xKo} (h : ∀ F v, K (some (.int (an_take a b c))) (xfill F v 0 (wM0 0))) : C_M_take [.ref 0, .int a, .int b, .int c] (wM0 0) K := by
  refine xM_go rfl 13 [] fun P hP => ?_
  refine xcall (sp_isChildM0 _ ?_)
  refine br_c (fun _ => ?_) (fun z => absurd (by first | decide | rfl) z)
  refine xcall (sp_errs rfl (-1000000001) (by decide) fun F v => ?_)
  exact xgenK h rfl
set_option maxRecDepth 100000 in
set_option maxHeartbeats 1000000 in
theorem fm_worst (a b : Int32) {K : xKo} (h : ∀ F v, K (some (.int (an_worst a b))) (xfill F v 0 (wM0 0))) : C_M_worst [.ref 0, .int a, .int b] (wM0 0) K := by
  refine xM_go rfl 155 [] fun P hP => ?_
  refine xcall (sp_areSteps _ (fun a1 => ?_) (fun a1 => ?_))
  · refine br_c (fun _ => ?_) (fun z => absurd (by first | decide | rfl) z)
    refine xcall (sp_errs rfl (-1000000001) (by decide) fun F v => ?_)
    exact xgenK (w0 := wM0 0) (K := K) (fun F v => by have q := h F v; unfold an_worst at q; rw [if_neg (show ¬ (xin a 10 ∧ xin b 2) by simp only [xin, xlt, xle, xeq, Int32.reduceToInt] at a1 ⊢; omega)] at q; exact q) rfl
  · refine br_c (fun z => absurd z (by decide)) (fun _ => ?_)
    refine xcall (sp_in _ _ _ (fun a2 => ?_) (fun a2 => ?_))
    · refine br_n (fun z => absurd (by first | decide | rfl) z) (fun _ => ?_)
      refine xcall (sp_errs rfl (-1000000001) (by decide) fun F v => ?_)
      exact xgenK (w0 := wM0 0) (K := K) (fun F v => by have q := h F v; unfold an_worst at q; rw [if_neg (show ¬ (xin a 10 ∧ xin b 2) by simp only [xin, xlt, xle, xeq, Int32.reduceToInt] at a1 a2 ⊢; omega)] at q; exact q) rfl
    · refine br_n (fun _ => ?_) (fun z => absurd z (by decide))
      refine br_c (fun z => absurd z (by decide)) (fun _ => ?_)
      refine xcall (sp_wouldBe0 FM0 VM0 (by exact rfl) _ _ fun F3 h3 => ?_)
      have hc3 : F3 1 2 = 0 := (h3 2 (by decide)).trans rfl
      have hd3 : F3 1 8 = -1 := (h3 8 (by decide)).trans rfl
      refine xcall (sp_bits0 ?_)
      refine br_c (fun z => absurd z (by decide)) (fun _ => ?_)
      refine br_c (fun z => absurd z (by decide)) (fun _ => ?_)
      refine br_c (fun z => absurd z (by decide)) (fun _ => ?_)
      refine xcall (sp_wouldBe0 F3 VM0 (by exact hc3) _ _ fun F4 h4 => ?_)
      have hc4 : F4 1 2 = 0 := (h4 2 (by decide)).trans hc3
      have hd4 : F4 1 8 = -1 := (h4 8 (by decide)).trans hd3
      refine xcall (sp_bits0 ?_)
      refine br_c (fun _ => ?_) (fun z => absurd (by first | decide | rfl) z)
      refine br_c (fun _ => ?_) (fun z => absurd (by first | decide | rfl) z)
      refine br_c (fun z => absurd z (by decide)) (fun _ => ?_)
      refine xcall (sp_wouldBe0 F4 VM0 (by exact hc4) _ _ fun F5 h5 => ?_)
      have hc5 : F5 1 2 = 0 := (h5 2 (by decide)).trans hc4
      have hd5 : F5 1 8 = -1 := (h5 8 (by decide)).trans hd4
      refine xcall (sp_bits0 ?_)
      refine br_c (fun _ => ?_) (fun z => absurd (by first | decide | rfl) z)
      refine br_c (fun _ => ?_) (fun z => absurd (by first | decide | rfl) z)
      refine br_c (fun z => absurd z (by decide)) (fun _ => ?_)
      refine xcall (sp_wouldBe0 F5 VM0 (by exact hc5) _ _ fun F6 h6 => ?_)
      have hc6 : F6 1 2 = 0 := (h6 2 (by decide)).trans hc5
      have hd6 : F6 1 8 = -1 := (h6 8 (by decide)).trans hd5
      refine xcall (sp_bits0 ?_)
      refine br_c (fun _ => ?_) (fun z => absurd (by first | decide | rfl) z)
      refine br_c (fun _ => ?_) (fun z => absurd (by first | decide | rfl) z)
      refine br_c (fun z => absurd z (by decide)) (fun _ => ?_)
      refine xcall (sp_wouldBe0 F6 VM0 (by exact hc6) _ _ fun F7 h7 => ?_)
      have hc7 : F7 1 2 = 0 := (h7 2 (by decide)).trans hc6
      have hd7 : F7 1 8 = -1 := (h7 8 (by decide)).trans hd6
      refine xcall (sp_bits0 ?_)
      refine br_c (fun _ => ?_) (fun z => absurd (by first | decide | rfl) z)
      refine br_c (fun _ => ?_) (fun z => absurd (by first | decide | rfl) z)
      refine br_c (fun z => absurd z (by decide)) (fun _ => ?_)
      refine xcall (sp_wouldBe0 F7 VM0 (by exact hc7) _ _ fun F8 h8 => ?_)
      have hc8 : F8 1 2 = 0 := (h8 2 (by decide)).trans hc7
      have hd8 : F8 1 8 = -1 := (h8 8 (by decide)).trans hd7
      refine xcall (sp_bits0 ?_)
      refine br_c (fun _ => ?_) (fun z => absurd (by first | decide | rfl) z)
      refine br_c (fun _ => ?_) (fun z => absurd (by first | decide | rfl) z)
      refine br_c (fun _ => ?_) (fun z => absurd (by first | decide | rfl) z)
      refine br_n (fun a9 => ?_) (fun a9 => ?_)
      · exact xgenK (w0 := wM0 0) (K := K) (fun F v => by have q := h F v; unfold an_worst at q; rw [if_pos (show xin a 10 ∧ xin b 2 by simp only [xin, xlt, xle, xeq, Int32.reduceToInt] at a1 a2 a9 ⊢; omega)] at q; exact q) rfl
      · exact xgenK (w0 := wM0 0) (K := K) (fun F v => by have q := h F v; unfold an_worst at q; rw [if_pos (show xin a 10 ∧ xin b 2 by simp only [xin, xlt, xle, xeq, Int32.reduceToInt] at a1 a2 a9 ⊢; omega)] at q; exact q) rfl
set_option maxRecDepth 100000 in
set_option maxHeartbeats 1000000 in
theorem fm_best (a b : Int32) {K : xKo} (h : ∀ F v, K (some (.int (an_best a b))) (xfill F v 0 (wM0 0))) : C_M_best [.ref 0, .int a, .int b] (wM0 0) K := by
  refine xM_go rfl 155 [] fun P hP => ?_
  refine xcall (sp_areSteps _ (fun a1 => ?_) (fun a1 => ?_))
  · refine br_c (fun _ => ?_) (fun z => absurd (by first | decide | rfl) z)
    refine xcall (sp_errs rfl (-1000000001) (by decide) fun F v => ?_)
    exact xgenK (w0 := wM0 0) (K := K) (fun F v => by have q := h F v; unfold an_best at q; rw [if_neg (show ¬ (xin a 10 ∧ xin b 2) by simp only [xin, xlt, xle, xeq, Int32.reduceToInt] at a1 ⊢; omega)] at q; exact q) rfl
  · refine br_c (fun z => absurd z (by decide)) (fun _ => ?_)
    refine xcall (sp_in _ _ _ (fun a2 => ?_) (fun a2 => ?_))
    · refine br_n (fun z => absurd (by first | decide | rfl) z) (fun _ => ?_)
      refine xcall (sp_errs rfl (-1000000001) (by decide) fun F v => ?_)
      exact xgenK (w0 := wM0 0) (K := K) (fun F v => by have q := h F v; unfold an_best at q; rw [if_neg (show ¬ (xin a 10 ∧ xin b 2) by simp only [xin, xlt, xle, xeq, Int32.reduceToInt] at a1 a2 ⊢; omega)] at q; exact q) rfl
    · refine br_n (fun _ => ?_) (fun z => absurd z (by decide))
      refine br_c (fun z => absurd z (by decide)) (fun _ => ?_)
      refine xcall (sp_wouldBe0 FM0 VM0 (by exact rfl) _ _ fun F3 h3 => ?_)
      have hc3 : F3 1 2 = 0 := (h3 2 (by decide)).trans rfl
      have hd3 : F3 1 8 = -1 := (h3 8 (by decide)).trans rfl
      refine xcall (sp_bits0 ?_)
      refine br_c (fun z => absurd z (by decide)) (fun _ => ?_)
      refine br_c (fun z => absurd z (by decide)) (fun _ => ?_)
      refine br_c (fun z => absurd z (by decide)) (fun _ => ?_)
      refine xcall (sp_wouldBe0 F3 VM0 (by exact hc3) _ _ fun F4 h4 => ?_)
      have hc4 : F4 1 2 = 0 := (h4 2 (by decide)).trans hc3
      have hd4 : F4 1 8 = -1 := (h4 8 (by decide)).trans hd3
      refine xcall (sp_bits0 ?_)
      refine br_c (fun _ => ?_) (fun z => absurd (by first | decide | rfl) z)
      refine br_c (fun _ => ?_) (fun z => absurd (by first | decide | rfl) z)
      refine br_c (fun z => absurd z (by decide)) (fun _ => ?_)
      refine xcall (sp_wouldBe0 F4 VM0 (by exact hc4) _ _ fun F5 h5 => ?_)
      have hc5 : F5 1 2 = 0 := (h5 2 (by decide)).trans hc4
      have hd5 : F5 1 8 = -1 := (h5 8 (by decide)).trans hd4
      refine xcall (sp_bits0 ?_)
      refine br_c (fun _ => ?_) (fun z => absurd (by first | decide | rfl) z)
      refine br_c (fun _ => ?_) (fun z => absurd (by first | decide | rfl) z)
      refine br_c (fun z => absurd z (by decide)) (fun _ => ?_)
      refine xcall (sp_wouldBe0 F5 VM0 (by exact hc5) _ _ fun F6 h6 => ?_)
      have hc6 : F6 1 2 = 0 := (h6 2 (by decide)).trans hc5
      have hd6 : F6 1 8 = -1 := (h6 8 (by decide)).trans hd5
      refine xcall (sp_bits0 ?_)
      refine br_c (fun _ => ?_) (fun z => absurd (by first | decide | rfl) z)
      refine br_c (fun _ => ?_) (fun z => absurd (by first | decide | rfl) z)
      refine br_c (fun z => absurd z (by decide)) (fun _ => ?_)
      refine xcall (sp_wouldBe0 F6 VM0 (by exact hc6) _ _ fun F7 h7 => ?_)
      have hc7 : F7 1 2 = 0 := (h7 2 (by decide)).trans hc6
      have hd7 : F7 1 8 = -1 := (h7 8 (by decide)).trans hd6
      refine xcall (sp_bits0 ?_)
      refine br_c (fun _ => ?_) (fun z => absurd (by first | decide | rfl) z)
      refine br_c (fun _ => ?_) (fun z => absurd (by first | decide | rfl) z)
      refine br_c (fun z => absurd z (by decide)) (fun _ => ?_)
      refine xcall (sp_wouldBe0 F7 VM0 (by exact hc7) _ _ fun F8 h8 => ?_)
      have hc8 : F8 1 2 = 0 := (h8 2 (by decide)).trans hc7
      have hd8 : F8 1 8 = -1 := (h8 8 (by decide)).trans hd7
      refine xcall (sp_bits0 ?_)
      refine br_c (fun _ => ?_) (fun z => absurd (by first | decide | rfl) z)
      refine br_c (fun _ => ?_) (fun z => absurd (by first | decide | rfl) z)
      refine br_c (fun _ => ?_) (fun z => absurd (by first | decide | rfl) z)
      refine br_n (fun a9 => ?_) (fun a9 => ?_)
      · exact xgenK (w0 := wM0 0) (K := K) (fun F v => by have q := h F v; unfold an_best at q; rw [if_pos (show xin a 10 ∧ xin b 2 by simp only [xin, xlt, xle, xeq, Int32.reduceToInt] at a1 a2 a9 ⊢; omega)] at q; exact q) rfl
      · exact xgenK (w0 := wM0 0) (K := K) (fun F v => by have q := h F v; unfold an_best at q; rw [if_pos (show xin a 10 ∧ xin b 2 by simp only [xin, xlt, xle, xeq, Int32.reduceToInt] at a1 a2 a9 ⊢; omega)] at q; exact q) rfl
set_option maxRecDepth 100000 in
set_option maxHeartbeats 1000000 in
theorem fm_parts (a b : Int32) {K : xKo} (h : ∀ F v, K (some (.int (an_parts a b))) (xfill F v 0 (wM0 0))) : C_M_parts [.ref 0, .int a, .int b] (wM0 0) K := by
  refine xM_go rfl 209 [] fun P hP => ?_
  refine xcall (sp_areSteps _ (fun a1 => ?_) (fun a1 => ?_))
  · refine br_c (fun _ => ?_) (fun z => absurd (by first | decide | rfl) z)
    refine xcall (sp_errs rfl (-1000000001) (by decide) fun F v => ?_)
    exact xgenK (w0 := wM0 0) (K := K) (fun F v => by have q := h F v; unfold an_parts at q; rw [if_neg (show ¬ (xin a 10 ∧ xin b 2) by simp only [xin, xlt, xle, xeq, Int32.reduceToInt] at a1 ⊢; omega)] at q; exact q) rfl
  · refine br_c (fun z => absurd z (by decide)) (fun _ => ?_)
    refine xcall (sp_in _ _ _ (fun a2 => ?_) (fun a2 => ?_))
    · refine br_n (fun z => absurd (by first | decide | rfl) z) (fun _ => ?_)
      refine xcall (sp_errs rfl (-1000000001) (by decide) fun F v => ?_)
      exact xgenK (w0 := wM0 0) (K := K) (fun F v => by have q := h F v; unfold an_parts at q; rw [if_neg (show ¬ (xin a 10 ∧ xin b 2) by simp only [xin, xlt, xle, xeq, Int32.reduceToInt] at a1 a2 ⊢; omega)] at q; exact q) rfl
    · refine br_n (fun _ => ?_) (fun z => absurd z (by decide))
      refine br_c (fun z => absurd z (by decide)) (fun _ => ?_)
      refine xcall (sp_wouldBe0 FM0 VM0 (by exact rfl) _ _ fun F3 h3 => ?_)
      have hc3 : F3 1 2 = 0 := (h3 2 (by decide)).trans rfl
      have hd3 : F3 1 8 = -1 := (h3 8 (by decide)).trans rfl
      refine xcall (sp_bits0 ?_)
      refine xcall (sp_players0 F3 VM0 (by exact hc3) (by exact hd3) ?_)
      refine br_c (fun _ => ?_) (fun z => absurd (by first | decide | rfl) z)
      refine br_c (fun z => absurd z (by decide)) (fun _ => ?_)
      refine br_c (fun z => absurd z (by decide)) (fun _ => ?_)
      refine br_c (fun z => absurd z (by decide)) (fun _ => ?_)
      refine xcall (sp_wouldBe0 F3 VM0 (by exact hc3) _ _ fun F4 h4 => ?_)
      have hc4 : F4 1 2 = 0 := (h4 2 (by decide)).trans hc3
      have hd4 : F4 1 8 = -1 := (h4 8 (by decide)).trans hd3
      refine xcall (sp_bits0 ?_)
      refine xcall (sp_players0 F4 VM0 (by exact hc4) (by exact hd4) ?_)
      refine br_c (fun _ => ?_) (fun z => absurd (by first | decide | rfl) z)
      refine br_c (fun _ => ?_) (fun z => absurd (by first | decide | rfl) z)
      refine br_c (fun _ => ?_) (fun z => absurd (by first | decide | rfl) z)
      refine br_c (fun z => absurd z (by decide)) (fun _ => ?_)
      refine xcall (sp_wouldBe0 F4 VM0 (by exact hc4) _ _ fun F5 h5 => ?_)
      have hc5 : F5 1 2 = 0 := (h5 2 (by decide)).trans hc4
      have hd5 : F5 1 8 = -1 := (h5 8 (by decide)).trans hd4
      refine xcall (sp_bits0 ?_)
      refine xcall (sp_players0 F5 VM0 (by exact hc5) (by exact hd5) ?_)
      refine br_c (fun _ => ?_) (fun z => absurd (by first | decide | rfl) z)
      refine br_c (fun _ => ?_) (fun z => absurd (by first | decide | rfl) z)
      refine br_c (fun _ => ?_) (fun z => absurd (by first | decide | rfl) z)
      refine br_c (fun z => absurd z (by decide)) (fun _ => ?_)
      refine xcall (sp_wouldBe0 F5 VM0 (by exact hc5) _ _ fun F6 h6 => ?_)
      have hc6 : F6 1 2 = 0 := (h6 2 (by decide)).trans hc5
      have hd6 : F6 1 8 = -1 := (h6 8 (by decide)).trans hd5
      refine xcall (sp_bits0 ?_)
      refine xcall (sp_players0 F6 VM0 (by exact hc6) (by exact hd6) ?_)
      refine br_c (fun _ => ?_) (fun z => absurd (by first | decide | rfl) z)
      refine br_c (fun _ => ?_) (fun z => absurd (by first | decide | rfl) z)
      refine br_c (fun _ => ?_) (fun z => absurd (by first | decide | rfl) z)
      refine br_c (fun z => absurd z (by decide)) (fun _ => ?_)
      refine xcall (sp_wouldBe0 F6 VM0 (by exact hc6) _ _ fun F7 h7 => ?_)
      have hc7 : F7 1 2 = 0 := (h7 2 (by decide)).trans hc6
      have hd7 : F7 1 8 = -1 := (h7 8 (by decide)).trans hd6
      refine xcall (sp_bits0 ?_)
      refine xcall (sp_players0 F7 VM0 (by exact hc7) (by exact hd7) ?_)
      refine br_c (fun _ => ?_) (fun z => absurd (by first | decide | rfl) z)
      refine br_c (fun _ => ?_) (fun z => absurd (by first | decide | rfl) z)
      refine br_c (fun _ => ?_) (fun z => absurd (by first | decide | rfl) z)
      refine br_c (fun z => absurd z (by decide)) (fun _ => ?_)
      refine xcall (sp_wouldBe0 F7 VM0 (by exact hc7) _ _ fun F8 h8 => ?_)
      have hc8 : F8 1 2 = 0 := (h8 2 (by decide)).trans hc7
      have hd8 : F8 1 8 = -1 := (h8 8 (by decide)).trans hd7
      refine xcall (sp_bits0 ?_)
      refine xcall (sp_players0 F8 VM0 (by exact hc8) (by exact hd8) ?_)
      refine br_c (fun _ => ?_) (fun z => absurd (by first | decide | rfl) z)
      refine br_c (fun _ => ?_) (fun z => absurd (by first | decide | rfl) z)
      refine br_c (fun _ => ?_) (fun z => absurd (by first | decide | rfl) z)
      refine br_c (fun _ => ?_) (fun z => absurd (by first | decide | rfl) z)
      refine br_n (fun a9 => ?_) (fun a9 => ?_)
      · exact xgenK (w0 := wM0 0) (K := K) (fun F v => by have q := h F v; unfold an_parts at q; rw [if_pos (show xin a 10 ∧ xin b 2 by simp only [xin, xlt, xle, xeq, Int32.reduceToInt] at a1 a2 a9 ⊢; omega)] at q; exact q) rfl
      · exact xgenK (w0 := wM0 0) (K := K) (fun F v => by have q := h F v; unfold an_parts at q; rw [if_pos (show xin a 10 ∧ xin b 2 by simp only [xin, xlt, xle, xeq, Int32.reduceToInt] at a1 a2 a9 ⊢; omega)] at q; exact q) rfl
set_option maxRecDepth 100000 in
set_option maxHeartbeats 1000000 in
theorem fm_never (a : Int32) {K : xKo} (h : ∀ F v, K (some (.int (an_never a))) (xfill F v 0 (wM0 0))) : C_M_never [.ref 0, .int a] (wM0 0) K := by
  refine xM_go rfl 108 [] fun P hP => ?_
  refine xcall (sp_areSteps _ (fun a1 => ?_) (fun a1 => ?_))
  · refine br_n (fun z => absurd (by first | decide | rfl) z) (fun _ => ?_)
    refine xcall (sp_errs rfl (-1000000001) (by decide) fun F v => ?_)
    exact xgenK (w0 := wM0 0) (K := K) (fun F v => by have q := h F v; unfold an_never at q; rw [if_neg (show ¬ (xin a 10) by simp only [xin, xlt, xle, xeq, Int32.reduceToInt] at a1 ⊢; omega)] at q; exact q) rfl
  · refine br_n (fun _ => ?_) (fun z => absurd z (by decide))
    refine ⟨vin (by decide), ?_⟩
    refine br_c (fun z => absurd z (by decide)) (fun _ => ?_)
    refine xcall (sp_wouldBe0 FM0 VM0 (by exact rfl) _ _ fun F2 h2 => ?_)
    have hc2 : F2 1 2 = 0 := (h2 2 (by decide)).trans rfl
    have hd2 : F2 1 8 = -1 := (h2 8 (by decide)).trans rfl
    refine br_c (fun z => absurd z (by decide)) (fun _ => ?_)
    refine xcall (sp_wouldBe0 F2 VM0 (by exact hc2) _ _ fun F3 h3 => ?_)
    have hc3 : F3 1 2 = 0 := (h3 2 (by decide)).trans hc2
    have hd3 : F3 1 8 = -1 := (h3 8 (by decide)).trans hd2
    refine br_c (fun z => absurd z (by decide)) (fun _ => ?_)
    refine xcall (sp_wouldBe0 F3 VM0 (by exact hc3) _ _ fun F4 h4 => ?_)
    have hc4 : F4 1 2 = 0 := (h4 2 (by decide)).trans hc3
    have hd4 : F4 1 8 = -1 := (h4 8 (by decide)).trans hd3
    refine br_c (fun z => absurd z (by decide)) (fun _ => ?_)
    refine xcall (sp_wouldBe0 F4 VM0 (by exact hc4) _ _ fun F5 h5 => ?_)
    have hc5 : F5 1 2 = 0 := (h5 2 (by decide)).trans hc4
    have hd5 : F5 1 8 = -1 := (h5 8 (by decide)).trans hd4
    refine br_c (fun z => absurd z (by decide)) (fun _ => ?_)
    refine xcall (sp_wouldBe0 F5 VM0 (by exact hc5) _ _ fun F6 h6 => ?_)
    have hc6 : F6 1 2 = 0 := (h6 2 (by decide)).trans hc5
    have hd6 : F6 1 8 = -1 := (h6 8 (by decide)).trans hd5
    refine br_c (fun z => absurd z (by decide)) (fun _ => ?_)
    refine xcall (sp_wouldBe0 F6 VM0 (by exact hc6) _ _ fun F7 h7 => ?_)
    have hc7 : F7 1 2 = 0 := (h7 2 (by decide)).trans hc6
    have hd7 : F7 1 8 = -1 := (h7 8 (by decide)).trans hd6
    refine br_c (fun _ => ?_) (fun z => absurd (by first | decide | rfl) z)
    exact xgenK (w0 := wM0 0) (K := K) (fun F v => by have q := h F v; unfold an_never at q; rw [if_pos (show xin a 10 by simp only [xin, xlt, xle, xeq, Int32.reduceToInt] at a1 ⊢; omega)] at q; exact q) rfl
set_option maxRecDepth 100000 in
set_option maxHeartbeats 1000000 in
theorem fm_series (a b c : Int32) {K : xKo} (h : ∀ F v, K (some (.int (an_series a b c))) (xfill F v 0 (wM0 0))) : C_M_series [.ref 0, .int a, .int b, .int c] (wM0 0) K := by
  refine xM_go rfl 25 [] fun P hP => ?_
  refine xcall (sp_isSheet _ (fun a1 => ?_) (fun a1 => ?_))
  · refine br_c (fun _ => ?_) (fun z => absurd (by first | decide | rfl) z)
    refine xcall (sp_errs rfl (-1000000001) (by decide) fun F v => ?_)
    exact xgenK (w0 := wM0 0) (K := K) (fun F v => by have q := h F v; unfold an_series at q; rw [if_neg (show ¬ (xin a 4 ∧ xin b 10 ∧ xin c 2) by simp only [xin, xlt, xle, xeq, Int32.reduceToInt] at a1 ⊢; omega)] at q; exact q) rfl
  · refine br_c (fun z => absurd z (by decide)) (fun _ => ?_)
    refine xcall (sp_areSteps _ (fun a2 => ?_) (fun a2 => ?_))
    · refine br_c (fun _ => ?_) (fun z => absurd (by first | decide | rfl) z)
      refine xcall (sp_errs rfl (-1000000001) (by decide) fun F v => ?_)
      exact xgenK (w0 := wM0 0) (K := K) (fun F v => by have q := h F v; unfold an_series at q; rw [if_neg (show ¬ (xin a 4 ∧ xin b 10 ∧ xin c 2) by simp only [xin, xlt, xle, xeq, Int32.reduceToInt] at a1 a2 ⊢; omega)] at q; exact q) rfl
    · refine br_c (fun z => absurd z (by decide)) (fun _ => ?_)
      refine xcall (sp_in _ _ _ (fun a3 => ?_) (fun a3 => ?_))
      · refine br_n (fun z => absurd (by first | decide | rfl) z) (fun _ => ?_)
        refine xcall (sp_errs rfl (-1000000001) (by decide) fun F v => ?_)
        exact xgenK (w0 := wM0 0) (K := K) (fun F v => by have q := h F v; unfold an_series at q; rw [if_neg (show ¬ (xin a 4 ∧ xin b 10 ∧ xin c 2) by simp only [xin, xlt, xle, xeq, Int32.reduceToInt] at a1 a2 a3 ⊢; omega)] at q; exact q) rfl
      · refine br_n (fun _ => ?_) (fun z => absurd z (by decide))
        refine ⟨vin (by simp only [xin, xlt, xle, Int32.reduceToInt] at a1 a2 a3 ⊢; omega), ?_⟩
        refine br_n (fun z => absurd (by first | decide | rfl) z) (fun _ => ?_)
        refine xcall (sp_errs rfl (-1000000002) (by decide) fun F v => ?_)
        exact xgenK (w0 := wM0 0) (K := K) (fun F v => by have q := h F v; unfold an_series at q; rw [if_pos (show xin a 4 ∧ xin b 10 ∧ xin c 2 by simp only [xin, xlt, xle, xeq, Int32.reduceToInt] at a1 a2 a3 ⊢; omega)] at q; exact q) rfl
set_option maxRecDepth 100000 in
set_option maxHeartbeats 1000000 in
theorem fm_odds (a b c : Int32) {K : xKo} (h : ∀ F v, K (some (.int (an_odds a b c))) (xfill F v 0 (wM0 0))) : C_M_odds [.ref 0, .int a, .int b, .int c] (wM0 0) K := by
  refine xM_go rfl 13 [] fun P hP => ?_
  refine xcall (sp_isChildM0 _ ?_)
  refine br_c (fun _ => ?_) (fun z => absurd (by first | decide | rfl) z)
  refine xcall (sp_errs rfl (-1000000001) (by decide) fun F v => ?_)
  exact xgenK h rfl
set_option maxRecDepth 100000 in
set_option maxHeartbeats 1000000 in
theorem fm_seed (a : Int32) {K : xKo} (h : ∀ F v, K (some (.int (an_seed a))) (xfill F v 0 (wM0 0))) : C_M_seed [.ref 0, .int a] (wM0 0) K := by
  refine xM_go rfl 17 [] fun P hP => ?_
  refine ⟨vin (by decide), ?_⟩
  refine ⟨vin (by decide), ?_⟩
  exact xgenK h rfl
set_option maxRecDepth 100000 in
set_option maxHeartbeats 1000000 in
theorem fm_voice (a b c : Int32) {K : xKo} (h : ∀ F v, K (some (.int (an_voice a b c))) (xfill F v 0 (wM0 0))) : C_M_voice [.ref 0, .int a, .int b, .int c] (wM0 0) K := by
  refine xM_go rfl 13 [] fun P hP => ?_
  refine xcall (sp_isChildM0 _ ?_)
  refine br_c (fun _ => ?_) (fun z => absurd (by first | decide | rfl) z)
  refine xcall (sp_errs rfl (-1000000001) (by decide) fun F v => ?_)
  exact xgenK h rfl
set_option maxRecDepth 100000 in
set_option maxHeartbeats 1000000 in
theorem fm_trace (a : Int32) {K : xKo} (h : ∀ F v, K (some (.int (an_trace a))) (xfill F v 0 (wM0 0))) : C_M_trace [.ref 0, .int a] (wM0 0) K := by
  refine xM_go rfl 17 [] fun P hP => ?_
  refine xcall (sp_in _ _ _ (fun a1 => ?_) (fun a1 => (by exfalso; simp only [Int32.reduceSub, Int32.reduceToInt] at a1; omega)))
  refine br_c (fun _ => ?_) (fun z => absurd (by first | decide | rfl) z)
  refine xcall (sp_errs rfl (-1000000002) (by decide) fun F v => ?_)
  exact xgenK h rfl
set_option maxRecDepth 100000 in
set_option maxHeartbeats 1000000 in
theorem fm_put (a b c : Int32) {K : xKo} (h : ∀ F v, K (some (.int (an_put a b c))) (xfill F v 0 (wM0 0))) : C_M_put [.ref 0, .int a, .int b, .int c] (wM0 0) K := by
  refine xM_go rfl 17 [] fun P hP => ?_
  refine xcall (sp_isSheet _ (fun a1 => ?_) (fun a1 => ?_))
  · refine br_n (fun z => absurd (by first | decide | rfl) z) (fun _ => ?_)
    refine xcall (sp_errs rfl (-1000000001) (by decide) fun F v => ?_)
    exact xgenK (w0 := wM0 0) (K := K) (fun F v => by have q := h F v; unfold an_put at q; rw [if_neg (show ¬ (xin a 4) by simp only [xin, xlt, xle, xeq, Int32.reduceToInt] at a1 ⊢; omega)] at q; exact q) rfl
  · refine br_n (fun _ => ?_) (fun z => absurd z (by decide))
    refine ⟨vin (by simp only [xin, xlt, xle, Int32.reduceToInt] at a1 ⊢; omega), ?_⟩
    refine br_n (fun z => absurd (by first | decide | rfl) z) (fun _ => ?_)
    refine xcall (sp_errs rfl (-1000000002) (by decide) fun F v => ?_)
    exact xgenK (w0 := wM0 0) (K := K) (fun F v => by have q := h F v; unfold an_put at q; rw [if_pos (show xin a 4 by simp only [xin, xlt, xle, xeq, Int32.reduceToInt] at a1 ⊢; omega)] at q; exact q) rfl
set_option maxRecDepth 100000 in
set_option maxHeartbeats 1000000 in
theorem fm_move (a b c d e : Int32) {K : xKo} (h : ∀ F v, K (some (.int (an_move a b c d e))) (xfill F v 0 (wM0 0))) : C_M_move [.ref 0, .int a, .int b, .int c, .int d, .int e] (wM0 0) K := by
  refine xM_go rfl 20 [] fun P hP => ?_
  refine xcall (sp_isSheet _ (fun a1 => ?_) (fun a1 => ?_))
  · refine br_c (fun _ => ?_) (fun z => absurd (by first | decide | rfl) z)
    refine xcall (sp_errs rfl (-1000000001) (by decide) fun F v => ?_)
    exact xgenK (w0 := wM0 0) (K := K) (fun F v => by have q := h F v; unfold an_move at q; rw [if_neg (show ¬ (xin a 4 ∧ xin c 4) by simp only [xin, xlt, xle, xeq, Int32.reduceToInt] at a1 ⊢; omega)] at q; exact q) rfl
  · refine br_c (fun z => absurd z (by decide)) (fun _ => ?_)
    refine xcall (sp_isSheet _ (fun a2 => ?_) (fun a2 => ?_))
    · refine br_n (fun z => absurd (by first | decide | rfl) z) (fun _ => ?_)
      refine xcall (sp_errs rfl (-1000000001) (by decide) fun F v => ?_)
      exact xgenK (w0 := wM0 0) (K := K) (fun F v => by have q := h F v; unfold an_move at q; rw [if_neg (show ¬ (xin a 4 ∧ xin c 4) by simp only [xin, xlt, xle, xeq, Int32.reduceToInt] at a1 a2 ⊢; omega)] at q; exact q) rfl
    · refine br_n (fun _ => ?_) (fun z => absurd z (by decide))
      refine ⟨vin (by simp only [xin, xlt, xle, Int32.reduceToInt] at a1 a2 ⊢; omega), ?_⟩
      refine br_c (fun _ => ?_) (fun z => absurd (by first | decide | rfl) z)
      refine xcall (sp_errs rfl (-1000000002) (by decide) fun F v => ?_)
      exact xgenK (w0 := wM0 0) (K := K) (fun F v => by have q := h F v; unfold an_move at q; rw [if_pos (show xin a 4 ∧ xin c 4 by simp only [xin, xlt, xle, xeq, Int32.reduceToInt] at a1 a2 ⊢; omega)] at q; exact q) rfl
set_option maxRecDepth 100000 in
set_option maxHeartbeats 1000000 in
theorem fm_places (a : Int32) {K : xKo} (h : ∀ F v, K (some (.int (an_places a))) (xfill F v 0 (wM0 0))) : C_M_places [.ref 0, .int a] (wM0 0) K := by
  refine xM_go rfl 17 [] fun P hP => ?_
  refine xcall (sp_isSheet _ (fun a1 => ?_) (fun a1 => ?_))
  · refine br_n (fun z => absurd (by first | decide | rfl) z) (fun _ => ?_)
    refine xcall (sp_errs rfl (-1000000001) (by decide) fun F v => ?_)
    exact xgenK (w0 := wM0 0) (K := K) (fun F v => by have q := h F v; unfold an_places at q; rw [if_neg (show ¬ (xin a 4) by simp only [xin, xlt, xle, xeq, Int32.reduceToInt] at a1 ⊢; omega)] at q; exact q) rfl
  · refine br_n (fun _ => ?_) (fun z => absurd z (by decide))
    refine ⟨vin (by simp only [xin, xlt, xle, Int32.reduceToInt] at a1 ⊢; omega), ?_⟩
    refine br_n (fun z => absurd (by first | decide | rfl) z) (fun _ => ?_)
    refine xcall (sp_errs rfl (-1000000002) (by decide) fun F v => ?_)
    exact xgenK (w0 := wM0 0) (K := K) (fun F v => by have q := h F v; unfold an_places at q; rw [if_pos (show xin a 4 by simp only [xin, xlt, xle, xeq, Int32.reduceToInt] at a1 ⊢; omega)] at q; exact q) rfl
set_option maxRecDepth 100000 in
set_option maxHeartbeats 1000000 in
theorem fm_judge (a : Int32) {K : xKo} (h : ∀ F v, K (some (.int (an_judge a))) (xfill F v 0 (wM0 0))) : C_M_judge [.ref 0, .int a] (wM0 0) K := by
  refine xM_go rfl 17 [] fun P hP => ?_
  refine xcall (sp_isSheet _ (fun a1 => ?_) (fun a1 => ?_))
  · refine br_n (fun z => absurd (by first | decide | rfl) z) (fun _ => ?_)
    refine xcall (sp_errs rfl (-1000000001) (by decide) fun F v => ?_)
    exact xgenK (w0 := wM0 0) (K := K) (fun F v => by have q := h F v; unfold an_judge at q; rw [if_neg (show ¬ (xin a 4) by simp only [xin, xlt, xle, xeq, Int32.reduceToInt] at a1 ⊢; omega)] at q; exact q) rfl
  · refine br_n (fun _ => ?_) (fun z => absurd z (by decide))
    refine ⟨vin (by simp only [xin, xlt, xle, Int32.reduceToInt] at a1 ⊢; omega), ?_⟩
    refine br_n (fun z => absurd (by first | decide | rfl) z) (fun _ => ?_)
    refine xcall (sp_errs rfl (-1000000002) (by decide) fun F v => ?_)
    exact xgenK (w0 := wM0 0) (K := K) (fun F v => by have q := h F v; unfold an_judge at q; rw [if_pos (show xin a 4 by simp only [xin, xlt, xle, xeq, Int32.reduceToInt] at a1 ⊢; omega)] at q; exact q) rfl
set_option maxRecDepth 100000 in
set_option maxHeartbeats 1000000 in
theorem fm_image {K : xKo} (h : ∀ F v, K (some (.int an_image)) (xfill F v 0 (wM0 0))) : C_M_image [.ref 0] (wM0 0) K := by
  refine xM_go rfl 23 [] fun P hP => ?_
  refine xcall (sp_moveAll_1_2 FM0 VM0 fun g g1 g2 => ?_)
  refine ⟨Or.inr rfl, ?_⟩
  exact xgenK h rfl
set_option maxRecDepth 100000 in
set_option maxHeartbeats 1000000 in
theorem fm_restore {K : xKo} (h : ∀ F v, K (some (.int an_restore)) (xfill F v 0 (wM0 0))) : C_M_restore [.ref 0] (wM0 0) K := by
  refine xM_go rfl 12 [] fun P hP => ?_
  refine br_n (fun z => absurd (by first | decide | rfl) z) (fun _ => ?_)
  refine xcall (sp_errs rfl (-1000000002) (by decide) fun F v => ?_)
  exact xgenK h rfl
set_option maxRecDepth 100000 in
set_option maxHeartbeats 1000000 in
theorem fm_tell (a : Int32) {K : xKo} (h : ∀ F v, K (some (.int (an_tell a))) (xfill F v 0 (wM0 0))) : C_M_tell [.ref 0, .int a] (wM0 0) K := by
  refine xM_go rfl 34 [] fun P hP => ?_
  refine ⟨vin (by decide), ?_⟩
  refine br_n (fun _ => ?_) (fun z => absurd z (by decide))
  refine ⟨vin (by decide), ?_⟩
  refine ⟨vin (by decide), ?_⟩
  refine ⟨vin (by decide), ?_⟩
  refine ⟨vin (by decide), ?_⟩
  refine ⟨vin (by decide), ?_⟩
  exact xgenK h rfl
set_option maxRecDepth 100000 in
set_option maxHeartbeats 1000000 in
theorem fm_check {K : xKo} (h : ∀ F v, K (some (.int an_check)) (xfill F v 0 (wM0 0))) : C_M_check [.ref 0] (wM0 0) K := by
  refine xM_go rfl 26 [] fun P hP => ?_
  refine ⟨vin (by decide), ?_⟩
  refine ⟨vin (by decide), ?_⟩
  refine br_c (fun _ => ?_) (fun z => absurd (by first | decide | rfl) z)
  refine br_n (fun z => absurd (by first | decide | rfl) z) (fun _ => ?_)
  exact xgenK h rfl
set_option maxRecDepth 100000 in
set_option maxHeartbeats 1000000 in
theorem fm_count (a : Int32) {K : xKo} (h : ∀ F v, K (some (.int (an_count a))) (xfill F v 0 (wM0 0))) : C_M_count [.ref 0, .int a] (wM0 0) K := by
  refine xM_go rfl 12 [] fun P hP => ?_
  refine br_c (fun a1 => ?_) (fun a1 => ?_)
  · refine ⟨vin (by decide), ?_⟩
    exact xgenK (w0 := wM0 0) (K := K) (fun F v => by have q := h F v; unfold an_count at q; rw [if_neg (show ¬ (a = 3) by simp only [xin, xlt, xle, xeq, Int32.reduceToInt] at a1 ⊢; omega), if_neg (show ¬ (a = 9) by simp only [xin, xlt, xle, xeq, Int32.reduceToInt] at a1 ⊢; omega), if_pos (show xin a 10 by simp only [xin, xlt, xle, xeq, Int32.reduceToInt] at a1 ⊢; omega)] at q; exact q) rfl
  refine br_c (fun a2 => ?_) (fun a2 => ?_)
  · refine ⟨vin (by decide), ?_⟩
    exact xgenK (w0 := wM0 0) (K := K) (fun F v => by have q := h F v; unfold an_count at q; rw [if_neg (show ¬ (a = 3) by simp only [xin, xlt, xle, xeq, Int32.reduceToInt] at a1 a2 ⊢; omega), if_neg (show ¬ (a = 9) by simp only [xin, xlt, xle, xeq, Int32.reduceToInt] at a1 a2 ⊢; omega), if_pos (show xin a 10 by simp only [xin, xlt, xle, xeq, Int32.reduceToInt] at a1 a2 ⊢; omega)] at q; exact q) rfl
  refine br_c (fun a3 => ?_) (fun a3 => ?_)
  · refine ⟨vin (by decide), ?_⟩
    exact xgenK (w0 := wM0 0) (K := K) (fun F v => by have q := h F v; unfold an_count at q; rw [if_neg (show ¬ (a = 3) by simp only [xin, xlt, xle, xeq, Int32.reduceToInt] at a1 a2 a3 ⊢; omega), if_neg (show ¬ (a = 9) by simp only [xin, xlt, xle, xeq, Int32.reduceToInt] at a1 a2 a3 ⊢; omega), if_pos (show xin a 10 by simp only [xin, xlt, xle, xeq, Int32.reduceToInt] at a1 a2 a3 ⊢; omega)] at q; exact q) rfl
  refine br_c (fun a4 => ?_) (fun a4 => ?_)
  · refine ⟨vin (by decide), ?_⟩
    exact xgenK (w0 := wM0 0) (K := K) (fun F v => by have q := h F v; unfold an_count at q; rw [if_pos (show a = 3 by simp only [xin, xlt, xle, xeq, Int32.reduceToInt] at a1 a2 a3 a4 ⊢; omega)] at q; exact q) rfl
  refine br_c (fun a5 => ?_) (fun a5 => ?_)
  · refine xcall (sp_sumOf0 _ ?_)
    exact xgenK (w0 := wM0 0) (K := K) (fun F v => by have q := h F v; unfold an_count at q; rw [if_neg (show ¬ (a = 3) by simp only [xin, xlt, xle, xeq, Int32.reduceToInt] at a1 a2 a3 a4 a5 ⊢; omega), if_neg (show ¬ (a = 9) by simp only [xin, xlt, xle, xeq, Int32.reduceToInt] at a1 a2 a3 a4 a5 ⊢; omega), if_pos (show xin a 10 by simp only [xin, xlt, xle, xeq, Int32.reduceToInt] at a1 a2 a3 a4 a5 ⊢; omega)] at q; exact q) rfl
  refine br_c (fun a6 => ?_) (fun a6 => ?_)
  · refine xcall (sp_sumOf0 _ ?_)
    exact xgenK (w0 := wM0 0) (K := K) (fun F v => by have q := h F v; unfold an_count at q; rw [if_neg (show ¬ (a = 3) by simp only [xin, xlt, xle, xeq, Int32.reduceToInt] at a1 a2 a3 a4 a5 a6 ⊢; omega), if_neg (show ¬ (a = 9) by simp only [xin, xlt, xle, xeq, Int32.reduceToInt] at a1 a2 a3 a4 a5 a6 ⊢; omega), if_pos (show xin a 10 by simp only [xin, xlt, xle, xeq, Int32.reduceToInt] at a1 a2 a3 a4 a5 a6 ⊢; omega)] at q; exact q) rfl
  refine br_c (fun a7 => ?_) (fun a7 => ?_)
  · refine ⟨vin (by decide), ?_⟩
    exact xgenK (w0 := wM0 0) (K := K) (fun F v => by have q := h F v; unfold an_count at q; rw [if_neg (show ¬ (a = 3) by simp only [xin, xlt, xle, xeq, Int32.reduceToInt] at a1 a2 a3 a4 a5 a6 a7 ⊢; omega), if_neg (show ¬ (a = 9) by simp only [xin, xlt, xle, xeq, Int32.reduceToInt] at a1 a2 a3 a4 a5 a6 a7 ⊢; omega), if_pos (show xin a 10 by simp only [xin, xlt, xle, xeq, Int32.reduceToInt] at a1 a2 a3 a4 a5 a6 a7 ⊢; omega)] at q; exact q) rfl
  refine br_c (fun a8 => ?_) (fun a8 => ?_)
  · refine ⟨vin (by decide), ?_⟩
    exact xgenK (w0 := wM0 0) (K := K) (fun F v => by have q := h F v; unfold an_count at q; rw [if_neg (show ¬ (a = 3) by simp only [xin, xlt, xle, xeq, Int32.reduceToInt] at a1 a2 a3 a4 a5 a6 a7 a8 ⊢; omega), if_neg (show ¬ (a = 9) by simp only [xin, xlt, xle, xeq, Int32.reduceToInt] at a1 a2 a3 a4 a5 a6 a7 a8 ⊢; omega), if_pos (show xin a 10 by simp only [xin, xlt, xle, xeq, Int32.reduceToInt] at a1 a2 a3 a4 a5 a6 a7 a8 ⊢; omega)] at q; exact q) rfl
  refine br_c (fun a9 => ?_) (fun a9 => ?_)
  · exact xgenK (w0 := wM0 0) (K := K) (fun F v => by have q := h F v; unfold an_count at q; rw [if_neg (show ¬ (a = 3) by simp only [xin, xlt, xle, xeq, Int32.reduceToInt] at a1 a2 a3 a4 a5 a6 a7 a8 a9 ⊢; omega), if_neg (show ¬ (a = 9) by simp only [xin, xlt, xle, xeq, Int32.reduceToInt] at a1 a2 a3 a4 a5 a6 a7 a8 a9 ⊢; omega), if_pos (show xin a 10 by simp only [xin, xlt, xle, xeq, Int32.reduceToInt] at a1 a2 a3 a4 a5 a6 a7 a8 a9 ⊢; omega)] at q; exact q) rfl
  refine br_c (fun a10 => ?_) (fun a10 => ?_)
  · refine ⟨vin (by decide), ?_⟩
    exact xgenK (w0 := wM0 0) (K := K) (fun F v => by have q := h F v; unfold an_count at q; rw [if_neg (show ¬ (a = 3) by simp only [xin, xlt, xle, xeq, Int32.reduceToInt] at a1 a2 a3 a4 a5 a6 a7 a8 a9 a10 ⊢; omega), if_pos (show a = 9 by simp only [xin, xlt, xle, xeq, Int32.reduceToInt] at a1 a2 a3 a4 a5 a6 a7 a8 a9 a10 ⊢; omega)] at q; exact q) rfl
  refine xcall (sp_errs rfl (-1000000001) (by decide) fun F v => ?_)
  exact xgenK (w0 := wM0 0) (K := K) (fun F v => by have q := h F v; unfold an_count at q; rw [if_neg (show ¬ (a = 3) by simp only [xin, xlt, xle, xeq, Int32.reduceToInt] at a1 a2 a3 a4 a5 a6 a7 a8 a9 a10 ⊢; omega), if_neg (show ¬ (a = 9) by simp only [xin, xlt, xle, xeq, Int32.reduceToInt] at a1 a2 a3 a4 a5 a6 a7 a8 a9 a10 ⊢; omega), if_neg (show ¬ (xin a 10) by simp only [xin, xlt, xle, xeq, Int32.reduceToInt] at a1 a2 a3 a4 a5 a6 a7 a8 a9 a10 ⊢; omega)] at q; exact q) rfl
set_option maxRecDepth 100000 in
set_option maxHeartbeats 1000000 in
theorem fm_told (a : Int32) {K : xKo} (h : ∀ F v, K (some (.int (an_told a))) (xfill F v 0 (wM0 0))) : C_M_told [.ref 0, .int a] (wM0 0) K := by
  refine xM_go rfl 16 [] fun P hP => ?_
  refine xcall (sp_in _ _ _ (fun a1 => ?_) (fun a1 => ?_))
  · refine br_c (fun _ => ?_) (fun z => absurd (by first | decide | rfl) z)
    refine xcall (sp_errs rfl (-1000000001) (by decide) fun F v => ?_)
    exact xgenK (w0 := wM0 0) (K := K) (fun F v => by have q := h F v; unfold an_told at q; rw [if_neg (show ¬ (1 ≤ a.toInt ∧ a.toInt ≤ 5) by simp only [xin, xlt, xle, xeq, Int32.reduceToInt] at a1 ⊢; omega)] at q; exact q) rfl
  · refine br_c (fun z => absurd z (by decide)) (fun _ => ?_)
    refine ⟨vin (by simp only [xin, xlt, xle, Int32.reduceToInt] at a1 ⊢; omega), ?_⟩
    exact xgenK (w0 := wM0 0) (K := K) (fun F v => by have q := h F v; unfold an_told at q; rw [if_pos (show 1 ≤ a.toInt ∧ a.toInt ≤ 5 by simp only [xin, xlt, xle, xeq, Int32.reduceToInt] at a1 ⊢; omega)] at q; exact q) rfl

