/-! ===== the reference: calls, without their outcome ===== -/
theorem sp_isMark (v : Int32) {K : xKo} (h0 : ¬ xin v 6 → K (some (.int 0)) []) (h1 : xin v 6 → K (some (.int 1)) []) : C_M_isMark [.int v] [] K := by
  refine xM_go rfl 40 [] fun P hP => ?_
  refine xcall (sp_in v 0 5 (fun a => ?_) (fun a => ?_))
  · exact ⟨Or.inl rfl, h0 (by simp only [xin, Int32.reduceToInt] at a ⊢; omega)⟩
  · exact ⟨Or.inr rfl, h1 (by simp only [xin, Int32.reduceToInt] at a ⊢; omega)⟩
theorem sp_areSteps (v : Int32) {K : xKo} (h0 : ¬ xin v 10 → K (some (.int 0)) []) (h1 : xin v 10 → K (some (.int 1)) []) : C_M_areSteps [.int v] [] K := by
  refine xM_go rfl 40 [] fun P hP => ?_
  refine xcall (sp_in v 0 9 (fun a => ?_) (fun a => ?_))
  · exact ⟨Or.inl rfl, h0 (by simp only [xin, Int32.reduceToInt] at a ⊢; omega)⟩
  · exact ⟨Or.inr rfl, h1 (by simp only [xin, Int32.reduceToInt] at a ⊢; omega)⟩
theorem sp_isSheet (v : Int32) {K : xKo} (h0 : ¬ xin v 4 → K (some (.int 0)) []) (h1 : xin v 4 → K (some (.int 1)) []) : C_M_isSheet [.int v] [] K := by
  refine xM_go rfl 40 [] fun P hP => ?_
  refine xcall (sp_in v 0 3 (fun a => ?_) (fun a => ?_))
  · exact ⟨Or.inl rfl, h0 (by simp only [xin, Int32.reduceToInt] at a ⊢; omega)⟩
  · exact ⟨Or.inr rfl, h1 (by simp only [xin, Int32.reduceToInt] at a ⊢; omega)⟩
theorem sp_moveAll_1_3 (F : Nat → Nat → Int32) (v : Nat → Nat → Int32) {K : xKo} (h : ∀ g : Nat → Int32, (∀ x, x < 230 → g x = F 1 x) → (∀ x, 230 ≤ x → g x = F 3 x) → K none (xfill (va_up F 3 g) v 0 (wM0 0))) : C_M_moveAll [.ref 0, .ref 1, .ref 3] (xfill F v 0 (wM0 0)) K := by
  have key : ∀ (d k : Nat) (g : Nat → Int32), k + d = 230 → (∀ x, x < k → g x = F 1 x) → (∀ x, k ≤ x → g x = F 3 x) → xWP pg_M_moveAll K 2 [(0, .ref 0), (1, .ref 1), (2, .ref 3), (3, .int (nI k))] [] (xfill (va_up F 3 g) v 0 (wM0 0)) (0, 0) := by
    intro d
    induction d with
    | zero =>
      intro k g hk h1 h2
      have hk : k = 230 := hk
      subst hk
      refine xWP_go 30 [(2, [0, 1, 2, 3])] fun P hP => ?_
      refine br_c (fun e => ?_) (fun e => absurd (by decide) e)
      exact h g h1 h2
    | succ d ih =>
      intro k g hk h1 h2
      have e1 : (nI k).toNatClampNeg = k := nI_clamp (by omega)
      refine xWP_go 30 [(2, [0, 1, 2, 3])] fun P hP => ?_
      refine br_c (fun e => absurd e (nI_ge (b := 230) (by omega) (by omega))) (fun e => ?_)
      refine ⟨vp_in_nI (by omega) (by omega), ?_⟩
      refine ⟨vp_in_nI (by omega) (by omega), ?_⟩
      refine hP _ _ _ _ _ ?_
      rw [e1, nI_1]
      refine ih (k + 1) (upd g k (F 1 k)) (by omega) (fun x hx => ?_) (fun x hx => ?_)
      · by_cases hxk : x = k
        · subst hxk; exact pk_us
        · rw [pk_un hxk]; exact h1 x (by omega)
      · rw [pk_un (by omega)]; exact h2 x (by omega)
  refine xM_go rfl 30 [(2, [0, 1, 2, 3])] fun P hP => ?_
  refine hP _ _ _ _ _ ?_
  exact key 230 0 (F 3) (Nat.zero_add _) (fun x hx => absurd hx (Nat.not_lt_zero x)) (fun x _ => rfl)
theorem sp_moveAll_3_1 (F : Nat → Nat → Int32) (v : Nat → Nat → Int32) {K : xKo} (h : ∀ g : Nat → Int32, (∀ x, x < 230 → g x = F 3 x) → (∀ x, 230 ≤ x → g x = F 1 x) → K none (xfill (va_up F 1 g) v 0 (wM0 0))) : C_M_moveAll [.ref 0, .ref 3, .ref 1] (xfill F v 0 (wM0 0)) K := by
  have key : ∀ (d k : Nat) (g : Nat → Int32), k + d = 230 → (∀ x, x < k → g x = F 3 x) → (∀ x, k ≤ x → g x = F 1 x) → xWP pg_M_moveAll K 2 [(0, .ref 0), (1, .ref 3), (2, .ref 1), (3, .int (nI k))] [] (xfill (va_up F 1 g) v 0 (wM0 0)) (0, 0) := by
    intro d
    induction d with
    | zero =>
      intro k g hk h1 h2
      have hk : k = 230 := hk
      subst hk
      refine xWP_go 30 [(2, [0, 1, 2, 3])] fun P hP => ?_
      refine br_c (fun e => ?_) (fun e => absurd (by decide) e)
      exact h g h1 h2
    | succ d ih =>
      intro k g hk h1 h2
      have e1 : (nI k).toNatClampNeg = k := nI_clamp (by omega)
      refine xWP_go 30 [(2, [0, 1, 2, 3])] fun P hP => ?_
      refine br_c (fun e => absurd e (nI_ge (b := 230) (by omega) (by omega))) (fun e => ?_)
      refine ⟨vp_in_nI (by omega) (by omega), ?_⟩
      refine ⟨vp_in_nI (by omega) (by omega), ?_⟩
      refine hP _ _ _ _ _ ?_
      rw [e1, nI_1]
      refine ih (k + 1) (upd g k (F 3 k)) (by omega) (fun x hx => ?_) (fun x hx => ?_)
      · by_cases hxk : x = k
        · subst hxk; exact pk_us
        · rw [pk_un hxk]; exact h1 x (by omega)
      · rw [pk_un (by omega)]; exact h2 x (by omega)
  refine xM_go rfl 30 [(2, [0, 1, 2, 3])] fun P hP => ?_
  refine hP _ _ _ _ _ ?_
  exact key 230 0 (F 1) (Nat.zero_add _) (fun x hx => absurd hx (Nat.not_lt_zero x)) (fun x _ => rfl)
theorem sp_moveAll_1_4 (F : Nat → Nat → Int32) (v : Nat → Nat → Int32) {K : xKo} (h : ∀ g : Nat → Int32, (∀ x, x < 230 → g x = F 1 x) → (∀ x, 230 ≤ x → g x = F 4 x) → K none (xfill (va_up F 4 g) v 0 (wM0 0))) : C_M_moveAll [.ref 0, .ref 1, .ref 4] (xfill F v 0 (wM0 0)) K := by
  have key : ∀ (d k : Nat) (g : Nat → Int32), k + d = 230 → (∀ x, x < k → g x = F 1 x) → (∀ x, k ≤ x → g x = F 4 x) → xWP pg_M_moveAll K 2 [(0, .ref 0), (1, .ref 1), (2, .ref 4), (3, .int (nI k))] [] (xfill (va_up F 4 g) v 0 (wM0 0)) (0, 0) := by
    intro d
    induction d with
    | zero =>
      intro k g hk h1 h2
      have hk : k = 230 := hk
      subst hk
      refine xWP_go 30 [(2, [0, 1, 2, 3])] fun P hP => ?_
      refine br_c (fun e => ?_) (fun e => absurd (by decide) e)
      exact h g h1 h2
    | succ d ih =>
      intro k g hk h1 h2
      have e1 : (nI k).toNatClampNeg = k := nI_clamp (by omega)
      refine xWP_go 30 [(2, [0, 1, 2, 3])] fun P hP => ?_
      refine br_c (fun e => absurd e (nI_ge (b := 230) (by omega) (by omega))) (fun e => ?_)
      refine ⟨vp_in_nI (by omega) (by omega), ?_⟩
      refine ⟨vp_in_nI (by omega) (by omega), ?_⟩
      refine hP _ _ _ _ _ ?_
      rw [e1, nI_1]
      refine ih (k + 1) (upd g k (F 1 k)) (by omega) (fun x hx => ?_) (fun x hx => ?_)
      · by_cases hxk : x = k
        · subst hxk; exact pk_us
        · rw [pk_un hxk]; exact h1 x (by omega)
      · rw [pk_un (by omega)]; exact h2 x (by omega)
  refine xM_go rfl 30 [(2, [0, 1, 2, 3])] fun P hP => ?_
  refine hP _ _ _ _ _ ?_
  exact key 230 0 (F 4) (Nat.zero_add _) (fun x hx => absurd hx (Nat.not_lt_zero x)) (fun x _ => rfl)
theorem sp_moveAll_4_1 (F : Nat → Nat → Int32) (v : Nat → Nat → Int32) {K : xKo} (h : ∀ g : Nat → Int32, (∀ x, x < 230 → g x = F 4 x) → (∀ x, 230 ≤ x → g x = F 1 x) → K none (xfill (va_up F 1 g) v 0 (wM0 0))) : C_M_moveAll [.ref 0, .ref 4, .ref 1] (xfill F v 0 (wM0 0)) K := by
  have key : ∀ (d k : Nat) (g : Nat → Int32), k + d = 230 → (∀ x, x < k → g x = F 4 x) → (∀ x, k ≤ x → g x = F 1 x) → xWP pg_M_moveAll K 2 [(0, .ref 0), (1, .ref 4), (2, .ref 1), (3, .int (nI k))] [] (xfill (va_up F 1 g) v 0 (wM0 0)) (0, 0) := by
    intro d
    induction d with
    | zero =>
      intro k g hk h1 h2
      have hk : k = 230 := hk
      subst hk
      refine xWP_go 30 [(2, [0, 1, 2, 3])] fun P hP => ?_
      refine br_c (fun e => ?_) (fun e => absurd (by decide) e)
      exact h g h1 h2
    | succ d ih =>
      intro k g hk h1 h2
      have e1 : (nI k).toNatClampNeg = k := nI_clamp (by omega)
      refine xWP_go 30 [(2, [0, 1, 2, 3])] fun P hP => ?_
      refine br_c (fun e => absurd e (nI_ge (b := 230) (by omega) (by omega))) (fun e => ?_)
      refine ⟨vp_in_nI (by omega) (by omega), ?_⟩
      refine ⟨vp_in_nI (by omega) (by omega), ?_⟩
      refine hP _ _ _ _ _ ?_
      rw [e1, nI_1]
      refine ih (k + 1) (upd g k (F 4 k)) (by omega) (fun x hx => ?_) (fun x hx => ?_)
      · by_cases hxk : x = k
        · subst hxk; exact pk_us
        · rw [pk_un hxk]; exact h1 x (by omega)
      · rw [pk_un (by omega)]; exact h2 x (by omega)
  refine xM_go rfl 30 [(2, [0, 1, 2, 3])] fun P hP => ?_
  refine hP _ _ _ _ _ ?_
  exact key 230 0 (F 1) (Nat.zero_add _) (fun x hx => absurd hx (Nat.not_lt_zero x)) (fun x _ => rfl)
theorem sp_moveAll_1_2 (F : Nat → Nat → Int32) (v : Nat → Nat → Int32) {K : xKo} (h : ∀ g : Nat → Int32, (∀ x, x < 230 → g x = F 1 x) → (∀ x, 230 ≤ x → g x = F 2 x) → K none (xfill (va_up F 2 g) v 0 (wM0 0))) : C_M_moveAll [.ref 0, .ref 1, .ref 2] (xfill F v 0 (wM0 0)) K := by
  have key : ∀ (d k : Nat) (g : Nat → Int32), k + d = 230 → (∀ x, x < k → g x = F 1 x) → (∀ x, k ≤ x → g x = F 2 x) → xWP pg_M_moveAll K 2 [(0, .ref 0), (1, .ref 1), (2, .ref 2), (3, .int (nI k))] [] (xfill (va_up F 2 g) v 0 (wM0 0)) (0, 0) := by
    intro d
    induction d with
    | zero =>
      intro k g hk h1 h2
      have hk : k = 230 := hk
      subst hk
      refine xWP_go 30 [(2, [0, 1, 2, 3])] fun P hP => ?_
      refine br_c (fun e => ?_) (fun e => absurd (by decide) e)
      exact h g h1 h2
    | succ d ih =>
      intro k g hk h1 h2
      have e1 : (nI k).toNatClampNeg = k := nI_clamp (by omega)
      refine xWP_go 30 [(2, [0, 1, 2, 3])] fun P hP => ?_
      refine br_c (fun e => absurd e (nI_ge (b := 230) (by omega) (by omega))) (fun e => ?_)
      refine ⟨vp_in_nI (by omega) (by omega), ?_⟩
      refine ⟨vp_in_nI (by omega) (by omega), ?_⟩
      refine hP _ _ _ _ _ ?_
      rw [e1, nI_1]
      refine ih (k + 1) (upd g k (F 1 k)) (by omega) (fun x hx => ?_) (fun x hx => ?_)
      · by_cases hxk : x = k
        · subst hxk; exact pk_us
        · rw [pk_un hxk]; exact h1 x (by omega)
      · rw [pk_un (by omega)]; exact h2 x (by omega)
  refine xM_go rfl 30 [(2, [0, 1, 2, 3])] fun P hP => ?_
  refine hP _ _ _ _ _ ?_
  exact key 230 0 (F 2) (Nat.zero_add _) (fun x hx => absurd hx (Nat.not_lt_zero x)) (fun x _ => rfl)
theorem sp_moveAll_2_1 (F : Nat → Nat → Int32) (v : Nat → Nat → Int32) {K : xKo} (h : ∀ g : Nat → Int32, (∀ x, x < 230 → g x = F 2 x) → (∀ x, 230 ≤ x → g x = F 1 x) → K none (xfill (va_up F 1 g) v 0 (wM0 0))) : C_M_moveAll [.ref 0, .ref 2, .ref 1] (xfill F v 0 (wM0 0)) K := by
  have key : ∀ (d k : Nat) (g : Nat → Int32), k + d = 230 → (∀ x, x < k → g x = F 2 x) → (∀ x, k ≤ x → g x = F 1 x) → xWP pg_M_moveAll K 2 [(0, .ref 0), (1, .ref 2), (2, .ref 1), (3, .int (nI k))] [] (xfill (va_up F 1 g) v 0 (wM0 0)) (0, 0) := by
    intro d
    induction d with
    | zero =>
      intro k g hk h1 h2
      have hk : k = 230 := hk
      subst hk
      refine xWP_go 30 [(2, [0, 1, 2, 3])] fun P hP => ?_
      refine br_c (fun e => ?_) (fun e => absurd (by decide) e)
      exact h g h1 h2
    | succ d ih =>
      intro k g hk h1 h2
      have e1 : (nI k).toNatClampNeg = k := nI_clamp (by omega)
      refine xWP_go 30 [(2, [0, 1, 2, 3])] fun P hP => ?_
      refine br_c (fun e => absurd e (nI_ge (b := 230) (by omega) (by omega))) (fun e => ?_)
      refine ⟨vp_in_nI (by omega) (by omega), ?_⟩
      refine ⟨vp_in_nI (by omega) (by omega), ?_⟩
      refine hP _ _ _ _ _ ?_
      rw [e1, nI_1]
      refine ih (k + 1) (upd g k (F 2 k)) (by omega) (fun x hx => ?_) (fun x hx => ?_)
      · by_cases hxk : x = k
        · subst hxk; exact pk_us
        · rw [pk_un hxk]; exact h1 x (by omega)
      · rw [pk_un (by omega)]; exact h2 x (by omega)
  refine xM_go rfl 30 [(2, [0, 1, 2, 3])] fun P hP => ?_
  refine hP _ _ _ _ _ ?_
  exact key 230 0 (F 1) (Nat.zero_add _) (fun x hx => absurd hx (Nat.not_lt_zero x)) (fun x _ => rfl)
theorem nI_mul (a b : Nat) : nI a * nI b = nI (a * b) := (Int32.ofNat_mul a b).symm
theorem ix5 {i w : Nat} : (25 : Int32) + 5 * nI i + nI w = nI (25 + 5 * i + w) := by
  rw [show (25 : Int32) = nI 25 from rfl, show (5 : Int32) = nI 5 from rfl, nI_mul, nI_add, nI_add]
theorem ix2 {i : Nat} : (9 : Int32) + 2 * nI i = nI (9 + 2 * i) := by
  rw [show (9 : Int32) = nI 9 from rfl, show (2 : Int32) = nI 2 from rfl, nI_mul, nI_add]
theorem nc5 {i w : Nat} (h : i < 1000) (k : w < 1000) : nat ((25 : Int32) + 5 * nI i + nI w) = 25 + 5 * i + w := by rw [ix5]; exact nI_clamp (by omega)
theorem nc2 {i : Nat} (h : i < 1000) : nat ((9 : Int32) + 2 * nI i) = 9 + 2 * i := by rw [ix2]; exact nI_clamp (by omega)
theorem nc21 {i : Nat} (h : i < 1000) : nat ((9 : Int32) + 2 * nI i + 1) = 9 + 2 * i + 1 := by rw [ix2, nI_1]; exact nI_clamp (by omega)
theorem vc5 {i w : Nat} (h : i < 7) (k : w < 5) : vp_in ((25 : Int32) + 5 * nI i + nI w) 230 := by rw [ix5]; exact vp_in_nI (by omega) (by omega)
theorem vc2 {i : Nat} (h : i < 8) : vp_in ((9 : Int32) + 2 * nI i) 230 := by rw [ix2]; exact vp_in_nI (by omega) (by omega)
theorem vc21 {i : Nat} (h : i < 8) : vp_in ((9 : Int32) + 2 * nI i + 1) 230 := by rw [ix2, nI_1]; exact vp_in_nI (by omega) (by omega)
/-- what may change: rows of numbers tried, the reader's own numbers, the row where R says so -/
def mR (R : Nat → Bool) (F v F' v' : xS) : Prop := (∀ k, k = 1 ∨ k = 3 ∨ k = 4 ∨ k = 5 ∨ F' k = F k) ∧ (∀ j, j < 230 → R j = false → F' 1 j = F 1 j) ∧ ∀ j, 7 ≤ j ∧ j < 15 ∨ v' 0 j = v 0 j
theorem mR.rf {R : Nat → Bool} {F v : xS} : mR R F v F v := ⟨fun _ => Or.inr (Or.inr (Or.inr (Or.inr rfl))), fun _ _ _ => rfl, fun _ => Or.inr rfl⟩
theorem mR.tr {R : Nat → Bool} {F v F' v' F2 v2 : xS} (h : mR R F v F' v') (g : mR R F' v' F2 v2) : mR R F v F2 v2 := by
  refine ⟨fun k => ?_, fun j a b => (g.2.1 j a b).trans (h.2.1 j a b), fun j => ?_⟩
  · rcases h.1 k with e | e | e | e | e
    · exact Or.inl e
    · exact Or.inr (Or.inl e)
    · exact Or.inr (Or.inr (Or.inl e))
    · exact Or.inr (Or.inr (Or.inr (Or.inl e)))
    · rcases g.1 k with d | d | d | d | d
      · exact Or.inl d
      · exact Or.inr (Or.inl d)
      · exact Or.inr (Or.inr (Or.inl d))
      · exact Or.inr (Or.inr (Or.inr (Or.inl d)))
      · exact Or.inr (Or.inr (Or.inr (Or.inr (d.trans e))))
  · rcases h.2.2 j with e | e
    · exact Or.inl e
    · rcases g.2.2 j with d | d
      · exact Or.inl d
      · exact Or.inr (d.trans e)
theorem mR.wd {R R2 : Nat → Bool} {F v F' v' : xS} (h : mR R F v F' v') (a : ∀ j, R2 j = false → R j = false) : mR R2 F v F' v' := ⟨h.1, fun j l z => h.2.1 j l (a j z), h.2.2⟩
theorem mR.row {R : Nat → Bool} {F v F' v' : xS} {j : Nat} {x : Int32} (h : mR R F v F' v') (a : R j = true) : mR R F v (va_up F' 1 (upd (F' 1) j x)) v' := by
  refine ⟨fun k => ?_, fun i l b => ?_, h.2.2⟩
  · by_cases e : k = 1
    · exact Or.inl e
    · have q : va_up F' 1 (upd (F' 1) j x) k = F' k := if_neg e
      rw [q]
      exact h.1 k
  · have n : ¬ i = j := fun e => by rw [e, a] at b; exact absurd b (by decide)
    have q : va_up F' 1 (upd (F' 1) j x) 1 i = F' 1 i := if_neg n
    rw [q]
    exact h.2.1 i l b
theorem mR.vs {R : Nat → Bool} {F v F' v' v2 : xS} (h : mR R F v F' v') (a : ∀ j, 7 ≤ j ∧ j < 15 ∨ v2 0 j = v' 0 j) : mR R F v F' v2 := h.tr ⟨fun _ => Or.inr (Or.inr (Or.inr (Or.inr rfl))), fun _ _ _ => rfl, a⟩
theorem mR.f3 {R : Nat → Bool} {F v F' v' : xS} {k : Nat} {f : Nat → Int32} (h : mR R F v F' v') (a : k = 3 ∨ k = 4 ∨ k = 5) : mR R F v (va_up F' k f) v' := by
  refine ⟨fun i => ?_, fun i l b => ?_, h.2.2⟩
  · by_cases e : i = k
    · rw [e]; exact Or.inr (a.elim Or.inl fun z => Or.inr (z.elim Or.inl fun y => Or.inr (Or.inl y)))
    · have q : va_up F' k f i = F' i := if_neg e
      rw [q]; exact h.1 i
  · have n : ¬ 1 = k := by omega
    have q : va_up F' k f 1 = F' 1 := if_neg n
    rw [q]; exact h.2.1 i l b
abbrev vR (v v' : xS) : Prop := ∀ j, 7 ≤ j ∧ j < 15 ∨ v' 0 j = v 0 j
def r0 (_ : Nat) : Bool := false
def r1 (j : Nat) : Bool := j == 8 || (Nat.ble 25 j && Nat.blt j 60 && Nat.ble 2 ((j - 25) % 5))
def r2 (j : Nat) : Bool := r1 j || j == 0
def mI (F : xS) : Prop := (below 8 (F 1 3) ∧ below 7 (F 1 2)) ∧ (F 1 6).toInt ≤ 50 ∧ (F 1 7).toInt ≤ 50
theorem mI.of {R : Nat → Bool} {F v F' v' : xS} (I : mI F) (h : mR R F v F' v') (a : R 2 = false ∧ R 3 = false ∧ R 6 = false ∧ R 7 = false) : mI F' := ⟨⟨by rw [h.2.1 3 (by omega) a.2.1]; exact I.1.1, by rw [h.2.1 2 (by omega) a.1]; exact I.1.2⟩, by rw [h.2.1 6 (by omega) a.2.2.1]; exact I.2.1, by rw [h.2.1 7 (by omega) a.2.2.2]; exact I.2.2⟩
theorem sp_its (F v : xS) (c w : Int32) (hb : vp_in (25 + 5 * c + w) 230) {K : xKo} (h : K (some (.int (F 1 (nat (25 + 5 * c + w))))) (xfill F v 0 (wM0 0))) : C_M_its [.ref 0, .int c, .int w] (xfill F v 0 (wM0 0)) K := by
  refine xM_go rfl 60 [] fun P hP => ?_
  refine ⟨hb, ?_⟩
  exact h
theorem sp_getsM (F v : xS) (c w x : Int32) (hb : vp_in (25 + 5 * c + w) 230) {K : xKo} (h : K none (xfill (va_up F 1 (upd (F 1) (nat (25 + 5 * c + w)) x)) v 0 (wM0 0))) : C_M_gets [.ref 0, .int c, .int w, .int x] (xfill F v 0 (wM0 0)) K := by
  refine xM_go rfl 60 [] fun P hP => ?_
  refine ⟨hb, ?_⟩
  exact h
theorem sp_becomesM (F v : xS) (i x : Int32) (hb : vp_in i 230) {K : xKo} (h : K (some (.int (F 1 (nat i)))) (xfill (va_up F 1 (upd (F 1) (nat i) x)) v 0 (wM0 0))) : C_M_becomes [.ref 0, .int i, .int x] (xfill F v 0 (wM0 0)) K := by
  refine xM_go rfl 60 [] fun P hP => ?_
  refine ⟨hb, ?_⟩
  refine ⟨hb, ?_⟩
  exact h
theorem in_pre {N : Nat} {x k : Int32} (b : below N x) (hN : N < 2 ^ 31) : ((0 : Int32).toInt ≤ k.toInt ∧ k.toInt ≤ (x - 1).toInt) ↔ xin k x.toInt := by
  obtain ⟨n, hn, rfl⟩ := b
  rw [nI_toInt (by omega)]
  cases n with
  | zero =>
    simp only [xin]
    have e : (nI 0 - 1).toInt = -1 := by decide
    rw [e, show (0 : Int32).toInt = 0 by decide]
    omega
  | succ n =>
    rw [nI_pred, nI_toInt (by omega), show (0 : Int32).toInt = 0 by decide]
    simp only [xin]
    omega
theorem sp_isThingM (F v : xS) (k : Int32) (b : below 8 (F 1 3)) {K : xKo} (h0 : ¬ xin k (F 1 3).toInt → K (some (.int 0)) (xfill F v 0 (wM0 0))) (h1 : xin k (F 1 3).toInt → K (some (.int 1)) (xfill F v 0 (wM0 0))) : C_M_isThing [.ref 0, .int k] (xfill F v 0 (wM0 0)) K := by
  refine xM_go rfl 60 [] fun P hP => ?_
  refine ⟨vin (by decide), ?_⟩
  refine xcall (sp_in _ _ _ (fun a => ?_) (fun a => ?_))
  · exact ⟨Or.inl rfl, h0 fun z => a ((in_pre b (by omega)).mpr z)⟩
  · exact ⟨Or.inr rfl, h1 ((in_pre b (by omega)).mp a)⟩
theorem sp_isChildM (F v : xS) (k : Int32) (b : below 7 (F 1 2)) {K : xKo} (h0 : ¬ xin k (F 1 2).toInt → K (some (.int 0)) (xfill F v 0 (wM0 0))) (h1 : xin k (F 1 2).toInt → K (some (.int 1)) (xfill F v 0 (wM0 0))) : C_M_isChild [.ref 0, .int k] (xfill F v 0 (wM0 0)) K := by
  refine xM_go rfl 60 [] fun P hP => ?_
  refine ⟨vin (by decide), ?_⟩
  refine xcall (sp_in _ _ _ (fun a => ?_) (fun a => ?_))
  · exact ⟨Or.inl rfl, h0 fun z => a ((in_pre b (by omega)).mpr z)⟩
  · exact ⟨Or.inr rfl, h1 ((in_pre b (by omega)).mp a)⟩
theorem sw_held (x l m : Int32) {K : xKo} (h : ∀ r, K (some (.int r)) []) : C_M_held [.int x, .int l, .int m] [] K := by
  refine xM_go rfl 60 [] fun P hP => ?_
  exact br_c (fun _ => br_c (fun _ => h _) (fun _ => h _)) (fun _ => h _)
theorem and_lt {x : Int32} (h : ¬ x = 0) : (x &&& (x - 1)).toBitVec.toNat < x.toBitVec.toNat := by
  have p : 0 < x.toBitVec.toNat := by
    refine Nat.pos_of_ne_zero fun z => h ?_
    refine Int32.toBitVec_inj.mp ?_
    exact BitVec.eq_of_toNat_eq (by rw [z]; rfl)
  have l : x.toBitVec.toNat < 2 ^ 32 := x.toBitVec.isLt
  have e : (x - 1).toBitVec.toNat = x.toBitVec.toNat - 1 := by
    have q : (x - 1).toBitVec = x.toBitVec - 1#32 := rfl
    rw [q, BitVec.toNat_sub]
    have o : (1#32).toNat = 1 := rfl
    rw [o]
    omega
  have q : (x &&& (x - 1)).toBitVec.toNat ≤ (x - 1).toBitVec.toNat := by
    rw [Int32.toBitVec_and, BitVec.toNat_and]
    exact Nat.and_le_right
  omega
theorem sw_bits (x : Int32) {K : xKo} (h : ∀ r, K (some (.int r)) []) : C_M_bits [.int x] [] K := by
  have key : ∀ (m : Nat) (y n : Int32), y.toBitVec.toNat ≤ m → xWP pg_M_bits K 4 [(0, .int x), (1, .int n), (2, .int y)] [] [] (0, 0) := by
    intro m
    induction m using Nat.strongRecOn with
    | ind m ih =>
      intro y n hm
      refine xWP_go 100 [(4, [0, 1, 2])] fun P hP => ?_
      refine br_c (fun _ => h _) (fun a => ?_)
      have l := and_lt a
      refine hP _ _ _ _ _ ?_
      exact ih (m - 1) (by omega) (y &&& (y - 1)) _ (by omega)
  refine xM_go rfl 60 [(4, [0, 1, 2])] fun P hP => ?_
  refine hP _ _ _ _ _ ?_
  exact key _ _ _ (Nat.le_refl _)
theorem sw_round (a b : Int32) {K : xKo} (h : ∀ r, K (some (.int r)) []) : C_M_round [.int a, .int b] [] K := by
  refine xM_go rfl 60 [] fun P hP => ?_
  refine ⟨by decide, ?_⟩
  exact br_c (fun _ => h _) (fun _ => h _)
theorem sw_paceM (F v : xS) (i : Nat) (hi : i < 7) {K : xKo} (h : ∀ r, K (some (.int r)) (xfill F v 0 (wM0 0))) : C_M_pace [.ref 0, .int (nI i)] (xfill F v 0 (wM0 0)) K := by
  refine xM_go rfl 100 [] fun P hP => ?_
  refine xcall (sp_its F v (nI i) 1 (vc5 hi (w := 1) (by omega)) ?_)
  refine ⟨vin (by decide), ?_⟩
  refine ⟨by decide, ?_⟩
  refine br_n (fun _ => ?_) (fun _ => ?_)
  all_goals
    refine xcall (sp_its F v (nI i) 0 (vc5 hi (w := 0) (by omega)) ?_)
    refine ⟨fun _ => ⟨by decide, h _⟩, fun _ => ?_⟩
    refine ⟨fun _ => h _, fun _ => ?_⟩
    refine ⟨fun _ => h _, fun _ => ?_⟩
    refine ⟨fun _ => h _, fun _ => ?_⟩
    refine ⟨fun _ => ⟨vin (by decide), br_c (fun _ => h _) (fun _ => h _)⟩, fun _ => ?_⟩
    refine ⟨fun _ => ⟨by decide, h _⟩, fun _ => ?_⟩
    exact h _
theorem sw_farM (F v : xS) (i : Nat) (hi : i < 7) {K : xKo} (h : ∀ r, K (some (.int r)) (xfill F v 0 (wM0 0))) : C_M_far [.ref 0, .int (nI i)] (xfill F v 0 (wM0 0)) K := by
  refine xM_go rfl 100 [] fun P hP => ?_
  refine xcall (sp_its F v (nI i) 1 (vc5 hi (w := 1) (by omega)) ?_)
  refine xcall (sp_its F v (nI i) 0 (vc5 hi (w := 0) (by omega)) ?_)
  refine ⟨fun _ => h _, fun _ => ?_⟩
  refine ⟨fun _ => ⟨by decide, h _⟩, fun _ => ?_⟩
  refine ⟨fun _ => h _, fun _ => ?_⟩
  refine ⟨fun _ => h _, fun _ => ?_⟩
  refine ⟨fun _ => ⟨by decide, h _⟩, fun _ => ?_⟩
  refine ⟨fun _ => h _, fun _ => ?_⟩
  exact h _
theorem sw_isMarked (F v : xS) (i : Nat) (hi : i < 8) (b : Int32) {K : xKo} (h : ∀ r, (r = 0 ∨ r = 1) → K (some (.int r)) (xfill F v 0 (wM0 0))) : C_M_isMarked [.ref 0, .int (nI i), .int b] (xfill F v 0 (wM0 0)) K := by
  refine xM_go rfl 100 [] fun P hP => ?_
  refine br_n (fun _ => ?_) (fun _ => ?_)
  · exact ⟨Or.inl rfl, h _ (Or.inl rfl)⟩
  refine ⟨vc21 hi, ?_⟩
  refine br_n (fun _ => ?_) (fun _ => ?_)
  · exact ⟨Or.inl rfl, h _ (Or.inl rfl)⟩
  · exact ⟨Or.inr rfl, h _ (Or.inr rfl)⟩
set_option maxRecDepth 100000 in
theorem sw_walks (F v : xS) (I : mI F) (u a b c : Int32) (hu : u = 0 ∨ u = 1) {K : xKo} (h : ∀ r v', vR v v' → (below 50 (v' 0 8) ∧ (v' 0 14 = 0 ∨ v' 0 14 = 1)) → K (some (.int r)) (xfill F v' 0 (wM0 0))) : C_M_walks [.ref 0, .int u, .int a, .int b, .int c] (xfill F v 0 (wM0 0)) K := by
  have hi : vp_in (6 + u) 230 := by
    rcases hu with e | e
    all_goals rw [e]; exact vin (by decide)
  have he : (F 1 (nat (6 + u))).toInt ≤ 50 := by
    rcases hu with e | e
    · rw [e]; exact I.2.1
    · rw [e]; exact I.2.2
  obtain ⟨v1, ev1⟩ : ∃ v1, v1 = va_up v 0 (va_up (va_up (va_up (va_up (va_up (va_up (va_up (va_up (v 0) 7 u) 8 0) 9 (F 1 (nat (6 + u)))) 10 0) 14 1) 11 a) 12 b) 13 c) := ⟨_, rfl⟩
  have J1 : gI v1 := by
    rw [ev1]
    exact ⟨hu, ⟨0, by omega, rfl⟩, he⟩
  have J2 : v1 0 10 = nI 0 := by rw [ev1]; rfl
  have J3 : vR v v1 := by
    intro j
    by_cases hj : 7 ≤ j ∧ j < 15
    · exact Or.inl hj
    · refine Or.inr ?_
      rw [ev1]
      exact (if_neg (by omega)).trans ((if_neg (by omega)).trans ((if_neg (by omega)).trans ((if_neg (by omega)).trans ((if_neg (by omega)).trans ((if_neg (by omega)).trans ((if_neg (by omega)).trans (if_neg (by omega))))))))
  refine xM_go rfl 100 [] fun P hP => ?_
  refine ⟨hi, ?_⟩
  refine ⟨Or.inr rfl, ?_⟩
  refine xcall (g_text60 F (va_up v 0 (va_up (va_up (va_up (va_up (va_up (va_up (va_up (va_up (v 0) 7 u) 8 0) 9 (F 1 (nat (6 + u)))) 10 0) 14 1) 11 a) 12 b) 13 c)) _ (by rw [← ev1]; exact J1) (by rw [← ev1]; exact J2) (fun r v' R => ?_))
  rw [← ev1] at R
  have go : ∀ g : Int32, (g = 0 ∨ g = 1) → K (some (.int r)) (xfill F (va_up v' 0 (va_up (v' 0) 14 g)) 0 (wM0 0)) := by
    intro g hg
    refine h _ _ (fun j => ?_) ⟨R.2.1, hg⟩
    by_cases hj : 7 ≤ j ∧ j < 15
    · exact Or.inl hj
    · have e1 : va_up v' 0 (va_up (v' 0) 14 g) 0 j = v' 0 j := if_neg (by omega)
      rw [e1, R.1 j (by omega) (by omega)]
      exact J3 j
  refine br_c (fun _ => ?_) (fun _ => ?_)
  · exact ⟨Or.inl rfl, go 0 (Or.inl rfl)⟩
  refine br_n (fun _ => ?_) (fun _ => ?_)
  · exact ⟨Or.inl rfl, go 0 (Or.inl rfl)⟩
  · exact ⟨Or.inr rfl, go 1 (Or.inr rfl)⟩
set_option maxRecDepth 100000 in
theorem sw_lawOf (F v : xS) (I : mI F) (u a b c : Int32) (hu : u = 0 ∨ u = 1) {K : xKo} (h : ∀ r v', vR v v' → K (some (.int r)) (xfill F v' 0 (wM0 0))) : C_M_lawOf [.ref 0, .int u, .int a, .int b, .int c] (xfill F v 0 (wM0 0)) K := by
  have hi : vp_in (6 + u) 230 := by
    rcases hu with e | e
    all_goals rw [e]; exact vin (by decide)
  refine xM_go rfl 100 [] fun P hP => ?_
  refine ⟨hi, ?_⟩
  refine br_c (fun _ => ?_) (fun _ => ?_)
  · refine xcall (sw_walks F v I u a b c hu (fun r v' R _ => ?_))
    refine xcall (sw_held _ _ _ (fun q => ?_))
    exact h _ _ R
  · exact h _ v (fun _ => Or.inr rfl)
