section
/-! ===== the reference: calls, without their outcome ===== -/
theorem sp_isMark (v : Int32) {K : xKo} (h0 : ¬ xin v 6 → K (some (.int 0)) []) (h1 : xin v 6 → K (some (.int 1)) []) : C_M_isMark [.int v] [] K := by
  refine xM_go rfl 40 [] fun P hP => ?_
  refine xcall (sp_in v 0 5 (fun a => ?_) (fun a => ?_))
  · exact ⟨Or.inl rfl, h0 (by simp only [xin, Int32.reduceToInt] at a ⊢; omega)⟩
  · exact ⟨Or.inr rfl, h1 (by simp only [xin, Int32.reduceToInt] at a ⊢; omega)⟩
theorem sp_areSteps (v : Int32) {K : xKo} (h0 : ¬ xin v 10 → K (some (.int 0)) []) (h1 : xin v 10 → K (some (.int 1)) []) : C_M_areSteps [.int v] [] K := by
  refine xM_go rfl 40 [] fun P hP => ?_
  refine xcall (sp_in v 0 9 (fun a => ?_) (fun a => ?_))
  · exact ⟨Or.inl rfl, h0 (by simp only [xin, Int32.reduceToInt] at a ⊢; omega)⟩
  · exact ⟨Or.inr rfl, h1 (by simp only [xin, Int32.reduceToInt] at a ⊢; omega)⟩
theorem sp_isSheet (v : Int32) {K : xKo} (h0 : ¬ xin v 4 → K (some (.int 0)) []) (h1 : xin v 4 → K (some (.int 1)) []) : C_M_isSheet [.int v] [] K := by
  refine xM_go rfl 40 [] fun P hP => ?_
  refine xcall (sp_in v 0 3 (fun a => ?_) (fun a => ?_))
  · exact ⟨Or.inl rfl, h0 (by simp only [xin, Int32.reduceToInt] at a ⊢; omega)⟩
  · exact ⟨Or.inr rfl, h1 (by simp only [xin, Int32.reduceToInt] at a ⊢; omega)⟩
theorem sp_moveAll_1_3 (F : Nat → Nat → Int32) (v : Nat → Nat → Int32) {K : xKo} (h : ∀ g : Nat → Int32, (∀ x, x < 230 → g x = F 1 x) → (∀ x, 230 ≤ x → g x = F 3 x) → K none (xfill (va_up F 3 g) v 0 (wM0 0))) : C_M_moveAll [.ref 0, .ref 1, .ref 3] (xfill F v 0 (wM0 0)) K := by
  have key : ∀ (d k : Nat) (g : Nat → Int32), k + d = 230 → (∀ x, x < k → g x = F 1 x) → (∀ x, k ≤ x → g x = F 3 x) → xWP pg_M_moveAll K 2 [(0, .ref 0), (1, .ref 1), (2, .ref 3), (3, .int (nI k))] [] (xfill (va_up F 3 g) v 0 (wM0 0)) (0, 0) := by
    intro d
    induction d with
    | zero =>
      intro k g hk h1 h2
      have hk : k = 230 := hk
      subst hk
      refine xWP_go 30 [(2, [0, 1, 2, 3])] fun P hP => ?_
      refine br_c (fun e => ?_) (fun e => absurd (by decide) e)
      exact h g h1 h2
    | succ d ih =>
      intro k g hk h1 h2
      have e1 : (nI k).toNatClampNeg = k := nI_clamp (by omega)
      refine xWP_go 30 [(2, [0, 1, 2, 3])] fun P hP => ?_
      refine br_c (fun e => absurd e (nI_ge (b := 230) (by omega) (by omega))) (fun e => ?_)
      refine ⟨vp_in_nI (by omega) (by omega), ?_⟩
      refine ⟨vp_in_nI (by omega) (by omega), ?_⟩
      refine hP _ _ _ _ _ ?_
      rw [e1, nI_1]
      refine ih (k + 1) (upd g k (F 1 k)) (by omega) (fun x hx => ?_) (fun x hx => ?_)
      · by_cases hxk : x = k
        · subst hxk; exact pk_us
        · rw [pk_un hxk]; exact h1 x (by omega)
      · rw [pk_un (by omega)]; exact h2 x (by omega)
  refine xM_go rfl 30 [(2, [0, 1, 2, 3])] fun P hP => ?_
  refine hP _ _ _ _ _ ?_
  exact key 230 0 (F 3) (Nat.zero_add _) (fun x hx => absurd hx (Nat.not_lt_zero x)) (fun x _ => rfl)
theorem sp_moveAll_3_1 (F : Nat → Nat → Int32) (v : Nat → Nat → Int32) {K : xKo} (h : ∀ g : Nat → Int32, (∀ x, x < 230 → g x = F 3 x) → (∀ x, 230 ≤ x → g x = F 1 x) → K none (xfill (va_up F 1 g) v 0 (wM0 0))) : C_M_moveAll [.ref 0, .ref 3, .ref 1] (xfill F v 0 (wM0 0)) K := by
  have key : ∀ (d k : Nat) (g : Nat → Int32), k + d = 230 → (∀ x, x < k → g x = F 3 x) → (∀ x, k ≤ x → g x = F 1 x) → xWP pg_M_moveAll K 2 [(0, .ref 0), (1, .ref 3), (2, .ref 1), (3, .int (nI k))] [] (xfill (va_up F 1 g) v 0 (wM0 0)) (0, 0) := by
    intro d
    induction d with
    | zero =>
      intro k g hk h1 h2
      have hk : k = 230 := hk
      subst hk
      refine xWP_go 30 [(2, [0, 1, 2, 3])] fun P hP => ?_
      refine br_c (fun e => ?_) (fun e => absurd (by decide) e)
      exact h g h1 h2
    | succ d ih =>
      intro k g hk h1 h2
      have e1 : (nI k).toNatClampNeg = k := nI_clamp (by omega)
      refine xWP_go 30 [(2, [0, 1, 2, 3])] fun P hP => ?_
      refine br_c (fun e => absurd e (nI_ge (b := 230) (by omega) (by omega))) (fun e => ?_)
      refine ⟨vp_in_nI (by omega) (by omega), ?_⟩
      refine ⟨vp_in_nI (by omega) (by omega), ?_⟩
      refine hP _ _ _ _ _ ?_
      rw [e1, nI_1]
      refine ih (k + 1) (upd g k (F 3 k)) (by omega) (fun x hx => ?_) (fun x hx => ?_)
      · by_cases hxk : x = k
        · subst hxk; exact pk_us
        · rw [pk_un hxk]; exact h1 x (by omega)
      · rw [pk_un (by omega)]; exact h2 x (by omega)
  refine xM_go rfl 30 [(2, [0, 1, 2, 3])] fun P hP => ?_
  refine hP _ _ _ _ _ ?_
  exact key 230 0 (F 1) (Nat.zero_add _) (fun x hx => absurd hx (Nat.not_lt_zero x)) (fun x _ => rfl)
theorem sp_moveAll_1_4 (F : Nat → Nat → Int32) (v : Nat → Nat → Int32) {K : xKo} (h : ∀ g : Nat → Int32, (∀ x, x < 230 → g x = F 1 x) → (∀ x, 230 ≤ x → g x = F 4 x) → K none (xfill (va_up F 4 g) v 0 (wM0 0))) : C_M_moveAll [.ref 0, .ref 1, .ref 4] (xfill F v 0 (wM0 0)) K := by
  have key : ∀ (d k : Nat) (g : Nat → Int32), k + d = 230 → (∀ x, x < k → g x = F 1 x) → (∀ x, k ≤ x → g x = F 4 x) → xWP pg_M_moveAll K 2 [(0, .ref 0), (1, .ref 1), (2, .ref 4), (3, .int (nI k))] [] (xfill (va_up F 4 g) v 0 (wM0 0)) (0, 0) := by
    intro d
    induction d with
    | zero =>
      intro k g hk h1 h2
      have hk : k = 230 := hk
      subst hk
      refine xWP_go 30 [(2, [0, 1, 2, 3])] fun P hP => ?_
      refine br_c (fun e => ?_) (fun e => absurd (by decide) e)
      exact h g h1 h2
    | succ d ih =>
      intro k g hk h1 h2
      have e1 : (nI k).toNatClampNeg = k := nI_clamp (by omega)
      refine xWP_go 30 [(2, [0, 1, 2, 3])] fun P hP => ?_
      refine br_c (fun e => absurd e (nI_ge (b := 230) (by omega) (by omega))) (fun e => ?_)
      refine ⟨vp_in_nI (by omega) (by omega), ?_⟩
      refine ⟨vp_in_nI (by omega) (by omega), ?_⟩
      refine hP _ _ _ _ _ ?_
      rw [e1, nI_1]
      refine ih (k + 1) (upd g k (F 1 k)) (by omega) (fun x hx => ?_) (fun x hx => ?_)
      · by_cases hxk : x = k
        · subst hxk; exact pk_us
        · rw [pk_un hxk]; exact h1 x (by omega)
      · rw [pk_un (by omega)]; exact h2 x (by omega)
  refine xM_go rfl 30 [(2, [0, 1, 2, 3])] fun P hP => ?_
  refine hP _ _ _ _ _ ?_
  exact key 230 0 (F 4) (Nat.zero_add _) (fun x hx => absurd hx (Nat.not_lt_zero x)) (fun x _ => rfl)
theorem sp_moveAll_4_1 (F : Nat → Nat → Int32) (v : Nat → Nat → Int32) {K : xKo} (h : ∀ g : Nat → Int32, (∀ x, x < 230 → g x = F 4 x) → (∀ x, 230 ≤ x → g x = F 1 x) → K none (xfill (va_up F 1 g) v 0 (wM0 0))) : C_M_moveAll [.ref 0, .ref 4, .ref 1] (xfill F v 0 (wM0 0)) K := by
  have key : ∀ (d k : Nat) (g : Nat → Int32), k + d = 230 → (∀ x, x < k → g x = F 4 x) → (∀ x, k ≤ x → g x = F 1 x) → xWP pg_M_moveAll K 2 [(0, .ref 0), (1, .ref 4), (2, .ref 1), (3, .int (nI k))] [] (xfill (va_up F 1 g) v 0 (wM0 0)) (0, 0) := by
    intro d
    induction d with
    | zero =>
      intro k g hk h1 h2
      have hk : k = 230 := hk
      subst hk
      refine xWP_go 30 [(2, [0, 1, 2, 3])] fun P hP => ?_
      refine br_c (fun e => ?_) (fun e => absurd (by decide) e)
      exact h g h1 h2
    | succ d ih =>
      intro k g hk h1 h2
      have e1 : (nI k).toNatClampNeg = k := nI_clamp (by omega)
      refine xWP_go 30 [(2, [0, 1, 2, 3])] fun P hP => ?_
      refine br_c (fun e => absurd e (nI_ge (b := 230) (by omega) (by omega))) (fun e => ?_)
      refine ⟨vp_in_nI (by omega) (by omega), ?_⟩
      refine ⟨vp_in_nI (by omega) (by omega), ?_⟩
      refine hP _ _ _ _ _ ?_
      rw [e1, nI_1]
      refine ih (k + 1) (upd g k (F 4 k)) (by omega) (fun x hx => ?_) (fun x hx => ?_)
      · by_cases hxk : x = k
        · subst hxk; exact pk_us
        · rw [pk_un hxk]; exact h1 x (by omega)
      · rw [pk_un (by omega)]; exact h2 x (by omega)
  refine xM_go rfl 30 [(2, [0, 1, 2, 3])] fun P hP => ?_
  refine hP _ _ _ _ _ ?_
  exact key 230 0 (F 1) (Nat.zero_add _) (fun x hx => absurd hx (Nat.not_lt_zero x)) (fun x _ => rfl)
theorem sp_moveAll_1_2 (F : Nat → Nat → Int32) (v : Nat → Nat → Int32) {K : xKo} (h : ∀ g : Nat → Int32, (∀ x, x < 230 → g x = F 1 x) → (∀ x, 230 ≤ x → g x = F 2 x) → K none (xfill (va_up F 2 g) v 0 (wM0 0))) : C_M_moveAll [.ref 0, .ref 1, .ref 2] (xfill F v 0 (wM0 0)) K := by
  have key : ∀ (d k : Nat) (g : Nat → Int32), k + d = 230 → (∀ x, x < k → g x = F 1 x) → (∀ x, k ≤ x → g x = F 2 x) → xWP pg_M_moveAll K 2 [(0, .ref 0), (1, .ref 1), (2, .ref 2), (3, .int (nI k))] [] (xfill (va_up F 2 g) v 0 (wM0 0)) (0, 0) := by
    intro d
    induction d with
    | zero =>
      intro k g hk h1 h2
      have hk : k = 230 := hk
      subst hk
      refine xWP_go 30 [(2, [0, 1, 2, 3])] fun P hP => ?_
      refine br_c (fun e => ?_) (fun e => absurd (by decide) e)
      exact h g h1 h2
    | succ d ih =>
      intro k g hk h1 h2
      have e1 : (nI k).toNatClampNeg = k := nI_clamp (by omega)
      refine xWP_go 30 [(2, [0, 1, 2, 3])] fun P hP => ?_
      refine br_c (fun e => absurd e (nI_ge (b := 230) (by omega) (by omega))) (fun e => ?_)
      refine ⟨vp_in_nI (by omega) (by omega), ?_⟩
      refine ⟨vp_in_nI (by omega) (by omega), ?_⟩
      refine hP _ _ _ _ _ ?_
      rw [e1, nI_1]
      refine ih (k + 1) (upd g k (F 1 k)) (by omega) (fun x hx => ?_) (fun x hx => ?_)
      · by_cases hxk : x = k
        · subst hxk; exact pk_us
        · rw [pk_un hxk]; exact h1 x (by omega)
      · rw [pk_un (by omega)]; exact h2 x (by omega)
  refine xM_go rfl 30 [(2, [0, 1, 2, 3])] fun P hP => ?_
  refine hP _ _ _ _ _ ?_
  exact key 230 0 (F 2) (Nat.zero_add _) (fun x hx => absurd hx (Nat.not_lt_zero x)) (fun x _ => rfl)
theorem sp_moveAll_2_1 (F : Nat → Nat → Int32) (v : Nat → Nat → Int32) {K : xKo} (h : ∀ g : Nat → Int32, (∀ x, x < 230 → g x = F 2 x) → (∀ x, 230 ≤ x → g x = F 1 x) → K none (xfill (va_up F 1 g) v 0 (wM0 0))) : C_M_moveAll [.ref 0, .ref 2, .ref 1] (xfill F v 0 (wM0 0)) K := by
  have key : ∀ (d k : Nat) (g : Nat → Int32), k + d = 230 → (∀ x, x < k → g x = F 2 x) → (∀ x, k ≤ x → g x = F 1 x) → xWP pg_M_moveAll K 2 [(0, .ref 0), (1, .ref 2), (2, .ref 1), (3, .int (nI k))] [] (xfill (va_up F 1 g) v 0 (wM0 0)) (0, 0) := by
    intro d
    induction d with
    | zero =>
      intro k g hk h1 h2
      have hk : k = 230 := hk
      subst hk
      refine xWP_go 30 [(2, [0, 1, 2, 3])] fun P hP => ?_
      refine br_c (fun e => ?_) (fun e => absurd (by decide) e)
      exact h g h1 h2
    | succ d ih =>
      intro k g hk h1 h2
      have e1 : (nI k).toNatClampNeg = k := nI_clamp (by omega)
      refine xWP_go 30 [(2, [0, 1, 2, 3])] fun P hP => ?_
      refine br_c (fun e => absurd e (nI_ge (b := 230) (by omega) (by omega))) (fun e => ?_)
      refine ⟨vp_in_nI (by omega) (by omega), ?_⟩
      refine ⟨vp_in_nI (by omega) (by omega), ?_⟩
      refine hP _ _ _ _ _ ?_
      rw [e1, nI_1]
      refine ih (k + 1) (upd g k (F 2 k)) (by omega) (fun x hx => ?_) (fun x hx => ?_)
      · by_cases hxk : x = k
        · subst hxk; exact pk_us
        · rw [pk_un hxk]; exact h1 x (by omega)
      · rw [pk_un (by omega)]; exact h2 x (by omega)
  refine xM_go rfl 30 [(2, [0, 1, 2, 3])] fun P hP => ?_
  refine hP _ _ _ _ _ ?_
  exact key 230 0 (F 1) (Nat.zero_add _) (fun x hx => absurd hx (Nat.not_lt_zero x)) (fun x _ => rfl)
theorem nI_mul (a b : Nat) : nI a * nI b = nI (a * b) := (Int32.ofNat_mul a b).symm
theorem ix5 {i w : Nat} : (25 : Int32) + 5 * nI i + nI w = nI (25 + 5 * i + w) := by
  rw [show (25 : Int32) = nI 25 from rfl, show (5 : Int32) = nI 5 from rfl, nI_mul, nI_add, nI_add]
theorem ix2 {i : Nat} : (9 : Int32) + 2 * nI i = nI (9 + 2 * i) := by
  rw [show (9 : Int32) = nI 9 from rfl, show (2 : Int32) = nI 2 from rfl, nI_mul, nI_add]
theorem nc5 {i w : Nat} (h : i < 1000) (k : w < 1000) : nat ((25 : Int32) + 5 * nI i + nI w) = 25 + 5 * i + w := by rw [ix5]; exact nI_clamp (by omega)
theorem nc2 {i : Nat} (h : i < 1000) : nat ((9 : Int32) + 2 * nI i) = 9 + 2 * i := by rw [ix2]; exact nI_clamp (by omega)
theorem nc21 {i : Nat} (h : i < 1000) : nat ((9 : Int32) + 2 * nI i + 1) = 9 + 2 * i + 1 := by rw [ix2, nI_1]; exact nI_clamp (by omega)
theorem vc5 {i w : Nat} (h : i < 7) (k : w < 5) : vp_in ((25 : Int32) + 5 * nI i + nI w) 230 := by rw [ix5]; exact vp_in_nI (by omega) (by omega)
theorem vc2 {i : Nat} (h : i < 8) : vp_in ((9 : Int32) + 2 * nI i) 230 := by rw [ix2]; exact vp_in_nI (by omega) (by omega)
theorem vc21 {i : Nat} (h : i < 8) : vp_in ((9 : Int32) + 2 * nI i + 1) 230 := by rw [ix2, nI_1]; exact vp_in_nI (by omega) (by omega)
/-- what may change: rows of numbers tried, the reader's own numbers, the row where R says so -/
def mR (R : Nat → Bool) (F v F' v' : xS) : Prop := (∀ k, k = 1 ∨ k = 3 ∨ k = 4 ∨ k = 99 ∨ F' k = F k) ∧ (∀ j, j < 230 → R j = false → F' 1 j = F 1 j) ∧ ∀ j, 7 ≤ j ∧ j < 15 ∨ v' 0 j = v 0 j
theorem mR.rf {R : Nat → Bool} {F v : xS} : mR R F v F v := ⟨fun _ => Or.inr (Or.inr (Or.inr (Or.inr rfl))), fun _ _ _ => rfl, fun _ => Or.inr rfl⟩
theorem mR.tr {R : Nat → Bool} {F v F' v' F2 v2 : xS} (h : mR R F v F' v') (g : mR R F' v' F2 v2) : mR R F v F2 v2 := by
  refine ⟨fun k => ?_, fun j a b => (g.2.1 j a b).trans (h.2.1 j a b), fun j => ?_⟩
  · rcases h.1 k with e | e | e | e | e
    · exact Or.inl e
    · exact Or.inr (Or.inl e)
    · exact Or.inr (Or.inr (Or.inl e))
    · exact Or.inr (Or.inr (Or.inr (Or.inl e)))
    · rcases g.1 k with d | d | d | d | d
      · exact Or.inl d
      · exact Or.inr (Or.inl d)
      · exact Or.inr (Or.inr (Or.inl d))
      · exact Or.inr (Or.inr (Or.inr (Or.inl d)))
      · exact Or.inr (Or.inr (Or.inr (Or.inr (d.trans e))))
  · rcases h.2.2 j with e | e
    · exact Or.inl e
    · rcases g.2.2 j with d | d
      · exact Or.inl d
      · exact Or.inr (d.trans e)
theorem mR.wd {R R2 : Nat → Bool} {F v F' v' : xS} (h : mR R F v F' v') (a : ∀ j, R2 j = false → R j = false) : mR R2 F v F' v' := ⟨h.1, fun j l z => h.2.1 j l (a j z), h.2.2⟩
theorem mR.row {R : Nat → Bool} {F v F' v' : xS} {j : Nat} {x : Int32} (h : mR R F v F' v') (a : R j = true) : mR R F v (va_up F' 1 (upd (F' 1) j x)) v' := by
  refine ⟨fun k => ?_, fun i l b => ?_, h.2.2⟩
  · by_cases e : k = 1
    · exact Or.inl e
    · have q : va_up F' 1 (upd (F' 1) j x) k = F' k := if_neg e
      rw [q]
      exact h.1 k
  · have n : ¬ i = j := fun e => by rw [e, a] at b; exact absurd b (by decide)
    have q : va_up F' 1 (upd (F' 1) j x) 1 i = F' 1 i := if_neg n
    rw [q]
    exact h.2.1 i l b
theorem mR.vs {R : Nat → Bool} {F v F' v' v2 : xS} (h : mR R F v F' v') (a : ∀ j, 7 ≤ j ∧ j < 15 ∨ v2 0 j = v' 0 j) : mR R F v F' v2 := h.tr ⟨fun _ => Or.inr (Or.inr (Or.inr (Or.inr rfl))), fun _ _ _ => rfl, a⟩
theorem mR.f3 {R : Nat → Bool} {F v F' v' : xS} {k : Nat} {f : Nat → Int32} (h : mR R F v F' v') (a : k = 3 ∨ k = 4 ∨ k = 99) : mR R F v (va_up F' k f) v' := by
  refine ⟨fun i => ?_, fun i l b => ?_, h.2.2⟩
  · by_cases e : i = k
    · rw [e]; exact Or.inr (a.elim Or.inl fun z => Or.inr (z.elim Or.inl fun y => Or.inr (Or.inl y)))
    · have q : va_up F' k f i = F' i := if_neg e
      rw [q]; exact h.1 i
  · have n : ¬ 1 = k := by omega
    have q : va_up F' k f 1 = F' 1 := if_neg n
    rw [q]; exact h.2.1 i l b
abbrev vR (v v' : xS) : Prop := ∀ j, 7 ≤ j ∧ j < 15 ∨ v' 0 j = v 0 j
def r0 (_ : Nat) : Bool := false
def r1 (j : Nat) : Bool := j == 8 || (Nat.ble 25 j && Nat.blt j 60 && Nat.ble 2 ((j - 25) % 5))
def r2 (j : Nat) : Bool := r1 j || j == 0
def mI (F : xS) : Prop := (below 8 (F 1 3) ∧ below 7 (F 1 2)) ∧ (F 1 6).toInt ≤ 50 ∧ (F 1 7).toInt ≤ 50
theorem mI.of {R : Nat → Bool} {F v F' v' : xS} (I : mI F) (h : mR R F v F' v') (a : R 2 = false ∧ R 3 = false ∧ R 6 = false ∧ R 7 = false) : mI F' := ⟨⟨by rw [h.2.1 3 (by omega) a.2.1]; exact I.1.1, by rw [h.2.1 2 (by omega) a.1]; exact I.1.2⟩, by rw [h.2.1 6 (by omega) a.2.2.1]; exact I.2.1, by rw [h.2.1 7 (by omega) a.2.2.2]; exact I.2.2⟩
theorem sp_its (F v : xS) (c w : Int32) (hb : vp_in (25 + 5 * c + w) 230) {K : xKo} (h : K (some (.int (F 1 (nat (25 + 5 * c + w))))) (xfill F v 0 (wM0 0))) : C_M_its [.ref 0, .int c, .int w] (xfill F v 0 (wM0 0)) K := by
  refine xM_go rfl 60 [] fun P hP => ?_
  refine ⟨hb, ?_⟩
  exact h
theorem sp_getsM (F v : xS) (c w x : Int32) (hb : vp_in (25 + 5 * c + w) 230) {K : xKo} (h : K none (xfill (va_up F 1 (upd (F 1) (nat (25 + 5 * c + w)) x)) v 0 (wM0 0))) : C_M_gets [.ref 0, .int c, .int w, .int x] (xfill F v 0 (wM0 0)) K := by
  refine xM_go rfl 60 [] fun P hP => ?_
  refine ⟨hb, ?_⟩
  exact h
theorem sp_becomesM (F v : xS) (i x : Int32) (hb : vp_in i 230) {K : xKo} (h : K (some (.int (F 1 (nat i)))) (xfill (va_up F 1 (upd (F 1) (nat i) x)) v 0 (wM0 0))) : C_M_becomes [.ref 0, .int i, .int x] (xfill F v 0 (wM0 0)) K := by
  refine xM_go rfl 60 [] fun P hP => ?_
  refine ⟨hb, ?_⟩
  refine ⟨hb, ?_⟩
  exact h
theorem in_pre {N : Nat} {x k : Int32} (b : below N x) (hN : N < 2 ^ 31) : ((0 : Int32).toInt ≤ k.toInt ∧ k.toInt ≤ (x - 1).toInt) ↔ xin k x.toInt := by
  obtain ⟨n, hn, rfl⟩ := b
  rw [nI_toInt (by omega)]
  cases n with
  | zero =>
    simp only [xin]
    have e : (nI 0 - 1).toInt = -1 := by decide
    rw [e, show (0 : Int32).toInt = 0 by decide]
    omega
  | succ n =>
    rw [nI_pred, nI_toInt (by omega), show (0 : Int32).toInt = 0 by decide]
    simp only [xin]
    omega
theorem sp_isThingM (F v : xS) (k : Int32) (b : below 8 (F 1 3)) {K : xKo} (h0 : ¬ xin k (F 1 3).toInt → K (some (.int 0)) (xfill F v 0 (wM0 0))) (h1 : xin k (F 1 3).toInt → K (some (.int 1)) (xfill F v 0 (wM0 0))) : C_M_isThing [.ref 0, .int k] (xfill F v 0 (wM0 0)) K := by
  refine xM_go rfl 60 [] fun P hP => ?_
  refine ⟨vin (by decide), ?_⟩
  refine xcall (sp_in _ _ _ (fun a => ?_) (fun a => ?_))
  · exact ⟨Or.inl rfl, h0 fun z => a ((in_pre b (by omega)).mpr z)⟩
  · exact ⟨Or.inr rfl, h1 ((in_pre b (by omega)).mp a)⟩
theorem sp_isChildM (F v : xS) (k : Int32) (b : below 7 (F 1 2)) {K : xKo} (h0 : ¬ xin k (F 1 2).toInt → K (some (.int 0)) (xfill F v 0 (wM0 0))) (h1 : xin k (F 1 2).toInt → K (some (.int 1)) (xfill F v 0 (wM0 0))) : C_M_isChild [.ref 0, .int k] (xfill F v 0 (wM0 0)) K := by
  refine xM_go rfl 60 [] fun P hP => ?_
  refine ⟨vin (by decide), ?_⟩
  refine xcall (sp_in _ _ _ (fun a => ?_) (fun a => ?_))
  · exact ⟨Or.inl rfl, h0 fun z => a ((in_pre b (by omega)).mpr z)⟩
  · exact ⟨Or.inr rfl, h1 ((in_pre b (by omega)).mp a)⟩
theorem sw_held (x l m : Int32) {K : xKo} (h : ∀ r, K (some (.int r)) []) : C_M_held [.int x, .int l, .int m] [] K := by
  refine xM_go rfl 60 [] fun P hP => ?_
  exact br_c (fun _ => br_c (fun _ => h _) (fun _ => h _)) (fun _ => h _)
theorem and_lt {x : Int32} (h : ¬ x = 0) : (x &&& (x - 1)).toBitVec.toNat < x.toBitVec.toNat := by
  have p : 0 < x.toBitVec.toNat := by
    refine Nat.pos_of_ne_zero fun z => h ?_
    refine Int32.toBitVec_inj.mp ?_
    exact BitVec.eq_of_toNat_eq (by rw [z]; rfl)
  have l : x.toBitVec.toNat < 2 ^ 32 := x.toBitVec.isLt
  have e : (x - 1).toBitVec.toNat = x.toBitVec.toNat - 1 := by
    have q : (x - 1).toBitVec = x.toBitVec - 1#32 := rfl
    rw [q, BitVec.toNat_sub]
    have o : (1#32).toNat = 1 := rfl
    rw [o]
    omega
  have q : (x &&& (x - 1)).toBitVec.toNat ≤ (x - 1).toBitVec.toNat := by
    rw [Int32.toBitVec_and, BitVec.toNat_and]
    exact Nat.and_le_right
  omega
theorem sw_bits (x : Int32) {K : xKo} (h : ∀ r, K (some (.int r)) []) : C_M_bits [.int x] [] K := by
  have key : ∀ (m : Nat) (y n : Int32), y.toBitVec.toNat ≤ m → xWP pg_M_bits K 4 [(0, .int x), (1, .int n), (2, .int y)] [] [] (0, 0) := by
    intro m
    induction m using Nat.strongRecOn with
    | ind m ih =>
      intro y n hm
      refine xWP_go 100 [(4, [0, 1, 2])] fun P hP => ?_
      refine br_c (fun _ => h _) (fun a => ?_)
      have l := and_lt a
      refine hP _ _ _ _ _ ?_
      exact ih (m - 1) (by omega) (y &&& (y - 1)) _ (by omega)
  refine xM_go rfl 60 [(4, [0, 1, 2])] fun P hP => ?_
  refine hP _ _ _ _ _ ?_
  exact key _ _ _ (Nat.le_refl _)
theorem sw_round (a b : Int32) {K : xKo} (h : ∀ r, K (some (.int r)) []) : C_M_round [.int a, .int b] [] K := by
  refine xM_go rfl 60 [] fun P hP => ?_
  refine ⟨by decide, ?_⟩
  exact br_c (fun _ => h _) (fun _ => h _)
theorem sw_paceM (F v : xS) (i : Nat) (hi : i < 7) {K : xKo} (h : ∀ r, K (some (.int r)) (xfill F v 0 (wM0 0))) : C_M_pace [.ref 0, .int (nI i)] (xfill F v 0 (wM0 0)) K := by
  refine xM_go rfl 100 [] fun P hP => ?_
  refine xcall (sp_its F v (nI i) 1 (vc5 hi (w := 1) (by omega)) ?_)
  refine ⟨vin (by decide), ?_⟩
  refine ⟨by decide, ?_⟩
  refine br_n (fun _ => ?_) (fun _ => ?_)
  all_goals
    refine xcall (sp_its F v (nI i) 0 (vc5 hi (w := 0) (by omega)) ?_)
    refine ⟨fun _ => ⟨by decide, h _⟩, fun _ => ?_⟩
    refine ⟨fun _ => h _, fun _ => ?_⟩
    refine ⟨fun _ => h _, fun _ => ?_⟩
    refine ⟨fun _ => h _, fun _ => ?_⟩
    refine ⟨fun _ => ⟨vin (by decide), br_c (fun _ => h _) (fun _ => h _)⟩, fun _ => ?_⟩
    refine ⟨fun _ => ⟨by decide, h _⟩, fun _ => ?_⟩
    exact h _
theorem sw_farM (F v : xS) (i : Nat) (hi : i < 7) {K : xKo} (h : ∀ r, K (some (.int r)) (xfill F v 0 (wM0 0))) : C_M_far [.ref 0, .int (nI i)] (xfill F v 0 (wM0 0)) K := by
  refine xM_go rfl 100 [] fun P hP => ?_
  refine xcall (sp_its F v (nI i) 1 (vc5 hi (w := 1) (by omega)) ?_)
  refine xcall (sp_its F v (nI i) 0 (vc5 hi (w := 0) (by omega)) ?_)
  refine ⟨fun _ => h _, fun _ => ?_⟩
  refine ⟨fun _ => ⟨by decide, h _⟩, fun _ => ?_⟩
  refine ⟨fun _ => h _, fun _ => ?_⟩
  refine ⟨fun _ => h _, fun _ => ?_⟩
  refine ⟨fun _ => ⟨by decide, h _⟩, fun _ => ?_⟩
  refine ⟨fun _ => h _, fun _ => ?_⟩
  exact h _
theorem sw_isMarked (F v : xS) (i : Nat) (hi : i < 8) (b : Int32) {K : xKo} (h : ∀ r, (r = 0 ∨ r = 1) → K (some (.int r)) (xfill F v 0 (wM0 0))) : C_M_isMarked [.ref 0, .int (nI i), .int b] (xfill F v 0 (wM0 0)) K := by
  refine xM_go rfl 100 [] fun P hP => ?_
  refine br_n (fun _ => ?_) (fun _ => ?_)
  · exact ⟨Or.inl rfl, h _ (Or.inl rfl)⟩
  refine ⟨vc21 hi, ?_⟩
  refine br_n (fun _ => ?_) (fun _ => ?_)
  · exact ⟨Or.inl rfl, h _ (Or.inl rfl)⟩
  · exact ⟨Or.inr rfl, h _ (Or.inr rfl)⟩
set_option maxRecDepth 100000 in
theorem sw_walks (F v : xS) (I : mI F) (u a b c : Int32) (hu : u = 0 ∨ u = 1) {K : xKo} (h : ∀ r v', vR v v' → (below 50 (v' 0 8) ∧ (v' 0 14 = 0 ∨ v' 0 14 = 1)) → K (some (.int r)) (xfill F v' 0 (wM0 0))) : C_M_walks [.ref 0, .int u, .int a, .int b, .int c] (xfill F v 0 (wM0 0)) K := by
  have hi : vp_in (6 + u) 230 := by
    rcases hu with e | e
    all_goals rw [e]; exact vin (by decide)
  have he : (F 1 (nat (6 + u))).toInt ≤ 50 := by
    rcases hu with e | e
    · rw [e]; exact I.2.1
    · rw [e]; exact I.2.2
  obtain ⟨v1, ev1⟩ : ∃ v1, v1 = va_up v 0 (va_up (va_up (va_up (va_up (va_up (va_up (va_up (va_up (v 0) 7 u) 8 0) 9 (F 1 (nat (6 + u)))) 10 0) 14 1) 11 a) 12 b) 13 c) := ⟨_, rfl⟩
  have J1 : gI v1 := by
    rw [ev1]
    exact ⟨hu, ⟨0, by omega, rfl⟩, he⟩
  have J2 : v1 0 10 = nI 0 := by rw [ev1]; rfl
  have J3 : vR v v1 := by
    intro j
    by_cases hj : 7 ≤ j ∧ j < 15
    · exact Or.inl hj
    · refine Or.inr ?_
      rw [ev1]
      exact (if_neg (by omega)).trans ((if_neg (by omega)).trans ((if_neg (by omega)).trans ((if_neg (by omega)).trans ((if_neg (by omega)).trans ((if_neg (by omega)).trans ((if_neg (by omega)).trans (if_neg (by omega))))))))
  refine xM_go rfl 100 [] fun P hP => ?_
  refine ⟨hi, ?_⟩
  refine ⟨Or.inr rfl, ?_⟩
  refine xcall (g_text60 F (va_up v 0 (va_up (va_up (va_up (va_up (va_up (va_up (va_up (va_up (v 0) 7 u) 8 0) 9 (F 1 (nat (6 + u)))) 10 0) 14 1) 11 a) 12 b) 13 c)) _ (by rw [← ev1]; exact J1) (by rw [← ev1]; exact J2) (fun r v' R => ?_))
  rw [← ev1] at R
  have go : ∀ g : Int32, (g = 0 ∨ g = 1) → K (some (.int r)) (xfill F (va_up v' 0 (va_up (v' 0) 14 g)) 0 (wM0 0)) := by
    intro g hg
    refine h _ _ (fun j => ?_) ⟨R.2.1, hg⟩
    by_cases hj : 7 ≤ j ∧ j < 15
    · exact Or.inl hj
    · have e1 : va_up v' 0 (va_up (v' 0) 14 g) 0 j = v' 0 j := if_neg (by omega)
      rw [e1, R.1 j (by omega) (by omega)]
      exact J3 j
  refine br_c (fun _ => ?_) (fun _ => ?_)
  · exact ⟨Or.inl rfl, go 0 (Or.inl rfl)⟩
  refine br_n (fun _ => ?_) (fun _ => ?_)
  · exact ⟨Or.inl rfl, go 0 (Or.inl rfl)⟩
  · exact ⟨Or.inr rfl, go 1 (Or.inr rfl)⟩
set_option maxRecDepth 100000 in
theorem sw_lawOf (F v : xS) (I : mI F) (u a b c : Int32) (hu : u = 0 ∨ u = 1) {K : xKo} (h : ∀ r v', vR v v' → K (some (.int r)) (xfill F v' 0 (wM0 0))) : C_M_lawOf [.ref 0, .int u, .int a, .int b, .int c] (xfill F v 0 (wM0 0)) K := by
  have hi : vp_in (6 + u) 230 := by
    rcases hu with e | e
    all_goals rw [e]; exact vin (by decide)
  refine xM_go rfl 100 [] fun P hP => ?_
  refine ⟨hi, ?_⟩
  refine br_c (fun _ => ?_) (fun _ => ?_)
  · refine xcall (sw_walks F v I u a b c hu (fun r v' R _ => ?_))
    refine xcall (sw_held _ _ _ (fun q => ?_))
    exact h _ _ R
  · exact h _ v (fun _ => Or.inr rfl)
end
section
/-! ===== the reference: a call, without its outcome ===== -/
set_option maxRecDepth 100000 in
theorem sw_aim (F v : xS) (I : mI F) (c : Nat) (hc : c < 7) (b : Int32) {K : xKo} (h : ∀ g v', vR v v' → (g = -1 ∨ ∃ k, k < 8 ∧ g = nI k) → K (some (.int g)) (xfill F v' 0 (wM0 0))) : C_M_aim [.ref 0, .int (nI c), .int b] (xfill F v 0 (wM0 0)) K := by
  obtain ⟨n, hn, en⟩ := I.1.1
  have key : ∀ (d i : Nat) (g nr : Int32) (v' : xS), i + d = n → vR v v' → (g = -1 ∨ ∃ k, k < 8 ∧ g = nI k) → xWP pg_M_aim K 9 [(0, .ref 0), (1, .int (nI c)), (2, .int b), (3, .int g), (4, .int nr), (5, .int (nI i))] [] (xfill F v' 0 (wM0 0)) (0, 0) := by
    intro d
    induction d with
    | zero =>
      intro i g nr v' hi E hg
      refine xWP_go 100 [(9, [0, 1, 2, 3, 4, 5])] fun P hP => ?_
      refine ⟨vin (by decide), ?_⟩
      refine br_c (fun _ => h _ _ E hg) (fun z => ?_)
      have z : ¬ F 1 3 ≤ nI i := z
      rw [en, nI_leI (by omega) (by omega)] at z
      omega
    | succ d ih =>
      intro i g nr v' hi E hg
      refine xWP_go 100 [(9, [0, 1, 2, 3, 4, 5])] fun P hP => ?_
      refine ⟨vin (by decide), ?_⟩
      refine br_c (fun z => ?_) (fun _ => ?_)
      · have z : F 1 3 ≤ nI i := z
        rw [en, nI_leI (by omega) (by omega)] at z
        omega
      have nx : ∀ (g nr : Int32) (v2 : xS), vR v' v2 → (g = -1 ∨ ∃ k, k < 8 ∧ g = nI k) → xWP pg_M_aim K 9 [(0, .ref 0), (1, .int (nI c)), (2, .int b), (3, .int g), (4, .int nr), (5, .int (nI i + 1))] [] (xfill F v2 0 (wM0 0)) (0, 0) := by
        intro g nr v2 E2 hg
        rw [nI_1]
        refine ih (i + 1) g nr v2 (by omega) (fun j => ?_) hg
        rcases E j with e | e
        · exact Or.inl e
        · rcases E2 j with d | d
          · exact Or.inl d
          · exact Or.inr (d.trans e)
      have rf : vR v' v' := fun _ => Or.inr rfl
      refine xcall (sp_its F v' (nI c) 2 (vc5 hc (w := 2) (by omega)) ?_)
      refine ⟨vc2 (by omega), ?_⟩
      refine xcall (sw_round _ _ (fun off => ?_))
      refine xcall (sw_isMarked F v' i (by omega) b (fun r hr => ?_))
      refine br_c (fun _ => ?_) (fun _ => ?_)
      · exact hP _ _ _ _ _ (nx _ _ _ rf hg)
      refine br_c (fun _ => ?_) (fun _ => ?_)
      · exact hP _ _ _ _ _ (nx _ _ _ rf hg)
      refine xcall (sw_farM F v' c hc (fun fr => ?_))
      refine br_c (fun _ => ?_) (fun _ => ?_)
      · exact hP _ _ _ _ _ (nx _ _ _ rf hg)
      refine xcall (sp_its F v' (nI c) 1 (vc5 hc (w := 1) (by omega)) ?_)
      refine xcall (sw_lawOf F v' I 0 off b _ (Or.inl rfl) (fun lw v2 E2 => ?_))
      refine br_c (fun _ => ?_) (fun _ => ?_)
      · exact hP _ _ _ _ _ (nx _ _ _ E2 hg)
      · exact hP _ _ _ _ _ (nx _ _ _ E2 (Or.inr ⟨i, by omega, rfl⟩))
  refine xM_go rfl 100 [(9, [0, 1, 2, 3, 4, 5])] fun P hP => ?_
  refine hP _ _ _ _ _ ?_
  exact key n 0 _ _ v (by omega) (fun _ => Or.inr rfl) (Or.inl rfl)
set_option maxRecDepth 100000 in
theorem sw_ends (F v : xS) (I : mI F) (c : Nat) (hc : c < 7) (b s : Int32) {K : xKo} (h : ∀ r v', vR v v' → K (some (.int r)) (xfill F v' 0 (wM0 0))) : C_M_ends [.ref 0, .int (nI c), .int b, .int s] (xfill F v 0 (wM0 0)) K := by
  have b2 := vc5 hc (w := 2) (by omega)
  have fin : ∀ (g : Int32) (v' : xS), vR v v' → (g = -1 ∨ ∃ k, k < 8 ∧ g = nI k) → xWP pg_M_ends K 21 [(0, .ref 0), (1, .int (nI c)), (2, .int b), (3, .int s)] [.int g] (xfill F v' 0 (wM0 0)) (0, 0) := by
    intro g v' E hg
    refine xWP_go 200 [(103, [0, 1, 2, 3, 4, 5, 6, 7])] fun P hP => ?_
    refine br_c (fun a => ?_) (fun a => ?_)
    · obtain ⟨k, hk, rfl⟩ : ∃ k, k < 8 ∧ g = nI k := hg.elim (fun z => by subst z; exact absurd a (by decide)) id
      refine ⟨vc2 hk, ?_⟩
      refine xcall (sp_its F v' (nI c) 2 b2 ?_)
      refine ⟨by decide, ?_⟩
      refine xcall (sp_its F v' (nI c) 2 b2 ?_)
      refine xcall (sw_round _ _ (fun off => ?_))
      refine xcall (sw_paceM F v' c hc (fun pc => ?_))
      have f2 : ∀ go : Int32, ∀ ls : Int32 × Int32 × Int32, xWP pg_M_ends K 103 [(0, .ref 0), (1, .int (nI c)), (2, .int b), (3, .int s), (4, .int (nI k)), (5, .int ls.1), (6, .int ls.2.1), (7, .int ls.2.2)] [.int go] (xfill F v' 0 (wM0 0)) (0, 0) := by
        intro go ls
        refine xWP_go 200 [] fun P hP => ?_
        refine xcall (sp_its F v' (nI c) 2 b2 ?_)
        refine br_n (fun _ => ⟨by decide, h _ _ E⟩) (fun _ => ⟨by decide, h _ _ E⟩)
      refine br_c (fun _ => ?_) (fun _ => ?_)
      · exact hP _ _ _ _ _ (f2 _ (_, _, _))
      · refine xcall (sw_paceM F v' c hc (fun pc2 => ?_))
        exact hP _ _ _ _ _ (f2 _ (_, _, _))
    · refine xcall (sp_its F v' (nI c) 2 b2 ?_)
      exact h _ _ E
  refine xM_go rfl 100 [(21, [0, 1, 2, 3])] fun P hP => ?_
  refine ⟨vin (by decide), ?_⟩
  refine br_n (fun _ => ?_) (fun _ => ?_)
  · refine xcall (sw_aim F v I c hc b (fun g v' E hg => ?_))
    exact hP _ _ _ _ _ (fin g v' E hg)
  · exact hP _ _ _ _ _ (fin _ v (fun _ => Or.inr rfl) (Or.inl rfl))
set_option maxRecDepth 100000 in
theorem sw_isSafe (F v : xS) (I : mI F) (c : Nat) (hc : c < 7) (b : Int32) {K : xKo} (h : ∀ r v', vR v v' → (r = 0 ∨ r = 1) → K (some (.int r)) (xfill F v' 0 (wM0 0))) : C_M_isSafe [.ref 0, .int (nI c), .int b] (xfill F v 0 (wM0 0)) K := by
  obtain ⟨n, hn, en⟩ := I.1.1
  obtain ⟨m, hm, em⟩ := I.1.2
  have b2 := vc5 hc (w := 2) (by omega)
  have rf : vR v v := fun _ => Or.inr rfl
  have two : ∀ (d i : Nat) (k : Nat) (q : Int32), i + d = m → k < 8 → xWP pg_M_isSafe K 65 [(0, .ref 0), (1, .int (nI c)), (2, .int b), (3, .int (nI k)), (4, .int q), (5, .int (nI i))] [] (xfill F v 0 (wM0 0)) (0, 0) := by
    intro d
    induction d with
    | zero =>
      intro i k q hi hk
      refine xWP_go 200 [(2, [0, 1, 2, 3]), (47, [0, 1, 2, 3]), (65, [0, 1, 2, 3, 4, 5]), (111, [0, 1, 2, 3, 4, 5])] fun P hP => ?_
      refine ⟨vin (by decide), ?_⟩
      refine br_c (fun _ => ?_) (fun z => ?_)
      · refine ⟨vc21 hk, ?_⟩
        refine xcall (sw_lawOf F v I 1 q _ b (Or.inr rfl) (fun lw v2 E2 => ?_))
        refine br_c (fun _ => ⟨Or.inl rfl, h _ _ E2 (Or.inl rfl)⟩) (fun _ => ⟨Or.inr rfl, h _ _ E2 (Or.inr rfl)⟩)
      · have z : ¬ F 1 2 ≤ nI i := z
        rw [em, nI_leI (by omega) (by omega)] at z
        omega
    | succ d ih =>
      intro i k q hi hk
      refine xWP_go 200 [(2, [0, 1, 2, 3]), (47, [0, 1, 2, 3]), (65, [0, 1, 2, 3, 4, 5]), (111, [0, 1, 2, 3, 4, 5])] fun P hP => ?_
      refine ⟨vin (by decide), ?_⟩
      refine br_c (fun z => ?_) (fun _ => ?_)
      · have z : F 1 2 ≤ nI i := z
        rw [em, nI_leI (by omega) (by omega)] at z
        omega
      have go : ∀ x : Int32, xWP pg_M_isSafe K 111 [(0, .ref 0), (1, .int (nI c)), (2, .int b), (3, .int (nI k)), (4, .int q), (5, .int (nI i))] [.int x, .int q] (xfill F v 0 (wM0 0)) (0, 0) := by
        intro x
        refine xWP_go 200 [(65, [0, 1, 2, 3, 4, 5])] fun P hP => ?_
        refine hP _ _ _ _ _ ?_
        rw [nI_1]
        exact ih (i + 1) k _ (by omega) hk
      refine ⟨vin (by decide), ?_⟩
      refine br_c (fun _ => ?_) (fun _ => ?_)
      · exact hP _ _ _ _ _ (go 0)
      refine xcall (sp_its F v (nI i) 2 (vc5 (by omega) (w := 2) (by omega)) ?_)
      refine xcall (sp_its F v (nI c) 2 b2 ?_)
      refine br_n (fun _ => ?_) (fun _ => ?_)
      · exact hP _ _ _ _ _ (go 0)
      · exact hP _ _ _ _ _ (go 1)
  have fin : ∀ k : Nat, k ≤ n → xWP pg_M_isSafe K 47 [(0, .ref 0), (1, .int (nI c)), (2, .int b), (3, .int (nI k))] [] (xfill F v 0 (wM0 0)) (0, 0) := by
    intro k hk
    refine xWP_go 200 [(65, [0, 1, 2, 3, 4, 5])] fun P hP => ?_
    refine ⟨vin (by decide), ?_⟩
    refine br_n (fun z => ?_) (fun _ => ?_)
    · have z : ¬ nI k = F 1 3 := z
      have kn : ¬ k = n := fun e => z (by rw [e, en])
      refine hP _ _ _ _ _ ?_
      exact two m 0 k 0 (by omega) (by omega)
    · exact ⟨Or.inl rfl, h _ _ rf (Or.inl rfl)⟩
  have key : ∀ (d i : Nat), i + d = n → xWP pg_M_isSafe K 2 [(0, .ref 0), (1, .int (nI c)), (2, .int b), (3, .int (nI i))] [] (xfill F v 0 (wM0 0)) (0, 0) := by
    intro d
    induction d with
    | zero =>
      intro i hi
      refine xWP_go 200 [(2, [0, 1, 2, 3]), (47, [0, 1, 2, 3]), (65, [0, 1, 2, 3, 4, 5]), (111, [0, 1, 2, 3, 4, 5])] fun P hP => ?_
      refine ⟨vin (by decide), ?_⟩
      refine br_c (fun _ => hP _ _ _ _ _ (fin i (by omega))) (fun z => ?_)
      have z : ¬ F 1 3 ≤ nI i := z
      rw [en, nI_leI (by omega) (by omega)] at z
      omega
    | succ d ih =>
      intro i hi
      refine xWP_go 200 [(2, [0, 1, 2, 3]), (47, [0, 1, 2, 3]), (65, [0, 1, 2, 3, 4, 5]), (111, [0, 1, 2, 3, 4, 5])] fun P hP => ?_
      refine ⟨vin (by decide), ?_⟩
      refine br_c (fun z => ?_) (fun _ => ?_)
      · have z : F 1 3 ≤ nI i := z
        rw [en, nI_leI (by omega) (by omega)] at z
        omega
      have nx : xWP pg_M_isSafe K 2 [(0, .ref 0), (1, .int (nI c)), (2, .int b), (3, .int (nI i + 1))] [] (xfill F v 0 (wM0 0)) (0, 0) := by
        rw [nI_1]
        exact ih (i + 1) (by omega)
      refine xcall (sw_isMarked F v i (by omega) b (fun r hr => ?_))
      refine br_c (fun _ => hP _ _ _ _ _ nx) (fun _ => ?_)
      refine ⟨vc2 (by omega), ?_⟩
      refine xcall (sp_its F v (nI c) 2 b2 ?_)
      exact br_c (fun _ => hP _ _ _ _ _ (fin i (by omega))) (fun _ => hP _ _ _ _ _ nx)
  refine xM_go rfl 100 [(2, [0, 1, 2, 3]), (47, [0, 1, 2, 3]), (65, [0, 1, 2, 3, 4, 5]), (111, [0, 1, 2, 3, 4, 5])] fun P hP => ?_
  refine hP _ _ _ _ _ ?_
  exact key n 0 (by omega)
theorem am1 (x : Int32) : x + -1 = x - 1 := (Int32.sub_eq_add_neg x 1).symm
theorem r1_at {i w : Nat} (hi : i < 7) (h2 : 2 ≤ w) (hw : w < 5) : r1 (nat ((25 : Int32) + 5 * nI i + nI w)) = true := by
  rw [nc5 (by omega) (by omega)]
  have q : Nat.ble 25 (25 + 5 * i + w) = true := Nat.ble_eq_true_of_le (by omega)
  have q2 : Nat.blt (25 + 5 * i + w) 60 = true := Nat.ble_eq_true_of_le (by omega)
  have q3 : Nat.ble 2 ((25 + 5 * i + w - 25) % 5) = true := Nat.ble_eq_true_of_le (by omega)
  unfold r1
  rw [q, q2, q3]
  simp
theorem mR.to2 {F v F' v' : xS} (h : mR r1 F v F' v') : mR r2 F v F' v' := h.wd (fun j z => by
  simp only [r2, Bool.or_eq_false_iff] at z
  exact z.1)
set_option maxRecDepth 100000 in
theorem sw_calls (F v : xS) (I : mI F) (b s : Int32) {K : xKo} (h : ∀ r F' v', mR r2 F v F' v' → F' 1 0 = F 1 0 + 1 → (∀ k, ¬ k = 1 → F' k = F k) → K (some (.int r)) (xfill F' v' 0 (wM0 0))) : C_M_calls [.ref 0, .int b, .int s] (xfill F v 0 (wM0 0)) K := by
  obtain ⟨m, hm, em⟩ := I.1.2
  have three : ∀ (i : Nat) (st x : Int32) (F' v' : xS), i ≤ m → mR r1 F v F' v' → (∀ k, ¬ k = 1 → F' k = F k) → xWP pg_M_calls K 99 [(0, .ref 0), (1, .int b), (2, .int s), (3, .int st), (4, .int x), (5, .int (nI i - 1))] [] (xfill F' v' 0 (wM0 0)) (0, 0) := by
    intro i
    induction i with
    | zero =>
      intro st x F' v' hi E G
      refine xWP_go 200 [(2, [0, 1, 2, 3]), (36, [0, 1, 2, 3, 4]), (78, [0, 1, 2, 3, 4]), (99, [0, 1, 2, 3, 4, 5]), (158, [0, 1, 2, 3, 4, 5])] fun P hP => ?_
      refine br_c (fun _ => ?_) (fun z => absurd (by decide) z)
      refine ⟨vin (by decide), ?_⟩
      refine ⟨vin (by decide), ?_⟩
      refine ⟨vin (by decide), ?_⟩
      refine h _ (va_up F' 1 (upd (upd (F' 1) 8 x) 0 (F' 1 0 + 1))) v' ⟨fun k => ?_, fun j a z => ?_, E.2.2⟩ ?_ (fun k hk => (if_neg hk).trans (G k hk))
      · by_cases e : k = 1
        · exact Or.inl e
        · have q : va_up F' 1 (upd (upd (F' 1) 8 x) 0 (F' 1 0 + 1)) k = F' k := if_neg e
          rw [q]; exact E.1 k
      · have j0 : ¬ j = 0 := fun e => by rw [e] at z; exact absurd z (by decide)
        have j8 : ¬ j = 8 := fun e => by rw [e] at z; exact absurd z (by decide)
        have q : va_up F' 1 (upd (upd (F' 1) 8 x) 0 (F' 1 0 + 1)) 1 j = F' 1 j := (if_neg j0).trans (if_neg j8)
        rw [q]; exact E.to2.2.1 j a z
      · show F' 1 0 + 1 = F 1 0 + 1
        rw [E.2.1 0 (by omega) rfl]
    | succ i ih =>
      intro st x F' v' hi E G
      rw [nI_pred]
      refine xWP_go 200 [(2, [0, 1, 2, 3]), (36, [0, 1, 2, 3, 4]), (78, [0, 1, 2, 3, 4]), (99, [0, 1, 2, 3, 4, 5]), (158, [0, 1, 2, 3, 4, 5])] fun P hP => ?_
      refine br_c (fun z => absurd z (by show ¬ nI i < nI 0; rw [nI_ltI (by omega) (by omega)]; omega)) (fun _ => ?_)
      have k158 : ∀ (F2 : xS), mR r1 F' v' F2 v' → (∀ k, ¬ k = 1 → F2 k = F' k) → xWP pg_M_calls K 158 [(0, .ref 0), (1, .int b), (2, .int s), (3, .int st), (4, .int x), (5, .int (nI i))] [] (xfill F2 v' 0 (wM0 0)) (0, 0) := by
        intro F2 E2 G2
        refine xWP_go 200 [(99, [0, 1, 2, 3, 4, 5])] fun P hP => ?_
        refine br_n (fun _ => ?_) (fun _ => ?_)
        · refine hP _ _ _ _ _ ?_
          have q := fun y => ih st y F2 v' (by omega) (E.tr E2) (fun k hk => (G2 k hk).trans (G k hk))
          rw [← am1] at q
          exact q _
        · refine hP _ _ _ _ _ ?_
          have q := fun y => ih st y F2 v' (by omega) (E.tr E2) (fun k hk => (G2 k hk).trans (G k hk))
          rw [← am1] at q
          exact q _
      refine ⟨vin (by decide), ?_⟩
      refine br_c (fun _ => ?_) (fun _ => ?_)
      · exact hP _ _ _ _ _ (k158 F' mR.rf (fun _ _ => rfl))
      refine br_n (fun _ => ?_) (fun _ => ?_)
      · refine xcall (sp_its F' v' (nI i) 4 (vc5 (by omega) (w := 4) (by omega)) ?_)
        refine xcall (sw_held _ _ _ (fun y => ?_))
        refine xcall (sp_getsM F' v' (nI i) 4 y (vc5 (by omega) (w := 4) (by omega)) ?_)
        exact hP _ _ _ _ _ (k158 _ (mR.rf.row (r1_at (w := 4) (by omega) (by omega) (by omega))) (fun _ hk => if_neg hk))
      · refine xcall (sp_its F' v' (nI i) 3 (vc5 (by omega) (w := 3) (by omega)) ?_)
        refine xcall (sw_held _ _ _ (fun y => ?_))
        refine xcall (sp_getsM F' v' (nI i) 3 y (vc5 (by omega) (w := 3) (by omega)) ?_)
        exact hP _ _ _ _ _ (k158 _ (mR.rf.row (r1_at (w := 3) (by omega) (by omega) (by omega))) (fun _ hk => if_neg hk))
  have two : ∀ (d i : Nat) (st : Int32) (F' v' : xS), i + d = m → mR r1 F v F' v' → (∀ k, ¬ k = 1 → F' k = F k) → xWP pg_M_calls K 36 [(0, .ref 0), (1, .int b), (2, .int s), (3, .int st), (4, .int (nI i))] [] (xfill F' v' 0 (wM0 0)) (0, 0) := by
    intro d
    induction d with
    | zero =>
      intro i st F' v' hi E G
      have e : F' 1 2 = nI m := (E.2.1 2 (by omega) rfl).trans em
      refine xWP_go 200 [(2, [0, 1, 2, 3]), (36, [0, 1, 2, 3, 4]), (78, [0, 1, 2, 3, 4]), (99, [0, 1, 2, 3, 4, 5]), (158, [0, 1, 2, 3, 4, 5])] fun P hP => ?_
      refine ⟨vin (by decide), ?_⟩
      refine br_c (fun _ => ?_) (fun z => ?_)
      · refine ⟨vin (by decide), ?_⟩
        refine hP _ _ _ _ _ ?_
        have q := three m st (-1) F' v' (Nat.le_refl _) E G
        rw [← e] at q
        exact q
      · have z : ¬ F' 1 2 ≤ nI i := z
        rw [e, nI_leI (by omega) (by omega)] at z
        omega
    | succ d ih =>
      intro i st F' v' hi E G
      have e : F' 1 2 = nI m := (E.2.1 2 (by omega) rfl).trans em
      refine xWP_go 200 [(2, [0, 1, 2, 3]), (36, [0, 1, 2, 3, 4]), (78, [0, 1, 2, 3, 4]), (99, [0, 1, 2, 3, 4, 5]), (158, [0, 1, 2, 3, 4, 5])] fun P hP => ?_
      refine ⟨vin (by decide), ?_⟩
      refine br_c (fun z => ?_) (fun _ => ?_)
      · have z : F' 1 2 ≤ nI i := z
        rw [e, nI_leI (by omega) (by omega)] at z
        omega
      have go : ∀ (x : Int32) (v2 : xS), vR v' v2 → xWP pg_M_calls K 78 [(0, .ref 0), (1, .int b), (2, .int s), (3, .int st), (4, .int (nI i))] [.int x, .int st] (xfill F' v2 0 (wM0 0)) (0, 0) := by
        intro x v2 E2
        refine xWP_go 200 [(36, [0, 1, 2, 3, 4])] fun P hP => ?_
        refine hP _ _ _ _ _ ?_
        rw [nI_1]
        exact ih (i + 1) _ F' v2 (by omega) (E.vs E2) G
      refine ⟨vin (by decide), ?_⟩
      refine br_c (fun _ => ?_) (fun _ => ?_)
      · exact hP _ _ _ _ _ (go 0 v' (fun _ => Or.inr rfl))
      refine xcall (sw_isSafe F' v' (I.of E ⟨rfl, rfl, rfl, rfl⟩) i (by omega) b (fun r v2 E2 hr => ?_))
      refine br_n (fun _ => ?_) (fun _ => ?_)
      · exact hP _ _ _ _ _ (go 0 v2 E2)
      · exact hP _ _ _ _ _ (go _ v2 E2)
  have one : ∀ (d i : Nat) (F' v' : xS), i + d = m → mR r1 F v F' v' → (∀ k, ¬ k = 1 → F' k = F k) → xWP pg_M_calls K 2 [(0, .ref 0), (1, .int b), (2, .int s), (3, .int (nI i))] [] (xfill F' v' 0 (wM0 0)) (0, 0) := by
    intro d
    induction d with
    | zero =>
      intro i F' v' hi E G
      have e : F' 1 2 = nI m := (E.2.1 2 (by omega) rfl).trans em
      refine xWP_go 200 [(2, [0, 1, 2, 3]), (36, [0, 1, 2, 3, 4]), (78, [0, 1, 2, 3, 4]), (99, [0, 1, 2, 3, 4, 5]), (158, [0, 1, 2, 3, 4, 5])] fun P hP => ?_
      refine ⟨vin (by decide), ?_⟩
      refine br_c (fun _ => ?_) (fun z => ?_)
      · refine hP _ _ _ _ _ ?_
        exact two m 0 0 F' v' (by omega) E G
      · have z : ¬ F' 1 2 ≤ nI i := z
        rw [e, nI_leI (by omega) (by omega)] at z
        omega
    | succ d ih =>
      intro i F' v' hi E G
      have e : F' 1 2 = nI m := (E.2.1 2 (by omega) rfl).trans em
      refine xWP_go 200 [(2, [0, 1, 2, 3]), (36, [0, 1, 2, 3, 4]), (78, [0, 1, 2, 3, 4]), (99, [0, 1, 2, 3, 4, 5]), (158, [0, 1, 2, 3, 4, 5])] fun P hP => ?_
      refine ⟨vin (by decide), ?_⟩
      refine br_c (fun z => ?_) (fun _ => ?_)
      · have z : F' 1 2 ≤ nI i := z
        rw [e, nI_leI (by omega) (by omega)] at z
        omega
      refine xcall (sw_ends F' v' (I.of E ⟨rfl, rfl, rfl, rfl⟩) i (by omega) b s (fun r v2 E2 => ?_))
      refine xcall (sp_getsM F' v2 (nI i) 2 r (vc5 (by omega) (w := 2) (by omega)) ?_)
      refine hP _ _ _ _ _ ?_
      rw [nI_1]
      exact ih (i + 1) _ v2 (by omega) ((E.vs E2).row (r1_at (w := 2) (by omega) (by omega) (by omega))) (fun k hk => (if_neg hk).trans (G k hk))
  refine xM_go rfl 100 [(2, [0, 1, 2, 3]), (36, [0, 1, 2, 3, 4]), (78, [0, 1, 2, 3, 4]), (99, [0, 1, 2, 3, 4, 5]), (158, [0, 1, 2, 3, 4, 5])] fun P hP => ?_
  refine hP _ _ _ _ _ ?_
  exact one m 0 F v (by omega) mR.rf (fun _ _ => rfl)
set_option maxRecDepth 100000 in
theorem sw_wouldBe (F v : xS) (I : mI F) (b s : Int32) {K : xKo} (h : ∀ r F' v', mR r0 F v F' v' → K (some (.int r)) (xfill F' v' 0 (wM0 0))) : C_M_wouldBe [.ref 0, .int b, .int s] (xfill F v 0 (wM0 0)) K := by
  refine xM_go rfl 100 [] fun P hP => ?_
  refine xcall (sp_moveAll_1_3 F v fun g g1 g2 => ?_)
  refine xcall (sw_calls (va_up F 3 g) v I b s (fun r F' v' E e G => ?_))
  refine xcall (sp_moveAll_3_1 F' v' fun g' k1 k2 => ?_)
  refine h _ (va_up F' 1 g') v' ⟨fun k => ?_, fun j hj _ => ?_, E.2.2⟩
  · by_cases h1 : k = 1
    · exact Or.inl h1
    by_cases h3 : k = 3
    · exact Or.inr (Or.inl h3)
    have q : va_up F' 1 g' k = F' k := if_neg h1
    rw [q, G k h1]
    exact Or.inr (Or.inr (Or.inr (Or.inr (if_neg h3))))
  · show g' j = F 1 j
    rw [k1 j hj, G 3 (by decide)]
    exact g1 j hj
theorem sp_drawn (F v : xS) (k y : Int32) (hk : ¬ k = 0) (hy : y = zS (F 1 1)) {K : xKo} (h : ∀ r, K (some (.int r)) (xfill (va_up F 1 (upd (F 1) 1 y)) v 0 (wM0 0))) : C_M_drawn [.ref 0, .int k] (xfill F v 0 (wM0 0)) K := by
  refine xM_go rfl 60 [] fun P hP => ?_
  subst hy
  refine ⟨vin (by decide), ?_⟩
  refine ⟨vin (by decide), ?_⟩
  refine ⟨vin (by decide), ?_⟩
  refine ⟨hk, ?_⟩
  exact h _
end
section
/-! ===== the reference: plain methods on any state ===== -/
variable {Ψ : mRw → Prop}
theorem mTo.err {F v : xS} {g : xA → xA} {f : xA → xAn} {K : xKo} {k : Int32} {i : Nat} (h : mTo Ψ F v g f K) (S : mS Ψ F v) (eg : g (mA F v) = mA F v) (ef : f (mA F v) = (k, i)) (hi : ¬ i = 0 := by decide) : K (some (.int k)) (xfill (va_up F 5 (upd (F 5) i (F 5 i + 1))) v 0 (wM0 0)) := by
  have q := h (va_up F 5 (upd (F 5) i (F 5 i + 1))) v S (by rw [ef]; exact (bm_k hi).symm) (by rw [eg]; exact ⟨⟨⟨rfl, rfl, rfl, rfl, rfl, rfl⟩, fun _ _ => ⟨rfl, rfl⟩, fun _ _ => ⟨rfl, rfl⟩, fun _ _ => rfl, fun _ _ => rfl⟩, ⟨⟨fun _ _ => rfl, fun _ _ => rfl, fun _ _ => rfl, fun _ _ => rfl⟩, ⟨⟨rfl, rfl, rfl, rfl⟩, rfl, rfl, rfl, rfl⟩, ⟨rfl, rfl⟩, fun _ _ => rfl⟩, fun _ => ⟨⟨rfl, rfl, rfl, rfl, rfl, rfl⟩, fun _ _ => ⟨rfl, rfl⟩, fun _ _ => ⟨rfl, rfl⟩, fun _ _ => rfl, fun _ _ => rfl⟩⟩)
  rw [ef] at q
  exact q
theorem mTo.id {F v : xS} {g : xA → xA} {f : xA → xAn} {K : xKo} {k : Int32} (h : mTo Ψ F v g f K) (S : mS Ψ F v) (eg : g (mA F v) = mA F v) (ef : f (mA F v) = (k, 0)) : K (some (.int k)) (xfill F v 0 (wM0 0)) := by
  have q := h F v S (by rw [ef]; exact bm_0.symm) (by rw [eg]; exact agr.rf)
  rw [ef] at q
  exact q
theorem mTo.ok {F v F' v' : xS} {g : xA → xA} {f : xA → xAn} {K : xKo} {k : Int32} (h : mTo Ψ F v g f K) (S : mS Ψ F' v') (ea : agr (mA F' v') (g (mA F v))) (ef : f (mA F v) = (k, 0)) (e5 : F' 5 = F 5 := by rfl) : K (some (.int k)) (xfill F' v' 0 (wM0 0)) := by
  have q := h F' v' S (by rw [ef, e5]; exact bm_0.symm) ea
  rw [ef] at q
  exact q
theorem mTw.err {F v : xS} {g : xA → xA} {kd : xA → Nat} {K : xKo} {k : Int32} {i : Nat} (h : mTw Ψ F v g kd K) (S : mS Ψ F v) (eg : g (mA F v) = mA F v) (ek : kd (mA F v) = i) (hi : ¬ i = 0 := by decide) : K (some (.int k)) (xfill (va_up F 5 (upd (F 5) i (F 5 i + 1))) v 0 (wM0 0)) := h k (va_up F 5 (upd (F 5) i (F 5 i + 1))) v S (by rw [ek]; exact (bm_k hi).symm) (by rw [eg]; exact ⟨⟨⟨rfl, rfl, rfl, rfl, rfl, rfl⟩, fun _ _ => ⟨rfl, rfl⟩, fun _ _ => ⟨rfl, rfl⟩, fun _ _ => rfl, fun _ _ => rfl⟩, ⟨⟨fun _ _ => rfl, fun _ _ => rfl, fun _ _ => rfl, fun _ _ => rfl⟩, ⟨⟨rfl, rfl, rfl, rfl⟩, rfl, rfl, rfl, rfl⟩, ⟨rfl, rfl⟩, fun _ _ => rfl⟩, fun _ => ⟨⟨rfl, rfl, rfl, rfl, rfl, rfl⟩, fun _ _ => ⟨rfl, rfl⟩, fun _ _ => ⟨rfl, rfl⟩, fun _ _ => rfl, fun _ _ => rfl⟩⟩)
theorem mTw.id {F v : xS} {g : xA → xA} {kd : xA → Nat} {K : xKo} {k : Int32} (h : mTw Ψ F v g kd K) (S : mS Ψ F v) (eg : g (mA F v) = mA F v) (ek : kd (mA F v) = 0) : K (some (.int k)) (xfill F v 0 (wM0 0)) := h k F v S (by rw [ek]; exact bm_0.symm) (by rw [eg]; exact agr.rf)
theorem mX_eq {F : xS} {f : Nat → Int32} (h : ∀ j, exi j = true → f j = F 1 j) : mX (va_up F 1 f) = mX F := by
  have q : (fun j => if exi j then f j else 0) = (fun j => if exi j then F 1 j else 0) := by
    funext j
    cases e : exi j with
    | true => rw [if_pos rfl, if_pos rfl]; exact h j e
    | false => rw [if_neg Bool.false_ne_true, if_neg Bool.false_ne_true]
  show ((fun j => if exi j then f j else 0), (fun j => if exi j then F 2 j else 0)) = mX F
  rw [q]
  rfl
theorem mS.row {F v : xS} {f : Nat → Int32} (S : mS Ψ F v) (h : ∀ j, exi j = true → f j = F 1 j) : mS Ψ (va_up F 1 f) v := ⟨⟨by show (f 6).toInt ≤ 50; rw [h 6 rfl]; exact S.1.1, by show (f 7).toInt ≤ 50; rw [h 7 rfl]; exact S.1.2⟩, ⟨S.2.1.1, by rw [mX_eq h]; exact S.2.1.2⟩, S.2.2⟩
theorem mrow {F v : xS} {f : Nat → Int32} {s : xS} (hs : sAgr (mSt f) s) : agr (mA (va_up F 1 f) v) (s, (mA F v).2) := ⟨hs, ⟨⟨fun _ _ => rfl, fun _ _ => rfl, fun _ _ => rfl, fun _ _ => rfl⟩, ⟨⟨rfl, rfl, rfl, rfl⟩, rfl, rfl, rfl, rfl⟩, ⟨rfl, rfl⟩, fun _ _ => rfl⟩, fun _ => ⟨⟨rfl, rfl, rfl, rfl, rfl, rfl⟩, fun _ _ => ⟨rfl, rfl⟩, fun _ _ => ⟨rfl, rfl⟩, fun _ _ => rfl, fun _ _ => rfl⟩⟩
theorem mR.k {R : Nat → Bool} {F v F' v' : xS} (E : mR R F v F' v') {k : Nat} (h : ¬ k = 1 ∧ ¬ k = 3 ∧ ¬ k = 4 ∧ ¬ k = 99) : F' k = F k := by
  rcases E.1 k with e | e | e | e | e
  · exact absurd e h.1
  · exact absurd e h.2.1
  · exact absurd e h.2.2.1
  · exact absurd e h.2.2.2
  · exact e
theorem mR.v {R : Nat → Bool} {F v F' v' : xS} (E : mR R F v F' v') {j : Nat} (h : ¬ (7 ≤ j ∧ j < 15)) : v' 0 j = v 0 j := (E.2.2 j).elim (fun z => absurd z h) id
def okR (R : Nat → Bool) : Prop := ∀ j, R j = true → j = 0 ∨ j = 1 ∨ r1 j = true
theorem ok_r1 : okR r1 := fun _ z => Or.inr (Or.inr z)
theorem ok_r0 : okR r0 := fun _ z => (Bool.false_ne_true z).elim
theorem xin_ex {N : Nat} {x k : Int32} (b : below N x) (hN : N < 2 ^ 31) (h : xin k x.toInt) : ∃ i, i < N ∧ k = nI i ∧ nat k = i ∧ i < nat x := by
  have lt := xin_nat b hN h
  have le := bel_nat b hN
  obtain ⟨m, hm, rfl⟩ := b
  rw [nI_toInt (by omega)] at h
  obtain ⟨i, hi, e, ei⟩ := nI_ofx k h (by omega)
  exact ⟨i, by omega, e, ei, by omega⟩
theorem ok_r2 : okR r2 := fun j z => by
  simp only [r2, Bool.or_eq_true, beq_iff_eq] at z
  exact z.elim (fun y => Or.inr (Or.inr y)) Or.inl
theorem r1_f {j : Nat} (h : ¬ j = 8) (g : j < 25 ∨ 60 ≤ j ∨ (j - 25) % 5 < 2) : r1 j = false := by
  have q1 : (j == 8) = false := by simpa using h
  unfold r1
  rw [q1, Bool.false_or]
  rcases g with g | g | g
  · have q : Nat.ble 25 j = false := Bool.eq_false_iff.mpr fun z => by have := Nat.le_of_ble_eq_true z; omega
    rw [q]; rfl
  · have q : Nat.blt j 60 = false := Bool.eq_false_iff.mpr fun z => by have := Nat.le_of_ble_eq_true z; omega
    rw [q, Bool.and_false]; rfl
  · have q : Nat.ble 2 ((j - 25) % 5) = false := Bool.eq_false_iff.mpr fun z => by have := Nat.le_of_ble_eq_true z; omega
    rw [q, Bool.and_false]
theorem okR.f {R : Nat → Bool} (o : okR R) {j : Nat} (h : ¬ j = 8 ∧ ¬ j = 0 ∧ ¬ j = 1) (g : j < 25 ∨ 60 ≤ j ∨ (j - 25) % 5 < 2) : R j = false := Bool.eq_false_iff.mpr fun z => by
  rcases o j z with e | e | e
  · exact h.2.1 e
  · exact h.2.2 e
  · rw [r1_f h.1 g] at e; exact absurd e (by decide)
theorem mR.st {R : Nat → Bool} {F v F' v' : xS} (o : okR R) (E : mR R F v F' v') (J : sIv (mSt (F 1))) {a b : Int32} (ha : F' 1 0 = a) (hb : F' 1 1 = b) : sAgr (mSt (F' 1)) (va_up (mSt (F 1)) 6 (upd (upd (mSt (F 1) 6) 2 a) 3 b)) := by
  have g := fun (j : Nat) (l : j < 230) (h : ¬ j = 8 ∧ ¬ j = 0 ∧ ¬ j = 1) (g : j < 25 ∨ 60 ≤ j ∨ (j - 25) % 5 < 2) => E.2.1 j l (o.f h g)
  have e3 := g 3 (by omega) (by omega) (by omega)
  have e2 := g 2 (by omega) (by omega) (by omega)
  have e4 := g 4 (by omega) (by omega) (by omega)
  have e5 := g 5 (by omega) (by omega) (by omega)
  have n3 : nat (F 1 3) ≤ 8 := bel_nat J.1.1 (by omega)
  have n2 : nat (F 1 2) ≤ 7 := bel_nat J.1.2.1 (by omega)
  have n4 : nat (F 1 4) ≤ 50 := bel_nat J.1.2.2.2.1 (by omega)
  have n5 : nat (F 1 5) ≤ 20 := bel_nat J.1.2.2.2.2 (by omega)
  refine ⟨⟨e3, e2, ha, hb, e4, e5⟩, fun j hj => ?_, fun j hj => ?_, fun j hj => ?_, fun j hj => ?_⟩
  · have hj : j < nat (F' 1 3) := hj
    rw [e3] at hj
    exact ⟨g (9 + 2 * j) (by omega) (by omega) (by omega), g (9 + 2 * j + 1) (by omega) (by omega) (by omega)⟩
  · have hj : j < nat (F' 1 2) := hj
    rw [e2] at hj
    exact ⟨g (25 + 5 * j + 0) (by omega) (by omega) (by omega), g (25 + 5 * j + 1) (by omega) (by omega) (by omega)⟩
  · have hj : j < nat (F' 1 4) := hj
    rw [e4] at hj
    exact g (60 + j) (by omega) (by omega) (by omega)
  · have hj : j < nat (F' 1 5) := hj
    rw [e5] at hj
    exact g (110 + j) (by omega) (by omega) (by omega)
theorem mR.agr2 {R : Nat → Bool} {n : Nat} {F v F' v' : xS} (o : okR R) (E : mR R F v F' v') (I : aIv n (mA F v)) {a b : Int32} (ha : F' 1 0 = a) (hb : F' 1 1 = b) : agr (mA F' v') (va_up (mA F v).1 6 (upd (upd ((mA F v).1 6) 2 a) 3 b), (mA F v).2) := by
  refine ⟨E.st o I.1 ha hb, ?_, fun _ => ?_⟩
  · have e6 := E.k (k := 6) (by decide)
    have e7 := E.k (k := 7) (by decide)
    have e8 := E.k (k := 8) (by decide)
    have e10 := E.k (k := 10) (by decide)
    have q : mRs F' v' = mRs F v := by
      unfold mRs
      rw [e6, e7, e8, e10, E.v (j := 5) (by decide), E.v (j := 21) (by decide)]
    show rAgr (mRs F' v') (mRs F v)
    rw [q]
    exact rAgr.rf
  · show sAgr (mSt (F' 2)) (mSt (F 2))
    rw [E.k (k := 2) (by decide)]
    exact sAgr.rf
theorem mR.agr {R : Nat → Bool} {n : Nat} {F v F' v' : xS} (o : okR R) (E : mR R F v F' v') (I : aIv n (mA F v)) (h0 : R 0 = false) (h1 : R 1 = false) : agr (mA F' v') (mA F v) := by
  refine (E.agr2 o I (E.2.1 0 (by omega) h0) (E.2.1 1 (by omega) h1)).tr ⟨⟨⟨rfl, rfl, rfl, rfl, rfl, rfl⟩, fun _ _ => ⟨rfl, rfl⟩, fun _ _ => ⟨rfl, rfl⟩, fun _ _ => rfl, fun _ _ => rfl⟩, ⟨⟨fun _ _ => rfl, fun _ _ => rfl, fun _ _ => rfl, fun _ _ => rfl⟩, ⟨⟨rfl, rfl, rfl, rfl⟩, rfl, rfl, rfl, rfl⟩, ⟨rfl, rfl⟩, fun _ _ => rfl⟩, fun _ => ⟨⟨rfl, rfl, rfl, rfl, rfl, rfl⟩, fun _ _ => ⟨rfl, rfl⟩, fun _ _ => ⟨rfl, rfl⟩, fun _ _ => rfl, fun _ _ => rfl⟩⟩
theorem mR.c0 {F v F' v' : xS} (E : mR r0 F v F' v') : mR r1 F v F' v' := E.wd (fun _ _ => rfl)
theorem sp_inx (x m : Int32) (n : Int) (hm : m.toInt + 1 = n) {K : xKo} (h0 : ¬ xin x n → K (some (.int 0)) []) (h1 : xin x n → K (some (.int 1)) []) : C_M_in [.int x, .int 0, .int m] [] K := by
  refine sp_in x 0 m (fun a => h0 fun z => ?_) (fun a => h1 ?_)
  · rw [show (0 : Int32).toInt = 0 by decide] at a
    simp only [xin] at z
    omega
  · rw [show (0 : Int32).toInt = 0 by decide] at a
    simp only [xin]
    omega
set_option maxRecDepth 100000 in
theorem sp_addsM (F v : xS) (c m : Int32) (k : Nat) (hk : k < 8) (e : F 1 3 = nI k) {K : xKo} (h : ∀ f : Nat → Int32, (∀ i, ¬ i = 9 + 2 * k → ¬ i = 9 + 2 * k + 1 → ¬ i = 3 → f i = F 1 i) → f (9 + 2 * k) = c → f (9 + 2 * k + 1) = m → f 3 = nI (k + 1) → K none (xfill (va_up F 1 f) v 0 (wM0 0))) : C_M_adds [.ref 0, .int c, .int m] (xfill F v 0 (wM0 0)) K := by
  have e0 : F 1 (Int32.toNatClampNeg 3) = nI k := e
  have n3 : Int32.toNatClampNeg 3 = 3 := by decide
  have n9 : Int32.toNatClampNeg (9 + 2 * nI k) = 9 + 2 * k := nc2 (by omega)
  have n10 : Int32.toNatClampNeg (9 + 2 * nI k + 1) = 9 + 2 * k + 1 := nc21 (by omega)
  have d3 : (3 : Nat) ≠ 9 + 2 * k := by omega
  have d4 : (3 : Nat) ≠ 9 + 2 * k + 1 := by omega
  refine xM_go rfl 60 [] fun P hP => ?_
  refine ⟨vin (by decide), ?_⟩
  refine ⟨by show vp_in (9 + 2 * F 1 (Int32.toNatClampNeg 3)) 230; rw [e0]; exact vc2 hk, ?_⟩
  refine ⟨vin (by decide), ?_⟩
  refine ⟨by show vp_in (9 + 2 * upd (F 1) (9 + 2 * F 1 (Int32.toNatClampNeg 3)).toNatClampNeg c (Int32.toNatClampNeg 3) + 1) 230; rw [e0, n9, n3, pk_un d3, e]; exact vc21 hk, ?_⟩
  refine ⟨vin (by decide), ?_⟩
  refine ⟨vin (by decide), ?_⟩
  have fin := h (upd (upd (upd (F 1) (9 + 2 * k) c) (9 + 2 * k + 1) m) 3 (nI k + 1)) (fun i h1 h2 h3 => ?_) ?_ ?_ ?_
  rotate_left
  · rw [pk_un h3, pk_un h2, pk_un h1]
  · rw [pk_un (by omega), pk_un (by omega), pk_us]
  · rw [pk_un (by omega), pk_us]
  · rw [pk_us, nI_1]
  have q : ∀ f, f = upd (upd (upd (F 1) (9 + 2 * k) c) (9 + 2 * k + 1) m) 3 (nI k + 1) → K none (xfill (va_up F 1 f) v 0 (wM0 0)) := fun f ef => by rw [ef]; exact fin
  refine q (upd (upd (upd (F 1) (9 + 2 * F 1 (Int32.toNatClampNeg 3)).toNatClampNeg c) (9 + 2 * upd (F 1) (9 + 2 * F 1 (Int32.toNatClampNeg 3)).toNatClampNeg c (Int32.toNatClampNeg 3) + 1).toNatClampNeg m) (Int32.toNatClampNeg 3) (upd (upd (F 1) (9 + 2 * F 1 (Int32.toNatClampNeg 3)).toNatClampNeg c) (9 + 2 * upd (F 1) (9 + 2 * F 1 (Int32.toNatClampNeg 3)).toNatClampNeg c (Int32.toNatClampNeg 3) + 1).toNatClampNeg m (Int32.toNatClampNeg 3) + 1)) ?_
  rw [e0, n9, n3, pk_un d3, e, n10, pk_un d4, pk_un d3, e]
set_option maxRecDepth 100000 in
theorem ms_thing (n : Nat) (F v : xS) (I : aIv n (mA F v)) (S : mS Ψ F v) (a b : Int32) {K : xKo} (h : mTo Ψ F v (g_thing a b) (f_thing a b) K) : C_M_thing [.ref 0, .int a, .int b] (xfill F v 0 (wM0 0)) K := by
  have b3 : below 8 (F 1 3) := I.1.1.1
  have b2 : below 7 (F 1 2) := I.1.1.2.1
  have b4 : below 50 (F 1 4) := I.1.1.2.2.2.1
  have b5 : below 20 (F 1 5) := I.1.1.2.2.2.2
  obtain ⟨k, hk, e⟩ := id b3
  have en : nat (F 1 3) = k := by rw [e]; exact nI_clamp (by omega)
  refine xM_go rfl 100 [] fun P hP => ?_
  refine xcall (sp_isCell _ (fun a1 => ?_) (fun a1 => ?_))
  · refine br_c (fun _ => ?_) (fun z => absurd rfl z)
    refine xcall (sp_errM F v (-1000000001) 1 (by decide) (by decide) ?_)
    exact h.err S (if_neg fun z => a1 z.1.1) (if_neg fun z => a1 z.1)
  refine br_c (fun z => absurd z (by decide)) (fun _ => ?_)
  refine xcall (sp_inx _ 63 64 (by decide) (fun a2 => ?_) (fun a2 => ?_))
  · refine br_n (fun z => absurd rfl z) (fun _ => ?_)
    refine xcall (sp_errM F v (-1000000001) 1 (by decide) (by decide) ?_)
    exact h.err S (if_neg fun z => a2 z.1.2) (if_neg fun z => a2 z.2)
  refine br_n (fun _ => ?_) (fun z => absurd z (by decide))
  refine ⟨vin (by decide), ?_⟩
  refine br_n (fun a3 => ?_) (fun a3 => ?_)
  · have a3 : ¬ F 1 3 = nI 8 := a3
    have k8 : k < 8 := by
      have : ¬ k = 8 := fun z => a3 (by rw [e, z])
      omega
    have c8 : nat (F 1 3) < 8 := by omega
    refine xcall (sp_addsM F v a b k k8 e fun f f1 f2 f3 f4 => ?_)
    refine ⟨vin (by decide), ?_⟩
    have fin : K (some (.int (F 1 3))) (xfill (va_up F 1 f) v 0 (wM0 0)) := by
      refine h.ok (F' := va_up F 1 f) (v' := v) (S.row (fun j hj => by have q := exi_in hj; exact f1 j (by omega) (by omega) (by omega))) ?_ ((if_pos ⟨a1, a2⟩).trans (if_pos c8))
      rw [show g_thing a b (mA F v) = _ from if_pos ⟨⟨a1, a2⟩, c8⟩]
      refine mrow ⟨⟨by show f 3 = F 1 3 + 1; rw [f4, e, nI_1], f1 2 (by omega) (by omega) (by omega), f1 0 (by omega) (by omega) (by omega), f1 1 (by omega) (by omega) (by omega), f1 4 (by omega) (by omega) (by omega), f1 5 (by omega) (by omega) (by omega)⟩, fun j hj => ?_, fun j hj => ?_, fun j hj => ?_, fun j hj => ?_⟩
      · have hj : j < nat (f 3) := hj
        rw [f4, show nat (nI (k + 1)) = k + 1 from nI_clamp (by omega)] at hj
        show f (9 + 2 * j) = upd (mSt (F 1) 0) (nat (F 1 3)) a j ∧ f (9 + 2 * j + 1) = upd (mSt (F 1) 1) (nat (F 1 3)) b j
        rw [en]
        by_cases jk : j = k
        · subst jk
          rw [pk_us, pk_us]
          exact ⟨f2, f3⟩
        · rw [pk_un jk, pk_un jk]
          exact ⟨f1 _ (by omega) (by omega) (by omega), f1 _ (by omega) (by omega) (by omega)⟩
      · have hj : j < nat (f 2) := hj
        rw [f1 2 (by omega) (by omega) (by omega)] at hj
        have := bel_nat b2 (by omega)
        exact ⟨f1 (25 + 5 * j + 0) (by omega) (by omega) (by omega), f1 (25 + 5 * j + 1) (by omega) (by omega) (by omega)⟩
      · exact f1 (60 + j) (by omega) (by omega) (by omega)
      · exact f1 (110 + j) (by omega) (by omega) (by omega)
    have ev : F 1 3 = f (Int32.toNatClampNeg 3) - 1 := by
      show F 1 3 = f 3 - 1
      rw [f4, nI_pred, e]
    rw [ev] at fin
    exact fin
  · have a3 : F 1 3 = nI 8 := a3
    have c8 : ¬ nat (F 1 3) < 8 := by rw [a3]; decide
    refine xcall (sp_errM F v (-1000000004) 4 (by decide) (by decide) ?_)
    exact h.err S (if_neg fun z => c8 z.2) ((if_pos ⟨a1, a2⟩).trans (if_neg c8))
set_option maxRecDepth 100000 in
theorem ms_ofThing (n : Nat) (F v : xS) (I : aIv n (mA F v)) (S : mS Ψ F v) (i w : Int32) {K : xKo} (h : mTo Ψ F v (fun s => s) (f_ofThing i w) K) : C_M_ofThing [.ref 0, .int i, .int w] (xfill F v 0 (wM0 0)) K := by
  refine xM_go rfl 100 [] fun P hP => ?_
  refine xcall (sp_isThingM F v _ I.1.1.1 (fun a1 => ?_) (fun a1 => ?_))
  · refine br_c (fun _ => ?_) (fun z => absurd rfl z)
    refine xcall (sp_errM F v (-1000000001) 1 (by decide) (by decide) ?_)
    exact h.err S rfl (if_neg fun z => a1 z.1)
  refine br_c (fun z => absurd z (by decide)) (fun _ => ?_)
  refine xcall (sp_inx _ 1 2 (by decide) (fun a2 => ?_) (fun a2 => ?_))
  · refine br_c (fun _ => ?_) (fun z => absurd rfl z)
    refine xcall (sp_errM F v (-1000000001) 1 (by decide) (by decide) ?_)
    exact h.err S rfl (if_neg fun z => a2 z.2)
  refine br_c (fun z => absurd z (by decide)) (fun _ => ?_)
  obtain ⟨k, hk, rfl, ek, lt⟩ := xin_ex I.1.1.1 (by omega) a1
  obtain ⟨j, hj, rfl, ej⟩ := nI_ofx w (n := 2) a2 (by decide)
  rcases (show j = 0 ∨ j = 1 by omega) with z | z
  · subst z
    have b0 : vp_in ((9 : Int32) + 2 * nI k + nI 0) 230 := by rw [ix2, nI_add]; exact vp_in_nI (by omega) (by omega)
    refine ⟨b0, ?_⟩
    have q : K (some (.int (F 1 (9 + 2 * k)))) (xfill F v 0 (wM0 0)) := h.id S rfl ((if_pos ⟨a1, a2⟩).trans ((if_pos rfl).trans (an_ (by show F 1 (9 + 2 * nat (nI k)) = _; rw [ek]))))
    rw [show 9 + 2 * k = nat ((9 : Int32) + 2 * nI k + nI 0) by rw [ix2, nI_add]; exact (nI_clamp (by omega)).symm] at q
    exact q
  · subst z
    have b0 : vp_in ((9 : Int32) + 2 * nI k + nI 1) 230 := by rw [ix2, nI_add]; exact vp_in_nI (by omega) (by omega)
    refine ⟨b0, ?_⟩
    have q : K (some (.int (F 1 (9 + 2 * k + 1)))) (xfill F v 0 (wM0 0)) := h.id S rfl ((if_pos ⟨a1, a2⟩).trans ((if_neg (by decide)).trans (an_ (by show F 1 (9 + 2 * nat (nI k) + 1) = _; rw [ek]))))
    rw [show 9 + 2 * k + 1 = nat ((9 : Int32) + 2 * nI k + nI 1) by rw [ix2, nI_add]; exact (nI_clamp (by omega)).symm] at q
    exact q
end
section
/-! ===== the reference: plain methods, second part ===== -/
variable {Ψ : mRw → Prop}
theorem ix25 {k : Nat} : (25 : Int32) + 5 * nI k = nI (25 + 5 * k) := by
  rw [show (25 : Int32) = nI 25 from rfl, show (5 : Int32) = nI 5 from rfl, nI_mul, nI_add]
theorem sp_getsA (F v : xS) (p : Nat → Int32) (c w : Nat) (hc : c < 7) (hw : w < 5) (x : Int32) {K : xKo} (h : ∀ f : Nat → Int32, (∀ i, ¬ i = 25 + 5 * c + w → f i = p i) → f (25 + 5 * c + w) = x → K none (xfill (va_up F 1 f) v 0 (wM0 0))) : C_M_gets [.ref 0, .int (nI c), .int (nI w), .int x] (xfill (va_up F 1 p) v 0 (wM0 0)) K := by
  refine sp_getsM (va_up F 1 p) v (nI c) (nI w) x (vc5 hc hw) ?_
  rw [nc5 (by omega) (by omega)]
  exact h (upd p (25 + 5 * c + w) x) (fun i hi => pk_un hi) pk_us
theorem sp_becomesA (F v : xS) (p : Nat → Int32) (i : Nat) (hi : i < 230) (k : Int32) (hk : k = nI i) (x : Int32) {K : xKo} (h : ∀ f : Nat → Int32, (∀ j, ¬ j = i → f j = p j) → f i = x → K (some (.int (p i))) (xfill (va_up F 1 f) v 0 (wM0 0))) : C_M_becomes [.ref 0, .int k, .int x] (xfill (va_up F 1 p) v 0 (wM0 0)) K := by
  subst hk
  have e : nat (nI i) = i := nI_clamp (by omega)
  refine sp_becomesM (va_up F 1 p) v (nI i) x (vp_in_nI hi (by omega)) ?_
  rw [e]
  exact h (upd p i x) (fun j hj => pk_un hj) pk_us
set_option maxRecDepth 100000 in
theorem ms_shift (n : Nat) (F v : xS) (I : aIv n (mA F v)) (S : mS Ψ F v) (i w x : Int32) {K : xKo} (h : mTo Ψ F v (g_shift i w x) (f_shift i w x) K) : C_M_shift [.ref 0, .int i, .int w, .int x] (xfill F v 0 (wM0 0)) K := by
  have b3 := bel_nat (show below 8 (F 1 3) from I.1.1.1) (by omega)
  have b2 := bel_nat (show below 7 (F 1 2) from I.1.1.2.1) (by omega)
  have b4 := bel_nat (show below 50 (F 1 4) from I.1.1.2.2.2.1) (by omega)
  have b5 := bel_nat (show below 20 (F 1 5) from I.1.1.2.2.2.2) (by omega)
  have go : ∀ s : Int32, (s = 0 → ¬ (xin w 2 ∧ xin x (if w = 0 then 12 else 64))) → (¬ s = 0 → xin w 2 ∧ xin x (if w = 0 then 12 else 64)) → xWP pg_M_shift K 31 [(0, .ref 0), (1, .int i), (2, .int w), (3, .int x)] [.int s] (xfill F v 0 (wM0 0)) (0, 0) := by
    intro s s0 s1
    refine xWP_go 100 [] fun P hP => ?_
    refine xcall (sp_isThingM F v _ I.1.1.1 (fun a3 => ?_) (fun a3 => ?_))
    · refine br_c (fun _ => ?_) (fun z => absurd rfl z)
      refine xcall (sp_errM F v (-1000000001) 1 (by decide) (by decide) ?_)
      exact h.err S (if_neg fun z => a3 z.1.1) (if_neg fun z => a3 z.1.1)
    refine br_c (fun z => absurd z (by decide)) (fun _ => ?_)
    refine br_c (fun z => ?_) (fun z => ?_)
    · have n := s0 z
      refine xcall (sp_errM F v (-1000000001) 1 (by decide) (by decide) ?_)
      exact h.err S (if_neg fun z => n ⟨z.1.2, z.2⟩) (if_neg fun z => n ⟨z.1.2, z.2⟩)
    have ok := s1 z
    obtain ⟨k, hk, rfl, ek, lt⟩ := xin_ex I.1.1.1 (by omega) a3
    obtain ⟨j, hj, rfl, ej⟩ := nI_ofx w (n := 2) ok.1 (by decide)
    rcases (show j = 0 ∨ j = 1 by omega) with z | z
    all_goals subst z
    · have ei : (9 : Int32) + 2 * nI k + nI 0 = nI (9 + 2 * k + 0) := by rw [ix2, nI_add]
      refine xcall (sp_becomesA F v (F 1) (9 + 2 * k + 0) (by omega) _ ei x fun f f1 f2 => ?_)
      have q : K (some (.int (F 1 (9 + 2 * k + 0)))) (xfill (va_up F 1 f) v 0 (wM0 0)) := by
        refine h.ok (F' := va_up F 1 f) (v' := v) (S.row (fun j hj => by have q := exi_in hj; exact f1 j (by omega))) ?_ ((if_pos ⟨⟨a3, ok.1⟩, ok.2⟩).trans ((if_pos rfl).trans (an_ (by show F 1 (9 + 2 * nat (nI k)) = _; rw [ek]; rfl))))
        rw [show g_shift (nI k) (nI 0) x (mA F v) = (va_up (mA F v).1 0 (upd ((mA F v).1 0) (nat (nI k)) x), (mA F v).2) from (if_pos ⟨⟨a3, ok.1⟩, ok.2⟩).trans (if_pos rfl)]
        refine mrow ⟨⟨f1 3 (by omega), f1 2 (by omega), f1 0 (by omega), f1 1 (by omega), f1 4 (by omega), f1 5 (by omega)⟩, fun j hj => ?_, fun j hj => ?_, fun j hj => ?_, fun j hj => ?_⟩
        · have hj : j < nat (f 3) := hj
          rw [f1 3 (by omega)] at hj
          show f (9 + 2 * j) = upd (mSt (F 1) 0) (nat (nI k)) x j ∧ f (9 + 2 * j + 1) = mSt (F 1) 1 j
          rw [ek]
          by_cases jk : j = k
          · subst jk
            rw [pk_us]
            exact ⟨f2, f1 _ (by omega)⟩
          · rw [pk_un jk]
            exact ⟨f1 _ (by omega), f1 _ (by omega)⟩
        · have hj : j < nat (f 2) := hj
          rw [f1 2 (by omega)] at hj
          exact ⟨f1 (25 + 5 * j + 0) (by omega), f1 (25 + 5 * j + 1) (by omega)⟩
        · exact f1 (60 + j) (by omega)
        · exact f1 (110 + j) (by omega)
      exact q
    · have ei : (9 : Int32) + 2 * nI k + nI 1 = nI (9 + 2 * k + 1) := by rw [ix2, nI_add]
      refine xcall (sp_becomesA F v (F 1) (9 + 2 * k + 1) (by omega) _ ei x fun f f1 f2 => ?_)
      have q : K (some (.int (F 1 (9 + 2 * k + 1)))) (xfill (va_up F 1 f) v 0 (wM0 0)) := by
        refine h.ok (F' := va_up F 1 f) (v' := v) (S.row (fun j hj => by have q := exi_in hj; exact f1 j (by omega))) ?_ ((if_pos ⟨⟨a3, ok.1⟩, ok.2⟩).trans ((if_neg (by decide)).trans (an_ (by show F 1 (9 + 2 * nat (nI k) + 1) = _; rw [ek]))))
        rw [show g_shift (nI k) (nI 1) x (mA F v) = (va_up (mA F v).1 1 (upd ((mA F v).1 1) (nat (nI k)) x), (mA F v).2) from (if_pos ⟨⟨a3, ok.1⟩, ok.2⟩).trans (if_neg (by decide))]
        refine mrow ⟨⟨f1 3 (by omega), f1 2 (by omega), f1 0 (by omega), f1 1 (by omega), f1 4 (by omega), f1 5 (by omega)⟩, fun j hj => ?_, fun j hj => ?_, fun j hj => ?_, fun j hj => ?_⟩
        · have hj : j < nat (f 3) := hj
          rw [f1 3 (by omega)] at hj
          show f (9 + 2 * j) = mSt (F 1) 0 j ∧ f (9 + 2 * j + 1) = upd (mSt (F 1) 1) (nat (nI k)) x j
          rw [ek]
          by_cases jk : j = k
          · subst jk
            rw [pk_us]
            exact ⟨f1 _ (by omega), f2⟩
          · rw [pk_un jk]
            exact ⟨f1 _ (by omega), f1 _ (by omega)⟩
        · have hj : j < nat (f 2) := hj
          rw [f1 2 (by omega)] at hj
          exact ⟨f1 (25 + 5 * j + 0) (by omega), f1 (25 + 5 * j + 1) (by omega)⟩
        · exact f1 (60 + j) (by omega)
        · exact f1 (110 + j) (by omega)
      exact q
  refine xM_go rfl 100 [(31, [0, 1, 2, 3])] fun P hP => ?_
  refine br_n (fun w0 => ?_) (fun w0 => ?_)
  · have w0 : ¬ w = 0 := w0
    refine br_n (fun w1 => ?_) (fun w1 => ?_)
    · have w1 : ¬ w = 1 := w1
      refine hP _ _ _ _ _ (go 0 (fun _ z => ?_) (fun z => absurd rfl z))
      obtain ⟨j, hj, rfl, ej⟩ := nI_ofx w (n := 2) z.1 (by decide)
      rcases (show j = 0 ∨ j = 1 by omega) with y | y
      · subst y; exact w0 rfl
      · subst y; exact w1 rfl
    · have w1 : w = 1 := w1
      have x2 : xin w 2 := by rw [w1]; decide
      refine xcall (sp_inx _ 63 64 (by decide) (fun a => ?_) (fun a => ?_))
      · refine br_c (fun _ => ?_) (fun z => absurd rfl z)
        exact hP _ _ _ _ _ (go 0 (fun _ z => a (by have y := z.2; rw [if_neg w0] at y; exact y)) (fun z => absurd rfl z))
      · refine br_c (fun z => absurd z (by decide)) (fun _ => ?_)
        exact hP _ _ _ _ _ (go 1 (fun z => absurd z (by decide)) (fun _ => ⟨x2, by rw [if_neg w0]; exact a⟩))
  · have w0 : w = 0 := w0
    have x2 : xin w 2 := by rw [w0]; decide
    refine xcall (sp_isCell _ (fun a => ?_) (fun a => ?_))
    · exact hP _ _ _ _ _ (go 0 (fun _ z => a (by have y := z.2; rw [if_pos w0] at y; exact y)) (fun z => absurd rfl z))
    · exact hP _ _ _ _ _ (go 1 (fun z => absurd z (by decide)) (fun _ => ⟨x2, by rw [if_pos w0]; exact a⟩))
set_option maxRecDepth 100000 in
theorem ms_become (n : Nat) (F v : xS) (I : aIv n (mA F v)) (S : mS Ψ F v) (c m : Int32) {K : xKo} (h : mTo Ψ F v (g_become c m) (f_become c m) K) : C_M_become [.ref 0, .int c, .int m] (xfill F v 0 (wM0 0)) K := by
  have b3 := bel_nat (show below 8 (F 1 3) from I.1.1.1) (by omega)
  have b2 := bel_nat (show below 7 (F 1 2) from I.1.1.2.1) (by omega)
  have b4 := bel_nat (show below 50 (F 1 4) from I.1.1.2.2.2.1) (by omega)
  have b5 := bel_nat (show below 20 (F 1 5) from I.1.1.2.2.2.2) (by omega)
  refine xM_go rfl 100 [] fun P hP => ?_
  refine xcall (sp_isChildM F v _ I.1.1.2.1 (fun a1 => ?_) (fun a1 => ?_))
  · refine br_c (fun _ => ?_) (fun z => absurd rfl z)
    refine xcall (sp_errM F v (-1000000001) 1 (by decide) (by decide) ?_)
    exact h.err S (if_neg fun z => a1 z.1) (if_neg fun z => a1 z.1)
  refine br_c (fun z => absurd z (by decide)) (fun _ => ?_)
  refine xcall (sp_inx _ 69 70 (by decide) (fun a2 => ?_) (fun a2 => ?_))
  · refine br_n (fun z => absurd rfl z) (fun _ => ?_)
    refine xcall (sp_errM F v (-1000000001) 1 (by decide) (by decide) ?_)
    exact h.err S (if_neg fun z => a2 z.2) (if_neg fun z => a2 z.2)
  refine br_n (fun _ => ?_) (fun z => absurd z (by decide))
  obtain ⟨k, hk, rfl, ek, lt⟩ := xin_ex I.1.1.2.1 (by omega) a1
  refine ⟨by decide, ?_⟩
  refine xcall (sp_getsA F v (F 1) k 1 hk (by omega) (m - m / 10 * 10) fun p1 p1n p1e => ?_)
  refine ⟨by decide, ?_⟩
  refine xcall (sp_becomesA F v p1 (25 + 5 * k) (by omega) _ ix25 (m / 10) fun f fn fe => ?_)
  have w : ∀ i, ¬ i = 25 + 5 * k → ¬ i = 25 + 5 * k + 1 → f i = F 1 i := fun i h0 h1 => (fn i h0).trans (p1n i h1)
  have q : K (some (.int (F 1 (25 + 5 * k + 0)))) (xfill (va_up F 1 f) v 0 (wM0 0)) := by
    refine h.ok (F' := va_up F 1 f) (v' := v) (S.row (fun j hj => by have q := exi_in hj; exact w j (by omega) (by omega))) ?_ ((if_pos ⟨a1, a2⟩).trans (an_ (by show F 1 (25 + 5 * nat (nI k) + 0) = _; rw [ek])))
    rw [show g_become (nI k) m (mA F v) = _ from if_pos ⟨a1, a2⟩]
    refine mrow ⟨⟨w 3 (by omega) (by omega), w 2 (by omega) (by omega), w 0 (by omega) (by omega), w 1 (by omega) (by omega), w 4 (by omega) (by omega), w 5 (by omega) (by omega)⟩, fun j hj => ?_, fun j hj => ?_, fun j hj => ?_, fun j hj => ?_⟩
    · have hj : j < nat (f 3) := hj
      rw [w 3 (by omega) (by omega)] at hj
      exact ⟨w (9 + 2 * j) (by omega) (by omega), w (9 + 2 * j + 1) (by omega) (by omega)⟩
    · show f (25 + 5 * j + 0) = upd (mSt (F 1) 2) (nat (nI k)) (m / 10) j ∧ f (25 + 5 * j + 1) = upd (mSt (F 1) 3) (nat (nI k)) (m - m / 10 * 10) j
      rw [ek]
      by_cases jk : j = k
      · subst jk
        rw [pk_us, pk_us]
        exact ⟨fe, (fn _ (by omega)).trans p1e⟩
      · rw [pk_un jk, pk_un jk]
        exact ⟨w _ (by omega) (by omega), w _ (by omega) (by omega)⟩
    · have hj : j < nat (f 4) := hj
      exact w (60 + j) (by omega) (by omega)
    · exact w (110 + j) (by omega) (by omega)
  rw [show F 1 (25 + 5 * k + 0) = p1 (25 + 5 * k) from (p1n _ (by omega)).symm] at q
  exact q
theorem sp_above (k : Int32) {K : xKo} (h : K (some (.int (if k = 0 then -1 else if k ≤ 3 then 0 else k - 3))) []) : C_M_above [.int k] [] K := by
  refine xM_go rfl 60 [] fun P hP => ?_
  refine br_n (fun a => ?_) (fun a => ?_)
  · have a : ¬ k = 0 := a
    rw [if_neg a] at h
    refine br_c (fun b => ?_) (fun b => ?_)
    · have b : k ≤ 3 := b
      rw [if_pos b] at h
      exact h
    · have b : ¬ k ≤ 3 := b
      rw [if_neg b] at h
      exact h
  · have a : k = 0 := a
    rw [if_pos a] at h
    exact h
set_option maxRecDepth 100000 in
theorem ms_as (n : Nat) (F v : xS) (I : aIv n (mA F v)) (S : mS Ψ F v) (c kk : Int32) {K : xKo} (h : mTo Ψ F v (fun s => s) (f_as c kk) K) : C_M_as [.ref 0, .int c, .int kk] (xfill F v 0 (wM0 0)) K := by
  have b3 := bel_nat (show below 8 (F 1 3) from I.1.1.1) (by omega)
  have b2 := bel_nat (show below 7 (F 1 2) from I.1.1.2.1) (by omega)
  have b4 := bel_nat (show below 50 (F 1 4) from I.1.1.2.2.2.1) (by omega)
  have b5 := bel_nat (show below 20 (F 1 5) from I.1.1.2.2.2.2) (by omega)
  refine xM_go rfl 100 [(32, [0, 1, 2, 3])] fun P hP => ?_
  refine xcall (sp_isChildM F v _ I.1.1.2.1 (fun a1 => ?_) (fun a1 => ?_))
  · refine br_c (fun _ => ?_) (fun z => absurd rfl z)
    refine xcall (sp_errM F v (-1000000001) 1 (by decide) (by decide) ?_)
    exact h.err S rfl (if_neg fun z => a1 z.1)
  refine br_c (fun z => absurd z (by decide)) (fun _ => ?_)
  refine xcall (sp_inx _ 6 7 (by decide) (fun a2 => ?_) (fun a2 => ?_))
  · refine br_n (fun z => absurd rfl z) (fun _ => ?_)
    refine xcall (sp_errM F v (-1000000001) 1 (by decide) (by decide) ?_)
    exact h.err S rfl (if_neg fun z => a2 z.2)
  refine br_n (fun _ => ?_) (fun z => absurd z (by decide))
  obtain ⟨k, hk, rfl, ek, lt⟩ := xin_ex I.1.1.2.1 (by omega) a1
  obtain ⟨j, hj, rfl, ej⟩ := nI_ofx kk (n := 7) a2 (by decide)
  have hj7 : j < 7 := by omega
  have s0 : ∀ ok : Prop, (ok → K (some (.int (F 1 (25 + 5 * k + 1)))) (xfill F v 0 (wM0 0))) → (¬ ok → K (some (.int (-1000000005))) (xfill (va_up F 5 (upd (F 5) 5 (F 5 5 + 1))) v 0 (wM0 0))) → ((j = 0) ↔ ok) → xWP pg_M_as K 32 [(0, .ref 0), (1, .int (nI k)), (2, .int (nI j)), (3, .int 0)] [] (xfill F v 0 (wM0 0)) (0, 0) := by
    intro ok hA hB hc
    have sE : ¬ ok → xWP pg_M_as K 32 [(0, .ref 0), (1, .int (nI k)), (2, .int (nI j)), (3, .int (-1))] [] (xfill F v 0 (wM0 0)) (0, 0) := by
      intro nok
      refine xWP_go 100 [] fun P hP => ?_
      refine br_c (fun _ => ?_) (fun z => absurd (by decide) z)
      refine br_c (fun z => absurd z (by decide)) (fun _ => ?_)
      refine xcall (sp_errM F v (-1000000005) 5 (by decide) (by decide) ?_)
      exact hB nok
    refine xWP_go 100 [(32, [0, 1, 2, 3])] fun P hP => ?_
    refine br_c (fun z => absurd z (by decide)) (fun _ => ?_)
    refine br_c (fun eq => ?_) (fun ne => ?_)
    · have eq : nI 0 = nI j := eq
      have jq : j = 0 := by
        have z := congrArg Int32.toInt eq
        rw [nI_toInt (by omega), nI_toInt (by omega)] at z
        omega
      refine br_c (fun _ => ?_) (fun z => absurd (by decide) z)
      refine xcall (sp_its F v (nI k) 1 (vc5 hk (w := 1) (by omega)) ?_)
      have q := hA (hc.mp jq)
      rw [show 25 + 5 * k + 1 = nat ((25 : Int32) + 5 * nI k + nI 1) from (nc5 (by omega) (by omega)).symm] at q
      exact q
    · have jn : ¬ j = 0 := fun z => ne (show nI 0 = nI j by rw [z])
      refine xcall (sp_above _ ?_)
      refine hP _ _ _ _ _ ?_
      exact sE (fun z => jn (hc.mpr z))
  have s1 : ∀ ok : Prop, (ok → K (some (.int (F 1 (25 + 5 * k + 1)))) (xfill F v 0 (wM0 0))) → (¬ ok → K (some (.int (-1000000005))) (xfill (va_up F 5 (upd (F 5) 5 (F 5 5 + 1))) v 0 (wM0 0))) → ((j = 1 ∨ j = 0) ↔ ok) → xWP pg_M_as K 32 [(0, .ref 0), (1, .int (nI k)), (2, .int (nI j)), (3, .int 1)] [] (xfill F v 0 (wM0 0)) (0, 0) := by
    intro ok hA hB hc
    have sE : ¬ ok → xWP pg_M_as K 32 [(0, .ref 0), (1, .int (nI k)), (2, .int (nI j)), (3, .int (-1))] [] (xfill F v 0 (wM0 0)) (0, 0) := by
      intro nok
      refine xWP_go 100 [] fun P hP => ?_
      refine br_c (fun _ => ?_) (fun z => absurd (by decide) z)
      refine br_c (fun z => absurd z (by decide)) (fun _ => ?_)
      refine xcall (sp_errM F v (-1000000005) 5 (by decide) (by decide) ?_)
      exact hB nok
    refine xWP_go 100 [(32, [0, 1, 2, 3])] fun P hP => ?_
    refine br_c (fun z => absurd z (by decide)) (fun _ => ?_)
    refine br_c (fun eq => ?_) (fun ne => ?_)
    · have eq : nI 1 = nI j := eq
      have jq : j = 1 := by
        have z := congrArg Int32.toInt eq
        rw [nI_toInt (by omega), nI_toInt (by omega)] at z
        omega
      refine br_c (fun _ => ?_) (fun z => absurd (by decide) z)
      refine xcall (sp_its F v (nI k) 1 (vc5 hk (w := 1) (by omega)) ?_)
      have q := hA (hc.mp (Or.inl jq))
      rw [show 25 + 5 * k + 1 = nat ((25 : Int32) + 5 * nI k + nI 1) from (nc5 (by omega) (by omega)).symm] at q
      exact q
    · have jn : ¬ j = 1 := fun z => ne (show nI 1 = nI j by rw [z])
      refine xcall (sp_above _ ?_)
      refine hP _ _ _ _ _ ?_
      exact s0 ok hA hB ⟨fun z => hc.mp (Or.inr z), fun z => (hc.mpr z).resolve_left jn⟩
  have s2 : ∀ ok : Prop, (ok → K (some (.int (F 1 (25 + 5 * k + 1)))) (xfill F v 0 (wM0 0))) → (¬ ok → K (some (.int (-1000000005))) (xfill (va_up F 5 (upd (F 5) 5 (F 5 5 + 1))) v 0 (wM0 0))) → ((j = 2 ∨ j = 0) ↔ ok) → xWP pg_M_as K 32 [(0, .ref 0), (1, .int (nI k)), (2, .int (nI j)), (3, .int 2)] [] (xfill F v 0 (wM0 0)) (0, 0) := by
    intro ok hA hB hc
    have sE : ¬ ok → xWP pg_M_as K 32 [(0, .ref 0), (1, .int (nI k)), (2, .int (nI j)), (3, .int (-1))] [] (xfill F v 0 (wM0 0)) (0, 0) := by
      intro nok
      refine xWP_go 100 [] fun P hP => ?_
      refine br_c (fun _ => ?_) (fun z => absurd (by decide) z)
      refine br_c (fun z => absurd z (by decide)) (fun _ => ?_)
      refine xcall (sp_errM F v (-1000000005) 5 (by decide) (by decide) ?_)
      exact hB nok
    refine xWP_go 100 [(32, [0, 1, 2, 3])] fun P hP => ?_
    refine br_c (fun z => absurd z (by decide)) (fun _ => ?_)
    refine br_c (fun eq => ?_) (fun ne => ?_)
    · have eq : nI 2 = nI j := eq
      have jq : j = 2 := by
        have z := congrArg Int32.toInt eq
        rw [nI_toInt (by omega), nI_toInt (by omega)] at z
        omega
      refine br_c (fun _ => ?_) (fun z => absurd (by decide) z)
      refine xcall (sp_its F v (nI k) 1 (vc5 hk (w := 1) (by omega)) ?_)
      have q := hA (hc.mp (Or.inl jq))
      rw [show 25 + 5 * k + 1 = nat ((25 : Int32) + 5 * nI k + nI 1) from (nc5 (by omega) (by omega)).symm] at q
      exact q
    · have jn : ¬ j = 2 := fun z => ne (show nI 2 = nI j by rw [z])
      refine xcall (sp_above _ ?_)
      refine hP _ _ _ _ _ ?_
      exact s0 ok hA hB ⟨fun z => hc.mp (Or.inr z), fun z => (hc.mpr z).resolve_left jn⟩
  have s3 : ∀ ok : Prop, (ok → K (some (.int (F 1 (25 + 5 * k + 1)))) (xfill F v 0 (wM0 0))) → (¬ ok → K (some (.int (-1000000005))) (xfill (va_up F 5 (upd (F 5) 5 (F 5 5 + 1))) v 0 (wM0 0))) → ((j = 3 ∨ j = 0) ↔ ok) → xWP pg_M_as K 32 [(0, .ref 0), (1, .int (nI k)), (2, .int (nI j)), (3, .int 3)] [] (xfill F v 0 (wM0 0)) (0, 0) := by
    intro ok hA hB hc
    have sE : ¬ ok → xWP pg_M_as K 32 [(0, .ref 0), (1, .int (nI k)), (2, .int (nI j)), (3, .int (-1))] [] (xfill F v 0 (wM0 0)) (0, 0) := by
      intro nok
      refine xWP_go 100 [] fun P hP => ?_
      refine br_c (fun _ => ?_) (fun z => absurd (by decide) z)
      refine br_c (fun z => absurd z (by decide)) (fun _ => ?_)
      refine xcall (sp_errM F v (-1000000005) 5 (by decide) (by decide) ?_)
      exact hB nok
    refine xWP_go 100 [(32, [0, 1, 2, 3])] fun P hP => ?_
    refine br_c (fun z => absurd z (by decide)) (fun _ => ?_)
    refine br_c (fun eq => ?_) (fun ne => ?_)
    · have eq : nI 3 = nI j := eq
      have jq : j = 3 := by
        have z := congrArg Int32.toInt eq
        rw [nI_toInt (by omega), nI_toInt (by omega)] at z
        omega
      refine br_c (fun _ => ?_) (fun z => absurd (by decide) z)
      refine xcall (sp_its F v (nI k) 1 (vc5 hk (w := 1) (by omega)) ?_)
      have q := hA (hc.mp (Or.inl jq))
      rw [show 25 + 5 * k + 1 = nat ((25 : Int32) + 5 * nI k + nI 1) from (nc5 (by omega) (by omega)).symm] at q
      exact q
    · have jn : ¬ j = 3 := fun z => ne (show nI 3 = nI j by rw [z])
      refine xcall (sp_above _ ?_)
      refine hP _ _ _ _ _ ?_
      exact s0 ok hA hB ⟨fun z => hc.mp (Or.inr z), fun z => (hc.mpr z).resolve_left jn⟩
  have s4 : ∀ ok : Prop, (ok → K (some (.int (F 1 (25 + 5 * k + 1)))) (xfill F v 0 (wM0 0))) → (¬ ok → K (some (.int (-1000000005))) (xfill (va_up F 5 (upd (F 5) 5 (F 5 5 + 1))) v 0 (wM0 0))) → ((j = 4 ∨ j = 1 ∨ j = 0) ↔ ok) → xWP pg_M_as K 32 [(0, .ref 0), (1, .int (nI k)), (2, .int (nI j)), (3, .int 4)] [] (xfill F v 0 (wM0 0)) (0, 0) := by
    intro ok hA hB hc
    have sE : ¬ ok → xWP pg_M_as K 32 [(0, .ref 0), (1, .int (nI k)), (2, .int (nI j)), (3, .int (-1))] [] (xfill F v 0 (wM0 0)) (0, 0) := by
      intro nok
      refine xWP_go 100 [] fun P hP => ?_
      refine br_c (fun _ => ?_) (fun z => absurd (by decide) z)
      refine br_c (fun z => absurd z (by decide)) (fun _ => ?_)
      refine xcall (sp_errM F v (-1000000005) 5 (by decide) (by decide) ?_)
      exact hB nok
    refine xWP_go 100 [(32, [0, 1, 2, 3])] fun P hP => ?_
    refine br_c (fun z => absurd z (by decide)) (fun _ => ?_)
    refine br_c (fun eq => ?_) (fun ne => ?_)
    · have eq : nI 4 = nI j := eq
      have jq : j = 4 := by
        have z := congrArg Int32.toInt eq
        rw [nI_toInt (by omega), nI_toInt (by omega)] at z
        omega
      refine br_c (fun _ => ?_) (fun z => absurd (by decide) z)
      refine xcall (sp_its F v (nI k) 1 (vc5 hk (w := 1) (by omega)) ?_)
      have q := hA (hc.mp (Or.inl jq))
      rw [show 25 + 5 * k + 1 = nat ((25 : Int32) + 5 * nI k + nI 1) from (nc5 (by omega) (by omega)).symm] at q
      exact q
    · have jn : ¬ j = 4 := fun z => ne (show nI 4 = nI j by rw [z])
      refine xcall (sp_above _ ?_)
      refine hP _ _ _ _ _ ?_
      exact s1 ok hA hB ⟨fun z => hc.mp (Or.inr z), fun z => (hc.mpr z).resolve_left jn⟩
  have s5 : ∀ ok : Prop, (ok → K (some (.int (F 1 (25 + 5 * k + 1)))) (xfill F v 0 (wM0 0))) → (¬ ok → K (some (.int (-1000000005))) (xfill (va_up F 5 (upd (F 5) 5 (F 5 5 + 1))) v 0 (wM0 0))) → ((j = 5 ∨ j = 2 ∨ j = 0) ↔ ok) → xWP pg_M_as K 32 [(0, .ref 0), (1, .int (nI k)), (2, .int (nI j)), (3, .int 5)] [] (xfill F v 0 (wM0 0)) (0, 0) := by
    intro ok hA hB hc
    have sE : ¬ ok → xWP pg_M_as K 32 [(0, .ref 0), (1, .int (nI k)), (2, .int (nI j)), (3, .int (-1))] [] (xfill F v 0 (wM0 0)) (0, 0) := by
      intro nok
      refine xWP_go 100 [] fun P hP => ?_
      refine br_c (fun _ => ?_) (fun z => absurd (by decide) z)
      refine br_c (fun z => absurd z (by decide)) (fun _ => ?_)
      refine xcall (sp_errM F v (-1000000005) 5 (by decide) (by decide) ?_)
      exact hB nok
    refine xWP_go 100 [(32, [0, 1, 2, 3])] fun P hP => ?_
    refine br_c (fun z => absurd z (by decide)) (fun _ => ?_)
    refine br_c (fun eq => ?_) (fun ne => ?_)
    · have eq : nI 5 = nI j := eq
      have jq : j = 5 := by
        have z := congrArg Int32.toInt eq
        rw [nI_toInt (by omega), nI_toInt (by omega)] at z
        omega
      refine br_c (fun _ => ?_) (fun z => absurd (by decide) z)
      refine xcall (sp_its F v (nI k) 1 (vc5 hk (w := 1) (by omega)) ?_)
      have q := hA (hc.mp (Or.inl jq))
      rw [show 25 + 5 * k + 1 = nat ((25 : Int32) + 5 * nI k + nI 1) from (nc5 (by omega) (by omega)).symm] at q
      exact q
    · have jn : ¬ j = 5 := fun z => ne (show nI 5 = nI j by rw [z])
      refine xcall (sp_above _ ?_)
      refine hP _ _ _ _ _ ?_
      exact s2 ok hA hB ⟨fun z => hc.mp (Or.inr z), fun z => (hc.mpr z).resolve_left jn⟩
  have s6 : ∀ ok : Prop, (ok → K (some (.int (F 1 (25 + 5 * k + 1)))) (xfill F v 0 (wM0 0))) → (¬ ok → K (some (.int (-1000000005))) (xfill (va_up F 5 (upd (F 5) 5 (F 5 5 + 1))) v 0 (wM0 0))) → ((j = 6 ∨ j = 3 ∨ j = 0) ↔ ok) → xWP pg_M_as K 32 [(0, .ref 0), (1, .int (nI k)), (2, .int (nI j)), (3, .int 6)] [] (xfill F v 0 (wM0 0)) (0, 0) := by
    intro ok hA hB hc
    have sE : ¬ ok → xWP pg_M_as K 32 [(0, .ref 0), (1, .int (nI k)), (2, .int (nI j)), (3, .int (-1))] [] (xfill F v 0 (wM0 0)) (0, 0) := by
      intro nok
      refine xWP_go 100 [] fun P hP => ?_
      refine br_c (fun _ => ?_) (fun z => absurd (by decide) z)
      refine br_c (fun z => absurd z (by decide)) (fun _ => ?_)
      refine xcall (sp_errM F v (-1000000005) 5 (by decide) (by decide) ?_)
      exact hB nok
    refine xWP_go 100 [(32, [0, 1, 2, 3])] fun P hP => ?_
    refine br_c (fun z => absurd z (by decide)) (fun _ => ?_)
    refine br_c (fun eq => ?_) (fun ne => ?_)
    · have eq : nI 6 = nI j := eq
      have jq : j = 6 := by
        have z := congrArg Int32.toInt eq
        rw [nI_toInt (by omega), nI_toInt (by omega)] at z
        omega
      refine br_c (fun _ => ?_) (fun z => absurd (by decide) z)
      refine xcall (sp_its F v (nI k) 1 (vc5 hk (w := 1) (by omega)) ?_)
      have q := hA (hc.mp (Or.inl jq))
      rw [show 25 + 5 * k + 1 = nat ((25 : Int32) + 5 * nI k + nI 1) from (nc5 (by omega) (by omega)).symm] at q
      exact q
    · have jn : ¬ j = 6 := fun z => ne (show nI 6 = nI j by rw [z])
      refine xcall (sp_above _ ?_)
      refine hP _ _ _ _ _ ?_
      exact s3 ok hA hB ⟨fun z => hc.mp (Or.inr z), fun z => (hc.mpr z).resolve_left jn⟩
  refine xcall (sp_its F v (nI k) 0 (vc5 hk (w := 0) (by omega)) ?_)
  obtain ⟨z, hz, ez⟩ : below 6 (F 1 (25 + 5 * k + 0)) := I.1.2 k lt
  have ei : F 1 (Int32.toNatClampNeg (25 + 5 * nI k + 0)) = nI z := by
    rw [show Int32.toNatClampNeg (25 + 5 * nI k + 0) = 25 + 5 * k + 0 from nc5 (w := 0) (by omega) (by omega)]
    exact ez
  have hA : asOk (nI z) (nI j) → K (some (.int (F 1 (25 + 5 * k + 1)))) (xfill F v 0 (wM0 0)) := fun ok => h.id S rfl ((if_pos ⟨a1, a2⟩).trans ((if_pos (by show asOk (F 1 (25 + 5 * nat (nI k) + 0)) (nI j); rw [ek, ez]; exact ok)).trans (an_ (by show F 1 (25 + 5 * nat (nI k) + 1) = _; rw [ek]))))
  have hB : ¬ asOk (nI z) (nI j) → K (some (.int (-1000000005))) (xfill (va_up F 5 (upd (F 5) 5 (F 5 5 + 1))) v 0 (wM0 0)) := fun ok => h.err S rfl ((if_pos ⟨a1, a2⟩).trans (if_neg (by show ¬ asOk (F 1 (25 + 5 * nat (nI k) + 0)) (nI j); rw [ek, ez]; exact ok)))
  refine hP _ _ _ _ _ ?_
  rw [ei]
  rcases (show z = 0 ∨ z = 1 ∨ z = 2 ∨ z = 3 ∨ z = 4 ∨ z = 5 ∨ z = 6 by omega) with y | y | y | y | y | y | y
  all_goals subst y
  · refine s0 _ hA hB ?_
    rcases (show j = 0 ∨ j = 1 ∨ j = 2 ∨ j = 3 ∨ j = 4 ∨ j = 5 ∨ j = 6 by omega) with y | y | y | y | y | y | y
    all_goals subst y; unfold asOk; decide
  · refine s1 _ hA hB ?_
    rcases (show j = 0 ∨ j = 1 ∨ j = 2 ∨ j = 3 ∨ j = 4 ∨ j = 5 ∨ j = 6 by omega) with y | y | y | y | y | y | y
    all_goals subst y; unfold asOk; decide
  · refine s2 _ hA hB ?_
    rcases (show j = 0 ∨ j = 1 ∨ j = 2 ∨ j = 3 ∨ j = 4 ∨ j = 5 ∨ j = 6 by omega) with y | y | y | y | y | y | y
    all_goals subst y; unfold asOk; decide
  · refine s3 _ hA hB ?_
    rcases (show j = 0 ∨ j = 1 ∨ j = 2 ∨ j = 3 ∨ j = 4 ∨ j = 5 ∨ j = 6 by omega) with y | y | y | y | y | y | y
    all_goals subst y; unfold asOk; decide
  · refine s4 _ hA hB ?_
    rcases (show j = 0 ∨ j = 1 ∨ j = 2 ∨ j = 3 ∨ j = 4 ∨ j = 5 ∨ j = 6 by omega) with y | y | y | y | y | y | y
    all_goals subst y; unfold asOk; decide
  · refine s5 _ hA hB ?_
    rcases (show j = 0 ∨ j = 1 ∨ j = 2 ∨ j = 3 ∨ j = 4 ∨ j = 5 ∨ j = 6 by omega) with y | y | y | y | y | y | y
    all_goals subst y; unfold asOk; decide
  · refine s6 _ hA hB ?_
    rcases (show j = 0 ∨ j = 1 ∨ j = 2 ∨ j = 3 ∨ j = 4 ∨ j = 5 ∨ j = 6 by omega) with y | y | y | y | y | y | y
    all_goals subst y; unfold asOk; decide
end
section
/-! ===== the reference: plain methods, third part ===== -/
variable {Ψ : mRw → Prop}
theorem nq0 : Int32.toNatClampNeg 0 = 0 := by decide
theorem nq1 : Int32.toNatClampNeg 1 = 1 := by decide
theorem nq2 : Int32.toNatClampNeg 2 = 2 := by decide
theorem nq3 : Int32.toNatClampNeg 3 = 3 := by decide
theorem nq4 : Int32.toNatClampNeg 4 = 4 := by decide
theorem nq5 : Int32.toNatClampNeg 5 = 5 := by decide
theorem nq6 : Int32.toNatClampNeg 6 = 6 := by decide
theorem nq7 : Int32.toNatClampNeg 7 = 7 := by decide
theorem nq8 : Int32.toNatClampNeg 8 = 8 := by decide
set_option maxRecDepth 100000 in
theorem ms_seed (n : Nat) (F v : xS) (I : aIv n (mA F v)) (S : mS Ψ F v) (x : Int32) {K : xKo} (h : mTo Ψ F v (g_seed x) (f_seed x) K) : C_M_seed [.ref 0, .int x] (xfill F v 0 (wM0 0)) K := by
  have b3 := bel_nat (show below 8 (F 1 3) from I.1.1.1) (by omega)
  have b2 := bel_nat (show below 7 (F 1 2) from I.1.1.2.1) (by omega)
  have b4 := bel_nat (show below 50 (F 1 4) from I.1.1.2.2.2.1) (by omega)
  have b5 := bel_nat (show below 20 (F 1 5) from I.1.1.2.2.2.2) (by omega)
  refine xM_go rfl 100 [] fun P hP => ?_
  refine ⟨vin (by decide), ?_⟩
  refine ⟨vin (by decide), ?_⟩
  have fin : ∀ f, f = upd (F 1) 1 x → K (some (.int (F 1 1))) (xfill (va_up F 1 f) v 0 (wM0 0)) := by
    intro f ef
    have f1 : ∀ i, ¬ i = 1 → f i = F 1 i := fun i hi => by rw [ef]; exact pk_un hi
    have f2 : f 1 = x := by rw [ef]; exact pk_us
    refine h.ok (F' := va_up F 1 f) (v' := v) (S.row (fun j hj => by have q := exi_in hj; exact f1 j (by omega))) ?_ rfl
    refine mrow ⟨⟨f1 3 (by omega), f1 2 (by omega), f1 0 (by omega), f2, f1 4 (by omega), f1 5 (by omega)⟩, fun j hj => ⟨f1 _ (by omega), f1 _ (by omega)⟩, fun j hj => ⟨f1 _ (by omega), f1 _ (by omega)⟩, fun j hj => f1 _ (by omega), fun j hj => f1 _ (by omega)⟩
  exact fin (upd (F 1) (Int32.toNatClampNeg 1) x) (by rw [nq1])
set_option maxRecDepth 100000 in
theorem ms_trace (n : Nat) (F v : xS) (I : aIv n (mA F v)) (S : mS Ψ F v) (i : Int32) {K : xKo} (h : mTo Ψ F v (fun s => s) (f_trace i) K) : C_M_trace [.ref 0, .int i] (xfill F v 0 (wM0 0)) K := by
  have b : below 40 (v 0 21) := I.2.1.1.2
  refine xM_go rfl 100 [] fun P hP => ?_
  refine xcall (sp_in _ _ _ (fun a => ?_) (fun a => ?_))
  · have a1 : ¬ xin i (v 0 21).toInt := fun z => a ((in_pre b (by omega)).mpr z)
    refine br_c (fun _ => ?_) (fun z => absurd rfl z)
    refine xcall (sp_errM F v (-1000000002) 2 (by decide) (by decide) ?_)
    exact h.err S rfl (if_neg a1)
  · have a1 : xin i (v 0 21).toInt := (in_pre b (by omega)).mp a
    refine br_c (fun z => absurd z (by decide)) (fun _ => ?_)
    refine ⟨vinB b a1 (Nat.le_refl _) (by omega), ?_⟩
    exact h.id S rfl (if_pos a1)
set_option maxRecDepth 100000 in
theorem ms_tell (n : Nat) (F v : xS) (I : aIv n (mA F v)) (S : mS Ψ F v) (x : Int32) {K : xKo} (h : mTo Ψ F v (g_tell x) (f_tell x) K) : C_M_tell [.ref 0, .int x] (xfill F v 0 (wM0 0)) K := by
  have b3 := bel_nat (show below 8 (F 1 3) from I.1.1.1) (by omega)
  have b2 := bel_nat (show below 7 (F 1 2) from I.1.1.2.1) (by omega)
  have b4 := bel_nat (show below 50 (F 1 4) from I.1.1.2.2.2.1) (by omega)
  have b5 := bel_nat (show below 20 (F 1 5) from I.1.1.2.2.2.2) (by omega)
  obtain ⟨k, hk, e⟩ : below 20 (F 1 5) := I.1.1.2.2.2.2
  have en : nat (F 1 5) = k := by rw [e]; exact nI_clamp (by omega)
  have e0 : F 1 (Int32.toNatClampNeg 5) = nI k := e
  have ei : (110 : Int32) + nI k = nI (110 + k) := by rw [show (110 : Int32) = nI 110 from rfl, nI_add]
  have ni : Int32.toNatClampNeg ((110 : Int32) + nI k) = 110 + k := by rw [ei]; exact nI_clamp (by omega)
  refine xM_go rfl 100 [] fun P hP => ?_
  refine ⟨vin (by decide), ?_⟩
  refine br_n (fun a3 => ?_) (fun a3 => ?_)
  · have a3 : ¬ F 1 5 = nI 20 := a3
    have k20 : k < 20 := by
      have : ¬ k = 20 := fun z => a3 (by rw [e, z])
      omega
    have c20 : nat (F 1 5) < 20 := by omega
    refine ⟨vin (by decide), ?_⟩
    refine ⟨by show vp_in ((110 : Int32) + F 1 (Int32.toNatClampNeg 5)) 230; rw [e0, ei]; exact vp_in_nI (by omega) (by omega), ?_⟩
    refine ⟨vin (by decide), ?_⟩
    refine ⟨vin (by decide), ?_⟩
    refine ⟨vin (by decide), ?_⟩
    have fin : ∀ f, f = upd (upd (F 1) (110 + k) x) 5 (nI (k + 1)) → K (some (.int (nI k + 1))) (xfill (va_up F 1 f) v 0 (wM0 0)) := by
      intro f ef
      have f1 : ∀ i, ¬ i = 110 + k → ¬ i = 5 → f i = F 1 i := fun i h0 h1 => by rw [ef, pk_un h1, pk_un h0]
      have f2 : f (110 + k) = x := by rw [ef, pk_un (by omega), pk_us]
      have f3 : f 5 = nI (k + 1) := by rw [ef, pk_us]
      refine h.ok (F' := va_up F 1 f) (v' := v) (S.row (fun j hj => by have q := exi_in hj; exact f1 j (by omega) (by omega))) ?_ ((if_pos c20).trans (an_ (by show F 1 5 + 1 = _; rw [e])))
      rw [show g_tell x (mA F v) = _ from if_pos c20]
      refine mrow ⟨⟨f1 3 (by omega) (by omega), f1 2 (by omega) (by omega), f1 0 (by omega) (by omega), f1 1 (by omega) (by omega), f1 4 (by omega) (by omega), by show f 5 = F 1 5 + 1; rw [f3, e, nI_1]⟩, fun j hj => ?_, fun j hj => ?_, fun j hj => ?_, fun j hj => ?_⟩
      · have hj : j < nat (f 3) := hj
        rw [f1 3 (by omega) (by omega)] at hj
        exact ⟨f1 (9 + 2 * j) (by omega) (by omega), f1 (9 + 2 * j + 1) (by omega) (by omega)⟩
      · have hj : j < nat (f 2) := hj
        rw [f1 2 (by omega) (by omega)] at hj
        exact ⟨f1 (25 + 5 * j + 0) (by omega) (by omega), f1 (25 + 5 * j + 1) (by omega) (by omega)⟩
      · have hj : j < nat (f 4) := hj
        rw [f1 4 (by omega) (by omega)] at hj
        exact f1 (60 + j) (by omega) (by omega)
      · show f (110 + j) = upd (mSt (F 1) 5) (nat (F 1 5)) x j
        rw [en]
        by_cases jk : j = k
        · subst jk
          rw [pk_us]
          exact f2
        · rw [pk_un jk]
          exact f1 _ (by omega) (by omega)
    have q := fin (upd (upd (F 1) (Int32.toNatClampNeg (110 + F 1 (Int32.toNatClampNeg 5))) x) (Int32.toNatClampNeg 5) (upd (F 1) (Int32.toNatClampNeg (110 + F 1 (Int32.toNatClampNeg 5))) x (Int32.toNatClampNeg 5) + 1)) (by
      rw [e0, ni, nq5, pk_un (by omega), e, nI_1])
    have ev : nI k + 1 = upd (upd (F 1) (Int32.toNatClampNeg (110 + F 1 (Int32.toNatClampNeg 5))) x) (Int32.toNatClampNeg 5) (upd (F 1) (Int32.toNatClampNeg (110 + F 1 (Int32.toNatClampNeg 5))) x (Int32.toNatClampNeg 5) + 1) (Int32.toNatClampNeg 5) := by
      rw [pk_us, e0, ni, nq5, pk_un (by omega), e]
    rw [ev] at q
    exact q
  · have a3 : F 1 5 = nI 20 := a3
    have c20 : ¬ nat (F 1 5) < 20 := by rw [a3]; decide
    refine xcall (sp_errM F v (-1000000004) 4 (by decide) (by decide) ?_)
    exact h.err S (if_neg c20) (if_neg c20)
set_option maxRecDepth 100000 in
theorem sw_sumOf (F v : xS) (b : below 7 (F 1 2)) (w : Nat) (hw : w < 5) {K : xKo} (h : ∀ r, K (some (.int r)) (xfill F v 0 (wM0 0))) : C_M_sumOf [.ref 0, .int (nI w)] (xfill F v 0 (wM0 0)) K := by
  obtain ⟨m, hm, em⟩ := b
  have key : ∀ (d i : Nat) (q : Int32), i + d = m → xWP pg_M_sumOf K 4 [(0, .ref 0), (1, .int (nI w)), (2, .int q), (3, .int (nI i))] [] (xfill F v 0 (wM0 0)) (0, 0) := by
    intro d
    induction d with
    | zero =>
      intro i q hi
      refine xWP_go 100 [(4, [0, 1, 2, 3])] fun P hP => ?_
      refine ⟨vin (by decide), ?_⟩
      refine br_c (fun _ => h _) (fun z => ?_)
      have z : ¬ F 1 2 ≤ nI i := z
      rw [em, nI_leI (by omega) (by omega)] at z
      omega
    | succ d ih =>
      intro i q hi
      refine xWP_go 100 [(4, [0, 1, 2, 3])] fun P hP => ?_
      refine ⟨vin (by decide), ?_⟩
      refine br_c (fun z => ?_) (fun _ => ?_)
      · have z : F 1 2 ≤ nI i := z
        rw [em, nI_leI (by omega) (by omega)] at z
        omega
      refine xcall (sp_its F v (nI i) (nI w) (vc5 (by omega) hw) ?_)
      refine hP _ _ _ _ _ ?_
      rw [nI_1]
      exact ih (i + 1) _ (by omega)
  refine xM_go rfl 100 [(4, [0, 1, 2, 3])] fun P hP => ?_
  refine hP _ _ _ _ _ ?_
  exact key m 0 _ (by omega)
end
section
/-! ===== the reference: sheets ===== -/
variable {Ψ : mRw → Prop}
theorem vu_eq {α : Type} {f : Nat → α} {k : Nat} {x : α} : va_up f k x k = x := if_pos rfl
theorem vu_ne {α : Type} {f : Nat → α} {k c : Nat} {x : α} (h : ¬ c = k) : va_up f k x c = f c := if_neg h
theorem vu3 {α : Type} {f : Nat → α} {k c : Nat} {x y z : α} (h5 : ¬ c = 5) (h4 : ¬ c = 4) (hk : ¬ c = k) : va_up (va_up (va_up f k x) 4 y) 5 z c = f c := (if_neg h5).trans ((if_neg h4).trans (if_neg hk))
theorem and255 (a : BitVec 32) : a &&& 255#32 = (a.setWidth 8).setWidth 32 := by
  refine BitVec.eq_of_toNat_eq ?_
  rw [BitVec.toNat_and, BitVec.toNat_setWidth, BitVec.toNat_setWidth, show (255#32).toNat = 2 ^ 8 - 1 from rfl, Nat.and_two_pow_sub_one_eq_mod]
  have := a.isLt
  omega
theorem and65535 (a : BitVec 32) : a &&& 65535#32 = (a.setWidth 16).setWidth 32 := by
  refine BitVec.eq_of_toNat_eq ?_
  rw [BitVec.toNat_and, BitVec.toNat_setWidth, BitVec.toNat_setWidth, show (65535#32).toNat = 2 ^ 16 - 1 from rfl, Nat.and_two_pow_sub_one_eq_mod]
  have := a.isLt
  omega
theorem bare8 (x : Int32) : x.toInt8.toInt32 &&& 255 = x &&& 255 := by
  refine Int32.toBitVec_inj.mp ?_
  rw [Int32.toBitVec_and, Int32.toBitVec_and]
  show _ &&& 255#32 = _ &&& 255#32
  rw [and255, and255]
  have w : ∀ y : Int32, y.toBitVec.setWidth 8 = y.toInt8.toBitVec := fun y => by rw [Int32.toBitVec_toInt8, BitVec.signExtend_eq_setWidth_of_le _ (by decide)]
  rw [w, w, Int8.toInt8_toInt32]
theorem bare16 (x : Int32) : x.toInt16.toInt32 &&& 65535 = x &&& 65535 := by
  refine Int32.toBitVec_inj.mp ?_
  rw [Int32.toBitVec_and, Int32.toBitVec_and]
  show _ &&& 65535#32 = _ &&& 65535#32
  rw [and65535, and65535]
  have w : ∀ y : Int32, y.toBitVec.setWidth 16 = y.toInt16.toBitVec := fun y => by rw [Int32.toBitVec_toInt16, BitVec.signExtend_eq_setWidth_of_le _ (by decide)]
  rw [w, w, Int16.toInt16_toInt32]
theorem bare_sgn (b x : Int32) : bare b (sgn b x) = bare b x := by
  unfold bare sgn
  by_cases h : b = 8
  · rw [if_pos h, if_pos h, if_pos h]; exact bare8 x
  · rw [if_neg h, if_neg h, if_neg h]
    by_cases g : b = 16
    · rw [if_pos g, if_pos g, if_pos g]; exact bare16 x
    · rw [if_neg g, if_neg g, if_neg g]
theorem sgn_sgn (b x : Int32) : sgn b (sgn b x) = sgn b x := by
  unfold sgn
  by_cases h : b = 8
  · rw [if_pos h, if_pos h, Int8.toInt8_toInt32]
  · rw [if_neg h, if_neg h]
    by_cases g : b = 16
    · rw [if_pos g, if_pos g, Int16.toInt16_toInt32]
    · rw [if_neg g, if_neg g]
theorem bare_0 (b : Int32) : bare b 0 = 0 := by
  unfold bare
  split
  · decide
  split
  · decide
  · rfl
theorem sgn_0 (b : Int32) : sgn b 0 = 0 := by
  unfold sgn
  split
  · decide
  split
  · decide
  · rfl
theorem mSh {F v : xS} {k : Nat} (h : k < 4) : mRs F v k = fun j => bare (F 6 k) (F 8 (40 * k + j)) := by
  rcases (show k = 0 ∨ k = 1 ∨ k = 2 ∨ k = 3 by omega) with e | e | e | e
  all_goals subst e; rfl
theorem rAgr.mk2 {s q : xS} (h : ∀ k j, k < 4 → j < 40 → s k j = q k j) (h4 : ∀ k, k < 4 → s 4 k = q 4 k) (h5 : ∀ k, k < 4 → s 5 k = q 5 k) (h6 : s 6 = q 6) (h7 : s 7 = q 7) : rAgr s q := ⟨⟨fun j => h 0 j (by omega), fun j => h 1 j (by omega), fun j => h 2 j (by omega), fun j => h 3 j (by omega)⟩, ⟨⟨h4 0 (by omega), h4 1 (by omega), h4 2 (by omega), h4 3 (by omega)⟩, h5 0 (by omega), h5 1 (by omega), h5 2 (by omega), h5 3 (by omega)⟩, ⟨congrFun h6 0, congrFun h6 1⟩, fun j _ => congrFun h7 j⟩
theorem ix40 {k i : Nat} : (40 : Int32) * nI k + nI i = nI (40 * k + i) := by
  rw [show (40 : Int32) = nI 40 from rfl, nI_mul, nI_add]
theorem rI4 {n : Nat} {F v : xS} (I : aIv n (mA F v)) {k : Nat} (h : k < 4) : below 40 (F 7 k) := by
  have q := I.2.1.2.1
  rcases (show k = 0 ∨ k = 1 ∨ k = 2 ∨ k = 3 by omega) with e | e | e | e
  all_goals subst e
  · exact q.1
  · exact q.2.1
  · exact q.2.2.1
  · exact q.2.2.2
theorem sp_narrow (b x : Int32) {K : xKo} (h : K (some (.int (sgn b x))) []) : C_M_narrow [.int b, .int x] [] K := by
  unfold sgn at h
  refine xM_go rfl 60 [] fun P hP => ?_
  refine br_n (fun e => ?_) (fun e => ?_)
  · have e : ¬ b = 8 := e
    rw [if_neg e] at h
    refine br_n (fun d => ?_) (fun d => ?_)
    · have d : ¬ b = 16 := d
      rw [if_neg d] at h
      exact h
    · have d : b = 16 := d
      rw [if_pos d] at h
      exact h
  · have e : b = 8 := e
    rw [if_pos e] at h
    exact h
set_option maxRecDepth 100000 in
theorem ms_sheet (n : Nat) (F v : xS) (I : aIv n (mA F v)) (S : mS Ψ F v) (s b m : Int32) {K : xKo} (h : mTo Ψ F v (g_sheet s b m) (f_sheet s b m) K) : C_M_sheet [.ref 0, .int s, .int b, .int m] (xfill F v 0 (wM0 0)) K := by
  have W : ∀ (k : Nat) (z : Int32), k < 4 → s = nI k → (b = 0 ∨ ((b = 8 ∨ b = 16 ∨ b = 32) ∧ xin m 41)) → z = (if b = 0 then 0 else m) → ∀ (d i : Nat) (p : Nat → Int32), i + d = 40 → (∀ j, 40 * k ≤ j → j < 40 * k + i → p j = 0) → (∀ j, j < 40 * k ∨ 40 * k + 40 ≤ j → p j = F 8 j) → xWP pg_M_sheet K 93 [(0, .ref 0), (1, .int s), (2, .int b), (3, .int m), (4, .int (nI i))] [] (xfill (va_up (va_up (va_up F 6 (upd (F 6) k b)) 7 (upd (F 7) k z)) 8 p) v 0 (wM0 0)) (0, 0) := by
    intro k z hk es ok ez d
    subst es
    have ek : nat (nI k) = k := nI_clamp (by omega)
    have x4 : xin (nI k) 4 := ⟨by rw [nI_toInt (by omega)]; omega, by rw [nI_toInt (by omega)]; omega⟩
    induction d with
    | zero =>
      intro i p hi p0 p1
      have hi : i = 40 := hi
      subst hi
      refine xWP_go 100 [(36, [0, 1, 2, 3]), (93, [0, 1, 2, 3, 4])] fun P hP => ?_
      refine br_c (fun _ => ?_) (fun z => absurd (by decide) z)
      refine h.ok (F' := va_up (va_up (va_up F 6 (upd (F 6) k b)) 7 (upd (F 7) k z)) 8 p) (v' := v) ⟨S.1, S.2.1, S.2.2.1, S.2.2.2.1, fun s j hs hj => ?_⟩ ?_ ?_
      · show sgn (upd (F 6) k b s) (p (40 * s + j)) = p (40 * s + j)
        by_cases e : s = k
        · subst e
          rw [p0 _ (by omega) (by omega), sgn_0]
        · rw [pk_un e, p1 _ (by omega)]
          exact S.2.2.2.2 s j hs hj
      · rw [show g_sheet (nI k) b m (mA F v) = _ from if_pos ⟨x4, ok⟩, ek]
        refine ⟨sAgr.rf, rAgr.mk2 (fun c j hc hj => ?_) (fun c hc => ?_) (fun c hc => ?_) ?_ ?_, fun _ => sAgr.rf⟩
        · have e1 : va_up (va_up (va_up (mA F v).2.2 k (fun _ => 0)) 4 (upd ((mA F v).2.2 4) k (if b = 0 then 0 else m))) 5 (upd ((mA F v).2.2 5) k b) c = va_up (mA F v).2.2 k (fun _ => 0) c := (if_neg (by omega)).trans (if_neg (by omega))
          refine Eq.trans ?_ (congrFun e1 j).symm
          show mRs _ v c j = _
          rw [mSh hc]
          show bare (upd (F 6) k b c) (p (40 * c + j)) = _
          by_cases e : c = k
          · subst e
            rw [p0 _ (by omega) (by omega), bare_0]
            rw [vu_eq]
          · rw [pk_un e, p1 _ (by omega)]
            rw [vu_ne e]
            show _ = mRs F v c j
            rw [mSh hc]
        · show upd (F 7) k z c = upd (F 7) k (if b = 0 then 0 else m) c
          rw [ez]
        · rfl
        · show _ = va_up (va_up (va_up (mA F v).2.2 k (fun _ => 0)) 4 (upd ((mA F v).2.2 4) k (if b = 0 then 0 else m))) 5 (upd ((mA F v).2.2 5) k b) 6
          rw [vu3 (by omega) (by omega) (by omega)]
          rfl
        · show _ = va_up (va_up (va_up (mA F v).2.2 k (fun _ => 0)) 4 (upd ((mA F v).2.2 4) k (if b = 0 then 0 else m))) 5 (upd ((mA F v).2.2 5) k b) 7
          rw [vu3 (by omega) (by omega) (by omega)]
          rfl
      · have eb : b = 0 ∨ b = 8 ∨ b = 16 ∨ b = 32 := ok.elim Or.inl fun y => Or.inr y.1
        refine (if_pos ⟨x4, eb⟩).trans ?_
        by_cases b0 : b = 0
        · exact if_pos b0
        · have y := ok.resolve_left b0
          exact (if_neg b0).trans ((if_neg (by have := y.2.1; omega)).trans (if_neg (by have := y.2.2; omega)))
    | succ d ih =>
      intro i p hi p0 p1
      refine xWP_go 100 [(36, [0, 1, 2, 3]), (93, [0, 1, 2, 3, 4])] fun P hP => ?_
      refine br_c (fun z => ?_) (fun _ => ?_)
      · have z : nI 40 ≤ nI i := z
        rw [nI_leI (by omega) (by omega)] at z
        omega
      have bi : vp_in ((40 : Int32) * nI k + nI i) 160 := by rw [ix40]; exact vp_in_nI (by omega) (by omega)
      refine ⟨bi, ?_⟩
      refine hP _ _ _ _ _ ?_
      have q := ih (i + 1) (upd p (40 * k + i) 0) (by omega) (fun j h1 h2 => ?_) (fun j hj => ?_)
      · rw [← nI_1, show 40 * k + i = Int32.toNatClampNeg ((40 : Int32) * nI k + nI i) by rw [ix40]; exact (nI_clamp (by omega)).symm] at q
        exact q
      · by_cases e : j = 40 * k + i
        · subst e; exact pk_us
        · rw [pk_un e]; exact p0 j h1 (by omega)
      · rw [pk_un (by omega)]; exact p1 j hj
  have go : xin s 4 → (b = 0 ∨ b = 8 ∨ b = 16 ∨ b = 32) → xWP pg_M_sheet K 36 [(0, .ref 0), (1, .int s), (2, .int b), (3, .int m)] [] (xfill F v 0 (wM0 0)) (0, 0) := by
    intro a1 hb
    obtain ⟨k, hk, es, ek⟩ := nI_ofx s (n := 4) a1 (by decide)
    have bs : vp_in s 4 := vin a1
    have run : ∀ z : Int32, z = (if b = 0 then 0 else m) → (b = 0 ∨ ((b = 8 ∨ b = 16 ∨ b = 32) ∧ xin m 41)) → xWP pg_M_sheet K 93 [(0, .ref 0), (1, .int s), (2, .int b), (3, .int m), (4, .int 0)] [] (xfill (va_up (va_up F 6 (upd (F 6) (nat s) b)) 7 (upd (F 7) (nat s) z)) v 0 (wM0 0)) (0, 0) := by
      intro z ez ok
      rw [ek]
      exact W k z (by omega) es ok ez 40 0 (F 8) (by omega) (fun j h1 h2 => by omega) (fun j _ => rfl)
    refine xWP_go 200 [(36, [0, 1, 2, 3]), (93, [0, 1, 2, 3, 4])] fun P hP => ?_
    refine br_c (fun b0 => ?_) (fun b0 => ?_)
    · have b0 : b = 0 := b0
      refine br_c (fun _ => ?_) (fun z => absurd b0 z)
      refine ⟨bs, ?_⟩
      refine br_n (fun z => absurd b0 z) (fun _ => ?_)
      refine ⟨bs, ?_⟩
      exact hP _ _ _ _ _ (run 0 (if_pos b0).symm (Or.inl b0))
    · have b0 : ¬ b = 0 := b0
      have hb3 := hb.resolve_left b0
      refine br_c (fun c0 => ?_) (fun c0 => ?_)
      · have c0 : (0 : Int32) ≤ m := c0
        rw [xle, show (0 : Int32).toInt = 0 by decide] at c0
        refine br_c (fun z => absurd z b0) (fun _ => ?_)
        refine br_c (fun c1 => ?_) (fun c1 => ?_)
        · have c1 : m ≤ 40 := c1
          rw [xle, show (40 : Int32).toInt = 40 by decide] at c1
          refine ⟨bs, ?_⟩
          refine br_n (fun _ => ?_) (fun z => absurd z b0)
          refine ⟨bs, ?_⟩
          exact hP _ _ _ _ _ (run m (if_neg b0).symm (Or.inr ⟨hb3, c0, by omega⟩))
        · have c1 : ¬ m ≤ 40 := c1
          rw [xle, show (40 : Int32).toInt = 40 by decide] at c1
          refine xcall (sp_errM F v (-1000000001) 1 (by decide) (by decide) ?_)
          exact h.err S (if_neg fun z => by have q := (z.2.resolve_left b0).2.2; omega) ((if_pos ⟨a1, hb⟩).trans ((if_neg b0).trans ((if_neg (by omega)).trans (if_pos (by omega)))))
      · have c0 : ¬ (0 : Int32) ≤ m := c0
        rw [xle, show (0 : Int32).toInt = 0 by decide] at c0
        refine xcall (sp_errM F v (-1000000003) 3 (by decide) (by decide) ?_)
        exact h.err S (if_neg fun z => c0 (z.2.resolve_left b0).2.1) ((if_pos ⟨a1, hb⟩).trans ((if_neg b0).trans (if_pos (by omega))))
  refine xM_go rfl 200 [(36, [0, 1, 2, 3]), (93, [0, 1, 2, 3, 4])] fun P hP => ?_
  refine xcall (sp_isSheet _ (fun a1 => ?_) (fun a1 => ?_))
  · refine br_c (fun _ => ?_) (fun z => absurd rfl z)
    refine xcall (sp_errM F v (-1000000001) 1 (by decide) (by decide) ?_)
    exact h.err S (if_neg fun z => a1 z.1) (if_neg fun z => a1 z.1)
  refine br_c (fun z => absurd z (by decide)) (fun _ => ?_)
  refine br_c (fun e => hP _ _ _ _ _ (go a1 (Or.inl e))) (fun n0 => ?_)
  refine br_c (fun e => hP _ _ _ _ _ (go a1 (Or.inr (Or.inl e)))) (fun n1 => ?_)
  refine br_c (fun e => hP _ _ _ _ _ (go a1 (Or.inr (Or.inr (Or.inl e))))) (fun n2 => ?_)
  refine br_c (fun e => hP _ _ _ _ _ (go a1 (Or.inr (Or.inr (Or.inr e))))) (fun n3 => ?_)
  refine xcall (sp_errM F v (-1000000001) 1 (by decide) (by decide) ?_)
  refine h.err S (if_neg fun z => ?_) (if_neg fun z => ?_)
  · rcases z.2 with y | ⟨y | y | y, -⟩
    · exact n0 y
    · exact n1 y
    · exact n2 y
    · exact n3 y
  · rcases z.2 with y | y | y | y
    · exact n0 y
    · exact n1 y
    · exact n2 y
    · exact n3 y
set_option maxRecDepth 100000 in
theorem ms_put (n : Nat) (F v : xS) (I : aIv n (mA F v)) (S : mS Ψ F v) (s i x : Int32) {K : xKo} (h : mTo Ψ F v (g_put s i x) (f_put s i x) K) : C_M_put [.ref 0, .int s, .int i, .int x] (xfill F v 0 (wM0 0)) K := by
  refine xM_go rfl 200 [] fun P hP => ?_
  refine xcall (sp_isSheet _ (fun a1 => ?_) (fun a1 => ?_))
  · refine br_n (fun z => absurd rfl z) (fun _ => ?_)
    refine xcall (sp_errM F v (-1000000001) 1 (by decide) (by decide) ?_)
    exact h.err S (if_neg fun z => a1 z.1) (if_neg a1)
  refine br_n (fun _ => ?_) (fun z => absurd z (by decide))
  obtain ⟨k, hk, rfl, ek⟩ := nI_ofx s (n := 4) a1 (by decide)
  have bs : vp_in (nI k) 4 := vin a1
  have b40 : below 40 (F 7 k) := rI4 I (by omega)
  refine ⟨bs, ?_⟩
  refine br_n (fun c0 => ?_) (fun c0 => ?_)
  · have c0 : ¬ F 6 (nat (nI k)) = 0 := c0
    have c1 : ¬ F 6 k = 0 := by rw [ek] at c0; exact c0
    have e7 : F 7 (Int32.toNatClampNeg (nI k)) = F 7 k := by rw [show Int32.toNatClampNeg (nI k) = k from ek]
    have e6 : F 6 (Int32.toNatClampNeg (nI k)) = F 6 k := by rw [show Int32.toNatClampNeg (nI k) = k from ek]
    refine ⟨bs, ?_⟩
    refine xcall (sp_in _ _ _ (fun a2 => ?_) (fun a2 => ?_))
    · have a2 : ¬ xin i (F 7 k).toInt := fun z => a2 (by
        show (0 : Int32).toInt ≤ i.toInt ∧ i.toInt ≤ (F 7 (Int32.toNatClampNeg (nI k)) - 1).toInt
        rw [e7]
        exact (in_pre b40 (by omega)).mpr z)
      refine br_n (fun z => absurd rfl z) (fun _ => ?_)
      refine xcall (sp_errM F v (-1000000001) 1 (by decide) (by decide) ?_)
      exact h.err S (if_neg fun z => a2 (by have y := z.2.2; rw [ek] at y; exact y)) ((if_pos a1).trans ((if_neg c0).trans (if_neg (by show ¬ xin i (F 7 (nat (nI k))).toInt; rw [ek]; exact a2))))
    · have a2 : xin i (F 7 k).toInt := by
        have a2 : (0 : Int32).toInt ≤ i.toInt ∧ i.toInt ≤ (F 7 (Int32.toNatClampNeg (nI k)) - 1).toInt := a2
        rw [e7] at a2
        exact (in_pre b40 (by omega)).mp a2
      refine br_n (fun _ => ?_) (fun z => absurd z (by decide))
      obtain ⟨j, hj, rfl, ej, lt⟩ := xin_ex b40 (by omega) a2
      refine ⟨bs, ?_⟩
      refine xcall (sp_narrow _ _ ?_)
      have bi : vp_in ((40 : Int32) * nI k + nI j) 160 := by rw [ix40]; exact vp_in_nI (by omega) (by omega)
      refine ⟨bi, ?_⟩
      have fin : K (some (.int 1)) (xfill (va_up F 8 (upd (F 8) (40 * k + j) (sgn (F 6 k) x))) v 0 (wM0 0)) := by
        have gp : xin (nI k) 4 ∧ ¬ (mA F v).2.2 5 (nat (nI k)) = 0 ∧ xin (nI j) ((mA F v).2.2 4 (nat (nI k))).toInt := ⟨a1, c0, by show xin (nI j) (F 7 (nat (nI k))).toInt; rw [ek]; exact a2⟩
        refine h.ok (F' := va_up F 8 (upd (F 8) (40 * k + j) (sgn (F 6 k) x))) (v' := v) ⟨S.1, S.2.1, S.2.2.1, S.2.2.2.1, fun s l hs hl => ?_⟩ ?_ ((if_pos a1).trans ((if_neg c0).trans (if_pos gp.2.2)))
        · show sgn (F 6 s) (upd (F 8) (40 * k + j) (sgn (F 6 k) x) (40 * s + l)) = upd (F 8) (40 * k + j) (sgn (F 6 k) x) (40 * s + l)
          by_cases e : 40 * s + l = 40 * k + j
          · have es : s = k := by omega
            subst es
            rw [e, pk_us, sgn_sgn]
          · rw [pk_un e]
            exact S.2.2.2.2 s l hs hl
        · rw [show g_put (nI k) (nI j) x (mA F v) = _ from if_pos gp, ek, ej]
          refine ⟨sAgr.rf, rAgr.mk2 (fun c l hc hl => ?_) (fun c hc => ?_) (fun c hc => ?_) ?_ ?_, fun _ => sAgr.rf⟩
          · show mRs _ v c l = _
            rw [mSh hc]
            show bare (F 6 c) (upd (F 8) (40 * k + j) (sgn (F 6 k) x) (40 * c + l)) = va_up (mA F v).2.2 k (upd ((mA F v).2.2 k) j (bare ((mA F v).2.2 5 k) x)) c l
            by_cases ck : c = k
            · subst ck
              rw [vu_eq]
              by_cases lj : l = j
              · subst lj
                rw [pk_us, pk_us, bare_sgn]
                rfl
              · rw [pk_un (by omega), pk_un lj]
                show _ = mRs F v c l
                rw [mSh hc]
            · rw [vu_ne ck, pk_un (by omega)]
              show _ = mRs F v c l
              rw [mSh hc]
          · exact (congrFun (show va_up (mA F v).2.2 k _ 4 = (mA F v).2.2 4 from if_neg (by omega)) c).symm
          · exact (congrFun (show va_up (mA F v).2.2 k _ 5 = (mA F v).2.2 5 from if_neg (by omega)) c).symm
          · exact (show va_up (mA F v).2.2 k _ 6 = (mA F v).2.2 6 from if_neg (by omega)).symm
          · exact (show va_up (mA F v).2.2 k _ 7 = (mA F v).2.2 7 from if_neg (by omega)).symm
      rw [show 40 * k + j = Int32.toNatClampNeg ((40 : Int32) * nI k + nI j) by rw [ix40]; exact (nI_clamp (by omega)).symm, ← e6] at fin
      exact fin
  · have c0 : F 6 (nat (nI k)) = 0 := c0
    refine xcall (sp_errM F v (-1000000002) 2 (by decide) (by decide) ?_)
    exact h.err S (if_neg fun z => z.2.1 c0) ((if_pos a1).trans (if_pos c0))
end
section
/-! ===== the reference: sheets moved and read ===== -/
variable {Ψ : mRw → Prop}
set_option maxRecDepth 100000 in
theorem mv_run (F v : xS) (k l i j m : Nat) (hk : k < 4) (hl : l < 4) (hi : i + m ≤ 40) (hj : j + m ≤ 40) {K : xKo} (h : ∀ p g : Nat → Int32, (∀ x, x < m → p (40 * l + j + x) = F 8 (40 * k + i + x)) → (∀ x, (x < 40 * l + j ∨ 40 * l + j + m ≤ x) → p x = F 8 x) → K (some (.int (nI m))) (xfill (va_up (va_up F 9 g) 8 p) v 0 (wM0 0))) : xWP pg_M_move K 119 [(0, .ref 0), (1, .int (nI k)), (2, .int (nI i)), (3, .int (nI l)), (4, .int (nI j)), (5, .int (nI m)), (6, .int 0)] [] (xfill F v 0 (wM0 0)) (0, 0) := by
  have i3 : ∀ a b c : Nat, (40 : Int32) * nI a + nI b + nI c = nI (40 * a + b + c) := fun a b c => by rw [ix40, nI_add]
  have c3 : ∀ a b c : Nat, a < 4 → b < 41 → c < 41 → Int32.toNatClampNeg ((40 : Int32) * nI a + nI b + nI c) = 40 * a + b + c := fun a b c _ _ _ => by rw [i3]; exact nI_clamp (by omega)
  have two : ∀ (d x : Nat) (g p : Nat → Int32), x + d = m → (∀ y, y < m → g y = F 8 (40 * k + i + y)) → (∀ y, y < x → p (40 * l + j + y) = F 8 (40 * k + i + y)) → (∀ y, (y < 40 * l + j ∨ 40 * l + j + m ≤ y) → p y = F 8 y) → xWP pg_M_move K 156 [(0, .ref 0), (1, .int (nI k)), (2, .int (nI i)), (3, .int (nI l)), (4, .int (nI j)), (5, .int (nI m)), (6, .int (nI x))] [] (xfill (va_up (va_up F 9 g) 8 p) v 0 (wM0 0)) (0, 0) := by
    intro d
    induction d with
    | zero =>
      intro x g p hx hg p0 p1
      have hx : x = m := hx
      subst hx
      refine xWP_go 100 [(109, [0, 1, 2, 3, 4, 5]), (119, [0, 1, 2, 3, 4, 5, 6]), (156, [0, 1, 2, 3, 4, 5, 6])] fun P hP => ?_
      refine br_c (fun _ => h p g p0 p1) (fun z => absurd (nI_le (Nat.le_refl _) (by omega)) z)
    | succ d ih =>
      intro x g p hx hg p0 p1
      have ex : Int32.toNatClampNeg (nI x) = x := nI_clamp (by omega)
      refine xWP_go 100 [(109, [0, 1, 2, 3, 4, 5]), (119, [0, 1, 2, 3, 4, 5, 6]), (156, [0, 1, 2, 3, 4, 5, 6])] fun P hP => ?_
      refine br_c (fun z => absurd z (nI_ge (by omega) (by omega))) (fun _ => ?_)
      refine ⟨vp_in_nI (by omega) (by omega), ?_⟩
      refine ⟨by show vp_in ((40 : Int32) * nI l + nI j + nI x) 160; rw [i3]; exact vp_in_nI (by omega) (by omega), ?_⟩
      refine hP _ _ _ _ _ ?_
      have q := ih (x + 1) g (upd p (40 * l + j + x) (g x)) (by omega) hg (fun y hy => ?_) (fun y hy => ?_)
      · rw [← nI_1, ← c3 l j x hl (by omega) (by omega), show g x = g (Int32.toNatClampNeg (nI x)) by rw [ex]] at q
        exact q
      · by_cases e : y = x
        · subst e; rw [pk_us]; exact hg y (by omega)
        · rw [pk_un (by omega)]; exact p0 y (by omega)
      · rw [pk_un (by omega)]; exact p1 y hy
  have one : ∀ (d x : Nat) (g : Nat → Int32), x + d = m → (∀ y, y < x → g y = F 8 (40 * k + i + y)) → xWP pg_M_move K 119 [(0, .ref 0), (1, .int (nI k)), (2, .int (nI i)), (3, .int (nI l)), (4, .int (nI j)), (5, .int (nI m)), (6, .int (nI x))] [] (xfill (va_up F 9 g) v 0 (wM0 0)) (0, 0) := by
    intro d
    induction d with
    | zero =>
      intro x g hx hg
      have hx : x = m := hx
      subst hx
      refine xWP_go 100 [(109, [0, 1, 2, 3, 4, 5]), (119, [0, 1, 2, 3, 4, 5, 6]), (156, [0, 1, 2, 3, 4, 5, 6])] fun P hP => ?_
      refine br_c (fun _ => ?_) (fun z => absurd (nI_le (Nat.le_refl _) (by omega)) z)
      refine hP _ _ _ _ _ ?_
      exact two x 0 g (F 8) (by omega) hg (fun y hy => absurd hy (Nat.not_lt_zero y)) (fun y _ => rfl)
    | succ d ih =>
      intro x g hx hg
      refine xWP_go 100 [(109, [0, 1, 2, 3, 4, 5]), (119, [0, 1, 2, 3, 4, 5, 6]), (156, [0, 1, 2, 3, 4, 5, 6])] fun P hP => ?_
      refine br_c (fun z => absurd z (nI_ge (by omega) (by omega))) (fun _ => ?_)
      refine ⟨by show vp_in ((40 : Int32) * nI k + nI i + nI x) 160; rw [i3]; exact vp_in_nI (by omega) (by omega), ?_⟩
      refine ⟨vp_in_nI (by omega) (by omega), ?_⟩
      refine hP _ _ _ _ _ ?_
      have q := ih (x + 1) (upd g x (F 8 (40 * k + i + x))) (by omega) (fun y hy => ?_)
      · rw [← nI_1, ← c3 k i x hk (by omega) (by omega)] at q
        have ex : upd g x = upd g (Int32.toNatClampNeg (nI x)) := by rw [show Int32.toNatClampNeg (nI x) = x from nI_clamp (by omega)]
        rw [ex] at q
        exact q
      · by_cases e : y = x
        · subst e; rw [pk_us]
        · rw [pk_un e]; exact hg y (by omega)
  exact one m 0 (F 9) (by omega) (fun y hy => absurd hy (Nat.not_lt_zero y))
set_option maxRecDepth 100000 in
theorem ms_move (n : Nat) (F v : xS) (I : aIv n (mA F v)) (S : mS Ψ F v) (s i d j m : Int32) {K : xKo} (h : mTo Ψ F v (g_move s i d j m) (f_move s i d j m) K) : C_M_move [.ref 0, .int s, .int i, .int d, .int j, .int m] (xfill F v 0 (wM0 0)) K := by
  refine xM_go rfl 200 [(109, [0, 1, 2, 3, 4, 5]), (119, [0, 1, 2, 3, 4, 5, 6])] fun P hP => ?_
  refine xcall (sp_isSheet _ (fun a1 => ?_) (fun a1 => ?_))
  · refine br_c (fun _ => ?_) (fun z => absurd rfl z)
    refine xcall (sp_errM F v (-1000000001) 1 (by decide) (by decide) ?_)
    exact h.err S (if_neg fun z => a1 z.1.1) (if_neg fun z => a1 z.1)
  refine br_c (fun z => absurd z (by decide)) (fun _ => ?_)
  refine xcall (sp_isSheet _ (fun a2 => ?_) (fun a2 => ?_))
  · refine br_n (fun z => absurd rfl z) (fun _ => ?_)
    refine xcall (sp_errM F v (-1000000001) 1 (by decide) (by decide) ?_)
    exact h.err S (if_neg fun z => a2 z.1.2) (if_neg fun z => a2 z.2)
  refine br_n (fun _ => ?_) (fun z => absurd z (by decide))
  obtain ⟨k, hk, rfl, ek⟩ := nI_ofx s (n := 4) a1 (by decide)
  obtain ⟨l, hl, rfl, el⟩ := nI_ofx d (n := 4) a2 (by decide)
  have bk : vp_in (nI k) 4 := vin a1
  have bl : vp_in (nI l) 4 := vin a2
  have b40k : below 40 (F 7 k) := rI4 I (by omega)
  have b40l : below 40 (F 7 l) := rI4 I (by omega)
  have ek : Int32.toNatClampNeg (nI k) = k := ek
  have el : Int32.toNatClampNeg (nI l) = l := el
  refine ⟨bk, ?_⟩
  have miss : (F 6 k = 0 ∨ F 6 l = 0) → K (some (.int (-1000000002))) (xfill (va_up F 5 (upd (F 5) 2 (F 5 2 + 1))) v 0 (wM0 0)) := by
    intro z
    have u : (mA F v).2.2 5 (nat (nI k)) = 0 ∨ (mA F v).2.2 5 (nat (nI l)) = 0 := by rw [show nat (nI k) = k from ek, show nat (nI l) = l from el]; exact z
    exact h.err S (if_neg fun y => y.2.1 u) ((if_pos ⟨a1, a2⟩).trans (if_pos u))
  refine br_c (fun c0 => ?_) (fun c0 => ?_)
  · have c0 : F 6 (Int32.toNatClampNeg (nI k)) = 0 := c0
    rw [ek] at c0
    refine xcall (sp_errM F v (-1000000002) 2 (by decide) (by decide) ?_)
    exact miss (Or.inl c0)
  have c0 : ¬ F 6 (Int32.toNatClampNeg (nI k)) = 0 := c0
  refine ⟨bl, ?_⟩
  refine br_n (fun c1 => ?_) (fun c1 => ?_)
  rotate_left
  · have c1 : F 6 (Int32.toNatClampNeg (nI l)) = 0 := c1
    rw [el] at c1
    refine xcall (sp_errM F v (-1000000002) 2 (by decide) (by decide) ?_)
    exact miss (Or.inr c1)
  have c1 : ¬ F 6 (Int32.toNatClampNeg (nI l)) = 0 := c1
  rw [ek] at c0
  rw [el] at c1
  have u1 : ¬ ((mA F v).2.2 5 (nat (nI k)) = 0 ∨ (mA F v).2.2 5 (nat (nI l)) = 0) := by rw [show nat (nI k) = k from ek, show nat (nI l) = l from el]; exact fun z => z.elim c0 c1
  refine ⟨bk, ?_⟩
  refine ⟨bl, ?_⟩
  refine br_c (fun c2 => ?_) (fun c2 => ?_)
  rotate_left
  · have c2 : ¬ F 6 (Int32.toNatClampNeg (nI k)) = F 6 (Int32.toNatClampNeg (nI l)) := c2
    have u2 : ¬ (mA F v).2.2 5 (nat (nI k)) = (mA F v).2.2 5 (nat (nI l)) := c2
    refine xcall (sp_errM F v (-1000000005) 5 (by decide) (by decide) ?_)
    exact h.err S (if_neg fun y => u2 y.2.2.1) ((if_pos ⟨a1, a2⟩).trans ((if_neg u1).trans (if_neg u2)))
  have c2 : F 6 (Int32.toNatClampNeg (nI k)) = F 6 (Int32.toNatClampNeg (nI l)) := c2
  have u2 : (mA F v).2.2 5 (nat (nI k)) = (mA F v).2.2 5 (nat (nI l)) := c2
  have ru : runs i j m ((mA F v).2.2 4 (nat (nI k))) ((mA F v).2.2 4 (nat (nI l))) ↔ runs i j m (F 7 k) (F 7 l) := by
    rw [show nat (nI k) = k from ek, show nat (nI l) = l from el]
    exact Iff.rfl
  have bad : ¬ runs i j m (F 7 k) (F 7 l) → xWP pg_M_move K 109 [(0, .ref 0), (1, .int (nI k)), (2, .int i), (3, .int (nI l)), (4, .int j), (5, .int m)] [] (xfill F v 0 (wM0 0)) (0, 0) := by
    intro nr
    refine xWP_go 100 [] fun P hP => ?_
    refine xcall (sp_errM F v (-1000000001) 1 (by decide) (by decide) ?_)
    exact h.err S (if_neg fun y => nr (ru.mp y.2.2.2)) ((if_pos ⟨a1, a2⟩).trans ((if_neg u1).trans ((if_pos u2).trans (if_neg fun y => nr (ru.mp y)))))
  have tk : ∃ q : Nat, q ≤ 40 ∧ F 7 k = nI q := b40k
  have tl : ∃ q : Nat, q ≤ 40 ∧ F 7 l = nI q := b40l
  obtain ⟨qk, hqk, eqk⟩ := tk
  obtain ⟨ql, hql, eql⟩ := tl
  have tik : (F 7 k).toInt = qk := by rw [eqk]; exact nI_toInt (by omega)
  have til : (F 7 l).toInt = ql := by rw [eql]; exact nI_toInt (by omega)
  have o0 : (0 : Int32).toInt = 0 := by decide
  refine br_c (fun c3 => hP _ _ _ _ _ (bad fun y => ?_)) (fun c3 => ?_)
  · have c3 : m < 0 := c3
    rw [xlt] at c3
    have := y.1.2.1
    omega
  have c3 : ¬ m < 0 := c3
  rw [xlt] at c3
  refine br_c (fun c4 => hP _ _ _ _ _ (bad fun y => ?_)) (fun c4 => ?_)
  · have c4 : i < 0 := c4
    rw [xlt] at c4
    have := y.1.1
    omega
  have c4 : ¬ i < 0 := c4
  rw [xlt] at c4
  refine br_c (fun c5 => hP _ _ _ _ _ (bad fun y => ?_)) (fun c5 => ?_)
  · have c5 : j < 0 := c5
    rw [xlt] at c5
    have := y.2.1
    omega
  have c5 : ¬ j < 0 := c5
  rw [xlt] at c5
  have sub : ∀ (Z : Int32) (q : Nat), q ≤ 40 → Z = nI q → (Z - m).toInt = q - m.toInt := by
    intro Z q hq e
    have ml := m.toInt_lt
    rw [Int32.toInt_sub, e, nI_toInt (by omega)]
    exact Int.bmod_eq_of_le (by omega) (by omega)
  refine ⟨bk, ?_⟩
  refine br_c (fun c6 => hP _ _ _ _ _ (bad fun y => ?_)) (fun c6 => ?_)
  · have c6 : F 7 (Int32.toNatClampNeg (nI k)) - m < i := c6
    rw [ek, xlt, sub _ qk hqk eqk] at c6
    have := y.1.2.2
    omega
  have c6 : ¬ F 7 (Int32.toNatClampNeg (nI k)) - m < i := c6
  rw [ek, xlt, sub _ qk hqk eqk] at c6
  refine ⟨bl, ?_⟩
  refine br_c (fun c7 => ?_) (fun c7 => hP _ _ _ _ _ (bad fun y => ?_))
  rotate_left
  · have c7 : ¬ j ≤ F 7 (Int32.toNatClampNeg (nI l)) - m := c7
    rw [el, xle, sub _ ql hql eql] at c7
    have := y.2.2.2
    omega
  have c7 : j ≤ F 7 (Int32.toNatClampNeg (nI l)) - m := c7
  rw [el, xle, sub _ ql hql eql] at c7
  have r0 : runs i j m (F 7 k) (F 7 l) := ⟨⟨by omega, by omega, by omega⟩, by omega, by omega, by omega⟩
  obtain ⟨i', hi', rfl, ei⟩ := nI_ofx i (n := 41) ⟨by omega, by omega⟩ (by decide)
  obtain ⟨j', hj', rfl, ej⟩ := nI_ofx j (n := 41) ⟨by omega, by omega⟩ (by decide)
  obtain ⟨m', hm', rfl, em⟩ := nI_ofx m (n := 41) ⟨by omega, by omega⟩ (by decide)
  have ti : (nI i').toInt = i' := nI_toInt (by omega)
  have tj : (nI j').toInt = j' := nI_toInt (by omega)
  have tm : (nI m').toInt = m' := nI_toInt (by omega)
  refine hP _ _ _ _ _ ?_
  refine mv_run F v k l i' j' m' (by omega) (by omega) (by omega) (by omega) (fun p g p0 p1 => ?_)
  refine h.ok (F' := va_up (va_up F 9 g) 8 p) (v' := v) ⟨S.1, S.2.1, S.2.2.1, S.2.2.2.1, fun s x hs hx => ?_⟩ ?_ ((if_pos ⟨a1, a2⟩).trans ((if_neg u1).trans ((if_pos u2).trans (if_pos (ru.mpr r0)))))
  · show sgn (F 6 s) (p (40 * s + x)) = p (40 * s + x)
    by_cases e : 40 * l + j' ≤ 40 * s + x ∧ 40 * s + x < 40 * l + j' + m'
    · have es : s = l := by omega
      have q := p0 (40 * s + x - (40 * l + j')) (by omega)
      rw [show 40 * l + j' + (40 * s + x - (40 * l + j')) = 40 * s + x by omega] at q
      have c2 : F 6 k = F 6 l := by rw [ek, el] at c2; exact c2
      rw [q, es, ← c2, show 40 * k + i' + (40 * l + x - (40 * l + j')) = 40 * k + (i' + (x - j')) by omega]
      exact S.2.2.2.2 k _ (by omega) (by omega)
    · rw [p1 _ (by omega)]
      exact S.2.2.2.2 s x hs hx
  · rw [show g_move (nI k) (nI i') (nI l) (nI j') (nI m') (mA F v) = _ from if_pos ⟨⟨a1, a2⟩, u1, u2, ru.mpr r0⟩, show nat (nI k) = k from ek, show nat (nI l) = l from el, ei, ej, em]
    refine ⟨sAgr.rf, rAgr.mk2 (fun c x hc hx => ?_) (fun c hc => ?_) (fun c hc => ?_) ?_ ?_, fun _ => sAgr.rf⟩
    · show mRs _ v c x = _
      rw [mSh hc]
      show bare (F 6 c) (p (40 * c + x)) = va_up (mA F v).2.2 l (va_cpy ((mA F v).2.2 k) ((mA F v).2.2 l) i' j' m') c x
      by_cases cl : c = l
      · subst cl
        rw [vu_eq]
        by_cases e : j' ≤ x ∧ x < j' + m'
        · rw [pk_cpy_in e.1 e.2]
          have q := p0 (x - j') (by omega)
          rw [show 40 * c + j' + (x - j') = 40 * c + x by omega] at q
          have c2 : F 6 k = F 6 c := by rw [ek, el] at c2; exact c2
          rw [q]
          show _ = mRs F v k (i' + (x - j'))
          rw [mSh (by omega), ← c2, show 40 * k + i' + (x - j') = 40 * k + (i' + (x - j')) by omega]
        · rw [pk_cpy_out (by omega), p1 _ (by omega)]
          show _ = mRs F v c x
          rw [mSh hc]
      · rw [vu_ne cl, p1 _ (by omega)]
        show _ = mRs F v c x
        rw [mSh hc]
    · exact (congrFun (show va_up (mA F v).2.2 l _ 4 = (mA F v).2.2 4 from if_neg (by omega)) c).symm
    · exact (congrFun (show va_up (mA F v).2.2 l _ 5 = (mA F v).2.2 5 from if_neg (by omega)) c).symm
    · exact (show va_up (mA F v).2.2 l _ 6 = (mA F v).2.2 6 from if_neg (by omega)).symm
    · exact (show va_up (mA F v).2.2 l _ 7 = (mA F v).2.2 7 from if_neg (by omega)).symm
set_option maxRecDepth 100000 in
theorem ms_judge (n : Nat) (F v : xS) (I : aIv n (mA F v)) (S : mS Ψ F v) (s : Int32) {K : xKo} (h : mTw Ψ F v (fun s => s) (kd_judge s) K) : C_M_judge [.ref 0, .int s] (xfill F v 0 (wM0 0)) K := by
  refine xM_go rfl 200 [(32, [0, 1, 2]), (78, [0, 1, 2])] fun P hP => ?_
  refine xcall (sp_isSheet _ (fun a1 => ?_) (fun a1 => ?_))
  · refine br_n (fun z => absurd rfl z) (fun _ => ?_)
    refine xcall (sp_errM F v (-1000000001) 1 (by decide) (by decide) ?_)
    exact h.err S rfl (if_neg a1)
  refine br_n (fun _ => ?_) (fun z => absurd z (by decide))
  obtain ⟨k, hk, rfl, ek⟩ := nI_ofx s (n := 4) a1 (by decide)
  have bs : vp_in (nI k) 4 := vin a1
  obtain ⟨mc, hm, em⟩ : below 7 (F 1 2) := I.1.1.2.1
  have fin : kd_judge (nI k) (mA F v) = 0 → ∀ i : Nat, xWP pg_M_judge K 78 [(0, .ref 0), (1, .int (nI k)), (2, .int (nI i))] [] (xfill F v 0 (wM0 0)) (0, 0) := by
    intro k0 i
    refine xWP_go 200 [] fun P hP => ?_
    refine ⟨vin (by decide), ?_⟩
    refine br_n (fun _ => h.id S rfl k0) (fun _ => ?_)
    refine ⟨bs, ?_⟩
    exact br_n (fun _ => h.id S rfl k0) (fun _ => h.id S rfl k0)
  have key : kd_judge (nI k) (mA F v) = 0 → ∀ (d i : Nat), i + d = mc → xWP pg_M_judge K 32 [(0, .ref 0), (1, .int (nI k)), (2, .int (nI i))] [] (xfill F v 0 (wM0 0)) (0, 0) := by
    intro k0 d
    induction d with
    | zero =>
      intro i hi
      refine xWP_go 200 [(32, [0, 1, 2]), (78, [0, 1, 2])] fun P hP => ?_
      refine ⟨vin (by decide), ?_⟩
      refine br_c (fun _ => hP _ _ _ _ _ (fin k0 i)) (fun z => ?_)
      have z : ¬ F 1 2 ≤ nI i := z
      rw [em, nI_leI (by omega) (by omega)] at z
      omega
    | succ d ih =>
      intro i hi
      refine xWP_go 200 [(32, [0, 1, 2]), (78, [0, 1, 2])] fun P hP => ?_
      refine ⟨vin (by decide), ?_⟩
      refine br_c (fun z => ?_) (fun _ => ?_)
      · have z : F 1 2 ≤ nI i := z
        rw [em, nI_leI (by omega) (by omega)] at z
        omega
      refine ⟨bs, ?_⟩
      refine br_c (fun _ => hP _ _ _ _ _ (fin k0 i)) (fun _ => ?_)
      refine ⟨by show vp_in ((40 : Int32) * nI k + nI i) 160; rw [ix40]; exact vp_in_nI (by omega) (by omega), ?_⟩
      refine xcall (sp_its F v (nI i) 4 (vc5 (by omega) (w := 4) (by omega)) ?_)
      refine br_n (fun _ => hP _ _ _ _ _ (fin k0 i)) (fun _ => ?_)
      refine hP _ _ _ _ _ ?_
      rw [nI_1]
      exact ih (i + 1) (by omega)
  refine ⟨bs, ?_⟩
  refine br_n (fun c0 => ?_) (fun c0 => ?_)
  · refine hP _ _ _ _ _ ?_
    exact key ((if_pos a1).trans (if_neg c0)) mc 0 (by omega)
  · refine xcall (sp_errM F v (-1000000002) 2 (by decide) (by decide) ?_)
    exact h.err S rfl ((if_pos a1).trans (if_pos c0))
end
section
/-! ===== the reference: voices ===== -/
variable {Ψ : mRw → Prop}
abbrev MW (F v : xS) (q : xTq) : xW := xfill (va_up F 10 q.1) (va_up v 0 (va_up (v 0) 21 (nI q.2))) 0 (wM0 0)
theorem sp_ran (F v : xS) (q : xTq) (b : Int32) (hq : q.2 ≤ 40) {K : xKo} (h : K none (MW F v (nt q b))) : C_M_ran [.ref 0, .int b] (MW F v q) K := by
  refine xM_go rfl 60 [] fun P hP => ?_
  refine br_c (fun a => ?_) (fun a => ?_)
  · have a : nI 40 ≤ nI q.2 := a
    rw [nI_leI (by omega) (by omega)] at a
    unfold nt at h
    rw [if_neg (by omega)] at h
    exact h
  · have a : ¬ nI 40 ≤ nI q.2 := a
    rw [nI_leI (by omega) (by omega)] at a
    unfold nt at h
    rw [if_pos (by omega)] at h
    refine ⟨vp_in_nI (by omega) (by omega), ?_⟩
    have h2 : K none (xfill (va_up F 10 (upd q.1 (nat (nI q.2)) b)) (va_up v 0 (va_up (v 0) 21 (nI q.2 + 1))) 0 (wM0 0)) := by
      rw [show nat (nI q.2) = q.2 from nI_clamp (by omega), nI_1]
      exact h
    exact h2
theorem sp_aboveC (k r : Int32) (e : (if k = 0 then -1 else if k ≤ 3 then 0 else k - 3) = r) {K : xKo} (h : K (some (.int r)) []) : C_M_above [.int k] [] K := sp_above k (by rw [e]; exact h)
set_option maxRecDepth 100000 in
theorem vs0 (l : Nat) (F v : xS) (x : Int32) (q : xTq) (hq : q.2 ≤ 40) {K : xKo} (h : K (some (.int (shV 0 (v 0 23) x q).1)) (MW F v (shV 0 (v 0 23) x q).2)) : G_voice (l + 1) 0 [.ref 0, .int (nI 0), .int x] (MW F v q) K := by
  have eG : G_voice (l + 1) 0 = xM 3 (pg_M_shoutsIn (G_voice l)) := by simp only [G_voice]
  rw [eG]
  refine xM_go rfl 100 [] fun P hP => ?_
  refine br_n (fun z => absurd rfl z) (fun _ => ?_)
  refine xcall (sp_ran F v q 10 hq ?_)
  exact h
set_option maxRecDepth 100000 in
theorem vs1 (l : Nat) (F v : xS) (x : Int32) (q : xTq) (hq : q.2 ≤ 40) {K : xKo} (h : K (some (.int (shV 1 (v 0 23) x q).1)) (MW F v (shV 1 (v 0 23) x q).2)) : G_voice (l + 2) 0 [.ref 0, .int (nI 1), .int x] (MW F v q) K := by
  have eG : G_voice (l + 2) 0 = xM 3 (pg_M_shoutsIn (G_voice (l + 1))) := by simp only [G_voice]
  rw [eG]
  refine xM_go rfl 100 [] fun P hP => ?_
  refine br_n (fun _ => ?_) (fun z => absurd z (by decide))
  refine br_n (fun z => absurd rfl z) (fun _ => ?_)
  refine xcall (sp_ran F v q 20 hq ?_)
  refine xcall (vs0 l F v x (nt q 20) (nt_le hq) ?_)
  exact h
set_option maxRecDepth 100000 in
theorem vs2 (l : Nat) (F v : xS) (x : Int32) (q : xTq) (hq : q.2 ≤ 40) {K : xKo} (h : K (some (.int (shV 2 (v 0 23) x q).1)) (MW F v (shV 2 (v 0 23) x q).2)) : G_voice (l + 2) 0 [.ref 0, .int (nI 2), .int x] (MW F v q) K := by
  have eG : G_voice (l + 2) 0 = xM 3 (pg_M_shoutsIn (G_voice (l + 1))) := by simp only [G_voice]
  rw [eG]
  refine xM_go rfl 100 [] fun P hP => ?_
  refine br_n (fun _ => ?_) (fun z => absurd z (by decide))
  refine br_n (fun _ => ?_) (fun z => absurd z (by decide))
  refine xcall (sp_aboveC (nI 2) (nI 0) (by decide) ?_)
  exact xcall (vs0 l F v x q hq h)
set_option maxRecDepth 100000 in
theorem vs3 (l : Nat) (F v : xS) (x : Int32) (q : xTq) (hq : q.2 ≤ 40) {K : xKo} (h : K (some (.int (shV 3 (v 0 23) x q).1)) (MW F v (shV 3 (v 0 23) x q).2)) : G_voice (l + 2) 0 [.ref 0, .int (nI 3), .int x] (MW F v q) K := by
  have eG : G_voice (l + 2) 0 = xM 3 (pg_M_shoutsIn (G_voice (l + 1))) := by simp only [G_voice]
  rw [eG]
  refine xM_go rfl 100 [] fun P hP => ?_
  refine br_n (fun _ => ?_) (fun z => absurd z (by decide))
  refine br_n (fun _ => ?_) (fun z => absurd z (by decide))
  refine xcall (sp_aboveC (nI 3) (nI 0) (by decide) ?_)
  exact xcall (vs0 l F v x q hq h)
set_option maxRecDepth 100000 in
theorem vs4 (l : Nat) (F v : xS) (x : Int32) (q : xTq) (hq : q.2 ≤ 40) {K : xKo} (h : K (some (.int (shV 4 (v 0 23) x q).1)) (MW F v (shV 4 (v 0 23) x q).2)) : G_voice (l + 3) 0 [.ref 0, .int (nI 4), .int x] (MW F v q) K := by
  have eG : G_voice (l + 3) 0 = xM 3 (pg_M_shoutsIn (G_voice (l + 2))) := by simp only [G_voice]
  rw [eG]
  refine xM_go rfl 100 [] fun P hP => ?_
  refine br_n (fun _ => ?_) (fun z => absurd z (by decide))
  refine br_n (fun _ => ?_) (fun z => absurd z (by decide))
  refine xcall (sp_aboveC (nI 4) (nI 1) (by decide) ?_)
  exact xcall (vs1 l F v x q hq h)
set_option maxRecDepth 100000 in
theorem vs5 (l : Nat) (F v : xS) (x : Int32) (q : xTq) (hq : q.2 ≤ 40) {K : xKo} (h : K (some (.int (shV 5 (v 0 23) x q).1)) (MW F v (shV 5 (v 0 23) x q).2)) : G_voice (l + 3) 0 [.ref 0, .int (nI 5), .int x] (MW F v q) K := by
  have eG : G_voice (l + 3) 0 = xM 3 (pg_M_shoutsIn (G_voice (l + 2))) := by simp only [G_voice]
  rw [eG]
  refine xM_go rfl 100 [] fun P hP => ?_
  refine br_n (fun _ => ?_) (fun z => absurd z (by decide))
  refine br_n (fun _ => ?_) (fun z => absurd z (by decide))
  refine xcall (sp_aboveC (nI 5) (nI 2) (by decide) ?_)
  exact xcall (vs2 l F v x q hq h)
set_option maxRecDepth 100000 in
theorem vs6 (l : Nat) (F v : xS) (x : Int32) (q : xTq) (hq : q.2 ≤ 40) {K : xKo} (h : K (some (.int (shV 6 (v 0 23) x q).1)) (MW F v (shV 6 (v 0 23) x q).2)) : G_voice (l + 3) 0 [.ref 0, .int (nI 6), .int x] (MW F v q) K := by
  have eG : G_voice (l + 3) 0 = xM 3 (pg_M_shoutsIn (G_voice (l + 2))) := by simp only [G_voice]
  rw [eG]
  refine xM_go rfl 100 [] fun P hP => ?_
  refine br_n (fun _ => ?_) (fun z => absurd z (by decide))
  refine br_n (fun _ => ?_) (fun z => absurd z (by decide))
  refine xcall (sp_aboveC (nI 6) (nI 3) (by decide) ?_)
  exact xcall (vs3 l F v x q hq h)
set_option maxRecDepth 100000 in
theorem vsh (l : Nat) (F v : xS) (k : Nat) (hk : k < 7) (x : Int32) (q : xTq) (hq : q.2 ≤ 40) {K : xKo} (h : K (some (.int (shV k (v 0 23) x q).1)) (MW F v (shV k (v 0 23) x q).2)) : G_voice (l + 3) 0 [.ref 0, .int (nI k), .int x] (MW F v q) K := by
  rcases (show k = 0 ∨ k = 1 ∨ k = 2 ∨ k = 3 ∨ k = 4 ∨ k = 5 ∨ k = 6 by omega) with e | e | e | e | e | e | e
  all_goals subst e
  · exact vs0 (l + 2) F v x q hq h
  · exact vs1 (l + 1) F v x q hq h
  · exact vs2 (l + 1) F v x q hq h
  · exact vs3 (l + 1) F v x q hq h
  · exact vs4 l F v x q hq h
  · exact vs5 l F v x q hq h
  · exact vs6 l F v x q hq h
set_option maxRecDepth 100000 in
theorem vt0 (l : Nat) (F v : xS) (x : Int32) (q : xTq) (hq : q.2 ≤ 40) {K : xKo} (h : K (some (.int (toV 0 (v 0 23) (v 0 24) x q).1)) (MW F v (toV 0 (v 0 23) (v 0 24) x q).2)) : G_voice (l + 1) 1 [.ref 0, .int (nI 0), .int x] (MW F v q) K := by
  have eG : G_voice (l + 1) 1 = xM 3 (pg_M_touchesIn (G_voice l)) := by simp only [G_voice]
  rw [eG]
  refine xM_go rfl 100 [] fun P hP => ?_
  refine br_n (fun z => absurd rfl z) (fun _ => ?_)
  refine xcall (sp_ran F v q 12 hq ?_)
  exact h
set_option maxRecDepth 100000 in
theorem vt3 (l : Nat) (F v : xS) (x : Int32) (q : xTq) (hq : q.2 ≤ 40) {K : xKo} (h : K (some (.int (toV 3 (v 0 23) (v 0 24) x q).1)) (MW F v (toV 3 (v 0 23) (v 0 24) x q).2)) : G_voice (l + 2) 1 [.ref 0, .int (nI 3), .int x] (MW F v q) K := by
  have eG : G_voice (l + 2) 1 = xM 3 (pg_M_touchesIn (G_voice (l + 1))) := by simp only [G_voice]
  rw [eG]
  refine xM_go rfl 100 [] fun P hP => ?_
  refine br_n (fun _ => ?_) (fun z => absurd z (by decide))
  refine br_n (fun z => absurd rfl z) (fun _ => ?_)
  refine xcall (sp_ran F v q 40 hq ?_)
  refine xcall (vt0 l F v x (nt q 40) (nt_le hq) ?_)
  exact h
set_option maxRecDepth 100000 in
theorem vt6 (l : Nat) (F v : xS) (x : Int32) (q : xTq) (hq : q.2 ≤ 40) {K : xKo} (h : K (some (.int (toV 6 (v 0 23) (v 0 24) x q).1)) (MW F v (toV 6 (v 0 23) (v 0 24) x q).2)) : G_voice (l + 3) 1 [.ref 0, .int (nI 6), .int x] (MW F v q) K := by
  have eG : G_voice (l + 3) 1 = xM 3 (pg_M_touchesIn (G_voice (l + 2))) := by simp only [G_voice]
  rw [eG]
  refine xM_go rfl 100 [] fun P hP => ?_
  refine br_n (fun _ => ?_) (fun z => absurd z (by decide))
  refine br_n (fun _ => ?_) (fun z => absurd z (by decide))
  refine br_n (fun z => absurd rfl z) (fun _ => ?_)
  refine xcall (sp_ran F v q 70 hq ?_)
  refine xcall (vt3 l F v x (nt q 70) (nt_le hq) ?_)
  exact h
set_option maxRecDepth 100000 in
theorem vt1 (l : Nat) (F v : xS) (x : Int32) (q : xTq) (hq : q.2 ≤ 40) {K : xKo} (h : K (some (.int (toV 1 (v 0 23) (v 0 24) x q).1)) (MW F v (toV 1 (v 0 23) (v 0 24) x q).2)) : G_voice (l + 2) 1 [.ref 0, .int (nI 1), .int x] (MW F v q) K := by
  have eG : G_voice (l + 2) 1 = xM 3 (pg_M_touchesIn (G_voice (l + 1))) := by simp only [G_voice]
  rw [eG]
  refine xM_go rfl 100 [] fun P hP => ?_
  refine br_n (fun _ => ?_) (fun z => absurd z (by decide))
  refine br_n (fun _ => ?_) (fun z => absurd z (by decide))
  refine br_n (fun _ => ?_) (fun z => absurd z (by decide))
  refine xcall (sp_aboveC (nI 1) (nI 0) (by decide) ?_)
  exact xcall (vt0 l F v x q hq h)
set_option maxRecDepth 100000 in
theorem vt2 (l : Nat) (F v : xS) (x : Int32) (q : xTq) (hq : q.2 ≤ 40) {K : xKo} (h : K (some (.int (toV 2 (v 0 23) (v 0 24) x q).1)) (MW F v (toV 2 (v 0 23) (v 0 24) x q).2)) : G_voice (l + 2) 1 [.ref 0, .int (nI 2), .int x] (MW F v q) K := by
  have eG : G_voice (l + 2) 1 = xM 3 (pg_M_touchesIn (G_voice (l + 1))) := by simp only [G_voice]
  rw [eG]
  refine xM_go rfl 100 [] fun P hP => ?_
  refine br_n (fun _ => ?_) (fun z => absurd z (by decide))
  refine br_n (fun _ => ?_) (fun z => absurd z (by decide))
  refine br_n (fun _ => ?_) (fun z => absurd z (by decide))
  refine xcall (sp_aboveC (nI 2) (nI 0) (by decide) ?_)
  exact xcall (vt0 l F v x q hq h)
set_option maxRecDepth 100000 in
theorem vt4 (l : Nat) (F v : xS) (x : Int32) (q : xTq) (hq : q.2 ≤ 40) {K : xKo} (h : K (some (.int (toV 4 (v 0 23) (v 0 24) x q).1)) (MW F v (toV 4 (v 0 23) (v 0 24) x q).2)) : G_voice (l + 3) 1 [.ref 0, .int (nI 4), .int x] (MW F v q) K := by
  have eG : G_voice (l + 3) 1 = xM 3 (pg_M_touchesIn (G_voice (l + 2))) := by simp only [G_voice]
  rw [eG]
  refine xM_go rfl 100 [] fun P hP => ?_
  refine br_n (fun _ => ?_) (fun z => absurd z (by decide))
  refine br_n (fun _ => ?_) (fun z => absurd z (by decide))
  refine br_n (fun _ => ?_) (fun z => absurd z (by decide))
  refine xcall (sp_aboveC (nI 4) (nI 1) (by decide) ?_)
  exact xcall (vt1 l F v x q hq h)
set_option maxRecDepth 100000 in
theorem vt5 (l : Nat) (F v : xS) (x : Int32) (q : xTq) (hq : q.2 ≤ 40) {K : xKo} (h : K (some (.int (toV 5 (v 0 23) (v 0 24) x q).1)) (MW F v (toV 5 (v 0 23) (v 0 24) x q).2)) : G_voice (l + 3) 1 [.ref 0, .int (nI 5), .int x] (MW F v q) K := by
  have eG : G_voice (l + 3) 1 = xM 3 (pg_M_touchesIn (G_voice (l + 2))) := by simp only [G_voice]
  rw [eG]
  refine xM_go rfl 100 [] fun P hP => ?_
  refine br_n (fun _ => ?_) (fun z => absurd z (by decide))
  refine br_n (fun _ => ?_) (fun z => absurd z (by decide))
  refine br_n (fun _ => ?_) (fun z => absurd z (by decide))
  refine xcall (sp_aboveC (nI 5) (nI 2) (by decide) ?_)
  exact xcall (vt2 l F v x q hq h)
set_option maxRecDepth 100000 in
theorem vto (l : Nat) (F v : xS) (k : Nat) (hk : k < 7) (x : Int32) (q : xTq) (hq : q.2 ≤ 40) {K : xKo} (h : K (some (.int (toV k (v 0 23) (v 0 24) x q).1)) (MW F v (toV k (v 0 23) (v 0 24) x q).2)) : G_voice (l + 3) 1 [.ref 0, .int (nI k), .int x] (MW F v q) K := by
  rcases (show k = 0 ∨ k = 1 ∨ k = 2 ∨ k = 3 ∨ k = 4 ∨ k = 5 ∨ k = 6 by omega) with e | e | e | e | e | e | e
  all_goals subst e
  · exact vt0 (l + 2) F v x q hq h
  · exact vt1 (l + 1) F v x q hq h
  · exact vt2 (l + 1) F v x q hq h
  · exact vt3 (l + 1) F v x q hq h
  · exact vt4 l F v x q hq h
  · exact vt5 l F v x q hq h
  · exact vt6 l F v x q hq h
theorem vshz (l : Nat) (F v : xS) (z : Nat) (hz : z < 7) (ez : v 0 22 = nI z) (x : Int32) (q : xTq) (hq : q.2 ≤ 40) {K : xKo} (h : K (some (.int (shV z (v 0 23) x q).1)) (MW F v (shV z (v 0 23) x q).2)) : G_voice (l + 3) 0 [.ref 0, .int (v 0 22), .int x] (MW F v q) K := by
  rw [ez]
  exact vsh l F v z hz x q hq h
theorem vtoz (l : Nat) (F v : xS) (z : Nat) (hz : z < 7) (ez : v 0 22 = nI z) (x : Int32) (q : xTq) (hq : q.2 ≤ 40) {K : xKo} (h : K (some (.int (toV z (v 0 23) (v 0 24) x q).1)) (MW F v (toV z (v 0 23) (v 0 24) x q).2)) : G_voice (l + 3) 1 [.ref 0, .int (v 0 22), .int x] (MW F v q) K := by
  rw [ez]
  exact vto l F v z hz x q hq h
set_option maxRecDepth 100000 in
theorem vr0 (l : Nat) (F v : xS) (z : Nat) (hz : z < 7) (ez : v 0 22 = nI z) (x : Int32) (q : xTq) (hq : q.2 ≤ 40) {K : xKo} (h : K (some (.int (ruV z (v 0 23) (v 0 24) 0 x q).1)) (MW F v (ruV z (v 0 23) (v 0 24) 0 x q).2)) : G_voice (l + 4) 2 [.ref 0, .int (nI 0), .int x] (MW F v q) K := by
  have eG : G_voice (l + 4) 2 = xM 4 (pg_M_runsIn (G_voice (l + 3))) := by simp only [G_voice]
  rw [eG]
  refine xM_go rfl 100 [] fun P hP => ?_
  refine br_n (fun z => absurd rfl z) (fun _ => ?_)
  refine xcall (sp_ran F v q 11 hq ?_)
  refine xcall (vshz l F v z hz ez x (nt q 11) (nt_le hq) ?_)
  exact h
set_option maxRecDepth 100000 in
theorem vr2 (l : Nat) (F v : xS) (z : Nat) (hz : z < 7) (ez : v 0 22 = nI z) (x : Int32) (q : xTq) (hq : q.2 ≤ 40) {K : xKo} (h : K (some (.int (ruV z (v 0 23) (v 0 24) 2 x q).1)) (MW F v (ruV z (v 0 23) (v 0 24) 2 x q).2)) : G_voice (l + 5) 2 [.ref 0, .int (nI 2), .int x] (MW F v q) K := by
  have eG : G_voice (l + 5) 2 = xM 4 (pg_M_runsIn (G_voice (l + 4))) := by simp only [G_voice]
  rw [eG]
  refine xM_go rfl 100 [] fun P hP => ?_
  refine br_n (fun _ => ?_) (fun z => absurd z (by decide))
  refine br_n (fun z => absurd rfl z) (fun _ => ?_)
  refine xcall (sp_ran F v q 30 hq ?_)
  refine xcall (vr0 l F v z hz ez x (nt q 30) (nt_le hq) ?_)
  refine xcall (vtoz (l + 1) F v z hz ez 1 _ (ruV_le (nt_le hq)) ?_)
  exact h
set_option maxRecDepth 100000 in
theorem vr5 (l : Nat) (F v : xS) (z : Nat) (hz : z < 7) (ez : v 0 22 = nI z) (x : Int32) (q : xTq) (hq : q.2 ≤ 40) {K : xKo} (h : K (some (.int (ruV z (v 0 23) (v 0 24) 5 x q).1)) (MW F v (ruV z (v 0 23) (v 0 24) 5 x q).2)) : G_voice (l + 6) 2 [.ref 0, .int (nI 5), .int x] (MW F v q) K := by
  have eG : G_voice (l + 6) 2 = xM 4 (pg_M_runsIn (G_voice (l + 5))) := by simp only [G_voice]
  rw [eG]
  refine xM_go rfl 100 [] fun P hP => ?_
  refine br_n (fun _ => ?_) (fun z => absurd z (by decide))
  refine br_n (fun _ => ?_) (fun z => absurd z (by decide))
  refine br_n (fun z => absurd rfl z) (fun _ => ?_)
  refine xcall (sp_ran F v q 60 hq ?_)
  refine xcall (vr2 l F v z hz ez (x + 1) (nt q 60) (nt_le hq) ?_)
  exact h
set_option maxRecDepth 100000 in
theorem vr1 (l : Nat) (F v : xS) (z : Nat) (hz : z < 7) (ez : v 0 22 = nI z) (x : Int32) (q : xTq) (hq : q.2 ≤ 40) {K : xKo} (h : K (some (.int (ruV z (v 0 23) (v 0 24) 1 x q).1)) (MW F v (ruV z (v 0 23) (v 0 24) 1 x q).2)) : G_voice (l + 5) 2 [.ref 0, .int (nI 1), .int x] (MW F v q) K := by
  have eG : G_voice (l + 5) 2 = xM 4 (pg_M_runsIn (G_voice (l + 4))) := by simp only [G_voice]
  rw [eG]
  refine xM_go rfl 100 [] fun P hP => ?_
  refine br_n (fun _ => ?_) (fun z => absurd z (by decide))
  refine br_n (fun _ => ?_) (fun z => absurd z (by decide))
  refine br_n (fun _ => ?_) (fun z => absurd z (by decide))
  refine xcall (sp_aboveC (nI 1) (nI 0) (by decide) ?_)
  exact xcall (vr0 l F v z hz ez x q hq h)
set_option maxRecDepth 100000 in
theorem vr3 (l : Nat) (F v : xS) (z : Nat) (hz : z < 7) (ez : v 0 22 = nI z) (x : Int32) (q : xTq) (hq : q.2 ≤ 40) {K : xKo} (h : K (some (.int (ruV z (v 0 23) (v 0 24) 3 x q).1)) (MW F v (ruV z (v 0 23) (v 0 24) 3 x q).2)) : G_voice (l + 5) 2 [.ref 0, .int (nI 3), .int x] (MW F v q) K := by
  have eG : G_voice (l + 5) 2 = xM 4 (pg_M_runsIn (G_voice (l + 4))) := by simp only [G_voice]
  rw [eG]
  refine xM_go rfl 100 [] fun P hP => ?_
  refine br_n (fun _ => ?_) (fun z => absurd z (by decide))
  refine br_n (fun _ => ?_) (fun z => absurd z (by decide))
  refine br_n (fun _ => ?_) (fun z => absurd z (by decide))
  refine xcall (sp_aboveC (nI 3) (nI 0) (by decide) ?_)
  exact xcall (vr0 l F v z hz ez x q hq h)
set_option maxRecDepth 100000 in
theorem vr4 (l : Nat) (F v : xS) (z : Nat) (hz : z < 7) (ez : v 0 22 = nI z) (x : Int32) (q : xTq) (hq : q.2 ≤ 40) {K : xKo} (h : K (some (.int (ruV z (v 0 23) (v 0 24) 4 x q).1)) (MW F v (ruV z (v 0 23) (v 0 24) 4 x q).2)) : G_voice (l + 6) 2 [.ref 0, .int (nI 4), .int x] (MW F v q) K := by
  have eG : G_voice (l + 6) 2 = xM 4 (pg_M_runsIn (G_voice (l + 5))) := by simp only [G_voice]
  rw [eG]
  refine xM_go rfl 100 [] fun P hP => ?_
  refine br_n (fun _ => ?_) (fun z => absurd z (by decide))
  refine br_n (fun _ => ?_) (fun z => absurd z (by decide))
  refine br_n (fun _ => ?_) (fun z => absurd z (by decide))
  refine xcall (sp_aboveC (nI 4) (nI 1) (by decide) ?_)
  exact xcall (vr1 l F v z hz ez x q hq h)
set_option maxRecDepth 100000 in
theorem vr6 (l : Nat) (F v : xS) (z : Nat) (hz : z < 7) (ez : v 0 22 = nI z) (x : Int32) (q : xTq) (hq : q.2 ≤ 40) {K : xKo} (h : K (some (.int (ruV z (v 0 23) (v 0 24) 6 x q).1)) (MW F v (ruV z (v 0 23) (v 0 24) 6 x q).2)) : G_voice (l + 6) 2 [.ref 0, .int (nI 6), .int x] (MW F v q) K := by
  have eG : G_voice (l + 6) 2 = xM 4 (pg_M_runsIn (G_voice (l + 5))) := by simp only [G_voice]
  rw [eG]
  refine xM_go rfl 100 [] fun P hP => ?_
  refine br_n (fun _ => ?_) (fun z => absurd z (by decide))
  refine br_n (fun _ => ?_) (fun z => absurd z (by decide))
  refine br_n (fun _ => ?_) (fun z => absurd z (by decide))
  refine xcall (sp_aboveC (nI 6) (nI 3) (by decide) ?_)
  exact xcall (vr3 l F v z hz ez x q hq h)
set_option maxRecDepth 100000 in
theorem vru (l : Nat) (F v : xS) (z : Nat) (hz : z < 7) (ez : v 0 22 = nI z) (k : Nat) (hk : k < 7) (x : Int32) (q : xTq) (hq : q.2 ≤ 40) {K : xKo} (h : K (some (.int (ruV z (v 0 23) (v 0 24) k x q).1)) (MW F v (ruV z (v 0 23) (v 0 24) k x q).2)) : G_voice (l + 6) 2 [.ref 0, .int (nI k), .int x] (MW F v q) K := by
  rcases (show k = 0 ∨ k = 1 ∨ k = 2 ∨ k = 3 ∨ k = 4 ∨ k = 5 ∨ k = 6 by omega) with e | e | e | e | e | e | e
  all_goals subst e
  · exact vr0 (l + 2) F v z hz ez x q hq h
  · exact vr1 (l + 1) F v z hz ez x q hq h
  · exact vr2 (l + 1) F v z hz ez x q hq h
  · exact vr3 (l + 1) F v z hz ez x q hq h
  · exact vr4 l F v z hz ez x q hq h
  · exact vr5 l F v z hz ez x q hq h
  · exact vr6 l F v z hz ez x q hq h
theorem vruz (l : Nat) (F v : xS) (z : Nat) (hz : z < 7) (ez : v 0 22 = nI z) (x : Int32) (q : xTq) (hq : q.2 ≤ 40) {K : xKo} (h : K (some (.int (ruV z (v 0 23) (v 0 24) z x q).1)) (MW F v (ruV z (v 0 23) (v 0 24) z x q).2)) : G_voice (l + 6) 2 [.ref 0, .int (v 0 22), .int x] (MW F v q) K := by
  have h2 : G_voice (l + 6) 2 [.ref 0, .int (nI z), .int x] (MW F v q) K := vru l F v z hz ez z hz x q hq h
  rw [← ez] at h2
  exact h2
set_option maxRecDepth 100000 in
theorem ve0 (l : Nat) (F v : xS) (z : Nat) (hz : z < 7) (ez : v 0 22 = nI z) (x : Int32) (q : xTq) (hq : q.2 ≤ 40) {K : xKo} (h : K (some (.int (teV z (v 0 23) (v 0 24) 0 x q).1)) (MW F v (teV z (v 0 23) (v 0 24) 0 x q).2)) : G_voice (l + 7) 3 [.ref 0, .int (nI 0), .int x] (MW F v q) K := by
  have eG : G_voice (l + 7) 3 = xM 4 (pg_M_tellsIn (G_voice (l + 6))) := by simp only [G_voice]
  rw [eG]
  refine xM_go rfl 100 [] fun P hP => ?_
  refine br_n (fun z => absurd rfl z) (fun _ => ?_)
  refine xcall (sp_ran F v q 13 hq ?_)
  refine xcall (vruz l F v z hz ez x (nt q 13) (nt_le hq) ?_)
  refine xcall (vtoz (l + 3) F v z hz ez x _ (ruV_le (nt_le hq)) ?_)
  exact h
set_option maxRecDepth 100000 in
theorem ve1 (l : Nat) (F v : xS) (z : Nat) (hz : z < 7) (ez : v 0 22 = nI z) (x : Int32) (q : xTq) (hq : q.2 ≤ 40) {K : xKo} (h : K (some (.int (teV z (v 0 23) (v 0 24) 1 x q).1)) (MW F v (teV z (v 0 23) (v 0 24) 1 x q).2)) : G_voice (l + 8) 3 [.ref 0, .int (nI 1), .int x] (MW F v q) K := by
  have eG : G_voice (l + 8) 3 = xM 4 (pg_M_tellsIn (G_voice (l + 7))) := by simp only [G_voice]
  rw [eG]
  refine xM_go rfl 100 [] fun P hP => ?_
  refine br_n (fun _ => ?_) (fun z => absurd z (by decide))
  refine br_n (fun _ => ?_) (fun z => absurd z (by decide))
  refine br_n (fun _ => ?_) (fun z => absurd z (by decide))
  refine xcall (sp_aboveC (nI 1) (nI 0) (by decide) ?_)
  exact xcall (ve0 l F v z hz ez x q hq h)
set_option maxRecDepth 100000 in
theorem ve2 (l : Nat) (F v : xS) (z : Nat) (hz : z < 7) (ez : v 0 22 = nI z) (x : Int32) (q : xTq) (hq : q.2 ≤ 40) {K : xKo} (h : K (some (.int (teV z (v 0 23) (v 0 24) 2 x q).1)) (MW F v (teV z (v 0 23) (v 0 24) 2 x q).2)) : G_voice (l + 8) 3 [.ref 0, .int (nI 2), .int x] (MW F v q) K := by
  have eG : G_voice (l + 8) 3 = xM 4 (pg_M_tellsIn (G_voice (l + 7))) := by simp only [G_voice]
  rw [eG]
  refine xM_go rfl 100 [] fun P hP => ?_
  refine br_n (fun _ => ?_) (fun z => absurd z (by decide))
  refine br_n (fun _ => ?_) (fun z => absurd z (by decide))
  refine br_n (fun _ => ?_) (fun z => absurd z (by decide))
  refine xcall (sp_aboveC (nI 2) (nI 0) (by decide) ?_)
  exact xcall (ve0 l F v z hz ez x q hq h)
set_option maxRecDepth 100000 in
theorem ve3 (l : Nat) (F v : xS) (z : Nat) (hz : z < 7) (ez : v 0 22 = nI z) (x : Int32) (q : xTq) (hq : q.2 ≤ 40) {K : xKo} (h : K (some (.int (teV z (v 0 23) (v 0 24) 3 x q).1)) (MW F v (teV z (v 0 23) (v 0 24) 3 x q).2)) : G_voice (l + 8) 3 [.ref 0, .int (nI 3), .int x] (MW F v q) K := by
  have eG : G_voice (l + 8) 3 = xM 4 (pg_M_tellsIn (G_voice (l + 7))) := by simp only [G_voice]
  rw [eG]
  refine xM_go rfl 100 [] fun P hP => ?_
  refine br_n (fun _ => ?_) (fun z => absurd z (by decide))
  refine br_n (fun _ => ?_) (fun z => absurd z (by decide))
  refine br_n (fun _ => ?_) (fun z => absurd z (by decide))
  refine xcall (sp_aboveC (nI 3) (nI 0) (by decide) ?_)
  exact xcall (ve0 l F v z hz ez x q hq h)
set_option maxRecDepth 100000 in
theorem ve4 (l : Nat) (F v : xS) (z : Nat) (hz : z < 7) (ez : v 0 22 = nI z) (x : Int32) (q : xTq) (hq : q.2 ≤ 40) {K : xKo} (h : K (some (.int (teV z (v 0 23) (v 0 24) 4 x q).1)) (MW F v (teV z (v 0 23) (v 0 24) 4 x q).2)) : G_voice (l + 9) 3 [.ref 0, .int (nI 4), .int x] (MW F v q) K := by
  have eG : G_voice (l + 9) 3 = xM 4 (pg_M_tellsIn (G_voice (l + 8))) := by simp only [G_voice]
  rw [eG]
  refine xM_go rfl 100 [] fun P hP => ?_
  refine br_n (fun _ => ?_) (fun z => absurd z (by decide))
  refine br_n (fun z => absurd rfl z) (fun _ => ?_)
  refine xcall (sp_ran F v q 50 hq ?_)
  refine xcall (ve1 l F v z hz ez x (nt q 50) (nt_le hq) ?_)
  refine xcall (vshz (l + 5) F v z hz ez 2 _ (teV_le (k := 1) (nt_le hq)) ?_)
  exact h
set_option maxRecDepth 100000 in
theorem ve5 (l : Nat) (F v : xS) (z : Nat) (hz : z < 7) (ez : v 0 22 = nI z) (x : Int32) (q : xTq) (hq : q.2 ≤ 40) {K : xKo} (h : K (some (.int (teV z (v 0 23) (v 0 24) 5 x q).1)) (MW F v (teV z (v 0 23) (v 0 24) 5 x q).2)) : G_voice (l + 9) 3 [.ref 0, .int (nI 5), .int x] (MW F v q) K := by
  have eG : G_voice (l + 9) 3 = xM 4 (pg_M_tellsIn (G_voice (l + 8))) := by simp only [G_voice]
  rw [eG]
  refine xM_go rfl 100 [] fun P hP => ?_
  refine br_n (fun _ => ?_) (fun z => absurd z (by decide))
  refine br_n (fun _ => ?_) (fun z => absurd z (by decide))
  refine br_n (fun _ => ?_) (fun z => absurd z (by decide))
  refine xcall (sp_aboveC (nI 5) (nI 2) (by decide) ?_)
  exact xcall (ve2 l F v z hz ez x q hq h)
set_option maxRecDepth 100000 in
theorem ve6 (l : Nat) (F v : xS) (z : Nat) (hz : z < 7) (ez : v 0 22 = nI z) (x : Int32) (q : xTq) (hq : q.2 ≤ 40) {K : xKo} (h : K (some (.int (teV z (v 0 23) (v 0 24) 6 x q).1)) (MW F v (teV z (v 0 23) (v 0 24) 6 x q).2)) : G_voice (l + 9) 3 [.ref 0, .int (nI 6), .int x] (MW F v q) K := by
  have eG : G_voice (l + 9) 3 = xM 4 (pg_M_tellsIn (G_voice (l + 8))) := by simp only [G_voice]
  rw [eG]
  refine xM_go rfl 100 [] fun P hP => ?_
  refine br_n (fun _ => ?_) (fun z => absurd z (by decide))
  refine br_n (fun _ => ?_) (fun z => absurd z (by decide))
  refine br_n (fun z => absurd rfl z) (fun _ => ?_)
  refine xcall (sp_ran F v q 71 hq ?_)
  refine xcall (vruz (l + 2) F v z hz ez x (nt q 71) (nt_le hq) ?_)
  refine xcall (ve3 l F v z hz ez x _ (ruV_le (nt_le hq)) ?_)
  exact h
set_option maxRecDepth 100000 in
theorem vte (l : Nat) (F v : xS) (z : Nat) (hz : z < 7) (ez : v 0 22 = nI z) (k : Nat) (hk : k < 7) (x : Int32) (q : xTq) (hq : q.2 ≤ 40) {K : xKo} (h : K (some (.int (teV z (v 0 23) (v 0 24) k x q).1)) (MW F v (teV z (v 0 23) (v 0 24) k x q).2)) : G_voice (l + 9) 3 [.ref 0, .int (nI k), .int x] (MW F v q) K := by
  rcases (show k = 0 ∨ k = 1 ∨ k = 2 ∨ k = 3 ∨ k = 4 ∨ k = 5 ∨ k = 6 by omega) with e | e | e | e | e | e | e
  all_goals subst e
  · exact ve0 (l + 2) F v z hz ez x q hq h
  · exact ve1 (l + 1) F v z hz ez x q hq h
  · exact ve2 (l + 1) F v z hz ez x q hq h
  · exact ve3 (l + 1) F v z hz ez x q hq h
  · exact ve4 l F v z hz ez x q hq h
  · exact ve5 l F v z hz ez x q hq h
  · exact ve6 l F v z hz ez x q hq h
theorem vtez (l : Nat) (F v : xS) (z : Nat) (hz : z < 7) (ez : v 0 22 = nI z) (x : Int32) (q : xTq) (hq : q.2 ≤ 40) {K : xKo} (h : K (some (.int (teV z (v 0 23) (v 0 24) z x q).1)) (MW F v (teV z (v 0 23) (v 0 24) z x q).2)) : G_voice (l + 9) 3 [.ref 0, .int (v 0 22), .int x] (MW F v q) K := by
  have h2 : G_voice (l + 9) 3 [.ref 0, .int (nI z), .int x] (MW F v q) K := vte l F v z hz ez z hz x q hq h
  rw [← ez] at h2
  exact h2
set_option maxRecDepth 100000 in
theorem ms_voice (n : Nat) (F v : xS) (I : aIv n (mA F v)) (S : mS Ψ F v) (c a x : Int32) {K : xKo} (h : mTo Ψ F v (g_voice c a x) (f_voice c a x) K) : C_M_voice [.ref 0, .int c, .int a, .int x] (xfill F v 0 (wM0 0)) K := by
  refine xM_go rfl 100 [] fun P hP => ?_
  refine xcall (sp_isChildM F v _ I.1.1.2.1 (fun a1 => ?_) (fun a1 => ?_))
  · refine br_c (fun _ => ?_) (fun z => absurd rfl z)
    refine xcall (sp_errM F v (-1000000001) 1 (by decide) (by decide) ?_)
    exact h.err S (if_neg fun z => a1 z.1) (if_neg fun z => a1 z.1)
  refine br_c (fun z => absurd z (by decide)) (fun _ => ?_)
  refine xcall (sp_inx _ 3 4 (by decide) (fun a2 => ?_) (fun a2 => ?_))
  · refine br_n (fun z => absurd rfl z) (fun _ => ?_)
    refine xcall (sp_errM F v (-1000000001) 1 (by decide) (by decide) ?_)
    exact h.err S (if_neg fun z => a2 z.2) (if_neg fun z => a2 z.2)
  refine br_n (fun _ => ?_) (fun z => absurd z (by decide))
  obtain ⟨k, hk, rfl, ek, lt⟩ := xin_ex I.1.1.2.1 (by omega) a1
  obtain ⟨z, hz6, ez⟩ : below 6 (F 1 (25 + 5 * k + 0)) := I.1.2 k lt
  have hz : z < 7 := by omega
  have nz : nat (F 1 (25 + 5 * k + 0)) = z := by rw [ez]; exact nI_clamp (by omega)
  have e0 : F 1 (Int32.toNatClampNeg (25 + 5 * nI k + 0)) = nI z := by
    rw [show Int32.toNatClampNeg (25 + 5 * nI k + 0) = 25 + 5 * k + 0 from nc5 (w := 0) (by omega) (by omega)]
    exact ez
  have e1 : F 1 (Int32.toNatClampNeg (25 + 5 * nI k + 1)) = F 1 (25 + 5 * k + 1) := by
    rw [show Int32.toNatClampNeg (25 + 5 * nI k + 1) = 25 + 5 * k + 1 from nc5 (w := 1) (by omega) (by omega)]
  refine xcall (sp_its F (va_up v 0 (va_up (v 0) 21 0)) (nI k) 0 (vc5 hk (w := 0) (by omega)) ?_)
  refine xcall (sp_its F (va_up v 0 (va_up (va_up (va_up (v 0) 21 0) 22 (F 1 (Int32.toNatClampNeg (25 + 5 * nI k + 0)))) 23 (nI k))) (nI k) 1 (vc5 hk (w := 1) (by omega)) ?_)
  obtain ⟨M, eM⟩ : ∃ M, M = F 1 (25 + 5 * k + 1) := ⟨_, rfl⟩
  obtain ⟨v1, ev1⟩ : ∃ v1 : xS, v1 = va_up v 0 (va_up (va_up (va_up (va_up (v 0) 21 0) 22 (F 1 (Int32.toNatClampNeg (25 + 5 * nI k + 0)))) 23 (nI k)) 24 (F 1 (Int32.toNatClampNeg (25 + 5 * nI k + 1)))) := ⟨_, rfl⟩
  have z1 : v1 0 22 = nI z := by rw [ev1]; exact e0
  have n1 : v1 0 23 = nI k := by rw [ev1]; rfl
  have m1 : v1 0 24 = M := by rw [ev1, eM]; exact e1
  have o : ((F 10, 0) : xTq).2 ≤ 40 := Nat.zero_le 40
  have hV : ∀ V : Int32 × xTq, V = voV z (v1 0 23) (v1 0 24) a x (F 10) → K (some (.int V.1)) (MW F v1 V.2) := by
    intro V e
    rw [n1, m1, eM] at e
    refine h.ok (F' := va_up F 10 V.2.1) (v' := va_up v1 0 (va_up (v1 0) 21 (nI V.2.2))) ?_ ?_ ?_
    · have w : ∀ j, ¬ 21 ≤ j → va_up v1 0 (va_up (v1 0) 21 (nI V.2.2)) 0 j = v 0 j := by
        intro j hj
        rw [ev1]
        exact (if_neg (by omega)).trans ((if_neg (by omega)).trans ((if_neg (by omega)).trans ((if_neg (by omega)).trans (if_neg (by omega)))))
      refine ⟨S.1, S.2.1, ?_, ?_, S.2.2.2.2⟩
      · rw [w 4 (by omega), w 5 (by omega)]; exact S.2.2.1
      · rw [w 15 (by omega)]; exact S.2.2.2.1
    · have eg : g_voice (nI k) a x (mA F v) = ((mA F v).1, (mA F v).2.1, va_up (va_up (mA F v).2.2 7 V.2.1) 6 (upd ((mA F v).2.2 6) 1 (nI V.2.2))) := by
        rw [e, ← nz]
        refine (if_pos ⟨a1, a2⟩).trans ?_
        rw [ek]
        rfl
      rw [eg]
      have e5 : va_up v1 0 (va_up (v1 0) 21 (nI V.2.2)) 0 5 = v 0 5 := by rw [ev1]; rfl
      exact ⟨sAgr.rf, ⟨⟨fun _ _ => rfl, fun _ _ => rfl, fun _ _ => rfl, fun _ _ => rfl⟩, ⟨⟨rfl, rfl, rfl, rfl⟩, rfl, rfl, rfl, rfl⟩, ⟨e5, rfl⟩, fun _ _ => rfl⟩, fun _ => sAgr.rf⟩
    · rw [e, ← nz]
      refine (if_pos ⟨a1, a2⟩).trans ?_
      rw [ek]
      rfl
  obtain ⟨j, hj, rfl, -⟩ := nI_ofx a (n := 4) a2 (by decide)
  refine ⟨fun c0 => ?_, fun c0 => ?_⟩
  · have hv := hV _ rfl
    rw [show voV z (v1 0 23) (v1 0 24) (nI j) x (F 10) = shV z (v1 0 23) x (F 10, 0) from if_pos c0] at hv
    have q := fun (K2 : xKo) g => vshz 9 F v1 z hz z1 x (F 10, 0) o (K := K2) g
    rw [ev1] at q hv
    refine xcall (q _ ?_)
    exact hv
  refine ⟨fun c1 => ?_, fun c1 => ?_⟩
  · have hv := hV _ rfl
    rw [show voV z (v1 0 23) (v1 0 24) (nI j) x (F 10) = ruV z (v1 0 23) (v1 0 24) z x (F 10, 0) from (if_neg c0).trans (if_pos c1)] at hv
    have q := fun (K2 : xKo) g => vruz 6 F v1 z hz z1 x (F 10, 0) o (K := K2) g
    rw [ev1] at q hv
    refine xcall (q _ ?_)
    exact hv
  refine ⟨fun c2 => ?_, fun c2 => ?_⟩
  · have hv := hV _ rfl
    rw [show voV z (v1 0 23) (v1 0 24) (nI j) x (F 10) = toV z (v1 0 23) (v1 0 24) x (F 10, 0) from (if_neg c0).trans ((if_neg c1).trans (if_pos c2))] at hv
    have q := fun (K2 : xKo) g => vtoz 9 F v1 z hz z1 x (F 10, 0) o (K := K2) g
    rw [ev1] at q hv
    refine xcall (q _ ?_)
    exact hv
  · have hv := hV _ rfl
    rw [show voV z (v1 0 23) (v1 0 24) (nI j) x (F 10) = teV z (v1 0 23) (v1 0 24) z x (F 10, 0) from (if_neg c0).trans ((if_neg c1).trans (if_neg c2))] at hv
    have q := fun (K2 : xKo) g => vtez 3 F v1 z hz z1 x (F 10, 0) o (K := K2) g
    rw [ev1] at q hv
    refine xcall (q _ ?_)
    exact hv
end
section
/-! ===== the reference: bytes fed, texts read ===== -/
variable {Ψ : mRw → Prop}
def byteM (w : Int64) (i : Nat) : Int32 := ((w >>> ((8 * nI i).toInt64 &&& 63)) &&& 255).toInt32
theorem sh8 (b : BitVec 64) (s : Nat) (h : s ≤ 56) : b.sshiftRight s &&& 255#64 = b >>> s &&& 255#64 := by
  refine BitVec.eq_of_getLsbD_eq fun i hi => ?_
  rw [BitVec.getLsbD_and, BitVec.getLsbD_and]
  by_cases c : i < 8
  · rw [BitVec.getLsbD_sshiftRight, BitVec.getLsbD_ushiftRight]
    have q : s + i < 64 := by omega
    have q2 : ¬ 64 ≤ i := by omega
    simp [q, q2]
  · have z : (255#64).getLsbD i = false := by
      have e : (255#64).getLsbD i = Nat.testBit 255 i := rfl
      rw [e]
      exact Nat.testBit_lt_two_pow (Nat.lt_of_lt_of_le (show 255 < 2 ^ 8 by decide) (Nat.pow_le_pow_right (by decide) (by omega)))
    rw [z, Bool.and_false, Bool.and_false]
theorem byteMH (w : Int64) (i : Nat) (h : i < 8) : byteM w i = byteH w i := by
  have key : ∀ s : Int64, (∃ n : Nat, n ≤ 56 ∧ s.toBitVec.smod 64 = BitVec.ofNat 64 n ∧ ((s.toUInt64 &&& Int64.toUInt64 63).toBitVec).toNat % 64 = n) → True := fun _ _ => trivial
  unfold byteM byteH
  refine congrArg Int64.toInt32 (Int64.toBitVec_inj.mp ?_)
  rcases (show i = 0 ∨ i = 1 ∨ i = 2 ∨ i = 3 ∨ i = 4 ∨ i = 5 ∨ i = 6 ∨ i = 7 by omega) with e | e | e | e | e | e | e | e
  all_goals subst e
  · exact sh8 w.toBitVec 0 (by decide)
  · exact sh8 w.toBitVec 8 (by decide)
  · exact sh8 w.toBitVec 16 (by decide)
  · exact sh8 w.toBitVec 24 (by decide)
  · exact sh8 w.toBitVec 32 (by decide)
  · exact sh8 w.toBitVec 40 (by decide)
  · exact sh8 w.toBitVec 48 (by decide)
  · exact sh8 w.toBitVec 56 (by decide)
set_option maxRecDepth 100000 in
theorem ms_feed (n : Nat) (F v : xS) (I : aIv n (mA F v)) (S : mS Ψ F v) (w : Int64) (c : Int32) {K : xKo} (h : mTo Ψ F v (g_feed w c) (f_feed w c) K) : C_M_feed [.ref 0, .long w, .int c] (xfill F v 0 (wM0 0)) K := by
  have b3 := bel_nat (show below 8 (F 1 3) from I.1.1.1) (by omega)
  have b2 := bel_nat (show below 7 (F 1 2) from I.1.1.2.1) (by omega)
  have b4 := bel_nat (show below 50 (F 1 4) from I.1.1.2.2.2.1) (by omega)
  have b5 := bel_nat (show below 20 (F 1 5) from I.1.1.2.2.2.2) (by omega)
  obtain ⟨nb, hb, e⟩ : below 50 (F 1 4) := I.1.1.2.2.2.1
  have eb : nat (F 1 4) = nb := by rw [e]; exact nI_clamp (by omega)
  refine xM_go rfl 200 [(40, [0, 1, 3, 4])] fun P hP => ?_
  refine xcall (sp_in _ _ _ (fun a1 => ?_) (fun a1 => ?_))
  · rw [show (1 : Int32).toInt = 1 by decide, show (8 : Int32).toInt = 8 by decide] at a1
    refine br_n (fun z => absurd rfl z) (fun _ => ?_)
    refine xcall (sp_errM F v (-1000000001) 1 (by decide) (by decide) ?_)
    exact h.err S (if_neg fun z => a1 z.1) (if_neg a1)
  rw [show (1 : Int32).toInt = 1 by decide, show (8 : Int32).toInt = 8 by decide] at a1
  refine br_n (fun _ => ?_) (fun z => absurd z (by decide))
  obtain ⟨m, hm, rfl, em⟩ := nI_ofx c (n := 9) ⟨by omega, by omega⟩ (by decide)
  have e4 : F 1 (Int32.toNatClampNeg 4) + nI m = nI (nb + m) := by rw [nq4, e, nI_add]
  refine ⟨vin (by decide), ?_⟩
  refine br_c (fun a3 => ?_) (fun a3 => ?_)
  · have a3 : F 1 (Int32.toNatClampNeg 4) + nI m ≤ nI 50 := a3
    rw [e4, nI_leI (by omega) (by omega)] at a3
    have c2 : nat (F 1 4) + nat (nI m) ≤ 50 := by omega
    have ib : ∀ i : Nat, (60 : Int32) + nI i = nI (60 + i) := fun i => by
      rw [show (60 : Int32) = nI 60 from rfl, nI_add]
    have key : ∀ (d i : Nat) (p : Nat → Int32), i + d = m → (∀ x, (x < 60 + nb ∨ 60 + nb + i ≤ x) → ¬ x = 4 → p x = F 1 x) → (∀ j, j < i → p (60 + nb + j) = byteH w j) → p 4 = nI (nb + i) → xWP pg_M_feed K 40 [(0, .ref 0), (1, .long w), (3, .int (nI m)), (4, .int (nI i))] [] (xfill (va_up F 1 p) v 0 (wM0 0)) (0, 0) := by
      intro d
      induction d with
      | zero =>
        intro i p hi p1 p2 p4
        have hi : i = m := hi
        subst hi
        refine xWP_go 200 [(40, [0, 1, 3, 4])] fun P hP => ?_
        refine br_c (fun _ => ?_) (fun z => absurd (nI_le (Nat.le_refl _) (by omega)) z)
        refine ⟨vin (by decide), ?_⟩
        have fin : K (some (.int (nI (nb + i)))) (xfill (va_up F 1 p) v 0 (wM0 0)) := by
          refine h.ok (F' := va_up F 1 p) (v' := v) (S.row (fun j hj => by have q := exi_in hj; exact p1 j (by omega) (by omega))) ?_ ((if_pos a1).trans ((if_pos c2).trans (an_ (by show nI (nat (F 1 4) + nat (nI i)) = nI (nb + i); rw [eb, em]))))
          have eg : g_feed w (nI i) (mA F v) = (va_up (va_up (mA F v).1 4 (fedT (fun j => F 1 (60 + j)) w nb i)) 6 (upd ((mA F v).1 6) 4 (nI (nb + i))), (mA F v).2) := (if_pos ⟨a1, c2⟩).trans (by
            show (va_up (va_up (mA F v).1 4 (fedT (fun j => F 1 (60 + j)) w (nat (F 1 4)) (nat (nI i)))) 6 (upd ((mA F v).1 6) 4 (nI (nat (F 1 4) + nat (nI i)))), (mA F v).2) = _
            rw [eb, em])
          rw [eg]
          refine mrow ⟨⟨p1 3 (by omega) (by omega), p1 2 (by omega) (by omega), p1 0 (by omega) (by omega), p1 1 (by omega) (by omega), p4, p1 5 (by omega) (by omega)⟩, fun j hj => ?_, fun j hj => ?_, fun j hj => ?_, fun j hj => ?_⟩
          · have hj : j < nat (p 3) := hj
            rw [p1 3 (by omega) (by omega)] at hj
            exact ⟨p1 (9 + 2 * j) (by omega) (by omega), p1 (9 + 2 * j + 1) (by omega) (by omega)⟩
          · have hj : j < nat (p 2) := hj
            rw [p1 2 (by omega) (by omega)] at hj
            exact ⟨p1 (25 + 5 * j + 0) (by omega) (by omega), p1 (25 + 5 * j + 1) (by omega) (by omega)⟩
          · show p (60 + j) = fedT (fun j => F 1 (60 + j)) w nb i j
            unfold fedT
            by_cases g : nb ≤ j ∧ j < nb + i
            · rw [if_pos g]
              have q := p2 (j - nb) (by omega)
              rw [show 60 + nb + (j - nb) = 60 + j by omega] at q
              exact q
            · rw [if_neg g]
              exact p1 (60 + j) (by omega) (by omega)
          · have hj : j < nat (p 5) := hj
            rw [p1 5 (by omega) (by omega)] at hj
            exact p1 (110 + j) (by omega) (by omega)
        rw [← p4, ← nq4] at fin
        exact fin
      | succ d ih =>
        intro i p hi p1 p2 p4
        have p4' : p (Int32.toNatClampNeg 4) = nI (nb + i) := by rw [nq4]; exact p4
        have n60 : Int32.toNatClampNeg ((60 : Int32) + nI (nb + i)) = 60 + nb + i := by rw [ib, ← Nat.add_assoc]; exact nI_clamp (by omega)
        refine xWP_go 200 [(40, [0, 1, 3, 4])] fun P hP => ?_
        refine br_c (fun z => absurd z (nI_ge (by omega) (by omega))) (fun _ => ?_)
        refine ⟨vin (by decide), ?_⟩
        refine ⟨by show vp_in ((60 : Int32) + p (Int32.toNatClampNeg 4)) 230; rw [p4', ib]; exact vp_in_nI (by omega) (by omega), ?_⟩
        refine ⟨vin (by decide), ?_⟩
        refine ⟨vin (by decide), ?_⟩
        refine hP _ _ _ _ _ ?_
        have q := ih (i + 1) (upd (upd p (60 + nb + i) (byteH w i)) 4 (nI (nb + i) + 1)) (by omega) (fun x hx h4 => ?_) (fun j hj => ?_) ?_
        rotate_left
        · rw [pk_un h4, pk_un (by omega)]
          exact p1 x (by omega) h4
        · rw [pk_un (by omega)]
          by_cases ej : j = i
          · subst ej; exact pk_us
          · rw [pk_un (by omega)]; exact p2 j (by omega)
        · rw [pk_us, nI_1]
          rfl
        rw [← byteMH w i (by omega)] at q
        have er : upd (upd p (60 + nb + i) (byteM w i)) 4 (nI (nb + i) + 1) = upd (upd p (Int32.toNatClampNeg ((60 : Int32) + p (Int32.toNatClampNeg 4))) (byteM w i)) (Int32.toNatClampNeg 4) (upd p (Int32.toNatClampNeg ((60 : Int32) + p (Int32.toNatClampNeg 4))) (byteM w i) (Int32.toNatClampNeg 4) + 1) := by
          rw [p4', n60, nq4, pk_un (by omega), p4]
        rw [er, ← nI_1] at q
        exact q
    refine hP _ _ _ _ _ ?_
    exact key m 0 (F 1) (by omega) (fun x _ _ => rfl) (fun j hj => absurd hj (Nat.not_lt_zero j)) e
  · have a3 : ¬ F 1 (Int32.toNatClampNeg 4) + nI m ≤ nI 50 := a3
    rw [e4, nI_leI (by omega) (by omega)] at a3
    have c2 : ¬ nat (F 1 4) + nat (nI m) ≤ 50 := by omega
    refine xcall (sp_errM F v (-1000000004) 4 (by decide) (by decide) ?_)
    exact h.err S (if_neg fun z => c2 z.2) ((if_pos a1).trans (if_neg c2))
end
