/-! ===== both readings: the loops of a level ===== -/
def simX (P : List Int32 → Prop) (u : Int32) (y : Nat → Int32) (n : Nat) (A B C : Int32) (i o p : Nat) (c hl : List Int32) (dg : Int32) (r : gVal) : Prop := ∃ (c0 ops : List Int32) (k : Nat) (d : Int32), resL u y n p ((c, hl, nI o), dg, true) = resL u y n r.2.1 ((c ++ c0, List.replicate k 33 ++ (ops ++ hl), nI (o + k)), d, false) ∧ P ops ∧ pushes A B C (c0 ++ List.replicate k 20033 ++ ops.map (fun x => 20000 + x)) r.1 ∧ p + c0.length + k + ops.length ≤ r.2.1 ∧ (isDg (bY y n r.2.1) = false ∨ d = 0 ∨ d = 4) ∧ nextOK i (bY y n r.2.1) ops ∧ r.2.1 ≤ n
def rkA (k : Nat) (ops : List Int32) : Prop := ∀ x, x ∈ ops → nI k ≤ rkV x
theorem simX.mono {P Q : List Int32 → Prop} {u : Int32} {y : Nat → Int32} {n : Nat} {A B C : Int32} {i j o p : Nat} {c hl : List Int32} {dg : Int32} {r : gVal} (S : simX P u y n A B C i o p c hl dg r) (h : ∀ ops, P ops → Q ops) (g : ∀ ops, P ops → nextOK i (bY y n r.2.1) ops → nextOK j (bY y n r.2.1) ops) : simX Q u y n A B C j o p c hl dg r := by
  obtain ⟨c0, ops, k, d, e1, e2, e3, e4, e5, e6, e7⟩ := S
  exact ⟨c0, ops, k, d, e1, h ops e2, e3, e4, e5, g ops e2 e6, e7⟩
theorem simX.le {P : List Int32 → Prop} {u : Int32} {y : Nat → Int32} {n : Nat} {A B C : Int32} {i o p : Nat} {c hl : List Int32} {dg : Int32} {r : gVal} (S : simX P u y n A B C i o p c hl dg r) : r.2.1 ≤ n := by
  obtain ⟨c0, ops, k, d, e1, e2, e3, e4, e5, e6, e7⟩ := S
  exact e7
/-- a sign of the level above i: how the class takes it (releasing ranks from k on) -/
def opStep (i k : Nat) (b : Int32) : Prop := (¬ b = 33 ∧ rkV b = nI (5 - i)) ∧ (¬ 20000 + b < 10000 ∧ ¬ 20000 + b < 20000 ∧ ¬ 20000 + b = 20033 ∧ 20000 + b - 20000 = b) ∧ ∀ (u : Int32) (q : rdT) (dg : Int32) (c' hl' : List Int32) (o' : Int32), rlL (nI k) (cnL q.1 q.2.1 q.2.2).1 (cnL q.1 q.2.1 q.2.2).2.2 (cnL q.1 q.2.1 q.2.2).2.1 = (c', hl', o') → topB (nI (5 - i)) hl' → hl'.length < 50 → rdS u b q dg false = some ((c', b :: hl', o'), 0, true)
def opSpec (i k : Nat) (op : Int32 → Bool) (ap : Int32 → Int32 → Int32 → Int32) : Prop := op (-1) = false ∧ (∀ b ops, nextOK i b ops → op b = false → nextOK (i + 1) b ops) ∧ ∀ b, op b = true → opStep i k b ∧ ∀ v w, wk b v w = ap b v w
/-- one more side -/
theorem sim_iter {u : Int32} {y : Nat → Int32} {n : Nat} {A B C : Int32} (hn : n ≤ 50) {i k o m : Nat} (hi : i ≤ 4) (hk : 1 ≤ k ∧ k ≤ 5 ∧ 5 - i ≤ k) {op : Int32 → Bool} {ap : Int32 → Int32 → Int32 → Int32} (H : opSpec i k op ap) (S : simT u y n A B C m i o) {p : Nat} {c hl : List Int32} {dg : Int32} (l : c.length + hl.length ≤ p) (tb : topB (nI (5 - i)) hl) {P : List Int32 → Prop} (hP : ∀ ops, P ops → rkA k ops) {r : gVal} (M : simX P u y n A B C i o p c hl dg r) (hb : op (bY y n r.2.1) = true) : ((grG u A B C (bY y n) m i o (r.2.1 + 1)).2.2 = true → simX (fun ops => ∃ a b, ops = a ++ [b] ∧ rkA (6 - i) a ∧ rkV b = nI (5 - i)) u y n A B C i o p c hl dg (ap (bY y n r.2.1) r.1 (grG u A B C (bY y n) m i o (r.2.1 + 1)).1, (grG u A B C (bY y n) m i o (r.2.1 + 1)).2)) ∧ ((grG u A B C (bY y n) m i o (r.2.1 + 1)).2.2 = false → resL u y n p ((c, hl, nI o), dg, true) = (none, (grG u A B C (bY y n) m i o (r.2.1 + 1)).2.1)) := by
  obtain ⟨c0, ops, j, d, e1, e2, e3, e4, e5, e6, e7⟩ := M
  have e2 := hP ops e2
  have h1 : ∀ x, x ∈ ops → 1 ≤ rkV x := fun x hx => rk_1 hk.1 (by omega) (e2 x hx)
  obtain ⟨⟨⟨b33, rb⟩, ⟨x1, x2, x3, x4⟩, st⟩, wa⟩ := H.2.2 _ hb
  obtain ⟨qn, eb⟩ := bY_ne (show ¬ bY y n r.2.1 = -1 from fun z => by rw [z, H.1] at hb; exact absurd hb (by decide))
  obtain ⟨b, eB⟩ : ∃ b, b = bY y n r.2.1 := ⟨_, rfl⟩
  rw [← eB] at b33 rb x1 x2 x3 x4 st wa hb eb ⊢
  have tk : topB (nI k) hl := by
    cases hl with
    | nil => trivial
    | cons x z =>
      refine ⟨tb.1, ?_⟩
      have q := tb.2
      rw [xlt, nI_toInt (by omega)] at q ⊢
      omega
  have cn : cnL (c ++ c0) (List.replicate j 33 ++ (ops ++ hl)) (nI (o + j)) = (c ++ c0 ++ List.replicate j 20033, ops ++ hl, nI o) := by
    rw [cnL_bang j _ _ (by rw [List.length_append]; omega), top_ops h1 tk, nI_sub]
  have rl : rlL (nI k) (c ++ c0 ++ List.replicate j 20033) (nI o) (ops ++ hl) = (c ++ c0 ++ List.replicate j 20033 ++ ops.map (fun x => 20000 + x), hl, nI o) := rlL_all e2 (by rw [List.length_append, List.length_append, List.length_replicate]; omega) tk
  have go : rdS u b (c ++ c0, List.replicate j 33 ++ (ops ++ hl), nI (o + j)) d false = some ((c ++ c0 ++ List.replicate j 20033 ++ ops.map (fun x => 20000 + x), b :: hl, nI o), 0, true) := by
    refine st u _ d _ _ _ ?_ tb (by omega)
    show rlL (nI k) (cnL (c ++ c0) (List.replicate j 33 ++ (ops ++ hl)) (nI (o + j))).1 (cnL (c ++ c0) (List.replicate j 33 ++ (ops ++ hl)) (nI (o + j))).2.2 (cnL (c ++ c0) (List.replicate j 33 ++ (ops ++ hl)) (nI (o + j))).2.1 = _
    rw [cn]
    exact rl
  have e0 := e1.trans (resL_go qn (s2 := ((c ++ c0 ++ List.replicate j 20033 ++ ops.map (fun x => 20000 + x), b :: hl, nI o), 0, true)) (by
    show rdS u (y r.2.1) (c ++ c0, List.replicate j 33 ++ (ops ++ hl), nI (o + j)) d false = _
    rw [← eb]
    exact go))
  have X := S (r.2.1 + 1) (c ++ c0 ++ List.replicate j 20033 ++ ops.map (fun x => 20000 + x)) (b :: hl) 0 (by omega) (by rw [List.length_append, List.length_append, List.length_append, List.length_replicate, List.length_map]; show c.length + c0.length + j + ops.length + (hl.length + 1) ≤ r.2.1 + 1; omega) (Or.inr ⟨b33, by rw [rb, nI_ltI (by omega) (by omega)]; omega⟩)
  obtain ⟨r2, er⟩ : ∃ r2, r2 = grG u A B C (bY y n) m i o (r.2.1 + 1) := ⟨_, rfl⟩
  rw [← er] at X ⊢
  refine ⟨fun g => ?_, fun g => e0.trans (X.2 g)⟩
  obtain ⟨c1, ops1, j1, d1, f1, f2, f3, f4, f5, f6, f7⟩ := X.1 g
  refine ⟨c0 ++ List.replicate j 20033 ++ ops.map (fun x => 20000 + x) ++ c1, ops1 ++ [b], j1, d1, ?_, ⟨ops1, b, rfl, f2, rb⟩, ?_, ?_, f5, ?_, f7⟩
  · rw [e0, f1]
    have q1 : c ++ c0 ++ List.replicate j 20033 ++ ops.map (fun x => 20000 + x) ++ c1 = c ++ (c0 ++ List.replicate j 20033 ++ ops.map (fun x => 20000 + x) ++ c1) := by simp only [List.append_assoc]
    have q2 : ops1 ++ b :: hl = ops1 ++ [b] ++ hl := by rw [List.append_assoc]; rfl
    rw [q1, q2]
  · have q := push_bin e3 f3 x1 x2 x3 x4
    rw [wa] at q
    have q1 : c0 ++ List.replicate j 20033 ++ ops.map (fun x => 20000 + x) ++ (c1 ++ List.replicate j1 20033 ++ ops1.map (fun x => 20000 + x)) ++ [20000 + b] = c0 ++ List.replicate j 20033 ++ ops.map (fun x => 20000 + x) ++ c1 ++ List.replicate j1 20033 ++ (ops1 ++ [b]).map (fun x => 20000 + x) := by
      rw [List.map_append]
      simp only [List.append_assoc, List.map_cons, List.map_nil]
    rw [q1] at q
    exact q
  · simp only [List.length_append, List.length_replicate, List.length_map, List.length_cons, List.length_nil]
    omega
  · exact ⟨f6.1, f6.2.1, fun z1 z2 => (f6.2.2.1 z1 z2).app [b], f6.2.2.2⟩
theorem rkA_last {i : Nat} (hi : i ≤ 4) (ops : List Int32) (h : ∃ a b, ops = a ++ [b] ∧ rkA (6 - i) a ∧ rkV b = nI (5 - i)) : rkA (5 - i) ops := by
  obtain ⟨a, b, e, h1, h2⟩ := h
  subst e
  intro x hx
  rcases List.mem_append.mp hx with z | z
  · exact rk_dn hi (h1 x z)
  · rw [List.mem_singleton] at z
    rw [z, h2]
    exact nI_le (Nat.le_refl _) (by omega)
theorem sim_lp {u : Int32} {y : Nat → Int32} {n : Nat} {A B C : Int32} (hn : n ≤ 50) {i o m : Nat} (hi : i ≤ 4) {op : Int32 → Bool} {ap : Int32 → Int32 → Int32 → Int32} (H : opSpec i (5 - i) op ap) (S : simT u y n A B C m i o) {p : Nat} {c hl : List Int32} {dg : Int32} (l : c.length + hl.length ≤ p) (tb : topB (nI (5 - i)) hl) : ∀ (f : Nat) (r : gVal), 50 ≤ f + r.2.1 → (r.2.2 = true → simX (rkA (5 - i)) u y n A B C i o p c hl dg r) → (r.2.2 = false → resL u y n p ((c, hl, nI o), dg, true) = (none, r.2.1)) → ((lpG op ap (bY y n) (grG u A B C (bY y n) m i o) f r).2.2 = true → simX (rkA (5 - i)) u y n A B C (i + 1) o p c hl dg (lpG op ap (bY y n) (grG u A B C (bY y n) m i o) f r)) ∧ ((lpG op ap (bY y n) (grG u A B C (bY y n) m i o) f r).2.2 = false → resL u y n p ((c, hl, nI o), dg, true) = (none, (lpG op ap (bY y n) (grG u A B C (bY y n) m i o) f r).2.1)) := by
  intro f
  induction f with
  | zero =>
    intro r h50 h1 h2
    refine ⟨fun g => ?_, fun g => h2 g⟩
    have M := h1 g
    have le := M.le
    refine M.mono (fun _ z => z) (fun ops _ z => H.2.1 _ _ z ?_)
    have e : bY y n r.2.1 = -1 := if_neg (by omega)
    rw [e]
    exact H.1
  | succ f ih =>
    intro r h50 h1 h2
    have e : lpG op ap (bY y n) (grG u A B C (bY y n) m i o) (f + 1) r = if r.2.2 && op (bY y n r.2.1) then lpG op ap (bY y n) (grG u A B C (bY y n) m i o) f (ap (bY y n r.2.1) r.1 (grG u A B C (bY y n) m i o (r.2.1 + 1)).1, (grG u A B C (bY y n) m i o (r.2.1 + 1)).2) else r := rfl
    cases g : r.2.2 with
    | false =>
      rw [g] at e
      have e : lpG op ap (bY y n) (grG u A B C (bY y n) m i o) (f + 1) r = r := e.trans (if_neg (by rw [Bool.false_and]; decide))
      rw [e]
      exact ⟨fun z => by rw [g] at z; exact absurd z (by decide), h2⟩
    | true =>
      rw [g, Bool.true_and] at e
      cases ob : op (bY y n r.2.1) with
      | false =>
        rw [ob] at e
        have e : lpG op ap (bY y n) (grG u A B C (bY y n) m i o) (f + 1) r = r := e.trans (if_neg (by decide))
        rw [e]
        exact ⟨fun z => (h1 z).mono (fun _ z => z) (fun ops _ z => H.2.1 _ _ z ob), h2⟩
      | true =>
        rw [ob, if_pos rfl] at e
        rw [e]
        have X := sim_iter hn hi (k := 5 - i) ⟨by omega, by omega, Nat.le_refl _⟩ H S l tb (fun _ z => z) (h1 g) ob
        have mo := grG_mono (u := u) (A := A) (B := B) (C := C) (bt := bY y n) m i o (r.2.1 + 1)
        refine ih _ ?_ (fun z => (X.1 z).mono (rkA_last hi) (fun _ _ z => z)) X.2
        show 50 ≤ f + (grG u A B C (bY y n) m i o (r.2.1 + 1)).2.1
        omega
theorem opMul_sp : opSpec 0 5 opMul apMul := by
  refine ⟨by decide, fun b ops h e => ⟨fun _ => e, fun h => absurd h (by decide), fun h => absurd h (by decide), fun h => absurd h (by decide), fun h => absurd h (by decide)⟩, fun b hb => ?_⟩
  have hb : b = 42 ∨ b = 47 ∨ b = 37 := by
    simp only [opMul, Bool.or_eq_true, beq_iff_eq] at hb
    exact or_assoc.mp hb
  rcases hb with e | e | e
  all_goals subst e
  all_goals exact ⟨⟨⟨by decide, by decide⟩, ⟨by decide, by decide, by decide, by decide⟩, fun u q dg c' hl' o' e t l => rdS_op (by decide) (by decide) (by decide) (by decide) (by decide) e l⟩, fun v w => rfl⟩
theorem opAdd_sp : opSpec 1 4 opAdd apAdd := by
  refine ⟨by decide, fun b ops h e => ⟨fun _ => h.1 (by decide), fun _ => e, fun h => absurd h (by decide), fun h => absurd h (by decide), fun h => absurd h (by decide)⟩, fun b hb => ?_⟩
  have hb : b = 43 ∨ b = 45 := by
    simp only [opAdd, Bool.or_eq_true, beq_iff_eq] at hb
    exact hb
  rcases hb with e | e
  all_goals subst e
  all_goals exact ⟨⟨⟨by decide, by decide⟩, ⟨by decide, by decide, by decide, by decide⟩, fun u q dg c' hl' o' e t l => rdS_op (by decide) (by decide) (by decide) (by decide) (by decide) e l⟩, fun v w => rfl⟩
theorem wk_60 (v w : Int32) : wk 60 v w = apCmp 60 v w := (show wk 60 v w = (if w ≤ v then 0 else 1) from (if_neg (by decide)).trans ((if_neg (by decide)).trans ((if_neg (by decide)).trans ((if_neg (by decide)).trans ((if_neg (by decide)).trans (if_pos rfl)))))).trans (show apCmp 60 v w = (if w ≤ v then 0 else 1) from if_pos rfl).symm
theorem wk_61 (v w : Int32) : wk 61 v w = apCmp 61 v w := (show wk 61 v w = (if v = w then 1 else 0) from (if_neg (by decide)).trans ((if_neg (by decide)).trans ((if_neg (by decide)).trans ((if_neg (by decide)).trans ((if_neg (by decide)).trans ((if_neg (by decide)).trans (if_pos rfl))))))).trans (show apCmp 61 v w = (if v = w then 1 else 0) from (if_neg (by decide)).trans (if_pos rfl)).symm
theorem wk_62 (v w : Int32) : wk 62 v w = apCmp 62 v w := (show wk 62 v w = (if v ≤ w then 0 else 1) from (if_neg (by decide)).trans ((if_neg (by decide)).trans ((if_neg (by decide)).trans ((if_neg (by decide)).trans ((if_neg (by decide)).trans ((if_neg (by decide)).trans ((if_neg (by decide)).trans (if_pos rfl)))))))).trans (show apCmp 62 v w = (if v ≤ w then 0 else 1) from (if_neg (by decide)).trans (if_neg (by decide))).symm
theorem opCmp_sp : opSpec 2 4 opCmp apCmp := by
  refine ⟨by decide, fun b ops h e => ⟨fun _ => h.1 (by decide), fun _ => h.2.1 (by decide), fun _ z => absurd z (by rw [e]; decide), fun h => absurd h (by decide), fun h => absurd h (by decide)⟩, fun b hb => ?_⟩
  have hb : b = 60 ∨ b = 61 ∨ b = 62 := by
    simp only [opCmp, Bool.or_eq_true, beq_iff_eq] at hb
    exact or_assoc.mp hb
  rcases hb with e | e | e
  all_goals subst e
  · exact ⟨⟨⟨by decide, by decide⟩, ⟨by decide, by decide, by decide, by decide⟩, fun u q dg c' hl' o' e t l => rdS_cmp (by decide) (by decide) (by decide) e t l⟩, wk_60⟩
  · exact ⟨⟨⟨by decide, by decide⟩, ⟨by decide, by decide, by decide, by decide⟩, fun u q dg c' hl' o' e t l => rdS_cmp (by decide) (by decide) (by decide) e t l⟩, wk_61⟩
  · exact ⟨⟨⟨by decide, by decide⟩, ⟨by decide, by decide, by decide, by decide⟩, fun u q dg c' hl' o' e t l => rdS_cmp (by decide) (by decide) (by decide) e t l⟩, wk_62⟩
theorem opAnd_sp : opSpec 3 2 opAnd apAnd := by
  refine ⟨by decide, fun b ops h e => ⟨fun _ => h.1 (by decide), fun _ => h.2.1 (by decide), fun _ => h.2.2.1 (by decide), fun _ => e, fun h => absurd h (by decide)⟩, fun b hb => ?_⟩
  have hb : b = 38 := by
    simp only [opAnd, beq_iff_eq] at hb
    exact hb
  subst hb
  exact ⟨⟨⟨by decide, by decide⟩, ⟨by decide, by decide, by decide, by decide⟩, fun u q dg c' hl' o' e t l => rdS_op (by decide) (by decide) (by decide) (by decide) (by decide) e l⟩, fun v w => rfl⟩
theorem opOr_sp : opSpec 4 1 opOr apOr := by
  refine ⟨by decide, fun b ops h e => ⟨fun _ => h.1 (by decide), fun _ => h.2.1 (by decide), fun _ => h.2.2.1 (by decide), fun _ => h.2.2.2.1 (by decide), fun _ => e⟩, fun b hb => ?_⟩
  have hb : b = 124 := by
    simp only [opOr, beq_iff_eq] at hb
    exact hb
  subst hb
  exact ⟨⟨⟨by decide, by decide⟩, ⟨by decide, by decide, by decide, by decide⟩, fun u q dg c' hl' o' e t l => rdS_op (by decide) (by decide) (by decide) (by decide) (by decide) e l⟩, fun v w => rfl⟩
