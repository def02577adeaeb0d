/-! ===== conditions of small methods ===== -/
theorem xM_go {n : Nat} {prog : List xEl} {av : List Value} {w : xW} {K : xKo} (hs : Nat.ble (lg_sl av).length n = true) (m : Nat) (cuts : List (Nat × List Nat)) (h : ∀ P : Nat → xL → List Value → xW → xB → Prop, (∀ pc ls st w b, xWP prog K pc ls st w b → P pc ls st w b) → xrun prog cuts P K m (xseek prog 0) (lv_args 0 av) [] w (0, 0)) : xM n prog av w K := by
  unfold xM
  rw [hs]
  exact fun P hP => hP m cuts 0 (lv_args 0 av) [] w (0, 0) (h P fun pc ls st w b hw => hw P hP)
theorem xWP_go {prog : List xEl} {K : xKo} {pc : Nat} {ls : xL} {st : List Value} {w : xW} {b : xB} (m : Nat) (cuts : List (Nat × List Nat)) (h : ∀ P : Nat → xL → List Value → xW → xB → Prop, (∀ pc ls st w b, xWP prog K pc ls st w b → P pc ls st w b) → xrun prog cuts P K m (xseek prog pc) ls st w b) : xWP prog K pc ls st w b :=
  fun P hP => hP m cuts pc ls st w b (h P fun pc ls st w b hw => hw P hP)
theorem xcall {C : xPT} {av : List Value} {w : xW} {k : xKo} (h : C av w k) : ∀ X : xPT, X = C → X av w k := fun _ e => by subst e; exact h
/-- worlds of a shape: the arrays' contents and the ints of the objects by the cells' places -/
def xfillF (v : Nat → Int32) : Nat → List Value → List Value
  | _, [] => []
  | j, x :: r => (match x with | .int _ => .int (v j) | y => y) :: xfillF v (j + 1) r
def xfill (F : Nat → Nat → Int32) (v : Nat → Nat → Int32) : Nat → xW → xW
  | _, [] => []
  | k, c :: r => (match c with
    | .inl (n, _) => .inl (n, F k)
    | .inr (.inl q) => .inr (.inl q)
    | .inr (.inr (ci, fs)) => .inr (.inr (ci, xfillF (v k) 0 fs))) :: xfill F v (k + 1) r
def xsamF : List Value → List Value → Bool
  | [], [] => true
  | .int _ :: r, .int _ :: r' => xsamF r r'
  | .ref a :: r, .ref b :: r' => Nat.beq a b && xsamF r r'
  | _, _ => false
def xsamQ : List (Option Nat) → List (Option Nat) → Bool
  | [], [] => true
  | some a :: r, some b :: r' => Nat.beq a b && xsamQ r r'
  | _, _ => false
def xsame : xW → xW → Bool
  | [], [] => true
  | .inl (n, _) :: r, .inl (n', _) :: r' => Nat.beq n n' && xsame r r'
  | .inr (.inl (t, xs)) :: r, .inr (.inl (t', xs')) :: r' => Nat.beq t t' && (xsamQ xs xs' && xsame r r')
  | .inr (.inr (ci, fs)) :: r, .inr (.inr (ci', fs')) :: r' => Nat.beq ci ci' && (xsamF fs fs' && xsame r r')
  | _, _ => false
theorem xfillF_up {v : Nat → Int32} {x : Int32} : ∀ {fs : List Value} {j : Nat}, xfillF (va_up v 0 x) (j + 1) fs = xfillF v (j + 1) fs := by
  intro fs
  induction fs with
  | nil => intro j; rfl
  | cons a r ih =>
    intro j
    unfold xfillF
    rw [ih]
    cases a <;> rfl
def xvals : List Value → Nat → Int32
  | [], _ => 0
  | .int n :: _, 0 => n
  | _ :: _, 0 => 0
  | _ :: r, j + 1 => xvals r j
theorem xfillF_sh {v : Nat → Int32} : ∀ {fs : List Value} {j : Nat}, xfillF v (j + 1) fs = xfillF (fun i => v (i + 1)) j fs
  | [], j => rfl
  | a :: r, j => by
    unfold xfillF
    rw [xfillF_sh (fs := r) (j := j + 1)]
theorem xsamF_fill : ∀ {fs fs' : List Value}, xsamF fs fs' = true → fs' = xfillF (xvals fs') 0 fs
  | [], [], _ => rfl
  | .int a :: r, .int b :: r', h => by
    have h : xsamF r r' = true := h
    have := xsamF_fill h
    unfold xfillF
    rw [xfillF_sh]
    show Value.int b :: r' = Value.int b :: xfillF (xvals r') 0 r
    rw [← this]
  | .ref a :: r, .ref b :: r', h => by
    unfold xsamF at h
    rw [Bool.and_eq_true] at h
    have e := xbeq h.1
    subst e
    have := xsamF_fill h.2
    unfold xfillF
    rw [xfillF_sh]
    show Value.ref a :: r' = Value.ref a :: xfillF (xvals r') 0 r
    rw [← this]
theorem xsamQ_eq : ∀ {xs xs' : List (Option Nat)}, xsamQ xs xs' = true → xs' = xs
  | [], [], _ => rfl
  | some a :: r, some b :: r', h => by
    unfold xsamQ at h
    rw [Bool.and_eq_true] at h
    rw [xbeq h.1, xsamQ_eq h.2]
def xarrs : xW → Nat → Nat → Int32
  | [], _ => fun _ => 0
  | c :: _, 0 => match c with
    | .inl (_, f) => f
    | _ => fun _ => 0
  | _ :: r, k + 1 => xarrs r k
def xobjs : xW → Nat → Nat → Int32
  | [], _ => fun _ => 0
  | c :: _, 0 => match c with
    | .inr (.inr (_, fs)) => xvals fs
    | _ => fun _ => 0
  | _ :: r, k + 1 => xobjs r k
theorem xfill_sh {F : Nat → Nat → Int32} {v : Nat → Nat → Int32} : ∀ {w : xW} {k : Nat}, xfill F v (k + 1) w = xfill (fun i => F (i + 1)) (fun i => v (i + 1)) k w
  | [], k => rfl
  | c :: r, k => by
    unfold xfill
    rw [xfill_sh (w := r) (k := k + 1)]
theorem xsame_fill : ∀ {w w' : xW}, xsame w w' = true → w' = xfill (xarrs w') (xobjs w') 0 w
  | [], [], _ => rfl
  | .inl (n, f) :: r, .inl (n', f') :: r', h => by
    unfold xsame at h
    rw [Bool.and_eq_true] at h
    have e := xbeq h.1
    subst e
    have := xsame_fill h.2
    unfold xfill
    rw [xfill_sh]
    show Sum.inl (n, f') :: r' = Sum.inl (n, f') :: xfill (xarrs r') (xobjs r') 0 r
    rw [← this]
  | .inr (.inl (t, xs)) :: r, .inr (.inl (t', xs')) :: r', h => by
    unfold xsame at h
    rw [Bool.and_eq_true, Bool.and_eq_true] at h
    have e := xbeq h.1
    have e2 := xsamQ_eq h.2.1
    subst e
    subst e2
    have := xsame_fill h.2.2
    unfold xfill
    rw [xfill_sh]
    show _ = _ :: xfill (xarrs r') (xobjs r') 0 r
    rw [← this]
  | .inr (.inr (ci, fs)) :: r, .inr (.inr (ci', fs')) :: r', h => by
    unfold xsame at h
    rw [Bool.and_eq_true, Bool.and_eq_true] at h
    have e := xbeq h.1
    subst e
    have e2 := xsamF_fill h.2.1
    have := xsame_fill h.2.2
    unfold xfill
    rw [xfill_sh]
    show Sum.inr (Sum.inr (ci, fs')) :: r' = Sum.inr (Sum.inr (ci, xfillF (xvals fs') 0 fs)) :: xfill (xarrs r') (xobjs r') 0 r
    rw [← this, ← e2]
-- shapes
def wT0 (b : Nat) : xW := [.inr (.inr (4, [.ref (b + 1), .ref (b + 2), .int 0, .ref (b + 3), .ref (b + 4), .ref (b + 5), .ref (b + 6), .ref (b + 7), .int 0, .int (-1), .int 0, .int 1, .ref (b + 8), .ref (b + 15), .int 0, .ref (b + 16), .int 0, .ref (b + 17)])),
  .inl (8, fun _ => 0), .inl (8, fun _ => 0), .inl (7, fun _ => 0), .inl (7, fun _ => 0), .inl (7, fun _ => 0), .inl (7, fun _ => 0), .inl (7, fun _ => 0), .inr (.inl (0, [some (b + 9), some (b + 12)])),
  .inr (.inr (0, [.ref (b + 10), .int 0, .ref (b + 11), .int 0])), .inl (50, fun _ => 0), .inl (50, fun _ => 0), .inr (.inr (0, [.ref (b + 13), .int 0, .ref (b + 14), .int 0])), .inl (50, fun _ => 0), .inl (50, fun _ => 0), .inl (50, fun _ => 0), .inl (20, fun _ => 0), .inl (7, fun _ => 0)]
def wS0 (b : Nat) : xW := [.inr (.inr (2, [.ref (b + 1), .int 0, .int 0])), .inl (40, fun _ => 0)]
def wR0 (b : Nat) : xW := [.inr (.inr (1, [.ref (b + 1), .int 0, .ref (b + 2), .int 0, .int 0, .int 0, .int 0])), .inl (50, fun _ => 0), .inl (50, fun _ => 0)]
def wP0 (b : Nat) : xW := [.inr (.inr (3, [.ref (b + 1), .int 0, .int 0, .int 0, .int 0])), .inl (40, fun _ => 0)]
def wL0 (b : Nat) : xW := [.inr (.inr (0, [.ref (b + 1), .int 0, .ref (b + 2), .int 0])), .inl (50, fun _ => 0), .inl (50, fun _ => 0)]
def wH0 : xW := (.inr (.inr (5, [.ref 1, .ref 19, .ref 37, .ref 55, .ref 58, .ref 60, .ref 69, .int 0])) : xC) :: (wT0 1 ++ (wT0 19 ++ (wT0 37 ++ (wR0 55 ++ (wP0 58 ++ ((.inr (.inl (1, [some 61, some 63, some 65, some 67])) : xC) :: (wS0 61 ++ (wS0 63 ++ (wS0 65 ++ (wS0 67 ++ [.inl (6, fun _ => 0)]))))))))))
/-- the reference's row at first -/
def xrow0 : Nat → Int32 := fun j => match j with
  | 1 => 1
  | 6 => -1
  | 7 => -1
  | 8 => -1
  | _ => 0
def wM0 (b : Nat) : xW := [.inr (.inr (6, [.ref (b + 1), .ref (b + 2), .ref (b + 3), .ref (b + 4), .int 0, .int 0, .ref (b + 5), .int 0, .int 0, .int 0, .int 0, .int 0, .int 0, .int 0, .int 0, .int 0, .ref (b + 6), .ref (b + 7), .ref (b + 8), .ref (b + 9), .ref (b + 10), .int 0, .int 0, .int 0, .int 0])),
  .inl (230, xrow0), .inl (230, fun _ => 0), .inl (230, fun _ => 0), .inl (230, fun _ => 0), .inl (6, fun _ => 0), .inl (4, fun _ => 0), .inl (4, fun _ => 0), .inl (160, fun _ => 0), .inl (40, fun _ => 0), .inl (40, fun _ => 0)]
-- numbers
abbrev xin (v : Int32) (n : Int) : Prop := 0 ≤ v.toInt ∧ v.toInt < n
theorem xlt {a b : Int32} : a < b ↔ a.toInt < b.toInt := Int32.lt_iff_toInt_lt
theorem xle {a b : Int32} : a ≤ b ↔ a.toInt ≤ b.toInt := Int32.le_iff_toInt_le
theorem xeq {a b : Int32} : a = b ↔ a.toInt = b.toInt := Int32.toInt_inj.symm
theorem sp_isBelow (v e : Int32) {K : xKo} (h0 : ¬ xin v e.toInt → K (some (.int 0)) []) (h1 : xin v e.toInt → K (some (.int 1)) []) : C_H_isBelow [.int v, .int e] [] K := by
  refine xM_go rfl 40 [] fun P hP => ?_
  refine br_c (fun a => ?_) (fun a => ?_)
  · exact ⟨Or.inl rfl, h0 fun z => by simp only [xin, xlt, Int32.reduceToInt] at a z; omega⟩
  refine br_c (fun a2 => ?_) (fun a2 => ?_)
  · exact ⟨Or.inl rfl, h0 fun z => by simp only [xin, xle] at a2 z; omega⟩
  · exact ⟨Or.inr rfl, h1 (by simp only [xin, xlt, xle, Int32.reduceToInt] at a a2 ⊢; omega)⟩
theorem sp_isSteps (v : Int32) {K : xKo} (h0 : ¬ xin v 10 → K (some (.int 0)) []) (h1 : xin v 10 → K (some (.int 1)) []) : C_H_isSteps [.int v] [] K := by
  refine xM_go rfl 40 [] fun P hP => ?_
  refine xcall ?_
  refine sp_isBelow v 10 (fun a => ?_) (fun a => ?_)
  · exact ⟨Or.inl rfl, h0 a⟩
  · exact ⟨Or.inr rfl, h1 a⟩
theorem sp_in (v l m : Int32) {K : xKo} (h0 : ¬ (l.toInt ≤ v.toInt ∧ v.toInt ≤ m.toInt) → K (some (.int 0)) []) (h1 : l.toInt ≤ v.toInt ∧ v.toInt ≤ m.toInt → K (some (.int 1)) []) : C_M_in [.int v, .int l, .int m] [] K := by
  refine xM_go rfl 40 [] fun P hP => ?_
  refine br_c (fun a => ?_) (fun a => ?_)
  · exact ⟨Or.inl rfl, h0 fun z => by simp only [xlt] at a; omega⟩
  refine br_c (fun a2 => ?_) (fun a2 => ?_)
  · exact ⟨Or.inl rfl, h0 fun z => by simp only [xlt] at a2; omega⟩
  · exact ⟨Or.inr rfl, h1 (by simp only [xlt] at a a2; omega)⟩
theorem sp_isCell (v : Int32) {K : xKo} (h0 : ¬ xin v 12 → K (some (.int 0)) []) (h1 : xin v 12 → K (some (.int 1)) []) : C_M_isCell [.int v] [] K := by
  refine xM_go rfl 40 [] fun P hP => ?_
  refine xcall ?_
  refine sp_in v 0 11 (fun a => ?_) (fun a => ?_)
  · exact ⟨Or.inl rfl, h0 (by simp only [xin, Int32.reduceToInt] at a ⊢; omega)⟩
  · exact ⟨Or.inr rfl, h1 (by simp only [xin, Int32.reduceToInt] at a ⊢; omega)⟩
-- the constructors
theorem sp_L_init (f : Int32) (g : Int32) (K : xKo) (h : K none (wL0 0)) : C_L_init [.ref 0] [.inr (.inr (0, [.null, .int 0, .null, .int 0]))] K := by
  refine xM_go rfl 40 [] fun P hP => ?_
  refine ⟨rfl, ?_⟩
  refine ⟨rfl, ?_⟩
  exact h
