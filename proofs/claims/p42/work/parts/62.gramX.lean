section
/-! ===== the reference: what a text gives, exactly ===== -/
/-- a value, where the reader stands, whether it is good so far -/
abbrev gVal : Type := Int32 × Nat × Bool
def isDg (c : Int32) : Bool := decide (48 ≤ c.toInt ∧ c.toInt ≤ 57)
def numL (bt : Nat → Int32) : Nat → Int32 → Nat → Int32 × Nat
  | 0, x, p => (x, p)
  | d + 1, x, p => if isDg (bt p) then numL bt d (10 * x + bt p - 48) (p + 1) else (x, p)
def nmC (u : Int32) (i : Nat) : Int32 := if u = 0 then (if i = 0 then 100 else if i = 1 then 98 else 109) else (if i = 0 then 110 else if i = 1 then 120 else 98)
theorem nmC0 {u : Int32} (h : u = 0) : nmC u 0 = 100 ∧ nmC u 1 = 98 ∧ nmC u 2 = 109 := by subst h; decide
theorem nmC1 {u : Int32} (h : ¬ u = 0) : nmC u 0 = 110 ∧ nmC u 1 = 120 ∧ nmC u 2 = 98 := by
  unfold nmC
  rw [if_neg h, if_neg h, if_neg h]
  decide
def nmG (u A B C c : Int32) (p : Nat) : gVal := if c = nmC u 0 then (A, p + 1, true) else if c = nmC u 1 then (B, p + 1, true) else if c = nmC u 2 then (C, p + 1, true) else (0, p, false)
def lpG (op : Int32 → Bool) (app : Int32 → Int32 → Int32 → Int32) (bt : Nat → Int32) (f : Nat → gVal) : Nat → gVal → gVal
  | 0, r => r
  | m + 1, r => if r.2.2 && op (bt r.2.1) then lpG op app bt f m (app (bt r.2.1) r.1 (f (r.2.1 + 1)).1, (f (r.2.1 + 1)).2) else r
def opMul (c : Int32) : Bool := c == 42 || c == 47 || c == 37
def apMul (c l r : Int32) : Int32 := if c = 42 then l * r else if r = 0 then 0 else if c = 47 then l / r else l - l / r * r
def opAdd (c : Int32) : Bool := c == 43 || c == 45
def apAdd (c l r : Int32) : Int32 := if c = 43 then l + r else l - r
def opCmp (c : Int32) : Bool := c == 60 || c == 61 || c == 62
def apCmp (c l r : Int32) : Int32 := if c = 60 then (if r ≤ l then 0 else 1) else if c = 61 then (if l = r then 1 else 0) else (if l ≤ r then 0 else 1)
def opAnd (c : Int32) : Bool := c == 38
def apAnd (_ l r : Int32) : Int32 := if l = 0 then 0 else if r = 0 then 0 else 1
def opOr (c : Int32) : Bool := c == 124
def apOr (_ l r : Int32) : Int32 := if l = 0 then (if r = 0 then 0 else 1) else 1
def facG (u A B C : Int32) (bt : Nat → Int32) (f w : Nat → gVal) (o p : Nat) : gVal :=
  if isDg (bt p) then ((numL bt 4 0 p).1, (numL bt 4 0 p).2, true)
  else if bt p = 33 ∨ bt p = 40 then
    if o = 5 then (0, p, false)
    else if bt p = 33 then (if (f (p + 1)).1 = 0 then 1 else 0, (f (p + 1)).2)
    else if (w (p + 1)).2.2 && bt (w (p + 1)).2.1 == 41 then ((w (p + 1)).1, (w (p + 1)).2.1 + 1, true)
    else (0, (w (p + 1)).2.1, false)
  else nmG u A B C (bt p) p
def grG (u A B C : Int32) (bt : Nat → Int32) : Nat → Nat → Nat → Nat → gVal
  | 0, _, _, p => (0, p, false)
  | n + 1, 0, o, p => facG u A B C bt (grG u A B C bt n 0 (o + 1)) (grG u A B C bt n 5 (o + 1)) o p
  | n + 1, 1, o, p => lpG opMul apMul bt (grG u A B C bt n 0 o) 50 (grG u A B C bt n 0 o p)
  | n + 1, 2, o, p => lpG opAdd apAdd bt (grG u A B C bt n 1 o) 50 (grG u A B C bt n 1 o p)
  | n + 1, 3, o, p => if (grG u A B C bt n 2 o p).2.2 && opCmp (bt (grG u A B C bt n 2 o p).2.1) then (apCmp (bt (grG u A B C bt n 2 o p).2.1) (grG u A B C bt n 2 o p).1 (grG u A B C bt n 2 o ((grG u A B C bt n 2 o p).2.1 + 1)).1, (grG u A B C bt n 2 o ((grG u A B C bt n 2 o p).2.1 + 1)).2) else grG u A B C bt n 2 o p
  | n + 1, 4, o, p => lpG opAnd apAnd bt (grG u A B C bt n 3 o) 50 (grG u A B C bt n 3 o p)
  | n + 1, _, o, p => lpG opOr apOr bt (grG u A B C bt n 4 o) 50 (grG u A B C bt n 4 o p)
def b2i (g : Bool) : Int32 := if g then 1 else 0
/-- the byte at a place of the text that is read -/
def btM (F v : xS) (k : Nat) : Int32 := if (k : Int) < (v 0 9).toInt then F 1 (nat (130 + 50 * v 0 7 + nI k)) else -1
/-- fields behind a reading -/
def gX (v v' : xS) (q : Nat) (g : Bool) : Prop := (∀ j, ¬ j = 8 → ¬ j = 14 → v' 0 j = v 0 j) ∧ v' 0 8 = nI q ∧ v' 0 14 = b2i g ∧ q ≤ 50
theorem gX.tr {v v' v2 : xS} {q p : Nat} {g d : Bool} (h : gX v v' q g) (k : gX v' v2 p d) : gX v v2 p d := ⟨fun j a b => (k.1 j a b).trans (h.1 j a b), k.2⟩
theorem gX.I {v v' : xS} {q : Nat} {g : Bool} (I : gI v) (h : gX v v' q g) : gI v' := ⟨by rw [h.1 7 (by decide) (by decide)]; exact I.1, ⟨q, h.2.2.2, h.2.1⟩, by rw [h.1 9 (by decide) (by decide)]; exact I.2.2⟩
theorem gX.bt {F v v' : xS} {q : Nat} {g : Bool} (h : gX v v' q g) : btM F v' = btM F v := by
  funext k
  unfold btM
  rw [h.1 7 (by decide) (by decide), h.1 9 (by decide) (by decide)]
theorem gX.n {v v' : xS} {q : Nat} {g : Bool} (h : gX v v' q g) : nat (v' 0 8) = q := by rw [h.2.1]; exact nI_clamp (by have := h.2.2.2; omega)
theorem gX.adv {v v' : xS} {q : Nat} {g : Bool} (h : gX v v' q g) (l : q < 50) : gX v (A1 v') (q + 1) g := by
  refine ⟨fun j n8 n14 => ?_, ?_, ?_, by omega⟩
  · exact (show va_up (v' 0) 8 (v' 0 8 + 1) j = v' 0 j from if_neg n8).trans (h.1 j n8 n14)
  · show v' 0 8 + 1 = nI (q + 1)
    rw [h.2.1, nI_1]
  · exact h.2.2.1
theorem gX.off {v v' : xS} {q : Nat} {g : Bool} (h : gX v v' q g) : gX v (A0 v') q false := ⟨fun j n8 n14 => (show va_up (v' 0) 14 0 j = v' 0 j from if_neg n14).trans (h.1 j n8 n14), h.2.1, rfl, h.2.2.2⟩
theorem btM_in {F v : xS} {k : Nat} (I : gI v) (h : ¬ btM F v k = -1) : k < 50 := by
  unfold btM at h
  by_cases c : (k : Int) < (v 0 9).toInt
  · have := I.2.2; omega
  · rw [if_neg c] at h; exact absurd rfl h
theorem sp_byteAt (F v : xS) (q : Nat) (I : gI v) (hq : q ≤ 50) (k : Int32) (ek : k = nI q) {K : xKo} (h : K (some (.int (btM F v q))) (xfill F v 0 (wM0 0))) : C_M_byteAt [.ref 0, .int k] (xfill F v 0 (wM0 0)) K := by
  subst ek
  have eq : (nI q).toInt = q := nI_toInt (by omega)
  have I3 := I.2.2
  unfold btM at h
  refine xM_go rfl 100 [] fun P hP => ?_
  refine br_c (fun a => ?_) (fun a => ?_)
  · have a : v 0 9 ≤ nI q := a
    rw [xle, eq] at a
    rw [if_neg (by omega)] at h
    exact h
  · have a : ¬ v 0 9 ≤ nI q := a
    rw [xle, eq] at a
    have b : vp_in (130 + 50 * v 0 7 + nI q) 230 := by
      have hq : q < 50 := by omega
      rcases I.1 with e | e
      · rw [e, show (130 : Int32) + 50 * 0 = nI 130 by decide, nI_add]
        exact vp_in_nI (by omega) (by omega)
      · rw [e, show (130 : Int32) + 50 * 1 = nI 180 by decide, nI_add]
        exact vp_in_nI (by omega) (by omega)
    rw [if_pos (by omega)] at h
    refine ⟨b, ?_⟩
    exact h
theorem sp_isDigit (c : Int32) {K : xKo} (h0 : isDg c = false → K (some (.int 0)) []) (h1 : isDg c = true → K (some (.int 1)) []) : C_M_isDigit [.int c] [] K := by
  refine xM_go rfl 100 [] fun P hP => ?_
  refine xcall (sp_in _ _ _ (fun a => ?_) (fun a => ?_))
  · have a : ¬ ((48 : Int32).toInt ≤ c.toInt ∧ c.toInt ≤ (57 : Int32).toInt) := a
    rw [show (48 : Int32).toInt = 48 by decide, show (57 : Int32).toInt = 57 by decide] at a
    exact ⟨Or.inl rfl, h0 (decide_eq_false a)⟩
  · have a : (48 : Int32).toInt ≤ c.toInt ∧ c.toInt ≤ (57 : Int32).toInt := a
    rw [show (48 : Int32).toInt = 48 by decide, show (57 : Int32).toInt = 57 by decide] at a
    exact ⟨Or.inr rfl, h1 (decide_eq_true a)⟩
theorem dg_ne {c : Int32} (h : isDg c = true) : ¬ c = -1 := fun e => by rw [e] at h; exact absurd h (by decide)
set_option maxRecDepth 100000 in
theorem sp_number (F v : xS) (I : gI v) (v0 : xS) (p : Nat) (R : gX v0 v p true) {K : xKo} (h : ∀ v', gX v0 v' (numL (btM F v) 4 0 p).2 true → K (some (.int (numL (btM F v) 4 0 p).1)) (xfill F v' 0 (wM0 0))) : C_M_number [.ref 0] (xfill F v 0 (wM0 0)) K := by
  have key : ∀ (d i : Nat) (x : Int32) (q : Nat) (v' : xS), i + d = 4 → gX v v' q true → gX v0 v' q true → numL (btM F v) d x q = numL (btM F v) 4 0 p → xWP pg_M_number K 4 [(0, .ref 0), (1, .int x), (2, .int (nI i))] [] (xfill F v' 0 (wM0 0)) (0, 0) := by
    intro d
    induction d with
    | zero =>
      intro i x q v' hi R1 R e
      have hi : i = 4 := hi
      subst hi
      have e : (x, q) = numL (btM F v) 4 0 p := e
      rw [← e] at h
      refine xWP_go 100 [(4, [0, 1, 2])] fun P hP => ?_
      exact br_c (fun _ => h _ R) (fun z => absurd (by decide) z)
    | succ d ih =>
      intro i x q v' hi R1 R e
      have I' := R1.I I
      have q50 : q ≤ 50 := R.2.2.2
      have eb : btM F v' = btM F v := R1.bt
      refine xWP_go 100 [(4, [0, 1, 2])] fun P hP => ?_
      refine br_c (fun z => ?_) (fun _ => ?_)
      · have z : nI 4 ≤ nI i := z
        rw [nI_leI (by omega) (by omega)] at z
        omega
      refine xcall (sp_byteAt F v' q I' q50 _ R.2.1 ?_)
      rw [eb]
      refine xcall (sp_isDigit _ (fun dg => ?_) (fun dg => ?_))
      · refine br_c (fun _ => ?_) (fun z => absurd rfl z)
        have e : (if isDg (btM F v q) then numL (btM F v) d (10 * x + btM F v q - 48) (q + 1) else (x, q)) = numL (btM F v) 4 0 p := e
        rw [dg, if_neg (by decide)] at e
        rw [← e] at h
        exact h _ R
      refine br_c (fun z => absurd z (by decide)) (fun _ => ?_)
      have q5 : q < 50 := btM_in I (dg_ne dg)
      refine xcall (sp_byteAt F v' q I' q50 _ R.2.1 ?_)
      rw [eb]
      refine hP _ _ _ _ _ ?_
      rw [nI_1]
      have e : (if isDg (btM F v q) then numL (btM F v) d (10 * x + btM F v q - 48) (q + 1) else (x, q)) = numL (btM F v) 4 0 p := e
      rw [dg, if_pos rfl] at e
      exact ih (i + 1) _ (q + 1) (A1 v') (by omega) (R1.adv q5) (R.adv q5) e
  refine xM_go rfl 100 [(4, [0, 1, 2])] fun P hP => ?_
  refine hP _ _ _ _ _ ?_
  exact key 4 0 0 p v (by omega) ⟨fun _ _ _ => rfl, R.2⟩ R rfl
set_option maxRecDepth 100000 in
theorem sp_named (F v : xS) (I : gI v) (v0 : xS) (p : Nat) (R : gX v0 v p true) (c : Int32) (hc : ¬ c = -1 → p < 50) {K : xKo} (h : ∀ v', gX v0 v' (nmG (v 0 7) (v 0 11) (v 0 12) (v 0 13) c p).2.1 (nmG (v 0 7) (v 0 11) (v 0 12) (v 0 13) c p).2.2 → K (some (.int (nmG (v 0 7) (v 0 11) (v 0 12) (v 0 13) c p).1)) (xfill F v' 0 (wM0 0))) : C_M_named [.ref 0, .int c] (xfill F v 0 (wM0 0)) K := by
  have nm1 : ∀ i, c = nmC (v 0 7) i → ¬ c = -1 := by
    intro i e z
    rw [z] at e
    unfold nmC at e
    split at e
    · split at e
      · exact absurd e (by decide)
      split at e
      · exact absurd e (by decide)
      · exact absurd e (by decide)
    · split at e
      · exact absurd e (by decide)
      split at e
      · exact absurd e (by decide)
      · exact absurd e (by decide)
  have k73 : ∀ (x y z : Int32), x = (if c = nmC (v 0 7) 0 then 1 else 0) → y = (if c = nmC (v 0 7) 1 then 1 else 0) → z = (if c = nmC (v 0 7) 2 then 1 else 0) → xWP pg_M_named K 73 [(0, .ref 0), (1, .int c), (2, .int x), (3, .int y), (4, .int z)] [] (xfill F v 0 (wM0 0)) (0, 0) := by
    intro x y z hx hy hz
    by_cases c0 : c = nmC (v 0 7) 0
    · rw [if_pos c0] at hx
      subst hx
      rw [show nmG (v 0 7) (v 0 11) (v 0 12) (v 0 13) c p = (v 0 11, p + 1, true) from if_pos c0] at h
      refine xWP_go 100 [] fun P hP => ?_
      refine br_n (fun _ => ?_) (fun z => absurd z (by decide))
      refine br_c (fun z => absurd z (by decide)) (fun _ => ?_)
      exact h (A1 v) (R.adv (hc (nm1 0 c0)))
    rw [if_neg c0] at hx
    subst hx
    by_cases c1 : c = nmC (v 0 7) 1
    · rw [if_pos c1] at hy
      subst hy
      rw [show nmG (v 0 7) (v 0 11) (v 0 12) (v 0 13) c p = (v 0 12, p + 1, true) from (if_neg c0).trans (if_pos c1)] at h
      refine xWP_go 100 [] fun P hP => ?_
      refine br_n (fun z => absurd rfl z) (fun _ => ?_)
      refine br_n (fun _ => ?_) (fun z => absurd z (by decide))
      refine br_c (fun _ => ?_) (fun z => absurd rfl z)
      refine br_c (fun z => absurd z (by decide)) (fun _ => ?_)
      exact h (A1 v) (R.adv (hc (nm1 1 c1)))
    rw [if_neg c1] at hy
    subst hy
    by_cases c2 : c = nmC (v 0 7) 2
    · rw [if_pos c2] at hz
      subst hz
      rw [show nmG (v 0 7) (v 0 11) (v 0 12) (v 0 13) c p = (v 0 13, p + 1, true) from (if_neg c0).trans ((if_neg c1).trans (if_pos c2))] at h
      refine xWP_go 100 [] fun P hP => ?_
      refine br_n (fun z => absurd rfl z) (fun _ => ?_)
      refine br_n (fun z => absurd rfl z) (fun _ => ?_)
      refine br_n (fun _ => ?_) (fun z => absurd z (by decide))
      refine br_c (fun _ => ?_) (fun z => absurd rfl z)
      refine br_c (fun _ => ?_) (fun z => absurd rfl z)
      exact h (A1 v) (R.adv (hc (nm1 2 c2)))
    · rw [if_neg c2] at hz
      subst hz
      rw [show nmG (v 0 7) (v 0 11) (v 0 12) (v 0 13) c p = (0, p, false) from (if_neg c0).trans ((if_neg c1).trans (if_neg c2))] at h
      refine xWP_go 100 [] fun P hP => ?_
      refine br_n (fun z => absurd rfl z) (fun _ => ?_)
      refine br_n (fun z => absurd rfl z) (fun _ => ?_)
      refine br_n (fun z => absurd rfl z) (fun _ => ?_)
      refine xcall (sp_fails F v ?_)
      exact h _ R.off
  have k48 : ∀ (x : Int32) (y : Int32), x = (if c = nmC (v 0 7) 0 then 1 else 0) → y = (if c = nmC (v 0 7) 1 then 1 else 0) → xWP pg_M_named K 48 [(0, .ref 0), (1, .int c), (2, .int x), (3, .int y)] [] (xfill F v 0 (wM0 0)) (0, 0) := by
    intro x y hx hy
    refine xWP_go 100 [(24, [0, 1, 2]), (48, [0, 1, 2, 3]), (73, [0, 1, 2, 3, 4])] fun P hP => ?_
    refine br_n (fun un => ?_) (fun un => ?_)
    · have un : ¬ v 0 7 = 0 := un
      refine br_n (fun a => ?_) (fun a => ?_)
      · refine hP _ _ _ _ _ ?_
        exact k73 x y 0 hx hy (by rw [(nmC1 un).2.2, if_neg a])
      · refine hP _ _ _ _ _ ?_
        exact k73 x y 1 hx hy (by rw [(nmC1 un).2.2, if_pos a])
    · have un : v 0 7 = 0 := un
      refine br_n (fun a => ?_) (fun a => ?_)
      · refine hP _ _ _ _ _ ?_
        exact k73 x y 0 hx hy (by rw [(nmC0 un).2.2, if_neg a])
      · refine hP _ _ _ _ _ ?_
        exact k73 x y 1 hx hy (by rw [(nmC0 un).2.2, if_pos a])
  have k24 : ∀ (x : Int32), x = (if c = nmC (v 0 7) 0 then 1 else 0) → xWP pg_M_named K 24 [(0, .ref 0), (1, .int c), (2, .int x)] [] (xfill F v 0 (wM0 0)) (0, 0) := by
    intro x hx
    refine xWP_go 100 [(24, [0, 1, 2]), (48, [0, 1, 2, 3]), (73, [0, 1, 2, 3, 4])] fun P hP => ?_
    refine br_n (fun un => ?_) (fun un => ?_)
    · have un : ¬ v 0 7 = 0 := un
      refine br_n (fun a => ?_) (fun a => ?_)
      · refine hP _ _ _ _ _ ?_
        exact k48 x 0 hx (by rw [(nmC1 un).2.1, if_neg a])
      · refine hP _ _ _ _ _ ?_
        exact k48 x 1 hx (by rw [(nmC1 un).2.1, if_pos a])
    · have un : v 0 7 = 0 := un
      refine br_n (fun a => ?_) (fun a => ?_)
      · refine hP _ _ _ _ _ ?_
        exact k48 x 0 hx (by rw [(nmC0 un).2.1, if_neg a])
      · refine hP _ _ _ _ _ ?_
        exact k48 x 1 hx (by rw [(nmC0 un).2.1, if_pos a])
  refine xM_go rfl 100 [(24, [0, 1, 2]), (48, [0, 1, 2, 3]), (73, [0, 1, 2, 3, 4])] fun P hP => ?_
  refine br_n (fun un => ?_) (fun un => ?_)
  · have un : ¬ v 0 7 = 0 := un
    refine br_n (fun a => ?_) (fun a => ?_)
    · refine hP _ _ _ _ _ ?_
      exact k24 0 (by rw [(nmC1 un).1, if_neg a])
    · refine hP _ _ _ _ _ ?_
      exact k24 1 (by rw [(nmC1 un).1, if_pos a])
  · have un : v 0 7 = 0 := un
    refine br_n (fun a => ?_) (fun a => ?_)
    · refine hP _ _ _ _ _ ?_
      exact k24 0 (by rw [(nmC0 un).1, if_neg a])
    · refine hP _ _ _ _ _ ?_
      exact k24 1 (by rw [(nmC0 un).1, if_pos a])
end
section
/-! ===== the reference: what a text gives, exactly (sums, comparisons, brackets) ===== -/
theorem numL_mono {bt : Nat → Int32} : ∀ {d : Nat} {x : Int32} {p : Nat}, p ≤ (numL bt d x p).2 := by
  intro d
  induction d with
  | zero => intro x p; exact Nat.le_refl _
  | succ d ih =>
    intro x p
    unfold numL
    split
    · exact Nat.le_trans (Nat.le_succ p) ih
    · exact Nat.le_refl _
theorem lpG_mono {op : Int32 → Bool} {app : Int32 → Int32 → Int32 → Int32} {bt : Nat → Int32} {f : Nat → gVal} (hf : ∀ p, p ≤ (f p).2.1) : ∀ {m : Nat} {r : gVal}, r.2.1 ≤ (lpG op app bt f m r).2.1 := by
  intro m
  induction m with
  | zero => intro r; exact Nat.le_refl _
  | succ m ih =>
    intro r
    unfold lpG
    split
    · exact Nat.le_trans (Nat.le_trans (Nat.le_succ r.2.1) (hf (r.2.1 + 1))) (ih (r := (app (bt r.2.1) r.1 (f (r.2.1 + 1)).1, (f (r.2.1 + 1)).2)))
    · exact Nat.le_refl _
theorem nmG_mono {u A B C c : Int32} {p : Nat} : p ≤ (nmG u A B C c p).2.1 := by
  unfold nmG
  split
  · exact Nat.le_succ p
  split
  · exact Nat.le_succ p
  split
  · exact Nat.le_succ p
  · exact Nat.le_refl p
theorem grG_mono {u A B C : Int32} {bt : Nat → Int32} : ∀ (n i o p : Nat), p ≤ (grG u A B C bt n i o p).2.1 := by
  intro n
  induction n with
  | zero => intro i o p; simp only [grG]; exact Nat.le_refl p
  | succ n ih =>
    intro i o p
    rcases (show i = 0 ∨ i = 1 ∨ i = 2 ∨ i = 3 ∨ i = 4 ∨ 5 ≤ i by omega) with e | e | e | e | e | e
    · subst e
      simp only [grG]
      unfold facG
      split
      · exact numL_mono
      split
      · split
        · exact Nat.le_refl p
        split
        · exact Nat.le_trans (Nat.le_succ p) (ih 0 (o + 1) (p + 1))
        split
        · have := ih 5 (o + 1) (p + 1)
          show p ≤ (grG u A B C bt n 5 (o + 1) (p + 1)).2.1 + 1
          omega
        · exact Nat.le_trans (Nat.le_succ p) (ih 5 (o + 1) (p + 1))
      · exact nmG_mono
    · subst e
      simp only [grG]
      exact Nat.le_trans (ih 0 o p) (lpG_mono (ih 0 o))
    · subst e
      simp only [grG]
      exact Nat.le_trans (ih 1 o p) (lpG_mono (ih 1 o))
    · subst e
      simp only [grG]
      split
      · exact Nat.le_trans (Nat.le_trans (ih 2 o p) (Nat.le_succ _)) (ih 2 o _)
      · exact ih 2 o p
    · subst e
      simp only [grG]
      exact Nat.le_trans (ih 3 o p) (lpG_mono (ih 3 o))
    · obtain ⟨k, rfl⟩ : ∃ k, i = k + 5 := ⟨i - 5, by omega⟩
      simp only [grG]
      exact Nat.le_trans (ih 4 o p) (lpG_mono (ih 4 o))
abbrev grF (F v : xS) (n i o p : Nat) : gVal := grG (v 0 7) (v 0 11) (v 0 12) (v 0 13) (btM F v) n i o p
theorem gX.gr {F v v' : xS} {q : Nat} {g : Bool} (h : gX v v' q g) (n i o p : Nat) : grF F v' n i o p = grF F v n i o p := by
  show grG (v' 0 7) (v' 0 11) (v' 0 12) (v' 0 13) (btM F v') n i o p = _
  rw [h.bt, h.1 7 (by decide) (by decide), h.1 11 (by decide) (by decide), h.1 12 (by decide) (by decide), h.1 13 (by decide) (by decide)]
theorem gX.o {v v' : xS} {q o : Nat} {g : Bool} (R : gX v v' q g) (e : v 0 10 = nI o) : v' 0 10 = nI o := (R.1 10 (by decide) (by decide)).trans e
theorem gX.self {v v' : xS} {q : Nat} {g : Bool} (R : gX v v' q g) : gX v' v' q g := ⟨fun _ _ _ => rfl, R.2⟩
def gXpec (i n o : Nat) : Prop := ∀ (F v : xS) (K : xKo) (p : Nat), gI v → v 0 10 = nI o → gX v v p true → (∀ v', gX v v' (grF F v n i o p).2.1 (grF F v n i o p).2.2 → K (some (.int (grF F v n i o p).1)) (xfill F v' 0 (wM0 0))) → G_gram n i [.ref 0] (xfill F v 0 (wM0 0)) K
theorem gx_call {i n o : Nat} (hf : gXpec i n o) {F v v' : xS} {K : xKo} {p : Nat} (I : gI v) (e : v 0 10 = nI o) (R : gX v v' p true) (h : ∀ v2, gX v v2 (grF F v n i o p).2.1 (grF F v n i o p).2.2 → K (some (.int (grF F v n i o p).1)) (xfill F v2 0 (wM0 0))) : G_gram n i [.ref 0] (xfill F v' 0 (wM0 0)) K := by
  refine hf F v' K p (R.I I) (R.o e) R.self (fun v2 R2 => ?_)
  have R3 := R.tr R2
  rw [R.gr] at R3 ⊢
  exact h v2 R3
theorem op_ne {op : Int32 → Bool} (h : op (-1) = false) {c : Int32} (z : op c = true) : ¬ c = -1 := fun e => by rw [e, h] at z; exact absurd z (by decide)
set_option maxRecDepth 100000 in
theorem gx_product {n o : Nat} (hf : gXpec 0 n o) : gXpec 1 (n + 1) o := by
  intro F v K p0 I e R0 h
  have eG : G_gram (n + 1) 1 = xM 4 (pg_M_product (G_gram n)) := by simp only [G_gram]
  rw [eG]
  have er : grF F v (n + 1) 1 o p0 = lpG opMul apMul (btM F v) (grF F v n 0 o) 50 (grF F v n 0 o p0) := by
    show grG _ _ _ _ _ (n + 1) 1 o p0 = _
    simp only [grG]
  rw [er] at h
  have key : ∀ (m : Nat) (r : gVal) (v' : xS), gX v v' r.2.1 r.2.2 → 50 ≤ r.2.1 + m → lpG opMul apMul (btM F v) (grF F v n 0 o) m r = lpG opMul apMul (btM F v) (grF F v n 0 o) 50 (grF F v n 0 o p0) → xWP (pg_M_product (G_gram n)) K 5 [(0, .ref 0), (1, .int r.1)] [] (xfill F v' 0 (wM0 0)) (0, 0) := by
    intro m
    induction m using Nat.strongRecOn with
    | ind m ih =>
      intro r v' R hm eq
      obtain ⟨x, p, g⟩ := r
      have R : gX v v' p g := R
      have hm : 50 ≤ p + m := hm
      have I' := R.I I
      have p50 : p ≤ 50 := R.2.2.2
      have stop : (g && opMul (btM F v p)) = false → K (some (.int x)) (xfill F v' 0 (wM0 0)) := by
        intro z
        have e1 : lpG opMul apMul (btM F v) (grF F v n 0 o) m (x, p, g) = (x, p, g) := by
          cases m with
          | zero => rfl
          | succ m =>
            show (if g && opMul (btM F v p) then _ else (x, p, g)) = (x, p, g)
            rw [z]
            exact if_neg (by decide)
        rw [e1] at eq
        rw [← eq] at h
        exact h v' R
      have kJ : g = true → opMul (btM F v p) = true → xWP (pg_M_product (G_gram n)) K 51 [(0, .ref 0), (1, .int x)] [] (xfill F v' 0 (wM0 0)) (0, 0) := by
        intro gt oc
        subst gt
        have p5 : p < 50 := btM_in I (op_ne (by decide) oc)
        obtain ⟨m', em⟩ : ∃ m', m = m' + 1 := ⟨m - 1, by omega⟩
        subst em
        have e2 : lpG opMul apMul (btM F v) (grF F v n 0 o) (m' + 1) (x, p, true) = lpG opMul apMul (btM F v) (grF F v n 0 o) m' (apMul (btM F v p) x (grF F v n 0 o (p + 1)).1, (grF F v n 0 o (p + 1)).2) := by
          show (if true && opMul (btM F v p) then _ else _) = _
          rw [oc]
          rfl
        rw [e2] at eq
        have mono := grG_mono (u := v 0 7) (A := v 0 11) (B := v 0 12) (C := v 0 13) (bt := btM F v) n 0 o (p + 1)
        have nx : ∀ (z : Int32) (v2 : xS), z = apMul (btM F v p) x (grF F v n 0 o (p + 1)).1 → gX v v2 (grF F v n 0 o (p + 1)).2.1 (grF F v n 0 o (p + 1)).2.2 → xWP (pg_M_product (G_gram n)) K 5 [(0, .ref 0), (1, .int z)] [] (xfill F v2 0 (wM0 0)) (0, 0) := by
          intro z v2 ez R2
          rw [ez]
          exact ih m' (by omega) (apMul (btM F v p) x (grF F v n 0 o (p + 1)).1, (grF F v n 0 o (p + 1)).2) v2 R2 (by show 50 ≤ (grG _ _ _ _ _ n 0 o (p + 1)).2.1 + m'; omega) eq
        refine xWP_go 200 [(5, [0, 1])] fun P hP => ?_
        refine xcall (sp_byteAt F v' p I' p50 _ R.2.1 ?_)
        rw [R.bt]
        refine xcall (gx_call hf I e (R.adv p5) (fun v2 R2 => ?_))
        refine br_n (fun c1 => ?_) (fun c1 => ?_)
        · have c1 : ¬ btM F v p = 42 := c1
          refine br_n (fun wz => ?_) (fun wz => ?_)
          · refine br_n (fun c2 => ?_) (fun c2 => ?_)
            · have c2 : ¬ btM F v p = 47 := c2
              refine ⟨wz, ?_⟩
              refine hP _ _ _ _ _ ?_
              refine nx _ v2 ?_ R2
              unfold apMul
              rw [if_neg c1, if_neg wz, if_neg c2]
            · have c2 : btM F v p = 47 := c2
              refine ⟨wz, ?_⟩
              refine hP _ _ _ _ _ ?_
              refine nx _ v2 ?_ R2
              unfold apMul
              rw [if_neg c1, if_neg wz, if_pos c2]
          · skip
            refine hP _ _ _ _ _ ?_
            refine nx _ v2 ?_ R2
            unfold apMul
            rw [if_neg c1, if_pos wz]
        · have c1 : btM F v p = 42 := c1
          refine hP _ _ _ _ _ ?_
          refine nx _ v2 ?_ R2
          unfold apMul
          rw [if_pos c1]
      refine xWP_go 200 [(5, [0, 1]), (51, [0, 1])] fun P hP => ?_
      refine br_c (fun z => ?_) (fun z => ?_)
      · have z : v' 0 14 = 0 := z
        rw [R.2.2.1] at z
        refine stop ?_
        cases g with
        | false => rfl
        | true => exact absurd z (by decide)
      have gt : g = true := by
        have z : ¬ v' 0 14 = 0 := z
        rw [R.2.2.1] at z
        cases g with
        | false => exact absurd rfl z
        | true => rfl
      refine xcall (sp_byteAt F v' p I' p50 _ R.2.1 ?_)
      rw [R.bt]
      refine br_c (fun a => ?_) (fun a0 => ?_)
      · have a : btM F v p = 42 := a
        refine hP _ _ _ _ _ ?_
        exact kJ gt (by rw [a]; rfl)
      have a0 : ¬ btM F v p = 42 := a0
      refine xcall (sp_byteAt F v' p I' p50 _ R.2.1 ?_)
      rw [R.bt]
      refine br_c (fun a => ?_) (fun a1 => ?_)
      · have a : btM F v p = 47 := a
        refine hP _ _ _ _ _ ?_
        exact kJ gt (by rw [a]; rfl)
      have a1 : ¬ btM F v p = 47 := a1
      refine xcall (sp_byteAt F v' p I' p50 _ R.2.1 ?_)
      rw [R.bt]
      refine br_n (fun a2 => ?_) (fun a => ?_)
      · have a2 : ¬ btM F v p = 37 := a2
        refine stop ?_
        unfold opMul
        rw [beq_false_of_ne a0, beq_false_of_ne a1, beq_false_of_ne a2]
        exact Bool.and_false g
      · have a : btM F v p = 37 := a
        refine hP _ _ _ _ _ ?_
        exact kJ gt (by rw [a]; rfl)
  refine xM_go rfl 100 [(5, [0, 1])] fun P hP => ?_
  refine xcall (gx_call hf I e R0 (fun v2 R2 => ?_))
  refine hP _ _ _ _ _ ?_
  exact key 50 (grF F v n 0 o p0) v2 R2 (by omega) rfl
set_option maxRecDepth 100000 in
theorem gx_sum {n o : Nat} (hf : gXpec 1 n o) : gXpec 2 (n + 1) o := by
  intro F v K p0 I e R0 h
  have eG : G_gram (n + 1) 2 = xM 4 (pg_M_sum (G_gram n)) := by simp only [G_gram]
  rw [eG]
  have er : grF F v (n + 1) 2 o p0 = lpG opAdd apAdd (btM F v) (grF F v n 1 o) 50 (grF F v n 1 o p0) := by
    show grG _ _ _ _ _ (n + 1) 2 o p0 = _
    simp only [grG]
  rw [er] at h
  have key : ∀ (m : Nat) (r : gVal) (v' : xS), gX v v' r.2.1 r.2.2 → 50 ≤ r.2.1 + m → lpG opAdd apAdd (btM F v) (grF F v n 1 o) m r = lpG opAdd apAdd (btM F v) (grF F v n 1 o) 50 (grF F v n 1 o p0) → xWP (pg_M_sum (G_gram n)) K 5 [(0, .ref 0), (1, .int r.1)] [] (xfill F v' 0 (wM0 0)) (0, 0) := by
    intro m
    induction m using Nat.strongRecOn with
    | ind m ih =>
      intro r v' R hm eq
      obtain ⟨x, p, g⟩ := r
      have R : gX v v' p g := R
      have hm : 50 ≤ p + m := hm
      have I' := R.I I
      have p50 : p ≤ 50 := R.2.2.2
      have stop : (g && opAdd (btM F v p)) = false → K (some (.int x)) (xfill F v' 0 (wM0 0)) := by
        intro z
        have e1 : lpG opAdd apAdd (btM F v) (grF F v n 1 o) m (x, p, g) = (x, p, g) := by
          cases m with
          | zero => rfl
          | succ m =>
            show (if g && opAdd (btM F v p) then _ else (x, p, g)) = (x, p, g)
            rw [z]
            exact if_neg (by decide)
        rw [e1] at eq
        rw [← eq] at h
        exact h v' R
      have kJ : g = true → opAdd (btM F v p) = true → xWP (pg_M_sum (G_gram n)) K 38 [(0, .ref 0), (1, .int x)] [] (xfill F v' 0 (wM0 0)) (0, 0) := by
        intro gt oc
        subst gt
        have p5 : p < 50 := btM_in I (op_ne (by decide) oc)
        obtain ⟨m', em⟩ : ∃ m', m = m' + 1 := ⟨m - 1, by omega⟩
        subst em
        have e2 : lpG opAdd apAdd (btM F v) (grF F v n 1 o) (m' + 1) (x, p, true) = lpG opAdd apAdd (btM F v) (grF F v n 1 o) m' (apAdd (btM F v p) x (grF F v n 1 o (p + 1)).1, (grF F v n 1 o (p + 1)).2) := by
          show (if true && opAdd (btM F v p) then _ else _) = _
          rw [oc]
          rfl
        rw [e2] at eq
        have mono := grG_mono (u := v 0 7) (A := v 0 11) (B := v 0 12) (C := v 0 13) (bt := btM F v) n 1 o (p + 1)
        have nx : ∀ (z : Int32) (v2 : xS), z = apAdd (btM F v p) x (grF F v n 1 o (p + 1)).1 → gX v v2 (grF F v n 1 o (p + 1)).2.1 (grF F v n 1 o (p + 1)).2.2 → xWP (pg_M_sum (G_gram n)) K 5 [(0, .ref 0), (1, .int z)] [] (xfill F v2 0 (wM0 0)) (0, 0) := by
          intro z v2 ez R2
          rw [ez]
          exact ih m' (by omega) (apAdd (btM F v p) x (grF F v n 1 o (p + 1)).1, (grF F v n 1 o (p + 1)).2) v2 R2 (by show 50 ≤ (grG _ _ _ _ _ n 1 o (p + 1)).2.1 + m'; omega) eq
        refine xWP_go 200 [(5, [0, 1])] fun P hP => ?_
        refine xcall (sp_byteAt F v' p I' p50 _ R.2.1 ?_)
        rw [R.bt]
        refine xcall (gx_call hf I e (R.adv p5) (fun v2 R2 => ?_))
        refine br_n (fun c1 => ?_) (fun c1 => ?_)
        · have c1 : ¬ btM F v p = 43 := c1
          refine hP _ _ _ _ _ ?_
          refine nx _ v2 ?_ R2
          unfold apAdd
          rw [if_neg c1]
        · have c1 : btM F v p = 43 := c1
          refine hP _ _ _ _ _ ?_
          refine nx _ v2 ?_ R2
          unfold apAdd
          rw [if_pos c1]
      refine xWP_go 200 [(5, [0, 1]), (38, [0, 1])] fun P hP => ?_
      refine br_c (fun z => ?_) (fun z => ?_)
      · have z : v' 0 14 = 0 := z
        rw [R.2.2.1] at z
        refine stop ?_
        cases g with
        | false => rfl
        | true => exact absurd z (by decide)
      have gt : g = true := by
        have z : ¬ v' 0 14 = 0 := z
        rw [R.2.2.1] at z
        cases g with
        | false => exact absurd rfl z
        | true => rfl
      refine xcall (sp_byteAt F v' p I' p50 _ R.2.1 ?_)
      rw [R.bt]
      refine br_c (fun a => ?_) (fun a0 => ?_)
      · have a : btM F v p = 43 := a
        refine hP _ _ _ _ _ ?_
        exact kJ gt (by rw [a]; rfl)
      have a0 : ¬ btM F v p = 43 := a0
      refine xcall (sp_byteAt F v' p I' p50 _ R.2.1 ?_)
      rw [R.bt]
      refine br_n (fun a1 => ?_) (fun a => ?_)
      · have a1 : ¬ btM F v p = 45 := a1
        refine stop ?_
        unfold opAdd
        rw [beq_false_of_ne a0, beq_false_of_ne a1]
        exact Bool.and_false g
      · have a : btM F v p = 45 := a
        refine hP _ _ _ _ _ ?_
        exact kJ gt (by rw [a]; rfl)
  refine xM_go rfl 100 [(5, [0, 1])] fun P hP => ?_
  refine xcall (gx_call hf I e R0 (fun v2 R2 => ?_))
  refine hP _ _ _ _ _ ?_
  exact key 50 (grF F v n 1 o p0) v2 R2 (by omega) rfl
set_option maxRecDepth 100000 in
theorem gx_both {n o : Nat} (hf : gXpec 3 n o) : gXpec 4 (n + 1) o := by
  intro F v K p0 I e R0 h
  have eG : G_gram (n + 1) 4 = xM 3 (pg_M_both (G_gram n)) := by simp only [G_gram]
  rw [eG]
  have er : grF F v (n + 1) 4 o p0 = lpG opAnd apAnd (btM F v) (grF F v n 3 o) 50 (grF F v n 3 o p0) := by
    show grG _ _ _ _ _ (n + 1) 4 o p0 = _
    simp only [grG]
  rw [er] at h
  have key : ∀ (m : Nat) (r : gVal) (v' : xS), gX v v' r.2.1 r.2.2 → 50 ≤ r.2.1 + m → lpG opAnd apAnd (btM F v) (grF F v n 3 o) m r = lpG opAnd apAnd (btM F v) (grF F v n 3 o) 50 (grF F v n 3 o p0) → xWP (pg_M_both (G_gram n)) K 5 [(0, .ref 0), (1, .int r.1)] [] (xfill F v' 0 (wM0 0)) (0, 0) := by
    intro m
    induction m using Nat.strongRecOn with
    | ind m ih =>
      intro r v' R hm eq
      obtain ⟨x, p, g⟩ := r
      have R : gX v v' p g := R
      have hm : 50 ≤ p + m := hm
      have I' := R.I I
      have p50 : p ≤ 50 := R.2.2.2
      have stop : (g && opAnd (btM F v p)) = false → K (some (.int x)) (xfill F v' 0 (wM0 0)) := by
        intro z
        have e1 : lpG opAnd apAnd (btM F v) (grF F v n 3 o) m (x, p, g) = (x, p, g) := by
          cases m with
          | zero => rfl
          | succ m =>
            show (if g && opAnd (btM F v p) then _ else (x, p, g)) = (x, p, g)
            rw [z]
            exact if_neg (by decide)
        rw [e1] at eq
        rw [← eq] at h
        exact h v' R
      have kJ : g = true → opAnd (btM F v p) = true → xWP (pg_M_both (G_gram n)) K 25 [(0, .ref 0), (1, .int x)] [] (xfill F v' 0 (wM0 0)) (0, 0) := by
        intro gt oc
        subst gt
        have p5 : p < 50 := btM_in I (op_ne (by decide) oc)
        obtain ⟨m', em⟩ : ∃ m', m = m' + 1 := ⟨m - 1, by omega⟩
        subst em
        have e2 : lpG opAnd apAnd (btM F v) (grF F v n 3 o) (m' + 1) (x, p, true) = lpG opAnd apAnd (btM F v) (grF F v n 3 o) m' (apAnd (btM F v p) x (grF F v n 3 o (p + 1)).1, (grF F v n 3 o (p + 1)).2) := by
          show (if true && opAnd (btM F v p) then _ else _) = _
          rw [oc]
          rfl
        rw [e2] at eq
        have mono := grG_mono (u := v 0 7) (A := v 0 11) (B := v 0 12) (C := v 0 13) (bt := btM F v) n 3 o (p + 1)
        have nx : ∀ (z : Int32) (v2 : xS), z = apAnd (btM F v p) x (grF F v n 3 o (p + 1)).1 → gX v v2 (grF F v n 3 o (p + 1)).2.1 (grF F v n 3 o (p + 1)).2.2 → xWP (pg_M_both (G_gram n)) K 5 [(0, .ref 0), (1, .int z)] [] (xfill F v2 0 (wM0 0)) (0, 0) := by
          intro z v2 ez R2
          rw [ez]
          exact ih m' (by omega) (apAnd (btM F v p) x (grF F v n 3 o (p + 1)).1, (grF F v n 3 o (p + 1)).2) v2 R2 (by show 50 ≤ (grG _ _ _ _ _ n 3 o (p + 1)).2.1 + m'; omega) eq
        refine xWP_go 200 [(5, [0, 1])] fun P hP => ?_
        refine xcall (gx_call hf I e (R.adv p5) (fun v2 R2 => ?_))
        refine br_c (fun c1 => ?_) (fun c1 => ?_)
        · skip
          refine hP _ _ _ _ _ ?_
          refine nx _ v2 ?_ R2
          unfold apAnd
          rw [if_pos c1]
        refine br_c (fun c2 => ?_) (fun c2 => ?_)
        · skip
          refine hP _ _ _ _ _ ?_
          refine nx _ v2 ?_ R2
          unfold apAnd
          rw [if_neg c1, if_pos c2]
        · skip
          refine hP _ _ _ _ _ ?_
          refine nx _ v2 ?_ R2
          unfold apAnd
          rw [if_neg c1, if_neg c2]
      refine xWP_go 200 [(5, [0, 1]), (25, [0, 1])] fun P hP => ?_
      refine br_c (fun z => ?_) (fun z => ?_)
      · have z : v' 0 14 = 0 := z
        rw [R.2.2.1] at z
        refine stop ?_
        cases g with
        | false => rfl
        | true => exact absurd z (by decide)
      have gt : g = true := by
        have z : ¬ v' 0 14 = 0 := z
        rw [R.2.2.1] at z
        cases g with
        | false => exact absurd rfl z
        | true => rfl
      refine xcall (sp_byteAt F v' p I' p50 _ R.2.1 ?_)
      rw [R.bt]
      refine br_n (fun a0 => ?_) (fun a => ?_)
      · have a0 : ¬ btM F v p = 38 := a0
        refine stop ?_
        unfold opAnd
        rw [beq_false_of_ne a0]
        exact Bool.and_false g
      · have a : btM F v p = 38 := a
        refine hP _ _ _ _ _ ?_
        exact kJ gt (by rw [a]; rfl)
  refine xM_go rfl 100 [(5, [0, 1])] fun P hP => ?_
  refine xcall (gx_call hf I e R0 (fun v2 R2 => ?_))
  refine hP _ _ _ _ _ ?_
  exact key 50 (grF F v n 3 o p0) v2 R2 (by omega) rfl
set_option maxRecDepth 100000 in
theorem gx_whole {n o : Nat} (hf : gXpec 4 n o) : gXpec 5 (n + 1) o := by
  intro F v K p0 I e R0 h
  have eG : G_gram (n + 1) 5 = xM 3 (pg_M_whole (G_gram n)) := by simp only [G_gram]
  rw [eG]
  have er : grF F v (n + 1) 5 o p0 = lpG opOr apOr (btM F v) (grF F v n 4 o) 50 (grF F v n 4 o p0) := by
    show grG _ _ _ _ _ (n + 1) 5 o p0 = _
    simp only [grG]
  rw [er] at h
  have key : ∀ (m : Nat) (r : gVal) (v' : xS), gX v v' r.2.1 r.2.2 → 50 ≤ r.2.1 + m → lpG opOr apOr (btM F v) (grF F v n 4 o) m r = lpG opOr apOr (btM F v) (grF F v n 4 o) 50 (grF F v n 4 o p0) → xWP (pg_M_whole (G_gram n)) K 5 [(0, .ref 0), (1, .int r.1)] [] (xfill F v' 0 (wM0 0)) (0, 0) := by
    intro m
    induction m using Nat.strongRecOn with
    | ind m ih =>
      intro r v' R hm eq
      obtain ⟨x, p, g⟩ := r
      have R : gX v v' p g := R
      have hm : 50 ≤ p + m := hm
      have I' := R.I I
      have p50 : p ≤ 50 := R.2.2.2
      have stop : (g && opOr (btM F v p)) = false → K (some (.int x)) (xfill F v' 0 (wM0 0)) := by
        intro z
        have e1 : lpG opOr apOr (btM F v) (grF F v n 4 o) m (x, p, g) = (x, p, g) := by
          cases m with
          | zero => rfl
          | succ m =>
            show (if g && opOr (btM F v p) then _ else (x, p, g)) = (x, p, g)
            rw [z]
            exact if_neg (by decide)
        rw [e1] at eq
        rw [← eq] at h
        exact h v' R
      have kJ : g = true → opOr (btM F v p) = true → xWP (pg_M_whole (G_gram n)) K 25 [(0, .ref 0), (1, .int x)] [] (xfill F v' 0 (wM0 0)) (0, 0) := by
        intro gt oc
        subst gt
        have p5 : p < 50 := btM_in I (op_ne (by decide) oc)
        obtain ⟨m', em⟩ : ∃ m', m = m' + 1 := ⟨m - 1, by omega⟩
        subst em
        have e2 : lpG opOr apOr (btM F v) (grF F v n 4 o) (m' + 1) (x, p, true) = lpG opOr apOr (btM F v) (grF F v n 4 o) m' (apOr (btM F v p) x (grF F v n 4 o (p + 1)).1, (grF F v n 4 o (p + 1)).2) := by
          show (if true && opOr (btM F v p) then _ else _) = _
          rw [oc]
          rfl
        rw [e2] at eq
        have mono := grG_mono (u := v 0 7) (A := v 0 11) (B := v 0 12) (C := v 0 13) (bt := btM F v) n 4 o (p + 1)
        have nx : ∀ (z : Int32) (v2 : xS), z = apOr (btM F v p) x (grF F v n 4 o (p + 1)).1 → gX v v2 (grF F v n 4 o (p + 1)).2.1 (grF F v n 4 o (p + 1)).2.2 → xWP (pg_M_whole (G_gram n)) K 5 [(0, .ref 0), (1, .int z)] [] (xfill F v2 0 (wM0 0)) (0, 0) := by
          intro z v2 ez R2
          rw [ez]
          exact ih m' (by omega) (apOr (btM F v p) x (grF F v n 4 o (p + 1)).1, (grF F v n 4 o (p + 1)).2) v2 R2 (by show 50 ≤ (grG _ _ _ _ _ n 4 o (p + 1)).2.1 + m'; omega) eq
        refine xWP_go 200 [(5, [0, 1])] fun P hP => ?_
        refine xcall (gx_call hf I e (R.adv p5) (fun v2 R2 => ?_))
        refine br_n (fun c1 => ?_) (fun c1 => ?_)
        · skip
          refine hP _ _ _ _ _ ?_
          refine nx _ v2 ?_ R2
          unfold apOr
          rw [if_neg c1]
        refine br_c (fun c2 => ?_) (fun c2 => ?_)
        · skip
          refine hP _ _ _ _ _ ?_
          refine nx _ v2 ?_ R2
          unfold apOr
          rw [if_pos c1, if_pos c2]
        · skip
          refine hP _ _ _ _ _ ?_
          refine nx _ v2 ?_ R2
          unfold apOr
          rw [if_pos c1, if_neg c2]
      refine xWP_go 200 [(5, [0, 1]), (25, [0, 1])] fun P hP => ?_
      refine br_c (fun z => ?_) (fun z => ?_)
      · have z : v' 0 14 = 0 := z
        rw [R.2.2.1] at z
        refine stop ?_
        cases g with
        | false => rfl
        | true => exact absurd z (by decide)
      have gt : g = true := by
        have z : ¬ v' 0 14 = 0 := z
        rw [R.2.2.1] at z
        cases g with
        | false => exact absurd rfl z
        | true => rfl
      refine xcall (sp_byteAt F v' p I' p50 _ R.2.1 ?_)
      rw [R.bt]
      refine br_n (fun a0 => ?_) (fun a => ?_)
      · have a0 : ¬ btM F v p = 124 := a0
        refine stop ?_
        unfold opOr
        rw [beq_false_of_ne a0]
        exact Bool.and_false g
      · have a : btM F v p = 124 := a
        refine hP _ _ _ _ _ ?_
        exact kJ gt (by rw [a]; rfl)
  refine xM_go rfl 100 [(5, [0, 1])] fun P hP => ?_
  refine xcall (gx_call hf I e R0 (fun v2 R2 => ?_))
  refine hP _ _ _ _ _ ?_
  exact key 50 (grF F v n 4 o p0) v2 R2 (by omega) rfl
set_option maxRecDepth 100000 in
theorem gx_compared {n o : Nat} (hf : gXpec 2 n o) : gXpec 3 (n + 1) o := by
  intro F v K p0 I e R0 h
  have eG : G_gram (n + 1) 3 = xM 5 (pg_M_compared (G_gram n)) := by simp only [G_gram]
  rw [eG]
  obtain ⟨r, hr⟩ : ∃ r, r = grF F v n 2 o p0 := ⟨_, rfl⟩
  have er : grF F v (n + 1) 3 o p0 = if r.2.2 && opCmp (btM F v r.2.1) then (apCmp (btM F v r.2.1) r.1 (grF F v n 2 o (r.2.1 + 1)).1, (grF F v n 2 o (r.2.1 + 1)).2) else r := by
    rw [hr]
    show grG _ _ _ _ _ (n + 1) 3 o p0 = _
    simp only [grG]
  rw [er] at h
  have k108 : ∀ (y s w q : Int32) (v' : xS), q = 0 ∨ q = 1 → K (some (.int q)) (xfill F v' 0 (wM0 0)) → xWP (pg_M_compared (G_gram n)) K 108 [(0, .ref 0), (1, .int y), (2, .int s), (3, .int w)] [.int q] (xfill F v' 0 (wM0 0)) (0, 0) := by
    intro y s w q v' hq k
    refine xWP_go 100 [] fun P hP => ?_
    rcases hq with z | z
    · subst z
      exact br_c (fun _ => k) (fun z => absurd rfl z)
    · subst z
      exact br_c (fun z => absurd z (by decide)) (fun _ => k)
  have k45 : ∀ (v' : xS), gX v v' r.2.1 r.2.2 → r.2.2 = true → opCmp (btM F v r.2.1) = true → xWP (pg_M_compared (G_gram n)) K 45 [(0, .ref 0), (1, .int r.1), (2, .int (btM F v r.2.1))] [] (xfill F v' 0 (wM0 0)) (0, 0) := by
    intro v' R gt oc
    rw [gt] at R
    have p5 : r.2.1 < 50 := btM_in I (op_ne (by decide) oc)
    rw [gt, oc] at h
    have h : ∀ v', gX v v' (grF F v n 2 o (r.2.1 + 1)).2.1 (grF F v n 2 o (r.2.1 + 1)).2.2 → K (some (.int (apCmp (btM F v r.2.1) r.1 (grF F v n 2 o (r.2.1 + 1)).1))) (xfill F v' 0 (wM0 0)) := h
    refine xWP_go 200 [(108, [0, 1, 2, 3])] fun P hP => ?_
    refine xcall (gx_call hf I e (R.adv p5) (fun v2 R2 => ?_))
    have fin := h v2 R2
    unfold apCmp at fin
    refine br_n (fun c1 => ?_) (fun c1 => ?_)
    · have c1 : ¬ btM F v r.2.1 = 60 := c1
      rw [if_neg c1] at fin
      refine br_n (fun c2 => ?_) (fun c2 => ?_)
      · have c2 : ¬ btM F v r.2.1 = 61 := c2
        rw [if_neg c2] at fin
        refine br_c (fun c3 => ?_) (fun c3 => ?_)
        · have c3 : r.1 ≤ (grF F v n 2 o (r.2.1 + 1)).1 := c3
          rw [if_pos c3] at fin
          exact hP _ _ _ _ _ (k108 _ _ _ 0 v2 (Or.inl rfl) fin)
        · have c3 : ¬ r.1 ≤ (grF F v n 2 o (r.2.1 + 1)).1 := c3
          rw [if_neg c3] at fin
          exact hP _ _ _ _ _ (k108 _ _ _ 1 v2 (Or.inr rfl) fin)
      · have c2 : btM F v r.2.1 = 61 := c2
        rw [if_pos c2] at fin
        refine br_n (fun c3 => ?_) (fun c3 => ?_)
        · have c3 : ¬ r.1 = (grF F v n 2 o (r.2.1 + 1)).1 := c3
          rw [if_neg c3] at fin
          exact hP _ _ _ _ _ (k108 _ _ _ 0 v2 (Or.inl rfl) fin)
        · have c3 : r.1 = (grF F v n 2 o (r.2.1 + 1)).1 := c3
          rw [if_pos c3] at fin
          exact hP _ _ _ _ _ (k108 _ _ _ 1 v2 (Or.inr rfl) fin)
    · have c1 : btM F v r.2.1 = 60 := c1
      rw [if_pos c1] at fin
      refine br_c (fun c3 => ?_) (fun c3 => ?_)
      · have c3 : (grF F v n 2 o (r.2.1 + 1)).1 ≤ r.1 := c3
        rw [if_pos c3] at fin
        exact hP _ _ _ _ _ (k108 _ _ _ 0 v2 (Or.inl rfl) fin)
      · have c3 : ¬ (grF F v n 2 o (r.2.1 + 1)).1 ≤ r.1 := c3
        rw [if_neg c3] at fin
        exact hP _ _ _ _ _ (k108 _ _ _ 1 v2 (Or.inr rfl) fin)
  have k25 : ∀ (s : Int32) (v' : xS), gX v v' r.2.1 r.2.2 → (r.2.2 = true → s = btM F v r.2.1) → (r.2.2 = false → s = -1) → xWP (pg_M_compared (G_gram n)) K 25 [(0, .ref 0), (1, .int r.1), (2, .int s)] [] (xfill F v' 0 (wM0 0)) (0, 0) := by
    intro s v' R s1 s0
    have yes : opCmp s = true → xWP (pg_M_compared (G_gram n)) K 45 [(0, .ref 0), (1, .int r.1), (2, .int s)] [] (xfill F v' 0 (wM0 0)) (0, 0) := by
      intro oc
      have gt : r.2.2 = true := by
        by_cases z : r.2.2 = true
        · exact z
        · rw [s0 (by simpa using z)] at oc
          exact absurd oc (by decide)
      have es := s1 gt
      subst es
      exact k45 v' R gt oc
    refine xWP_go 200 [(45, [0, 1, 2])] fun P hP => ?_
    refine br_c (fun a => ?_) (fun a0 => ?_)
    · have a : s = 60 := a
      exact hP _ _ _ _ _ (yes (by rw [a]; rfl))
    have a0 : ¬ s = 60 := a0
    refine br_c (fun a => ?_) (fun a1 => ?_)
    · have a : s = 61 := a
      exact hP _ _ _ _ _ (yes (by rw [a]; rfl))
    have a1 : ¬ s = 61 := a1
    refine br_c (fun a => ?_) (fun a2 => ?_)
    · have a : s = 62 := a
      exact hP _ _ _ _ _ (yes (by rw [a]; rfl))
    have a2 : ¬ s = 62 := a2
    have oc : opCmp s = false := by
      unfold opCmp
      rw [beq_false_of_ne a0, beq_false_of_ne a1, beq_false_of_ne a2]
      rfl
    have z : (r.2.2 && opCmp (btM F v r.2.1)) = false := by
      by_cases g : r.2.2 = true
      · rw [← s1 g, oc]; exact Bool.and_false _
      · rw [show r.2.2 = false by simpa using g]; exact Bool.false_and _
    rw [z] at h
    exact h v' R
  refine xM_go rfl 200 [(25, [0, 1, 2])] fun P hP => ?_
  refine xcall (gx_call hf I e R0 (fun v' R => ?_))
  rw [← hr] at R ⊢
  have p50 : r.2.1 ≤ 50 := R.2.2.2
  refine br_c (fun z => ?_) (fun z => ?_)
  · have z : v' 0 14 = 0 := z
    rw [R.2.2.1] at z
    have g0 : r.2.2 = false := by
      by_cases g : r.2.2 = true
      · rw [g] at z; exact absurd z (by decide)
      · simpa using g
    exact hP _ _ _ _ _ (k25 (-1) v' R (fun g => by rw [g0] at g; exact absurd g (by decide)) (fun _ => rfl))
  · have z : ¬ v' 0 14 = 0 := z
    rw [R.2.2.1] at z
    have g1 : r.2.2 = true := by
      by_cases g : r.2.2 = true
      · exact g
      · rw [show r.2.2 = false by simpa using g] at z; exact absurd rfl z
    refine xcall (sp_byteAt F v' r.2.1 (R.I I) p50 _ R.2.1 ?_)
    rw [R.bt]
    exact hP _ _ _ _ _ (k25 _ v' R (fun _ => rfl) (fun g => by rw [g1] at g; exact absurd g (by decide)))
set_option maxRecDepth 100000 in
theorem gx_factor {n o : Nat} (ho : o ≤ 5) (hf : o < 5 → gXpec 0 n (o + 1) ∧ gXpec 5 n (o + 1)) : gXpec 0 (n + 1) o := by
  intro F v K p I e R0 h
  have eG : G_gram (n + 1) 0 = xM 3 (pg_M_factor (G_gram n)) := by simp only [G_gram]
  rw [eG]
  have p50 : p ≤ 50 := R0.2.2.2
  have er : grF F v (n + 1) 0 o p = facG (v 0 7) (v 0 11) (v 0 12) (v 0 13) (btM F v) (grF F v n 0 (o + 1)) (grF F v n 5 (o + 1)) o p := by
    show grG _ _ _ _ _ (n + 1) 0 o p = _
    simp only [grG]
  rw [er] at h
  have k39 : isDg (btM F v p) = false → (btM F v p = 33 ∨ btM F v p = 40) → xWP (pg_M_factor (G_gram n)) K 39 [(0, .ref 0), (1, .int (btM F v p))] [] (xfill F v 0 (wM0 0)) (0, 0) := by
    intro dg hc
    have p5 : p < 50 := btM_in I (fun z => by rw [z] at hc; exact absurd hc (by decide))
    unfold facG at h
    rw [dg, if_neg (by decide), if_pos hc] at h
    refine xWP_go 200 [(89, [0, 1])] fun P hP => ?_
    refine br_n (fun n5 => ?_) (fun z5 => ?_)
    rotate_left
    · have z5 : v 0 10 = nI 5 := z5
      have o5 : o = 5 := by
        have q := congrArg Int32.toInt (e.symm.trans z5)
        rw [nI_toInt (by omega), nI_toInt (by omega)] at q
        omega
      rw [if_pos o5] at h
      refine xcall (sp_fails F v ?_)
      exact h _ R0.off
    have n5 : ¬ v 0 10 = nI 5 := n5
    have o5 : ¬ o = 5 := fun z => n5 (by rw [e, z])
    rw [if_neg o5] at h
    obtain ⟨f0, f5⟩ := hf (by omega)
    obtain ⟨v1, ev1⟩ : ∃ v1, v1 = va_up v 0 (va_up (va_up (v 0) 10 (v 0 10 + 1)) 8 (v 0 8 + 1)) := ⟨_, rfl⟩
    have J3 : ∀ j, ¬ j = 8 → ¬ j = 10 → v1 0 j = v 0 j := by
      intro j n8 n10
      rw [ev1]
      exact (if_neg n8).trans (if_neg n10)
    have J2 : v1 0 10 = nI (o + 1) := by rw [ev1, ← nI_1, ← e]; rfl
    have J4 : gX v1 v1 (p + 1) true := ⟨fun _ _ _ => rfl, by rw [ev1, ← nI_1, ← R0.2.1]; rfl, by rw [J3 14 (by decide) (by decide)]; exact R0.2.2.1, by omega⟩
    have J1 : gI v1 := ⟨by rw [J3 7 (by decide) (by decide)]; exact I.1, ⟨p + 1, by omega, J4.2.1⟩, by rw [J3 9 (by decide) (by decide)]; exact I.2.2⟩
    have eb : btM F v1 = btM F v := by
      funext k
      unfold btM
      rw [J3 7 (by decide) (by decide), J3 9 (by decide) (by decide)]
    have J5 : ∀ i, grF F v1 n i (o + 1) (p + 1) = grF F v n i (o + 1) (p + 1) := by
      intro i
      show grG (v1 0 7) (v1 0 11) (v1 0 12) (v1 0 13) (btM F v1) n i (o + 1) (p + 1) = _
      rw [eb, J3 7 (by decide) (by decide), J3 11 (by decide) (by decide), J3 12 (by decide) (by decide), J3 13 (by decide) (by decide)]
    have bk : ∀ (q : Nat) (g : Bool) (v2 : xS), gX v1 v2 q g → gX v (va_up v2 0 (va_up (v2 0) 10 (v2 0 10 - 1))) q g := by
      intro q g v2 R2
      refine ⟨fun j n8 n14 => ?_, R2.2.1, R2.2.2.1, R2.2.2.2⟩
      show va_up (v2 0) 10 (v2 0 10 - 1) j = v 0 j
      by_cases n10 : j = 10
      · subst n10
        have z : va_up (v2 0) 10 (v2 0 10 - 1) 10 = v2 0 10 - 1 := rfl
        rw [z, R2.o J2, nI_pred, e]
      · exact (if_neg n10).trans ((R2.1 j n8 n14).trans (J3 j n8 n10))
    have not : btM F v p = 33 → ∀ (r : Int32) (q : Nat) (g : Bool) (v2 : xS), grF F v n 0 (o + 1) (p + 1) = (r, q, g) → gX v1 v2 q g → xWP (pg_M_factor (G_gram n)) K 89 [(0, .ref 0), (1, .int (btM F v p))] [.int r] (xfill F v2 0 (wM0 0)) (0, 0) := by
      intro c1 r q g v2 eq R2
      rw [if_pos c1, eq] at h
      have fin := h _ (bk q g v2 R2)
      refine xWP_go 200 [] fun P hP => ?_
      refine br_n (fun z => absurd c1 z) (fun _ => ?_)
      refine br_n (fun z => ?_) (fun z => ?_)
      · have z : ¬ r = 0 := z
        rw [if_neg z] at fin
        exact fin
      · have z : r = 0 := z
        rw [if_pos z] at fin
        exact fin
    have par : ¬ btM F v p = 33 → ∀ (r : Int32) (q : Nat) (g : Bool) (v2 : xS), grF F v n 5 (o + 1) (p + 1) = (r, q, g) → gX v1 v2 q g → xWP (pg_M_factor (G_gram n)) K 89 [(0, .ref 0), (1, .int (btM F v p))] [.int r] (xfill F v2 0 (wM0 0)) (0, 0) := by
      intro c1 r q g v2 eq R2
      rw [if_neg c1, eq] at h
      have R3 := bk q g v2 R2
      refine xWP_go 200 [] fun P hP => ?_
      refine br_n (fun _ => ?_) (fun z => absurd z c1)
      refine br_c (fun z => ?_) (fun z => ?_)
      · have z : v2 0 14 = 0 := z
        rw [R2.2.2.1] at z
        have g0 : g = false := by
          cases g with
          | false => rfl
          | true => exact absurd z (by decide)
        subst g0
        have h : ∀ v', gX v v' q false → K (some (.int 0)) (xfill F v' 0 (wM0 0)) := h
        refine xcall (sp_fails F (va_up v2 0 (va_up (v2 0) 10 (v2 0 10 - 1))) ?_)
        exact h _ R3.off
      · have z : ¬ v2 0 14 = 0 := z
        rw [R2.2.2.1] at z
        have g1 : g = true := by
          cases g with
          | false => exact absurd rfl z
          | true => rfl
        subst g1
        refine xcall (sp_byteAt F (va_up v2 0 (va_up (v2 0) 10 (v2 0 10 - 1))) q (R3.I I) R3.2.2.2 _ R3.2.1 ?_)
        rw [R3.bt]
        refine br_n (fun c2 => ?_) (fun c2 => ?_)
        · have c2 : ¬ btM F v q = 41 := c2
          have h : ∀ v', gX v v' (if (true && btM F v q == 41) then (r, q + 1, true) else (0, q, false)).2.1 (if (true && btM F v q == 41) then (r, q + 1, true) else (0, q, false)).2.2 → K (some (.int (if (true && btM F v q == 41) then (r, q + 1, true) else (0, q, false)).1)) (xfill F v' 0 (wM0 0)) := h
          rw [beq_false_of_ne c2] at h
          have h : ∀ v', gX v v' q false → K (some (.int 0)) (xfill F v' 0 (wM0 0)) := h
          refine xcall (sp_fails F (va_up v2 0 (va_up (v2 0) 10 (v2 0 10 - 1))) ?_)
          exact h _ R3.off
        · have c2 : btM F v q = 41 := c2
          have q5 : q < 50 := btM_in I (fun z => by rw [z] at c2; exact absurd c2 (by decide))
          have h : ∀ v', gX v v' (if (true && btM F v q == 41) then (r, q + 1, true) else (0, q, false)).2.1 (if (true && btM F v q == 41) then (r, q + 1, true) else (0, q, false)).2.2 → K (some (.int (if (true && btM F v q == 41) then (r, q + 1, true) else (0, q, false)).1)) (xfill F v' 0 (wM0 0)) := h
          rw [c2] at h
          have h : ∀ v', gX v v' (q + 1) true → K (some (.int r)) (xfill F v' 0 (wM0 0)) := h
          exact h (A1 (va_up v2 0 (va_up (v2 0) 10 (v2 0 10 - 1)))) (R3.adv q5)
    have cl0 : ∀ K2 : xKo, (∀ v2, gX v1 v2 (grF F v n 0 (o + 1) (p + 1)).2.1 (grF F v n 0 (o + 1) (p + 1)).2.2 → K2 (some (.int (grF F v n 0 (o + 1) (p + 1)).1)) (xfill F v2 0 (wM0 0))) → G_gram n 0 [.ref 0] (xfill F v1 0 (wM0 0)) K2 := fun K2 k => f0 F v1 K2 (p + 1) J1 J2 J4 (fun v2 R2 => by rw [J5] at R2 ⊢; exact k v2 R2)
    have cl5 : ∀ K2 : xKo, (∀ v2, gX v1 v2 (grF F v n 5 (o + 1) (p + 1)).2.1 (grF F v n 5 (o + 1) (p + 1)).2.2 → K2 (some (.int (grF F v n 5 (o + 1) (p + 1)).1)) (xfill F v2 0 (wM0 0))) → G_gram n 5 [.ref 0] (xfill F v1 0 (wM0 0)) K2 := fun K2 k => f5 F v1 K2 (p + 1) J1 J2 J4 (fun v2 R2 => by rw [J5] at R2 ⊢; exact k v2 R2)
    have bk0 := fun c1 v2 R2 => not c1 _ _ _ v2 rfl R2
    have bk5 := fun c1 v2 R2 => par c1 _ _ _ v2 rfl R2
    rw [ev1] at cl0 cl5 bk0 bk5
    refine br_n (fun c1 => ?_) (fun c1 => ?_)
    · refine xcall (cl5 _ (fun v2 R2 => ?_))
      exact hP _ _ _ _ _ (bk5 c1 v2 R2)
    · refine xcall (cl0 _ (fun v2 R2 => ?_))
      exact hP _ _ _ _ _ (bk0 c1 v2 R2)
  refine xM_go rfl 200 [(39, [0, 1])] fun P hP => ?_
  refine xcall (sp_byteAt F v p I p50 _ R0.2.1 ?_)
  refine xcall (sp_isDigit _ (fun dg => ?_) (fun dg => ?_))
  · refine br_c (fun _ => ?_) (fun z => absurd rfl z)
    refine br_c (fun a => ?_) (fun a1 => ?_)
    · exact hP _ _ _ _ _ (k39 dg (Or.inl a))
    have a1 : ¬ btM F v p = 33 := a1
    refine br_c (fun a => ?_) (fun a2 => ?_)
    · exact hP _ _ _ _ _ (k39 dg (Or.inr a))
    have a2 : ¬ btM F v p = 40 := a2
    unfold facG at h
    rw [dg, if_neg (by decide), if_neg (fun z => z.elim a1 a2)] at h
    refine xcall (sp_named F v I v p R0 _ (btM_in I) (fun v' R => ?_))
    exact h v' R
  · refine br_c (fun z => absurd z (by decide)) (fun _ => ?_)
    unfold facG at h
    rw [dg, if_pos rfl] at h
    refine xcall (sp_number F v I v p R0 (fun v' R => ?_))
    exact h v' R
theorem gx_up {n o : Nat} (h : gXpec 0 n o) : gXpec 5 (n + 5) o := gx_whole (gx_both (gx_compared (gx_sum (gx_product h))))
theorem gx_all : ∀ (d o l : Nat), o + d = 5 → gXpec 0 (l + 6 * d + 1) o := by
  intro d
  induction d with
  | zero => exact fun o l e => gx_factor (by omega) (fun z => by omega)
  | succ d ih =>
    intro o l e
    have q1 := ih (o + 1) (l + 5) (by omega)
    have q2 := gx_up (ih (o + 1) l (by omega))
    rw [show l + 6 * d + 1 + 5 = l + 6 * (d + 1) by omega] at q2
    rw [show l + 5 + 6 * d + 1 = l + 6 * (d + 1) by omega] at q1
    exact gx_factor (by omega) (fun _ => ⟨q1, q2⟩)
theorem gx_text60 : gXpec 5 60 0 := gx_up (gx_all 5 0 24 (by omega))
end
section
/-! ===== the tried side: the reader, exactly ===== -/
def emL (c : List Int32) (x : Int32) : List Int32 := if c.length < 50 then c ++ [x] else c
def hoL (h : List Int32) (x : Int32) : List Int32 := if h.length < 50 then x :: h else h
def rkV (x : Int32) : Int32 := if x = 37 then 5 else if x = 38 then 2 else if x = 42 then 5 else if x = 43 then 4 else if x = 45 then 4 else if x = 47 then 5 else if x = 60 then 3 else if x = 61 then 3 else if x = 62 then 3 else if x = 124 then 1 else 0
/-- what is read, what is held (the top first), what is open -/
abbrev rdT : Type := List Int32 × List Int32 × Int32
def cnL (c : List Int32) : List Int32 → Int32 → rdT
  | [], o => (c, [], o)
  | x :: r, o => if x = 33 then cnL (emL c 20033) r (o - 1) else (c, x :: r, o)
def rlL (k : Int32) (c : List Int32) (o : Int32) : List Int32 → rdT
  | [] => (c, [], o)
  | x :: r => if k ≤ rkV x then rlL k (emL c (20000 + x)) o r else (c, x :: r, o)
def rdR (F v : xS) (q : rdT) (dg : Int32) (w : Bool) : Prop := (v 0 1 = nI q.1.length ∧ q.1.length ≤ 50 ∧ ∀ i, i < q.1.length → F 1 i = q.1.getD i 0) ∧ (v 0 3 = nI q.2.1.length ∧ q.2.1.length ≤ 50 ∧ ∀ i, i < q.2.1.length → F 2 i = q.2.1.reverse.getD i 0) ∧ v 0 4 = q.2.2 ∧ v 0 5 = dg ∧ v 0 6 = b2i w
theorem getD_app {c : List Int32} {x : Int32} {i : Nat} (h : i < c.length) : (c ++ [x]).getD i 0 = c.getD i 0 := by
  rw [List.getD_eq_getElem?_getD, List.getD_eq_getElem?_getD, List.getElem?_append_left h]
theorem getD_last {c : List Int32} {x : Int32} : (c ++ [x]).getD c.length 0 = x := by
  rw [List.getD_eq_getElem?_getD, List.getElem?_append_right (Nat.le_refl _), Nat.sub_self]
  rfl
theorem sx_emit (F v : xS) (q : rdT) (dg : Int32) (w : Bool) (R : rdR F v q dg w) (x : Int32) {K : xKo} (h : ∀ F' v', rdR F' v' (emL q.1 x, q.2) dg w → K none (xfill F' v' 0 (wR0 0))) : C_R_emit [.ref 0, .int x] (xfill F v 0 (wR0 0)) K := by
  obtain ⟨⟨a1, a2, a3⟩, b, d⟩ := R
  refine xM_go rfl 60 [] fun P hP => ?_
  refine br_c (fun a => ?_) (fun a => ?_)
  · have a : nI 50 ≤ v 0 1 := a
    rw [a1, nI_leI (by omega) (by omega)] at a
    refine h F v ?_
    rw [show emL q.1 x = q.1 from if_neg (by omega)]
    exact ⟨⟨a1, a2, a3⟩, b, d⟩
  · have a : ¬ nI 50 ≤ v 0 1 := a
    rw [a1, nI_leI (by omega) (by omega)] at a
    have l : q.1.length < 50 := by omega
    have e1 : nat (v 0 1) = q.1.length := by rw [a1]; exact nI_clamp (by omega)
    refine ⟨by show vp_in (v 0 1) 50; rw [a1]; exact vp_in_nI l (by omega), ?_⟩
    refine h (va_up F 1 (upd (F 1) (nat (v 0 1)) x)) (va_up v 0 (va_up (v 0) 1 (v 0 1 + 1))) ?_
    rw [show emL q.1 x = q.1 ++ [x] from if_pos l]
    refine ⟨⟨?_, ?_, fun i hi => ?_⟩, b, d⟩
    · show v 0 1 + 1 = nI (q.1 ++ [x]).length
      rw [a1, nI_1, List.length_append]
      rfl
    · show (q.1 ++ [x]).length ≤ 50
      rw [List.length_append]
      exact l
    · have hi : i < (q.1 ++ [x]).length := hi
      rw [List.length_append] at hi
      have hi : i < q.1.length + 1 := hi
      show upd (F 1) (nat (v 0 1)) x i = (q.1 ++ [x]).getD i 0
      rw [e1]
      by_cases e : i = q.1.length
      · rw [e, pk_us, getD_last]
      · rw [pk_un e, getD_app (by omega)]
        exact a3 i (by omega)
theorem sx_hold (F v : xS) (q : rdT) (dg : Int32) (w : Bool) (R : rdR F v q dg w) (x : Int32) {K : xKo} (h : ∀ F' v', rdR F' v' (q.1, hoL q.2.1 x, q.2.2) dg w → K none (xfill F' v' 0 (wR0 0))) : C_R_hold [.ref 0, .int x] (xfill F v 0 (wR0 0)) K := by
  obtain ⟨a, ⟨b1, b2, b3⟩, d⟩ := R
  refine xM_go rfl 60 [] fun P hP => ?_
  refine br_c (fun z => ?_) (fun z => ?_)
  · have z : nI 50 ≤ v 0 3 := z
    rw [b1, nI_leI (by omega) (by omega)] at z
    refine h F v ?_
    rw [show hoL q.2.1 x = q.2.1 from if_neg (by omega)]
    exact ⟨a, ⟨b1, b2, b3⟩, d⟩
  · have z : ¬ nI 50 ≤ v 0 3 := z
    rw [b1, nI_leI (by omega) (by omega)] at z
    have l : q.2.1.length < 50 := by omega
    have e1 : nat (v 0 3) = q.2.1.length := by rw [b1]; exact nI_clamp (by omega)
    refine ⟨by show vp_in (v 0 3) 50; rw [b1]; exact vp_in_nI l (by omega), ?_⟩
    refine h (va_up F 2 (upd (F 2) (nat (v 0 3)) x)) (va_up v 0 (va_up (v 0) 3 (v 0 3 + 1))) ?_
    rw [show hoL q.2.1 x = x :: q.2.1 from if_pos l]
    refine ⟨a, ⟨?_, ?_, fun i hi => ?_⟩, d⟩
    · show v 0 3 + 1 = nI (x :: q.2.1).length
      rw [b1, nI_1]
      rfl
    · show q.2.1.length + 1 ≤ 50
      omega
    · have hi : i < q.2.1.length + 1 := hi
      show upd (F 2) (nat (v 0 3)) x i = (x :: q.2.1).reverse.getD i 0
      rw [e1, List.reverse_cons]
      by_cases e : i = q.2.1.length
      · rw [e, pk_us]
        have z := getD_last (c := q.2.1.reverse) (x := x)
        rw [List.length_reverse] at z
        exact z.symm
      · rw [pk_un e, getD_app (by rw [List.length_reverse]; omega)]
        exact b3 i (by omega)
theorem sx_rankOf (x : Int32) {K : xKo} (h : K (some (.int (rkV x))) []) : C_R_rankOf [.int x] [] K := by
  unfold rkV at h
  refine xM_go rfl 60 [] fun P hP => ?_
  refine ⟨fun a => ?_, fun n0 => ?_⟩
  · rw [if_pos a] at h; exact h
  rw [if_neg n0] at h
  refine ⟨fun a => ?_, fun n1 => ?_⟩
  · rw [if_pos a] at h; exact h
  rw [if_neg n1] at h
  refine ⟨fun a => ?_, fun n2 => ?_⟩
  · rw [if_pos a] at h; exact h
  rw [if_neg n2] at h
  refine ⟨fun a => ?_, fun n3 => ?_⟩
  · rw [if_pos a] at h; exact h
  rw [if_neg n3] at h
  refine ⟨fun a => ?_, fun n4 => ?_⟩
  · rw [if_pos a] at h; exact h
  rw [if_neg n4] at h
  refine ⟨fun a => ?_, fun n5 => ?_⟩
  · rw [if_pos a] at h; exact h
  rw [if_neg n5] at h
  refine ⟨fun a => ?_, fun n6 => ?_⟩
  · rw [if_pos a] at h; exact h
  rw [if_neg n6] at h
  refine ⟨fun a => ?_, fun n7 => ?_⟩
  · rw [if_pos a] at h; exact h
  rw [if_neg n7] at h
  refine ⟨fun a => ?_, fun n8 => ?_⟩
  · rw [if_pos a] at h; exact h
  rw [if_neg n8] at h
  refine ⟨fun a => ?_, fun n9 => ?_⟩
  · rw [if_pos a] at h; exact h
  rw [if_neg n9] at h
  exact h
theorem rd_top {F v : xS} {c r : List Int32} {x o dg : Int32} {w : Bool} (R : rdR F v (c, x :: r, o) dg w) : ¬ v 0 3 ≤ 0 ∧ vp_in (v 0 3 - 1) 50 ∧ nat (v 0 3 - 1) = r.length ∧ F 2 (nat (v 0 3 - 1)) = x ∧ v 0 3 - 1 = nI r.length := by
  obtain ⟨-, ⟨b1, b2, b3⟩, -⟩ := R
  have b1 : v 0 3 = nI (r.length + 1) := b1
  have b2 : r.length + 1 ≤ 50 := b2
  have e : v 0 3 - 1 = nI r.length := by rw [b1, nI_pred]
  have n : nat (nI r.length) = r.length := nI_clamp (by omega)
  refine ⟨?_, ?_, ?_, ?_, e⟩
  · rw [b1, show (0 : Int32) = nI 0 from rfl, nI_leI (by omega) (by omega)]
    omega
  · rw [e]; exact vp_in_nI (by omega) (by omega)
  · rw [e]; exact n
  · rw [e, n]
    have z := b3 r.length (by show r.length < r.length + 1; omega)
    have z2 := getD_last (c := r.reverse) (x := x)
    rw [List.length_reverse] at z2
    rw [z]
    show (x :: r).reverse.getD r.length 0 = x
    rw [List.reverse_cons]
    exact z2
theorem rd_pop {F v : xS} {c r : List Int32} {x o dg : Int32} {w : Bool} (R : rdR F v (c, x :: r, o) dg w) (u : Int32) : rdR F (va_up v 0 (va_up (va_up (v 0) 4 u) 3 (v 0 3 - 1))) (c, r, u) dg w := by
  have T := rd_top R
  obtain ⟨a, ⟨b1, b2, b3⟩, d1, d2, d3⟩ := R
  refine ⟨a, ⟨T.2.2.2.2, ?_, fun i hi => ?_⟩, rfl, d2, d3⟩
  · have b2 : r.length + 1 ≤ 50 := b2
    show r.length ≤ 50
    omega
  · have z := b3 i (by show i < r.length + 1; have hi : i < r.length := hi; omega)
    have z : F 2 i = (x :: r).reverse.getD i 0 := z
    rw [List.reverse_cons, getD_app (by rw [List.length_reverse]; exact hi)] at z
    exact z
end
section
/-! ===== the tried side: the reader, byte by byte ===== -/
set_option maxRecDepth 100000 in
theorem sx_closeNots (dg : Int32) (w : Bool) {K : xKo} : ∀ (hl : List Int32) (F v : xS) (c : List Int32) (o : Int32), rdR F v (c, hl, o) dg w → (∀ F' v', rdR F' v' (cnL c hl o) dg w → K none (xfill F' v' 0 (wR0 0))) → xWP pg_R_closeNots K 0 [(0, .ref 0)] [] (xfill F v 0 (wR0 0)) (0, 0) := by
  intro hl
  induction hl with
  | nil =>
    intro F v c o R h
    have e : v 0 3 = 0 := R.2.1.1
    refine xWP_go 100 [(0, [0])] fun P hP => ?_
    refine br_c (fun _ => h F v R) (fun z => ?_)
    have z : ¬ v 0 3 ≤ 0 := z
    rw [e] at z
    exact absurd (by decide) z
  | cons x r ih =>
    intro F v c o R h
    have T := rd_top R
    refine xWP_go 100 [(0, [0])] fun P hP => ?_
    refine br_c (fun z => absurd z T.1) (fun _ => ?_)
    refine ⟨T.2.1, ?_⟩
    refine br_n (fun a => ?_) (fun a => ?_)
    · have a : ¬ F 2 (nat (v 0 3 - 1)) = 33 := a
      rw [T.2.2.2.1] at a
      rw [show cnL c (x :: r) o = (c, x :: r, o) from if_neg a] at h
      exact h F v R
    · have a : F 2 (nat (v 0 3 - 1)) = 33 := a
      rw [T.2.2.2.1] at a
      rw [show cnL c (x :: r) o = cnL (emL c 20033) r (o - 1) from if_pos a] at h
      refine xcall (sx_emit F v _ dg w R _ (fun F' v' R' => ?_))
      have e4 : v' 0 4 = o := R'.2.2.1
      refine hP _ _ _ _ _ ?_
      have q := ih F' _ (emL c 20033) (o - 1) (rd_pop R' (o - 1)) h
      rw [← e4] at q
      exact q
theorem sx_release (k dg : Int32) (w : Bool) {K : xKo} : ∀ (hl : List Int32) (F v : xS) (c : List Int32) (o : Int32), rdR F v (c, hl, o) dg w → (∀ F' v', rdR F' v' (rlL k c o hl) dg w → K none (xfill F' v' 0 (wR0 0))) → xWP pg_R_release K 0 [(0, .ref 0), (1, .int k)] [] (xfill F v 0 (wR0 0)) (0, 0) := by
  intro hl
  induction hl with
  | nil =>
    intro F v c o R h
    have e : v 0 3 = 0 := R.2.1.1
    refine xWP_go 100 [(0, [0, 1])] fun P hP => ?_
    refine br_c (fun _ => h F v R) (fun z => ?_)
    have z : ¬ v 0 3 ≤ 0 := z
    rw [e] at z
    exact absurd (by decide) z
  | cons x r ih =>
    intro F v c o R h
    have T := rd_top R
    refine xWP_go 100 [(0, [0, 1])] fun P hP => ?_
    refine br_c (fun z => absurd z T.1) (fun _ => ?_)
    refine ⟨T.2.1, ?_⟩
    refine xcall (sx_rankOf _ ?_)
    refine br_c (fun a => ?_) (fun a => ?_)
    · have a : rkV (F 2 (nat (v 0 3 - 1))) < k := a
      rw [T.2.2.2.1, xlt] at a
      rw [show rlL k c o (x :: r) = (c, x :: r, o) from if_neg (fun z => by rw [xle] at z; omega)] at h
      exact h F v R
    · have a : ¬ rkV (F 2 (nat (v 0 3 - 1))) < k := a
      rw [T.2.2.2.1, xlt] at a
      rw [show rlL k c o (x :: r) = rlL k (emL c (20000 + x)) o r from if_pos (by rw [xle]; omega)] at h
      refine ⟨T.2.1, ?_⟩
      refine xcall (sx_emit F v _ dg w R _ (fun F' v' R' => ?_))
      have R' : rdR F' v' (emL c (20000 + F 2 (nat (v 0 3 - 1))), x :: r, o) dg w := R'
      rw [T.2.2.2.1] at R'
      have e4 : v' 0 4 = o := R'.2.2.1
      refine hP _ _ _ _ _ ?_
      have q := ih F' _ (emL c (20000 + x)) o (rd_pop R' o) h
      rw [← e4] at q
      exact q
theorem sxc_closeNots {F v : xS} {q : rdT} {dg : Int32} {w : Bool} (R : rdR F v q dg w) {K : xKo} (h : ∀ F' v', rdR F' v' (cnL q.1 q.2.1 q.2.2) dg w → K none (xfill F' v' 0 (wR0 0))) : C_R_closeNots [.ref 0] (xfill F v 0 (wR0 0)) K := xM_at rfl (sx_closeNots dg w q.2.1 F v q.1 q.2.2 R h)
theorem sxc_release {F v : xS} {q : rdT} {dg : Int32} {w : Bool} (R : rdR F v q dg w) (k : Int32) {K : xKo} (h : ∀ F' v', rdR F' v' (rlL k q.1 q.2.2 q.2.1) dg w → K none (xfill F' v' 0 (wR0 0))) : C_R_release [.ref 0, .int k] (xfill F v 0 (wR0 0)) K := xM_at rfl (sx_release k dg w q.2.1 F v q.1 q.2.2 R h)
theorem rd_I {F v : xS} {q : rdT} {dg : Int32} {w : Bool} (R : rdR F v q dg w) : rI v := ⟨⟨_, R.1.2.1, R.1.1⟩, ⟨_, R.2.1.2.1, R.2.1.1⟩⟩
/-- the last of what is read, grown by a digit -/
def growL (c : List Int32) (d : Int32) : List Int32 := c.dropLast ++ [c.getD (c.length - 1) 0 * 10 + d]
/-- behind a ) -/
def rdB (r : rdT) : Option (rdT × Int32 × Bool) := match r with
  | (_, [], _) => none
  | (c, _ :: r, o) => some ((c, r, o - 1), 0, false)
/-- behind a sign that compares -/
def rdC (b : Int32) (r : rdT) : Option (rdT × Int32 × Bool) := match r with
  | (c, [], o) => some ((c, hoL [] b, o), 0, true)
  | (c, x :: r, o) => if rkV x = 3 then none else some ((c, hoL (x :: r) b, o), 0, true)
def rdS (u b : Int32) (q : rdT) (dg : Int32) (w : Bool) : Option (rdT × Int32 × Bool) :=
  if isDg b then
    if w then some ((emL q.1 (b - 48), q.2), 1, false)
    else if dg = 0 then none else if dg = 4 then none else if q.1.length = 0 then none else some ((growL q.1 (b - 48), q.2), dg + 1, false)
  else if w then
    if b = nmC u 0 then some ((emL q.1 10000, q.2), 0, false)
    else if b = nmC u 1 then some ((emL q.1 10001, q.2), 0, false)
    else if b = nmC u 2 then some ((emL q.1 10002, q.2), 0, false)
    else if b = 33 ∨ b = 40 then (if q.2.2 = 5 then none else some ((q.1, hoL q.2.1 b, q.2.2 + 1), 0, true))
    else none
  else if b = 41 then
    rdB (rlL 1 (cnL q.1 q.2.1 q.2.2).1 (cnL q.1 q.2.1 q.2.2).2.2 (cnL q.1 q.2.1 q.2.2).2.1)
  else if rkV b < 1 then none
  else if rkV b = 3 then
    rdC b (rlL 4 (cnL q.1 q.2.1 q.2.2).1 (cnL q.1 q.2.1 q.2.2).2.2 (cnL q.1 q.2.1 q.2.2).2.1)
  else some (((rlL (rkV b) (cnL q.1 q.2.1 q.2.2).1 (cnL q.1 q.2.1 q.2.2).2.2 (cnL q.1 q.2.1 q.2.2).2.1).1, hoL (rlL (rkV b) (cnL q.1 q.2.1 q.2.2).1 (cnL q.1 q.2.1 q.2.2).2.2 (cnL q.1 q.2.1 q.2.2).2.1).2.1 b, (rlL (rkV b) (cnL q.1 q.2.1 q.2.2).1 (cnL q.1 q.2.1 q.2.2).2.2 (cnL q.1 q.2.1 q.2.2).2.1).2.2), 0, true)
/-- what comes behind a byte: it goes on, or it is refused -/
def rdK (K : xKo) (s : Option (rdT × Int32 × Bool)) : Prop := match s with
  | none => ∀ F' v', rI v' → K (some (.int 0)) (xfill F' v' 0 (wR0 0))
  | some s => ∀ F' v', rdR F' v' s.1 s.2.1 s.2.2 → K (some (.int 1)) (xfill F' v' 0 (wR0 0))
theorem rdR.dg {F v : xS} {q : rdT} {dg : Int32} {w : Bool} (R : rdR F v q dg w) (d : Int32) : rdR F (va_up v 0 (va_up (v 0) 5 d)) q d w := ⟨R.1, R.2.1, R.2.2.1, rfl, R.2.2.2.2⟩
theorem rdR.w {F v : xS} {q : rdT} {dg : Int32} {w : Bool} (R : rdR F v q dg w) (g : Bool) : rdR F (va_up v 0 (va_up (v 0) 6 (b2i g))) q dg g := ⟨R.1, R.2.1, R.2.2.1, R.2.2.2.1, rfl⟩
end
section
/-! ===== the tried side: a whole tape read ===== -/
theorem growL_len {c : List Int32} {d : Int32} (h : ¬ c.length = 0) : (growL c d).length = c.length := by
  unfold growL
  rw [List.length_append, List.length_dropLast]
  show c.length - 1 + 1 = c.length
  omega
theorem growL_get {c : List Int32} {d : Int32} {i : Nat} (h : i < c.length - 1) : (growL c d).getD i 0 = c.getD i 0 := by
  unfold growL
  rw [getD_app (by rw [List.length_dropLast]; exact h)]
  rw [List.getD_eq_getElem?_getD, List.getD_eq_getElem?_getD, List.getElem?_dropLast, if_pos h]
theorem growL_last {c : List Int32} {d : Int32} (h : ¬ c.length = 0) : (growL c d).getD (c.length - 1) 0 = c.getD (c.length - 1) 0 * 10 + d := by
  unfold growL
  have z := getD_last (c := c.dropLast) (x := c.getD (c.length - 1) 0 * 10 + d)
  rw [List.length_dropLast] at z
  exact z
set_option maxRecDepth 100000 in
theorem sx_readDigit (F v : xS) (q : rdT) (dg : Int32) (w : Bool) (R : rdR F v q dg w) (u b : Int32) (hb : isDg b = true) {K : xKo} (h : rdK K (rdS u b q dg w)) : C_R_readDigit [.ref 0, .int (b - 48)] (xfill F v 0 (wR0 0)) K := by
  unfold rdS at h
  rw [hb, if_pos rfl] at h
  have e6 : v 0 6 = b2i w := R.2.2.2.2
  have e5 : v 0 5 = dg := R.2.2.2.1
  have e1 : v 0 1 = nI q.1.length := R.1.1
  have l50 : q.1.length ≤ 50 := R.1.2.1
  refine xM_go rfl 100 [] fun P hP => ?_
  refine br_c (fun z => ?_) (fun z => ?_)
  · have z : v 0 6 = 0 := z
    have wf : w = false := by
      rw [e6] at z
      cases w with
      | false => rfl
      | true => exact absurd z (by decide)
    subst wf
    rw [if_neg (by decide)] at h
    refine br_c (fun a => ?_) (fun a => ?_)
    · have a : v 0 5 = 0 := a
      rw [e5] at a
      rw [if_pos a] at h
      exact ⟨Or.inl rfl, h F v (rd_I R)⟩
    have a : ¬ v 0 5 = 0 := a
    rw [e5] at a
    rw [if_neg a] at h
    refine br_c (fun a2 => ?_) (fun a2 => ?_)
    · have a2 : v 0 5 = 4 := a2
      rw [e5] at a2
      rw [if_pos a2] at h
      exact ⟨Or.inl rfl, h F v (rd_I R)⟩
    have a2 : ¬ v 0 5 = 4 := a2
    rw [e5] at a2
    rw [if_neg a2] at h
    refine br_n (fun a3 => ?_) (fun a3 => ?_)
    · have a3 : ¬ v 0 1 = 0 := a3
      rw [e1] at a3
      have n3 : ¬ q.1.length = 0 := fun y => a3 (by rw [y]; rfl)
      rw [if_neg n3] at h
      obtain ⟨k, hk⟩ : ∃ k, q.1.length = k + 1 := ⟨q.1.length - 1, by omega⟩
      have ei : v 0 1 - 1 = nI k := by rw [e1, hk, nI_pred]
      have ni : nat (v 0 1 - 1) = k := by rw [ei]; exact nI_clamp (by omega)
      have b1 : vp_in (v 0 1 - 1) 50 := by rw [ei]; exact vp_in_nI (by omega) (by omega)
      refine ⟨b1, ?_⟩
      refine ⟨b1, ?_⟩
      have fin : rdR (va_up F 1 (upd (F 1) (nat (v 0 1 - 1)) (F 1 (nat (v 0 1 - 1)) * 10 + (b - 48)))) (va_up v 0 (va_up (v 0) 5 (v 0 5 + 1))) (growL q.1 (b - 48), q.2) (dg + 1) false := by
        refine ⟨⟨?_, ?_, fun i hi => ?_⟩, R.2.1, R.2.2.1, by show v 0 5 + 1 = dg + 1; rw [e5], e6⟩
        · show v 0 1 = nI (growL q.1 (b - 48)).length
          rw [growL_len n3]; exact e1
        · show (growL q.1 (b - 48)).length ≤ 50
          rw [growL_len n3]; exact l50
        · have hi : i < (growL q.1 (b - 48)).length := hi
          rw [growL_len n3] at hi
          show upd (F 1) (nat (v 0 1 - 1)) (F 1 (nat (v 0 1 - 1)) * 10 + (b - 48)) i = (growL q.1 (b - 48)).getD i 0
          rw [ni]
          by_cases e : i = k
          · rw [e, pk_us, R.1.2.2 k (by omega)]
            have z := growL_last (c := q.1) (d := b - 48) n3
            rw [show q.1.length - 1 = k by omega] at z
            exact z.symm
          · rw [pk_un e, growL_get (by omega)]
            exact R.1.2.2 i hi
      exact ⟨Or.inr rfl, h _ _ fin⟩
    · have a3 : v 0 1 = 0 := a3
      rw [e1] at a3
      have n3 : q.1.length = 0 := by
        by_cases y : q.1.length = 0
        · exact y
        · exact absurd a3 (nI_ne0 (by omega) (by omega))
      rw [if_pos n3] at h
      exact ⟨Or.inl rfl, h F v (rd_I R)⟩
  · have z : ¬ v 0 6 = 0 := z
    have wt : w = true := by
      rw [e6] at z
      cases w with
      | false => exact absurd rfl z
      | true => rfl
    subst wt
    rw [if_pos rfl] at h
    refine xcall (sx_emit F v q dg true R _ (fun F' v' R' => ?_))
    refine ⟨Or.inl rfl, ?_⟩
    have fin := (R'.w false).dg 1
    exact ⟨Or.inr rfl, h F' (va_up v' 0 (va_up (va_up (v' 0) 6 0) 5 1)) fin⟩
theorem xNM_at {u : Int32} {i : Nat} (hu : u = 0 ∨ u = 1) (hi : i < 3) : vp_in (3 * u + nI i) 6 ∧ xNM (nat (3 * u + nI i)) = nmC u i := by
  rcases (show i = 0 ∨ i = 1 ∨ i = 2 by omega) with e | e | e
  all_goals subst e
  all_goals rcases hu with e | e
  all_goals subst e
  all_goals exact ⟨vin (by decide), by decide⟩
set_option maxRecDepth 100000 in
theorem sx_readStart (F v : xS) (q : rdT) (R : rdR F v q 0 true) (u b : Int32) (hu : u = 0 ∨ u = 1) (hb : isDg b = false) {K : xKo} (h : rdK K (rdS u b q 0 true)) : C_R_readStart [.ref 0, .int b, .int u] (xfill F v 0 (wR0 0)) K := by
  unfold rdS at h
  rw [hb, if_neg (by decide), if_pos rfl] at h
  have e4 : v 0 4 = q.2.2 := R.2.2.1
  have hit : ∀ (i : Nat) (P2 : Prop), i < 3 → (∀ F' v', rdR F' v' (emL q.1 (10000 + nI i), q.2) 0 false → K (some (.int 1)) (xfill F' v' 0 (wR0 0))) → True := fun _ _ _ _ => trivial
  have fin : ¬ b = nmC u 0 → ¬ b = nmC u 1 → ¬ b = nmC u 2 → xWP pg_R_readStart K 42 [(0, .ref 0), (1, .int b), (2, .int u), (3, .int (nI 3))] [] (xfill F v 0 (wR0 0)) (0, 0) := by
    intro n0 n1 n2
    rw [if_neg n0, if_neg n1, if_neg n2] at h
    have go : (b = 33 ∨ b = 40) → ¬ q.2.2 = 5 → ∀ K2 : xKo, (∀ F' v', rdR F' v' (q.1, hoL q.2.1 b, q.2.2) 0 true → K2 none (xfill F' v' 0 (wR0 0))) → C_R_hold [.ref 0, .int b] (xfill F v 0 (wR0 0)) K2 := fun _ _ K2 k => sx_hold F v q 0 true R b k
    have leaf : (b = 33 ∨ b = 40) → ¬ q.2.2 = 5 → ∀ F' v', rdR F' v' (q.1, hoL q.2.1 b, q.2.2) 0 true → K (some (.int 1)) (xfill F' (va_up v' 0 (va_up (v' 0) 4 (v' 0 4 + 1))) 0 (wR0 0)) := by
      intro c1 c2 F' v' R'
      rw [if_pos c1, if_neg c2] at h
      exact h F' _ ⟨R'.1, R'.2.1, by show v' 0 4 + 1 = q.2.2 + 1; rw [R'.2.2.1], R'.2.2.2⟩
    have no : (b = 33 ∨ b = 40) → q.2.2 = 5 → K (some (.int 0)) (xfill F v 0 (wR0 0)) := by
      intro c1 c2
      rw [if_pos c1, if_pos c2] at h
      exact h F v (rd_I R)
    refine xWP_go 100 [] fun P hP => ?_
    refine br_c (fun c1 => ?_) (fun c1 => ?_)
    · have c1 : b = 33 := c1
      refine br_n (fun c2 => ?_) (fun c2 => ?_)
      · have c2 : ¬ v 0 4 = 5 := c2
        rw [e4] at c2
        refine xcall (go (Or.inl c1) c2 _ (fun F' v' R' => ?_))
        exact ⟨Or.inr rfl, leaf (Or.inl c1) c2 F' v' R'⟩
      · have c2 : v 0 4 = 5 := c2
        rw [e4] at c2
        exact ⟨Or.inl rfl, no (Or.inl c1) c2⟩
    have c1 : ¬ b = 33 := c1
    refine br_n (fun c3 => ?_) (fun c3 => ?_)
    · have c3 : ¬ b = 40 := c3
      rw [if_neg (fun z => z.elim c1 c3)] at h
      exact ⟨Or.inl rfl, h F v (rd_I R)⟩
    · have c3 : b = 40 := c3
      refine br_n (fun c2 => ?_) (fun c2 => ?_)
      · have c2 : ¬ v 0 4 = 5 := c2
        rw [e4] at c2
        refine xcall (go (Or.inr c3) c2 _ (fun F' v' R' => ?_))
        exact ⟨Or.inr rfl, leaf (Or.inr c3) c2 F' v' R'⟩
      · have c2 : v 0 4 = 5 := c2
        rw [e4] at c2
        exact ⟨Or.inl rfl, no (Or.inr c3) c2⟩
  have name : ∀ i : Nat, i < 3 → (∀ j, j < i → ¬ b = nmC u j) → b = nmC u i → ∀ F' v', rdR F' v' (emL q.1 (10000 + nI i), q.2) 0 true → K (some (.int 1)) (xfill F' (va_up v' 0 (va_up (v' 0) 6 0)) 0 (wR0 0)) := by
    intro i hi hn he F' v' R'
    rcases (show i = 0 ∨ i = 1 ∨ i = 2 by omega) with e | e | e
    all_goals subst e
    · rw [if_pos he] at h
      exact h F' _ (R'.w false)
    · rw [if_neg (hn 0 (by omega)), if_pos he] at h
      exact h F' _ (R'.w false)
    · rw [if_neg (hn 0 (by omega)), if_neg (hn 1 (by omega)), if_pos he] at h
      exact h F' _ (R'.w false)
  have key : ∀ (d i : Nat), i + d = 3 → (∀ j, j < i → ¬ b = nmC u j) → xWP pg_R_readStart K 2 [(0, .ref 0), (1, .int b), (2, .int u), (3, .int (nI i))] [] (xfill F v 0 (wR0 0)) (0, 0) := by
    intro d
    induction d with
    | zero =>
      intro i hi hn
      have hi : i = 3 := hi
      subst hi
      refine xWP_go 100 [(2, [0, 1, 2, 3]), (42, [0, 1, 2, 3])] fun P hP => ?_
      refine br_c (fun _ => ?_) (fun z => absurd (by decide) z)
      refine hP _ _ _ _ _ ?_
      exact fin (hn 0 (by omega)) (hn 1 (by omega)) (hn 2 (by omega))
    | succ d ih =>
      intro i hi hn
      have X := xNM_at (i := i) hu (by omega)
      refine xWP_go 100 [(2, [0, 1, 2, 3]), (42, [0, 1, 2, 3])] fun P hP => ?_
      refine br_c (fun z => ?_) (fun _ => ?_)
      · have z : nI 3 ≤ nI i := z
        rw [nI_leI (by omega) (by omega)] at z
        omega
      refine ⟨rfl, X.1, ?_⟩
      refine br_n (fun a => ?_) (fun a => ?_)
      · have a : ¬ b = xNM (nat (3 * u + nI i)) := a
        rw [X.2] at a
        refine hP _ _ _ _ _ ?_
        rw [nI_1]
        refine ih (i + 1) (by omega) (fun j hj => ?_)
        by_cases e : j = i
        · rw [e]; exact a
        · exact hn j (by omega)
      · have a : b = xNM (nat (3 * u + nI i)) := a
        rw [X.2] at a
        refine xcall (sx_emit F v q 0 true R _ (fun F' v' R' => ?_))
        refine ⟨Or.inl rfl, ?_⟩
        exact ⟨Or.inr rfl, name i (by omega) hn a F' v' R'⟩
  refine xM_go rfl 100 [(2, [0, 1, 2, 3])] fun P hP => ?_
  refine hP _ _ _ _ _ ?_
  exact key 3 0 (by omega) (fun j hj => absurd hj (Nat.not_lt_zero j))
end
section
/-! ===== the tried side: signs, and a whole tape ===== -/
set_option maxRecDepth 100000 in
theorem sx_readNext (F v : xS) (q : rdT) (R : rdR F v q 0 false) (u b : Int32) (hb : isDg b = false) {K : xKo} (h : rdK K (rdS u b q 0 false)) : C_R_readNext [.ref 0, .int b] (xfill F v 0 (wR0 0)) K := by
  unfold rdS at h
  rw [hb, if_neg (by decide), if_neg (by decide)] at h
  refine xM_go rfl 100 [] fun P hP => ?_
  refine xcall (sxc_closeNots R (fun F1 v1 R1 => ?_))
  refine br_n (fun c1 => ?_) (fun c1 => ?_)
  · have c1 : ¬ b = 41 := c1
    rw [if_neg c1] at h
    refine xcall (sx_rankOf b ?_)
    refine br_c (fun c2 => ?_) (fun c2 => ?_)
    · have c2 : 1 ≤ rkV b := c2
      rw [if_neg (fun z => by rw [xlt] at z; rw [xle] at c2; omega)] at h
      refine br_n (fun c3 => ?_) (fun c3 => ?_)
      · have c3 : ¬ rkV b = 3 := c3
        rw [if_neg c3] at h
        refine xcall (sxc_release R1 (rkV b) (fun F2 v2 R2 => ?_))
        refine xcall (sx_hold F2 v2 _ 0 false R2 b (fun F3 v3 R3 => ?_))
        refine ⟨Or.inr rfl, ?_⟩
        exact ⟨Or.inr rfl, h F3 _ (R3.w true)⟩
      · have c3 : rkV b = 3 := c3
        rw [if_pos c3] at h
        rw [c3]
        obtain ⟨r4, er4⟩ : ∃ r4, r4 = (rlL 4 (cnL q.1 q.2.1 q.2.2).1 (cnL q.1 q.2.1 q.2.2).2.2 (cnL q.1 q.2.1 q.2.2).2.1) := ⟨_, rfl⟩
        rw [← er4] at h
        refine xcall (sxc_release R1 4 (fun F2 v2 R2 => ?_))
        have R2 : rdR F2 v2 r4 0 false := by rw [er4]; exact R2
        obtain ⟨c, hl, o⟩ := r4
        cases hl with
        | nil =>
          have e3 : v2 0 3 = 0 := R2.2.1.1
          refine br_c (fun _ => ?_) (fun z => ?_)
          · refine xcall (sx_hold F2 v2 (c, [], o) 0 false R2 b (fun F3 v3 R3 => ?_))
            refine ⟨Or.inr rfl, ?_⟩
            exact ⟨Or.inr rfl, h F3 _ (R3.w true)⟩
          · have z : ¬ v2 0 3 ≤ 0 := z
            rw [e3] at z
            exact absurd (by decide) z
        | cons x r =>
          have T := rd_top R2
          refine br_c (fun z => absurd z T.1) (fun _ => ?_)
          refine ⟨T.2.1, ?_⟩
          refine xcall (sx_rankOf _ ?_)
          have h : rdK K (if rkV x = 3 then none else some ((c, hoL (x :: r) b, o), 0, true)) := h
          refine br_n (fun c4 => ?_) (fun c4 => ?_)
          · have c4 : ¬ rkV (F2 2 (nat (v2 0 3 - 1))) = 3 := c4
            rw [T.2.2.2.1] at c4
            rw [if_neg c4] at h
            refine xcall (sx_hold F2 v2 (c, x :: r, o) 0 false R2 b (fun F3 v3 R3 => ?_))
            refine ⟨Or.inr rfl, ?_⟩
            exact ⟨Or.inr rfl, h F3 _ (R3.w true)⟩
          · have c4 : rkV (F2 2 (nat (v2 0 3 - 1))) = 3 := c4
            rw [T.2.2.2.1] at c4
            rw [if_pos c4] at h
            exact ⟨Or.inl rfl, h F2 v2 (rd_I R2)⟩
    · have c2 : ¬ 1 ≤ rkV b := c2
      rw [if_pos (by rw [xlt]; rw [xle] at c2; omega)] at h
      exact ⟨Or.inl rfl, h F1 v1 (rd_I R1)⟩
  · have c1 : b = 41 := c1
    rw [if_pos c1] at h
    have cr : ∀ K2 : xKo, rdK K2 (rdB (rlL 1 (cnL q.1 q.2.1 q.2.2).1 (cnL q.1 q.2.1 q.2.2).2.2 (cnL q.1 q.2.1 q.2.2).2.1)) → C_R_closeRound [.ref 0] (xfill F1 v1 0 (wR0 0)) K2 := by
      intro K2 k
      obtain ⟨r4, er4⟩ : ∃ r4, r4 = (rlL 1 (cnL q.1 q.2.1 q.2.2).1 (cnL q.1 q.2.1 q.2.2).2.2 (cnL q.1 q.2.1 q.2.2).2.1) := ⟨_, rfl⟩
      rw [← er4] at k
      refine xM_go rfl 100 [] fun P hP => ?_
      refine xcall (sxc_release R1 1 (fun F2 v2 R2 => ?_))
      have R2 : rdR F2 v2 r4 0 false := by rw [er4]; exact R2
      obtain ⟨c, hl, o⟩ := r4
      cases hl with
      | nil =>
        have e3 : v2 0 3 = 0 := R2.2.1.1
        refine br_n (fun z => absurd e3 z) (fun _ => ?_)
        exact ⟨Or.inl rfl, k F2 v2 (rd_I R2)⟩
      | cons x r =>
        have T := rd_top R2
        have e4 : v2 0 4 = o := R2.2.2.1
        refine br_n (fun _ => ?_) (fun z => absurd (by rw [show v2 0 3 = 0 from z]; decide) T.1)
        refine ⟨Or.inr rfl, ?_⟩
        have q2 := k F2 _ (rd_pop R2 (o - 1))
        rw [← e4] at q2
        exact q2
    have hh : ∀ s, rdK K s → rdK (fun r w => (match r with
      | some (.int x) => (x = 0 ∨ x = 1) ∧ K (some (.int x)) w
      | _ => K r w)) s := by
      intro s k
      cases s with
      | none => exact fun F' v' J => ⟨Or.inl rfl, k F' v' J⟩
      | some s => exact fun F' v' J => ⟨Or.inr rfl, k F' v' J⟩
    refine xcall (cr _ ?_)
    cases hs : rdB (rlL 1 (cnL q.1 q.2.1 q.2.2).1 (cnL q.1 q.2.1 q.2.2).2.2 (cnL q.1 q.2.1 q.2.2).2.1) with
    | none =>
      rw [hs] at h
      exact fun F' v' J => ⟨Or.inl rfl, h F' v' J⟩
    | some s =>
      rw [hs] at h
      exact fun F' v' J => ⟨Or.inr rfl, h F' v' J⟩
set_option maxRecDepth 100000 in
theorem sx_goesOn (F v : xS) (q : rdT) (dg : Int32) (w : Bool) (R : rdR F v q dg w) (u b : Int32) (hu : u = 0 ∨ u = 1) {K : xKo} (h : rdK K (rdS u b q dg w)) : C_R_goesOn [.ref 0, .int b, .int u] (xfill F v 0 (wR0 0)) K := by
  have out : isDg b = false → rdK K (rdS u b q dg w) → rdK K (rdS u b q 0 w) := by
    intro hb k
    have e : rdS u b q dg w = rdS u b q 0 w := by
      unfold rdS
      rw [hb]
      rfl
    rw [← e]
    exact k
  have R0 := R.dg 0
  have e6 : v 0 6 = b2i w := R.2.2.2.2
  have fin : isDg b = false → ∀ P : Nat → xL → List Value → xW → xB → Prop, True := fun _ _ => trivial
  have nd : isDg b = false → xWP pg_R_goesOn K 21 [(0, .ref 0), (1, .int b), (2, .int u)] [] (xfill F v 0 (wR0 0)) (0, 0) := by
    intro hb
    have h0 := out hb h
    refine xWP_go 100 [] fun P hP => ?_
    refine br_c (fun z => ?_) (fun z => ?_)
    · have z : v 0 6 = 0 := z
      have wf : w = false := by
        rw [e6] at z
        cases w with
        | false => rfl
        | true => exact absurd z (by decide)
      subst wf
      refine xcall (sx_readNext F (va_up v 0 (va_up (v 0) 5 0)) q R0 u b hb ?_)
      cases hs : rdS u b q 0 false with
      | none =>
        rw [hs] at h0
        exact fun F' v' J => ⟨Or.inl rfl, h0 F' v' J⟩
      | some s =>
        rw [hs] at h0
        exact fun F' v' J => ⟨Or.inr rfl, h0 F' v' J⟩
    · have z : ¬ v 0 6 = 0 := z
      have wt : w = true := by
        rw [e6] at z
        cases w with
        | false => exact absurd rfl z
        | true => rfl
      subst wt
      refine xcall (sx_readStart F (va_up v 0 (va_up (v 0) 5 0)) q R0 u b hu hb ?_)
      cases hs : rdS u b q 0 true with
      | none =>
        rw [hs] at h0
        exact fun F' v' J => ⟨Or.inl rfl, h0 F' v' J⟩
      | some s =>
        rw [hs] at h0
        exact fun F' v' J => ⟨Or.inr rfl, h0 F' v' J⟩
  refine xM_go rfl 100 [(21, [0, 1, 2])] fun P hP => ?_
  refine br_c (fun a => ?_) (fun a => ?_)
  · have a : b < 48 := a
    rw [xlt, show (48 : Int32).toInt = 48 by decide] at a
    exact hP _ _ _ _ _ (nd (decide_eq_false (by omega)))
  have a : ¬ b < 48 := a
  rw [xlt, show (48 : Int32).toInt = 48 by decide] at a
  refine br_c (fun a2 => ?_) (fun a2 => ?_)
  · have a2 : 57 < b := a2
    rw [xlt, show (57 : Int32).toInt = 57 by decide] at a2
    exact hP _ _ _ _ _ (nd (decide_eq_false (by omega)))
  have a2 : ¬ 57 < b := a2
  rw [xlt, show (57 : Int32).toInt = 57 by decide] at a2
  refine xcall (sx_readDigit F v q dg w R u b (decide_eq_true ⟨by omega, by omega⟩) ?_)
  cases hs : rdS u b q dg w with
  | none =>
    rw [hs] at h
    exact fun F' v' J => ⟨Or.inl rfl, h F' v' J⟩
  | some s =>
    rw [hs] at h
    exact fun F' v' J => ⟨Or.inr rfl, h F' v' J⟩
end
section
/-! ===== the tried side: where a tape is refused, what it becomes ===== -/
abbrev rdU : Type := rdT × Int32 × Bool
def rdA (u : Int32) (tp : Nat → Int32) : Nat → Nat → rdU → Nat × Option rdU
  | 0, i, s => (i, some s)
  | d + 1, i, s => match rdS u (tp i) s.1 s.2.1 s.2.2 with
    | none => (i, none)
    | some s2 => rdA u tp d (i + 1) s2
def rdE (r : rdT) : Option (List Int32) := match r with
  | (c, [], _) => some c
  | _ => none
def rdW (s : rdU) : Option (List Int32) := if s.2.2 then none else rdE (rlL 1 (cnL s.1.1 s.1.2.1 s.1.2.2).1 (cnL s.1.1 s.1.2.1 s.1.2.2).2.2 (cnL s.1.1 s.1.2.1 s.1.2.2).2.1)
def rd0 : rdU := (([], [], 0), 0, true)
/-- the code of a tape, or where it is refused -/
def rdF (u : Int32) (tp : Nat → Int32) (n : Nat) : Option (List Int32) × Nat := match rdA u tp n 0 rd0 with
  | (i, none) => (none, i)
  | (_, some s) => (rdW s, n)
/-- a code laid in the reader's row -/
def cdR (F v : xS) (c : List Int32) : Prop := v 0 1 = nI c.length ∧ c.length ≤ 50 ∧ ∀ i, i < c.length → F 1 i = c.getD i 0
set_option maxRecDepth 100000 in
theorem sx_isWhole (F v : xS) (s : rdU) (R : rdR F v s.1 s.2.1 s.2.2) {K : xKo} (h0 : rdW s = none → ∀ F' v', rI v' → K (some (.int 0)) (xfill F' v' 0 (wR0 0))) (h1 : ∀ c, rdW s = some c → ∀ F' v', rI v' → cdR F' v' c → K (some (.int 1)) (xfill F' v' 0 (wR0 0))) : C_R_isWhole [.ref 0] (xfill F v 0 (wR0 0)) K := by
  obtain ⟨q, dg, w⟩ := s
  have R : rdR F v q dg w := R
  have e6 : v 0 6 = b2i w := R.2.2.2.2
  refine xM_go rfl 100 [] fun P hP => ?_
  refine br_c (fun z => ?_) (fun z => ?_)
  · have z : v 0 6 = 0 := z
    have wf : w = false := by
      rw [e6] at z
      cases w with
      | false => rfl
      | true => exact absurd z (by decide)
    subst wf
    obtain ⟨r4, er4⟩ : ∃ r4, r4 = (rlL 1 (cnL q.1 q.2.1 q.2.2).1 (cnL q.1 q.2.1 q.2.2).2.2 (cnL q.1 q.2.1 q.2.2).2.1) := ⟨_, rfl⟩
    have ew : rdW (q, dg, false) = rdE r4 := by
      rw [er4]
      unfold rdW
      exact if_neg Bool.false_ne_true
    rw [ew] at h0 h1
    refine xcall (sxc_closeNots R (fun F1 v1 R1 => ?_))
    refine xcall (sxc_release R1 1 (fun F2 v2 R2 => ?_))
    have R2 : rdR F2 v2 r4 dg false := by rw [er4]; exact R2
    obtain ⟨c, hl, o⟩ := r4
    cases hl with
    | nil =>
      have e3 : v2 0 3 = 0 := R2.2.1.1
      refine br_n (fun z => absurd e3 z) (fun _ => ?_)
      exact ⟨Or.inr rfl, h1 c rfl F2 v2 (rd_I R2) R2.1⟩
    | cons x r =>
      have T := rd_top R2
      refine br_n (fun _ => ?_) (fun z => absurd (by rw [show v2 0 3 = 0 from z]; decide) T.1)
      exact ⟨Or.inl rfl, h0 rfl F2 v2 (rd_I R2)⟩
  · have z : ¬ v 0 6 = 0 := z
    have wt : w = true := by
      rw [e6] at z
      cases w with
      | false => exact absurd rfl z
      | true => rfl
    subst wt
    have ew : rdW (q, dg, true) = none := by
      unfold rdW
      exact if_pos rfl
    exact ⟨Or.inl rfl, h0 ew F v (rd_I R)⟩
set_option maxRecDepth 100000 in
theorem sx_faultOf (F v : xS) (g : Nat → Int32) (n : Nat) (hn : n ≤ 50) (u : Int32) (hu : u = 0 ∨ u = 1) {K : xKo} (h0 : (rdF u g n).1 = none → ∀ F' v', rI v' → K (some (.int (nI (rdF u g n).2))) (xfill F' v' 0 (wR0 0) ++ [.inl (50, g)])) (h1 : ∀ c, (rdF u g n).1 = some c → ∀ F' v', rI v' → cdR F' v' c → K (some (.int (-1))) (xfill F' v' 0 (wR0 0) ++ [.inl (50, g)])) : C_R_faultOf [.ref 0, .ref 3, .int (nI n), .int u] ((xfill F v 0 (wR0 0)) ++ [.inl (50, g)]) K := by
  have key : ∀ (d i : Nat) (F v : xS) (s : rdU), i + d = n → rdR F v s.1 s.2.1 s.2.2 → rdA u g d i s = rdA u g n 0 rd0 → xWP pg_R_faultOf K 36 [(0, .ref 0), (1, .ref 3), (2, .int (nI n)), (3, .int u), (4, .int (nI n)), (5, .int (nI i))] [] ((xfill F v 0 (wR0 0)) ++ [.inl (50, g)]) (0, 0) := by
    intro d
    induction d with
    | zero =>
      intro i F v s hi R e
      have e : (i, some s) = rdA u g n 0 rd0 := e
      have ef : rdF u g n = (rdW s, n) := by
        unfold rdF
        rw [← e]
      rw [ef] at h0 h1
      refine xWP_go 100 [(36, [0, 1, 2, 3, 4, 5])] fun P hP => ?_
      refine br_c (fun _ => ?_) (fun z => ?_)
      · refine xcall (sx_isWhole F v s R (fun ew F2 v2 J => ?_) (fun c ew F2 v2 J C => ?_))
        · refine br_c (fun _ => h0 ew F2 v2 J) (fun z => absurd rfl z)
        · refine br_c (fun z => absurd z (by decide)) (fun _ => h1 c ew F2 v2 J C)
      · have z : ¬ nI n ≤ nI i := z
        rw [nI_leI (by omega) (by omega)] at z
        omega
    | succ d ih =>
      intro i F v s hi R e
      have e : (match rdS u (g i) s.1 s.2.1 s.2.2 with
        | none => (i, none)
        | some s2 => rdA u g d (i + 1) s2) = rdA u g n 0 rd0 := e
      have ei : nat (nI i) = i := nI_clamp (by omega)
      refine xWP_go 100 [(36, [0, 1, 2, 3, 4, 5])] fun P hP => ?_
      refine br_c (fun z => ?_) (fun _ => ?_)
      · have z : nI n ≤ nI i := z
        rw [nI_leI (by omega) (by omega)] at z
        omega
      refine ⟨vp_in_nI (by omega) (by omega), ?_⟩
      have eg : g (Int32.toNatClampNeg (nI i)) = g i := by rw [show Int32.toNatClampNeg (nI i) = i from ei]
      have gk : ∀ K2 : xKo, rdK K2 (rdS u (g i) s.1 s.2.1 s.2.2) → C_R_goesOn [.ref 0, .int (g (Int32.toNatClampNeg (nI i))), .int u] (xfill F v 0 (wR0 0)) K2 := by
        intro K2 k
        rw [eg]
        exact sx_goesOn F v s.1 s.2.1 s.2.2 R u (g i) hu k
      refine xcall (gk _ ?_)
      cases hs : rdS u (g i) s.1 s.2.1 s.2.2 with
      | none =>
        rw [hs] at e
        have e : (i, none) = rdA u g n 0 rd0 := e
        have ef : rdF u g n = (none, i) := by
          unfold rdF
          rw [← e]
        rw [ef] at h0
        intro F' v' J
        refine br_n (fun z => absurd rfl z) (fun _ => ?_)
        exact h0 rfl F' v' J
      | some s2 =>
        rw [hs] at e
        have e : rdA u g d (i + 1) s2 = rdA u g n 0 rd0 := e
        intro F' v' J
        refine br_n (fun _ => ?_) (fun z => absurd z (by decide))
        refine hP _ _ _ _ _ ?_
        rw [nI_1]
        exact ih (i + 1) F' v' s2 (by omega) J e
  refine xM_go rfl 100 [(36, [0, 1, 2, 3, 4, 5])] fun P hP => ?_
  refine ⟨Or.inr rfl, ?_⟩
  refine xcall (sp_min _ _ ?_)
  rw [show (if nI n ≤ Int32.ofNat 50 then nI n else Int32.ofNat 50) = nI n from if_pos (nI_le hn (by decide))]
  refine hP _ _ _ _ _ ?_
  exact key n 0 F (va_up v 0 (va_up (va_up (va_up (va_up (va_up (v 0) 1 0) 3 0) 4 0) 5 0) 6 1)) rd0 (by omega) ⟨⟨rfl, Nat.zero_le _, fun i hi => absurd hi (Nat.not_lt_zero i)⟩, ⟨rfl, Nat.zero_le _, fun i hi => absurd hi (Nat.not_lt_zero i)⟩, rfl, rfl, rfl⟩ rfl
end
