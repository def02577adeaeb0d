/-! ===== the reference: what a text gives, exactly ===== -/
/-- a value, where the reader stands, whether it is good so far -/
abbrev gVal : Type := Int32 × Nat × Bool
def isDg (c : Int32) : Bool := decide (48 ≤ c.toInt ∧ c.toInt ≤ 57)
def numL (bt : Nat → Int32) : Nat → Int32 → Nat → Int32 × Nat
  | 0, x, p => (x, p)
  | d + 1, x, p => if isDg (bt p) then numL bt d (10 * x + bt p - 48) (p + 1) else (x, p)
def nmC (u : Int32) (i : Nat) : Int32 := if u = 0 then (if i = 0 then 100 else if i = 1 then 98 else 109) else (if i = 0 then 110 else if i = 1 then 120 else 98)
theorem nmC0 {u : Int32} (h : u = 0) : nmC u 0 = 100 ∧ nmC u 1 = 98 ∧ nmC u 2 = 109 := by subst h; decide
theorem nmC1 {u : Int32} (h : ¬ u = 0) : nmC u 0 = 110 ∧ nmC u 1 = 120 ∧ nmC u 2 = 98 := by
  unfold nmC
  rw [if_neg h, if_neg h, if_neg h]
  decide
def nmG (u A B C c : Int32) (p : Nat) : gVal := if c = nmC u 0 then (A, p + 1, true) else if c = nmC u 1 then (B, p + 1, true) else if c = nmC u 2 then (C, p + 1, true) else (0, p, false)
def lpG (op : Int32 → Bool) (app : Int32 → Int32 → Int32 → Int32) (bt : Nat → Int32) (f : Nat → gVal) : Nat → gVal → gVal
  | 0, r => r
  | m + 1, r => if r.2.2 && op (bt r.2.1) then lpG op app bt f m (app (bt r.2.1) r.1 (f (r.2.1 + 1)).1, (f (r.2.1 + 1)).2) else r
def opMul (c : Int32) : Bool := c == 42 || c == 47 || c == 37
def apMul (c l r : Int32) : Int32 := if c = 42 then l * r else if r = 0 then 0 else if c = 47 then l / r else l - l / r * r
def opAdd (c : Int32) : Bool := c == 43 || c == 45
def apAdd (c l r : Int32) : Int32 := if c = 43 then l + r else l - r
def opCmp (c : Int32) : Bool := c == 60 || c == 61 || c == 62
def apCmp (c l r : Int32) : Int32 := if c = 60 then (if r ≤ l then 0 else 1) else if c = 61 then (if l = r then 1 else 0) else (if l ≤ r then 0 else 1)
def opAnd (c : Int32) : Bool := c == 38
def apAnd (_ l r : Int32) : Int32 := if l = 0 then 0 else if r = 0 then 0 else 1
def opOr (c : Int32) : Bool := c == 124
def apOr (_ l r : Int32) : Int32 := if l = 0 then (if r = 0 then 0 else 1) else 1
def facG (u A B C : Int32) (bt : Nat → Int32) (f w : Nat → gVal) (o p : Nat) : gVal :=
  if isDg (bt p) then ((numL bt 4 0 p).1, (numL bt 4 0 p).2, true)
  else if bt p = 33 ∨ bt p = 40 then
    if o = 5 then (0, p, false)
    else if bt p = 33 then (if (f (p + 1)).1 = 0 then 1 else 0, (f (p + 1)).2)
    else if (w (p + 1)).2.2 && bt (w (p + 1)).2.1 == 41 then ((w (p + 1)).1, (w (p + 1)).2.1 + 1, true)
    else (0, (w (p + 1)).2.1, false)
  else nmG u A B C (bt p) p
def grG (u A B C : Int32) (bt : Nat → Int32) : Nat → Nat → Nat → Nat → gVal
  | 0, _, _, p => (0, p, false)
  | n + 1, 0, o, p => facG u A B C bt (grG u A B C bt n 0 (o + 1)) (grG u A B C bt n 5 (o + 1)) o p
  | n + 1, 1, o, p => lpG opMul apMul bt (grG u A B C bt n 0 o) 50 (grG u A B C bt n 0 o p)
  | n + 1, 2, o, p => lpG opAdd apAdd bt (grG u A B C bt n 1 o) 50 (grG u A B C bt n 1 o p)
  | n + 1, 3, o, p => if (grG u A B C bt n 2 o p).2.2 && opCmp (bt (grG u A B C bt n 2 o p).2.1) then (apCmp (bt (grG u A B C bt n 2 o p).2.1) (grG u A B C bt n 2 o p).1 (grG u A B C bt n 2 o ((grG u A B C bt n 2 o p).2.1 + 1)).1, (grG u A B C bt n 2 o ((grG u A B C bt n 2 o p).2.1 + 1)).2) else grG u A B C bt n 2 o p
  | n + 1, 4, o, p => lpG opAnd apAnd bt (grG u A B C bt n 3 o) 50 (grG u A B C bt n 3 o p)
  | n + 1, _, o, p => lpG opOr apOr bt (grG u A B C bt n 4 o) 50 (grG u A B C bt n 4 o p)
def b2i (g : Bool) : Int32 := if g then 1 else 0
/-- the byte at a place of the text that is read -/
def btM (F v : xS) (k : Nat) : Int32 := if (k : Int) < (v 0 9).toInt then F 1 (nat (130 + 50 * v 0 7 + nI k)) else -1
/-- fields behind a reading -/
def gX (v v' : xS) (q : Nat) (g : Bool) : Prop := (∀ j, ¬ j = 8 → ¬ j = 14 → v' 0 j = v 0 j) ∧ v' 0 8 = nI q ∧ v' 0 14 = b2i g ∧ q ≤ 50
theorem gX.tr {v v' v2 : xS} {q p : Nat} {g d : Bool} (h : gX v v' q g) (k : gX v' v2 p d) : gX v v2 p d := ⟨fun j a b => (k.1 j a b).trans (h.1 j a b), k.2⟩
theorem gX.I {v v' : xS} {q : Nat} {g : Bool} (I : gI v) (h : gX v v' q g) : gI v' := ⟨by rw [h.1 7 (by decide) (by decide)]; exact I.1, ⟨q, h.2.2.2, h.2.1⟩, by rw [h.1 9 (by decide) (by decide)]; exact I.2.2⟩
theorem gX.bt {F v v' : xS} {q : Nat} {g : Bool} (h : gX v v' q g) : btM F v' = btM F v := by
  funext k
  unfold btM
  rw [h.1 7 (by decide) (by decide), h.1 9 (by decide) (by decide)]
theorem gX.n {v v' : xS} {q : Nat} {g : Bool} (h : gX v v' q g) : nat (v' 0 8) = q := by rw [h.2.1]; exact nI_clamp (by have := h.2.2.2; omega)
theorem gX.adv {v v' : xS} {q : Nat} {g : Bool} (h : gX v v' q g) (l : q < 50) : gX v (A1 v') (q + 1) g := by
  refine ⟨fun j n8 n14 => ?_, ?_, ?_, by omega⟩
  · exact (show va_up (v' 0) 8 (v' 0 8 + 1) j = v' 0 j from if_neg n8).trans (h.1 j n8 n14)
  · show v' 0 8 + 1 = nI (q + 1)
    rw [h.2.1, nI_1]
  · exact h.2.2.1
theorem gX.off {v v' : xS} {q : Nat} {g : Bool} (h : gX v v' q g) : gX v (A0 v') q false := ⟨fun j n8 n14 => (show va_up (v' 0) 14 0 j = v' 0 j from if_neg n14).trans (h.1 j n8 n14), h.2.1, rfl, h.2.2.2⟩
theorem btM_in {F v : xS} {k : Nat} (I : gI v) (h : ¬ btM F v k = -1) : k < 50 := by
  unfold btM at h
  by_cases c : (k : Int) < (v 0 9).toInt
  · have := I.2.2; omega
  · rw [if_neg c] at h; exact absurd rfl h
theorem sp_byteAt (F v : xS) (q : Nat) (I : gI v) (hq : q ≤ 50) (k : Int32) (ek : k = nI q) {K : xKo} (h : K (some (.int (btM F v q))) (xfill F v 0 (wM0 0))) : C_M_byteAt [.ref 0, .int k] (xfill F v 0 (wM0 0)) K := by
  subst ek
  have eq : (nI q).toInt = q := nI_toInt (by omega)
  have I3 := I.2.2
  unfold btM at h
  refine xM_go rfl 100 [] fun P hP => ?_
  refine br_c (fun a => ?_) (fun a => ?_)
  · have a : v 0 9 ≤ nI q := a
    rw [xle, eq] at a
    rw [if_neg (by omega)] at h
    exact h
  · have a : ¬ v 0 9 ≤ nI q := a
    rw [xle, eq] at a
    have b : vp_in (130 + 50 * v 0 7 + nI q) 230 := by
      have hq : q < 50 := by omega
      rcases I.1 with e | e
      · rw [e, show (130 : Int32) + 50 * 0 = nI 130 by decide, nI_add]
        exact vp_in_nI (by omega) (by omega)
      · rw [e, show (130 : Int32) + 50 * 1 = nI 180 by decide, nI_add]
        exact vp_in_nI (by omega) (by omega)
    rw [if_pos (by omega)] at h
    refine ⟨b, ?_⟩
    exact h
theorem sp_isDigit (c : Int32) {K : xKo} (h0 : isDg c = false → K (some (.int 0)) []) (h1 : isDg c = true → K (some (.int 1)) []) : C_M_isDigit [.int c] [] K := by
  refine xM_go rfl 100 [] fun P hP => ?_
  refine xcall (sp_in _ _ _ (fun a => ?_) (fun a => ?_))
  · have a : ¬ ((48 : Int32).toInt ≤ c.toInt ∧ c.toInt ≤ (57 : Int32).toInt) := a
    rw [show (48 : Int32).toInt = 48 by decide, show (57 : Int32).toInt = 57 by decide] at a
    exact ⟨Or.inl rfl, h0 (decide_eq_false a)⟩
  · have a : (48 : Int32).toInt ≤ c.toInt ∧ c.toInt ≤ (57 : Int32).toInt := a
    rw [show (48 : Int32).toInt = 48 by decide, show (57 : Int32).toInt = 57 by decide] at a
    exact ⟨Or.inr rfl, h1 (decide_eq_true a)⟩
theorem dg_ne {c : Int32} (h : isDg c = true) : ¬ c = -1 := fun e => by rw [e] at h; exact absurd h (by decide)
set_option maxRecDepth 100000 in
theorem sp_number (F v : xS) (I : gI v) (v0 : xS) (p : Nat) (R : gX v0 v p true) {K : xKo} (h : ∀ v', gX v0 v' (numL (btM F v) 4 0 p).2 true → K (some (.int (numL (btM F v) 4 0 p).1)) (xfill F v' 0 (wM0 0))) : C_M_number [.ref 0] (xfill F v 0 (wM0 0)) K := by
  have key : ∀ (d i : Nat) (x : Int32) (q : Nat) (v' : xS), i + d = 4 → gX v v' q true → gX v0 v' q true → numL (btM F v) d x q = numL (btM F v) 4 0 p → xWP pg_M_number K 4 [(0, .ref 0), (1, .int x), (2, .int (nI i))] [] (xfill F v' 0 (wM0 0)) (0, 0) := by
    intro d
    induction d with
    | zero =>
      intro i x q v' hi R1 R e
      have hi : i = 4 := hi
      subst hi
      have e : (x, q) = numL (btM F v) 4 0 p := e
      rw [← e] at h
      refine xWP_go 100 [(4, [0, 1, 2])] fun P hP => ?_
      exact br_c (fun _ => h _ R) (fun z => absurd (by decide) z)
    | succ d ih =>
      intro i x q v' hi R1 R e
      have I' := R1.I I
      have q50 : q ≤ 50 := R.2.2.2
      have eb : btM F v' = btM F v := R1.bt
      refine xWP_go 100 [(4, [0, 1, 2])] fun P hP => ?_
      refine br_c (fun z => ?_) (fun _ => ?_)
      · have z : nI 4 ≤ nI i := z
        rw [nI_leI (by omega) (by omega)] at z
        omega
      refine xcall (sp_byteAt F v' q I' q50 _ R.2.1 ?_)
      rw [eb]
      refine xcall (sp_isDigit _ (fun dg => ?_) (fun dg => ?_))
      · refine br_c (fun _ => ?_) (fun z => absurd rfl z)
        have e : (if isDg (btM F v q) then numL (btM F v) d (10 * x + btM F v q - 48) (q + 1) else (x, q)) = numL (btM F v) 4 0 p := e
        rw [dg, if_neg (by decide)] at e
        rw [← e] at h
        exact h _ R
      refine br_c (fun z => absurd z (by decide)) (fun _ => ?_)
      have q5 : q < 50 := btM_in I (dg_ne dg)
      refine xcall (sp_byteAt F v' q I' q50 _ R.2.1 ?_)
      rw [eb]
      refine hP _ _ _ _ _ ?_
      rw [nI_1]
      have e : (if isDg (btM F v q) then numL (btM F v) d (10 * x + btM F v q - 48) (q + 1) else (x, q)) = numL (btM F v) 4 0 p := e
      rw [dg, if_pos rfl] at e
      exact ih (i + 1) _ (q + 1) (A1 v') (by omega) (R1.adv q5) (R.adv q5) e
  refine xM_go rfl 100 [(4, [0, 1, 2])] fun P hP => ?_
  refine hP _ _ _ _ _ ?_
  exact key 4 0 0 p v (by omega) ⟨fun _ _ _ => rfl, R.2⟩ R rfl
set_option maxRecDepth 100000 in
theorem sp_named (F v : xS) (I : gI v) (v0 : xS) (p : Nat) (R : gX v0 v p true) (c : Int32) (hc : ¬ c = -1 → p < 50) {K : xKo} (h : ∀ v', gX v0 v' (nmG (v 0 7) (v 0 11) (v 0 12) (v 0 13) c p).2.1 (nmG (v 0 7) (v 0 11) (v 0 12) (v 0 13) c p).2.2 → K (some (.int (nmG (v 0 7) (v 0 11) (v 0 12) (v 0 13) c p).1)) (xfill F v' 0 (wM0 0))) : C_M_named [.ref 0, .int c] (xfill F v 0 (wM0 0)) K := by
  have nm1 : ∀ i, c = nmC (v 0 7) i → ¬ c = -1 := by
    intro i e z
    rw [z] at e
    unfold nmC at e
    split at e
    · split at e
      · exact absurd e (by decide)
      split at e
      · exact absurd e (by decide)
      · exact absurd e (by decide)
    · split at e
      · exact absurd e (by decide)
      split at e
      · exact absurd e (by decide)
      · exact absurd e (by decide)
  have k73 : ∀ (x y z : Int32), x = (if c = nmC (v 0 7) 0 then 1 else 0) → y = (if c = nmC (v 0 7) 1 then 1 else 0) → z = (if c = nmC (v 0 7) 2 then 1 else 0) → xWP pg_M_named K 73 [(0, .ref 0), (1, .int c), (2, .int x), (3, .int y), (4, .int z)] [] (xfill F v 0 (wM0 0)) (0, 0) := by
    intro x y z hx hy hz
    by_cases c0 : c = nmC (v 0 7) 0
    · rw [if_pos c0] at hx
      subst hx
      rw [show nmG (v 0 7) (v 0 11) (v 0 12) (v 0 13) c p = (v 0 11, p + 1, true) from if_pos c0] at h
      refine xWP_go 100 [] fun P hP => ?_
      refine br_n (fun _ => ?_) (fun z => absurd z (by decide))
      refine br_c (fun z => absurd z (by decide)) (fun _ => ?_)
      exact h (A1 v) (R.adv (hc (nm1 0 c0)))
    rw [if_neg c0] at hx
    subst hx
    by_cases c1 : c = nmC (v 0 7) 1
    · rw [if_pos c1] at hy
      subst hy
      rw [show nmG (v 0 7) (v 0 11) (v 0 12) (v 0 13) c p = (v 0 12, p + 1, true) from (if_neg c0).trans (if_pos c1)] at h
      refine xWP_go 100 [] fun P hP => ?_
      refine br_n (fun z => absurd rfl z) (fun _ => ?_)
      refine br_n (fun _ => ?_) (fun z => absurd z (by decide))
      refine br_c (fun _ => ?_) (fun z => absurd rfl z)
      refine br_c (fun z => absurd z (by decide)) (fun _ => ?_)
      exact h (A1 v) (R.adv (hc (nm1 1 c1)))
    rw [if_neg c1] at hy
    subst hy
    by_cases c2 : c = nmC (v 0 7) 2
    · rw [if_pos c2] at hz
      subst hz
      rw [show nmG (v 0 7) (v 0 11) (v 0 12) (v 0 13) c p = (v 0 13, p + 1, true) from (if_neg c0).trans ((if_neg c1).trans (if_pos c2))] at h
      refine xWP_go 100 [] fun P hP => ?_
      refine br_n (fun z => absurd rfl z) (fun _ => ?_)
      refine br_n (fun z => absurd rfl z) (fun _ => ?_)
      refine br_n (fun _ => ?_) (fun z => absurd z (by decide))
      refine br_c (fun _ => ?_) (fun z => absurd rfl z)
      refine br_c (fun _ => ?_) (fun z => absurd rfl z)
      exact h (A1 v) (R.adv (hc (nm1 2 c2)))
    · rw [if_neg c2] at hz
      subst hz
      rw [show nmG (v 0 7) (v 0 11) (v 0 12) (v 0 13) c p = (0, p, false) from (if_neg c0).trans ((if_neg c1).trans (if_neg c2))] at h
      refine xWP_go 100 [] fun P hP => ?_
      refine br_n (fun z => absurd rfl z) (fun _ => ?_)
      refine br_n (fun z => absurd rfl z) (fun _ => ?_)
      refine br_n (fun z => absurd rfl z) (fun _ => ?_)
      refine xcall (sp_fails F v ?_)
      exact h _ R.off
  have k48 : ∀ (x : Int32) (y : Int32), x = (if c = nmC (v 0 7) 0 then 1 else 0) → y = (if c = nmC (v 0 7) 1 then 1 else 0) → xWP pg_M_named K 48 [(0, .ref 0), (1, .int c), (2, .int x), (3, .int y)] [] (xfill F v 0 (wM0 0)) (0, 0) := by
    intro x y hx hy
    refine xWP_go 100 [(24, [0, 1, 2]), (48, [0, 1, 2, 3]), (73, [0, 1, 2, 3, 4])] fun P hP => ?_
    refine br_n (fun un => ?_) (fun un => ?_)
    · have un : ¬ v 0 7 = 0 := un
      refine br_n (fun a => ?_) (fun a => ?_)
      · refine hP _ _ _ _ _ ?_
        exact k73 x y 0 hx hy (by rw [(nmC1 un).2.2, if_neg a])
      · refine hP _ _ _ _ _ ?_
        exact k73 x y 1 hx hy (by rw [(nmC1 un).2.2, if_pos a])
    · have un : v 0 7 = 0 := un
      refine br_n (fun a => ?_) (fun a => ?_)
      · refine hP _ _ _ _ _ ?_
        exact k73 x y 0 hx hy (by rw [(nmC0 un).2.2, if_neg a])
      · refine hP _ _ _ _ _ ?_
        exact k73 x y 1 hx hy (by rw [(nmC0 un).2.2, if_pos a])
  have k24 : ∀ (x : Int32), x = (if c = nmC (v 0 7) 0 then 1 else 0) → xWP pg_M_named K 24 [(0, .ref 0), (1, .int c), (2, .int x)] [] (xfill F v 0 (wM0 0)) (0, 0) := by
    intro x hx
    refine xWP_go 100 [(24, [0, 1, 2]), (48, [0, 1, 2, 3]), (73, [0, 1, 2, 3, 4])] fun P hP => ?_
    refine br_n (fun un => ?_) (fun un => ?_)
    · have un : ¬ v 0 7 = 0 := un
      refine br_n (fun a => ?_) (fun a => ?_)
      · refine hP _ _ _ _ _ ?_
        exact k48 x 0 hx (by rw [(nmC1 un).2.1, if_neg a])
      · refine hP _ _ _ _ _ ?_
        exact k48 x 1 hx (by rw [(nmC1 un).2.1, if_pos a])
    · have un : v 0 7 = 0 := un
      refine br_n (fun a => ?_) (fun a => ?_)
      · refine hP _ _ _ _ _ ?_
        exact k48 x 0 hx (by rw [(nmC0 un).2.1, if_neg a])
      · refine hP _ _ _ _ _ ?_
        exact k48 x 1 hx (by rw [(nmC0 un).2.1, if_pos a])
  refine xM_go rfl 100 [(24, [0, 1, 2]), (48, [0, 1, 2, 3]), (73, [0, 1, 2, 3, 4])] fun P hP => ?_
  refine br_n (fun un => ?_) (fun un => ?_)
  · have un : ¬ v 0 7 = 0 := un
    refine br_n (fun a => ?_) (fun a => ?_)
    · refine hP _ _ _ _ _ ?_
      exact k24 0 (by rw [(nmC1 un).1, if_neg a])
    · refine hP _ _ _ _ _ ?_
      exact k24 1 (by rw [(nmC1 un).1, if_pos a])
  · have un : v 0 7 = 0 := un
    refine br_n (fun a => ?_) (fun a => ?_)
    · refine hP _ _ _ _ _ ?_
      exact k24 0 (by rw [(nmC0 un).1, if_neg a])
    · refine hP _ _ _ _ _ ?_
      exact k24 1 (by rw [(nmC0 un).1, if_pos a])
