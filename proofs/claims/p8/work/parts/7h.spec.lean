/-! ===== answers and next states, exactly ===== -/
def z_hadBy (m t : Int32) (σ : xZ) : Int32 := if xin m 6 ∧ xin t 10 then eSet σ.1.1 σ.2.1 m t else -1000000001
def z_runsTo (c m t : Int32) (σ : xZ) : Int32 := if xin c (σ.1.1 6 1).toInt ∧ xin m 6 ∧ xin t 10 then eEnd σ.1.1 σ.2.1 m t (nat c) else -1000000001
def z_call (m t : Int32) (σ : xZ) : Int32 := if xin m 6 ∧ xin t 10 then (if nat (σ.1.1 6 2) < 9999 then eSet σ.1.1 σ.2.1 m t else -1000000003) else -1000000001
def y_call (m t : Int32) (σ : xZ) : xZ := if (xin m 6 ∧ xin t 10) ∧ nat (σ.1.1 6 2) < 9999 then ((clS σ.1.1, σ.1.2), ePlay σ.1.1 σ.2.1 m t, σ.2.2) else σ
def z_law (u a b c : Int32) (σ : xZ) : Int32 := if xin u 2 then σ.2.1.2.2 (nat u) a b c else -1000000001
def txA (r : Option (List Int32) × Nat) : Int32 := match r with
  | (some _, _) => 1
  | (none, i) => -10 - nI i
def nwL (u : Int32) (tp : xRw) (n : Nat) : xLw := fun a b c => clamp1 (grG u a b c (bY tp n) 60 5 0 0).1
def txX (u : Int32) (tp : xRw) (n : Nat) (X : xXt) (r : Option (List Int32) × Nat) : xXt := match r with
  | (some _, _) => (X.1, X.2.1, fun k => if k = nat u then nwL u tp n else X.2.2 k)
  | _ => X
def z_text (u : Int32) (σ : xZ) : Int32 := if xin u 2 then txA (rdF u (σ.1.1 4) (nat (σ.1.1 6 4))) else -1000000001
def y_text (u : Int32) (σ : xZ) : xZ := if xin u 2 then ((va_up σ.1.1 6 (upd (σ.1.1 6) 4 0), σ.1.2), txX u (σ.1.1 4) (nat (σ.1.1 6 4)) σ.2.1 (rdF u (σ.1.1 4) (nat (σ.1.1 6 4))), σ.2.2) else σ
def z_ofChild (c w : Int32) (σ : xZ) : Int32 := if xin c (σ.1.1 6 1).toInt then (if w = 0 then σ.1.1 2 (nat c) else if w = 1 then σ.1.1 3 (nat c) else if w = 2 then σ.2.1.1 0 (nat c) else if w = 3 then σ.2.1.1 1 (nat c) else if w = 4 then σ.2.1.1 2 (nat c) else if w = 5 then paceV (σ.1.1 2 (nat c)) (σ.1.1 3 (nat c)) (σ.1.1 6 2) σ.2.1.2.1 else if w = 6 then farV (σ.1.1 2 (nat c)) (σ.1.1 3 (nat c)) else -1000000001) else -1000000001
abbrev chOk (c w x : Int32) (σ : xZ) : Prop := (xin c (σ.1.1 6 1).toInt ∧ xin w 3) ∧ xin x (if w = 0 then 12 else 1000)
def z_change (c w x : Int32) (σ : xZ) : Int32 := if chOk c w x σ then σ.2.1.1 (nat w) (nat c) else -1000000001
def y_change (c w x : Int32) (σ : xZ) : xZ := if chOk c w x σ then (σ.1, (va_up σ.2.1.1 (nat w) (upd (σ.2.1.1 (nat w)) (nat c) x), σ.2.1.2), σ.2.2) else σ
def z_it (c : Int32) (σ : xZ) : Int32 := if c = -1 ∨ xin c (σ.1.1 6 1).toInt then σ.2.1.2.1 else -1000000001
def y_it (c : Int32) (σ : xZ) : xZ := if c = -1 ∨ xin c (σ.1.1 6 1).toInt then (σ.1, (σ.2.1.1, c, σ.2.1.2.2), σ.2.2) else σ
def y_child (m c : Int32) (σ : xZ) : xZ := if (xin m 70 ∧ xin c 12) ∧ nat (σ.1.1 6 1) < 7 then (g_child m c σ.1, (va_up σ.2.1.1 0 (upd (σ.2.1.1 0) (nat (σ.1.1 6 1)) c), σ.2.1.2), σ.2.2) else σ
def chkL (ch : Nat) (w h : xRw) : Nat → Nat → Int32
  | 0, _ => 0
  | d + 1, i => if i < ch ∧ w i = h i then chkL ch w h d (i + 1) else 1 + nI i
def z_check (σ : xZ) : Int32 := chkL (nat (σ.1.1 6 1)) (σ.1.1 5) (σ.2.1.1 1) (nat (σ.1.1 6 5)) 0
def y_check (σ : xZ) : xZ := (g_check σ.1, σ.2)
def z_count (w : Int32) (σ : xZ) : Int32 := if w = 0 then σ.1.1 6 0 else if w = 1 then σ.1.1 6 1 else if w = 2 then σ.1.1 6 2 else if w = 3 then σ.2.1.2.1 else if w = 4 then sumV (σ.2.1.1 1) (nat (σ.1.1 6 1)) else if w = 5 then sumV (σ.2.1.1 2) (nat (σ.1.1 6 1)) else if w = 6 then σ.1.1 6 4 else if w = 7 then σ.1.1 6 5 else if w = 8 then σ.1.2.2 6 1 else if w = 9 then σ.1.1 6 3 else -1000000001
def y_image (σ : xZ) : xZ := (g_image σ.1, σ.2.1, σ.2.1)
def y_restore (σ : xZ) : xZ := (g_restore σ.1, if σ.1.2.2 6 0 = 0 then σ.2 else (σ.2.2, σ.2.2))
def y_places (s : Int32) (σ : xZ) : xZ := if xin s 4 ∧ ¬ σ.1.2.2 5 (nat s) = 0 then (σ.1, (va_up σ.2.1.1 0 (fun j => if j < cntP (σ.1.2.2 (nat s)) (plN s σ.1) 0 then σ.1.2.2 (nat s) j else σ.2.1.1 0 j), σ.2.1.2), σ.2.2) else σ
/-- what comes behind a call: an answer and a next state -/
abbrev hKy (n : Nat) (σ' : xZ) (f : Int32) (K : xKo) : Prop := ∀ F' v', HR (n + 1) σ' F' v' → K (some (.int f)) (xfill F' v' 0 wH0)
abbrev mKy (n : Nat) (σ' : xZ) (f : Int32) (K : xKo) : Prop := ∀ F' v', MR (n + 1) σ' F' v' → K (some (.int f)) (xfill F' v' 0 (wM0 0))
theorem HR.no {n : Nat} {σ σ' : xZ} {F v : xS} {K : xKo} {f k : Int32} (R : HR n σ F v) (h : hKy n σ' f K) (x : Nat → Int32) (es : σ' = σ) (ef : f = k) : K (some (.int k)) (xfill (va_up F 69 x) v 0 wH0) := by
  subst ef
  subst es
  exact h _ _ (R.keep (tR.rf.fu rfl))
theorem MR.no {n : Nat} {σ σ' : xZ} {F v : xS} {K : xKo} {f k : Int32} (R : MR n σ F v) (h : mKy n σ' f K) (x : Nat → Int32) (es : σ' = σ) (ef : f = k) : K (some (.int k)) (xfill (va_up F 5 x) v 0 (wM0 0)) := by
  subst ef
  subst es
  exact h _ _ (R.keep (mR.rf.f3 (Or.inr (Or.inr rfl))))
/-- the street's counts of a state that is told -/
theorem HR.n1 {n : Nat} {σ : xZ} {F v : xS} (R : HR n σ F v) : v 1 2 = σ.1.1 6 0 ∧ v 1 8 = σ.1.1 6 1 ∧ v 1 10 = σ.1.1 6 2 ∧ v 1 11 = σ.1.1 6 3 ∧ v 1 14 = σ.1.1 6 4 ∧ v 1 16 = σ.1.1 6 5 := R.2.2.1.1.1
theorem MR.n1 {n : Nat} {σ : xZ} {F v : xS} (R : MR n σ F v) : F 1 3 = σ.1.1 6 0 ∧ F 1 2 = σ.1.1 6 1 ∧ F 1 0 = σ.1.1 6 2 ∧ F 1 1 = σ.1.1 6 3 ∧ F 1 4 = σ.1.1 6 4 ∧ F 1 5 = σ.1.1 6 5 := R.2.2.1.1.1
