/-! ===== the tried side: the reader, byte by byte ===== -/
set_option maxRecDepth 100000 in
theorem sx_closeNots (dg : Int32) (w : Bool) {K : xKo} : ∀ (hl : List Int32) (F v : xS) (c : List Int32) (o : Int32), rdR F v (c, hl, o) dg w → (∀ F' v', rdR F' v' (cnL c hl o) dg w → K none (xfill F' v' 0 (wR0 0))) → xWP pg_R_closeNots K 0 [(0, .ref 0)] [] (xfill F v 0 (wR0 0)) (0, 0) := by
  intro hl
  induction hl with
  | nil =>
    intro F v c o R h
    have e : v 0 3 = 0 := R.2.1.1
    refine xWP_go 100 [(0, [0])] fun P hP => ?_
    refine br_c (fun _ => h F v R) (fun z => ?_)
    have z : ¬ v 0 3 ≤ 0 := z
    rw [e] at z
    exact absurd (by decide) z
  | cons x r ih =>
    intro F v c o R h
    have T := rd_top R
    refine xWP_go 100 [(0, [0])] fun P hP => ?_
    refine br_c (fun z => absurd z T.1) (fun _ => ?_)
    refine ⟨T.2.1, ?_⟩
    refine br_n (fun a => ?_) (fun a => ?_)
    · have a : ¬ F 2 (nat (v 0 3 - 1)) = 33 := a
      rw [T.2.2.2.1] at a
      rw [show cnL c (x :: r) o = (c, x :: r, o) from if_neg a] at h
      exact h F v R
    · have a : F 2 (nat (v 0 3 - 1)) = 33 := a
      rw [T.2.2.2.1] at a
      rw [show cnL c (x :: r) o = cnL (emL c 20033) r (o - 1) from if_pos a] at h
      refine xcall (sx_emit F v _ dg w R _ (fun F' v' R' => ?_))
      have e4 : v' 0 4 = o := R'.2.2.1
      refine hP _ _ _ _ _ ?_
      have q := ih F' _ (emL c 20033) (o - 1) (rd_pop R' (o - 1)) h
      rw [← e4] at q
      exact q
theorem sx_release (k dg : Int32) (w : Bool) {K : xKo} : ∀ (hl : List Int32) (F v : xS) (c : List Int32) (o : Int32), rdR F v (c, hl, o) dg w → (∀ F' v', rdR F' v' (rlL k c o hl) dg w → K none (xfill F' v' 0 (wR0 0))) → xWP pg_R_release K 0 [(0, .ref 0), (1, .int k)] [] (xfill F v 0 (wR0 0)) (0, 0) := by
  intro hl
  induction hl with
  | nil =>
    intro F v c o R h
    have e : v 0 3 = 0 := R.2.1.1
    refine xWP_go 100 [(0, [0, 1])] fun P hP => ?_
    refine br_c (fun _ => h F v R) (fun z => ?_)
    have z : ¬ v 0 3 ≤ 0 := z
    rw [e] at z
    exact absurd (by decide) z
  | cons x r ih =>
    intro F v c o R h
    have T := rd_top R
    refine xWP_go 100 [(0, [0, 1])] fun P hP => ?_
    refine br_c (fun z => absurd z T.1) (fun _ => ?_)
    refine ⟨T.2.1, ?_⟩
    refine xcall (sx_rankOf _ ?_)
    refine br_c (fun a => ?_) (fun a => ?_)
    · have a : rkV (F 2 (nat (v 0 3 - 1))) < k := a
      rw [T.2.2.2.1, xlt] at a
      rw [show rlL k c o (x :: r) = (c, x :: r, o) from if_neg (fun z => by rw [xle] at z; omega)] at h
      exact h F v R
    · have a : ¬ rkV (F 2 (nat (v 0 3 - 1))) < k := a
      rw [T.2.2.2.1, xlt] at a
      rw [show rlL k c o (x :: r) = rlL k (emL c (20000 + x)) o r from if_pos (by rw [xle]; omega)] at h
      refine ⟨T.2.1, ?_⟩
      refine xcall (sx_emit F v _ dg w R _ (fun F' v' R' => ?_))
      have R' : rdR F' v' (emL c (20000 + F 2 (nat (v 0 3 - 1))), x :: r, o) dg w := R'
      rw [T.2.2.2.1] at R'
      have e4 : v' 0 4 = o := R'.2.2.1
      refine hP _ _ _ _ _ ?_
      have q := ih F' _ (emL c (20000 + x)) o (rd_pop R' o) h
      rw [← e4] at q
      exact q
theorem sxc_closeNots {F v : xS} {q : rdT} {dg : Int32} {w : Bool} (R : rdR F v q dg w) {K : xKo} (h : ∀ F' v', rdR F' v' (cnL q.1 q.2.1 q.2.2) dg w → K none (xfill F' v' 0 (wR0 0))) : C_R_closeNots [.ref 0] (xfill F v 0 (wR0 0)) K := xM_at rfl (sx_closeNots dg w q.2.1 F v q.1 q.2.2 R h)
theorem sxc_release {F v : xS} {q : rdT} {dg : Int32} {w : Bool} (R : rdR F v q dg w) (k : Int32) {K : xKo} (h : ∀ F' v', rdR F' v' (rlL k q.1 q.2.2 q.2.1) dg w → K none (xfill F' v' 0 (wR0 0))) : C_R_release [.ref 0, .int k] (xfill F v 0 (wR0 0)) K := xM_at rfl (sx_release k dg w q.2.1 F v q.1 q.2.2 R h)
theorem rd_I {F v : xS} {q : rdT} {dg : Int32} {w : Bool} (R : rdR F v q dg w) : rI v := ⟨⟨_, R.1.2.1, R.1.1⟩, ⟨_, R.2.1.2.1, R.2.1.1⟩⟩
/-- the last of what is read, grown by a digit -/
def growL (c : List Int32) (d : Int32) : List Int32 := c.dropLast ++ [c.getD (c.length - 1) 0 * 10 + d]
/-- behind a ) -/
def rdB (r : rdT) : Option (rdT × Int32 × Bool) := match r with
  | (_, [], _) => none
  | (c, _ :: r, o) => some ((c, r, o - 1), 0, false)
/-- behind a sign that compares -/
def rdC (b : Int32) (r : rdT) : Option (rdT × Int32 × Bool) := match r with
  | (c, [], o) => some ((c, hoL [] b, o), 0, true)
  | (c, x :: r, o) => if rkV x = 3 then none else some ((c, hoL (x :: r) b, o), 0, true)
def rdS (u b : Int32) (q : rdT) (dg : Int32) (w : Bool) : Option (rdT × Int32 × Bool) :=
  if isDg b then
    if w then some ((emL q.1 (b - 48), q.2), 1, false)
    else if dg = 0 then none else if dg = 4 then none else if q.1.length = 0 then none else some ((growL q.1 (b - 48), q.2), dg + 1, false)
  else if w then
    if b = nmC u 0 then some ((emL q.1 10000, q.2), 0, false)
    else if b = nmC u 1 then some ((emL q.1 10001, q.2), 0, false)
    else if b = nmC u 2 then some ((emL q.1 10002, q.2), 0, false)
    else if b = 33 ∨ b = 40 then (if q.2.2 = 5 then none else some ((q.1, hoL q.2.1 b, q.2.2 + 1), 0, true))
    else none
  else if b = 41 then
    rdB (rlL 1 (cnL q.1 q.2.1 q.2.2).1 (cnL q.1 q.2.1 q.2.2).2.2 (cnL q.1 q.2.1 q.2.2).2.1)
  else if rkV b < 1 then none
  else if rkV b = 3 then
    rdC b (rlL 4 (cnL q.1 q.2.1 q.2.2).1 (cnL q.1 q.2.1 q.2.2).2.2 (cnL q.1 q.2.1 q.2.2).2.1)
  else some (((rlL (rkV b) (cnL q.1 q.2.1 q.2.2).1 (cnL q.1 q.2.1 q.2.2).2.2 (cnL q.1 q.2.1 q.2.2).2.1).1, hoL (rlL (rkV b) (cnL q.1 q.2.1 q.2.2).1 (cnL q.1 q.2.1 q.2.2).2.2 (cnL q.1 q.2.1 q.2.2).2.1).2.1 b, (rlL (rkV b) (cnL q.1 q.2.1 q.2.2).1 (cnL q.1 q.2.1 q.2.2).2.2 (cnL q.1 q.2.1 q.2.2).2.1).2.2), 0, true)
/-- what comes behind a byte: it goes on, or it is refused -/
def rdK (K : xKo) (s : Option (rdT × Int32 × Bool)) : Prop := match s with
  | none => ∀ F' v', rI v' → K (some (.int 0)) (xfill F' v' 0 (wR0 0))
  | some s => ∀ F' v', rdR F' v' s.1 s.2.1 s.2.2 → K (some (.int 1)) (xfill F' v' 0 (wR0 0))
theorem rdR.dg {F v : xS} {q : rdT} {dg : Int32} {w : Bool} (R : rdR F v q dg w) (d : Int32) : rdR F (va_up v 0 (va_up (v 0) 5 d)) q d w := ⟨R.1, R.2.1, R.2.2.1, rfl, R.2.2.2.2⟩
theorem rdR.w {F v : xS} {q : rdT} {dg : Int32} {w : Bool} (R : rdR F v q dg w) (g : Bool) : rdR F (va_up v 0 (va_up (v 0) 6 (b2i g))) q dg g := ⟨R.1, R.2.1, R.2.2.1, R.2.2.2.1, rfl⟩
