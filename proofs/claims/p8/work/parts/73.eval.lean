/-! ===== what a code pushes ===== -/
abbrev evQ : Type := (Nat → Int32) × Nat
def evL (a b c : Int32) : List Int32 → evQ → evQ
  | [], q => q
  | w :: r, q => evL a b c r (evStep a b c w q)
theorem evL_app {a b c : Int32} : ∀ {l m : List Int32} {q : evQ}, evL a b c (l ++ m) q = evL a b c m (evL a b c l q) := by
  intro l
  induction l with
  | nil => intro m q; rfl
  | cons w r ih => intro m q; exact ih
theorem evRun_L {a b c : Int32} {code : Nat → Int32} : ∀ (l : List Int32) (i : Nat) (q : evQ), (∀ j, j < l.length → code (i + j) = l.getD j 0) → evRun a b c code l.length i q = evL a b c l q := by
  intro l
  induction l with
  | nil => intro i q _; rfl
  | cons w r ih =>
    intro i q h
    have h0 : code i = w := h 0 (by show 0 < r.length + 1; omega)
    show evRun a b c code r.length (i + 1) (evStep a b c (code i) q) = evL a b c r (evStep a b c w q)
    rw [h0]
    refine ih (i + 1) _ (fun j hj => ?_)
    have z := h (j + 1) (by show j + 1 < r.length + 1; omega)
    rw [show i + (j + 1) = i + 1 + j by omega] at z
    exact z
/-- over any stack it leaves what lies there and lays v on it -/
def pushes (a b c : Int32) (l : List Int32) (v : Int32) : Prop := ∀ q : evQ, q.2 + l.length ≤ 50 → (evL a b c l q).2 = q.2 + 1 ∧ (evL a b c l q).1 q.2 = v ∧ ∀ j, j < q.2 → (evL a b c l q).1 j = q.1 j
theorem pushes.ne {a b c : Int32} {l : List Int32} {v : Int32} (h : pushes a b c l v) (s : l.length ≤ 50) : 1 ≤ l.length := by
  cases l with
  | nil =>
    have z := (h (fun _ => 0, 0) (by show 0 + 0 ≤ 50; omega)).1
    exact absurd (show (0 : Nat) = 0 + 1 from z) (by decide)
  | cons w r => show 1 ≤ r.length + 1; omega
theorem evPush_ok {q : evQ} {x : Int32} (h : q.2 < 50) : evPush q x = (upd q.1 q.2 x, q.2 + 1) := if_pos h
theorem push1 {a b c w v : Int32} (h : ∀ q, evStep a b c w q = evPush q v) : pushes a b c [w] v := by
  intro q hq
  have l : q.2 < 50 := by have : q.2 + 1 ≤ 50 := hq; omega
  have e : evL a b c [w] q = (upd q.1 q.2 v, q.2 + 1) := by
    show evStep a b c w q = _
    rw [h q, evPush_ok l]
  rw [e]
  exact ⟨rfl, pk_us, fun j hj => pk_un (by omega)⟩
theorem push_num {a b c : Int32} {m : Nat} (h : m < 10000) : pushes a b c [nI m] (nI m) := push1 fun q => if_pos (by rw [show (10000 : Int32) = nI 10000 from rfl, nI_ltI (by omega) (by omega)]; exact h)
theorem push_a {a b c : Int32} : pushes a b c [10000] a := push1 fun q => (if_neg (by decide)).trans ((if_pos (by decide)).trans (congrArg (evPush q) (if_pos rfl)))
theorem push_b {a b c : Int32} : pushes a b c [10001] b := push1 fun q => (if_neg (by decide)).trans ((if_pos (by decide)).trans (congrArg (evPush q) ((if_neg (by decide)).trans (if_pos rfl))))
theorem push_c {a b c : Int32} : pushes a b c [10002] c := push1 fun q => (if_neg (by decide)).trans ((if_pos (by decide)).trans (congrArg (evPush q) ((if_neg (by decide)).trans (if_neg (by decide)))))
theorem evPop_ok {q : evQ} {k : Nat} (h : q.2 = k + 1) : evPop q = (q.1 k, (q.1, k)) := by
  unfold evPop
  rw [if_neg (by omega), h]
  rfl
theorem push_not {a b c : Int32} {l : List Int32} {v : Int32} (h : pushes a b c l v) : pushes a b c (l ++ [20033]) (if v = 0 then 1 else 0) := by
  intro q hq
  rw [List.length_append] at hq
  have hq : q.2 + (l.length + 1) ≤ 50 := hq
  obtain ⟨h1, h2, h3⟩ := h q (by omega)
  rw [evL_app]
  obtain ⟨r, er⟩ : ∃ r, r = evL a b c l q := ⟨_, rfl⟩
  rw [← er] at h1 h2 h3 ⊢
  have e : evL a b c [20033] r = (upd r.1 q.2 (if v = 0 then 1 else 0), q.2 + 1) := by
    show evStep a b c 20033 r = _
    unfold evStep
    rw [if_neg (by decide), if_neg (by decide), if_pos rfl, evPop_ok h1, h2]
    exact evPush_ok (by show q.2 < 50; omega)
  rw [e]
  exact ⟨rfl, pk_us, fun j hj => (pk_un (by omega)).trans (h3 j hj)⟩
theorem push_bin {a b c x : Int32} {l m : List Int32} {v w : Int32} (h : pushes a b c l v) (k : pushes a b c m w) (x1 : ¬ 20000 + x < 10000) (x2 : ¬ 20000 + x < 20000) (x3 : ¬ 20000 + x = 20033) (x4 : 20000 + x - 20000 = x) : pushes a b c (l ++ m ++ [20000 + x]) (wk x v w) := by
  intro q hq
  rw [List.length_append, List.length_append] at hq
  have hq : q.2 + (l.length + m.length + 1) ≤ 50 := hq
  have l1 := h.ne (by omega)
  have m1 := k.ne (by omega)
  obtain ⟨h1, h2, h3⟩ := h q (by omega)
  rw [evL_app, evL_app]
  obtain ⟨r, er⟩ : ∃ r, r = evL a b c l q := ⟨_, rfl⟩
  rw [← er] at h1 h2 h3 ⊢
  obtain ⟨k1, k2, k3⟩ := k r (by omega)
  obtain ⟨s, es⟩ : ∃ s, s = evL a b c m r := ⟨_, rfl⟩
  rw [← es] at k1 k2 k3 ⊢
  rw [h1] at k1 k2 k3
  have e : evL a b c [20000 + x] s = (upd s.1 q.2 (wk x v w), q.2 + 1) := by
    show evStep a b c (20000 + x) s = _
    unfold evStep
    rw [if_neg x1, if_neg x2, if_neg x3, evPop_ok k1, k2, evPop_ok (show ((s.1, q.2 + 1) : evQ).2 = q.2 + 1 from rfl), x4]
    show evPush (s.1, q.2) (wk x (s.1 q.2) w) = _
    rw [k3 q.2 (by omega), h2]
    exact evPush_ok (by show q.2 < 50; omega)
  rw [e]
  exact ⟨rfl, pk_us, fun j hj => (pk_un (by omega)).trans ((k3 j (by omega)).trans (h3 j hj))⟩
