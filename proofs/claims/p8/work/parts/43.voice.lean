/-! ===== the tried side: voices ===== -/
variable {Φ : hRw → Prop}
abbrev xTq : Type := (Nat → Int32) × Nat
def nt (q : xTq) (b : Int32) : xTq := if q.2 < 40 then (upd q.1 q.2 b, q.2 + 1) else q
theorem nt_le {q : xTq} {b : Int32} (h : q.2 ≤ 40) : (nt q b).2 ≤ 40 := by
  unfold nt
  split
  · show q.2 + 1 ≤ 40
    omega
  · exact h
def shV (k : Nat) (n x : Int32) (q : xTq) : Int32 × xTq := if k = 1 ∨ k = 4 then ((x + n) * 3, nt (nt q 20) 10) else (x + n, nt q 10)
def toV (k : Nat) (n m x : Int32) (q : xTq) : Int32 × xTq := if k = 3 then (-(x - m), nt (nt q 40) 12) else if k = 6 then (-(x - m) ^^^ n, nt (nt (nt q 70) 40) 12) else (x - m, nt q 12)
def ru0 (z : Nat) (n x : Int32) (q : xTq) : Int32 × xTq := ((shV z n x (nt q 11)).1 * 2, (shV z n x (nt q 11)).2)
def ru2 (z : Nat) (n m x : Int32) (q : xTq) : Int32 × xTq := ((ru0 z n x (nt q 30)).1 - (toV z n m 1 (ru0 z n x (nt q 30)).2).1, (toV z n m 1 (ru0 z n x (nt q 30)).2).2)
def ruV (z : Nat) (n m : Int32) (k : Nat) (x : Int32) (q : xTq) : Int32 × xTq := if k = 2 then ru2 z n m x q else if k = 5 then ru2 z n m (x + 1) (nt q 60) else ru0 z n x q
def te0 (z : Nat) (n m x : Int32) (q : xTq) : Int32 × xTq := ((ruV z n m z x (nt q 13)).1 ^^^ (toV z n m x (ruV z n m z x (nt q 13)).2).1, (toV z n m x (ruV z n m z x (nt q 13)).2).2)
def teV (z : Nat) (n m : Int32) (k : Nat) (x : Int32) (q : xTq) : Int32 × xTq := if k = 4 then ((te0 z n m x (nt q 50)).1 - (shV z n 2 (te0 z n m x (nt q 50)).2).1, (shV z n 2 (te0 z n m x (nt q 50)).2).2) else if k = 6 then ((ruV z n m z x (nt q 71)).1 - (te0 z n m x (ruV z n m z x (nt q 71)).2).1, (te0 z n m x (ruV z n m z x (nt q 71)).2).2) else te0 z n m x q
theorem shV_le {k : Nat} {n x : Int32} {q : xTq} (h : q.2 ≤ 40) : (shV k n x q).2.2 ≤ 40 := by
  unfold shV
  split
  · exact nt_le (nt_le h)
  · exact nt_le h
theorem toV_le {k : Nat} {n m x : Int32} {q : xTq} (h : q.2 ≤ 40) : (toV k n m x q).2.2 ≤ 40 := by
  unfold toV
  split
  · exact nt_le (nt_le h)
  split
  · exact nt_le (nt_le (nt_le h))
  · exact nt_le h
theorem ru0_le {z : Nat} {n x : Int32} {q : xTq} (h : q.2 ≤ 40) : (ru0 z n x q).2.2 ≤ 40 := shV_le (nt_le h)
theorem ru2_le {z : Nat} {n m x : Int32} {q : xTq} (h : q.2 ≤ 40) : (ru2 z n m x q).2.2 ≤ 40 := toV_le (ru0_le (nt_le h))
theorem ruV_le {z : Nat} {n m : Int32} {k : Nat} {x : Int32} {q : xTq} (h : q.2 ≤ 40) : (ruV z n m k x q).2.2 ≤ 40 := by
  unfold ruV
  split
  · exact ru2_le h
  split
  · exact ru2_le (nt_le h)
  · exact ru0_le h
theorem te0_le {z : Nat} {n m x : Int32} {q : xTq} (h : q.2 ≤ 40) : (te0 z n m x q).2.2 ≤ 40 := toV_le (ruV_le (nt_le h))
theorem teV_le {z : Nat} {n m : Int32} {k : Nat} {x : Int32} {q : xTq} (h : q.2 ≤ 40) : (teV z n m k x q).2.2 ≤ 40 := by
  unfold teV
  split
  · exact shV_le (te0_le (nt_le h))
  split
  · exact te0_le (ruV_le (nt_le h))
  · exact te0_le h
abbrev PW (F v : xS) (q : xTq) : xW := xfill (va_up F 1 q.1) (va_up v 0 (va_up (v 0) 1 (nI q.2))) 0 (wP0 0)
theorem sp_note (F v : xS) (q : xTq) (b : Int32) (hq : q.2 ≤ 40) {K : xKo} (h : K none (PW F v (nt q b))) : C_P_note [.ref 0, .int b] (PW F v q) K := by
  refine xM_go rfl 60 [] fun P hP => ?_
  refine br_c (fun a => ?_) (fun a => ?_)
  · have a : nI 40 ≤ nI q.2 := a
    rw [nI_leI (by omega) (by omega)] at a
    unfold nt at h
    rw [if_neg (by omega)] at h
    exact h
  · have a : ¬ nI 40 ≤ nI q.2 := a
    rw [nI_leI (by omega) (by omega)] at a
    unfold nt at h
    rw [if_pos (by omega)] at h
    refine ⟨vp_in_nI (by omega) (by omega), ?_⟩
    have h2 : K none (xfill (va_up F 1 (upd q.1 (nat (nI q.2)) b)) (va_up v 0 (va_up (v 0) 1 (nI q.2 + 1))) 0 (wP0 0)) := by
      rw [show nat (nI q.2) = q.2 from nI_clamp (by omega), nI_1]
      exact h
    exact h2
set_option maxRecDepth 100000 in
theorem sp_sp (l : Nat) (F v : xS) (k a : Int32) (x : Int32) (d : Nat) (q : xTq) (hq : q.2 ≤ 40) (hd : d ≤ 40) (B : Int32) (hB : xBD (nat (4 * k + a)) = B) (hi : vp_in (4 * k + a) 28) {K : xKo} (h : xWP (pg_P_speak (G_speak l)) K 26 [(0, .ref 0), (1, .int k), (2, .int a), (3, .int x), (4, .int (nI d)), (5, .int B)] [] (PW F v (nt q B)) (0, 0)) : G_speak (l + 1) 0 [.ref 0, .int k, .int a, .int x, .int (nI d)] (PW F v q) K := by
  have eG : G_speak (l + 1) 0 = xM 7 (pg_P_speak (G_speak l)) := by simp only [G_speak]
  rw [eG]
  refine xM_go rfl 60 [(26, [0, 1, 2, 3, 4, 5])] fun P hP => ?_
  refine br_c (fun _ => ?_) (fun z => ?_)
  · refine ⟨rfl, hi, ?_⟩
    subst hB
    refine xcall (sp_note F v q _ hq ?_)
    refine hP _ _ _ _ _ ?_
    exact h
  · have z : ¬ nI d ≤ nI 40 := z
    rw [nI_leI (by omega) (by omega)] at z
    omega
set_option maxRecDepth 100000 in
theorem sp_b10 (c : Nat → xPT) (F v : xS) (k a x : Int32) (d : Nat) (q : xTq) {K : xKo} (h : K (some (.int (x + v 0 3))) (PW F v q)) : xWP (pg_P_speak c) K 26 [(0, .ref 0), (1, .int k), (2, .int a), (3, .int x), (4, .int (nI d)), (5, .int 10)] [] (PW F v q) (0, 0) := by
  refine xWP_go 60 [] fun P hP => ?_
  refine ⟨fun _ => ?_, fun z => absurd rfl z⟩
  exact h
set_option maxRecDepth 100000 in
theorem sp_b12 (c : Nat → xPT) (F v : xS) (k a x : Int32) (d : Nat) (q : xTq) {K : xKo} (h : K (some (.int (x - v 0 4))) (PW F v q)) : xWP (pg_P_speak c) K 26 [(0, .ref 0), (1, .int k), (2, .int a), (3, .int x), (4, .int (nI d)), (5, .int 12)] [] (PW F v q) (0, 0) := by
  refine xWP_go 60 [] fun P hP => ?_
  refine ⟨fun z => absurd z (by decide), fun _ => ?_⟩
  refine ⟨fun z => absurd z (by decide), fun _ => ?_⟩
  refine ⟨fun _ => ?_, fun z => absurd rfl z⟩
  exact h
set_option maxRecDepth 100000 in
theorem sp_b11 (c : Nat → xPT) (F v : xS) (k a x : Int32) (d : Nat) (q : xTq) (r1 : Int32 × xTq) (h1 : ∀ K2 : xKo, K2 (some (.int r1.1)) (PW F v r1.2) → c 0 [.ref 0, .int (v 0 2), .int 0, .int x, .int (nI (d + 1))] (PW F v q) K2) {K : xKo} (h : K (some (.int (r1.1 * 2))) (PW F v r1.2)) : xWP (pg_P_speak c) K 26 [(0, .ref 0), (1, .int k), (2, .int a), (3, .int x), (4, .int (nI d)), (5, .int 11)] [] (PW F v q) (0, 0) := by
  rw [← nI_1] at h1
  refine xWP_go 60 [] fun P hP => ?_
  refine ⟨fun z => absurd z (by decide), fun _ => ?_⟩
  refine ⟨fun _ => ?_, fun z => absurd rfl z⟩
  refine xcall (h1 _ ?_)
  exact h
set_option maxRecDepth 100000 in
theorem sp_b13 (c : Nat → xPT) (F v : xS) (k a x : Int32) (d : Nat) (q : xTq) (r1 : Int32 × xTq) (r2 : Int32 × xTq) (h1 : ∀ K2 : xKo, K2 (some (.int r1.1)) (PW F v r1.2) → c 0 [.ref 0, .int (v 0 2), .int 1, .int x, .int (nI (d + 1))] (PW F v q) K2) (h2 : ∀ K2 : xKo, K2 (some (.int r2.1)) (PW F v r2.2) → c 0 [.ref 0, .int (v 0 2), .int 2, .int x, .int (nI (d + 1))] (PW F v r1.2) K2) {K : xKo} (h : K (some (.int (r1.1 ^^^ r2.1))) (PW F v r2.2)) : xWP (pg_P_speak c) K 26 [(0, .ref 0), (1, .int k), (2, .int a), (3, .int x), (4, .int (nI d)), (5, .int 13)] [] (PW F v q) (0, 0) := by
  rw [← nI_1] at h1
  rw [← nI_1] at h2
  refine xWP_go 60 [] fun P hP => ?_
  refine ⟨fun z => absurd z (by decide), fun _ => ?_⟩
  refine ⟨fun z => absurd z (by decide), fun _ => ?_⟩
  refine ⟨fun z => absurd z (by decide), fun _ => ?_⟩
  refine ⟨fun _ => ?_, fun z => absurd rfl z⟩
  refine xcall (h1 _ ?_)
  refine xcall (h2 _ ?_)
  exact h
set_option maxRecDepth 100000 in
theorem sp_b20 (c : Nat → xPT) (F v : xS) (k a x : Int32) (d : Nat) (q : xTq) (r1 : Int32 × xTq) (h1 : ∀ K2 : xKo, K2 (some (.int r1.1)) (PW F v r1.2) → c 0 [.ref 0, .int 0, .int 0, .int x, .int (nI (d + 1))] (PW F v q) K2) {K : xKo} (h : K (some (.int (r1.1 * 3))) (PW F v r1.2)) : xWP (pg_P_speak c) K 26 [(0, .ref 0), (1, .int k), (2, .int a), (3, .int x), (4, .int (nI d)), (5, .int 20)] [] (PW F v q) (0, 0) := by
  rw [← nI_1] at h1
  refine xWP_go 60 [] fun P hP => ?_
  refine ⟨fun z => absurd z (by decide), fun _ => ?_⟩
  refine ⟨fun z => absurd z (by decide), fun _ => ?_⟩
  refine ⟨fun z => absurd z (by decide), fun _ => ?_⟩
  refine ⟨fun z => absurd z (by decide), fun _ => ?_⟩
  refine ⟨fun _ => ?_, fun z => absurd rfl z⟩
  refine xcall (h1 _ ?_)
  exact h
set_option maxRecDepth 100000 in
theorem sp_b30 (c : Nat → xPT) (F v : xS) (k a x : Int32) (d : Nat) (q : xTq) (r1 : Int32 × xTq) (r2 : Int32 × xTq) (h1 : ∀ K2 : xKo, K2 (some (.int r1.1)) (PW F v r1.2) → c 0 [.ref 0, .int 0, .int 1, .int x, .int (nI (d + 1))] (PW F v q) K2) (h2 : ∀ K2 : xKo, K2 (some (.int r2.1)) (PW F v r2.2) → c 0 [.ref 0, .int (v 0 2), .int 2, .int 1, .int (nI (d + 1))] (PW F v r1.2) K2) {K : xKo} (h : K (some (.int (r1.1 - r2.1))) (PW F v r2.2)) : xWP (pg_P_speak c) K 26 [(0, .ref 0), (1, .int k), (2, .int a), (3, .int x), (4, .int (nI d)), (5, .int 30)] [] (PW F v q) (0, 0) := by
  rw [← nI_1] at h1
  rw [← nI_1] at h2
  refine xWP_go 60 [] fun P hP => ?_
  refine ⟨fun z => absurd z (by decide), fun _ => ?_⟩
  refine ⟨fun z => absurd z (by decide), fun _ => ?_⟩
  refine ⟨fun z => absurd z (by decide), fun _ => ?_⟩
  refine ⟨fun z => absurd z (by decide), fun _ => ?_⟩
  refine ⟨fun z => absurd z (by decide), fun _ => ?_⟩
  refine ⟨fun _ => ?_, fun z => absurd rfl z⟩
  refine xcall (h1 _ ?_)
  refine xcall (h2 _ ?_)
  exact h
set_option maxRecDepth 100000 in
theorem sp_b40 (c : Nat → xPT) (F v : xS) (k a x : Int32) (d : Nat) (q : xTq) (r1 : Int32 × xTq) (h1 : ∀ K2 : xKo, K2 (some (.int r1.1)) (PW F v r1.2) → c 0 [.ref 0, .int 0, .int 2, .int x, .int (nI (d + 1))] (PW F v q) K2) {K : xKo} (h : K (some (.int (-r1.1))) (PW F v r1.2)) : xWP (pg_P_speak c) K 26 [(0, .ref 0), (1, .int k), (2, .int a), (3, .int x), (4, .int (nI d)), (5, .int 40)] [] (PW F v q) (0, 0) := by
  rw [← nI_1] at h1
  refine xWP_go 60 [] fun P hP => ?_
  refine ⟨fun z => absurd z (by decide), fun _ => ?_⟩
  refine ⟨fun z => absurd z (by decide), fun _ => ?_⟩
  refine ⟨fun z => absurd z (by decide), fun _ => ?_⟩
  refine ⟨fun z => absurd z (by decide), fun _ => ?_⟩
  refine ⟨fun z => absurd z (by decide), fun _ => ?_⟩
  refine ⟨fun z => absurd z (by decide), fun _ => ?_⟩
  refine ⟨fun _ => ?_, fun z => absurd rfl z⟩
  refine xcall (h1 _ ?_)
  exact h
set_option maxRecDepth 100000 in
theorem sp_b50 (c : Nat → xPT) (F v : xS) (k a x : Int32) (d : Nat) (q : xTq) (r1 : Int32 × xTq) (r2 : Int32 × xTq) (h1 : ∀ K2 : xKo, K2 (some (.int r1.1)) (PW F v r1.2) → c 0 [.ref 0, .int 1, .int 3, .int x, .int (nI (d + 1))] (PW F v q) K2) (h2 : ∀ K2 : xKo, K2 (some (.int r2.1)) (PW F v r2.2) → c 0 [.ref 0, .int (v 0 2), .int 0, .int 2, .int (nI (d + 1))] (PW F v r1.2) K2) {K : xKo} (h : K (some (.int (r1.1 - r2.1))) (PW F v r2.2)) : xWP (pg_P_speak c) K 26 [(0, .ref 0), (1, .int k), (2, .int a), (3, .int x), (4, .int (nI d)), (5, .int 50)] [] (PW F v q) (0, 0) := by
  rw [← nI_1] at h1
  rw [← nI_1] at h2
  refine xWP_go 60 [] fun P hP => ?_
  refine ⟨fun z => absurd z (by decide), fun _ => ?_⟩
  refine ⟨fun z => absurd z (by decide), fun _ => ?_⟩
  refine ⟨fun z => absurd z (by decide), fun _ => ?_⟩
  refine ⟨fun z => absurd z (by decide), fun _ => ?_⟩
  refine ⟨fun z => absurd z (by decide), fun _ => ?_⟩
  refine ⟨fun z => absurd z (by decide), fun _ => ?_⟩
  refine ⟨fun z => absurd z (by decide), fun _ => ?_⟩
  refine ⟨fun _ => ?_, fun z => absurd rfl z⟩
  refine xcall (h1 _ ?_)
  refine xcall (h2 _ ?_)
  exact h
set_option maxRecDepth 100000 in
theorem sp_b60 (c : Nat → xPT) (F v : xS) (k a x : Int32) (d : Nat) (q : xTq) (r1 : Int32 × xTq) (h1 : ∀ K2 : xKo, K2 (some (.int r1.1)) (PW F v r1.2) → c 0 [.ref 0, .int 2, .int 1, .int (x + 1), .int (nI (d + 1))] (PW F v q) K2) {K : xKo} (h : K (some (.int (r1.1))) (PW F v r1.2)) : xWP (pg_P_speak c) K 26 [(0, .ref 0), (1, .int k), (2, .int a), (3, .int x), (4, .int (nI d)), (5, .int 60)] [] (PW F v q) (0, 0) := by
  rw [← nI_1] at h1
  refine xWP_go 60 [] fun P hP => ?_
  refine ⟨fun z => absurd z (by decide), fun _ => ?_⟩
  refine ⟨fun z => absurd z (by decide), fun _ => ?_⟩
  refine ⟨fun z => absurd z (by decide), fun _ => ?_⟩
  refine ⟨fun z => absurd z (by decide), fun _ => ?_⟩
  refine ⟨fun z => absurd z (by decide), fun _ => ?_⟩
  refine ⟨fun z => absurd z (by decide), fun _ => ?_⟩
  refine ⟨fun z => absurd z (by decide), fun _ => ?_⟩
  refine ⟨fun z => absurd z (by decide), fun _ => ?_⟩
  refine ⟨fun _ => ?_, fun z => absurd rfl z⟩
  refine xcall (h1 _ ?_)
  exact h
set_option maxRecDepth 100000 in
theorem sp_b70 (c : Nat → xPT) (F v : xS) (k a x : Int32) (d : Nat) (q : xTq) (r1 : Int32 × xTq) (h1 : ∀ K2 : xKo, K2 (some (.int r1.1)) (PW F v r1.2) → c 0 [.ref 0, .int 3, .int 2, .int x, .int (nI (d + 1))] (PW F v q) K2) {K : xKo} (h : K (some (.int (r1.1 ^^^ v 0 3))) (PW F v r1.2)) : xWP (pg_P_speak c) K 26 [(0, .ref 0), (1, .int k), (2, .int a), (3, .int x), (4, .int (nI d)), (5, .int 70)] [] (PW F v q) (0, 0) := by
  rw [← nI_1] at h1
  refine xWP_go 60 [] fun P hP => ?_
  refine ⟨fun z => absurd z (by decide), fun _ => ?_⟩
  refine ⟨fun z => absurd z (by decide), fun _ => ?_⟩
  refine ⟨fun z => absurd z (by decide), fun _ => ?_⟩
  refine ⟨fun z => absurd z (by decide), fun _ => ?_⟩
  refine ⟨fun z => absurd z (by decide), fun _ => ?_⟩
  refine ⟨fun z => absurd z (by decide), fun _ => ?_⟩
  refine ⟨fun z => absurd z (by decide), fun _ => ?_⟩
  refine ⟨fun z => absurd z (by decide), fun _ => ?_⟩
  refine ⟨fun z => absurd z (by decide), fun _ => ?_⟩
  refine ⟨fun _ => ?_, fun z => absurd rfl z⟩
  refine xcall (h1 _ ?_)
  exact h
set_option maxRecDepth 100000 in
theorem sp_b71 (c : Nat → xPT) (F v : xS) (k a x : Int32) (d : Nat) (q : xTq) (r1 : Int32 × xTq) (r2 : Int32 × xTq) (h1 : ∀ K2 : xKo, K2 (some (.int r1.1)) (PW F v r1.2) → c 0 [.ref 0, .int (v 0 2), .int 1, .int x, .int (nI (d + 1))] (PW F v q) K2) (h2 : ∀ K2 : xKo, K2 (some (.int r2.1)) (PW F v r2.2) → c 0 [.ref 0, .int 3, .int 3, .int x, .int (nI (d + 1))] (PW F v r1.2) K2) {K : xKo} (h : K (some (.int (r1.1 - r2.1))) (PW F v r2.2)) : xWP (pg_P_speak c) K 26 [(0, .ref 0), (1, .int k), (2, .int a), (3, .int x), (4, .int (nI d)), (5, .int 71)] [] (PW F v q) (0, 0) := by
  rw [← nI_1] at h1
  rw [← nI_1] at h2
  refine xWP_go 60 [] fun P hP => ?_
  refine ⟨fun z => absurd z (by decide), fun _ => ?_⟩
  refine ⟨fun z => absurd z (by decide), fun _ => ?_⟩
  refine ⟨fun z => absurd z (by decide), fun _ => ?_⟩
  refine ⟨fun z => absurd z (by decide), fun _ => ?_⟩
  refine ⟨fun z => absurd z (by decide), fun _ => ?_⟩
  refine ⟨fun z => absurd z (by decide), fun _ => ?_⟩
  refine ⟨fun z => absurd z (by decide), fun _ => ?_⟩
  refine ⟨fun z => absurd z (by decide), fun _ => ?_⟩
  refine ⟨fun z => absurd z (by decide), fun _ => ?_⟩
  refine ⟨fun z => absurd z (by decide), fun _ => ?_⟩
  refine ⟨fun _ => ?_, fun z => absurd rfl z⟩
  refine xcall (h1 _ ?_)
  refine xcall (h2 _ ?_)
  exact h
set_option maxRecDepth 100000 in
theorem sp_sh (l : Nat) (F v : xS) (z : Nat) (hz : z < 7) (ez : v 0 2 = nI z) (k : Nat) (hk : k < 7) (x : Int32) (d : Nat) (q : xTq) (hq : q.2 ≤ 40) (hd : d + 2 ≤ 40) {K : xKo} (h : K (some (.int (shV k (v 0 3) x q).1)) (PW F v (shV k (v 0 3) x q).2)) : G_speak (l + 2) 0 [.ref 0, .int (nI k), .int 0, .int x, .int (nI d)] (PW F v q) K := by
  rcases (show k = 0 ∨ k = 1 ∨ k = 2 ∨ k = 3 ∨ k = 4 ∨ k = 5 ∨ k = 6 by omega) with e | e | e | e | e | e | e
  all_goals subst e
  · refine sp_sp (l + 1) F v (nI 0) 0 x d q hq (by omega) 10 (by decide) (vin (by decide)) ?_
    exact sp_b10 _ F v _ _ x d _ h
  · refine sp_sp (l + 1) F v (nI 1) 0 x d q hq (by omega) 20 (by decide) (vin (by decide)) ?_
    refine sp_b20 _ F v _ _ x d _ (x + v 0 3, nt (nt q 20) 10) (fun K2 g => ?_) ?_
    · exact sp_sp l F v 0 0 x (d + 1) (nt q 20) (nt_le hq) (by omega) 10 (by decide) (vin (by decide)) (sp_b10 _ F v _ _ x (d + 1) _ g)
    · exact h
  · refine sp_sp (l + 1) F v (nI 2) 0 x d q hq (by omega) 10 (by decide) (vin (by decide)) ?_
    exact sp_b10 _ F v _ _ x d _ h
  · refine sp_sp (l + 1) F v (nI 3) 0 x d q hq (by omega) 10 (by decide) (vin (by decide)) ?_
    exact sp_b10 _ F v _ _ x d _ h
  · refine sp_sp (l + 1) F v (nI 4) 0 x d q hq (by omega) 20 (by decide) (vin (by decide)) ?_
    refine sp_b20 _ F v _ _ x d _ (x + v 0 3, nt (nt q 20) 10) (fun K2 g => ?_) ?_
    · exact sp_sp l F v 0 0 x (d + 1) (nt q 20) (nt_le hq) (by omega) 10 (by decide) (vin (by decide)) (sp_b10 _ F v _ _ x (d + 1) _ g)
    · exact h
  · refine sp_sp (l + 1) F v (nI 5) 0 x d q hq (by omega) 10 (by decide) (vin (by decide)) ?_
    exact sp_b10 _ F v _ _ x d _ h
  · refine sp_sp (l + 1) F v (nI 6) 0 x d q hq (by omega) 10 (by decide) (vin (by decide)) ?_
    exact sp_b10 _ F v _ _ x d _ h
set_option maxRecDepth 100000 in
theorem sp_to (l : Nat) (F v : xS) (z : Nat) (hz : z < 7) (ez : v 0 2 = nI z) (k : Nat) (hk : k < 7) (x : Int32) (d : Nat) (q : xTq) (hq : q.2 ≤ 40) (hd : d + 3 ≤ 40) {K : xKo} (h : K (some (.int (toV k (v 0 3) (v 0 4) x q).1)) (PW F v (toV k (v 0 3) (v 0 4) x q).2)) : G_speak (l + 3) 0 [.ref 0, .int (nI k), .int 2, .int x, .int (nI d)] (PW F v q) K := by
  rcases (show k = 0 ∨ k = 1 ∨ k = 2 ∨ k = 3 ∨ k = 4 ∨ k = 5 ∨ k = 6 by omega) with e | e | e | e | e | e | e
  all_goals subst e
  · refine sp_sp (l + 2) F v (nI 0) 2 x d q hq (by omega) 12 (by decide) (vin (by decide)) ?_
    exact sp_b12 _ F v _ _ x d _ h
  · refine sp_sp (l + 2) F v (nI 1) 2 x d q hq (by omega) 12 (by decide) (vin (by decide)) ?_
    exact sp_b12 _ F v _ _ x d _ h
  · refine sp_sp (l + 2) F v (nI 2) 2 x d q hq (by omega) 12 (by decide) (vin (by decide)) ?_
    exact sp_b12 _ F v _ _ x d _ h
  · refine sp_sp (l + 2) F v (nI 3) 2 x d q hq (by omega) 40 (by decide) (vin (by decide)) ?_
    refine sp_b40 _ F v _ _ x d _ (x - v 0 4, nt (nt q 40) 12) (fun K2 g => ?_) ?_
    · exact sp_sp (l + 1) F v 0 2 x (d + 1) (nt q 40) (nt_le hq) (by omega) 12 (by decide) (vin (by decide)) (sp_b12 _ F v _ _ x (d + 1) _ g)
    · exact h
  · refine sp_sp (l + 2) F v (nI 4) 2 x d q hq (by omega) 12 (by decide) (vin (by decide)) ?_
    exact sp_b12 _ F v _ _ x d _ h
  · refine sp_sp (l + 2) F v (nI 5) 2 x d q hq (by omega) 12 (by decide) (vin (by decide)) ?_
    exact sp_b12 _ F v _ _ x d _ h
  · refine sp_sp (l + 2) F v (nI 6) 2 x d q hq (by omega) 70 (by decide) (vin (by decide)) ?_
    refine sp_b70 _ F v _ _ x d _ (-(x - v 0 4), nt (nt (nt q 70) 40) 12) (fun K2 g => ?_) ?_
    · refine sp_sp (l + 1) F v 3 2 x (d + 1) (nt q 70) (nt_le hq) (by omega) 40 (by decide) (vin (by decide)) ?_
      refine sp_b40 _ F v _ _ x (d + 1) _ (x - v 0 4, nt (nt (nt q 70) 40) 12) (fun K3 g3 => ?_) g
      exact sp_sp l F v 0 2 x (d + 2) (nt (nt q 70) 40) (nt_le (nt_le hq)) (by omega) 12 (by decide) (vin (by decide)) (sp_b12 _ F v _ _ x (d + 2) _ g3)
    · exact h
set_option maxRecDepth 100000 in
theorem sp_ru0 (l : Nat) (F v : xS) (z : Nat) (hz : z < 7) (ez : v 0 2 = nI z) (k : Int32) (x : Int32) (d : Nat) (q : xTq) (hq : q.2 ≤ 40) (hd : d + 3 ≤ 40) (hB : xBD (nat (4 * k + 1)) = 11) (hi : vp_in (4 * k + 1) 28) {K : xKo} (h : K (some (.int (ru0 z (v 0 3) x q).1)) (PW F v (ru0 z (v 0 3) x q).2)) : G_speak (l + 3) 0 [.ref 0, .int k, .int 1, .int x, .int (nI d)] (PW F v q) K := by
  refine sp_sp (l + 2) F v k 1 x d q hq (by omega) 11 hB hi ?_
  refine sp_b11 _ F v _ _ x d _ (shV z (v 0 3) x (nt q 11)) (fun K2 g => ?_) h
  rw [ez]
  exact sp_sh l F v z hz ez z hz x (d + 1) _ (nt_le hq) (by omega) g
set_option maxRecDepth 100000 in
theorem sp_ru2 (l : Nat) (F v : xS) (z : Nat) (hz : z < 7) (ez : v 0 2 = nI z) (x : Int32) (d : Nat) (q : xTq) (hq : q.2 ≤ 40) (hd : d + 4 ≤ 40) {K : xKo} (h : K (some (.int (ru2 z (v 0 3) (v 0 4) x q).1)) (PW F v (ru2 z (v 0 3) (v 0 4) x q).2)) : G_speak (l + 4) 0 [.ref 0, .int 2, .int 1, .int x, .int (nI d)] (PW F v q) K := by
  refine sp_sp (l + 3) F v 2 1 x d q hq (by omega) 30 (by decide) (vin (by decide)) ?_
  refine sp_b30 _ F v _ _ x d _ (ru0 z (v 0 3) x (nt q 30)) (toV z (v 0 3) (v 0 4) 1 (ru0 z (v 0 3) x (nt q 30)).2) (fun K2 g => ?_) (fun K2 g => ?_) h
  · exact sp_ru0 l F v z hz ez 0 x (d + 1) _ (nt_le hq) (by omega) (by decide) (vin (by decide)) g
  · rw [ez]
    exact sp_to l F v z hz ez z hz 1 (d + 1) _ (ru0_le (nt_le hq)) (by omega) g
set_option maxRecDepth 100000 in
theorem sp_ru (l : Nat) (F v : xS) (z : Nat) (hz : z < 7) (ez : v 0 2 = nI z) (k : Nat) (hk : k < 7) (x : Int32) (d : Nat) (q : xTq) (hq : q.2 ≤ 40) (hd : d + 5 ≤ 40) {K : xKo} (h : K (some (.int (ruV z (v 0 3) (v 0 4) k x q).1)) (PW F v (ruV z (v 0 3) (v 0 4) k x q).2)) : G_speak (l + 5) 0 [.ref 0, .int (nI k), .int 1, .int x, .int (nI d)] (PW F v q) K := by
  rcases (show k = 0 ∨ k = 1 ∨ k = 2 ∨ k = 3 ∨ k = 4 ∨ k = 5 ∨ k = 6 by omega) with e | e | e | e | e | e | e
  all_goals subst e
  · exact sp_ru0 (l + 2) F v z hz ez (nI 0) x d q hq (by omega) (by decide) (vin (by decide)) h
  · exact sp_ru0 (l + 2) F v z hz ez (nI 1) x d q hq (by omega) (by decide) (vin (by decide)) h
  · exact sp_ru2 (l + 1) F v z hz ez x d q hq (by omega) h
  · exact sp_ru0 (l + 2) F v z hz ez (nI 3) x d q hq (by omega) (by decide) (vin (by decide)) h
  · exact sp_ru0 (l + 2) F v z hz ez (nI 4) x d q hq (by omega) (by decide) (vin (by decide)) h
  · refine sp_sp (l + 4) F v (nI 5) 1 x d q hq (by omega) 60 (by decide) (vin (by decide)) ?_
    refine sp_b60 _ F v _ _ x d _ (ru2 z (v 0 3) (v 0 4) (x + 1) (nt q 60)) (fun K2 g => ?_) h
    exact sp_ru2 l F v z hz ez (x + 1) (d + 1) _ (nt_le hq) (by omega) g
  · exact sp_ru0 (l + 2) F v z hz ez (nI 6) x d q hq (by omega) (by decide) (vin (by decide)) h
set_option maxRecDepth 100000 in
theorem sp_te0 (l : Nat) (F v : xS) (z : Nat) (hz : z < 7) (ez : v 0 2 = nI z) (k : Int32) (x : Int32) (d : Nat) (q : xTq) (hq : q.2 ≤ 40) (hd : d + 6 ≤ 40) (hB : xBD (nat (4 * k + 3)) = 13) (hi : vp_in (4 * k + 3) 28) {K : xKo} (h : K (some (.int (te0 z (v 0 3) (v 0 4) x q).1)) (PW F v (te0 z (v 0 3) (v 0 4) x q).2)) : G_speak (l + 6) 0 [.ref 0, .int k, .int 3, .int x, .int (nI d)] (PW F v q) K := by
  refine sp_sp (l + 5) F v k 3 x d q hq (by omega) 13 hB hi ?_
  refine sp_b13 _ F v _ _ x d _ (ruV z (v 0 3) (v 0 4) z x (nt q 13)) (toV z (v 0 3) (v 0 4) x (ruV z (v 0 3) (v 0 4) z x (nt q 13)).2) (fun K2 g => ?_) (fun K2 g => ?_) h
  · rw [ez]
    exact sp_ru l F v z hz ez z hz x (d + 1) _ (nt_le hq) (by omega) g
  · rw [ez]
    exact sp_to (l + 2) F v z hz ez z hz x (d + 1) _ (ruV_le (nt_le hq)) (by omega) g
set_option maxRecDepth 100000 in
theorem sp_te (l : Nat) (F v : xS) (z : Nat) (hz : z < 7) (ez : v 0 2 = nI z) (k : Nat) (hk : k < 7) (x : Int32) (d : Nat) (q : xTq) (hq : q.2 ≤ 40) (hd : d + 7 ≤ 40) {K : xKo} (h : K (some (.int (teV z (v 0 3) (v 0 4) k x q).1)) (PW F v (teV z (v 0 3) (v 0 4) k x q).2)) : G_speak (l + 7) 0 [.ref 0, .int (nI k), .int 3, .int x, .int (nI d)] (PW F v q) K := by
  rcases (show k = 0 ∨ k = 1 ∨ k = 2 ∨ k = 3 ∨ k = 4 ∨ k = 5 ∨ k = 6 by omega) with e | e | e | e | e | e | e
  all_goals subst e
  · exact sp_te0 (l + 1) F v z hz ez (nI 0) x d q hq (by omega) (by decide) (vin (by decide)) h
  · exact sp_te0 (l + 1) F v z hz ez (nI 1) x d q hq (by omega) (by decide) (vin (by decide)) h
  · exact sp_te0 (l + 1) F v z hz ez (nI 2) x d q hq (by omega) (by decide) (vin (by decide)) h
  · exact sp_te0 (l + 1) F v z hz ez (nI 3) x d q hq (by omega) (by decide) (vin (by decide)) h
  · refine sp_sp (l + 6) F v (nI 4) 3 x d q hq (by omega) 50 (by decide) (vin (by decide)) ?_
    refine sp_b50 _ F v _ _ x d _ (te0 z (v 0 3) (v 0 4) x (nt q 50)) (shV z (v 0 3) 2 (te0 z (v 0 3) (v 0 4) x (nt q 50)).2) (fun K2 g => ?_) (fun K2 g => ?_) h
    · exact sp_te0 l F v z hz ez 1 x (d + 1) _ (nt_le hq) (by omega) (by decide) (vin (by decide)) g
    · rw [ez]
      exact sp_sh (l + 4) F v z hz ez z hz 2 (d + 1) _ (te0_le (nt_le hq)) (by omega) g
  · exact sp_te0 (l + 1) F v z hz ez (nI 5) x d q hq (by omega) (by decide) (vin (by decide)) h
  · refine sp_sp (l + 6) F v (nI 6) 3 x d q hq (by omega) 71 (by decide) (vin (by decide)) ?_
    refine sp_b71 _ F v _ _ x d _ (ruV z (v 0 3) (v 0 4) z x (nt q 71)) (te0 z (v 0 3) (v 0 4) x (ruV z (v 0 3) (v 0 4) z x (nt q 71)).2) (fun K2 g => ?_) (fun K2 g => ?_) h
    · rw [ez]
      exact sp_ru (l + 1) F v z hz ez z hz x (d + 1) _ (nt_le hq) (by omega) g
    · exact sp_te0 l F v z hz ez 3 x (d + 1) _ (ruV_le (nt_le hq)) (by omega) (by decide) (vin (by decide)) g
def voV (z : Nat) (n m a x : Int32) (f : Nat → Int32) : Int32 × xTq := if a = 0 then shV z n x (f, 0) else if a = 1 then ruV z n m z x (f, 0) else if a = 2 then toV z n m x (f, 0) else teV z n m z x (f, 0)
theorem voV_le {z : Nat} {n m a x : Int32} {f : Nat → Int32} : (voV z n m a x f).2.2 ≤ 40 := by
  have o : ((f, 0) : xTq).2 ≤ 40 := Nat.zero_le 40
  unfold voV
  split
  · exact shV_le o
  split
  · exact ruV_le o
  split
  · exact toV_le o
  · exact teV_le o
set_option maxRecDepth 100000 in
theorem sp_answer (F v : xS) (z : Nat) (hz : z < 7) (n m a x : Int32) (ha : xin a 4) {K : xKo} (h : K (some (.int (voV z n m a x (F 1)).1)) (xfill (va_up F 1 (voV z n m a x (F 1)).2.1) (va_up v 0 (va_up (va_up (va_up (va_up (v 0) 1 (nI (voV z n m a x (F 1)).2.2)) 2 (nI z)) 3 n) 4 m)) 0 (wP0 0))) : C_P_answer [.ref 0, .int (nI z), .int n, .int m, .int a, .int x] (xfill F v 0 (wP0 0)) K := by
  have o : ((F 1, 0) : xTq).2 ≤ 40 := Nat.zero_le 40
  have hV : ∀ V : Int32 × xTq, voV z n m a x (F 1) = V → K (some (.int V.1)) (PW F (va_up v 0 (va_up (va_up (va_up (v 0) 2 (nI z)) 3 n) 4 m)) V.2) := by
    intro V e
    subst e
    exact h
  refine xM_go rfl 60 [] fun P hP => ?_
  obtain ⟨j, hj, rfl, -⟩ := nI_ofx a ha (by decide)
  rcases (show j = 0 ∨ j = 1 ∨ j = 2 ∨ j = 3 by omega) with e | e | e | e
  all_goals subst e
  · exact xcall (sp_sh 10 F (va_up v 0 (va_up (va_up (va_up (v 0) 2 (nI z)) 3 n) 4 m)) z hz rfl z hz x 0 (F 1, 0) o (by omega) (hV _ rfl))
  · exact xcall (sp_ru 7 F (va_up v 0 (va_up (va_up (va_up (v 0) 2 (nI z)) 3 n) 4 m)) z hz rfl z hz x 0 (F 1, 0) o (by omega) (hV _ rfl))
  · exact xcall (sp_to 9 F (va_up v 0 (va_up (va_up (va_up (v 0) 2 (nI z)) 3 n) 4 m)) z hz rfl z hz x 0 (F 1, 0) o (by omega) (hV _ rfl))
  · exact xcall (sp_te 5 F (va_up v 0 (va_up (va_up (va_up (v 0) 2 (nI z)) 3 n) 4 m)) z hz rfl z hz x 0 (F 1, 0) o (by omega) (hV _ rfl))
def g_voice (c a x : Int32) (s : xA) : xA := if xin c (s.1 6 1).toInt ∧ xin a 4 then (s.1, s.2.1, va_up (va_up s.2.2 7 (voV (nat (s.1 2 (nat c))) c (s.1 3 (nat c)) a x (s.2.2 7)).2.1) 6 (upd (s.2.2 6) 1 (nI (voV (nat (s.1 2 (nat c))) c (s.1 3 (nat c)) a x (s.2.2 7)).2.2))) else s
def f_voice (c a x : Int32) (s : xA) : Int32 := if xin c (s.1 6 1).toInt ∧ xin a 4 then (voV (nat (s.1 2 (nat c))) c (s.1 3 (nat c)) a x (s.2.2 7)).1 else -1000000001
set_option maxRecDepth 100000 in
theorem hs_voice (n : Nat) (F v : xS) (I : aIv n (hA F v)) (S : hS Φ F v) (c a x : Int32) {K : xKo} (h : hTo Φ F v (g_voice c a x) (f_voice c a x) K) : C_H_voice [.ref 0, .int c, .int a, .int x] (xfill F v 0 wH0) K := by
  refine xM_go rfl 100 [] fun P hP => ?_
  refine xcall (sp_isChild F v _ (fun a1 => ?_) (fun a1 => ?_))
  · refine br_c (fun _ => ?_) (fun z => absurd rfl z)
    refine xcall (sp_errH F v 1 (by decide) ?_)
    exact h.err S _ (if_neg fun z => a1 z.1) (if_neg fun z => a1 z.1)
  refine br_c (fun z => absurd z (by decide)) (fun _ => ?_)
  refine xcall (sp_isBelow _ _ (fun a2 => ?_) (fun a2 => ?_))
  · refine br_n (fun z => absurd rfl z) (fun _ => ?_)
    refine xcall (sp_errH F v 1 (by decide) ?_)
    exact h.err S _ (if_neg fun z => a2 z.2) (if_neg fun z => a2 z.2)
  refine br_n (fun _ => ?_) (fun z => absurd z (by decide))
  have b : vp_in c 7 := vinB I.1.1.2.1 a1 (Nat.le_refl _) (by omega)
  have hc : nat c < nat (v 1 8) := xin_nat I.1.1.2.1 (by omega) a1
  obtain ⟨z, hz6, ez⟩ : below 6 (F 4 (nat c)) := I.1.2 (nat c) hc
  have hz : z < 7 := by omega
  have nz : nat (F 4 (nat c)) = z := by rw [ez]; exact nI_clamp (by omega)
  refine ⟨b, ?_⟩
  refine ⟨b, ?_⟩
  have fin : K (some (.int (voV z c (F 5 (nat c)) a x (F 59)).1)) (xfill (va_up F 59 (voV z c (F 5 (nat c)) a x (F 59)).2.1) (va_up v 58 (va_up (va_up (va_up (va_up (v 58) 1 (nI (voV z c (F 5 (nat c)) a x (F 59)).2.2)) 2 (nI z)) 3 c) 4 (F 5 (nat c)))) 0 wH0) := by
    refine h.ok (F' := va_up F 59 (voV z c (F 5 (nat c)) a x (F 59)).2.1) (v' := va_up v 58 (va_up (va_up (va_up (va_up (v 58) 1 (nI (voV z c (F 5 (nat c)) a x (F 59)).2.2)) 2 (nI z)) 3 c) 4 (F 5 (nat c)))) S ?_ ?_
    · have eg : g_voice c a x (hA F v) = ((hA F v).1, (hA F v).2.1, va_up (va_up (hA F v).2.2 7 (voV z c (F 5 (nat c)) a x (F 59)).2.1) 6 (upd ((hA F v).2.2 6) 1 (nI (voV z c (F 5 (nat c)) a x (F 59)).2.2))) := by
        rw [← nz]
        exact if_pos ⟨a1, a2⟩
      rw [eg]
      exact ⟨⟨⟨rfl, rfl, rfl, rfl, rfl, rfl⟩, fun _ _ => ⟨rfl, rfl⟩, fun _ _ => ⟨rfl, rfl⟩, fun _ _ => rfl, fun _ _ => rfl⟩, ⟨⟨fun _ _ => rfl, fun _ _ => rfl, fun _ _ => rfl, fun _ _ => rfl⟩, ⟨⟨rfl, rfl, rfl, rfl⟩, rfl, rfl, rfl, rfl⟩, ⟨rfl, rfl⟩, fun _ _ => rfl⟩, fun _ => ⟨⟨rfl, rfl, rfl, rfl, rfl, rfl⟩, fun _ _ => ⟨rfl, rfl⟩, fun _ _ => ⟨rfl, rfl⟩, fun _ _ => rfl, fun _ _ => rfl⟩⟩
    · rw [← nz]
      exact if_pos ⟨a1, a2⟩
  rw [show F (1 + 3) (nat c) = nI z from ez]
  exact xcall (sp_answer (fun k => F (58 + k)) (fun k => v (58 + k)) z hz c _ a x a2 fin)
