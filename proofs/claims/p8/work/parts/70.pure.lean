/-! ===== states that agree: the same answers, next states that agree, what is always so ===== -/
theorem below.mono {N M : Nat} {x : Int32} (h : below N x) (l : N ≤ M) : below M x := by
  obtain ⟨k, hk, e⟩ := h
  exact ⟨k, by omega, e⟩
theorem below.inc {N : Nat} {x : Int32} (h : below N x) (l : nat x < N) (hN : N < 1000000) : below N (x + 1) ∧ nat (x + 1) = nat x + 1 := by
  obtain ⟨k, hk, rfl⟩ := h
  rw [show nat (nI k) = k from nI_clamp (by omega)] at l ⊢
  rw [nI_1]
  exact ⟨⟨k + 1, by omega, rfl⟩, nI_clamp (by omega)⟩
theorem aIv.up {n : Nat} {s : xA} (h : aIv n s) : aIv (n + 1) s := ⟨h.1, ⟨⟨h.2.1.1.1.mono (by omega), h.2.1.1.2⟩, h.2.1.2⟩, h.2.2⟩
theorem upS1 {f g : Nat → Int32} {n m : Nat} {x : Int32} (h : ∀ j, j < n → f j = g j) (hm : m ≤ n + 1) : ∀ j, j < m → upd f n x j = upd g n x j := fun j hj => by
  by_cases e : j = n
  · subst e; rw [pk_us, pk_us]
  · rw [pk_un e, pk_un e]; exact h j (by omega)
theorem upS0 {f g : Nat → Int32} {n i : Nat} {x : Int32} (h : ∀ j, j < n → f j = g j) : ∀ j, j < n → upd f i x j = upd g i x j := fun j hj => by
  by_cases e : j = i
  · subst e; rw [pk_us, pk_us]
  · rw [pk_un e, pk_un e]; exact h j hj
theorem rAgr.el {s q : xS} (h : rAgr s q) : (∀ k j, k < 4 → j < 40 → s k j = q k j) ∧ (∀ k, k < 4 → s 4 k = q 4 k) ∧ (∀ k, k < 4 → s 5 k = q 5 k) ∧ (s 6 0 = q 6 0 ∧ s 6 1 = q 6 1) ∧ ∀ j, j < nat (s 6 1) → s 7 j = q 7 j := by
  obtain ⟨⟨a0, a1, a2, a3⟩, ⟨⟨b0, b1, b2, b3⟩, c0, c1, c2, c3⟩, d, e⟩ := h
  refine ⟨fun k j hk hj => ?_, fun k hk => ?_, fun k hk => ?_, d, e⟩
  all_goals rcases (show k = 0 ∨ k = 1 ∨ k = 2 ∨ k = 3 by omega) with z | z | z | z
  all_goals subst z
  · exact a0 j hj
  · exact a1 j hj
  · exact a2 j hj
  · exact a3 j hj
  · exact b0
  · exact b1
  · exact b2
  · exact b3
  · exact c0
  · exact c1
  · exact c2
  · exact c3
theorem rAgr.mk3 {s q : xS} (h : ∀ k j, k < 4 → j < 40 → s k j = q k j) (h4 : ∀ k, k < 4 → s 4 k = q 4 k) (h5 : ∀ k, k < 4 → s 5 k = q 5 k) (h6 : s 6 0 = q 6 0 ∧ s 6 1 = q 6 1) (h7 : ∀ j, j < nat (s 6 1) → s 7 j = q 7 j) : rAgr s q := ⟨⟨fun j => h 0 j (by omega), fun j => h 1 j (by omega), fun j => h 2 j (by omega), fun j => h 3 j (by omega)⟩, ⟨⟨h4 0 (by omega), h4 1 (by omega), h4 2 (by omega), h4 3 (by omega)⟩, h5 0 (by omega), h5 1 (by omega), h5 2 (by omega), h5 3 (by omega)⟩, h6, h7⟩
theorem rIv.el {n : Nat} {s : xS} (h : rIv n s) : (∀ k, k < 4 → below 40 (s 4 k)) ∧ ∀ k j, k < 4 → j < 40 → bare (s 5 k) (s k j) = s k j := by
  obtain ⟨-, ⟨b0, b1, b2, b3⟩, c0, c1, c2, c3⟩ := h
  refine ⟨fun k hk => ?_, fun k j hk hj => ?_⟩
  all_goals rcases (show k = 0 ∨ k = 1 ∨ k = 2 ∨ k = 3 by omega) with z | z | z | z
  all_goals subst z
  · exact b0
  · exact b1
  · exact b2
  · exact b3
  · exact c0 j hj
  · exact c1 j hj
  · exact c2 j hj
  · exact c3 j hj
theorem rIv.mk3 {n : Nat} {s : xS} (h : below n (s 6 0) ∧ below 40 (s 6 1)) (h4 : ∀ k, k < 4 → below 40 (s 4 k)) (h5 : ∀ k j, k < 4 → j < 40 → bare (s 5 k) (s k j) = s k j) : rIv n s := ⟨h, ⟨h4 0 (by omega), h4 1 (by omega), h4 2 (by omega), h4 3 (by omega)⟩, fun j => h5 0 j (by omega), fun j => h5 1 j (by omega), fun j => h5 2 j (by omega), fun j => h5 3 j (by omega)⟩
theorem nat4 {s : Int32} (h : xin s 4) : nat s < 4 := by
  obtain ⟨k, hk, -, e⟩ := nI_ofx s (n := 4) h (by decide)
  omega
theorem div10 {m : Int32} (h : xin m 70) : below 6 (m / 10) := by
  have e : (m / 10).toInt = m.toInt.tdiv 10 := by
    rw [Int32.toInt_div, show (10 : Int32).toInt = 10 by decide]
    have l : m.toInt.tdiv 10 = m.toInt / 10 := Int.tdiv_eq_ediv_of_nonneg h.1
    have := h.1
    have := h.2
    exact Int.bmod_eq_of_le (by omega) (by omega)
  have l : m.toInt.tdiv 10 = m.toInt / 10 := Int.tdiv_eq_ediv_of_nonneg h.1
  have := h.1
  have := h.2
  obtain ⟨k, hk, e2, -⟩ := nI_ofx (m / 10) (n := 7) ⟨by omega, by omega⟩ (by decide)
  exact ⟨k, by omega, e2⟩
/-- the same cells, children, tape, waiting -/
theorem sAgr.c {s q : xS} (h : sAgr s q) {a b : Int32} : sAgr (va_up s 6 (upd (upd (s 6) 2 a) 3 b)) (va_up q 6 (upd (upd (q 6) 2 a) 3 b)) := ⟨⟨h.1.1, h.1.2.1, rfl, rfl, h.1.2.2.2.2.1, h.1.2.2.2.2.2⟩, h.2.1, h.2.2.1, h.2.2.2.1, h.2.2.2.2⟩
theorem sIv.c {s : xS} (h : sIv s) {a b : Int32} (ha : below 9999 a) : sIv (va_up s 6 (upd (upd (s 6) 2 a) 3 b)) := ⟨⟨h.1.1, h.1.2.1, ha, h.1.2.2.2⟩, h.2⟩
theorem pf_thing {n : Nat} {s q : xA} (A : agr s q) (I : aIv n s) (a b : Int32) : f_thing a b s = f_thing a b q := by
  unfold f_thing
  rw [A.1.1.1]
theorem pg_thing {n : Nat} {s q : xA} (A : agr s q) (I : aIv n s) (a b : Int32) : agr (g_thing a b s) (g_thing a b q) := by
  have e0 := A.1.1.1
  unfold g_thing
  rw [e0]
  by_cases c : (xin a 12 ∧ xin b 64) ∧ nat (q.1 6 0) < 8
  · rw [if_pos c, if_pos c]
    have b8 : below 8 (q.1 6 0) := e0 ▸ I.1.1.1
    have ei := (b8.inc c.2 (by omega)).2
    refine ⟨⟨⟨rfl, A.1.1.2⟩, fun j hj => ?_, A.1.2.2⟩, A.2⟩
    have hj : j < nat (q.1 6 0 + 1) := hj
    rw [ei] at hj
    exact ⟨upS1 (n := nat (q.1 6 0)) (fun j hj => (A.1.2.1 j (by rw [e0]; exact hj)).1) (Nat.le_refl _) j hj, upS1 (n := nat (q.1 6 0)) (fun j hj => (A.1.2.1 j (by rw [e0]; exact hj)).2) (Nat.le_refl _) j hj⟩
  · rw [if_neg c, if_neg c]
    exact A
theorem pi_thing {n : Nat} {s : xA} (I : aIv n s) (a b : Int32) : aIv n (g_thing a b s) := by
  unfold g_thing
  by_cases c : (xin a 12 ∧ xin b 64) ∧ nat (s.1 6 0) < 8
  · rw [if_pos c]
    exact ⟨⟨⟨(I.1.1.1.inc c.2 (by omega)).1, I.1.1.2⟩, I.1.2⟩, I.2⟩
  · rw [if_neg c]
    exact I
theorem pf_ofThing {n : Nat} {s q : xA} (A : agr s q) (I : aIv n s) (i w : Int32) : f_ofThing i w s = f_ofThing i w q := by
  unfold f_ofThing
  rw [← A.1.1.1]
  by_cases c : xin i (s.1 6 0).toInt ∧ xin w 2
  · rw [if_pos c, if_pos c]
    have l : nat i < nat (s.1 6 0) := xin_nat I.1.1.1 (by omega) c.1
    rw [(A.1.2.1 _ l).1, (A.1.2.1 _ l).2]
  · rw [if_neg c, if_neg c]
theorem pf_shift {n : Nat} {s q : xA} (A : agr s q) (I : aIv n s) (i w x : Int32) : f_shift i w x s = f_shift i w x q := by
  unfold f_shift
  rw [← A.1.1.1]
  by_cases c : (xin i (s.1 6 0).toInt ∧ xin w 2) ∧ xin x (if w = 0 then 12 else 64)
  · rw [if_pos c, if_pos c]
    have l : nat i < nat (s.1 6 0) := xin_nat I.1.1.1 (by omega) c.1.1
    rw [(A.1.2.1 _ l).1, (A.1.2.1 _ l).2]
  · rw [if_neg c, if_neg c]
theorem pg_shift {n : Nat} {s q : xA} (A : agr s q) (I : aIv n s) (i w x : Int32) : agr (g_shift i w x s) (g_shift i w x q) := by
  unfold g_shift
  rw [← A.1.1.1]
  by_cases c : (xin i (s.1 6 0).toInt ∧ xin w 2) ∧ xin x (if w = 0 then 12 else 64)
  · rw [if_pos c, if_pos c]
    by_cases z : w = 0
    · rw [if_pos z, if_pos z]
      exact ⟨⟨A.1.1, fun j hj => ⟨upS0 (fun j hj => (A.1.2.1 j hj).1) j hj, (A.1.2.1 j hj).2⟩, A.1.2.2⟩, A.2⟩
    · rw [if_neg z, if_neg z]
      exact ⟨⟨A.1.1, fun j hj => ⟨(A.1.2.1 j hj).1, upS0 (fun j hj => (A.1.2.1 j hj).2) j hj⟩, A.1.2.2⟩, A.2⟩
  · rw [if_neg c, if_neg c]
    exact A
theorem pi_shift {n : Nat} {s : xA} (I : aIv n s) (i w x : Int32) : aIv n (g_shift i w x s) := by
  unfold g_shift
  by_cases c : (xin i (s.1 6 0).toInt ∧ xin w 2) ∧ xin x (if w = 0 then 12 else 64)
  · rw [if_pos c]
    by_cases z : w = 0
    · rw [if_pos z]
      exact I
    · rw [if_neg z]
      exact I
  · rw [if_neg c]
    exact I
theorem pf_seed {s q : xA} (A : agr s q) (x : Int32) : f_seed x s = f_seed x q := A.1.1.2.2.2.1
theorem pg_seed {s q : xA} (A : agr s q) (x : Int32) : agr (g_seed x s) (g_seed x q) := ⟨⟨⟨A.1.1.1, A.1.1.2.1, A.1.1.2.2.1, rfl, A.1.1.2.2.2.2⟩, A.1.2⟩, A.2⟩
theorem pi_seed {n : Nat} {s : xA} (I : aIv n s) (x : Int32) : aIv n (g_seed x s) := I
theorem pf_trace {n : Nat} {s q : xA} (A : agr s q) (I : aIv n s) (i : Int32) : f_trace i s = f_trace i q := by
  unfold f_trace
  rw [← A.2.1.2.2.1.2]
  by_cases c : xin i (s.2.2 6 1).toInt
  · rw [if_pos c, if_pos c]
    exact A.2.1.2.2.2 _ (xin_nat I.2.1.1.2 (by omega) c)
  · rw [if_neg c, if_neg c]
theorem pf_tell {s q : xA} (A : agr s q) (x : Int32) : f_tell x s = f_tell x q := by
  unfold f_tell
  rw [A.1.1.2.2.2.2.2]
theorem pg_tell {n : Nat} {s q : xA} (A : agr s q) (I : aIv n s) (x : Int32) : agr (g_tell x s) (g_tell x q) := by
  have e5 := A.1.1.2.2.2.2.2
  unfold g_tell
  rw [e5]
  by_cases c : nat (q.1 6 5) < 20
  · rw [if_pos c, if_pos c]
    have b : below 20 (q.1 6 5) := e5 ▸ I.1.1.2.2.2.2
    have ei := (b.inc c (by omega)).2
    refine ⟨⟨⟨A.1.1.1, A.1.1.2.1, A.1.1.2.2.1, A.1.1.2.2.2.1, A.1.1.2.2.2.2.1, rfl⟩, A.1.2.1, A.1.2.2.1, A.1.2.2.2.1, fun j hj => ?_⟩, A.2⟩
    have hj : j < nat (q.1 6 5 + 1) := hj
    rw [ei] at hj
    exact upS1 (n := nat (q.1 6 5)) (fun j hj => A.1.2.2.2.2 j (by rw [e5]; exact hj)) (Nat.le_refl _) j hj
  · rw [if_neg c, if_neg c]
    exact A
theorem pi_tell {n : Nat} {s : xA} (I : aIv n s) (x : Int32) : aIv n (g_tell x s) := by
  unfold g_tell
  by_cases c : nat (s.1 6 5) < 20
  · rw [if_pos c]
    exact ⟨⟨⟨I.1.1.1, I.1.1.2.1, I.1.1.2.2.1, I.1.1.2.2.2.1, (I.1.1.2.2.2.2.inc c (by omega)).1⟩, I.1.2⟩, I.2⟩
  · rw [if_neg c]
    exact I
theorem pf_child {s q : xA} (A : agr s q) (m c : Int32) : f_child m c s = f_child m c q := by
  unfold f_child
  rw [A.1.1.2.1]
theorem pg_child {n : Nat} {s q : xA} (A : agr s q) (I : aIv n s) (m c : Int32) : agr (g_child m c s) (g_child m c q) := by
  have e1 := A.1.1.2.1
  unfold g_child
  rw [e1]
  by_cases z : (xin m 70 ∧ xin c 12) ∧ nat (q.1 6 1) < 7
  · rw [if_pos z, if_pos z]
    have b : below 7 (q.1 6 1) := e1 ▸ I.1.1.2.1
    have ei := (b.inc z.2 (by omega)).2
    refine ⟨⟨⟨A.1.1.1, rfl, A.1.1.2.2⟩, A.1.2.1, fun j hj => ?_, A.1.2.2.2⟩, A.2⟩
    have hj : j < nat (q.1 6 1 + 1) := hj
    rw [ei] at hj
    exact ⟨upS1 (n := nat (q.1 6 1)) (fun j hj => (A.1.2.2.1 j (by rw [e1]; exact hj)).1) (Nat.le_refl _) j hj, upS1 (n := nat (q.1 6 1)) (fun j hj => (A.1.2.2.1 j (by rw [e1]; exact hj)).2) (Nat.le_refl _) j hj⟩
  · rw [if_neg z, if_neg z]
    exact A
theorem pi_child {n : Nat} {s : xA} (I : aIv n s) (m c : Int32) : aIv n (g_child m c s) := by
  unfold g_child
  by_cases z : (xin m 70 ∧ xin c 12) ∧ nat (s.1 6 1) < 7
  · rw [if_pos z]
    have i := I.1.1.2.1.inc z.2 (by omega)
    refine ⟨⟨⟨I.1.1.1, i.1, I.1.1.2.2⟩, fun j hj => ?_⟩, I.2⟩
    have hj : j < nat (s.1 6 1 + 1) := hj
    rw [i.2] at hj
    show below 6 (upd (s.1 2) (nat (s.1 6 1)) (m / 10) j)
    by_cases e : j = nat (s.1 6 1)
    · rw [e, pk_us]; exact div10 z.1.1
    · rw [pk_un e]; exact I.1.2 j (by omega)
  · rw [if_neg z]
    exact I
theorem pf_become {n : Nat} {s q : xA} (A : agr s q) (I : aIv n s) (c m : Int32) : f_become c m s = f_become c m q := by
  unfold f_become
  rw [← A.1.1.2.1]
  by_cases z : xin c (s.1 6 1).toInt ∧ xin m 70
  · rw [if_pos z, if_pos z]
    exact (A.1.2.2.1 _ (xin_nat I.1.1.2.1 (by omega) z.1)).1
  · rw [if_neg z, if_neg z]
theorem pg_become {s q : xA} (A : agr s q) (c m : Int32) : agr (g_become c m s) (g_become c m q) := by
  unfold g_become
  rw [← A.1.1.2.1]
  by_cases z : xin c (s.1 6 1).toInt ∧ xin m 70
  · rw [if_pos z, if_pos z]
    exact ⟨⟨A.1.1, A.1.2.1, fun j hj => ⟨upS0 (fun j hj => (A.1.2.2.1 j hj).1) j hj, upS0 (fun j hj => (A.1.2.2.1 j hj).2) j hj⟩, A.1.2.2.2⟩, A.2⟩
  · rw [if_neg z, if_neg z]
    exact A
theorem pi_become {n : Nat} {s : xA} (I : aIv n s) (c m : Int32) : aIv n (g_become c m s) := by
  unfold g_become
  by_cases z : xin c (s.1 6 1).toInt ∧ xin m 70
  · rw [if_pos z]
    refine ⟨⟨I.1.1, fun j hj => ?_⟩, I.2⟩
    show below 6 (upd (s.1 2) (nat c) (m / 10) j)
    by_cases e : j = nat c
    · rw [e, pk_us]; exact div10 z.2
    · rw [pk_un e]; exact I.1.2 j hj
  · rw [if_neg z]
    exact I
theorem pf_as {n : Nat} {s q : xA} (A : agr s q) (I : aIv n s) (c k : Int32) : f_as c k s = f_as c k q := by
  unfold f_as
  rw [← A.1.1.2.1]
  by_cases z : xin c (s.1 6 1).toInt ∧ xin k 7
  · rw [if_pos z, if_pos z]
    have l := xin_nat I.1.1.2.1 (by omega) z.1
    rw [(A.1.2.2.1 _ l).1, (A.1.2.2.1 _ l).2]
  · rw [if_neg z, if_neg z]
theorem pg_check {s q : xA} (A : agr s q) : agr (g_check s) (g_check q) := ⟨⟨⟨A.1.1.1, A.1.1.2.1, A.1.1.2.2.1, A.1.1.2.2.2.1, A.1.1.2.2.2.2.1, rfl⟩, A.1.2.1, A.1.2.2.1, A.1.2.2.2.1, fun j hj => absurd (show j < 0 from hj) (Nat.not_lt_zero j)⟩, A.2⟩
theorem pi_check {n : Nat} {s : xA} (I : aIv n s) : aIv n (g_check s) := ⟨⟨⟨I.1.1.1, I.1.1.2.1, I.1.1.2.2.1, I.1.1.2.2.2.1, ⟨0, by omega, rfl⟩⟩, I.1.2⟩, I.2⟩
theorem pg_text {s q : xA} (A : agr s q) (u : Int32) : agr (g_text u s) (g_text u q) := by
  unfold g_text
  by_cases c : xin u 2
  · rw [if_pos c, if_pos c]
    exact ⟨⟨⟨A.1.1.1, A.1.1.2.1, A.1.1.2.2.1, A.1.1.2.2.2.1, rfl, A.1.1.2.2.2.2.2⟩, A.1.2.1, A.1.2.2.1, fun j hj => absurd (show j < 0 from hj) (Nat.not_lt_zero j), A.1.2.2.2.2⟩, A.2⟩
  · rw [if_neg c, if_neg c]
    exact A
theorem pi_text {n : Nat} {s : xA} (I : aIv n s) (u : Int32) : aIv n (g_text u s) := by
  unfold g_text
  by_cases c : xin u 2
  · rw [if_pos c]
    exact ⟨⟨⟨I.1.1.1, I.1.1.2.1, I.1.1.2.2.1, ⟨0, by omega, rfl⟩, I.1.1.2.2.2.2⟩, I.1.2⟩, I.2⟩
  · rw [if_neg c]
    exact I
theorem pf_image {s q : xA} (A : agr s q) : f_image s = f_image q := congrArg (· + 1) A.2.1.2.2.1.1
theorem pg_image {s q : xA} (A : agr s q) : agr (g_image s) (g_image q) := ⟨A.1, ⟨A.2.1.1, A.2.1.2.1, ⟨congrArg (· + 1) A.2.1.2.2.1.1, A.2.1.2.2.1.2⟩, A.2.1.2.2.2⟩, fun _ => A.1⟩
theorem pi_image {n : Nat} {s : xA} (I : aIv n s) : aIv (n + 1) (g_image s) := by
  obtain ⟨k, hk, e⟩ := I.2.1.1.1
  exact ⟨I.1, ⟨⟨⟨k + 1, by omega, by show s.2.2 6 0 + 1 = nI (k + 1); rw [e, nI_1]⟩, I.2.1.1.2⟩, I.2.1.2⟩, fun _ => I.1⟩
theorem pf_restore {s q : xA} (A : agr s q) : f_restore s = f_restore q := by
  unfold f_restore
  rw [← A.2.1.2.2.1.1]
  by_cases c : s.2.2 6 0 = 0
  · rw [if_pos c, if_pos c]
  · rw [if_neg c, if_neg c]
    exact (A.2.2 c).1.2.2.1
theorem pg_restore {s q : xA} (A : agr s q) : agr (g_restore s) (g_restore q) := by
  unfold g_restore
  rw [← A.2.1.2.2.1.1]
  by_cases c : s.2.2 6 0 = 0
  · rw [if_pos c, if_pos c]
    exact A
  · rw [if_neg c, if_neg c]
    exact ⟨A.2.2 c, A.2.1, A.2.2⟩
theorem pi_restore {n : Nat} {s : xA} (I : aIv n s) : aIv n (g_restore s) := by
  unfold g_restore
  by_cases c : s.2.2 6 0 = 0
  · rw [if_pos c]
    exact I
  · rw [if_neg c]
    exact ⟨I.2.2 c, I.2⟩
theorem pg_call {s q : xA} (A : agr s q) (m u : Int32) : agr (g_call m u s) (g_call m u q) := by
  unfold g_call
  rw [A.1.1.2.2.1, A.1.1.2.2.2.1]
  by_cases c : (xin m 6 ∧ xin u 10) ∧ nat (q.1 6 2) < 9999
  · rw [if_pos c, if_pos c]
    exact ⟨A.1.c, A.2⟩
  · rw [if_neg c, if_neg c]
    exact A
theorem pi_call {n : Nat} {s : xA} (I : aIv n s) (m u : Int32) : aIv n (g_call m u s) := by
  unfold g_call
  by_cases c : (xin m 6 ∧ xin u 10) ∧ nat (s.1 6 2) < 9999
  · rw [if_pos c]
    exact ⟨I.1.c (I.1.1.2.2.1.inc c.2 (by omega)).1, I.2⟩
  · rw [if_neg c]
    exact I
theorem pg_loose {s q : xA} (A : agr s q) (x : Int32) : agr (g_loose x s) (g_loose x q) := by
  unfold g_loose
  rw [A.1.1.2.2.1, A.1.1.2.2.2.1]
  by_cases c : (1 ≤ x.toInt ∧ x.toInt ≤ 40) ∧ nat (q.1 6 2) + nat x ≤ 9999
  · rw [if_pos c, if_pos c]
    exact ⟨A.1.c, A.2⟩
  · rw [if_neg c, if_neg c]
    exact A
theorem pi_loose {n : Nat} {s : xA} (I : aIv n s) (x : Int32) : aIv n (g_loose x s) := by
  unfold g_loose
  by_cases c : (1 ≤ x.toInt ∧ x.toInt ≤ 40) ∧ nat (s.1 6 2) + nat x ≤ 9999
  · rw [if_pos c]
    exact ⟨I.1.c ⟨_, c.2, rfl⟩, I.2⟩
  · rw [if_neg c]
    exact I
theorem pf_feed {s q : xA} (A : agr s q) (w : Int64) (x : Int32) : f_feed w x s = f_feed w x q := by
  unfold f_feed
  rw [A.1.1.2.2.2.2.1]
theorem pg_feed {n : Nat} {s q : xA} (A : agr s q) (I : aIv n s) (w : Int64) (x : Int32) : agr (g_feed w x s) (g_feed w x q) := by
  have e4 := A.1.1.2.2.2.2.1
  unfold g_feed
  rw [e4]
  by_cases c : (1 ≤ x.toInt ∧ x.toInt ≤ 8) ∧ nat (q.1 6 4) + nat x ≤ 50
  · rw [if_pos c, if_pos c]
    refine ⟨⟨⟨A.1.1.1, A.1.1.2.1, A.1.1.2.2.1, A.1.1.2.2.2.1, rfl, A.1.1.2.2.2.2.2⟩, A.1.2.1, A.1.2.2.1, fun j hj => ?_, A.1.2.2.2.2⟩, A.2⟩
    have hj : j < nat (nI (nat (q.1 6 4) + nat x)) := hj
    rw [show nat (nI (nat (q.1 6 4) + nat x)) = nat (q.1 6 4) + nat x from nI_clamp (by omega)] at hj
    show fedT (s.1 4) w (nat (q.1 6 4)) (nat x) j = fedT (q.1 4) w (nat (q.1 6 4)) (nat x) j
    unfold fedT
    by_cases g : nat (q.1 6 4) ≤ j ∧ j < nat (q.1 6 4) + nat x
    · rw [if_pos g, if_pos g]
    · rw [if_neg g, if_neg g]
      exact A.1.2.2.2.1 j (by rw [e4]; omega)
  · rw [if_neg c, if_neg c]
    exact A
theorem pi_feed {n : Nat} {s : xA} (I : aIv n s) (w : Int64) (x : Int32) : aIv n (g_feed w x s) := by
  unfold g_feed
  by_cases c : (1 ≤ x.toInt ∧ x.toInt ≤ 8) ∧ nat (s.1 6 4) + nat x ≤ 50
  · rw [if_pos c]
    exact ⟨⟨⟨I.1.1.1, I.1.1.2.1, I.1.1.2.2.1, ⟨_, c.2, rfl⟩, I.1.1.2.2.2.2⟩, I.1.2⟩, I.2⟩
  · rw [if_neg c]
    exact I
