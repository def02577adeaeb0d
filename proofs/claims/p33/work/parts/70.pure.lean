section
/-! ===== states that agree: the same answers, next states that agree, what is always so ===== -/
theorem below.mono {N M : Nat} {x : Int32} (h : below N x) (l : N ≤ M) : below M x := by
  obtain ⟨k, hk, e⟩ := h
  exact ⟨k, by omega, e⟩
theorem below.inc {N : Nat} {x : Int32} (h : below N x) (l : nat x < N) (hN : N < 1000000) : below N (x + 1) ∧ nat (x + 1) = nat x + 1 := by
  obtain ⟨k, hk, rfl⟩ := h
  rw [show nat (nI k) = k from nI_clamp (by omega)] at l ⊢
  rw [nI_1]
  exact ⟨⟨k + 1, by omega, rfl⟩, nI_clamp (by omega)⟩
theorem aIv.up {n : Nat} {s : xA} (h : aIv n s) : aIv (n + 1) s := ⟨h.1, ⟨⟨h.2.1.1.1.mono (by omega), h.2.1.1.2⟩, h.2.1.2⟩, h.2.2⟩
theorem upS1 {f g : Nat → Int32} {n m : Nat} {x : Int32} (h : ∀ j, j < n → f j = g j) (hm : m ≤ n + 1) : ∀ j, j < m → upd f n x j = upd g n x j := fun j hj => by
  by_cases e : j = n
  · subst e; rw [pk_us, pk_us]
  · rw [pk_un e, pk_un e]; exact h j (by omega)
theorem upS0 {f g : Nat → Int32} {n i : Nat} {x : Int32} (h : ∀ j, j < n → f j = g j) : ∀ j, j < n → upd f i x j = upd g i x j := fun j hj => by
  by_cases e : j = i
  · subst e; rw [pk_us, pk_us]
  · rw [pk_un e, pk_un e]; exact h j hj
theorem rAgr.el {s q : xS} (h : rAgr s q) : (∀ k j, k < 4 → j < 40 → s k j = q k j) ∧ (∀ k, k < 4 → s 4 k = q 4 k) ∧ (∀ k, k < 4 → s 5 k = q 5 k) ∧ (s 6 0 = q 6 0 ∧ s 6 1 = q 6 1) ∧ ∀ j, j < nat (s 6 1) → s 7 j = q 7 j := by
  obtain ⟨⟨a0, a1, a2, a3⟩, ⟨⟨b0, b1, b2, b3⟩, c0, c1, c2, c3⟩, d, e⟩ := h
  refine ⟨fun k j hk hj => ?_, fun k hk => ?_, fun k hk => ?_, d, e⟩
  all_goals rcases (show k = 0 ∨ k = 1 ∨ k = 2 ∨ k = 3 by omega) with z | z | z | z
  all_goals subst z
  · exact a0 j hj
  · exact a1 j hj
  · exact a2 j hj
  · exact a3 j hj
  · exact b0
  · exact b1
  · exact b2
  · exact b3
  · exact c0
  · exact c1
  · exact c2
  · exact c3
theorem rAgr.mk3 {s q : xS} (h : ∀ k j, k < 4 → j < 40 → s k j = q k j) (h4 : ∀ k, k < 4 → s 4 k = q 4 k) (h5 : ∀ k, k < 4 → s 5 k = q 5 k) (h6 : s 6 0 = q 6 0 ∧ s 6 1 = q 6 1) (h7 : ∀ j, j < nat (s 6 1) → s 7 j = q 7 j) : rAgr s q := ⟨⟨fun j => h 0 j (by omega), fun j => h 1 j (by omega), fun j => h 2 j (by omega), fun j => h 3 j (by omega)⟩, ⟨⟨h4 0 (by omega), h4 1 (by omega), h4 2 (by omega), h4 3 (by omega)⟩, h5 0 (by omega), h5 1 (by omega), h5 2 (by omega), h5 3 (by omega)⟩, h6, h7⟩
theorem rIv.el {n : Nat} {s : xS} (h : rIv n s) : (∀ k, k < 4 → below 40 (s 4 k)) ∧ ∀ k j, k < 4 → j < 40 → bare (s 5 k) (s k j) = s k j := by
  obtain ⟨-, ⟨b0, b1, b2, b3⟩, c0, c1, c2, c3⟩ := h
  refine ⟨fun k hk => ?_, fun k j hk hj => ?_⟩
  all_goals rcases (show k = 0 ∨ k = 1 ∨ k = 2 ∨ k = 3 by omega) with z | z | z | z
  all_goals subst z
  · exact b0
  · exact b1
  · exact b2
  · exact b3
  · exact c0 j hj
  · exact c1 j hj
  · exact c2 j hj
  · exact c3 j hj
theorem rIv.mk3 {n : Nat} {s : xS} (h : below n (s 6 0) ∧ below 40 (s 6 1)) (h4 : ∀ k, k < 4 → below 40 (s 4 k)) (h5 : ∀ k j, k < 4 → j < 40 → bare (s 5 k) (s k j) = s k j) : rIv n s := ⟨h, ⟨h4 0 (by omega), h4 1 (by omega), h4 2 (by omega), h4 3 (by omega)⟩, fun j => h5 0 j (by omega), fun j => h5 1 j (by omega), fun j => h5 2 j (by omega), fun j => h5 3 j (by omega)⟩
theorem nat4 {s : Int32} (h : xin s 4) : nat s < 4 := by
  obtain ⟨k, hk, -, e⟩ := nI_ofx s (n := 4) h (by decide)
  omega
theorem div10 {m : Int32} (h : xin m 70) : below 6 (m / 10) := by
  have e : (m / 10).toInt = m.toInt.tdiv 10 := by
    rw [Int32.toInt_div, show (10 : Int32).toInt = 10 by decide]
    have l : m.toInt.tdiv 10 = m.toInt / 10 := Int.tdiv_eq_ediv_of_nonneg h.1
    have := h.1
    have := h.2
    exact Int.bmod_eq_of_le (by omega) (by omega)
  have l : m.toInt.tdiv 10 = m.toInt / 10 := Int.tdiv_eq_ediv_of_nonneg h.1
  have := h.1
  have := h.2
  obtain ⟨k, hk, e2, -⟩ := nI_ofx (m / 10) (n := 7) ⟨by omega, by omega⟩ (by decide)
  exact ⟨k, by omega, e2⟩
/-- the same cells, children, tape, waiting -/
theorem sAgr.c {s q : xS} (h : sAgr s q) {a b : Int32} : sAgr (va_up s 6 (upd (upd (s 6) 2 a) 3 b)) (va_up q 6 (upd (upd (q 6) 2 a) 3 b)) := ⟨⟨h.1.1, h.1.2.1, rfl, rfl, h.1.2.2.2.2.1, h.1.2.2.2.2.2⟩, h.2.1, h.2.2.1, h.2.2.2.1, h.2.2.2.2⟩
theorem sIv.c {s : xS} (h : sIv s) {a b : Int32} (ha : below 9999 a) : sIv (va_up s 6 (upd (upd (s 6) 2 a) 3 b)) := ⟨⟨h.1.1, h.1.2.1, ha, h.1.2.2.2⟩, h.2⟩
theorem pf_thing {n : Nat} {s q : xA} (A : agr s q) (I : aIv n s) (a b : Int32) : f_thing a b s = f_thing a b q := by
  unfold f_thing
  rw [A.1.1.1]
theorem pg_thing {n : Nat} {s q : xA} (A : agr s q) (I : aIv n s) (a b : Int32) : agr (g_thing a b s) (g_thing a b q) := by
  have e0 := A.1.1.1
  unfold g_thing
  rw [e0]
  by_cases c : (xin a 12 ∧ xin b 64) ∧ nat (q.1 6 0) < 8
  · rw [if_pos c, if_pos c]
    have b8 : below 8 (q.1 6 0) := e0 ▸ I.1.1.1
    have ei := (b8.inc c.2 (by omega)).2
    refine ⟨⟨⟨rfl, A.1.1.2⟩, fun j hj => ?_, A.1.2.2⟩, A.2⟩
    have hj : j < nat (q.1 6 0 + 1) := hj
    rw [ei] at hj
    exact ⟨upS1 (n := nat (q.1 6 0)) (fun j hj => (A.1.2.1 j (by rw [e0]; exact hj)).1) (Nat.le_refl _) j hj, upS1 (n := nat (q.1 6 0)) (fun j hj => (A.1.2.1 j (by rw [e0]; exact hj)).2) (Nat.le_refl _) j hj⟩
  · rw [if_neg c, if_neg c]
    exact A
theorem pi_thing {n : Nat} {s : xA} (I : aIv n s) (a b : Int32) : aIv n (g_thing a b s) := by
  unfold g_thing
  by_cases c : (xin a 12 ∧ xin b 64) ∧ nat (s.1 6 0) < 8
  · rw [if_pos c]
    exact ⟨⟨⟨(I.1.1.1.inc c.2 (by omega)).1, I.1.1.2⟩, I.1.2⟩, I.2⟩
  · rw [if_neg c]
    exact I
theorem pf_ofThing {n : Nat} {s q : xA} (A : agr s q) (I : aIv n s) (i w : Int32) : f_ofThing i w s = f_ofThing i w q := by
  unfold f_ofThing
  rw [← A.1.1.1]
  by_cases c : xin i (s.1 6 0).toInt ∧ xin w 2
  · rw [if_pos c, if_pos c]
    have l : nat i < nat (s.1 6 0) := xin_nat I.1.1.1 (by omega) c.1
    rw [(A.1.2.1 _ l).1, (A.1.2.1 _ l).2]
  · rw [if_neg c, if_neg c]
theorem pf_shift {n : Nat} {s q : xA} (A : agr s q) (I : aIv n s) (i w x : Int32) : f_shift i w x s = f_shift i w x q := by
  unfold f_shift
  rw [← A.1.1.1]
  by_cases c : (xin i (s.1 6 0).toInt ∧ xin w 2) ∧ xin x (if w = 0 then 12 else 64)
  · rw [if_pos c, if_pos c]
    have l : nat i < nat (s.1 6 0) := xin_nat I.1.1.1 (by omega) c.1.1
    rw [(A.1.2.1 _ l).1, (A.1.2.1 _ l).2]
  · rw [if_neg c, if_neg c]
theorem pg_shift {n : Nat} {s q : xA} (A : agr s q) (I : aIv n s) (i w x : Int32) : agr (g_shift i w x s) (g_shift i w x q) := by
  unfold g_shift
  rw [← A.1.1.1]
  by_cases c : (xin i (s.1 6 0).toInt ∧ xin w 2) ∧ xin x (if w = 0 then 12 else 64)
  · rw [if_pos c, if_pos c]
    by_cases z : w = 0
    · rw [if_pos z, if_pos z]
      exact ⟨⟨A.1.1, fun j hj => ⟨upS0 (fun j hj => (A.1.2.1 j hj).1) j hj, (A.1.2.1 j hj).2⟩, A.1.2.2⟩, A.2⟩
    · rw [if_neg z, if_neg z]
      exact ⟨⟨A.1.1, fun j hj => ⟨(A.1.2.1 j hj).1, upS0 (fun j hj => (A.1.2.1 j hj).2) j hj⟩, A.1.2.2⟩, A.2⟩
  · rw [if_neg c, if_neg c]
    exact A
theorem pi_shift {n : Nat} {s : xA} (I : aIv n s) (i w x : Int32) : aIv n (g_shift i w x s) := by
  unfold g_shift
  by_cases c : (xin i (s.1 6 0).toInt ∧ xin w 2) ∧ xin x (if w = 0 then 12 else 64)
  · rw [if_pos c]
    by_cases z : w = 0
    · rw [if_pos z]
      exact I
    · rw [if_neg z]
      exact I
  · rw [if_neg c]
    exact I
theorem pf_seed {s q : xA} (A : agr s q) (x : Int32) : f_seed x s = f_seed x q := A.1.1.2.2.2.1
theorem pg_seed {s q : xA} (A : agr s q) (x : Int32) : agr (g_seed x s) (g_seed x q) := ⟨⟨⟨A.1.1.1, A.1.1.2.1, A.1.1.2.2.1, rfl, A.1.1.2.2.2.2⟩, A.1.2⟩, A.2⟩
theorem pi_seed {n : Nat} {s : xA} (I : aIv n s) (x : Int32) : aIv n (g_seed x s) := I
theorem pf_trace {n : Nat} {s q : xA} (A : agr s q) (I : aIv n s) (i : Int32) : f_trace i s = f_trace i q := by
  unfold f_trace
  rw [← A.2.1.2.2.1.2]
  by_cases c : xin i (s.2.2 6 1).toInt
  · rw [if_pos c, if_pos c]
    exact A.2.1.2.2.2 _ (xin_nat I.2.1.1.2 (by omega) c)
  · rw [if_neg c, if_neg c]
theorem pf_tell {s q : xA} (A : agr s q) (x : Int32) : f_tell x s = f_tell x q := by
  unfold f_tell
  rw [A.1.1.2.2.2.2.2]
theorem pg_tell {n : Nat} {s q : xA} (A : agr s q) (I : aIv n s) (x : Int32) : agr (g_tell x s) (g_tell x q) := by
  have e5 := A.1.1.2.2.2.2.2
  unfold g_tell
  rw [e5]
  by_cases c : nat (q.1 6 5) < 20
  · rw [if_pos c, if_pos c]
    have b : below 20 (q.1 6 5) := e5 ▸ I.1.1.2.2.2.2
    have ei := (b.inc c (by omega)).2
    refine ⟨⟨⟨A.1.1.1, A.1.1.2.1, A.1.1.2.2.1, A.1.1.2.2.2.1, A.1.1.2.2.2.2.1, rfl⟩, A.1.2.1, A.1.2.2.1, A.1.2.2.2.1, fun j hj => ?_⟩, A.2⟩
    have hj : j < nat (q.1 6 5 + 1) := hj
    rw [ei] at hj
    exact upS1 (n := nat (q.1 6 5)) (fun j hj => A.1.2.2.2.2 j (by rw [e5]; exact hj)) (Nat.le_refl _) j hj
  · rw [if_neg c, if_neg c]
    exact A
theorem pi_tell {n : Nat} {s : xA} (I : aIv n s) (x : Int32) : aIv n (g_tell x s) := by
  unfold g_tell
  by_cases c : nat (s.1 6 5) < 20
  · rw [if_pos c]
    exact ⟨⟨⟨I.1.1.1, I.1.1.2.1, I.1.1.2.2.1, I.1.1.2.2.2.1, (I.1.1.2.2.2.2.inc c (by omega)).1⟩, I.1.2⟩, I.2⟩
  · rw [if_neg c]
    exact I
theorem pf_child {s q : xA} (A : agr s q) (m c : Int32) : f_child m c s = f_child m c q := by
  unfold f_child
  rw [A.1.1.2.1]
theorem pg_child {n : Nat} {s q : xA} (A : agr s q) (I : aIv n s) (m c : Int32) : agr (g_child m c s) (g_child m c q) := by
  have e1 := A.1.1.2.1
  unfold g_child
  rw [e1]
  by_cases z : (xin m 70 ∧ xin c 12) ∧ nat (q.1 6 1) < 7
  · rw [if_pos z, if_pos z]
    have b : below 7 (q.1 6 1) := e1 ▸ I.1.1.2.1
    have ei := (b.inc z.2 (by omega)).2
    refine ⟨⟨⟨A.1.1.1, rfl, A.1.1.2.2⟩, A.1.2.1, fun j hj => ?_, A.1.2.2.2⟩, A.2⟩
    have hj : j < nat (q.1 6 1 + 1) := hj
    rw [ei] at hj
    exact ⟨upS1 (n := nat (q.1 6 1)) (fun j hj => (A.1.2.2.1 j (by rw [e1]; exact hj)).1) (Nat.le_refl _) j hj, upS1 (n := nat (q.1 6 1)) (fun j hj => (A.1.2.2.1 j (by rw [e1]; exact hj)).2) (Nat.le_refl _) j hj⟩
  · rw [if_neg z, if_neg z]
    exact A
theorem pi_child {n : Nat} {s : xA} (I : aIv n s) (m c : Int32) : aIv n (g_child m c s) := by
  unfold g_child
  by_cases z : (xin m 70 ∧ xin c 12) ∧ nat (s.1 6 1) < 7
  · rw [if_pos z]
    have i := I.1.1.2.1.inc z.2 (by omega)
    refine ⟨⟨⟨I.1.1.1, i.1, I.1.1.2.2⟩, fun j hj => ?_⟩, I.2⟩
    have hj : j < nat (s.1 6 1 + 1) := hj
    rw [i.2] at hj
    show below 6 (upd (s.1 2) (nat (s.1 6 1)) (m / 10) j)
    by_cases e : j = nat (s.1 6 1)
    · rw [e, pk_us]; exact div10 z.1.1
    · rw [pk_un e]; exact I.1.2 j (by omega)
  · rw [if_neg z]
    exact I
theorem pf_become {n : Nat} {s q : xA} (A : agr s q) (I : aIv n s) (c m : Int32) : f_become c m s = f_become c m q := by
  unfold f_become
  rw [← A.1.1.2.1]
  by_cases z : xin c (s.1 6 1).toInt ∧ xin m 70
  · rw [if_pos z, if_pos z]
    exact (A.1.2.2.1 _ (xin_nat I.1.1.2.1 (by omega) z.1)).1
  · rw [if_neg z, if_neg z]
theorem pg_become {s q : xA} (A : agr s q) (c m : Int32) : agr (g_become c m s) (g_become c m q) := by
  unfold g_become
  rw [← A.1.1.2.1]
  by_cases z : xin c (s.1 6 1).toInt ∧ xin m 70
  · rw [if_pos z, if_pos z]
    exact ⟨⟨A.1.1, A.1.2.1, fun j hj => ⟨upS0 (fun j hj => (A.1.2.2.1 j hj).1) j hj, upS0 (fun j hj => (A.1.2.2.1 j hj).2) j hj⟩, A.1.2.2.2⟩, A.2⟩
  · rw [if_neg z, if_neg z]
    exact A
theorem pi_become {n : Nat} {s : xA} (I : aIv n s) (c m : Int32) : aIv n (g_become c m s) := by
  unfold g_become
  by_cases z : xin c (s.1 6 1).toInt ∧ xin m 70
  · rw [if_pos z]
    refine ⟨⟨I.1.1, fun j hj => ?_⟩, I.2⟩
    show below 6 (upd (s.1 2) (nat c) (m / 10) j)
    by_cases e : j = nat c
    · rw [e, pk_us]; exact div10 z.2
    · rw [pk_un e]; exact I.1.2 j hj
  · rw [if_neg z]
    exact I
theorem pf_as {n : Nat} {s q : xA} (A : agr s q) (I : aIv n s) (c k : Int32) : f_as c k s = f_as c k q := by
  unfold f_as
  rw [← A.1.1.2.1]
  by_cases z : xin c (s.1 6 1).toInt ∧ xin k 7
  · rw [if_pos z, if_pos z]
    have l := xin_nat I.1.1.2.1 (by omega) z.1
    rw [(A.1.2.2.1 _ l).1, (A.1.2.2.1 _ l).2]
  · rw [if_neg z, if_neg z]
theorem pg_check {s q : xA} (A : agr s q) : agr (g_check s) (g_check q) := ⟨⟨⟨A.1.1.1, A.1.1.2.1, A.1.1.2.2.1, A.1.1.2.2.2.1, A.1.1.2.2.2.2.1, rfl⟩, A.1.2.1, A.1.2.2.1, A.1.2.2.2.1, fun j hj => absurd (show j < 0 from hj) (Nat.not_lt_zero j)⟩, A.2⟩
theorem pi_check {n : Nat} {s : xA} (I : aIv n s) : aIv n (g_check s) := ⟨⟨⟨I.1.1.1, I.1.1.2.1, I.1.1.2.2.1, I.1.1.2.2.2.1, ⟨0, by omega, rfl⟩⟩, I.1.2⟩, I.2⟩
theorem pg_text {s q : xA} (A : agr s q) (u : Int32) : agr (g_text u s) (g_text u q) := by
  unfold g_text
  by_cases c : xin u 2
  · rw [if_pos c, if_pos c]
    exact ⟨⟨⟨A.1.1.1, A.1.1.2.1, A.1.1.2.2.1, A.1.1.2.2.2.1, rfl, A.1.1.2.2.2.2.2⟩, A.1.2.1, A.1.2.2.1, fun j hj => absurd (show j < 0 from hj) (Nat.not_lt_zero j), A.1.2.2.2.2⟩, A.2⟩
  · rw [if_neg c, if_neg c]
    exact A
theorem pi_text {n : Nat} {s : xA} (I : aIv n s) (u : Int32) : aIv n (g_text u s) := by
  unfold g_text
  by_cases c : xin u 2
  · rw [if_pos c]
    exact ⟨⟨⟨I.1.1.1, I.1.1.2.1, I.1.1.2.2.1, ⟨0, by omega, rfl⟩, I.1.1.2.2.2.2⟩, I.1.2⟩, I.2⟩
  · rw [if_neg c]
    exact I
theorem pf_image {s q : xA} (A : agr s q) : f_image s = f_image q := congrArg (· + 1) A.2.1.2.2.1.1
theorem pg_image {s q : xA} (A : agr s q) : agr (g_image s) (g_image q) := ⟨A.1, ⟨A.2.1.1, A.2.1.2.1, ⟨congrArg (· + 1) A.2.1.2.2.1.1, A.2.1.2.2.1.2⟩, A.2.1.2.2.2⟩, fun _ => A.1⟩
theorem pi_image {n : Nat} {s : xA} (I : aIv n s) : aIv (n + 1) (g_image s) := by
  obtain ⟨k, hk, e⟩ := I.2.1.1.1
  exact ⟨I.1, ⟨⟨⟨k + 1, by omega, by show s.2.2 6 0 + 1 = nI (k + 1); rw [e, nI_1]⟩, I.2.1.1.2⟩, I.2.1.2⟩, fun _ => I.1⟩
theorem pf_restore {s q : xA} (A : agr s q) : f_restore s = f_restore q := by
  unfold f_restore
  rw [← A.2.1.2.2.1.1]
  by_cases c : s.2.2 6 0 = 0
  · rw [if_pos c, if_pos c]
  · rw [if_neg c, if_neg c]
    exact (A.2.2 c).1.2.2.1
theorem pg_restore {s q : xA} (A : agr s q) : agr (g_restore s) (g_restore q) := by
  unfold g_restore
  rw [← A.2.1.2.2.1.1]
  by_cases c : s.2.2 6 0 = 0
  · rw [if_pos c, if_pos c]
    exact A
  · rw [if_neg c, if_neg c]
    exact ⟨A.2.2 c, A.2.1, A.2.2⟩
theorem pi_restore {n : Nat} {s : xA} (I : aIv n s) : aIv n (g_restore s) := by
  unfold g_restore
  by_cases c : s.2.2 6 0 = 0
  · rw [if_pos c]
    exact I
  · rw [if_neg c]
    exact ⟨I.2.2 c, I.2⟩
theorem pg_call {s q : xA} (A : agr s q) (m u : Int32) : agr (g_call m u s) (g_call m u q) := by
  unfold g_call
  rw [A.1.1.2.2.1, A.1.1.2.2.2.1]
  by_cases c : (xin m 6 ∧ xin u 10) ∧ nat (q.1 6 2) < 9999
  · rw [if_pos c, if_pos c]
    exact ⟨A.1.c, A.2⟩
  · rw [if_neg c, if_neg c]
    exact A
theorem pi_call {n : Nat} {s : xA} (I : aIv n s) (m u : Int32) : aIv n (g_call m u s) := by
  unfold g_call
  by_cases c : (xin m 6 ∧ xin u 10) ∧ nat (s.1 6 2) < 9999
  · rw [if_pos c]
    exact ⟨I.1.c (I.1.1.2.2.1.inc c.2 (by omega)).1, I.2⟩
  · rw [if_neg c]
    exact I
theorem pg_loose {s q : xA} (A : agr s q) (x : Int32) : agr (g_loose x s) (g_loose x q) := by
  unfold g_loose
  rw [A.1.1.2.2.1, A.1.1.2.2.2.1]
  by_cases c : (1 ≤ x.toInt ∧ x.toInt ≤ 40) ∧ nat (q.1 6 2) + nat x ≤ 9999
  · rw [if_pos c, if_pos c]
    exact ⟨A.1.c, A.2⟩
  · rw [if_neg c, if_neg c]
    exact A
theorem pi_loose {n : Nat} {s : xA} (I : aIv n s) (x : Int32) : aIv n (g_loose x s) := by
  unfold g_loose
  by_cases c : (1 ≤ x.toInt ∧ x.toInt ≤ 40) ∧ nat (s.1 6 2) + nat x ≤ 9999
  · rw [if_pos c]
    exact ⟨I.1.c ⟨_, c.2, rfl⟩, I.2⟩
  · rw [if_neg c]
    exact I
theorem pf_feed {s q : xA} (A : agr s q) (w : Int64) (x : Int32) : f_feed w x s = f_feed w x q := by
  unfold f_feed
  rw [A.1.1.2.2.2.2.1]
theorem pg_feed {n : Nat} {s q : xA} (A : agr s q) (I : aIv n s) (w : Int64) (x : Int32) : agr (g_feed w x s) (g_feed w x q) := by
  have e4 := A.1.1.2.2.2.2.1
  unfold g_feed
  rw [e4]
  by_cases c : (1 ≤ x.toInt ∧ x.toInt ≤ 8) ∧ nat (q.1 6 4) + nat x ≤ 50
  · rw [if_pos c, if_pos c]
    refine ⟨⟨⟨A.1.1.1, A.1.1.2.1, A.1.1.2.2.1, A.1.1.2.2.2.1, rfl, A.1.1.2.2.2.2.2⟩, A.1.2.1, A.1.2.2.1, fun j hj => ?_, A.1.2.2.2.2⟩, A.2⟩
    have hj : j < nat (nI (nat (q.1 6 4) + nat x)) := hj
    rw [show nat (nI (nat (q.1 6 4) + nat x)) = nat (q.1 6 4) + nat x from nI_clamp (by omega)] at hj
    show fedT (s.1 4) w (nat (q.1 6 4)) (nat x) j = fedT (q.1 4) w (nat (q.1 6 4)) (nat x) j
    unfold fedT
    by_cases g : nat (q.1 6 4) ≤ j ∧ j < nat (q.1 6 4) + nat x
    · rw [if_pos g, if_pos g]
    · rw [if_neg g, if_neg g]
      exact A.1.2.2.2.1 j (by rw [e4]; omega)
  · rw [if_neg c, if_neg c]
    exact A
theorem pi_feed {n : Nat} {s : xA} (I : aIv n s) (w : Int64) (x : Int32) : aIv n (g_feed w x s) := by
  unfold g_feed
  by_cases c : (1 ≤ x.toInt ∧ x.toInt ≤ 8) ∧ nat (s.1 6 4) + nat x ≤ 50
  · rw [if_pos c]
    exact ⟨⟨⟨I.1.1.1, I.1.1.2.1, I.1.1.2.2.1, ⟨_, c.2, rfl⟩, I.1.1.2.2.2.2⟩, I.1.2⟩, I.2⟩
  · rw [if_neg c]
    exact I
end
section
/-! ===== states that agree: sheets, voices ===== -/
theorem bare_bare (b x : Int32) : bare b (bare b x) = bare b x := by
  unfold bare
  by_cases h : b = 8
  · rw [if_pos h, if_pos h, Int32.and_assoc]; rfl
  · rw [if_neg h, if_neg h]
    by_cases g : b = 16
    · rw [if_pos g, if_pos g, Int32.and_assoc]; rfl
    · rw [if_neg g, if_neg g]
theorem agr.r3 {s q : xA} {R R2 : xS} (A : agr s q) (h : rAgr R R2) (h6 : R 6 = s.2.2 6) : agr (s.1, s.2.1, R) (q.1, q.2.1, R2) := ⟨A.1, h, fun z => A.2.2 (by rw [← h6]; exact z)⟩
theorem aIv.r3 {n : Nat} {s : xA} {R : xS} (I : aIv n s) (h : rIv n R) (h6 : R 6 = s.2.2 6) : aIv n (s.1, s.2.1, R) := ⟨I.1, h, fun z => I.2.2 (by rw [← h6]; exact z)⟩
theorem pf_sheet {s q : xA} (a b c : Int32) : f_sheet a b c s = f_sheet a b c q := rfl
theorem pg_sheet {s q : xA} (A : agr s q) (a b c : Int32) : agr (g_sheet a b c s) (g_sheet a b c q) := by
  unfold g_sheet
  by_cases z : xin a 4 ∧ (b = 0 ∨ ((b = 8 ∨ b = 16 ∨ b = 32) ∧ xin c 41))
  · rw [if_pos z, if_pos z]
    have l := nat4 z.1
    obtain ⟨h1, h2, h3, h4, h5⟩ := A.2.1.el
    have w : ∀ (f : xS) (x y u : Nat → Int32) (k : Nat), ¬ k = 4 → ¬ k = 5 → va_up (va_up (va_up f (nat a) x) 4 y) 5 u k = va_up f (nat a) x k := fun f x y u k e4 e5 => (if_neg e5).trans (if_neg e4)
    have w2 : ∀ (f : xS) (x y u : Nat → Int32) (k : Nat), 4 ≤ k → ¬ k = 4 → ¬ k = 5 → va_up (va_up (va_up f (nat a) x) 4 y) 5 u k = f k := fun f x y u k e e4 e5 => (if_neg e5).trans ((if_neg e4).trans (if_neg (by omega)))
    refine A.r3 (rAgr.mk3 (fun k j hk hj => ?_) (fun k hk => ?_) (fun k hk => ?_) ?_ (fun j hj => ?_)) (w2 _ _ _ _ 6 (by omega) (by omega) (by omega))
    · rw [w _ _ _ _ _ (by omega) (by omega), w _ _ _ _ _ (by omega) (by omega)]
      by_cases e : k = nat a
      · rw [e, vu_eq, vu_eq]
      · rw [vu_ne e, vu_ne e]; exact h1 k j hk hj
    · show upd (s.2.2 4) (nat a) (if b = 0 then 0 else c) k = upd (q.2.2 4) (nat a) (if b = 0 then 0 else c) k
      exact upS0 (n := 4) h2 k hk
    · show upd (s.2.2 5) (nat a) b k = upd (q.2.2 5) (nat a) b k
      exact upS0 (n := 4) h3 k hk
    · rw [w2 _ _ _ _ 6 (by omega) (by omega) (by omega), w2 _ _ _ _ 6 (by omega) (by omega) (by omega)]; exact h4
    · rw [w2 _ _ _ _ 6 (by omega) (by omega) (by omega)] at hj
      rw [w2 _ _ _ _ 7 (by omega) (by omega) (by omega), w2 _ _ _ _ 7 (by omega) (by omega) (by omega)]
      exact h5 j hj
  · rw [if_neg z, if_neg z]
    exact A
theorem pi_sheet {n : Nat} {s : xA} (I : aIv n s) (a b c : Int32) : aIv n (g_sheet a b c s) := by
  unfold g_sheet
  by_cases z : xin a 4 ∧ (b = 0 ∨ ((b = 8 ∨ b = 16 ∨ b = 32) ∧ xin c 41))
  · rw [if_pos z]
    have l := nat4 z.1
    obtain ⟨h1, h2⟩ := I.2.1.el
    have w : ∀ (f : xS) (x y u : Nat → Int32) (k : Nat), ¬ k = 4 → ¬ k = 5 → va_up (va_up (va_up f (nat a) x) 4 y) 5 u k = va_up f (nat a) x k := fun f x y u k e4 e5 => (if_neg e5).trans (if_neg e4)
    have w6 : va_up (va_up (va_up s.2.2 (nat a) (fun _ => 0)) 4 (upd (s.2.2 4) (nat a) (if b = 0 then 0 else c))) 5 (upd (s.2.2 5) (nat a) b) 6 = s.2.2 6 := (if_neg (by omega)).trans ((if_neg (by omega)).trans (if_neg (by omega)))
    refine I.r3 (rIv.mk3 (by rw [w6]; exact I.2.1.1) (fun k hk => ?_) (fun k j hk hj => ?_)) w6
    · show below 40 (upd (s.2.2 4) (nat a) (if b = 0 then 0 else c) k)
      by_cases e : k = nat a
      · rw [e, pk_us]
        by_cases b0 : b = 0
        · rw [if_pos b0]; exact ⟨0, by omega, rfl⟩
        · rw [if_neg b0]
          obtain ⟨m, hm, em, -⟩ := nI_ofx c (n := 41) (z.2.resolve_left b0).2 (by decide)
          exact ⟨m, by omega, em⟩
      · rw [pk_un e]; exact h1 k hk
    · show bare (upd (s.2.2 5) (nat a) b k) (va_up (va_up (va_up s.2.2 (nat a) (fun _ => 0)) 4 (upd (s.2.2 4) (nat a) (if b = 0 then 0 else c))) 5 (upd (s.2.2 5) (nat a) b) k j) = va_up (va_up (va_up s.2.2 (nat a) (fun _ => 0)) 4 (upd (s.2.2 4) (nat a) (if b = 0 then 0 else c))) 5 (upd (s.2.2 5) (nat a) b) k j
      rw [w _ _ _ _ _ (by omega) (by omega)]
      by_cases e : k = nat a
      · rw [e, vu_eq, bare_0]
      · rw [vu_ne e, pk_un e]; exact h2 k j hk hj
  · rw [if_neg z]
    exact I
theorem pf_put {s q : xA} (A : agr s q) (a i x : Int32) : f_put a i x s = f_put a i x q := by
  unfold f_put
  by_cases z : xin a 4
  · rw [if_pos z, if_pos z, A.2.1.el.2.2.1 _ (nat4 z), A.2.1.el.2.1 _ (nat4 z)]
  · rw [if_neg z, if_neg z]
theorem pg_put {s q : xA} (A : agr s q) (a i x : Int32) : agr (g_put a i x s) (g_put a i x q) := by
  unfold g_put
  by_cases z : xin a 4
  · have l := nat4 z
    obtain ⟨h1, h2, h3, h4, h5⟩ := A.2.1.el
    rw [← h3 _ l, ← h2 _ l]
    by_cases c : xin a 4 ∧ ¬ s.2.2 5 (nat a) = 0 ∧ xin i (s.2.2 4 (nat a)).toInt
    · rw [if_pos c, if_pos c]
      have w : ∀ (f : xS) (x : Nat → Int32) (k : Nat), 4 ≤ k → va_up f (nat a) x k = f k := fun f x k e => if_neg (by omega)
      refine A.r3 (rAgr.mk3 (fun k j hk hj => ?_) (fun k hk => ?_) (fun k hk => ?_) ?_ (fun j hj => ?_)) (w _ _ 6 (by omega))
      · by_cases e : k = nat a
        · rw [e, vu_eq, vu_eq]
          exact upS0 (n := 40) (fun j hj => h1 _ j l hj) j hj
        · rw [vu_ne e, vu_ne e]; exact h1 k j hk hj
      · rw [w _ _ 4 (by omega), w _ _ 4 (by omega)]; exact h2 k hk
      · rw [w _ _ 5 (by omega), w _ _ 5 (by omega)]; exact h3 k hk
      · rw [w _ _ 6 (by omega), w _ _ 6 (by omega)]; exact h4
      · rw [w _ _ 6 (by omega)] at hj
        rw [w _ _ 7 (by omega), w _ _ 7 (by omega)]; exact h5 j hj
    · rw [if_neg c, if_neg c]
      exact A
  · rw [if_neg (fun c => z c.1), if_neg (fun c => z c.1)]
    exact A
theorem pi_put {n : Nat} {s : xA} (I : aIv n s) (a i x : Int32) : aIv n (g_put a i x s) := by
  unfold g_put
  by_cases c : xin a 4 ∧ ¬ s.2.2 5 (nat a) = 0 ∧ xin i (s.2.2 4 (nat a)).toInt
  · rw [if_pos c]
    have l := nat4 c.1
    obtain ⟨h1, h2⟩ := I.2.1.el
    obtain ⟨f, ef⟩ : ∃ f, f = upd (s.2.2 (nat a)) (nat i) (bare (s.2.2 5 (nat a)) x) := ⟨_, rfl⟩
    rw [← ef]
    have w : ∀ k : Nat, 4 ≤ k → va_up s.2.2 (nat a) f k = s.2.2 k := fun k e => if_neg (by omega)
    refine I.r3 (rIv.mk3 (by rw [w 6 (by omega)]; exact I.2.1.1) (fun k hk => ?_) (fun k j hk hj => ?_)) (w 6 (by omega))
    · show below 40 (va_up s.2.2 (nat a) f 4 k)
      rw [w 4 (by omega)]; exact h1 k hk
    · show bare (va_up s.2.2 (nat a) f 5 k) (va_up s.2.2 (nat a) f k j) = va_up s.2.2 (nat a) f k j
      rw [w 5 (by omega)]
      by_cases e : k = nat a
      · rw [e, vu_eq, ef]
        by_cases ji : j = nat i
        · rw [ji, pk_us, bare_bare]
        · rw [pk_un ji]; exact h2 _ j l hj
      · rw [vu_ne e]; exact h2 k j hk hj
  · rw [if_neg c]
    exact I
theorem pf_move {s q : xA} (A : agr s q) (a i d j m : Int32) : f_move a i d j m s = f_move a i d j m q := by
  unfold f_move
  by_cases z : xin a 4 ∧ xin d 4
  · have e := A.2.1.el
    rw [if_pos z, if_pos z, e.2.2.1 _ (nat4 z.1), e.2.2.1 _ (nat4 z.2), e.2.1 _ (nat4 z.1), e.2.1 _ (nat4 z.2)]
  · rw [if_neg z, if_neg z]
theorem runs_in {i j m a b : Int32} (r : runs i j m a b) (ha : below 40 a) (hb : below 40 b) : nat i + nat m ≤ 40 ∧ nat j + nat m ≤ 40 := (runs_cpy r.1 r.2 ha hb).2.2.2
theorem pg_move {n : Nat} {s q : xA} (A : agr s q) (I : aIv n s) (a i d j m : Int32) : agr (g_move a i d j m s) (g_move a i d j m q) := by
  unfold g_move
  by_cases z : xin a 4 ∧ xin d 4
  · obtain ⟨h1, h2, h3, h4, h5⟩ := A.2.1.el
    have l := nat4 z.1
    have l2 := nat4 z.2
    rw [← h3 _ l, ← h3 _ l2, ← h2 _ l, ← h2 _ l2]
    by_cases c : (xin a 4 ∧ xin d 4) ∧ ¬ (s.2.2 5 (nat a) = 0 ∨ s.2.2 5 (nat d) = 0) ∧ s.2.2 5 (nat a) = s.2.2 5 (nat d) ∧ runs i j m (s.2.2 4 (nat a)) (s.2.2 4 (nat d))
    · rw [if_pos c, if_pos c]
      have b4 := I.2.1.el.1
      have rr := runs_in c.2.2.2 (b4 _ l) (b4 _ l2)
      have w : ∀ (f : xS) (x : Nat → Int32) (k : Nat), 4 ≤ k → va_up f (nat d) x k = f k := fun f x k e => if_neg (by omega)
      refine A.r3 (rAgr.mk3 (fun k x hk hx => ?_) (fun k hk => ?_) (fun k hk => ?_) ?_ (fun x hx => ?_)) (w _ _ 6 (by omega))
      · by_cases e : k = nat d
        · rw [e, vu_eq, vu_eq]
          by_cases g : nat j ≤ x ∧ x < nat j + nat m
          · rw [pk_cpy_in g.1 g.2, pk_cpy_in g.1 g.2]
            exact h1 _ _ l (by omega)
          · rw [pk_cpy_out (by omega), pk_cpy_out (by omega)]
            exact h1 _ _ l2 hx
        · rw [vu_ne e, vu_ne e]; exact h1 k x hk hx
      · rw [w _ _ 4 (by omega), w _ _ 4 (by omega)]; exact h2 k hk
      · rw [w _ _ 5 (by omega), w _ _ 5 (by omega)]; exact h3 k hk
      · rw [w _ _ 6 (by omega), w _ _ 6 (by omega)]; exact h4
      · rw [w _ _ 6 (by omega)] at hx
        rw [w _ _ 7 (by omega), w _ _ 7 (by omega)]; exact h5 x hx
    · rw [if_neg c, if_neg c]
      exact A
  · rw [if_neg (fun c => z c.1), if_neg (fun c => z c.1)]
    exact A
theorem pi_move {n : Nat} {s : xA} (I : aIv n s) (a i d j m : Int32) : aIv n (g_move a i d j m s) := by
  unfold g_move
  by_cases c : (xin a 4 ∧ xin d 4) ∧ ¬ (s.2.2 5 (nat a) = 0 ∨ s.2.2 5 (nat d) = 0) ∧ s.2.2 5 (nat a) = s.2.2 5 (nat d) ∧ runs i j m (s.2.2 4 (nat a)) (s.2.2 4 (nat d))
  · rw [if_pos c]
    have l := nat4 c.1.1
    have l2 := nat4 c.1.2
    obtain ⟨h1, h2⟩ := I.2.1.el
    have rr := runs_in c.2.2.2 (h1 _ l) (h1 _ l2)
    obtain ⟨f, ef⟩ : ∃ f, f = va_cpy (s.2.2 (nat a)) (s.2.2 (nat d)) (nat i) (nat j) (nat m) := ⟨_, rfl⟩
    rw [← ef]
    have w : ∀ k : Nat, 4 ≤ k → va_up s.2.2 (nat d) f k = s.2.2 k := fun k e => if_neg (by omega)
    refine I.r3 (rIv.mk3 (by rw [w 6 (by omega)]; exact I.2.1.1) (fun k hk => ?_) (fun k x hk hx => ?_)) (w 6 (by omega))
    · show below 40 (va_up s.2.2 (nat d) f 4 k)
      rw [w 4 (by omega)]; exact h1 k hk
    · show bare (va_up s.2.2 (nat d) f 5 k) (va_up s.2.2 (nat d) f k x) = va_up s.2.2 (nat d) f k x
      rw [w 5 (by omega)]
      by_cases e : k = nat d
      · rw [e, vu_eq, ef]
        by_cases g : nat j ≤ x ∧ x < nat j + nat m
        · rw [pk_cpy_in g.1 g.2, ← c.2.2.1]
          exact h2 _ _ l (by omega)
        · rw [pk_cpy_out (by omega)]
          exact h2 _ _ l2 hx
      · rw [vu_ne e]; exact h2 k x hk hx
  · rw [if_neg c]
    exact I
-- voices: notes laid over two rows that agree
def qAg (p q : xTq) : Prop := p.2 = q.2 ∧ ∀ j, j < p.2 → p.1 j = q.1 j
theorem nt_ag {p q : xTq} (h : qAg p q) (b : Int32) : qAg (nt p b) (nt q b) := by
  unfold nt
  rw [← h.1]
  by_cases c : p.2 < 40
  · rw [if_pos c, if_pos c]
    exact ⟨rfl, upS1 (n := p.2) h.2 (Nat.le_refl _)⟩
  · rw [if_neg c, if_neg c]
    exact h
def vAg (p q : Int32 × xTq) : Prop := p.1 = q.1 ∧ qAg p.2 q.2
theorem shV_ag {p q : xTq} (h : qAg p q) (k : Nat) (n x : Int32) : vAg (shV k n x p) (shV k n x q) := by
  unfold shV
  split
  · exact ⟨rfl, nt_ag (nt_ag h _) _⟩
  · exact ⟨rfl, nt_ag h _⟩
theorem toV_ag {p q : xTq} (h : qAg p q) (k : Nat) (n m x : Int32) : vAg (toV k n m x p) (toV k n m x q) := by
  unfold toV
  split
  · exact ⟨rfl, nt_ag (nt_ag h _) _⟩
  split
  · exact ⟨rfl, nt_ag (nt_ag (nt_ag h _) _) _⟩
  · exact ⟨rfl, nt_ag h _⟩
theorem ru0_ag {p q : xTq} (h : qAg p q) (z : Nat) (n x : Int32) : vAg (ru0 z n x p) (ru0 z n x q) := by
  have a := shV_ag (nt_ag h 11) z n x
  exact ⟨congrArg (· * 2) a.1, a.2⟩
theorem ru2_ag {p q : xTq} (h : qAg p q) (z : Nat) (n m x : Int32) : vAg (ru2 z n m x p) (ru2 z n m x q) := by
  have a := ru0_ag (nt_ag h 30) z n x
  have b := toV_ag a.2 z n m 1
  exact ⟨by show _ - _ = _ - _; rw [a.1, b.1], b.2⟩
theorem ruV_ag {p q : xTq} (h : qAg p q) (z : Nat) (n m : Int32) (k : Nat) (x : Int32) : vAg (ruV z n m k x p) (ruV z n m k x q) := by
  unfold ruV
  split
  · exact ru2_ag h z n m x
  split
  · exact ru2_ag (nt_ag h _) z n m _
  · exact ru0_ag h z n x
theorem te0_ag {p q : xTq} (h : qAg p q) (z : Nat) (n m x : Int32) : vAg (te0 z n m x p) (te0 z n m x q) := by
  have a := ruV_ag (nt_ag h 13) z n m z x
  have b := toV_ag a.2 z n m x
  exact ⟨by show _ ^^^ _ = _ ^^^ _; rw [a.1, b.1], b.2⟩
theorem teV_ag {p q : xTq} (h : qAg p q) (z : Nat) (n m : Int32) (k : Nat) (x : Int32) : vAg (teV z n m k x p) (teV z n m k x q) := by
  unfold teV
  split
  · have a := te0_ag (nt_ag h 50) z n m x
    have b := shV_ag a.2 z n 2
    exact ⟨by show _ - _ = _ - _; rw [a.1, b.1], b.2⟩
  split
  · have a := ruV_ag (nt_ag h 71) z n m z x
    have b := te0_ag a.2 z n m x
    exact ⟨by show _ - _ = _ - _; rw [a.1, b.1], b.2⟩
  · exact te0_ag h z n m x
theorem voV_ag (z : Nat) (n m a x : Int32) (f g : Nat → Int32) : vAg (voV z n m a x f) (voV z n m a x g) := by
  have o : qAg (f, 0) (g, 0) := ⟨rfl, fun j hj => absurd hj (Nat.not_lt_zero j)⟩
  unfold voV
  split
  · exact shV_ag o z n x
  split
  · exact ruV_ag o z n m z x
  split
  · exact toV_ag o z n m x
  · exact teV_ag o z n m z x
theorem pf_voice {n : Nat} {s q : xA} (A : agr s q) (I : aIv n s) (c a x : Int32) : f_voice c a x s = f_voice c a x q := by
  unfold f_voice
  rw [← A.1.1.2.1]
  by_cases z : xin c (s.1 6 1).toInt ∧ xin a 4
  · rw [if_pos z, if_pos z]
    have l := xin_nat I.1.1.2.1 (by omega) z.1
    rw [(A.1.2.2.1 _ l).1, (A.1.2.2.1 _ l).2]
    exact (voV_ag _ _ _ _ _ _ _).1
  · rw [if_neg z, if_neg z]
theorem pg_voice {n : Nat} {s q : xA} (A : agr s q) (I : aIv n s) (c a x : Int32) : agr (g_voice c a x s) (g_voice c a x q) := by
  unfold g_voice
  rw [← A.1.1.2.1]
  by_cases z : xin c (s.1 6 1).toInt ∧ xin a 4
  · rw [if_pos z, if_pos z]
    have l := xin_nat I.1.1.2.1 (by omega) z.1
    rw [(A.1.2.2.1 _ l).1, (A.1.2.2.1 _ l).2]
    have v := voV_ag (nat (q.1 2 (nat c))) c (q.1 3 (nat c)) a x (s.2.2 7) (q.2.2 7)
    have le : (voV (nat (q.1 2 (nat c))) c (q.1 3 (nat c)) a x (s.2.2 7)).2.2 ≤ 40 := voV_le
    refine ⟨A.1, ⟨A.2.1.1, A.2.1.2.1, ⟨A.2.1.2.2.1.1, by show nI _ = nI _; rw [v.2.1]⟩, fun j hj => ?_⟩, A.2.2⟩
    have hj : j < nat (nI (voV (nat (q.1 2 (nat c))) c (q.1 3 (nat c)) a x (s.2.2 7)).2.2) := hj
    rw [show nat (nI (voV (nat (q.1 2 (nat c))) c (q.1 3 (nat c)) a x (s.2.2 7)).2.2) = (voV (nat (q.1 2 (nat c))) c (q.1 3 (nat c)) a x (s.2.2 7)).2.2 from nI_clamp (by omega)] at hj
    exact v.2.2 j hj
  · rw [if_neg z, if_neg z]
    exact A
theorem pi_voice {n : Nat} {s : xA} (I : aIv n s) (c a x : Int32) : aIv n (g_voice c a x s) := by
  unfold g_voice
  by_cases z : xin c (s.1 6 1).toInt ∧ xin a 4
  · rw [if_pos z]
    exact ⟨I.1, ⟨⟨I.2.1.1.1, ⟨_, voV_le, rfl⟩⟩, I.2.1.2⟩, I.2.2⟩
  · rw [if_neg z]
    exact I
end
section
/-! ===== places with its answer ===== -/
theorem i8_rng (x : Int8) : -(2 ^ (8 - 1) : Int) ≤ x.toInt32.toInt ∧ x.toInt32.toInt < 2 ^ (8 - 1) := by
  rw [Int8.toInt_toInt32]
  exact ⟨x.le_toInt, x.toInt_lt⟩
theorem i16_rng (x : Int16) : -(2 ^ (16 - 1) : Int) ≤ x.toInt32.toInt ∧ x.toInt32.toInt < 2 ^ (16 - 1) := by
  rw [Int16.toInt_toInt32]
  exact ⟨x.le_toInt, x.toInt_lt⟩
theorem low_cell {x m : Int32} {e : Nat} (he : 5 ≤ e ∧ e ≤ 16) (hm : m.toBitVec = BitVec.ofNat 32 (2 ^ e - 1)) (r : -(2 ^ (e - 1) : Int) ≤ x.toInt ∧ x.toInt < 2 ^ (e - 1)) : xin (x &&& m) 12 ↔ xin x 12 := by
  have p1 : (2 : Nat) ^ e ≤ 2 ^ 16 := Nat.pow_le_pow_right (by decide) he.2
  have p2 : (2 : Nat) ^ 4 ≤ 2 ^ (e - 1) := Nat.pow_le_pow_right (by decide) (by omega)
  have p3 : (2 : Nat) ^ e = 2 * 2 ^ (e - 1) := by rw [← Nat.pow_succ']; congr 1; omega
  have c : ((2 : Int) ^ (e - 1)) = ((2 ^ (e - 1) : Nat) : Int) := by norm_cast
  rw [c] at r
  have n : (x &&& m).toBitVec.toNat = x.toBitVec.toNat % 2 ^ e := by
    rw [Int32.toBitVec_and, BitVec.toNat_and, hm, BitVec.toNat_ofNat, Nat.mod_eq_of_lt (show 2 ^ e - 1 < 2 ^ 32 by omega), Nat.and_two_pow_sub_one_eq_mod]
  have l := x.toBitVec.isLt
  have t1 : x.toInt = if 2 * x.toBitVec.toNat < 2 ^ 32 then (x.toBitVec.toNat : Int) else (x.toBitVec.toNat : Int) - 2 ^ 32 := BitVec.toInt_eq_toNat_cond x.toBitVec
  have t2 : (x &&& m).toInt = if 2 * (x &&& m).toBitVec.toNat < 2 ^ 32 then ((x &&& m).toBitVec.toNat : Int) else ((x &&& m).toBitVec.toNat : Int) - 2 ^ 32 := BitVec.toInt_eq_toNat_cond (x &&& m).toBitVec
  have ml : x.toBitVec.toNat % 2 ^ e < 2 ^ e := Nat.mod_lt _ (Nat.two_pow_pos e)
  rw [n, if_pos (by omega)] at t2
  simp only [xin]
  rw [t2]
  by_cases g : 2 * x.toBitVec.toNat < 2 ^ 32
  · rw [if_pos g] at t1
    rw [Nat.mod_eq_of_lt (by omega), t1]
  · rw [if_neg g] at t1
    -- below zero: the low bits are at least half
    have q : x.toBitVec.toNat % 2 ^ e ≥ 2 ^ (e - 1) := by
      have d : ∃ u : Nat, 2 ^ 32 = 2 ^ e * u := ⟨2 ^ (32 - e), by rw [← Nat.pow_add]; congr 1; omega⟩
      obtain ⟨u, hu⟩ := d
      obtain ⟨y, hy⟩ : ∃ y : Nat, y = 2 ^ 32 - x.toBitVec.toNat := ⟨_, rfl⟩
      have y1 : y ≤ 2 ^ (e - 1) := by omega
      have y0 : 0 < y := by omega
      have u1 : 1 ≤ u := Nat.pos_of_ne_zero fun z => by rw [z, Nat.mul_zero] at hu; omega
      have ex : x.toBitVec.toNat = 2 ^ e * (u - 1) + (2 ^ e - y) := by
        have : 2 ^ e * u = 2 ^ e * (u - 1) + 2 ^ e := by
          rw [← Nat.mul_succ]; congr 1; omega
        omega
      rw [ex, Nat.mul_add_mod, Nat.mod_eq_of_lt (by omega)]
      omega
    rw [t1]
    omega
def cntP (f : Nat → Int32) : Nat → Nat → Nat
  | 0, i => i
  | d + 1, i => if xin (f i) 12 then cntP f d (i + 1) else i
theorem cntP_le {f : Nat → Int32} : ∀ {d i : Nat}, cntP f d i ≤ i + d := by
  intro d
  induction d with
  | zero => intro i; exact Nat.le_refl _
  | succ d ih =>
    intro i
    unfold cntP
    split
    · have := ih (i := i + 1); omega
    · omega
theorem cntP_eq {f g : Nat → Int32} : ∀ {d i : Nat}, (∀ j, j < i + d → (xin (f j) 12 ↔ xin (g j) 12)) → cntP f d i = cntP g d i := by
  intro d
  induction d with
  | zero => intro i _; rfl
  | succ d ih =>
    intro i h
    unfold cntP
    by_cases c : xin (f i) 12
    · rw [if_pos c, if_pos ((h i (by omega)).mp c)]
      exact ih (fun j hj => h j (by omega))
    · rw [if_neg c, if_neg (fun z => c ((h i (by omega)).mpr z))]
def plN (s : Int32) (q : xA) : Nat := min (nat (q.2.2 4 (nat s))) (nat (q.1 6 1))
def f_places (s : Int32) (q : xA) : Int32 := if xin s 4 then (if q.2.2 5 (nat s) = 0 then -1000000002 else nI (cntP (q.2.2 (nat s)) (plN s q) 0)) else -1000000001
theorem min_eq {a b : Int32} {A B : Nat} (ha : below A a) (hb : below B b) (hA : A < 2 ^ 31) (hB : B < 2 ^ 31) : (if a ≤ b then a else b) = nI (min (nat a) (nat b)) := by
  obtain ⟨k, hk, rfl⟩ := ha
  obtain ⟨j, hj, rfl⟩ := hb
  rw [show nat (nI k) = k from nI_clamp (by omega), show nat (nI j) = j from nI_clamp (by omega)]
  by_cases h : k ≤ j
  · rw [if_pos ((nI_leI (by omega) (by omega)).mpr h), Nat.min_eq_left h]
  · rw [if_neg (fun z => h ((nI_leI (by omega) (by omega)).mp z)), Nat.min_eq_right (by omega)]
theorem sgn_cell {b x : Int32} (h : sgn b x = x) : xin (bare b x) 12 ↔ xin x 12 := by
  unfold sgn at h
  unfold bare
  by_cases c : b = 8
  · rw [if_pos c] at h ⊢
    exact low_cell (m := 255) (e := 8) (by omega) rfl (by rw [← h]; exact i8_rng _)
  rw [if_neg c] at h ⊢
  by_cases d : b = 16
  · rw [if_pos d] at h ⊢
    exact low_cell (m := 65535) (e := 16) (by omega) rfl (by rw [← h]; exact i16_rng _)
  · rw [if_neg d]
set_option maxRecDepth 100000 in
theorem hx_places (n : Nat) (F v : xS) (I : aIv n (hA F v)) (S : hS v) (s : Int32) {K : xKo} (h : hTo F v (fun s => s) (f_places s) K) : C_H_places [.ref 0, .int s] (xfill F v 0 wH0) K := by
  have b8 : below 7 (v 1 8) := I.1.1.2.1
  refine xM_go rfl 100 [(52, [0, 1, 2, 3, 4])] fun P hP => ?_
  refine xcall (sp_isBelow _ _ (fun a1 => ?_) (fun a1 => ?_))
  · refine br_n (fun z => absurd rfl z) (fun _ => ?_)
    refine xcall (sp_errH F v 1 (by decide) ?_)
    exact h.err S _ rfl (if_neg a1)
  refine br_n (fun _ => ?_) (fun z => absurd z (by decide))
  refine ⟨vin a1, ⟨fun es0 => ?_, ⟨fun es0 => ?_, ⟨fun es0 => ?_, ⟨fun es0 => ?_, trivial⟩⟩⟩⟩⟩
  · have b4 : below 40 (v 61 1) := I.2.1.2.1.1
    have es : nat s = 0 := by rw [es0]; decide
    refine xcall (sp_isMissing (fun k => F (61 + k)) (fun k => v (61 + k)) (fun m0 => ?_) (fun m0 => ?_))
    · have m0 : ¬ v 61 2 = 0 := m0
      have u0 : ¬ (hA F v).2.2 5 (nat s) = 0 := by rw [es]; exact m0
      refine br_c (fun _ => ?_) (fun z => absurd rfl z)
      refine xcall (sp_min _ _ ?_)
      have m3 := min_eq b4 b8 (by omega) (by omega)
      obtain ⟨m, em⟩ : ∃ m, m = min (nat (v 61 1)) (nat (v 1 8)) := ⟨_, rfl⟩
      rw [← em] at m3
      have m7 : m ≤ 7 := by have := bel_nat b8 (by omega); omega
      have fin : ∀ (r : Nat) (f : Nat → Int32), r = cntP (F 62) m 0 → K (some (.int (nI r))) (xfill (va_up F 6 f) v 0 wH0) := by
        intro r f er
        refine h.ok (F' := va_up F 6 f) (v' := v) S ⟨⟨⟨rfl, rfl, rfl, rfl, rfl, rfl⟩, fun _ _ => ⟨rfl, rfl⟩, fun _ _ => ⟨rfl, rfl⟩, fun _ _ => rfl, fun _ _ => rfl⟩, ⟨⟨fun _ _ => rfl, fun _ _ => rfl, fun _ _ => rfl, fun _ _ => rfl⟩, ⟨⟨rfl, rfl, rfl, rfl⟩, rfl, rfl, rfl, rfl⟩, ⟨rfl, rfl⟩, fun _ _ => rfl⟩, fun _ => ⟨⟨rfl, rfl, rfl, rfl, rfl, rfl⟩, fun _ _ => ⟨rfl, rfl⟩, fun _ _ => ⟨rfl, rfl⟩, fun _ _ => rfl, fun _ _ => rfl⟩⟩ ((if_pos a1).trans ((if_neg u0).trans ?_))
        have ep : plN s (hA F v) = m := by unfold plN; rw [es, em]; rfl
        rw [ep, er, es]
        rfl
      have key : ∀ (d i : Nat) (f : Nat → Int32), i + d = m → cntP (F 62) d i = cntP (F 62) m 0 → xWP pg_H_places K 52 [(0, .ref 0), (1, .int s), (2, .ref 61), (3, .int (nI m)), (4, .int (nI i))] [] (xfill (va_up F 6 f) v 0 wH0) (0, 0) := by
        intro d
        induction d with
        | zero =>
          intro i f hi hc
          have hi : i = m := hi
          refine xWP_go 100 [(52, [0, 1, 2, 3, 4])] fun P hP => ?_
          refine br_c (fun _ => ?_) (fun z => ?_)
          · exact fin m f (by rw [← hc, ← hi]; rfl)
          · have z : ¬ nI m ≤ nI i := z
            rw [nI_leI (by omega) (by omega)] at z
            omega
        | succ d ih =>
          intro i f hi hc
          have ei : Int32.toNatClampNeg (nI i) = i := nI_clamp (by omega)
          refine xWP_go 100 [(52, [0, 1, 2, 3, 4])] fun P hP => ?_
          refine br_c (fun z => absurd z (nI_ge (by omega) (by omega))) (fun _ => ?_)
          refine ⟨vp_in_nI (by omega) (by omega), ?_⟩
          refine xcall (sp_isBelow _ _ (fun z => ?_) (fun z => ?_))
          · have z : ¬ xin (F 62 i) 12 := by
              intro y
              refine z ?_
              show xin (F 62 (Int32.toNatClampNeg (nI i))) (12 : Int32).toInt
              rw [ei]
              exact y
            refine br_n (fun z => absurd rfl z) (fun _ => ?_)
            exact fin i f (by rw [← hc]; exact (if_neg z).symm)
          have z : xin (F 62 i) 12 := by
            have z : xin (F 62 (Int32.toNatClampNeg (nI i))) (12 : Int32).toInt := z
            rw [ei] at z
            exact z
          refine br_n (fun _ => ?_) (fun z => absurd z (by decide))
          refine ⟨vp_in_nI (by omega) (by omega), ?_⟩
          refine ⟨vp_in_nI (by omega) (by omega), ?_⟩
          refine hP _ _ _ _ _ ?_
          rw [nI_1]
          exact ih (i + 1) (upd f (nat (nI i)) (F 62 (nat (nI i)))) (by omega) (by rw [← hc]; exact (if_pos z).symm)
      refine hP _ _ _ _ _ ?_
      have q := key m 0 (F 6) (by omega) rfl
      rw [← m3] at q
      exact q
    · refine br_c (fun z => absurd z (by decide)) (fun _ => ?_)
      refine xcall (sp_errH F v 2 (by decide) ?_)
      exact h.err S _ rfl ((if_pos a1).trans (if_pos (by rw [es]; exact m0)))
  · have b4 : below 40 (v 63 1) := I.2.1.2.1.2.1
    have es : nat s = 1 := by rw [es0]; decide
    refine xcall (sp_isMissing (fun k => F (63 + k)) (fun k => v (63 + k)) (fun m0 => ?_) (fun m0 => ?_))
    · have m0 : ¬ v 63 2 = 0 := m0
      have u0 : ¬ (hA F v).2.2 5 (nat s) = 0 := by rw [es]; exact m0
      refine br_c (fun _ => ?_) (fun z => absurd rfl z)
      refine xcall (sp_min _ _ ?_)
      have m3 := min_eq b4 b8 (by omega) (by omega)
      obtain ⟨m, em⟩ : ∃ m, m = min (nat (v 63 1)) (nat (v 1 8)) := ⟨_, rfl⟩
      rw [← em] at m3
      have m7 : m ≤ 7 := by have := bel_nat b8 (by omega); omega
      have fin : ∀ (r : Nat) (f : Nat → Int32), r = cntP (F 64) m 0 → K (some (.int (nI r))) (xfill (va_up F 6 f) v 0 wH0) := by
        intro r f er
        refine h.ok (F' := va_up F 6 f) (v' := v) S ⟨⟨⟨rfl, rfl, rfl, rfl, rfl, rfl⟩, fun _ _ => ⟨rfl, rfl⟩, fun _ _ => ⟨rfl, rfl⟩, fun _ _ => rfl, fun _ _ => rfl⟩, ⟨⟨fun _ _ => rfl, fun _ _ => rfl, fun _ _ => rfl, fun _ _ => rfl⟩, ⟨⟨rfl, rfl, rfl, rfl⟩, rfl, rfl, rfl, rfl⟩, ⟨rfl, rfl⟩, fun _ _ => rfl⟩, fun _ => ⟨⟨rfl, rfl, rfl, rfl, rfl, rfl⟩, fun _ _ => ⟨rfl, rfl⟩, fun _ _ => ⟨rfl, rfl⟩, fun _ _ => rfl, fun _ _ => rfl⟩⟩ ((if_pos a1).trans ((if_neg u0).trans ?_))
        have ep : plN s (hA F v) = m := by unfold plN; rw [es, em]; rfl
        rw [ep, er, es]
        rfl
      have key : ∀ (d i : Nat) (f : Nat → Int32), i + d = m → cntP (F 64) d i = cntP (F 64) m 0 → xWP pg_H_places K 52 [(0, .ref 0), (1, .int s), (2, .ref 63), (3, .int (nI m)), (4, .int (nI i))] [] (xfill (va_up F 6 f) v 0 wH0) (0, 0) := by
        intro d
        induction d with
        | zero =>
          intro i f hi hc
          have hi : i = m := hi
          refine xWP_go 100 [(52, [0, 1, 2, 3, 4])] fun P hP => ?_
          refine br_c (fun _ => ?_) (fun z => ?_)
          · exact fin m f (by rw [← hc, ← hi]; rfl)
          · have z : ¬ nI m ≤ nI i := z
            rw [nI_leI (by omega) (by omega)] at z
            omega
        | succ d ih =>
          intro i f hi hc
          have ei : Int32.toNatClampNeg (nI i) = i := nI_clamp (by omega)
          refine xWP_go 100 [(52, [0, 1, 2, 3, 4])] fun P hP => ?_
          refine br_c (fun z => absurd z (nI_ge (by omega) (by omega))) (fun _ => ?_)
          refine ⟨vp_in_nI (by omega) (by omega), ?_⟩
          refine xcall (sp_isBelow _ _ (fun z => ?_) (fun z => ?_))
          · have z : ¬ xin (F 64 i) 12 := by
              intro y
              refine z ?_
              show xin (F 64 (Int32.toNatClampNeg (nI i))) (12 : Int32).toInt
              rw [ei]
              exact y
            refine br_n (fun z => absurd rfl z) (fun _ => ?_)
            exact fin i f (by rw [← hc]; exact (if_neg z).symm)
          have z : xin (F 64 i) 12 := by
            have z : xin (F 64 (Int32.toNatClampNeg (nI i))) (12 : Int32).toInt := z
            rw [ei] at z
            exact z
          refine br_n (fun _ => ?_) (fun z => absurd z (by decide))
          refine ⟨vp_in_nI (by omega) (by omega), ?_⟩
          refine ⟨vp_in_nI (by omega) (by omega), ?_⟩
          refine hP _ _ _ _ _ ?_
          rw [nI_1]
          exact ih (i + 1) (upd f (nat (nI i)) (F 64 (nat (nI i)))) (by omega) (by rw [← hc]; exact (if_pos z).symm)
      refine hP _ _ _ _ _ ?_
      have q := key m 0 (F 6) (by omega) rfl
      rw [← m3] at q
      exact q
    · refine br_c (fun z => absurd z (by decide)) (fun _ => ?_)
      refine xcall (sp_errH F v 2 (by decide) ?_)
      exact h.err S _ rfl ((if_pos a1).trans (if_pos (by rw [es]; exact m0)))
  · have b4 : below 40 (v 65 1) := I.2.1.2.1.2.2.1
    have es : nat s = 2 := by rw [es0]; decide
    refine xcall (sp_isMissing (fun k => F (65 + k)) (fun k => v (65 + k)) (fun m0 => ?_) (fun m0 => ?_))
    · have m0 : ¬ v 65 2 = 0 := m0
      have u0 : ¬ (hA F v).2.2 5 (nat s) = 0 := by rw [es]; exact m0
      refine br_c (fun _ => ?_) (fun z => absurd rfl z)
      refine xcall (sp_min _ _ ?_)
      have m3 := min_eq b4 b8 (by omega) (by omega)
      obtain ⟨m, em⟩ : ∃ m, m = min (nat (v 65 1)) (nat (v 1 8)) := ⟨_, rfl⟩
      rw [← em] at m3
      have m7 : m ≤ 7 := by have := bel_nat b8 (by omega); omega
      have fin : ∀ (r : Nat) (f : Nat → Int32), r = cntP (F 66) m 0 → K (some (.int (nI r))) (xfill (va_up F 6 f) v 0 wH0) := by
        intro r f er
        refine h.ok (F' := va_up F 6 f) (v' := v) S ⟨⟨⟨rfl, rfl, rfl, rfl, rfl, rfl⟩, fun _ _ => ⟨rfl, rfl⟩, fun _ _ => ⟨rfl, rfl⟩, fun _ _ => rfl, fun _ _ => rfl⟩, ⟨⟨fun _ _ => rfl, fun _ _ => rfl, fun _ _ => rfl, fun _ _ => rfl⟩, ⟨⟨rfl, rfl, rfl, rfl⟩, rfl, rfl, rfl, rfl⟩, ⟨rfl, rfl⟩, fun _ _ => rfl⟩, fun _ => ⟨⟨rfl, rfl, rfl, rfl, rfl, rfl⟩, fun _ _ => ⟨rfl, rfl⟩, fun _ _ => ⟨rfl, rfl⟩, fun _ _ => rfl, fun _ _ => rfl⟩⟩ ((if_pos a1).trans ((if_neg u0).trans ?_))
        have ep : plN s (hA F v) = m := by unfold plN; rw [es, em]; rfl
        rw [ep, er, es]
        rfl
      have key : ∀ (d i : Nat) (f : Nat → Int32), i + d = m → cntP (F 66) d i = cntP (F 66) m 0 → xWP pg_H_places K 52 [(0, .ref 0), (1, .int s), (2, .ref 65), (3, .int (nI m)), (4, .int (nI i))] [] (xfill (va_up F 6 f) v 0 wH0) (0, 0) := by
        intro d
        induction d with
        | zero =>
          intro i f hi hc
          have hi : i = m := hi
          refine xWP_go 100 [(52, [0, 1, 2, 3, 4])] fun P hP => ?_
          refine br_c (fun _ => ?_) (fun z => ?_)
          · exact fin m f (by rw [← hc, ← hi]; rfl)
          · have z : ¬ nI m ≤ nI i := z
            rw [nI_leI (by omega) (by omega)] at z
            omega
        | succ d ih =>
          intro i f hi hc
          have ei : Int32.toNatClampNeg (nI i) = i := nI_clamp (by omega)
          refine xWP_go 100 [(52, [0, 1, 2, 3, 4])] fun P hP => ?_
          refine br_c (fun z => absurd z (nI_ge (by omega) (by omega))) (fun _ => ?_)
          refine ⟨vp_in_nI (by omega) (by omega), ?_⟩
          refine xcall (sp_isBelow _ _ (fun z => ?_) (fun z => ?_))
          · have z : ¬ xin (F 66 i) 12 := by
              intro y
              refine z ?_
              show xin (F 66 (Int32.toNatClampNeg (nI i))) (12 : Int32).toInt
              rw [ei]
              exact y
            refine br_n (fun z => absurd rfl z) (fun _ => ?_)
            exact fin i f (by rw [← hc]; exact (if_neg z).symm)
          have z : xin (F 66 i) 12 := by
            have z : xin (F 66 (Int32.toNatClampNeg (nI i))) (12 : Int32).toInt := z
            rw [ei] at z
            exact z
          refine br_n (fun _ => ?_) (fun z => absurd z (by decide))
          refine ⟨vp_in_nI (by omega) (by omega), ?_⟩
          refine ⟨vp_in_nI (by omega) (by omega), ?_⟩
          refine hP _ _ _ _ _ ?_
          rw [nI_1]
          exact ih (i + 1) (upd f (nat (nI i)) (F 66 (nat (nI i)))) (by omega) (by rw [← hc]; exact (if_pos z).symm)
      refine hP _ _ _ _ _ ?_
      have q := key m 0 (F 6) (by omega) rfl
      rw [← m3] at q
      exact q
    · refine br_c (fun z => absurd z (by decide)) (fun _ => ?_)
      refine xcall (sp_errH F v 2 (by decide) ?_)
      exact h.err S _ rfl ((if_pos a1).trans (if_pos (by rw [es]; exact m0)))
  · have b4 : below 40 (v 67 1) := I.2.1.2.1.2.2.2
    have es : nat s = 3 := by rw [es0]; decide
    refine xcall (sp_isMissing (fun k => F (67 + k)) (fun k => v (67 + k)) (fun m0 => ?_) (fun m0 => ?_))
    · have m0 : ¬ v 67 2 = 0 := m0
      have u0 : ¬ (hA F v).2.2 5 (nat s) = 0 := by rw [es]; exact m0
      refine br_c (fun _ => ?_) (fun z => absurd rfl z)
      refine xcall (sp_min _ _ ?_)
      have m3 := min_eq b4 b8 (by omega) (by omega)
      obtain ⟨m, em⟩ : ∃ m, m = min (nat (v 67 1)) (nat (v 1 8)) := ⟨_, rfl⟩
      rw [← em] at m3
      have m7 : m ≤ 7 := by have := bel_nat b8 (by omega); omega
      have fin : ∀ (r : Nat) (f : Nat → Int32), r = cntP (F 68) m 0 → K (some (.int (nI r))) (xfill (va_up F 6 f) v 0 wH0) := by
        intro r f er
        refine h.ok (F' := va_up F 6 f) (v' := v) S ⟨⟨⟨rfl, rfl, rfl, rfl, rfl, rfl⟩, fun _ _ => ⟨rfl, rfl⟩, fun _ _ => ⟨rfl, rfl⟩, fun _ _ => rfl, fun _ _ => rfl⟩, ⟨⟨fun _ _ => rfl, fun _ _ => rfl, fun _ _ => rfl, fun _ _ => rfl⟩, ⟨⟨rfl, rfl, rfl, rfl⟩, rfl, rfl, rfl, rfl⟩, ⟨rfl, rfl⟩, fun _ _ => rfl⟩, fun _ => ⟨⟨rfl, rfl, rfl, rfl, rfl, rfl⟩, fun _ _ => ⟨rfl, rfl⟩, fun _ _ => ⟨rfl, rfl⟩, fun _ _ => rfl, fun _ _ => rfl⟩⟩ ((if_pos a1).trans ((if_neg u0).trans ?_))
        have ep : plN s (hA F v) = m := by unfold plN; rw [es, em]; rfl
        rw [ep, er, es]
        rfl
      have key : ∀ (d i : Nat) (f : Nat → Int32), i + d = m → cntP (F 68) d i = cntP (F 68) m 0 → xWP pg_H_places K 52 [(0, .ref 0), (1, .int s), (2, .ref 67), (3, .int (nI m)), (4, .int (nI i))] [] (xfill (va_up F 6 f) v 0 wH0) (0, 0) := by
        intro d
        induction d with
        | zero =>
          intro i f hi hc
          have hi : i = m := hi
          refine xWP_go 100 [(52, [0, 1, 2, 3, 4])] fun P hP => ?_
          refine br_c (fun _ => ?_) (fun z => ?_)
          · exact fin m f (by rw [← hc, ← hi]; rfl)
          · have z : ¬ nI m ≤ nI i := z
            rw [nI_leI (by omega) (by omega)] at z
            omega
        | succ d ih =>
          intro i f hi hc
          have ei : Int32.toNatClampNeg (nI i) = i := nI_clamp (by omega)
          refine xWP_go 100 [(52, [0, 1, 2, 3, 4])] fun P hP => ?_
          refine br_c (fun z => absurd z (nI_ge (by omega) (by omega))) (fun _ => ?_)
          refine ⟨vp_in_nI (by omega) (by omega), ?_⟩
          refine xcall (sp_isBelow _ _ (fun z => ?_) (fun z => ?_))
          · have z : ¬ xin (F 68 i) 12 := by
              intro y
              refine z ?_
              show xin (F 68 (Int32.toNatClampNeg (nI i))) (12 : Int32).toInt
              rw [ei]
              exact y
            refine br_n (fun z => absurd rfl z) (fun _ => ?_)
            exact fin i f (by rw [← hc]; exact (if_neg z).symm)
          have z : xin (F 68 i) 12 := by
            have z : xin (F 68 (Int32.toNatClampNeg (nI i))) (12 : Int32).toInt := z
            rw [ei] at z
            exact z
          refine br_n (fun _ => ?_) (fun z => absurd z (by decide))
          refine ⟨vp_in_nI (by omega) (by omega), ?_⟩
          refine ⟨vp_in_nI (by omega) (by omega), ?_⟩
          refine hP _ _ _ _ _ ?_
          rw [nI_1]
          exact ih (i + 1) (upd f (nat (nI i)) (F 68 (nat (nI i)))) (by omega) (by rw [← hc]; exact (if_pos z).symm)
      refine hP _ _ _ _ _ ?_
      have q := key m 0 (F 6) (by omega) rfl
      rw [← m3] at q
      exact q
    · refine br_c (fun z => absurd z (by decide)) (fun _ => ?_)
      refine xcall (sp_errH F v 2 (by decide) ?_)
      exact h.err S _ rfl ((if_pos a1).trans (if_pos (by rw [es]; exact m0)))
set_option maxRecDepth 100000 in
theorem mx_places (n : Nat) (F v : xS) (I : aIv n (mA F v)) (S : mS F v) (s : Int32) {K : xKo} (h : mTo F v (fun s => s) (f_places s) K) : C_M_places [.ref 0, .int s] (xfill F v 0 (wM0 0)) K := by
  refine xM_go rfl 200 [(32, [0, 1, 2])] fun P hP => ?_
  refine xcall (sp_isSheet _ (fun a1 => ?_) (fun a1 => ?_))
  · refine br_n (fun z => absurd rfl z) (fun _ => ?_)
    refine xcall (sp_errM F v (-1000000001) 1 (by decide) (by decide) ?_)
    exact h.err S _ rfl (if_neg a1)
  refine br_n (fun _ => ?_) (fun z => absurd z (by decide))
  obtain ⟨k, hk, rfl, ek⟩ := nI_ofx s (n := 4) a1 (by decide)
  have bs : vp_in (nI k) 4 := vin a1
  have ek : Int32.toNatClampNeg (nI k) = k := ek
  obtain ⟨q, hq, eq⟩ := rI4 (k := k) I (by omega)
  obtain ⟨mc, hm, em⟩ : below 7 (F 1 2) := I.1.1.2.1
  obtain ⟨N, eN⟩ : ∃ N, N = min q mc := ⟨_, rfl⟩
  have ep : plN (nI k) (mA F v) = N := by
    unfold plN
    rw [show nat (nI k) = k from ek, eN]
    show min (nat (F 7 k)) (nat (F 1 2)) = min q mc
    rw [eq, em, show nat (nI q) = q from nI_clamp (by omega), show nat (nI mc) = mc from nI_clamp (by omega)]
  refine ⟨bs, ?_⟩
  refine br_n (fun c0 => ?_) (fun c0 => ?_)
  · have u0 : ¬ (mA F v).2.2 5 (nat (nI k)) = 0 := c0
    have fin : ∀ (r : Nat) (F' : xS), r = cntP (fun j => F 8 (40 * k + j)) N 0 → mR r1 F v F' v → K (some (.int (nI r))) (xfill F' v 0 (wM0 0)) := by
      intro r F' er E
      refine h.ok (E.S ok_r1 S) (E.agr ok_r1 I rfl rfl) ((if_pos a1).trans ((if_neg u0).trans ?_))
      rw [ep, er, show nat (nI k) = k from ek]
      refine congrArg nI (cntP_eq fun j hj => ?_)
      show xin (mRs F v k j) 12 ↔ _
      rw [mSh (by omega)]
      exact sgn_cell (S.2.2.2.2 k j (by omega) (by omega))
    have key : ∀ (d i : Nat) (F' : xS), i + d = N → mR r1 F v F' v → cntP (fun j => F 8 (40 * k + j)) d i = cntP (fun j => F 8 (40 * k + j)) N 0 → xWP pg_M_places K 32 [(0, .ref 0), (1, .int (nI k)), (2, .int (nI i))] [] (xfill F' v 0 (wM0 0)) (0, 0) := by
      intro d
      induction d with
      | zero =>
        intro i F' hi E hc
        have e7 := E.k (k := 7) (by decide)
        have eM := E.2.1 2 (by omega) rfl
        have f0 := fin i F' (by rw [← hc]; rfl) E
        refine xWP_go 200 [(32, [0, 1, 2])] fun P hP => ?_
        refine ⟨bs, ?_⟩
        refine br_c (fun _ => f0) (fun z => ?_)
        have z : ¬ F' 7 (Int32.toNatClampNeg (nI k)) ≤ nI i := z
        rw [ek, e7, eq, nI_leI (by omega) (by omega)] at z
        refine xcall (sp_isChildM F' v _ ⟨mc, hm, eM.trans em⟩ (fun a2 => ?_) (fun a2 => ?_))
        · refine br_c (fun _ => f0) (fun z => absurd rfl z)
        · have y := a2.2
          rw [eM, em, nI_toInt (by omega), nI_toInt (by omega)] at y
          omega
      | succ d ih =>
        intro i F' hi E hc
        have e7 := E.k (k := 7) (by decide)
        have e8 := E.k (k := 8) (by decide)
        have eM := E.2.1 2 (by omega) rfl
        have i7 : i < 7 := by omega
        have bi : vp_in ((40 : Int32) * nI k + nI i) 160 := by rw [ix40]; exact vp_in_nI (by omega) (by omega)
        have n40 : Int32.toNatClampNeg ((40 : Int32) * nI k + nI i) = 40 * k + i := by rw [ix40]; exact nI_clamp (by omega)
        refine xWP_go 200 [(32, [0, 1, 2])] fun P hP => ?_
        refine ⟨bs, ?_⟩
        refine br_c (fun z => ?_) (fun _ => ?_)
        · have z : F' 7 (Int32.toNatClampNeg (nI k)) ≤ nI i := z
          rw [ek, e7, eq, nI_leI (by omega) (by omega)] at z
          omega
        refine xcall (sp_isChildM F' v _ ⟨mc, hm, eM.trans em⟩ (fun a2 => ?_) (fun a2 => ?_))
        · exact absurd ⟨by rw [nI_toInt (by omega)]; omega, by rw [eM, em, nI_toInt (by omega), nI_toInt (by omega)]; omega⟩ a2
        refine br_c (fun z => absurd z (by decide)) (fun _ => ?_)
        refine ⟨bi, ?_⟩
        refine xcall (sp_isCell _ (fun a3 => ?_) (fun a3 => ?_))
        · have a3 : ¬ xin (F 8 (40 * k + i)) 12 := by
            have a3 : ¬ xin (F' 8 (Int32.toNatClampNeg ((40 : Int32) * nI k + nI i))) 12 := a3
            rw [n40, e8] at a3
            exact a3
          refine br_c (fun _ => ?_) (fun z => absurd rfl z)
          exact fin i F' (by rw [← hc]; exact (if_neg a3).symm) E
        have a3 : xin (F 8 (40 * k + i)) 12 := by
          have a3 : xin (F' 8 (Int32.toNatClampNeg ((40 : Int32) * nI k + nI i))) 12 := a3
          rw [n40, e8] at a3
          exact a3
        refine br_c (fun z => absurd z (by decide)) (fun _ => ?_)
        refine ⟨bi, ?_⟩
        refine xcall (sp_getsM F' v (nI i) 2 _ (vc5 i7 (w := 2) (by omega)) ?_)
        refine hP _ _ _ _ _ ?_
        rw [nI_1]
        exact ih (i + 1) _ (by omega) (E.row (r1_at (w := 2) i7 (by omega) (by omega))) (by rw [← hc]; exact (if_pos a3).symm)
    refine hP _ _ _ _ _ ?_
    exact key N 0 F (by omega) mR.rf rfl
  · have u0 : (mA F v).2.2 5 (nat (nI k)) = 0 := c0
    refine xcall (sp_errM F v (-1000000002) 2 (by decide) (by decide) ?_)
    exact h.err S _ rfl ((if_pos a1).trans (if_pos u0))
theorem pf_places {n : Nat} {s q : xA} (A : agr s q) (I : aIv n s) (a : Int32) : f_places a s = f_places a q := by
  unfold f_places
  by_cases z : xin a 4
  · have l := nat4 z
    obtain ⟨h1, h2, h3, -, -⟩ := A.2.1.el
    rw [if_pos z, if_pos z, h3 _ l]
    have ep : plN a s = plN a q := by
      unfold plN
      rw [h2 _ l, A.1.1.2.1]
    have lp : plN a s ≤ 7 := by
      have := bel_nat I.1.1.2.1 (by omega)
      unfold plN
      omega
    rw [← ep, cntP_eq (f := s.2.2 (nat a)) (g := q.2.2 (nat a)) fun j hj => by rw [h1 _ j l (by omega)]]
  · rw [if_neg z, if_neg z]
end
