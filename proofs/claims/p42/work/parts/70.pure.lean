section
/-! ===== states that agree: the same answers, next states that agree, what is always so ===== -/
theorem below.mono {N M : Nat} {x : Int32} (h : below N x) (l : N ≤ M) : below M x := by
  obtain ⟨k, hk, e⟩ := h
  exact ⟨k, by omega, e⟩
theorem below.inc {N : Nat} {x : Int32} (h : below N x) (l : nat x < N) (hN : N < 1000000) : below N (x + 1) ∧ nat (x + 1) = nat x + 1 := by
  obtain ⟨k, hk, rfl⟩ := h
  rw [show nat (nI k) = k from nI_clamp (by omega)] at l ⊢
  rw [nI_1]
  exact ⟨⟨k + 1, by omega, rfl⟩, nI_clamp (by omega)⟩
theorem aIv.up {n : Nat} {s : xA} (h : aIv n s) : aIv (n + 1) s := ⟨h.1, ⟨⟨h.2.1.1.1.mono (by omega), h.2.1.1.2⟩, h.2.1.2⟩, h.2.2⟩
theorem upS1 {f g : Nat → Int32} {n m : Nat} {x : Int32} (h : ∀ j, j < n → f j = g j) (hm : m ≤ n + 1) : ∀ j, j < m → upd f n x j = upd g n x j := fun j hj => by
  by_cases e : j = n
  · subst e; rw [pk_us, pk_us]
  · rw [pk_un e, pk_un e]; exact h j (by omega)
theorem upS0 {f g : Nat → Int32} {n i : Nat} {x : Int32} (h : ∀ j, j < n → f j = g j) : ∀ j, j < n → upd f i x j = upd g i x j := fun j hj => by
  by_cases e : j = i
  · subst e; rw [pk_us, pk_us]
  · rw [pk_un e, pk_un e]; exact h j hj
theorem rAgr.el {s q : xS} (h : rAgr s q) : (∀ k j, k < 4 → j < 40 → s k j = q k j) ∧ (∀ k, k < 4 → s 4 k = q 4 k) ∧ (∀ k, k < 4 → s 5 k = q 5 k) ∧ (s 6 0 = q 6 0 ∧ s 6 1 = q 6 1) ∧ ∀ j, j < nat (s 6 1) → s 7 j = q 7 j := by
  obtain ⟨⟨a0, a1, a2, a3⟩, ⟨⟨b0, b1, b2, b3⟩, c0, c1, c2, c3⟩, d, e⟩ := h
  refine ⟨fun k j hk hj => ?_, fun k hk => ?_, fun k hk => ?_, d, e⟩
  all_goals rcases (show k = 0 ∨ k = 1 ∨ k = 2 ∨ k = 3 by omega) with z | z | z | z
  all_goals subst z
  · exact a0 j hj
  · exact a1 j hj
  · exact a2 j hj
  · exact a3 j hj
  · exact b0
  · exact b1
  · exact b2
  · exact b3
  · exact c0
  · exact c1
  · exact c2
  · exact c3
theorem rAgr.mk3 {s q : xS} (h : ∀ k j, k < 4 → j < 40 → s k j = q k j) (h4 : ∀ k, k < 4 → s 4 k = q 4 k) (h5 : ∀ k, k < 4 → s 5 k = q 5 k) (h6 : s 6 0 = q 6 0 ∧ s 6 1 = q 6 1) (h7 : ∀ j, j < nat (s 6 1) → s 7 j = q 7 j) : rAgr s q := ⟨⟨fun j => h 0 j (by omega), fun j => h 1 j (by omega), fun j => h 2 j (by omega), fun j => h 3 j (by omega)⟩, ⟨⟨h4 0 (by omega), h4 1 (by omega), h4 2 (by omega), h4 3 (by omega)⟩, h5 0 (by omega), h5 1 (by omega), h5 2 (by omega), h5 3 (by omega)⟩, h6, h7⟩
theorem rIv.el {n : Nat} {s : xS} (h : rIv n s) : (∀ k, k < 4 → below 40 (s 4 k)) ∧ ∀ k j, k < 4 → j < 40 → bare (s 5 k) (s k j) = s k j := by
  obtain ⟨-, ⟨b0, b1, b2, b3⟩, c0, c1, c2, c3⟩ := h
  refine ⟨fun k hk => ?_, fun k j hk hj => ?_⟩
  all_goals rcases (show k = 0 ∨ k = 1 ∨ k = 2 ∨ k = 3 by omega) with z | z | z | z
  all_goals subst z
  · exact b0
  · exact b1
  · exact b2
  · exact b3
  · exact c0 j hj
  · exact c1 j hj
  · exact c2 j hj
  · exact c3 j hj
theorem rIv.mk3 {n : Nat} {s : xS} (h : below n (s 6 0) ∧ below 40 (s 6 1)) (h4 : ∀ k, k < 4 → below 40 (s 4 k)) (h5 : ∀ k j, k < 4 → j < 40 → bare (s 5 k) (s k j) = s k j) : rIv n s := ⟨h, ⟨h4 0 (by omega), h4 1 (by omega), h4 2 (by omega), h4 3 (by omega)⟩, fun j => h5 0 j (by omega), fun j => h5 1 j (by omega), fun j => h5 2 j (by omega), fun j => h5 3 j (by omega)⟩
theorem nat4 {s : Int32} (h : xin s 4) : nat s < 4 := by
  obtain ⟨k, hk, -, e⟩ := nI_ofx s (n := 4) h (by decide)
  omega
theorem div10 {m : Int32} (h : xin m 70) : below 6 (m / 10) := by
  have e : (m / 10).toInt = m.toInt.tdiv 10 := by
    rw [Int32.toInt_div, show (10 : Int32).toInt = 10 by decide]
    have l : m.toInt.tdiv 10 = m.toInt / 10 := Int.tdiv_eq_ediv_of_nonneg h.1
    have := h.1
    have := h.2
    exact Int.bmod_eq_of_le (by omega) (by omega)
  have l : m.toInt.tdiv 10 = m.toInt / 10 := Int.tdiv_eq_ediv_of_nonneg h.1
  have := h.1
  have := h.2
  obtain ⟨k, hk, e2, -⟩ := nI_ofx (m / 10) (n := 7) ⟨by omega, by omega⟩ (by decide)
  exact ⟨k, by omega, e2⟩
/-- the same cells, children, tape, waiting -/
theorem sAgr.c {s q : xS} (h : sAgr s q) {a b : Int32} : sAgr (va_up s 6 (upd (upd (s 6) 2 a) 3 b)) (va_up q 6 (upd (upd (q 6) 2 a) 3 b)) := ⟨⟨h.1.1, h.1.2.1, rfl, rfl, h.1.2.2.2.2.1, h.1.2.2.2.2.2⟩, h.2.1, h.2.2.1, h.2.2.2.1, h.2.2.2.2⟩
theorem sIv.c {s : xS} (h : sIv s) {a b : Int32} (ha : below 9999 a) : sIv (va_up s 6 (upd (upd (s 6) 2 a) 3 b)) := ⟨⟨h.1.1, h.1.2.1, ha, h.1.2.2.2⟩, h.2⟩
theorem pf_thing {n : Nat} {s q : xA} (A : agr s q) (I : aIv n s) (a b : Int32) : f_thing a b s = f_thing a b q := by
  unfold f_thing
  rw [A.1.1.1]
theorem pg_thing {n : Nat} {s q : xA} (A : agr s q) (I : aIv n s) (a b : Int32) : agr (g_thing a b s) (g_thing a b q) := by
  have e0 := A.1.1.1
  unfold g_thing
  rw [e0]
  by_cases c : (xin a 12 ∧ xin b 64) ∧ nat (q.1 6 0) < 8
  · rw [if_pos c, if_pos c]
    have b8 : below 8 (q.1 6 0) := e0 ▸ I.1.1.1
    have ei := (b8.inc c.2 (by omega)).2
    refine ⟨⟨⟨rfl, A.1.1.2⟩, fun j hj => ?_, A.1.2.2⟩, A.2⟩
    have hj : j < nat (q.1 6 0 + 1) := hj
    rw [ei] at hj
    exact ⟨upS1 (n := nat (q.1 6 0)) (fun j hj => (A.1.2.1 j (by rw [e0]; exact hj)).1) (Nat.le_refl _) j hj, upS1 (n := nat (q.1 6 0)) (fun j hj => (A.1.2.1 j (by rw [e0]; exact hj)).2) (Nat.le_refl _) j hj⟩
  · rw [if_neg c, if_neg c]
    exact A
theorem pi_thing {n : Nat} {s : xA} (I : aIv n s) (a b : Int32) : aIv n (g_thing a b s) := by
  unfold g_thing
  by_cases c : (xin a 12 ∧ xin b 64) ∧ nat (s.1 6 0) < 8
  · rw [if_pos c]
    exact ⟨⟨⟨(I.1.1.1.inc c.2 (by omega)).1, I.1.1.2⟩, I.1.2⟩, I.2⟩
  · rw [if_neg c]
    exact I
theorem pf_ofThing {n : Nat} {s q : xA} (A : agr s q) (I : aIv n s) (i w : Int32) : f_ofThing i w s = f_ofThing i w q := by
  unfold f_ofThing
  rw [← A.1.1.1]
  by_cases c : xin i (s.1 6 0).toInt ∧ xin w 2
  · rw [if_pos c, if_pos c]
    have l : nat i < nat (s.1 6 0) := xin_nat I.1.1.1 (by omega) c.1
    rw [(A.1.2.1 _ l).1, (A.1.2.1 _ l).2]
  · rw [if_neg c, if_neg c]
theorem pf_shift {n : Nat} {s q : xA} (A : agr s q) (I : aIv n s) (i w x : Int32) : f_shift i w x s = f_shift i w x q := by
  unfold f_shift
  rw [← A.1.1.1]
  by_cases c : (xin i (s.1 6 0).toInt ∧ xin w 2) ∧ xin x (if w = 0 then 12 else 64)
  · rw [if_pos c, if_pos c]
    have l : nat i < nat (s.1 6 0) := xin_nat I.1.1.1 (by omega) c.1.1
    rw [(A.1.2.1 _ l).1, (A.1.2.1 _ l).2]
  · rw [if_neg c, if_neg c]
theorem pg_shift {n : Nat} {s q : xA} (A : agr s q) (I : aIv n s) (i w x : Int32) : agr (g_shift i w x s) (g_shift i w x q) := by
  unfold g_shift
  rw [← A.1.1.1]
  by_cases c : (xin i (s.1 6 0).toInt ∧ xin w 2) ∧ xin x (if w = 0 then 12 else 64)
  · rw [if_pos c, if_pos c]
    by_cases z : w = 0
    · rw [if_pos z, if_pos z]
      exact ⟨⟨A.1.1, fun j hj => ⟨upS0 (fun j hj => (A.1.2.1 j hj).1) j hj, (A.1.2.1 j hj).2⟩, A.1.2.2⟩, A.2⟩
    · rw [if_neg z, if_neg z]
      exact ⟨⟨A.1.1, fun j hj => ⟨(A.1.2.1 j hj).1, upS0 (fun j hj => (A.1.2.1 j hj).2) j hj⟩, A.1.2.2⟩, A.2⟩
  · rw [if_neg c, if_neg c]
    exact A
theorem pi_shift {n : Nat} {s : xA} (I : aIv n s) (i w x : Int32) : aIv n (g_shift i w x s) := by
  unfold g_shift
  by_cases c : (xin i (s.1 6 0).toInt ∧ xin w 2) ∧ xin x (if w = 0 then 12 else 64)
  · rw [if_pos c]
    by_cases z : w = 0
    · rw [if_pos z]
      exact I
    · rw [if_neg z]
      exact I
  · rw [if_neg c]
    exact I
theorem pf_seed {s q : xA} (A : agr s q) (x : Int32) : f_seed x s = f_seed x q := an_ A.1.1.2.2.2.1
theorem pg_seed {s q : xA} (A : agr s q) (x : Int32) : agr (g_seed x s) (g_seed x q) := ⟨⟨⟨A.1.1.1, A.1.1.2.1, A.1.1.2.2.1, rfl, A.1.1.2.2.2.2⟩, A.1.2⟩, A.2⟩
theorem pi_seed {n : Nat} {s : xA} (I : aIv n s) (x : Int32) : aIv n (g_seed x s) := I
theorem pf_trace {n : Nat} {s q : xA} (A : agr s q) (I : aIv n s) (i : Int32) : f_trace i s = f_trace i q := by
  unfold f_trace
  rw [← A.2.1.2.2.1.2]
  by_cases c : xin i (s.2.2 6 1).toInt
  · rw [if_pos c, if_pos c]
    exact an_ (A.2.1.2.2.2 _ (xin_nat I.2.1.1.2 (by omega) c))
  · rw [if_neg c, if_neg c]
theorem pf_tell {s q : xA} (A : agr s q) (x : Int32) : f_tell x s = f_tell x q := by
  unfold f_tell
  rw [A.1.1.2.2.2.2.2]
theorem pg_tell {n : Nat} {s q : xA} (A : agr s q) (I : aIv n s) (x : Int32) : agr (g_tell x s) (g_tell x q) := by
  have e5 := A.1.1.2.2.2.2.2
  unfold g_tell
  rw [e5]
  by_cases c : nat (q.1 6 5) < 20
  · rw [if_pos c, if_pos c]
    have b : below 20 (q.1 6 5) := e5 ▸ I.1.1.2.2.2.2
    have ei := (b.inc c (by omega)).2
    refine ⟨⟨⟨A.1.1.1, A.1.1.2.1, A.1.1.2.2.1, A.1.1.2.2.2.1, A.1.1.2.2.2.2.1, rfl⟩, A.1.2.1, A.1.2.2.1, A.1.2.2.2.1, fun j hj => ?_⟩, A.2⟩
    have hj : j < nat (q.1 6 5 + 1) := hj
    rw [ei] at hj
    exact upS1 (n := nat (q.1 6 5)) (fun j hj => A.1.2.2.2.2 j (by rw [e5]; exact hj)) (Nat.le_refl _) j hj
  · rw [if_neg c, if_neg c]
    exact A
theorem pi_tell {n : Nat} {s : xA} (I : aIv n s) (x : Int32) : aIv n (g_tell x s) := by
  unfold g_tell
  by_cases c : nat (s.1 6 5) < 20
  · rw [if_pos c]
    exact ⟨⟨⟨I.1.1.1, I.1.1.2.1, I.1.1.2.2.1, I.1.1.2.2.2.1, (I.1.1.2.2.2.2.inc c (by omega)).1⟩, I.1.2⟩, I.2⟩
  · rw [if_neg c]
    exact I
theorem pf_child {s q : xA} (A : agr s q) (m c : Int32) : f_child m c s = f_child m c q := by
  unfold f_child
  rw [A.1.1.2.1]
theorem pg_child {n : Nat} {s q : xA} (A : agr s q) (I : aIv n s) (m c : Int32) : agr (g_child m c s) (g_child m c q) := by
  have e1 := A.1.1.2.1
  unfold g_child
  rw [e1]
  by_cases z : (xin m 70 ∧ xin c 12) ∧ nat (q.1 6 1) < 7
  · rw [if_pos z, if_pos z]
    have b : below 7 (q.1 6 1) := e1 ▸ I.1.1.2.1
    have ei := (b.inc z.2 (by omega)).2
    refine ⟨⟨⟨A.1.1.1, rfl, A.1.1.2.2⟩, A.1.2.1, fun j hj => ?_, A.1.2.2.2⟩, A.2⟩
    have hj : j < nat (q.1 6 1 + 1) := hj
    rw [ei] at hj
    exact ⟨upS1 (n := nat (q.1 6 1)) (fun j hj => (A.1.2.2.1 j (by rw [e1]; exact hj)).1) (Nat.le_refl _) j hj, upS1 (n := nat (q.1 6 1)) (fun j hj => (A.1.2.2.1 j (by rw [e1]; exact hj)).2) (Nat.le_refl _) j hj⟩
  · rw [if_neg z, if_neg z]
    exact A
theorem pi_child {n : Nat} {s : xA} (I : aIv n s) (m c : Int32) : aIv n (g_child m c s) := by
  unfold g_child
  by_cases z : (xin m 70 ∧ xin c 12) ∧ nat (s.1 6 1) < 7
  · rw [if_pos z]
    have i := I.1.1.2.1.inc z.2 (by omega)
    refine ⟨⟨⟨I.1.1.1, i.1, I.1.1.2.2⟩, fun j hj => ?_⟩, I.2⟩
    have hj : j < nat (s.1 6 1 + 1) := hj
    rw [i.2] at hj
    show below 6 (upd (s.1 2) (nat (s.1 6 1)) (m / 10) j)
    by_cases e : j = nat (s.1 6 1)
    · rw [e, pk_us]; exact div10 z.1.1
    · rw [pk_un e]; exact I.1.2 j (by omega)
  · rw [if_neg z]
    exact I
theorem pf_become {n : Nat} {s q : xA} (A : agr s q) (I : aIv n s) (c m : Int32) : f_become c m s = f_become c m q := by
  unfold f_become
  rw [← A.1.1.2.1]
  by_cases z : xin c (s.1 6 1).toInt ∧ xin m 70
  · rw [if_pos z, if_pos z]
    exact an_ (A.1.2.2.1 _ (xin_nat I.1.1.2.1 (by omega) z.1)).1
  · rw [if_neg z, if_neg z]
theorem pg_become {s q : xA} (A : agr s q) (c m : Int32) : agr (g_become c m s) (g_become c m q) := by
  unfold g_become
  rw [← A.1.1.2.1]
  by_cases z : xin c (s.1 6 1).toInt ∧ xin m 70
  · rw [if_pos z, if_pos z]
    exact ⟨⟨A.1.1, A.1.2.1, fun j hj => ⟨upS0 (fun j hj => (A.1.2.2.1 j hj).1) j hj, upS0 (fun j hj => (A.1.2.2.1 j hj).2) j hj⟩, A.1.2.2.2⟩, A.2⟩
  · rw [if_neg z, if_neg z]
    exact A
theorem pi_become {n : Nat} {s : xA} (I : aIv n s) (c m : Int32) : aIv n (g_become c m s) := by
  unfold g_become
  by_cases z : xin c (s.1 6 1).toInt ∧ xin m 70
  · rw [if_pos z]
    refine ⟨⟨I.1.1, fun j hj => ?_⟩, I.2⟩
    show below 6 (upd (s.1 2) (nat c) (m / 10) j)
    by_cases e : j = nat c
    · rw [e, pk_us]; exact div10 z.2
    · rw [pk_un e]; exact I.1.2 j hj
  · rw [if_neg z]
    exact I
theorem pf_as {n : Nat} {s q : xA} (A : agr s q) (I : aIv n s) (c k : Int32) : f_as c k s = f_as c k q := by
  unfold f_as
  rw [← A.1.1.2.1]
  by_cases z : xin c (s.1 6 1).toInt ∧ xin k 7
  · rw [if_pos z, if_pos z]
    have l := xin_nat I.1.1.2.1 (by omega) z.1
    rw [(A.1.2.2.1 _ l).1, (A.1.2.2.1 _ l).2]
  · rw [if_neg z, if_neg z]
theorem pg_check {s q : xA} (A : agr s q) : agr (g_check s) (g_check q) := ⟨⟨⟨A.1.1.1, A.1.1.2.1, A.1.1.2.2.1, A.1.1.2.2.2.1, A.1.1.2.2.2.2.1, rfl⟩, A.1.2.1, A.1.2.2.1, A.1.2.2.2.1, fun j hj => absurd (show j < 0 from hj) (Nat.not_lt_zero j)⟩, A.2⟩
theorem pi_check {n : Nat} {s : xA} (I : aIv n s) : aIv n (g_check s) := ⟨⟨⟨I.1.1.1, I.1.1.2.1, I.1.1.2.2.1, I.1.1.2.2.2.1, ⟨0, by omega, rfl⟩⟩, I.1.2⟩, I.2⟩
theorem pg_text {s q : xA} (A : agr s q) (u : Int32) : agr (g_text u s) (g_text u q) := by
  unfold g_text
  by_cases c : xin u 2
  · rw [if_pos c, if_pos c]
    exact ⟨⟨⟨A.1.1.1, A.1.1.2.1, A.1.1.2.2.1, A.1.1.2.2.2.1, rfl, A.1.1.2.2.2.2.2⟩, A.1.2.1, A.1.2.2.1, fun j hj => absurd (show j < 0 from hj) (Nat.not_lt_zero j), A.1.2.2.2.2⟩, A.2⟩
  · rw [if_neg c, if_neg c]
    exact A
theorem pi_text {n : Nat} {s : xA} (I : aIv n s) (u : Int32) : aIv n (g_text u s) := by
  unfold g_text
  by_cases c : xin u 2
  · rw [if_pos c]
    exact ⟨⟨⟨I.1.1.1, I.1.1.2.1, I.1.1.2.2.1, ⟨0, by omega, rfl⟩, I.1.1.2.2.2.2⟩, I.1.2⟩, I.2⟩
  · rw [if_neg c]
    exact I
theorem pf_image {s q : xA} (A : agr s q) : f_image s = f_image q := an_ (congrArg (· + 1) A.2.1.2.2.1.1)
theorem pg_image {s q : xA} (A : agr s q) : agr (g_image s) (g_image q) := ⟨A.1, ⟨A.2.1.1, A.2.1.2.1, ⟨congrArg (· + 1) A.2.1.2.2.1.1, A.2.1.2.2.1.2⟩, A.2.1.2.2.2⟩, fun _ => A.1⟩
theorem pi_image {n : Nat} {s : xA} (I : aIv n s) : aIv (n + 1) (g_image s) := by
  obtain ⟨k, hk, e⟩ := I.2.1.1.1
  exact ⟨I.1, ⟨⟨⟨k + 1, by omega, by show s.2.2 6 0 + 1 = nI (k + 1); rw [e, nI_1]⟩, I.2.1.1.2⟩, I.2.1.2⟩, fun _ => I.1⟩
theorem pf_restore {s q : xA} (A : agr s q) : f_restore s = f_restore q := by
  unfold f_restore
  rw [← A.2.1.2.2.1.1]
  by_cases c : s.2.2 6 0 = 0
  · rw [if_pos c, if_pos c]
  · rw [if_neg c, if_neg c]
    exact an_ (A.2.2 c).1.2.2.1
theorem pg_restore {s q : xA} (A : agr s q) : agr (g_restore s) (g_restore q) := by
  unfold g_restore
  rw [← A.2.1.2.2.1.1]
  by_cases c : s.2.2 6 0 = 0
  · rw [if_pos c, if_pos c]
    exact A
  · rw [if_neg c, if_neg c]
    exact ⟨A.2.2 c, A.2.1, A.2.2⟩
theorem pi_restore {n : Nat} {s : xA} (I : aIv n s) : aIv n (g_restore s) := by
  unfold g_restore
  by_cases c : s.2.2 6 0 = 0
  · rw [if_pos c]
    exact I
  · rw [if_neg c]
    exact ⟨I.2.2 c, I.2⟩
theorem pg_call {s q : xA} (A : agr s q) (m u : Int32) : agr (g_call m u s) (g_call m u q) := by
  unfold g_call
  rw [A.1.1.2.2.1, A.1.1.2.2.2.1]
  by_cases c : (xin m 6 ∧ xin u 10) ∧ nat (q.1 6 2) < 9999
  · rw [if_pos c, if_pos c]
    exact ⟨A.1.c, A.2⟩
  · rw [if_neg c, if_neg c]
    exact A
theorem pi_call {n : Nat} {s : xA} (I : aIv n s) (m u : Int32) : aIv n (g_call m u s) := by
  unfold g_call
  by_cases c : (xin m 6 ∧ xin u 10) ∧ nat (s.1 6 2) < 9999
  · rw [if_pos c]
    exact ⟨I.1.c (I.1.1.2.2.1.inc c.2 (by omega)).1, I.2⟩
  · rw [if_neg c]
    exact I
theorem pg_loose {s q : xA} (A : agr s q) (x : Int32) : agr (g_loose x s) (g_loose x q) := by
  unfold g_loose
  rw [A.1.1.2.2.1, A.1.1.2.2.2.1]
  by_cases c : (1 ≤ x.toInt ∧ x.toInt ≤ 40) ∧ nat (q.1 6 2) + nat x ≤ 9999
  · rw [if_pos c, if_pos c]
    exact ⟨A.1.c, A.2⟩
  · rw [if_neg c, if_neg c]
    exact A
theorem pi_loose {n : Nat} {s : xA} (I : aIv n s) (x : Int32) : aIv n (g_loose x s) := by
  unfold g_loose
  by_cases c : (1 ≤ x.toInt ∧ x.toInt ≤ 40) ∧ nat (s.1 6 2) + nat x ≤ 9999
  · rw [if_pos c]
    exact ⟨I.1.c ⟨_, c.2, rfl⟩, I.2⟩
  · rw [if_neg c]
    exact I
theorem pf_feed {s q : xA} (A : agr s q) (w : Int64) (x : Int32) : f_feed w x s = f_feed w x q := by
  unfold f_feed
  rw [A.1.1.2.2.2.2.1]
theorem pg_feed {n : Nat} {s q : xA} (A : agr s q) (I : aIv n s) (w : Int64) (x : Int32) : agr (g_feed w x s) (g_feed w x q) := by
  have e4 := A.1.1.2.2.2.2.1
  unfold g_feed
  rw [e4]
  by_cases c : (1 ≤ x.toInt ∧ x.toInt ≤ 8) ∧ nat (q.1 6 4) + nat x ≤ 50
  · rw [if_pos c, if_pos c]
    refine ⟨⟨⟨A.1.1.1, A.1.1.2.1, A.1.1.2.2.1, A.1.1.2.2.2.1, rfl, A.1.1.2.2.2.2.2⟩, A.1.2.1, A.1.2.2.1, fun j hj => ?_, A.1.2.2.2.2⟩, A.2⟩
    have hj : j < nat (nI (nat (q.1 6 4) + nat x)) := hj
    rw [show nat (nI (nat (q.1 6 4) + nat x)) = nat (q.1 6 4) + nat x from nI_clamp (by omega)] at hj
    show fedT (s.1 4) w (nat (q.1 6 4)) (nat x) j = fedT (q.1 4) w (nat (q.1 6 4)) (nat x) j
    unfold fedT
    by_cases g : nat (q.1 6 4) ≤ j ∧ j < nat (q.1 6 4) + nat x
    · rw [if_pos g, if_pos g]
    · rw [if_neg g, if_neg g]
      exact A.1.2.2.2.1 j (by rw [e4]; omega)
  · rw [if_neg c, if_neg c]
    exact A
theorem pi_feed {n : Nat} {s : xA} (I : aIv n s) (w : Int64) (x : Int32) : aIv n (g_feed w x s) := by
  unfold g_feed
  by_cases c : (1 ≤ x.toInt ∧ x.toInt ≤ 8) ∧ nat (s.1 6 4) + nat x ≤ 50
  · rw [if_pos c]
    exact ⟨⟨⟨I.1.1.1, I.1.1.2.1, I.1.1.2.2.1, ⟨_, c.2, rfl⟩, I.1.1.2.2.2.2⟩, I.1.2⟩, I.2⟩
  · rw [if_neg c]
    exact I
end
section
/-! ===== states that agree: sheets, voices ===== -/
theorem bare_bare (b x : Int32) : bare b (bare b x) = bare b x := by
  unfold bare
  by_cases h : b = 8
  · rw [if_pos h, if_pos h, Int32.and_assoc]; rfl
  · rw [if_neg h, if_neg h]
    by_cases g : b = 16
    · rw [if_pos g, if_pos g, Int32.and_assoc]; rfl
    · rw [if_neg g, if_neg g]
theorem agr.r3 {s q : xA} {R R2 : xS} (A : agr s q) (h : rAgr R R2) (h6 : R 6 = s.2.2 6) : agr (s.1, s.2.1, R) (q.1, q.2.1, R2) := ⟨A.1, h, fun z => A.2.2 (by rw [← h6]; exact z)⟩
theorem aIv.r3 {n : Nat} {s : xA} {R : xS} (I : aIv n s) (h : rIv n R) (h6 : R 6 = s.2.2 6) : aIv n (s.1, s.2.1, R) := ⟨I.1, h, fun z => I.2.2 (by rw [← h6]; exact z)⟩
theorem pf_sheet {s q : xA} (a b c : Int32) : f_sheet a b c s = f_sheet a b c q := rfl
theorem pg_sheet {s q : xA} (A : agr s q) (a b c : Int32) : agr (g_sheet a b c s) (g_sheet a b c q) := by
  unfold g_sheet
  by_cases z : xin a 4 ∧ (b = 0 ∨ ((b = 8 ∨ b = 16 ∨ b = 32) ∧ xin c 41))
  · rw [if_pos z, if_pos z]
    have l := nat4 z.1
    obtain ⟨h1, h2, h3, h4, h5⟩ := A.2.1.el
    have w : ∀ (f : xS) (x y u : Nat → Int32) (k : Nat), ¬ k = 4 → ¬ k = 5 → va_up (va_up (va_up f (nat a) x) 4 y) 5 u k = va_up f (nat a) x k := fun f x y u k e4 e5 => (if_neg e5).trans (if_neg e4)
    have w2 : ∀ (f : xS) (x y u : Nat → Int32) (k : Nat), 4 ≤ k → ¬ k = 4 → ¬ k = 5 → va_up (va_up (va_up f (nat a) x) 4 y) 5 u k = f k := fun f x y u k e e4 e5 => (if_neg e5).trans ((if_neg e4).trans (if_neg (by omega)))
    refine A.r3 (rAgr.mk3 (fun k j hk hj => ?_) (fun k hk => ?_) (fun k hk => ?_) ?_ (fun j hj => ?_)) (w2 _ _ _ _ 6 (by omega) (by omega) (by omega))
    · rw [w _ _ _ _ _ (by omega) (by omega), w _ _ _ _ _ (by omega) (by omega)]
      by_cases e : k = nat a
      · rw [e, vu_eq, vu_eq]
      · rw [vu_ne e, vu_ne e]; exact h1 k j hk hj
    · show upd (s.2.2 4) (nat a) (if b = 0 then 0 else c) k = upd (q.2.2 4) (nat a) (if b = 0 then 0 else c) k
      exact upS0 (n := 4) h2 k hk
    · show upd (s.2.2 5) (nat a) b k = upd (q.2.2 5) (nat a) b k
      exact upS0 (n := 4) h3 k hk
    · rw [w2 _ _ _ _ 6 (by omega) (by omega) (by omega), w2 _ _ _ _ 6 (by omega) (by omega) (by omega)]; exact h4
    · rw [w2 _ _ _ _ 6 (by omega) (by omega) (by omega)] at hj
      rw [w2 _ _ _ _ 7 (by omega) (by omega) (by omega), w2 _ _ _ _ 7 (by omega) (by omega) (by omega)]
      exact h5 j hj
  · rw [if_neg z, if_neg z]
    exact A
theorem pi_sheet {n : Nat} {s : xA} (I : aIv n s) (a b c : Int32) : aIv n (g_sheet a b c s) := by
  unfold g_sheet
  by_cases z : xin a 4 ∧ (b = 0 ∨ ((b = 8 ∨ b = 16 ∨ b = 32) ∧ xin c 41))
  · rw [if_pos z]
    have l := nat4 z.1
    obtain ⟨h1, h2⟩ := I.2.1.el
    have w : ∀ (f : xS) (x y u : Nat → Int32) (k : Nat), ¬ k = 4 → ¬ k = 5 → va_up (va_up (va_up f (nat a) x) 4 y) 5 u k = va_up f (nat a) x k := fun f x y u k e4 e5 => (if_neg e5).trans (if_neg e4)
    have w6 : va_up (va_up (va_up s.2.2 (nat a) (fun _ => 0)) 4 (upd (s.2.2 4) (nat a) (if b = 0 then 0 else c))) 5 (upd (s.2.2 5) (nat a) b) 6 = s.2.2 6 := (if_neg (by omega)).trans ((if_neg (by omega)).trans (if_neg (by omega)))
    refine I.r3 (rIv.mk3 (by rw [w6]; exact I.2.1.1) (fun k hk => ?_) (fun k j hk hj => ?_)) w6
    · show below 40 (upd (s.2.2 4) (nat a) (if b = 0 then 0 else c) k)
      by_cases e : k = nat a
      · rw [e, pk_us]
        by_cases b0 : b = 0
        · rw [if_pos b0]; exact ⟨0, by omega, rfl⟩
        · rw [if_neg b0]
          obtain ⟨m, hm, em, -⟩ := nI_ofx c (n := 41) (z.2.resolve_left b0).2 (by decide)
          exact ⟨m, by omega, em⟩
      · rw [pk_un e]; exact h1 k hk
    · show bare (upd (s.2.2 5) (nat a) b k) (va_up (va_up (va_up s.2.2 (nat a) (fun _ => 0)) 4 (upd (s.2.2 4) (nat a) (if b = 0 then 0 else c))) 5 (upd (s.2.2 5) (nat a) b) k j) = va_up (va_up (va_up s.2.2 (nat a) (fun _ => 0)) 4 (upd (s.2.2 4) (nat a) (if b = 0 then 0 else c))) 5 (upd (s.2.2 5) (nat a) b) k j
      rw [w _ _ _ _ _ (by omega) (by omega)]
      by_cases e : k = nat a
      · rw [e, vu_eq, bare_0]
      · rw [vu_ne e, pk_un e]; exact h2 k j hk hj
  · rw [if_neg z]
    exact I
theorem pf_put {s q : xA} (A : agr s q) (a i x : Int32) : f_put a i x s = f_put a i x q := by
  unfold f_put
  by_cases z : xin a 4
  · rw [if_pos z, if_pos z, A.2.1.el.2.2.1 _ (nat4 z), A.2.1.el.2.1 _ (nat4 z)]
  · rw [if_neg z, if_neg z]
theorem pg_put {s q : xA} (A : agr s q) (a i x : Int32) : agr (g_put a i x s) (g_put a i x q) := by
  unfold g_put
  by_cases z : xin a 4
  · have l := nat4 z
    obtain ⟨h1, h2, h3, h4, h5⟩ := A.2.1.el
    rw [← h3 _ l, ← h2 _ l]
    by_cases c : xin a 4 ∧ ¬ s.2.2 5 (nat a) = 0 ∧ xin i (s.2.2 4 (nat a)).toInt
    · rw [if_pos c, if_pos c]
      have w : ∀ (f : xS) (x : Nat → Int32) (k : Nat), 4 ≤ k → va_up f (nat a) x k = f k := fun f x k e => if_neg (by omega)
      refine A.r3 (rAgr.mk3 (fun k j hk hj => ?_) (fun k hk => ?_) (fun k hk => ?_) ?_ (fun j hj => ?_)) (w _ _ 6 (by omega))
      · by_cases e : k = nat a
        · rw [e, vu_eq, vu_eq]
          exact upS0 (n := 40) (fun j hj => h1 _ j l hj) j hj
        · rw [vu_ne e, vu_ne e]; exact h1 k j hk hj
      · rw [w _ _ 4 (by omega), w _ _ 4 (by omega)]; exact h2 k hk
      · rw [w _ _ 5 (by omega), w _ _ 5 (by omega)]; exact h3 k hk
      · rw [w _ _ 6 (by omega), w _ _ 6 (by omega)]; exact h4
      · rw [w _ _ 6 (by omega)] at hj
        rw [w _ _ 7 (by omega), w _ _ 7 (by omega)]; exact h5 j hj
    · rw [if_neg c, if_neg c]
      exact A
  · rw [if_neg (fun c => z c.1), if_neg (fun c => z c.1)]
    exact A
theorem pi_put {n : Nat} {s : xA} (I : aIv n s) (a i x : Int32) : aIv n (g_put a i x s) := by
  unfold g_put
  by_cases c : xin a 4 ∧ ¬ s.2.2 5 (nat a) = 0 ∧ xin i (s.2.2 4 (nat a)).toInt
  · rw [if_pos c]
    have l := nat4 c.1
    obtain ⟨h1, h2⟩ := I.2.1.el
    obtain ⟨f, ef⟩ : ∃ f, f = upd (s.2.2 (nat a)) (nat i) (bare (s.2.2 5 (nat a)) x) := ⟨_, rfl⟩
    rw [← ef]
    have w : ∀ k : Nat, 4 ≤ k → va_up s.2.2 (nat a) f k = s.2.2 k := fun k e => if_neg (by omega)
    refine I.r3 (rIv.mk3 (by rw [w 6 (by omega)]; exact I.2.1.1) (fun k hk => ?_) (fun k j hk hj => ?_)) (w 6 (by omega))
    · show below 40 (va_up s.2.2 (nat a) f 4 k)
      rw [w 4 (by omega)]; exact h1 k hk
    · show bare (va_up s.2.2 (nat a) f 5 k) (va_up s.2.2 (nat a) f k j) = va_up s.2.2 (nat a) f k j
      rw [w 5 (by omega)]
      by_cases e : k = nat a
      · rw [e, vu_eq, ef]
        by_cases ji : j = nat i
        · rw [ji, pk_us, bare_bare]
        · rw [pk_un ji]; exact h2 _ j l hj
      · rw [vu_ne e]; exact h2 k j hk hj
  · rw [if_neg c]
    exact I
theorem pf_move {s q : xA} (A : agr s q) (a i d j m : Int32) : f_move a i d j m s = f_move a i d j m q := by
  unfold f_move
  by_cases z : xin a 4 ∧ xin d 4
  · have e := A.2.1.el
    rw [if_pos z, if_pos z, e.2.2.1 _ (nat4 z.1), e.2.2.1 _ (nat4 z.2), e.2.1 _ (nat4 z.1), e.2.1 _ (nat4 z.2)]
  · rw [if_neg z, if_neg z]
theorem runs_in {i j m a b : Int32} (r : runs i j m a b) (ha : below 40 a) (hb : below 40 b) : nat i + nat m ≤ 40 ∧ nat j + nat m ≤ 40 := (runs_cpy r.1 r.2 ha hb).2.2.2
theorem pg_move {n : Nat} {s q : xA} (A : agr s q) (I : aIv n s) (a i d j m : Int32) : agr (g_move a i d j m s) (g_move a i d j m q) := by
  unfold g_move
  by_cases z : xin a 4 ∧ xin d 4
  · obtain ⟨h1, h2, h3, h4, h5⟩ := A.2.1.el
    have l := nat4 z.1
    have l2 := nat4 z.2
    rw [← h3 _ l, ← h3 _ l2, ← h2 _ l, ← h2 _ l2]
    by_cases c : (xin a 4 ∧ xin d 4) ∧ ¬ (s.2.2 5 (nat a) = 0 ∨ s.2.2 5 (nat d) = 0) ∧ s.2.2 5 (nat a) = s.2.2 5 (nat d) ∧ runs i j m (s.2.2 4 (nat a)) (s.2.2 4 (nat d))
    · rw [if_pos c, if_pos c]
      have b4 := I.2.1.el.1
      have rr := runs_in c.2.2.2 (b4 _ l) (b4 _ l2)
      have w : ∀ (f : xS) (x : Nat → Int32) (k : Nat), 4 ≤ k → va_up f (nat d) x k = f k := fun f x k e => if_neg (by omega)
      refine A.r3 (rAgr.mk3 (fun k x hk hx => ?_) (fun k hk => ?_) (fun k hk => ?_) ?_ (fun x hx => ?_)) (w _ _ 6 (by omega))
      · by_cases e : k = nat d
        · rw [e, vu_eq, vu_eq]
          by_cases g : nat j ≤ x ∧ x < nat j + nat m
          · rw [pk_cpy_in g.1 g.2, pk_cpy_in g.1 g.2]
            exact h1 _ _ l (by omega)
          · rw [pk_cpy_out (by omega), pk_cpy_out (by omega)]
            exact h1 _ _ l2 hx
        · rw [vu_ne e, vu_ne e]; exact h1 k x hk hx
      · rw [w _ _ 4 (by omega), w _ _ 4 (by omega)]; exact h2 k hk
      · rw [w _ _ 5 (by omega), w _ _ 5 (by omega)]; exact h3 k hk
      · rw [w _ _ 6 (by omega), w _ _ 6 (by omega)]; exact h4
      · rw [w _ _ 6 (by omega)] at hx
        rw [w _ _ 7 (by omega), w _ _ 7 (by omega)]; exact h5 x hx
    · rw [if_neg c, if_neg c]
      exact A
  · rw [if_neg (fun c => z c.1), if_neg (fun c => z c.1)]
    exact A
theorem pi_move {n : Nat} {s : xA} (I : aIv n s) (a i d j m : Int32) : aIv n (g_move a i d j m s) := by
  unfold g_move
  by_cases c : (xin a 4 ∧ xin d 4) ∧ ¬ (s.2.2 5 (nat a) = 0 ∨ s.2.2 5 (nat d) = 0) ∧ s.2.2 5 (nat a) = s.2.2 5 (nat d) ∧ runs i j m (s.2.2 4 (nat a)) (s.2.2 4 (nat d))
  · rw [if_pos c]
    have l := nat4 c.1.1
    have l2 := nat4 c.1.2
    obtain ⟨h1, h2⟩ := I.2.1.el
    have rr := runs_in c.2.2.2 (h1 _ l) (h1 _ l2)
    obtain ⟨f, ef⟩ : ∃ f, f = va_cpy (s.2.2 (nat a)) (s.2.2 (nat d)) (nat i) (nat j) (nat m) := ⟨_, rfl⟩
    rw [← ef]
    have w : ∀ k : Nat, 4 ≤ k → va_up s.2.2 (nat d) f k = s.2.2 k := fun k e => if_neg (by omega)
    refine I.r3 (rIv.mk3 (by rw [w 6 (by omega)]; exact I.2.1.1) (fun k hk => ?_) (fun k x hk hx => ?_)) (w 6 (by omega))
    · show below 40 (va_up s.2.2 (nat d) f 4 k)
      rw [w 4 (by omega)]; exact h1 k hk
    · show bare (va_up s.2.2 (nat d) f 5 k) (va_up s.2.2 (nat d) f k x) = va_up s.2.2 (nat d) f k x
      rw [w 5 (by omega)]
      by_cases e : k = nat d
      · rw [e, vu_eq, ef]
        by_cases g : nat j ≤ x ∧ x < nat j + nat m
        · rw [pk_cpy_in g.1 g.2, ← c.2.2.1]
          exact h2 _ _ l (by omega)
        · rw [pk_cpy_out (by omega)]
          exact h2 _ _ l2 hx
      · rw [vu_ne e]; exact h2 k x hk hx
  · rw [if_neg c]
    exact I
-- voices: notes laid over two rows that agree
def qAg (p q : xTq) : Prop := p.2 = q.2 ∧ ∀ j, j < p.2 → p.1 j = q.1 j
theorem nt_ag {p q : xTq} (h : qAg p q) (b : Int32) : qAg (nt p b) (nt q b) := by
  unfold nt
  rw [← h.1]
  by_cases c : p.2 < 40
  · rw [if_pos c, if_pos c]
    exact ⟨rfl, upS1 (n := p.2) h.2 (Nat.le_refl _)⟩
  · rw [if_neg c, if_neg c]
    exact h
def vAg (p q : Int32 × xTq) : Prop := p.1 = q.1 ∧ qAg p.2 q.2
theorem shV_ag {p q : xTq} (h : qAg p q) (k : Nat) (n x : Int32) : vAg (shV k n x p) (shV k n x q) := by
  unfold shV
  split
  · exact ⟨rfl, nt_ag (nt_ag h _) _⟩
  · exact ⟨rfl, nt_ag h _⟩
theorem toV_ag {p q : xTq} (h : qAg p q) (k : Nat) (n m x : Int32) : vAg (toV k n m x p) (toV k n m x q) := by
  unfold toV
  split
  · exact ⟨rfl, nt_ag (nt_ag h _) _⟩
  split
  · exact ⟨rfl, nt_ag (nt_ag (nt_ag h _) _) _⟩
  · exact ⟨rfl, nt_ag h _⟩
theorem ru0_ag {p q : xTq} (h : qAg p q) (z : Nat) (n x : Int32) : vAg (ru0 z n x p) (ru0 z n x q) := by
  have a := shV_ag (nt_ag h 11) z n x
  exact ⟨congrArg (· * 2) a.1, a.2⟩
theorem ru2_ag {p q : xTq} (h : qAg p q) (z : Nat) (n m x : Int32) : vAg (ru2 z n m x p) (ru2 z n m x q) := by
  have a := ru0_ag (nt_ag h 30) z n x
  have b := toV_ag a.2 z n m 1
  exact ⟨by show _ - _ = _ - _; rw [a.1, b.1], b.2⟩
theorem ruV_ag {p q : xTq} (h : qAg p q) (z : Nat) (n m : Int32) (k : Nat) (x : Int32) : vAg (ruV z n m k x p) (ruV z n m k x q) := by
  unfold ruV
  split
  · exact ru2_ag h z n m x
  split
  · exact ru2_ag (nt_ag h _) z n m _
  · exact ru0_ag h z n x
theorem te0_ag {p q : xTq} (h : qAg p q) (z : Nat) (n m x : Int32) : vAg (te0 z n m x p) (te0 z n m x q) := by
  have a := ruV_ag (nt_ag h 13) z n m z x
  have b := toV_ag a.2 z n m x
  exact ⟨by show _ ^^^ _ = _ ^^^ _; rw [a.1, b.1], b.2⟩
theorem teV_ag {p q : xTq} (h : qAg p q) (z : Nat) (n m : Int32) (k : Nat) (x : Int32) : vAg (teV z n m k x p) (teV z n m k x q) := by
  unfold teV
  split
  · have a := te0_ag (nt_ag h 50) z n m x
    have b := shV_ag a.2 z n 2
    exact ⟨by show _ - _ = _ - _; rw [a.1, b.1], b.2⟩
  split
  · have a := ruV_ag (nt_ag h 71) z n m z x
    have b := te0_ag a.2 z n m x
    exact ⟨by show _ - _ = _ - _; rw [a.1, b.1], b.2⟩
  · exact te0_ag h z n m x
theorem voV_ag (z : Nat) (n m a x : Int32) (f g : Nat → Int32) : vAg (voV z n m a x f) (voV z n m a x g) := by
  have o : qAg (f, 0) (g, 0) := ⟨rfl, fun j hj => absurd hj (Nat.not_lt_zero j)⟩
  unfold voV
  split
  · exact shV_ag o z n x
  split
  · exact ruV_ag o z n m z x
  split
  · exact toV_ag o z n m x
  · exact teV_ag o z n m z x
theorem pf_voice {n : Nat} {s q : xA} (A : agr s q) (I : aIv n s) (c a x : Int32) : f_voice c a x s = f_voice c a x q := by
  unfold f_voice
  rw [← A.1.1.2.1]
  by_cases z : xin c (s.1 6 1).toInt ∧ xin a 4
  · rw [if_pos z, if_pos z]
    have l := xin_nat I.1.1.2.1 (by omega) z.1
    rw [(A.1.2.2.1 _ l).1, (A.1.2.2.1 _ l).2]
    exact an_ (voV_ag _ _ _ _ _ _ _).1
  · rw [if_neg z, if_neg z]
theorem pg_voice {n : Nat} {s q : xA} (A : agr s q) (I : aIv n s) (c a x : Int32) : agr (g_voice c a x s) (g_voice c a x q) := by
  unfold g_voice
  rw [← A.1.1.2.1]
  by_cases z : xin c (s.1 6 1).toInt ∧ xin a 4
  · rw [if_pos z, if_pos z]
    have l := xin_nat I.1.1.2.1 (by omega) z.1
    rw [(A.1.2.2.1 _ l).1, (A.1.2.2.1 _ l).2]
    have v := voV_ag (nat (q.1 2 (nat c))) c (q.1 3 (nat c)) a x (s.2.2 7) (q.2.2 7)
    have le : (voV (nat (q.1 2 (nat c))) c (q.1 3 (nat c)) a x (s.2.2 7)).2.2 ≤ 40 := voV_le
    refine ⟨A.1, ⟨A.2.1.1, A.2.1.2.1, ⟨A.2.1.2.2.1.1, by show nI _ = nI _; rw [v.2.1]⟩, fun j hj => ?_⟩, A.2.2⟩
    have hj : j < nat (nI (voV (nat (q.1 2 (nat c))) c (q.1 3 (nat c)) a x (s.2.2 7)).2.2) := hj
    rw [show nat (nI (voV (nat (q.1 2 (nat c))) c (q.1 3 (nat c)) a x (s.2.2 7)).2.2) = (voV (nat (q.1 2 (nat c))) c (q.1 3 (nat c)) a x (s.2.2 7)).2.2 from nI_clamp (by omega)] at hj
    exact v.2.2 j hj
  · rw [if_neg z, if_neg z]
    exact A
theorem pi_voice {n : Nat} {s : xA} (I : aIv n s) (c a x : Int32) : aIv n (g_voice c a x s) := by
  unfold g_voice
  by_cases z : xin c (s.1 6 1).toInt ∧ xin a 4
  · rw [if_pos z]
    exact ⟨I.1, ⟨⟨I.2.1.1.1, ⟨_, voV_le, rfl⟩⟩, I.2.1.2⟩, I.2.2⟩
  · rw [if_neg z]
    exact I
end
section
/-! ===== places with its answer ===== -/
theorem i8_rng (x : Int8) : -(2 ^ (8 - 1) : Int) ≤ x.toInt32.toInt ∧ x.toInt32.toInt < 2 ^ (8 - 1) := by
  rw [Int8.toInt_toInt32]
  exact ⟨x.le_toInt, x.toInt_lt⟩
theorem i16_rng (x : Int16) : -(2 ^ (16 - 1) : Int) ≤ x.toInt32.toInt ∧ x.toInt32.toInt < 2 ^ (16 - 1) := by
  rw [Int16.toInt_toInt32]
  exact ⟨x.le_toInt, x.toInt_lt⟩
theorem low_cell {x m : Int32} {e : Nat} (he : 5 ≤ e ∧ e ≤ 16) (hm : m.toBitVec = BitVec.ofNat 32 (2 ^ e - 1)) (r : -(2 ^ (e - 1) : Int) ≤ x.toInt ∧ x.toInt < 2 ^ (e - 1)) : xin (x &&& m) 12 ↔ xin x 12 := by
  have p1 : (2 : Nat) ^ e ≤ 2 ^ 16 := Nat.pow_le_pow_right (by decide) he.2
  have p2 : (2 : Nat) ^ 4 ≤ 2 ^ (e - 1) := Nat.pow_le_pow_right (by decide) (by omega)
  have p3 : (2 : Nat) ^ e = 2 * 2 ^ (e - 1) := by rw [← Nat.pow_succ']; congr 1; omega
  have c : ((2 : Int) ^ (e - 1)) = ((2 ^ (e - 1) : Nat) : Int) := by norm_cast
  rw [c] at r
  have n : (x &&& m).toBitVec.toNat = x.toBitVec.toNat % 2 ^ e := by
    rw [Int32.toBitVec_and, BitVec.toNat_and, hm, BitVec.toNat_ofNat, Nat.mod_eq_of_lt (show 2 ^ e - 1 < 2 ^ 32 by omega), Nat.and_two_pow_sub_one_eq_mod]
  have l := x.toBitVec.isLt
  have t1 : x.toInt = if 2 * x.toBitVec.toNat < 2 ^ 32 then (x.toBitVec.toNat : Int) else (x.toBitVec.toNat : Int) - 2 ^ 32 := BitVec.toInt_eq_toNat_cond x.toBitVec
  have t2 : (x &&& m).toInt = if 2 * (x &&& m).toBitVec.toNat < 2 ^ 32 then ((x &&& m).toBitVec.toNat : Int) else ((x &&& m).toBitVec.toNat : Int) - 2 ^ 32 := BitVec.toInt_eq_toNat_cond (x &&& m).toBitVec
  have ml : x.toBitVec.toNat % 2 ^ e < 2 ^ e := Nat.mod_lt _ (Nat.two_pow_pos e)
  rw [n, if_pos (by omega)] at t2
  simp only [xin]
  rw [t2]
  by_cases g : 2 * x.toBitVec.toNat < 2 ^ 32
  · rw [if_pos g] at t1
    rw [Nat.mod_eq_of_lt (by omega), t1]
  · rw [if_neg g] at t1
    -- below zero: the low bits are at least half
    have q : x.toBitVec.toNat % 2 ^ e ≥ 2 ^ (e - 1) := by
      have d : ∃ u : Nat, 2 ^ 32 = 2 ^ e * u := ⟨2 ^ (32 - e), by rw [← Nat.pow_add]; congr 1; omega⟩
      obtain ⟨u, hu⟩ := d
      obtain ⟨y, hy⟩ : ∃ y : Nat, y = 2 ^ 32 - x.toBitVec.toNat := ⟨_, rfl⟩
      have y1 : y ≤ 2 ^ (e - 1) := by omega
      have y0 : 0 < y := by omega
      have u1 : 1 ≤ u := Nat.pos_of_ne_zero fun z => by rw [z, Nat.mul_zero] at hu; omega
      have ex : x.toBitVec.toNat = 2 ^ e * (u - 1) + (2 ^ e - y) := by
        have : 2 ^ e * u = 2 ^ e * (u - 1) + 2 ^ e := by
          rw [← Nat.mul_succ]; congr 1; omega
        omega
      rw [ex, Nat.mul_add_mod, Nat.mod_eq_of_lt (by omega)]
      omega
    rw [t1]
    omega
def cntP (f : Nat → Int32) : Nat → Nat → Nat
  | 0, i => i
  | d + 1, i => if xin (f i) 12 then cntP f d (i + 1) else i
theorem cntP_le {f : Nat → Int32} : ∀ {d i : Nat}, cntP f d i ≤ i + d := by
  intro d
  induction d with
  | zero => intro i; exact Nat.le_refl _
  | succ d ih =>
    intro i
    unfold cntP
    split
    · have := ih (i := i + 1); omega
    · omega
theorem cntP_eq {f g : Nat → Int32} : ∀ {d i : Nat}, (∀ j, j < i + d → (xin (f j) 12 ↔ xin (g j) 12)) → cntP f d i = cntP g d i := by
  intro d
  induction d with
  | zero => intro i _; rfl
  | succ d ih =>
    intro i h
    unfold cntP
    by_cases c : xin (f i) 12
    · rw [if_pos c, if_pos ((h i (by omega)).mp c)]
      exact ih (fun j hj => h j (by omega))
    · rw [if_neg c, if_neg (fun z => c ((h i (by omega)).mpr z))]
def plN (s : Int32) (q : xA) : Nat := min (nat (q.2.2 4 (nat s))) (nat (q.1 6 1))
def f_places (s : Int32) (q : xA) : xAn := if xin s 4 then (if q.2.2 5 (nat s) = 0 then (-1000000002, 2) else (nI (cntP (q.2.2 (nat s)) (plN s q) 0), 0)) else (-1000000001, 1)
theorem min_eq {a b : Int32} {A B : Nat} (ha : below A a) (hb : below B b) (hA : A < 2 ^ 31) (hB : B < 2 ^ 31) : (if a ≤ b then a else b) = nI (min (nat a) (nat b)) := by
  obtain ⟨k, hk, rfl⟩ := ha
  obtain ⟨j, hj, rfl⟩ := hb
  rw [show nat (nI k) = k from nI_clamp (by omega), show nat (nI j) = j from nI_clamp (by omega)]
  by_cases h : k ≤ j
  · rw [if_pos ((nI_leI (by omega) (by omega)).mpr h), Nat.min_eq_left h]
  · rw [if_neg (fun z => h ((nI_leI (by omega) (by omega)).mp z)), Nat.min_eq_right (by omega)]
theorem sgn_cell {b x : Int32} (h : sgn b x = x) : xin (bare b x) 12 ↔ xin x 12 := by
  unfold sgn at h
  unfold bare
  by_cases c : b = 8
  · rw [if_pos c] at h ⊢
    exact low_cell (m := 255) (e := 8) (by omega) rfl (by rw [← h]; exact i8_rng _)
  rw [if_neg c] at h ⊢
  by_cases d : b = 16
  · rw [if_pos d] at h ⊢
    exact low_cell (m := 65535) (e := 16) (by omega) rfl (by rw [← h]; exact i16_rng _)
  · rw [if_neg d]
theorem pf_places {n : Nat} {s q : xA} (A : agr s q) (I : aIv n s) (a : Int32) : f_places a s = f_places a q := by
  unfold f_places
  by_cases z : xin a 4
  · have l := nat4 z
    obtain ⟨h1, h2, h3, -, -⟩ := A.2.1.el
    rw [if_pos z, if_pos z, h3 _ l]
    have ep : plN a s = plN a q := by
      unfold plN
      rw [h2 _ l, A.1.1.2.1]
    have lp : plN a s ≤ 7 := by
      have := bel_nat I.1.1.2.1 (by omega)
      unfold plN
      omega
    rw [← ep, cntP_eq (f := s.2.2 (nat a)) (g := q.2.2 (nat a)) fun j hj => by rw [h1 _ j l (by omega)]]
  · rw [if_neg z, if_neg z]
end
section
/-! ===== what a code pushes ===== -/
abbrev evQ : Type := (Nat → Int32) × Nat
def evL (a b c : Int32) : List Int32 → evQ → evQ
  | [], q => q
  | w :: r, q => evL a b c r (evStep a b c w q)
theorem evL_app {a b c : Int32} : ∀ {l m : List Int32} {q : evQ}, evL a b c (l ++ m) q = evL a b c m (evL a b c l q) := by
  intro l
  induction l with
  | nil => intro m q; rfl
  | cons w r ih => intro m q; exact ih
theorem evRun_L {a b c : Int32} {code : Nat → Int32} : ∀ (l : List Int32) (i : Nat) (q : evQ), (∀ j, j < l.length → code (i + j) = l.getD j 0) → evRun a b c code l.length i q = evL a b c l q := by
  intro l
  induction l with
  | nil => intro i q _; rfl
  | cons w r ih =>
    intro i q h
    have h0 : code i = w := h 0 (by show 0 < r.length + 1; omega)
    show evRun a b c code r.length (i + 1) (evStep a b c (code i) q) = evL a b c r (evStep a b c w q)
    rw [h0]
    refine ih (i + 1) _ (fun j hj => ?_)
    have z := h (j + 1) (by show j + 1 < r.length + 1; omega)
    rw [show i + (j + 1) = i + 1 + j by omega] at z
    exact z
/-- over any stack it leaves what lies there and lays v on it -/
def pushes (a b c : Int32) (l : List Int32) (v : Int32) : Prop := ∀ q : evQ, q.2 + l.length ≤ 50 → (evL a b c l q).2 = q.2 + 1 ∧ (evL a b c l q).1 q.2 = v ∧ ∀ j, j < q.2 → (evL a b c l q).1 j = q.1 j
theorem pushes.ne {a b c : Int32} {l : List Int32} {v : Int32} (h : pushes a b c l v) (s : l.length ≤ 50) : 1 ≤ l.length := by
  cases l with
  | nil =>
    have z := (h (fun _ => 0, 0) (by show 0 + 0 ≤ 50; omega)).1
    exact absurd (show (0 : Nat) = 0 + 1 from z) (by decide)
  | cons w r => show 1 ≤ r.length + 1; omega
theorem evPush_ok {q : evQ} {x : Int32} (h : q.2 < 50) : evPush q x = (upd q.1 q.2 x, q.2 + 1) := if_pos h
theorem push1 {a b c w v : Int32} (h : ∀ q, evStep a b c w q = evPush q v) : pushes a b c [w] v := by
  intro q hq
  have l : q.2 < 50 := by have : q.2 + 1 ≤ 50 := hq; omega
  have e : evL a b c [w] q = (upd q.1 q.2 v, q.2 + 1) := by
    show evStep a b c w q = _
    rw [h q, evPush_ok l]
  rw [e]
  exact ⟨rfl, pk_us, fun j hj => pk_un (by omega)⟩
theorem push_num {a b c : Int32} {m : Nat} (h : m < 10000) : pushes a b c [nI m] (nI m) := push1 fun q => if_pos (by rw [show (10000 : Int32) = nI 10000 from rfl, nI_ltI (by omega) (by omega)]; exact h)
theorem push_a {a b c : Int32} : pushes a b c [10000] a := push1 fun q => (if_neg (by decide)).trans ((if_pos (by decide)).trans (congrArg (evPush q) (if_pos rfl)))
theorem push_b {a b c : Int32} : pushes a b c [10001] b := push1 fun q => (if_neg (by decide)).trans ((if_pos (by decide)).trans (congrArg (evPush q) ((if_neg (by decide)).trans (if_pos rfl))))
theorem push_c {a b c : Int32} : pushes a b c [10002] c := push1 fun q => (if_neg (by decide)).trans ((if_pos (by decide)).trans (congrArg (evPush q) ((if_neg (by decide)).trans (if_neg (by decide)))))
theorem evPop_ok {q : evQ} {k : Nat} (h : q.2 = k + 1) : evPop q = (q.1 k, (q.1, k)) := by
  unfold evPop
  rw [if_neg (by omega), h]
  rfl
theorem push_not {a b c : Int32} {l : List Int32} {v : Int32} (h : pushes a b c l v) : pushes a b c (l ++ [20033]) (if v = 0 then 1 else 0) := by
  intro q hq
  rw [List.length_append] at hq
  have hq : q.2 + (l.length + 1) ≤ 50 := hq
  obtain ⟨h1, h2, h3⟩ := h q (by omega)
  rw [evL_app]
  obtain ⟨r, er⟩ : ∃ r, r = evL a b c l q := ⟨_, rfl⟩
  rw [← er] at h1 h2 h3 ⊢
  have e : evL a b c [20033] r = (upd r.1 q.2 (if v = 0 then 1 else 0), q.2 + 1) := by
    show evStep a b c 20033 r = _
    unfold evStep
    rw [if_neg (by decide), if_neg (by decide), if_pos rfl, evPop_ok h1, h2]
    exact evPush_ok (by show q.2 < 50; omega)
  rw [e]
  exact ⟨rfl, pk_us, fun j hj => (pk_un (by omega)).trans (h3 j hj)⟩
theorem push_bin {a b c x : Int32} {l m : List Int32} {v w : Int32} (h : pushes a b c l v) (k : pushes a b c m w) (x1 : ¬ 20000 + x < 10000) (x2 : ¬ 20000 + x < 20000) (x3 : ¬ 20000 + x = 20033) (x4 : 20000 + x - 20000 = x) : pushes a b c (l ++ m ++ [20000 + x]) (wk x v w) := by
  intro q hq
  rw [List.length_append, List.length_append] at hq
  have hq : q.2 + (l.length + m.length + 1) ≤ 50 := hq
  have l1 := h.ne (by omega)
  have m1 := k.ne (by omega)
  obtain ⟨h1, h2, h3⟩ := h q (by omega)
  rw [evL_app, evL_app]
  obtain ⟨r, er⟩ : ∃ r, r = evL a b c l q := ⟨_, rfl⟩
  rw [← er] at h1 h2 h3 ⊢
  obtain ⟨k1, k2, k3⟩ := k r (by omega)
  obtain ⟨s, es⟩ : ∃ s, s = evL a b c m r := ⟨_, rfl⟩
  rw [← es] at k1 k2 k3 ⊢
  rw [h1] at k1 k2 k3
  have e : evL a b c [20000 + x] s = (upd s.1 q.2 (wk x v w), q.2 + 1) := by
    show evStep a b c (20000 + x) s = _
    unfold evStep
    rw [if_neg x1, if_neg x2, if_neg x3, evPop_ok k1, k2, evPop_ok (show ((s.1, q.2 + 1) : evQ).2 = q.2 + 1 from rfl), x4]
    show evPush (s.1, q.2) (wk x (s.1 q.2) w) = _
    rw [k3 q.2 (by omega), h2]
    exact evPush_ok (by show q.2 < 50; omega)
  rw [e]
  exact ⟨rfl, pk_us, fun j hj => (pk_un (by omega)).trans ((k3 j (by omega)).trans (h3 j hj))⟩
end
section
/-! ===== what is held, and its release ===== -/
theorem emL_ok {c : List Int32} {x : Int32} (h : c.length < 50) : emL c x = c ++ [x] := if_pos h
theorem hoL_ok {c : List Int32} {x : Int32} (h : c.length < 50) : hoL c x = x :: c := if_pos h
/-- the top of what is held is no ! and stands below a rank -/
def topB (k : Int32) : List Int32 → Prop
  | [] => True
  | x :: _ => ¬ x = 33 ∧ rkV x < k
theorem cnL_stop {k : Int32} {c hl : List Int32} {o : Int32} (h : topB k hl) : cnL c hl o = (c, hl, o) := by
  cases hl with
  | nil => rfl
  | cons x r => exact if_neg h.1
theorem cnL_bang {hl : List Int32} : ∀ (k : Nat) (c : List Int32) (o : Int32), c.length + k ≤ 50 → cnL c (List.replicate k 33 ++ hl) o = cnL (c ++ List.replicate k 20033) hl (o - nI k) := by
  intro k
  induction k with
  | zero =>
    intro c o _
    show cnL c hl o = cnL (c ++ []) hl (o - 0)
    rw [List.append_nil, Int32.sub_zero]
  | succ k ih =>
    intro c o h
    have e : cnL c (List.replicate (k + 1) 33 ++ hl) o = cnL (emL c 20033) (List.replicate k 33 ++ hl) (o - 1) := if_pos rfl
    rw [e, emL_ok (by omega), ih _ _ (by rw [List.length_append]; show c.length + 1 + k ≤ 50; omega)]
    have e2 : c ++ [20033] ++ List.replicate k 20033 = c ++ List.replicate (k + 1) 20033 := by
      rw [List.append_assoc]
      rfl
    have e3 : o - 1 - nI k = o - nI (k + 1) := by
      rw [← nI_1, Int32.sub_sub, Int32.add_comm 1 (nI k)]
    rw [e2, e3]
theorem rlL_stop {k : Int32} {c hl : List Int32} {o : Int32} (h : topB k hl) : rlL k c o hl = (c, hl, o) := by
  cases hl with
  | nil => rfl
  | cons x r => exact if_neg (fun z => by have q := h.2; rw [xlt] at q; rw [xle] at z; omega)
theorem rlL_ops {k : Int32} {hl : List Int32} {o : Int32} : ∀ (ops c : List Int32), (∀ x, x ∈ ops → k ≤ rkV x) → c.length + ops.length ≤ 50 → rlL k c o (ops ++ hl) = rlL k (c ++ ops.map (fun x => 20000 + x)) o hl := by
  intro ops
  induction ops with
  | nil =>
    intro c _ _
    show rlL k c o hl = rlL k (c ++ []) o hl
    rw [List.append_nil]
  | cons x r ih =>
    intro c h l
    have l : c.length + (r.length + 1) ≤ 50 := l
    have e : rlL k c o ((x :: r) ++ hl) = rlL k (emL c (20000 + x)) o (r ++ hl) := if_pos (h x List.mem_cons_self)
    rw [e, emL_ok (by omega), ih _ (fun y hy => h y (List.mem_cons_of_mem x hy)) (by rw [List.length_append]; show c.length + 1 + r.length ≤ 50; omega)]
    have e2 : c ++ [20000 + x] ++ r.map (fun x => 20000 + x) = c ++ (x :: r).map (fun x => 20000 + x) := by
      rw [List.append_assoc]
      rfl
    rw [e2]
/-- released by a lower rank, ops that stand above it -/
theorem rlL_all {k : Int32} {hl ops c : List Int32} {o : Int32} (h : ∀ x, x ∈ ops → k ≤ rkV x) (l : c.length + ops.length ≤ 50) (b : topB k hl) : rlL k c o (ops ++ hl) = (c ++ ops.map (fun x => 20000 + x), hl, o) := by
  rw [rlL_ops ops c h l, rlL_stop b]
end
section
/-! ===== both readings: a level of the grammar ===== -/
/-- the first held sign that stands below sums compares -/
def lowCmp (ops : List Int32) : Prop := ∃ a x b, ops = a ++ x :: b ∧ (∀ z, z ∈ a → 4 ≤ rkV z) ∧ rkV x = 3
/-- what the next byte may be behind a level -/
def nextOK (i : Nat) (b : Int32) (ops : List Int32) : Prop := (1 ≤ i → opMul b = false) ∧ (2 ≤ i → opAdd b = false) ∧ (3 ≤ i → opCmp b = true → lowCmp ops) ∧ (4 ≤ i → opAnd b = false) ∧ (5 ≤ i → opOr b = false)
def simGood (u : Int32) (y : Nat → Int32) (n : Nat) (A B C : Int32) (i o p : Nat) (c hl : List Int32) (dg : Int32) (r : gVal) : Prop := ∃ (c0 ops : List Int32) (k : Nat) (d : Int32), resL u y n p ((c, hl, nI o), dg, true) = resL u y n r.2.1 ((c ++ c0, List.replicate k 33 ++ (ops ++ hl), nI (o + k)), d, false) ∧ (∀ x, x ∈ ops → nI (6 - i) ≤ rkV x) ∧ pushes A B C (c0 ++ List.replicate k 20033 ++ ops.map (fun x => 20000 + x)) r.1 ∧ p + c0.length + k + ops.length ≤ r.2.1 ∧ (isDg (bY y n r.2.1) = false ∨ d = 0 ∨ d = 4) ∧ nextOK i (bY y n r.2.1) ops ∧ r.2.1 ≤ n
def simT (u : Int32) (y : Nat → Int32) (n : Nat) (A B C : Int32) (m i o : Nat) : Prop := ∀ (p : Nat) (c hl : List Int32) (dg : Int32), p ≤ n → c.length + hl.length ≤ p → (i = 0 ∨ topB (nI (6 - i)) hl) → ((grG u A B C (bY y n) m i o p).2.2 = true → simGood u y n A B C i o p c hl dg (grG u A B C (bY y n) m i o p)) ∧ ((grG u A B C (bY y n) m i o p).2.2 = false → resL u y n p ((c, hl, nI o), dg, true) = (none, (grG u A B C (bY y n) m i o p).2.1))
theorem numL_le {y : Nat → Int32} {n : Nat} : ∀ {d : Nat} {x : Int32} {p : Nat}, p ≤ n → (numL (bY y n) d x p).2 ≤ n := by
  intro d
  induction d with
  | zero => intro x p h; exact h
  | succ d ih =>
    intro x p h
    unfold numL
    cases e : isDg (bY y n p) with
    | false => rw [if_neg Bool.false_ne_true]; exact h
    | true => rw [if_pos rfl]; exact ih (bY_dg e).1
theorem nextOK_0 {b : Int32} {ops : List Int32} : nextOK 0 b ops := ⟨fun h => absurd h (by decide), fun h => absurd h (by decide), fun h => absurd h (by decide), fun h => absurd h (by decide), fun h => absurd h (by decide)⟩
/-- a number -/
theorem sim_num {u : Int32} {y : Nat → Int32} {n : Nat} {A B C : Int32} (hn : n ≤ 50) {o p : Nat} {c hl : List Int32} {dg : Int32} (pn : p ≤ n) (l : c.length + hl.length ≤ p) (h : isDg (bY y n p) = true) : simGood u y n A B C 0 o p c hl dg ((numL (bY y n) 4 0 p).1, (numL (bY y n) 4 0 p).2, true) := by
  obtain ⟨pl, eb⟩ := bY_dg h
  obtain ⟨w, hw, ew⟩ := dg_of h
  have e48 : nI (48 + w) - 48 = nI w := by
    have q : nI (48 + w) = nI w + 48 := by rw [Nat.add_comm]; exact (nI_add w 48).symm
    rw [q, Int32.add_sub_cancel]
  have e : numL (bY y n) 4 0 p = numL (bY y n) 3 (nI w) (p + 1) := by
    show (if isDg (bY y n p) then numL (bY y n) 3 (10 * 0 + bY y n p - 48) (p + 1) else _) = _
    rw [h, if_pos rfl, ew]
    have q : (10 : Int32) * 0 + nI (48 + w) - 48 = nI w := by
      rw [show (10 : Int32) * 0 = 0 by decide, Int32.zero_add, e48]
    rw [q]
  have st : rdS u (y p) (c, hl, nI o) dg true = some ((c ++ [nI w], hl, nI o), nI 1, false) := by
    unfold rdS
    rw [← eb, h, if_pos rfl, if_pos rfl, ew, e48]
    show some ((emL c (nI w), hl, nI o), (1 : Int32), false) = _
    rw [emL_ok (by omega)]
    rfl
  obtain ⟨k2, m2, h1, h2, h3, h4, h5, h6⟩ := num_sim (u := u) (y := y) (n := n) (c := c) (hl := hl) (o := nI o) 3 1 w (p + 1) rfl (Nat.le_refl 1) (by omega)
  have mono := numL_mono (bt := bY y n) (d := 3) (x := nI w) (p := p + 1)
  rw [e]
  refine ⟨[nI m2], [], 0, nI k2, ?_, fun x hx => absurd hx List.not_mem_nil, ?_, ?_, ?_, nextOK_0, numL_le pl⟩
  · rw [resL_go pl st]
    exact h6
  · rw [h4]
    exact push_num h3
  · show p + 1 + 0 + 0 ≤ (numL (bY y n) 3 (nI w) (p + 1)).2
    omega
  · rcases h5 with z | z
    · subst z; exact Or.inr (Or.inr rfl)
    · exact Or.inl z
end
section
/-! ===== both readings: names, and what is refused ===== -/
theorem resL_wants {u : Int32} {y : Nat → Int32} {n : Nat} {q : rdT} {dg : Int32} : resL u y n n (q, dg, true) = (none, n) := by
  rw [resL_end]
  have e : rdW (q, dg, true) = none := by
    unfold rdW
    exact if_pos rfl
  rw [e]
theorem nmC_ne {u : Int32} {i : Nat} : ¬ (-1 : Int32) = nmC u i := by
  intro e
  unfold nmC at e
  split at e
  · split at e
    · exact absurd e (by decide)
    split at e
    · exact absurd e (by decide)
    · exact absurd e (by decide)
  · split at e
    · exact absurd e (by decide)
    split at e
    · exact absurd e (by decide)
    · exact absurd e (by decide)
theorem bY_ne {y : Nat → Int32} {n p : Nat} (h : ¬ bY y n p = -1) : p < n ∧ bY y n p = y p := by
  unfold bY at h ⊢
  by_cases c : p < n
  · exact ⟨c, if_pos c⟩
  · rw [if_neg c] at h
    exact absurd rfl h
/-- a name's word laid -/
theorem sim_word {u : Int32} {y : Nat → Int32} {n : Nat} {A B C : Int32} (hn : n ≤ 50) {o p : Nat} {c hl : List Int32} {dg : Int32} (l : c.length + hl.length ≤ p) (pn : p < n) (w v : Int32) (st : rdS u (y p) (c, hl, nI o) dg true = some ((emL c w, hl, nI o), 0, false)) (pu : pushes A B C [w] v) : simGood u y n A B C 0 o p c hl dg (v, p + 1, true) := by
  rw [emL_ok (show c.length < 50 by omega)] at st
  refine ⟨[w], [], 0, 0, ?_, fun x hx => absurd hx List.not_mem_nil, pu, ?_, Or.inr (Or.inl rfl), nextOK_0, pn⟩
  · rw [resL_go pn st]
    rfl
  · show p + 1 + 0 + 0 ≤ p + 1
    omega
theorem sim_named {u : Int32} {y : Nat → Int32} {n : Nat} {A B C : Int32} (hn : n ≤ 50) {o p : Nat} {c hl : List Int32} {dg : Int32} (pn : p ≤ n) (l : c.length + hl.length ≤ p) (h : isDg (bY y n p) = false) (h1 : ¬ (bY y n p = 33 ∨ bY y n p = 40)) : ((nmG u A B C (bY y n p) p).2.2 = true → simGood u y n A B C 0 o p c hl dg (nmG u A B C (bY y n p) p)) ∧ ((nmG u A B C (bY y n p) p).2.2 = false → resL u y n p ((c, hl, nI o), dg, true) = (none, (nmG u A B C (bY y n p) p).2.1)) := by
  by_cases m1 : bY y n p = -1
  · have e : nmG u A B C (bY y n p) p = (0, p, false) := by
      rw [m1]
      exact (if_neg nmC_ne).trans ((if_neg nmC_ne).trans (if_neg nmC_ne))
    rw [e]
    refine ⟨fun z => absurd z Bool.false_ne_true, fun _ => ?_⟩
    by_cases pl : p < n
    · have eb : bY y n p = y p := if_pos pl
      have st : rdS u (y p) (c, hl, nI o) dg true = none := by
        unfold rdS
        rw [← eb, h, if_neg Bool.false_ne_true, if_pos rfl, m1, if_neg nmC_ne, if_neg nmC_ne, if_neg nmC_ne, if_neg (by decide)]
      exact resL_no pl st
    · have en : p = n := by omega
      subst en
      exact resL_wants
  · obtain ⟨pl, eb⟩ := bY_ne m1
    have st0 : rdS u (y p) (c, hl, nI o) dg true = if bY y n p = nmC u 0 then some ((emL c 10000, hl, nI o), 0, false) else if bY y n p = nmC u 1 then some ((emL c 10001, hl, nI o), 0, false) else if bY y n p = nmC u 2 then some ((emL c 10002, hl, nI o), 0, false) else none := by
      unfold rdS
      rw [← eb, h, if_neg Bool.false_ne_true, if_pos rfl, if_neg h1]
    by_cases c0 : bY y n p = nmC u 0
    · have e : nmG u A B C (bY y n p) p = (A, p + 1, true) := if_pos c0
      rw [e]
      rw [if_pos c0] at st0
      exact ⟨fun _ => sim_word hn l pl _ _ st0 push_a, fun z => absurd (show true = false from z) (by decide)⟩
    rw [if_neg c0] at st0
    by_cases c1 : bY y n p = nmC u 1
    · have e : nmG u A B C (bY y n p) p = (B, p + 1, true) := (if_neg c0).trans (if_pos c1)
      rw [e]
      rw [if_pos c1] at st0
      exact ⟨fun _ => sim_word hn l pl _ _ st0 push_b, fun z => absurd (show true = false from z) (by decide)⟩
    rw [if_neg c1] at st0
    by_cases c2 : bY y n p = nmC u 2
    · have e : nmG u A B C (bY y n p) p = (C, p + 1, true) := (if_neg c0).trans ((if_neg c1).trans (if_pos c2))
      rw [e]
      rw [if_pos c2] at st0
      exact ⟨fun _ => sim_word hn l pl _ _ st0 push_c, fun z => absurd (show true = false from z) (by decide)⟩
    · have e : nmG u A B C (bY y n p) p = (0, p, false) := (if_neg c0).trans ((if_neg c1).trans (if_neg c2))
      rw [e]
      rw [if_neg c2] at st0
      exact ⟨fun z => absurd z Bool.false_ne_true, fun _ => resL_no pl st0⟩
end
section
/-! ===== both readings: a ! ===== -/
theorem rkV_le (x : Int32) : rkV x ≤ 5 := by
  unfold rkV
  repeat' split
  all_goals decide
theorem ops_nil {ops : List Int32} (h : ∀ x, x ∈ ops → nI 6 ≤ rkV x) : ops = [] := by
  cases ops with
  | nil => rfl
  | cons x r =>
    have a := h x List.mem_cons_self
    have b := rkV_le x
    rw [xle] at a b
    have c : (nI 6).toInt = 6 := by decide
    have d : (5 : Int32).toInt = 5 := by decide
    omega
theorem open_st {u : Int32} {y : Nat → Int32} {n : Nat} {o p : Nat} {c hl : List Int32} {dg b : Int32} (l : hl.length < 50) (ho : o < 5) (hb : b = 33 ∨ b = 40) (eb : y p = b) : rdS u (y p) (c, hl, nI o) dg true = some ((c, b :: hl, nI (o + 1)), 0, true) := by
  have nd : isDg b = false := by rcases hb with z | z <;> subst z <;> decide
  have nn : ∀ i, ¬ b = nmC u i := by
    intro i e
    unfold nmC at e
    rcases hb with z | z
    all_goals subst z
    all_goals split at e
    all_goals split at e
    all_goals first
      | exact absurd e (by decide)
      | (split at e
         all_goals exact absurd e (by decide))
  have n5 : ¬ nI o = 5 := fun z => by
    have q := congrArg Int32.toInt z
    rw [nI_toInt (by omega), show (5 : Int32).toInt = 5 by decide] at q
    omega
  unfold rdS
  rw [eb, nd, if_neg Bool.false_ne_true, if_pos rfl, if_neg (nn 0), if_neg (nn 1), if_neg (nn 2), if_pos hb, if_neg n5]
  show some ((c, hoL hl b, nI o + 1), (0 : Int32), true) = _
  rw [hoL_ok l, nI_1]
theorem sim_bang {u : Int32} {y : Nat → Int32} {n : Nat} {A B C : Int32} (hn : n ≤ 50) {m o p : Nat} {c hl : List Int32} {dg : Int32} (l : c.length + hl.length ≤ p) (pn : p < n) (eb : y p = 33) (ho : o < 5) (S : simT u y n A B C m 0 (o + 1)) : ((grG u A B C (bY y n) m 0 (o + 1) (p + 1)).2.2 = true → simGood u y n A B C 0 o p c hl dg (if (grG u A B C (bY y n) m 0 (o + 1) (p + 1)).1 = 0 then 1 else 0, (grG u A B C (bY y n) m 0 (o + 1) (p + 1)).2)) ∧ ((grG u A B C (bY y n) m 0 (o + 1) (p + 1)).2.2 = false → resL u y n p ((c, hl, nI o), dg, true) = (none, (grG u A B C (bY y n) m 0 (o + 1) (p + 1)).2.1)) := by
  have st := open_st (u := u) (y := y) (n := n) (c := c) (dg := dg) (show hl.length < 50 by omega) ho (Or.inl rfl) eb
  have X := S (p + 1) c (33 :: hl) 0 (by omega) (by show c.length + (hl.length + 1) ≤ p + 1; omega) (Or.inl rfl)
  obtain ⟨r, er⟩ : ∃ r, r = grG u A B C (bY y n) m 0 (o + 1) (p + 1) := ⟨_, rfl⟩
  rw [← er] at X ⊢
  refine ⟨fun g => ?_, fun g => ?_⟩
  · obtain ⟨c0, ops, k, d, e1, e2, e3, e4, e5, e6, e7⟩ := X.1 g
    have e0 := ops_nil e2
    subst e0
    refine ⟨c0, [], k + 1, d, ?_, fun x hx => absurd hx List.not_mem_nil, ?_, ?_, e5, nextOK_0, e7⟩
    · rw [resL_go pn st, e1]
      have q : List.replicate k (33 : Int32) ++ ([] ++ 33 :: hl) = List.replicate (k + 1) 33 ++ ([] ++ hl) := by
        rw [List.replicate_succ']
        simp
      rw [q, show o + 1 + k = o + (k + 1) by omega]
    · have p := push_not e3
      have q : c0 ++ List.replicate k (20033 : Int32) ++ [].map (fun x : Int32 => 20000 + x) ++ [20033] = c0 ++ List.replicate (k + 1) 20033 ++ [].map (fun x : Int32 => 20000 + x) := by
        rw [List.replicate_succ']
        simp
      rw [q] at p
      exact p
    · have e4 : p + 1 + c0.length + k + 0 ≤ r.2.1 := e4
      show p + c0.length + (k + 1) + 0 ≤ r.2.1
      omega
  · rw [resL_go pn st]
    exact X.2 g
end
section
/-! ===== both readings: the next byte behind a whole ===== -/
/-- a bracket or nothing is held below -/
def flr (hl : List Int32) : Prop := hl = [] ∨ ∃ r, hl = 40 :: r
theorem flr.top {hl : List Int32} (h : flr hl) (k : Int32) (hk : 0 < k) : topB k hl := by
  rcases h with e | ⟨r, e⟩
  · subst e; trivial
  · subst e
    exact ⟨by decide, by rw [show rkV 40 = 0 by decide]; exact hk⟩
theorem top_ops {k : Int32} {ops hl : List Int32} (h : ∀ x, x ∈ ops → 1 ≤ rkV x) (b : topB k hl) : ∀ (c : List Int32) (o : Int32), cnL c (ops ++ hl) o = (c, ops ++ hl, o) := by
  intro c o
  cases ops with
  | nil => exact cnL_stop b
  | cons x r =>
    refine if_neg (fun e => ?_)
    have q := h x List.mem_cons_self
    rw [e] at q
    exact absurd q (by decide)
/-- closing all that is held above a floor -/
theorem close_all {c c0 ops hl : List Int32} {k : Nat} {o : Int32} (h : ∀ x, x ∈ ops → 1 ≤ rkV x) (f : flr hl) (l : (c ++ c0).length + k + ops.length ≤ 50) : (cnL (c ++ c0) (List.replicate k 33 ++ (ops ++ hl)) o) = (c ++ c0 ++ List.replicate k 20033, ops ++ hl, o - nI k) ∧ rlL 1 (c ++ c0 ++ List.replicate k 20033) (o - nI k) (ops ++ hl) = (c ++ c0 ++ List.replicate k 20033 ++ ops.map (fun x => 20000 + x), hl, o - nI k) := by
  refine ⟨?_, ?_⟩
  · rw [cnL_bang k _ _ (by omega), top_ops h (f.top 1 (by decide))]
  · exact rlL_all h (by rw [List.length_append, List.length_replicate]; omega) (f.top 1 (by decide))
end
section
/-! ===== both readings: one more byte behind a level ===== -/
theorem lowCmp.app {ops : List Int32} (h : lowCmp ops) (m : List Int32) : lowCmp (ops ++ m) := by
  obtain ⟨a, x, b, e, h1, h2⟩ := h
  exact ⟨a, x, b ++ m, by rw [e, List.append_assoc, List.cons_append], h1, h2⟩
theorem nI_sub (a k : Nat) : nI (a + k) - nI k = nI a := by rw [← nI_add, Int32.add_sub_cancel]
theorem topB.up {i : Nat} {hl : List Int32} (hi : i ≤ 4) (h : topB (nI (5 - i)) hl) : topB (nI (6 - i)) hl := by
  cases hl with
  | nil => trivial
  | cons x r =>
    refine ⟨h.1, ?_⟩
    have q := h.2
    rw [xlt, nI_toInt (by omega)] at q ⊢
    omega
theorem rk_dn {i : Nat} {x : Int32} (hi : i ≤ 4) (h : nI (6 - i) ≤ rkV x) : nI (5 - i) ≤ rkV x := by
  rw [xle, nI_toInt (by omega)] at h ⊢
  omega
theorem rk_1 {k : Nat} {x : Int32} (hk : 1 ≤ k) (h2 : k ≤ 6) (h : nI k ≤ rkV x) : 1 ≤ rkV x := by
  rw [xle, nI_toInt (by omega)] at h
  rw [xle, show (1 : Int32).toInt = 1 by decide]
  omega
theorem rdS_no41 {u b dg : Int32} {q : rdT} {c' : List Int32} {o' : Int32} (nd : isDg b = false) (hb : b = 41) (e : rlL 1 (cnL q.1 q.2.1 q.2.2).1 (cnL q.1 q.2.1 q.2.2).2.2 (cnL q.1 q.2.1 q.2.2).2.1 = (c', [], o')) : rdS u b q dg false = none := by
  unfold rdS
  rw [nd, if_neg Bool.false_ne_true, if_neg Bool.false_ne_true, if_pos hb, e] <;> rfl
theorem rdS_yes41 {u b dg x : Int32} {q : rdT} {c' r : List Int32} {o' : Int32} (nd : isDg b = false) (hb : b = 41) (e : rlL 1 (cnL q.1 q.2.1 q.2.2).1 (cnL q.1 q.2.1 q.2.2).2.2 (cnL q.1 q.2.1 q.2.2).2.1 = (c', x :: r, o')) : rdS u b q dg false = some ((c', r, o' - 1), 0, false) := by
  unfold rdS
  rw [nd, if_neg Bool.false_ne_true, if_neg Bool.false_ne_true, if_pos hb, e] <;> rfl
theorem rdS_low {u b dg : Int32} {q : rdT} (nd : isDg b = false) (hb : ¬ b = 41) (hr : rkV b < 1) : rdS u b q dg false = none := by
  unfold rdS
  rw [nd, if_neg Bool.false_ne_true, if_neg Bool.false_ne_true, if_neg hb, if_pos hr]
theorem rdS_cmpNo {u b dg x : Int32} {q : rdT} {c' r : List Int32} {o' : Int32} (nd : isDg b = false) (hb : ¬ b = 41) (hr : rkV b = 3) (e : rlL 4 (cnL q.1 q.2.1 q.2.2).1 (cnL q.1 q.2.1 q.2.2).2.2 (cnL q.1 q.2.1 q.2.2).2.1 = (c', x :: r, o')) (hx : rkV x = 3) : rdS u b q dg false = none := by
  unfold rdS
  rw [nd, if_neg Bool.false_ne_true, if_neg Bool.false_ne_true, if_neg hb, if_neg (by rw [hr]; decide), if_pos hr, e]
  exact if_pos hx
theorem rdS_cmp {u b dg : Int32} {q : rdT} {c' hl' : List Int32} {o' : Int32} (nd : isDg b = false) (hb : ¬ b = 41) (hr : rkV b = 3) (e : rlL 4 (cnL q.1 q.2.1 q.2.2).1 (cnL q.1 q.2.1 q.2.2).2.2 (cnL q.1 q.2.1 q.2.2).2.1 = (c', hl', o')) (tb : topB 3 hl') (l : hl'.length < 50) : rdS u b q dg false = some ((c', b :: hl', o'), 0, true) := by
  unfold rdS
  rw [nd, if_neg Bool.false_ne_true, if_neg Bool.false_ne_true, if_neg hb, if_neg (by rw [hr]; decide), if_pos hr, e]
  cases hl' with
  | nil =>
    show some ((c', hoL [] b, o'), (0 : Int32), true) = _
    rw [hoL_ok l]
  | cons x r =>
    show (if rkV x = 3 then none else some ((c', hoL (x :: r) b, o'), (0 : Int32), true)) = _
    rw [if_neg (fun z => by have q := tb.2; rw [z] at q; exact absurd q (by decide)), hoL_ok l]
theorem rdS_op {u b dg k : Int32} {q : rdT} {c' hl' : List Int32} {o' : Int32} (nd : isDg b = false) (hb : ¬ b = 41) (hr : ¬ rkV b < 1) (hr3 : ¬ rkV b = 3) (hk : rkV b = k) (e : rlL k (cnL q.1 q.2.1 q.2.2).1 (cnL q.1 q.2.1 q.2.2).2.2 (cnL q.1 q.2.1 q.2.2).2.1 = (c', hl', o')) (l : hl'.length < 50) : rdS u b q dg false = some ((c', b :: hl', o'), 0, true) := by
  unfold rdS
  rw [nd, if_neg Bool.false_ne_true, if_neg Bool.false_ne_true, if_neg hb, if_neg hr, if_neg hr3, hk, e]
  show some ((c', hoL hl' b, o'), (0 : Int32), true) = _
  rw [hoL_ok l]
theorem rk_cases (b : Int32) : rkV b < 1 ∨ opMul b = true ∨ opAdd b = true ∨ opAnd b = true ∨ opOr b = true ∨ (opCmp b = true ∧ rkV b = 3) := by
  by_cases h0 : b = 37
  · subst h0; exact Or.inr (Or.inl (by decide))
  by_cases h1 : b = 38
  · subst h1; exact Or.inr (Or.inr (Or.inr (Or.inl (by decide))))
  by_cases h2 : b = 42
  · subst h2; exact Or.inr (Or.inl (by decide))
  by_cases h3 : b = 43
  · subst h3; exact Or.inr (Or.inr (Or.inl (by decide)))
  by_cases h4 : b = 45
  · subst h4; exact Or.inr (Or.inr (Or.inl (by decide)))
  by_cases h5 : b = 47
  · subst h5; exact Or.inr (Or.inl (by decide))
  by_cases h6 : b = 60
  · subst h6; exact Or.inr (Or.inr (Or.inr (Or.inr (Or.inr ⟨by decide, by decide⟩))))
  by_cases h7 : b = 61
  · subst h7; exact Or.inr (Or.inr (Or.inr (Or.inr (Or.inr ⟨by decide, by decide⟩))))
  by_cases h8 : b = 62
  · subst h8; exact Or.inr (Or.inr (Or.inr (Or.inr (Or.inr ⟨by decide, by decide⟩))))
  by_cases h9 : b = 124
  · subst h9; exact Or.inr (Or.inr (Or.inr (Or.inr (Or.inl (by decide)))))
  refine Or.inl ?_
  unfold rkV
  rw [if_neg h0, if_neg h1, if_neg h2, if_neg h3, if_neg h4, if_neg h5, if_neg h6, if_neg h7, if_neg h8, if_neg h9]
  decide
/-- behind a whole the next byte is refused -/
theorem sim_refuse {u : Int32} {y : Nat → Int32} {n : Nat} {A B C : Int32} (hn : n ≤ 50) {o p : Nat} {c hl : List Int32} {dg : Int32} {r : gVal} (f : flr hl) (l : c.length + hl.length ≤ p) (S : simGood u y n A B C 5 o p c hl dg r) (nb : ¬ bY y n r.2.1 = 41 ∨ hl = []) (nf : r.2.1 < n ∨ ∃ z, hl = 40 :: z) : resL u y n p ((c, hl, nI o), dg, true) = (none, r.2.1) := by
  obtain ⟨c0, ops, k, d, e1, e2, e3, e4, e5, e6, e7⟩ := S
  have h1 : ∀ x, x ∈ ops → 1 ≤ rkV x := fun x hx => rk_1 (k := 6 - 5) (by decide) (by decide) (e2 x hx)
  have C := close_all (c := c) (c0 := c0) (k := k) (o := nI (o + k)) h1 f (by rw [List.length_append]; omega)
  rw [e1]
  by_cases qn : r.2.1 < n
  · have eb : bY y n r.2.1 = y r.2.1 := if_pos qn
    refine resL_no qn ?_
    show rdS u (y r.2.1) (c ++ c0, List.replicate k 33 ++ (ops ++ hl), nI (o + k)) d false = none
    rw [← eb]
    obtain ⟨b, hb⟩ : ∃ b, b = bY y n r.2.1 := ⟨_, rfl⟩
    rw [← hb] at e5 e6 nb ⊢
    cases dgt : isDg b with
    | true =>
      have e5 : d = 0 ∨ d = 4 := by
        rcases e5 with z | z
        · rw [dgt] at z; exact absurd z (by decide)
        · exact z
      unfold rdS
      rw [dgt, if_pos rfl, if_neg Bool.false_ne_true]
      rcases e5 with z | z
      · rw [if_pos z]
      · rw [if_neg (by rw [z]; decide), if_pos z]
    | false =>
      by_cases b41 : b = 41
      · have hz : hl = [] := nb.resolve_left (fun z => z b41)
        subst hz
        refine rdS_no41 dgt b41 (c' := c ++ c0 ++ List.replicate k 20033 ++ ops.map (fun x => 20000 + x)) (o' := nI (o + k) - nI k) ?_
        show rlL 1 (cnL (c ++ c0) (List.replicate k 33 ++ (ops ++ [])) (nI (o + k))).1 (cnL (c ++ c0) (List.replicate k 33 ++ (ops ++ [])) (nI (o + k))).2.2 (cnL (c ++ c0) (List.replicate k 33 ++ (ops ++ [])) (nI (o + k))).2.1 = _
        rw [C.1]
        exact C.2
      · rcases rk_cases b with z | z | z | z | z | z
        · exact rdS_low dgt b41 z
        · rw [e6.1 (by decide)] at z; exact absurd z (by decide)
        · rw [e6.2.1 (by decide)] at z; exact absurd z (by decide)
        · rw [e6.2.2.2.1 (by decide)] at z; exact absurd z (by decide)
        · rw [e6.2.2.2.2 (by decide)] at z; exact absurd z (by decide)
        · obtain ⟨a, x, m, ea, ha, hx⟩ := e6.2.2.1 (by decide) z.1
          refine rdS_cmpNo dgt b41 z.2 (c' := c ++ c0 ++ List.replicate k 20033 ++ a.map (fun x => 20000 + x)) (x := x) (r := m ++ hl) (o' := nI (o + k) - nI k) ?_ hx
          show rlL 4 (cnL (c ++ c0) (List.replicate k 33 ++ (ops ++ hl)) (nI (o + k))).1 (cnL (c ++ c0) (List.replicate k 33 ++ (ops ++ hl)) (nI (o + k))).2.2 (cnL (c ++ c0) (List.replicate k 33 ++ (ops ++ hl)) (nI (o + k))).2.1 = _
          rw [C.1]
          show rlL 4 (c ++ c0 ++ List.replicate k 20033) (nI (o + k) - nI k) (ops ++ hl) = _
          have ea2 : ops ++ hl = a ++ x :: (m ++ hl) := by rw [ea, List.append_assoc a]; rfl
          rw [ea2]
          rw [ea, List.length_append] at e4
          refine rlL_all ha ?_ ⟨fun z => ?_, ?_⟩
          · rw [List.length_append, List.length_append, List.length_replicate]; omega
          · rw [z] at hx; exact absurd hx (by decide)
          · rw [hx]; decide
  · have en : r.2.1 = n := by omega
    obtain ⟨z, hz⟩ := nf.resolve_left qn
    rw [en, resL_end]
    have ew : rdW ((c ++ c0, List.replicate k 33 ++ (ops ++ hl), nI (o + k)), d, false) = none := by
      unfold rdW
      rw [if_neg Bool.false_ne_true]
      show rdE (rlL 1 (cnL (c ++ c0) (List.replicate k 33 ++ (ops ++ hl)) (nI (o + k))).1 (cnL (c ++ c0) (List.replicate k 33 ++ (ops ++ hl)) (nI (o + k))).2.2 (cnL (c ++ c0) (List.replicate k 33 ++ (ops ++ hl)) (nI (o + k))).2.1) = none
      rw [C.1]
      show rdE (rlL 1 (c ++ c0 ++ List.replicate k 20033) (nI (o + k) - nI k) (ops ++ hl)) = none
      rw [C.2, hz]
      rfl
    rw [ew]
/-- the ) of a whole -/
theorem sim_shut {u : Int32} {y : Nat → Int32} {n : Nat} {A B C : Int32} (hn : n ≤ 50) {o p : Nat} {c hl : List Int32} {dg : Int32} {r : gVal} (l : c.length + (hl.length + 1) ≤ p) (S : simGood u y n A B C 5 (o + 1) p c (40 :: hl) dg r) (hb : bY y n r.2.1 = 41) : r.2.1 < n ∧ ∃ cc, resL u y n p ((c, 40 :: hl, nI (o + 1)), dg, true) = resL u y n (r.2.1 + 1) ((c ++ cc, hl, nI o), 0, false) ∧ pushes A B C cc r.1 ∧ p + cc.length ≤ r.2.1 := by
  obtain ⟨c0, ops, k, d, e1, e2, e3, e4, e5, e6, e7⟩ := S
  have h1 : ∀ x, x ∈ ops → 1 ≤ rkV x := fun x hx => rk_1 (k := 6 - 5) (by decide) (by decide) (e2 x hx)
  have C := close_all (c := c) (c0 := c0) (k := k) (o := nI (o + 1 + k)) (hl := 40 :: hl) h1 (Or.inr ⟨hl, rfl⟩) (by rw [List.length_append]; omega)
  obtain ⟨qn, eb⟩ := bY_ne (show ¬ bY y n r.2.1 = -1 by rw [hb]; decide)
  refine ⟨qn, c0 ++ List.replicate k 20033 ++ ops.map (fun x => 20000 + x), ?_, e3, ?_⟩
  · rw [e1]
    have st : rdS u (y r.2.1) (c ++ c0, List.replicate k 33 ++ (ops ++ 40 :: hl), nI (o + 1 + k)) d false = some ((c ++ (c0 ++ List.replicate k 20033 ++ ops.map (fun x => 20000 + x)), hl, nI o), 0, false) := by
      rw [← eb]
      have q := rdS_yes41 (u := u) (b := bY y n r.2.1) (dg := d) (q := (c ++ c0, List.replicate k 33 ++ (ops ++ 40 :: hl), nI (o + 1 + k))) (x := 40) (c' := c ++ c0 ++ List.replicate k 20033 ++ ops.map (fun x => 20000 + x)) (r := hl) (o' := nI (o + 1 + k) - nI k) (by rw [hb]; decide) hb (by
        show rlL 1 (cnL (c ++ c0) (List.replicate k 33 ++ (ops ++ 40 :: hl)) (nI (o + 1 + k))).1 (cnL (c ++ c0) (List.replicate k 33 ++ (ops ++ 40 :: hl)) (nI (o + 1 + k))).2.2 (cnL (c ++ c0) (List.replicate k 33 ++ (ops ++ 40 :: hl)) (nI (o + 1 + k))).2.1 = _
        rw [C.1]
        exact C.2)
      rw [q, nI_sub, nI_pred, List.append_assoc c c0, List.append_assoc c]
    exact resL_go qn st
  · rw [List.length_append, List.length_append, List.length_replicate, List.length_map]
    omega
/-- nothing behind a whole -/
theorem sim_end {u : Int32} {y : Nat → Int32} {n : Nat} {A B C : Int32} (hn : n ≤ 50) {o p : Nat} {c : List Int32} {dg : Int32} {r : gVal} (l : c.length ≤ p) (S : simGood u y n A B C 5 o p c [] dg r) (hr : r.2.1 = n) : ∃ cc, resL u y n p ((c, [], nI o), dg, true) = (some (c ++ cc), n) ∧ pushes A B C cc r.1 ∧ p + cc.length ≤ n := by
  obtain ⟨c0, ops, k, d, e1, e2, e3, e4, e5, e6, e7⟩ := S
  have h1 : ∀ x, x ∈ ops → 1 ≤ rkV x := fun x hx => rk_1 (k := 6 - 5) (by decide) (by decide) (e2 x hx)
  have C := close_all (c := c) (c0 := c0) (k := k) (o := nI (o + k)) (hl := []) h1 (Or.inl rfl) (by rw [List.length_append]; omega)
  refine ⟨c0 ++ List.replicate k 20033 ++ ops.map (fun x => 20000 + x), ?_, e3, ?_⟩
  · rw [e1, hr, resL_end]
    have ew : rdW ((c ++ c0, List.replicate k 33 ++ (ops ++ []), nI (o + k)), d, false) = some (c ++ (c0 ++ List.replicate k 20033 ++ ops.map (fun x => 20000 + x))) := by
      unfold rdW
      rw [if_neg Bool.false_ne_true]
      show rdE (rlL 1 (cnL (c ++ c0) (List.replicate k 33 ++ (ops ++ [])) (nI (o + k))).1 (cnL (c ++ c0) (List.replicate k 33 ++ (ops ++ [])) (nI (o + k))).2.2 (cnL (c ++ c0) (List.replicate k 33 ++ (ops ++ [])) (nI (o + k))).2.1) = _
      rw [C.1]
      show rdE (rlL 1 (c ++ c0 ++ List.replicate k 20033) (nI (o + k) - nI k) (ops ++ [])) = _
      rw [C.2]
      show some (c ++ c0 ++ List.replicate k 20033 ++ ops.map (fun x => 20000 + x)) = _
      rw [List.append_assoc c c0, List.append_assoc c]
    rw [ew]
  · rw [List.length_append, List.length_append, List.length_replicate, List.length_map]
    omega
end
section
/-! ===== both readings: the loops of a level ===== -/
def simX (P : List Int32 → Prop) (u : Int32) (y : Nat → Int32) (n : Nat) (A B C : Int32) (i o p : Nat) (c hl : List Int32) (dg : Int32) (r : gVal) : Prop := ∃ (c0 ops : List Int32) (k : Nat) (d : Int32), resL u y n p ((c, hl, nI o), dg, true) = resL u y n r.2.1 ((c ++ c0, List.replicate k 33 ++ (ops ++ hl), nI (o + k)), d, false) ∧ P ops ∧ pushes A B C (c0 ++ List.replicate k 20033 ++ ops.map (fun x => 20000 + x)) r.1 ∧ p + c0.length + k + ops.length ≤ r.2.1 ∧ (isDg (bY y n r.2.1) = false ∨ d = 0 ∨ d = 4) ∧ nextOK i (bY y n r.2.1) ops ∧ r.2.1 ≤ n
def rkA (k : Nat) (ops : List Int32) : Prop := ∀ x, x ∈ ops → nI k ≤ rkV x
theorem simX.mono {P Q : List Int32 → Prop} {u : Int32} {y : Nat → Int32} {n : Nat} {A B C : Int32} {i j o p : Nat} {c hl : List Int32} {dg : Int32} {r : gVal} (S : simX P u y n A B C i o p c hl dg r) (h : ∀ ops, P ops → Q ops) (g : ∀ ops, P ops → nextOK i (bY y n r.2.1) ops → nextOK j (bY y n r.2.1) ops) : simX Q u y n A B C j o p c hl dg r := by
  obtain ⟨c0, ops, k, d, e1, e2, e3, e4, e5, e6, e7⟩ := S
  exact ⟨c0, ops, k, d, e1, h ops e2, e3, e4, e5, g ops e2 e6, e7⟩
theorem simX.le {P : List Int32 → Prop} {u : Int32} {y : Nat → Int32} {n : Nat} {A B C : Int32} {i o p : Nat} {c hl : List Int32} {dg : Int32} {r : gVal} (S : simX P u y n A B C i o p c hl dg r) : r.2.1 ≤ n := by
  obtain ⟨c0, ops, k, d, e1, e2, e3, e4, e5, e6, e7⟩ := S
  exact e7
/-- a sign of the level above i: how the class takes it (releasing ranks from k on) -/
def opStep (i k : Nat) (b : Int32) : Prop := (¬ b = 33 ∧ rkV b = nI (5 - i)) ∧ (¬ 20000 + b < 10000 ∧ ¬ 20000 + b < 20000 ∧ ¬ 20000 + b = 20033 ∧ 20000 + b - 20000 = b) ∧ ∀ (u : Int32) (q : rdT) (dg : Int32) (c' hl' : List Int32) (o' : Int32), rlL (nI k) (cnL q.1 q.2.1 q.2.2).1 (cnL q.1 q.2.1 q.2.2).2.2 (cnL q.1 q.2.1 q.2.2).2.1 = (c', hl', o') → topB (nI (5 - i)) hl' → hl'.length < 50 → rdS u b q dg false = some ((c', b :: hl', o'), 0, true)
def opSpec (i k : Nat) (op : Int32 → Bool) (ap : Int32 → Int32 → Int32 → Int32) : Prop := op (-1) = false ∧ (∀ b ops, nextOK i b ops → op b = false → nextOK (i + 1) b ops) ∧ ∀ b, op b = true → opStep i k b ∧ ∀ v w, wk b v w = ap b v w
/-- one more side -/
theorem sim_iter {u : Int32} {y : Nat → Int32} {n : Nat} {A B C : Int32} (hn : n ≤ 50) {i k o m : Nat} (hi : i ≤ 4) (hk : 1 ≤ k ∧ k ≤ 5 ∧ 5 - i ≤ k) {op : Int32 → Bool} {ap : Int32 → Int32 → Int32 → Int32} (H : opSpec i k op ap) (S : simT u y n A B C m i o) {p : Nat} {c hl : List Int32} {dg : Int32} (l : c.length + hl.length ≤ p) (tb : topB (nI (5 - i)) hl) {P : List Int32 → Prop} (hP : ∀ ops, P ops → rkA k ops) {r : gVal} (M : simX P u y n A B C i o p c hl dg r) (hb : op (bY y n r.2.1) = true) : ((grG u A B C (bY y n) m i o (r.2.1 + 1)).2.2 = true → simX (fun ops => ∃ a b, ops = a ++ [b] ∧ rkA (6 - i) a ∧ rkV b = nI (5 - i)) u y n A B C i o p c hl dg (ap (bY y n r.2.1) r.1 (grG u A B C (bY y n) m i o (r.2.1 + 1)).1, (grG u A B C (bY y n) m i o (r.2.1 + 1)).2)) ∧ ((grG u A B C (bY y n) m i o (r.2.1 + 1)).2.2 = false → resL u y n p ((c, hl, nI o), dg, true) = (none, (grG u A B C (bY y n) m i o (r.2.1 + 1)).2.1)) := by
  obtain ⟨c0, ops, j, d, e1, e2, e3, e4, e5, e6, e7⟩ := M
  have e2 := hP ops e2
  have h1 : ∀ x, x ∈ ops → 1 ≤ rkV x := fun x hx => rk_1 hk.1 (by omega) (e2 x hx)
  obtain ⟨⟨⟨b33, rb⟩, ⟨x1, x2, x3, x4⟩, st⟩, wa⟩ := H.2.2 _ hb
  obtain ⟨qn, eb⟩ := bY_ne (show ¬ bY y n r.2.1 = -1 from fun z => by rw [z, H.1] at hb; exact absurd hb (by decide))
  obtain ⟨b, eB⟩ : ∃ b, b = bY y n r.2.1 := ⟨_, rfl⟩
  rw [← eB] at b33 rb x1 x2 x3 x4 st wa hb eb ⊢
  have tk : topB (nI k) hl := by
    cases hl with
    | nil => trivial
    | cons x z =>
      refine ⟨tb.1, ?_⟩
      have q := tb.2
      rw [xlt, nI_toInt (by omega)] at q ⊢
      omega
  have cn : cnL (c ++ c0) (List.replicate j 33 ++ (ops ++ hl)) (nI (o + j)) = (c ++ c0 ++ List.replicate j 20033, ops ++ hl, nI o) := by
    rw [cnL_bang j _ _ (by rw [List.length_append]; omega), top_ops h1 tk, nI_sub]
  have rl : rlL (nI k) (c ++ c0 ++ List.replicate j 20033) (nI o) (ops ++ hl) = (c ++ c0 ++ List.replicate j 20033 ++ ops.map (fun x => 20000 + x), hl, nI o) := rlL_all e2 (by rw [List.length_append, List.length_append, List.length_replicate]; omega) tk
  have go : rdS u b (c ++ c0, List.replicate j 33 ++ (ops ++ hl), nI (o + j)) d false = some ((c ++ c0 ++ List.replicate j 20033 ++ ops.map (fun x => 20000 + x), b :: hl, nI o), 0, true) := by
    refine st u _ d _ _ _ ?_ tb (by omega)
    show rlL (nI k) (cnL (c ++ c0) (List.replicate j 33 ++ (ops ++ hl)) (nI (o + j))).1 (cnL (c ++ c0) (List.replicate j 33 ++ (ops ++ hl)) (nI (o + j))).2.2 (cnL (c ++ c0) (List.replicate j 33 ++ (ops ++ hl)) (nI (o + j))).2.1 = _
    rw [cn]
    exact rl
  have e0 := e1.trans (resL_go qn (s2 := ((c ++ c0 ++ List.replicate j 20033 ++ ops.map (fun x => 20000 + x), b :: hl, nI o), 0, true)) (by
    show rdS u (y r.2.1) (c ++ c0, List.replicate j 33 ++ (ops ++ hl), nI (o + j)) d false = _
    rw [← eb]
    exact go))
  have X := S (r.2.1 + 1) (c ++ c0 ++ List.replicate j 20033 ++ ops.map (fun x => 20000 + x)) (b :: hl) 0 (by omega) (by rw [List.length_append, List.length_append, List.length_append, List.length_replicate, List.length_map]; show c.length + c0.length + j + ops.length + (hl.length + 1) ≤ r.2.1 + 1; omega) (Or.inr ⟨b33, by rw [rb, nI_ltI (by omega) (by omega)]; omega⟩)
  obtain ⟨r2, er⟩ : ∃ r2, r2 = grG u A B C (bY y n) m i o (r.2.1 + 1) := ⟨_, rfl⟩
  rw [← er] at X ⊢
  refine ⟨fun g => ?_, fun g => e0.trans (X.2 g)⟩
  obtain ⟨c1, ops1, j1, d1, f1, f2, f3, f4, f5, f6, f7⟩ := X.1 g
  refine ⟨c0 ++ List.replicate j 20033 ++ ops.map (fun x => 20000 + x) ++ c1, ops1 ++ [b], j1, d1, ?_, ⟨ops1, b, rfl, f2, rb⟩, ?_, ?_, f5, ?_, f7⟩
  · rw [e0, f1]
    have q1 : c ++ c0 ++ List.replicate j 20033 ++ ops.map (fun x => 20000 + x) ++ c1 = c ++ (c0 ++ List.replicate j 20033 ++ ops.map (fun x => 20000 + x) ++ c1) := by simp only [List.append_assoc]
    have q2 : ops1 ++ b :: hl = ops1 ++ [b] ++ hl := by rw [List.append_assoc]; rfl
    rw [q1, q2]
  · have q := push_bin e3 f3 x1 x2 x3 x4
    rw [wa] at q
    have q1 : c0 ++ List.replicate j 20033 ++ ops.map (fun x => 20000 + x) ++ (c1 ++ List.replicate j1 20033 ++ ops1.map (fun x => 20000 + x)) ++ [20000 + b] = c0 ++ List.replicate j 20033 ++ ops.map (fun x => 20000 + x) ++ c1 ++ List.replicate j1 20033 ++ (ops1 ++ [b]).map (fun x => 20000 + x) := by
      rw [List.map_append]
      simp only [List.append_assoc, List.map_cons, List.map_nil]
    rw [q1] at q
    exact q
  · simp only [List.length_append, List.length_replicate, List.length_map, List.length_cons, List.length_nil]
    omega
  · exact ⟨f6.1, f6.2.1, fun z1 z2 => (f6.2.2.1 z1 z2).app [b], f6.2.2.2⟩
theorem rkA_last {i : Nat} (hi : i ≤ 4) (ops : List Int32) (h : ∃ a b, ops = a ++ [b] ∧ rkA (6 - i) a ∧ rkV b = nI (5 - i)) : rkA (5 - i) ops := by
  obtain ⟨a, b, e, h1, h2⟩ := h
  subst e
  intro x hx
  rcases List.mem_append.mp hx with z | z
  · exact rk_dn hi (h1 x z)
  · rw [List.mem_singleton] at z
    rw [z, h2]
    exact nI_le (Nat.le_refl _) (by omega)
theorem sim_lp {u : Int32} {y : Nat → Int32} {n : Nat} {A B C : Int32} (hn : n ≤ 50) {i o m : Nat} (hi : i ≤ 4) {op : Int32 → Bool} {ap : Int32 → Int32 → Int32 → Int32} (H : opSpec i (5 - i) op ap) (S : simT u y n A B C m i o) {p : Nat} {c hl : List Int32} {dg : Int32} (l : c.length + hl.length ≤ p) (tb : topB (nI (5 - i)) hl) : ∀ (f : Nat) (r : gVal), 50 ≤ f + r.2.1 → (r.2.2 = true → simX (rkA (5 - i)) u y n A B C i o p c hl dg r) → (r.2.2 = false → resL u y n p ((c, hl, nI o), dg, true) = (none, r.2.1)) → ((lpG op ap (bY y n) (grG u A B C (bY y n) m i o) f r).2.2 = true → simX (rkA (5 - i)) u y n A B C (i + 1) o p c hl dg (lpG op ap (bY y n) (grG u A B C (bY y n) m i o) f r)) ∧ ((lpG op ap (bY y n) (grG u A B C (bY y n) m i o) f r).2.2 = false → resL u y n p ((c, hl, nI o), dg, true) = (none, (lpG op ap (bY y n) (grG u A B C (bY y n) m i o) f r).2.1)) := by
  intro f
  induction f with
  | zero =>
    intro r h50 h1 h2
    refine ⟨fun g => ?_, fun g => h2 g⟩
    have M := h1 g
    have le := M.le
    refine M.mono (fun _ z => z) (fun ops _ z => H.2.1 _ _ z ?_)
    have e : bY y n r.2.1 = -1 := if_neg (by omega)
    rw [e]
    exact H.1
  | succ f ih =>
    intro r h50 h1 h2
    have e : lpG op ap (bY y n) (grG u A B C (bY y n) m i o) (f + 1) r = if r.2.2 && op (bY y n r.2.1) then lpG op ap (bY y n) (grG u A B C (bY y n) m i o) f (ap (bY y n r.2.1) r.1 (grG u A B C (bY y n) m i o (r.2.1 + 1)).1, (grG u A B C (bY y n) m i o (r.2.1 + 1)).2) else r := rfl
    cases g : r.2.2 with
    | false =>
      rw [g] at e
      have e : lpG op ap (bY y n) (grG u A B C (bY y n) m i o) (f + 1) r = r := e.trans (if_neg (by rw [Bool.false_and]; decide))
      rw [e]
      exact ⟨fun z => by rw [g] at z; exact absurd z (by decide), h2⟩
    | true =>
      rw [g, Bool.true_and] at e
      cases ob : op (bY y n r.2.1) with
      | false =>
        rw [ob] at e
        have e : lpG op ap (bY y n) (grG u A B C (bY y n) m i o) (f + 1) r = r := e.trans (if_neg (by decide))
        rw [e]
        exact ⟨fun z => (h1 z).mono (fun _ z => z) (fun ops _ z => H.2.1 _ _ z ob), h2⟩
      | true =>
        rw [ob, if_pos rfl] at e
        rw [e]
        have X := sim_iter hn hi (k := 5 - i) ⟨by omega, by omega, Nat.le_refl _⟩ H S l tb (fun _ z => z) (h1 g) ob
        have mo := grG_mono (u := u) (A := A) (B := B) (C := C) (bt := bY y n) m i o (r.2.1 + 1)
        refine ih _ ?_ (fun z => (X.1 z).mono (rkA_last hi) (fun _ _ z => z)) X.2
        show 50 ≤ f + (grG u A B C (bY y n) m i o (r.2.1 + 1)).2.1
        omega
theorem opMul_sp : opSpec 0 5 opMul apMul := by
  refine ⟨by decide, fun b ops h e => ⟨fun _ => e, fun h => absurd h (by decide), fun h => absurd h (by decide), fun h => absurd h (by decide), fun h => absurd h (by decide)⟩, fun b hb => ?_⟩
  have hb : b = 42 ∨ b = 47 ∨ b = 37 := by
    simp only [opMul, Bool.or_eq_true, beq_iff_eq] at hb
    exact or_assoc.mp hb
  rcases hb with e | e | e
  all_goals subst e
  all_goals exact ⟨⟨⟨by decide, by decide⟩, ⟨by decide, by decide, by decide, by decide⟩, fun u q dg c' hl' o' e t l => rdS_op (by decide) (by decide) (by decide) (by decide) (by decide) e l⟩, fun v w => rfl⟩
theorem opAdd_sp : opSpec 1 4 opAdd apAdd := by
  refine ⟨by decide, fun b ops h e => ⟨fun _ => h.1 (by decide), fun _ => e, fun h => absurd h (by decide), fun h => absurd h (by decide), fun h => absurd h (by decide)⟩, fun b hb => ?_⟩
  have hb : b = 43 ∨ b = 45 := by
    simp only [opAdd, Bool.or_eq_true, beq_iff_eq] at hb
    exact hb
  rcases hb with e | e
  all_goals subst e
  all_goals exact ⟨⟨⟨by decide, by decide⟩, ⟨by decide, by decide, by decide, by decide⟩, fun u q dg c' hl' o' e t l => rdS_op (by decide) (by decide) (by decide) (by decide) (by decide) e l⟩, fun v w => rfl⟩
theorem wk_60 (v w : Int32) : wk 60 v w = apCmp 60 v w := (show wk 60 v w = (if w ≤ v then 0 else 1) from (if_neg (by decide)).trans ((if_neg (by decide)).trans ((if_neg (by decide)).trans ((if_neg (by decide)).trans ((if_neg (by decide)).trans (if_pos rfl)))))).trans (show apCmp 60 v w = (if w ≤ v then 0 else 1) from if_pos rfl).symm
theorem wk_61 (v w : Int32) : wk 61 v w = apCmp 61 v w := (show wk 61 v w = (if v = w then 1 else 0) from (if_neg (by decide)).trans ((if_neg (by decide)).trans ((if_neg (by decide)).trans ((if_neg (by decide)).trans ((if_neg (by decide)).trans ((if_neg (by decide)).trans (if_pos rfl))))))).trans (show apCmp 61 v w = (if v = w then 1 else 0) from (if_neg (by decide)).trans (if_pos rfl)).symm
theorem wk_62 (v w : Int32) : wk 62 v w = apCmp 62 v w := (show wk 62 v w = (if v ≤ w then 0 else 1) from (if_neg (by decide)).trans ((if_neg (by decide)).trans ((if_neg (by decide)).trans ((if_neg (by decide)).trans ((if_neg (by decide)).trans ((if_neg (by decide)).trans ((if_neg (by decide)).trans (if_pos rfl)))))))).trans (show apCmp 62 v w = (if v ≤ w then 0 else 1) from (if_neg (by decide)).trans (if_neg (by decide))).symm
theorem opCmp_sp : opSpec 2 4 opCmp apCmp := by
  refine ⟨by decide, fun b ops h e => ⟨fun _ => h.1 (by decide), fun _ => h.2.1 (by decide), fun _ z => absurd z (by rw [e]; decide), fun h => absurd h (by decide), fun h => absurd h (by decide)⟩, fun b hb => ?_⟩
  have hb : b = 60 ∨ b = 61 ∨ b = 62 := by
    simp only [opCmp, Bool.or_eq_true, beq_iff_eq] at hb
    exact or_assoc.mp hb
  rcases hb with e | e | e
  all_goals subst e
  · exact ⟨⟨⟨by decide, by decide⟩, ⟨by decide, by decide, by decide, by decide⟩, fun u q dg c' hl' o' e t l => rdS_cmp (by decide) (by decide) (by decide) e t l⟩, wk_60⟩
  · exact ⟨⟨⟨by decide, by decide⟩, ⟨by decide, by decide, by decide, by decide⟩, fun u q dg c' hl' o' e t l => rdS_cmp (by decide) (by decide) (by decide) e t l⟩, wk_61⟩
  · exact ⟨⟨⟨by decide, by decide⟩, ⟨by decide, by decide, by decide, by decide⟩, fun u q dg c' hl' o' e t l => rdS_cmp (by decide) (by decide) (by decide) e t l⟩, wk_62⟩
theorem opAnd_sp : opSpec 3 2 opAnd apAnd := by
  refine ⟨by decide, fun b ops h e => ⟨fun _ => h.1 (by decide), fun _ => h.2.1 (by decide), fun _ => h.2.2.1 (by decide), fun _ => e, fun h => absurd h (by decide)⟩, fun b hb => ?_⟩
  have hb : b = 38 := by
    simp only [opAnd, beq_iff_eq] at hb
    exact hb
  subst hb
  exact ⟨⟨⟨by decide, by decide⟩, ⟨by decide, by decide, by decide, by decide⟩, fun u q dg c' hl' o' e t l => rdS_op (by decide) (by decide) (by decide) (by decide) (by decide) e l⟩, fun v w => rfl⟩
theorem opOr_sp : opSpec 4 1 opOr apOr := by
  refine ⟨by decide, fun b ops h e => ⟨fun _ => h.1 (by decide), fun _ => h.2.1 (by decide), fun _ => h.2.2.1 (by decide), fun _ => h.2.2.2.1 (by decide), fun _ => e⟩, fun b hb => ?_⟩
  have hb : b = 124 := by
    simp only [opOr, beq_iff_eq] at hb
    exact hb
  subst hb
  exact ⟨⟨⟨by decide, by decide⟩, ⟨by decide, by decide, by decide, by decide⟩, fun u q dg c' hl' o' e t l => rdS_op (by decide) (by decide) (by decide) (by decide) (by decide) e l⟩, fun v w => rfl⟩
end
section
/-! ===== both readings agree ===== -/
theorem sim_fac {u : Int32} {y : Nat → Int32} {n : Nat} {A B C : Int32} (hn : n ≤ 50) {m o : Nat} (ho : o ≤ 5) (S0 : o < 5 → simT u y n A B C m 0 (o + 1)) (S5 : o < 5 → simT u y n A B C m 5 (o + 1)) : simT u y n A B C (m + 1) 0 o := by
  intro p c hl dg pn l _
  have eg : grG u A B C (bY y n) (m + 1) 0 o p = facG u A B C (bY y n) (grG u A B C (bY y n) m 0 (o + 1)) (grG u A B C (bY y n) m 5 (o + 1)) o p := by simp only [grG]
  rw [eg]
  unfold facG
  cases dgt : isDg (bY y n p) with
  | true =>
    rw [if_pos rfl]
    exact ⟨fun _ => sim_num hn pn l dgt, fun z => absurd (show true = false from z) (by decide)⟩
  | false =>
    rw [if_neg Bool.false_ne_true]
    by_cases h1 : bY y n p = 33 ∨ bY y n p = 40
    · rw [if_pos h1]
      obtain ⟨pl, eb⟩ := bY_ne (show ¬ bY y n p = -1 from fun z => by rw [z] at h1; exact absurd h1 (by decide))
      by_cases o5 : o = 5
      · rw [if_pos o5]
        refine ⟨fun z => absurd z Bool.false_ne_true, fun _ => resL_no pl ?_⟩
        have nn : ∀ i, ¬ bY y n p = nmC u i := by
          intro i e
          unfold nmC at e
          rcases h1 with z | z
          all_goals rw [z] at e
          all_goals split at e
          all_goals split at e
          all_goals first
            | exact absurd e (by decide)
            | (split at e
               all_goals exact absurd e (by decide))
        show rdS u (y p) (c, hl, nI o) dg true = none
        unfold rdS
        rw [← eb, dgt, if_neg Bool.false_ne_true, if_pos rfl, if_neg (nn 0), if_neg (nn 1), if_neg (nn 2), if_pos h1, if_pos (by rw [o5]; rfl)]
      · rw [if_neg o5]
        have o5 : o < 5 := by omega
        by_cases h33 : bY y n p = 33
        · rw [if_pos h33]
          exact sim_bang hn l pl (eb.symm.trans h33) o5 (S0 o5)
        · rw [if_neg h33]
          have h40 : bY y n p = 40 := h1.resolve_left h33
          have st := open_st (u := u) (y := y) (n := n) (c := c) (dg := dg) (show hl.length < 50 by omega) o5 (Or.inr rfl) (eb.symm.trans h40)
          have X := S5 o5 (p + 1) c (40 :: hl) 0 (by omega) (by show c.length + (hl.length + 1) ≤ p + 1; omega) (Or.inr ⟨by decide, by decide⟩)
          obtain ⟨r, er⟩ : ∃ r, r = grG u A B C (bY y n) m 5 (o + 1) (p + 1) := ⟨_, rfl⟩
          rw [← er] at X ⊢
          cases g : r.2.2 with
          | false =>
            rw [Bool.false_and, if_neg Bool.false_ne_true]
            refine ⟨fun z => absurd z Bool.false_ne_true, fun _ => ?_⟩
            rw [resL_go pl st]
            exact X.2 g
          | true =>
            rw [Bool.true_and]
            by_cases h41 : bY y n r.2.1 = 41
            · rw [h41, if_pos (by decide)]
              refine ⟨fun _ => ?_, fun z => absurd (show true = false from z) (by decide)⟩
              obtain ⟨qn, cc, e1, e2, e3⟩ := sim_shut hn (by omega) (X.1 g) h41
              refine ⟨cc, [], 0, 0, ?_, fun x hx => absurd hx List.not_mem_nil, ?_, ?_, Or.inr (Or.inl rfl), nextOK_0, qn⟩
              · rw [resL_go pl st, e1]
                rfl
              · show pushes A B C (cc ++ [] ++ []) r.1
                rw [List.append_nil, List.append_nil]
                exact e2
              · show p + cc.length + 0 + 0 ≤ r.2.1 + 1
                omega
            · rw [if_neg (fun z => h41 (by rw [beq_iff_eq] at z; exact z))]
              refine ⟨fun z => absurd z Bool.false_ne_true, fun _ => ?_⟩
              rw [resL_go pl st]
              exact sim_refuse (r := r) hn (Or.inr ⟨hl, rfl⟩) (by show c.length + (hl.length + 1) ≤ p + 1; omega) (X.1 g) (Or.inl h41) (Or.inr ⟨hl, rfl⟩)
    · rw [if_neg h1]
      exact sim_named hn pn l dgt h1
theorem sim_up {u : Int32} {y : Nat → Int32} {n : Nat} {A B C : Int32} (hn : n ≤ 50) {m o i : Nat} (hi : i ≤ 4) {op : Int32 → Bool} {ap : Int32 → Int32 → Int32 → Int32} (H : opSpec i (5 - i) op ap) (eg : ∀ p, grG u A B C (bY y n) (m + 1) (i + 1) o p = lpG op ap (bY y n) (grG u A B C (bY y n) m i o) 50 (grG u A B C (bY y n) m i o p)) (S : simT u y n A B C m i o) : simT u y n A B C (m + 1) (i + 1) o := by
  intro p c hl dg pn l tb
  have e6 : 6 - (i + 1) = 5 - i := by omega
  have tb : topB (nI (5 - i)) hl := by
    rcases tb with z | z
    · exact absurd z (Nat.succ_ne_zero i)
    · rw [e6] at z; exact z
  have X := S p c hl dg pn l (Or.inr (tb.up hi))
  rw [eg p]
  have q := sim_lp hn hi H S l tb 50 (grG u A B C (bY y n) m i o p) (by omega) (fun g => simX.mono (P := rkA (6 - i)) (X.1 g) (fun ops z x hx => rk_dn hi (z x hx)) (fun _ _ z => z)) X.2
  refine ⟨fun g => ?_, q.2⟩
  have z := q.1 g
  rw [← e6] at z
  exact z
theorem sim_up3 {u : Int32} {y : Nat → Int32} {n : Nat} {A B C : Int32} (hn : n ≤ 50) {m o : Nat} (S : simT u y n A B C m 2 o) : simT u y n A B C (m + 1) 3 o := by
  intro p c hl dg pn l tb
  have tb : topB (nI (5 - 2)) hl := by
    rcases tb with z | z
    · exact absurd z (by decide)
    · exact z
  have X := S p c hl dg pn l (Or.inr (tb.up (i := 2) (by decide)))
  have eg : grG u A B C (bY y n) (m + 1) 3 o p = if (grG u A B C (bY y n) m 2 o p).2.2 && opCmp (bY y n (grG u A B C (bY y n) m 2 o p).2.1) then (apCmp (bY y n (grG u A B C (bY y n) m 2 o p).2.1) (grG u A B C (bY y n) m 2 o p).1 (grG u A B C (bY y n) m 2 o ((grG u A B C (bY y n) m 2 o p).2.1 + 1)).1, (grG u A B C (bY y n) m 2 o ((grG u A B C (bY y n) m 2 o p).2.1 + 1)).2) else grG u A B C (bY y n) m 2 o p := by simp only [grG]
  rw [eg]
  obtain ⟨r, er⟩ : ∃ r, r = grG u A B C (bY y n) m 2 o p := ⟨_, rfl⟩
  rw [← er] at X ⊢
  cases g : r.2.2 with
  | false =>
    rw [Bool.false_and, if_neg Bool.false_ne_true]
    exact ⟨fun z => by rw [g] at z; exact absurd z (by decide), X.2⟩
  | true =>
    rw [Bool.true_and]
    cases ob : opCmp (bY y n r.2.1) with
    | false =>
      rw [if_neg Bool.false_ne_true]
      refine ⟨fun z => ?_, X.2⟩
      have M : simX (rkA 4) u y n A B C 2 o p c hl dg r := X.1 z
      exact simX.mono (P := rkA 4) (Q := rkA 3) (j := 3) M (fun ops z x hx => rk_dn (i := 2) (by decide) (z x hx)) (fun ops _ z => opCmp_sp.2.1 _ _ z ob)
    | true =>
      rw [if_pos rfl]
      have Y := sim_iter hn (i := 2) (k := 4) (by decide) ⟨by decide, by decide, by decide⟩ opCmp_sp S l tb (P := rkA 4) (fun _ z => z) (X.1 g) ob
      refine ⟨fun z => ?_, Y.2⟩
      exact simX.mono (Q := rkA 3) (j := 3) (Y.1 z) (rkA_last (i := 2) (by decide)) (fun ops e z => by
        obtain ⟨a, b, e, h1, h2⟩ := e
        refine ⟨fun _ => z.1 (by decide), fun _ => z.2.1 (by decide), fun _ _ => ⟨a, b, [], e, fun x hx => ?_, h2⟩, fun h => absurd h (by decide), fun h => absurd h (by decide)⟩
        exact h1 x hx)
theorem gr_1 {u A B C : Int32} {bt : Nat → Int32} {m o p : Nat} : grG u A B C bt (m + 1) 1 o p = lpG opMul apMul bt (grG u A B C bt m 0 o) 50 (grG u A B C bt m 0 o p) := by simp only [grG]
theorem gr_2 {u A B C : Int32} {bt : Nat → Int32} {m o p : Nat} : grG u A B C bt (m + 1) 2 o p = lpG opAdd apAdd bt (grG u A B C bt m 1 o) 50 (grG u A B C bt m 1 o p) := by simp only [grG]
theorem gr_4 {u A B C : Int32} {bt : Nat → Int32} {m o p : Nat} : grG u A B C bt (m + 1) 4 o p = lpG opAnd apAnd bt (grG u A B C bt m 3 o) 50 (grG u A B C bt m 3 o p) := by simp only [grG]
theorem gr_5 {u A B C : Int32} {bt : Nat → Int32} {m o p : Nat} : grG u A B C bt (m + 1) 5 o p = lpG opOr apOr bt (grG u A B C bt m 4 o) 50 (grG u A B C bt m 4 o p) := by simp only [grG]
theorem sim_all {u : Int32} {y : Nat → Int32} {n : Nat} {A B C : Int32} (hn : n ≤ 50) : ∀ (m i o : Nat), o ≤ 5 → i ≤ 5 → 6 * (5 - o) + i + 1 ≤ m → simT u y n A B C m i o := by
  intro m
  induction m with
  | zero => intro i o _ _ h; exact absurd h (Nat.not_succ_le_zero _)
  | succ m ih =>
    intro i o ho hi h
    rcases (show i = 0 ∨ i = 1 ∨ i = 2 ∨ i = 3 ∨ i = 4 ∨ i = 5 by omega) with e | e | e | e | e | e
    all_goals subst e
    · exact sim_fac hn ho (fun z => ih 0 (o + 1) (by omega) (by omega) (by omega)) (fun z => ih 5 (o + 1) (by omega) (by omega) (by omega))
    · exact sim_up hn (i := 0) (by decide) opMul_sp (fun p => gr_1) (ih 0 o ho (by omega) (by omega))
    · exact sim_up hn (i := 1) (by decide) opAdd_sp (fun p => gr_2) (ih 1 o ho (by omega) (by omega))
    · exact sim_up3 hn (ih 2 o ho (by omega) (by omega))
    · exact sim_up hn (i := 3) (by decide) opAnd_sp (fun p => gr_4) (ih 3 o ho (by omega) (by omega))
    · exact sim_up hn (i := 4) (by decide) opOr_sp (fun p => gr_5) (ih 4 o ho (by omega) (by omega))
/-- a whole tape: the same fault, or a code that pushes what the grammar gives -/
theorem both_read {u : Int32} {y : Nat → Int32} {n : Nat} (hn : n ≤ 50) (A B C : Int32) : ((grG u A B C (bY y n) 60 5 0 0).2.2 = true ∧ (grG u A B C (bY y n) 60 5 0 0).2.1 = n → ∃ cc, rdF u y n = (some cc, n) ∧ pushes A B C cc (grG u A B C (bY y n) 60 5 0 0).1 ∧ cc.length ≤ n) ∧ (¬ ((grG u A B C (bY y n) 60 5 0 0).2.2 = true ∧ (grG u A B C (bY y n) 60 5 0 0).2.1 = n) → rdF u y n = (none, (grG u A B C (bY y n) 60 5 0 0).2.1)) := by
  have X := sim_all (u := u) (y := y) (A := A) (B := B) (C := C) hn 60 5 0 (by decide) (by decide) (by decide) 0 [] [] 0 (Nat.zero_le n) (Nat.le_refl 0) (Or.inr trivial)
  obtain ⟨r, er⟩ : ∃ r, r = grG u A B C (bY y n) 60 5 0 0 := ⟨_, rfl⟩
  rw [← er] at X ⊢
  rw [rdF_res]
  refine ⟨fun h => ?_, fun h => ?_⟩
  · obtain ⟨cc, e1, e2, e3⟩ := sim_end hn (Nat.le_refl 0) (X.1 h.1) h.2
    exact ⟨cc, e1, e2, by omega⟩
  · cases g : r.2.2 with
    | false => exact X.2 g
    | true =>
      have nq : ¬ r.2.1 = n := fun z => h ⟨g, z⟩
      have le : r.2.1 ≤ n := by
        obtain ⟨c0, ops, k, d, e1, e2, e3, e4, e5, e6, e7⟩ := X.1 g
        exact e7
      exact sim_refuse hn (Or.inl rfl) (Nat.le_refl 0) (X.1 g) (Or.inr rfl) (Or.inl (by omega))
end
