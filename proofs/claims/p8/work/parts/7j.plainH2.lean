/-! ===== the tried side: what changes what is told, exactly ===== -/
theorem evRun_congr {a b c : Int32} {f g : Nat → Int32} : ∀ (d i : Nat) (q : evQ), (∀ j, i ≤ j → j < i + d → f j = g j) → evRun a b c f d i q = evRun a b c g d i q := by
  intro d
  induction d with
  | zero => intro i q _; rfl
  | succ d ih =>
    intro i q h
    show evRun a b c f d (i + 1) (evStep a b c (f i) q) = evRun a b c g d (i + 1) (evStep a b c (g i) q)
    rw [h i (Nat.le_refl i) (by omega)]
    exact ih (i + 1) _ (fun j x l => h j (by omega) (by omega))
theorem hLw.of {f g : Nat → Int32} {z y : Int32} {L : xLw} {m : Nat} (h : hLw f z L) (ez : z = nI m) (hm : m ≤ 50) (ey : y = nI m) (e : ∀ j, j < m → g j = f j) : hLw g y L := by
  obtain ⟨n, hn, en, w0, w1⟩ := h
  have nm : n = m := (nI_eq (by omega) (by omega)).mp (en.symm.trans ez)
  subst nm
  refine ⟨n, hn, ey, w0, fun nz a b c S => ?_⟩
  rw [← w1 nz a b c S]
  unfold evGives
  rw [evRun_congr n 0 (S, 0) (fun j _ l => e j (by omega))]
theorem cIv.ch {s : xS} {X : xXt} {i k : Nat} {x : Int32} (I : cIv s X) (hi : i < nat (s 6 1)) (hk : (k = 0 ∧ below 11 x) ∨ ((k = 1 ∨ k = 2) ∧ below 999 x)) : cIv s (va_up X.1 k (upd (X.1 k) i x), X.2) := by
  obtain ⟨a, b, d, e, f, g⟩ := I
  have u : ∀ k j, ¬ j = i → ∀ t : xS, va_up t k (upd (t k) i x) k j = t k j := fun k j hj t => (congrFun (if_pos rfl) j).trans (pk_un hj)
  have o : ∀ k q, ¬ q = k → ∀ t : xS, va_up t k (upd (t k) i x) q = t q := fun k q hq t => if_neg hq
  have v : ∀ k, ∀ t : xS, va_up t k (upd (t k) i x) k i = x := fun k t => (congrFun (if_pos rfl) i).trans pk_us
  refine ⟨a, b, d, fun j hj => ?_, fun j hj => ?_, g⟩
  · show below 11 (va_up X.1 k (upd (X.1 k) i x) 0 j)
    rcases hk with ⟨k0, bx⟩ | ⟨k1, bx⟩
    · subst k0
      by_cases ej : j = i
      · subst ej; rw [v]; exact bx
      · rw [u 0 j ej]; exact e j hj
    · rw [o k 0 (by omega)]; exact e j hj
  · obtain ⟨f1, f2⟩ := f j hj
    show below 999 (va_up X.1 k (upd (X.1 k) i x) 1 j) ∧ below 999 (va_up X.1 k (upd (X.1 k) i x) 2 j)
    rcases hk with ⟨k0, bx⟩ | ⟨k1 | k2, bx⟩
    · subst k0
      rw [o 0 1 (by decide), o 0 2 (by decide)]; exact ⟨f1, f2⟩
    · subst k1
      rw [o 1 2 (by decide)]
      by_cases ej : j = i
      · subst ej; rw [v]; exact ⟨bx, f2⟩
      · rw [u 1 j ej]; exact ⟨f1, f2⟩
    · subst k2
      rw [o 2 1 (by decide)]
      by_cases ej : j = i
      · subst ej; rw [v]; exact ⟨f1, bx⟩
      · rw [u 2 j ej]; exact ⟨f1, f2⟩
theorem out0.ch {s : xS} {X : xXt} {i k : Nat} {x : Int32} (I : out0 s X) (hi : i < nat (s 6 1)) : out0 s (va_up X.1 k (upd (X.1 k) i x), X.2) := by
  intro j a b
  have q : ∀ w, va_up X.1 k (upd (X.1 k) i x) w j = X.1 w j := fun w => by
    by_cases e : w = k
    · subst e; exact (congrFun (if_pos rfl) j).trans (pk_un (by omega))
    · exact congrFun (if_neg e) j
  show va_up X.1 k (upd (X.1 k) i x) 1 j = 0 ∧ va_up X.1 k (upd (X.1 k) i x) 2 j = 0
  rw [q, q]
  exact I j a b
theorem b999 {x : Int32} (h : xin x 1000) : below 999 x := by
  obtain ⟨k, hk, e, -⟩ := nI_ofx x (n := 1000) h (by decide)
  exact ⟨k, by omega, e⟩
theorem b11 {x : Int32} (h : xin x 12) : below 11 x := by
  obtain ⟨k, hk, e, -⟩ := nI_ofx x (n := 12) h (by decide)
  exact ⟨k, by omega, e⟩
set_option maxRecDepth 100000 in
theorem HX_change (n : Nat) (σ : xZ) (F v : xS) (R : HR n σ F v) (c w x : Int32) {K : xKo} (h : hKy n (y_change c w x σ) (z_change c w x σ) K) : C_H_change [.ref 0, .int c, .int w, .int x] (xfill F v 0 wH0) K := by
  obtain ⟨z1, z2, z3⟩ := R.z.1
  refine xM_go rfl 100 [] fun P hP => ?_
  refine xcall (sp_isChild F v _ (fun a1 => ?_) (fun a1 => ?_))
  · rw [R.n1.2.1] at a1
    refine br_c (fun _ => ?_) (fun z => absurd rfl z)
    refine xcall (sp_errH F v 1 (by decide) ?_)
    exact R.no h _ (if_neg fun z => a1 z.1.1) (if_neg fun z => a1 z.1.1)
  rw [R.n1.2.1] at a1
  refine br_c (fun z => absurd z (by decide)) (fun _ => ?_)
  refine xcall (sp_isBelow _ _ (fun a2 => ?_) (fun a2 => ?_))
  · refine br_n (fun z => absurd rfl z) (fun _ => ?_)
    refine xcall (sp_errH F v 1 (by decide) ?_)
    exact R.no h _ (if_neg fun z => a2 z.1.2) (if_neg fun z => a2 z.1.2)
  refine br_n (fun _ => ?_) (fun z => absurd z (by decide))
  obtain ⟨i, hi, rfl, ei, li⟩ := xin_ex R.c.1.2 (by omega) a1
  have i7 : i < 7 := by have := bel_nat R.c.1.2 (by omega); omega
  have b : vp_in (nI i) 7 := vp_in_nI i7 (by omega)
  have ek : Int32.toNatClampNeg (nI i) = i := ei
  obtain ⟨q5, q6, q7⟩ := R.t.2.2.2.1 i i7
  -- a row changed
  have leaf : ∀ (k : Nat) (F' : xS) (r : Int32), chOk (nI i) w x σ → nat w = k → F' = va_up F (6 + k) (upd (F (6 + k)) (Int32.toNatClampNeg (nI i)) x) → r = F (6 + k) (Int32.toNatClampNeg (nI i)) → (k = 0 ∧ below 11 x) ∨ ((k = 1 ∨ k = 2) ∧ below 999 x) → K (some (.int r)) (xfill F' v 0 wH0) := by
    intro k F' r ok ew eF er hk
    unfold y_change z_change at h
    rw [if_pos ok, if_pos ok, ew, ei] at h
    have e2 : r = σ.2.1.1 k i := by
      rw [er, ek]
      rcases (show k = 0 ∨ k = 1 ∨ k = 2 by omega) with z | z | z
      all_goals subst z
      · exact q5
      · exact q6
      · exact q7
    rw [e2]
    rw [ek] at eF
    have cv := R.c.ch li hk
    have ov := (out0.ch (k := k) (x := x) R.2.1.1.2 li)
    rcases (show k = 0 ∨ k = 1 ∨ k = 2 by omega) with z | z | z
    all_goals subst z
    all_goals subst eF
    · exact h _ _ (R.tell (F' := va_up F 6 (upd (F 6) i x)) (v' := v) (⟨⟨⟨rfl, rfl, rfl, rfl, rfl, rfl⟩, fun _ _ => ⟨rfl, rfl⟩, fun _ _ => ⟨rfl, rfl⟩, fun _ _ => rfl, fun _ _ => rfl⟩, ⟨⟨fun _ _ => rfl, fun _ _ => rfl, fun _ _ => rfl, fun _ _ => rfl⟩, ⟨⟨rfl, rfl, rfl, rfl⟩, rfl, rfl, rfl, rfl⟩, ⟨rfl, rfl⟩, fun _ _ => rfl⟩, fun _ => ⟨⟨rfl, rfl, rfl, rfl, rfl, rfl⟩, fun _ _ => ⟨rfl, rfl⟩, fun _ _ => ⟨rfl, rfl⟩, fun _ _ => rfl, fun _ _ => rfl⟩⟩) ⟨⟨rfl, rfl⟩, rfl, rfl⟩ rfl ⟨fun j hj => ⟨upS0 (fun j hj => (z1 j hj).1) j hj, (z1 j hj).2.1, (z1 j hj).2.2⟩, z2, z3⟩ ⟨cv, ov⟩)
    · exact h _ _ (R.tell (F' := va_up F 7 (upd (F 7) i x)) (v' := v) (⟨⟨⟨rfl, rfl, rfl, rfl, rfl, rfl⟩, fun _ _ => ⟨rfl, rfl⟩, fun _ _ => ⟨rfl, rfl⟩, fun _ _ => rfl, fun _ _ => rfl⟩, ⟨⟨fun _ _ => rfl, fun _ _ => rfl, fun _ _ => rfl, fun _ _ => rfl⟩, ⟨⟨rfl, rfl, rfl, rfl⟩, rfl, rfl, rfl, rfl⟩, ⟨rfl, rfl⟩, fun _ _ => rfl⟩, fun _ => ⟨⟨rfl, rfl, rfl, rfl, rfl, rfl⟩, fun _ _ => ⟨rfl, rfl⟩, fun _ _ => ⟨rfl, rfl⟩, fun _ _ => rfl, fun _ _ => rfl⟩⟩) ⟨⟨rfl, rfl⟩, rfl, rfl⟩ rfl ⟨fun j hj => ⟨(z1 j hj).1, upS0 (fun j hj => (z1 j hj).2.1) j hj, (z1 j hj).2.2⟩, z2, z3⟩ ⟨cv, ov⟩)
    · exact h _ _ (R.tell (F' := va_up F 8 (upd (F 8) i x)) (v' := v) (⟨⟨⟨rfl, rfl, rfl, rfl, rfl, rfl⟩, fun _ _ => ⟨rfl, rfl⟩, fun _ _ => ⟨rfl, rfl⟩, fun _ _ => rfl, fun _ _ => rfl⟩, ⟨⟨fun _ _ => rfl, fun _ _ => rfl, fun _ _ => rfl, fun _ _ => rfl⟩, ⟨⟨rfl, rfl, rfl, rfl⟩, rfl, rfl, rfl, rfl⟩, ⟨rfl, rfl⟩, fun _ _ => rfl⟩, fun _ => ⟨⟨rfl, rfl, rfl, rfl, rfl, rfl⟩, fun _ _ => ⟨rfl, rfl⟩, fun _ _ => ⟨rfl, rfl⟩, fun _ _ => rfl, fun _ _ => rfl⟩⟩) ⟨⟨rfl, rfl⟩, rfl, rfl⟩ rfl ⟨fun j hj => ⟨(z1 j hj).1, (z1 j hj).2.1, upS0 (fun j hj => (z1 j hj).2.2) j hj⟩, z2, z3⟩ ⟨cv, ov⟩)
  refine br_n (fun a3 => ?_) (fun a3 => ?_)
  · have a3 : ¬ w = 0 := a3
    refine xcall (sp_isBelow _ _ (fun a4 => ?_) (fun a4 => ?_))
    · refine br_n (fun z => absurd rfl z) (fun _ => ?_)
      refine xcall (sp_errH F v 1 (by decide) ?_)
      have no : ¬ chOk (nI i) w x σ := fun z => by
        have y := z.2
        rw [if_neg a3] at y
        exact a4 y
      exact R.no h _ (if_neg no) (if_neg no)
    have ok : chOk (nI i) w x σ := ⟨⟨a1, a2⟩, by rw [if_neg a3]; exact a4⟩
    refine br_n (fun _ => ?_) (fun z => absurd z (by decide))
    refine br_n (fun a5 => ?_) (fun a5 => absurd a5 a3)
    obtain ⟨j, hj, ew, ej⟩ := nI_ofx w (n := 3) a2 (by decide)
    refine br_n (fun a6 => ?_) (fun a6 => ?_)
    · refine xcall (sp_replace (F 8) 7 (nI i) x b ?_)
      have j2 : nat w = 2 := by
        have n0 : ¬ j = 0 := fun e => a3 (by rw [ew, e]; rfl)
        have n1 : ¬ j = 1 := fun e => a6 (by rw [ew, e]; rfl)
        omega
      exact leaf 2 _ _ ok j2 rfl rfl (Or.inr ⟨Or.inr rfl, b999 a4⟩)
    · have a6 : w = 1 := a6
      refine xcall (sp_replace (F 7) 7 (nI i) x b ?_)
      exact leaf 1 _ _ ok (by rw [a6]; decide) rfl rfl (Or.inr ⟨Or.inl rfl, b999 a4⟩)
  · have a3 : w = 0 := a3
    refine xcall (sp_isBelow _ _ (fun a4 => ?_) (fun a4 => ?_))
    · refine br_n (fun z => absurd rfl z) (fun _ => ?_)
      refine xcall (sp_errH F v 1 (by decide) ?_)
      have no : ¬ chOk (nI i) w x σ := fun z => by
        have y := z.2
        rw [if_pos a3] at y
        exact a4 y
      exact R.no h _ (if_neg no) (if_neg no)
    have ok : chOk (nI i) w x σ := ⟨⟨a1, a2⟩, by rw [if_pos a3]; exact a4⟩
    refine br_n (fun _ => ?_) (fun z => absurd z (by decide))
    refine br_n (fun a5 => absurd a3 a5) (fun a5 => ?_)
    · refine xcall (sp_replace (F 6) 7 (nI i) x b ?_)
      exact leaf 0 _ _ ok (by rw [a3]; decide) rfl rfl (Or.inl ⟨rfl, b11 a4⟩)
theorem mod10 {m : Int32} (h : xin m 70) : below 9 (m - m / 10 * 10) := by
  obtain ⟨k, hk, rfl, -⟩ := nI_ofx m (n := 70) h (by decide)
  have q : ∀ k : Fin 70, ∃ r : Fin 10, nI k.val - nI k.val / 10 * 10 = nI r.val := by decide +kernel
  obtain ⟨r, e⟩ := q ⟨k, by omega⟩
  exact ⟨r.val, by have := r.isLt; omega, e⟩
/-- a new child: what is always so -/
theorem child_iv {s : xA} {X : xXt} {m c : Int32} (I : cIv s.1 X) (O : out0 s.1 X) (ok : (xin m 70 ∧ xin c 12) ∧ nat (s.1 6 1) < 7) : cIv (g_child m c s).1 (va_up X.1 0 (upd (X.1 0) (nat (s.1 6 1)) c), X.2) ∧ out0 (g_child m c s).1 (va_up X.1 0 (upd (X.1 0) (nat (s.1 6 1)) c), X.2) := by
  have eg : g_child m c s = (va_up (va_up (va_up s.1 2 (upd (s.1 2) (nat (s.1 6 1)) (m / 10))) 3 (upd (s.1 3) (nat (s.1 6 1)) (m - m / 10 * 10))) 6 (upd (s.1 6) 1 (s.1 6 1 + 1)), s.2) := if_pos ok
  rw [eg]
  obtain ⟨a, b, d, e, f, g⟩ := I
  obtain ⟨b1, n1⟩ := a.2.inc ok.2 (by omega)
  refine ⟨⟨⟨a.1, b1⟩, b, fun j hj => ?_, fun j hj => ?_, f, ?_⟩, fun j h1 h2 => ?_⟩
  · have hj : j < nat (s.1 6 1 + 1) := hj
    rw [n1] at hj
    show below 6 (upd (s.1 2) (nat (s.1 6 1)) (m / 10) j) ∧ below 9 (upd (s.1 3) (nat (s.1 6 1)) (m - m / 10 * 10) j)
    by_cases ej : j = nat (s.1 6 1)
    · rw [ej, pk_us, pk_us]; exact ⟨div10 ok.1.1, mod10 ok.1.1⟩
    · rw [pk_un ej, pk_un ej]; exact d j (by omega)
  · have hj : j < nat (s.1 6 1 + 1) := hj
    rw [n1] at hj
    show below 11 (upd (X.1 0) (nat (s.1 6 1)) c j)
    by_cases ej : j = nat (s.1 6 1)
    · rw [ej, pk_us]; exact b11 ok.1.2
    · rw [pk_un ej]; exact e j (by omega)
  · rcases g with g | ⟨i, hi, g⟩
    · exact Or.inl g
    · refine Or.inr ⟨i, ?_, g⟩
      show i < nat (s.1 6 1 + 1)
      omega
  · have h1 : nat (s.1 6 1 + 1) ≤ j := h1
    exact O j (by omega) h2
set_option maxRecDepth 100000 in
theorem HX_child (n : Nat) (σ : xZ) (F v : xS) (R : HR n σ F v) (m c : Int32) {K : xKo} (h : hKy n (y_child m c σ) (f_child m c σ.1) K) : C_H_child [.ref 0, .int m, .int c] (xfill F v 0 wH0) K := by
  obtain ⟨z1, z2, z3⟩ := R.z.1
  refine xM_go rfl 100 [] fun P hP => ?_
  refine xcall (sp_isBelow _ _ (fun a1 => ?_) (fun a1 => ?_))
  · refine br_c (fun _ => ?_) (fun z => absurd rfl z)
    refine xcall (sp_errH F v 1 (by decide) ?_)
    exact R.no h _ (if_neg fun z => a1 z.1.1) (if_neg fun z => a1 z.1)
  refine br_c (fun z => absurd z (by decide)) (fun _ => ?_)
  refine xcall (sp_isBelow _ _ (fun a2 => ?_) (fun a2 => ?_))
  · refine br_n (fun z => absurd rfl z) (fun _ => ?_)
    refine xcall (sp_errH F v 1 (by decide) ?_)
    exact R.no h _ (if_neg fun z => a2 z.1.2) (if_neg fun z => a2 z.2)
  refine br_n (fun _ => ?_) (fun z => absurd z (by decide))
  have b5 : below 7 (v 1 8) := R.J.1.1.2.1
  have e8 : v 1 8 = σ.1.1 6 1 := R.n1.2.1
  obtain ⟨k, hk, e⟩ := id b5
  refine br_c (fun a3 => ?_) (fun a3 => ?_)
  · have a4 : nat (v 1 8) < 7 := (natlt (n := 7) b5 (by omega) (by omega)).mp a3
    have ok : (xin m 70 ∧ xin c 12) ∧ nat (σ.1.1 6 1) < 7 := ⟨⟨a1, a2⟩, by rw [← e8]; exact a4⟩
    refine xcall (sp_addChild (fun k => F (1 + k)) (fun k => v (1 + k)) m c k (by rw [show nat (v 1 8) = k by rw [e]; exact nI_clamp (by omega)] at a4; exact a4) e ?_)
    have ef : f_child m c σ.1 = v 1 8 := (if_pos ok.1).trans ((if_pos ok.2).trans e8.symm)
    unfold y_child at h
    rw [if_pos ok, ef] at h
    have eg : g_child m c (hA F v) = _ := if_pos ⟨ok.1, a4⟩
    have A' : agr (hA (va_up (va_up (va_up F 4 (upd (F 4) (nat (v 1 8)) (m / 10))) 5 (upd (F 5) (nat (v 1 8)) (m - m / 10 * 10))) 6 (upd (F 6) (nat (v 1 8)) c)) (va_up v 1 (va_up (v 1) 8 (v 1 8 + 1)))) (g_child m c (hA F v)) := by
      rw [eg]
      exact ⟨⟨⟨rfl, rfl, rfl, rfl, rfl, rfl⟩, fun _ _ => ⟨rfl, rfl⟩, fun _ _ => ⟨rfl, rfl⟩, fun _ _ => rfl, fun _ _ => rfl⟩, ⟨⟨fun _ _ => rfl, fun _ _ => rfl, fun _ _ => rfl, fun _ _ => rfl⟩, ⟨⟨rfl, rfl, rfl, rfl⟩, rfl, rfl, rfl, rfl⟩, ⟨rfl, rfl⟩, fun _ _ => rfl⟩, fun _ => ⟨⟨rfl, rfl, rfl, rfl, rfl, rfl⟩, fun _ _ => ⟨rfl, rfl⟩, fun _ _ => ⟨rfl, rfl⟩, fun _ _ => rfl, fun _ _ => rfl⟩⟩
    have CI := child_iv (X := σ.2.1) R.c R.2.1.1.2 ok
    have gk : (g_child m c σ.1).2 = σ.1.2 := by
      have q : g_child m c σ.1 = _ := if_pos ok
      rw [q]
    refine h _ _ ⟨(pi_child R.1 m c).up, ⟨CI, ?_⟩, A'.tr (pg_child R.2.2.1 R.J m c), R.2.2.2.1, R.2.2.2.2.1, R.2.2.2.2.2.1, ?_⟩
    · show ¬ (g_child m c σ.1).2.2 6 0 = 0 → cIv (g_child m c σ.1).2.1 σ.2.2 ∧ out0 (g_child m c σ.1).2.1 σ.2.2
      rw [gk]
      exact R.2.1.2
    · refine ⟨⟨fun j hj => ⟨?_, (z1 j hj).2.1, (z1 j hj).2.2⟩, z2, z3⟩, ?_⟩
      · rw [← e8]
        exact upS0 (fun j hj => (z1 j hj).1) j hj
      · show ¬ (g_child m c σ.1).2.2 6 0 = 0 → _
        rw [gk]
        exact R.z.2
  · have a4 : ¬ nat (σ.1.1 6 1) < 7 := fun z => a3 ((natlt (n := 7) b5 (by omega) (by omega)).mpr (by rw [e8]; exact z))
    refine xcall (sp_errH F v 4 (by decide) ?_)
    exact R.no h _ (if_neg fun z => a4 z.2) ((if_pos ⟨a1, a2⟩).trans (if_neg a4))
set_option maxRecDepth 100000 in
theorem HX_check (n : Nat) (σ : xZ) (F v : xS) (R : HR n σ F v) {K : xKo} (h : hKy n (y_check σ) (z_check σ) K) : C_H_check [.ref 0] (xfill F v 0 wH0) K := by
  obtain ⟨k, hk, e⟩ : below 20 (v 1 16) := R.J.1.1.2.2.2.2
  obtain ⟨c, hc, ec⟩ : below 7 (σ.1.1 6 1) := R.c.1.2
  have ecc : nat (σ.1.1 6 1) = c := by rw [ec]; exact nI_clamp (by omega)
  have e8 : v 1 8 = nI c := R.n1.2.1.trans ec
  have e16 : nat (σ.1.1 6 5) = k := by rw [← R.n1.2.2.2.2.2, e]; exact nI_clamp (by omega)
  have W : ∀ j, j < k → F 17 j = σ.1.1 5 j := fun j hj => R.2.2.1.1.2.2.2.2 j (by show j < nat (v 1 16); rw [R.n1.2.2.2.2.2, e16]; exact hj)
  unfold z_check at h
  rw [ecc, e16] at h
  have fin : ∀ r, r = chkL c (σ.1.1 5) (σ.2.1.1 1) k 0 → K (some (.int r)) (xfill F (va_up v 1 (va_up (v 1) 16 0)) 0 wH0) := fun r er => by
    rw [er]
    exact h F _ (HR.st (σ := σ) (pi_check R.1).up R.2.1 rfl ((show agr (hA F (va_up v 1 (va_up (v 1) 16 0))) (g_check (hA F v)) from ⟨⟨⟨rfl, rfl, rfl, rfl, rfl, rfl⟩, fun _ _ => ⟨rfl, rfl⟩, fun _ _ => ⟨rfl, rfl⟩, fun _ _ => rfl, fun _ _ => rfl⟩, ⟨⟨fun _ _ => rfl, fun _ _ => rfl, fun _ _ => rfl, fun _ _ => rfl⟩, ⟨⟨rfl, rfl, rfl, rfl⟩, rfl, rfl, rfl, rfl⟩, ⟨rfl, rfl⟩, fun _ _ => rfl⟩, fun _ => ⟨⟨rfl, rfl, rfl, rfl, rfl, rfl⟩, fun _ _ => ⟨rfl, rfl⟩, fun _ _ => ⟨rfl, rfl⟩, fun _ _ => rfl, fun _ _ => rfl⟩⟩).tr (pg_check R.2.2.1)) R.2.2.2)
  have key : ∀ (d i : Nat), i + d = k → chkL c (σ.1.1 5) (σ.2.1.1 1) d i = chkL c (σ.1.1 5) (σ.2.1.1 1) k 0 → xWP pg_H_check K 18 [(0, .ref 0), (1, .int (nI k)), (2, .int (nI i))] [] (xfill F (va_up v 1 (va_up (v 1) 16 0)) 0 wH0) (0, 0) := by
    intro d
    induction d with
    | zero =>
      intro i hi hq
      have hi : i = k := hi
      subst hi
      refine xWP_go 100 [(18, [0, 1, 2])] fun P hP => ?_
      refine br_c (fun _ => ?_) (fun a => absurd (nI_le (Nat.le_refl _) (by omega)) a)
      exact fin 0 hq
    | succ d ih =>
      intro i hi hq
      have hq : (if i < c ∧ σ.1.1 5 i = σ.2.1.1 1 i then chkL c (σ.1.1 5) (σ.2.1.1 1) d (i + 1) else 1 + nI i) = chkL c (σ.1.1 5) (σ.2.1.1 1) k 0 := hq
      have ei : Int32.toNatClampNeg (nI i) = i := nI_clamp (by omega)
      refine xWP_go 100 [(18, [0, 1, 2])] fun P hP => ?_
      refine br_c (fun a => absurd a (nI_ge (by omega) (by omega))) (fun _ => ?_)
      refine br_c (fun a => ?_) (fun a => ?_)
      · have a : v 1 8 ≤ nI i := a
        rw [e8, nI_leI (by omega) (by omega)] at a
        rw [if_neg (fun z => by omega)] at hq
        exact fin _ hq
      have a : ¬ v 1 8 ≤ nI i := a
      rw [e8, nI_leI (by omega) (by omega)] at a
      have w1 : F 17 (Int32.toNatClampNeg (nI i)) = σ.1.1 5 i := by rw [ei]; exact W i (by omega)
      have w2 : F 7 (Int32.toNatClampNeg (nI i)) = σ.2.1.1 1 i := by rw [ei]; exact (R.t.2.2.2.1 i (by omega)).2.1
      refine ⟨vp_in_nI (by omega) (by omega), ?_⟩
      refine ⟨vp_in_nI (by omega) (by omega), ?_⟩
      refine br_c (fun y => ?_) (fun y => ?_)
      · have y : F 17 (Int32.toNatClampNeg (nI i)) = F 7 (Int32.toNatClampNeg (nI i)) := y
        rw [w1, w2] at y
        rw [if_pos ⟨by omega, y⟩] at hq
        refine hP _ _ _ _ _ ?_
        rw [nI_1]
        exact ih (i + 1) (by omega) hq
      · have y : ¬ F 17 (Int32.toNatClampNeg (nI i)) = F 7 (Int32.toNatClampNeg (nI i)) := y
        rw [w1, w2] at y
        rw [if_neg (fun z => y z.2)] at hq
        exact fin _ hq
  refine xM_go rfl 100 [(18, [0, 1, 2])] fun P hP => ?_
  refine hP _ _ _ _ _ ?_
  have q := key k 0 (by omega) rfl
  rw [← e] at q
  exact q
set_option maxRecDepth 100000 in
theorem HX_told (n : Nat) (σ : xZ) (F v : xS) (R : HR n σ F v) (i : Int32) {K : xKo} (h : ∀ r F' v', HR (n + 1) σ F' v' → K (some (.int r)) (xfill F' v' 0 wH0)) : C_H_told [.ref 0, .int i] (xfill F v 0 wH0) K := by
  refine xM_go rfl 100 [] fun P hP => ?_
  refine br_c (fun a1 => ?_) (fun a1 => ?_)
  · refine xcall (sp_errH F v 1 (by decide) ?_)
    exact R.err (h _) _ rfl
  refine br_c (fun a2 => ?_) (fun a2 => ?_)
  · refine ⟨vin (by simp only [xlt, xle, Int32.reduceToInt] at a1 a2; omega), ?_⟩
    exact R.id (h _) rfl
  · refine xcall (sp_errH F v 1 (by decide) ?_)
    exact R.err (h _) _ rfl
set_option maxRecDepth 100000 in
theorem HX_image (n : Nat) (σ : xZ) (F v : xS) (R : HR n σ F v) {K : xKo} (h : hKy n (y_image σ) (f_image σ.1) K) : C_H_image [.ref 0] (xfill F v 0 wH0) K := by
  have J : sIv (hSt F v 1) := R.J.1
  obtain ⟨z1, z2, z3, z4⟩ := R.z.1
  obtain ⟨n0, h0, e0⟩ := R.2.2.2.1.1
  obtain ⟨n1, h1, e1⟩ := R.2.2.2.1.2
  refine xM_go rfl 100 [] fun P hP => ?_
  refine xcall (sp_copy (imF F) (imF v) n0 n1 h0 h1 e0 e1 ?_)
  have ef : f_image σ.1 = v 0 7 + 1 := congrArg (· + 1) R.2.2.1.2.1.2.2.1.1.symm
  rw [ef] at h
  have A' : agr (hA (imF2 F n0 n1) (imV2 v n0 n1)) (g_image (hA F v)) := ⟨⟨⟨rfl, rfl, rfl, rfl, rfl, rfl⟩, fun _ _ => ⟨rfl, rfl⟩, fun _ _ => ⟨rfl, rfl⟩, fun _ _ => rfl, fun _ _ => rfl⟩, ⟨⟨fun _ _ => rfl, fun _ _ => rfl, fun _ _ => rfl, fun _ _ => rfl⟩, ⟨⟨rfl, rfl, rfl, rfl⟩, rfl, rfl, rfl, rfl⟩, ⟨rfl, rfl⟩, fun _ _ => rfl⟩, fun _ => ⟨⟨rfl, rfl, rfl, rfl, rfl, rfl⟩, fun j hj => ⟨cpy0 (Nat.lt_of_lt_of_le hj (bel_nat J.1.1 (by omega))), cpy0 (Nat.lt_of_lt_of_le hj (bel_nat J.1.1 (by omega)))⟩, fun j hj => ⟨cpy0 (Nat.lt_of_lt_of_le hj (bel_nat J.1.2.1 (by omega))), cpy0 (Nat.lt_of_lt_of_le hj (bel_nat J.1.2.1 (by omega)))⟩, fun j hj => cpy0 (Nat.lt_of_lt_of_le hj (bel_nat J.1.2.2.2.1 (by omega))), fun j hj => cpy0 (Nat.lt_of_lt_of_le hj (bel_nat J.1.2.2.2.2 (by omega)))⟩⟩
  refine h (imF2 F n0 n1) (imV2 v n0 n1) ⟨pi_image R.1, ⟨R.2.1.1, fun _ => R.2.1.1⟩, A'.tr (pg_image R.2.2.1), ⟨⟨n0, h0, e0⟩, ⟨n1, h1, e1⟩⟩, ⟨n0, h0, rfl⟩, ⟨n1, h1, rfl⟩, ⟨z1, z2, z3, z4⟩, fun _ => ⟨fun j hj => ?_, z2, ?_, ?_⟩⟩
  · obtain ⟨y1, y2, y3⟩ := z1 j hj
    exact ⟨(cpy0 hj).trans y1, (cpy0 hj).trans y2, (cpy0 hj).trans y3⟩
  · exact z3.of e0 h0 rfl (fun j hj => cpy0 hj)
  · exact z4.of e1 h1 rfl (fun j hj => cpy0 hj)
set_option maxRecDepth 100000 in
theorem HX_restore (n : Nat) (σ : xZ) (F v : xS) (R : HR n σ F v) {K : xKo} (h : hKy n (y_restore σ) (f_restore σ.1) K) : C_H_restore [.ref 0] (xfill F v 0 wH0) K := by
  have ei : v 0 7 = σ.1.2.2 6 0 := R.2.2.1.2.1.2.2.1.1
  refine xM_go rfl 100 [] fun P hP => ?_
  refine br_n (fun a => ?_) (fun a => ?_)
  · have a : ¬ v 0 7 = 0 := a
    have a2 : ¬ σ.1.2.2 6 0 = 0 := by rw [← ei]; exact a
    have J : sIv (hSt F v 19) := R.J.2.2 a
    obtain ⟨z1, z2, z3, z4⟩ := R.z.2 a2
    obtain ⟨n0, h0, e0⟩ := R.2.2.2.2.1
    obtain ⟨n1, h1, e1⟩ := R.2.2.2.2.2.1
    refine xcall (sp_copy (fun k => F (1 + k)) (fun k => v (1 + k)) n0 n1 h0 h1 e0 e1 ?_)
    have A' : agr (hA (reF2 F n0 n1) (reV2 v n0 n1)) (g_restore (hA F v)) := by
      rw [show g_restore (hA F v) = _ from if_neg a]
      exact ⟨⟨⟨rfl, rfl, rfl, rfl, rfl, rfl⟩, fun j hj => ⟨cpy0 (Nat.lt_of_lt_of_le hj (bel_nat J.1.1 (by omega))), cpy0 (Nat.lt_of_lt_of_le hj (bel_nat J.1.1 (by omega)))⟩, fun j hj => ⟨cpy0 (Nat.lt_of_lt_of_le hj (bel_nat J.1.2.1 (by omega))), cpy0 (Nat.lt_of_lt_of_le hj (bel_nat J.1.2.1 (by omega)))⟩, fun j hj => cpy0 (Nat.lt_of_lt_of_le hj (bel_nat J.1.2.2.2.1 (by omega))), fun j hj => cpy0 (Nat.lt_of_lt_of_le hj (bel_nat J.1.2.2.2.2 (by omega)))⟩, ⟨⟨fun _ _ => rfl, fun _ _ => rfl, fun _ _ => rfl, fun _ _ => rfl⟩, ⟨⟨rfl, rfl, rfl, rfl⟩, rfl, rfl, rfl, rfl⟩, ⟨rfl, rfl⟩, fun _ _ => rfl⟩, fun _ => ⟨⟨rfl, rfl, rfl, rfl, rfl, rfl⟩, fun _ _ => ⟨rfl, rfl⟩, fun _ _ => ⟨rfl, rfl⟩, fun _ _ => rfl, fun _ _ => rfl⟩⟩
    have eg : g_restore σ.1 = (σ.1.2.1, σ.1.2.1, σ.1.2.2) := if_neg a2
    have A2 := A'.tr (pg_restore R.2.2.1)
    have I2 := (pi_restore R.1).up
    have ef : f_restore σ.1 = v 19 10 := (if_neg a2).trans (R.2.2.1.2.2 a).1.2.2.1.symm
    unfold y_restore at h
    rw [if_neg a2, ef] at h
    rw [eg] at h A2 I2
    refine h (reF2 F n0 n1) (reV2 v n0 n1) ⟨I2, ⟨R.2.1.2 a2, fun _ => R.2.1.2 a2⟩, A2, ⟨⟨n0, h0, rfl⟩, ⟨n1, h1, rfl⟩⟩, ⟨n0, h0, e0⟩, ⟨n1, h1, e1⟩, ⟨fun j hj => ?_, z2, ?_, ?_⟩, fun _ => ⟨z1, z2, z3, z4⟩⟩
    · obtain ⟨y1, y2, y3⟩ := z1 j hj
      exact ⟨(cpy0 hj).trans y1, (cpy0 hj).trans y2, (cpy0 hj).trans y3⟩
    · exact z3.of e0 h0 rfl (fun j hj => cpy0 hj)
    · exact z4.of e1 h1 rfl (fun j hj => cpy0 hj)
  · have a : v 0 7 = 0 := a
    have a2 : σ.1.2.2 6 0 = 0 := by rw [← ei]; exact a
    refine xcall (sp_errH F v 2 (by decide) ?_)
    refine R.no h _ ?_ (if_pos a2)
    unfold y_restore g_restore
    rw [if_pos a2, if_pos a2]
