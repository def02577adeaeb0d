/-! ===== what both sides keep: a state as a table of numbers; when two states agree; what is always so ===== -/
abbrev xS : Type := Nat → Nat → Int32
/-- a street of the side that is tried; 0 cells, 1 marks, 2 kinds, 3 numbers, 4 tape, 5 waiting, 6 things children calls z bytes waits it, 7 at, 8 had, 9 safe -/
def hSt (F v : xS) (b : Nat) : xS := fun k => match k with
  | 0 => F (b + 1)
  | 1 => F (b + 2)
  | 2 => F (b + 3)
  | 3 => F (b + 4)
  | 4 => F (b + 15)
  | 5 => F (b + 16)
  | 6 => fun j => match j with
    | 0 => v b 2
    | 1 => v b 8
    | 2 => v b 10
    | 3 => v b 11
    | 4 => v b 14
    | 5 => v b 16
    | _ => v b 9
  | 7 => F (b + 5)
  | 8 => F (b + 6)
  | _ => F (b + 7)
/-- the same out of a row -/
def mSt (ρ : Nat → Int32) : xS := fun k => match k with
  | 0 => fun j => ρ (9 + 2 * j)
  | 1 => fun j => ρ (9 + 2 * j + 1)
  | 2 => fun j => ρ (25 + 5 * j + 0)
  | 3 => fun j => ρ (25 + 5 * j + 1)
  | 4 => fun j => ρ (60 + j)
  | 5 => fun j => ρ (110 + j)
  | 6 => fun j => match j with
    | 0 => ρ 3
    | 1 => ρ 2
    | 2 => ρ 0
    | 3 => ρ 1
    | 4 => ρ 4
    | 5 => ρ 5
    | _ => ρ 8
  | 7 => fun j => ρ (25 + 5 * j + 2)
  | 8 => fun j => ρ (25 + 5 * j + 3)
  | _ => fun j => ρ (25 + 5 * j + 4)
/-- sheets 0 to 3, 4 sizes, 5 bits, 6 images and began, 7 bodies -/
def hRs (F v : xS) : xS := fun k => match k with
  | 0 => F 62
  | 1 => F 64
  | 2 => F 66
  | 3 => F 68
  | 4 => fun j => match j with
    | 0 => v 61 1
    | 1 => v 63 1
    | 2 => v 65 1
    | _ => v 67 1
  | 5 => fun j => match j with
    | 0 => v 61 2
    | 1 => v 63 2
    | 2 => v 65 2
    | _ => v 67 2
  | 6 => fun j => match j with
    | 0 => v 0 7
    | _ => v 58 1
  | _ => F 59
/-- a number of a sheet of so many bits, without a sign -/
def bare (b x : Int32) : Int32 := if b = 8 then x &&& 255 else if b = 16 then x &&& 65535 else x
/-- and with one -/
def sgn (b x : Int32) : Int32 := if b = 8 then x.toInt8.toInt32 else if b = 16 then x.toInt16.toInt32 else x
def mRs (F v : xS) : xS := fun k => match k with
  | 0 => fun j => bare (F 6 0) (F 8 (40 * 0 + j))
  | 1 => fun j => bare (F 6 1) (F 8 (40 * 1 + j))
  | 2 => fun j => bare (F 6 2) (F 8 (40 * 2 + j))
  | 3 => fun j => bare (F 6 3) (F 8 (40 * 3 + j))
  | 4 => F 7
  | 5 => F 6
  | 6 => fun j => match j with
    | 0 => v 0 5
    | _ => v 0 21
  | _ => F 10
abbrev nat (x : Int32) : Nat := x.toNatClampNeg
/-- streets agree: the counts, and what lies below them -/
def sAgr (s t : xS) : Prop := (s 6 0 = t 6 0 ∧ s 6 1 = t 6 1 ∧ s 6 2 = t 6 2 ∧ s 6 3 = t 6 3 ∧ s 6 4 = t 6 4 ∧ s 6 5 = t 6 5) ∧ (∀ j, j < nat (s 6 0) → s 0 j = t 0 j ∧ s 1 j = t 1 j) ∧ (∀ j, j < nat (s 6 1) → s 2 j = t 2 j ∧ s 3 j = t 3 j) ∧ (∀ j, j < nat (s 6 4) → s 4 j = t 4 j) ∧ ∀ j, j < nat (s 6 5) → s 5 j = t 5 j
theorem sAgr.rf {s : xS} : sAgr s s := ⟨⟨rfl, rfl, rfl, rfl, rfl, rfl⟩, fun _ _ => ⟨rfl, rfl⟩, fun _ _ => ⟨rfl, rfl⟩, fun _ _ => rfl, fun _ _ => rfl⟩
theorem sAgr.sy {s t : xS} (h : sAgr s t) : sAgr t s := by
  obtain ⟨⟨a0, a1, a2, a3, a4, a5⟩, h0, h1, h2, h3⟩ := h
  exact ⟨⟨a0.symm, a1.symm, a2.symm, a3.symm, a4.symm, a5.symm⟩, fun j hj => ⟨(h0 j (by rw [a0]; exact hj)).1.symm, (h0 j (by rw [a0]; exact hj)).2.symm⟩, fun j hj => ⟨(h1 j (by rw [a1]; exact hj)).1.symm, (h1 j (by rw [a1]; exact hj)).2.symm⟩, fun j hj => (h2 j (by rw [a4]; exact hj)).symm, fun j hj => (h3 j (by rw [a5]; exact hj)).symm⟩
theorem sAgr.tr {s t u : xS} (h : sAgr s t) (g : sAgr t u) : sAgr s u := by
  obtain ⟨⟨a0, a1, a2, a3, a4, a5⟩, h0, h1, h2, h3⟩ := h
  obtain ⟨⟨b0, b1, b2, b3, b4, b5⟩, g0, g1, g2, g3⟩ := g
  exact ⟨⟨a0.trans b0, a1.trans b1, a2.trans b2, a3.trans b3, a4.trans b4, a5.trans b5⟩, fun j hj => ⟨(h0 j hj).1.trans (g0 j (by rw [← a0]; exact hj)).1, (h0 j hj).2.trans (g0 j (by rw [← a0]; exact hj)).2⟩, fun j hj => ⟨(h1 j hj).1.trans (g1 j (by rw [← a1]; exact hj)).1, (h1 j hj).2.trans (g1 j (by rw [← a1]; exact hj)).2⟩, fun j hj => (h2 j hj).trans (g2 j (by rw [← a4]; exact hj)), fun j hj => (h3 j hj).trans (g3 j (by rw [← a5]; exact hj))⟩
/-- the rest agrees -/
def rAgr (s t : xS) : Prop := ((∀ j, j < 40 → s 0 j = t 0 j) ∧ (∀ j, j < 40 → s 1 j = t 1 j) ∧ (∀ j, j < 40 → s 2 j = t 2 j) ∧ ∀ j, j < 40 → s 3 j = t 3 j) ∧ ((s 4 0 = t 4 0 ∧ s 4 1 = t 4 1 ∧ s 4 2 = t 4 2 ∧ s 4 3 = t 4 3) ∧ s 5 0 = t 5 0 ∧ s 5 1 = t 5 1 ∧ s 5 2 = t 5 2 ∧ s 5 3 = t 5 3) ∧ (s 6 0 = t 6 0 ∧ s 6 1 = t 6 1) ∧ ∀ j, j < nat (s 6 1) → s 7 j = t 7 j
theorem rAgr.rf {s : xS} : rAgr s s := ⟨⟨fun _ _ => rfl, fun _ _ => rfl, fun _ _ => rfl, fun _ _ => rfl⟩, ⟨⟨rfl, rfl, rfl, rfl⟩, rfl, rfl, rfl, rfl⟩, ⟨rfl, rfl⟩, fun _ _ => rfl⟩
theorem rAgr.sy {s t : xS} (h : rAgr s t) : rAgr t s := by
  obtain ⟨⟨a0, a1, a2, a3⟩, ⟨⟨b0, b1, b2, b3⟩, c0, c1, c2, c3⟩, ⟨d0, d1⟩, e⟩ := h
  exact ⟨⟨fun j hj => (a0 j hj).symm, fun j hj => (a1 j hj).symm, fun j hj => (a2 j hj).symm, fun j hj => (a3 j hj).symm⟩, ⟨⟨b0.symm, b1.symm, b2.symm, b3.symm⟩, c0.symm, c1.symm, c2.symm, c3.symm⟩, ⟨d0.symm, d1.symm⟩, fun j hj => (e j (by rw [d1]; exact hj)).symm⟩
theorem rAgr.tr {s t u : xS} (h : rAgr s t) (g : rAgr t u) : rAgr s u := by
  obtain ⟨⟨a0, a1, a2, a3⟩, ⟨⟨b0, b1, b2, b3⟩, c0, c1, c2, c3⟩, ⟨d0, d1⟩, e⟩ := h
  obtain ⟨⟨p0, p1, p2, p3⟩, ⟨⟨q0, q1, q2, q3⟩, r0, r1, r2, r3⟩, ⟨s0, s1⟩, f⟩ := g
  exact ⟨⟨fun j hj => (a0 j hj).trans (p0 j hj), fun j hj => (a1 j hj).trans (p1 j hj), fun j hj => (a2 j hj).trans (p2 j hj), fun j hj => (a3 j hj).trans (p3 j hj)⟩, ⟨⟨b0.trans q0, b1.trans q1, b2.trans q2, b3.trans q3⟩, c0.trans r0, c1.trans r1, c2.trans r2, c3.trans r3⟩, ⟨d0.trans s0, d1.trans s1⟩, fun j hj => (e j hj).trans (f j (by rw [← d1]; exact hj))⟩
/-- three tables: the street now, the street kept, the rest -/
abbrev xA : Type := xS × xS × xS
def hA (F v : xS) : xA := (hSt F v 1, hSt F v 19, hRs F v)
def mA (F v : xS) : xA := (mSt (F 1), mSt (F 2), mRs F v)
def agr (s t : xA) : Prop := sAgr s.1 t.1 ∧ rAgr s.2.2 t.2.2 ∧ (¬ s.2.2 6 0 = 0 → sAgr s.2.1 t.2.1)
theorem agr.rf {s : xA} : agr s s := ⟨sAgr.rf, rAgr.rf, fun _ => sAgr.rf⟩
theorem agr.sy {s t : xA} (h : agr s t) : agr t s := ⟨h.1.sy, h.2.1.sy, fun z => (h.2.2 (by rw [h.2.1.2.2.1.1]; exact z)).sy⟩
theorem agr.tr {s t u : xA} (h : agr s t) (g : agr t u) : agr s u := ⟨h.1.tr g.1, h.2.1.tr g.2.1, fun z => (h.2.2 z).tr (g.2.2 (by rw [← h.2.1.2.2.1.1]; exact z))⟩
-- what is always so
def below (n : Nat) (x : Int32) : Prop := ∃ k, k ≤ n ∧ x = nI k
def sIv (s : xS) : Prop := (below 8 (s 6 0) ∧ below 7 (s 6 1) ∧ below 9999 (s 6 2) ∧ below 50 (s 6 4) ∧ below 20 (s 6 5)) ∧ ∀ j, j < nat (s 6 1) → below 6 (s 2 j)
def rIv (n : Nat) (s : xS) : Prop := (below n (s 6 0) ∧ below 40 (s 6 1)) ∧ (below 40 (s 4 0) ∧ below 40 (s 4 1) ∧ below 40 (s 4 2) ∧ below 40 (s 4 3)) ∧ ((∀ j, j < 40 → bare (s 5 0) (s 0 j) = s 0 j) ∧ (∀ j, j < 40 → bare (s 5 1) (s 1 j) = s 1 j) ∧ (∀ j, j < 40 → bare (s 5 2) (s 2 j) = s 2 j) ∧ ∀ j, j < 40 → bare (s 5 3) (s 3 j) = s 3 j)
def aIv (n : Nat) (s : xA) : Prop := sIv s.1 ∧ rIv n s.2.2 ∧ (¬ s.2.2 6 0 = 0 → sIv s.2.1)
theorem sIv.of {s t : xS} (h : sIv s) (g : sAgr s t) : sIv t := by
  obtain ⟨⟨a0, a1, a2, a3, a4, a5⟩, h0, h1, h2, h3⟩ := g
  obtain ⟨⟨b0, b1, b2, b3, b4⟩, b5⟩ := h
  exact ⟨⟨a0 ▸ b0, a1 ▸ b1, a2 ▸ b2, a4 ▸ b3, a5 ▸ b4⟩, fun j hj => by
    have hj' : j < nat (s 6 1) := by rw [a1]; exact hj
    rw [← (h1 j hj').1]
    exact b5 j hj'⟩
theorem rIv.of {n : Nat} {s t : xS} (h : rIv n s) (g : rAgr s t) : rIv n t := by
  obtain ⟨⟨a0, a1, a2, a3⟩, ⟨⟨b0, b1, b2, b3⟩, c0, c1, c2, c3⟩, ⟨d0, d1⟩, e⟩ := g
  obtain ⟨⟨p0, p1⟩, ⟨q0, q1, q2, q3⟩, r0, r1, r2, r3⟩ := h
  exact ⟨⟨d0 ▸ p0, d1 ▸ p1⟩, ⟨b0 ▸ q0, b1 ▸ q1, b2 ▸ q2, b3 ▸ q3⟩, fun j hj => by rw [← c0, ← a0 j hj]; exact r0 j hj, fun j hj => by rw [← c1, ← a1 j hj]; exact r1 j hj, fun j hj => by rw [← c2, ← a2 j hj]; exact r2 j hj, fun j hj => by rw [← c3, ← a3 j hj]; exact r3 j hj⟩
theorem aIv.of {n : Nat} {s t : xA} (h : aIv n s) (g : agr s t) : aIv n t := ⟨h.1.of g.1, h.2.1.of g.2.1, fun z => (h.2.2 (by rw [g.2.1.2.2.1.1]; exact z)).of (g.2.2 (by rw [g.2.1.2.2.1.1]; exact z))⟩
/-- what plain methods of the class leave as it was: at, had, safe, it; codes and sizes of the texts (now, kept) -/
abbrev xRw : Type := Nat → Int32
abbrev hRw1 : Type := (xRw × xRw × xRw × Int32) × (xRw × Int32 × xRw × Int32)
abbrev hRw : Type := hRw1 × hRw1
def hX (F v : xS) : hRw := (((F 6, F 7, F 8, v 1 9), (F 11, v 10 1, F 14, v 13 1)), ((F 24, F 25, F 26, v 19 9), (F 29, v 28 1, F 32, v 31 1)))
/-- and the same of a row -/
def exi (j : Nat) : Bool := Nat.beq j 6 || Nat.beq j 7 || Nat.beq j 8 || (Nat.ble 25 j && Nat.blt j 60 && Nat.ble 2 ((j - 25) % 5)) || (Nat.ble 130 j && Nat.blt j 230)
theorem exi_in {j : Nat} (h : exi j = true) : j = 6 ∨ j = 7 ∨ j = 8 ∨ (25 ≤ j ∧ j < 60 ∧ 2 ≤ (j - 25) % 5) ∨ (130 ≤ j ∧ j < 230) := by
  unfold exi at h
  rw [Bool.or_eq_true, Bool.or_eq_true, Bool.or_eq_true, Bool.or_eq_true, Bool.and_eq_true, Bool.and_eq_true, Bool.and_eq_true] at h
  rcases h with (((a | a) | a) | a) | a
  · exact Or.inl (Nat.eq_of_beq_eq_true a)
  · exact Or.inr (Or.inl (Nat.eq_of_beq_eq_true a))
  · exact Or.inr (Or.inr (Or.inl (Nat.eq_of_beq_eq_true a)))
  · exact Or.inr (Or.inr (Or.inr (Or.inl ⟨Nat.le_of_ble_eq_true a.1.1, Nat.le_of_ble_eq_true a.1.2, Nat.le_of_ble_eq_true a.2⟩)))
  · exact Or.inr (Or.inr (Or.inr (Or.inr ⟨Nat.le_of_ble_eq_true a.1, Nat.le_of_ble_eq_true a.2⟩)))
theorem exi_of {j : Nat} (h : j = 6 ∨ j = 7 ∨ j = 8 ∨ (25 ≤ j ∧ j < 60 ∧ 2 ≤ (j - 25) % 5) ∨ (130 ≤ j ∧ j < 230)) : exi j = true := by
  unfold exi
  rw [Bool.or_eq_true, Bool.or_eq_true, Bool.or_eq_true, Bool.or_eq_true, Bool.and_eq_true, Bool.and_eq_true, Bool.and_eq_true]
  rcases h with a | a | a | a | a
  · exact Or.inl (Or.inl (Or.inl (Or.inl (by subst a; rfl))))
  · exact Or.inl (Or.inl (Or.inl (Or.inr (by subst a; rfl))))
  · exact Or.inl (Or.inl (Or.inr (by subst a; rfl)))
  · exact Or.inl (Or.inr ⟨⟨Nat.ble_eq_true_of_le a.1, Nat.ble_eq_true_of_le a.2.1⟩, Nat.ble_eq_true_of_le a.2.2⟩)
  · exact Or.inr ⟨Nat.ble_eq_true_of_le a.1, Nat.ble_eq_true_of_le a.2⟩
abbrev mRw : Type := xRw × xRw
def mX (F : xS) : mRw := (fun j => if exi j then F 1 j else 0, fun j => if exi j then F 2 j else 0)
/-- the texts' sizes, which nobody compares here -/
def hS (Φ : hRw → Prop) (F v : xS) : Prop := (below 50 (v 10 1) ∧ below 50 (v 13 1)) ∧ below 50 (v 28 1) ∧ below 50 (v 31 1) ∧ Φ (hX F v)
def mS (Ψ : mRw → Prop) (F v : xS) : Prop := ((F 1 6).toInt ≤ 50 ∧ (F 1 7).toInt ≤ 50) ∧ (((F 2 6).toInt ≤ 50 ∧ (F 2 7).toInt ≤ 50) ∧ Ψ (mX F)) ∧ (v 0 4 = if v 0 5 = 0 then 0 else 1) ∧ v 0 15 = 0 ∧ ∀ s j, s < 4 → j < 40 → sgn (F 6 s) (F 8 (40 * s + j)) = F 8 (40 * s + j)
theorem xgenP {w0 w' : xW} {K : xKo} {r : Option Value} {P : xS → xS → Prop} (h : ∀ F v, P F v → K r (xfill F v 0 w0)) (hs : xsame w0 w' = true) (hp : P (xarrs w') (xobjs w')) : K r w' := by
  rw [xsame_fill hs]
  exact h _ _ hp
/-- what comes behind a call of a side: with an answer that the state tells, or with any -/
def hTo (Φ : hRw → Prop) (F v : xS) (g : xA → xA) (f : xA → Int32) (K : xKo) : Prop := ∀ F' v', hS Φ F' v' → agr (hA F' v') (g (hA F v)) → K (some (.int (f (hA F v)))) (xfill F' v' 0 wH0)
def hTw (Φ : hRw → Prop) (F v : xS) (g : xA → xA) (K : xKo) : Prop := ∀ r F' v', hS Φ F' v' → agr (hA F' v') (g (hA F v)) → K (some (.int r)) (xfill F' v' 0 wH0)
def mTo (Ψ : mRw → Prop) (F v : xS) (g : xA → xA) (f : xA → Int32) (K : xKo) : Prop := ∀ F' v', mS Ψ F' v' → agr (mA F' v') (g (mA F v)) → K (some (.int (f (mA F v)))) (xfill F' v' 0 (wM0 0))
def mTw (Ψ : mRw → Prop) (F v : xS) (g : xA → xA) (K : xKo) : Prop := ∀ r F' v', mS Ψ F' v' → agr (mA F' v') (g (mA F v)) → K (some (.int r)) (xfill F' v' 0 (wM0 0))
theorem hTo.w {Φ : hRw → Prop} {F v : xS} {g : xA → xA} {f : xA → Int32} {K : xKo} (h : hTw Φ F v g K) : hTo Φ F v g f K := fun F' v' a b => h _ F' v' a b
theorem mTo.w {Ψ : mRw → Prop} {F v : xS} {g : xA → xA} {f : xA → Int32} {K : xKo} (h : mTw Ψ F v g K) : mTo Ψ F v g f K := fun F' v' a b => h _ F' v' a b
-- the errors of both
set_option maxRecDepth 100000 in
theorem sp_errH (F v : xS) (k : Int32) (hk : 0 ≤ k.toInt ∧ k.toInt < 6) {K : xKo} (h : K (some (.int (-1000000000 - k))) (xfill (va_up F 69 (upd (F 69) (nat k) (F 69 (nat k) + 1))) v 0 wH0)) : C_H_error [.ref 0, .int k] (xfill F v 0 wH0) K := by
  refine xM_go rfl 40 [] fun P hP => ?_
  refine ⟨vin hk, ?_⟩
  refine ⟨vin hk, ?_⟩
  exact h
set_option maxRecDepth 100000 in
theorem sp_errM (F v : xS) (e : Int32) (i : Nat) (he : (-1000000000 : Int32) - e = nI i) (hi : i < 6) {K : xKo} (h : K (some (.int e)) (xfill (va_up F 5 (upd (F 5) i (F 5 i + 1))) v 0 (wM0 0))) : C_M_errs [.ref 0, .int e] (xfill F v 0 (wM0 0)) K := by
  refine xM_go rfl 40 [] fun P hP => ?_
  have e1 : nat ((-1000000000 : Int32) - e) = i := by rw [he]; exact nI_clamp (by omega)
  refine ⟨by show vp_in ((-1000000000 : Int32) - e) 6; rw [he]; exact vp_in_nI hi (by omega), ?_⟩
  refine ⟨by show vp_in ((-1000000000 : Int32) - e) 6; rw [he]; exact vp_in_nI hi (by omega), ?_⟩
  rw [← e1] at h
  exact h
