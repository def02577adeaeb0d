section
/-! ===== what both sides keep: a state as a table of numbers; when two states agree; what is always so ===== -/
abbrev xS : Type := Nat → Nat → Int32
/-- a street of the side that is tried; 0 cells, 1 marks, 2 kinds, 3 numbers, 4 tape, 5 waiting, 6 things children calls z bytes waits it, 7 at, 8 had, 9 safe -/
def hSt (F v : xS) (b : Nat) : xS := fun k => match k with
  | 0 => F (b + 1)
  | 1 => F (b + 2)
  | 2 => F (b + 3)
  | 3 => F (b + 4)
  | 4 => F (b + 15)
  | 5 => F (b + 16)
  | 6 => fun j => match j with
    | 0 => v b 2
    | 1 => v b 8
    | 2 => v b 10
    | 3 => v b 11
    | 4 => v b 14
    | 5 => v b 16
    | _ => v b 9
  | 7 => F (b + 5)
  | 8 => F (b + 6)
  | _ => F (b + 7)
/-- the same out of a row -/
def mSt (ρ : Nat → Int32) : xS := fun k => match k with
  | 0 => fun j => ρ (9 + 2 * j)
  | 1 => fun j => ρ (9 + 2 * j + 1)
  | 2 => fun j => ρ (25 + 5 * j + 0)
  | 3 => fun j => ρ (25 + 5 * j + 1)
  | 4 => fun j => ρ (60 + j)
  | 5 => fun j => ρ (110 + j)
  | 6 => fun j => match j with
    | 0 => ρ 3
    | 1 => ρ 2
    | 2 => ρ 0
    | 3 => ρ 1
    | 4 => ρ 4
    | 5 => ρ 5
    | _ => ρ 8
  | 7 => fun j => ρ (25 + 5 * j + 2)
  | 8 => fun j => ρ (25 + 5 * j + 3)
  | _ => fun j => ρ (25 + 5 * j + 4)
/-- sheets 0 to 3, 4 sizes, 5 bits, 6 images and began, 7 bodies -/
def hRs (F v : xS) : xS := fun k => match k with
  | 0 => F 62
  | 1 => F 64
  | 2 => F 66
  | 3 => F 68
  | 4 => fun j => match j with
    | 0 => v 61 1
    | 1 => v 63 1
    | 2 => v 65 1
    | _ => v 67 1
  | 5 => fun j => match j with
    | 0 => v 61 2
    | 1 => v 63 2
    | 2 => v 65 2
    | _ => v 67 2
  | 6 => fun j => match j with
    | 0 => v 0 7
    | _ => v 58 1
  | _ => F 59
/-- a number of a sheet of so many bits, without a sign -/
def bare (b x : Int32) : Int32 := if b = 8 then x &&& 255 else if b = 16 then x &&& 65535 else x
/-- and with one -/
def sgn (b x : Int32) : Int32 := if b = 8 then x.toInt8.toInt32 else if b = 16 then x.toInt16.toInt32 else x
def mRs (F v : xS) : xS := fun k => match k with
  | 0 => fun j => bare (F 6 0) (F 8 (40 * 0 + j))
  | 1 => fun j => bare (F 6 1) (F 8 (40 * 1 + j))
  | 2 => fun j => bare (F 6 2) (F 8 (40 * 2 + j))
  | 3 => fun j => bare (F 6 3) (F 8 (40 * 3 + j))
  | 4 => F 7
  | 5 => F 6
  | 6 => fun j => match j with
    | 0 => v 0 5
    | _ => v 0 21
  | _ => F 10
abbrev nat (x : Int32) : Nat := x.toNatClampNeg
/-- streets agree: the counts, and what lies below them -/
def sAgr (s t : xS) : Prop := (s 6 0 = t 6 0 ∧ s 6 1 = t 6 1 ∧ s 6 2 = t 6 2 ∧ s 6 3 = t 6 3 ∧ s 6 4 = t 6 4 ∧ s 6 5 = t 6 5) ∧ (∀ j, j < nat (s 6 0) → s 0 j = t 0 j ∧ s 1 j = t 1 j) ∧ (∀ j, j < nat (s 6 1) → s 2 j = t 2 j ∧ s 3 j = t 3 j) ∧ (∀ j, j < nat (s 6 4) → s 4 j = t 4 j) ∧ ∀ j, j < nat (s 6 5) → s 5 j = t 5 j
theorem sAgr.rf {s : xS} : sAgr s s := ⟨⟨rfl, rfl, rfl, rfl, rfl, rfl⟩, fun _ _ => ⟨rfl, rfl⟩, fun _ _ => ⟨rfl, rfl⟩, fun _ _ => rfl, fun _ _ => rfl⟩
theorem sAgr.sy {s t : xS} (h : sAgr s t) : sAgr t s := by
  obtain ⟨⟨a0, a1, a2, a3, a4, a5⟩, h0, h1, h2, h3⟩ := h
  exact ⟨⟨a0.symm, a1.symm, a2.symm, a3.symm, a4.symm, a5.symm⟩, fun j hj => ⟨(h0 j (by rw [a0]; exact hj)).1.symm, (h0 j (by rw [a0]; exact hj)).2.symm⟩, fun j hj => ⟨(h1 j (by rw [a1]; exact hj)).1.symm, (h1 j (by rw [a1]; exact hj)).2.symm⟩, fun j hj => (h2 j (by rw [a4]; exact hj)).symm, fun j hj => (h3 j (by rw [a5]; exact hj)).symm⟩
theorem sAgr.tr {s t u : xS} (h : sAgr s t) (g : sAgr t u) : sAgr s u := by
  obtain ⟨⟨a0, a1, a2, a3, a4, a5⟩, h0, h1, h2, h3⟩ := h
  obtain ⟨⟨b0, b1, b2, b3, b4, b5⟩, g0, g1, g2, g3⟩ := g
  exact ⟨⟨a0.trans b0, a1.trans b1, a2.trans b2, a3.trans b3, a4.trans b4, a5.trans b5⟩, fun j hj => ⟨(h0 j hj).1.trans (g0 j (by rw [← a0]; exact hj)).1, (h0 j hj).2.trans (g0 j (by rw [← a0]; exact hj)).2⟩, fun j hj => ⟨(h1 j hj).1.trans (g1 j (by rw [← a1]; exact hj)).1, (h1 j hj).2.trans (g1 j (by rw [← a1]; exact hj)).2⟩, fun j hj => (h2 j hj).trans (g2 j (by rw [← a4]; exact hj)), fun j hj => (h3 j hj).trans (g3 j (by rw [← a5]; exact hj))⟩
/-- the rest agrees -/
def rAgr (s t : xS) : Prop := ((∀ j, j < 40 → s 0 j = t 0 j) ∧ (∀ j, j < 40 → s 1 j = t 1 j) ∧ (∀ j, j < 40 → s 2 j = t 2 j) ∧ ∀ j, j < 40 → s 3 j = t 3 j) ∧ ((s 4 0 = t 4 0 ∧ s 4 1 = t 4 1 ∧ s 4 2 = t 4 2 ∧ s 4 3 = t 4 3) ∧ s 5 0 = t 5 0 ∧ s 5 1 = t 5 1 ∧ s 5 2 = t 5 2 ∧ s 5 3 = t 5 3) ∧ (s 6 0 = t 6 0 ∧ s 6 1 = t 6 1) ∧ ∀ j, j < nat (s 6 1) → s 7 j = t 7 j
theorem rAgr.rf {s : xS} : rAgr s s := ⟨⟨fun _ _ => rfl, fun _ _ => rfl, fun _ _ => rfl, fun _ _ => rfl⟩, ⟨⟨rfl, rfl, rfl, rfl⟩, rfl, rfl, rfl, rfl⟩, ⟨rfl, rfl⟩, fun _ _ => rfl⟩
theorem rAgr.sy {s t : xS} (h : rAgr s t) : rAgr t s := by
  obtain ⟨⟨a0, a1, a2, a3⟩, ⟨⟨b0, b1, b2, b3⟩, c0, c1, c2, c3⟩, ⟨d0, d1⟩, e⟩ := h
  exact ⟨⟨fun j hj => (a0 j hj).symm, fun j hj => (a1 j hj).symm, fun j hj => (a2 j hj).symm, fun j hj => (a3 j hj).symm⟩, ⟨⟨b0.symm, b1.symm, b2.symm, b3.symm⟩, c0.symm, c1.symm, c2.symm, c3.symm⟩, ⟨d0.symm, d1.symm⟩, fun j hj => (e j (by rw [d1]; exact hj)).symm⟩
theorem rAgr.tr {s t u : xS} (h : rAgr s t) (g : rAgr t u) : rAgr s u := by
  obtain ⟨⟨a0, a1, a2, a3⟩, ⟨⟨b0, b1, b2, b3⟩, c0, c1, c2, c3⟩, ⟨d0, d1⟩, e⟩ := h
  obtain ⟨⟨p0, p1, p2, p3⟩, ⟨⟨q0, q1, q2, q3⟩, r0, r1, r2, r3⟩, ⟨s0, s1⟩, f⟩ := g
  exact ⟨⟨fun j hj => (a0 j hj).trans (p0 j hj), fun j hj => (a1 j hj).trans (p1 j hj), fun j hj => (a2 j hj).trans (p2 j hj), fun j hj => (a3 j hj).trans (p3 j hj)⟩, ⟨⟨b0.trans q0, b1.trans q1, b2.trans q2, b3.trans q3⟩, c0.trans r0, c1.trans r1, c2.trans r2, c3.trans r3⟩, ⟨d0.trans s0, d1.trans s1⟩, fun j hj => (e j hj).trans (f j (by rw [← d1]; exact hj))⟩
/-- three tables: the street now, the street kept, the rest -/
abbrev xA : Type := xS × xS × xS
def hA (F v : xS) : xA := (hSt F v 1, hSt F v 19, hRs F v)
def mA (F v : xS) : xA := (mSt (F 1), mSt (F 2), mRs F v)
def agr (s t : xA) : Prop := sAgr s.1 t.1 ∧ rAgr s.2.2 t.2.2 ∧ (¬ s.2.2 6 0 = 0 → sAgr s.2.1 t.2.1)
theorem agr.rf {s : xA} : agr s s := ⟨sAgr.rf, rAgr.rf, fun _ => sAgr.rf⟩
theorem agr.sy {s t : xA} (h : agr s t) : agr t s := ⟨h.1.sy, h.2.1.sy, fun z => (h.2.2 (by rw [h.2.1.2.2.1.1]; exact z)).sy⟩
theorem agr.tr {s t u : xA} (h : agr s t) (g : agr t u) : agr s u := ⟨h.1.tr g.1, h.2.1.tr g.2.1, fun z => (h.2.2 z).tr (g.2.2 (by rw [← h.2.1.2.2.1.1]; exact z))⟩
-- what is always so
def below (n : Nat) (x : Int32) : Prop := ∃ k, k ≤ n ∧ x = nI k
def sIv (s : xS) : Prop := (below 8 (s 6 0) ∧ below 7 (s 6 1) ∧ below 9999 (s 6 2) ∧ below 50 (s 6 4) ∧ below 20 (s 6 5)) ∧ ∀ j, j < nat (s 6 1) → below 6 (s 2 j)
def rIv (n : Nat) (s : xS) : Prop := (below n (s 6 0) ∧ below 40 (s 6 1)) ∧ (below 40 (s 4 0) ∧ below 40 (s 4 1) ∧ below 40 (s 4 2) ∧ below 40 (s 4 3)) ∧ ((∀ j, j < 40 → bare (s 5 0) (s 0 j) = s 0 j) ∧ (∀ j, j < 40 → bare (s 5 1) (s 1 j) = s 1 j) ∧ (∀ j, j < 40 → bare (s 5 2) (s 2 j) = s 2 j) ∧ ∀ j, j < 40 → bare (s 5 3) (s 3 j) = s 3 j)
def aIv (n : Nat) (s : xA) : Prop := sIv s.1 ∧ rIv n s.2.2 ∧ (¬ s.2.2 6 0 = 0 → sIv s.2.1)
theorem sIv.of {s t : xS} (h : sIv s) (g : sAgr s t) : sIv t := by
  obtain ⟨⟨a0, a1, a2, a3, a4, a5⟩, h0, h1, h2, h3⟩ := g
  obtain ⟨⟨b0, b1, b2, b3, b4⟩, b5⟩ := h
  exact ⟨⟨a0 ▸ b0, a1 ▸ b1, a2 ▸ b2, a4 ▸ b3, a5 ▸ b4⟩, fun j hj => by
    have hj' : j < nat (s 6 1) := by rw [a1]; exact hj
    rw [← (h1 j hj').1]
    exact b5 j hj'⟩
theorem rIv.of {n : Nat} {s t : xS} (h : rIv n s) (g : rAgr s t) : rIv n t := by
  obtain ⟨⟨a0, a1, a2, a3⟩, ⟨⟨b0, b1, b2, b3⟩, c0, c1, c2, c3⟩, ⟨d0, d1⟩, e⟩ := g
  obtain ⟨⟨p0, p1⟩, ⟨q0, q1, q2, q3⟩, r0, r1, r2, r3⟩ := h
  exact ⟨⟨d0 ▸ p0, d1 ▸ p1⟩, ⟨b0 ▸ q0, b1 ▸ q1, b2 ▸ q2, b3 ▸ q3⟩, fun j hj => by rw [← c0, ← a0 j hj]; exact r0 j hj, fun j hj => by rw [← c1, ← a1 j hj]; exact r1 j hj, fun j hj => by rw [← c2, ← a2 j hj]; exact r2 j hj, fun j hj => by rw [← c3, ← a3 j hj]; exact r3 j hj⟩
theorem aIv.of {n : Nat} {s t : xA} (h : aIv n s) (g : agr s t) : aIv n t := ⟨h.1.of g.1, h.2.1.of g.2.1, fun z => (h.2.2 (by rw [g.2.1.2.2.1.1]; exact z)).of (g.2.2 (by rw [g.2.1.2.2.1.1]; exact z))⟩
/-- what plain methods of the class leave as it was: at, had, safe, it; codes and sizes of the texts (now, kept) -/
abbrev xRw : Type := Nat → Int32
abbrev hRw1 : Type := (xRw × xRw × xRw × Int32) × (xRw × Int32 × xRw × Int32)
abbrev hRw : Type := hRw1 × hRw1
def hX (F v : xS) : hRw := (((F 6, F 7, F 8, v 1 9), (F 11, v 10 1, F 14, v 13 1)), ((F 24, F 25, F 26, v 19 9), (F 29, v 28 1, F 32, v 31 1)))
/-- and the same of a row -/
def exi (j : Nat) : Bool := Nat.beq j 6 || Nat.beq j 7 || Nat.beq j 8 || (Nat.ble 25 j && Nat.blt j 60 && Nat.ble 2 ((j - 25) % 5)) || (Nat.ble 130 j && Nat.blt j 230)
theorem exi_in {j : Nat} (h : exi j = true) : j = 6 ∨ j = 7 ∨ j = 8 ∨ (25 ≤ j ∧ j < 60 ∧ 2 ≤ (j - 25) % 5) ∨ (130 ≤ j ∧ j < 230) := by
  unfold exi at h
  rw [Bool.or_eq_true, Bool.or_eq_true, Bool.or_eq_true, Bool.or_eq_true, Bool.and_eq_true, Bool.and_eq_true, Bool.and_eq_true] at h
  rcases h with (((a | a) | a) | a) | a
  · exact Or.inl (Nat.eq_of_beq_eq_true a)
  · exact Or.inr (Or.inl (Nat.eq_of_beq_eq_true a))
  · exact Or.inr (Or.inr (Or.inl (Nat.eq_of_beq_eq_true a)))
  · exact Or.inr (Or.inr (Or.inr (Or.inl ⟨Nat.le_of_ble_eq_true a.1.1, Nat.le_of_ble_eq_true a.1.2, Nat.le_of_ble_eq_true a.2⟩)))
  · exact Or.inr (Or.inr (Or.inr (Or.inr ⟨Nat.le_of_ble_eq_true a.1, Nat.le_of_ble_eq_true a.2⟩)))
theorem exi_of {j : Nat} (h : j = 6 ∨ j = 7 ∨ j = 8 ∨ (25 ≤ j ∧ j < 60 ∧ 2 ≤ (j - 25) % 5) ∨ (130 ≤ j ∧ j < 230)) : exi j = true := by
  unfold exi
  rw [Bool.or_eq_true, Bool.or_eq_true, Bool.or_eq_true, Bool.or_eq_true, Bool.and_eq_true, Bool.and_eq_true, Bool.and_eq_true]
  rcases h with a | a | a | a | a
  · exact Or.inl (Or.inl (Or.inl (Or.inl (by subst a; rfl))))
  · exact Or.inl (Or.inl (Or.inl (Or.inr (by subst a; rfl))))
  · exact Or.inl (Or.inl (Or.inr (by subst a; rfl)))
  · exact Or.inl (Or.inr ⟨⟨Nat.ble_eq_true_of_le a.1, Nat.ble_eq_true_of_le a.2.1⟩, Nat.ble_eq_true_of_le a.2.2⟩)
  · exact Or.inr ⟨Nat.ble_eq_true_of_le a.1, Nat.ble_eq_true_of_le a.2⟩
abbrev mRw : Type := xRw × xRw
def mX (F : xS) : mRw := (fun j => if exi j then F 1 j else 0, fun j => if exi j then F 2 j else 0)
/-- the texts' sizes, which nobody compares here -/
def hS (Φ : hRw → Prop) (F v : xS) : Prop := (below 50 (v 10 1) ∧ below 50 (v 13 1)) ∧ below 50 (v 28 1) ∧ below 50 (v 31 1) ∧ Φ (hX F v)
def mS (Ψ : mRw → Prop) (F v : xS) : Prop := ((F 1 6).toInt ≤ 50 ∧ (F 1 7).toInt ≤ 50) ∧ (((F 2 6).toInt ≤ 50 ∧ (F 2 7).toInt ≤ 50) ∧ Ψ (mX F)) ∧ (v 0 4 = if v 0 5 = 0 then 0 else 1) ∧ v 0 15 = 0 ∧ ∀ s j, s < 4 → j < 40 → sgn (F 6 s) (F 8 (40 * s + j)) = F 8 (40 * s + j)
theorem xgenP {w0 w' : xW} {K : xKo} {r : Option Value} {P : xS → xS → Prop} (h : ∀ F v, P F v → K r (xfill F v 0 w0)) (hs : xsame w0 w' = true) (hp : P (xarrs w') (xobjs w')) : K r w' := by
  rw [xsame_fill hs]
  exact h _ _ hp
/-- an answer and the kind of its fault (0: none) -/
abbrev xAn : Type := Int32 × Nat
theorem an_ {a b : Int32} (h : a = b) : ((a, 0) : xAn) = (b, 0) := by rw [h]
def bmT (k : Nat) (e : Nat → Int32) : Nat → Int32 := if k = 0 then e else upd e k (e k + 1)
theorem bm_0 {e : Nat → Int32} : bmT 0 e = e := if_pos rfl
theorem bm_k {k : Nat} {e : Nat → Int32} (h : ¬ k = 0) : bmT k e = upd e k (e k + 1) := if_neg h
/-- what comes behind a call of a side: with an answer that the state tells, or with any -/
def hTo (Φ : hRw → Prop) (F v : xS) (g : xA → xA) (f : xA → xAn) (K : xKo) : Prop := ∀ F' v', hS Φ F' v' → F' 69 = bmT (f (hA F v)).2 (F 69) → agr (hA F' v') (g (hA F v)) → K (some (.int (f (hA F v)).1)) (xfill F' v' 0 wH0)
def hTw (Φ : hRw → Prop) (F v : xS) (g : xA → xA) (kd : xA → Nat) (K : xKo) : Prop := ∀ r F' v', hS Φ F' v' → F' 69 = bmT (kd (hA F v)) (F 69) → agr (hA F' v') (g (hA F v)) → K (some (.int r)) (xfill F' v' 0 wH0)
def mTo (Ψ : mRw → Prop) (F v : xS) (g : xA → xA) (f : xA → xAn) (K : xKo) : Prop := ∀ F' v', mS Ψ F' v' → F' 5 = bmT (f (mA F v)).2 (F 5) → agr (mA F' v') (g (mA F v)) → K (some (.int (f (mA F v)).1)) (xfill F' v' 0 (wM0 0))
def mTw (Ψ : mRw → Prop) (F v : xS) (g : xA → xA) (kd : xA → Nat) (K : xKo) : Prop := ∀ r F' v', mS Ψ F' v' → F' 5 = bmT (kd (mA F v)) (F 5) → agr (mA F' v') (g (mA F v)) → K (some (.int r)) (xfill F' v' 0 (wM0 0))
-- the errors of both
set_option maxRecDepth 100000 in
theorem sp_errH (F v : xS) (k : Int32) (hk : 0 ≤ k.toInt ∧ k.toInt < 6) {K : xKo} (h : K (some (.int (-1000000000 - k))) (xfill (va_up F 69 (upd (F 69) (nat k) (F 69 (nat k) + 1))) v 0 wH0)) : C_H_error [.ref 0, .int k] (xfill F v 0 wH0) K := by
  refine xM_go rfl 40 [] fun P hP => ?_
  refine ⟨vin hk, ?_⟩
  refine ⟨vin hk, ?_⟩
  exact h
set_option maxRecDepth 100000 in
theorem sp_errM (F v : xS) (e : Int32) (i : Nat) (he : (-1000000000 : Int32) - e = nI i) (hi : i < 6) {K : xKo} (h : K (some (.int e)) (xfill (va_up F 5 (upd (F 5) i (F 5 i + 1))) v 0 (wM0 0))) : C_M_errs [.ref 0, .int e] (xfill F v 0 (wM0 0)) K := by
  refine xM_go rfl 40 [] fun P hP => ?_
  have e1 : nat ((-1000000000 : Int32) - e) = i := by rw [he]; exact nI_clamp (by omega)
  refine ⟨by show vp_in ((-1000000000 : Int32) - e) 6; rw [he]; exact vp_in_nI hi (by omega), ?_⟩
  refine ⟨by show vp_in ((-1000000000 : Int32) - e) 6; rw [he]; exact vp_in_nI hi (by omega), ?_⟩
  rw [← e1] at h
  exact h
end
section
/-! ===== the tried side: plain methods on any state ===== -/
variable {Φ : hRw → Prop}
theorem hTo.err {F v : xS} {g : xA → xA} {f : xA → xAn} {K : xKo} {k : Int32} {i : Nat} (h : hTo Φ F v g f K) (S : hS Φ F v) (eg : g (hA F v) = hA F v) (ef : f (hA F v) = (k, i)) (hi : ¬ i = 0 := by decide) : K (some (.int k)) (xfill (va_up F 69 (upd (F 69) i (F 69 i + 1))) v 0 wH0) := by
  have q := h (va_up F 69 (upd (F 69) i (F 69 i + 1))) v S (by rw [ef]; exact (bm_k hi).symm) (by rw [eg]; exact ⟨⟨⟨rfl, rfl, rfl, rfl, rfl, rfl⟩, fun _ _ => ⟨rfl, rfl⟩, fun _ _ => ⟨rfl, rfl⟩, fun _ _ => rfl, fun _ _ => rfl⟩, ⟨⟨fun _ _ => rfl, fun _ _ => rfl, fun _ _ => rfl, fun _ _ => rfl⟩, ⟨⟨rfl, rfl, rfl, rfl⟩, rfl, rfl, rfl, rfl⟩, ⟨rfl, rfl⟩, fun _ _ => rfl⟩, fun _ => ⟨⟨rfl, rfl, rfl, rfl, rfl, rfl⟩, fun _ _ => ⟨rfl, rfl⟩, fun _ _ => ⟨rfl, rfl⟩, fun _ _ => rfl, fun _ _ => rfl⟩⟩)
  rw [ef] at q
  exact q
theorem hTo.id {F v : xS} {g : xA → xA} {f : xA → xAn} {K : xKo} {k : Int32} (h : hTo Φ F v g f K) (S : hS Φ F v) (eg : g (hA F v) = hA F v) (ef : f (hA F v) = (k, 0)) : K (some (.int k)) (xfill F v 0 wH0) := by
  have q := h F v S (by rw [ef]; exact bm_0.symm) (by rw [eg]; exact agr.rf)
  rw [ef] at q
  exact q
theorem hTo.ok {F v F' v' : xS} {g : xA → xA} {f : xA → xAn} {K : xKo} {k : Int32} (h : hTo Φ F v g f K) (S : hS Φ F' v') (ea : agr (hA F' v') (g (hA F v))) (ef : f (hA F v) = (k, 0)) (e5 : F' 69 = F 69 := by rfl) : K (some (.int k)) (xfill F' v' 0 wH0) := by
  have q := h F' v' S (by rw [ef, e5]; exact bm_0.symm) ea
  rw [ef] at q
  exact q
theorem hTw.err {F v : xS} {g : xA → xA} {kd : xA → Nat} {K : xKo} {k : Int32} {i : Nat} (h : hTw Φ F v g kd K) (S : hS Φ F v) (eg : g (hA F v) = hA F v) (ek : kd (hA F v) = i) (hi : ¬ i = 0 := by decide) : K (some (.int k)) (xfill (va_up F 69 (upd (F 69) i (F 69 i + 1))) v 0 wH0) := h k (va_up F 69 (upd (F 69) i (F 69 i + 1))) v S (by rw [ek]; exact (bm_k hi).symm) (by rw [eg]; exact ⟨⟨⟨rfl, rfl, rfl, rfl, rfl, rfl⟩, fun _ _ => ⟨rfl, rfl⟩, fun _ _ => ⟨rfl, rfl⟩, fun _ _ => rfl, fun _ _ => rfl⟩, ⟨⟨fun _ _ => rfl, fun _ _ => rfl, fun _ _ => rfl, fun _ _ => rfl⟩, ⟨⟨rfl, rfl, rfl, rfl⟩, rfl, rfl, rfl, rfl⟩, ⟨rfl, rfl⟩, fun _ _ => rfl⟩, fun _ => ⟨⟨rfl, rfl, rfl, rfl, rfl, rfl⟩, fun _ _ => ⟨rfl, rfl⟩, fun _ _ => ⟨rfl, rfl⟩, fun _ _ => rfl, fun _ _ => rfl⟩⟩)
theorem hTw.id {F v : xS} {g : xA → xA} {kd : xA → Nat} {K : xKo} {k : Int32} (h : hTw Φ F v g kd K) (S : hS Φ F v) (eg : g (hA F v) = hA F v) (ek : kd (hA F v) = 0) : K (some (.int k)) (xfill F v 0 wH0) := h k F v S (by rw [ek]; exact bm_0.symm) (by rw [eg]; exact agr.rf)
theorem nI_ofx (x : Int32) {n : Int} (h : xin x n) (hn : n ≤ 2147483647) : ∃ k : Nat, (k : Int) < n ∧ x = nI k ∧ nat x = k := by
  obtain ⟨j, hj, e⟩ := nI_of2 (x := x) (M := x) (n := x.toInt.toNat) (by simp only [xin] at h; omega) (by simp only [xin] at h; simp only [xlt, Int32.reduceToInt]; omega) (by rw [xle]; omega)
  have hk : j < 2 ^ 31 := by simp only [xin] at h; omega
  refine ⟨j, ?_, e, ?_⟩
  · have q := congrArg Int32.toInt e
    rw [nI_toInt hk] at q
    simp only [xin] at h
    omega
  · rw [e]; exact nI_clamp hk
set_option maxRecDepth 100000 in
theorem sp_addThing (F v : xS) (c m : Int32) (k : Nat) (hk : k < 8) (e : v 0 2 = nI k) {K : xKo} (h : K (some (.int (v 0 2))) (xfill (va_up (va_up F 1 (upd (F 1) (nat (v 0 2)) c)) 2 (upd (F 2) (nat (v 0 2)) m)) (va_up v 0 (va_up (v 0) 2 (v 0 2 + 1))) 0 (wT0 0))) : C_T_addThing [.ref 0, .int c, .int m] (xfill F v 0 (wT0 0)) K := by
  refine xM_go rfl 40 [] fun P hP => ?_
  refine ⟨by show vp_in (v 0 2) 8; rw [e]; exact vp_in_nI hk (by omega), ?_⟩
  refine ⟨by show vp_in (v 0 2) 8; rw [e]; exact vp_in_nI hk (by omega), ?_⟩
  have e2 : v 0 2 + 1 - 1 = v 0 2 := by rw [e, nI_1, nI_pred]
  have h2 : K (some (.int (v 0 2 + 1 - 1))) (xfill (va_up (va_up F 1 (upd (F 1) (nat (v 0 2)) c)) 2 (upd (F 2) (nat (v 0 2)) m)) (va_up v 0 (va_up (v 0) 2 (v 0 2 + 1))) 0 (wT0 0)) := by
    rw [e2]
    exact h
  exact h2
def g_thing (a b : Int32) (s : xA) : xA := if (xin a 12 ∧ xin b 64) ∧ nat (s.1 6 0) < 8 then (va_up (va_up (va_up s.1 0 (upd (s.1 0) (nat (s.1 6 0)) a)) 1 (upd (s.1 1) (nat (s.1 6 0)) b)) 6 (upd (s.1 6) 0 (s.1 6 0 + 1)), s.2) else s
def f_thing (a b : Int32) (s : xA) : xAn := if xin a 12 ∧ xin b 64 then (if nat (s.1 6 0) < 8 then (s.1 6 0, 0) else (-1000000004, 4)) else (-1000000001, 1)
set_option maxRecDepth 100000 in
theorem hs_thing (n : Nat) (F v : xS) (I : aIv n (hA F v)) (S : hS Φ F v) (a b : Int32) {K : xKo} (h : hTo Φ F v (g_thing a b) (f_thing a b) K) : C_H_thing [.ref 0, .int a, .int b] (xfill F v 0 wH0) K := by
  obtain ⟨k, hk, e⟩ : below 8 (v 1 2) := I.1.1.1
  have en : nat (v 1 2) = k := by rw [e]; exact nI_clamp (by omega)
  refine xM_go rfl 100 [] fun P hP => ?_
  refine xcall (sp_isBelow _ _ (fun a1 => ?_) (fun a1 => ?_))
  · refine br_c (fun _ => ?_) (fun z => absurd rfl z)
    refine xcall (sp_errH F v 1 (by decide) ?_)
    exact h.err S (if_neg fun z => a1 z.1.1) (if_neg fun z => a1 z.1)
  refine br_c (fun z => absurd z (by decide)) (fun _ => ?_)
  refine xcall (sp_isBelow _ _ (fun a2 => ?_) (fun a2 => ?_))
  · refine br_n (fun z => absurd rfl z) (fun _ => ?_)
    refine xcall (sp_errH F v 1 (by decide) ?_)
    exact h.err S (if_neg fun z => a2 z.1.2) (if_neg fun z => a2 z.2)
  refine br_n (fun _ => ?_) (fun z => absurd z (by decide))
  refine br_c (fun a3 => ?_) (fun a3 => ?_)
  · have hk8 : k < 8 := by
      have a3 : v 1 2 < 8 := a3
      rw [e] at a3
      exact (nI_ltI (a := k) (b := 8) (by omega) (by decide)).mp a3
    have en8 : nat (v 1 2) < 8 := by omega
    refine xcall (sp_addThing (fun k => F (1 + k)) (fun k => v (1 + k)) a b k hk8 e ?_)
    refine h.ok (F' := va_up (va_up F 2 (upd (F 2) (nat (v 1 2)) a)) 3 (upd (F 3) (nat (v 1 2)) b)) (v' := va_up v 1 (va_up (v 1) 2 (v 1 2 + 1))) S ?_ ?_
    · rw [show g_thing a b (hA F v) = _ from if_pos ⟨⟨a1, a2⟩, en8⟩]
      exact ⟨⟨⟨rfl, rfl, rfl, rfl, rfl, rfl⟩, fun _ _ => ⟨rfl, rfl⟩, fun _ _ => ⟨rfl, rfl⟩, fun _ _ => rfl, fun _ _ => rfl⟩, ⟨⟨fun _ _ => rfl, fun _ _ => rfl, fun _ _ => rfl, fun _ _ => rfl⟩, ⟨⟨rfl, rfl, rfl, rfl⟩, rfl, rfl, rfl, rfl⟩, ⟨rfl, rfl⟩, fun _ _ => rfl⟩, fun _ => ⟨⟨rfl, rfl, rfl, rfl, rfl, rfl⟩, fun _ _ => ⟨rfl, rfl⟩, fun _ _ => ⟨rfl, rfl⟩, fun _ _ => rfl, fun _ _ => rfl⟩⟩
    · exact (if_pos ⟨a1, a2⟩).trans (if_pos en8)
  · have hk8 : ¬ nat (v 1 2) < 8 := by
      intro z
      refine a3 ?_
      show v 1 2 < 8
      rw [e]
      exact (nI_ltI (a := k) (b := 8) (by omega) (by decide)).mpr (by omega)
    refine xcall (sp_errH F v 4 (by decide) ?_)
    exact h.err S (if_neg fun z => hk8 z.2) ((if_pos ⟨a1, a2⟩).trans (if_neg hk8))
theorem vinB {N n : Nat} {i x : Int32} (hx : below N x) (h : xin i x.toInt) (hN : N ≤ n) (hn : N < 2 ^ 31) : vp_in i n := by
  obtain ⟨k, hk, rfl⟩ := hx
  rw [nI_toInt (by omega)] at h
  exact vin ⟨h.1, by simp only [xin] at h; omega⟩
theorem vinN {N n : Nat} {x : Int32} (hx : below N x) (h : nat x < n) (hn : N < 2 ^ 31) : vp_in x n := by
  obtain ⟨k, hk, rfl⟩ := hx
  rw [show nat (nI k) = k from nI_clamp (by omega)] at h
  exact vin ⟨by rw [nI_toInt (by omega)]; omega, by rw [nI_toInt (by omega)]; omega⟩
theorem natlt {N n : Nat} {x : Int32} (hx : below N x) (hN : N < 2 ^ 31) (hn : n < 2 ^ 31) : x < nI n ↔ nat x < n := by
  obtain ⟨k, hk, rfl⟩ := hx
  rw [show nat (nI k) = k from nI_clamp (by omega)]
  exact nI_ltI (by omega) hn
theorem sp_isIn (m s : Int32) {K : xKo} (h0 : ¬ ((s >>> (m &&& 31)) &&& 1 = 1) → K (some (.int 0)) []) (h1 : (s >>> (m &&& 31)) &&& 1 = 1 → K (some (.int 1)) []) : C_H_isIn [.int m, .int s] [] K := by
  refine xM_go rfl 40 [] fun P hP => ?_
  refine br_n (fun a => ?_) (fun a => ?_)
  · exact ⟨Or.inl rfl, h0 a⟩
  · exact ⟨Or.inr rfl, h1 a⟩
theorem sp_replace (f : Nat → Int32) (n : Nat) (i x : Int32) (hi : vp_in i n) {K : xKo} (h : K (some (.int (f (nat i)))) [.inl (n, upd f (nat i) x)]) : C_H_replace [.ref 0, .int i, .int x] [.inl (n, f)] K := by
  refine xM_go rfl 40 [] fun P hP => ?_
  refine ⟨hi, ?_⟩
  refine ⟨hi, ?_⟩
  exact h
theorem sp_rowOfThings (F v : xS) (w : Int32) {K : xKo} (h0 : w = 0 → K (some (.ref 1)) (xfill F v 0 (wT0 0))) (h1 : ¬ w = 0 → K (some (.ref 2)) (xfill F v 0 (wT0 0))) : C_T_rowOfThings [.ref 0, .int w] (xfill F v 0 (wT0 0)) K := by
  refine xM_go rfl 40 [] fun P hP => ?_
  refine br_n (fun a => ?_) (fun a => ?_)
  · exact h1 a
  · exact h0 a
set_option maxRecDepth 100000 in
theorem sp_isChild (F v : xS) (c : Int32) {K : xKo} (h0 : ¬ xin c (v 1 8).toInt → K (some (.int 0)) (xfill F v 0 wH0)) (h1 : xin c (v 1 8).toInt → K (some (.int 1)) (xfill F v 0 wH0)) : C_H_isChild [.ref 0, .int c] (xfill F v 0 wH0) K := by
  refine xM_go rfl 40 [] fun P hP => ?_
  refine xcall (sp_isBelow _ _ (fun a => ?_) (fun a => ?_))
  · exact ⟨Or.inl rfl, h0 a⟩
  · exact ⟨Or.inr rfl, h1 a⟩
def f_ofThing (i w : Int32) (s : xA) : xAn := if xin i (s.1 6 0).toInt ∧ xin w 2 then (if w = 0 then (s.1 0 (nat i), 0) else (s.1 1 (nat i), 0)) else (-1000000001, 1)
def g_shift (i w x : Int32) (s : xA) : xA := if (xin i (s.1 6 0).toInt ∧ xin w 2) ∧ xin x (if w = 0 then 12 else 64) then (if w = 0 then (va_up s.1 0 (upd (s.1 0) (nat i) x), s.2) else (va_up s.1 1 (upd (s.1 1) (nat i) x), s.2)) else s
def f_shift (i w x : Int32) (s : xA) : xAn := if (xin i (s.1 6 0).toInt ∧ xin w 2) ∧ xin x (if w = 0 then 12 else 64) then (if w = 0 then (s.1 0 (nat i), 0) else (s.1 1 (nat i), 0)) else (-1000000001, 1)
set_option maxRecDepth 100000 in
theorem hs_ofThing (n : Nat) (F v : xS) (I : aIv n (hA F v)) (S : hS Φ F v) (i w : Int32) {K : xKo} (h : hTo Φ F v (fun s => s) (f_ofThing i w) K) : C_H_ofThing [.ref 0, .int i, .int w] (xfill F v 0 wH0) K := by
  refine xM_go rfl 100 [] fun P hP => ?_
  refine xcall (sp_isBelow _ _ (fun a1 => ?_) (fun a1 => ?_))
  · refine br_c (fun _ => ?_) (fun z => absurd rfl z)
    refine xcall (sp_errH F v 1 (by decide) ?_)
    exact h.err S rfl (if_neg fun z => a1 z.1)
  refine br_c (fun z => absurd z (by decide)) (fun _ => ?_)
  refine xcall (sp_isBelow _ _ (fun a2 => ?_) (fun a2 => ?_))
  · refine br_n (fun z => absurd rfl z) (fun _ => ?_)
    refine xcall (sp_errH F v 1 (by decide) ?_)
    exact h.err S rfl (if_neg fun z => a2 z.2)
  refine br_n (fun _ => ?_) (fun z => absurd z (by decide))
  refine xcall (sp_rowOfThings (fun k => F (1 + k)) (fun k => v (1 + k)) w (fun a3 => ?_) (fun a3 => ?_))
  · refine ⟨vinB I.1.1.1 a1 (Nat.le_refl _) (by omega), ?_⟩
    exact h.id S rfl ((if_pos ⟨a1, a2⟩).trans (if_pos a3))
  · refine ⟨vinB I.1.1.1 a1 (Nat.le_refl _) (by omega), ?_⟩
    exact h.id S rfl ((if_pos ⟨a1, a2⟩).trans (if_neg a3))
set_option maxRecDepth 100000 in
theorem hs_shift (n : Nat) (F v : xS) (I : aIv n (hA F v)) (S : hS Φ F v) (i w x : Int32) {K : xKo} (h : hTo Φ F v (g_shift i w x) (f_shift i w x) K) : C_H_shift [.ref 0, .int i, .int w, .int x] (xfill F v 0 wH0) K := by
  refine xM_go rfl 100 [] fun P hP => ?_
  refine xcall (sp_isBelow _ _ (fun a1 => ?_) (fun a1 => ?_))
  · refine br_c (fun _ => ?_) (fun z => absurd rfl z)
    refine xcall (sp_errH F v 1 (by decide) ?_)
    exact h.err S (if_neg fun z => a1 z.1.1) (if_neg fun z => a1 z.1.1)
  refine br_c (fun z => absurd z (by decide)) (fun _ => ?_)
  refine xcall (sp_isBelow _ _ (fun a2 => ?_) (fun a2 => ?_))
  · refine br_n (fun z => absurd rfl z) (fun _ => ?_)
    refine xcall (sp_errH F v 1 (by decide) ?_)
    exact h.err S (if_neg fun z => a2 z.1.2) (if_neg fun z => a2 z.1.2)
  refine br_n (fun _ => ?_) (fun z => absurd z (by decide))
  refine br_n (fun a3 => ?_) (fun a3 => ?_)
  · skip
    refine xcall (sp_isBelow _ _ (fun a4 => ?_) (fun a4 => ?_))
    · refine br_n (fun z => absurd rfl z) (fun _ => ?_)
      refine xcall (sp_errH F v 1 (by decide) ?_)
      have n4 : ¬ xin x (if w = 0 then 12 else 64) := by rw [if_neg a3]; exact a4
      exact h.err S (if_neg fun z => n4 z.2) (if_neg fun z => n4 z.2)
    refine br_n (fun _ => ?_) (fun z => absurd z (by decide))
    have p4 : xin x (if w = 0 then 12 else 64) := by rw [if_neg a3]; exact a4
    refine xcall (sp_rowOfThings (fun k => F (1 + k)) (fun k => v (1 + k)) w (fun a5 => ?_) (fun a5 => ?_))
    · exact absurd a5 a3
    · refine xcall (sp_replace (F 3) 8 i x (vinB I.1.1.1 a1 (Nat.le_refl _) (by omega)) ?_)
      refine h.ok (F' := va_up F 3 (upd (F 3) (nat i) x)) (v' := v) S ?_ ?_
      · rw [show g_shift i w x (hA F v) = (va_up (hA F v).1 1 (upd ((hA F v).1 1) (nat i) x), (hA F v).2) from (if_pos ⟨⟨a1, a2⟩, p4⟩).trans (if_neg a3)]
        exact ⟨⟨⟨rfl, rfl, rfl, rfl, rfl, rfl⟩, fun _ _ => ⟨rfl, rfl⟩, fun _ _ => ⟨rfl, rfl⟩, fun _ _ => rfl, fun _ _ => rfl⟩, ⟨⟨fun _ _ => rfl, fun _ _ => rfl, fun _ _ => rfl, fun _ _ => rfl⟩, ⟨⟨rfl, rfl, rfl, rfl⟩, rfl, rfl, rfl, rfl⟩, ⟨rfl, rfl⟩, fun _ _ => rfl⟩, fun _ => ⟨⟨rfl, rfl, rfl, rfl, rfl, rfl⟩, fun _ _ => ⟨rfl, rfl⟩, fun _ _ => ⟨rfl, rfl⟩, fun _ _ => rfl, fun _ _ => rfl⟩⟩
      · exact (if_pos ⟨⟨a1, a2⟩, p4⟩).trans (if_neg a3)
  · skip
    refine xcall (sp_isBelow _ _ (fun a4 => ?_) (fun a4 => ?_))
    · refine br_n (fun z => absurd rfl z) (fun _ => ?_)
      refine xcall (sp_errH F v 1 (by decide) ?_)
      have n4 : ¬ xin x (if w = 0 then 12 else 64) := by rw [if_pos a3]; exact a4
      exact h.err S (if_neg fun z => n4 z.2) (if_neg fun z => n4 z.2)
    refine br_n (fun _ => ?_) (fun z => absurd z (by decide))
    have p4 : xin x (if w = 0 then 12 else 64) := by rw [if_pos a3]; exact a4
    refine xcall (sp_rowOfThings (fun k => F (1 + k)) (fun k => v (1 + k)) w (fun a5 => ?_) (fun a5 => ?_))
    · refine xcall (sp_replace (F 2) 8 i x (vinB I.1.1.1 a1 (Nat.le_refl _) (by omega)) ?_)
      refine h.ok (F' := va_up F 2 (upd (F 2) (nat i) x)) (v' := v) S ?_ ?_
      · rw [show g_shift i w x (hA F v) = (va_up (hA F v).1 0 (upd ((hA F v).1 0) (nat i) x), (hA F v).2) from (if_pos ⟨⟨a1, a2⟩, p4⟩).trans (if_pos a3)]
        exact ⟨⟨⟨rfl, rfl, rfl, rfl, rfl, rfl⟩, fun _ _ => ⟨rfl, rfl⟩, fun _ _ => ⟨rfl, rfl⟩, fun _ _ => rfl, fun _ _ => rfl⟩, ⟨⟨fun _ _ => rfl, fun _ _ => rfl, fun _ _ => rfl, fun _ _ => rfl⟩, ⟨⟨rfl, rfl, rfl, rfl⟩, rfl, rfl, rfl, rfl⟩, ⟨rfl, rfl⟩, fun _ _ => rfl⟩, fun _ => ⟨⟨rfl, rfl, rfl, rfl, rfl, rfl⟩, fun _ _ => ⟨rfl, rfl⟩, fun _ _ => ⟨rfl, rfl⟩, fun _ _ => rfl, fun _ _ => rfl⟩⟩
      · exact (if_pos ⟨⟨a1, a2⟩, p4⟩).trans (if_pos a3)
    · exact absurd a3 a5
def f_seed (x : Int32) (s : xA) : xAn := (s.1 6 3, 0)
def g_seed (x : Int32) (s : xA) : xA := (va_up s.1 6 (upd (s.1 6) 3 x), s.2)
def f_trace (i : Int32) (s : xA) : xAn := if xin i (s.2.2 6 1).toInt then (s.2.2 7 (nat i), 0) else (-1000000002, 2)
def f_tell (x : Int32) (s : xA) : xAn := if nat (s.1 6 5) < 20 then (s.1 6 5 + 1, 0) else (-1000000004, 4)
def g_tell (x : Int32) (s : xA) : xA := if nat (s.1 6 5) < 20 then (va_up (va_up s.1 5 (upd (s.1 5) (nat (s.1 6 5)) x)) 6 (upd (s.1 6) 5 (s.1 6 5 + 1)), s.2) else s
set_option maxRecDepth 100000 in
theorem hs_seed (n : Nat) (F v : xS) (I : aIv n (hA F v)) (S : hS Φ F v) (x : Int32) {K : xKo} (h : hTo Φ F v (g_seed x) (f_seed x) K) : C_H_seed [.ref 0, .int x] (xfill F v 0 wH0) K := by
  refine xM_go rfl 100 [] fun P hP => ?_
  refine h.ok (F' := F) (v' := va_up v 1 (va_up (v 1) 11 x)) S ?_ rfl
  exact ⟨⟨⟨rfl, rfl, rfl, rfl, rfl, rfl⟩, fun _ _ => ⟨rfl, rfl⟩, fun _ _ => ⟨rfl, rfl⟩, fun _ _ => rfl, fun _ _ => rfl⟩, ⟨⟨fun _ _ => rfl, fun _ _ => rfl, fun _ _ => rfl, fun _ _ => rfl⟩, ⟨⟨rfl, rfl, rfl, rfl⟩, rfl, rfl, rfl, rfl⟩, ⟨rfl, rfl⟩, fun _ _ => rfl⟩, fun _ => ⟨⟨rfl, rfl, rfl, rfl, rfl, rfl⟩, fun _ _ => ⟨rfl, rfl⟩, fun _ _ => ⟨rfl, rfl⟩, fun _ _ => rfl, fun _ _ => rfl⟩⟩
set_option maxRecDepth 100000 in
theorem hs_trace (n : Nat) (F v : xS) (I : aIv n (hA F v)) (S : hS Φ F v) (i : Int32) {K : xKo} (h : hTo Φ F v (fun s => s) (f_trace i) K) : C_H_trace [.ref 0, .int i] (xfill F v 0 wH0) K := by
  refine xM_go rfl 100 [] fun P hP => ?_
  refine xcall (sp_isBelow _ _ (fun a1 => ?_) (fun a1 => ?_))
  · refine br_n (fun z => absurd rfl z) (fun _ => ?_)
    refine xcall (sp_errH F v 2 (by decide) ?_)
    exact h.err S rfl (if_neg a1)
  refine br_n (fun _ => ?_) (fun z => absurd z (by decide))
  refine ⟨vinB I.2.1.1.2 a1 (Nat.le_refl _) (by omega), ?_⟩
  exact h.id S rfl (if_pos a1)
set_option maxRecDepth 100000 in
theorem hs_tell (n : Nat) (F v : xS) (I : aIv n (hA F v)) (S : hS Φ F v) (x : Int32) {K : xKo} (h : hTo Φ F v (g_tell x) (f_tell x) K) : C_H_tell [.ref 0, .int x] (xfill F v 0 wH0) K := by
  refine xM_go rfl 100 [] fun P hP => ?_
  have b5 : below 20 (v 1 16) := I.1.1.2.2.2.2
  refine br_c (fun a1 => ?_) (fun a1 => ?_)
  · have a2 : nat (v 1 16) < 20 := (natlt (n := 20) b5 (by omega) (by omega)).mp a1
    refine ⟨vinN b5 a2 (by omega), ?_⟩
    refine h.ok (F' := va_up F 17 (upd (F 17) (nat (v 1 16)) x)) (v' := va_up v 1 (va_up (v 1) 16 (v 1 16 + 1))) S ?_ (if_pos a2)
    rw [show g_tell x (hA F v) = _ from if_pos a2]
    exact ⟨⟨⟨rfl, rfl, rfl, rfl, rfl, rfl⟩, fun _ _ => ⟨rfl, rfl⟩, fun _ _ => ⟨rfl, rfl⟩, fun _ _ => rfl, fun _ _ => rfl⟩, ⟨⟨fun _ _ => rfl, fun _ _ => rfl, fun _ _ => rfl, fun _ _ => rfl⟩, ⟨⟨rfl, rfl, rfl, rfl⟩, rfl, rfl, rfl, rfl⟩, ⟨rfl, rfl⟩, fun _ _ => rfl⟩, fun _ => ⟨⟨rfl, rfl, rfl, rfl, rfl, rfl⟩, fun _ _ => ⟨rfl, rfl⟩, fun _ _ => ⟨rfl, rfl⟩, fun _ _ => rfl, fun _ _ => rfl⟩⟩
  · have a2 : ¬ nat (v 1 16) < 20 := fun z => a1 ((natlt (n := 20) b5 (by omega) (by omega)).mpr z)
    refine xcall (sp_errH F v 4 (by decide) ?_)
    exact h.err S (if_neg a2) (if_neg a2)
end
section
/-! ===== the tried side: children, texts fed, waiting, images ===== -/
variable {Φ : hRw → Prop}
theorem xin_nat {N : Nat} {i x : Int32} (hx : below N x) (hN : N < 2 ^ 31) (h : xin i x.toInt) : nat i < nat x := by
  obtain ⟨k, hk, rfl⟩ := hx
  rw [nI_toInt (by omega)] at h
  obtain ⟨j, hj, -, e⟩ := nI_ofx i h (by omega)
  rw [e, show nat (nI k) = k from nI_clamp (by omega)]
  omega
theorem vin_below {N n : Nat} {x : Int32} (hx : below N x) (hN : N < n) (hn : n < 2 ^ 31) : vp_in x n := by
  obtain ⟨k, hk, rfl⟩ := hx
  exact vp_in_nI (by omega) hn
def g_child (m c : Int32) (s : xA) : xA := if (xin m 70 ∧ xin c 12) ∧ nat (s.1 6 1) < 7 then (va_up (va_up (va_up s.1 2 (upd (s.1 2) (nat (s.1 6 1)) (m / 10))) 3 (upd (s.1 3) (nat (s.1 6 1)) (m - m / 10 * 10))) 6 (upd (s.1 6) 1 (s.1 6 1 + 1)), s.2) else s
def f_child (m c : Int32) (s : xA) : xAn := if xin m 70 ∧ xin c 12 then (if nat (s.1 6 1) < 7 then (s.1 6 1, 0) else (-1000000004, 4)) else (-1000000001, 1)
def g_become (c m : Int32) (s : xA) : xA := if xin c (s.1 6 1).toInt ∧ xin m 70 then (va_up (va_up s.1 2 (upd (s.1 2) (nat c) (m / 10))) 3 (upd (s.1 3) (nat c) (m - m / 10 * 10)), s.2) else s
def f_become (c m : Int32) (s : xA) : xAn := if xin c (s.1 6 1).toInt ∧ xin m 70 then (s.1 2 (nat c), 0) else (-1000000001, 1)
def asOk (q k : Int32) : Prop := ((xIS (nat q)) >>> (k &&& 31)) &&& 1 = 1
def f_as (c k : Int32) (s : xA) : xAn := if xin c (s.1 6 1).toInt ∧ xin k 7 then (if ((xIS (nat (s.1 2 (nat c)))) >>> (k &&& 31)) &&& 1 = 1 then (s.1 3 (nat c), 0) else (-1000000005, 5)) else (-1000000001, 1)
set_option maxRecDepth 100000 in
theorem sp_addChild (F v : xS) (m c : Int32) (k : Nat) (hk : k < 7) (e : v 0 8 = nI k) {K : xKo} (h : K (some (.int (v 0 8))) (xfill (va_up (va_up (va_up F 3 (upd (F 3) (nat (v 0 8)) (m / 10))) 4 (upd (F 4) (nat (v 0 8)) (m - m / 10 * 10))) 5 (upd (F 5) (nat (v 0 8)) c)) (va_up v 0 (va_up (v 0) 8 (v 0 8 + 1))) 0 (wT0 0))) : C_T_addChild [.ref 0, .int m, .int c] (xfill F v 0 (wT0 0)) K := by
  have b : vp_in (v 0 8) 7 := by rw [e]; exact vp_in_nI hk (by omega)
  refine xM_go rfl 60 [] fun P hP => ?_
  refine ⟨by decide, ?_⟩
  refine ⟨b, ?_⟩
  refine ⟨by decide, ?_⟩
  refine ⟨b, ?_⟩
  refine ⟨b, ?_⟩
  have e2 : v 0 8 + 1 - 1 = v 0 8 := by rw [e, nI_1, nI_pred]
  have h2 : K (some (.int (v 0 8 + 1 - 1))) (xfill (va_up (va_up (va_up F 3 (upd (F 3) (nat (v 0 8)) (m / 10))) 4 (upd (F 4) (nat (v 0 8)) (m - m / 10 * 10))) 5 (upd (F 5) (nat (v 0 8)) c)) (va_up v 0 (va_up (v 0) 8 (v 0 8 + 1))) 0 (wT0 0)) := by
    rw [e2]
    exact h
  exact h2
set_option maxRecDepth 100000 in
theorem hs_become (n : Nat) (F v : xS) (I : aIv n (hA F v)) (S : hS Φ F v) (c m : Int32) {K : xKo} (h : hTo Φ F v (g_become c m) (f_become c m) K) : C_H_become [.ref 0, .int c, .int m] (xfill F v 0 wH0) K := by
  refine xM_go rfl 100 [] fun P hP => ?_
  refine xcall (sp_isChild F v _ (fun a1 => ?_) (fun a1 => ?_))
  · refine br_c (fun _ => ?_) (fun z => absurd rfl z)
    refine xcall (sp_errH F v 1 (by decide) ?_)
    exact h.err S (if_neg fun z => a1 z.1) (if_neg fun z => a1 z.1)
  refine br_c (fun z => absurd z (by decide)) (fun _ => ?_)
  refine xcall (sp_isBelow _ _ (fun a2 => ?_) (fun a2 => ?_))
  · refine br_n (fun z => absurd rfl z) (fun _ => ?_)
    refine xcall (sp_errH F v 1 (by decide) ?_)
    exact h.err S (if_neg fun z => a2 z.2) (if_neg fun z => a2 z.2)
  refine br_n (fun _ => ?_) (fun z => absurd z (by decide))
  have b : vp_in c 7 := vinB I.1.1.2.1 a1 (Nat.le_refl _) (by omega)
  refine ⟨by decide, ?_⟩
  refine ⟨b, ?_⟩
  refine ⟨by decide, ?_⟩
  refine xcall (sp_replace (F 4) 7 c (m / 10) b ?_)
  refine h.ok (F' := va_up (va_up F 4 (upd (F 4) (nat c) (m / 10))) 5 (upd (F 5) (nat c) (m - m / 10 * 10))) (v' := v) S ?_ (if_pos ⟨a1, a2⟩)
  rw [show g_become c m (hA F v) = _ from if_pos ⟨a1, a2⟩]
  exact ⟨⟨⟨rfl, rfl, rfl, rfl, rfl, rfl⟩, fun _ _ => ⟨rfl, rfl⟩, fun _ _ => ⟨rfl, rfl⟩, fun _ _ => rfl, fun _ _ => rfl⟩, ⟨⟨fun _ _ => rfl, fun _ _ => rfl, fun _ _ => rfl, fun _ _ => rfl⟩, ⟨⟨rfl, rfl, rfl, rfl⟩, rfl, rfl, rfl, rfl⟩, ⟨rfl, rfl⟩, fun _ _ => rfl⟩, fun _ => ⟨⟨rfl, rfl, rfl, rfl, rfl, rfl⟩, fun _ _ => ⟨rfl, rfl⟩, fun _ _ => ⟨rfl, rfl⟩, fun _ _ => rfl, fun _ _ => rfl⟩⟩
set_option maxRecDepth 100000 in
theorem hs_as (n : Nat) (F v : xS) (I : aIv n (hA F v)) (S : hS Φ F v) (c k : Int32) {K : xKo} (h : hTo Φ F v (fun s => s) (f_as c k) K) : C_H_as [.ref 0, .int c, .int k] (xfill F v 0 wH0) K := by
  refine xM_go rfl 100 [] fun P hP => ?_
  refine xcall (sp_isChild F v _ (fun a1 => ?_) (fun a1 => ?_))
  · refine br_c (fun _ => ?_) (fun z => absurd rfl z)
    refine xcall (sp_errH F v 1 (by decide) ?_)
    exact h.err S rfl (if_neg fun z => a1 z.1)
  refine br_c (fun z => absurd z (by decide)) (fun _ => ?_)
  refine xcall (sp_isBelow _ _ (fun a2 => ?_) (fun a2 => ?_))
  · refine br_n (fun z => absurd rfl z) (fun _ => ?_)
    refine xcall (sp_errH F v 1 (by decide) ?_)
    exact h.err S rfl (if_neg fun z => a2 z.2)
  refine br_n (fun _ => ?_) (fun z => absurd z (by decide))
  have b : vp_in c 7 := vinB I.1.1.2.1 a1 (Nat.le_refl _) (by omega)
  have hc : nat c < nat (v 1 8) := xin_nat I.1.1.2.1 (by omega) a1
  have b6 : below 6 (F 4 (nat c)) := I.1.2 (nat c) hc
  refine ⟨b, ?_⟩
  refine ⟨rfl, vin_below b6 (by omega) (by omega), ?_⟩
  refine xcall (sp_isIn _ _ (fun a3 => ?_) (fun a3 => ?_))
  · refine br_n (fun z => absurd rfl z) (fun _ => ?_)
    refine xcall (sp_errH F v 5 (by decide) ?_)
    exact h.err S rfl ((if_pos ⟨a1, a2⟩).trans (if_neg a3))
  · refine br_n (fun _ => ?_) (fun z => absurd z (by decide))
    refine ⟨b, ?_⟩
    exact h.id S rfl ((if_pos ⟨a1, a2⟩).trans (if_pos a3))
def g_check (s : xA) : xA := (va_up s.1 6 (upd (s.1 6) 5 0), s.2)
def g_image (s : xA) : xA := (s.1, s.1, va_up s.2.2 6 (upd (s.2.2 6) 0 (s.2.2 6 0 + 1)))
def f_image (s : xA) : xAn := (s.2.2 6 0 + 1, 0)
def g_restore (s : xA) : xA := if s.2.2 6 0 = 0 then s else (s.2.1, s.2.1, s.2.2)
def f_restore (s : xA) : xAn := if s.2.2 6 0 = 0 then (-1000000002, 2) else (s.2.1 6 2, 0)
end
section
/-! ===== the tried side: images, sheets, small ones ===== -/
variable {Φ : hRw → Prop}
theorem cpy0 {f g : Nat → Int32} {n j : Nat} (h : j < n) : va_cpy f g 0 0 n j = f j := by
  rw [pk_cpy_in (Nat.zero_le _) (by omega)]
  congr 1
  omega
theorem bel_nat {N : Nat} {x : Int32} (hx : below N x) (hN : N < 2 ^ 31) : nat x ≤ N := by
  obtain ⟨k, hk, rfl⟩ := hx
  rw [show nat (nI k) = k from nI_clamp (by omega)]
  exact hk
def imF (F : xS) : xS := fun k => if k < 18 then F (19 + k) else F (1 + (k - 18))
def imF2 (F : xS) (n0 n1 : Nat) : xS := fun k => if 19 ≤ k ∧ k < 37 then cpF (imF F) n0 n1 (k - 19) else F k
def imV2 (v : xS) (n0 n1 : Nat) : xS := va_up (fun k => if 19 ≤ k ∧ k < 37 then cpV (imF v) n0 n1 (k - 19) else v k) 0 (va_up (v 0) 7 (v 0 7 + 1))
def reF2 (F : xS) (n0 n1 : Nat) : xS := fun k => if 1 ≤ k ∧ k < 19 then cpF (fun k => F (1 + k)) n0 n1 (k - 1) else F k
def reV2 (v : xS) (n0 n1 : Nat) : xS := fun k => if 1 ≤ k ∧ k < 19 then cpV (fun k => v (1 + k)) n0 n1 (k - 1) else v k
end
section
/-! ===== the tried side: what a text gives ===== -/
variable {Φ : hRw → Prop}
def evPush (q : (Nat → Int32) × Nat) (x : Int32) : (Nat → Int32) × Nat := if q.2 < 50 then (upd q.1 q.2 x, q.2 + 1) else q
def evPop (q : (Nat → Int32) × Nat) : Int32 × ((Nat → Int32) × Nat) := if q.2 = 0 then (0, q) else (q.1 (q.2 - 1), (q.1, q.2 - 1))
def wk (s l r : Int32) : Int32 := if s = 38 then (if l = 0 then 0 else if r = 0 then 0 else 1) else if s = 42 then l * r else if s = 43 then l + r else if s = 45 then l - r else if s = 47 then (if r = 0 then 0 else l / r) else if s = 60 then (if r ≤ l then 0 else 1) else if s = 61 then (if l = r then 1 else 0) else if s = 62 then (if l ≤ r then 0 else 1) else if s = 124 then (if l = 0 then (if r = 0 then 0 else 1) else 1) else (if r = 0 then 0 else l - l / r * r)
def evStep (a b c w : Int32) (q : (Nat → Int32) × Nat) : (Nat → Int32) × Nat := if w < 10000 then evPush q w else if w < 20000 then evPush q (if w = 10000 then a else if w = 10001 then b else c) else if w = 20033 then evPush (evPop q).2 (if (evPop q).1 = 0 then 1 else 0) else evPush (evPop (evPop q).2).2 (wk (w - 20000) (evPop (evPop q).2).1 (evPop q).1)
def evRun (a b c : Int32) (code : Nat → Int32) : Nat → Nat → (Nat → Int32) × Nat → (Nat → Int32) × Nat
  | 0, _, q => q
  | d + 1, i, q => evRun a b c code d (i + 1) (evStep a b c (code i) q)
def clamp1 (x : Int32) : Int32 := if (if 1 ≤ x then 1 else x) ≤ 0 then 0 else (if 1 ≤ x then 1 else x)
theorem evPush_le {q : (Nat → Int32) × Nat} {x : Int32} (h : q.2 ≤ 50) : (evPush q x).2 ≤ 50 := by
  unfold evPush
  split
  · show q.2 + 1 ≤ 50
    omega
  · exact h
theorem evPop_le {q : (Nat → Int32) × Nat} (h : q.2 ≤ 50) : (evPop q).2.2 ≤ 50 := by
  unfold evPop
  split
  · exact h
  · show q.2 - 1 ≤ 50
    omega
theorem evStep_le {a b c w : Int32} {q : (Nat → Int32) × Nat} (h : q.2 ≤ 50) : (evStep a b c w q).2 ≤ 50 := by
  unfold evStep
  split
  · exact evPush_le h
  split
  · exact evPush_le h
  split
  · exact evPush_le (evPop_le h)
  · exact evPush_le (evPop_le (evPop_le h))
abbrev LW (F v : xS) (q : (Nat → Int32) × Nat) : xW := xfill (va_up F 2 q.1) (va_up v 0 (va_up (v 0) 3 (nI q.2))) 0 (wL0 0)
theorem sp_push (F v : xS) (q : (Nat → Int32) × Nat) (x : Int32) (hq : q.2 ≤ 50) {K : xKo} (h : K none (LW F v (evPush q x))) : C_L_push [.ref 0, .int x] (LW F v q) K := by
  refine xM_go rfl 60 [] fun P hP => ?_
  refine br_c (fun a => ?_) (fun a => ?_)
  · have a : nI 50 ≤ nI q.2 := a
    rw [nI_leI (by omega) (by omega)] at a
    unfold evPush at h
    rw [if_neg (by omega)] at h
    exact h
  · have a : ¬ nI 50 ≤ nI q.2 := a
    rw [nI_leI (by omega) (by omega)] at a
    unfold evPush at h
    rw [if_pos (by omega)] at h
    refine ⟨vp_in_nI (by omega) (by omega), ?_⟩
    have h2 : K none (xfill (va_up F 2 (upd q.1 (nat (nI q.2)) x)) (va_up v 0 (va_up (v 0) 3 (nI q.2 + 1))) 0 (wL0 0)) := by
      rw [show nat (nI q.2) = q.2 from nI_clamp (by omega), nI_1]
      exact h
    exact h2
theorem sp_pop (F v : xS) (q : (Nat → Int32) × Nat) (hq : q.2 ≤ 50) {K : xKo} (h : K (some (.int (evPop q).1)) (LW F v (evPop q).2)) : C_L_pop [.ref 0] (LW F v q) K := by
  refine xM_go rfl 60 [] fun P hP => ?_
  refine br_n (fun a => ?_) (fun a => ?_)
  · have hz : ¬ q.2 = 0 := fun z => a (by show nI q.2 = 0; rw [z]; rfl)
    obtain ⟨m, hm⟩ : ∃ m, q.2 = m + 1 := ⟨q.2 - 1, by omega⟩
    have e1 : nI q.2 - 1 = nI (q.2 - 1) := by rw [hm, nI_pred]; rfl
    unfold evPop at h
    rw [if_neg hz] at h
    refine ⟨by show vp_in (nI q.2 - 1) 50; rw [e1]; exact vp_in_nI (by omega) (by omega), ?_⟩
    have h2 : K (some (.int (q.1 (nat (nI q.2 - 1))))) (xfill (va_up F 2 q.1) (va_up v 0 (va_up (v 0) 3 (nI q.2 - 1))) 0 (wL0 0)) := by
      rw [e1, show nat (nI (q.2 - 1)) = q.2 - 1 from nI_clamp (by omega)]
      exact h
    exact h2
  · have hz : q.2 = 0 := by
      have a : nI q.2 = 0 := a
      exact Nat.eq_zero_of_not_pos fun z => nI_ne0 z (by omega) a
    unfold evPop at h
    rw [if_pos hz] at h
    exact h
theorem sp_worked (s l r : Int32) {K : xKo} (h : K (some (.int (wk s l r))) []) : C_L_worked [.int s, .int l, .int r] [] K := by
  unfold wk at h
  refine xM_go rfl 60 [] fun P hP => ?_
  refine ⟨fun a => ?_, fun n1 => ?_⟩
  · rw [if_pos a] at h
    refine br_c (fun b => ?_) (fun b => ?_)
    · rw [if_pos b] at h; exact h
    rw [if_neg b] at h
    refine br_c (fun b => ?_) (fun b => ?_)
    · rw [if_pos b] at h; exact h
    · rw [if_neg b] at h; exact h
  rw [if_neg n1] at h
  refine ⟨fun a => ?_, fun n2 => ?_⟩
  · rw [if_pos a] at h; exact h
  rw [if_neg n2] at h
  refine ⟨fun a => ?_, fun n3 => ?_⟩
  · rw [if_pos a] at h; exact h
  rw [if_neg n3] at h
  refine ⟨fun a => ?_, fun n4 => ?_⟩
  · rw [if_pos a] at h; exact h
  rw [if_neg n4] at h
  refine ⟨fun a => ?_, fun n5 => ?_⟩
  · rw [if_pos a] at h
    refine br_n (fun b => ?_) (fun b => ?_)
    · rw [if_neg b] at h
      exact ⟨b, h⟩
    · rw [if_pos b] at h; exact h
  rw [if_neg n5] at h
  refine ⟨fun a => ?_, fun n6 => ?_⟩
  · rw [if_pos a] at h
    refine br_c (fun b => ?_) (fun b => ?_)
    · rw [if_pos b] at h; exact h
    · rw [if_neg b] at h; exact h
  rw [if_neg n6] at h
  refine ⟨fun a => ?_, fun n7 => ?_⟩
  · rw [if_pos a] at h
    refine br_n (fun b => ?_) (fun b => ?_)
    · rw [if_neg b] at h; exact h
    · rw [if_pos b] at h; exact h
  rw [if_neg n7] at h
  refine ⟨fun a => ?_, fun n8 => ?_⟩
  · rw [if_pos a] at h
    refine br_c (fun b => ?_) (fun b => ?_)
    · rw [if_pos b] at h; exact h
    · rw [if_neg b] at h; exact h
  rw [if_neg n8] at h
  refine ⟨fun a => ?_, fun n9 => ?_⟩
  · rw [if_pos a] at h
    refine br_n (fun b => ?_) (fun b => ?_)
    · rw [if_neg b] at h; exact h
    · rw [if_pos b] at h
      refine br_c (fun b => ?_) (fun b => ?_)
      · rw [if_pos b] at h; exact h
      · rw [if_neg b] at h; exact h
  rw [if_neg n9] at h
  refine br_n (fun b => ?_) (fun b => ?_)
  · rw [if_neg b] at h
    exact ⟨b, h⟩
  · rw [if_pos b] at h; exact h
/-- what a text gives, and what lies on the stack behind it -/
def evGives (a b c : Int32) (code : Nat → Int32) (n : Nat) (S : Nat → Int32) : Int32 × ((Nat → Int32) × Nat) := (clamp1 (evPop (evRun a b c code n 0 (S, 0))).1, (evPop (evRun a b c code n 0 (S, 0))).2)
theorem sp_gives (F v : xS) (a b c : Int32) (n : Nat) (hn : n ≤ 50) (e : v 0 1 = nI n) {K : xKo} (h0 : n = 0 → K (some (.int 1)) (xfill F v 0 (wL0 0))) (h : ¬ n = 0 → K (some (.int (evGives a b c (F 1) n (F 2)).1)) (LW F v (evGives a b c (F 1) n (F 2)).2)) : C_L_gives [.ref 0, .int a, .int b, .int c] (xfill F v 0 (wL0 0)) K := by
  have key : ∀ (d i : Nat) (q : (Nat → Int32) × Nat), i + d = n → q.2 ≤ 50 → K (some (.int (clamp1 (evPop (evRun a b c (F 1) d i q)).1))) (LW F v (evPop (evRun a b c (F 1) d i q)).2) → xWP pg_L_gives K 17 [(0, .ref 0), (1, .int a), (2, .int b), (3, .int c), (4, .int (nI i))] [] (LW F v q) (0, 0) := by
    intro d
    induction d with
    | zero =>
      intro i q hi hq hk
      have hi : i = n := hi
      subst hi
      refine xWP_go 100 [(17, [0, 1, 2, 3, 4])] fun P hP => ?_
      refine br_c (fun _ => ?_) (fun z => absurd (by show v 0 1 ≤ nI i; rw [e]; exact nI_le (Nat.le_refl _) (by omega)) z)
      refine xcall (sp_pop F v q hq ?_)
      refine xcall (sp_min _ _ ?_)
      refine xcall (sp_max _ _ ?_)
      exact hk
    | succ d ih =>
      intro i q hi hq hk
      refine xWP_go 100 [(17, [0, 1, 2, 3, 4])] fun P hP => ?_
      refine br_c (fun z => ?_) (fun _ => ?_)
      · have z : v 0 1 ≤ nI i := z
        rw [e] at z
        exact absurd z (nI_ge (by omega) (by omega))
      refine ⟨vp_in_nI (by omega) (by omega), ?_⟩
      have ec : nat (nI i) = i := nI_clamp (by omega)
      have nx : ∀ q2, evStep a b c (F 1 (nat (nI i))) q = q2 → q2.2 ≤ 50 → xWP pg_L_gives K 17 [(0, .ref 0), (1, .int a), (2, .int b), (3, .int c), (4, .int (nI i + 1))] [] (LW F v q2) (0, 0) := by
        intro q2 e2 h2
        rw [nI_1]
        refine ih (i + 1) q2 (by omega) h2 ?_
        rw [← e2, ec]
        exact hk
      refine br_c (fun w1 => ?_) (fun w1 => ?_)
      · have w1 : (10000 : Int32) ≤ F 1 (nat (nI i)) := w1
        refine br_c (fun w2 => ?_) (fun w2 => ?_)
        · have w2 : (20000 : Int32) ≤ F 1 (nat (nI i)) := w2
          refine br_n (fun w3 => ?_) (fun w3 => ?_)
          · refine xcall (sp_pop F v q hq ?_)
            refine xcall (sp_pop F v _ (evPop_le hq) ?_)
            refine xcall (sp_worked _ _ _ ?_)
            refine xcall (sp_push F v _ _ (evPop_le (evPop_le hq)) ?_)
            refine hP _ _ _ _ _ ?_
            refine nx _ ?_ (evPush_le (evPop_le (evPop_le hq)))
            exact (if_neg (fun z => by rw [xlt] at z; rw [xle] at w1; omega)).trans ((if_neg (fun z => by rw [xlt] at z; rw [xle] at w2; omega)).trans (if_neg w3))
          · refine xcall (sp_pop F v q hq ?_)
            refine br_n (fun w4 => ?_) (fun w4 => ?_)
            · refine xcall (sp_push F v _ _ (evPop_le hq) ?_)
              refine hP _ _ _ _ _ ?_
              refine nx _ ?_ (evPush_le (evPop_le hq))
              refine (if_neg (fun z => by rw [xlt] at z; rw [xle] at w1; omega)).trans ((if_neg (fun z => by rw [xlt] at z; rw [xle] at w2; omega)).trans ((if_pos w3).trans ?_))
              rw [if_neg w4]
            · refine xcall (sp_push F v _ _ (evPop_le hq) ?_)
              refine hP _ _ _ _ _ ?_
              refine nx _ ?_ (evPush_le (evPop_le hq))
              refine (if_neg (fun z => by rw [xlt] at z; rw [xle] at w1; omega)).trans ((if_neg (fun z => by rw [xlt] at z; rw [xle] at w2; omega)).trans ((if_pos w3).trans ?_))
              rw [if_pos w4]
        · have w2 : ¬ (20000 : Int32) ≤ F 1 (nat (nI i)) := w2
          have p1 : ¬ F 1 (nat (nI i)) < 10000 := fun z => by rw [xlt] at z; rw [xle] at w1; omega
          have p2 : F 1 (nat (nI i)) < 20000 := by rw [xlt]; rw [xle] at w2; omega
          refine br_n (fun w3 => ?_) (fun w3 => ?_)
          · refine br_n (fun w4 => ?_) (fun w4 => ?_)
            · refine xcall (sp_push F v q _ hq ?_)
              refine hP _ _ _ _ _ ?_
              refine nx _ ?_ (evPush_le hq)
              exact (if_neg p1).trans ((if_pos p2).trans (congrArg (evPush q) ((if_neg w3).trans (if_neg w4))))
            · refine xcall (sp_push F v q _ hq ?_)
              refine hP _ _ _ _ _ ?_
              refine nx _ ?_ (evPush_le hq)
              exact (if_neg p1).trans ((if_pos p2).trans (congrArg (evPush q) ((if_neg w3).trans (if_pos w4))))
          · refine xcall (sp_push F v q _ hq ?_)
            refine hP _ _ _ _ _ ?_
            refine nx _ ?_ (evPush_le hq)
            exact (if_neg p1).trans ((if_pos p2).trans (congrArg (evPush q) (if_pos w3)))
      · have w1 : ¬ (10000 : Int32) ≤ F 1 (nat (nI i)) := w1
        have p1 : F 1 (nat (nI i)) < 10000 := by rw [xlt]; rw [xle] at w1; omega
        refine xcall (sp_push F v q _ hq ?_)
        refine hP _ _ _ _ _ ?_
        exact nx _ (if_pos p1) (evPush_le hq)
  refine xM_go rfl 100 [(17, [0, 1, 2, 3, 4])] fun P hP => ?_
  refine br_n (fun z => ?_) (fun z => ?_)
  · have hz : ¬ n = 0 := fun y => z (by show v 0 1 = 0; rw [e, y]; rfl)
    refine hP _ _ _ _ _ ?_
    exact key n 0 (F 2, 0) (by omega) (Nat.zero_le _) (h hz)
  · have hz : n = 0 := by
      have z : v 0 1 = 0 := z
      rw [e] at z
      exact Nat.eq_zero_of_not_pos fun y => nI_ne0 y (by omega) z
    exact h0 hz
end
section
/-! ===== the tried side: pace, sight, sums, counts ===== -/
variable {Φ : hRw → Prop}
def paceV (kind m calls it : Int32) : Int32 := if kind = 1 then 1 + (m - m / 2 * 2) else if kind = 2 then 2 else if kind = 3 then (if calls - calls / 2 * 2 = 0 then 1 else 0) else if kind = 4 then 0 else if kind = 5 then (if it = -1 then 3 else 2) else if kind = 6 then (if calls - calls / 2 * 2 = 0 then 1 else 0) + (m - m / 3 * 3) else 1
def farV (kind m : Int32) : Int32 := if kind = 1 then 5 else if kind = 2 then 6 - (m - m / 3 * 3) else if kind = 3 then 2 else if kind = 4 then 5 else if kind = 5 then 7 - (m - m / 3 * 3) else if kind = 6 then 2 else 6
theorem sp_pace (F v : xS) (c : Int32) (hc : vp_in c 7) {K : xKo} (h : K (some (.int (paceV (F 3 (nat c)) (F 4 (nat c)) (v 0 10) (v 0 9)))) (xfill F v 0 (wT0 0))) : C_T_pace [.ref 0, .int c] (xfill F v 0 (wT0 0)) K := by
  unfold paceV at h
  refine xM_go rfl 60 [] fun P hP => ?_
  refine ⟨hc, ?_⟩
  refine ⟨by decide, ?_⟩
  refine br_n (fun b => ?_) (fun b => ?_)
  all_goals
    refine ⟨hc, ?_⟩
    refine ⟨fun a => ?_, fun n1 => ?_⟩
    · have a : F 3 (nat c) = 1 := a
      rw [if_pos a] at h
      exact ⟨by decide, h⟩
    have n1 : ¬ F 3 (nat c) = 1 := n1
    rw [if_neg n1] at h
    refine ⟨fun a => ?_, fun n2 => ?_⟩
    · have a : F 3 (nat c) = 2 := a
      rw [if_pos a] at h; exact h
    have n2 : ¬ F 3 (nat c) = 2 := n2
    rw [if_neg n2] at h
    refine ⟨fun a => ?_, fun n3 => ?_⟩
    · have a : F 3 (nat c) = 3 := a
      rw [if_pos a] at h
      first
        | (have b : v 0 10 - v 0 10 / 2 * 2 = 0 := b
           rw [if_pos b] at h
           exact h)
        | (have b : ¬ v 0 10 - v 0 10 / 2 * 2 = 0 := b
           rw [if_neg b] at h
           exact h)
    have n3 : ¬ F 3 (nat c) = 3 := n3
    rw [if_neg n3] at h
    refine ⟨fun a => ?_, fun n4 => ?_⟩
    · have a : F 3 (nat c) = 4 := a
      rw [if_pos a] at h; exact h
    have n4 : ¬ F 3 (nat c) = 4 := n4
    rw [if_neg n4] at h
    refine ⟨fun a => ?_, fun n5 => ?_⟩
    · have a : F 3 (nat c) = 5 := a
      rw [if_pos a] at h
      refine br_n (fun d => ?_) (fun d => ?_)
      · have d : ¬ v 0 9 = -1 := d
        rw [if_neg d] at h; exact h
      · have d : v 0 9 = -1 := d
        rw [if_pos d] at h; exact h
    have n5 : ¬ F 3 (nat c) = 5 := n5
    rw [if_neg n5] at h
    refine ⟨fun a => ?_, fun n6 => ?_⟩
    · have a : F 3 (nat c) = 6 := a
      rw [if_pos a] at h
      refine ⟨by decide, ?_⟩
      first
        | (have b : v 0 10 - v 0 10 / 2 * 2 = 0 := b
           rw [if_pos b] at h
           exact h)
        | (have b : ¬ v 0 10 - v 0 10 / 2 * 2 = 0 := b
           rw [if_neg b] at h
           exact h)
    have n6 : ¬ F 3 (nat c) = 6 := n6
    rw [if_neg n6] at h
    exact h
theorem sp_far (F v : xS) (c : Int32) (hc : vp_in c 7) {K : xKo} (h : K (some (.int (farV (F 3 (nat c)) (F 4 (nat c))))) (xfill F v 0 (wT0 0))) : C_T_far [.ref 0, .int c] (xfill F v 0 (wT0 0)) K := by
  unfold farV at h
  refine xM_go rfl 60 [] fun P hP => ?_
  refine ⟨hc, ?_⟩
  refine ⟨hc, ?_⟩
  refine ⟨fun a => ?_, fun n1 => ?_⟩
  · have a : F 3 (nat c) = 1 := a
    rw [if_pos a] at h; exact h
  have n1 : ¬ F 3 (nat c) = 1 := n1
  rw [if_neg n1] at h
  refine ⟨fun a => ?_, fun n2 => ?_⟩
  · have a : F 3 (nat c) = 2 := a
    rw [if_pos a] at h
    exact ⟨by decide, h⟩
  have n2 : ¬ F 3 (nat c) = 2 := n2
  rw [if_neg n2] at h
  refine ⟨fun a => ?_, fun n3 => ?_⟩
  · have a : F 3 (nat c) = 3 := a
    rw [if_pos a] at h; exact h
  have n3 : ¬ F 3 (nat c) = 3 := n3
  rw [if_neg n3] at h
  refine ⟨fun a => ?_, fun n4 => ?_⟩
  · have a : F 3 (nat c) = 4 := a
    rw [if_pos a] at h; exact h
  have n4 : ¬ F 3 (nat c) = 4 := n4
  rw [if_neg n4] at h
  refine ⟨fun a => ?_, fun n5 => ?_⟩
  · have a : F 3 (nat c) = 5 := a
    rw [if_pos a] at h
    exact ⟨by decide, h⟩
  have n5 : ¬ F 3 (nat c) = 5 := n5
  rw [if_neg n5] at h
  refine ⟨fun a => ?_, fun n6 => ?_⟩
  · have a : F 3 (nat c) = 6 := a
    rw [if_pos a] at h; exact h
  have n6 : ¬ F 3 (nat c) = 6 := n6
  rw [if_neg n6] at h
  exact h
def sumV (f : Nat → Int32) : Nat → Int32
  | 0 => 0
  | n + 1 => sumV f n + f n
theorem sp_sum6 (F v : xS) (n : Nat) (hn : n ≤ 7) (e : v 0 8 = nI n) {K : xKo} (h : K (some (.int (sumV (F 6) n))) (xfill F v 0 (wT0 0))) : C_T_sum [.ref 0, .ref 6] (xfill F v 0 (wT0 0)) K := by
  have key : ∀ (d i : Nat), i + d = n → xWP pg_T_sum K 4 [(0, .ref 0), (1, .ref 6), (2, .int (sumV (F 6) i)), (3, .int (nI i))] [] (xfill F v 0 (wT0 0)) (0, 0) := by
    intro d
    induction d with
    | zero =>
      intro i hi
      have hi : i = n := hi
      subst hi
      refine xWP_go 100 [(4, [0, 1, 2, 3])] fun P hP => ?_
      refine br_c (fun _ => h) (fun z => absurd (by show v 0 8 ≤ nI i; rw [e]; exact nI_le (Nat.le_refl _) (by omega)) z)
    | succ d ih =>
      intro i hi
      refine xWP_go 100 [(4, [0, 1, 2, 3])] fun P hP => ?_
      refine br_c (fun z => ?_) (fun _ => ?_)
      · have z : v 0 8 ≤ nI i := z
        rw [e] at z
        exact absurd z (nI_ge (by omega) (by omega))
      refine ⟨vp_in_nI (by omega) (by omega), ?_⟩
      refine hP _ _ _ _ _ ?_
      have q := ih (i + 1) (by omega)
      have es : sumV (F 6) (i + 1) = sumV (F 6) i + F 6 (nat (nI i)) := by
        rw [show nat (nI i) = i from nI_clamp (by omega)]
        rfl
      rw [es, ← nI_1] at q
      exact q
  refine xM_go rfl 100 [(4, [0, 1, 2, 3])] fun P hP => ?_
  refine hP _ _ _ _ _ ?_
  exact key n 0 (by omega)
theorem sp_sum7 (F v : xS) (n : Nat) (hn : n ≤ 7) (e : v 0 8 = nI n) {K : xKo} (h : K (some (.int (sumV (F 7) n))) (xfill F v 0 (wT0 0))) : C_T_sum [.ref 0, .ref 7] (xfill F v 0 (wT0 0)) K := by
  have key : ∀ (d i : Nat), i + d = n → xWP pg_T_sum K 4 [(0, .ref 0), (1, .ref 7), (2, .int (sumV (F 7) i)), (3, .int (nI i))] [] (xfill F v 0 (wT0 0)) (0, 0) := by
    intro d
    induction d with
    | zero =>
      intro i hi
      have hi : i = n := hi
      subst hi
      refine xWP_go 100 [(4, [0, 1, 2, 3])] fun P hP => ?_
      refine br_c (fun _ => h) (fun z => absurd (by show v 0 8 ≤ nI i; rw [e]; exact nI_le (Nat.le_refl _) (by omega)) z)
    | succ d ih =>
      intro i hi
      refine xWP_go 100 [(4, [0, 1, 2, 3])] fun P hP => ?_
      refine br_c (fun z => ?_) (fun _ => ?_)
      · have z : v 0 8 ≤ nI i := z
        rw [e] at z
        exact absurd z (nI_ge (by omega) (by omega))
      refine ⟨vp_in_nI (by omega) (by omega), ?_⟩
      refine hP _ _ _ _ _ ?_
      have q := ih (i + 1) (by omega)
      have es : sumV (F 7) (i + 1) = sumV (F 7) i + F 7 (nat (nI i)) := by
        rw [show nat (nI i) = i from nI_clamp (by omega)]
        rfl
      rw [es, ← nI_1] at q
      exact q
  refine xM_go rfl 100 [(4, [0, 1, 2, 3])] fun P hP => ?_
  refine hP _ _ _ _ _ ?_
  exact key n 0 (by omega)
end
section
/-! ===== the tried side: sheets ===== -/
variable {Φ : hRw → Prop}
theorem sp_fill1 (n : Nat) (hn : n ≤ 1000) (x : Int32) (f : Nat → Int32) {K : xKo} (h : ∀ g, (∀ j, j < n → g j = x) → (∀ j, n ≤ j → g j = f j) → K none [.inl (n, g)]) : C_Y_fill [.ref 0, .int x] [.inl (n, f)] K := by
  refine xM_go rfl 100 [(5, [0, 1, 2, 3])] fun P hP => ?_
  refine hP _ _ _ _ _ ?_
  have key : ∀ (d k : Nat) (g : Nat → Int32), k + d = n → (∀ j, j < k → g j = x) → (∀ j, k ≤ j → g j = f j) → xWP pg_Y_fill K 5 [(0, .ref 0), (1, .int x), (2, .int (nI k)), (3, .int (nI n))] [] [.inl (n, g)] (0, 0) := by
    intro d
    induction d with
    | zero =>
      intro k g hk h1 h2
      have hk : k = n := hk
      subst hk
      refine xWP_go 100 [(5, [0, 1, 2, 3])] fun P hP => ?_
      refine br_c (fun e => ?_) (fun e => absurd (nI_le (Nat.le_refl _) (by omega)) e)
      exact h g h1 h2
    | succ d ih =>
      intro k g hk h1 h2
      have e1 : (nI k).toNatClampNeg = k := nI_clamp (by omega)
      refine xWP_go 100 [(5, [0, 1, 2, 3])] fun P hP => ?_
      refine br_c (fun e => absurd e (nI_ge (by omega) (by omega))) (fun e => ?_)
      refine ⟨vp_in_nI (by omega) (by omega), ?_⟩
      refine hP _ _ _ _ _ ?_
      rw [e1, nI_1]
      refine ih (k + 1) _ (by omega) (fun j hj => ?_) (fun j hj => ?_)
      · by_cases hjk : j = k
        · subst hjk; exact pk_us
        · rw [pk_un hjk]; exact h1 j (by omega)
      · rw [pk_un (by omega)]; exact h2 j (by omega)
  exact key n 0 f (Nat.zero_add n) (fun j hj => absurd hj (Nat.not_lt_zero j)) (fun j _ => rfl)
theorem sp_fill2 (n : Nat) (hn : n ≤ 1000) (x : Int32) (f : Nat → Int32) {K : xKo} (h : ∀ g : Nat → Int32, (∀ j, j < n → g j = x) → K none [.inl (n, g)]) : C_Y_fill [.ref 0, .int x] [.inl (n, f)] K := sp_fill1 n hn x f fun g g1 _ => h g g1
theorem sp_begin (F v : xS) (b n : Int32) {K : xKo} (h : ∀ g : Nat → Int32, (∀ j, j < 40 → g j = 0) → K none (xfill (va_up F 1 g) (va_up v 0 (va_up (va_up (v 0) 2 b) 1 n)) 0 (wS0 0))) : C_S_begin [.ref 0, .int b, .int n] (xfill F v 0 (wS0 0)) K := by
  refine xM_go rfl 60 [] fun P hP => ?_
  refine xcall (sp_fill2 40 (by decide) 0 (F 1) (fun g g1 => ?_))
  exact h g g1
theorem sp_isMissing (F v : xS) {K : xKo} (h0 : ¬ v 0 2 = 0 → K (some (.int 0)) (xfill F v 0 (wS0 0))) (h1 : v 0 2 = 0 → K (some (.int 1)) (xfill F v 0 (wS0 0))) : C_S_isMissing [.ref 0] (xfill F v 0 (wS0 0)) K := by
  refine xM_go rfl 60 [] fun P hP => ?_
  refine br_n (fun e => ?_) (fun e => ?_)
  · exact ⟨Or.inl rfl, h0 e⟩
  · exact ⟨Or.inr rfl, h1 e⟩
theorem sp_write (F v : xS) (i x : Int32) (hi : vp_in i 40) {K : xKo} (h : K none (xfill (va_up F 1 (upd (F 1) (nat i) (bare (v 0 2) x))) v 0 (wS0 0))) : C_S_write [.ref 0, .int i, .int x] (xfill F v 0 (wS0 0)) K := by
  unfold bare at h
  refine xM_go rfl 60 [] fun P hP => ?_
  refine br_n (fun e => ?_) (fun e => ?_)
  · have e : ¬ v 0 2 = 8 := e
    rw [if_neg e] at h
    refine br_n (fun d => ?_) (fun d => ?_)
    · have d : ¬ v 0 2 = 16 := d
      rw [if_neg d] at h
      exact ⟨hi, h⟩
    · have d : v 0 2 = 16 := d
      rw [if_pos d] at h
      exact ⟨hi, h⟩
  · have e : v 0 2 = 8 := e
    rw [if_pos e] at h
    exact ⟨hi, h⟩
theorem sp_hasRun (F v : xS) (i n : Int32) (b : below 40 (v 0 1)) {K : xKo} (h0 : ¬ (0 ≤ i.toInt ∧ 0 ≤ n.toInt ∧ i.toInt + n.toInt ≤ (v 0 1).toInt) → K (some (.int 0)) (xfill F v 0 (wS0 0))) (h1 : 0 ≤ i.toInt ∧ 0 ≤ n.toInt ∧ i.toInt + n.toInt ≤ (v 0 1).toInt → K (some (.int 1)) (xfill F v 0 (wS0 0))) : C_S_hasRun [.ref 0, .int i, .int n] (xfill F v 0 (wS0 0)) K := by
  obtain ⟨k, hk, e⟩ := b
  have ek : (v 0 1).toInt = k := by rw [e]; exact nI_toInt (by omega)
  refine xM_go rfl 60 [] fun P hP => ?_
  refine br_c (fun a1 => ?_) (fun a1 => ?_)
  · exact ⟨Or.inl rfl, h0 fun z => by simp only [xlt, Int32.reduceToInt] at a1; omega⟩
  refine br_c (fun a2 => ?_) (fun a2 => ?_)
  · exact ⟨Or.inl rfl, h0 fun z => by simp only [xlt, Int32.reduceToInt] at a2; omega⟩
  refine br_c (fun a3 => ?_) (fun a3 => ?_)
  · have a3 : v 0 1 < i := a3
    exact ⟨Or.inl rfl, h0 fun z => by rw [xlt] at a3; omega⟩
  have a3 : ¬ v 0 1 < i := a3
  have es : (v 0 1 - i).toInt = k - i.toInt := by
    obtain ⟨j, hj, rfl, -⟩ := nI_ofx i (n := 41) (by simp only [xlt, Int32.reduceToInt] at a1 a3; exact ⟨by omega, by omega⟩) (by decide)
    rw [e, pk_sub_toInt (by omega) (by omega), nI_toInt (by omega)]
  refine br_c (fun a4 => ?_) (fun a4 => ?_)
  · have a4 : v 0 1 - i < n := a4
    exact ⟨Or.inl rfl, h0 fun z => by rw [xlt] at a4; omega⟩
  · have a4 : ¬ v 0 1 - i < n := a4
    exact ⟨Or.inr rfl, h1 (by simp only [xlt, Int32.reduceToInt] at a1 a2 a3 a4; omega)⟩
def okBits (b : Int32) : Prop := b = 0 ∨ b = 8 ∨ b = 16 ∨ b = 32
def g_sheet (s b n : Int32) (q : xA) : xA := if xin s 4 ∧ (b = 0 ∨ ((b = 8 ∨ b = 16 ∨ b = 32) ∧ xin n 41)) then (q.1, q.2.1, va_up (va_up (va_up q.2.2 (nat s) (fun _ => 0)) 4 (upd (q.2.2 4) (nat s) (if b = 0 then 0 else n))) 5 (upd (q.2.2 5) (nat s) b)) else q
def f_sheet (s b n : Int32) (q : xA) : xAn := if xin s 4 ∧ (b = 0 ∨ b = 8 ∨ b = 16 ∨ b = 32) then (if b = 0 then (1, 0) else if n.toInt < 0 then (-1000000003, 3) else if 40 < n.toInt then (-1000000001, 1) else (1, 0)) else (-1000000001, 1)
def g_put (s i x : Int32) (q : xA) : xA := if xin s 4 ∧ ¬ q.2.2 5 (nat s) = 0 ∧ xin i (q.2.2 4 (nat s)).toInt then (q.1, q.2.1, va_up q.2.2 (nat s) (upd (q.2.2 (nat s)) (nat i) (bare (q.2.2 5 (nat s)) x))) else q
def f_put (s i x : Int32) (q : xA) : xAn := if xin s 4 then (if q.2.2 5 (nat s) = 0 then (-1000000002, 2) else if xin i (q.2.2 4 (nat s)).toInt then (1, 0) else (-1000000001, 1)) else (-1000000001, 1)
set_option maxRecDepth 100000 in
theorem hs_sheet (n : Nat) (F v : xS) (I : aIv n (hA F v)) (S : hS Φ F v) (s b n : Int32) {K : xKo} (h : hTo Φ F v (g_sheet s b n) (f_sheet s b n) K) : C_H_sheet [.ref 0, .int s, .int b, .int n] (xfill F v 0 wH0) K := by
  have go0 : b = 0 → xin s 4 → ∀ (P : Nat → xL → List Value → xW → xB → Prop) , True := fun _ _ _ => trivial
  refine xM_go rfl 100 [(36, [0, 1, 2, 3])] fun P hP => ?_
  have go : xin s 4 → (b = 0 ∨ b = 8 ∨ b = 16 ∨ b = 32) → xWP pg_H_sheet K 36 [(0, .ref 0), (1, .int s), (2, .int b), (3, .int n)] [] (xfill F v 0 wH0) (0, 0) := by
    intro a1 hb
    refine xWP_go 100 [] fun P hP => ?_
    refine br_n (fun b0 => ?_) (fun b0 => ?_)
    · have nb : ¬ b = 0 := b0
      have hb3 : b = 8 ∨ b = 16 ∨ b = 32 := by
        rcases hb with y | y
        · exact absurd y nb
        · exact y
      refine br_c (fun c0 => ?_) (fun c0 => ?_)
      · have c0 : 0 ≤ n := c0
        refine br_c (fun c1 => ?_) (fun c1 => ?_)
        · have c1 : n ≤ 40 := c1
          have hn : xin n 41 := by
            rw [xle] at c0 c1
            exact ⟨c0, by rw [show (40 : Int32).toInt = 40 by decide] at c1; omega⟩
          have ef : f_sheet s b n (hA F v) = (1, 0) := (if_pos ⟨a1, hb⟩).trans ((if_neg nb).trans ((if_neg (by simp only [xin] at hn; omega)).trans (if_neg (by simp only [xin] at hn; omega))))
          have eg : g_sheet s b n (hA F v) = ((hA F v).1, (hA F v).2.1, va_up (va_up (va_up (hA F v).2.2 (nat s) (fun _ => 0)) 4 (upd ((hA F v).2.2 4) (nat s) n)) 5 (upd ((hA F v).2.2 5) (nat s) b)) := (if_pos ⟨a1, Or.inr ⟨hb3, hn⟩⟩).trans (by rw [if_neg nb])
          refine ⟨vin a1, ⟨fun es0 => ?_, ⟨fun es0 => ?_, ⟨fun es0 => ?_, ⟨fun es0 => ?_, trivial⟩⟩⟩⟩⟩
          · have es : nat s = 0 := by rw [es0]; decide
            refine xcall (sp_begin (fun k => F (61 + k)) (fun k => v (61 + k)) b n (fun g hg => ?_))
            refine h.ok (F' := va_up F 62 g) (v' := va_up v 61 (va_up (va_up (v 61) 2 b) 1 n)) S ?_ ef
            rw [eg, es]
            exact ⟨⟨⟨rfl, rfl, rfl, rfl, rfl, rfl⟩, fun _ _ => ⟨rfl, rfl⟩, fun _ _ => ⟨rfl, rfl⟩, fun _ _ => rfl, fun _ _ => rfl⟩, ⟨⟨fun j hj => hg j hj, fun _ _ => rfl, fun _ _ => rfl, fun _ _ => rfl⟩, ⟨⟨rfl, rfl, rfl, rfl⟩, rfl, rfl, rfl, rfl⟩, ⟨rfl, rfl⟩, fun _ _ => rfl⟩, fun _ => ⟨⟨rfl, rfl, rfl, rfl, rfl, rfl⟩, fun _ _ => ⟨rfl, rfl⟩, fun _ _ => ⟨rfl, rfl⟩, fun _ _ => rfl, fun _ _ => rfl⟩⟩
          · have es : nat s = 1 := by rw [es0]; decide
            refine xcall (sp_begin (fun k => F (63 + k)) (fun k => v (63 + k)) b n (fun g hg => ?_))
            refine h.ok (F' := va_up F 64 g) (v' := va_up v 63 (va_up (va_up (v 63) 2 b) 1 n)) S ?_ ef
            rw [eg, es]
            exact ⟨⟨⟨rfl, rfl, rfl, rfl, rfl, rfl⟩, fun _ _ => ⟨rfl, rfl⟩, fun _ _ => ⟨rfl, rfl⟩, fun _ _ => rfl, fun _ _ => rfl⟩, ⟨⟨fun _ _ => rfl, fun j hj => hg j hj, fun _ _ => rfl, fun _ _ => rfl⟩, ⟨⟨rfl, rfl, rfl, rfl⟩, rfl, rfl, rfl, rfl⟩, ⟨rfl, rfl⟩, fun _ _ => rfl⟩, fun _ => ⟨⟨rfl, rfl, rfl, rfl, rfl, rfl⟩, fun _ _ => ⟨rfl, rfl⟩, fun _ _ => ⟨rfl, rfl⟩, fun _ _ => rfl, fun _ _ => rfl⟩⟩
          · have es : nat s = 2 := by rw [es0]; decide
            refine xcall (sp_begin (fun k => F (65 + k)) (fun k => v (65 + k)) b n (fun g hg => ?_))
            refine h.ok (F' := va_up F 66 g) (v' := va_up v 65 (va_up (va_up (v 65) 2 b) 1 n)) S ?_ ef
            rw [eg, es]
            exact ⟨⟨⟨rfl, rfl, rfl, rfl, rfl, rfl⟩, fun _ _ => ⟨rfl, rfl⟩, fun _ _ => ⟨rfl, rfl⟩, fun _ _ => rfl, fun _ _ => rfl⟩, ⟨⟨fun _ _ => rfl, fun _ _ => rfl, fun j hj => hg j hj, fun _ _ => rfl⟩, ⟨⟨rfl, rfl, rfl, rfl⟩, rfl, rfl, rfl, rfl⟩, ⟨rfl, rfl⟩, fun _ _ => rfl⟩, fun _ => ⟨⟨rfl, rfl, rfl, rfl, rfl, rfl⟩, fun _ _ => ⟨rfl, rfl⟩, fun _ _ => ⟨rfl, rfl⟩, fun _ _ => rfl, fun _ _ => rfl⟩⟩
          · have es : nat s = 3 := by rw [es0]; decide
            refine xcall (sp_begin (fun k => F (67 + k)) (fun k => v (67 + k)) b n (fun g hg => ?_))
            refine h.ok (F' := va_up F 68 g) (v' := va_up v 67 (va_up (va_up (v 67) 2 b) 1 n)) S ?_ ef
            rw [eg, es]
            exact ⟨⟨⟨rfl, rfl, rfl, rfl, rfl, rfl⟩, fun _ _ => ⟨rfl, rfl⟩, fun _ _ => ⟨rfl, rfl⟩, fun _ _ => rfl, fun _ _ => rfl⟩, ⟨⟨fun _ _ => rfl, fun _ _ => rfl, fun _ _ => rfl, fun j hj => hg j hj⟩, ⟨⟨rfl, rfl, rfl, rfl⟩, rfl, rfl, rfl, rfl⟩, ⟨rfl, rfl⟩, fun _ _ => rfl⟩, fun _ => ⟨⟨rfl, rfl, rfl, rfl, rfl, rfl⟩, fun _ _ => ⟨rfl, rfl⟩, fun _ _ => ⟨rfl, rfl⟩, fun _ _ => rfl, fun _ _ => rfl⟩⟩
        · have c1 : ¬ n ≤ 40 := c1
          have hn : ¬ xin n 41 := fun z => c1 (by rw [xle, show (40 : Int32).toInt = 40 by decide]; simp only [xin] at z; omega)
          have hn2 : 40 < n.toInt := by
            rw [xle, show (40 : Int32).toInt = 40 by decide] at c1
            omega
          refine xcall (sp_errH F v 1 (by decide) ?_)
          refine h.err S (if_neg fun z => ?_) ((if_pos ⟨a1, hb⟩).trans ((if_neg nb).trans ((if_neg (by omega)).trans (if_pos hn2))))
          rcases z.2 with y | y
          · exact nb y
          · exact hn y.2
      · have c0 : ¬ 0 ≤ n := c0
        have hn2 : n.toInt < 0 := by
          rw [xle, show (0 : Int32).toInt = 0 by decide] at c0
          omega
        refine xcall (sp_errH F v 3 (by decide) ?_)
        refine h.err S (if_neg fun z => ?_) ((if_pos ⟨a1, hb⟩).trans ((if_neg nb).trans (if_pos hn2)))
        rcases z.2 with y | y
        · exact nb y
        · have y2 := y.2
          simp only [xin] at y2
          omega
    · have b0 : b = 0 := b0
      subst b0
      refine ⟨vin a1, ⟨fun es0 => ?_, ⟨fun es0 => ?_, ⟨fun es0 => ?_, ⟨fun es0 => ?_, trivial⟩⟩⟩⟩⟩
      · have es : nat s = 0 := by rw [es0]; decide
        refine xcall (sp_begin (fun k => F (61 + k)) (fun k => v (61 + k)) 0 0 (fun g hg => ?_))
        refine h.ok (F' := va_up F 62 g) (v' := va_up v 61 (va_up (va_up (v 61) 2 0) 1 0)) S ?_ ((if_pos ⟨a1, hb⟩).trans (if_pos rfl))
        rw [show g_sheet s 0 n (hA F v) = _ from if_pos ⟨a1, Or.inl rfl⟩, es]
        exact ⟨⟨⟨rfl, rfl, rfl, rfl, rfl, rfl⟩, fun _ _ => ⟨rfl, rfl⟩, fun _ _ => ⟨rfl, rfl⟩, fun _ _ => rfl, fun _ _ => rfl⟩, ⟨⟨fun j hj => hg j hj, fun _ _ => rfl, fun _ _ => rfl, fun _ _ => rfl⟩, ⟨⟨rfl, rfl, rfl, rfl⟩, rfl, rfl, rfl, rfl⟩, ⟨rfl, rfl⟩, fun _ _ => rfl⟩, fun _ => ⟨⟨rfl, rfl, rfl, rfl, rfl, rfl⟩, fun _ _ => ⟨rfl, rfl⟩, fun _ _ => ⟨rfl, rfl⟩, fun _ _ => rfl, fun _ _ => rfl⟩⟩
      · have es : nat s = 1 := by rw [es0]; decide
        refine xcall (sp_begin (fun k => F (63 + k)) (fun k => v (63 + k)) 0 0 (fun g hg => ?_))
        refine h.ok (F' := va_up F 64 g) (v' := va_up v 63 (va_up (va_up (v 63) 2 0) 1 0)) S ?_ ((if_pos ⟨a1, hb⟩).trans (if_pos rfl))
        rw [show g_sheet s 0 n (hA F v) = _ from if_pos ⟨a1, Or.inl rfl⟩, es]
        exact ⟨⟨⟨rfl, rfl, rfl, rfl, rfl, rfl⟩, fun _ _ => ⟨rfl, rfl⟩, fun _ _ => ⟨rfl, rfl⟩, fun _ _ => rfl, fun _ _ => rfl⟩, ⟨⟨fun _ _ => rfl, fun j hj => hg j hj, fun _ _ => rfl, fun _ _ => rfl⟩, ⟨⟨rfl, rfl, rfl, rfl⟩, rfl, rfl, rfl, rfl⟩, ⟨rfl, rfl⟩, fun _ _ => rfl⟩, fun _ => ⟨⟨rfl, rfl, rfl, rfl, rfl, rfl⟩, fun _ _ => ⟨rfl, rfl⟩, fun _ _ => ⟨rfl, rfl⟩, fun _ _ => rfl, fun _ _ => rfl⟩⟩
      · have es : nat s = 2 := by rw [es0]; decide
        refine xcall (sp_begin (fun k => F (65 + k)) (fun k => v (65 + k)) 0 0 (fun g hg => ?_))
        refine h.ok (F' := va_up F 66 g) (v' := va_up v 65 (va_up (va_up (v 65) 2 0) 1 0)) S ?_ ((if_pos ⟨a1, hb⟩).trans (if_pos rfl))
        rw [show g_sheet s 0 n (hA F v) = _ from if_pos ⟨a1, Or.inl rfl⟩, es]
        exact ⟨⟨⟨rfl, rfl, rfl, rfl, rfl, rfl⟩, fun _ _ => ⟨rfl, rfl⟩, fun _ _ => ⟨rfl, rfl⟩, fun _ _ => rfl, fun _ _ => rfl⟩, ⟨⟨fun _ _ => rfl, fun _ _ => rfl, fun j hj => hg j hj, fun _ _ => rfl⟩, ⟨⟨rfl, rfl, rfl, rfl⟩, rfl, rfl, rfl, rfl⟩, ⟨rfl, rfl⟩, fun _ _ => rfl⟩, fun _ => ⟨⟨rfl, rfl, rfl, rfl, rfl, rfl⟩, fun _ _ => ⟨rfl, rfl⟩, fun _ _ => ⟨rfl, rfl⟩, fun _ _ => rfl, fun _ _ => rfl⟩⟩
      · have es : nat s = 3 := by rw [es0]; decide
        refine xcall (sp_begin (fun k => F (67 + k)) (fun k => v (67 + k)) 0 0 (fun g hg => ?_))
        refine h.ok (F' := va_up F 68 g) (v' := va_up v 67 (va_up (va_up (v 67) 2 0) 1 0)) S ?_ ((if_pos ⟨a1, hb⟩).trans (if_pos rfl))
        rw [show g_sheet s 0 n (hA F v) = _ from if_pos ⟨a1, Or.inl rfl⟩, es]
        exact ⟨⟨⟨rfl, rfl, rfl, rfl, rfl, rfl⟩, fun _ _ => ⟨rfl, rfl⟩, fun _ _ => ⟨rfl, rfl⟩, fun _ _ => rfl, fun _ _ => rfl⟩, ⟨⟨fun _ _ => rfl, fun _ _ => rfl, fun _ _ => rfl, fun j hj => hg j hj⟩, ⟨⟨rfl, rfl, rfl, rfl⟩, rfl, rfl, rfl, rfl⟩, ⟨rfl, rfl⟩, fun _ _ => rfl⟩, fun _ => ⟨⟨rfl, rfl, rfl, rfl, rfl, rfl⟩, fun _ _ => ⟨rfl, rfl⟩, fun _ _ => ⟨rfl, rfl⟩, fun _ _ => rfl, fun _ _ => rfl⟩⟩
  refine xcall (sp_isBelow _ _ (fun a1 => ?_) (fun a1 => ?_))
  · refine br_c (fun _ => ?_) (fun z => absurd rfl z)
    refine xcall (sp_errH F v 1 (by decide) ?_)
    exact h.err S (if_neg fun z => a1 z.1) (if_neg fun z => a1 z.1)
  refine br_c (fun z => absurd z (by decide)) (fun _ => ?_)
  refine br_c (fun b0 => hP _ _ _ _ _ (go a1 (Or.inl b0))) (fun b0 => ?_)
  refine br_c (fun b1 => hP _ _ _ _ _ (go a1 (Or.inr (Or.inl b1)))) (fun b1 => ?_)
  refine br_c (fun b2 => hP _ _ _ _ _ (go a1 (Or.inr (Or.inr (Or.inl b2))))) (fun b2 => ?_)
  refine br_c (fun b3 => hP _ _ _ _ _ (go a1 (Or.inr (Or.inr (Or.inr b3))))) (fun b3 => ?_)
  refine xcall (sp_errH F v 1 (by decide) ?_)
  refine h.err S (if_neg fun z => ?_) (if_neg fun z => ?_)
  · rcases z.2 with y | ⟨y | y | y, -⟩
    · exact b0 y
    · exact b1 y
    · exact b2 y
    · exact b3 y
  · rcases z.2 with y | y | y | y
    · exact b0 y
    · exact b1 y
    · exact b2 y
    · exact b3 y
end
section
/-! ===== the tried side: numbers put into sheets ===== -/
variable {Φ : hRw → Prop}
set_option maxRecDepth 100000 in
theorem hs_put (n : Nat) (F v : xS) (I : aIv n (hA F v)) (S : hS Φ F v) (s i x : Int32) {K : xKo} (h : hTo Φ F v (g_put s i x) (f_put s i x) K) : C_H_put [.ref 0, .int s, .int i, .int x] (xfill F v 0 wH0) K := by
  refine xM_go rfl 100 [] fun P hP => ?_
  refine xcall (sp_isBelow _ _ (fun a1 => ?_) (fun a1 => ?_))
  · refine br_n (fun z => absurd rfl z) (fun _ => ?_)
    refine xcall (sp_errH F v 1 (by decide) ?_)
    exact h.err S (if_neg fun z => a1 z.1) (if_neg a1)
  refine br_n (fun _ => ?_) (fun z => absurd z (by decide))
  refine ⟨vin a1, ⟨fun es0 => ?_, ⟨fun es0 => ?_, ⟨fun es0 => ?_, ⟨fun es0 => ?_, trivial⟩⟩⟩⟩⟩
  · have es : nat s = 0 := by rw [es0]; decide
    have b4 : below 40 (v 61 1) := I.2.1.2.1.1
    refine xcall (sp_isMissing (fun k => F (61 + k)) (fun k => v (61 + k)) (fun m0 => ?_) (fun m0 => ?_))
    · have m0 : ¬ v 61 2 = 0 := m0
      refine br_c (fun _ => ?_) (fun z => absurd rfl z)
      refine xcall (sp_isBelow _ _ (fun a2 => ?_) (fun a2 => ?_))
      · refine br_n (fun z => absurd rfl z) (fun _ => ?_)
        refine xcall (sp_errH F v 1 (by decide) ?_)
        refine h.err S (if_neg fun z => a2 ?_) ((if_pos a1).trans ((if_neg ?_).trans (if_neg fun z => a2 ?_)))
        · have z := z.2.2
          rw [es] at z
          exact z
        · rw [es]
          exact m0
        · rw [es] at z
          exact z
      · have a2 : xin i (v 61 1).toInt := a2
        refine br_n (fun _ => ?_) (fun z => absurd z (by decide))
        refine xcall (sp_write (fun k => F (61 + k)) (fun k => v (61 + k)) i x (vinB b4 a2 (Nat.le_refl _) (by omega)) ?_)
        have hc : xin s 4 ∧ ¬ (hA F v).2.2 5 (nat s) = 0 ∧ xin i ((hA F v).2.2 4 (nat s)).toInt := by
          rw [es]
          exact ⟨a1, m0, a2⟩
        refine h.ok (F' := va_up F 62 (upd (F 62) (nat i) (bare (v 61 2) x))) (v' := v) S ?_ ((if_pos a1).trans ((if_neg hc.2.1).trans (if_pos hc.2.2)))
        rw [show g_put s i x (hA F v) = _ from if_pos hc, es]
        exact ⟨⟨⟨rfl, rfl, rfl, rfl, rfl, rfl⟩, fun _ _ => ⟨rfl, rfl⟩, fun _ _ => ⟨rfl, rfl⟩, fun _ _ => rfl, fun _ _ => rfl⟩, ⟨⟨fun _ _ => rfl, fun _ _ => rfl, fun _ _ => rfl, fun _ _ => rfl⟩, ⟨⟨rfl, rfl, rfl, rfl⟩, rfl, rfl, rfl, rfl⟩, ⟨rfl, rfl⟩, fun _ _ => rfl⟩, fun _ => ⟨⟨rfl, rfl, rfl, rfl, rfl, rfl⟩, fun _ _ => ⟨rfl, rfl⟩, fun _ _ => ⟨rfl, rfl⟩, fun _ _ => rfl, fun _ _ => rfl⟩⟩
    · have m0 : v 61 2 = 0 := m0
      refine br_c (fun z => absurd z (by decide)) (fun _ => ?_)
      refine xcall (sp_errH F v 2 (by decide) ?_)
      refine h.err S (if_neg fun z => z.2.1 ?_) ((if_pos a1).trans (if_pos ?_))
      · rw [es]
        exact m0
      · rw [es]
        exact m0
  · have es : nat s = 1 := by rw [es0]; decide
    have b4 : below 40 (v 63 1) := I.2.1.2.1.2.1
    refine xcall (sp_isMissing (fun k => F (63 + k)) (fun k => v (63 + k)) (fun m0 => ?_) (fun m0 => ?_))
    · have m0 : ¬ v 63 2 = 0 := m0
      refine br_c (fun _ => ?_) (fun z => absurd rfl z)
      refine xcall (sp_isBelow _ _ (fun a2 => ?_) (fun a2 => ?_))
      · refine br_n (fun z => absurd rfl z) (fun _ => ?_)
        refine xcall (sp_errH F v 1 (by decide) ?_)
        refine h.err S (if_neg fun z => a2 ?_) ((if_pos a1).trans ((if_neg ?_).trans (if_neg fun z => a2 ?_)))
        · have z := z.2.2
          rw [es] at z
          exact z
        · rw [es]
          exact m0
        · rw [es] at z
          exact z
      · have a2 : xin i (v 63 1).toInt := a2
        refine br_n (fun _ => ?_) (fun z => absurd z (by decide))
        refine xcall (sp_write (fun k => F (63 + k)) (fun k => v (63 + k)) i x (vinB b4 a2 (Nat.le_refl _) (by omega)) ?_)
        have hc : xin s 4 ∧ ¬ (hA F v).2.2 5 (nat s) = 0 ∧ xin i ((hA F v).2.2 4 (nat s)).toInt := by
          rw [es]
          exact ⟨a1, m0, a2⟩
        refine h.ok (F' := va_up F 64 (upd (F 64) (nat i) (bare (v 63 2) x))) (v' := v) S ?_ ((if_pos a1).trans ((if_neg hc.2.1).trans (if_pos hc.2.2)))
        rw [show g_put s i x (hA F v) = _ from if_pos hc, es]
        exact ⟨⟨⟨rfl, rfl, rfl, rfl, rfl, rfl⟩, fun _ _ => ⟨rfl, rfl⟩, fun _ _ => ⟨rfl, rfl⟩, fun _ _ => rfl, fun _ _ => rfl⟩, ⟨⟨fun _ _ => rfl, fun _ _ => rfl, fun _ _ => rfl, fun _ _ => rfl⟩, ⟨⟨rfl, rfl, rfl, rfl⟩, rfl, rfl, rfl, rfl⟩, ⟨rfl, rfl⟩, fun _ _ => rfl⟩, fun _ => ⟨⟨rfl, rfl, rfl, rfl, rfl, rfl⟩, fun _ _ => ⟨rfl, rfl⟩, fun _ _ => ⟨rfl, rfl⟩, fun _ _ => rfl, fun _ _ => rfl⟩⟩
    · have m0 : v 63 2 = 0 := m0
      refine br_c (fun z => absurd z (by decide)) (fun _ => ?_)
      refine xcall (sp_errH F v 2 (by decide) ?_)
      refine h.err S (if_neg fun z => z.2.1 ?_) ((if_pos a1).trans (if_pos ?_))
      · rw [es]
        exact m0
      · rw [es]
        exact m0
  · have es : nat s = 2 := by rw [es0]; decide
    have b4 : below 40 (v 65 1) := I.2.1.2.1.2.2.1
    refine xcall (sp_isMissing (fun k => F (65 + k)) (fun k => v (65 + k)) (fun m0 => ?_) (fun m0 => ?_))
    · have m0 : ¬ v 65 2 = 0 := m0
      refine br_c (fun _ => ?_) (fun z => absurd rfl z)
      refine xcall (sp_isBelow _ _ (fun a2 => ?_) (fun a2 => ?_))
      · refine br_n (fun z => absurd rfl z) (fun _ => ?_)
        refine xcall (sp_errH F v 1 (by decide) ?_)
        refine h.err S (if_neg fun z => a2 ?_) ((if_pos a1).trans ((if_neg ?_).trans (if_neg fun z => a2 ?_)))
        · have z := z.2.2
          rw [es] at z
          exact z
        · rw [es]
          exact m0
        · rw [es] at z
          exact z
      · have a2 : xin i (v 65 1).toInt := a2
        refine br_n (fun _ => ?_) (fun z => absurd z (by decide))
        refine xcall (sp_write (fun k => F (65 + k)) (fun k => v (65 + k)) i x (vinB b4 a2 (Nat.le_refl _) (by omega)) ?_)
        have hc : xin s 4 ∧ ¬ (hA F v).2.2 5 (nat s) = 0 ∧ xin i ((hA F v).2.2 4 (nat s)).toInt := by
          rw [es]
          exact ⟨a1, m0, a2⟩
        refine h.ok (F' := va_up F 66 (upd (F 66) (nat i) (bare (v 65 2) x))) (v' := v) S ?_ ((if_pos a1).trans ((if_neg hc.2.1).trans (if_pos hc.2.2)))
        rw [show g_put s i x (hA F v) = _ from if_pos hc, es]
        exact ⟨⟨⟨rfl, rfl, rfl, rfl, rfl, rfl⟩, fun _ _ => ⟨rfl, rfl⟩, fun _ _ => ⟨rfl, rfl⟩, fun _ _ => rfl, fun _ _ => rfl⟩, ⟨⟨fun _ _ => rfl, fun _ _ => rfl, fun _ _ => rfl, fun _ _ => rfl⟩, ⟨⟨rfl, rfl, rfl, rfl⟩, rfl, rfl, rfl, rfl⟩, ⟨rfl, rfl⟩, fun _ _ => rfl⟩, fun _ => ⟨⟨rfl, rfl, rfl, rfl, rfl, rfl⟩, fun _ _ => ⟨rfl, rfl⟩, fun _ _ => ⟨rfl, rfl⟩, fun _ _ => rfl, fun _ _ => rfl⟩⟩
    · have m0 : v 65 2 = 0 := m0
      refine br_c (fun z => absurd z (by decide)) (fun _ => ?_)
      refine xcall (sp_errH F v 2 (by decide) ?_)
      refine h.err S (if_neg fun z => z.2.1 ?_) ((if_pos a1).trans (if_pos ?_))
      · rw [es]
        exact m0
      · rw [es]
        exact m0
  · have es : nat s = 3 := by rw [es0]; decide
    have b4 : below 40 (v 67 1) := I.2.1.2.1.2.2.2
    refine xcall (sp_isMissing (fun k => F (67 + k)) (fun k => v (67 + k)) (fun m0 => ?_) (fun m0 => ?_))
    · have m0 : ¬ v 67 2 = 0 := m0
      refine br_c (fun _ => ?_) (fun z => absurd rfl z)
      refine xcall (sp_isBelow _ _ (fun a2 => ?_) (fun a2 => ?_))
      · refine br_n (fun z => absurd rfl z) (fun _ => ?_)
        refine xcall (sp_errH F v 1 (by decide) ?_)
        refine h.err S (if_neg fun z => a2 ?_) ((if_pos a1).trans ((if_neg ?_).trans (if_neg fun z => a2 ?_)))
        · have z := z.2.2
          rw [es] at z
          exact z
        · rw [es]
          exact m0
        · rw [es] at z
          exact z
      · have a2 : xin i (v 67 1).toInt := a2
        refine br_n (fun _ => ?_) (fun z => absurd z (by decide))
        refine xcall (sp_write (fun k => F (67 + k)) (fun k => v (67 + k)) i x (vinB b4 a2 (Nat.le_refl _) (by omega)) ?_)
        have hc : xin s 4 ∧ ¬ (hA F v).2.2 5 (nat s) = 0 ∧ xin i ((hA F v).2.2 4 (nat s)).toInt := by
          rw [es]
          exact ⟨a1, m0, a2⟩
        refine h.ok (F' := va_up F 68 (upd (F 68) (nat i) (bare (v 67 2) x))) (v' := v) S ?_ ((if_pos a1).trans ((if_neg hc.2.1).trans (if_pos hc.2.2)))
        rw [show g_put s i x (hA F v) = _ from if_pos hc, es]
        exact ⟨⟨⟨rfl, rfl, rfl, rfl, rfl, rfl⟩, fun _ _ => ⟨rfl, rfl⟩, fun _ _ => ⟨rfl, rfl⟩, fun _ _ => rfl, fun _ _ => rfl⟩, ⟨⟨fun _ _ => rfl, fun _ _ => rfl, fun _ _ => rfl, fun _ _ => rfl⟩, ⟨⟨rfl, rfl, rfl, rfl⟩, rfl, rfl, rfl, rfl⟩, ⟨rfl, rfl⟩, fun _ _ => rfl⟩, fun _ => ⟨⟨rfl, rfl, rfl, rfl, rfl, rfl⟩, fun _ _ => ⟨rfl, rfl⟩, fun _ _ => ⟨rfl, rfl⟩, fun _ _ => rfl, fun _ _ => rfl⟩⟩
    · have m0 : v 67 2 = 0 := m0
      refine br_c (fun z => absurd z (by decide)) (fun _ => ?_)
      refine xcall (sp_errH F v 2 (by decide) ?_)
      refine h.err S (if_neg fun z => z.2.1 ?_) ((if_pos a1).trans (if_pos ?_))
      · rw [es]
        exact m0
      · rw [es]
        exact m0
end
