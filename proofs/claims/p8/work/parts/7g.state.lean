/-! ===== a state that both sides tell ===== -/
/-- the street's tables (now, kept, the rest); what is told now, kept -/
abbrev xZ : Type := xA × xXt × xXt
def hXr (r : hRw1) (X : xXt) : Prop := (∀ j, j < 7 → r.1.1 j = X.1 0 j ∧ r.1.2.1 j = X.1 1 j ∧ r.1.2.2.1 j = X.1 2 j) ∧ r.1.2.2.2 = X.2.1 ∧ hLw r.2.1 r.2.2.1 (X.2.2 0) ∧ hLw r.2.2.2.1 r.2.2.2.2 (X.2.2 1)
def mXr (r : xRw) (X : xXt) : Prop := (∀ j, j < 7 → r (25 + 5 * j + 2) = X.1 0 j ∧ r (25 + 5 * j + 3) = X.1 1 j ∧ r (25 + 5 * j + 4) = X.1 2 j) ∧ r 8 = X.2.1 ∧ mLw r 0 (X.2.2 0) ∧ mLw r 1 (X.2.2 1)
def hZ (σ : xZ) (r : hRw) : Prop := hXr r.1 σ.2.1 ∧ (¬ σ.1.2.2 6 0 = 0 → hXr r.2 σ.2.2)
def mZ (σ : xZ) (r : mRw) : Prop := mXr r.1 σ.2.1 ∧ (¬ σ.1.2.2 6 0 = 0 → mXr r.2 σ.2.2)
/-- behind the children nobody was had or safe -/
def out0 (s : xS) (X : xXt) : Prop := ∀ j, nat (s 6 1) ≤ j → j < 7 → X.1 1 j = 0 ∧ X.1 2 j = 0
def zIv (σ : xZ) : Prop := (cIv σ.1.1 σ.2.1 ∧ out0 σ.1.1 σ.2.1) ∧ (¬ σ.1.2.2 6 0 = 0 → cIv σ.1.2.1 σ.2.2 ∧ out0 σ.1.2.1 σ.2.2)
def HR (n : Nat) (σ : xZ) (F v : xS) : Prop := aIv n σ.1 ∧ zIv σ ∧ agr (hA F v) σ.1 ∧ hS (hZ σ) F v
def MR (n : Nat) (σ : xZ) (F v : xS) : Prop := aIv n σ.1 ∧ zIv σ ∧ agr (mA F v) σ.1 ∧ mS (mZ σ) F v
theorem HR.J {n : Nat} {σ : xZ} {F v : xS} (R : HR n σ F v) : aIv n (hA F v) := R.1.of R.2.2.1.sy
theorem MR.J {n : Nat} {σ : xZ} {F v : xS} (R : MR n σ F v) : aIv n (mA F v) := R.1.of R.2.2.1.sy
theorem HR.c {n : Nat} {σ : xZ} {F v : xS} (R : HR n σ F v) : cIv σ.1.1 σ.2.1 := R.2.1.1.1
theorem MR.c {n : Nat} {σ : xZ} {F v : xS} (R : MR n σ F v) : cIv σ.1.1 σ.2.1 := R.2.1.1.1
theorem HR.z {n : Nat} {σ : xZ} {F v : xS} (R : HR n σ F v) : hZ σ (hX F v) := R.2.2.2.2.2.2
theorem MR.z {n : Nat} {σ : xZ} {F v : xS} (R : MR n σ F v) : mZ σ (mX F) := R.2.2.2.2.1.2
theorem tH.xr {F v s : xS} {X : xXt} (T : tH (fun k => F (1 + k)) (fun k => v (1 + k)) s X) : hXr (hX F v).1 X := ⟨T.2.2.2.1, T.1.2.2.2, T.2.2.2.2⟩
theorem tH.of {F v s : xS} {X : xXt} (A : sAgr (hSt F v 1) s) (z : hXr (hX F v).1 X) : tH (fun k => F (1 + k)) (fun k => v (1 + k)) s X := by
  obtain ⟨⟨a0, a1, a2, a3, a4, a5⟩, h0, h1, h2, h3⟩ := A
  refine ⟨⟨a0, a1, a2, z.2.1⟩, fun j hj => h0 j ?_, fun j hj => h1 j ?_, z.1, z.2.2⟩
  · rw [a0]; exact hj
  · rw [a1]; exact hj
theorem HR.t {n : Nat} {σ : xZ} {F v : xS} (R : HR n σ F v) : tH (fun k => F (1 + k)) (fun k => v (1 + k)) σ.1.1 σ.2.1 := tH.of R.2.2.1.1 R.z.1
theorem mXr.row {f : Nat → Int32} {X : xXt} : mXr (fun j => if exi j then f j else 0) X ↔ mXr f X := by
  have e : ∀ j, exi j = true → (if exi j then f j else 0) = f j := fun j h => if_pos h
  have ea : ∀ j w, j < 7 → 2 ≤ w → w < 5 → (fun j => if exi j then f j else 0) (25 + 5 * j + w) = f (25 + 5 * j + w) := fun j w hj h2 h5 => e _ (exi_of (Or.inr (Or.inr (Or.inr (Or.inl ⟨by omega, by omega, by omega⟩)))))
  have e8 : (fun j => if exi j then f j else 0) 8 = f 8 := rfl
  have e6 : ∀ u, u < 2 → (fun j => if exi j then f j else 0) (6 + u) = f (6 + u) := fun u hu => by
    rcases (show u = 0 ∨ u = 1 by omega) with z | z
    all_goals subst z
    all_goals rfl
  have et : ∀ k, 130 ≤ k → k < 230 → (fun j => if exi j then f j else 0) k = f k := fun k a b => e _ (exi_of (Or.inr (Or.inr (Or.inr (Or.inr ⟨a, b⟩)))))
  refine ⟨fun h => ⟨fun j hj => ?_, e8.symm.trans h.2.1, ?_, ?_⟩, fun h => ⟨fun j hj => ?_, e8.trans h.2.1, ?_, ?_⟩⟩
  · have q := h.1 j hj
    rw [ea j 2 hj (by decide) (by decide), ea j 3 hj (by decide) (by decide), ea j 4 hj (by decide) (by decide)] at q
    exact q
  · exact h.2.2.1.of (by decide) (e6 0 (by decide)).symm (fun k a b => (et k a b).symm)
  · exact h.2.2.2.of (by decide) (e6 1 (by decide)).symm (fun k a b => (et k a b).symm)
  · rw [ea j 2 hj (by decide) (by decide), ea j 3 hj (by decide) (by decide), ea j 4 hj (by decide) (by decide)]
    exact h.1 j hj
  · exact h.2.2.1.of (by decide) (e6 0 (by decide)) et
  · exact h.2.2.2.of (by decide) (e6 1 (by decide)) et
theorem tM.of_agr {f : Nat → Int32} {s : xS} {X : xXt} (A : sAgr (mSt f) s) (z : mXr f X) : tM f s X := by
  obtain ⟨⟨a0, a1, a2, a3, a4, a5⟩, h0, h1, h2, h3⟩ := A
  refine ⟨⟨a0, a1, a2, z.2.1⟩, fun j hj => h0 j ?_, fun j hj => h1 j ?_, z.1, z.2.2⟩
  · rw [a0]; exact hj
  · rw [a1]; exact hj
theorem MR.t {n : Nat} {σ : xZ} {F v : xS} (R : MR n σ F v) : tM (F 1) σ.1.1 σ.2.1 := tM.of_agr R.2.2.1.1 (mXr.row.mp R.z.1)
theorem MR.tk {n : Nat} {σ : xZ} {F v : xS} (R : MR n σ F v) : v 0 15 = 0 := R.2.2.2.2.2.2.1
theorem sm_0 (s : xS) : sm 0 s = s := by
  funext k
  by_cases e : k = 1
  · subst e
    funext j
    refine if_neg (fun z => ?_)
    have q : (0 : Int32) >>> (nI j &&& 31) = 0 := Int32.zero_shiftRight
    have z : (0 >>> (nI j &&& 31)) &&& 1 = (1 : Int32) := z
    rw [q] at z
    exact absurd z (by decide)
  · exact if_neg e
-- the class's side: what a thought leaves
def gA (k : Nat) : Bool := (Nat.ble 1 k && Nat.blt k 19 && aE (k - 1)) || (Nat.ble 37 k && Nat.blt k 55) || k == 69
def gB (k j : Nat) : Bool := (Nat.ble 1 k && Nat.blt k 19 && bE (k - 1) j) || (Nat.ble 37 k && Nat.blt k 55)
abbrev hG (F v F' v' : xS) : Prop := tR gA gB F v F' v'
theorem hG.up37 {F v G w : xS} : hG F v (upS 37 F G) (upS 37 v w) := by
  have k : ∀ k, ¬ (37 ≤ k ∧ k < 37 + 18) ∨ (Nat.ble 37 k && Nat.blt k 55) = true := fun k => by
    by_cases h : 37 ≤ k ∧ k < 37 + 18
    · refine Or.inr ?_
      rw [Bool.and_eq_true]
      exact ⟨Nat.ble_eq_true_of_le h.1, Nat.ble_eq_true_of_le h.2⟩
    · exact Or.inl h
  refine ⟨fun i z => ?_, fun i j z => ?_⟩
  · rcases k i with h | h
    · exact up_out h
    · rw [show gA i = true by unfold gA; rw [h]; simp] at z
      exact absurd z (by decide)
  · rcases k i with h | h
    · exact congrFun (up_out h) j
    · rw [show gB i j = true by unfold gB; rw [h]; simp] at z
      exact absurd z (by decide)
theorem hG.e1 {F v G w : xS} (E : tR aE bE (fun k => F (1 + k)) (fun k => v (1 + k)) G w) : hG F v (upS 1 F G) (upS 1 v w) := by
  refine ⟨fun i z => ?_, fun i j z => ?_⟩
  · by_cases h : 1 ≤ i ∧ i < 1 + 18
    · rw [up_in h]
      have a : aE (i - 1) = false := by
        simp only [gA, Bool.or_eq_false_iff] at z
        rw [show (Nat.ble 1 i && Nat.blt i 19) = true by rw [Bool.and_eq_true]; exact ⟨Nat.ble_eq_true_of_le h.1, Nat.ble_eq_true_of_le h.2⟩] at z
        simpa using z.1.1
      have q := E.1 (i - 1) a
      rw [q]
      show F (1 + (i - 1)) = F i
      rw [show 1 + (i - 1) = i by omega]
    · exact up_out h
  · by_cases h : 1 ≤ i ∧ i < 1 + 18
    · rw [up_in h]
      have a : bE (i - 1) j = false := by
        simp only [gB, Bool.or_eq_false_iff] at z
        rw [show (Nat.ble 1 i && Nat.blt i 19) = true by rw [Bool.and_eq_true]; exact ⟨Nat.ble_eq_true_of_le h.1, Nat.ble_eq_true_of_le h.2⟩] at z
        simpa using z.1
      have q := E.2 (i - 1) j a
      rw [q]
      show v (1 + (i - 1)) j = v i j
      rw [show 1 + (i - 1) = i by omega]
    · exact congrFun (up_out h) j
theorem hG.agr {F v F' v' : xS} (E : hG F v F' v') : agr (hA F' v') (hA F v) := ⟨⟨⟨E.2 1 2 rfl, E.2 1 8 rfl, E.2 1 10 rfl, E.2 1 11 rfl, E.2 1 14 rfl, E.2 1 16 rfl⟩, fun j _ => ⟨congrFun (E.1 2 rfl) j, congrFun (E.1 3 rfl) j⟩, fun j _ => ⟨congrFun (E.1 4 rfl) j, congrFun (E.1 5 rfl) j⟩, fun j _ => congrFun (E.1 16 rfl) j, fun j _ => congrFun (E.1 17 rfl) j⟩, ⟨⟨fun j _ => congrFun (E.1 62 rfl) j, fun j _ => congrFun (E.1 64 rfl) j, fun j _ => congrFun (E.1 66 rfl) j, fun j _ => congrFun (E.1 68 rfl) j⟩, ⟨⟨E.2 61 1 rfl, E.2 63 1 rfl, E.2 65 1 rfl, E.2 67 1 rfl⟩, E.2 61 2 rfl, E.2 63 2 rfl, E.2 65 2 rfl, E.2 67 2 rfl⟩, ⟨E.2 0 7 rfl, E.2 58 1 rfl⟩, fun j _ => congrFun (E.1 59 rfl) j⟩, fun _ => ⟨⟨E.2 19 2 rfl, E.2 19 8 rfl, E.2 19 10 rfl, E.2 19 11 rfl, E.2 19 14 rfl, E.2 19 16 rfl⟩, fun j _ => ⟨congrFun (E.1 20 rfl) j, congrFun (E.1 21 rfl) j⟩, fun j _ => ⟨congrFun (E.1 22 rfl) j, congrFun (E.1 23 rfl) j⟩, fun j _ => congrFun (E.1 34 rfl) j, fun j _ => congrFun (E.1 35 rfl) j⟩⟩
theorem hG.X {F v F' v' : xS} (E : hG F v F' v') : hX F' v' = hX F v := by
  unfold hX
  rw [E.1 6 rfl, E.1 7 rfl, E.1 8 rfl, E.2 1 9 rfl, E.1 11 rfl, E.2 10 1 rfl, E.1 14 rfl, E.2 13 1 rfl, E.1 24 rfl, E.1 25 rfl, E.1 26 rfl, E.2 19 9 rfl, E.1 29 rfl, E.2 28 1 rfl, E.1 32 rfl, E.2 31 1 rfl]
theorem HR.keep {n : Nat} {σ : xZ} {F v F' v' : xS} (R : HR n σ F v) (E : hG F v F' v') : HR (n + 1) σ F' v' := by
  obtain ⟨I, Z, A, S⟩ := R
  refine ⟨I.up, Z, E.agr.tr A, ⟨?_, ?_⟩, ?_, ?_, ?_⟩
  · rw [E.2 10 1 rfl]; exact S.1.1
  · rw [E.2 13 1 rfl]; exact S.1.2
  · rw [E.2 28 1 rfl]; exact S.2.1
  · rw [E.2 31 1 rfl]; exact S.2.2.1
  · rw [E.X]; exact S.2.2.2
theorem HR.up {n : Nat} {σ : xZ} {F v : xS} (R : HR n σ F v) : HR (n + 1) σ F v := R.keep tR.rf
/-- what comes behind a call that leaves the state -/
abbrev hK (n : Nat) (σ : xZ) (f : Int32) (K : xKo) : Prop := ∀ F' v', HR (n + 1) σ F' v' → K (some (.int f)) (xfill F' v' 0 wH0)
abbrev mK (n : Nat) (σ : xZ) (f : Int32) (K : xKo) : Prop := ∀ F' v', MR (n + 1) σ F' v' → K (some (.int f)) (xfill F' v' 0 (wM0 0))
theorem HR.err {n : Nat} {σ : xZ} {F v : xS} {K : xKo} {f k : Int32} (R : HR n σ F v) (h : hK n σ f K) (x : Nat → Int32) (ef : f = k) : K (some (.int k)) (xfill (va_up F 69 x) v 0 wH0) := by
  subst ef
  exact h _ _ (R.keep (tR.rf.fu rfl))
theorem HR.id {n : Nat} {σ : xZ} {F v : xS} {K : xKo} {f k : Int32} (R : HR n σ F v) (h : hK n σ f K) (ef : f = k) : K (some (.int k)) (xfill F v 0 wH0) := by
  subst ef
  exact h _ _ R.up
theorem HR.go {n : Nat} {σ : xZ} {F v F' v' : xS} {K : xKo} {f k : Int32} (R : HR n σ F v) (h : hK n σ f K) (E : hG F v F' v') (ef : f = k) : K (some (.int k)) (xfill F' v' 0 wH0) := by
  subst ef
  exact h _ _ (R.keep E)
/-- a method that leaves what is told: the new state -/
theorem HR.st {n : Nat} {σ : xZ} {F' v' : xS} {s' : xA} (I : aIv (n + 1) s') (Z : zIv (s', σ.2)) (e : s'.2.2 6 0 = σ.1.2.2 6 0) (A : agr (hA F' v') s') (S : hS (hZ σ) F' v') : HR (n + 1) (s', σ.2) F' v' := by
  refine ⟨I, Z, A, S.1, S.2.1, S.2.2.1, ?_⟩
  have q : hZ (s', σ.2) = hZ σ := by
    unfold hZ
    show (fun r : hRw => hXr r.1 σ.2.1 ∧ (¬ s'.2.2 6 0 = 0 → hXr r.2 σ.2.2)) = _
    rw [e]
  rw [q]
  exact S.2.2.2
theorem MR.st {n : Nat} {σ : xZ} {F' v' : xS} {s' : xA} (I : aIv (n + 1) s') (Z : zIv (s', σ.2)) (e : s'.2.2 6 0 = σ.1.2.2 6 0) (A : agr (mA F' v') s') (S : mS (mZ σ) F' v') : MR (n + 1) (s', σ.2) F' v' := by
  refine ⟨I, Z, A, S.1, ⟨S.2.1.1, ?_⟩, S.2.2⟩
  have q : mZ (s', σ.2) = mZ σ := by
    unfold mZ
    show (fun r : mRw => mXr r.1 σ.2.1 ∧ (¬ s'.2.2 6 0 = 0 → mXr r.2 σ.2.2)) = _
    rw [e]
  rw [q]
  exact S.2.1.2
-- the reference's side
theorem mX_of {F F' : xS} (h : ∀ j, j < 230 → F' 1 j = F 1 j) (h2 : F' 2 = F 2) : mX F' = mX F := by
  have q : (fun j => if exi j then F' 1 j else 0) = (fun j => if exi j then F 1 j else 0) := by
    funext j
    cases e : exi j with
    | true =>
      rw [if_pos rfl, if_pos rfl]
      exact h j (by have := exi_in e; omega)
    | false => rw [if_neg Bool.false_ne_true, if_neg Bool.false_ne_true]
  show ((fun j => if exi j then F' 1 j else 0), (fun j => if exi j then F' 2 j else 0)) = mX F
  rw [q, h2]
  rfl
theorem mR.keepS {Ψ : mRw → Prop} {F v F' v' : xS} (E : mR r0 F v F' v') (S : mS Ψ F v) : mS Ψ F' v' := by
  have e1 : ∀ j, j < 230 → F' 1 j = F 1 j := fun j hj => E.2.1 j hj rfl
  have e2 : F' 2 = F 2 := E.k ⟨by decide, by decide, by decide, by decide⟩
  refine ⟨⟨?_, ?_⟩, ⟨⟨?_, ?_⟩, ?_⟩, ?_, ?_, ?_⟩
  · rw [e1 6 (by omega)]; exact S.1.1
  · rw [e1 7 (by omega)]; exact S.1.2
  · rw [e2]; exact S.2.1.1.1
  · rw [e2]; exact S.2.1.1.2
  · rw [mX_of e1 e2]; exact S.2.1.2
  · rw [E.v (j := 4) (by omega), E.v (j := 5) (by omega)]; exact S.2.2.1
  · rw [E.v (j := 15) (by omega)]; exact S.2.2.2.1
  · rw [E.k (k := 6) ⟨by decide, by decide, by decide, by decide⟩, E.k (k := 8) ⟨by decide, by decide, by decide, by decide⟩]; exact S.2.2.2.2
theorem MR.keep {n : Nat} {σ : xZ} {F v F' v' : xS} (R : MR n σ F v) (E : mR r0 F v F' v') : MR (n + 1) σ F' v' := ⟨R.1.up, R.2.1, (E.agr ok_r0 R.J rfl rfl).tr R.2.2.1, E.keepS R.2.2.2⟩
theorem MR.up {n : Nat} {σ : xZ} {F v : xS} (R : MR n σ F v) : MR (n + 1) σ F v := R.keep mR.rf
theorem MR.err {n : Nat} {σ : xZ} {F v : xS} {K : xKo} {f k : Int32} (R : MR n σ F v) (h : mK n σ f K) (x : Nat → Int32) (ef : f = k) : K (some (.int k)) (xfill (va_up F 5 x) v 0 (wM0 0)) := by
  subst ef
  exact h _ _ (R.keep (mR.rf.f3 (Or.inr (Or.inr rfl))))
theorem MR.id {n : Nat} {σ : xZ} {F v : xS} {K : xKo} {f k : Int32} (R : MR n σ F v) (h : mK n σ f K) (ef : f = k) : K (some (.int k)) (xfill F v 0 (wM0 0)) := by
  subst ef
  exact h _ _ R.up
theorem MR.go {n : Nat} {σ : xZ} {F v F' v' : xS} {K : xKo} {f k : Int32} (R : MR n σ F v) (h : mK n σ f K) (E : mR r0 F v F' v') (ef : f = k) : K (some (.int k)) (xfill F' v' 0 (wM0 0)) := by
  subst ef
  exact h _ _ (R.keep E)
theorem mR.vr {F v v' : xS} (h : vR v v') : mR r0 F v F v' := ⟨fun _ => Or.inr (Or.inr (Or.inr (Or.inr rfl))), fun _ _ _ => rfl, h⟩
