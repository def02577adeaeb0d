/-! ===== the tried side: what would be, without its outcome ===== -/
def upS (b : Nat) (F G : xS) : xS := fun k => if b ≤ k ∧ k < b + 18 then G (k - b) else F k
def wA (k : Nat) : Bool := (Nat.ble 1 k && Nat.blt k 19 && aP (k - 1)) || (Nat.ble 37 k && Nat.blt k 55) || k == 69
def wB (k j : Nat) : Bool := (Nat.ble 1 k && Nat.blt k 19 && bP (k - 1) j) || (Nat.ble 37 k && Nat.blt k 55)
def wC (k j : Nat) : Bool := wB k j || k == 1 && (j == 10 || j == 11)
abbrev hR (F v F' v' : xS) : Prop := tR wA wB F v F' v'
abbrev hQ (F v F' v' : xS) : Prop := tR wA wC F v F' v'
theorem hR.q {F v F' v' : xS} (h : hR F v F' v') : hQ F v F' v' := h.wd (fun _ z => z) (fun k j z => by
  simp only [wC, Bool.or_eq_false_iff] at z
  exact z.1)
theorem up_in {b : Nat} {F G : xS} {k : Nat} (h : b ≤ k ∧ k < b + 18) : upS b F G k = G (k - b) := if_pos h
theorem up_out {b : Nat} {F G : xS} {k : Nat} (h : ¬ (b ≤ k ∧ k < b + 18)) : upS b F G k = F k := if_neg h
theorem hR.up37 {F v G w : xS} : hR F v (upS 37 F G) (upS 37 v w) := by
  have k : ∀ k, ¬ (37 ≤ k ∧ k < 37 + 18) ∨ (Nat.ble 37 k && Nat.blt k 55) = true := fun k => by
    by_cases h : 37 ≤ k ∧ k < 37 + 18
    · refine Or.inr ?_
      rw [Bool.and_eq_true]
      exact ⟨Nat.ble_eq_true_of_le h.1, Nat.ble_eq_true_of_le h.2⟩
    · exact Or.inl h
  refine ⟨fun i z => ?_, fun i j z => ?_⟩
  · rcases k i with h | h
    · exact up_out h
    · rw [show wA i = true by unfold wA; rw [h]; simp] at z
      exact absurd z (by decide)
  · rcases k i with h | h
    · exact congrFun (up_out h) j
    · rw [show wB i j = true by unfold wB; rw [h]; simp] at z
      exact absurd z (by decide)
theorem hQ.up1 {F v G w : xS} (E : tR aP bQ (fun k => F (1 + k)) (fun k => v (1 + k)) G w) : hQ F v (upS 1 F G) (upS 1 v w) := by
  refine ⟨fun i z => ?_, fun i j z => ?_⟩
  · by_cases h : 1 ≤ i ∧ i < 1 + 18
    · rw [up_in h]
      have a : aP (i - 1) = false := by
        simp only [wA, Bool.or_eq_false_iff] at z
        rw [show (Nat.ble 1 i && Nat.blt i 19) = true by rw [Bool.and_eq_true]; exact ⟨Nat.ble_eq_true_of_le h.1, Nat.ble_eq_true_of_le h.2⟩] at z
        simpa using z.1.1
      have q := E.1 (i - 1) a
      rw [q]
      show F (1 + (i - 1)) = F i
      rw [show 1 + (i - 1) = i by omega]
    · exact up_out h
  · by_cases h : 1 ≤ i ∧ i < 1 + 18
    · rw [up_in h]
      have a : bQ (i - 1) j = false := by
        simp only [wC, wB, Bool.or_eq_false_iff] at z
        rw [show (Nat.ble 1 i && Nat.blt i 19) = true by rw [Bool.and_eq_true]; exact ⟨Nat.ble_eq_true_of_le h.1, Nat.ble_eq_true_of_le h.2⟩] at z
        have z1 : bP (i - 1) j = false := by simpa using z.1.1
        have z2 := z.2
        unfold bP at z1
        unfold bQ
        simp only [Bool.or_eq_false_iff, Bool.and_eq_false_iff, beq_eq_false_iff_ne] at z1 z2 ⊢
        refine ⟨z1.1, ?_⟩
        by_cases i0 : i - 1 = 0
        · have i1 : i = 1 := by omega
          exact Or.inr ⟨z1.2.elim (fun y => absurd i0 y) id, z2.elim (fun y => absurd i1 y) fun y => y.1⟩
        · exact Or.inl i0
      have q := E.2 (i - 1) j a
      rw [q]
      show v (1 + (i - 1)) j = v i j
      rw [show 1 + (i - 1) = i by omega]
    · exact congrFun (up_out h) j
theorem hR.up1 {F v G w : xS} (E : tR aP bP (fun k => F (1 + k)) (fun k => v (1 + k)) G w) : hR F v (upS 1 F G) (upS 1 v w) := by
  refine ⟨(hQ.up1 (tP.q E)).1, fun i j z => ?_⟩
  by_cases h : 1 ≤ i ∧ i < 1 + 18
  · rw [up_in h]
    have a : bP (i - 1) j = false := by
      simp only [wB, Bool.or_eq_false_iff] at z
      rw [show (Nat.ble 1 i && Nat.blt i 19) = true by rw [Bool.and_eq_true]; exact ⟨Nat.ble_eq_true_of_le h.1, Nat.ble_eq_true_of_le h.2⟩] at z
      simpa using z.1
    have q := E.2 (i - 1) j a
    rw [q]
    show v (1 + (i - 1)) j = v i j
    rw [show 1 + (i - 1) = i by omega]
  · exact congrFun (up_out h) j
theorem hR.e1 {F v G w : xS} (E : tR aE bE (fun k => F (1 + k)) (fun k => v (1 + k)) G w) : hR F v (upS 1 F G) (upS 1 v w) := hR.up1 (tE.p E)
theorem hR.er {F v F' v' : xS} {x : Nat → Int32} (E : hR F v F' v') : hR F v (va_up F' 69 x) v' := E.fu rfl
theorem hR.agr {F v F' v' : xS} (E : hR F v F' v') : agr (hA F' v') (hA F v) := ⟨⟨⟨E.2 1 2 rfl, E.2 1 8 rfl, E.2 1 10 rfl, E.2 1 11 rfl, E.2 1 14 rfl, E.2 1 16 rfl⟩, fun j _ => ⟨congrFun (E.1 2 rfl) j, congrFun (E.1 3 rfl) j⟩, fun j _ => ⟨congrFun (E.1 4 rfl) j, congrFun (E.1 5 rfl) j⟩, fun j _ => congrFun (E.1 16 rfl) j, fun j _ => congrFun (E.1 17 rfl) j⟩, ⟨⟨fun j _ => congrFun (E.1 62 rfl) j, fun j _ => congrFun (E.1 64 rfl) j, fun j _ => congrFun (E.1 66 rfl) j, fun j _ => congrFun (E.1 68 rfl) j⟩, ⟨⟨E.2 61 1 rfl, E.2 63 1 rfl, E.2 65 1 rfl, E.2 67 1 rfl⟩, E.2 61 2 rfl, E.2 63 2 rfl, E.2 65 2 rfl, E.2 67 2 rfl⟩, ⟨E.2 0 7 rfl, E.2 58 1 rfl⟩, fun j _ => congrFun (E.1 59 rfl) j⟩, fun _ => ⟨⟨E.2 19 2 rfl, E.2 19 8 rfl, E.2 19 10 rfl, E.2 19 11 rfl, E.2 19 14 rfl, E.2 19 16 rfl⟩, fun j _ => ⟨congrFun (E.1 20 rfl) j, congrFun (E.1 21 rfl) j⟩, fun j _ => ⟨congrFun (E.1 22 rfl) j, congrFun (E.1 23 rfl) j⟩, fun j _ => congrFun (E.1 34 rfl) j, fun j _ => congrFun (E.1 35 rfl) j⟩⟩
theorem hQ.agr {F v F' v' : xS} (E : hQ F v F' v') {a b : Int32} (ha : v' 1 10 = a) (hb : v' 1 11 = b) : agr (hA F' v') (va_up (hA F v).1 6 (upd (upd ((hA F v).1 6) 2 a) 3 b), (hA F v).2) := ⟨⟨⟨E.2 1 2 rfl, E.2 1 8 rfl, ha, hb, E.2 1 14 rfl, E.2 1 16 rfl⟩, fun j _ => ⟨congrFun (E.1 2 rfl) j, congrFun (E.1 3 rfl) j⟩, fun j _ => ⟨congrFun (E.1 4 rfl) j, congrFun (E.1 5 rfl) j⟩, fun j _ => congrFun (E.1 16 rfl) j, fun j _ => congrFun (E.1 17 rfl) j⟩, ⟨⟨fun j _ => congrFun (E.1 62 rfl) j, fun j _ => congrFun (E.1 64 rfl) j, fun j _ => congrFun (E.1 66 rfl) j, fun j _ => congrFun (E.1 68 rfl) j⟩, ⟨⟨E.2 61 1 rfl, E.2 63 1 rfl, E.2 65 1 rfl, E.2 67 1 rfl⟩, E.2 61 2 rfl, E.2 63 2 rfl, E.2 65 2 rfl, E.2 67 2 rfl⟩, ⟨E.2 0 7 rfl, E.2 58 1 rfl⟩, fun j _ => congrFun (E.1 59 rfl) j⟩, fun _ => ⟨⟨E.2 19 2 rfl, E.2 19 8 rfl, E.2 19 10 rfl, E.2 19 11 rfl, E.2 19 14 rfl, E.2 19 16 rfl⟩, fun j _ => ⟨congrFun (E.1 20 rfl) j, congrFun (E.1 21 rfl) j⟩, fun j _ => ⟨congrFun (E.1 22 rfl) j, congrFun (E.1 23 rfl) j⟩, fun j _ => congrFun (E.1 34 rfl) j, fun j _ => congrFun (E.1 35 rfl) j⟩⟩
theorem tI.o2 {F v F' v' : xS} (I : tI (fun k => v (1 + k))) (E : hQ F v F' v') : tI (fun k => v' (1 + k)) := ⟨⟨by show below 8 (v' 1 2); rw [E.2 1 2 rfl]; exact I.1.1, by show below 7 (v' 1 8); rw [E.2 1 8 rfl]; exact I.1.2⟩, by show below 50 (v' 10 1); rw [E.2 10 1 rfl]; exact I.2.1, by show below 50 (v' 13 1); rw [E.2 13 1 rfl]; exact I.2.2⟩
def g_call (m t : Int32) (s : xA) : xA := if (xin m 6 ∧ xin t 10) ∧ nat (s.1 6 2) < 9999 then (va_up s.1 6 (upd (upd (s.1 6) 2 (s.1 6 2 + 1)) 3 (s.1 6 3)), s.2) else s
def zS (z : Int32) : Int32 := z * 1103515245 + 12345
def zN : Nat → Int32 → Int32
  | 0, z => z
  | n + 1, z => zS (zS (zN n z))
def g_loose (n : Int32) (s : xA) : xA := if (1 ≤ n.toInt ∧ n.toInt ≤ 40) ∧ nat (s.1 6 2) + nat n ≤ 9999 then (va_up s.1 6 (upd (upd (s.1 6) 2 (nI (nat (s.1 6 2) + nat n))) 3 (zN (nat n) (s.1 6 3))), s.2) else s
theorem sp_draw (F v : xS) (y : Int32) (hy : y = zS (v 0 11)) {K : xKo} (h : ∀ r, K (some (.int r)) (xfill F (va_up v 0 (va_up (v 0) 11 y)) 0 (wT0 0))) : C_T_draw [.ref 0] (xfill F v 0 (wT0 0)) K := by
  refine xM_go rfl 60 [] fun P hP => ?_
  subst hy
  exact h _
theorem hQ.z {F v F' v' : xS} {x : Int32} (E : hQ F v F' v') : hQ F v F' (va_up v' 1 (va_up (v' 1) 11 x)) := E.vu rfl
