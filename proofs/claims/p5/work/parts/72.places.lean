/-! ===== places with its answer ===== -/
theorem i8_rng (x : Int8) : -(2 ^ (8 - 1) : Int) ≤ x.toInt32.toInt ∧ x.toInt32.toInt < 2 ^ (8 - 1) := by
  rw [Int8.toInt_toInt32]
  exact ⟨x.le_toInt, x.toInt_lt⟩
theorem i16_rng (x : Int16) : -(2 ^ (16 - 1) : Int) ≤ x.toInt32.toInt ∧ x.toInt32.toInt < 2 ^ (16 - 1) := by
  rw [Int16.toInt_toInt32]
  exact ⟨x.le_toInt, x.toInt_lt⟩
theorem low_cell {x m : Int32} {e : Nat} (he : 5 ≤ e ∧ e ≤ 16) (hm : m.toBitVec = BitVec.ofNat 32 (2 ^ e - 1)) (r : -(2 ^ (e - 1) : Int) ≤ x.toInt ∧ x.toInt < 2 ^ (e - 1)) : xin (x &&& m) 12 ↔ xin x 12 := by
  have p1 : (2 : Nat) ^ e ≤ 2 ^ 16 := Nat.pow_le_pow_right (by decide) he.2
  have p2 : (2 : Nat) ^ 4 ≤ 2 ^ (e - 1) := Nat.pow_le_pow_right (by decide) (by omega)
  have p3 : (2 : Nat) ^ e = 2 * 2 ^ (e - 1) := by rw [← Nat.pow_succ']; congr 1; omega
  have c : ((2 : Int) ^ (e - 1)) = ((2 ^ (e - 1) : Nat) : Int) := by norm_cast
  rw [c] at r
  have n : (x &&& m).toBitVec.toNat = x.toBitVec.toNat % 2 ^ e := by
    rw [Int32.toBitVec_and, BitVec.toNat_and, hm, BitVec.toNat_ofNat, Nat.mod_eq_of_lt (show 2 ^ e - 1 < 2 ^ 32 by omega), Nat.and_two_pow_sub_one_eq_mod]
  have l := x.toBitVec.isLt
  have t1 : x.toInt = if 2 * x.toBitVec.toNat < 2 ^ 32 then (x.toBitVec.toNat : Int) else (x.toBitVec.toNat : Int) - 2 ^ 32 := BitVec.toInt_eq_toNat_cond x.toBitVec
  have t2 : (x &&& m).toInt = if 2 * (x &&& m).toBitVec.toNat < 2 ^ 32 then ((x &&& m).toBitVec.toNat : Int) else ((x &&& m).toBitVec.toNat : Int) - 2 ^ 32 := BitVec.toInt_eq_toNat_cond (x &&& m).toBitVec
  have ml : x.toBitVec.toNat % 2 ^ e < 2 ^ e := Nat.mod_lt _ (Nat.two_pow_pos e)
  rw [n, if_pos (by omega)] at t2
  simp only [xin]
  rw [t2]
  by_cases g : 2 * x.toBitVec.toNat < 2 ^ 32
  · rw [if_pos g] at t1
    rw [Nat.mod_eq_of_lt (by omega), t1]
  · rw [if_neg g] at t1
    -- below zero: the low bits are at least half
    have q : x.toBitVec.toNat % 2 ^ e ≥ 2 ^ (e - 1) := by
      have d : ∃ u : Nat, 2 ^ 32 = 2 ^ e * u := ⟨2 ^ (32 - e), by rw [← Nat.pow_add]; congr 1; omega⟩
      obtain ⟨u, hu⟩ := d
      obtain ⟨y, hy⟩ : ∃ y : Nat, y = 2 ^ 32 - x.toBitVec.toNat := ⟨_, rfl⟩
      have y1 : y ≤ 2 ^ (e - 1) := by omega
      have y0 : 0 < y := by omega
      have u1 : 1 ≤ u := Nat.pos_of_ne_zero fun z => by rw [z, Nat.mul_zero] at hu; omega
      have ex : x.toBitVec.toNat = 2 ^ e * (u - 1) + (2 ^ e - y) := by
        have : 2 ^ e * u = 2 ^ e * (u - 1) + 2 ^ e := by
          rw [← Nat.mul_succ]; congr 1; omega
        omega
      rw [ex, Nat.mul_add_mod, Nat.mod_eq_of_lt (by omega)]
      omega
    rw [t1]
    omega
def cntP (f : Nat → Int32) : Nat → Nat → Nat
  | 0, i => i
  | d + 1, i => if xin (f i) 12 then cntP f d (i + 1) else i
theorem cntP_le {f : Nat → Int32} : ∀ {d i : Nat}, cntP f d i ≤ i + d := by
  intro d
  induction d with
  | zero => intro i; exact Nat.le_refl _
  | succ d ih =>
    intro i
    unfold cntP
    split
    · have := ih (i := i + 1); omega
    · omega
theorem cntP_eq {f g : Nat → Int32} : ∀ {d i : Nat}, (∀ j, j < i + d → (xin (f j) 12 ↔ xin (g j) 12)) → cntP f d i = cntP g d i := by
  intro d
  induction d with
  | zero => intro i _; rfl
  | succ d ih =>
    intro i h
    unfold cntP
    by_cases c : xin (f i) 12
    · rw [if_pos c, if_pos ((h i (by omega)).mp c)]
      exact ih (fun j hj => h j (by omega))
    · rw [if_neg c, if_neg (fun z => c ((h i (by omega)).mpr z))]
def plN (s : Int32) (q : xA) : Nat := min (nat (q.2.2 4 (nat s))) (nat (q.1 6 1))
def f_places (s : Int32) (q : xA) : Int32 := if xin s 4 then (if q.2.2 5 (nat s) = 0 then -1000000002 else nI (cntP (q.2.2 (nat s)) (plN s q) 0)) else -1000000001
theorem min_eq {a b : Int32} {A B : Nat} (ha : below A a) (hb : below B b) (hA : A < 2 ^ 31) (hB : B < 2 ^ 31) : (if a ≤ b then a else b) = nI (min (nat a) (nat b)) := by
  obtain ⟨k, hk, rfl⟩ := ha
  obtain ⟨j, hj, rfl⟩ := hb
  rw [show nat (nI k) = k from nI_clamp (by omega), show nat (nI j) = j from nI_clamp (by omega)]
  by_cases h : k ≤ j
  · rw [if_pos ((nI_leI (by omega) (by omega)).mpr h), Nat.min_eq_left h]
  · rw [if_neg (fun z => h ((nI_leI (by omega) (by omega)).mp z)), Nat.min_eq_right (by omega)]
theorem sgn_cell {b x : Int32} (h : sgn b x = x) : xin (bare b x) 12 ↔ xin x 12 := by
  unfold sgn at h
  unfold bare
  by_cases c : b = 8
  · rw [if_pos c] at h ⊢
    exact low_cell (m := 255) (e := 8) (by omega) rfl (by rw [← h]; exact i8_rng _)
  rw [if_neg c] at h ⊢
  by_cases d : b = 16
  · rw [if_pos d] at h ⊢
    exact low_cell (m := 65535) (e := 16) (by omega) rfl (by rw [← h]; exact i16_rng _)
  · rw [if_neg d]
set_option maxRecDepth 100000 in
theorem hx_places (n : Nat) (F v : xS) (I : aIv n (hA F v)) (S : hS v) (s : Int32) {K : xKo} (h : hTo F v (fun s => s) (f_places s) K) : C_H_places [.ref 0, .int s] (xfill F v 0 wH0) K := by
  have b8 : below 7 (v 1 8) := I.1.1.2.1
  refine xM_go rfl 100 [(52, [0, 1, 2, 3, 4])] fun P hP => ?_
  refine xcall (sp_isBelow _ _ (fun a1 => ?_) (fun a1 => ?_))
  · refine br_n (fun z => absurd rfl z) (fun _ => ?_)
    refine xcall (sp_errH F v 1 (by decide) ?_)
    exact h.err S _ rfl (if_neg a1)
  refine br_n (fun _ => ?_) (fun z => absurd z (by decide))
  refine ⟨vin a1, ⟨fun es0 => ?_, ⟨fun es0 => ?_, ⟨fun es0 => ?_, ⟨fun es0 => ?_, trivial⟩⟩⟩⟩⟩
  · have b4 : below 40 (v 61 1) := I.2.1.2.1.1
    have es : nat s = 0 := by rw [es0]; decide
    refine xcall (sp_isMissing (fun k => F (61 + k)) (fun k => v (61 + k)) (fun m0 => ?_) (fun m0 => ?_))
    · have m0 : ¬ v 61 2 = 0 := m0
      have u0 : ¬ (hA F v).2.2 5 (nat s) = 0 := by rw [es]; exact m0
      refine br_c (fun _ => ?_) (fun z => absurd rfl z)
      refine xcall (sp_min _ _ ?_)
      have m3 := min_eq b4 b8 (by omega) (by omega)
      obtain ⟨m, em⟩ : ∃ m, m = min (nat (v 61 1)) (nat (v 1 8)) := ⟨_, rfl⟩
      rw [← em] at m3
      have m7 : m ≤ 7 := by have := bel_nat b8 (by omega); omega
      have fin : ∀ (r : Nat) (f : Nat → Int32), r = cntP (F 62) m 0 → K (some (.int (nI r))) (xfill (va_up F 6 f) v 0 wH0) := by
        intro r f er
        refine h.ok (F' := va_up F 6 f) (v' := v) S ⟨⟨⟨rfl, rfl, rfl, rfl, rfl, rfl⟩, fun _ _ => ⟨rfl, rfl⟩, fun _ _ => ⟨rfl, rfl⟩, fun _ _ => rfl, fun _ _ => rfl⟩, ⟨⟨fun _ _ => rfl, fun _ _ => rfl, fun _ _ => rfl, fun _ _ => rfl⟩, ⟨⟨rfl, rfl, rfl, rfl⟩, rfl, rfl, rfl, rfl⟩, ⟨rfl, rfl⟩, fun _ _ => rfl⟩, fun _ => ⟨⟨rfl, rfl, rfl, rfl, rfl, rfl⟩, fun _ _ => ⟨rfl, rfl⟩, fun _ _ => ⟨rfl, rfl⟩, fun _ _ => rfl, fun _ _ => rfl⟩⟩ ((if_pos a1).trans ((if_neg u0).trans ?_))
        have ep : plN s (hA F v) = m := by unfold plN; rw [es, em]; rfl
        rw [ep, er, es]
        rfl
      have key : ∀ (d i : Nat) (f : Nat → Int32), i + d = m → cntP (F 62) d i = cntP (F 62) m 0 → xWP pg_H_places K 52 [(0, .ref 0), (1, .int s), (2, .ref 61), (3, .int (nI m)), (4, .int (nI i))] [] (xfill (va_up F 6 f) v 0 wH0) (0, 0) := by
        intro d
        induction d with
        | zero =>
          intro i f hi hc
          have hi : i = m := hi
          refine xWP_go 100 [(52, [0, 1, 2, 3, 4])] fun P hP => ?_
          refine br_c (fun _ => ?_) (fun z => ?_)
          · exact fin m f (by rw [← hc, ← hi]; rfl)
          · have z : ¬ nI m ≤ nI i := z
            rw [nI_leI (by omega) (by omega)] at z
            omega
        | succ d ih =>
          intro i f hi hc
          have ei : Int32.toNatClampNeg (nI i) = i := nI_clamp (by omega)
          refine xWP_go 100 [(52, [0, 1, 2, 3, 4])] fun P hP => ?_
          refine br_c (fun z => absurd z (nI_ge (by omega) (by omega))) (fun _ => ?_)
          refine ⟨vp_in_nI (by omega) (by omega), ?_⟩
          refine xcall (sp_isBelow _ _ (fun z => ?_) (fun z => ?_))
          · have z : ¬ xin (F 62 i) 12 := by
              intro y
              refine z ?_
              show xin (F 62 (Int32.toNatClampNeg (nI i))) (12 : Int32).toInt
              rw [ei]
              exact y
            refine br_n (fun z => absurd rfl z) (fun _ => ?_)
            exact fin i f (by rw [← hc]; exact (if_neg z).symm)
          have z : xin (F 62 i) 12 := by
            have z : xin (F 62 (Int32.toNatClampNeg (nI i))) (12 : Int32).toInt := z
            rw [ei] at z
            exact z
          refine br_n (fun _ => ?_) (fun z => absurd z (by decide))
          refine ⟨vp_in_nI (by omega) (by omega), ?_⟩
          refine ⟨vp_in_nI (by omega) (by omega), ?_⟩
          refine hP _ _ _ _ _ ?_
          rw [nI_1]
          exact ih (i + 1) (upd f (nat (nI i)) (F 62 (nat (nI i)))) (by omega) (by rw [← hc]; exact (if_pos z).symm)
      refine hP _ _ _ _ _ ?_
      have q := key m 0 (F 6) (by omega) rfl
      rw [← m3] at q
      exact q
    · refine br_c (fun z => absurd z (by decide)) (fun _ => ?_)
      refine xcall (sp_errH F v 2 (by decide) ?_)
      exact h.err S _ rfl ((if_pos a1).trans (if_pos (by rw [es]; exact m0)))
  · have b4 : below 40 (v 63 1) := I.2.1.2.1.2.1
    have es : nat s = 1 := by rw [es0]; decide
    refine xcall (sp_isMissing (fun k => F (63 + k)) (fun k => v (63 + k)) (fun m0 => ?_) (fun m0 => ?_))
    · have m0 : ¬ v 63 2 = 0 := m0
      have u0 : ¬ (hA F v).2.2 5 (nat s) = 0 := by rw [es]; exact m0
      refine br_c (fun _ => ?_) (fun z => absurd rfl z)
      refine xcall (sp_min _ _ ?_)
      have m3 := min_eq b4 b8 (by omega) (by omega)
      obtain ⟨m, em⟩ : ∃ m, m = min (nat (v 63 1)) (nat (v 1 8)) := ⟨_, rfl⟩
      rw [← em] at m3
      have m7 : m ≤ 7 := by have := bel_nat b8 (by omega); omega
      have fin : ∀ (r : Nat) (f : Nat → Int32), r = cntP (F 64) m 0 → K (some (.int (nI r))) (xfill (va_up F 6 f) v 0 wH0) := by
        intro r f er
        refine h.ok (F' := va_up F 6 f) (v' := v) S ⟨⟨⟨rfl, rfl, rfl, rfl, rfl, rfl⟩, fun _ _ => ⟨rfl, rfl⟩, fun _ _ => ⟨rfl, rfl⟩, fun _ _ => rfl, fun _ _ => rfl⟩, ⟨⟨fun _ _ => rfl, fun _ _ => rfl, fun _ _ => rfl, fun _ _ => rfl⟩, ⟨⟨rfl, rfl, rfl, rfl⟩, rfl, rfl, rfl, rfl⟩, ⟨rfl, rfl⟩, fun _ _ => rfl⟩, fun _ => ⟨⟨rfl, rfl, rfl, rfl, rfl, rfl⟩, fun _ _ => ⟨rfl, rfl⟩, fun _ _ => ⟨rfl, rfl⟩, fun _ _ => rfl, fun _ _ => rfl⟩⟩ ((if_pos a1).trans ((if_neg u0).trans ?_))
        have ep : plN s (hA F v) = m := by unfold plN; rw [es, em]; rfl
        rw [ep, er, es]
        rfl
      have key : ∀ (d i : Nat) (f : Nat → Int32), i + d = m → cntP (F 64) d i = cntP (F 64) m 0 → xWP pg_H_places K 52 [(0, .ref 0), (1, .int s), (2, .ref 63), (3, .int (nI m)), (4, .int (nI i))] [] (xfill (va_up F 6 f) v 0 wH0) (0, 0) := by
        intro d
        induction d with
        | zero =>
          intro i f hi hc
          have hi : i = m := hi
          refine xWP_go 100 [(52, [0, 1, 2, 3, 4])] fun P hP => ?_
          refine br_c (fun _ => ?_) (fun z => ?_)
          · exact fin m f (by rw [← hc, ← hi]; rfl)
          · have z : ¬ nI m ≤ nI i := z
            rw [nI_leI (by omega) (by omega)] at z
            omega
        | succ d ih =>
          intro i f hi hc
          have ei : Int32.toNatClampNeg (nI i) = i := nI_clamp (by omega)
          refine xWP_go 100 [(52, [0, 1, 2, 3, 4])] fun P hP => ?_
          refine br_c (fun z => absurd z (nI_ge (by omega) (by omega))) (fun _ => ?_)
          refine ⟨vp_in_nI (by omega) (by omega), ?_⟩
          refine xcall (sp_isBelow _ _ (fun z => ?_) (fun z => ?_))
          · have z : ¬ xin (F 64 i) 12 := by
              intro y
              refine z ?_
              show xin (F 64 (Int32.toNatClampNeg (nI i))) (12 : Int32).toInt
              rw [ei]
              exact y
            refine br_n (fun z => absurd rfl z) (fun _ => ?_)
            exact fin i f (by rw [← hc]; exact (if_neg z).symm)
          have z : xin (F 64 i) 12 := by
            have z : xin (F 64 (Int32.toNatClampNeg (nI i))) (12 : Int32).toInt := z
            rw [ei] at z
            exact z
          refine br_n (fun _ => ?_) (fun z => absurd z (by decide))
          refine ⟨vp_in_nI (by omega) (by omega), ?_⟩
          refine ⟨vp_in_nI (by omega) (by omega), ?_⟩
          refine hP _ _ _ _ _ ?_
          rw [nI_1]
          exact ih (i + 1) (upd f (nat (nI i)) (F 64 (nat (nI i)))) (by omega) (by rw [← hc]; exact (if_pos z).symm)
      refine hP _ _ _ _ _ ?_
      have q := key m 0 (F 6) (by omega) rfl
      rw [← m3] at q
      exact q
    · refine br_c (fun z => absurd z (by decide)) (fun _ => ?_)
      refine xcall (sp_errH F v 2 (by decide) ?_)
      exact h.err S _ rfl ((if_pos a1).trans (if_pos (by rw [es]; exact m0)))
  · have b4 : below 40 (v 65 1) := I.2.1.2.1.2.2.1
    have es : nat s = 2 := by rw [es0]; decide
    refine xcall (sp_isMissing (fun k => F (65 + k)) (fun k => v (65 + k)) (fun m0 => ?_) (fun m0 => ?_))
    · have m0 : ¬ v 65 2 = 0 := m0
      have u0 : ¬ (hA F v).2.2 5 (nat s) = 0 := by rw [es]; exact m0
      refine br_c (fun _ => ?_) (fun z => absurd rfl z)
      refine xcall (sp_min _ _ ?_)
      have m3 := min_eq b4 b8 (by omega) (by omega)
      obtain ⟨m, em⟩ : ∃ m, m = min (nat (v 65 1)) (nat (v 1 8)) := ⟨_, rfl⟩
      rw [← em] at m3
      have m7 : m ≤ 7 := by have := bel_nat b8 (by omega); omega
      have fin : ∀ (r : Nat) (f : Nat → Int32), r = cntP (F 66) m 0 → K (some (.int (nI r))) (xfill (va_up F 6 f) v 0 wH0) := by
        intro r f er
        refine h.ok (F' := va_up F 6 f) (v' := v) S ⟨⟨⟨rfl, rfl, rfl, rfl, rfl, rfl⟩, fun _ _ => ⟨rfl, rfl⟩, fun _ _ => ⟨rfl, rfl⟩, fun _ _ => rfl, fun _ _ => rfl⟩, ⟨⟨fun _ _ => rfl, fun _ _ => rfl, fun _ _ => rfl, fun _ _ => rfl⟩, ⟨⟨rfl, rfl, rfl, rfl⟩, rfl, rfl, rfl, rfl⟩, ⟨rfl, rfl⟩, fun _ _ => rfl⟩, fun _ => ⟨⟨rfl, rfl, rfl, rfl, rfl, rfl⟩, fun _ _ => ⟨rfl, rfl⟩, fun _ _ => ⟨rfl, rfl⟩, fun _ _ => rfl, fun _ _ => rfl⟩⟩ ((if_pos a1).trans ((if_neg u0).trans ?_))
        have ep : plN s (hA F v) = m := by unfold plN; rw [es, em]; rfl
        rw [ep, er, es]
        rfl
      have key : ∀ (d i : Nat) (f : Nat → Int32), i + d = m → cntP (F 66) d i = cntP (F 66) m 0 → xWP pg_H_places K 52 [(0, .ref 0), (1, .int s), (2, .ref 65), (3, .int (nI m)), (4, .int (nI i))] [] (xfill (va_up F 6 f) v 0 wH0) (0, 0) := by
        intro d
        induction d with
        | zero =>
          intro i f hi hc
          have hi : i = m := hi
          refine xWP_go 100 [(52, [0, 1, 2, 3, 4])] fun P hP => ?_
          refine br_c (fun _ => ?_) (fun z => ?_)
          · exact fin m f (by rw [← hc, ← hi]; rfl)
          · have z : ¬ nI m ≤ nI i := z
            rw [nI_leI (by omega) (by omega)] at z
            omega
        | succ d ih =>
          intro i f hi hc
          have ei : Int32.toNatClampNeg (nI i) = i := nI_clamp (by omega)
          refine xWP_go 100 [(52, [0, 1, 2, 3, 4])] fun P hP => ?_
          refine br_c (fun z => absurd z (nI_ge (by omega) (by omega))) (fun _ => ?_)
          refine ⟨vp_in_nI (by omega) (by omega), ?_⟩
          refine xcall (sp_isBelow _ _ (fun z => ?_) (fun z => ?_))
          · have z : ¬ xin (F 66 i) 12 := by
              intro y
              refine z ?_
              show xin (F 66 (Int32.toNatClampNeg (nI i))) (12 : Int32).toInt
              rw [ei]
              exact y
            refine br_n (fun z => absurd rfl z) (fun _ => ?_)
            exact fin i f (by rw [← hc]; exact (if_neg z).symm)
          have z : xin (F 66 i) 12 := by
            have z : xin (F 66 (Int32.toNatClampNeg (nI i))) (12 : Int32).toInt := z
            rw [ei] at z
            exact z
          refine br_n (fun _ => ?_) (fun z => absurd z (by decide))
          refine ⟨vp_in_nI (by omega) (by omega), ?_⟩
          refine ⟨vp_in_nI (by omega) (by omega), ?_⟩
          refine hP _ _ _ _ _ ?_
          rw [nI_1]
          exact ih (i + 1) (upd f (nat (nI i)) (F 66 (nat (nI i)))) (by omega) (by rw [← hc]; exact (if_pos z).symm)
      refine hP _ _ _ _ _ ?_
      have q := key m 0 (F 6) (by omega) rfl
      rw [← m3] at q
      exact q
    · refine br_c (fun z => absurd z (by decide)) (fun _ => ?_)
      refine xcall (sp_errH F v 2 (by decide) ?_)
      exact h.err S _ rfl ((if_pos a1).trans (if_pos (by rw [es]; exact m0)))
  · have b4 : below 40 (v 67 1) := I.2.1.2.1.2.2.2
    have es : nat s = 3 := by rw [es0]; decide
    refine xcall (sp_isMissing (fun k => F (67 + k)) (fun k => v (67 + k)) (fun m0 => ?_) (fun m0 => ?_))
    · have m0 : ¬ v 67 2 = 0 := m0
      have u0 : ¬ (hA F v).2.2 5 (nat s) = 0 := by rw [es]; exact m0
      refine br_c (fun _ => ?_) (fun z => absurd rfl z)
      refine xcall (sp_min _ _ ?_)
      have m3 := min_eq b4 b8 (by omega) (by omega)
      obtain ⟨m, em⟩ : ∃ m, m = min (nat (v 67 1)) (nat (v 1 8)) := ⟨_, rfl⟩
      rw [← em] at m3
      have m7 : m ≤ 7 := by have := bel_nat b8 (by omega); omega
      have fin : ∀ (r : Nat) (f : Nat → Int32), r = cntP (F 68) m 0 → K (some (.int (nI r))) (xfill (va_up F 6 f) v 0 wH0) := by
        intro r f er
        refine h.ok (F' := va_up F 6 f) (v' := v) S ⟨⟨⟨rfl, rfl, rfl, rfl, rfl, rfl⟩, fun _ _ => ⟨rfl, rfl⟩, fun _ _ => ⟨rfl, rfl⟩, fun _ _ => rfl, fun _ _ => rfl⟩, ⟨⟨fun _ _ => rfl, fun _ _ => rfl, fun _ _ => rfl, fun _ _ => rfl⟩, ⟨⟨rfl, rfl, rfl, rfl⟩, rfl, rfl, rfl, rfl⟩, ⟨rfl, rfl⟩, fun _ _ => rfl⟩, fun _ => ⟨⟨rfl, rfl, rfl, rfl, rfl, rfl⟩, fun _ _ => ⟨rfl, rfl⟩, fun _ _ => ⟨rfl, rfl⟩, fun _ _ => rfl, fun _ _ => rfl⟩⟩ ((if_pos a1).trans ((if_neg u0).trans ?_))
        have ep : plN s (hA F v) = m := by unfold plN; rw [es, em]; rfl
        rw [ep, er, es]
        rfl
      have key : ∀ (d i : Nat) (f : Nat → Int32), i + d = m → cntP (F 68) d i = cntP (F 68) m 0 → xWP pg_H_places K 52 [(0, .ref 0), (1, .int s), (2, .ref 67), (3, .int (nI m)), (4, .int (nI i))] [] (xfill (va_up F 6 f) v 0 wH0) (0, 0) := by
        intro d
        induction d with
        | zero =>
          intro i f hi hc
          have hi : i = m := hi
          refine xWP_go 100 [(52, [0, 1, 2, 3, 4])] fun P hP => ?_
          refine br_c (fun _ => ?_) (fun z => ?_)
          · exact fin m f (by rw [← hc, ← hi]; rfl)
          · have z : ¬ nI m ≤ nI i := z
            rw [nI_leI (by omega) (by omega)] at z
            omega
        | succ d ih =>
          intro i f hi hc
          have ei : Int32.toNatClampNeg (nI i) = i := nI_clamp (by omega)
          refine xWP_go 100 [(52, [0, 1, 2, 3, 4])] fun P hP => ?_
          refine br_c (fun z => absurd z (nI_ge (by omega) (by omega))) (fun _ => ?_)
          refine ⟨vp_in_nI (by omega) (by omega), ?_⟩
          refine xcall (sp_isBelow _ _ (fun z => ?_) (fun z => ?_))
          · have z : ¬ xin (F 68 i) 12 := by
              intro y
              refine z ?_
              show xin (F 68 (Int32.toNatClampNeg (nI i))) (12 : Int32).toInt
              rw [ei]
              exact y
            refine br_n (fun z => absurd rfl z) (fun _ => ?_)
            exact fin i f (by rw [← hc]; exact (if_neg z).symm)
          have z : xin (F 68 i) 12 := by
            have z : xin (F 68 (Int32.toNatClampNeg (nI i))) (12 : Int32).toInt := z
            rw [ei] at z
            exact z
          refine br_n (fun _ => ?_) (fun z => absurd z (by decide))
          refine ⟨vp_in_nI (by omega) (by omega), ?_⟩
          refine ⟨vp_in_nI (by omega) (by omega), ?_⟩
          refine hP _ _ _ _ _ ?_
          rw [nI_1]
          exact ih (i + 1) (upd f (nat (nI i)) (F 68 (nat (nI i)))) (by omega) (by rw [← hc]; exact (if_pos z).symm)
      refine hP _ _ _ _ _ ?_
      have q := key m 0 (F 6) (by omega) rfl
      rw [← m3] at q
      exact q
    · refine br_c (fun z => absurd z (by decide)) (fun _ => ?_)
      refine xcall (sp_errH F v 2 (by decide) ?_)
      exact h.err S _ rfl ((if_pos a1).trans (if_pos (by rw [es]; exact m0)))
set_option maxRecDepth 100000 in
theorem mx_places (n : Nat) (F v : xS) (I : aIv n (mA F v)) (S : mS F v) (s : Int32) {K : xKo} (h : mTo F v (fun s => s) (f_places s) K) : C_M_places [.ref 0, .int s] (xfill F v 0 (wM0 0)) K := by
  refine xM_go rfl 200 [(32, [0, 1, 2])] fun P hP => ?_
  refine xcall (sp_isSheet _ (fun a1 => ?_) (fun a1 => ?_))
  · refine br_n (fun z => absurd rfl z) (fun _ => ?_)
    refine xcall (sp_errM F v (-1000000001) 1 (by decide) (by decide) ?_)
    exact h.err S _ rfl (if_neg a1)
  refine br_n (fun _ => ?_) (fun z => absurd z (by decide))
  obtain ⟨k, hk, rfl, ek⟩ := nI_ofx s (n := 4) a1 (by decide)
  have bs : vp_in (nI k) 4 := vin a1
  have ek : Int32.toNatClampNeg (nI k) = k := ek
  obtain ⟨q, hq, eq⟩ := rI4 (k := k) I (by omega)
  obtain ⟨mc, hm, em⟩ : below 7 (F 1 2) := I.1.1.2.1
  obtain ⟨N, eN⟩ : ∃ N, N = min q mc := ⟨_, rfl⟩
  have ep : plN (nI k) (mA F v) = N := by
    unfold plN
    rw [show nat (nI k) = k from ek, eN]
    show min (nat (F 7 k)) (nat (F 1 2)) = min q mc
    rw [eq, em, show nat (nI q) = q from nI_clamp (by omega), show nat (nI mc) = mc from nI_clamp (by omega)]
  refine ⟨bs, ?_⟩
  refine br_n (fun c0 => ?_) (fun c0 => ?_)
  · have u0 : ¬ (mA F v).2.2 5 (nat (nI k)) = 0 := c0
    have fin : ∀ (r : Nat) (F' : xS), r = cntP (fun j => F 8 (40 * k + j)) N 0 → mR r1 F v F' v → K (some (.int (nI r))) (xfill F' v 0 (wM0 0)) := by
      intro r F' er E
      refine h.ok (E.S ok_r1 S) (E.agr ok_r1 I rfl rfl) ((if_pos a1).trans ((if_neg u0).trans ?_))
      rw [ep, er, show nat (nI k) = k from ek]
      refine congrArg nI (cntP_eq fun j hj => ?_)
      show xin (mRs F v k j) 12 ↔ _
      rw [mSh (by omega)]
      exact sgn_cell (S.2.2.2.2 k j (by omega) (by omega))
    have key : ∀ (d i : Nat) (F' : xS), i + d = N → mR r1 F v F' v → cntP (fun j => F 8 (40 * k + j)) d i = cntP (fun j => F 8 (40 * k + j)) N 0 → xWP pg_M_places K 32 [(0, .ref 0), (1, .int (nI k)), (2, .int (nI i))] [] (xfill F' v 0 (wM0 0)) (0, 0) := by
      intro d
      induction d with
      | zero =>
        intro i F' hi E hc
        have e7 := E.k (k := 7) (by decide)
        have eM := E.2.1 2 (by omega) rfl
        have f0 := fin i F' (by rw [← hc]; rfl) E
        refine xWP_go 200 [(32, [0, 1, 2])] fun P hP => ?_
        refine ⟨bs, ?_⟩
        refine br_c (fun _ => f0) (fun z => ?_)
        have z : ¬ F' 7 (Int32.toNatClampNeg (nI k)) ≤ nI i := z
        rw [ek, e7, eq, nI_leI (by omega) (by omega)] at z
        refine xcall (sp_isChildM F' v _ ⟨mc, hm, eM.trans em⟩ (fun a2 => ?_) (fun a2 => ?_))
        · refine br_c (fun _ => f0) (fun z => absurd rfl z)
        · have y := a2.2
          rw [eM, em, nI_toInt (by omega), nI_toInt (by omega)] at y
          omega
      | succ d ih =>
        intro i F' hi E hc
        have e7 := E.k (k := 7) (by decide)
        have e8 := E.k (k := 8) (by decide)
        have eM := E.2.1 2 (by omega) rfl
        have i7 : i < 7 := by omega
        have bi : vp_in ((40 : Int32) * nI k + nI i) 160 := by rw [ix40]; exact vp_in_nI (by omega) (by omega)
        have n40 : Int32.toNatClampNeg ((40 : Int32) * nI k + nI i) = 40 * k + i := by rw [ix40]; exact nI_clamp (by omega)
        refine xWP_go 200 [(32, [0, 1, 2])] fun P hP => ?_
        refine ⟨bs, ?_⟩
        refine br_c (fun z => ?_) (fun _ => ?_)
        · have z : F' 7 (Int32.toNatClampNeg (nI k)) ≤ nI i := z
          rw [ek, e7, eq, nI_leI (by omega) (by omega)] at z
          omega
        refine xcall (sp_isChildM F' v _ ⟨mc, hm, eM.trans em⟩ (fun a2 => ?_) (fun a2 => ?_))
        · exact absurd ⟨by rw [nI_toInt (by omega)]; omega, by rw [eM, em, nI_toInt (by omega), nI_toInt (by omega)]; omega⟩ a2
        refine br_c (fun z => absurd z (by decide)) (fun _ => ?_)
        refine ⟨bi, ?_⟩
        refine xcall (sp_isCell _ (fun a3 => ?_) (fun a3 => ?_))
        · have a3 : ¬ xin (F 8 (40 * k + i)) 12 := by
            have a3 : ¬ xin (F' 8 (Int32.toNatClampNeg ((40 : Int32) * nI k + nI i))) 12 := a3
            rw [n40, e8] at a3
            exact a3
          refine br_c (fun _ => ?_) (fun z => absurd rfl z)
          exact fin i F' (by rw [← hc]; exact (if_neg a3).symm) E
        have a3 : xin (F 8 (40 * k + i)) 12 := by
          have a3 : xin (F' 8 (Int32.toNatClampNeg ((40 : Int32) * nI k + nI i))) 12 := a3
          rw [n40, e8] at a3
          exact a3
        refine br_c (fun z => absurd z (by decide)) (fun _ => ?_)
        refine ⟨bi, ?_⟩
        refine xcall (sp_getsM F' v (nI i) 2 _ (vc5 i7 (w := 2) (by omega)) ?_)
        refine hP _ _ _ _ _ ?_
        rw [nI_1]
        exact ih (i + 1) _ (by omega) (E.row (r1_at (w := 2) i7 (by omega) (by omega))) (by rw [← hc]; exact (if_pos a3).symm)
    refine hP _ _ _ _ _ ?_
    exact key N 0 F (by omega) mR.rf rfl
  · have u0 : (mA F v).2.2 5 (nat (nI k)) = 0 := c0
    refine xcall (sp_errM F v (-1000000002) 2 (by decide) (by decide) ?_)
    exact h.err S _ rfl ((if_pos a1).trans (if_pos u0))
theorem pf_places {n : Nat} {s q : xA} (A : agr s q) (I : aIv n s) (a : Int32) : f_places a s = f_places a q := by
  unfold f_places
  by_cases z : xin a 4
  · have l := nat4 z
    obtain ⟨h1, h2, h3, -, -⟩ := A.2.1.el
    rw [if_pos z, if_pos z, h3 _ l]
    have ep : plN a s = plN a q := by
      unfold plN
      rw [h2 _ l, A.1.1.2.1]
    have lp : plN a s ≤ 7 := by
      have := bel_nat I.1.1.2.1 (by omega)
      unfold plN
      omega
    rw [← ep, cntP_eq (f := s.2.2 (nat a)) (g := q.2.2 (nat a)) fun j hj => by rw [h1 _ j l (by omega)]]
  · rw [if_neg z, if_neg z]
