/-! ===== places with its answer ===== -/
theorem i8_rng (x : Int8) : -(2 ^ (8 - 1) : Int) ≤ x.toInt32.toInt ∧ x.toInt32.toInt < 2 ^ (8 - 1) := by
  rw [Int8.toInt_toInt32]
  exact ⟨x.le_toInt, x.toInt_lt⟩
theorem i16_rng (x : Int16) : -(2 ^ (16 - 1) : Int) ≤ x.toInt32.toInt ∧ x.toInt32.toInt < 2 ^ (16 - 1) := by
  rw [Int16.toInt_toInt32]
  exact ⟨x.le_toInt, x.toInt_lt⟩
theorem low_cell {x m : Int32} {e : Nat} (he : 5 ≤ e ∧ e ≤ 16) (hm : m.toBitVec = BitVec.ofNat 32 (2 ^ e - 1)) (r : -(2 ^ (e - 1) : Int) ≤ x.toInt ∧ x.toInt < 2 ^ (e - 1)) : xin (x &&& m) 12 ↔ xin x 12 := by
  have p1 : (2 : Nat) ^ e ≤ 2 ^ 16 := Nat.pow_le_pow_right (by decide) he.2
  have p2 : (2 : Nat) ^ 4 ≤ 2 ^ (e - 1) := Nat.pow_le_pow_right (by decide) (by omega)
  have p3 : (2 : Nat) ^ e = 2 * 2 ^ (e - 1) := by rw [← Nat.pow_succ']; congr 1; omega
  have c : ((2 : Int) ^ (e - 1)) = ((2 ^ (e - 1) : Nat) : Int) := by norm_cast
  rw [c] at r
  have n : (x &&& m).toBitVec.toNat = x.toBitVec.toNat % 2 ^ e := by
    rw [Int32.toBitVec_and, BitVec.toNat_and, hm, BitVec.toNat_ofNat, Nat.mod_eq_of_lt (show 2 ^ e - 1 < 2 ^ 32 by omega), Nat.and_two_pow_sub_one_eq_mod]
  have l := x.toBitVec.isLt
  have t1 : x.toInt = if 2 * x.toBitVec.toNat < 2 ^ 32 then (x.toBitVec.toNat : Int) else (x.toBitVec.toNat : Int) - 2 ^ 32 := BitVec.toInt_eq_toNat_cond x.toBitVec
  have t2 : (x &&& m).toInt = if 2 * (x &&& m).toBitVec.toNat < 2 ^ 32 then ((x &&& m).toBitVec.toNat : Int) else ((x &&& m).toBitVec.toNat : Int) - 2 ^ 32 := BitVec.toInt_eq_toNat_cond (x &&& m).toBitVec
  have ml : x.toBitVec.toNat % 2 ^ e < 2 ^ e := Nat.mod_lt _ (Nat.two_pow_pos e)
  rw [n, if_pos (by omega)] at t2
  simp only [xin]
  rw [t2]
  by_cases g : 2 * x.toBitVec.toNat < 2 ^ 32
  · rw [if_pos g] at t1
    rw [Nat.mod_eq_of_lt (by omega), t1]
  · rw [if_neg g] at t1
    -- below zero: the low bits are at least half
    have q : x.toBitVec.toNat % 2 ^ e ≥ 2 ^ (e - 1) := by
      have d : ∃ u : Nat, 2 ^ 32 = 2 ^ e * u := ⟨2 ^ (32 - e), by rw [← Nat.pow_add]; congr 1; omega⟩
      obtain ⟨u, hu⟩ := d
      obtain ⟨y, hy⟩ : ∃ y : Nat, y = 2 ^ 32 - x.toBitVec.toNat := ⟨_, rfl⟩
      have y1 : y ≤ 2 ^ (e - 1) := by omega
      have y0 : 0 < y := by omega
      have u1 : 1 ≤ u := Nat.pos_of_ne_zero fun z => by rw [z, Nat.mul_zero] at hu; omega
      have ex : x.toBitVec.toNat = 2 ^ e * (u - 1) + (2 ^ e - y) := by
        have : 2 ^ e * u = 2 ^ e * (u - 1) + 2 ^ e := by
          rw [← Nat.mul_succ]; congr 1; omega
        omega
      rw [ex, Nat.mul_add_mod, Nat.mod_eq_of_lt (by omega)]
      omega
    rw [t1]
    omega
def cntP (f : Nat → Int32) : Nat → Nat → Nat
  | 0, i => i
  | d + 1, i => if xin (f i) 12 then cntP f d (i + 1) else i
theorem cntP_le {f : Nat → Int32} : ∀ {d i : Nat}, cntP f d i ≤ i + d := by
  intro d
  induction d with
  | zero => intro i; exact Nat.le_refl _
  | succ d ih =>
    intro i
    unfold cntP
    split
    · have := ih (i := i + 1); omega
    · omega
theorem cntP_eq {f g : Nat → Int32} : ∀ {d i : Nat}, (∀ j, j < i + d → (xin (f j) 12 ↔ xin (g j) 12)) → cntP f d i = cntP g d i := by
  intro d
  induction d with
  | zero => intro i _; rfl
  | succ d ih =>
    intro i h
    unfold cntP
    by_cases c : xin (f i) 12
    · rw [if_pos c, if_pos ((h i (by omega)).mp c)]
      exact ih (fun j hj => h j (by omega))
    · rw [if_neg c, if_neg (fun z => c ((h i (by omega)).mpr z))]
def plN (s : Int32) (q : xA) : Nat := min (nat (q.2.2 4 (nat s))) (nat (q.1 6 1))
def f_places (s : Int32) (q : xA) : Int32 := if xin s 4 then (if q.2.2 5 (nat s) = 0 then -1000000002 else nI (cntP (q.2.2 (nat s)) (plN s q) 0)) else -1000000001
theorem min_eq {a b : Int32} {A B : Nat} (ha : below A a) (hb : below B b) (hA : A < 2 ^ 31) (hB : B < 2 ^ 31) : (if a ≤ b then a else b) = nI (min (nat a) (nat b)) := by
  obtain ⟨k, hk, rfl⟩ := ha
  obtain ⟨j, hj, rfl⟩ := hb
  rw [show nat (nI k) = k from nI_clamp (by omega), show nat (nI j) = j from nI_clamp (by omega)]
  by_cases h : k ≤ j
  · rw [if_pos ((nI_leI (by omega) (by omega)).mpr h), Nat.min_eq_left h]
  · rw [if_neg (fun z => h ((nI_leI (by omega) (by omega)).mp z)), Nat.min_eq_right (by omega)]
theorem sgn_cell {b x : Int32} (h : sgn b x = x) : xin (bare b x) 12 ↔ xin x 12 := by
  unfold sgn at h
  unfold bare
  by_cases c : b = 8
  · rw [if_pos c] at h ⊢
    exact low_cell (m := 255) (e := 8) (by omega) rfl (by rw [← h]; exact i8_rng _)
  rw [if_neg c] at h ⊢
  by_cases d : b = 16
  · rw [if_pos d] at h ⊢
    exact low_cell (m := 65535) (e := 16) (by omega) rfl (by rw [← h]; exact i16_rng _)
  · rw [if_neg d]
theorem pf_places {n : Nat} {s q : xA} (A : agr s q) (I : aIv n s) (a : Int32) : f_places a s = f_places a q := by
  unfold f_places
  by_cases z : xin a 4
  · have l := nat4 z
    obtain ⟨h1, h2, h3, -, -⟩ := A.2.1.el
    rw [if_pos z, if_pos z, h3 _ l]
    have ep : plN a s = plN a q := by
      unfold plN
      rw [h2 _ l, A.1.1.2.1]
    have lp : plN a s ≤ 7 := by
      have := bel_nat I.1.1.2.1 (by omega)
      unfold plN
      omega
    rw [← ep, cntP_eq (f := s.2.2 (nat a)) (g := q.2.2 (nat a)) fun j hj => by rw [h1 _ j l (by omega)]]
  · rw [if_neg z, if_neg z]
