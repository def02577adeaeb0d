/-! ===== what a call does, over tables ===== -/
abbrev xLw : Type := Int32 → Int32 → Int32 → Int32
/-- at, had, safe; who is it; what the texts give -/
abbrev xXt : Type := xS × Int32 × (Nat → xLw)
abbrev mk (st m : Int32) : Prop := (st >>> (m &&& 31)) &&& 1 = 1
def offN (a b : Nat) : Nat := if (b + 12 - a) % 12 ≤ 12 - (b + 12 - a) % 12 then (b + 12 - a) % 12 else 12 - (b + 12 - a) % 12
def off (a b : Int32) : Int32 := nI (offN (nat a) (nat b))
def wlkN (a t k : Nat) : Nat := if (t + 12 - a) % 12 ≤ 12 - (t + 12 - a) % 12 then (a + (if offN a t ≤ k then offN a t else k)) % 12 else (a + 12 - (if offN a t ≤ k then offN a t else k)) % 12
def wlk (a t k : Int32) : Int32 := nI (wlkN (nat a) (nat t) (nat k))
/-- the thing run to -/
def gLp (s : xS) (X : xXt) (c : Nat) (b : Int32) : Nat → Nat → Int32 → Int32 → Int32
  | 0, _, g, _ => g
  | d + 1, i, g, r => if (mk (s 1 i) b ∧ off (X.1 0 c) (s 0 i) < r) ∧ ¬ X.2.2 0 (off (X.1 0 c) (s 0 i)) b (s 3 c) = 0 then gLp s X c b d (i + 1) (nI i) (off (X.1 0 c) (s 0 i)) else gLp s X c b d (i + 1) g r
def eGoal (s : xS) (X : xXt) (c : Nat) (b : Int32) : Int32 := gLp s X c b (nat (s 6 0)) 0 (-1) (farV (s 2 c) (s 3 c) + 1)
def eEnd (s : xS) (X : xXt) (b t : Int32) (c : Nat) : Int32 := if nI c = X.2.1 ∨ eGoal s X c b < 0 then X.1 0 c else wlk (X.1 0 c) (s 0 (nat (eGoal s X c b))) (paceV (s 2 c) (s 3 c) (s 6 2) X.2.1 * t)
def crL (it cell : Int32) (E : Nat → Int32) : Nat → Nat → Int32 → Int32
  | 0, _, q => q
  | d + 1, i, q => crL it cell E d (i + 1) (if nI i = it then q else if E i = cell then q + 1 else q)
def hdL (s : xS) (L : xLw) (cr cell b : Int32) : Nat → Nat → Int32
  | 0, _ => 0
  | d + 1, i => if s 0 i = cell ∧ mk (s 1 i) b then (if L cr (s 1 i) b = 0 then 0 else 1) else hdL s L cr cell b d (i + 1)
def eHeld (s : xS) (X : xXt) (E : Nat → Int32) (cell b : Int32) : Int32 := hdL s (X.2.2 1) (crL X.2.1 cell E (nat (s 6 1)) 0 0) cell b (nat (s 6 0)) 0
def eHad (s : xS) (X : xXt) (b t : Int32) (c : Nat) : Bool := decide (¬ nI c = X.2.1) && decide (eHeld s X (eEnd s X b t) (eEnd s X b t c) b = 0)
def stN (h : Nat → Bool) : Nat → Nat
  | 0 => 0
  | n + 1 => if h n then stN h n + 2 ^ n else stN h n
def nxL (h : Nat → Bool) : Nat → Int32
  | 0 => -1
  | n + 1 => if nxL h n = -1 then (if h n then nI n else -1) else nxL h n
def nyL (h : Nat → Bool) : Nat → Int32 → Int32
  | 0, q => q
  | n + 1, q => nyL h n (if h n then nI n else q)
def eSet (s : xS) (X : xXt) (b t : Int32) : Int32 := nI (stN (eHad s X b t) (nat (s 6 1)))
def up9 (x : Int32) : Int32 := if x + 1 ≤ 999 then x + 1 else 999
def ePlay (s : xS) (X : xXt) (b t : Int32) : xXt := ((fun k j => if j < nat (s 6 1) then (match k with
  | 0 => eEnd s X b t j
  | 1 => if eHad s X b t j then up9 (X.1 1 j) else X.1 1 j
  | 2 => if eHad s X b t j then X.1 2 j else if nI j = X.2.1 then X.1 2 j else up9 (X.1 2 j)
  | k => X.1 k j) else X.1 k j), nxL (eHad s X b t) (nat (s 6 1)), X.2.2)
/-- a call more -/
def clS (s : xS) : xS := va_up s 6 (upd (s 6) 2 (s 6 2 + 1))
-- what is always so of them
def cIv (s : xS) (X : xXt) : Prop := (below 8 (s 6 0) ∧ below 7 (s 6 1)) ∧ (∀ j, j < nat (s 6 0) → below 11 (s 0 j) ∧ below 63 (s 1 j)) ∧ (∀ j, j < nat (s 6 1) → below 6 (s 2 j) ∧ below 9 (s 3 j)) ∧ (∀ j, j < nat (s 6 1) → below 11 (X.1 0 j)) ∧ (∀ j, j < 7 → below 999 (X.1 1 j) ∧ below 999 (X.1 2 j)) ∧ (X.2.1 = -1 ∨ ∃ c, c < nat (s 6 1) ∧ X.2.1 = nI c)
theorem farV_le {k m : Int32} (hk : below 6 k) (hm : below 9 m) : below 7 (farV k m) := by
  obtain ⟨a, ha, rfl⟩ := hk
  obtain ⟨b, hb, rfl⟩ := hm
  have q : ∀ (a : Fin 7) (b : Fin 10), ∃ k : Fin 8, farV (nI a.val) (nI b.val) = nI k.val := by decide +kernel
  obtain ⟨k, e⟩ := q ⟨a, by omega⟩ ⟨b, by omega⟩
  exact ⟨k.val, by have := k.isLt; omega, e⟩
theorem paceV_le {k m cs it : Int32} (hk : below 6 k) (hm : below 9 m) : below 3 (paceV k m cs it) := by
  obtain ⟨a, ha, rfl⟩ := hk
  obtain ⟨b, hb, rfl⟩ := hm
  have q1 : ∀ (b : Fin 10), ∃ k : Fin 4, 1 + (nI b.val - nI b.val / 2 * 2) = nI k.val := by decide +kernel
  have q2 : ∀ (b : Fin 10), ∃ k : Fin 3, nI b.val - nI b.val / 3 * 3 = nI k.val := by decide +kernel
  have b01 : below 1 (if cs - cs / 2 * 2 = 0 then (1 : Int32) else 0) := by
    split
    · exact ⟨1, Nat.le_refl _, rfl⟩
    · exact ⟨0, by decide, rfl⟩
  unfold paceV
  split
  · obtain ⟨k, e⟩ := q1 ⟨b, by omega⟩
    exact ⟨k.val, by have := k.isLt; omega, e⟩
  split
  · exact ⟨2, by decide, rfl⟩
  split
  · obtain ⟨k, hk, e⟩ := b01
    exact ⟨k, by omega, e⟩
  split
  · exact ⟨0, by decide, rfl⟩
  split
  · split
    · exact ⟨3, by decide, rfl⟩
    · exact ⟨2, by decide, rfl⟩
  split
  · obtain ⟨k, hk, e⟩ := b01
    obtain ⟨k2, e2⟩ := q2 ⟨b, by omega⟩
    have e2 : nI b - nI b / 3 * 3 = nI k2.val := e2
    have l := k2.isLt
    exact ⟨k + k2.val, by omega, by rw [e, e2, nI_add]⟩
  · exact ⟨1, by decide, rfl⟩
theorem offN_le {a b : Nat} : offN a b ≤ 6 := by
  unfold offN
  split <;> omega
theorem off_nI {a b : Nat} (ha : a < 12) (hb : b < 12) : off (nI a) (nI b) = nI (offN a b) := by
  unfold off
  rw [show nat (nI a) = a from nI_clamp (by omega), show nat (nI b) = b from nI_clamp (by omega)]
theorem wlkN_lt {a t k : Nat} : wlkN a t k < 12 := by
  unfold wlkN
  split <;> exact Nat.mod_lt _ (by decide)
theorem wlk_nI {a t k : Nat} (ha : a < 12) (ht : t < 12) (hk : k < 1000) : wlk (nI a) (nI t) (nI k) = nI (wlkN a t k) := by
  unfold wlk
  rw [show nat (nI a) = a from nI_clamp (by omega), show nat (nI t) = t from nI_clamp (by omega), show nat (nI k) = k from nI_clamp (by omega)]
theorem min_nI {a b : Nat} (ha : a < 2 ^ 31) (hb : b < 2 ^ 31) : (if nI a ≤ nI b then nI a else nI b) = nI (if a ≤ b then a else b) := by
  by_cases h : a ≤ b
  · rw [if_pos ((nI_leI ha hb).mpr h), if_pos h]
  · rw [if_neg (fun z => h ((nI_leI ha hb).mp z)), if_neg h]
-- sets
theorem stN_lt {h : Nat → Bool} : ∀ {n : Nat}, stN h n < 2 ^ n := by
  intro n
  induction n with
  | zero => exact Nat.zero_lt_one
  | succ n ih =>
    unfold stN
    rw [Nat.pow_succ]
    split <;> omega
theorem stN_bit {h : Nat → Bool} {j : Nat} : ∀ {n : Nat}, (stN h n).testBit j = (decide (j < n) && h j) := by
  intro n
  induction n with
  | zero =>
    show (0 : Nat).testBit j = _
    rw [Nat.zero_testBit, decide_eq_false (Nat.not_lt_zero j), Bool.false_and]
  | succ n ih =>
    have lt := stN_lt (h := h) (n := n)
    unfold stN
    by_cases e : j = n
    · subst e
      rw [decide_eq_true (Nat.lt_succ_self j), Bool.true_and]
      cases hj : h j with
      | true =>
        rw [if_pos rfl, Nat.add_comm, Nat.testBit_two_pow_add_eq, Nat.testBit_lt_two_pow lt]
        rfl
      | false =>
        rw [if_neg Bool.false_ne_true]
        exact Nat.testBit_lt_two_pow lt
    · by_cases l : j < n
      · rw [decide_eq_true (show j < n + 1 by omega)]
        rw [decide_eq_true l] at ih
        split
        · rw [Nat.add_comm, Nat.testBit_two_pow_add_gt l]
          exact ih
        · exact ih
      · rw [decide_eq_false (show ¬ j < n + 1 by omega), Bool.false_and]
        have g : stN h n < 2 ^ (n + 1) := Nat.lt_of_lt_of_le lt (Nat.pow_le_pow_right (by decide) (Nat.le_succ n))
        have p : 2 ^ (n + 1) ≤ 2 ^ j := Nat.pow_le_pow_right (by decide) (by omega)
        split
        · refine Nat.testBit_lt_two_pow (Nat.lt_of_lt_of_le ?_ p)
          rw [Nat.pow_succ]
          omega
        · exact Nat.testBit_lt_two_pow (Nat.lt_of_lt_of_le g p)
theorem mk_nI {k j : Nat} (hk : k < 256) (hj : j < 8) : mk (nI k) (nI j) ↔ k.testBit j = true := by
  have q : ∀ (k : Fin 256) (j : Fin 8), decide (mk (nI k.val) (nI j.val)) = k.val.testBit j.val := by decide +kernel
  have e := q ⟨k, hk⟩ ⟨j, hj⟩
  have e : decide (mk (nI k) (nI j)) = k.testBit j := e
  rw [← e]
  exact decide_eq_true_iff.symm
theorem st_or {n k : Nat} (hn : n < 8) (hk : k < 2 ^ n) : nI k ||| (1 <<< (nI n &&& 31)) = nI (k + 2 ^ n) := by
  have q : ∀ (n : Fin 8) (k : Fin 128), k.val < 2 ^ n.val → nI k.val ||| (1 <<< (nI n.val &&& 31)) = nI (k.val + 2 ^ n.val) := by decide +kernel
  have p : 2 ^ n ≤ 2 ^ 7 := Nat.pow_le_pow_right (by decide) (by omega)
  exact q ⟨n, hn⟩ ⟨k, by omega⟩ hk
theorem st_or0 {k : Nat} : nI k ||| 0 = nI k := Int32.or_zero
theorem mk_st {h : Nat → Bool} {n j : Nat} (hn : n ≤ 7) (hj : j < n) : mk (nI (stN h n)) (nI j) ↔ h j = true := by
  have lt := stN_lt (h := h) (n := n)
  have p : 2 ^ n ≤ 2 ^ 7 := Nat.pow_le_pow_right (by decide) hn
  rw [mk_nI (by omega) (by omega), stN_bit, decide_eq_true hj, Bool.true_and]
theorem ny_nx {h : Nat → Bool} : ∀ {n : Nat} {q : Int32}, n ≤ 100 → nyL h n q = if nxL h n = -1 then q else nxL h n := by
  intro n
  induction n with
  | zero => intro q _; exact (if_pos rfl).symm
  | succ n ih =>
    intro q hn
    show nyL h n (if h n then nI n else q) = _
    rw [ih (by omega)]
    show _ = if (if nxL h n = -1 then (if h n then nI n else -1) else nxL h n) = -1 then q else (if nxL h n = -1 then (if h n then nI n else -1) else nxL h n)
    have ne : ¬ nI n = -1 := fun e => by
      have z := congrArg Int32.toInt e
      rw [nI_toInt (by omega), show (-1 : Int32).toInt = -1 by decide] at z
      omega
    by_cases a : nxL h n = -1
    · rw [if_pos a, if_pos a]
      cases h n with
      | true => rw [if_pos (show true = true from rfl), if_pos (show true = true from rfl), if_neg ne]
      | false => rw [if_neg Bool.false_ne_true, if_neg Bool.false_ne_true, if_pos rfl]
    · rw [if_neg a, if_neg a, if_neg a]
theorem nx_ny {h : Nat → Bool} {n : Nat} (hn : n ≤ 100) : nyL h n (-1) = nxL h n := by
  rw [ny_nx hn]
  split
  · rename_i e; exact e.symm
  · rfl
theorem nx_in {h : Nat → Bool} : ∀ {n : Nat}, nxL h n = -1 ∨ ∃ c, c < n ∧ nxL h n = nI c := by
  intro n
  induction n with
  | zero => exact Or.inl rfl
  | succ n ih =>
    unfold nxL
    split
    · split
      · exact Or.inr ⟨n, Nat.lt_succ_self n, rfl⟩
      · exact Or.inl rfl
    · rcases ih with e | ⟨c, hc, e⟩
      · exact Or.inl e
      · exact Or.inr ⟨c, Nat.lt_succ_of_lt hc, e⟩
theorem hd01 {s : xS} {L : xLw} {cr cell b : Int32} : ∀ {d i : Nat}, hdL s L cr cell b d i = 0 ∨ hdL s L cr cell b d i = 1 := by
  intro d
  induction d with
  | zero => intro i; exact Or.inl rfl
  | succ d ih =>
    intro i
    unfold hdL
    split
    · split
      · exact Or.inl rfl
      · exact Or.inr rfl
    · exact ih
theorem gLp_in {s : xS} {X : xXt} {c : Nat} {b : Int32} : ∀ (d i : Nat) (g r : Int32), (g = -1 ∨ ∃ k, k < i ∧ g = nI k) → (gLp s X c b d i g r = -1 ∨ ∃ k, k < i + d ∧ gLp s X c b d i g r = nI k) := by
  intro d
  induction d with
  | zero => intro i g r h; exact h
  | succ d ih =>
    intro i g r h
    unfold gLp
    rw [show i + (d + 1) = i + 1 + d by omega]
    split
    · exact ih (i + 1) _ _ (Or.inr ⟨i, Nat.lt_succ_self i, rfl⟩)
    · refine ih (i + 1) _ _ (h.elim Or.inl fun z => ?_)
      obtain ⟨k, hk, e⟩ := z
      exact Or.inr ⟨k, Nat.lt_succ_of_lt hk, e⟩
theorem eGoal_in {s : xS} {X : xXt} {c : Nat} {b : Int32} : eGoal s X c b = -1 ∨ ∃ k, k < nat (s 6 0) ∧ eGoal s X c b = nI k := by
  have q := gLp_in (s := s) (X := X) (c := c) (b := b) (nat (s 6 0)) 0 (-1) (farV (s 2 c) (s 3 c) + 1) (Or.inl rfl)
  rw [Nat.zero_add] at q
  exact q
/-- where one ends is a cell -/
theorem eEnd_le {s : xS} {X : xXt} (I : cIv s X) {b t : Int32} {c : Nat} (hc : c < nat (s 6 1)) : below 11 (eEnd s X b t c) := by
  unfold eEnd
  split
  · exact I.2.2.2.1 c hc
  · refine ⟨_, ?_, rfl⟩
    have := wlkN_lt (a := nat (X.1 0 c)) (t := nat (s 0 (nat (eGoal s X c b)))) (k := nat (paceV (s 2 c) (s 3 c) (s 6 2) X.2.1 * t))
    omega
theorem up9_le {x : Int32} (h : below 999 x) : below 999 (up9 x) := by
  obtain ⟨k, hk, rfl⟩ := h
  unfold up9
  rw [nI_1]
  by_cases a : nI (k + 1) ≤ 999
  · rw [if_pos a]
    have a : nI (k + 1) ≤ nI 999 := a
    rw [nI_leI (by omega) (by omega)] at a
    exact ⟨k + 1, a, rfl⟩
  · rw [if_neg a]
    exact ⟨999, Nat.le_refl _, rfl⟩
theorem cIv.play {s : xS} {X : xXt} (I : cIv s X) {b t : Int32} : cIv (clS s) (ePlay s X b t) := by
  obtain ⟨a, c, d, e, f, g⟩ := id I
  refine ⟨a, c, d, fun j hj => ?_, fun j hj => ?_, ?_⟩
  · have hj : j < nat (s 6 1) := hj
    show below 11 (if j < nat (s 6 1) then eEnd s X b t j else X.1 0 j)
    rw [if_pos hj]
    exact eEnd_le I hj
  · obtain ⟨f1, f2⟩ := f j hj
    show below 999 (if j < nat (s 6 1) then (if eHad s X b t j then up9 (X.1 1 j) else X.1 1 j) else X.1 1 j) ∧ below 999 (if j < nat (s 6 1) then (if eHad s X b t j then X.1 2 j else if nI j = X.2.1 then X.1 2 j else up9 (X.1 2 j)) else X.1 2 j)
    refine ⟨?_, ?_⟩
    · split
      · split
        · exact up9_le f1
        · exact f1
      · exact f1
    · split
      · split
        · exact f2
        split
        · exact f2
        · exact up9_le f2
      · exact f2
  · exact nx_in
