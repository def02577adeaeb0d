section
/-! ===== what a call does, over tables ===== -/
abbrev xLw : Type := Int32 → Int32 → Int32 → Int32
/-- at, had, safe; who is it; what the texts give -/
abbrev xXt : Type := xS × Int32 × (Nat → xLw)
abbrev mk (st m : Int32) : Prop := (st >>> (m &&& 31)) &&& 1 = 1
def offN (a b : Nat) : Nat := if (b + 12 - a) % 12 ≤ 12 - (b + 12 - a) % 12 then (b + 12 - a) % 12 else 12 - (b + 12 - a) % 12
def off (a b : Int32) : Int32 := nI (offN (nat a) (nat b))
def wlkN (a t k : Nat) : Nat := if (t + 12 - a) % 12 ≤ 12 - (t + 12 - a) % 12 then (a + (if offN a t ≤ k then offN a t else k)) % 12 else (a + 12 - (if offN a t ≤ k then offN a t else k)) % 12
def wlk (a t k : Int32) : Int32 := nI (wlkN (nat a) (nat t) (nat k))
/-- the thing run to -/
def gLp (s : xS) (X : xXt) (c : Nat) (b : Int32) : Nat → Nat → Int32 → Int32 → Int32
  | 0, _, g, _ => g
  | d + 1, i, g, r => if (mk (s 1 i) b ∧ off (X.1 0 c) (s 0 i) < r) ∧ ¬ X.2.2 0 (off (X.1 0 c) (s 0 i)) b (s 3 c) = 0 then gLp s X c b d (i + 1) (nI i) (off (X.1 0 c) (s 0 i)) else gLp s X c b d (i + 1) g r
def eGoal (s : xS) (X : xXt) (c : Nat) (b : Int32) : Int32 := gLp s X c b (nat (s 6 0)) 0 (-1) (farV (s 2 c) (s 3 c) + 1)
def eEnd (s : xS) (X : xXt) (b t : Int32) (c : Nat) : Int32 := if nI c = X.2.1 ∨ eGoal s X c b < 0 then X.1 0 c else wlk (X.1 0 c) (s 0 (nat (eGoal s X c b))) (paceV (s 2 c) (s 3 c) (s 6 2) X.2.1 * t)
def crL (it cell : Int32) (E : Nat → Int32) : Nat → Nat → Int32 → Int32
  | 0, _, q => q
  | d + 1, i, q => crL it cell E d (i + 1) (if nI i = it then q else if E i = cell then q + 1 else q)
def hdL (s : xS) (L : xLw) (cr cell b : Int32) : Nat → Nat → Int32
  | 0, _ => 0
  | d + 1, i => if s 0 i = cell ∧ mk (s 1 i) b then (if L cr (s 1 i) b = 0 then 0 else 1) else hdL s L cr cell b d (i + 1)
def eHeld (s : xS) (X : xXt) (E : Nat → Int32) (cell b : Int32) : Int32 := hdL s (X.2.2 1) (crL X.2.1 cell E (nat (s 6 1)) 0 0) cell b (nat (s 6 0)) 0
def eHad (s : xS) (X : xXt) (b t : Int32) (c : Nat) : Bool := decide (¬ nI c = X.2.1) && decide (eHeld s X (eEnd s X b t) (eEnd s X b t c) b = 0)
def stN (h : Nat → Bool) : Nat → Nat
  | 0 => 0
  | n + 1 => if h n then stN h n + 2 ^ n else stN h n
def nxL (h : Nat → Bool) : Nat → Int32
  | 0 => -1
  | n + 1 => if nxL h n = -1 then (if h n then nI n else -1) else nxL h n
def nyL (h : Nat → Bool) : Nat → Int32 → Int32
  | 0, q => q
  | n + 1, q => nyL h n (if h n then nI n else q)
def eSet (s : xS) (X : xXt) (b t : Int32) : Int32 := nI (stN (eHad s X b t) (nat (s 6 1)))
def up9 (x : Int32) : Int32 := if x + 1 ≤ 999 then x + 1 else 999
def ePlay (s : xS) (X : xXt) (b t : Int32) : xXt := ((fun k j => if j < nat (s 6 1) then (match k with
  | 0 => eEnd s X b t j
  | 1 => if eHad s X b t j then up9 (X.1 1 j) else X.1 1 j
  | 2 => if eHad s X b t j then X.1 2 j else if nI j = X.2.1 then X.1 2 j else up9 (X.1 2 j)
  | k => X.1 k j) else X.1 k j), nxL (eHad s X b t) (nat (s 6 1)), X.2.2)
/-- a call more -/
def clS (s : xS) : xS := va_up s 6 (upd (s 6) 2 (s 6 2 + 1))
-- what is always so of them
def cIv (s : xS) (X : xXt) : Prop := (below 8 (s 6 0) ∧ below 7 (s 6 1)) ∧ (∀ j, j < nat (s 6 0) → below 11 (s 0 j) ∧ below 63 (s 1 j)) ∧ (∀ j, j < nat (s 6 1) → below 6 (s 2 j) ∧ below 9 (s 3 j)) ∧ (∀ j, j < nat (s 6 1) → below 11 (X.1 0 j)) ∧ (∀ j, j < 7 → below 999 (X.1 1 j) ∧ below 999 (X.1 2 j)) ∧ (X.2.1 = -1 ∨ ∃ c, c < nat (s 6 1) ∧ X.2.1 = nI c)
theorem farV_le {k m : Int32} (hk : below 6 k) (hm : below 9 m) : below 7 (farV k m) := by
  obtain ⟨a, ha, rfl⟩ := hk
  obtain ⟨b, hb, rfl⟩ := hm
  have q : ∀ (a : Fin 7) (b : Fin 10), ∃ k : Fin 8, farV (nI a.val) (nI b.val) = nI k.val := by decide +kernel
  obtain ⟨k, e⟩ := q ⟨a, by omega⟩ ⟨b, by omega⟩
  exact ⟨k.val, by have := k.isLt; omega, e⟩
theorem paceV_le {k m cs it : Int32} (hk : below 6 k) (hm : below 9 m) : below 3 (paceV k m cs it) := by
  obtain ⟨a, ha, rfl⟩ := hk
  obtain ⟨b, hb, rfl⟩ := hm
  have q1 : ∀ (b : Fin 10), ∃ k : Fin 4, 1 + (nI b.val - nI b.val / 2 * 2) = nI k.val := by decide +kernel
  have q2 : ∀ (b : Fin 10), ∃ k : Fin 3, nI b.val - nI b.val / 3 * 3 = nI k.val := by decide +kernel
  have b01 : below 1 (if cs - cs / 2 * 2 = 0 then (1 : Int32) else 0) := by
    split
    · exact ⟨1, Nat.le_refl _, rfl⟩
    · exact ⟨0, by decide, rfl⟩
  unfold paceV
  split
  · obtain ⟨k, e⟩ := q1 ⟨b, by omega⟩
    exact ⟨k.val, by have := k.isLt; omega, e⟩
  split
  · exact ⟨2, by decide, rfl⟩
  split
  · obtain ⟨k, hk, e⟩ := b01
    exact ⟨k, by omega, e⟩
  split
  · exact ⟨0, by decide, rfl⟩
  split
  · split
    · exact ⟨3, by decide, rfl⟩
    · exact ⟨2, by decide, rfl⟩
  split
  · obtain ⟨k, hk, e⟩ := b01
    obtain ⟨k2, e2⟩ := q2 ⟨b, by omega⟩
    have e2 : nI b - nI b / 3 * 3 = nI k2.val := e2
    have l := k2.isLt
    exact ⟨k + k2.val, by omega, by rw [e, e2, nI_add]⟩
  · exact ⟨1, by decide, rfl⟩
theorem offN_le {a b : Nat} : offN a b ≤ 6 := by
  unfold offN
  split <;> omega
theorem off_nI {a b : Nat} (ha : a < 12) (hb : b < 12) : off (nI a) (nI b) = nI (offN a b) := by
  unfold off
  rw [show nat (nI a) = a from nI_clamp (by omega), show nat (nI b) = b from nI_clamp (by omega)]
theorem wlkN_lt {a t k : Nat} : wlkN a t k < 12 := by
  unfold wlkN
  split <;> exact Nat.mod_lt _ (by decide)
theorem wlk_nI {a t k : Nat} (ha : a < 12) (ht : t < 12) (hk : k < 1000) : wlk (nI a) (nI t) (nI k) = nI (wlkN a t k) := by
  unfold wlk
  rw [show nat (nI a) = a from nI_clamp (by omega), show nat (nI t) = t from nI_clamp (by omega), show nat (nI k) = k from nI_clamp (by omega)]
theorem min_nI {a b : Nat} (ha : a < 2 ^ 31) (hb : b < 2 ^ 31) : (if nI a ≤ nI b then nI a else nI b) = nI (if a ≤ b then a else b) := by
  by_cases h : a ≤ b
  · rw [if_pos ((nI_leI ha hb).mpr h), if_pos h]
  · rw [if_neg (fun z => h ((nI_leI ha hb).mp z)), if_neg h]
-- sets
theorem stN_lt {h : Nat → Bool} : ∀ {n : Nat}, stN h n < 2 ^ n := by
  intro n
  induction n with
  | zero => exact Nat.zero_lt_one
  | succ n ih =>
    unfold stN
    rw [Nat.pow_succ]
    split <;> omega
theorem stN_bit {h : Nat → Bool} {j : Nat} : ∀ {n : Nat}, (stN h n).testBit j = (decide (j < n) && h j) := by
  intro n
  induction n with
  | zero =>
    show (0 : Nat).testBit j = _
    rw [Nat.zero_testBit, decide_eq_false (Nat.not_lt_zero j), Bool.false_and]
  | succ n ih =>
    have lt := stN_lt (h := h) (n := n)
    unfold stN
    by_cases e : j = n
    · subst e
      rw [decide_eq_true (Nat.lt_succ_self j), Bool.true_and]
      cases hj : h j with
      | true =>
        rw [if_pos rfl, Nat.add_comm, Nat.testBit_two_pow_add_eq, Nat.testBit_lt_two_pow lt]
        rfl
      | false =>
        rw [if_neg Bool.false_ne_true]
        exact Nat.testBit_lt_two_pow lt
    · by_cases l : j < n
      · rw [decide_eq_true (show j < n + 1 by omega)]
        rw [decide_eq_true l] at ih
        split
        · rw [Nat.add_comm, Nat.testBit_two_pow_add_gt l]
          exact ih
        · exact ih
      · rw [decide_eq_false (show ¬ j < n + 1 by omega), Bool.false_and]
        have g : stN h n < 2 ^ (n + 1) := Nat.lt_of_lt_of_le lt (Nat.pow_le_pow_right (by decide) (Nat.le_succ n))
        have p : 2 ^ (n + 1) ≤ 2 ^ j := Nat.pow_le_pow_right (by decide) (by omega)
        split
        · refine Nat.testBit_lt_two_pow (Nat.lt_of_lt_of_le ?_ p)
          rw [Nat.pow_succ]
          omega
        · exact Nat.testBit_lt_two_pow (Nat.lt_of_lt_of_le g p)
theorem mk_nI {k j : Nat} (hk : k < 256) (hj : j < 8) : mk (nI k) (nI j) ↔ k.testBit j = true := by
  have q : ∀ (k : Fin 256) (j : Fin 8), decide (mk (nI k.val) (nI j.val)) = k.val.testBit j.val := by decide +kernel
  have e := q ⟨k, hk⟩ ⟨j, hj⟩
  have e : decide (mk (nI k) (nI j)) = k.testBit j := e
  rw [← e]
  exact decide_eq_true_iff.symm
theorem st_or {n k : Nat} (hn : n < 8) (hk : k < 2 ^ n) : nI k ||| (1 <<< (nI n &&& 31)) = nI (k + 2 ^ n) := by
  have q : ∀ (n : Fin 8) (k : Fin 128), k.val < 2 ^ n.val → nI k.val ||| (1 <<< (nI n.val &&& 31)) = nI (k.val + 2 ^ n.val) := by decide +kernel
  have p : 2 ^ n ≤ 2 ^ 7 := Nat.pow_le_pow_right (by decide) (by omega)
  exact q ⟨n, hn⟩ ⟨k, by omega⟩ hk
theorem st_or0 {k : Nat} : nI k ||| 0 = nI k := Int32.or_zero
theorem mk_st {h : Nat → Bool} {n j : Nat} (hn : n ≤ 7) (hj : j < n) : mk (nI (stN h n)) (nI j) ↔ h j = true := by
  have lt := stN_lt (h := h) (n := n)
  have p : 2 ^ n ≤ 2 ^ 7 := Nat.pow_le_pow_right (by decide) hn
  rw [mk_nI (by omega) (by omega), stN_bit, decide_eq_true hj, Bool.true_and]
theorem ny_nx {h : Nat → Bool} : ∀ {n : Nat} {q : Int32}, n ≤ 100 → nyL h n q = if nxL h n = -1 then q else nxL h n := by
  intro n
  induction n with
  | zero => intro q _; exact (if_pos rfl).symm
  | succ n ih =>
    intro q hn
    show nyL h n (if h n then nI n else q) = _
    rw [ih (by omega)]
    show _ = if (if nxL h n = -1 then (if h n then nI n else -1) else nxL h n) = -1 then q else (if nxL h n = -1 then (if h n then nI n else -1) else nxL h n)
    have ne : ¬ nI n = -1 := fun e => by
      have z := congrArg Int32.toInt e
      rw [nI_toInt (by omega), show (-1 : Int32).toInt = -1 by decide] at z
      omega
    by_cases a : nxL h n = -1
    · rw [if_pos a, if_pos a]
      cases h n with
      | true => rw [if_pos (show true = true from rfl), if_pos (show true = true from rfl), if_neg ne]
      | false => rw [if_neg Bool.false_ne_true, if_neg Bool.false_ne_true, if_pos rfl]
    · rw [if_neg a, if_neg a, if_neg a]
theorem nx_ny {h : Nat → Bool} {n : Nat} (hn : n ≤ 100) : nyL h n (-1) = nxL h n := by
  rw [ny_nx hn]
  split
  · rename_i e; exact e.symm
  · rfl
theorem nx_in {h : Nat → Bool} : ∀ {n : Nat}, nxL h n = -1 ∨ ∃ c, c < n ∧ nxL h n = nI c := by
  intro n
  induction n with
  | zero => exact Or.inl rfl
  | succ n ih =>
    unfold nxL
    split
    · split
      · exact Or.inr ⟨n, Nat.lt_succ_self n, rfl⟩
      · exact Or.inl rfl
    · rcases ih with e | ⟨c, hc, e⟩
      · exact Or.inl e
      · exact Or.inr ⟨c, Nat.lt_succ_of_lt hc, e⟩
theorem hd01 {s : xS} {L : xLw} {cr cell b : Int32} : ∀ {d i : Nat}, hdL s L cr cell b d i = 0 ∨ hdL s L cr cell b d i = 1 := by
  intro d
  induction d with
  | zero => intro i; exact Or.inl rfl
  | succ d ih =>
    intro i
    unfold hdL
    split
    · split
      · exact Or.inl rfl
      · exact Or.inr rfl
    · exact ih
theorem gLp_in {s : xS} {X : xXt} {c : Nat} {b : Int32} : ∀ (d i : Nat) (g r : Int32), (g = -1 ∨ ∃ k, k < i ∧ g = nI k) → (gLp s X c b d i g r = -1 ∨ ∃ k, k < i + d ∧ gLp s X c b d i g r = nI k) := by
  intro d
  induction d with
  | zero => intro i g r h; exact h
  | succ d ih =>
    intro i g r h
    unfold gLp
    rw [show i + (d + 1) = i + 1 + d by omega]
    split
    · exact ih (i + 1) _ _ (Or.inr ⟨i, Nat.lt_succ_self i, rfl⟩)
    · refine ih (i + 1) _ _ (h.elim Or.inl fun z => ?_)
      obtain ⟨k, hk, e⟩ := z
      exact Or.inr ⟨k, Nat.lt_succ_of_lt hk, e⟩
theorem eGoal_in {s : xS} {X : xXt} {c : Nat} {b : Int32} : eGoal s X c b = -1 ∨ ∃ k, k < nat (s 6 0) ∧ eGoal s X c b = nI k := by
  have q := gLp_in (s := s) (X := X) (c := c) (b := b) (nat (s 6 0)) 0 (-1) (farV (s 2 c) (s 3 c) + 1) (Or.inl rfl)
  rw [Nat.zero_add] at q
  exact q
/-- where one ends is a cell -/
theorem eEnd_le {s : xS} {X : xXt} (I : cIv s X) {b t : Int32} {c : Nat} (hc : c < nat (s 6 1)) : below 11 (eEnd s X b t c) := by
  unfold eEnd
  split
  · exact I.2.2.2.1 c hc
  · refine ⟨_, ?_, rfl⟩
    have := wlkN_lt (a := nat (X.1 0 c)) (t := nat (s 0 (nat (eGoal s X c b)))) (k := nat (paceV (s 2 c) (s 3 c) (s 6 2) X.2.1 * t))
    omega
theorem up9_le {x : Int32} (h : below 999 x) : below 999 (up9 x) := by
  obtain ⟨k, hk, rfl⟩ := h
  unfold up9
  rw [nI_1]
  by_cases a : nI (k + 1) ≤ 999
  · rw [if_pos a]
    have a : nI (k + 1) ≤ nI 999 := a
    rw [nI_leI (by omega) (by omega)] at a
    exact ⟨k + 1, a, rfl⟩
  · rw [if_neg a]
    exact ⟨999, Nat.le_refl _, rfl⟩
theorem cIv.play {s : xS} {X : xXt} (I : cIv s X) {b t : Int32} : cIv (clS s) (ePlay s X b t) := by
  obtain ⟨a, c, d, e, f, g⟩ := id I
  refine ⟨a, c, d, fun j hj => ?_, fun j hj => ?_, ?_⟩
  · have hj : j < nat (s 6 1) := hj
    show below 11 (if j < nat (s 6 1) then eEnd s X b t j else X.1 0 j)
    rw [if_pos hj]
    exact eEnd_le I hj
  · obtain ⟨f1, f2⟩ := f j hj
    show below 999 (if j < nat (s 6 1) then (if eHad s X b t j then up9 (X.1 1 j) else X.1 1 j) else X.1 1 j) ∧ below 999 (if j < nat (s 6 1) then (if eHad s X b t j then X.1 2 j else if nI j = X.2.1 then X.1 2 j else up9 (X.1 2 j)) else X.1 2 j)
    refine ⟨?_, ?_⟩
    · split
      · split
        · exact up9_le f1
        · exact f1
      · exact f1
    · split
      · split
        · exact f2
        split
        · exact f2
        · exact up9_le f2
      · exact f2
  · exact nx_in
end
section
/-! ===== the tried side: calls, exactly ===== -/
/-- a code and its size give what L says -/
def hLw (code : Nat → Int32) (z : Int32) (L : xLw) : Prop := ∃ n, n ≤ 50 ∧ z = nI n ∧ (n = 0 → ∀ a b c, L a b c = 1) ∧ (¬ n = 0 → ∀ a b c S, (evGives a b c code n S).1 = L a b c)
def tH (F v : xS) (s : xS) (X : xXt) : Prop := (v 0 2 = s 6 0 ∧ v 0 8 = s 6 1 ∧ v 0 10 = s 6 2 ∧ v 0 9 = X.2.1) ∧ (∀ j, j < nat (s 6 0) → F 1 j = s 0 j ∧ F 2 j = s 1 j) ∧ (∀ j, j < nat (s 6 1) → F 3 j = s 2 j ∧ F 4 j = s 3 j) ∧ (∀ j, j < 7 → F 5 j = X.1 0 j ∧ F 6 j = X.1 1 j ∧ F 7 j = X.1 2 j) ∧ hLw (F 10) (v 9 1) (X.2.2 0) ∧ hLw (F 13) (v 12 1) (X.2.2 1)
theorem tH.e {F v F' v' s : xS} {X : xXt} (T : tH F v s X) (E : tR aE bE F v F' v') : tH F' v' s X := by
  obtain ⟨⟨a1, a2, a3, a4⟩, b, c, d, l0, l1⟩ := T
  refine ⟨⟨(E.2 0 2 rfl).trans a1, (E.2 0 8 rfl).trans a2, (E.2 0 10 rfl).trans a3, (E.2 0 9 rfl).trans a4⟩, ?_, ?_, ?_, ?_, ?_⟩
  · rw [E.1 1 rfl, E.1 2 rfl]; exact b
  · rw [E.1 3 rfl, E.1 4 rfl]; exact c
  · rw [E.1 5 rfl, E.1 6 rfl, E.1 7 rfl]; exact d
  · rw [E.1 10 rfl, E.2 9 1 rfl]; exact l0
  · rw [E.1 13 rfl, E.2 12 1 rfl]; exact l1
def aG (k : Nat) : Bool := k == 11 || k == 14
theorem tR.ge {F v F' v' : xS} (h : tR aG bE F v F' v') : tR aE bE F v F' v' := h.wd (fun k z => by simp only [aG, aE, Bool.or_eq_false_iff] at z ⊢; exact z.1) (fun k j z => z)
theorem nat_nI {n : Nat} (h : n < 2 ^ 31) : Int32.toNatClampNeg (nI n) = n := nI_clamp h
def fmV (a : Int32) : Int32 := if 0 ≤ a ^^^ 12 then a - a / 12 * 12 else if a - a / 12 * 12 = 0 then a - a / 12 * 12 else a - a / 12 * 12 + 12
theorem sx_floorMod (a : Int32) {K : xKo} (h : K (some (.int (fmV a))) []) : C_A_floorMod [.int a, .int 12] [] K := by
  unfold fmV at h
  refine xM_go rfl 40 [] fun P hP => ?_
  refine ⟨by decide, ?_⟩
  refine br_c (fun z => ?_) (fun z => ?_)
  · have z : 0 ≤ a ^^^ 12 := z
    rw [if_pos z] at h
    exact h
  have z : ¬ 0 ≤ a ^^^ 12 := z
  rw [if_neg z] at h
  refine br_c (fun y => ?_) (fun y => ?_)
  · have y : a - a / 12 * 12 = 0 := y
    rw [if_pos y] at h
    exact h
  · have y : ¬ a - a / 12 * 12 = 0 := y
    rw [if_neg y] at h
    exact h
theorem fm_up {a t : Nat} (ha : a < 12) (ht : t < 12) : fmV (nI t - nI a) = nI ((t + 12 - a) % 12) := by
  have q : ∀ (a t : Fin 12), fmV (nI t.val - nI a.val) = nI ((t.val + 12 - a.val) % 12) := by decide +kernel
  exact q ⟨a, ha⟩ ⟨t, ht⟩
theorem fm_add {a w : Nat} (ha : a < 12) (hw : w ≤ 6) : fmV (nI a + nI w) = nI ((a + w) % 12) := by
  have q : ∀ (a : Fin 12) (w : Fin 7), fmV (nI a.val + nI w.val) = nI ((a.val + w.val) % 12) := by decide +kernel
  exact q ⟨a, ha⟩ ⟨w, by omega⟩
theorem fm_sub {a w : Nat} (ha : a < 12) (hw : w ≤ 6) : fmV (nI a - nI w) = nI ((a + 12 - w) % 12) := by
  have q : ∀ (a : Fin 12) (w : Fin 7), fmV (nI a.val - nI w.val) = nI ((a.val + 12 - w.val) % 12) := by decide +kernel
  exact q ⟨a, ha⟩ ⟨w, by omega⟩
def cof (a b : Int32) : Int32 := if (if 0 ≤ a - b then a - b else -(a - b)) ≤ 12 - (if 0 ≤ a - b then a - b else -(a - b)) then (if 0 ≤ a - b then a - b else -(a - b)) else 12 - (if 0 ≤ a - b then a - b else -(a - b))
theorem cof_nI {a b : Nat} (ha : a < 12) (hb : b < 12) : cof (nI a) (nI b) = nI (offN a b) := by
  have q : ∀ (a b : Fin 12), cof (nI a.val) (nI b.val) = nI (offN a.val b.val) := by decide +kernel
  exact q ⟨a, ha⟩ ⟨b, hb⟩
theorem sx_cellsOff (a b : Int32) (x y : Nat) (hx : x < 12) (hy : y < 12) (ea : a = nI x) (eb : b = nI y) {K : xKo} (h : K (some (.int (nI (offN x y)))) []) : C_T_cellsOff [.int a, .int b] [] K := by
  subst ea
  subst eb
  rw [← cof_nI hx hy] at h
  refine xM_go rfl 60 [] fun P hP => ?_
  refine xcall (sp_abs _ ?_)
  refine xcall (sp_min _ _ ?_)
  exact h
theorem b12 {x : Int32} (h : below 11 x) : ∃ k, k < 12 ∧ x = nI k := by
  obtain ⟨k, hk, e⟩ := h
  exact ⟨k, by omega, e⟩
set_option maxRecDepth 100000 in
theorem sx_goalOf (F v s : xS) (X : xXt) (T : tH F v s X) (I : cIv s X) (c : Nat) (hc : c < nat (s 6 1)) (m : Int32) {K : xKo} (h : ∀ F' v', tR aG bE F v F' v' → K (some (.int (eGoal s X c m))) (xfill F' v' 0 (wT0 0))) : C_T_goalOf [.ref 0, .int (nI c), .int m] (xfill F v 0 (wT0 0)) K := by
  obtain ⟨n, hn, en⟩ := I.1.1
  obtain ⟨nc, hnc, enc⟩ := I.1.2
  have enn : nat (s 6 0) = n := by rw [en]; exact nI_clamp (by omega)
  have hc7 : c < 7 := by
    rw [enc, show nat (nI nc) = nc from nI_clamp (by omega)] at hc
    omega
  have ec : Int32.toNatClampNeg (nI c) = c := nI_clamp (by omega)
  have bc : vp_in (nI c) 7 := vp_in_nI hc7 (by omega)
  obtain ⟨x, hx, ex⟩ := b12 (I.2.2.2.1 c hc)
  have key : ∀ (d i : Nat) (g nr : Int32) (F' v' : xS), i + d = n → tR aG bE F v F' v' → (∀ F2 v2, tR aG bE F v F2 v2 → K (some (.int (gLp s X c m d i g nr))) (xfill F2 v2 0 (wT0 0))) → xWP pg_T_goalOf K 14 [(0, .ref 0), (1, .int (nI c)), (2, .int m), (3, .int g), (4, .int nr), (5, .int (nI i))] [] (xfill F' v' 0 (wT0 0)) (0, 0) := by
    intro d
    induction d with
    | zero =>
      intro i g nr F' v' hi E hk
      have e : v' 0 2 = nI n := (E.2 0 2 rfl).trans (T.1.1.trans en)
      have hi : i = n := hi
      subst hi
      refine xWP_go 100 [(14, [0, 1, 2, 3, 4, 5])] fun P hP => ?_
      refine br_c (fun _ => hk _ _ E) (fun z => absurd (by show v' 0 2 ≤ nI i; rw [e]; exact nI_le (Nat.le_refl _) (by omega)) z)
    | succ d ih =>
      intro i g nr F' v' hi E hk
      have e : v' 0 2 = nI n := (E.2 0 2 rfl).trans (T.1.1.trans en)
      have T' := T.e E.ge
      have hi8 : i < nat (s 6 0) := by omega
      have ei : Int32.toNatClampNeg (nI i) = i := nI_clamp (by omega)
      obtain ⟨y, hy, ey⟩ := b12 (I.2.1 i hi8).1
      have e1 : F' 1 (Int32.toNatClampNeg (nI i)) = nI y := by rw [ei, (T'.2.1 i hi8).1]; exact ey
      have e2 : F' 2 (Int32.toNatClampNeg (nI i)) = s 1 i := by rw [ei]; exact (T'.2.1 i hi8).2
      have e4 : F' 4 (Int32.toNatClampNeg (nI c)) = s 3 c := by rw [ec]; exact (T'.2.2.1 c hc).2
      have e5 : F' 5 (Int32.toNatClampNeg (nI c)) = nI x := by rw [ec, (T'.2.2.2.1 c hc7).1]; exact ex
      have eo : off (X.1 0 c) (s 0 i) = nI (offN x y) := by rw [ex, ey]; exact off_nI hx hy
      have eg : gLp s X c m (d + 1) i g nr = if (mk (s 1 i) m ∧ nI (offN x y) < nr) ∧ ¬ X.2.2 0 (nI (offN x y)) m (s 3 c) = 0 then gLp s X c m d (i + 1) (nI i) (nI (offN x y)) else gLp s X c m d (i + 1) g nr := by
        rw [← eo]
        rfl
      rw [eg] at hk
      refine xWP_go 100 [(14, [0, 1, 2, 3, 4, 5])] fun P hP => ?_
      refine br_c (fun z => ?_) (fun _ => ?_)
      · have z : v' 0 2 ≤ nI i := z
        rw [e] at z
        exact absurd z (nI_ge (by omega) (by omega))
      have nx : ∀ (g nr : Int32) (F2 v2 : xS), tR aG bE F' v' F2 v2 → (∀ F3 v3, tR aG bE F v F3 v3 → K (some (.int (gLp s X c m d (i + 1) g nr))) (xfill F3 v3 0 (wT0 0))) → xWP pg_T_goalOf K 14 [(0, .ref 0), (1, .int (nI c)), (2, .int m), (3, .int g), (4, .int nr), (5, .int (nI i + 1))] [] (xfill F2 v2 0 (wT0 0)) (0, 0) := by
        intro g nr F2 v2 E2 hk2
        rw [nI_1]
        exact ih (i + 1) g nr F2 v2 (by omega) (E.tr E2) hk2
      have bi : vp_in (nI i) 8 := vp_in_nI (by omega) (by omega)
      refine ⟨bc, ?_⟩
      refine ⟨bi, ?_⟩
      refine xcall (sx_cellsOff _ _ x y hx hy e5 e1 ?_)
      refine ⟨bi, ?_⟩
      refine xcall (sp_isIn _ _ (fun z1 => ?_) (fun z1 => ?_))
      · have z1 : ¬ mk (F' 2 (Int32.toNatClampNeg (nI i))) m := z1
        rw [e2] at z1
        rw [if_neg (fun z => z1 z.1.1)] at hk
        refine br_c (fun _ => ?_) (fun z => absurd rfl z)
        refine hP _ _ _ _ _ ?_
        exact nx _ _ _ _ tR.rf hk
      have z1 : mk (F' 2 (Int32.toNatClampNeg (nI i))) m := z1
      rw [e2] at z1
      refine br_c (fun z => absurd z (by decide)) (fun _ => ?_)
      refine br_c (fun z2 => ?_) (fun z2 => ?_)
      · have z2 : nr ≤ nI (offN x y) := z2
        rw [if_neg (fun z => by have q := z.1.2; rw [xlt] at q; rw [xle] at z2; omega)] at hk
        refine hP _ _ _ _ _ ?_
        exact nx _ _ _ _ tR.rf hk
      have z2 : ¬ nr ≤ nI (offN x y) := z2
      have z3 : nI (offN x y) < nr := by rw [xlt]; rw [xle] at z2; omega
      refine ⟨vin (by decide), ⟨fun _ => ?_, ⟨fun a => absurd a (by decide), trivial⟩⟩⟩
      refine ⟨bc, ?_⟩
      obtain ⟨n0, h0, e0, w0, w1⟩ := T'.2.2.2.2.1
      refine xcall (sp_gives (fun k => F' (9 + k)) (fun k => v' (9 + k)) (nI (offN x y)) m _ n0 h0 e0 (fun z => ?_) (fun z => ?_))
      · rw [if_pos ⟨⟨z1, z3⟩, by rw [w0 z]; decide⟩] at hk
        refine br_c (fun z => absurd z (by decide)) (fun _ => ?_)
        refine hP _ _ _ _ _ ?_
        exact nx _ _ _ _ tR.rf hk
      · have ew := w1 z (nI (offN x y)) m (s 3 c) (F' 11)
        rw [← e4] at ew
        refine br_c (fun y0 => ?_) (fun y0 => ?_)
        · have y0 : (evGives (nI (offN x y)) m (F' 4 (Int32.toNatClampNeg (nI c))) (F' 10) n0 (F' 11)).1 = 0 := y0
          rw [ew, e4] at y0
          rw [if_neg (fun z => z.2 y0)] at hk
          refine hP _ _ _ _ _ ?_
          exact nx _ _ (va_up F' 11 _) (va_up v' 9 (va_up (v' 9) 3 _)) ((tR.rf.fu rfl).vu rfl) hk
        · have y0 : ¬ (evGives (nI (offN x y)) m (F' 4 (Int32.toNatClampNeg (nI c))) (F' 10) n0 (F' 11)).1 = 0 := y0
          rw [ew, e4] at y0
          rw [if_pos ⟨⟨z1, z3⟩, y0⟩] at hk
          refine hP _ _ _ _ _ ?_
          exact nx _ _ (va_up F' 11 _) (va_up v' 9 (va_up (v' 9) 3 _)) ((tR.rf.fu rfl).vu rfl) hk
  have ef : farV (F 3 (Int32.toNatClampNeg (nI c))) (F 4 (Int32.toNatClampNeg (nI c))) = farV (s 2 c) (s 3 c) := by rw [ec, (T.2.2.1 c hc).1, (T.2.2.1 c hc).2]
  unfold eGoal at h
  rw [enn, ← ef] at h
  refine xM_go rfl 100 [(14, [0, 1, 2, 3, 4, 5])] fun P hP => ?_
  refine xcall (sp_far F v (nI c) bc ?_)
  refine hP _ _ _ _ _ ?_
  exact key n 0 _ _ F v (by omega) tR.rf h
set_option maxRecDepth 100000 in
theorem sx_endOf (F v s : xS) (X : xXt) (T : tH F v s X) (I : cIv s X) (c : Nat) (hc : c < nat (s 6 1)) (m : Int32) (u : Nat) (hu : u < 10) {K : xKo} (h : ∀ F' v', tR aG bE F v F' v' → K (some (.int (eEnd s X m (nI u) c))) (xfill F' v' 0 (wT0 0))) : C_T_endOf [.ref 0, .int (nI c), .int m, .int (nI u)] (xfill F v 0 (wT0 0)) K := by
  obtain ⟨n, hn, en⟩ := I.1.1
  obtain ⟨nc, hnc, enc⟩ := I.1.2
  have enn : nat (s 6 0) = n := by rw [en]; exact nI_clamp (by omega)
  have hc7 : c < 7 := by
    rw [enc, show nat (nI nc) = nc from nI_clamp (by omega)] at hc
    omega
  have ec : Int32.toNatClampNeg (nI c) = c := nI_clamp (by omega)
  have bc : vp_in (nI c) 7 := vp_in_nI hc7 (by omega)
  obtain ⟨x, hx, ex⟩ := b12 (I.2.2.2.1 c hc)
  unfold eEnd at h
  have fin : ∀ (F' v' : xS), tR aG bE F v F' v' → ¬ nI c = X.2.1 → xWP pg_T_endOf K 18 [(0, .ref 0), (1, .int (nI c)), (2, .int m), (3, .int (nI u))] [.int (eGoal s X c m)] (xfill F' v' 0 (wT0 0)) (0, 0) := by
    intro F' v' E nc
    have T' := T.e E.ge
    have e5 : F' 5 (Int32.toNatClampNeg (nI c)) = nI x := by rw [ec, (T'.2.2.2.1 c hc7).1]; exact ex
    refine xWP_go 100 [] fun P hP => ?_
    rcases eGoal_in (s := s) (X := X) (c := c) (b := m) with eg | ⟨k, hk, eg⟩
    · rw [if_pos (Or.inr (by rw [eg]; decide)), ex] at h
      rw [eg]
      refine br_c (fun a => absurd a (by decide)) (fun a => ?_)
      refine ⟨bc, ?_⟩
      have q := h _ _ E
      rw [← e5] at q
      exact q
    · have ek : Int32.toNatClampNeg (nI k) = k := nI_clamp (by omega)
      obtain ⟨y, hy, ey⟩ := b12 (I.2.1 k hk).1
      have e1 : F' 1 (Int32.toNatClampNeg (nI k)) = nI y := by rw [ek, (T'.2.1 k hk).1]; exact ey
      obtain ⟨p, hp, ep⟩ := paceV_le (cs := s 6 2) (it := X.2.1) (I.2.2.1 c hc).1 (I.2.2.1 c hc).2
      have pu : p * u ≤ 27 := Nat.le_trans (Nat.mul_le_mul hp (show u ≤ 9 by omega)) (by decide)
      have eP : paceV (F' 3 (Int32.toNatClampNeg (nI c))) (F' 4 (Int32.toNatClampNeg (nI c))) (v' 0 10) (v' 0 9) = nI p := by
        rw [ec, (T'.2.2.1 c hc).1, (T'.2.2.1 c hc).2, T'.1.2.2.1, T'.1.2.2.2]
        exact ep
      rw [if_neg (fun z => z.elim nc fun z => by rw [eg, xlt, nI_toInt (by omega), show (0 : Int32).toInt = 0 by decide] at z; omega), eg, show nat (nI k) = k from ek, ex, ey, ep, nI_mul, wlk_nI hx hy (by omega)] at h
      rw [eg]
      refine br_c (fun a => ?_) (fun a => absurd (nI_pos' (by omega)) a)
      refine ⟨vp_in_nI (by omega) (by omega), ?_⟩
      refine ⟨bc, ?_⟩
      have q := h _ _ E
      unfold wlkN at q
      obtain ⟨up, eup⟩ : ∃ up, up = (y + 12 - x) % 12 := ⟨_, rfl⟩
      have hup : up < 12 := by rw [eup]; exact Nat.mod_lt _ (by decide)
      have eoff : offN x y = if up ≤ 12 - up then up else 12 - up := by rw [eup]; rfl
      have eup2 : fmV (F' 1 (Int32.toNatClampNeg (nI k)) - F' 5 (Int32.toNatClampNeg (nI c))) = nI up := by rw [e1, e5, eup]; exact fm_up hx hy
      have edn : (12 : Int32) - nI up = nI (12 - up) := by
        have z : nI (12 - up) + nI up = 12 := by rw [nI_add, Nat.sub_add_cancel (by omega)]; rfl
        rw [← z, Int32.add_sub_cancel]
      obtain ⟨w, ew⟩ : ∃ w, w = if offN x y ≤ p * u then offN x y else p * u := ⟨_, rfl⟩
      have hw : w ≤ 6 := by
        have := offN_le (a := x) (b := y)
        rw [ew]
        split <;> omega
      rw [← eup, ← ew] at q
      have fmk : ∀ K2 : xKo, K2 (some (.int (nI up))) [] → C_A_floorMod [.int (F' 1 (Int32.toNatClampNeg (nI k)) - F' 5 (Int32.toNatClampNeg (nI c))), .int 12] [] K2 := by
        intro K2 k2
        rw [← eup2] at k2
        exact sx_floorMod _ k2
      refine xcall (fmk _ ?_)
      have mk1 : ∀ K2 : xKo, K2 (some (.int (nI (offN x y)))) [] → C_A_min [.int (nI up), .int (12 - nI up)] [] K2 := by
        intro K2 k2
        rw [eoff, ← min_nI (by omega) (by omega), ← edn] at k2
        exact sp_min _ _ k2
      refine xcall (mk1 _ ?_)
      have pk : ∀ K2 : xKo, K2 (some (.int (nI p))) (xfill F' v' 0 (wT0 0)) → C_T_pace [.ref 0, .int (nI c)] (xfill F' v' 0 (wT0 0)) K2 := by
        intro K2 k2
        rw [← eP] at k2
        exact sp_pace F' v' (nI c) bc k2
      refine xcall (pk _ ?_)
      have mk2 : ∀ K2 : xKo, K2 (some (.int (nI w))) [] → C_A_min [.int (nI (offN x y)), .int (nI p * nI u)] [] K2 := by
        intro K2 k2
        have := offN_le (a := x) (b := y)
        rw [ew, ← min_nI (by omega) (by omega), ← nI_mul] at k2
        exact sp_min _ _ k2
      refine xcall (mk2 _ ?_)
      refine br_c (fun z => ?_) (fun z => ?_)
      · have z : 12 - nI up < nI up := z
        rw [edn, nI_ltI (by omega) (by omega)] at z
        rw [if_neg (by omega)] at q
        refine ⟨bc, ?_⟩
        have fk : ∀ K2 : xKo, K2 (some (.int (nI ((x + 12 - w) % 12)))) [] → C_A_floorMod [.int (F' 5 (Int32.toNatClampNeg (nI c)) - nI w), .int 12] [] K2 := by
          intro K2 k2
          rw [← fm_sub hx hw] at k2
          rw [e5]
          exact sx_floorMod _ k2
        refine xcall (fk _ ?_)
        exact q
      · have z : ¬ 12 - nI up < nI up := z
        rw [edn, nI_ltI (by omega) (by omega)] at z
        rw [if_pos (by omega)] at q
        refine ⟨bc, ?_⟩
        have fk : ∀ K2 : xKo, K2 (some (.int (nI ((x + w) % 12)))) [] → C_A_floorMod [.int (F' 5 (Int32.toNatClampNeg (nI c)) + nI w), .int 12] [] K2 := by
          intro K2 k2
          rw [← fm_add hx hw] at k2
          rw [e5]
          exact sx_floorMod _ k2
        refine xcall (fk _ ?_)
        exact q
  refine xM_go rfl 100 [(18, [0, 1, 2, 3])] fun P hP => ?_
  refine br_n (fun a => ?_) (fun a => ?_)
  · have a : ¬ nI c = v 0 9 := a
    rw [T.1.2.2.2] at a
    refine xcall (sx_goalOf F v s X T I c hc m (fun F' v' E => ?_))
    refine hP _ _ _ _ _ ?_
    exact fin F' v' E a
  · have a : nI c = v 0 9 := a
    rw [T.1.2.2.2] at a
    rw [if_pos (Or.inl a)] at h
    refine hP _ _ _ _ _ ?_
    refine xWP_go 100 [] fun P hP => ?_
    refine br_c (fun a => absurd a (by decide)) (fun _ => ?_)
    refine ⟨bc, ?_⟩
    have q := h _ _ tR.rf
    rw [← (T.2.2.2.1 c hc7).1] at q
    have e5 : F 5 (Int32.toNatClampNeg (nI c)) = F 5 c := by rw [ec]
    rw [← e5] at q
    exact q
end
section
/-! ===== the tried side: who would be had, and a call played, exactly ===== -/
set_option maxRecDepth 100000 in
theorem sx_crowdIn (F v s : xS) (X : xXt) (T : tH F v s X) (I : cIv s X) (E : Nat → Int32) (hE : ∀ j, j < nat (s 6 1) → F 17 j = E j) (cell : Int32) {K : xKo} (h : K (some (.int (crL X.2.1 cell E (nat (s 6 1)) 0 0))) (xfill F v 0 (wT0 0))) : C_T_crowdIn [.ref 0, .int cell] (xfill F v 0 (wT0 0)) K := by
  obtain ⟨n, hn, en⟩ := I.1.2
  have enn : nat (s 6 1) = n := by rw [en]; exact nI_clamp (by omega)
  have e8 : v 0 8 = nI n := T.1.2.1.trans en
  have e9 : v 0 9 = X.2.1 := T.1.2.2.2
  have key : ∀ (d i : Nat) (g : Int32), i + d = n → K (some (.int (crL X.2.1 cell E d i g))) (xfill F v 0 (wT0 0)) → xWP pg_T_crowdIn K 4 [(0, .ref 0), (1, .int cell), (2, .int g), (3, .int (nI i))] [] (xfill F v 0 (wT0 0)) (0, 0) := by
    intro d
    induction d with
    | zero =>
      intro i g hi hk
      have hi : i = n := hi
      subst hi
      refine xWP_go 100 [(4, [0, 1, 2, 3])] fun P hP => ?_
      refine br_c (fun _ => hk) (fun z => absurd (by show v 0 8 ≤ nI i; rw [e8]; exact nI_le (Nat.le_refl _) (by omega)) z)
    | succ d ih =>
      intro i g hi hk
      have eq : crL X.2.1 cell E (d + 1) i g = crL X.2.1 cell E d (i + 1) (if nI i = X.2.1 then g else if E i = cell then g + 1 else g) := rfl
      rw [eq] at hk
      have ei : Int32.toNatClampNeg (nI i) = i := nI_clamp (by omega)
      have e17 : F 17 (Int32.toNatClampNeg (nI i)) = E i := by rw [ei]; exact hE i (by omega)
      refine xWP_go 100 [(4, [0, 1, 2, 3])] fun P hP => ?_
      refine br_c (fun z => ?_) (fun _ => ?_)
      · have z : v 0 8 ≤ nI i := z
        rw [e8] at z
        exact absurd z (nI_ge (by omega) (by omega))
      have nx : ∀ g : Int32, K (some (.int (crL X.2.1 cell E d (i + 1) g))) (xfill F v 0 (wT0 0)) → xWP pg_T_crowdIn K 4 [(0, .ref 0), (1, .int cell), (2, .int g), (3, .int (nI i + 1))] [] (xfill F v 0 (wT0 0)) (0, 0) := by
        intro g hk2
        rw [nI_1]
        exact ih (i + 1) g (by omega) hk2
      refine br_c (fun a => ?_) (fun a => ?_)
      · have a : nI i = v 0 9 := a
        rw [e9] at a
        rw [if_pos a] at hk
        refine hP _ _ _ _ _ ?_
        exact nx _ hk
      have a : ¬ nI i = v 0 9 := a
      rw [e9] at a
      rw [if_neg a] at hk
      refine ⟨vp_in_nI (by omega) (by omega), ?_⟩
      refine br_n (fun b => ?_) (fun b => ?_)
      · have b : ¬ F 17 (Int32.toNatClampNeg (nI i)) = cell := b
        rw [e17] at b
        rw [if_neg b] at hk
        refine hP _ _ _ _ _ ?_
        exact nx _ hk
      · have b : F 17 (Int32.toNatClampNeg (nI i)) = cell := b
        rw [e17] at b
        rw [if_pos b] at hk
        refine hP _ _ _ _ _ ?_
        exact nx _ hk
  rw [enn] at h
  refine xM_go rfl 100 [(4, [0, 1, 2, 3])] fun P hP => ?_
  refine hP _ _ _ _ _ ?_
  exact key n 0 0 (by omega) h
set_option maxRecDepth 100000 in
theorem sx_isHeld (F v s : xS) (X : xXt) (T : tH F v s X) (I : cIv s X) (E : Nat → Int32) (hE : ∀ j, j < nat (s 6 1) → F 17 j = E j) (cell m : Int32) {K : xKo} (h : ∀ F' v', tR aG bE F v F' v' → K (some (.int (eHeld s X E cell m))) (xfill F' v' 0 (wT0 0))) : C_T_isHeld [.ref 0, .int cell, .int m] (xfill F v 0 (wT0 0)) K := by
  obtain ⟨n, hn, en⟩ := I.1.1
  have enn : nat (s 6 0) = n := by rw [en]; exact nI_clamp (by omega)
  have e2 : v 0 2 = nI n := T.1.1.trans en
  unfold eHeld at h
  obtain ⟨cr, ecr⟩ : ∃ cr, cr = crL X.2.1 cell E (nat (s 6 1)) 0 0 := ⟨_, rfl⟩
  rw [← ecr, enn] at h
  have key : ∀ (d i : Nat), i + d = n → (∀ F' v', tR aG bE F v F' v' → K (some (.int (hdL s (X.2.2 1) cr cell m d i))) (xfill F' v' 0 (wT0 0))) → xWP pg_T_isHeld K 2 [(0, .ref 0), (1, .int cell), (2, .int m), (3, .int (nI i))] [] (xfill F v 0 (wT0 0)) (0, 0) := by
    intro d
    induction d with
    | zero =>
      intro i hi hk
      have hi : i = n := hi
      subst hi
      refine xWP_go 100 [(2, [0, 1, 2, 3])] fun P hP => ?_
      refine br_c (fun _ => ?_) (fun z => absurd (by show v 0 2 ≤ nI i; rw [e2]; exact nI_le (Nat.le_refl _) (by omega)) z)
      exact ⟨Or.inl rfl, hk _ _ tR.rf⟩
    | succ d ih =>
      intro i hi hk
      have eq : hdL s (X.2.2 1) cr cell m (d + 1) i = if s 0 i = cell ∧ mk (s 1 i) m then (if X.2.2 1 cr (s 1 i) m = 0 then 0 else 1) else hdL s (X.2.2 1) cr cell m d (i + 1) := rfl
      rw [eq] at hk
      have hi8 : i < nat (s 6 0) := by omega
      have ei : Int32.toNatClampNeg (nI i) = i := nI_clamp (by omega)
      have f1 : F 1 (Int32.toNatClampNeg (nI i)) = s 0 i := by rw [ei]; exact (T.2.1 i hi8).1
      have f2 : F 2 (Int32.toNatClampNeg (nI i)) = s 1 i := by rw [ei]; exact (T.2.1 i hi8).2
      refine xWP_go 100 [(2, [0, 1, 2, 3])] fun P hP => ?_
      refine br_c (fun z => ?_) (fun _ => ?_)
      · have z : v 0 2 ≤ nI i := z
        rw [e2] at z
        exact absurd z (nI_ge (by omega) (by omega))
      have nx : (∀ F' v', tR aG bE F v F' v' → K (some (.int (hdL s (X.2.2 1) cr cell m d (i + 1)))) (xfill F' v' 0 (wT0 0))) → xWP pg_T_isHeld K 2 [(0, .ref 0), (1, .int cell), (2, .int m), (3, .int (nI i + 1))] [] (xfill F v 0 (wT0 0)) (0, 0) := by
        intro hk2
        rw [nI_1]
        exact ih (i + 1) (by omega) hk2
      have bi : vp_in (nI i) 8 := vp_in_nI (by omega) (by omega)
      refine ⟨bi, ?_⟩
      refine br_n (fun a => ?_) (fun a => ?_)
      · have a : ¬ F 1 (Int32.toNatClampNeg (nI i)) = cell := a
        rw [f1] at a
        rw [if_neg (fun z => a z.1)] at hk
        refine hP _ _ _ _ _ ?_
        exact nx hk
      have a : F 1 (Int32.toNatClampNeg (nI i)) = cell := a
      rw [f1] at a
      refine ⟨bi, ?_⟩
      refine xcall (sp_isIn _ _ (fun z1 => ?_) (fun z1 => ?_))
      · have z1 : ¬ mk (F 2 (Int32.toNatClampNeg (nI i))) m := z1
        rw [f2] at z1
        rw [if_neg (fun z => z1 z.2)] at hk
        refine br_c (fun _ => ?_) (fun z => absurd rfl z)
        refine hP _ _ _ _ _ ?_
        exact nx hk
      have z1 : mk (F 2 (Int32.toNatClampNeg (nI i))) m := z1
      rw [f2] at z1
      rw [if_pos ⟨a, z1⟩] at hk
      refine br_c (fun z => absurd z (by decide)) (fun _ => ?_)
      refine ⟨vin (by decide), ⟨fun a => absurd a (by decide), ⟨fun _ => ?_, trivial⟩⟩⟩
      have crk : ∀ K2 : xKo, K2 (some (.int cr)) (xfill F v 0 (wT0 0)) → C_T_crowdIn [.ref 0, .int cell] (xfill F v 0 (wT0 0)) K2 := by
        intro K2 k2
        rw [ecr] at k2
        exact sx_crowdIn F v s X T I E hE cell k2
      refine xcall (crk _ ?_)
      refine ⟨bi, ?_⟩
      obtain ⟨n1, h1, e1, w0, w1⟩ := T.2.2.2.2.2
      refine xcall (sp_gives (fun k => F (12 + k)) (fun k => v (12 + k)) cr _ m n1 h1 e1 (fun z => ?_) (fun z => ?_))
      · rw [if_neg (by rw [w0 z]; decide)] at hk
        refine br_c (fun z => absurd z (by decide)) (fun _ => ?_)
        exact ⟨Or.inr rfl, hk _ _ tR.rf⟩
      · have ew := w1 z cr (s 1 i) m (F 14)
        rw [← f2] at ew
        refine br_c (fun y0 => ?_) (fun y0 => ?_)
        · have y0 : (evGives cr (F 2 (Int32.toNatClampNeg (nI i))) m (F 13) n1 (F 14)).1 = 0 := y0
          rw [ew, f2] at y0
          rw [if_pos y0] at hk
          exact ⟨Or.inl rfl, hk (va_up F 14 _) (va_up v 12 (va_up (v 12) 3 _)) ((tR.rf.fu rfl).vu rfl)⟩
        · have y0 : ¬ (evGives cr (F 2 (Int32.toNatClampNeg (nI i))) m (F 13) n1 (F 14)).1 = 0 := y0
          rw [ew, f2] at y0
          rw [if_neg y0] at hk
          exact ⟨Or.inr rfl, hk (va_up F 14 _) (va_up v 12 (va_up (v 12) 3 _)) ((tR.rf.fu rfl).vu rfl)⟩
  refine xM_go rfl 100 [(2, [0, 1, 2, 3])] fun P hP => ?_
  refine hP _ _ _ _ _ ?_
  exact key n 0 (by omega) h
set_option maxRecDepth 100000 in
theorem sx_wouldBeHad (F v s : xS) (X : xXt) (T : tH F v s X) (I : cIv s X) (m : Int32) (u : Nat) (hu : u < 10) {K : xKo} (h : ∀ F' v', tR aE bE F v F' v' → (∀ j, j < nat (s 6 1) → F' 17 j = eEnd s X m (nI u) j) → K (some (.int (eSet s X m (nI u)))) (xfill F' v' 0 (wT0 0))) : C_T_wouldBeHad [.ref 0, .int m, .int (nI u)] (xfill F v 0 (wT0 0)) K := by
  obtain ⟨n, hn, en⟩ := I.1.2
  have enn : nat (s 6 1) = n := by rw [en]; exact nI_clamp (by omega)
  unfold eSet at h
  rw [enn] at h
  have two : ∀ (d i : Nat) (F' v' : xS), i + d = n → tR aE bE F v F' v' → (∀ j, j < n → F' 17 j = eEnd s X m (nI u) j) → xWP pg_T_wouldBeHad K 34 [(0, .ref 0), (1, .int m), (2, .int (nI u)), (3, .int (nI (stN (eHad s X m (nI u)) i))), (4, .int (nI i))] [] (xfill F' v' 0 (wT0 0)) (0, 0) := by
    intro d
    induction d with
    | zero =>
      intro i F' v' hi E hE
      have e : v' 0 8 = nI n := (E.2 0 8 rfl).trans (T.1.2.1.trans en)
      have hi : i = n := hi
      subst hi
      refine xWP_go 100 [(34, [0, 1, 2, 3, 4])] fun P hP => ?_
      refine br_c (fun _ => h _ _ E hE) (fun z => absurd (by show v' 0 8 ≤ nI i; rw [e]; exact nI_le (Nat.le_refl _) (by omega)) z)
    | succ d ih =>
      intro i F' v' hi E hE
      have T' := T.e E
      have e : v' 0 8 = nI n := (E.2 0 8 rfl).trans (T.1.2.1.trans en)
      have e9 : v' 0 9 = X.2.1 := T'.1.2.2.2
      have ei : Int32.toNatClampNeg (nI i) = i := nI_clamp (by omega)
      have e17 : F' 17 (Int32.toNatClampNeg (nI i)) = eEnd s X m (nI u) i := by rw [ei]; exact hE i (by omega)
      have es : stN (eHad s X m (nI u)) (i + 1) = if eHad s X m (nI u) i then stN (eHad s X m (nI u)) i + 2 ^ i else stN (eHad s X m (nI u)) i := rfl
      refine xWP_go 100 [(34, [0, 1, 2, 3, 4])] fun P hP => ?_
      refine br_c (fun z => ?_) (fun _ => ?_)
      · have z : v' 0 8 ≤ nI i := z
        rw [e] at z
        exact absurd z (nI_ge (by omega) (by omega))
      have nx : ∀ (g : Int32) (F2 v2 : xS), tR aG bE F' v' F2 v2 → g = nI (stN (eHad s X m (nI u)) (i + 1)) → xWP pg_T_wouldBeHad K 34 [(0, .ref 0), (1, .int m), (2, .int (nI u)), (3, .int g), (4, .int (nI i + 1))] [] (xfill F2 v2 0 (wT0 0)) (0, 0) := by
        intro g F2 v2 E2 eg
        rw [nI_1, eg]
        exact ih (i + 1) F2 v2 (by omega) (E.tr E2.ge) (fun j hj => by rw [E2.1 17 rfl]; exact hE j hj)
      refine br_c (fun a => ?_) (fun a => ?_)
      · have a : nI i = v' 0 9 := a
        rw [e9] at a
        have eh : eHad s X m (nI u) i = false := by
          unfold eHad
          rw [decide_eq_false (fun z => z a), Bool.false_and]
        refine hP _ _ _ _ _ ?_
        exact nx _ _ _ tR.rf (by rw [es, eh, if_neg Bool.false_ne_true])
      have a : ¬ nI i = v' 0 9 := a
      rw [e9] at a
      refine ⟨vp_in_nI (by omega) (by omega), ?_⟩
      have hk : ∀ K2 : xKo, (∀ F2 v2, tR aG bE F' v' F2 v2 → K2 (some (.int (eHeld s X (eEnd s X m (nI u)) (eEnd s X m (nI u) i) m))) (xfill F2 v2 0 (wT0 0))) → C_T_isHeld [.ref 0, .int (F' 17 (Int32.toNatClampNeg (nI i))), .int m] (xfill F' v' 0 (wT0 0)) K2 := by
        intro K2 k2
        rw [e17]
        exact sx_isHeld F' v' s X T' I _ (fun j hj => hE j (by omega)) _ m k2
      refine xcall (hk _ (fun F2 v2 E2 => ?_))
      refine br_n (fun b => ?_) (fun b => ?_)
      · have eh : eHad s X m (nI u) i = false := by
          unfold eHad
          rw [decide_eq_false (p := eHeld s X (eEnd s X m (nI u)) (eEnd s X m (nI u) i) m = 0) b, Bool.and_false]
        refine hP _ _ _ _ _ ?_
        exact nx _ _ _ E2 (by rw [es, eh, if_neg Bool.false_ne_true])
      · have eh : eHad s X m (nI u) i = true := by
          unfold eHad
          rw [decide_eq_true a, decide_eq_true (p := eHeld s X (eEnd s X m (nI u)) (eEnd s X m (nI u) i) m = 0) b]
          rfl
        refine hP _ _ _ _ _ ?_
        exact nx _ _ _ E2 (by rw [es, eh, if_pos rfl]; exact st_or (by omega) stN_lt)
  have one : ∀ (d i : Nat) (F' v' : xS), i + d = n → tR aE bE F v F' v' → (∀ j, j < i → F' 17 j = eEnd s X m (nI u) j) → xWP pg_T_wouldBeHad K 2 [(0, .ref 0), (1, .int m), (2, .int (nI u)), (3, .int (nI i))] [] (xfill F' v' 0 (wT0 0)) (0, 0) := by
    intro d
    induction d with
    | zero =>
      intro i F' v' hi E hE
      have e : v' 0 8 = nI n := (E.2 0 8 rfl).trans (T.1.2.1.trans en)
      have hi : i = n := hi
      subst hi
      refine xWP_go 100 [(2, [0, 1, 2, 3]), (34, [0, 1, 2, 3, 4])] fun P hP => ?_
      refine br_c (fun _ => ?_) (fun z => absurd (by show v' 0 8 ≤ nI i; rw [e]; exact nI_le (Nat.le_refl _) (by omega)) z)
      refine hP _ _ _ _ _ ?_
      exact two i 0 F' v' (by omega) E hE
    | succ d ih =>
      intro i F' v' hi E hE
      have T' := T.e E
      have e : v' 0 8 = nI n := (E.2 0 8 rfl).trans (T.1.2.1.trans en)
      have ei : Int32.toNatClampNeg (nI i) = i := nI_clamp (by omega)
      refine xWP_go 100 [(2, [0, 1, 2, 3]), (34, [0, 1, 2, 3, 4])] fun P hP => ?_
      refine br_c (fun z => ?_) (fun _ => ?_)
      · have z : v' 0 8 ≤ nI i := z
        rw [e] at z
        exact absurd z (nI_ge (by omega) (by omega))
      have bi : vp_in (nI i) 7 := vp_in_nI (by omega) (by omega)
      refine xcall (sx_endOf F' v' s X T' I i (by omega) m u hu (fun F2 v2 E2 => ?_))
      refine ⟨bi, ?_⟩
      refine hP _ _ _ _ _ ?_
      rw [nI_1]
      refine ih (i + 1) (va_up F2 17 (upd (F2 17) (Int32.toNatClampNeg (nI i)) (eEnd s X m (nI u) i))) v2 (by omega) ((E.tr E2.ge).fu rfl) (fun j hj => ?_)
      show upd (F2 17) (Int32.toNatClampNeg (nI i)) (eEnd s X m (nI u) i) j = _
      rw [ei]
      by_cases ej : j = i
      · rw [ej, pk_us]
      · rw [pk_un ej, E2.1 17 rfl]
        exact hE j (by omega)
  refine xM_go rfl 100 [(2, [0, 1, 2, 3])] fun P hP => ?_
  refine hP _ _ _ _ _ ?_
  exact one n 0 F v (by omega) tR.rf (fun j hj => absurd hj (Nat.not_lt_zero j))
set_option maxRecDepth 100000 in
theorem sx_play (F v s : xS) (X : xXt) (T : tH F v s X) (I : cIv s X) (m : Int32) (u : Nat) (hu : u < 10) {K : xKo} (h : ∀ F' v', tR aP bQ F v F' v' → tH F' v' (clS s) (ePlay s X m (nI u)) → K (some (.int (eSet s X m (nI u)))) (xfill F' v' 0 (wT0 0))) : C_T_play [.ref 0, .int m, .int (nI u)] (xfill F v 0 (wT0 0)) K := by
  obtain ⟨n, hn, en⟩ := I.1.2
  have enn : nat (s 6 1) = n := by rw [en]; exact nI_clamp (by omega)
  obtain ⟨H, eH⟩ : ∃ H, H = eHad s X m (nI u) := ⟨_, rfl⟩
  have eS : eSet s X m (nI u) = nI (stN H n) := by unfold eSet; rw [enn, eH]
  rw [eS] at h
  have eP : ∀ k j, j < n → (ePlay s X m (nI u)).1 k j = (match k with
    | 0 => eEnd s X m (nI u) j
    | 1 => if H j then up9 (X.1 1 j) else X.1 1 j
    | 2 => if H j then X.1 2 j else if nI j = X.2.1 then X.1 2 j else up9 (X.1 2 j)
    | k => X.1 k j) := fun k j hj => by rw [eH]; exact if_pos (by rw [enn]; exact hj)
  have eN : ∀ k j, ¬ j < n → (ePlay s X m (nI u)).1 k j = X.1 k j := fun k j hj => if_neg (by rw [enn]; exact hj)
  have Xd := T.2.2.2.1
  have key : ∀ (d i : Nat) (F' v' : xS), i + d = n → tR aP bP F v F' v' → (∀ j, j < n → F' 17 j = eEnd s X m (nI u) j) → (∀ j, j < i → F' 5 j = eEnd s X m (nI u) j ∧ F' 6 j = (ePlay s X m (nI u)).1 1 j ∧ F' 7 j = (ePlay s X m (nI u)).1 2 j) → (∀ j, i ≤ j → F' 5 j = F 5 j ∧ F' 6 j = F 6 j ∧ F' 7 j = F 7 j) → v' 0 9 = X.2.1 → xWP pg_T_play K 13 [(0, .ref 0), (1, .int m), (2, .int (nI u)), (3, .int (nI (stN H n))), (4, .int (nxL H i)), (5, .int (nI i))] [] (xfill F' v' 0 (wT0 0)) (0, 0) := by
    intro d
    induction d with
    | zero =>
      intro i F' v' hi E hE h1 h2 h9
      have e : v' 0 8 = nI n := (E.2 0 8 rfl).trans (T.1.2.1.trans en)
      have hi : i = n := hi
      subst hi
      refine xWP_go 100 [(13, [0, 1, 2, 3, 4, 5])] fun P hP => ?_
      refine br_c (fun _ => ?_) (fun z => absurd (by show v' 0 8 ≤ nI i; rw [e]; exact nI_le (Nat.le_refl _) (by omega)) z)
      refine h F' (va_up v' 0 (va_up (va_up (v' 0) 9 (nxL H i)) 10 (v' 0 10 + 1))) ⟨E.1, fun k j z => ?_⟩ ?_
      · have q := (((tP.q E).vu (x := nxL H i) (k := 0) (j := 9) rfl).vu (x := v' 0 10 + 1) (k := 0) (j := 10) rfl).2 k j z
        rw [← q]
        by_cases k0 : k = 0
        · subst k0; rfl
        · exact (congrFun (if_neg k0) j).trans ((congrFun (if_neg k0) j).trans (congrFun (if_neg k0) j)).symm
      · obtain ⟨⟨a1, a2, a3, a4⟩, b, c, dd, l0, l1⟩ := T
        refine ⟨⟨(E.2 0 2 rfl).trans a1, (E.2 0 8 rfl).trans a2, ?_, ?_⟩, ?_, ?_, fun j hj => ?_, ?_, ?_⟩
        · show v' 0 10 + 1 = s 6 2 + 1
          rw [E.2 0 10 rfl, a3]
        · show nxL H i = nxL (eHad s X m (nI u)) (nat (s 6 1))
          rw [enn, eH]
        · rw [E.1 1 rfl, E.1 2 rfl]; exact b
        · rw [E.1 3 rfl, E.1 4 rfl]; exact c
        · by_cases hj2 : j < i
          · refine ⟨(h1 j hj2).1.trans ?_, (h1 j hj2).2⟩
            exact (eP 0 j hj2).symm
          · obtain ⟨q1, q2, q3⟩ := h2 j (by omega)
            obtain ⟨r1, r2, r3⟩ := dd j hj
            rw [eN 0 j hj2, eN 1 j hj2, eN 2 j hj2]
            exact ⟨q1.trans r1, q2.trans r2, q3.trans r3⟩
        · show hLw (F' 10) (v' 9 1) (X.2.2 0)
          rw [E.1 10 rfl, E.2 9 1 rfl]; exact l0
        · show hLw (F' 13) (v' 12 1) (X.2.2 1)
          rw [E.1 13 rfl, E.2 12 1 rfl]; exact l1
    | succ d ih =>
      intro i F' v' hi E hE h1 h2 h9
      have e : v' 0 8 = nI n := (E.2 0 8 rfl).trans (T.1.2.1.trans en)
      have ei : Int32.toNatClampNeg (nI i) = i := nI_clamp (by omega)
      have e17 : F' 17 (Int32.toNatClampNeg (nI i)) = eEnd s X m (nI u) i := by rw [ei]; exact hE i (by omega)
      obtain ⟨q1, q2, q3⟩ := h2 i (Nat.le_refl i)
      obtain ⟨r1, r2, r3⟩ := Xd i (by omega)
      have enx : nxL H (i + 1) = if nxL H i = -1 then (if H i then nI i else -1) else nxL H i := rfl
      have bi : vp_in (nI i) 7 := vp_in_nI (by omega) (by omega)
      have mb := mk_st (h := H) (n := n) hn (show i < n by omega)
      -- what a step leaves
      have nx : ∀ (x : Int32) (F2 : xS), tR aP bP F v F2 v' → F2 17 = F' 17 → (∀ j, ¬ j = i → F2 5 j = F' 5 j ∧ F2 6 j = F' 6 j ∧ F2 7 j = F' 7 j) → F2 5 i = eEnd s X m (nI u) i → F2 6 i = (ePlay s X m (nI u)).1 1 i → F2 7 i = (ePlay s X m (nI u)).1 2 i → x = nxL H (i + 1) → xWP pg_T_play K 13 [(0, .ref 0), (1, .int m), (2, .int (nI u)), (3, .int (nI (stN H n))), (4, .int x), (5, .int (nI i + 1))] [] (xfill F2 v' 0 (wT0 0)) (0, 0) := by
        intro x F2 E2 g17 go g5 g6 g7 ex
        rw [nI_1, ex]
        refine ih (i + 1) F2 v' (by omega) E2 (fun j hj => by rw [g17]; exact hE j hj) (fun j hj => ?_) (fun j hj => ?_) h9
        · by_cases ej : j = i
          · rw [ej]; exact ⟨g5, g6, g7⟩
          · obtain ⟨p1, p2, p3⟩ := go j ej
            rw [p1, p2, p3]
            exact h1 j (by omega)
        · obtain ⟨p1, p2, p3⟩ := go j (by omega)
          rw [p1, p2, p3]
          exact h2 j (by omega)
      have x1 : F' 6 i = X.1 1 i := q2.trans r2
      have x2 : F' 7 i = X.1 2 i := q3.trans r3
      have u1 := eP 1 i (by omega)
      have u2 := eP 2 i (by omega)
      refine xWP_go 100 [(13, [0, 1, 2, 3, 4, 5])] fun P hP => ?_
      refine br_c (fun z => ?_) (fun _ => ?_)
      · have z : v' 0 8 ≤ nI i := z
        rw [e] at z
        exact absurd z (nI_ge (by omega) (by omega))
      refine ⟨bi, ?_⟩
      refine ⟨bi, ?_⟩
      refine xcall (sp_isIn _ _ (fun z1 => ?_) (fun z1 => ?_))
      · have z1 : ¬ mk (nI (stN H n)) (nI i) := z1
        have hf : H i = false := by
          cases hh : H i with
          | false => rfl
          | true => exact absurd (mb.mpr hh) z1
        have u1 : (ePlay s X m (nI u)).1 1 i = X.1 1 i := u1.trans (if_neg (by rw [hf]; decide))
        have u2 : (ePlay s X m (nI u)).1 2 i = if nI i = X.2.1 then X.1 2 i else up9 (X.1 2 i) := u2.trans (if_neg (by rw [hf]; decide))
        have ex : nxL H i = nxL H (i + 1) := by
          rw [enx, hf, if_neg Bool.false_ne_true]
          split
          · rename_i z; exact z
          · rfl
        refine br_c (fun _ => ?_) (fun z => absurd rfl z)
        refine br_c (fun a => ?_) (fun a => ?_)
        · have a : nI i = v' 0 9 := a
          rw [h9] at a
          rw [if_pos a] at u2
          refine hP _ _ _ _ _ ?_
          refine nx _ (va_up F' 5 (upd (F' 5) (Int32.toNatClampNeg (nI i)) (F' 17 (Int32.toNatClampNeg (nI i))))) (E.fu rfl) rfl (fun j hj => ⟨?_, rfl, rfl⟩) ?_ (x1.trans u1.symm) (x2.trans u2.symm) ex
          · show upd (F' 5) (Int32.toNatClampNeg (nI i)) _ j = _
            rw [ei]; exact pk_un hj
          · show upd (F' 5) (Int32.toNatClampNeg (nI i)) _ i = _
            rw [e17, ei, pk_us]
        have a : ¬ nI i = v' 0 9 := a
        rw [h9] at a
        rw [if_neg a] at u2
        refine ⟨bi, ?_⟩
        refine xcall (sp_min _ _ ?_)
        refine ⟨bi, ?_⟩
        refine hP _ _ _ _ _ ?_
        refine nx _ (va_up (va_up F' 5 (upd (F' 5) (Int32.toNatClampNeg (nI i)) (F' 17 (Int32.toNatClampNeg (nI i))))) 7 (upd (F' 7) (Int32.toNatClampNeg (nI i)) (if F' 7 (Int32.toNatClampNeg (nI i)) + 1 ≤ 999 then F' 7 (Int32.toNatClampNeg (nI i)) + 1 else 999))) ((E.fu rfl).fu rfl) rfl (fun j hj => ⟨?_, rfl, ?_⟩) ?_ (x1.trans u1.symm) ?_ ex
        · show upd (F' 5) (Int32.toNatClampNeg (nI i)) _ j = _
          rw [ei]; exact pk_un hj
        · show upd (F' 7) (Int32.toNatClampNeg (nI i)) _ j = _
          rw [ei]; exact pk_un hj
        · show upd (F' 5) (Int32.toNatClampNeg (nI i)) _ i = _
          rw [e17, ei, pk_us]
        · show upd (F' 7) (Int32.toNatClampNeg (nI i)) _ i = _
          rw [ei, pk_us, x2, u2]
          rfl
      have z1 : mk (nI (stN H n)) (nI i) := z1
      have ht : H i = true := mb.mp z1
      have u1 : (ePlay s X m (nI u)).1 1 i = up9 (X.1 1 i) := u1.trans (if_pos ht)
      have u2 : (ePlay s X m (nI u)).1 2 i = X.1 2 i := u2.trans (if_pos ht)
      rw [ht, if_pos rfl] at enx
      refine br_c (fun z => absurd z (by decide)) (fun _ => ?_)
      refine ⟨bi, ?_⟩
      refine xcall (sp_min _ _ ?_)
      refine ⟨bi, ?_⟩
      have st : ∀ x, x = nxL H (i + 1) → xWP pg_T_play K 13 [(0, .ref 0), (1, .int m), (2, .int (nI u)), (3, .int (nI (stN H n))), (4, .int x), (5, .int (nI i + 1))] [] (xfill (va_up (va_up F' 5 (upd (F' 5) (Int32.toNatClampNeg (nI i)) (F' 17 (Int32.toNatClampNeg (nI i))))) 6 (upd (F' 6) (Int32.toNatClampNeg (nI i)) (if F' 6 (Int32.toNatClampNeg (nI i)) + 1 ≤ 999 then F' 6 (Int32.toNatClampNeg (nI i)) + 1 else 999))) v' 0 (wT0 0)) (0, 0) := by
        intro x ex
        refine nx _ _ ((E.fu rfl).fu rfl) rfl (fun j hj => ⟨?_, ?_, rfl⟩) ?_ ?_ (x2.trans u2.symm) ex
        · show upd (F' 5) (Int32.toNatClampNeg (nI i)) _ j = _
          rw [ei]; exact pk_un hj
        · show upd (F' 6) (Int32.toNatClampNeg (nI i)) _ j = _
          rw [ei]; exact pk_un hj
        · show upd (F' 5) (Int32.toNatClampNeg (nI i)) _ i = _
          rw [e17, ei, pk_us]
        · show upd (F' 6) (Int32.toNatClampNeg (nI i)) _ i = _
          rw [ei, pk_us, x1, u1]
          rfl
      refine br_n (fun a => ?_) (fun a => ?_)
      · have a : ¬ nxL H i = -1 := a
        rw [if_neg a] at enx
        refine hP _ _ _ _ _ ?_
        exact st _ enx.symm
      · have a : nxL H i = -1 := a
        rw [if_pos a] at enx
        refine hP _ _ _ _ _ ?_
        exact st _ enx.symm
  refine xM_go rfl 100 [(13, [0, 1, 2, 3, 4, 5])] fun P hP => ?_
  refine xcall (sx_wouldBeHad F v s X T I m u hu (fun F' v' E hE => ?_))
  rw [eS]
  refine hP _ _ _ _ _ ?_
  refine key n 0 F' v' (by omega) (tE.p E) (fun j hj => hE j (by omega)) (fun j hj => absurd hj (Nat.not_lt_zero j)) (fun j _ => ?_) ((E.2 0 9 rfl).trans T.1.2.2.2)
  rw [E.1 5 rfl, E.1 6 rfl, E.1 7 rfl]
  exact ⟨rfl, rfl, rfl⟩
end
section
/-! ===== the reference: what a call rests on, exactly ===== -/
/-- a text in a row of numbers gives what L says -/
def mLw (f : Nat → Int32) (u : Nat) (L : xLw) : Prop := (f (6 + u) < 0 ∧ ∀ a b c, L a b c = 1) ∨ ∃ n, n ≤ 50 ∧ f (6 + u) = nI n ∧ ∀ a b c, L a b c = clamp1 (grG (nI u) a b c (bY (fun k => f (130 + 50 * u + k)) n) 60 5 0 0).1
def tM (f : Nat → Int32) (s : xS) (X : xXt) : Prop := (f 3 = s 6 0 ∧ f 2 = s 6 1 ∧ f 0 = s 6 2 ∧ f 8 = X.2.1) ∧ (∀ j, j < nat (s 6 0) → f (9 + 2 * j) = s 0 j ∧ f (9 + 2 * j + 1) = s 1 j) ∧ (∀ j, j < nat (s 6 1) → f (25 + 5 * j + 0) = s 2 j ∧ f (25 + 5 * j + 1) = s 3 j) ∧ (∀ j, j < 7 → f (25 + 5 * j + 2) = X.1 0 j ∧ f (25 + 5 * j + 3) = X.1 1 j ∧ f (25 + 5 * j + 4) = X.1 2 j) ∧ mLw f 0 (X.2.2 0) ∧ mLw f 1 (X.2.2 1)
/-- things taken away have no mark -/
def sm (tk : Int32) (s : xS) : xS := va_up s 1 (fun j => if mk tk (nI j) then 0 else s 1 j)
theorem and1 (x : Int32) : x &&& 1 = 0 ∨ x &&& 1 = 1 := by
  have e : (x &&& 1).toBitVec.toNat = x.toBitVec.toNat % 2 := by
    rw [Int32.toBitVec_and, BitVec.toNat_and]
    exact Nat.and_one_is_mod _
  have l : x.toBitVec.toNat % 2 < 2 := Nat.mod_lt _ (by decide)
  by_cases h : x.toBitVec.toNat % 2 = 0
  · refine Or.inl (Int32.toBitVec_inj.mp (BitVec.eq_of_toNat_eq ?_))
    rw [e, h]
    rfl
  · refine Or.inr (Int32.toBitVec_inj.mp (BitVec.eq_of_toNat_eq ?_))
    rw [e, show x.toBitVec.toNat % 2 = 1 by omega]
    rfl
theorem bY_congr {f g : Nat → Int32} {n : Nat} (h : ∀ k, k < n → f k = g k) : bY f n = bY g n := by
  funext k
  unfold bY
  split
  · rename_i l; exact h k l
  · rfl
theorem mLw.of {f g : Nat → Int32} {u : Nat} {L : xLw} (h : mLw f u L) (hu : u < 2) (e6 : g (6 + u) = f (6 + u)) (et : ∀ k, 130 ≤ k → k < 230 → g k = f k) : mLw g u L := by
  rcases h with ⟨a, b⟩ | ⟨n, hn, e, w⟩
  · exact Or.inl ⟨by rw [e6]; exact a, b⟩
  · refine Or.inr ⟨n, hn, e6.trans e, fun a b c => ?_⟩
    rw [w a b c]
    have q : bY (fun k => g (130 + 50 * u + k)) n = bY (fun k => f (130 + 50 * u + k)) n := bY_congr fun k hk => et _ (by omega) (by omega)
    rw [q]
theorem tM.of {f g : Nat → Int32} {s : xS} {X : xXt} (T : tM f s X) (b3 : below 8 (s 6 0)) (b2 : below 7 (s 6 1)) (e : ∀ j, j < 230 → g j = f j) : tM g s X := by
  obtain ⟨⟨a1, a2, a3, a4⟩, b, c, d, l0, l1⟩ := T
  have h3 := bel_nat b3 (by omega)
  have h2 := bel_nat b2 (by omega)
  refine ⟨⟨(e 3 (by omega)).trans a1, (e 2 (by omega)).trans a2, (e 0 (by omega)).trans a3, (e 8 (by omega)).trans a4⟩, fun j hj => ?_, fun j hj => ?_, fun j hj => ?_, l0.of (by decide) (e 6 (by omega)) (fun k _ l => e k l), l1.of (by decide) (e 7 (by omega)) (fun k _ l => e k l)⟩
  · rw [e _ (by omega), e _ (by omega)]; exact b j hj
  · rw [e _ (by omega), e _ (by omega)]; exact c j hj
  · rw [e _ (by omega), e _ (by omega), e _ (by omega)]; exact d j hj
theorem cIv.sm {s : xS} {X : xXt} (I : cIv s X) (tk : Int32) : cIv (sm tk s) X := by
  obtain ⟨a, c, d, e, f, g⟩ := I
  refine ⟨a, fun j hj => ⟨(c j hj).1, ?_⟩, d, e, f, g⟩
  show below 63 (if mk tk (nI j) then 0 else s 1 j)
  split
  · exact ⟨0, Nat.zero_le _, rfl⟩
  · exact (c j hj).2
theorem sx_its (F v : xS) (c w : Nat) (hc : c < 7) (hw : w < 5) (w' : Int32) (ew : w' = nI w) (x : Int32) (ex : F 1 (25 + 5 * c + w) = x) {K : xKo} (h : K (some (.int x)) (xfill F v 0 (wM0 0))) : C_M_its [.ref 0, .int (nI c), .int w'] (xfill F v 0 (wM0 0)) K := by
  subst ew
  rw [← ex] at h
  have e : nat ((25 : Int32) + 5 * nI c + nI w) = 25 + 5 * c + w := nc5 (by omega) (by omega)
  refine sp_its F v (nI c) (nI w) (vc5 hc hw) ?_
  rw [e]
  exact h
theorem sx_gets (F v : xS) (c w : Nat) (hc : c < 7) (hw : w < 5) (w' : Int32) (ew : w' = nI w) (x : Int32) {K : xKo} (h : K none (xfill (va_up F 1 (upd (F 1) (25 + 5 * c + w) x)) v 0 (wM0 0))) : C_M_gets [.ref 0, .int (nI c), .int w', .int x] (xfill F v 0 (wM0 0)) K := by
  subst ew
  have e : nat ((25 : Int32) + 5 * nI c + nI w) = 25 + 5 * c + w := nc5 (by omega) (by omega)
  refine sp_getsM F v (nI c) (nI w) x (vc5 hc hw) ?_
  rw [e]
  exact h
theorem sx_held (x l m : Int32) {K : xKo} (h : K (some (.int (if x < l then l else if m < x then m else x))) []) : C_M_held [.int x, .int l, .int m] [] K := by
  refine xM_go rfl 60 [] fun P hP => ?_
  refine br_c (fun a => ?_) (fun a => ?_)
  · have a : l ≤ x := a
    rw [if_neg (fun z => by rw [xlt] at z; rw [xle] at a; omega)] at h
    refine br_c (fun b => ?_) (fun b => ?_)
    · have b : x ≤ m := b
      rw [if_neg (fun z => by rw [xlt] at z; rw [xle] at b; omega)] at h
      exact h
    · have b : ¬ x ≤ m := b
      rw [if_pos (by rw [xlt]; rw [xle] at b; omega)] at h
      exact h
  · have a : ¬ l ≤ x := a
    rw [if_pos (by rw [xlt]; rw [xle] at a; omega)] at h
    exact h
theorem held01 (x : Int32) : (if x < 0 then 0 else if 1 < x then 1 else x) = clamp1 x := by
  unfold clamp1
  have z0 : (0 : Int32).toInt = 0 := by decide
  have z1 : (1 : Int32).toInt = 1 := by decide
  by_cases a : x < 0
  · rw [if_pos a]
    have b : ¬ 1 ≤ x := fun z => by rw [xle, z1] at z; rw [xlt, z0] at a; omega
    rw [if_neg b, if_pos (by rw [xle, z0]; rw [xlt, z0] at a; omega)]
  · rw [if_neg a]
    by_cases b : 1 ≤ x
    · have q : (if (1 : Int32) ≤ 0 then (0 : Int32) else 1) = 1 := if_neg (by decide)
      rw [if_pos b, q]
      by_cases c : 1 < x
      · rw [if_pos c]
      · rw [if_neg c]
        refine Int32.toInt_inj.mp ?_
        rw [xle, z1] at b
        rw [xlt, z1] at c
        rw [z1]
        omega
    · rw [if_neg b]
      rw [if_neg (fun z => by rw [xlt, z1] at z; rw [xle, z1] at b; omega)]
      have e : x = 0 := by
        refine Int32.toInt_inj.mp ?_
        rw [xle, z1] at b
        rw [xlt, z0] at a
        rw [z0]
        omega
      rw [e, if_pos (by decide)]
set_option maxRecDepth 100000 in
theorem sx_walks (F v : xS) (y : Nat) (hy : y < 2) (a b c : Int32) (n : Nat) (hn : n ≤ 50) (en : F 1 (6 + y) = nI n) {K : xKo} (h : ∀ v', vR v v' → v' 0 8 = nI (grG (nI y) a b c (bY (fun k => F 1 (130 + 50 * y + k)) n) 60 5 0 0).2.1 → v' 0 14 = b2i ((grG (nI y) a b c (bY (fun k => F 1 (130 + 50 * y + k)) n) 60 5 0 0).2.2 && decide ((grG (nI y) a b c (bY (fun k => F 1 (130 + 50 * y + k)) n) 60 5 0 0).2.1 = n)) → K (some (.int (grG (nI y) a b c (bY (fun k => F 1 (130 + 50 * y + k)) n) 60 5 0 0).1)) (xfill F v' 0 (wM0 0))) : C_M_walks [.ref 0, .int (nI y), .int a, .int b, .int c] (xfill F v 0 (wM0 0)) K := by
  have n6 : Int32.toNatClampNeg (6 + nI y) = 6 + y := by rw [show (6 : Int32) = nI 6 from rfl, nI_add]; exact nI_clamp (by omega)
  have e6 : F 1 (Int32.toNatClampNeg (6 + nI y)) = nI n := by rw [n6]; exact en
  have hi : vp_in (6 + nI y) 230 := by rw [show (6 : Int32) = nI 6 from rfl, nI_add]; exact vp_in_nI (by omega) (by omega)
  have hu : nI y = 0 ∨ nI y = 1 := by
    rcases (show y = 0 ∨ y = 1 by omega) with e | e
    all_goals subst e
    · exact Or.inl rfl
    · exact Or.inr rfl
  obtain ⟨v1, ev1⟩ : ∃ v1, v1 = va_up v 0 (va_up (va_up (va_up (va_up (va_up (va_up (va_up (va_up (v 0) 7 (nI y)) 8 0) 9 (F 1 (Int32.toNatClampNeg (6 + nI y)))) 10 0) 14 1) 11 a) 12 b) 13 c) := ⟨_, rfl⟩
  have f7 : v1 0 7 = nI y := by rw [ev1]; rfl
  have f8 : v1 0 8 = nI 0 := by rw [ev1]; rfl
  have f9 : v1 0 9 = nI n := by rw [ev1]; exact e6
  have f10 : v1 0 10 = nI 0 := by rw [ev1]; rfl
  have f14 : v1 0 14 = b2i true := by rw [ev1]; rfl
  have f11 : v1 0 11 = a := by rw [ev1]; rfl
  have f12 : v1 0 12 = b := by rw [ev1]; rfl
  have f13 : v1 0 13 = c := by rw [ev1]; rfl
  have J1 : gI v1 := ⟨by rw [f7]; exact hu, ⟨0, by omega, f8⟩, by rw [f9, nI_toInt (by omega)]; omega⟩
  have J3 : vR v v1 := by
    intro j
    by_cases hj : 7 ≤ j ∧ j < 15
    · exact Or.inl hj
    · refine Or.inr ?_
      rw [ev1]
      exact (if_neg (by omega)).trans ((if_neg (by omega)).trans ((if_neg (by omega)).trans ((if_neg (by omega)).trans ((if_neg (by omega)).trans ((if_neg (by omega)).trans ((if_neg (by omega)).trans (if_neg (by omega))))))))
  have eb : btM F v1 = bY (fun k => F 1 (130 + 50 * y + k)) n := by
    funext k
    unfold btM bY
    rw [f9, nI_toInt (by omega)]
    by_cases l : k < n
    · rw [if_pos (by omega), if_pos l, f7]
      have z : nat ((130 : Int32) + 50 * nI y + nI k) = 130 + 50 * y + k := by
        rw [show (130 : Int32) = nI 130 from rfl, show (50 : Int32) = nI 50 from rfl, nI_mul, nI_add, nI_add]
        exact nI_clamp (by omega)
      rw [z]
    · rw [if_neg (by omega), if_neg l]
  have eG : grF F v1 60 5 0 0 = grG (nI y) a b c (bY (fun k => F 1 (130 + 50 * y + k)) n) 60 5 0 0 := by
    have q : grF F v1 60 5 0 0 = grG (v1 0 7) (v1 0 11) (v1 0 12) (v1 0 13) (btM F v1) 60 5 0 0 := rfl
    rw [q, f7, f11, f12, f13, eb]
  obtain ⟨R, eR⟩ : ∃ R, R = grG (nI y) a b c (bY (fun k => F 1 (130 + 50 * y + k)) n) 60 5 0 0 := ⟨_, rfl⟩
  rw [← eR] at h eG
  refine xM_go rfl 100 [] fun P hP => ?_
  refine ⟨hi, ?_⟩
  refine ⟨Or.inr rfl, ?_⟩
  have gk : ∀ K2 : xKo, (∀ v', gX v1 v' R.2.1 R.2.2 → K2 (some (.int R.1)) (xfill F v' 0 (wM0 0))) → G_gram 60 5 [.ref 0] (xfill F (va_up v 0 (va_up (va_up (va_up (va_up (va_up (va_up (va_up (va_up (v 0) 7 (nI y)) 8 0) 9 (F 1 (Int32.toNatClampNeg (6 + nI y)))) 10 0) 14 1) 11 a) 12 b) 13 c)) 0 (wM0 0)) K2 := by
    intro K2 k2
    rw [← ev1]
    refine gx_text60 F v1 K2 0 J1 f10 ⟨fun _ _ _ => rfl, f8, f14, Nat.zero_le _⟩ (fun v' G => ?_)
    rw [eG] at G ⊢
    exact k2 v' G
  refine xcall (gk _ (fun v' G => ?_))
  have g14 : v' 0 14 = b2i R.2.2 := G.2.2.1
  have g8 : v' 0 8 = nI R.2.1 := G.2.1
  have g9 : v' 0 9 = nI n := (G.1 9 (by decide) (by decide)).trans f9
  have q50 : R.2.1 ≤ 50 := G.2.2.2
  have go : ∀ g : Int32, g = b2i (R.2.2 && decide (R.2.1 = n)) → K (some (.int R.1)) (xfill F (va_up v' 0 (va_up (v' 0) 14 g)) 0 (wM0 0)) := by
    intro g hg
    refine h _ (fun j => ?_) g8 hg
    by_cases hj : 7 ≤ j ∧ j < 15
    · exact Or.inl hj
    · have e1 : va_up v' 0 (va_up (v' 0) 14 g) 0 j = v' 0 j := if_neg (by omega)
      rw [e1, G.1 j (by omega) (by omega)]
      exact J3 j
  refine br_c (fun z => ?_) (fun z => ?_)
  · have z : v' 0 14 = 0 := z
    rw [g14] at z
    have gf : R.2.2 = false := by
      cases hg : R.2.2 with
      | false => rfl
      | true => rw [hg] at z; exact absurd z (by decide)
    exact ⟨Or.inl rfl, go 0 (by rw [gf]; rfl)⟩
  have z : ¬ v' 0 14 = 0 := z
  rw [g14] at z
  have gt : R.2.2 = true := by
    cases hg : R.2.2 with
    | true => rfl
    | false => rw [hg] at z; exact absurd rfl z
  refine br_n (fun w => ?_) (fun w => ?_)
  · have w : ¬ v' 0 8 = v' 0 9 := w
    rw [g8, g9, nI_eq (by omega) (by omega)] at w
    exact ⟨Or.inl rfl, go 0 (by rw [gt, decide_eq_false w]; rfl)⟩
  · have w : v' 0 8 = v' 0 9 := w
    rw [g8, g9, nI_eq (by omega) (by omega)] at w
    exact ⟨Or.inr rfl, go 1 (by rw [gt, decide_eq_true w]; rfl)⟩
set_option maxRecDepth 100000 in
theorem sx_lawOf (F v : xS) (y : Nat) (hy : y < 2) (u : Int32) (eu : u = nI y) (L : xLw) (M : mLw (F 1) y L) (a b c : Int32) {K : xKo} (h : ∀ v', vR v v' → K (some (.int (L a b c))) (xfill F v' 0 (wM0 0))) : C_M_lawOf [.ref 0, .int u, .int a, .int b, .int c] (xfill F v 0 (wM0 0)) K := by
  subst eu
  have n6 : Int32.toNatClampNeg (6 + nI y) = 6 + y := by rw [show (6 : Int32) = nI 6 from rfl, nI_add]; exact nI_clamp (by omega)
  have hi : vp_in (6 + nI y) 230 := by rw [show (6 : Int32) = nI 6 from rfl, nI_add]; exact vp_in_nI (by omega) (by omega)
  refine xM_go rfl 100 [] fun P hP => ?_
  refine ⟨hi, ?_⟩
  refine br_c (fun z => ?_) (fun z => ?_)
  · have z : 0 ≤ F 1 (Int32.toNatClampNeg (6 + nI y)) := z
    rw [n6] at z
    rcases M with ⟨m, w⟩ | ⟨n, hn, en, w⟩
    · exact absurd m (fun q => by rw [xlt] at q; rw [xle] at z; omega)
    · refine xcall (sx_walks F v y hy a b c n hn en (fun v' E _ _ => ?_))
      refine xcall (sx_held _ 0 1 ?_)
      rw [held01, ← w a b c]
      exact h v' E
  · have z : ¬ 0 ≤ F 1 (Int32.toNatClampNeg (6 + nI y)) := z
    rw [n6] at z
    rcases M with ⟨m, w⟩ | ⟨n, hn, en, w⟩
    · have q := h v (fun _ => Or.inr rfl)
      rw [w a b c] at q
      exact q
    · rw [en] at z
      exact absurd (nI_pos' (by omega)) z
def rm12 (x : Int32) : Int32 := x - x / 12 * 12
theorem rm_up {x y : Nat} (hx : x < 12) (hy : y < 12) : rm12 (nI y - nI x + 12) = nI ((y + 12 - x) % 12) := by
  have q : ∀ (a t : Fin 12), rm12 (nI t.val - nI a.val + 12) = nI ((t.val + 12 - a.val) % 12) := by decide +kernel
  exact q ⟨x, hx⟩ ⟨y, hy⟩
theorem rm_add {x w : Nat} (hx : x < 12) (hw : w ≤ 6) : rm12 (nI x + nI w) = nI ((x + w) % 12) := by
  have q : ∀ (a : Fin 12) (w : Fin 7), rm12 (nI a.val + nI w.val) = nI ((a.val + w.val) % 12) := by decide +kernel
  exact q ⟨x, hx⟩ ⟨w, by omega⟩
theorem rm_sub {x w : Nat} (hx : x < 12) (hw : w ≤ 6) : rm12 (nI x + (12 - nI w)) = nI ((x + 12 - w) % 12) := by
  have q : ∀ (a : Fin 12) (w : Fin 7), rm12 (nI a.val + (12 - nI w.val)) = nI ((a.val + 12 - w.val) % 12) := by decide +kernel
  exact q ⟨x, hx⟩ ⟨w, by omega⟩
theorem sub12 {u : Nat} (h : u < 12) : (12 : Int32) - nI u = nI (12 - u) := by
  have z : nI (12 - u) + nI u = 12 := by rw [nI_add, Nat.sub_add_cancel (by omega)]; rfl
  rw [← z, Int32.add_sub_cancel]
theorem sx_round (a b : Int32) (x y : Nat) (hx : x < 12) (hy : y < 12) (ea : a = nI x) (eb : b = nI y) {K : xKo} (h : K (some (.int (nI (offN x y)))) []) : C_M_round [.int a, .int b] [] K := by
  subst ea
  subst eb
  have r := rm_up hx hy
  have up : (y + 12 - x) % 12 < 12 := Nat.mod_lt _ (by decide)
  have s12 := sub12 up
  unfold offN at h
  refine xM_go rfl 60 [] fun P hP => ?_
  refine ⟨by decide, ?_⟩
  refine br_c (fun z => ?_) (fun z => ?_)
  · have z : 12 - rm12 (nI y - nI x + 12) < rm12 (nI y - nI x + 12) := z
    rw [r, s12, nI_ltI (by omega) (by omega)] at z
    rw [if_neg (by omega), ← s12, ← r] at h
    exact h
  · have z : ¬ 12 - rm12 (nI y - nI x + 12) < rm12 (nI y - nI x + 12) := z
    rw [r, s12, nI_ltI (by omega) (by omega)] at z
    rw [if_pos (by omega), ← r] at h
    exact h
theorem nk2 {i : Nat} (h : i < 1000) : Int32.toNatClampNeg ((9 : Int32) + 2 * nI i) = 9 + 2 * i := nc2 h
theorem nk21 {i : Nat} (h : i < 1000) : Int32.toNatClampNeg ((9 : Int32) + 2 * nI i + 1) = 9 + 2 * i + 1 := nc21 h
theorem sx_isMarked (F v s : xS) (X : xXt) (T : tM (F 1) s X) (i : Nat) (hi : i < 8) (hj : i < nat (s 6 0)) (b : Int32) {K : xKo} (h0 : ¬ mk (sm (v 0 15) s 1 i) b → K (some (.int 0)) (xfill F v 0 (wM0 0))) (h1 : mk (sm (v 0 15) s 1 i) b → K (some (.int 1)) (xfill F v 0 (wM0 0))) : C_M_isMarked [.ref 0, .int (nI i), .int b] (xfill F v 0 (wM0 0)) K := by
  have em : sm (v 0 15) s 1 i = if mk (v 0 15) (nI i) then 0 else s 1 i := rfl
  have e1 : F 1 (Int32.toNatClampNeg ((9 : Int32) + 2 * nI i + 1)) = s 1 i := by rw [nk21 (by omega)]; exact (T.2.1 i hj).2
  rw [em] at h0 h1
  refine xM_go rfl 100 [] fun P hP => ?_
  refine br_n (fun z => ?_) (fun z => ?_)
  · have z : ¬ (v 0 15 >>> (nI i &&& 31)) &&& 1 = 0 := z
    have z1 : mk (v 0 15) (nI i) := (and1 _).resolve_left z
    rw [if_pos z1] at h0
    have n0 : ¬ mk 0 b := by
      have q : (0 : Int32) >>> (b &&& 31) = 0 := Int32.zero_shiftRight
      show ¬ (0 >>> (b &&& 31)) &&& 1 = 1
      rw [q]
      decide
    exact ⟨Or.inl rfl, h0 n0⟩
  have z : (v 0 15 >>> (nI i &&& 31)) &&& 1 = 0 := z
  have z1 : ¬ mk (v 0 15) (nI i) := fun y => by
    have y : (v 0 15 >>> (nI i &&& 31)) &&& 1 = 1 := y
    rw [z] at y
    exact absurd y (by decide)
  rw [if_neg z1] at h0 h1
  refine ⟨vc21 hi, ?_⟩
  refine br_n (fun y => ?_) (fun y => ?_)
  · have y : ¬ mk (F 1 (Int32.toNatClampNeg ((9 : Int32) + 2 * nI i + 1))) b := y
    rw [e1] at y
    exact ⟨Or.inl rfl, h0 y⟩
  · have y : mk (F 1 (Int32.toNatClampNeg ((9 : Int32) + 2 * nI i + 1))) b := y
    rw [e1] at y
    exact ⟨Or.inr rfl, h1 y⟩
theorem sx_farM (F v s : xS) (X : xXt) (T : tM (F 1) s X) (c : Nat) (hc : c < nat (s 6 1)) (hc7 : c < 7) {K : xKo} (h : K (some (.int (farV (s 2 c) (s 3 c)))) (xfill F v 0 (wM0 0))) : C_M_far [.ref 0, .int (nI c)] (xfill F v 0 (wM0 0)) K := by
  unfold farV at h
  refine xM_go rfl 100 [] fun P hP => ?_
  refine xcall (sx_its F v c 1 hc7 (by omega) 1 rfl (s 3 c) (T.2.2.1 c hc).2 ?_)
  refine xcall (sx_its F v c 0 hc7 (by omega) 0 rfl (s 2 c) (T.2.2.1 c hc).1 ?_)
  refine ⟨fun a => ?_, fun n1 => ?_⟩
  · rw [if_pos a] at h; exact h
  rw [if_neg n1] at h
  refine ⟨fun a => ?_, fun n2 => ?_⟩
  · rw [if_pos a] at h; exact ⟨by decide, h⟩
  rw [if_neg n2] at h
  refine ⟨fun a => ?_, fun n3 => ?_⟩
  · rw [if_pos a] at h; exact h
  rw [if_neg n3] at h
  refine ⟨fun a => ?_, fun n4 => ?_⟩
  · rw [if_pos a] at h; exact h
  rw [if_neg n4] at h
  refine ⟨fun a => ?_, fun n5 => ?_⟩
  · rw [if_pos a] at h; exact ⟨by decide, h⟩
  rw [if_neg n5] at h
  refine ⟨fun a => ?_, fun n6 => ?_⟩
  · rw [if_pos a] at h; exact h
  rw [if_neg n6] at h
  exact h
theorem sx_paceM (F v s : xS) (X : xXt) (T : tM (F 1) s X) (hit : X.2.1 < 0 ↔ X.2.1 = -1) (c : Nat) (hc : c < nat (s 6 1)) (hc7 : c < 7) {K : xKo} (h : K (some (.int (paceV (s 2 c) (s 3 c) (s 6 2) X.2.1))) (xfill F v 0 (wM0 0))) : C_M_pace [.ref 0, .int (nI c)] (xfill F v 0 (wM0 0)) K := by
  unfold paceV at h
  have e0 : F 1 (Int32.toNatClampNeg 0) = s 6 2 := T.1.2.2.1
  have e8 : F 1 (Int32.toNatClampNeg 8) = X.2.1 := T.1.2.2.2
  refine xM_go rfl 100 [] fun P hP => ?_
  refine xcall (sx_its F v c 1 hc7 (by omega) 1 rfl (s 3 c) (T.2.2.1 c hc).2 ?_)
  refine ⟨vin (by decide), ?_⟩
  refine ⟨by decide, ?_⟩
  refine br_n (fun b => ?_) (fun b => ?_)
  · have b : ¬ F 1 (Int32.toNatClampNeg 0) - F 1 (Int32.toNatClampNeg 0) / 2 * 2 = 0 := b
    rw [e0] at b
    rw [if_neg b] at h
    refine xcall (sx_its F v c 0 hc7 (by omega) 0 rfl (s 2 c) (T.2.2.1 c hc).1 ?_)
    refine ⟨fun a => ?_, fun n1 => ?_⟩
    · rw [if_pos a] at h; exact ⟨by decide, h⟩
    rw [if_neg n1] at h
    refine ⟨fun a => ?_, fun n2 => ?_⟩
    · rw [if_pos a] at h; exact h
    rw [if_neg n2] at h
    refine ⟨fun a => ?_, fun n3 => ?_⟩
    · rw [if_pos a] at h; exact h
    rw [if_neg n3] at h
    refine ⟨fun a => ?_, fun n4 => ?_⟩
    · rw [if_pos a] at h; exact h
    rw [if_neg n4] at h
    refine ⟨fun a => ?_, fun n5 => ?_⟩
    · rw [if_pos a] at h
      refine ⟨vin (by decide), br_c (fun d => ?_) (fun d => ?_)⟩
      · have d : 0 ≤ F 1 (Int32.toNatClampNeg 8) := d
        rw [e8] at d
        rw [if_neg (fun z => by have q := hit.mpr z; rw [xlt] at q; rw [xle] at d; omega)] at h
        exact h
      · have d : ¬ 0 ≤ F 1 (Int32.toNatClampNeg 8) := d
        rw [e8] at d
        rw [if_pos (hit.mp (by rw [xlt]; rw [xle] at d; omega))] at h
        exact h
    rw [if_neg n5] at h
    refine ⟨fun a => ?_, fun n6 => ?_⟩
    · rw [if_pos a] at h; exact ⟨by decide, h⟩
    rw [if_neg n6] at h
    exact h
  · have b : F 1 (Int32.toNatClampNeg 0) - F 1 (Int32.toNatClampNeg 0) / 2 * 2 = 0 := b
    rw [e0] at b
    rw [if_pos b] at h
    refine xcall (sx_its F v c 0 hc7 (by omega) 0 rfl (s 2 c) (T.2.2.1 c hc).1 ?_)
    refine ⟨fun a => ?_, fun n1 => ?_⟩
    · rw [if_pos a] at h; exact ⟨by decide, h⟩
    rw [if_neg n1] at h
    refine ⟨fun a => ?_, fun n2 => ?_⟩
    · rw [if_pos a] at h; exact h
    rw [if_neg n2] at h
    refine ⟨fun a => ?_, fun n3 => ?_⟩
    · rw [if_pos a] at h; exact h
    rw [if_neg n3] at h
    refine ⟨fun a => ?_, fun n4 => ?_⟩
    · rw [if_pos a] at h; exact h
    rw [if_neg n4] at h
    refine ⟨fun a => ?_, fun n5 => ?_⟩
    · rw [if_pos a] at h
      refine ⟨vin (by decide), br_c (fun d => ?_) (fun d => ?_)⟩
      · have d : 0 ≤ F 1 (Int32.toNatClampNeg 8) := d
        rw [e8] at d
        rw [if_neg (fun z => by have q := hit.mpr z; rw [xlt] at q; rw [xle] at d; omega)] at h
        exact h
      · have d : ¬ 0 ≤ F 1 (Int32.toNatClampNeg 8) := d
        rw [e8] at d
        rw [if_pos (hit.mp (by rw [xlt]; rw [xle] at d; omega))] at h
        exact h
    rw [if_neg n5] at h
    refine ⟨fun a => ?_, fun n6 => ?_⟩
    · rw [if_pos a] at h; exact ⟨by decide, h⟩
    rw [if_neg n6] at h
    exact h
theorem cIv.hit {s : xS} {X : xXt} (I : cIv s X) : X.2.1 < 0 ↔ X.2.1 = -1 := by
  refine ⟨fun a => ?_, fun e => by rw [e]; decide⟩
  rcases I.2.2.2.2.2 with e | ⟨c, hc, e⟩
  · exact e
  · have h2 := bel_nat I.1.2 (by omega)
    rw [e, xlt, nI_toInt (by omega), show (0 : Int32).toInt = 0 by decide] at a
    omega
end
section
/-! ===== the reference: a call, exactly ===== -/
theorem vR.tr {v v' v2 : xS} (h : vR v v') (g : vR v' v2) : vR v v2 := fun j => by
  rcases h j with e | e
  · exact Or.inl e
  · rcases g j with d | d
    · exact Or.inl d
    · exact Or.inr (d.trans e)
theorem vR.at {v v' : xS} (h : vR v v') {j : Nat} (n : ¬ (7 ≤ j ∧ j < 15)) : v' 0 j = v 0 j := (h j).elim (fun z => absurd z n) id
set_option maxRecDepth 100000 in
theorem sx_aim (F v s : xS) (X : xXt) (T : tM (F 1) s X) (I : cIv s X) (c : Nat) (hc : c < nat (s 6 1)) (b : Int32) {K : xKo} (h : ∀ v', vR v v' → K (some (.int (eGoal (sm (v 0 15) s) X c b))) (xfill F v' 0 (wM0 0))) : C_M_aim [.ref 0, .int (nI c), .int b] (xfill F v 0 (wM0 0)) K := by
  obtain ⟨n, hn, en⟩ := I.1.1
  obtain ⟨nc, hnc, enc⟩ := I.1.2
  have enn : nat (s 6 0) = n := by rw [en]; exact nI_clamp (by omega)
  have hc7 : c < 7 := by
    rw [enc, show nat (nI nc) = nc from nI_clamp (by omega)] at hc
    omega
  have e3 : F 1 (Int32.toNatClampNeg 3) = nI n := T.1.1.trans en
  obtain ⟨x, hx, ex⟩ := b12 (I.2.2.2.1 c hc)
  obtain ⟨fr, hfr, efr⟩ := farV_le (I.2.2.1 c hc).1 (I.2.2.1 c hc).2
  have key : ∀ (d i : Nat) (g : Int32) (nn : Nat) (v' : xS), i + d = n → nn < 13 → vR v v' → (∀ v2, vR v v2 → K (some (.int (gLp (sm (v 0 15) s) X c b d i g (nI (if nn ≤ fr + 1 then nn else fr + 1))))) (xfill F v2 0 (wM0 0))) → xWP pg_M_aim K 9 [(0, .ref 0), (1, .int (nI c)), (2, .int b), (3, .int g), (4, .int (nI nn)), (5, .int (nI i))] [] (xfill F v' 0 (wM0 0)) (0, 0) := by
    intro d
    induction d with
    | zero =>
      intro i g nn v' hi hnn E hk
      refine xWP_go 100 [(9, [0, 1, 2, 3, 4, 5])] fun P hP => ?_
      refine ⟨vin (by decide), ?_⟩
      refine br_c (fun _ => hk _ E) (fun z => ?_)
      have z : ¬ F 1 (Int32.toNatClampNeg 3) ≤ nI i := z
      rw [e3, nI_leI (by omega) (by omega)] at z
      omega
    | succ d ih =>
      intro i g nn v' hi hnn E hk
      have hi8 : i < nat (s 6 0) := by omega
      obtain ⟨y, hy, ey⟩ := b12 (I.2.1 i hi8).1
      have e9 : F 1 (Int32.toNatClampNeg ((9 : Int32) + 2 * nI i)) = nI y := by rw [nk2 (by omega), (T.2.1 i hi8).1]; exact ey
      have o6 := offN_le (a := x) (b := y)
      have eo : off (X.1 0 c) (sm (v 0 15) s 0 i) = nI (offN x y) := by
        show off (X.1 0 c) (s 0 i) = _
        rw [ex, ey]
        exact off_nI hx hy
      have eg : ∀ r : Int32, gLp (sm (v 0 15) s) X c b (d + 1) i g r = if (mk (sm (v 0 15) s 1 i) b ∧ nI (offN x y) < r) ∧ ¬ X.2.2 0 (nI (offN x y)) b (s 3 c) = 0 then gLp (sm (v 0 15) s) X c b d (i + 1) (nI i) (nI (offN x y)) else gLp (sm (v 0 15) s) X c b d (i + 1) g r := by
        intro r
        rw [← eo]
        rfl
      rw [eg] at hk
      have e15 : v' 0 15 = v 0 15 := E.at (by omega)
      refine xWP_go 100 [(9, [0, 1, 2, 3, 4, 5])] fun P hP => ?_
      refine ⟨vin (by decide), ?_⟩
      refine br_c (fun z => ?_) (fun _ => ?_)
      · have z : F 1 (Int32.toNatClampNeg 3) ≤ nI i := z
        rw [e3, nI_leI (by omega) (by omega)] at z
        omega
      have nx : ∀ (g : Int32) (nn : Nat) (v2 : xS), nn < 13 → vR v v2 → (∀ v3, vR v v3 → K (some (.int (gLp (sm (v 0 15) s) X c b d (i + 1) g (nI (if nn ≤ fr + 1 then nn else fr + 1))))) (xfill F v3 0 (wM0 0))) → xWP pg_M_aim K 9 [(0, .ref 0), (1, .int (nI c)), (2, .int b), (3, .int g), (4, .int (nI nn)), (5, .int (nI i + 1))] [] (xfill F v2 0 (wM0 0)) (0, 0) := by
        intro g nn v2 h13 E2 hk2
        rw [nI_1]
        exact ih (i + 1) g nn v2 (by omega) h13 E2 hk2
      refine xcall (sx_its F v' c 2 hc7 (by omega) 2 rfl (nI x) ((T.2.2.2.1 c hc7).1.trans ex) ?_)
      refine ⟨vc2 (by omega), ?_⟩
      refine xcall (sx_round _ _ x y hx hy rfl e9 ?_)
      refine xcall (sx_isMarked F v' s X T i (by omega) hi8 b (fun m => ?_) (fun m => ?_))
      · rw [e15] at m
        rw [if_neg (fun z => m z.1.1)] at hk
        refine br_c (fun _ => ?_) (fun z => absurd rfl z)
        exact hP _ _ _ _ _ (nx _ _ _ hnn E hk)
      rw [e15] at m
      refine br_c (fun z => absurd z (by decide)) (fun _ => ?_)
      refine br_c (fun z => ?_) (fun z => ?_)
      · have z : nI nn ≤ nI (offN x y) := z
        rw [nI_leI (by omega) (by omega)] at z
        rw [if_neg (fun q => by
          have q := q.1.2
          rw [nI_ltI (by omega) (by split <;> omega)] at q
          split at q <;> omega)] at hk
        exact hP _ _ _ _ _ (nx _ _ _ hnn E hk)
      have z : ¬ nI nn ≤ nI (offN x y) := z
      rw [nI_leI (by omega) (by omega)] at z
      refine xcall (sx_farM F v' s X T c hc hc7 ?_)
      rw [efr]
      refine br_c (fun w => ?_) (fun w => ?_)
      · have w : nI fr < nI (offN x y) := w
        rw [nI_ltI (by omega) (by omega)] at w
        rw [if_neg (fun q => by
          have q := q.1.2
          rw [nI_ltI (by omega) (by split <;> omega)] at q
          split at q <;> omega)] at hk
        exact hP _ _ _ _ _ (nx _ _ _ hnn E hk)
      have w : ¬ nI fr < nI (offN x y) := w
      rw [nI_ltI (by omega) (by omega)] at w
      have lt : nI (offN x y) < nI (if nn ≤ fr + 1 then nn else fr + 1) := by
        rw [nI_ltI (by omega) (by split <;> omega)]
        split <;> omega
      refine xcall (sx_its F v' c 1 hc7 (by omega) 1 rfl (s 3 c) (T.2.2.1 c hc).2 ?_)
      refine xcall (sx_lawOf F v' 0 (by decide) 0 rfl (X.2.2 0) T.2.2.2.2.1 (nI (offN x y)) b (s 3 c) (fun v2 E2 => ?_))
      refine br_c (fun y0 => ?_) (fun y0 => ?_)
      · rw [if_neg (fun q => q.2 y0)] at hk
        exact hP _ _ _ _ _ (nx _ _ _ hnn (E.tr E2) hk)
      · rw [if_pos ⟨⟨m, lt⟩, y0⟩] at hk
        refine hP _ _ _ _ _ (nx _ (offN x y) _ (by omega) (E.tr E2) (fun v3 E3 => ?_))
        rw [if_pos (show offN x y ≤ fr + 1 by omega)]
        exact hk v3 E3
  unfold eGoal at h
  have h : ∀ v', vR v v' → K (some (.int (gLp (sm (v 0 15) s) X c b (nat (s 6 0)) 0 (-1) (farV (s 2 c) (s 3 c) + 1)))) (xfill F v' 0 (wM0 0)) := h
  rw [enn, efr, nI_1] at h
  refine xM_go rfl 100 [(9, [0, 1, 2, 3, 4, 5])] fun P hP => ?_
  refine hP _ _ _ _ _ ?_
  refine key n 0 (-1) 12 v (by omega) (by omega) (fun _ => Or.inr rfl) (fun v2 E2 => ?_)
  have q := h v2 E2
  by_cases l : 12 ≤ fr + 1
  · exact absurd l (by omega)
  · rw [if_neg l]
    exact q
set_option maxRecDepth 100000 in
theorem sx_ends (F v s : xS) (X : xXt) (T : tM (F 1) s X) (I : cIv s X) (c : Nat) (hc : c < nat (s 6 1)) (b : Int32) (u : Nat) (hu : u < 10) {K : xKo} (h : ∀ v', vR v v' → K (some (.int (eEnd (sm (v 0 15) s) X b (nI u) c))) (xfill F v' 0 (wM0 0))) : C_M_ends [.ref 0, .int (nI c), .int b, .int (nI u)] (xfill F v 0 (wM0 0)) K := by
  obtain ⟨n, hn, en⟩ := I.1.1
  obtain ⟨nc, hnc, enc⟩ := I.1.2
  have enn : nat (s 6 0) = n := by rw [en]; exact nI_clamp (by omega)
  have hc7 : c < 7 := by
    rw [enc, show nat (nI nc) = nc from nI_clamp (by omega)] at hc
    omega
  obtain ⟨x, hx, ex⟩ := b12 (I.2.2.2.1 c hc)
  have eAT : F 1 (25 + 5 * c + 2) = nI x := (T.2.2.2.1 c hc7).1.trans ex
  unfold eEnd at h
  have fin : ∀ (v' : xS), vR v v' → ¬ nI c = X.2.1 → xWP pg_M_ends K 21 [(0, .ref 0), (1, .int (nI c)), (2, .int b), (3, .int (nI u))] [.int (eGoal (sm (v 0 15) s) X c b)] (xfill F v' 0 (wM0 0)) (0, 0) := by
    intro v' E ncx
    refine xWP_go 200 [(103, [0, 1, 2, 3, 4, 5, 6, 7])] fun P hP => ?_
    rcases eGoal_in (s := sm (v 0 15) s) (X := X) (c := c) (b := b) with eg | ⟨k, hk, eg⟩
    · rw [if_pos (Or.inr (by rw [eg]; decide)), ex] at h
      rw [eg]
      refine br_c (fun a => absurd a (by decide)) (fun a => ?_)
      exact xcall (sx_its F v' c 2 hc7 (by omega) 2 rfl (nI x) eAT (h _ E))
    · have hk : k < nat (s 6 0) := hk
      have ek : Int32.toNatClampNeg (nI k) = k := nI_clamp (by omega)
      obtain ⟨y, hy, ey⟩ := b12 (I.2.1 k hk).1
      have e9 : F 1 (Int32.toNatClampNeg ((9 : Int32) + 2 * nI k)) = nI y := by rw [nk2 (by omega), (T.2.1 k hk).1]; exact ey
      obtain ⟨p, hp, ep⟩ := paceV_le (cs := s 6 2) (it := X.2.1) (I.2.2.1 c hc).1 (I.2.2.1 c hc).2
      have pu : p * u ≤ 27 := Nat.le_trans (Nat.mul_le_mul hp (show u ≤ 9 by omega)) (by decide)
      have h : ∀ v', vR v v' → K (some (.int (wlk (X.1 0 c) (s 0 (nat (nI k))) (paceV (s 2 c) (s 3 c) (s 6 2) X.2.1 * nI u)))) (xfill F v' 0 (wM0 0)) := fun v' E => by
        have q := h v' E
        rw [if_neg (fun z => z.elim ncx fun z => by rw [eg, xlt, nI_toInt (by omega), show (0 : Int32).toInt = 0 by decide] at z; omega), eg] at q
        exact q
      rw [show nat (nI k) = k from ek, ex, ey, ep, nI_mul, wlk_nI hx hy (by omega)] at h
      rw [eg]
      have o6 := offN_le (a := x) (b := y)
      obtain ⟨up, eup⟩ : ∃ up, up = (y + 12 - x) % 12 := ⟨_, rfl⟩
      have hup : up < 12 := by rw [eup]; exact Nat.mod_lt _ (by decide)
      have eoff : offN x y = if up ≤ 12 - up then up else 12 - up := by rw [eup]; rfl
      obtain ⟨w, ew⟩ : ∃ w, w = if offN x y ≤ p * u then offN x y else p * u := ⟨_, rfl⟩
      have hw : w ≤ 6 := by
        rw [ew]
        split <;> omega
      unfold wlkN at h
      rw [← eup, ← ew] at h
      have er : rm12 (F 1 (Int32.toNatClampNeg ((9 : Int32) + 2 * nI k)) - nI x + 12) = nI up := by rw [e9, eup]; exact rm_up hx hy
      refine br_c (fun a => ?_) (fun a => absurd (nI_pos' (by omega)) a)
      refine ⟨vc2 (by omega), ?_⟩
      refine xcall (sx_its F v' c 2 hc7 (by omega) 2 rfl (nI x) eAT ?_)
      refine ⟨by decide, ?_⟩
      refine xcall (sx_its F v' c 2 hc7 (by omega) 2 rfl (nI x) eAT ?_)
      refine xcall (sx_round _ _ x y hx hy rfl e9 ?_)
      refine xcall (sx_paceM F v' s X T I.hit c hc hc7 ?_)
      rw [ep]
      have f2 : ∀ (go to dn : Int32), go = nI w → xWP pg_M_ends K 103 [(0, .ref 0), (1, .int (nI c)), (2, .int b), (3, .int (nI u)), (4, .int (nI k)), (5, .int to), (6, .int (rm12 (F 1 (Int32.toNatClampNeg ((9 : Int32) + 2 * nI k)) - nI x + 12))), (7, .int (nI (offN x y)))] [.int go] (xfill F v' 0 (wM0 0)) (0, 0) := by
        intro go to dn eg2
        subst eg2
        rw [er]
        refine xWP_go 200 [] fun P hP => ?_
        refine xcall (sx_its F v' c 2 hc7 (by omega) 2 rfl (nI x) eAT ?_)
        refine br_n (fun z => ?_) (fun z => ?_)
        · have z : ¬ nI up = nI (offN x y) := z
          rw [nI_eq (by omega) (by omega), eoff] at z
          have nl : ¬ up ≤ 12 - up := fun l => z (by rw [if_pos l])
          refine ⟨by decide, ?_⟩
          have q := h _ E
          rw [if_neg nl, ← rm_sub hx hw] at q
          exact q
        · have z : nI up = nI (offN x y) := z
          rw [nI_eq (by omega) (by omega), eoff] at z
          have l : up ≤ 12 - up := by
            by_cases l : up ≤ 12 - up
            · exact l
            · rw [if_neg l] at z; omega
          refine ⟨by decide, ?_⟩
          have q := h _ E
          rw [if_pos l, ← rm_add hx hw] at q
          exact q
      refine br_c (fun z => ?_) (fun z => ?_)
      · have z : nI (offN x y) ≤ nI p * nI u := z
        rw [nI_mul, nI_leI (by omega) (by omega)] at z
        rw [if_pos z] at ew
        exact hP _ _ _ _ _ (f2 _ _ 0 (by rw [ew]))
      · have z : ¬ nI (offN x y) ≤ nI p * nI u := z
        rw [nI_mul, nI_leI (by omega) (by omega)] at z
        rw [if_neg z] at ew
        refine xcall (sx_paceM F v' s X T I.hit c hc hc7 ?_)
        rw [ep]
        exact hP _ _ _ _ _ (f2 _ _ 0 (by rw [ew]; exact nI_mul p u))
  refine xM_go rfl 100 [(21, [0, 1, 2, 3])] fun P hP => ?_
  refine ⟨vin (by decide), ?_⟩
  have e8 : F 1 (Int32.toNatClampNeg 8) = X.2.1 := T.1.2.2.2
  refine br_n (fun a => ?_) (fun a => ?_)
  · have a : ¬ nI c = F 1 (Int32.toNatClampNeg 8) := a
    rw [e8] at a
    refine xcall (sx_aim F v s X T I c hc b (fun v' E => ?_))
    exact hP _ _ _ _ _ (fin v' E a)
  · have a : nI c = F 1 (Int32.toNatClampNeg 8) := a
    rw [e8] at a
    rw [if_pos (Or.inl a), ex] at h
    refine hP _ _ _ _ _ ?_
    refine xWP_go 200 [] fun P hP => ?_
    refine br_c (fun a => absurd a (by decide)) (fun _ => ?_)
    exact xcall (sx_its F v c 2 hc7 (by omega) 2 rfl (nI x) eAT (h _ (fun _ => Or.inr rfl)))
set_option maxRecDepth 100000 in
theorem sx_isSafe (F v s : xS) (X : xXt) (T : tM (F 1) s X) (I : cIv s X) (c : Nat) (hc : c < nat (s 6 1)) (b : Int32) {K : xKo} (h : ∀ v', vR v v' → K (some (.int (eHeld (sm (v 0 15) s) X (X.1 0) (X.1 0 c) b))) (xfill F v' 0 (wM0 0))) : C_M_isSafe [.ref 0, .int (nI c), .int b] (xfill F v 0 (wM0 0)) K := by
  obtain ⟨n, hn, en⟩ := I.1.1
  obtain ⟨m, hm, em⟩ := I.1.2
  have enn : nat (s 6 0) = n := by rw [en]; exact nI_clamp (by omega)
  have emm : nat (s 6 1) = m := by rw [em]; exact nI_clamp (by omega)
  have hc7 : c < 7 := by omega
  have e3 : F 1 (Int32.toNatClampNeg 3) = nI n := T.1.1.trans en
  have e2 : F 1 (Int32.toNatClampNeg 2) = nI m := T.1.2.1.trans em
  have e8 : F 1 (Int32.toNatClampNeg 8) = X.2.1 := T.1.2.2.2
  have rf : vR v v := fun _ => Or.inr rfl
  have eAT : F 1 (25 + 5 * c + 2) = X.1 0 c := (T.2.2.2.1 c hc7).1
  unfold eHeld at h
  have h : ∀ v', vR v v' → K (some (.int (hdL (sm (v 0 15) s) (X.2.2 1) (crL X.2.1 (X.1 0 c) (X.1 0) (nat (s 6 1)) 0 0) (X.1 0 c) b (nat (s 6 0)) 0))) (xfill F v' 0 (wM0 0)) := h
  rw [enn, emm] at h
  obtain ⟨cr, ecr⟩ : ∃ cr, cr = crL X.2.1 (X.1 0 c) (X.1 0) m 0 0 := ⟨_, rfl⟩
  rw [← ecr] at h
  have two : ∀ (d i : Nat) (k : Nat) (q : Int32), i + d = m → k < n → crL X.2.1 (X.1 0 c) (X.1 0) d i q = cr → (∀ v', vR v v' → K (some (.int (if X.2.2 1 cr (s 1 k) b = 0 then 0 else 1))) (xfill F v' 0 (wM0 0))) → xWP pg_M_isSafe K 65 [(0, .ref 0), (1, .int (nI c)), (2, .int b), (3, .int (nI k)), (4, .int q), (5, .int (nI i))] [] (xfill F v 0 (wM0 0)) (0, 0) := by
    intro d
    induction d with
    | zero =>
      intro i k q hi hk eq hk2
      have eq : q = cr := eq
      subst eq
      have e1 : F 1 (Int32.toNatClampNeg ((9 : Int32) + 2 * nI k + 1)) = s 1 k := by rw [nk21 (by omega)]; exact (T.2.1 k (by omega)).2
      refine xWP_go 200 [(2, [0, 1, 2, 3]), (47, [0, 1, 2, 3]), (65, [0, 1, 2, 3, 4, 5]), (111, [0, 1, 2, 3, 4, 5])] fun P hP => ?_
      refine ⟨vin (by decide), ?_⟩
      refine br_c (fun _ => ?_) (fun z => ?_)
      · refine ⟨vc21 (by omega), ?_⟩
        have lk : ∀ K2 : xKo, (∀ v', vR v v' → K2 (some (.int (X.2.2 1 q (s 1 k) b))) (xfill F v' 0 (wM0 0))) → C_M_lawOf [.ref 0, .int 1, .int q, .int (F 1 (Int32.toNatClampNeg ((9 : Int32) + 2 * nI k + 1))), .int b] (xfill F v 0 (wM0 0)) K2 := by
          intro K2 k2
          rw [e1]
          exact sx_lawOf F v 1 (by decide) 1 rfl (X.2.2 1) T.2.2.2.2.2 q (s 1 k) b k2
        refine xcall (lk _ (fun v2 E2 => ?_))
        refine br_c (fun y0 => ?_) (fun y0 => ?_)
        · rw [if_pos y0] at hk2
          exact ⟨Or.inl rfl, hk2 _ E2⟩
        · rw [if_neg y0] at hk2
          exact ⟨Or.inr rfl, hk2 _ E2⟩
      · have z : ¬ F 1 (Int32.toNatClampNeg 2) ≤ nI i := z
        rw [e2, nI_leI (by omega) (by omega)] at z
        omega
    | succ d ih =>
      intro i k q hi hk eq hk2
      have eq : crL X.2.1 (X.1 0 c) (X.1 0) d (i + 1) (if nI i = X.2.1 then q else if X.1 0 i = X.1 0 c then q + 1 else q) = cr := eq
      refine xWP_go 200 [(2, [0, 1, 2, 3]), (47, [0, 1, 2, 3]), (65, [0, 1, 2, 3, 4, 5]), (111, [0, 1, 2, 3, 4, 5])] fun P hP => ?_
      refine ⟨vin (by decide), ?_⟩
      refine br_c (fun z => ?_) (fun _ => ?_)
      · have z : F 1 (Int32.toNatClampNeg 2) ≤ nI i := z
        rw [e2, nI_leI (by omega) (by omega)] at z
        omega
      have go : ∀ x : Int32, q + x = (if nI i = X.2.1 then q else if X.1 0 i = X.1 0 c then q + 1 else q) → xWP pg_M_isSafe K 111 [(0, .ref 0), (1, .int (nI c)), (2, .int b), (3, .int (nI k)), (4, .int q), (5, .int (nI i))] [.int x, .int q] (xfill F v 0 (wM0 0)) (0, 0) := by
        intro x hx
        refine xWP_go 200 [(65, [0, 1, 2, 3, 4, 5])] fun P hP => ?_
        refine hP _ _ _ _ _ ?_
        rw [nI_1]
        have z := ih (i + 1) k (if nI i = X.2.1 then q else if X.1 0 i = X.1 0 c then q + 1 else q) (by omega) hk eq hk2
        rw [← hx] at z
        exact z
      refine ⟨vin (by decide), ?_⟩
      refine br_c (fun a => ?_) (fun a => ?_)
      · have a : nI i = F 1 (Int32.toNatClampNeg 8) := a
        rw [e8] at a
        exact hP _ _ _ _ _ (go 0 (by rw [if_pos a, Int32.add_zero]))
      have a : ¬ nI i = F 1 (Int32.toNatClampNeg 8) := a
      rw [e8] at a
      refine xcall (sx_its F v i 2 (by omega) (by omega) 2 rfl (X.1 0 i) (T.2.2.2.1 i (by omega)).1 ?_)
      refine xcall (sx_its F v c 2 hc7 (by omega) 2 rfl (X.1 0 c) eAT ?_)
      refine br_n (fun y => ?_) (fun y => ?_)
      · exact hP _ _ _ _ _ (go 0 (by rw [if_neg a, if_neg y, Int32.add_zero]))
      · exact hP _ _ _ _ _ (go 1 (by rw [if_neg a, if_pos y]))
  have fin : ∀ k : Nat, k ≤ n → (k < n → ∀ v', vR v v' → K (some (.int (if X.2.2 1 cr (s 1 k) b = 0 then 0 else 1))) (xfill F v' 0 (wM0 0))) → (k = n → ∀ v', vR v v' → K (some (.int 0)) (xfill F v' 0 (wM0 0))) → xWP pg_M_isSafe K 47 [(0, .ref 0), (1, .int (nI c)), (2, .int b), (3, .int (nI k))] [] (xfill F v 0 (wM0 0)) (0, 0) := by
    intro k hk k1 k0
    refine xWP_go 200 [(65, [0, 1, 2, 3, 4, 5])] fun P hP => ?_
    refine ⟨vin (by decide), ?_⟩
    refine br_n (fun z => ?_) (fun z => ?_)
    · have z : ¬ nI k = F 1 (Int32.toNatClampNeg 3) := z
      have kn : ¬ k = n := fun e => z (by rw [e, e3])
      refine hP _ _ _ _ _ ?_
      exact two m 0 k 0 (by omega) (by omega) ecr.symm (k1 (by omega))
    · have z : nI k = F 1 (Int32.toNatClampNeg 3) := z
      rw [e3, nI_eq (by omega) (by omega)] at z
      exact ⟨Or.inl rfl, k0 z _ rf⟩
  have key : ∀ (d i : Nat), i + d = n → (∀ v', vR v v' → K (some (.int (hdL (sm (v 0 15) s) (X.2.2 1) cr (X.1 0 c) b d i))) (xfill F v' 0 (wM0 0))) → xWP pg_M_isSafe K 2 [(0, .ref 0), (1, .int (nI c)), (2, .int b), (3, .int (nI i))] [] (xfill F v 0 (wM0 0)) (0, 0) := by
    intro d
    induction d with
    | zero =>
      intro i hi hk
      refine xWP_go 200 [(2, [0, 1, 2, 3]), (47, [0, 1, 2, 3]), (65, [0, 1, 2, 3, 4, 5]), (111, [0, 1, 2, 3, 4, 5])] fun P hP => ?_
      refine ⟨vin (by decide), ?_⟩
      refine br_c (fun _ => hP _ _ _ _ _ (fin i (by omega) (fun l => absurd l (by omega)) (fun _ => hk))) (fun z => ?_)
      have z : ¬ F 1 (Int32.toNatClampNeg 3) ≤ nI i := z
      rw [e3, nI_leI (by omega) (by omega)] at z
      omega
    | succ d ih =>
      intro i hi hk
      have hi8 : i < nat (s 6 0) := by omega
      have e9 : F 1 (Int32.toNatClampNeg ((9 : Int32) + 2 * nI i)) = s 0 i := by rw [nk2 (by omega)]; exact (T.2.1 i hi8).1
      have eh : hdL (sm (v 0 15) s) (X.2.2 1) cr (X.1 0 c) b (d + 1) i = if s 0 i = X.1 0 c ∧ mk (sm (v 0 15) s 1 i) b then (if X.2.2 1 cr (sm (v 0 15) s 1 i) b = 0 then 0 else 1) else hdL (sm (v 0 15) s) (X.2.2 1) cr (X.1 0 c) b d (i + 1) := rfl
      rw [eh] at hk
      refine xWP_go 200 [(2, [0, 1, 2, 3]), (47, [0, 1, 2, 3]), (65, [0, 1, 2, 3, 4, 5]), (111, [0, 1, 2, 3, 4, 5])] fun P hP => ?_
      refine ⟨vin (by decide), ?_⟩
      refine br_c (fun z => ?_) (fun _ => ?_)
      · have z : F 1 (Int32.toNatClampNeg 3) ≤ nI i := z
        rw [e3, nI_leI (by omega) (by omega)] at z
        omega
      have nx : (∀ v', vR v v' → K (some (.int (hdL (sm (v 0 15) s) (X.2.2 1) cr (X.1 0 c) b d (i + 1)))) (xfill F v' 0 (wM0 0))) → xWP pg_M_isSafe K 2 [(0, .ref 0), (1, .int (nI c)), (2, .int b), (3, .int (nI i + 1))] [] (xfill F v 0 (wM0 0)) (0, 0) := by
        intro hk2
        rw [nI_1]
        exact ih (i + 1) (by omega) hk2
      refine xcall (sx_isMarked F v s X T i (by omega) hi8 b (fun mm => ?_) (fun mm => ?_))
      · rw [if_neg (fun z => mm z.2)] at hk
        refine br_c (fun _ => hP _ _ _ _ _ (nx hk)) (fun z => absurd rfl z)
      refine br_c (fun z => absurd z (by decide)) (fun _ => ?_)
      refine ⟨vc2 (by omega), ?_⟩
      refine xcall (sx_its F v c 2 hc7 (by omega) 2 rfl (X.1 0 c) eAT ?_)
      refine br_c (fun y => ?_) (fun y => ?_)
      · have y : F 1 (Int32.toNatClampNeg ((9 : Int32) + 2 * nI i)) = X.1 0 c := y
        rw [e9] at y
        rw [if_pos ⟨y, mm⟩] at hk
        have es : sm (v 0 15) s 1 i = s 1 i := by
          show (if mk (v 0 15) (nI i) then 0 else s 1 i) = s 1 i
          refine if_neg (fun z => ?_)
          have q : sm (v 0 15) s 1 i = 0 := if_pos z
          rw [q] at mm
          have q2 : (0 : Int32) >>> (b &&& 31) = 0 := Int32.zero_shiftRight
          have mm : (0 >>> (b &&& 31)) &&& 1 = (1 : Int32) := mm
          rw [q2] at mm
          exact absurd mm (by decide)
        rw [es] at hk
        exact hP _ _ _ _ _ (fin i (by omega) (fun _ => hk) (fun e => absurd e (by omega)))
      · have y : ¬ F 1 (Int32.toNatClampNeg ((9 : Int32) + 2 * nI i)) = X.1 0 c := y
        rw [e9] at y
        rw [if_neg (fun z => y z.1)] at hk
        exact hP _ _ _ _ _ (nx hk)
  refine xM_go rfl 100 [(2, [0, 1, 2, 3]), (47, [0, 1, 2, 3]), (65, [0, 1, 2, 3, 4, 5]), (111, [0, 1, 2, 3, 4, 5])] fun P hP => ?_
  refine hP _ _ _ _ _ ?_
  exact key n 0 (by omega) h
end
section
/-! ===== the reference: a call comes to pass, exactly ===== -/
theorem gLp_congr {s t t' : xS} {r : Int32 × (Nat → xLw)} {c : Nat} {b : Int32} (h : t 0 c = t' 0 c) : ∀ (d i : Nat) (g q : Int32), gLp s (t, r) c b d i g q = gLp s (t', r) c b d i g q := by
  intro d
  induction d with
  | zero => intro i g q; rfl
  | succ d ih =>
    intro i g q
    show (if (mk (s 1 i) b ∧ off (t 0 c) (s 0 i) < q) ∧ ¬ r.2 0 (off (t 0 c) (s 0 i)) b (s 3 c) = 0 then gLp s (t, r) c b d (i + 1) (nI i) (off (t 0 c) (s 0 i)) else gLp s (t, r) c b d (i + 1) g q) = (if (mk (s 1 i) b ∧ off (t' 0 c) (s 0 i) < q) ∧ ¬ r.2 0 (off (t' 0 c) (s 0 i)) b (s 3 c) = 0 then gLp s (t', r) c b d (i + 1) (nI i) (off (t' 0 c) (s 0 i)) else gLp s (t', r) c b d (i + 1) g q)
    rw [h, ih, ih]
theorem eEnd_congr {s : xS} {X X' : xXt} {b t : Int32} {c : Nat} (h : X.1 0 c = X'.1 0 c) (h2 : X.2 = X'.2) : eEnd s X b t c = eEnd s X' b t c := by
  obtain ⟨x, r⟩ := X
  obtain ⟨x', r'⟩ := X'
  have h2 : r = r' := h2
  subst h2
  have h : x 0 c = x' 0 c := h
  have g : eGoal s (x, r) c b = eGoal s (x', r) c b := gLp_congr h _ _ _ _
  unfold eEnd
  rw [g]
  show (if _ then x 0 c else wlk (x 0 c) _ _) = (if _ then x' 0 c else wlk (x' 0 c) _ _)
  rw [h]
theorem crL_congr {it cell : Int32} {E E' : Nat → Int32} : ∀ (d i : Nat) (q : Int32), (∀ j, i ≤ j → j < i + d → E j = E' j) → crL it cell E d i q = crL it cell E' d i q := by
  intro d
  induction d with
  | zero => intro i q _; rfl
  | succ d ih =>
    intro i q h
    show crL it cell E d (i + 1) (if nI i = it then q else if E i = cell then q + 1 else q) = crL it cell E' d (i + 1) (if nI i = it then q else if E' i = cell then q + 1 else q)
    rw [h i (Nat.le_refl i) (by omega)]
    exact ih (i + 1) _ (fun j a l => h j (by omega) (by omega))
theorem tM.up {f : Nat → Int32} {s : xS} {X X' : xXt} (T : tM f s X) (b3 : below 8 (s 6 0)) (b2 : below 7 (s 6 1)) {i w : Nat} (hi : i < 7) (hw : 2 ≤ w ∧ w < 5) (x : Int32) (e2 : X'.2 = X.2) (e : ∀ k j, k < 3 → j < 7 → X'.1 k j = if k + 2 = w ∧ j = i then x else X.1 k j) : tM (upd f (25 + 5 * i + w) x) s X' := by
  obtain ⟨⟨a1, a2, a3, a4⟩, b, c, d, l0, l1⟩ := T
  have h3 := bel_nat b3 (by omega)
  have h2 := bel_nat b2 (by omega)
  have un : ∀ j, ¬ j = 25 + 5 * i + w → upd f (25 + 5 * i + w) x j = f j := fun j hj => pk_un hj
  refine ⟨⟨(un 3 (by omega)).trans a1, (un 2 (by omega)).trans a2, (un 0 (by omega)).trans a3, ?_⟩, fun j hj => ?_, fun j hj => ?_, fun j hj => ?_, ?_, ?_⟩
  · rw [e2]; exact (un 8 (by omega)).trans a4
  · rw [un _ (by omega), un _ (by omega)]; exact b j hj
  · rw [un _ (by omega), un _ (by omega)]; exact c j hj
  · obtain ⟨d0, d1, d2⟩ := d j hj
    have q : ∀ k, k < 3 → f (25 + 5 * j + (k + 2)) = X.1 k j → upd f (25 + 5 * i + w) x (25 + 5 * j + (k + 2)) = X'.1 k j := by
      intro k hk hf
      rw [e k j hk hj]
      by_cases z : k + 2 = w ∧ j = i
      · rw [if_pos z, z.1, z.2, pk_us]
      · rw [if_neg z, un _ (fun y => z (by omega))]
        exact hf
    exact ⟨q 0 (by decide) d0, q 1 (by decide) d1, q 2 (by decide) d2⟩
  · rw [e2]
    exact l0.of (by decide) (un _ (by omega)) (fun k a l => un k (by omega))
  · rw [e2]
    exact l1.of (by decide) (un _ (by omega)) (fun k a l => un k (by omega))
theorem tM.ext {f : Nat → Int32} {s : xS} {X X' : xXt} (T : tM f s X) (e2 : X'.2 = X.2) (e : ∀ k j, k < 3 → j < 7 → X'.1 k j = X.1 k j) : tM f s X' := by
  obtain ⟨a, b, c, d, l⟩ := T
  refine ⟨by rw [e2]; exact a, b, c, fun j hj => ?_, by rw [e2]; exact l⟩
  rw [e 0 j (by decide) hj, e 1 j (by decide) hj, e 2 j (by decide) hj]
  exact d j hj
theorem held999 {x : Int32} (h : below 999 x) : (if x + 1 < 0 then 0 else if 999 < x + 1 then 999 else x + 1) = up9 x := by
  obtain ⟨k, hk, rfl⟩ := h
  unfold up9
  rw [nI_1]
  have n0 : ¬ nI (k + 1) < 0 := fun z => by
    rw [xlt, nI_toInt (by omega), show (0 : Int32).toInt = 0 by decide] at z
    omega
  rw [if_neg n0]
  by_cases a : nI (k + 1) ≤ 999
  · rw [if_pos a, if_neg (fun z => by rw [xlt] at z; rw [xle] at a; omega)]
  · rw [if_neg a, if_pos (by rw [xlt]; rw [xle] at a; omega)]
/-- where the first i are where they end -/
def Xat (X : xXt) (E : Nat → Int32) (i : Nat) : xXt := (va_up X.1 0 (fun j => if j < i then E j else X.1 0 j), X.2)
/-- and those from i on are told -/
def Xto (X P : xXt) (E : Nat → Int32) (m i : Nat) : xXt := ((fun k j => match k with
  | 0 => if j < m then E j else X.1 0 j
  | 1 => if i ≤ j ∧ j < m then P.1 1 j else X.1 1 j
  | 2 => if i ≤ j ∧ j < m then P.1 2 j else X.1 2 j
  | k => X.1 k j), X.2)
set_option maxRecDepth 100000 in
theorem sx_calls (F v s : xS) (X : xXt) (T : tM (F 1) s X) (I : cIv s X) (b : Int32) (u : Nat) (hu : u < 10) {K : xKo} (h : ∀ F' v', (∀ k, ¬ k = 1 → F' k = F k) → mR r2 F v F' v' → tM (F' 1) (clS s) (ePlay (sm (v 0 15) s) X b (nI u)) → K (some (.int (eSet (sm (v 0 15) s) X b (nI u)))) (xfill F' v' 0 (wM0 0))) : C_M_calls [.ref 0, .int b, .int (nI u)] (xfill F v 0 (wM0 0)) K := by
  obtain ⟨m, hm, em⟩ := I.1.2
  have emm : nat (s 6 1) = m := by rw [em]; exact nI_clamp (by omega)
  obtain ⟨S, eS⟩ : ∃ S, S = sm (v 0 15) s := ⟨_, rfl⟩
  rw [← eS] at h
  have IS : cIv S X := by rw [eS]; exact I.sm _
  have emS : nat (S 6 1) = m := by rw [eS]; exact emm
  obtain ⟨E, eE⟩ : ∃ E, E = eEnd S X b (nI u) := ⟨_, rfl⟩
  obtain ⟨H, eH⟩ : ∃ H, H = eHad S X b (nI u) := ⟨_, rfl⟩
  obtain ⟨PL, eP⟩ : ∃ PL, PL = ePlay S X b (nI u) := ⟨_, rfl⟩
  have es : eSet S X b (nI u) = nI (stN H m) := by unfold eSet; rw [emS, eH]
  have eHc : ∀ c, H c = (decide (¬ nI c = X.2.1) && decide (eHeld S X E (E c) b = 0)) := fun c => by rw [eH, eE]; rfl
  have Q0 : ∀ j, PL.1 0 j = if j < m then E j else X.1 0 j := fun j => by rw [eP, eE, ← emS]; rfl
  have Q1 : ∀ j, PL.1 1 j = if j < m then (if H j then up9 (X.1 1 j) else X.1 1 j) else X.1 1 j := fun j => by rw [eP, eH, ← emS]; rfl
  have Q2 : ∀ j, PL.1 2 j = if j < m then (if H j then X.1 2 j else if nI j = X.2.1 then X.1 2 j else up9 (X.1 2 j)) else X.1 2 j := fun j => by rw [eP, eH, ← emS]; rfl
  have Qn : PL.2 = (nxL H m, X.2.2) := by rw [eP, eH, ← emS]; rfl
  rw [← eP, es] at h
  have Eb : ∀ j, j < m → below 11 (E j) := fun j hj => by rw [eE]; exact eEnd_le IS (by omega)
  have three : ∀ (i : Nat) (x : Int32) (F' v' : xS), i ≤ m → mR r1 F v F' v' → (∀ k, ¬ k = 1 → F' k = F k) → tM (F' 1) s (Xto X PL E m i) → nyL H i x = nxL H m → xWP pg_M_calls K 99 [(0, .ref 0), (1, .int b), (2, .int (nI u)), (3, .int (nI (stN H m))), (4, .int x), (5, .int (nI i - 1))] [] (xfill F' v' 0 (wM0 0)) (0, 0) := by
    intro i
    induction i with
    | zero =>
      intro x F' v' hi E' G T' ex
      have ex : x = nxL H m := ex
      refine xWP_go 200 [(2, [0, 1, 2, 3]), (36, [0, 1, 2, 3, 4]), (78, [0, 1, 2, 3, 4]), (99, [0, 1, 2, 3, 4, 5]), (158, [0, 1, 2, 3, 4, 5])] fun PP hP => ?_
      refine br_c (fun _ => ?_) (fun z => absurd (by decide) z)
      refine ⟨vin (by decide), ?_⟩
      refine ⟨vin (by decide), ?_⟩
      refine ⟨vin (by decide), ?_⟩
      refine h (va_up F' 1 (upd (upd (F' 1) 8 x) 0 (F' 1 0 + 1))) v' (fun k hk => (if_neg hk).trans (G k hk)) ⟨fun k => ?_, fun j a z => ?_, E'.2.2⟩ ?_
      · by_cases e : k = 1
        · exact Or.inl e
        · have q : va_up F' 1 (upd (upd (F' 1) 8 x) 0 (F' 1 0 + 1)) k = F' k := if_neg e
          rw [q]; exact E'.1 k
      · have j0 : ¬ j = 0 := fun e => by rw [e] at z; exact absurd z (by decide)
        have j8 : ¬ j = 8 := fun e => by rw [e] at z; exact absurd z (by decide)
        have q : va_up F' 1 (upd (upd (F' 1) 8 x) 0 (F' 1 0 + 1)) 1 j = F' 1 j := (if_neg j0).trans (if_neg j8)
        rw [q]; exact E'.to2.2.1 j a z
      · obtain ⟨⟨a1, a2, a3, a4⟩, tb, tc, td, l0, l1⟩ := T'
        have un : ∀ j, ¬ j = 0 → ¬ j = 8 → upd (upd (F' 1) 8 x) 0 (F' 1 0 + 1) j = F' 1 j := fun j h0 h8 => (pk_un h0).trans (pk_un h8)
        have l0 : mLw (F' 1) 0 (X.2.2 0) := l0
        have l1 : mLw (F' 1) 1 (X.2.2 1) := l1
        refine ⟨⟨(un 3 (by decide) (by decide)).trans a1, (un 2 (by decide) (by decide)).trans a2, ?_, ?_⟩, fun j hj => ?_, fun j hj => ?_, fun j hj => ?_, ?_, ?_⟩
        · show upd (upd (F' 1) 8 x) 0 (F' 1 0 + 1) 0 = s 6 2 + 1
          rw [pk_us, a3]
        · show upd (upd (F' 1) 8 x) 0 (F' 1 0 + 1) 8 = PL.2.1
          rw [pk_un (by decide), pk_us, Qn, ex]
        · show upd (upd (F' 1) 8 x) 0 (F' 1 0 + 1) (9 + 2 * j) = s 0 j ∧ upd (upd (F' 1) 8 x) 0 (F' 1 0 + 1) (9 + 2 * j + 1) = s 1 j
          rw [un _ (by omega) (by omega), un _ (by omega) (by omega)]
          exact tb j hj
        · show upd (upd (F' 1) 8 x) 0 (F' 1 0 + 1) (25 + 5 * j + 0) = s 2 j ∧ upd (upd (F' 1) 8 x) 0 (F' 1 0 + 1) (25 + 5 * j + 1) = s 3 j
          rw [un _ (by omega) (by omega), un _ (by omega) (by omega)]
          exact tc j hj
        · show upd (upd (F' 1) 8 x) 0 (F' 1 0 + 1) (25 + 5 * j + 2) = PL.1 0 j ∧ upd (upd (F' 1) 8 x) 0 (F' 1 0 + 1) (25 + 5 * j + 3) = PL.1 1 j ∧ upd (upd (F' 1) 8 x) 0 (F' 1 0 + 1) (25 + 5 * j + 4) = PL.1 2 j
          rw [un _ (by omega) (by omega), un _ (by omega) (by omega), un _ (by omega) (by omega)]
          obtain ⟨d0, d1, d2⟩ := td j hj
          have d0 : F' 1 (25 + 5 * j + 2) = if j < m then E j else X.1 0 j := d0
          have d1 : F' 1 (25 + 5 * j + 3) = if 0 ≤ j ∧ j < m then PL.1 1 j else X.1 1 j := d1
          have d2 : F' 1 (25 + 5 * j + 4) = if 0 ≤ j ∧ j < m then PL.1 2 j else X.1 2 j := d2
          rw [d0, d1, d2, Q0]
          refine ⟨rfl, ?_, ?_⟩
          · by_cases l : j < m
            · rw [if_pos ⟨Nat.zero_le j, l⟩]
            · rw [if_neg (fun z => l z.2), Q1, if_neg l]
          · by_cases l : j < m
            · rw [if_pos ⟨Nat.zero_le j, l⟩]
            · rw [if_neg (fun z => l z.2), Q2, if_neg l]
        · rw [Qn]
          exact l0.of (by decide) (un 6 (by decide) (by decide)) (fun k a l => un k (by omega) (by omega))
        · rw [Qn]
          exact l1.of (by decide) (un 7 (by decide) (by decide)) (fun k a l => un k (by omega) (by omega))
    | succ i ih =>
      intro x F' v' hi E' G T' ex
      have ex : nyL H i (if H i then nI i else x) = nxL H m := ex
      have him : i < m := by omega
      have mb := mk_st (h := H) (n := m) hm him
      have e8 : F' 1 (Int32.toNatClampNeg 8) = X.2.1 := T'.1.2.2.2
      rw [nI_pred]
      refine xWP_go 200 [(2, [0, 1, 2, 3]), (36, [0, 1, 2, 3, 4]), (78, [0, 1, 2, 3, 4]), (99, [0, 1, 2, 3, 4, 5]), (158, [0, 1, 2, 3, 4, 5])] fun PP hP => ?_
      refine br_c (fun z => absurd z (by show ¬ nI i < nI 0; rw [nI_ltI (by omega) (by omega)]; omega)) (fun _ => ?_)
      have k158 : ∀ (F2 : xS), mR r1 F v F2 v' → (∀ k, ¬ k = 1 → F2 k = F k) → tM (F2 1) s (Xto X PL E m i) → xWP pg_M_calls K 158 [(0, .ref 0), (1, .int b), (2, .int (nI u)), (3, .int (nI (stN H m))), (4, .int x), (5, .int (nI i))] [] (xfill F2 v' 0 (wM0 0)) (0, 0) := by
        intro F2 E2 G2 T2
        refine xWP_go 200 [(99, [0, 1, 2, 3, 4, 5])] fun PP hP => ?_
        refine br_n (fun z => ?_) (fun z => ?_)
        · have hf : H i = false := by
            cases hh : H i with
            | false => rfl
            | true => exact absurd (mb.mpr hh) z
          rw [hf, if_neg Bool.false_ne_true] at ex
          refine hP _ _ _ _ _ ?_
          have q := ih x F2 v' (by omega) E2 G2 T2 ex
          rw [← am1] at q
          exact q
        · have ht : H i = true := mb.mp z
          rw [ht, if_pos rfl] at ex
          refine hP _ _ _ _ _ ?_
          have q := ih (nI i) F2 v' (by omega) E2 G2 T2 ex
          rw [← am1] at q
          exact q
      have X1 : (Xto X PL E m (i + 1)).1 1 i = X.1 1 i := if_neg (fun z => by omega)
      have X2 : (Xto X PL E m (i + 1)).1 2 i = X.1 2 i := if_neg (fun z => by omega)
      obtain ⟨d0, d1, d2⟩ := T'.2.2.2.1 i (by omega)
      have n1 : ∀ k j, k < 3 → ¬ j = i → (Xto X PL E m i).1 k j = (Xto X PL E m (i + 1)).1 k j := by
        intro k j hk hj
        rcases (show k = 0 ∨ k = 1 ∨ k = 2 by omega) with e | e | e
        all_goals subst e
        · rfl
        · show (if i ≤ j ∧ j < m then PL.1 1 j else X.1 1 j) = (if i + 1 ≤ j ∧ j < m then PL.1 1 j else X.1 1 j)
          by_cases l : i ≤ j ∧ j < m
          · rw [if_pos l, if_pos ⟨by omega, l.2⟩]
          · rw [if_neg l, if_neg (fun z => l ⟨by omega, z.2⟩)]
        · show (if i ≤ j ∧ j < m then PL.1 2 j else X.1 2 j) = (if i + 1 ≤ j ∧ j < m then PL.1 2 j else X.1 2 j)
          by_cases l : i ≤ j ∧ j < m
          · rw [if_pos l, if_pos ⟨by omega, l.2⟩]
          · rw [if_neg l, if_neg (fun z => l ⟨by omega, z.2⟩)]
      have m0 : (Xto X PL E m i).1 0 i = (Xto X PL E m (i + 1)).1 0 i := rfl
      have m1 : (Xto X PL E m i).1 1 i = if H i then up9 (X.1 1 i) else X.1 1 i := (if_pos ⟨Nat.le_refl i, him⟩).trans ((Q1 i).trans (if_pos him))
      have m2 : (Xto X PL E m i).1 2 i = if H i then X.1 2 i else if nI i = X.2.1 then X.1 2 i else up9 (X.1 2 i) := (if_pos ⟨Nat.le_refl i, him⟩).trans ((Q2 i).trans (if_pos him))
      obtain ⟨f1, f2⟩ := I.2.2.2.2.1 i (by omega)
      refine ⟨vin (by decide), ?_⟩
      refine br_c (fun a => ?_) (fun a => ?_)
      · have a : nI i = F' 1 (Int32.toNatClampNeg 8) := a
        rw [e8] at a
        have hf : H i = false := by rw [eHc, decide_eq_false (fun z => z a), Bool.false_and]
        rw [hf, if_neg Bool.false_ne_true] at m1
        rw [hf, if_neg Bool.false_ne_true, if_pos a] at m2
        refine hP _ _ _ _ _ (k158 F' E' G (T'.ext rfl (fun k j hk hj => ?_)))
        by_cases ej : j = i
        · subst ej
          rcases (show k = 0 ∨ k = 1 ∨ k = 2 by omega) with e | e | e
          all_goals subst e
          · exact m0
          · exact m1.trans X1.symm
          · exact m2.trans X2.symm
        · exact n1 k j hk ej
      have a : ¬ nI i = F' 1 (Int32.toNatClampNeg 8) := a
      rw [e8] at a
      refine br_n (fun z => ?_) (fun z => ?_)
      · have hf : H i = false := by
          cases hh : H i with
          | false => rfl
          | true => exact absurd (mb.mpr hh) z
        rw [hf, if_neg Bool.false_ne_true] at m1
        rw [hf, if_neg Bool.false_ne_true, if_neg a] at m2
        refine xcall (sx_its F' v' i 4 (by omega) (by omega) 4 rfl (X.1 2 i) (d2.trans X2) ?_)
        refine xcall (sx_held _ 0 999 ?_)
        rw [held999 f2]
        refine xcall (sx_gets F' v' i 4 (by omega) (by omega) 4 rfl (up9 (X.1 2 i)) ?_)
        have rr := r1_at (i := i) (w := 4) (by omega) (by omega) (by omega)
        rw [nc5 (by omega) (by omega)] at rr
        refine hP _ _ _ _ _ (k158 _ (E'.row rr) (fun k hk => (if_neg hk).trans (G k hk)) (T'.up (X' := Xto X PL E m i) I.1.1 I.1.2 (by omega) (by decide) _ rfl (fun k j hk hj => ?_)))
        by_cases ej : j = i
        · subst ej
          rcases (show k = 0 ∨ k = 1 ∨ k = 2 by omega) with e | e | e
          all_goals subst e
          · exact m0.trans (if_neg (fun z => absurd z.1 (by decide))).symm
          · exact (m1.trans X1.symm).trans (if_neg (fun z => absurd z.1 (by decide))).symm
          · exact m2.trans (if_pos ⟨rfl, rfl⟩).symm
        · rw [if_neg (fun z => ej z.2)]
          exact n1 k j hk ej
      · have ht : H i = true := mb.mp z
        rw [ht, if_pos rfl] at m1 m2
        refine xcall (sx_its F' v' i 3 (by omega) (by omega) 3 rfl (X.1 1 i) (d1.trans X1) ?_)
        refine xcall (sx_held _ 0 999 ?_)
        rw [held999 f1]
        refine xcall (sx_gets F' v' i 3 (by omega) (by omega) 3 rfl (up9 (X.1 1 i)) ?_)
        have rr := r1_at (i := i) (w := 3) (by omega) (by omega) (by omega)
        rw [nc5 (by omega) (by omega)] at rr
        refine hP _ _ _ _ _ (k158 _ (E'.row rr) (fun k hk => (if_neg hk).trans (G k hk)) (T'.up (X' := Xto X PL E m i) I.1.1 I.1.2 (by omega) (by decide) _ rfl (fun k j hk hj => ?_)))
        by_cases ej : j = i
        · subst ej
          rcases (show k = 0 ∨ k = 1 ∨ k = 2 by omega) with e | e | e
          all_goals subst e
          · exact m0.trans (if_neg (fun z => absurd z.1 (by decide))).symm
          · exact m1.trans (if_pos ⟨rfl, rfl⟩).symm
          · exact (m2.trans X2.symm).trans (if_neg (fun z => absurd z.1 (by decide))).symm
        · rw [if_neg (fun z => ej z.2)]
          exact n1 k j hk ej
  have Xm : cIv s (Xat X E m) := by
    obtain ⟨a, b, c, d, e, g⟩ := I
    refine ⟨a, b, c, fun j hj => ?_, e, g⟩
    show below 11 (if j < m then E j else X.1 0 j)
    split
    · rename_i l; exact Eb j l
    · exact d j hj
  have two : ∀ (d i : Nat) (F' v' : xS), i + d = m → mR r1 F v F' v' → (∀ k, ¬ k = 1 → F' k = F k) → tM (F' 1) s (Xat X E m) → xWP pg_M_calls K 36 [(0, .ref 0), (1, .int b), (2, .int (nI u)), (3, .int (nI (stN H i))), (4, .int (nI i))] [] (xfill F' v' 0 (wM0 0)) (0, 0) := by
    intro d
    induction d with
    | zero =>
      intro i F' v' hi E' G T'
      have e : F' 1 2 = nI m := (E'.2.1 2 (by omega) rfl).trans (T.1.2.1.trans em)
      have hi : i = m := hi
      subst hi
      refine xWP_go 200 [(2, [0, 1, 2, 3]), (36, [0, 1, 2, 3, 4]), (78, [0, 1, 2, 3, 4]), (99, [0, 1, 2, 3, 4, 5]), (158, [0, 1, 2, 3, 4, 5])] fun PP hP => ?_
      refine ⟨vin (by decide), ?_⟩
      refine br_c (fun _ => ?_) (fun z => ?_)
      · refine ⟨vin (by decide), ?_⟩
        refine hP _ _ _ _ _ ?_
        have q := three i (-1) F' v' (Nat.le_refl _) E' G (T'.ext rfl (fun k j hk hj => by
          rcases (show k = 0 ∨ k = 1 ∨ k = 2 by omega) with e | e | e
          all_goals subst e
          · rfl
          · exact if_neg (fun z => by omega)
          · exact if_neg (fun z => by omega))) (nx_ny (by omega))
        rw [← e] at q
        exact q
      · have z : ¬ F' 1 2 ≤ nI i := z
        rw [e, nI_leI (by omega) (by omega)] at z
        omega
    | succ d ih =>
      intro i F' v' hi E' G T'
      have e : F' 1 2 = nI m := (E'.2.1 2 (by omega) rfl).trans (T.1.2.1.trans em)
      have e8 : F' 1 (Int32.toNatClampNeg 8) = X.2.1 := T'.1.2.2.2
      have him : i < m := by omega
      have est : stN H (i + 1) = if H i then stN H i + 2 ^ i else stN H i := rfl
      have eXi : (Xat X E m).1 0 i = E i := if_pos him
      have ehd : eHeld (sm (v' 0 15) s) (Xat X E m) ((Xat X E m).1 0) ((Xat X E m).1 0 i) b = eHeld S X E (E i) b := by
        have e15 : v' 0 15 = v 0 15 := (E'.2.2 15).elim (fun z => absurd z (by omega)) id
        rw [e15, ← eS, eXi]
        unfold eHeld
        have q : crL (Xat X E m).2.1 (E i) ((Xat X E m).1 0) (nat (S 6 1)) 0 0 = crL X.2.1 (E i) E (nat (S 6 1)) 0 0 := crL_congr _ _ _ (fun j _ l => if_pos (by omega))
        rw [q]
        rfl
      refine xWP_go 200 [(2, [0, 1, 2, 3]), (36, [0, 1, 2, 3, 4]), (78, [0, 1, 2, 3, 4]), (99, [0, 1, 2, 3, 4, 5]), (158, [0, 1, 2, 3, 4, 5])] fun PP hP => ?_
      refine ⟨vin (by decide), ?_⟩
      refine br_c (fun z => ?_) (fun _ => ?_)
      · have z : F' 1 2 ≤ nI i := z
        rw [e, nI_leI (by omega) (by omega)] at z
        omega
      have go : ∀ (x : Int32) (v2 : xS), vR v' v2 → nI (stN H i) ||| x = nI (stN H (i + 1)) → xWP pg_M_calls K 78 [(0, .ref 0), (1, .int b), (2, .int (nI u)), (3, .int (nI (stN H i))), (4, .int (nI i))] [.int x, .int (nI (stN H i))] (xfill F' v2 0 (wM0 0)) (0, 0) := by
        intro x v2 E2 ex
        refine xWP_go 200 [(36, [0, 1, 2, 3, 4])] fun PP hP => ?_
        refine hP _ _ _ _ _ ?_
        rw [nI_1]
        have z := ih (i + 1) F' v2 (by omega) (E'.vs E2) G T'
        rw [← ex] at z
        exact z
      refine ⟨vin (by decide), ?_⟩
      refine br_c (fun a => ?_) (fun a => ?_)
      · have a : nI i = F' 1 (Int32.toNatClampNeg 8) := a
        rw [e8] at a
        have hf : H i = false := by rw [eHc, decide_eq_false (fun z => z a), Bool.false_and]
        exact hP _ _ _ _ _ (go 0 v' (fun _ => Or.inr rfl) (by rw [est, hf, if_neg Bool.false_ne_true]; exact st_or0))
      have a : ¬ nI i = F' 1 (Int32.toNatClampNeg 8) := a
      rw [e8] at a
      refine xcall (sx_isSafe F' v' s (Xat X E m) T' Xm i (by omega) b (fun v2 E2 => ?_))
      rw [ehd]
      refine br_n (fun y => ?_) (fun y => ?_)
      · have hf : H i = false := by rw [eHc, decide_eq_false (p := eHeld S X E (E i) b = 0) y, Bool.and_false]
        exact hP _ _ _ _ _ (go 0 v2 E2 (by rw [est, hf, if_neg Bool.false_ne_true]; exact st_or0))
      · have ht : H i = true := by
          rw [eHc, decide_eq_true a, decide_eq_true (p := eHeld S X E (E i) b = 0) y]
          rfl
        exact hP _ _ _ _ _ (go _ v2 E2 (by rw [est, ht, if_pos rfl]; exact st_or (by omega) stN_lt))
  have one : ∀ (d i : Nat) (F' v' : xS), i + d = m → mR r1 F v F' v' → (∀ k, ¬ k = 1 → F' k = F k) → tM (F' 1) s (Xat X E i) → xWP pg_M_calls K 2 [(0, .ref 0), (1, .int b), (2, .int (nI u)), (3, .int (nI i))] [] (xfill F' v' 0 (wM0 0)) (0, 0) := by
    intro d
    induction d with
    | zero =>
      intro i F' v' hi E' G T'
      have e : F' 1 2 = nI m := (E'.2.1 2 (by omega) rfl).trans (T.1.2.1.trans em)
      have hi : i = m := hi
      subst hi
      refine xWP_go 200 [(2, [0, 1, 2, 3]), (36, [0, 1, 2, 3, 4]), (78, [0, 1, 2, 3, 4]), (99, [0, 1, 2, 3, 4, 5]), (158, [0, 1, 2, 3, 4, 5])] fun PP hP => ?_
      refine ⟨vin (by decide), ?_⟩
      refine br_c (fun _ => ?_) (fun z => ?_)
      · refine hP _ _ _ _ _ ?_
        exact two i 0 F' v' (by omega) E' G T'
      · have z : ¬ F' 1 2 ≤ nI i := z
        rw [e, nI_leI (by omega) (by omega)] at z
        omega
    | succ d ih =>
      intro i F' v' hi E' G T'
      have e : F' 1 2 = nI m := (E'.2.1 2 (by omega) rfl).trans (T.1.2.1.trans em)
      have Xi : cIv s (Xat X E i) := by
        obtain ⟨a, b, c, d, e, g⟩ := I
        refine ⟨a, b, c, fun j hj => ?_, e, g⟩
        show below 11 (if j < i then E j else X.1 0 j)
        split
        · rename_i l; exact Eb j (by omega)
        · exact d j hj
      have e15 : v' 0 15 = v 0 15 := (E'.2.2 15).elim (fun z => absurd z (by omega)) id
      have eEi : eEnd (sm (v' 0 15) s) (Xat X E i) b (nI u) i = E i := by
        rw [e15, ← eS, eE]
        exact eEnd_congr (if_neg (Nat.lt_irrefl i)) rfl
      refine xWP_go 200 [(2, [0, 1, 2, 3]), (36, [0, 1, 2, 3, 4]), (78, [0, 1, 2, 3, 4]), (99, [0, 1, 2, 3, 4, 5]), (158, [0, 1, 2, 3, 4, 5])] fun PP hP => ?_
      refine ⟨vin (by decide), ?_⟩
      refine br_c (fun z => ?_) (fun _ => ?_)
      · have z : F' 1 2 ≤ nI i := z
        rw [e, nI_leI (by omega) (by omega)] at z
        omega
      refine xcall (sx_ends F' v' s (Xat X E i) T' Xi i (by omega) b u hu (fun v2 E2 => ?_))
      rw [eEi]
      refine xcall (sx_gets F' v2 i 2 (by omega) (by omega) 2 rfl (E i) ?_)
      refine hP _ _ _ _ _ ?_
      rw [nI_1]
      have rr := r1_at (i := i) (w := 2) (by omega) (by omega) (by omega)
      rw [nc5 (by omega) (by omega)] at rr
      refine ih (i + 1) _ v2 (by omega) ((E'.vs E2).row rr) (fun k hk => (if_neg hk).trans (G k hk)) (T'.up (X' := Xat X E (i + 1)) I.1.1 I.1.2 (by omega) (by decide) _ rfl (fun k j hk hj => ?_))
      rcases (show k = 0 ∨ k = 1 ∨ k = 2 by omega) with e | e | e
      all_goals subst e
      · show (if j < i + 1 then E j else X.1 0 j) = if 0 + 2 = 2 ∧ j = i then E i else (if j < i then E j else X.1 0 j)
        by_cases ej : j = i
        · subst ej
          rw [if_pos (Nat.lt_succ_self j), if_pos ⟨rfl, rfl⟩]
        · have r : (if 0 + 2 = 2 ∧ j = i then E i else (if j < i then E j else X.1 0 j)) = (if j < i then E j else X.1 0 j) := if_neg (fun z => ej z.2)
          rw [r]
          by_cases l : j < i
          · rw [if_pos l, if_pos (by omega)]
          · rw [if_neg l, if_neg (by omega)]
      · exact (if_neg (fun z => absurd z.1 (by decide))).symm
      · exact (if_neg (fun z => absurd z.1 (by decide))).symm
  refine xM_go rfl 100 [(2, [0, 1, 2, 3]), (36, [0, 1, 2, 3, 4]), (78, [0, 1, 2, 3, 4]), (99, [0, 1, 2, 3, 4, 5]), (158, [0, 1, 2, 3, 4, 5])] fun PP hP => ?_
  refine hP _ _ _ _ _ ?_
  exact one m 0 F v (by omega) mR.rf (fun _ _ => rfl) (T.ext rfl (fun k j hk hj => by
    rcases (show k = 0 ∨ k = 1 ∨ k = 2 by omega) with e | e | e
    all_goals subst e
    all_goals rfl))
set_option maxRecDepth 100000 in
theorem sx_wouldBe (F v s : xS) (X : xXt) (T : tM (F 1) s X) (I : cIv s X) (b : Int32) (u : Nat) (hu : u < 10) {K : xKo} (h : ∀ F' v', mR r0 F v F' v' → K (some (.int (eSet (sm (v 0 15) s) X b (nI u)))) (xfill F' v' 0 (wM0 0))) : C_M_wouldBe [.ref 0, .int b, .int (nI u)] (xfill F v 0 (wM0 0)) K := by
  refine xM_go rfl 100 [] fun P hP => ?_
  refine xcall (sp_moveAll_1_3 F v fun g g1 g2 => ?_)
  refine xcall (sx_calls (va_up F 3 g) v s X T I b u hu (fun F' v' G E T' => ?_))
  refine xcall (sp_moveAll_3_1 F' v' fun g' k1 k2 => ?_)
  refine h (va_up F' 1 g') v' ⟨fun k => ?_, fun j hj _ => ?_, E.2.2⟩
  · by_cases h1 : k = 1
    · exact Or.inl h1
    by_cases h3 : k = 3
    · exact Or.inr (Or.inl h3)
    have q : va_up F' 1 g' k = F' k := if_neg h1
    rw [q, G k h1]
    exact Or.inr (Or.inr (Or.inr (Or.inr (if_neg h3))))
  · show g' j = F 1 j
    rw [k1 j hj, G 3 (by decide)]
    exact g1 j hj
end
section
/-! ===== a state that both sides tell ===== -/
/-- the street's tables (now, kept, the rest); what is told now, kept -/
abbrev xZ : Type := xA × xXt × xXt
def hXr (r : hRw1) (X : xXt) : Prop := (∀ j, j < 7 → r.1.1 j = X.1 0 j ∧ r.1.2.1 j = X.1 1 j ∧ r.1.2.2.1 j = X.1 2 j) ∧ r.1.2.2.2 = X.2.1 ∧ hLw r.2.1 r.2.2.1 (X.2.2 0) ∧ hLw r.2.2.2.1 r.2.2.2.2 (X.2.2 1)
def mXr (r : xRw) (X : xXt) : Prop := (∀ j, j < 7 → r (25 + 5 * j + 2) = X.1 0 j ∧ r (25 + 5 * j + 3) = X.1 1 j ∧ r (25 + 5 * j + 4) = X.1 2 j) ∧ r 8 = X.2.1 ∧ mLw r 0 (X.2.2 0) ∧ mLw r 1 (X.2.2 1)
def hZ (σ : xZ) (r : hRw) : Prop := hXr r.1 σ.2.1 ∧ (¬ σ.1.2.2 6 0 = 0 → hXr r.2 σ.2.2)
def mZ (σ : xZ) (r : mRw) : Prop := mXr r.1 σ.2.1 ∧ (¬ σ.1.2.2 6 0 = 0 → mXr r.2 σ.2.2)
/-- behind the children nobody was had or safe -/
def out0 (s : xS) (X : xXt) : Prop := ∀ j, nat (s 6 1) ≤ j → j < 7 → X.1 1 j = 0 ∧ X.1 2 j = 0
def zIv (σ : xZ) : Prop := (cIv σ.1.1 σ.2.1 ∧ out0 σ.1.1 σ.2.1) ∧ (¬ σ.1.2.2 6 0 = 0 → cIv σ.1.2.1 σ.2.2 ∧ out0 σ.1.2.1 σ.2.2)
def HR (n : Nat) (σ : xZ) (F v : xS) : Prop := aIv n σ.1 ∧ zIv σ ∧ agr (hA F v) σ.1 ∧ hS (hZ σ) F v
def MR (n : Nat) (σ : xZ) (F v : xS) : Prop := aIv n σ.1 ∧ zIv σ ∧ agr (mA F v) σ.1 ∧ mS (mZ σ) F v
theorem HR.J {n : Nat} {σ : xZ} {F v : xS} (R : HR n σ F v) : aIv n (hA F v) := R.1.of R.2.2.1.sy
theorem MR.J {n : Nat} {σ : xZ} {F v : xS} (R : MR n σ F v) : aIv n (mA F v) := R.1.of R.2.2.1.sy
theorem HR.c {n : Nat} {σ : xZ} {F v : xS} (R : HR n σ F v) : cIv σ.1.1 σ.2.1 := R.2.1.1.1
theorem MR.c {n : Nat} {σ : xZ} {F v : xS} (R : MR n σ F v) : cIv σ.1.1 σ.2.1 := R.2.1.1.1
theorem HR.z {n : Nat} {σ : xZ} {F v : xS} (R : HR n σ F v) : hZ σ (hX F v) := R.2.2.2.2.2.2
theorem MR.z {n : Nat} {σ : xZ} {F v : xS} (R : MR n σ F v) : mZ σ (mX F) := R.2.2.2.2.1.2
theorem tH.xr {F v s : xS} {X : xXt} (T : tH (fun k => F (1 + k)) (fun k => v (1 + k)) s X) : hXr (hX F v).1 X := ⟨T.2.2.2.1, T.1.2.2.2, T.2.2.2.2⟩
theorem tH.of {F v s : xS} {X : xXt} (A : sAgr (hSt F v 1) s) (z : hXr (hX F v).1 X) : tH (fun k => F (1 + k)) (fun k => v (1 + k)) s X := by
  obtain ⟨⟨a0, a1, a2, a3, a4, a5⟩, h0, h1, h2, h3⟩ := A
  refine ⟨⟨a0, a1, a2, z.2.1⟩, fun j hj => h0 j ?_, fun j hj => h1 j ?_, z.1, z.2.2⟩
  · rw [a0]; exact hj
  · rw [a1]; exact hj
theorem HR.t {n : Nat} {σ : xZ} {F v : xS} (R : HR n σ F v) : tH (fun k => F (1 + k)) (fun k => v (1 + k)) σ.1.1 σ.2.1 := tH.of R.2.2.1.1 R.z.1
theorem mXr.row {f : Nat → Int32} {X : xXt} : mXr (fun j => if exi j then f j else 0) X ↔ mXr f X := by
  have e : ∀ j, exi j = true → (if exi j then f j else 0) = f j := fun j h => if_pos h
  have ea : ∀ j w, j < 7 → 2 ≤ w → w < 5 → (fun j => if exi j then f j else 0) (25 + 5 * j + w) = f (25 + 5 * j + w) := fun j w hj h2 h5 => e _ (exi_of (Or.inr (Or.inr (Or.inr (Or.inl ⟨by omega, by omega, by omega⟩)))))
  have e8 : (fun j => if exi j then f j else 0) 8 = f 8 := rfl
  have e6 : ∀ u, u < 2 → (fun j => if exi j then f j else 0) (6 + u) = f (6 + u) := fun u hu => by
    rcases (show u = 0 ∨ u = 1 by omega) with z | z
    all_goals subst z
    all_goals rfl
  have et : ∀ k, 130 ≤ k → k < 230 → (fun j => if exi j then f j else 0) k = f k := fun k a b => e _ (exi_of (Or.inr (Or.inr (Or.inr (Or.inr ⟨a, b⟩)))))
  refine ⟨fun h => ⟨fun j hj => ?_, e8.symm.trans h.2.1, ?_, ?_⟩, fun h => ⟨fun j hj => ?_, e8.trans h.2.1, ?_, ?_⟩⟩
  · have q := h.1 j hj
    rw [ea j 2 hj (by decide) (by decide), ea j 3 hj (by decide) (by decide), ea j 4 hj (by decide) (by decide)] at q
    exact q
  · exact h.2.2.1.of (by decide) (e6 0 (by decide)).symm (fun k a b => (et k a b).symm)
  · exact h.2.2.2.of (by decide) (e6 1 (by decide)).symm (fun k a b => (et k a b).symm)
  · rw [ea j 2 hj (by decide) (by decide), ea j 3 hj (by decide) (by decide), ea j 4 hj (by decide) (by decide)]
    exact h.1 j hj
  · exact h.2.2.1.of (by decide) (e6 0 (by decide)) et
  · exact h.2.2.2.of (by decide) (e6 1 (by decide)) et
theorem tM.of_agr {f : Nat → Int32} {s : xS} {X : xXt} (A : sAgr (mSt f) s) (z : mXr f X) : tM f s X := by
  obtain ⟨⟨a0, a1, a2, a3, a4, a5⟩, h0, h1, h2, h3⟩ := A
  refine ⟨⟨a0, a1, a2, z.2.1⟩, fun j hj => h0 j ?_, fun j hj => h1 j ?_, z.1, z.2.2⟩
  · rw [a0]; exact hj
  · rw [a1]; exact hj
theorem MR.t {n : Nat} {σ : xZ} {F v : xS} (R : MR n σ F v) : tM (F 1) σ.1.1 σ.2.1 := tM.of_agr R.2.2.1.1 (mXr.row.mp R.z.1)
theorem MR.tk {n : Nat} {σ : xZ} {F v : xS} (R : MR n σ F v) : v 0 15 = 0 := R.2.2.2.2.2.2.1
theorem sm_0 (s : xS) : sm 0 s = s := by
  funext k
  by_cases e : k = 1
  · subst e
    funext j
    refine if_neg (fun z => ?_)
    have q : (0 : Int32) >>> (nI j &&& 31) = 0 := Int32.zero_shiftRight
    have z : (0 >>> (nI j &&& 31)) &&& 1 = (1 : Int32) := z
    rw [q] at z
    exact absurd z (by decide)
  · exact if_neg e
-- the class's side: what a thought leaves
def gA (k : Nat) : Bool := (Nat.ble 1 k && Nat.blt k 19 && aE (k - 1)) || (Nat.ble 37 k && Nat.blt k 55) || k == 99
def gB (k j : Nat) : Bool := (Nat.ble 1 k && Nat.blt k 19 && bE (k - 1) j) || (Nat.ble 37 k && Nat.blt k 55)
abbrev hG (F v F' v' : xS) : Prop := tR gA gB F v F' v'
theorem hG.up37 {F v G w : xS} : hG F v (upS 37 F G) (upS 37 v w) := by
  have k : ∀ k, ¬ (37 ≤ k ∧ k < 37 + 18) ∨ (Nat.ble 37 k && Nat.blt k 55) = true := fun k => by
    by_cases h : 37 ≤ k ∧ k < 37 + 18
    · refine Or.inr ?_
      rw [Bool.and_eq_true]
      exact ⟨Nat.ble_eq_true_of_le h.1, Nat.ble_eq_true_of_le h.2⟩
    · exact Or.inl h
  refine ⟨fun i z => ?_, fun i j z => ?_⟩
  · rcases k i with h | h
    · exact up_out h
    · rw [show gA i = true by unfold gA; rw [h]; simp] at z
      exact absurd z (by decide)
  · rcases k i with h | h
    · exact congrFun (up_out h) j
    · rw [show gB i j = true by unfold gB; rw [h]; simp] at z
      exact absurd z (by decide)
theorem hG.e1 {F v G w : xS} (E : tR aE bE (fun k => F (1 + k)) (fun k => v (1 + k)) G w) : hG F v (upS 1 F G) (upS 1 v w) := by
  refine ⟨fun i z => ?_, fun i j z => ?_⟩
  · by_cases h : 1 ≤ i ∧ i < 1 + 18
    · rw [up_in h]
      have a : aE (i - 1) = false := by
        simp only [gA, Bool.or_eq_false_iff] at z
        rw [show (Nat.ble 1 i && Nat.blt i 19) = true by rw [Bool.and_eq_true]; exact ⟨Nat.ble_eq_true_of_le h.1, Nat.ble_eq_true_of_le h.2⟩] at z
        simpa using z.1.1
      have q := E.1 (i - 1) a
      rw [q]
      show F (1 + (i - 1)) = F i
      rw [show 1 + (i - 1) = i by omega]
    · exact up_out h
  · by_cases h : 1 ≤ i ∧ i < 1 + 18
    · rw [up_in h]
      have a : bE (i - 1) j = false := by
        simp only [gB, Bool.or_eq_false_iff] at z
        rw [show (Nat.ble 1 i && Nat.blt i 19) = true by rw [Bool.and_eq_true]; exact ⟨Nat.ble_eq_true_of_le h.1, Nat.ble_eq_true_of_le h.2⟩] at z
        simpa using z.1
      have q := E.2 (i - 1) j a
      rw [q]
      show v (1 + (i - 1)) j = v i j
      rw [show 1 + (i - 1) = i by omega]
    · exact congrFun (up_out h) j
theorem hG.agr {F v F' v' : xS} (E : hG F v F' v') : agr (hA F' v') (hA F v) := ⟨⟨⟨E.2 1 2 rfl, E.2 1 8 rfl, E.2 1 10 rfl, E.2 1 11 rfl, E.2 1 14 rfl, E.2 1 16 rfl⟩, fun j _ => ⟨congrFun (E.1 2 rfl) j, congrFun (E.1 3 rfl) j⟩, fun j _ => ⟨congrFun (E.1 4 rfl) j, congrFun (E.1 5 rfl) j⟩, fun j _ => congrFun (E.1 16 rfl) j, fun j _ => congrFun (E.1 17 rfl) j⟩, ⟨⟨fun j _ => congrFun (E.1 62 rfl) j, fun j _ => congrFun (E.1 64 rfl) j, fun j _ => congrFun (E.1 66 rfl) j, fun j _ => congrFun (E.1 68 rfl) j⟩, ⟨⟨E.2 61 1 rfl, E.2 63 1 rfl, E.2 65 1 rfl, E.2 67 1 rfl⟩, E.2 61 2 rfl, E.2 63 2 rfl, E.2 65 2 rfl, E.2 67 2 rfl⟩, ⟨E.2 0 7 rfl, E.2 58 1 rfl⟩, fun j _ => congrFun (E.1 59 rfl) j⟩, fun _ => ⟨⟨E.2 19 2 rfl, E.2 19 8 rfl, E.2 19 10 rfl, E.2 19 11 rfl, E.2 19 14 rfl, E.2 19 16 rfl⟩, fun j _ => ⟨congrFun (E.1 20 rfl) j, congrFun (E.1 21 rfl) j⟩, fun j _ => ⟨congrFun (E.1 22 rfl) j, congrFun (E.1 23 rfl) j⟩, fun j _ => congrFun (E.1 34 rfl) j, fun j _ => congrFun (E.1 35 rfl) j⟩⟩
theorem hG.X {F v F' v' : xS} (E : hG F v F' v') : hX F' v' = hX F v := by
  unfold hX
  rw [E.1 6 rfl, E.1 7 rfl, E.1 8 rfl, E.2 1 9 rfl, E.1 11 rfl, E.2 10 1 rfl, E.1 14 rfl, E.2 13 1 rfl, E.1 24 rfl, E.1 25 rfl, E.1 26 rfl, E.2 19 9 rfl, E.1 29 rfl, E.2 28 1 rfl, E.1 32 rfl, E.2 31 1 rfl]
theorem HR.keep {n : Nat} {σ : xZ} {F v F' v' : xS} (R : HR n σ F v) (E : hG F v F' v') : HR (n + 1) σ F' v' := by
  obtain ⟨I, Z, A, S⟩ := R
  refine ⟨I.up, Z, E.agr.tr A, ⟨?_, ?_⟩, ?_, ?_, ?_⟩
  · rw [E.2 10 1 rfl]; exact S.1.1
  · rw [E.2 13 1 rfl]; exact S.1.2
  · rw [E.2 28 1 rfl]; exact S.2.1
  · rw [E.2 31 1 rfl]; exact S.2.2.1
  · rw [E.X]; exact S.2.2.2
theorem HR.up {n : Nat} {σ : xZ} {F v : xS} (R : HR n σ F v) : HR (n + 1) σ F v := R.keep tR.rf
/-- what comes behind a call that leaves the state -/
abbrev hK (n : Nat) (σ : xZ) (f : xAn) (F : xS) (K : xKo) : Prop := ∀ F' v', HR (n + 1) σ F' v' → F' 69 = bmT f.2 (F 69) → K (some (.int f.1)) (xfill F' v' 0 wH0)
abbrev mK (n : Nat) (σ : xZ) (f : xAn) (F : xS) (K : xKo) : Prop := ∀ F' v', MR (n + 1) σ F' v' → F' 5 = bmT f.2 (F 5) → K (some (.int f.1)) (xfill F' v' 0 (wM0 0))
theorem HR.bm {n : Nat} {σ : xZ} {F v : xS} (R : HR n σ F v) (x : Nat → Int32) : HR n σ (va_up F 69 x) v := ⟨R.1, R.2.1, agr.tr (t := hA F v) ⟨⟨⟨rfl, rfl, rfl, rfl, rfl, rfl⟩, fun _ _ => ⟨rfl, rfl⟩, fun _ _ => ⟨rfl, rfl⟩, fun _ _ => rfl, fun _ _ => rfl⟩, ⟨⟨fun _ _ => rfl, fun _ _ => rfl, fun _ _ => rfl, fun _ _ => rfl⟩, ⟨⟨rfl, rfl, rfl, rfl⟩, rfl, rfl, rfl, rfl⟩, ⟨rfl, rfl⟩, fun _ _ => rfl⟩, fun _ => ⟨⟨rfl, rfl, rfl, rfl, rfl, rfl⟩, fun _ _ => ⟨rfl, rfl⟩, fun _ _ => ⟨rfl, rfl⟩, fun _ _ => rfl, fun _ _ => rfl⟩⟩ R.2.2.1, R.2.2.2⟩
theorem HR.err {n i : Nat} {σ : xZ} {F v : xS} {K : xKo} {f : xAn} {k : Int32} (R : HR n σ F v) (h : hK n σ f F K) (ef : f = (k, i)) (hi : ¬ i = 0 := by decide) : K (some (.int k)) (xfill (va_up F 69 (upd (F 69) i (F 69 i + 1))) v 0 wH0) := by
  subst ef
  exact h _ _ (R.up.bm _) (bm_k hi).symm
theorem HR.goe {n i : Nat} {σ : xZ} {F v F' v' : xS} {K : xKo} {f : xAn} {k : Int32} (R : HR n σ F v) (h : hK n σ f F K) (E : hG F v F' v') (ef : f = (k, i)) (hi : ¬ i = 0 := by decide) : K (some (.int k)) (xfill (va_up F' 69 (upd (F' 69) i (F' 69 i + 1))) v' 0 wH0) := by
  subst ef
  refine h _ _ ((R.keep E).bm _) ?_
  show upd (F' 69) i (F' 69 i + 1) = bmT i (F 69)
  rw [E.1 69 rfl]
  exact (bm_k hi).symm
theorem HR.id {n : Nat} {σ : xZ} {F v : xS} {K : xKo} {f : xAn} {k : Int32} (R : HR n σ F v) (h : hK n σ f F K) (ef : f = (k, 0)) : K (some (.int k)) (xfill F v 0 wH0) := by
  subst ef
  exact h _ _ R.up bm_0.symm
theorem HR.go {n : Nat} {σ : xZ} {F v F' v' : xS} {K : xKo} {f : xAn} {k : Int32} (R : HR n σ F v) (h : hK n σ f F K) (E : hG F v F' v') (ef : f = (k, 0)) : K (some (.int k)) (xfill F' v' 0 wH0) := by
  subst ef
  exact h _ _ (R.keep E) ((E.1 69 rfl).trans bm_0.symm)
/-- a method that leaves what is told: the new state -/
theorem HR.st {n : Nat} {σ : xZ} {F' v' : xS} {s' : xA} (I : aIv (n + 1) s') (Z : zIv (s', σ.2)) (e : s'.2.2 6 0 = σ.1.2.2 6 0) (A : agr (hA F' v') s') (S : hS (hZ σ) F' v') : HR (n + 1) (s', σ.2) F' v' := by
  refine ⟨I, Z, A, S.1, S.2.1, S.2.2.1, ?_⟩
  have q : hZ (s', σ.2) = hZ σ := by
    unfold hZ
    show (fun r : hRw => hXr r.1 σ.2.1 ∧ (¬ s'.2.2 6 0 = 0 → hXr r.2 σ.2.2)) = _
    rw [e]
  rw [q]
  exact S.2.2.2
theorem MR.st {n : Nat} {σ : xZ} {F' v' : xS} {s' : xA} (I : aIv (n + 1) s') (Z : zIv (s', σ.2)) (e : s'.2.2 6 0 = σ.1.2.2 6 0) (A : agr (mA F' v') s') (S : mS (mZ σ) F' v') : MR (n + 1) (s', σ.2) F' v' := by
  refine ⟨I, Z, A, S.1, ⟨S.2.1.1, ?_⟩, S.2.2⟩
  have q : mZ (s', σ.2) = mZ σ := by
    unfold mZ
    show (fun r : mRw => mXr r.1 σ.2.1 ∧ (¬ s'.2.2 6 0 = 0 → mXr r.2 σ.2.2)) = _
    rw [e]
  rw [q]
  exact S.2.1.2
-- the reference's side
theorem mX_of {F F' : xS} (h : ∀ j, j < 230 → F' 1 j = F 1 j) (h2 : F' 2 = F 2) : mX F' = mX F := by
  have q : (fun j => if exi j then F' 1 j else 0) = (fun j => if exi j then F 1 j else 0) := by
    funext j
    cases e : exi j with
    | true =>
      rw [if_pos rfl, if_pos rfl]
      exact h j (by have := exi_in e; omega)
    | false => rw [if_neg Bool.false_ne_true, if_neg Bool.false_ne_true]
  show ((fun j => if exi j then F' 1 j else 0), (fun j => if exi j then F' 2 j else 0)) = mX F
  rw [q, h2]
  rfl
theorem mR.keepS {Ψ : mRw → Prop} {F v F' v' : xS} (E : mR r0 F v F' v') (S : mS Ψ F v) : mS Ψ F' v' := by
  have e1 : ∀ j, j < 230 → F' 1 j = F 1 j := fun j hj => E.2.1 j hj rfl
  have e2 : F' 2 = F 2 := E.k ⟨by decide, by decide, by decide, by decide⟩
  refine ⟨⟨?_, ?_⟩, ⟨⟨?_, ?_⟩, ?_⟩, ?_, ?_, ?_⟩
  · rw [e1 6 (by omega)]; exact S.1.1
  · rw [e1 7 (by omega)]; exact S.1.2
  · rw [e2]; exact S.2.1.1.1
  · rw [e2]; exact S.2.1.1.2
  · rw [mX_of e1 e2]; exact S.2.1.2
  · rw [E.v (j := 4) (by omega), E.v (j := 5) (by omega)]; exact S.2.2.1
  · rw [E.v (j := 15) (by omega)]; exact S.2.2.2.1
  · rw [E.k (k := 6) ⟨by decide, by decide, by decide, by decide⟩, E.k (k := 8) ⟨by decide, by decide, by decide, by decide⟩]; exact S.2.2.2.2
theorem MR.keep {n : Nat} {σ : xZ} {F v F' v' : xS} (R : MR n σ F v) (E : mR r0 F v F' v') : MR (n + 1) σ F' v' := ⟨R.1.up, R.2.1, (E.agr ok_r0 R.J rfl rfl).tr R.2.2.1, E.keepS R.2.2.2⟩
theorem MR.up {n : Nat} {σ : xZ} {F v : xS} (R : MR n σ F v) : MR (n + 1) σ F v := R.keep mR.rf
theorem MR.bm {n : Nat} {σ : xZ} {F v : xS} (R : MR n σ F v) (x : Nat → Int32) : MR n σ (va_up F 5 x) v := ⟨R.1, R.2.1, agr.tr (t := mA F v) ⟨⟨⟨rfl, rfl, rfl, rfl, rfl, rfl⟩, fun _ _ => ⟨rfl, rfl⟩, fun _ _ => ⟨rfl, rfl⟩, fun _ _ => rfl, fun _ _ => rfl⟩, ⟨⟨fun _ _ => rfl, fun _ _ => rfl, fun _ _ => rfl, fun _ _ => rfl⟩, ⟨⟨rfl, rfl, rfl, rfl⟩, rfl, rfl, rfl, rfl⟩, ⟨rfl, rfl⟩, fun _ _ => rfl⟩, fun _ => ⟨⟨rfl, rfl, rfl, rfl, rfl, rfl⟩, fun _ _ => ⟨rfl, rfl⟩, fun _ _ => ⟨rfl, rfl⟩, fun _ _ => rfl, fun _ _ => rfl⟩⟩ R.2.2.1, R.2.2.2⟩
theorem MR.err {n i : Nat} {σ : xZ} {F v : xS} {K : xKo} {f : xAn} {k : Int32} (R : MR n σ F v) (h : mK n σ f F K) (ef : f = (k, i)) (hi : ¬ i = 0 := by decide) : K (some (.int k)) (xfill (va_up F 5 (upd (F 5) i (F 5 i + 1))) v 0 (wM0 0)) := by
  subst ef
  exact h _ _ (R.up.bm _) (bm_k hi).symm
theorem mR.f5 {R : Nat → Bool} {F v F' v' : xS} (E : mR R F v F' v') : F' 5 = F 5 := by
  rcases E.1 5 with e | e | e | e | e
  · exact absurd e (by decide)
  · exact absurd e (by decide)
  · exact absurd e (by decide)
  · exact absurd e (by decide)
  · exact e
theorem MR.goe {n i : Nat} {σ : xZ} {F v F' v' : xS} {K : xKo} {f : xAn} {k : Int32} (R : MR n σ F v) (h : mK n σ f F K) (E : mR r0 F v F' v') (ef : f = (k, i)) (hi : ¬ i = 0 := by decide) : K (some (.int k)) (xfill (va_up F' 5 (upd (F' 5) i (F' 5 i + 1))) v' 0 (wM0 0)) := by
  subst ef
  refine h _ _ ((R.keep E).bm _) ?_
  show upd (F' 5) i (F' 5 i + 1) = bmT i (F 5)
  rw [E.f5]
  exact (bm_k hi).symm
theorem MR.id {n : Nat} {σ : xZ} {F v : xS} {K : xKo} {f : xAn} {k : Int32} (R : MR n σ F v) (h : mK n σ f F K) (ef : f = (k, 0)) : K (some (.int k)) (xfill F v 0 (wM0 0)) := by
  subst ef
  exact h _ _ R.up bm_0.symm
theorem MR.go {n : Nat} {σ : xZ} {F v F' v' : xS} {K : xKo} {f : xAn} {k : Int32} (R : MR n σ F v) (h : mK n σ f F K) (E : mR r0 F v F' v') (ef : f = (k, 0)) : K (some (.int k)) (xfill F' v' 0 (wM0 0)) := by
  subst ef
  exact h _ _ (R.keep E) (E.f5.trans bm_0.symm)
theorem mR.vr {F v v' : xS} (h : vR v v') : mR r0 F v F v' := ⟨fun _ => Or.inr (Or.inr (Or.inr (Or.inr rfl))), fun _ _ _ => rfl, h⟩
end
section
/-! ===== answers and next states, exactly ===== -/
def z_hadBy (m t : Int32) (σ : xZ) : xAn := if xin m 6 ∧ xin t 10 then (eSet σ.1.1 σ.2.1 m t, 0) else (-1000000001, 1)
def z_runsTo (c m t : Int32) (σ : xZ) : xAn := if xin c (σ.1.1 6 1).toInt ∧ xin m 6 ∧ xin t 10 then (eEnd σ.1.1 σ.2.1 m t (nat c), 0) else (-1000000001, 1)
def z_call (m t : Int32) (σ : xZ) : xAn := if xin m 6 ∧ xin t 10 then (if nat (σ.1.1 6 2) < 9999 then (eSet σ.1.1 σ.2.1 m t, 0) else (-1000000003, 3)) else (-1000000001, 1)
def y_call (m t : Int32) (σ : xZ) : xZ := if (xin m 6 ∧ xin t 10) ∧ nat (σ.1.1 6 2) < 9999 then ((clS σ.1.1, σ.1.2), ePlay σ.1.1 σ.2.1 m t, σ.2.2) else σ
def z_law (u a b c : Int32) (σ : xZ) : xAn := if xin u 2 then (σ.2.1.2.2 (nat u) a b c, 0) else (-1000000001, 1)
def txA (r : Option (List Int32) × Nat) : Int32 := match r with
  | (some _, _) => 1
  | (none, i) => -10 - nI i
def nwL (u : Int32) (tp : xRw) (n : Nat) : xLw := fun a b c => clamp1 (grG u a b c (bY tp n) 60 5 0 0).1
def txX (u : Int32) (tp : xRw) (n : Nat) (X : xXt) (r : Option (List Int32) × Nat) : xXt := match r with
  | (some _, _) => (X.1, X.2.1, fun k => if k = nat u then nwL u tp n else X.2.2 k)
  | _ => X
def z_text (u : Int32) (σ : xZ) : xAn := if xin u 2 then (txA (rdF u (σ.1.1 4) (nat (σ.1.1 6 4))), 0) else (-1000000001, 1)
def y_text (u : Int32) (σ : xZ) : xZ := if xin u 2 then ((va_up σ.1.1 6 (upd (σ.1.1 6) 4 0), σ.1.2), txX u (σ.1.1 4) (nat (σ.1.1 6 4)) σ.2.1 (rdF u (σ.1.1 4) (nat (σ.1.1 6 4))), σ.2.2) else σ
def z_ofChild (c w : Int32) (σ : xZ) : xAn := if xin c (σ.1.1 6 1).toInt then (if w = 0 then (σ.1.1 2 (nat c), 0) else if w = 1 then (σ.1.1 3 (nat c), 0) else if w = 2 then (σ.2.1.1 0 (nat c), 0) else if w = 3 then (σ.2.1.1 1 (nat c), 0) else if w = 4 then (σ.2.1.1 2 (nat c), 0) else if w = 5 then (paceV (σ.1.1 2 (nat c)) (σ.1.1 3 (nat c)) (σ.1.1 6 2) σ.2.1.2.1, 0) else if w = 6 then (farV (σ.1.1 2 (nat c)) (σ.1.1 3 (nat c)), 0) else (-1000000001, 1)) else (-1000000001, 1)
abbrev chOk (c w x : Int32) (σ : xZ) : Prop := (xin c (σ.1.1 6 1).toInt ∧ xin w 3) ∧ xin x (if w = 0 then 12 else 1000)
def z_change (c w x : Int32) (σ : xZ) : xAn := if chOk c w x σ then (σ.2.1.1 (nat w) (nat c), 0) else (-1000000001, 1)
def y_change (c w x : Int32) (σ : xZ) : xZ := if chOk c w x σ then (σ.1, (va_up σ.2.1.1 (nat w) (upd (σ.2.1.1 (nat w)) (nat c) x), σ.2.1.2), σ.2.2) else σ
def z_it (c : Int32) (σ : xZ) : xAn := if c = -1 ∨ xin c (σ.1.1 6 1).toInt then (σ.2.1.2.1, 0) else (-1000000001, 1)
def y_it (c : Int32) (σ : xZ) : xZ := if c = -1 ∨ xin c (σ.1.1 6 1).toInt then (σ.1, (σ.2.1.1, c, σ.2.1.2.2), σ.2.2) else σ
def y_child (m c : Int32) (σ : xZ) : xZ := if (xin m 70 ∧ xin c 12) ∧ nat (σ.1.1 6 1) < 7 then (g_child m c σ.1, (va_up σ.2.1.1 0 (upd (σ.2.1.1 0) (nat (σ.1.1 6 1)) c), σ.2.1.2), σ.2.2) else σ
def chkL (ch : Nat) (w h : xRw) : Nat → Nat → Int32
  | 0, _ => 0
  | d + 1, i => if i < ch ∧ w i = h i then chkL ch w h d (i + 1) else 1 + nI i
def z_check (σ : xZ) : xAn := (chkL (nat (σ.1.1 6 1)) (σ.1.1 5) (σ.2.1.1 1) (nat (σ.1.1 6 5)) 0, 0)
def y_check (σ : xZ) : xZ := (g_check σ.1, σ.2)
def z_count (w : Int32) (σ : xZ) : xAn := if w = 0 then (σ.1.1 6 0, 0) else if w = 1 then (σ.1.1 6 1, 0) else if w = 2 then (σ.1.1 6 2, 0) else if w = 3 then (σ.2.1.2.1, 0) else if w = 4 then (sumV (σ.2.1.1 1) (nat (σ.1.1 6 1)), 0) else if w = 5 then (sumV (σ.2.1.1 2) (nat (σ.1.1 6 1)), 0) else if w = 6 then (σ.1.1 6 4, 0) else if w = 7 then (σ.1.1 6 5, 0) else if w = 8 then (σ.1.2.2 6 1, 0) else if w = 9 then (σ.1.1 6 3, 0) else (-1000000001, 1)
def y_image (σ : xZ) : xZ := (g_image σ.1, σ.2.1, σ.2.1)
def y_restore (σ : xZ) : xZ := (g_restore σ.1, if σ.1.2.2 6 0 = 0 then σ.2 else (σ.2.2, σ.2.2))
def y_places (s : Int32) (σ : xZ) : xZ := if xin s 4 ∧ ¬ σ.1.2.2 5 (nat s) = 0 then (σ.1, (va_up σ.2.1.1 0 (fun j => if j < cntP (σ.1.2.2 (nat s)) (plN s σ.1) 0 then σ.1.2.2 (nat s) j else σ.2.1.1 0 j), σ.2.1.2), σ.2.2) else σ
/-- what comes behind a call: an answer and a next state -/
abbrev hKy (n : Nat) (σ' : xZ) (f : xAn) (F : xS) (K : xKo) : Prop := ∀ F' v', HR (n + 1) σ' F' v' → F' 69 = bmT f.2 (F 69) → K (some (.int f.1)) (xfill F' v' 0 wH0)
abbrev mKy (n : Nat) (σ' : xZ) (f : xAn) (F : xS) (K : xKo) : Prop := ∀ F' v', MR (n + 1) σ' F' v' → F' 5 = bmT f.2 (F 5) → K (some (.int f.1)) (xfill F' v' 0 (wM0 0))
theorem HR.no {n i : Nat} {σ σ' : xZ} {F v : xS} {K : xKo} {f : xAn} {k : Int32} (R : HR n σ F v) (h : hKy n σ' f F K) (es : σ' = σ) (ef : f = (k, i)) (hi : ¬ i = 0 := by decide) : K (some (.int k)) (xfill (va_up F 69 (upd (F 69) i (F 69 i + 1))) v 0 wH0) := by
  subst es
  exact R.err h ef hi
theorem MR.no {n i : Nat} {σ σ' : xZ} {F v : xS} {K : xKo} {f : xAn} {k : Int32} (R : MR n σ F v) (h : mKy n σ' f F K) (es : σ' = σ) (ef : f = (k, i)) (hi : ¬ i = 0 := by decide) : K (some (.int k)) (xfill (va_up F 5 (upd (F 5) i (F 5 i + 1))) v 0 (wM0 0)) := by
  subst es
  exact R.err h ef hi
/-- the street's counts of a state that is told -/
theorem HR.n1 {n : Nat} {σ : xZ} {F v : xS} (R : HR n σ F v) : v 1 2 = σ.1.1 6 0 ∧ v 1 8 = σ.1.1 6 1 ∧ v 1 10 = σ.1.1 6 2 ∧ v 1 11 = σ.1.1 6 3 ∧ v 1 14 = σ.1.1 6 4 ∧ v 1 16 = σ.1.1 6 5 := R.2.2.1.1.1
theorem MR.n1 {n : Nat} {σ : xZ} {F v : xS} (R : MR n σ F v) : F 1 3 = σ.1.1 6 0 ∧ F 1 2 = σ.1.1 6 1 ∧ F 1 0 = σ.1.1 6 2 ∧ F 1 1 = σ.1.1 6 3 ∧ F 1 4 = σ.1.1 6 4 ∧ F 1 5 = σ.1.1 6 5 := R.2.2.1.1.1
end
