/-! ===== things taken away, exactly ===== -/
theorem mk_0 {m : Int32} : ¬ mk 0 m := by
  intro z
  have q : (0 : Int32) >>> (m &&& 31) = 0 := Int32.zero_shiftRight
  have z : (0 >>> (m &&& 31)) &&& 1 = (1 : Int32) := z
  rw [q] at z
  exact absurd z (by decide)
theorem gLp_M {s : xS} {X : xXt} {c : Nat} {b : Int32} {M M' : Nat → Int32} : ∀ (d i : Nat) (g r : Int32), (∀ j, i ≤ j → j < i + d → (M j = M' j ∨ ¬ mk (M j) b ∧ ¬ mk (M' j) b)) → gLp (va_up s 1 M) X c b d i g r = gLp (va_up s 1 M') X c b d i g r := by
  intro d
  induction d with
  | zero => intro i g r _; rfl
  | succ d ih =>
    intro i g r h
    have em : mk (M i) b ↔ mk (M' i) b := by
      rcases h i (Nat.le_refl i) (by omega) with e | ⟨x, y⟩
      · rw [e]
      · exact ⟨fun z => absurd z x, fun z => absurd z y⟩
    show (if (mk (M i) b ∧ off (X.1 0 c) (s 0 i) < r) ∧ ¬ X.2.2 0 (off (X.1 0 c) (s 0 i)) b (s 3 c) = 0 then gLp (va_up s 1 M) X c b d (i + 1) (nI i) (off (X.1 0 c) (s 0 i)) else gLp (va_up s 1 M) X c b d (i + 1) g r) = (if (mk (M' i) b ∧ off (X.1 0 c) (s 0 i) < r) ∧ ¬ X.2.2 0 (off (X.1 0 c) (s 0 i)) b (s 3 c) = 0 then gLp (va_up s 1 M') X c b d (i + 1) (nI i) (off (X.1 0 c) (s 0 i)) else gLp (va_up s 1 M') X c b d (i + 1) g r)
    rw [ih (i + 1) (nI i) (off (X.1 0 c) (s 0 i)) (fun j a l => h j (by omega) (by omega)), ih (i + 1) g r (fun j a l => h j (by omega) (by omega))]
    by_cases m1 : mk (M i) b
    · have m2 := em.mp m1
      by_cases z : off (X.1 0 c) (s 0 i) < r ∧ ¬ X.2.2 0 (off (X.1 0 c) (s 0 i)) b (s 3 c) = 0
      · rw [if_pos ⟨⟨m1, z.1⟩, z.2⟩, if_pos ⟨⟨m2, z.1⟩, z.2⟩]
      · rw [if_neg (fun y => z ⟨y.1.2, y.2⟩), if_neg (fun y => z ⟨y.1.2, y.2⟩)]
    · have m2 : ¬ mk (M' i) b := fun z => m1 (em.mpr z)
      rw [if_neg (fun y => m1 y.1.1), if_neg (fun y => m2 y.1.1)]
theorem hdL_M {s : xS} {L : xLw} {cr cell b : Int32} {M M' : Nat → Int32} : ∀ (d i : Nat), (∀ j, i ≤ j → j < i + d → (M j = M' j ∨ ¬ mk (M j) b ∧ ¬ mk (M' j) b)) → hdL (va_up s 1 M) L cr cell b d i = hdL (va_up s 1 M') L cr cell b d i := by
  intro d
  induction d with
  | zero => intro i _; rfl
  | succ d ih =>
    intro i h
    show (if s 0 i = cell ∧ mk (M i) b then (if L cr (M i) b = 0 then 0 else 1) else hdL (va_up s 1 M) L cr cell b d (i + 1)) = (if s 0 i = cell ∧ mk (M' i) b then (if L cr (M' i) b = 0 then 0 else 1) else hdL (va_up s 1 M') L cr cell b d (i + 1))
    rw [ih (i + 1) (fun j a l => h j (by omega) (by omega))]
    rcases h i (Nat.le_refl i) (by omega) with e | ⟨x, y⟩
    · rw [e]
    · rw [if_neg (fun z => x z.2), if_neg (fun z => y z.2)]
theorem eSet_M {s : xS} {X : xXt} {b t : Int32} {M M' : Nat → Int32} (h : ∀ j, j < nat (s 6 0) → (M j = M' j ∨ ¬ mk (M j) b ∧ ¬ mk (M' j) b)) : eSet (va_up s 1 M) X b t = eSet (va_up s 1 M') X b t := by
  have g : ∀ c, eGoal (va_up s 1 M) X c b = eGoal (va_up s 1 M') X c b := fun c => gLp_M (nat (s 6 0)) 0 (-1) (farV (s 2 c) (s 3 c) + 1) (fun j _ l => h j (by omega))
  have e : ∀ c, eEnd (va_up s 1 M) X b t c = eEnd (va_up s 1 M') X b t c := fun c => by
    unfold eEnd
    rw [g c]
    rfl
  have e2 : eEnd (va_up s 1 M) X b t = eEnd (va_up s 1 M') X b t := funext e
  have hh : ∀ (E : Nat → Int32) (cell : Int32), eHeld (va_up s 1 M) X E cell b = eHeld (va_up s 1 M') X E cell b := fun E cell => hdL_M (nat (s 6 0)) 0 (fun j _ l => h j (by omega))
  have hd : eHad (va_up s 1 M) X b t = eHad (va_up s 1 M') X b t := by
    funext c
    unfold eHad
    rw [e2, hh]
  show nI (stN (eHad (va_up s 1 M) X b t) (nat (s 6 1))) = nI (stN (eHad (va_up s 1 M') X b t) (nat (s 6 1)))
  rw [hd]
-- the first of the fewest
def tkn : Option Nat → Nat
  | none => 9
  | some b => popN b
def tkR (Q : Nat → Bool) : Nat → Option Nat
  | 0 => none
  | n + 1 => if popN n < tkn (tkR Q n) ∧ Q n = true then some n else tkR Q n
theorem tk_le {Q : Nat → Bool} : ∀ (n k : Nat), k < n → Q k = true → tkn (tkR Q n) ≤ popN k := by
  intro n
  induction n with
  | zero => intro k h _; exact absurd h (Nat.not_lt_zero k)
  | succ n ih =>
    intro k h q
    unfold tkR
    by_cases e : k = n
    · subst e
      by_cases l : popN k < tkn (tkR Q k)
      · rw [if_pos ⟨l, q⟩]
        exact Nat.le_refl _
      · rw [if_neg (fun z => l z.1)]
        omega
    · have x := ih k (by omega) q
      by_cases l : popN n < tkn (tkR Q n) ∧ Q n = true
      · rw [if_pos l]
        show popN n ≤ popN k
        have := l.1
        omega
      · rw [if_neg l]
        exact x
theorem tk_eq {A P : Nat → Bool} {N : Nat} (h : ∀ n, n < N → P n = true → A n = false → ∃ k, k < n ∧ P k = true ∧ popN k < popN n) : ∀ n, n ≤ N → tkR P n = tkR (fun k => A k && P k) n := by
  intro n
  induction n with
  | zero => intro _; rfl
  | succ n ih =>
    intro hn
    have e := ih (by omega)
    show (if popN n < tkn (tkR P n) ∧ P n = true then some n else tkR P n) = (if popN n < tkn (tkR (fun k => A k && P k) n) ∧ (A n && P n) = true then some n else tkR (fun k => A k && P k) n)
    rw [← e]
    cases p : P n with
    | false =>
      rw [if_neg (fun z => Bool.false_ne_true z.2), Bool.and_false, if_neg (fun z => Bool.false_ne_true z.2)]
    | true =>
      cases a : A n with
      | true => rfl
      | false =>
        obtain ⟨k, k1, k2, k3⟩ := h n (by omega) p a
        have x := tk_le n k k1 k2
        rw [if_neg (fun z => by have := z.1; omega), if_neg (fun z => Bool.false_ne_true z.2)]
theorem tk_in {Q : Nat → Bool} : ∀ (n b : Nat), tkR Q n = some b → b < n := by
  intro n
  induction n with
  | zero => intro b h; have h : none = some b := h; cases h
  | succ n ih =>
    intro b h
    have h : (if popN n < tkn (tkR Q n) ∧ Q n = true then some n else tkR Q n) = some b := h
    by_cases l : popN n < tkn (tkR Q n) ∧ Q n = true
    · rw [if_pos l] at h
      have q : n = b := Option.some.inj h
      omega
    · rw [if_neg l] at h
      have := ih b h
      omega
def tkP (c m t : Int32) (σ : xZ) (k : Nat) : Bool := decide (mk (eSet (sm (nI k) σ.1.1) σ.2.1 m t) c)
def tkH (m : Int32) (s : xS) (k : Nat) : Bool := decide (∀ j, j < nat (s 6 0) → mk (nI k) (nI j) → mk (s 1 j) m)
def tkA : Option Nat → Int32
  | none => -1000000002
  | some b => nI b
def tkp : Option Nat → Int32
  | none => 0
  | some b => nI b
def tkb : Option Nat → Int32
  | none => -1
  | some b => nI b
def z_take (c m t : Int32) (σ : xZ) : Int32 := if xin c (σ.1.1 6 1).toInt ∧ xin m 6 ∧ xin t 10 then tkA (tkR (tkP c m t σ) (2 ^ nat (σ.1.1 6 0))) else -1000000001
theorem pop8 {k : Nat} (h : k < 256) : popN k ≤ 8 := by
  have q : ∀ k : Fin 256, popN k.val ≤ 8 := by decide +kernel
  exact q ⟨k, h⟩
theorem bt_sub {k j : Nat} (hk : k < 256) (hj : j < 8) (b : k.testBit j = true) : k - 2 ^ j < k ∧ popN (k - 2 ^ j) < popN k ∧ (k - 2 ^ j).testBit j = false ∧ ∀ i, i < 8 → ¬ i = j → (k - 2 ^ j).testBit i = k.testBit i := by
  have q : ∀ (k : Fin 256) (j : Fin 8), k.val.testBit j.val = true → k.val - 2 ^ j.val < k.val ∧ popN (k.val - 2 ^ j.val) < popN k.val ∧ (k.val - 2 ^ j.val).testBit j.val = false ∧ ∀ i : Fin 8, ¬ i.val = j.val → (k.val - 2 ^ j.val).testBit i.val = k.val.testBit i.val := by decide +kernel
  obtain ⟨a, c, d, e⟩ := q ⟨k, hk⟩ ⟨j, hj⟩ b
  exact ⟨a, c, d, fun i hi n => e ⟨i, hi⟩ n⟩
theorem pow8 {kt : Nat} (h : kt ≤ 8) : 2 ^ kt ≤ 256 ∧ (1 : Int32) <<< (nI kt &&& 31) = nI (2 ^ kt) := by
  have q : ∀ kt : Fin 9, 2 ^ kt.val ≤ 256 ∧ (1 : Int32) <<< (nI kt.val &&& 31) = nI (2 ^ kt.val) := by decide +kernel
  exact q ⟨kt, by omega⟩
/-- to take away a thing without the mark changes nothing -/
theorem tk_same {c m t : Int32} {σ : xZ} {kt : Nat} (hk : kt ≤ 8) (ek : nat (σ.1.1 6 0) = kt) : tkR (tkP c m t σ) (2 ^ kt) = tkR (fun k => tkH m σ.1.1 k && tkP c m t σ k) (2 ^ kt) := by
  refine tk_eq (N := 2 ^ kt) (fun n hn p a => ?_) _ (Nat.le_refl _)
  have n256 : n < 256 := by have := (pow8 hk).1; omega
  have a := of_decide_eq_false a
  obtain ⟨j, hj⟩ := Classical.not_forall.mp a
  obtain ⟨j1, hj⟩ := Classical.not_imp.mp hj
  obtain ⟨j2, j3⟩ := Classical.not_imp.mp hj
  rw [ek] at j1
  have b := (mk_nI n256 (by omega)).mp j2
  obtain ⟨x1, x2, x3, x4⟩ := bt_sub n256 (by omega) b
  refine ⟨n - 2 ^ j, x1, ?_, x2⟩
  have e : eSet (sm (nI (n - 2 ^ j)) σ.1.1) σ.2.1 m t = eSet (sm (nI n) σ.1.1) σ.2.1 m t := by
    refine eSet_M (s := σ.1.1) (M := fun i => if mk (nI (n - 2 ^ j)) (nI i) then 0 else σ.1.1 1 i) (M' := fun i => if mk (nI n) (nI i) then 0 else σ.1.1 1 i) (fun i hi => ?_)
    rw [ek] at hi
    by_cases ij : i = j
    · subst ij
      refine Or.inr ⟨?_, ?_⟩
      · show ¬ mk (if mk (nI (n - 2 ^ i)) (nI i) then 0 else σ.1.1 1 i) m
        rw [if_neg (fun z => by have y := (mk_nI (by omega) (by omega)).mp z; rw [x3] at y; exact Bool.false_ne_true y)]
        exact j3
      · show ¬ mk (if mk (nI n) (nI i) then 0 else σ.1.1 1 i) m
        rw [if_pos j2]
        exact mk_0
    · refine Or.inl ?_
      show (if mk (nI (n - 2 ^ j)) (nI i) then 0 else σ.1.1 1 i) = (if mk (nI n) (nI i) then 0 else σ.1.1 1 i)
      have q := x4 i (by omega) ij
      by_cases z : n.testBit i = true
      · rw [if_pos ((mk_nI (by omega) (by omega)).mpr (q.trans z)), if_pos ((mk_nI n256 (by omega)).mpr z)]
      · rw [if_neg (fun y => z (q.symm.trans ((mk_nI (by omega) (by omega)).mp y))), if_neg (fun y => z ((mk_nI n256 (by omega)).mp y))]
  unfold tkP at p ⊢
  rw [e]
  exact p
set_option maxRecDepth 100000 in
theorem sx_allHave (F v s : xS) (X : xXt) (T : tH F v s X) (I : cIv s X) (k : Nat) (hk : k < 256) (m : Int32) {K : xKo} (h0 : tkH m s k = false → K (some (.int 0)) (xfill F v 0 (wT0 0))) (h1 : tkH m s k = true → K (some (.int 1)) (xfill F v 0 (wT0 0))) : C_T_allHave [.ref 0, .int (nI k), .int m] (xfill F v 0 (wT0 0)) K := by
  obtain ⟨n, hn, en⟩ := I.1.1
  have ek : nat (s 6 0) = n := by rw [en]; exact nI_clamp (by omega)
  have e2 : v 0 2 = nI n := T.1.1.trans en
  have key : ∀ (d i : Nat), i + d = n → (∀ j, j < i → mk (nI k) (nI j) → mk (s 1 j) m) → xWP pg_T_allHave K 2 [(0, .ref 0), (1, .int (nI k)), (2, .int m), (3, .int (nI i))] [] (xfill F v 0 (wT0 0)) (0, 0) := by
    intro d
    induction d with
    | zero =>
      intro i hi al
      have hi : i = n := hi
      refine xWP_go 200 [(2, [0, 1, 2, 3])] fun P hP => ?_
      refine br_c (fun _ => ⟨Or.inr rfl, h1 (decide_eq_true fun j hj => al j (by omega))⟩) (fun z => ?_)
      have z : ¬ v 0 2 ≤ nI i := z
      rw [e2, nI_leI (by omega) (by omega)] at z
      omega
    | succ d ih =>
      intro i hi al
      have em : F 2 (Int32.toNatClampNeg (nI i)) = s 1 i := by
        rw [show Int32.toNatClampNeg (nI i) = i from nI_clamp (by omega)]
        exact (T.2.1 i (by rw [ek]; omega)).2
      refine xWP_go 200 [(2, [0, 1, 2, 3])] fun P hP => ?_
      refine br_c (fun z => ?_) (fun _ => ?_)
      · have z : v 0 2 ≤ nI i := z
        rw [e2, nI_leI (by omega) (by omega)] at z
        omega
      refine xcall (sp_isIn _ _ (fun y => ?_) (fun y => ?_))
      · have y : ¬ mk (nI k) (nI i) := y
        refine br_c (fun _ => ?_) (fun z => absurd rfl z)
        refine hP _ _ _ _ _ ?_
        rw [nI_1]
        refine ih (i + 1) (by omega) (fun j hj x => ?_)
        by_cases e : j = i
        · rw [e] at x; exact absurd x y
        · exact al j (by omega) x
      have y : mk (nI k) (nI i) := y
      refine br_c (fun z => absurd z (by decide)) (fun _ => ?_)
      refine ⟨vp_in_nI (by omega) (by omega), ?_⟩
      refine xcall (sp_isIn _ _ (fun x => ?_) (fun x => ?_))
      · have x : ¬ mk (F 2 (Int32.toNatClampNeg (nI i))) m := x
        rw [em] at x
        refine br_n (fun z => absurd rfl z) (fun _ => ?_)
        exact ⟨Or.inl rfl, h0 (decide_eq_false fun z => x (z i (by rw [ek]; omega) y))⟩
      · have x : mk (F 2 (Int32.toNatClampNeg (nI i))) m := x
        rw [em] at x
        refine br_n (fun _ => ?_) (fun z => absurd z (by decide))
        refine hP _ _ _ _ _ ?_
        rw [nI_1]
        refine ih (i + 1) (by omega) (fun j hj w => ?_)
        by_cases e : j = i
        · rw [e]; exact x
        · exact al j (by omega) w
  refine xM_go rfl 200 [(2, [0, 1, 2, 3])] fun P hP => ?_
  refine hP _ _ _ _ _ ?_
  exact key n 0 (by omega) (fun j hj => absurd hj (Nat.not_lt_zero j))
theorem tH.marks {F v s : xS} {X : xXt} {M M' : Nat → Int32} (T : tH F v (va_up s 1 M) X) (h : ∀ j, j < nat (s 6 0) → F 2 j = M' j) : tH F v (va_up s 1 M') X := ⟨T.1, fun j hj => ⟨(T.2.1 j hj).1, h j hj⟩, T.2.2⟩
theorem tH.put {F v s : xS} {X : xXt} {M f : Nat → Int32} (T : tH F v (va_up s 1 M) X) : tH (va_up F 2 f) v (va_up s 1 f) X := ⟨T.1, fun j hj => ⟨(T.2.1 j hj).1, rfl⟩, T.2.2⟩
set_option maxRecDepth 100000 in
theorem sx_hadWithout (F v s : xS) (X : xXt) (Tn : tH (fun k => F (1 + k)) (fun k => v (1 + k)) s X) (T : ∃ M, tH (fun k => F (37 + k)) (fun k => v (37 + k)) (va_up s 1 M) X) (I : cIv s X) (k : Nat) (c m : Int32) (u : Nat) (hu : u < 10) {K : xKo} (h0 : ¬ mk (eSet (sm (nI k) s) X m (nI u)) c → ∀ F' v', hG F v F' v' → (∃ M, tH (fun k => F' (37 + k)) (fun k => v' (37 + k)) (va_up s 1 M) X) → K (some (.int 0)) (xfill F' v' 0 wH0)) (h1 : mk (eSet (sm (nI k) s) X m (nI u)) c → ∀ F' v', hG F v F' v' → (∃ M, tH (fun k => F' (37 + k)) (fun k => v' (37 + k)) (va_up s 1 M) X) → K (some (.int 1)) (xfill F' v' 0 wH0)) : C_H_hadWithout [.ref 0, .int (nI k), .int c, .int m, .int (nI u)] (xfill F v 0 wH0) K := by
  obtain ⟨n, hn, en⟩ := I.1.1
  have ek : nat (s 6 0) = n := by rw [en]; exact nI_clamp (by omega)
  have e2 : v 1 2 = nI n := Tn.1.1.trans en
  have key : ∀ (d i : Nat) (F' v' : xS), i + d = n → hG F v F' v' → (∃ M, tH (fun k => F' (37 + k)) (fun k => v' (37 + k)) (va_up s 1 M) X) → (∀ j, j < i → F' 39 j = if mk (nI k) (nI j) then 0 else s 1 j) → xWP pg_H_hadWithout K 3 [(0, .ref 0), (1, .int (nI k)), (2, .int c), (3, .int m), (4, .int (nI u)), (5, .int (nI i))] [] (xfill F' v' 0 wH0) (0, 0) := by
    intro d
    induction d with
    | zero =>
      intro i F' v' hi E TT al
      have hi : i = n := hi
      obtain ⟨M, TM⟩ := TT
      have e : v' 1 2 = nI n := (E.2 1 2 rfl).trans e2
      have T1 : tH (fun k => F' (37 + k)) (fun k => v' (37 + k)) (sm (nI k) s) X := TM.marks (M' := fun j => if mk (nI k) (nI j) then 0 else s 1 j) (fun j hj => al j (by rw [ek] at hj; omega))
      refine xWP_go 200 [(3, [0, 1, 2, 3, 4, 5])] fun P hP => ?_
      refine br_c (fun _ => ?_) (fun z => ?_)
      · refine xcall (sx_wouldBeHad (fun k => F' (37 + k)) (fun k => v' (37 + k)) (sm (nI k) s) X T1 (I.sm (nI k)) m u hu (fun G w E2 _ => ?_))
        have T3 : ∃ M, tH (fun k => upS 37 F' G (37 + k)) (fun k => upS 37 v' w (37 + k)) (va_up s 1 M) X := ⟨fun j => if mk (nI k) (nI j) then 0 else s 1 j, by have T2 := T1.e E2; exact T2⟩
        refine xcall (sp_isIn _ _ (fun y => ?_) (fun y => ?_))
        · exact ⟨Or.inl rfl, h0 y (upS 37 F' G) (upS 37 v' w) (E.tr hG.up37) T3⟩
        · exact ⟨Or.inr rfl, h1 y (upS 37 F' G) (upS 37 v' w) (E.tr hG.up37) T3⟩
      · have z : ¬ v' 1 2 ≤ nI i := z
        rw [e, nI_leI (by omega) (by omega)] at z
        omega
    | succ d ih =>
      intro i F' v' hi E TT al
      obtain ⟨M, TM⟩ := TT
      have e : v' 1 2 = nI n := (E.2 1 2 rfl).trans e2
      have ei : Int32.toNatClampNeg (nI i) = i := nI_clamp (by omega)
      have em : F' 3 (Int32.toNatClampNeg (nI i)) = s 1 i := by
        rw [ei, E.1 3 rfl]
        exact (Tn.2.1 i (by rw [ek]; omega)).2
      have nx : ∀ x : Int32, x = (if mk (nI k) (nI i) then 0 else s 1 i) → xWP pg_H_hadWithout K 3 [(0, .ref 0), (1, .int (nI k)), (2, .int c), (3, .int m), (4, .int (nI u)), (5, .int (nI (i + 1)))] [] (xfill (va_up F' 39 (upd (F' 39) (Int32.toNatClampNeg (nI i)) x)) v' 0 wH0) (0, 0) := by
        intro x ex
        refine ih (i + 1) (va_up F' 39 (upd (F' 39) (Int32.toNatClampNeg (nI i)) x)) v' (by omega) (E.fu rfl) ⟨_, TM.put (f := upd (F' 39) (Int32.toNatClampNeg (nI i)) x) |>.ext rfl (fun _ _ _ _ => rfl)⟩ (fun j hj => ?_)
        show upd (F' 39) (Int32.toNatClampNeg (nI i)) x j = _
        rw [ei]
        by_cases ej : j = i
        · rw [ej, pk_us]; exact ex
        · rw [pk_un ej]; exact al j (by omega)
      refine xWP_go 200 [(3, [0, 1, 2, 3, 4, 5])] fun P hP => ?_
      refine br_c (fun z => ?_) (fun _ => ?_)
      · have z : v' 1 2 ≤ nI i := z
        rw [e, nI_leI (by omega) (by omega)] at z
        omega
      have bi : vp_in (nI i) 8 := vp_in_nI (by omega) (by omega)
      refine xcall (sp_isIn _ _ (fun y => ?_) (fun y => ?_))
      · have y : ¬ mk (nI k) (nI i) := y
        refine br_c (fun _ => ?_) (fun z => absurd rfl z)
        refine ⟨bi, ?_⟩
        refine ⟨bi, ?_⟩
        refine hP _ _ _ _ _ ?_
        rw [nI_1]
        exact nx (F' 3 (Int32.toNatClampNeg (nI i))) (em.trans (if_neg y).symm)
      · have y : mk (nI k) (nI i) := y
        refine br_c (fun z => absurd z (by decide)) (fun _ => ?_)
        refine ⟨bi, ?_⟩
        refine hP _ _ _ _ _ ?_
        rw [nI_1]
        exact nx 0 (if_pos y).symm
  refine xM_go rfl 200 [(3, [0, 1, 2, 3, 4, 5])] fun P hP => ?_
  refine hP _ _ _ _ _ ?_
  exact key n 0 F v (by omega) tR.rf T (fun j hj => absurd hj (Nat.not_lt_zero j))
set_option maxRecDepth 100000 in
theorem HX_take (n : Nat) (σ : xZ) (F v : xS) (R : HR n σ F v) (c m s : Int32) {K : xKo} (h : hK n σ (z_take c m s σ) K) : C_H_take [.ref 0, .int c, .int m, .int s] (xfill F v 0 wH0) K := by
  obtain ⟨kt, hkt, et⟩ : below 8 (σ.1.1 6 0) := R.c.1.1
  have ekt : nat (σ.1.1 6 0) = kt := by rw [et]; exact nI_clamp (by omega)
  obtain ⟨pN, eN⟩ := pow8 hkt
  have e12 : v 1 2 = nI kt := R.n1.1.trans et
  obtain ⟨n0, h0, e0⟩ := R.2.2.2.1.1
  obtain ⟨n1, h1, e1⟩ := R.2.2.2.1.2
  refine xM_go rfl 200 [(51, [0, 1, 2, 3, 4, 5, 6])] fun P hP => ?_
  refine xcall (sp_isChild F v _ (fun a1 => ?_) (fun a1 => ?_))
  · rw [R.n1.2.1] at a1
    refine br_c (fun _ => ?_) (fun z => absurd rfl z)
    refine xcall (sp_errH F v 1 (by decide) ?_)
    exact R.err h _ (if_neg fun z => a1 z.1)
  rw [R.n1.2.1] at a1
  refine br_c (fun z => absurd z (by decide)) (fun _ => ?_)
  refine xcall (sp_isBelow _ _ (fun a2 => ?_) (fun a2 => ?_))
  · refine br_c (fun _ => ?_) (fun z => absurd rfl z)
    refine xcall (sp_errH F v 1 (by decide) ?_)
    exact R.err h _ (if_neg fun z => a2 z.2.1)
  have a2 : xin m 6 := a2
  refine br_c (fun z => absurd z (by decide)) (fun _ => ?_)
  refine xcall (sp_isSteps _ (fun a3 => ?_) (fun a3 => ?_))
  · refine br_n (fun z => absurd rfl z) (fun _ => ?_)
    refine xcall (sp_errH F v 1 (by decide) ?_)
    exact R.err h _ (if_neg fun z => a3 z.2.2)
  refine br_n (fun _ => ?_) (fun z => absurd z (by decide))
  have ef : z_take c m s σ = tkA (tkR (tkP c m s σ) (2 ^ nat (σ.1.1 6 0))) := if_pos ⟨a1, a2, a3⟩
  rw [ekt, tk_same hkt ekt] at ef
  obtain ⟨u, hu, rfl, -⟩ := nI_ofx s (n := 10) a3 (by decide)
  have hu : u < 10 := by omega
  obtain ⟨Q, eQ⟩ : ∃ Q : Nat → Bool, Q = fun k => tkH m σ.1.1 k && tkP c m (nI u) σ k := ⟨_, rfl⟩
  rw [← eQ] at ef
  have key : ∀ (d i : Nat) (r : Option Nat) (F' v' : xS), i + d = 2 ^ kt → hG F v F' v' → (∃ M, tH (fun k => F' (37 + k)) (fun k => v' (37 + k)) (va_up σ.1.1 1 M) σ.2.1) → r = tkR Q i → xWP pg_H_take K 51 [(0, .ref 0), (1, .int c), (2, .int m), (3, .int (nI u)), (4, .int (tkp r)), (5, .int (nI (tkn r))), (6, .int (nI i))] [] (xfill F' v' 0 wH0) (0, 0) := by
    intro d
    induction d with
    | zero =>
      intro i r F' v' hi E T er
      have hi : i = 2 ^ kt := hi
      rw [← hi, ← er] at ef
      have e : v' 1 2 = v 1 2 := E.2 1 2 rfl
      refine xWP_go 200 [(51, [0, 1, 2, 3, 4, 5, 6])] fun P hP => ?_
      refine br_c (fun _ => ?_) (fun z => ?_)
      · cases r with
        | none =>
          refine br_c (fun z => ?_) (fun z => ?_)
          · have z : nI 9 ≤ nI 8 := z
            rw [nI_leI (by omega) (by omega)] at z
            omega
          · refine xcall (sp_errH F' v' 2 (by decide) ?_)
            exact R.go h (E.fu rfl) ef
        | some b =>
          have b1 := tk_in i b er.symm
          have b8 := pop8 (k := b) (by omega)
          refine br_c (fun z => ?_) (fun z => ?_)
          · exact R.go h E ef
          · have z : ¬ nI (popN b) ≤ nI 8 := z
            rw [nI_leI (by omega) (by omega)] at z
            omega
      · have z : ¬ (1 : Int32) <<< (v' 1 2 &&& 31) ≤ nI i := z
        rw [e, e12, eN, nI_leI (by omega) (by omega)] at z
        omega
    | succ d ih =>
      intro i r F' v' hi E T er
      have e : v' 1 2 = v 1 2 := E.2 1 2 rfl
      have i256 : i < 256 := by omega
      have p8 := pop8 i256
      have t9 : tkn r ≤ 9 := by
        cases r with
        | none => exact Nat.le_refl _
        | some b =>
          have b1 := tk_in i b er.symm
          have b8 := pop8 (k := b) (by omega)
          show popN b ≤ 9
          omega
      have RE := R.keep E
      have es : tkR Q (i + 1) = if popN i < tkn r ∧ Q i = true then some i else r := by rw [er]; rfl
      have eQi : Q i = (tkH m σ.1.1 i && tkP c m (nI u) σ i) := by rw [eQ]
      have no : ∀ (F2 v2 : xS), hG F' v' F2 v2 → (∃ M, tH (fun k => F2 (37 + k)) (fun k => v2 (37 + k)) (va_up σ.1.1 1 M) σ.2.1) → ¬ (popN i < tkn r ∧ Q i = true) → xWP pg_H_take K 51 [(0, .ref 0), (1, .int c), (2, .int m), (3, .int (nI u)), (4, .int (tkp r)), (5, .int (nI (tkn r))), (6, .int (nI i + 1))] [] (xfill F2 v2 0 wH0) (0, 0) := by
        intro F2 v2 E2 T2 z
        rw [nI_1]
        exact ih (i + 1) r F2 v2 (by omega) (E.tr E2) T2 (by rw [es, if_neg z])
      refine xWP_go 200 [(51, [0, 1, 2, 3, 4, 5, 6])] fun P hP => ?_
      refine br_c (fun z => ?_) (fun _ => ?_)
      · have z : (1 : Int32) <<< (v' 1 2 &&& 31) ≤ nI i := z
        rw [e, e12, eN, nI_leI (by omega) (by omega)] at z
        omega
      refine xcall (sx_bitCount _ i rfl i256 ?_)
      refine br_c (fun z => ?_) (fun z => ?_)
      · have z : nI (tkn r) ≤ nI (popN i) := z
        rw [nI_leI (by omega) (by omega)] at z
        refine hP _ _ _ _ _ ?_
        exact no F' v' tR.rf T (fun y => by have := y.1; omega)
      have z : ¬ nI (tkn r) ≤ nI (popN i) := z
      rw [nI_leI (by omega) (by omega)] at z
      refine xcall (sx_allHave (fun k => F' (1 + k)) (fun k => v' (1 + k)) σ.1.1 σ.2.1 RE.t R.c i i256 m (fun y => ?_) (fun y => ?_))
      · refine br_c (fun _ => ?_) (fun z => absurd rfl z)
        refine hP _ _ _ _ _ ?_
        exact no F' v' tR.rf T (fun x => by have q := x.2; rw [eQi, y, Bool.false_and] at q; exact Bool.false_ne_true q)
      refine br_c (fun z => absurd z (by decide)) (fun _ => ?_)
      refine xcall (sx_hadWithout F' v' σ.1.1 σ.2.1 RE.t T R.c i c m u hu (fun x F2 v2 E2 T2 => ?_) (fun x F2 v2 E2 T2 => ?_))
      · refine br_c (fun _ => ?_) (fun z => absurd rfl z)
        refine hP _ _ _ _ _ ?_
        exact no F2 v2 E2 T2 (fun w => by have q := w.2; rw [eQi, y, Bool.true_and] at q; exact x (of_decide_eq_true q))
      · refine br_c (fun z => absurd z (by decide)) (fun _ => ?_)
        refine hP _ _ _ _ _ ?_
        have q : Q i = true := by rw [eQi, y, Bool.true_and]; exact decide_eq_true x
        rw [nI_1]
        exact ih (i + 1) (some i) F2 v2 (by omega) (E.tr E2) T2 (by rw [es, if_pos ⟨by omega, q⟩])
  refine xcall (sp_copy (thF F) (thF v) n0 n1 h0 h1 e0 e1 ?_)
  refine hP _ _ _ _ _ ?_
  have TC := R.t.copy R.c h0 h1 e0 e1
  exact key (2 ^ kt) 0 none (upS 37 F (cpF (thF F) n0 n1)) (upS 37 v (cpV (thF v) n0 n1)) (by omega) hG.up37 ⟨σ.1.1 1, TC⟩ rfl
-- the reference
set_option maxRecDepth 100000 in
theorem MX_take (n : Nat) (σ : xZ) (F v : xS) (R : MR n σ F v) (c m s : Int32) {K : xKo} (h : mK n σ (z_take c m s σ) K) : C_M_take [.ref 0, .int c, .int m, .int s] (xfill F v 0 (wM0 0)) K := by
  obtain ⟨kt, hkt, et⟩ : below 8 (σ.1.1 6 0) := R.c.1.1
  have ekt : nat (σ.1.1 6 0) = kt := by rw [et]; exact nI_clamp (by omega)
  obtain ⟨pN, eN⟩ := pow8 hkt
  have e13 : F 1 3 = nI kt := R.n1.1.trans et
  refine xM_go rfl 200 [(35, [0, 1, 2, 3, 4, 5]), (66, [0, 1, 2, 3, 4, 5])] fun P hP => ?_
  refine xcall (sp_isChildM F v _ R.J.1.1.2.1 (fun a1 => ?_) (fun a1 => ?_))
  · rw [R.n1.2.1] at a1
    refine br_c (fun _ => ?_) (fun z => absurd rfl z)
    refine xcall (sp_errM F v (-1000000001) 1 (by decide) (by decide) ?_)
    exact R.err h _ (if_neg fun z => a1 z.1)
  rw [R.n1.2.1] at a1
  refine br_c (fun z => absurd z (by decide)) (fun _ => ?_)
  refine xcall (sp_isMark _ (fun a2 => ?_) (fun a2 => ?_))
  · refine br_c (fun _ => ?_) (fun z => absurd rfl z)
    refine xcall (sp_errM F v (-1000000001) 1 (by decide) (by decide) ?_)
    exact R.err h _ (if_neg fun z => a2 z.2.1)
  refine br_c (fun z => absurd z (by decide)) (fun _ => ?_)
  refine xcall (sp_areSteps _ (fun a3 => ?_) (fun a3 => ?_))
  · refine br_n (fun z => absurd rfl z) (fun _ => ?_)
    refine xcall (sp_errM F v (-1000000001) 1 (by decide) (by decide) ?_)
    exact R.err h _ (if_neg fun z => a3 z.2.2)
  refine br_n (fun _ => ?_) (fun z => absurd z (by decide))
  have ef : z_take c m s σ = tkA (tkR (tkP c m s σ) (2 ^ nat (σ.1.1 6 0))) := if_pos ⟨a1, a2, a3⟩
  rw [ekt] at ef
  obtain ⟨u, hu, rfl, -⟩ := nI_ofx s (n := 10) a3 (by decide)
  have hu : u < 10 := by omega
  obtain ⟨Q, eQ⟩ : ∃ Q : Nat → Bool, Q = tkP c m (nI u) σ := ⟨_, rfl⟩
  rw [← eQ] at ef
  have key : ∀ (d i : Nat) (r : Option Nat) (F' v' : xS), i + d = 2 ^ kt → (∀ k, k = 1 ∨ k = 3 ∨ k = 4 ∨ k = 5 ∨ F' k = F k) → (∀ j, j < 230 → F' 1 j = F 1 j) → (∀ j, (7 ≤ j ∧ j < 16) ∨ v' 0 j = v 0 j) → r = tkR Q i → xWP pg_M_take K 35 [(0, .ref 0), (1, .int c), (2, .int m), (3, .int (nI u)), (4, .int (tkb r)), (5, .int (nI i))] [] (xfill F' v' 0 (wM0 0)) (0, 0) := by
    intro d
    induction d with
    | zero =>
      intro i r F' v' hi g1 g2 g3 er
      have hi : i = 2 ^ kt := hi
      rw [← hi, ← er] at ef
      have e3 : F' 1 (Int32.toNatClampNeg 3) = nI kt := by rw [nq3, g2 3 (by omega)]; exact e13
      have E2 : mR r0 F v F' (va_up v' 0 (va_up (v' 0) 15 0)) := by
        refine ⟨g1, fun j hj _ => g2 j hj, fun j => ?_⟩
        by_cases e : j = 15
        · subst e
          exact Or.inr R.tk.symm
        · have q : va_up v' 0 (va_up (v' 0) 15 0) 0 j = v' 0 j := if_neg e
          rw [q]
          rcases g3 j with d | d
          · exact Or.inl ⟨d.1, by omega⟩
          · exact Or.inr d
      refine xWP_go 200 [(35, [0, 1, 2, 3, 4, 5]), (66, [0, 1, 2, 3, 4, 5])] fun P hP => ?_
      refine ⟨vin (by decide), ?_⟩
      refine br_c (fun _ => ?_) (fun z => ?_)
      · cases r with
        | none =>
          refine br_c (fun z => absurd z (by decide)) (fun _ => ?_)
          refine xcall (sp_errM F' (va_up v' 0 (va_up (v' 0) 15 0)) (-1000000002) 2 (by decide) (by decide) ?_)
          exact R.go h (E2.f3 (Or.inr (Or.inr rfl))) ef
        | some b =>
          have b1 := tk_in i b er.symm
          refine br_c (fun _ => ?_) (fun z => ?_)
          · exact R.go h E2 ef
          · have z : ¬ 0 ≤ nI b := z
            exact absurd (nI_pos' (by omega)) z
      · have z : ¬ (1 : Int32) <<< (F' 1 (Int32.toNatClampNeg 3) &&& 31) ≤ nI i := z
        rw [e3, eN, nI_leI (by omega) (by omega)] at z
        omega
    | succ d ih =>
      intro i r F' v' hi g1 g2 g3 er
      have e3 : F' 1 (Int32.toNatClampNeg 3) = nI kt := by rw [nq3, g2 3 (by omega)]; exact e13
      have i256 : i < 256 := by omega
      have p8 := pop8 i256
      have es : tkR Q (i + 1) = if popN i < tkn r ∧ Q i = true then some i else r := by rw [er]; rfl
      have eQi : Q i = tkP c m (nI u) σ i := by rw [eQ]
      have T1 : tM (F' 1) σ.1.1 σ.2.1 := R.t.of R.c.1.1 R.c.1.2 g2
      refine xWP_go 200 [(35, [0, 1, 2, 3, 4, 5]), (66, [0, 1, 2, 3, 4, 5])] fun P hP => ?_
      refine ⟨vin (by decide), ?_⟩
      refine br_c (fun z => ?_) (fun _ => ?_)
      · have z : (1 : Int32) <<< (F' 1 (Int32.toNatClampNeg 3) &&& 31) ≤ nI i := z
        rw [e3, eN, nI_leI (by omega) (by omega)] at z
        omega
      have k66 : popN i < tkn r → xWP pg_M_take K 66 [(0, .ref 0), (1, .int c), (2, .int m), (3, .int (nI u)), (4, .int (tkb r)), (5, .int (nI i))] [] (xfill F' v' 0 (wM0 0)) (0, 0) := by
        intro lt
        refine xWP_go 200 [(35, [0, 1, 2, 3, 4, 5])] fun P hP => ?_
        refine xcall (sx_wouldBe F' (va_up v' 0 (va_up (v' 0) 15 (nI i))) σ.1.1 σ.2.1 T1 R.c m u hu (fun F2 v2 E2 => ?_))
        have f1 : ∀ k, k = 1 ∨ k = 3 ∨ k = 4 ∨ k = 5 ∨ F2 k = F k := by
          intro k
          rcases E2.1 k with e | e | e | e | e
          · exact Or.inl e
          · exact Or.inr (Or.inl e)
          · exact Or.inr (Or.inr (Or.inl e))
          · exact Or.inr (Or.inr (Or.inr (Or.inl e)))
          · rcases g1 k with d | d | d | d | d
            · exact Or.inl d
            · exact Or.inr (Or.inl d)
            · exact Or.inr (Or.inr (Or.inl d))
            · exact Or.inr (Or.inr (Or.inr (Or.inl d)))
            · exact Or.inr (Or.inr (Or.inr (Or.inr (e.trans d))))
        have f2 : ∀ j, j < 230 → F2 1 j = F 1 j := fun j hj => (E2.2.1 j hj rfl).trans (g2 j hj)
        have f3 : ∀ j, (7 ≤ j ∧ j < 16) ∨ v2 0 j = v 0 j := by
          intro j
          by_cases e : j = 15
          · exact Or.inl ⟨by omega, by omega⟩
          · rcases E2.2.2 j with d | d
            · exact Or.inl ⟨d.1, by omega⟩
            · have q : va_up v' 0 (va_up (v' 0) 15 (nI i)) 0 j = v' 0 j := if_neg e
              rw [q] at d
              rcases g3 j with y | y
              · exact Or.inl y
              · exact Or.inr (d.trans y)
        refine br_n (fun y => ?_) (fun y => ?_)
        · have y : ¬ mk (eSet (sm (nI i) σ.1.1) σ.2.1 m (nI u)) c := y
          have q : ¬ (popN i < tkn r ∧ Q i = true) := fun z => by have w := z.2; rw [eQi] at w; exact y (of_decide_eq_true w)
          refine hP _ _ _ _ _ ?_
          rw [nI_1]
          exact ih (i + 1) r F2 v2 (by omega) f1 f2 f3 (by rw [es, if_neg q])
        · have y : mk (eSet (sm (nI i) σ.1.1) σ.2.1 m (nI u)) c := y
          have q : Q i = true := by rw [eQi]; exact decide_eq_true y
          refine hP _ _ _ _ _ ?_
          rw [nI_1]
          exact ih (i + 1) (some i) F2 v2 (by omega) f1 f2 f3 (by rw [es, if_pos ⟨lt, q⟩])
      cases r with
      | none =>
        refine br_c (fun _ => hP _ _ _ _ _ (k66 (by show popN i < 9; omega))) (fun z => absurd (by decide) z)
      | some b =>
        have b1 := tk_in i b er.symm
        have b8 := pop8 (k := b) (by omega)
        refine br_c (fun z => ?_) (fun _ => ?_)
        · have z : nI b < 0 := z
          rw [xlt, nI_toInt (by omega), show (0 : Int32).toInt = 0 by decide] at z
          omega
        refine xcall (sx_bits _ i rfl i256 ?_)
        refine xcall (sx_bits _ b rfl (by omega) ?_)
        refine br_c (fun z => ?_) (fun z => ?_)
        · have z : nI (popN b) ≤ nI (popN i) := z
          rw [nI_leI (by omega) (by omega)] at z
          have q : ¬ (popN i < tkn (some b) ∧ Q i = true) := fun y => by have w : popN i < popN b := y.1; omega
          refine hP _ _ _ _ _ ?_
          rw [nI_1]
          exact ih (i + 1) (some b) F' v' (by omega) g1 g2 g3 (by rw [es, if_neg q])
        · have z : ¬ nI (popN b) ≤ nI (popN i) := z
          rw [nI_leI (by omega) (by omega)] at z
          exact hP _ _ _ _ _ (k66 (by show popN i < popN b; omega))
  refine hP _ _ _ _ _ ?_
  exact key (2 ^ kt) 0 none F v (by omega) (fun _ => Or.inr (Or.inr (Or.inr (Or.inr rfl)))) (fun _ _ => rfl) (fun _ => Or.inr rfl) rfl
