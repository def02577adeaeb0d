/-! ===== searches by marks: what they find ===== -/
def popN (k : Nat) : Nat := k % 2 + k / 2 % 2 + k / 4 % 2 + k / 8 % 2 + k / 16 % 2 + k / 32 % 2 + k / 64 % 2 + k / 128 % 2
def ushr (x s : Int32) : Int32 := (x.toUInt32 >>> (s.toUInt32 &&& Int32.toUInt32 31)).toInt32
def bc1 (x : Int32) : Int32 := x - (ushr x 1 &&& 1431655765)
def bc2 (x : Int32) : Int32 := (x &&& 858993459) + (ushr x 2 &&& 858993459)
def bc3 (x : Int32) : Int32 := (x + ushr x 4) &&& 252645135
def bc4 (x : Int32) : Int32 := x + ushr x 8
def bc5 (x : Int32) : Int32 := x + ushr x 16
def bcV (x : Int32) : Int32 := bc5 (bc4 (bc3 (bc2 (bc1 x)))) &&& 63
theorem bc_pop {k : Nat} (h : k < 256) : bcV (nI k) = nI (popN k) := by
  have q : ∀ k : Fin 256, bcV (nI k.val) = nI (popN k.val) := by decide +kernel
  exact q ⟨k, h⟩
theorem sx_bitCount (a : Int32) (k : Nat) (ea : a = nI k) (h : k < 256) {K : xKo} (hk : K (some (.int (nI (popN k)))) []) : C_I_bitCount [.int a] [] K := by
  subst ea
  rw [← bc_pop h] at hk
  refine xM_go rfl 60 [] fun P hP => ?_
  exact hk
theorem and_pop {k : Nat} (h : k < 256) (h0 : 0 < k) : ∃ j, j < k ∧ nI k &&& (nI k - 1) = nI j ∧ popN j + 1 = popN k := by
  have q : ∀ k : Fin 256, 0 < k.val → ∃ j : Fin 256, j.val < k.val ∧ nI k.val &&& (nI k.val - 1) = nI j.val ∧ popN j.val + 1 = popN k.val := by decide +kernel
  obtain ⟨j, a, b, c⟩ := q ⟨k, h⟩ h0
  exact ⟨j.val, a, b, c⟩
theorem sx_bits (a : Int32) (k : Nat) (ea : a = nI k) (h : k < 256) {K : xKo} (hk : K (some (.int (nI (popN k)))) []) : C_M_bits [.int a] [] K := by
  subst ea
  have key : ∀ (m j n : Nat), j ≤ m → j < 256 → n + popN j = popN k → xWP pg_M_bits K 4 [(0, .int (nI k)), (1, .int (nI n)), (2, .int (nI j))] [] [] (0, 0) := by
    intro m
    induction m with
    | zero =>
      intro j n hj _ e
      have j0 : j = 0 := by omega
      subst j0
      refine xWP_go 100 [(4, [0, 1, 2])] fun P hP => ?_
      refine br_c (fun _ => ?_) (fun z => absurd rfl z)
      have e : n = popN k := e
      rw [e]
      exact hk
    | succ m ih =>
      intro j n hj l e
      refine xWP_go 100 [(4, [0, 1, 2])] fun P hP => ?_
      by_cases j0 : j = 0
      · subst j0
        refine br_c (fun _ => ?_) (fun z => absurd rfl z)
        have e : n = popN k := e
        rw [e]
        exact hk
      · refine br_c (fun z => absurd z (nI_ne0 (by omega) (by omega))) (fun _ => ?_)
        obtain ⟨i, i1, i2, i3⟩ := and_pop l (by omega)
        refine hP _ _ _ _ _ ?_
        rw [nI_1]
        have q := ih i (n + 1) (by omega) (by omega) (by omega)
        rw [← i2] at q
        exact q
  refine xM_go rfl 60 [(4, [0, 1, 2])] fun P hP => ?_
  refine hP _ _ _ _ _ ?_
  exact key k k 0 (Nat.le_refl _) h (Nat.zero_add _)
theorem pop_le {k : Nat} (h : k < 128) : popN k ≤ 7 := by
  have q : ∀ k : Fin 128, popN k.val ≤ 7 := by decide +kernel
  exact q ⟨k, h⟩
/-- how many would be had -/
def cnN (s : xS) (X : xXt) (b t : Int32) : Nat := popN (stN (eHad s X b t) (nat (s 6 1)))
theorem st128 {s : xS} {X : xXt} (I : cIv s X) {b t : Int32} : stN (eHad s X b t) (nat (s 6 1)) < 128 := by
  have h := bel_nat I.1.2 (by omega)
  have l := stN_lt (h := eHad s X b t) (n := nat (s 6 1))
  have p : 2 ^ nat (s 6 1) ≤ 2 ^ 7 := Nat.pow_le_pow_right (by decide) h
  omega
theorem cnN_le {s : xS} {X : xXt} (I : cIv s X) {b t : Int32} : cnN s X b t ≤ 7 := pop_le (st128 I)
/-- the first of the least -/
def mfL (sc : Nat → Int32) : Nat → Nat → Int32 × Int32 → Int32 × Int32
  | 0, _, r => r
  | d + 1, i, r => mfL sc d (i + 1) (if sc i < r.2 then (nI i, sc i) else r)
def abV (x : Int32) : Int32 := if 0 ≤ x then x else -x
def rnV (s : xS) (X : xXt) : Int32 := if X.2.1 = -1 then s 6 1 else s 6 1 - 1
def sV (a n r : Int32) : Int32 := if a = 0 then -n else if a = 2 then abV (n - (r - n)) else n
def scV (a : Int32) (s : xS) (X : xXt) (t : Int32) (i : Nat) : Int32 := sV a (nI (cnN s X (nI i) t)) (rnV s X)
def z_mark (a t w : Int32) (σ : xZ) : Int32 := if xin t 10 ∧ xin w 2 then (if w = 0 then (mfL (scV a σ.1.1 σ.2.1 t) 6 0 (0, 8)).1 else abV (mfL (scV a σ.1.1 σ.2.1 t) 6 0 (0, 8)).2) else -1000000001
theorem sx_runners (F v s : xS) (X : xXt) (T : tH F v s X) {K : xKo} (h : K (some (.int (rnV s X))) (xfill F v 0 (wT0 0))) : C_T_runners [.ref 0] (xfill F v 0 (wT0 0)) K := by
  unfold rnV at h
  refine xM_go rfl 100 [] fun P hP => ?_
  have e8 := T.1.2.1
  refine br_n (fun a => ?_) (fun a => ?_)
  · have a : ¬ v 0 9 = -1 := a
    rw [T.1.2.2.2] at a
    rw [if_neg a, ← e8] at h
    exact h
  · have a : v 0 9 = -1 := a
    rw [T.1.2.2.2] at a
    rw [if_pos a, ← e8] at h
    exact h
set_option maxRecDepth 100000 in
theorem sx_scoreFor (F v s : xS) (X : xXt) (T : tH (fun k => F (1 + k)) (fun k => v (1 + k)) s X) (a b : Int32) {K : xKo} (h : K (some (.int (sV a b (rnV s X)))) (xfill F v 0 wH0)) : C_H_scoreFor [.ref 0, .int a, .int b] (xfill F v 0 wH0) K := by
  unfold sV at h
  refine xM_go rfl 100 [] fun P hP => ?_
  refine ⟨fun e => ?_, fun e => ?_⟩
  · rw [if_pos e] at h; exact h
  rw [if_neg e] at h
  refine ⟨fun e => ?_, fun e => ?_⟩
  · rw [if_pos e] at h
    refine xcall (sx_runners (fun k => F (1 + k)) (fun k => v (1 + k)) s X T ?_)
    refine xcall (sp_abs _ ?_)
    exact h
  · rw [if_neg e] at h; exact h
set_option maxRecDepth 100000 in
theorem sx_markFor (n : Nat) (σ : xZ) (F v : xS) (R : HR n σ F v) (a s w : Int32) {K : xKo} (h : hK n σ (z_mark a s w σ) K) : C_H_markFor [.ref 0, .int a, .int s, .int w] (xfill F v 0 wH0) K := by
  refine xM_go rfl 200 [(31, [0, 1, 2, 3, 4, 5, 6])] fun P hP => ?_
  refine xcall (sp_isSteps _ (fun a1 => ?_) (fun a1 => ?_))
  · refine br_c (fun _ => ?_) (fun z => absurd rfl z)
    refine xcall (sp_errH F v 1 (by decide) ?_)
    exact R.err h _ (if_neg fun z => a1 z.1)
  refine br_c (fun z => absurd z (by decide)) (fun _ => ?_)
  refine xcall (sp_isBelow _ _ (fun a2 => ?_) (fun a2 => ?_))
  · refine br_n (fun z => absurd rfl z) (fun _ => ?_)
    refine xcall (sp_errH F v 1 (by decide) ?_)
    exact R.err h _ (if_neg fun z => a2 z.2)
  refine br_n (fun _ => ?_) (fun z => absurd z (by decide))
  have ef : z_mark a s w σ = if w = 0 then (mfL (scV a σ.1.1 σ.2.1 s) 6 0 (0, 8)).1 else abV (mfL (scV a σ.1.1 σ.2.1 s) 6 0 (0, 8)).2 := if_pos ⟨a1, a2⟩
  obtain ⟨u, hu, rfl, -⟩ := nI_ofx s (n := 10) a1 (by decide)
  have hu : u < 10 := by omega
  obtain ⟨R0, e0⟩ : ∃ R0, R0 = mfL (scV a σ.1.1 σ.2.1 (nI u)) 6 0 (0, 8) := ⟨_, rfl⟩
  rw [← e0] at ef
  have key : ∀ (d i : Nat) (p : Int32) (q : Int32) (F' v' : xS), i + d = 6 → hG F v F' v' → mfL (scV a σ.1.1 σ.2.1 (nI u)) d i (p, q) = R0 → xWP pg_H_markFor K 31 [(0, .ref 0), (1, .int a), (2, .int (nI u)), (3, .int w), (4, .int p), (5, .int q), (6, .int (nI i))] [] (xfill F' v' 0 wH0) (0, 0) := by
    intro d
    induction d with
    | zero =>
      intro i p q F' v' hi E er
      have er : (p, q) = R0 := er
      rw [← er] at ef
      refine xWP_go 200 [(31, [0, 1, 2, 3, 4, 5, 6])] fun P hP => ?_
      refine br_c (fun _ => ?_) (fun z => ?_)
      · refine br_n (fun y => ?_) (fun y => ?_)
        · rw [if_neg y] at ef
          refine xcall (sp_abs _ ?_)
          exact R.go h E ef
        · rw [if_pos y] at ef
          exact R.go h E ef
      · have z : ¬ nI 6 ≤ nI i := z
        exact absurd (by rw [nI_leI (by omega) (by omega)]; omega) z
    | succ d ih =>
      intro i p q F' v' hi E er
      have er : mfL (scV a σ.1.1 σ.2.1 (nI u)) d (i + 1) (if scV a σ.1.1 σ.2.1 (nI u) i < q then (nI i, scV a σ.1.1 σ.2.1 (nI u) i) else (p, q)) = R0 := er
      refine xWP_go 200 [(31, [0, 1, 2, 3, 4, 5, 6])] fun P hP => ?_
      refine br_c (fun z => ?_) (fun _ => ?_)
      · have z : nI 6 ≤ nI i := z
        rw [nI_leI (by omega) (by omega)] at z
        omega
      have R' := R.keep E
      refine xcall (sx_wouldBeHad (fun k => F' (1 + k)) (fun k => v' (1 + k)) σ.1.1 σ.2.1 R'.t R.c (nI i) u hu (fun G w2 E2 _ => ?_))
      refine xcall (sx_bitCount _ (stN (eHad σ.1.1 σ.2.1 (nI i) (nI u)) (nat (σ.1.1 6 1))) rfl (by have := st128 R.c (b := nI i) (t := nI u); omega) ?_)
      have E3 := E.tr (hG.e1 E2)
      refine xcall (sx_scoreFor (upS 1 F' G) (upS 1 v' w2) σ.1.1 σ.2.1 (R.keep E3).t a _ ?_)
      refine br_c (fun z => ?_) (fun z => ?_)
      · have z : q ≤ scV a σ.1.1 σ.2.1 (nI u) i := z
        rw [if_neg (fun y => by rw [xlt] at y; rw [xle] at z; omega)] at er
        refine hP _ _ _ _ _ ?_
        rw [nI_1]
        exact ih (i + 1) _ _ (upS 1 F' G) (upS 1 v' w2) (by omega) E3 er
      · have z : ¬ q ≤ scV a σ.1.1 σ.2.1 (nI u) i := z
        rw [if_pos (by rw [xlt]; rw [xle] at z; omega)] at er
        refine hP _ _ _ _ _ ?_
        rw [nI_1]
        exact ih (i + 1) _ _ (upS 1 F' G) (upS 1 v' w2) (by omega) E3 er
  refine hP _ _ _ _ _ ?_
  exact key 6 0 _ _ F v (by omega) tR.rf e0.symm
set_option maxRecDepth 100000 in
theorem HX_worst (n : Nat) (σ : xZ) (F v : xS) (R : HR n σ F v) (s w : Int32) {K : xKo} (h : hK n σ (z_mark 0 s w σ) K) : C_H_worst [.ref 0, .int s, .int w] (xfill F v 0 wH0) K := by
  refine xM_go rfl 100 [] fun P hP => ?_
  exact xcall (sx_markFor n σ F v R 0 s w h)
set_option maxRecDepth 100000 in
theorem HX_best (n : Nat) (σ : xZ) (F v : xS) (R : HR n σ F v) (s w : Int32) {K : xKo} (h : hK n σ (z_mark 1 s w σ) K) : C_H_best [.ref 0, .int s, .int w] (xfill F v 0 wH0) K := by
  refine xM_go rfl 100 [] fun P hP => ?_
  exact xcall (sx_markFor n σ F v R 1 s w h)
set_option maxRecDepth 100000 in
theorem HX_parts (n : Nat) (σ : xZ) (F v : xS) (R : HR n σ F v) (s w : Int32) {K : xKo} (h : hK n σ (z_mark 2 s w σ) K) : C_H_parts [.ref 0, .int s, .int w] (xfill F v 0 wH0) K := by
  refine xM_go rfl 100 [] fun P hP => ?_
  exact xcall (sx_markFor n σ F v R 2 s w h)
-- the steps by which nobody would be had
def stpL (s : xS) (X : xXt) (m : Int32) : Nat → Nat → Int32
  | 0, _ => -1000000002
  | d + 1, i => if eSet s X m (nI i) = 0 then nI i else stpL s X m d (i + 1)
def z_steps (m : Int32) (σ : xZ) : Int32 := if xin m 6 then stpL σ.1.1 σ.2.1 m 10 0 else -1000000001
set_option maxRecDepth 100000 in
theorem HX_steps (n : Nat) (σ : xZ) (F v : xS) (R : HR n σ F v) (m : Int32) {K : xKo} (h : hK n σ (z_steps m σ) K) : C_H_steps [.ref 0, .int m] (xfill F v 0 wH0) K := by
  refine xM_go rfl 200 [(17, [0, 1, 2])] fun P hP => ?_
  refine xcall (sp_isBelow _ _ (fun a1 => ?_) (fun a1 => ?_))
  · refine br_n (fun z => absurd rfl z) (fun _ => ?_)
    refine xcall (sp_errH F v 1 (by decide) ?_)
    exact R.err h _ (if_neg a1)
  refine br_n (fun _ => ?_) (fun z => absurd z (by decide))
  have ef : z_steps m σ = stpL σ.1.1 σ.2.1 m 10 0 := if_pos a1
  have key : ∀ (d i : Nat) (F' v' : xS), i + d = 10 → hG F v F' v' → stpL σ.1.1 σ.2.1 m d i = stpL σ.1.1 σ.2.1 m 10 0 → xWP pg_H_steps K 17 [(0, .ref 0), (1, .int m), (2, .int (nI i))] [] (xfill F' v' 0 wH0) (0, 0) := by
    intro d
    induction d with
    | zero =>
      intro i F' v' hi E er
      refine xWP_go 200 [(17, [0, 1, 2])] fun P hP => ?_
      refine br_c (fun _ => ?_) (fun z => ?_)
      · refine xcall (sp_errH F' v' 2 (by decide) ?_)
        exact R.go h (E.fu rfl) (ef.trans er.symm)
      · have z : ¬ nI 9 < nI i := z
        exact absurd (by rw [nI_ltI (by omega) (by omega)]; omega) z
    | succ d ih =>
      intro i F' v' hi E er
      have er : (if eSet σ.1.1 σ.2.1 m (nI i) = 0 then nI i else stpL σ.1.1 σ.2.1 m d (i + 1)) = stpL σ.1.1 σ.2.1 m 10 0 := er
      refine xWP_go 200 [(17, [0, 1, 2])] fun P hP => ?_
      refine br_c (fun z => ?_) (fun _ => ?_)
      · have z : nI 9 < nI i := z
        rw [nI_ltI (by omega) (by omega)] at z
        omega
      refine xcall (sx_wouldBeHad (fun k => F' (1 + k)) (fun k => v' (1 + k)) σ.1.1 σ.2.1 (R.keep E).t R.c m i (by omega) (fun G w E2 _ => ?_))
      have E3 := E.tr (hG.e1 E2)
      refine br_n (fun y => ?_) (fun y => ?_)
      · rw [if_neg y] at er
        refine hP _ _ _ _ _ ?_
        rw [nI_1]
        exact ih (i + 1) (upS 1 F' G) (upS 1 v' w) (by omega) E3 er
      · rw [if_pos y] at er
        exact R.go h (F' := upS 1 F' G) (v' := upS 1 v' w) E3 (ef.trans er.symm)
  refine hP _ _ _ _ _ ?_
  exact key 10 0 F v (by omega) tR.rf rfl
-- the marks by which just a set would be had
def z_called (c t : Int32) (σ : xZ) : Int32 := if xin c ((1 : Int32) <<< (σ.1.1 6 1 &&& 31)).toInt ∧ xin t 10 then nI (stN (fun b => decide (eSet σ.1.1 σ.2.1 (nI b) t = c)) 6) else -1000000001
set_option maxRecDepth 100000 in
theorem HX_called (n : Nat) (σ : xZ) (F v : xS) (R : HR n σ F v) (c s : Int32) {K : xKo} (h : hK n σ (z_called c s σ) K) : C_H_called [.ref 0, .int c, .int s] (xfill F v 0 wH0) K := by
  refine xM_go rfl 200 [(34, [0, 1, 2, 3, 4])] fun P hP => ?_
  refine xcall (sp_isBelow _ _ (fun a1 => ?_) (fun a1 => ?_))
  · have a1 : ¬ xin c ((1 : Int32) <<< (v 1 8 &&& 31)).toInt := a1
    rw [R.n1.2.1] at a1
    refine br_c (fun _ => ?_) (fun z => absurd rfl z)
    refine xcall (sp_errH F v 1 (by decide) ?_)
    exact R.err h _ (if_neg fun z => a1 z.1)
  have a1 : xin c ((1 : Int32) <<< (v 1 8 &&& 31)).toInt := a1
  rw [R.n1.2.1] at a1
  refine br_c (fun z => absurd z (by decide)) (fun _ => ?_)
  refine xcall (sp_isSteps _ (fun a2 => ?_) (fun a2 => ?_))
  · refine br_n (fun z => absurd rfl z) (fun _ => ?_)
    refine xcall (sp_errH F v 1 (by decide) ?_)
    exact R.err h _ (if_neg fun z => a2 z.2)
  refine br_n (fun _ => ?_) (fun z => absurd z (by decide))
  have ef : z_called c s σ = nI (stN (fun b => decide (eSet σ.1.1 σ.2.1 (nI b) s = c)) 6) := if_pos ⟨a1, a2⟩
  obtain ⟨u, hu, rfl, -⟩ := nI_ofx s (n := 10) a2 (by decide)
  have hu : u < 10 := by omega
  obtain ⟨H, eH⟩ : ∃ H : Nat → Bool, H = fun b => decide (eSet σ.1.1 σ.2.1 (nI b) (nI u) = c) := ⟨_, rfl⟩
  rw [← eH] at ef
  have key : ∀ (d i : Nat) (F' v' : xS), i + d = 6 → hG F v F' v' → xWP pg_H_called K 34 [(0, .ref 0), (1, .int c), (2, .int (nI u)), (3, .int (nI (stN H i))), (4, .int (nI i))] [] (xfill F' v' 0 wH0) (0, 0) := by
    intro d
    induction d with
    | zero =>
      intro i F' v' hi E
      have hi : i = 6 := hi
      subst hi
      refine xWP_go 200 [(34, [0, 1, 2, 3, 4])] fun P hP => ?_
      refine br_c (fun _ => ?_) (fun z => ?_)
      · exact R.go h E ef
      · have z : ¬ nI 6 ≤ nI 6 := z
        exact absurd (nI_le (Nat.le_refl _) (by omega)) z
    | succ d ih =>
      intro i F' v' hi E
      have est : stN H (i + 1) = if H i then stN H i + 2 ^ i else stN H i := rfl
      have eHi : H i = decide (eSet σ.1.1 σ.2.1 (nI i) (nI u) = c) := by rw [eH]
      refine xWP_go 200 [(34, [0, 1, 2, 3, 4])] fun P hP => ?_
      refine br_c (fun z => ?_) (fun _ => ?_)
      · have z : nI 6 ≤ nI i := z
        rw [nI_leI (by omega) (by omega)] at z
        omega
      refine xcall (sx_wouldBeHad (fun k => F' (1 + k)) (fun k => v' (1 + k)) σ.1.1 σ.2.1 (R.keep E).t R.c (nI i) u hu (fun G w E2 _ => ?_))
      have E3 := E.tr (hG.e1 E2)
      have nx := ih (i + 1) (upS 1 F' G) (upS 1 v' w) (by omega) E3
      refine br_n (fun y => ?_) (fun y => ?_)
      · rw [est, eHi, decide_eq_false y, if_neg Bool.false_ne_true] at nx
        refine hP _ _ _ _ _ ?_
        rw [nI_1]
        exact nx
      · rw [est, eHi, decide_eq_true y, if_pos rfl, ← st_or (by omega) stN_lt] at nx
        refine hP _ _ _ _ _ ?_
        rw [nI_1]
        exact nx
  refine hP _ _ _ _ _ ?_
  exact key 6 0 F v (by omega) tR.rf
-- who would be had by no call
def nvL (s : xS) (X : xXt) (t : Int32) : Nat → Nat → Int32 → Int32
  | 0, _, q => q
  | d + 1, i, q => nvL s X t d (i + 1) (q &&& (eSet s X (nI i) t ^^^ -1))
def z_never (t : Int32) (σ : xZ) : Int32 := if xin t 10 then nvL σ.1.1 σ.2.1 t 6 0 (((1 : Int32) <<< (σ.1.1 6 1 &&& 31)) - 1) else -1000000001
set_option maxRecDepth 100000 in
theorem HX_never (n : Nat) (σ : xZ) (F v : xS) (R : HR n σ F v) (s : Int32) {K : xKo} (h : hK n σ (z_never s σ) K) : C_H_never [.ref 0, .int s] (xfill F v 0 wH0) K := by
  refine xM_go rfl 200 [(27, [0, 1, 2, 3])] fun P hP => ?_
  refine xcall (sp_isSteps _ (fun a1 => ?_) (fun a1 => ?_))
  · refine br_n (fun z => absurd rfl z) (fun _ => ?_)
    refine xcall (sp_errH F v 1 (by decide) ?_)
    exact R.err h _ (if_neg a1)
  refine br_n (fun _ => ?_) (fun z => absurd z (by decide))
  have ef : z_never s σ = nvL σ.1.1 σ.2.1 s 6 0 (((1 : Int32) <<< (σ.1.1 6 1 &&& 31)) - 1) := if_pos a1
  obtain ⟨u, hu, rfl, -⟩ := nI_ofx s (n := 10) a1 (by decide)
  have hu : u < 10 := by omega
  have key : ∀ (d i : Nat) (p : Int32) (F' v' : xS), i + d = 6 → hG F v F' v' → z_never (nI u) σ = nvL σ.1.1 σ.2.1 (nI u) d i p → xWP pg_H_never K 27 [(0, .ref 0), (1, .int (nI u)), (2, .int p), (3, .int (nI i))] [] (xfill F' v' 0 wH0) (0, 0) := by
    intro d
    induction d with
    | zero =>
      intro i p F' v' hi E er
      refine xWP_go 200 [(27, [0, 1, 2, 3])] fun P hP => ?_
      refine br_c (fun _ => ?_) (fun z => ?_)
      · exact R.go h E er
      · have z : ¬ nI 6 ≤ nI i := z
        exact absurd (by rw [nI_leI (by omega) (by omega)]; omega) z
    | succ d ih =>
      intro i p F' v' hi E er
      refine xWP_go 200 [(27, [0, 1, 2, 3])] fun P hP => ?_
      refine br_c (fun z => ?_) (fun _ => ?_)
      · have z : nI 6 ≤ nI i := z
        rw [nI_leI (by omega) (by omega)] at z
        omega
      refine xcall (sx_wouldBeHad (fun k => F' (1 + k)) (fun k => v' (1 + k)) σ.1.1 σ.2.1 (R.keep E).t R.c (nI i) u hu (fun G w E2 _ => ?_))
      refine hP _ _ _ _ _ ?_
      rw [nI_1]
      exact ih (i + 1) _ (upS 1 F' G) (upS 1 v' w) (by omega) (E.tr (hG.e1 E2)) er
  refine hP _ _ _ _ _ ?_
  refine key 6 0 _ F v (by omega) tR.rf (ef.trans ?_)
  rw [← R.n1.2.1]
