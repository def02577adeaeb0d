/-! ===== the tried side: who would be had, and a call played, exactly ===== -/
set_option maxRecDepth 100000 in
theorem sx_crowdIn (F v s : xS) (X : xXt) (T : tH F v s X) (I : cIv s X) (E : Nat → Int32) (hE : ∀ j, j < nat (s 6 1) → F 17 j = E j) (cell : Int32) {K : xKo} (h : K (some (.int (crL X.2.1 cell E (nat (s 6 1)) 0 0))) (xfill F v 0 (wT0 0))) : C_T_crowdIn [.ref 0, .int cell] (xfill F v 0 (wT0 0)) K := by
  obtain ⟨n, hn, en⟩ := I.1.2
  have enn : nat (s 6 1) = n := by rw [en]; exact nI_clamp (by omega)
  have e8 : v 0 8 = nI n := T.1.2.1.trans en
  have e9 : v 0 9 = X.2.1 := T.1.2.2.2
  have key : ∀ (d i : Nat) (g : Int32), i + d = n → K (some (.int (crL X.2.1 cell E d i g))) (xfill F v 0 (wT0 0)) → xWP pg_T_crowdIn K 4 [(0, .ref 0), (1, .int cell), (2, .int g), (3, .int (nI i))] [] (xfill F v 0 (wT0 0)) (0, 0) := by
    intro d
    induction d with
    | zero =>
      intro i g hi hk
      have hi : i = n := hi
      subst hi
      refine xWP_go 100 [(4, [0, 1, 2, 3])] fun P hP => ?_
      refine br_c (fun _ => hk) (fun z => absurd (by show v 0 8 ≤ nI i; rw [e8]; exact nI_le (Nat.le_refl _) (by omega)) z)
    | succ d ih =>
      intro i g hi hk
      have eq : crL X.2.1 cell E (d + 1) i g = crL X.2.1 cell E d (i + 1) (if nI i = X.2.1 then g else if E i = cell then g + 1 else g) := rfl
      rw [eq] at hk
      have ei : Int32.toNatClampNeg (nI i) = i := nI_clamp (by omega)
      have e17 : F 17 (Int32.toNatClampNeg (nI i)) = E i := by rw [ei]; exact hE i (by omega)
      refine xWP_go 100 [(4, [0, 1, 2, 3])] fun P hP => ?_
      refine br_c (fun z => ?_) (fun _ => ?_)
      · have z : v 0 8 ≤ nI i := z
        rw [e8] at z
        exact absurd z (nI_ge (by omega) (by omega))
      have nx : ∀ g : Int32, K (some (.int (crL X.2.1 cell E d (i + 1) g))) (xfill F v 0 (wT0 0)) → xWP pg_T_crowdIn K 4 [(0, .ref 0), (1, .int cell), (2, .int g), (3, .int (nI i + 1))] [] (xfill F v 0 (wT0 0)) (0, 0) := by
        intro g hk2
        rw [nI_1]
        exact ih (i + 1) g (by omega) hk2
      refine br_c (fun a => ?_) (fun a => ?_)
      · have a : nI i = v 0 9 := a
        rw [e9] at a
        rw [if_pos a] at hk
        refine hP _ _ _ _ _ ?_
        exact nx _ hk
      have a : ¬ nI i = v 0 9 := a
      rw [e9] at a
      rw [if_neg a] at hk
      refine ⟨vp_in_nI (by omega) (by omega), ?_⟩
      refine br_n (fun b => ?_) (fun b => ?_)
      · have b : ¬ F 17 (Int32.toNatClampNeg (nI i)) = cell := b
        rw [e17] at b
        rw [if_neg b] at hk
        refine hP _ _ _ _ _ ?_
        exact nx _ hk
      · have b : F 17 (Int32.toNatClampNeg (nI i)) = cell := b
        rw [e17] at b
        rw [if_pos b] at hk
        refine hP _ _ _ _ _ ?_
        exact nx _ hk
  rw [enn] at h
  refine xM_go rfl 100 [(4, [0, 1, 2, 3])] fun P hP => ?_
  refine hP _ _ _ _ _ ?_
  exact key n 0 0 (by omega) h
set_option maxRecDepth 100000 in
theorem sx_isHeld (F v s : xS) (X : xXt) (T : tH F v s X) (I : cIv s X) (E : Nat → Int32) (hE : ∀ j, j < nat (s 6 1) → F 17 j = E j) (cell m : Int32) {K : xKo} (h : ∀ F' v', tR aG bE F v F' v' → K (some (.int (eHeld s X E cell m))) (xfill F' v' 0 (wT0 0))) : C_T_isHeld [.ref 0, .int cell, .int m] (xfill F v 0 (wT0 0)) K := by
  obtain ⟨n, hn, en⟩ := I.1.1
  have enn : nat (s 6 0) = n := by rw [en]; exact nI_clamp (by omega)
  have e2 : v 0 2 = nI n := T.1.1.trans en
  unfold eHeld at h
  obtain ⟨cr, ecr⟩ : ∃ cr, cr = crL X.2.1 cell E (nat (s 6 1)) 0 0 := ⟨_, rfl⟩
  rw [← ecr, enn] at h
  have key : ∀ (d i : Nat), i + d = n → (∀ F' v', tR aG bE F v F' v' → K (some (.int (hdL s (X.2.2 1) cr cell m d i))) (xfill F' v' 0 (wT0 0))) → xWP pg_T_isHeld K 2 [(0, .ref 0), (1, .int cell), (2, .int m), (3, .int (nI i))] [] (xfill F v 0 (wT0 0)) (0, 0) := by
    intro d
    induction d with
    | zero =>
      intro i hi hk
      have hi : i = n := hi
      subst hi
      refine xWP_go 100 [(2, [0, 1, 2, 3])] fun P hP => ?_
      refine br_c (fun _ => ?_) (fun z => absurd (by show v 0 2 ≤ nI i; rw [e2]; exact nI_le (Nat.le_refl _) (by omega)) z)
      exact ⟨Or.inl rfl, hk _ _ tR.rf⟩
    | succ d ih =>
      intro i hi hk
      have eq : hdL s (X.2.2 1) cr cell m (d + 1) i = if s 0 i = cell ∧ mk (s 1 i) m then (if X.2.2 1 cr (s 1 i) m = 0 then 0 else 1) else hdL s (X.2.2 1) cr cell m d (i + 1) := rfl
      rw [eq] at hk
      have hi8 : i < nat (s 6 0) := by omega
      have ei : Int32.toNatClampNeg (nI i) = i := nI_clamp (by omega)
      have f1 : F 1 (Int32.toNatClampNeg (nI i)) = s 0 i := by rw [ei]; exact (T.2.1 i hi8).1
      have f2 : F 2 (Int32.toNatClampNeg (nI i)) = s 1 i := by rw [ei]; exact (T.2.1 i hi8).2
      refine xWP_go 100 [(2, [0, 1, 2, 3])] fun P hP => ?_
      refine br_c (fun z => ?_) (fun _ => ?_)
      · have z : v 0 2 ≤ nI i := z
        rw [e2] at z
        exact absurd z (nI_ge (by omega) (by omega))
      have nx : (∀ F' v', tR aG bE F v F' v' → K (some (.int (hdL s (X.2.2 1) cr cell m d (i + 1)))) (xfill F' v' 0 (wT0 0))) → xWP pg_T_isHeld K 2 [(0, .ref 0), (1, .int cell), (2, .int m), (3, .int (nI i + 1))] [] (xfill F v 0 (wT0 0)) (0, 0) := by
        intro hk2
        rw [nI_1]
        exact ih (i + 1) (by omega) hk2
      have bi : vp_in (nI i) 8 := vp_in_nI (by omega) (by omega)
      refine ⟨bi, ?_⟩
      refine br_n (fun a => ?_) (fun a => ?_)
      · have a : ¬ F 1 (Int32.toNatClampNeg (nI i)) = cell := a
        rw [f1] at a
        rw [if_neg (fun z => a z.1)] at hk
        refine hP _ _ _ _ _ ?_
        exact nx hk
      have a : F 1 (Int32.toNatClampNeg (nI i)) = cell := a
      rw [f1] at a
      refine ⟨bi, ?_⟩
      refine xcall (sp_isIn _ _ (fun z1 => ?_) (fun z1 => ?_))
      · have z1 : ¬ mk (F 2 (Int32.toNatClampNeg (nI i))) m := z1
        rw [f2] at z1
        rw [if_neg (fun z => z1 z.2)] at hk
        refine br_c (fun _ => ?_) (fun z => absurd rfl z)
        refine hP _ _ _ _ _ ?_
        exact nx hk
      have z1 : mk (F 2 (Int32.toNatClampNeg (nI i))) m := z1
      rw [f2] at z1
      rw [if_pos ⟨a, z1⟩] at hk
      refine br_c (fun z => absurd z (by decide)) (fun _ => ?_)
      refine ⟨vin (by decide), ⟨fun a => absurd a (by decide), ⟨fun _ => ?_, trivial⟩⟩⟩
      have crk : ∀ K2 : xKo, K2 (some (.int cr)) (xfill F v 0 (wT0 0)) → C_T_crowdIn [.ref 0, .int cell] (xfill F v 0 (wT0 0)) K2 := by
        intro K2 k2
        rw [ecr] at k2
        exact sx_crowdIn F v s X T I E hE cell k2
      refine xcall (crk _ ?_)
      refine ⟨bi, ?_⟩
      obtain ⟨n1, h1, e1, w0, w1⟩ := T.2.2.2.2.2
      refine xcall (sp_gives (fun k => F (12 + k)) (fun k => v (12 + k)) cr _ m n1 h1 e1 (fun z => ?_) (fun z => ?_))
      · rw [if_neg (by rw [w0 z]; decide)] at hk
        refine br_c (fun z => absurd z (by decide)) (fun _ => ?_)
        exact ⟨Or.inr rfl, hk _ _ tR.rf⟩
      · have ew := w1 z cr (s 1 i) m (F 14)
        rw [← f2] at ew
        refine br_c (fun y0 => ?_) (fun y0 => ?_)
        · have y0 : (evGives cr (F 2 (Int32.toNatClampNeg (nI i))) m (F 13) n1 (F 14)).1 = 0 := y0
          rw [ew, f2] at y0
          rw [if_pos y0] at hk
          exact ⟨Or.inl rfl, hk (va_up F 14 _) (va_up v 12 (va_up (v 12) 3 _)) ((tR.rf.fu rfl).vu rfl)⟩
        · have y0 : ¬ (evGives cr (F 2 (Int32.toNatClampNeg (nI i))) m (F 13) n1 (F 14)).1 = 0 := y0
          rw [ew, f2] at y0
          rw [if_neg y0] at hk
          exact ⟨Or.inr rfl, hk (va_up F 14 _) (va_up v 12 (va_up (v 12) 3 _)) ((tR.rf.fu rfl).vu rfl)⟩
  refine xM_go rfl 100 [(2, [0, 1, 2, 3])] fun P hP => ?_
  refine hP _ _ _ _ _ ?_
  exact key n 0 (by omega) h
set_option maxRecDepth 100000 in
theorem sx_wouldBeHad (F v s : xS) (X : xXt) (T : tH F v s X) (I : cIv s X) (m : Int32) (u : Nat) (hu : u < 10) {K : xKo} (h : ∀ F' v', tR aE bE F v F' v' → (∀ j, j < nat (s 6 1) → F' 17 j = eEnd s X m (nI u) j) → K (some (.int (eSet s X m (nI u)))) (xfill F' v' 0 (wT0 0))) : C_T_wouldBeHad [.ref 0, .int m, .int (nI u)] (xfill F v 0 (wT0 0)) K := by
  obtain ⟨n, hn, en⟩ := I.1.2
  have enn : nat (s 6 1) = n := by rw [en]; exact nI_clamp (by omega)
  unfold eSet at h
  rw [enn] at h
  have two : ∀ (d i : Nat) (F' v' : xS), i + d = n → tR aE bE F v F' v' → (∀ j, j < n → F' 17 j = eEnd s X m (nI u) j) → xWP pg_T_wouldBeHad K 34 [(0, .ref 0), (1, .int m), (2, .int (nI u)), (3, .int (nI (stN (eHad s X m (nI u)) i))), (4, .int (nI i))] [] (xfill F' v' 0 (wT0 0)) (0, 0) := by
    intro d
    induction d with
    | zero =>
      intro i F' v' hi E hE
      have e : v' 0 8 = nI n := (E.2 0 8 rfl).trans (T.1.2.1.trans en)
      have hi : i = n := hi
      subst hi
      refine xWP_go 100 [(34, [0, 1, 2, 3, 4])] fun P hP => ?_
      refine br_c (fun _ => h _ _ E hE) (fun z => absurd (by show v' 0 8 ≤ nI i; rw [e]; exact nI_le (Nat.le_refl _) (by omega)) z)
    | succ d ih =>
      intro i F' v' hi E hE
      have T' := T.e E
      have e : v' 0 8 = nI n := (E.2 0 8 rfl).trans (T.1.2.1.trans en)
      have e9 : v' 0 9 = X.2.1 := T'.1.2.2.2
      have ei : Int32.toNatClampNeg (nI i) = i := nI_clamp (by omega)
      have e17 : F' 17 (Int32.toNatClampNeg (nI i)) = eEnd s X m (nI u) i := by rw [ei]; exact hE i (by omega)
      have es : stN (eHad s X m (nI u)) (i + 1) = if eHad s X m (nI u) i then stN (eHad s X m (nI u)) i + 2 ^ i else stN (eHad s X m (nI u)) i := rfl
      refine xWP_go 100 [(34, [0, 1, 2, 3, 4])] fun P hP => ?_
      refine br_c (fun z => ?_) (fun _ => ?_)
      · have z : v' 0 8 ≤ nI i := z
        rw [e] at z
        exact absurd z (nI_ge (by omega) (by omega))
      have nx : ∀ (g : Int32) (F2 v2 : xS), tR aG bE F' v' F2 v2 → g = nI (stN (eHad s X m (nI u)) (i + 1)) → xWP pg_T_wouldBeHad K 34 [(0, .ref 0), (1, .int m), (2, .int (nI u)), (3, .int g), (4, .int (nI i + 1))] [] (xfill F2 v2 0 (wT0 0)) (0, 0) := by
        intro g F2 v2 E2 eg
        rw [nI_1, eg]
        exact ih (i + 1) F2 v2 (by omega) (E.tr E2.ge) (fun j hj => by rw [E2.1 17 rfl]; exact hE j hj)
      refine br_c (fun a => ?_) (fun a => ?_)
      · have a : nI i = v' 0 9 := a
        rw [e9] at a
        have eh : eHad s X m (nI u) i = false := by
          unfold eHad
          rw [decide_eq_false (fun z => z a), Bool.false_and]
        refine hP _ _ _ _ _ ?_
        exact nx _ _ _ tR.rf (by rw [es, eh, if_neg Bool.false_ne_true])
      have a : ¬ nI i = v' 0 9 := a
      rw [e9] at a
      refine ⟨vp_in_nI (by omega) (by omega), ?_⟩
      have hk : ∀ K2 : xKo, (∀ F2 v2, tR aG bE F' v' F2 v2 → K2 (some (.int (eHeld s X (eEnd s X m (nI u)) (eEnd s X m (nI u) i) m))) (xfill F2 v2 0 (wT0 0))) → C_T_isHeld [.ref 0, .int (F' 17 (Int32.toNatClampNeg (nI i))), .int m] (xfill F' v' 0 (wT0 0)) K2 := by
        intro K2 k2
        rw [e17]
        exact sx_isHeld F' v' s X T' I _ (fun j hj => hE j (by omega)) _ m k2
      refine xcall (hk _ (fun F2 v2 E2 => ?_))
      refine br_n (fun b => ?_) (fun b => ?_)
      · have eh : eHad s X m (nI u) i = false := by
          unfold eHad
          rw [decide_eq_false (p := eHeld s X (eEnd s X m (nI u)) (eEnd s X m (nI u) i) m = 0) b, Bool.and_false]
        refine hP _ _ _ _ _ ?_
        exact nx _ _ _ E2 (by rw [es, eh, if_neg Bool.false_ne_true])
      · have eh : eHad s X m (nI u) i = true := by
          unfold eHad
          rw [decide_eq_true a, decide_eq_true (p := eHeld s X (eEnd s X m (nI u)) (eEnd s X m (nI u) i) m = 0) b]
          rfl
        refine hP _ _ _ _ _ ?_
        exact nx _ _ _ E2 (by rw [es, eh, if_pos rfl]; exact st_or (by omega) stN_lt)
  have one : ∀ (d i : Nat) (F' v' : xS), i + d = n → tR aE bE F v F' v' → (∀ j, j < i → F' 17 j = eEnd s X m (nI u) j) → xWP pg_T_wouldBeHad K 2 [(0, .ref 0), (1, .int m), (2, .int (nI u)), (3, .int (nI i))] [] (xfill F' v' 0 (wT0 0)) (0, 0) := by
    intro d
    induction d with
    | zero =>
      intro i F' v' hi E hE
      have e : v' 0 8 = nI n := (E.2 0 8 rfl).trans (T.1.2.1.trans en)
      have hi : i = n := hi
      subst hi
      refine xWP_go 100 [(2, [0, 1, 2, 3]), (34, [0, 1, 2, 3, 4])] fun P hP => ?_
      refine br_c (fun _ => ?_) (fun z => absurd (by show v' 0 8 ≤ nI i; rw [e]; exact nI_le (Nat.le_refl _) (by omega)) z)
      refine hP _ _ _ _ _ ?_
      exact two i 0 F' v' (by omega) E hE
    | succ d ih =>
      intro i F' v' hi E hE
      have T' := T.e E
      have e : v' 0 8 = nI n := (E.2 0 8 rfl).trans (T.1.2.1.trans en)
      have ei : Int32.toNatClampNeg (nI i) = i := nI_clamp (by omega)
      refine xWP_go 100 [(2, [0, 1, 2, 3]), (34, [0, 1, 2, 3, 4])] fun P hP => ?_
      refine br_c (fun z => ?_) (fun _ => ?_)
      · have z : v' 0 8 ≤ nI i := z
        rw [e] at z
        exact absurd z (nI_ge (by omega) (by omega))
      have bi : vp_in (nI i) 7 := vp_in_nI (by omega) (by omega)
      refine xcall (sx_endOf F' v' s X T' I i (by omega) m u hu (fun F2 v2 E2 => ?_))
      refine ⟨bi, ?_⟩
      refine hP _ _ _ _ _ ?_
      rw [nI_1]
      refine ih (i + 1) (va_up F2 17 (upd (F2 17) (Int32.toNatClampNeg (nI i)) (eEnd s X m (nI u) i))) v2 (by omega) ((E.tr E2.ge).fu rfl) (fun j hj => ?_)
      show upd (F2 17) (Int32.toNatClampNeg (nI i)) (eEnd s X m (nI u) i) j = _
      rw [ei]
      by_cases ej : j = i
      · rw [ej, pk_us]
      · rw [pk_un ej, E2.1 17 rfl]
        exact hE j (by omega)
  refine xM_go rfl 100 [(2, [0, 1, 2, 3])] fun P hP => ?_
  refine hP _ _ _ _ _ ?_
  exact one n 0 F v (by omega) tR.rf (fun j hj => absurd hj (Nat.not_lt_zero j))
set_option maxRecDepth 100000 in
theorem sx_play (F v s : xS) (X : xXt) (T : tH F v s X) (I : cIv s X) (m : Int32) (u : Nat) (hu : u < 10) {K : xKo} (h : ∀ F' v', tR aP bQ F v F' v' → tH F' v' (clS s) (ePlay s X m (nI u)) → K (some (.int (eSet s X m (nI u)))) (xfill F' v' 0 (wT0 0))) : C_T_play [.ref 0, .int m, .int (nI u)] (xfill F v 0 (wT0 0)) K := by
  obtain ⟨n, hn, en⟩ := I.1.2
  have enn : nat (s 6 1) = n := by rw [en]; exact nI_clamp (by omega)
  obtain ⟨H, eH⟩ : ∃ H, H = eHad s X m (nI u) := ⟨_, rfl⟩
  have eS : eSet s X m (nI u) = nI (stN H n) := by unfold eSet; rw [enn, eH]
  rw [eS] at h
  have eP : ∀ k j, j < n → (ePlay s X m (nI u)).1 k j = (match k with
    | 0 => eEnd s X m (nI u) j
    | 1 => if H j then up9 (X.1 1 j) else X.1 1 j
    | 2 => if H j then X.1 2 j else if nI j = X.2.1 then X.1 2 j else up9 (X.1 2 j)
    | k => X.1 k j) := fun k j hj => by rw [eH]; exact if_pos (by rw [enn]; exact hj)
  have eN : ∀ k j, ¬ j < n → (ePlay s X m (nI u)).1 k j = X.1 k j := fun k j hj => if_neg (by rw [enn]; exact hj)
  have Xd := T.2.2.2.1
  have key : ∀ (d i : Nat) (F' v' : xS), i + d = n → tR aP bP F v F' v' → (∀ j, j < n → F' 17 j = eEnd s X m (nI u) j) → (∀ j, j < i → F' 5 j = eEnd s X m (nI u) j ∧ F' 6 j = (ePlay s X m (nI u)).1 1 j ∧ F' 7 j = (ePlay s X m (nI u)).1 2 j) → (∀ j, i ≤ j → F' 5 j = F 5 j ∧ F' 6 j = F 6 j ∧ F' 7 j = F 7 j) → v' 0 9 = X.2.1 → xWP pg_T_play K 13 [(0, .ref 0), (1, .int m), (2, .int (nI u)), (3, .int (nI (stN H n))), (4, .int (nxL H i)), (5, .int (nI i))] [] (xfill F' v' 0 (wT0 0)) (0, 0) := by
    intro d
    induction d with
    | zero =>
      intro i F' v' hi E hE h1 h2 h9
      have e : v' 0 8 = nI n := (E.2 0 8 rfl).trans (T.1.2.1.trans en)
      have hi : i = n := hi
      subst hi
      refine xWP_go 100 [(13, [0, 1, 2, 3, 4, 5])] fun P hP => ?_
      refine br_c (fun _ => ?_) (fun z => absurd (by show v' 0 8 ≤ nI i; rw [e]; exact nI_le (Nat.le_refl _) (by omega)) z)
      refine h F' (va_up v' 0 (va_up (va_up (v' 0) 9 (nxL H i)) 10 (v' 0 10 + 1))) ⟨E.1, fun k j z => ?_⟩ ?_
      · have q := (((tP.q E).vu (x := nxL H i) (k := 0) (j := 9) rfl).vu (x := v' 0 10 + 1) (k := 0) (j := 10) rfl).2 k j z
        rw [← q]
        by_cases k0 : k = 0
        · subst k0; rfl
        · exact (congrFun (if_neg k0) j).trans ((congrFun (if_neg k0) j).trans (congrFun (if_neg k0) j)).symm
      · obtain ⟨⟨a1, a2, a3, a4⟩, b, c, dd, l0, l1⟩ := T
        refine ⟨⟨(E.2 0 2 rfl).trans a1, (E.2 0 8 rfl).trans a2, ?_, ?_⟩, ?_, ?_, fun j hj => ?_, ?_, ?_⟩
        · show v' 0 10 + 1 = s 6 2 + 1
          rw [E.2 0 10 rfl, a3]
        · show nxL H i = nxL (eHad s X m (nI u)) (nat (s 6 1))
          rw [enn, eH]
        · rw [E.1 1 rfl, E.1 2 rfl]; exact b
        · rw [E.1 3 rfl, E.1 4 rfl]; exact c
        · by_cases hj2 : j < i
          · refine ⟨(h1 j hj2).1.trans ?_, (h1 j hj2).2⟩
            exact (eP 0 j hj2).symm
          · obtain ⟨q1, q2, q3⟩ := h2 j (by omega)
            obtain ⟨r1, r2, r3⟩ := dd j hj
            rw [eN 0 j hj2, eN 1 j hj2, eN 2 j hj2]
            exact ⟨q1.trans r1, q2.trans r2, q3.trans r3⟩
        · show hLw (F' 10) (v' 9 1) (X.2.2 0)
          rw [E.1 10 rfl, E.2 9 1 rfl]; exact l0
        · show hLw (F' 13) (v' 12 1) (X.2.2 1)
          rw [E.1 13 rfl, E.2 12 1 rfl]; exact l1
    | succ d ih =>
      intro i F' v' hi E hE h1 h2 h9
      have e : v' 0 8 = nI n := (E.2 0 8 rfl).trans (T.1.2.1.trans en)
      have ei : Int32.toNatClampNeg (nI i) = i := nI_clamp (by omega)
      have e17 : F' 17 (Int32.toNatClampNeg (nI i)) = eEnd s X m (nI u) i := by rw [ei]; exact hE i (by omega)
      obtain ⟨q1, q2, q3⟩ := h2 i (Nat.le_refl i)
      obtain ⟨r1, r2, r3⟩ := Xd i (by omega)
      have enx : nxL H (i + 1) = if nxL H i = -1 then (if H i then nI i else -1) else nxL H i := rfl
      have bi : vp_in (nI i) 7 := vp_in_nI (by omega) (by omega)
      have mb := mk_st (h := H) (n := n) hn (show i < n by omega)
      -- what a step leaves
      have nx : ∀ (x : Int32) (F2 : xS), tR aP bP F v F2 v' → F2 17 = F' 17 → (∀ j, ¬ j = i → F2 5 j = F' 5 j ∧ F2 6 j = F' 6 j ∧ F2 7 j = F' 7 j) → F2 5 i = eEnd s X m (nI u) i → F2 6 i = (ePlay s X m (nI u)).1 1 i → F2 7 i = (ePlay s X m (nI u)).1 2 i → x = nxL H (i + 1) → xWP pg_T_play K 13 [(0, .ref 0), (1, .int m), (2, .int (nI u)), (3, .int (nI (stN H n))), (4, .int x), (5, .int (nI i + 1))] [] (xfill F2 v' 0 (wT0 0)) (0, 0) := by
        intro x F2 E2 g17 go g5 g6 g7 ex
        rw [nI_1, ex]
        refine ih (i + 1) F2 v' (by omega) E2 (fun j hj => by rw [g17]; exact hE j hj) (fun j hj => ?_) (fun j hj => ?_) h9
        · by_cases ej : j = i
          · rw [ej]; exact ⟨g5, g6, g7⟩
          · obtain ⟨p1, p2, p3⟩ := go j ej
            rw [p1, p2, p3]
            exact h1 j (by omega)
        · obtain ⟨p1, p2, p3⟩ := go j (by omega)
          rw [p1, p2, p3]
          exact h2 j (by omega)
      have x1 : F' 6 i = X.1 1 i := q2.trans r2
      have x2 : F' 7 i = X.1 2 i := q3.trans r3
      have u1 := eP 1 i (by omega)
      have u2 := eP 2 i (by omega)
      refine xWP_go 100 [(13, [0, 1, 2, 3, 4, 5])] fun P hP => ?_
      refine br_c (fun z => ?_) (fun _ => ?_)
      · have z : v' 0 8 ≤ nI i := z
        rw [e] at z
        exact absurd z (nI_ge (by omega) (by omega))
      refine ⟨bi, ?_⟩
      refine ⟨bi, ?_⟩
      refine xcall (sp_isIn _ _ (fun z1 => ?_) (fun z1 => ?_))
      · have z1 : ¬ mk (nI (stN H n)) (nI i) := z1
        have hf : H i = false := by
          cases hh : H i with
          | false => rfl
          | true => exact absurd (mb.mpr hh) z1
        have u1 : (ePlay s X m (nI u)).1 1 i = X.1 1 i := u1.trans (if_neg (by rw [hf]; decide))
        have u2 : (ePlay s X m (nI u)).1 2 i = if nI i = X.2.1 then X.1 2 i else up9 (X.1 2 i) := u2.trans (if_neg (by rw [hf]; decide))
        have ex : nxL H i = nxL H (i + 1) := by
          rw [enx, hf, if_neg Bool.false_ne_true]
          split
          · rename_i z; exact z
          · rfl
        refine br_c (fun _ => ?_) (fun z => absurd rfl z)
        refine br_c (fun a => ?_) (fun a => ?_)
        · have a : nI i = v' 0 9 := a
          rw [h9] at a
          rw [if_pos a] at u2
          refine hP _ _ _ _ _ ?_
          refine nx _ (va_up F' 5 (upd (F' 5) (Int32.toNatClampNeg (nI i)) (F' 17 (Int32.toNatClampNeg (nI i))))) (E.fu rfl) rfl (fun j hj => ⟨?_, rfl, rfl⟩) ?_ (x1.trans u1.symm) (x2.trans u2.symm) ex
          · show upd (F' 5) (Int32.toNatClampNeg (nI i)) _ j = _
            rw [ei]; exact pk_un hj
          · show upd (F' 5) (Int32.toNatClampNeg (nI i)) _ i = _
            rw [e17, ei, pk_us]
        have a : ¬ nI i = v' 0 9 := a
        rw [h9] at a
        rw [if_neg a] at u2
        refine ⟨bi, ?_⟩
        refine xcall (sp_min _ _ ?_)
        refine ⟨bi, ?_⟩
        refine hP _ _ _ _ _ ?_
        refine nx _ (va_up (va_up F' 5 (upd (F' 5) (Int32.toNatClampNeg (nI i)) (F' 17 (Int32.toNatClampNeg (nI i))))) 7 (upd (F' 7) (Int32.toNatClampNeg (nI i)) (if F' 7 (Int32.toNatClampNeg (nI i)) + 1 ≤ 999 then F' 7 (Int32.toNatClampNeg (nI i)) + 1 else 999))) ((E.fu rfl).fu rfl) rfl (fun j hj => ⟨?_, rfl, ?_⟩) ?_ (x1.trans u1.symm) ?_ ex
        · show upd (F' 5) (Int32.toNatClampNeg (nI i)) _ j = _
          rw [ei]; exact pk_un hj
        · show upd (F' 7) (Int32.toNatClampNeg (nI i)) _ j = _
          rw [ei]; exact pk_un hj
        · show upd (F' 5) (Int32.toNatClampNeg (nI i)) _ i = _
          rw [e17, ei, pk_us]
        · show upd (F' 7) (Int32.toNatClampNeg (nI i)) _ i = _
          rw [ei, pk_us, x2, u2]
          rfl
      have z1 : mk (nI (stN H n)) (nI i) := z1
      have ht : H i = true := mb.mp z1
      have u1 : (ePlay s X m (nI u)).1 1 i = up9 (X.1 1 i) := u1.trans (if_pos ht)
      have u2 : (ePlay s X m (nI u)).1 2 i = X.1 2 i := u2.trans (if_pos ht)
      rw [ht, if_pos rfl] at enx
      refine br_c (fun z => absurd z (by decide)) (fun _ => ?_)
      refine ⟨bi, ?_⟩
      refine xcall (sp_min _ _ ?_)
      refine ⟨bi, ?_⟩
      have st : ∀ x, x = nxL H (i + 1) → xWP pg_T_play K 13 [(0, .ref 0), (1, .int m), (2, .int (nI u)), (3, .int (nI (stN H n))), (4, .int x), (5, .int (nI i + 1))] [] (xfill (va_up (va_up F' 5 (upd (F' 5) (Int32.toNatClampNeg (nI i)) (F' 17 (Int32.toNatClampNeg (nI i))))) 6 (upd (F' 6) (Int32.toNatClampNeg (nI i)) (if F' 6 (Int32.toNatClampNeg (nI i)) + 1 ≤ 999 then F' 6 (Int32.toNatClampNeg (nI i)) + 1 else 999))) v' 0 (wT0 0)) (0, 0) := by
        intro x ex
        refine nx _ _ ((E.fu rfl).fu rfl) rfl (fun j hj => ⟨?_, ?_, rfl⟩) ?_ ?_ (x2.trans u2.symm) ex
        · show upd (F' 5) (Int32.toNatClampNeg (nI i)) _ j = _
          rw [ei]; exact pk_un hj
        · show upd (F' 6) (Int32.toNatClampNeg (nI i)) _ j = _
          rw [ei]; exact pk_un hj
        · show upd (F' 5) (Int32.toNatClampNeg (nI i)) _ i = _
          rw [e17, ei, pk_us]
        · show upd (F' 6) (Int32.toNatClampNeg (nI i)) _ i = _
          rw [ei, pk_us, x1, u1]
          rfl
      refine br_n (fun a => ?_) (fun a => ?_)
      · have a : ¬ nxL H i = -1 := a
        rw [if_neg a] at enx
        refine hP _ _ _ _ _ ?_
        exact st _ enx.symm
      · have a : nxL H i = -1 := a
        rw [if_pos a] at enx
        refine hP _ _ _ _ _ ?_
        exact st _ enx.symm
  refine xM_go rfl 100 [(13, [0, 1, 2, 3, 4, 5])] fun P hP => ?_
  refine xcall (sx_wouldBeHad F v s X T I m u hu (fun F' v' E hE => ?_))
  rw [eS]
  refine hP _ _ _ _ _ ?_
  refine key n 0 F' v' (by omega) (tE.p E) (fun j hj => hE j (by omega)) (fun j hj => absurd hj (Nat.not_lt_zero j)) (fun j _ => ?_) ((E.2 0 9 rfl).trans T.1.2.2.2)
  rw [E.1 5 rfl, E.1 6 rfl, E.1 7 rfl]
  exact ⟨rfl, rfl, rfl⟩
