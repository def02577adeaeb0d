/-! ===== the reference: a call comes to pass, exactly ===== -/
theorem gLp_congr {s t t' : xS} {r : Int32 × (Nat → xLw)} {c : Nat} {b : Int32} (h : t 0 c = t' 0 c) : ∀ (d i : Nat) (g q : Int32), gLp s (t, r) c b d i g q = gLp s (t', r) c b d i g q := by
  intro d
  induction d with
  | zero => intro i g q; rfl
  | succ d ih =>
    intro i g q
    show (if (mk (s 1 i) b ∧ off (t 0 c) (s 0 i) < q) ∧ ¬ r.2 0 (off (t 0 c) (s 0 i)) b (s 3 c) = 0 then gLp s (t, r) c b d (i + 1) (nI i) (off (t 0 c) (s 0 i)) else gLp s (t, r) c b d (i + 1) g q) = (if (mk (s 1 i) b ∧ off (t' 0 c) (s 0 i) < q) ∧ ¬ r.2 0 (off (t' 0 c) (s 0 i)) b (s 3 c) = 0 then gLp s (t', r) c b d (i + 1) (nI i) (off (t' 0 c) (s 0 i)) else gLp s (t', r) c b d (i + 1) g q)
    rw [h, ih, ih]
theorem eEnd_congr {s : xS} {X X' : xXt} {b t : Int32} {c : Nat} (h : X.1 0 c = X'.1 0 c) (h2 : X.2 = X'.2) : eEnd s X b t c = eEnd s X' b t c := by
  obtain ⟨x, r⟩ := X
  obtain ⟨x', r'⟩ := X'
  have h2 : r = r' := h2
  subst h2
  have h : x 0 c = x' 0 c := h
  have g : eGoal s (x, r) c b = eGoal s (x', r) c b := gLp_congr h _ _ _ _
  unfold eEnd
  rw [g]
  show (if _ then x 0 c else wlk (x 0 c) _ _) = (if _ then x' 0 c else wlk (x' 0 c) _ _)
  rw [h]
theorem crL_congr {it cell : Int32} {E E' : Nat → Int32} : ∀ (d i : Nat) (q : Int32), (∀ j, i ≤ j → j < i + d → E j = E' j) → crL it cell E d i q = crL it cell E' d i q := by
  intro d
  induction d with
  | zero => intro i q _; rfl
  | succ d ih =>
    intro i q h
    show crL it cell E d (i + 1) (if nI i = it then q else if E i = cell then q + 1 else q) = crL it cell E' d (i + 1) (if nI i = it then q else if E' i = cell then q + 1 else q)
    rw [h i (Nat.le_refl i) (by omega)]
    exact ih (i + 1) _ (fun j a l => h j (by omega) (by omega))
theorem tM.up {f : Nat → Int32} {s : xS} {X X' : xXt} (T : tM f s X) (b3 : below 8 (s 6 0)) (b2 : below 7 (s 6 1)) {i w : Nat} (hi : i < 7) (hw : 2 ≤ w ∧ w < 5) (x : Int32) (e2 : X'.2 = X.2) (e : ∀ k j, k < 3 → j < 7 → X'.1 k j = if k + 2 = w ∧ j = i then x else X.1 k j) : tM (upd f (25 + 5 * i + w) x) s X' := by
  obtain ⟨⟨a1, a2, a3, a4⟩, b, c, d, l0, l1⟩ := T
  have h3 := bel_nat b3 (by omega)
  have h2 := bel_nat b2 (by omega)
  have un : ∀ j, ¬ j = 25 + 5 * i + w → upd f (25 + 5 * i + w) x j = f j := fun j hj => pk_un hj
  refine ⟨⟨(un 3 (by omega)).trans a1, (un 2 (by omega)).trans a2, (un 0 (by omega)).trans a3, ?_⟩, fun j hj => ?_, fun j hj => ?_, fun j hj => ?_, ?_, ?_⟩
  · rw [e2]; exact (un 8 (by omega)).trans a4
  · rw [un _ (by omega), un _ (by omega)]; exact b j hj
  · rw [un _ (by omega), un _ (by omega)]; exact c j hj
  · obtain ⟨d0, d1, d2⟩ := d j hj
    have q : ∀ k, k < 3 → f (25 + 5 * j + (k + 2)) = X.1 k j → upd f (25 + 5 * i + w) x (25 + 5 * j + (k + 2)) = X'.1 k j := by
      intro k hk hf
      rw [e k j hk hj]
      by_cases z : k + 2 = w ∧ j = i
      · rw [if_pos z, z.1, z.2, pk_us]
      · rw [if_neg z, un _ (fun y => z (by omega))]
        exact hf
    exact ⟨q 0 (by decide) d0, q 1 (by decide) d1, q 2 (by decide) d2⟩
  · rw [e2]
    exact l0.of (by decide) (un _ (by omega)) (fun k a l => un k (by omega))
  · rw [e2]
    exact l1.of (by decide) (un _ (by omega)) (fun k a l => un k (by omega))
theorem tM.ext {f : Nat → Int32} {s : xS} {X X' : xXt} (T : tM f s X) (e2 : X'.2 = X.2) (e : ∀ k j, k < 3 → j < 7 → X'.1 k j = X.1 k j) : tM f s X' := by
  obtain ⟨a, b, c, d, l⟩ := T
  refine ⟨by rw [e2]; exact a, b, c, fun j hj => ?_, by rw [e2]; exact l⟩
  rw [e 0 j (by decide) hj, e 1 j (by decide) hj, e 2 j (by decide) hj]
  exact d j hj
theorem held999 {x : Int32} (h : below 999 x) : (if x + 1 < 0 then 0 else if 999 < x + 1 then 999 else x + 1) = up9 x := by
  obtain ⟨k, hk, rfl⟩ := h
  unfold up9
  rw [nI_1]
  have n0 : ¬ nI (k + 1) < 0 := fun z => by
    rw [xlt, nI_toInt (by omega), show (0 : Int32).toInt = 0 by decide] at z
    omega
  rw [if_neg n0]
  by_cases a : nI (k + 1) ≤ 999
  · rw [if_pos a, if_neg (fun z => by rw [xlt] at z; rw [xle] at a; omega)]
  · rw [if_neg a, if_pos (by rw [xlt]; rw [xle] at a; omega)]
/-- where the first i are where they end -/
def Xat (X : xXt) (E : Nat → Int32) (i : Nat) : xXt := (va_up X.1 0 (fun j => if j < i then E j else X.1 0 j), X.2)
/-- and those from i on are told -/
def Xto (X P : xXt) (E : Nat → Int32) (m i : Nat) : xXt := ((fun k j => match k with
  | 0 => if j < m then E j else X.1 0 j
  | 1 => if i ≤ j ∧ j < m then P.1 1 j else X.1 1 j
  | 2 => if i ≤ j ∧ j < m then P.1 2 j else X.1 2 j
  | k => X.1 k j), X.2)
set_option maxRecDepth 100000 in
theorem sx_calls (F v s : xS) (X : xXt) (T : tM (F 1) s X) (I : cIv s X) (b : Int32) (u : Nat) (hu : u < 10) {K : xKo} (h : ∀ F' v', (∀ k, ¬ k = 1 → F' k = F k) → mR r2 F v F' v' → tM (F' 1) (clS s) (ePlay (sm (v 0 15) s) X b (nI u)) → K (some (.int (eSet (sm (v 0 15) s) X b (nI u)))) (xfill F' v' 0 (wM0 0))) : C_M_calls [.ref 0, .int b, .int (nI u)] (xfill F v 0 (wM0 0)) K := by
  obtain ⟨m, hm, em⟩ := I.1.2
  have emm : nat (s 6 1) = m := by rw [em]; exact nI_clamp (by omega)
  obtain ⟨S, eS⟩ : ∃ S, S = sm (v 0 15) s := ⟨_, rfl⟩
  rw [← eS] at h
  have IS : cIv S X := by rw [eS]; exact I.sm _
  have emS : nat (S 6 1) = m := by rw [eS]; exact emm
  obtain ⟨E, eE⟩ : ∃ E, E = eEnd S X b (nI u) := ⟨_, rfl⟩
  obtain ⟨H, eH⟩ : ∃ H, H = eHad S X b (nI u) := ⟨_, rfl⟩
  obtain ⟨PL, eP⟩ : ∃ PL, PL = ePlay S X b (nI u) := ⟨_, rfl⟩
  have es : eSet S X b (nI u) = nI (stN H m) := by unfold eSet; rw [emS, eH]
  have eHc : ∀ c, H c = (decide (¬ nI c = X.2.1) && decide (eHeld S X E (E c) b = 0)) := fun c => by rw [eH, eE]; rfl
  have Q0 : ∀ j, PL.1 0 j = if j < m then E j else X.1 0 j := fun j => by rw [eP, eE, ← emS]; rfl
  have Q1 : ∀ j, PL.1 1 j = if j < m then (if H j then up9 (X.1 1 j) else X.1 1 j) else X.1 1 j := fun j => by rw [eP, eH, ← emS]; rfl
  have Q2 : ∀ j, PL.1 2 j = if j < m then (if H j then X.1 2 j else if nI j = X.2.1 then X.1 2 j else up9 (X.1 2 j)) else X.1 2 j := fun j => by rw [eP, eH, ← emS]; rfl
  have Qn : PL.2 = (nxL H m, X.2.2) := by rw [eP, eH, ← emS]; rfl
  rw [← eP, es] at h
  have Eb : ∀ j, j < m → below 11 (E j) := fun j hj => by rw [eE]; exact eEnd_le IS (by omega)
  have three : ∀ (i : Nat) (x : Int32) (F' v' : xS), i ≤ m → mR r1 F v F' v' → (∀ k, ¬ k = 1 → F' k = F k) → tM (F' 1) s (Xto X PL E m i) → nyL H i x = nxL H m → xWP pg_M_calls K 99 [(0, .ref 0), (1, .int b), (2, .int (nI u)), (3, .int (nI (stN H m))), (4, .int x), (5, .int (nI i - 1))] [] (xfill F' v' 0 (wM0 0)) (0, 0) := by
    intro i
    induction i with
    | zero =>
      intro x F' v' hi E' G T' ex
      have ex : x = nxL H m := ex
      refine xWP_go 200 [(2, [0, 1, 2, 3]), (36, [0, 1, 2, 3, 4]), (78, [0, 1, 2, 3, 4]), (99, [0, 1, 2, 3, 4, 5]), (158, [0, 1, 2, 3, 4, 5])] fun PP hP => ?_
      refine br_c (fun _ => ?_) (fun z => absurd (by decide) z)
      refine ⟨vin (by decide), ?_⟩
      refine ⟨vin (by decide), ?_⟩
      refine ⟨vin (by decide), ?_⟩
      refine h (va_up F' 1 (upd (upd (F' 1) 8 x) 0 (F' 1 0 + 1))) v' (fun k hk => (if_neg hk).trans (G k hk)) ⟨fun k => ?_, fun j a z => ?_, E'.2.2⟩ ?_
      · by_cases e : k = 1
        · exact Or.inl e
        · have q : va_up F' 1 (upd (upd (F' 1) 8 x) 0 (F' 1 0 + 1)) k = F' k := if_neg e
          rw [q]; exact E'.1 k
      · have j0 : ¬ j = 0 := fun e => by rw [e] at z; exact absurd z (by decide)
        have j8 : ¬ j = 8 := fun e => by rw [e] at z; exact absurd z (by decide)
        have q : va_up F' 1 (upd (upd (F' 1) 8 x) 0 (F' 1 0 + 1)) 1 j = F' 1 j := (if_neg j0).trans (if_neg j8)
        rw [q]; exact E'.to2.2.1 j a z
      · obtain ⟨⟨a1, a2, a3, a4⟩, tb, tc, td, l0, l1⟩ := T'
        have un : ∀ j, ¬ j = 0 → ¬ j = 8 → upd (upd (F' 1) 8 x) 0 (F' 1 0 + 1) j = F' 1 j := fun j h0 h8 => (pk_un h0).trans (pk_un h8)
        have l0 : mLw (F' 1) 0 (X.2.2 0) := l0
        have l1 : mLw (F' 1) 1 (X.2.2 1) := l1
        refine ⟨⟨(un 3 (by decide) (by decide)).trans a1, (un 2 (by decide) (by decide)).trans a2, ?_, ?_⟩, fun j hj => ?_, fun j hj => ?_, fun j hj => ?_, ?_, ?_⟩
        · show upd (upd (F' 1) 8 x) 0 (F' 1 0 + 1) 0 = s 6 2 + 1
          rw [pk_us, a3]
        · show upd (upd (F' 1) 8 x) 0 (F' 1 0 + 1) 8 = PL.2.1
          rw [pk_un (by decide), pk_us, Qn, ex]
        · show upd (upd (F' 1) 8 x) 0 (F' 1 0 + 1) (9 + 2 * j) = s 0 j ∧ upd (upd (F' 1) 8 x) 0 (F' 1 0 + 1) (9 + 2 * j + 1) = s 1 j
          rw [un _ (by omega) (by omega), un _ (by omega) (by omega)]
          exact tb j hj
        · show upd (upd (F' 1) 8 x) 0 (F' 1 0 + 1) (25 + 5 * j + 0) = s 2 j ∧ upd (upd (F' 1) 8 x) 0 (F' 1 0 + 1) (25 + 5 * j + 1) = s 3 j
          rw [un _ (by omega) (by omega), un _ (by omega) (by omega)]
          exact tc j hj
        · show upd (upd (F' 1) 8 x) 0 (F' 1 0 + 1) (25 + 5 * j + 2) = PL.1 0 j ∧ upd (upd (F' 1) 8 x) 0 (F' 1 0 + 1) (25 + 5 * j + 3) = PL.1 1 j ∧ upd (upd (F' 1) 8 x) 0 (F' 1 0 + 1) (25 + 5 * j + 4) = PL.1 2 j
          rw [un _ (by omega) (by omega), un _ (by omega) (by omega), un _ (by omega) (by omega)]
          obtain ⟨d0, d1, d2⟩ := td j hj
          have d0 : F' 1 (25 + 5 * j + 2) = if j < m then E j else X.1 0 j := d0
          have d1 : F' 1 (25 + 5 * j + 3) = if 0 ≤ j ∧ j < m then PL.1 1 j else X.1 1 j := d1
          have d2 : F' 1 (25 + 5 * j + 4) = if 0 ≤ j ∧ j < m then PL.1 2 j else X.1 2 j := d2
          rw [d0, d1, d2, Q0]
          refine ⟨rfl, ?_, ?_⟩
          · by_cases l : j < m
            · rw [if_pos ⟨Nat.zero_le j, l⟩]
            · rw [if_neg (fun z => l z.2), Q1, if_neg l]
          · by_cases l : j < m
            · rw [if_pos ⟨Nat.zero_le j, l⟩]
            · rw [if_neg (fun z => l z.2), Q2, if_neg l]
        · rw [Qn]
          exact l0.of (by decide) (un 6 (by decide) (by decide)) (fun k a l => un k (by omega) (by omega))
        · rw [Qn]
          exact l1.of (by decide) (un 7 (by decide) (by decide)) (fun k a l => un k (by omega) (by omega))
    | succ i ih =>
      intro x F' v' hi E' G T' ex
      have ex : nyL H i (if H i then nI i else x) = nxL H m := ex
      have him : i < m := by omega
      have mb := mk_st (h := H) (n := m) hm him
      have e8 : F' 1 (Int32.toNatClampNeg 8) = X.2.1 := T'.1.2.2.2
      rw [nI_pred]
      refine xWP_go 200 [(2, [0, 1, 2, 3]), (36, [0, 1, 2, 3, 4]), (78, [0, 1, 2, 3, 4]), (99, [0, 1, 2, 3, 4, 5]), (158, [0, 1, 2, 3, 4, 5])] fun PP hP => ?_
      refine br_c (fun z => absurd z (by show ¬ nI i < nI 0; rw [nI_ltI (by omega) (by omega)]; omega)) (fun _ => ?_)
      have k158 : ∀ (F2 : xS), mR r1 F v F2 v' → (∀ k, ¬ k = 1 → F2 k = F k) → tM (F2 1) s (Xto X PL E m i) → xWP pg_M_calls K 158 [(0, .ref 0), (1, .int b), (2, .int (nI u)), (3, .int (nI (stN H m))), (4, .int x), (5, .int (nI i))] [] (xfill F2 v' 0 (wM0 0)) (0, 0) := by
        intro F2 E2 G2 T2
        refine xWP_go 200 [(99, [0, 1, 2, 3, 4, 5])] fun PP hP => ?_
        refine br_n (fun z => ?_) (fun z => ?_)
        · have hf : H i = false := by
            cases hh : H i with
            | false => rfl
            | true => exact absurd (mb.mpr hh) z
          rw [hf, if_neg Bool.false_ne_true] at ex
          refine hP _ _ _ _ _ ?_
          have q := ih x F2 v' (by omega) E2 G2 T2 ex
          rw [← am1] at q
          exact q
        · have ht : H i = true := mb.mp z
          rw [ht, if_pos rfl] at ex
          refine hP _ _ _ _ _ ?_
          have q := ih (nI i) F2 v' (by omega) E2 G2 T2 ex
          rw [← am1] at q
          exact q
      have X1 : (Xto X PL E m (i + 1)).1 1 i = X.1 1 i := if_neg (fun z => by omega)
      have X2 : (Xto X PL E m (i + 1)).1 2 i = X.1 2 i := if_neg (fun z => by omega)
      obtain ⟨d0, d1, d2⟩ := T'.2.2.2.1 i (by omega)
      have n1 : ∀ k j, k < 3 → ¬ j = i → (Xto X PL E m i).1 k j = (Xto X PL E m (i + 1)).1 k j := by
        intro k j hk hj
        rcases (show k = 0 ∨ k = 1 ∨ k = 2 by omega) with e | e | e
        all_goals subst e
        · rfl
        · show (if i ≤ j ∧ j < m then PL.1 1 j else X.1 1 j) = (if i + 1 ≤ j ∧ j < m then PL.1 1 j else X.1 1 j)
          by_cases l : i ≤ j ∧ j < m
          · rw [if_pos l, if_pos ⟨by omega, l.2⟩]
          · rw [if_neg l, if_neg (fun z => l ⟨by omega, z.2⟩)]
        · show (if i ≤ j ∧ j < m then PL.1 2 j else X.1 2 j) = (if i + 1 ≤ j ∧ j < m then PL.1 2 j else X.1 2 j)
          by_cases l : i ≤ j ∧ j < m
          · rw [if_pos l, if_pos ⟨by omega, l.2⟩]
          · rw [if_neg l, if_neg (fun z => l ⟨by omega, z.2⟩)]
      have m0 : (Xto X PL E m i).1 0 i = (Xto X PL E m (i + 1)).1 0 i := rfl
      have m1 : (Xto X PL E m i).1 1 i = if H i then up9 (X.1 1 i) else X.1 1 i := (if_pos ⟨Nat.le_refl i, him⟩).trans ((Q1 i).trans (if_pos him))
      have m2 : (Xto X PL E m i).1 2 i = if H i then X.1 2 i else if nI i = X.2.1 then X.1 2 i else up9 (X.1 2 i) := (if_pos ⟨Nat.le_refl i, him⟩).trans ((Q2 i).trans (if_pos him))
      obtain ⟨f1, f2⟩ := I.2.2.2.2.1 i (by omega)
      refine ⟨vin (by decide), ?_⟩
      refine br_c (fun a => ?_) (fun a => ?_)
      · have a : nI i = F' 1 (Int32.toNatClampNeg 8) := a
        rw [e8] at a
        have hf : H i = false := by rw [eHc, decide_eq_false (fun z => z a), Bool.false_and]
        rw [hf, if_neg Bool.false_ne_true] at m1
        rw [hf, if_neg Bool.false_ne_true, if_pos a] at m2
        refine hP _ _ _ _ _ (k158 F' E' G (T'.ext rfl (fun k j hk hj => ?_)))
        by_cases ej : j = i
        · subst ej
          rcases (show k = 0 ∨ k = 1 ∨ k = 2 by omega) with e | e | e
          all_goals subst e
          · exact m0
          · exact m1.trans X1.symm
          · exact m2.trans X2.symm
        · exact n1 k j hk ej
      have a : ¬ nI i = F' 1 (Int32.toNatClampNeg 8) := a
      rw [e8] at a
      refine br_n (fun z => ?_) (fun z => ?_)
      · have hf : H i = false := by
          cases hh : H i with
          | false => rfl
          | true => exact absurd (mb.mpr hh) z
        rw [hf, if_neg Bool.false_ne_true] at m1
        rw [hf, if_neg Bool.false_ne_true, if_neg a] at m2
        refine xcall (sx_its F' v' i 4 (by omega) (by omega) 4 rfl (X.1 2 i) (d2.trans X2) ?_)
        refine xcall (sx_held _ 0 999 ?_)
        rw [held999 f2]
        refine xcall (sx_gets F' v' i 4 (by omega) (by omega) 4 rfl (up9 (X.1 2 i)) ?_)
        have rr := r1_at (i := i) (w := 4) (by omega) (by omega) (by omega)
        rw [nc5 (by omega) (by omega)] at rr
        refine hP _ _ _ _ _ (k158 _ (E'.row rr) (fun k hk => (if_neg hk).trans (G k hk)) (T'.up (X' := Xto X PL E m i) I.1.1 I.1.2 (by omega) (by decide) _ rfl (fun k j hk hj => ?_)))
        by_cases ej : j = i
        · subst ej
          rcases (show k = 0 ∨ k = 1 ∨ k = 2 by omega) with e | e | e
          all_goals subst e
          · exact m0.trans (if_neg (fun z => absurd z.1 (by decide))).symm
          · exact (m1.trans X1.symm).trans (if_neg (fun z => absurd z.1 (by decide))).symm
          · exact m2.trans (if_pos ⟨rfl, rfl⟩).symm
        · rw [if_neg (fun z => ej z.2)]
          exact n1 k j hk ej
      · have ht : H i = true := mb.mp z
        rw [ht, if_pos rfl] at m1 m2
        refine xcall (sx_its F' v' i 3 (by omega) (by omega) 3 rfl (X.1 1 i) (d1.trans X1) ?_)
        refine xcall (sx_held _ 0 999 ?_)
        rw [held999 f1]
        refine xcall (sx_gets F' v' i 3 (by omega) (by omega) 3 rfl (up9 (X.1 1 i)) ?_)
        have rr := r1_at (i := i) (w := 3) (by omega) (by omega) (by omega)
        rw [nc5 (by omega) (by omega)] at rr
        refine hP _ _ _ _ _ (k158 _ (E'.row rr) (fun k hk => (if_neg hk).trans (G k hk)) (T'.up (X' := Xto X PL E m i) I.1.1 I.1.2 (by omega) (by decide) _ rfl (fun k j hk hj => ?_)))
        by_cases ej : j = i
        · subst ej
          rcases (show k = 0 ∨ k = 1 ∨ k = 2 by omega) with e | e | e
          all_goals subst e
          · exact m0.trans (if_neg (fun z => absurd z.1 (by decide))).symm
          · exact m1.trans (if_pos ⟨rfl, rfl⟩).symm
          · exact (m2.trans X2.symm).trans (if_neg (fun z => absurd z.1 (by decide))).symm
        · rw [if_neg (fun z => ej z.2)]
          exact n1 k j hk ej
  have Xm : cIv s (Xat X E m) := by
    obtain ⟨a, b, c, d, e, g⟩ := I
    refine ⟨a, b, c, fun j hj => ?_, e, g⟩
    show below 11 (if j < m then E j else X.1 0 j)
    split
    · rename_i l; exact Eb j l
    · exact d j hj
  have two : ∀ (d i : Nat) (F' v' : xS), i + d = m → mR r1 F v F' v' → (∀ k, ¬ k = 1 → F' k = F k) → tM (F' 1) s (Xat X E m) → xWP pg_M_calls K 36 [(0, .ref 0), (1, .int b), (2, .int (nI u)), (3, .int (nI (stN H i))), (4, .int (nI i))] [] (xfill F' v' 0 (wM0 0)) (0, 0) := by
    intro d
    induction d with
    | zero =>
      intro i F' v' hi E' G T'
      have e : F' 1 2 = nI m := (E'.2.1 2 (by omega) rfl).trans (T.1.2.1.trans em)
      have hi : i = m := hi
      subst hi
      refine xWP_go 200 [(2, [0, 1, 2, 3]), (36, [0, 1, 2, 3, 4]), (78, [0, 1, 2, 3, 4]), (99, [0, 1, 2, 3, 4, 5]), (158, [0, 1, 2, 3, 4, 5])] fun PP hP => ?_
      refine ⟨vin (by decide), ?_⟩
      refine br_c (fun _ => ?_) (fun z => ?_)
      · refine ⟨vin (by decide), ?_⟩
        refine hP _ _ _ _ _ ?_
        have q := three i (-1) F' v' (Nat.le_refl _) E' G (T'.ext rfl (fun k j hk hj => by
          rcases (show k = 0 ∨ k = 1 ∨ k = 2 by omega) with e | e | e
          all_goals subst e
          · rfl
          · exact if_neg (fun z => by omega)
          · exact if_neg (fun z => by omega))) (nx_ny (by omega))
        rw [← e] at q
        exact q
      · have z : ¬ F' 1 2 ≤ nI i := z
        rw [e, nI_leI (by omega) (by omega)] at z
        omega
    | succ d ih =>
      intro i F' v' hi E' G T'
      have e : F' 1 2 = nI m := (E'.2.1 2 (by omega) rfl).trans (T.1.2.1.trans em)
      have e8 : F' 1 (Int32.toNatClampNeg 8) = X.2.1 := T'.1.2.2.2
      have him : i < m := by omega
      have est : stN H (i + 1) = if H i then stN H i + 2 ^ i else stN H i := rfl
      have eXi : (Xat X E m).1 0 i = E i := if_pos him
      have ehd : eHeld (sm (v' 0 15) s) (Xat X E m) ((Xat X E m).1 0) ((Xat X E m).1 0 i) b = eHeld S X E (E i) b := by
        have e15 : v' 0 15 = v 0 15 := (E'.2.2 15).elim (fun z => absurd z (by omega)) id
        rw [e15, ← eS, eXi]
        unfold eHeld
        have q : crL (Xat X E m).2.1 (E i) ((Xat X E m).1 0) (nat (S 6 1)) 0 0 = crL X.2.1 (E i) E (nat (S 6 1)) 0 0 := crL_congr _ _ _ (fun j _ l => if_pos (by omega))
        rw [q]
        rfl
      refine xWP_go 200 [(2, [0, 1, 2, 3]), (36, [0, 1, 2, 3, 4]), (78, [0, 1, 2, 3, 4]), (99, [0, 1, 2, 3, 4, 5]), (158, [0, 1, 2, 3, 4, 5])] fun PP hP => ?_
      refine ⟨vin (by decide), ?_⟩
      refine br_c (fun z => ?_) (fun _ => ?_)
      · have z : F' 1 2 ≤ nI i := z
        rw [e, nI_leI (by omega) (by omega)] at z
        omega
      have go : ∀ (x : Int32) (v2 : xS), vR v' v2 → nI (stN H i) ||| x = nI (stN H (i + 1)) → xWP pg_M_calls K 78 [(0, .ref 0), (1, .int b), (2, .int (nI u)), (3, .int (nI (stN H i))), (4, .int (nI i))] [.int x, .int (nI (stN H i))] (xfill F' v2 0 (wM0 0)) (0, 0) := by
        intro x v2 E2 ex
        refine xWP_go 200 [(36, [0, 1, 2, 3, 4])] fun PP hP => ?_
        refine hP _ _ _ _ _ ?_
        rw [nI_1]
        have z := ih (i + 1) F' v2 (by omega) (E'.vs E2) G T'
        rw [← ex] at z
        exact z
      refine ⟨vin (by decide), ?_⟩
      refine br_c (fun a => ?_) (fun a => ?_)
      · have a : nI i = F' 1 (Int32.toNatClampNeg 8) := a
        rw [e8] at a
        have hf : H i = false := by rw [eHc, decide_eq_false (fun z => z a), Bool.false_and]
        exact hP _ _ _ _ _ (go 0 v' (fun _ => Or.inr rfl) (by rw [est, hf, if_neg Bool.false_ne_true]; exact st_or0))
      have a : ¬ nI i = F' 1 (Int32.toNatClampNeg 8) := a
      rw [e8] at a
      refine xcall (sx_isSafe F' v' s (Xat X E m) T' Xm i (by omega) b (fun v2 E2 => ?_))
      rw [ehd]
      refine br_n (fun y => ?_) (fun y => ?_)
      · have hf : H i = false := by rw [eHc, decide_eq_false (p := eHeld S X E (E i) b = 0) y, Bool.and_false]
        exact hP _ _ _ _ _ (go 0 v2 E2 (by rw [est, hf, if_neg Bool.false_ne_true]; exact st_or0))
      · have ht : H i = true := by
          rw [eHc, decide_eq_true a, decide_eq_true (p := eHeld S X E (E i) b = 0) y]
          rfl
        exact hP _ _ _ _ _ (go _ v2 E2 (by rw [est, ht, if_pos rfl]; exact st_or (by omega) stN_lt))
  have one : ∀ (d i : Nat) (F' v' : xS), i + d = m → mR r1 F v F' v' → (∀ k, ¬ k = 1 → F' k = F k) → tM (F' 1) s (Xat X E i) → xWP pg_M_calls K 2 [(0, .ref 0), (1, .int b), (2, .int (nI u)), (3, .int (nI i))] [] (xfill F' v' 0 (wM0 0)) (0, 0) := by
    intro d
    induction d with
    | zero =>
      intro i F' v' hi E' G T'
      have e : F' 1 2 = nI m := (E'.2.1 2 (by omega) rfl).trans (T.1.2.1.trans em)
      have hi : i = m := hi
      subst hi
      refine xWP_go 200 [(2, [0, 1, 2, 3]), (36, [0, 1, 2, 3, 4]), (78, [0, 1, 2, 3, 4]), (99, [0, 1, 2, 3, 4, 5]), (158, [0, 1, 2, 3, 4, 5])] fun PP hP => ?_
      refine ⟨vin (by decide), ?_⟩
      refine br_c (fun _ => ?_) (fun z => ?_)
      · refine hP _ _ _ _ _ ?_
        exact two i 0 F' v' (by omega) E' G T'
      · have z : ¬ F' 1 2 ≤ nI i := z
        rw [e, nI_leI (by omega) (by omega)] at z
        omega
    | succ d ih =>
      intro i F' v' hi E' G T'
      have e : F' 1 2 = nI m := (E'.2.1 2 (by omega) rfl).trans (T.1.2.1.trans em)
      have Xi : cIv s (Xat X E i) := by
        obtain ⟨a, b, c, d, e, g⟩ := I
        refine ⟨a, b, c, fun j hj => ?_, e, g⟩
        show below 11 (if j < i then E j else X.1 0 j)
        split
        · rename_i l; exact Eb j (by omega)
        · exact d j hj
      have e15 : v' 0 15 = v 0 15 := (E'.2.2 15).elim (fun z => absurd z (by omega)) id
      have eEi : eEnd (sm (v' 0 15) s) (Xat X E i) b (nI u) i = E i := by
        rw [e15, ← eS, eE]
        exact eEnd_congr (if_neg (Nat.lt_irrefl i)) rfl
      refine xWP_go 200 [(2, [0, 1, 2, 3]), (36, [0, 1, 2, 3, 4]), (78, [0, 1, 2, 3, 4]), (99, [0, 1, 2, 3, 4, 5]), (158, [0, 1, 2, 3, 4, 5])] fun PP hP => ?_
      refine ⟨vin (by decide), ?_⟩
      refine br_c (fun z => ?_) (fun _ => ?_)
      · have z : F' 1 2 ≤ nI i := z
        rw [e, nI_leI (by omega) (by omega)] at z
        omega
      refine xcall (sx_ends F' v' s (Xat X E i) T' Xi i (by omega) b u hu (fun v2 E2 => ?_))
      rw [eEi]
      refine xcall (sx_gets F' v2 i 2 (by omega) (by omega) 2 rfl (E i) ?_)
      refine hP _ _ _ _ _ ?_
      rw [nI_1]
      have rr := r1_at (i := i) (w := 2) (by omega) (by omega) (by omega)
      rw [nc5 (by omega) (by omega)] at rr
      refine ih (i + 1) _ v2 (by omega) ((E'.vs E2).row rr) (fun k hk => (if_neg hk).trans (G k hk)) (T'.up (X' := Xat X E (i + 1)) I.1.1 I.1.2 (by omega) (by decide) _ rfl (fun k j hk hj => ?_))
      rcases (show k = 0 ∨ k = 1 ∨ k = 2 by omega) with e | e | e
      all_goals subst e
      · show (if j < i + 1 then E j else X.1 0 j) = if 0 + 2 = 2 ∧ j = i then E i else (if j < i then E j else X.1 0 j)
        by_cases ej : j = i
        · subst ej
          rw [if_pos (Nat.lt_succ_self j), if_pos ⟨rfl, rfl⟩]
        · have r : (if 0 + 2 = 2 ∧ j = i then E i else (if j < i then E j else X.1 0 j)) = (if j < i then E j else X.1 0 j) := if_neg (fun z => ej z.2)
          rw [r]
          by_cases l : j < i
          · rw [if_pos l, if_pos (by omega)]
          · rw [if_neg l, if_neg (by omega)]
      · exact (if_neg (fun z => absurd z.1 (by decide))).symm
      · exact (if_neg (fun z => absurd z.1 (by decide))).symm
  refine xM_go rfl 100 [(2, [0, 1, 2, 3]), (36, [0, 1, 2, 3, 4]), (78, [0, 1, 2, 3, 4]), (99, [0, 1, 2, 3, 4, 5]), (158, [0, 1, 2, 3, 4, 5])] fun PP hP => ?_
  refine hP _ _ _ _ _ ?_
  exact one m 0 F v (by omega) mR.rf (fun _ _ => rfl) (T.ext rfl (fun k j hk hj => by
    rcases (show k = 0 ∨ k = 1 ∨ k = 2 by omega) with e | e | e
    all_goals subst e
    all_goals rfl))
set_option maxRecDepth 100000 in
theorem sx_wouldBe (F v s : xS) (X : xXt) (T : tM (F 1) s X) (I : cIv s X) (b : Int32) (u : Nat) (hu : u < 10) {K : xKo} (h : ∀ F' v', mR r0 F v F' v' → K (some (.int (eSet (sm (v 0 15) s) X b (nI u)))) (xfill F' v' 0 (wM0 0))) : C_M_wouldBe [.ref 0, .int b, .int (nI u)] (xfill F v 0 (wM0 0)) K := by
  refine xM_go rfl 100 [] fun P hP => ?_
  refine xcall (sp_moveAll_1_3 F v fun g g1 g2 => ?_)
  refine xcall (sx_calls (va_up F 3 g) v s X T I b u hu (fun F' v' G E T' => ?_))
  refine xcall (sp_moveAll_3_1 F' v' fun g' k1 k2 => ?_)
  refine h (va_up F' 1 g') v' ⟨fun k => ?_, fun j hj _ => ?_, E.2.2⟩
  · by_cases h1 : k = 1
    · exact Or.inl h1
    by_cases h3 : k = 3
    · exact Or.inr (Or.inl h3)
    have q : va_up F' 1 g' k = F' k := if_neg h1
    rw [q, G k h1]
    exact Or.inr (Or.inr (Or.inr (Or.inr (if_neg h3))))
  · show g' j = F 1 j
    rw [k1 j hj, G 3 (by decide)]
    exact g1 j hj
