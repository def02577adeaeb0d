/-! ===== places, exactly ===== -/
theorem cntP_in {f : Nat → Int32} : ∀ (d i j : Nat), i ≤ j → j < cntP f d i → xin (f j) 12 := by
  intro d
  induction d with
  | zero => intro i j a l; exact absurd (show j < i from l) (by omega)
  | succ d ih =>
    intro i j a l
    unfold cntP at l
    by_cases x : xin (f i) 12
    · rw [if_pos x] at l
      by_cases e : j = i
      · rw [e]; exact x
      · exact ih (i + 1) j (by omega) l
    · rw [if_neg x] at l
      omega
theorem bare_cell {b x : Int32} (h : xin x 12) : bare b x = x := by
  obtain ⟨k, hk, rfl, -⟩ := nI_ofx x (n := 12) h (by decide)
  have q : ∀ k : Fin 12, nI k.val &&& 255 = nI k.val ∧ nI k.val &&& 65535 = nI k.val := by decide +kernel
  have q := q ⟨k, by omega⟩
  unfold bare
  split
  · exact q.1
  split
  · exact q.2
  · rfl
/-- what places makes of a state -/
theorem pl_iv {n : Nat} {σ : xZ} (I : aIv n σ.1) (Z : zIv σ) {s : Int32} {r : Nat} (a1 : xin s 4) (er : r = cntP (σ.1.2.2 (nat s)) (plN s σ.1) 0) : cIv σ.1.1 (va_up σ.2.1.1 0 (fun j => if j < r then σ.1.2.2 (nat s) j else σ.2.1.1 0 j), σ.2.1.2) ∧ out0 σ.1.1 (va_up σ.2.1.1 0 (fun j => if j < r then σ.1.2.2 (nat s) j else σ.2.1.1 0 j), σ.2.1.2) := by
  obtain ⟨⟨⟨a, b, c, d, e, f⟩, o⟩, -⟩ := Z
  refine ⟨⟨a, b, c, fun j hj => ?_, e, f⟩, o⟩
  show below 11 (if j < r then σ.1.2.2 (nat s) j else σ.2.1.1 0 j)
  by_cases l : j < r
  · rw [if_pos l]
    exact b11 (cntP_in (plN s σ.1) 0 j (Nat.zero_le j) (by rw [← er]; exact l))
  · rw [if_neg l]
    exact d j hj
theorem pl_eq {n : Nat} {s q : xA} (A : agr s q) (I : aIv n s) {a : Int32} (z : xin a 4) : (∀ j, j < 40 → s.2.2 (nat a) j = q.2.2 (nat a) j) ∧ s.2.2 5 (nat a) = q.2.2 5 (nat a) ∧ plN a s = plN a q ∧ cntP (s.2.2 (nat a)) (plN a s) 0 = cntP (q.2.2 (nat a)) (plN a q) 0 ∧ plN a s ≤ 7 := by
  have l := nat4 z
  obtain ⟨h1, h2, h3, -, -⟩ := A.2.1.el
  have ep : plN a s = plN a q := by
    unfold plN
    rw [h2 _ l, A.1.1.2.1]
  have lp : plN a s ≤ 7 := by
    have := bel_nat I.1.1.2.1 (by omega)
    unfold plN
    omega
  refine ⟨fun j hj => h1 _ j l hj, h3 _ l, ep, ?_, lp⟩
  rw [← ep]
  exact cntP_eq fun j hj => by rw [h1 _ j l (by omega)]
theorem pl_H {n : Nat} {σ : xZ} {F v : xS} {K : xKo} {s : Int32} (R : HR n σ F v) (a1 : xin s 4) (u0 : ¬ (hA F v).2.2 5 (nat s) = 0) (h : hKy n (y_places s σ) (f_places s σ.1) K) (r : Nat) (f : Nat → Int32) (er : r = cntP ((hA F v).2.2 (nat s)) (plN s (hA F v)) 0) (f1 : ∀ j, j < r → f j = (hA F v).2.2 (nat s) j) (f2 : ∀ j, r ≤ j → f j = F 6 j) : K (some (.int (nI r))) (xfill (va_up F 6 f) v 0 wH0) := by
  obtain ⟨p1, p2, p3, p4, p5⟩ := pl_eq R.2.2.1 R.J a1
  have u1 : ¬ σ.1.2.2 5 (nat s) = 0 := by rw [← p2]; exact u0
  have er2 := er.trans p4
  unfold y_places f_places at h
  rw [if_pos ⟨a1, u1⟩, if_pos a1, if_neg u1, ← er2] at h
  have rl : r ≤ 7 := by
    have q := cntP_le (f := (hA F v).2.2 (nat s)) (d := plN s (hA F v)) (i := 0)
    omega
  obtain ⟨z1, z2⟩ := R.z.1
  refine h _ v (R.tell (F' := va_up F 6 f) (v' := v) ⟨⟨⟨rfl, rfl, rfl, rfl, rfl, rfl⟩, fun _ _ => ⟨rfl, rfl⟩, fun _ _ => ⟨rfl, rfl⟩, fun _ _ => rfl, fun _ _ => rfl⟩, ⟨⟨fun _ _ => rfl, fun _ _ => rfl, fun _ _ => rfl, fun _ _ => rfl⟩, ⟨⟨rfl, rfl, rfl, rfl⟩, rfl, rfl, rfl, rfl⟩, ⟨rfl, rfl⟩, fun _ _ => rfl⟩, fun _ => ⟨⟨rfl, rfl, rfl, rfl, rfl, rfl⟩, fun _ _ => ⟨rfl, rfl⟩, fun _ _ => ⟨rfl, rfl⟩, fun _ _ => rfl, fun _ _ => rfl⟩⟩ ⟨⟨rfl, rfl⟩, rfl, rfl⟩ rfl ⟨fun j hj => ⟨?_, (z1 j hj).2.1, (z1 j hj).2.2⟩, z2⟩ (pl_iv R.1 R.2.1 a1 er2))
  show f j = if j < r then σ.1.2.2 (nat s) j else σ.2.1.1 0 j
  by_cases l : j < r
  · rw [if_pos l, f1 j l]
    exact p1 j (by omega)
  · rw [if_neg l, f2 j (by omega)]
    exact (z1 j hj).1
theorem pl_H0 {n : Nat} {σ : xZ} {F v : xS} {K : xKo} {s : Int32} (R : HR n σ F v) (a1 : xin s 4) (u0 : (hA F v).2.2 5 (nat s) = 0) (h : hKy n (y_places s σ) (f_places s σ.1) K) (x : Nat → Int32) : K (some (.int (-1000000000 - 2))) (xfill (va_up F 69 x) v 0 wH0) := by
  obtain ⟨p1, p2, p3, p4, p5⟩ := pl_eq R.2.2.1 R.J a1
  have u1 : σ.1.2.2 5 (nat s) = 0 := by rw [← p2]; exact u0
  exact R.no h x (if_neg fun z => z.2 u1) ((if_pos a1).trans (if_pos u1))
theorem pl_M {n : Nat} {σ : xZ} {F v : xS} {K : xKo} {s : Int32} (R : MR n σ F v) (a1 : xin s 4) (u0 : ¬ (mA F v).2.2 5 (nat s) = 0) (h : mKy n (y_places s σ) (f_places s σ.1) K) (r : Nat) (F' : xS) (er : r = cntP ((mA F v).2.2 (nat s)) (plN s (mA F v)) 0) (E : mR r1 F v F' v) (T : tM (F' 1) σ.1.1 (va_up σ.2.1.1 0 (fun j => if j < r then (mA F v).2.2 (nat s) j else σ.2.1.1 0 j), σ.2.1.2)) : K (some (.int (nI r))) (xfill F' v 0 (wM0 0)) := by
  obtain ⟨p1, p2, p3, p4, p5⟩ := pl_eq R.2.2.1 R.J a1
  have u1 : ¬ σ.1.2.2 5 (nat s) = 0 := by rw [← p2]; exact u0
  have er2 := er.trans p4
  unfold y_places f_places at h
  rw [if_pos ⟨a1, u1⟩, if_pos a1, if_neg u1, ← er2] at h
  have rl : r ≤ 7 := by
    have q := cntP_le (f := (mA F v).2.2 (nat s)) (d := plN s (mA F v)) (i := 0)
    omega
  have T2 : tM (F' 1) σ.1.1 (va_up σ.2.1.1 0 (fun j => if j < r then σ.1.2.2 (nat s) j else σ.2.1.1 0 j), σ.2.1.2) := T.ext rfl (fun w j hw hj => by
    by_cases w0 : w = 0
    · subst w0
      show (if j < r then σ.1.2.2 (nat s) j else σ.2.1.1 0 j) = (if j < r then (mA F v).2.2 (nat s) j else σ.2.1.1 0 j)
      by_cases l : j < r
      · rw [if_pos l, if_pos l, p1 j (by omega)]
      · rw [if_neg l, if_neg l]
    · exact (congrFun (if_neg w0) j).trans (congrFun (if_neg w0) j).symm)
  exact h F' v (R.tell E ⟨T2.2.2.2.1, T2.1.2.2.2, T2.2.2.2.2⟩ (pl_iv R.1 R.2.1 a1 er2))
theorem pl_M0 {n : Nat} {σ : xZ} {F v : xS} {K : xKo} {s : Int32} (R : MR n σ F v) (a1 : xin s 4) (u0 : (mA F v).2.2 5 (nat s) = 0) (h : mKy n (y_places s σ) (f_places s σ.1) K) (x : Nat → Int32) : K (some (.int (-1000000002))) (xfill (va_up F 5 x) v 0 (wM0 0)) := by
  obtain ⟨p1, p2, p3, p4, p5⟩ := pl_eq R.2.2.1 R.J a1
  have u1 : σ.1.2.2 5 (nat s) = 0 := by rw [← p2]; exact u0
  exact R.no h x (if_neg fun z => z.2 u1) ((if_pos a1).trans (if_pos u1))
set_option maxRecDepth 100000 in
theorem HX_places (n : Nat) (σ : xZ) (F v : xS) (R : HR n σ F v) (s : Int32) {K : xKo} (h : hKy n (y_places s σ) (f_places s σ.1) K) : C_H_places [.ref 0, .int s] (xfill F v 0 wH0) K := by
  have I := R.J
  have b8 : below 7 (v 1 8) := I.1.1.2.1
  refine xM_go rfl 100 [(52, [0, 1, 2, 3, 4])] fun P hP => ?_
  refine xcall (sp_isBelow _ _ (fun a1 => ?_) (fun a1 => ?_))
  · refine br_n (fun z => absurd rfl z) (fun _ => ?_)
    refine xcall (sp_errH F v 1 (by decide) ?_)
    exact R.no h _ (if_neg fun z => a1 z.1) (if_neg a1)
  refine br_n (fun _ => ?_) (fun z => absurd z (by decide))
  refine ⟨vin a1, ⟨fun es0 => ?_, ⟨fun es0 => ?_, ⟨fun es0 => ?_, ⟨fun es0 => ?_, trivial⟩⟩⟩⟩⟩
  · have b4 : below 40 (v 61 1) := I.2.1.2.1.1
    have es : nat s = 0 := by rw [es0]; decide
    refine xcall (sp_isMissing (fun k => F (61 + k)) (fun k => v (61 + k)) (fun m0 => ?_) (fun m0 => ?_))
    · have m0 : ¬ v 61 2 = 0 := m0
      have u0 : ¬ (hA F v).2.2 5 (nat s) = 0 := by rw [es]; exact m0
      refine br_c (fun _ => ?_) (fun z => absurd rfl z)
      refine xcall (sp_min _ _ ?_)
      have m3 := min_eq b4 b8 (by omega) (by omega)
      obtain ⟨m, em⟩ : ∃ m, m = min (nat (v 61 1)) (nat (v 1 8)) := ⟨_, rfl⟩
      rw [← em] at m3
      have m7 : m ≤ 7 := by have := bel_nat b8 (by omega); omega
      have fin : ∀ (r : Nat) (f : Nat → Int32), r = cntP (F 62) m 0 → (∀ j, j < r → f j = F 62 j) → (∀ j, r ≤ j → f j = F 6 j) → K (some (.int (nI r))) (xfill (va_up F 6 f) v 0 wH0) := by
        intro r f er f1 f2
        have ep : plN s (hA F v) = m := by unfold plN; rw [es, em]; rfl
        exact pl_H R a1 u0 h r f (by rw [ep, er, es]; rfl) (fun j hj => by rw [es]; exact f1 j hj) f2
      have key : ∀ (d i : Nat) (f : Nat → Int32), i + d = m → cntP (F 62) d i = cntP (F 62) m 0 → (∀ j, j < i → f j = F 62 j) → (∀ j, i ≤ j → f j = F 6 j) → xWP pg_H_places K 52 [(0, .ref 0), (1, .int s), (2, .ref 61), (3, .int (nI m)), (4, .int (nI i))] [] (xfill (va_up F 6 f) v 0 wH0) (0, 0) := by
        intro d
        induction d with
        | zero =>
          intro i f hi hc f1 f2
          have hi : i = m := hi
          refine xWP_go 100 [(52, [0, 1, 2, 3, 4])] fun P hP => ?_
          refine br_c (fun _ => ?_) (fun z => ?_)
          · exact fin m f (by rw [← hc, ← hi]; rfl) (fun j hj => f1 j (by omega)) (fun j hj => f2 j (by omega))
          · have z : ¬ nI m ≤ nI i := z
            rw [nI_leI (by omega) (by omega)] at z
            omega
        | succ d ih =>
          intro i f hi hc f1 f2
          have ei : Int32.toNatClampNeg (nI i) = i := nI_clamp (by omega)
          refine xWP_go 100 [(52, [0, 1, 2, 3, 4])] fun P hP => ?_
          refine br_c (fun z => absurd z (nI_ge (by omega) (by omega))) (fun _ => ?_)
          refine ⟨vp_in_nI (by omega) (by omega), ?_⟩
          refine xcall (sp_isBelow _ _ (fun z => ?_) (fun z => ?_))
          · have z : ¬ xin (F 62 i) 12 := by
              intro y
              refine z ?_
              show xin (F 62 (Int32.toNatClampNeg (nI i))) (12 : Int32).toInt
              rw [ei]
              exact y
            refine br_n (fun z => absurd rfl z) (fun _ => ?_)
            exact fin i f (by rw [← hc]; exact (if_neg z).symm) f1 f2
          have z : xin (F 62 i) 12 := by
            have z : xin (F 62 (Int32.toNatClampNeg (nI i))) (12 : Int32).toInt := z
            rw [ei] at z
            exact z
          refine br_n (fun _ => ?_) (fun z => absurd z (by decide))
          refine ⟨vp_in_nI (by omega) (by omega), ?_⟩
          refine ⟨vp_in_nI (by omega) (by omega), ?_⟩
          refine hP _ _ _ _ _ ?_
          rw [nI_1]
          refine ih (i + 1) (upd f (nat (nI i)) (F 62 (nat (nI i)))) (by omega) (by rw [← hc]; exact (if_pos z).symm) (fun j hj => ?_) (fun j hj => ?_)
          · rw [show nat (nI i) = i from ei]
            by_cases ej : j = i
            · rw [ej, pk_us]
            · rw [pk_un ej]; exact f1 j (by omega)
          · rw [show nat (nI i) = i from ei, pk_un (by omega)]
            exact f2 j (by omega)
      refine hP _ _ _ _ _ ?_
      have q := key m 0 (F 6) (by omega) rfl (fun j hj => absurd hj (Nat.not_lt_zero j)) (fun _ _ => rfl)
      rw [← m3] at q
      exact q
    · refine br_c (fun z => absurd z (by decide)) (fun _ => ?_)
      refine xcall (sp_errH F v 2 (by decide) ?_)
      exact pl_H0 R a1 (by rw [es]; exact m0) h _
  · have b4 : below 40 (v 63 1) := I.2.1.2.1.2.1
    have es : nat s = 1 := by rw [es0]; decide
    refine xcall (sp_isMissing (fun k => F (63 + k)) (fun k => v (63 + k)) (fun m0 => ?_) (fun m0 => ?_))
    · have m0 : ¬ v 63 2 = 0 := m0
      have u0 : ¬ (hA F v).2.2 5 (nat s) = 0 := by rw [es]; exact m0
      refine br_c (fun _ => ?_) (fun z => absurd rfl z)
      refine xcall (sp_min _ _ ?_)
      have m3 := min_eq b4 b8 (by omega) (by omega)
      obtain ⟨m, em⟩ : ∃ m, m = min (nat (v 63 1)) (nat (v 1 8)) := ⟨_, rfl⟩
      rw [← em] at m3
      have m7 : m ≤ 7 := by have := bel_nat b8 (by omega); omega
      have fin : ∀ (r : Nat) (f : Nat → Int32), r = cntP (F 64) m 0 → (∀ j, j < r → f j = F 64 j) → (∀ j, r ≤ j → f j = F 6 j) → K (some (.int (nI r))) (xfill (va_up F 6 f) v 0 wH0) := by
        intro r f er f1 f2
        have ep : plN s (hA F v) = m := by unfold plN; rw [es, em]; rfl
        exact pl_H R a1 u0 h r f (by rw [ep, er, es]; rfl) (fun j hj => by rw [es]; exact f1 j hj) f2
      have key : ∀ (d i : Nat) (f : Nat → Int32), i + d = m → cntP (F 64) d i = cntP (F 64) m 0 → (∀ j, j < i → f j = F 64 j) → (∀ j, i ≤ j → f j = F 6 j) → xWP pg_H_places K 52 [(0, .ref 0), (1, .int s), (2, .ref 63), (3, .int (nI m)), (4, .int (nI i))] [] (xfill (va_up F 6 f) v 0 wH0) (0, 0) := by
        intro d
        induction d with
        | zero =>
          intro i f hi hc f1 f2
          have hi : i = m := hi
          refine xWP_go 100 [(52, [0, 1, 2, 3, 4])] fun P hP => ?_
          refine br_c (fun _ => ?_) (fun z => ?_)
          · exact fin m f (by rw [← hc, ← hi]; rfl) (fun j hj => f1 j (by omega)) (fun j hj => f2 j (by omega))
          · have z : ¬ nI m ≤ nI i := z
            rw [nI_leI (by omega) (by omega)] at z
            omega
        | succ d ih =>
          intro i f hi hc f1 f2
          have ei : Int32.toNatClampNeg (nI i) = i := nI_clamp (by omega)
          refine xWP_go 100 [(52, [0, 1, 2, 3, 4])] fun P hP => ?_
          refine br_c (fun z => absurd z (nI_ge (by omega) (by omega))) (fun _ => ?_)
          refine ⟨vp_in_nI (by omega) (by omega), ?_⟩
          refine xcall (sp_isBelow _ _ (fun z => ?_) (fun z => ?_))
          · have z : ¬ xin (F 64 i) 12 := by
              intro y
              refine z ?_
              show xin (F 64 (Int32.toNatClampNeg (nI i))) (12 : Int32).toInt
              rw [ei]
              exact y
            refine br_n (fun z => absurd rfl z) (fun _ => ?_)
            exact fin i f (by rw [← hc]; exact (if_neg z).symm) f1 f2
          have z : xin (F 64 i) 12 := by
            have z : xin (F 64 (Int32.toNatClampNeg (nI i))) (12 : Int32).toInt := z
            rw [ei] at z
            exact z
          refine br_n (fun _ => ?_) (fun z => absurd z (by decide))
          refine ⟨vp_in_nI (by omega) (by omega), ?_⟩
          refine ⟨vp_in_nI (by omega) (by omega), ?_⟩
          refine hP _ _ _ _ _ ?_
          rw [nI_1]
          refine ih (i + 1) (upd f (nat (nI i)) (F 64 (nat (nI i)))) (by omega) (by rw [← hc]; exact (if_pos z).symm) (fun j hj => ?_) (fun j hj => ?_)
          · rw [show nat (nI i) = i from ei]
            by_cases ej : j = i
            · rw [ej, pk_us]
            · rw [pk_un ej]; exact f1 j (by omega)
          · rw [show nat (nI i) = i from ei, pk_un (by omega)]
            exact f2 j (by omega)
      refine hP _ _ _ _ _ ?_
      have q := key m 0 (F 6) (by omega) rfl (fun j hj => absurd hj (Nat.not_lt_zero j)) (fun _ _ => rfl)
      rw [← m3] at q
      exact q
    · refine br_c (fun z => absurd z (by decide)) (fun _ => ?_)
      refine xcall (sp_errH F v 2 (by decide) ?_)
      exact pl_H0 R a1 (by rw [es]; exact m0) h _
  · have b4 : below 40 (v 65 1) := I.2.1.2.1.2.2.1
    have es : nat s = 2 := by rw [es0]; decide
    refine xcall (sp_isMissing (fun k => F (65 + k)) (fun k => v (65 + k)) (fun m0 => ?_) (fun m0 => ?_))
    · have m0 : ¬ v 65 2 = 0 := m0
      have u0 : ¬ (hA F v).2.2 5 (nat s) = 0 := by rw [es]; exact m0
      refine br_c (fun _ => ?_) (fun z => absurd rfl z)
      refine xcall (sp_min _ _ ?_)
      have m3 := min_eq b4 b8 (by omega) (by omega)
      obtain ⟨m, em⟩ : ∃ m, m = min (nat (v 65 1)) (nat (v 1 8)) := ⟨_, rfl⟩
      rw [← em] at m3
      have m7 : m ≤ 7 := by have := bel_nat b8 (by omega); omega
      have fin : ∀ (r : Nat) (f : Nat → Int32), r = cntP (F 66) m 0 → (∀ j, j < r → f j = F 66 j) → (∀ j, r ≤ j → f j = F 6 j) → K (some (.int (nI r))) (xfill (va_up F 6 f) v 0 wH0) := by
        intro r f er f1 f2
        have ep : plN s (hA F v) = m := by unfold plN; rw [es, em]; rfl
        exact pl_H R a1 u0 h r f (by rw [ep, er, es]; rfl) (fun j hj => by rw [es]; exact f1 j hj) f2
      have key : ∀ (d i : Nat) (f : Nat → Int32), i + d = m → cntP (F 66) d i = cntP (F 66) m 0 → (∀ j, j < i → f j = F 66 j) → (∀ j, i ≤ j → f j = F 6 j) → xWP pg_H_places K 52 [(0, .ref 0), (1, .int s), (2, .ref 65), (3, .int (nI m)), (4, .int (nI i))] [] (xfill (va_up F 6 f) v 0 wH0) (0, 0) := by
        intro d
        induction d with
        | zero =>
          intro i f hi hc f1 f2
          have hi : i = m := hi
          refine xWP_go 100 [(52, [0, 1, 2, 3, 4])] fun P hP => ?_
          refine br_c (fun _ => ?_) (fun z => ?_)
          · exact fin m f (by rw [← hc, ← hi]; rfl) (fun j hj => f1 j (by omega)) (fun j hj => f2 j (by omega))
          · have z : ¬ nI m ≤ nI i := z
            rw [nI_leI (by omega) (by omega)] at z
            omega
        | succ d ih =>
          intro i f hi hc f1 f2
          have ei : Int32.toNatClampNeg (nI i) = i := nI_clamp (by omega)
          refine xWP_go 100 [(52, [0, 1, 2, 3, 4])] fun P hP => ?_
          refine br_c (fun z => absurd z (nI_ge (by omega) (by omega))) (fun _ => ?_)
          refine ⟨vp_in_nI (by omega) (by omega), ?_⟩
          refine xcall (sp_isBelow _ _ (fun z => ?_) (fun z => ?_))
          · have z : ¬ xin (F 66 i) 12 := by
              intro y
              refine z ?_
              show xin (F 66 (Int32.toNatClampNeg (nI i))) (12 : Int32).toInt
              rw [ei]
              exact y
            refine br_n (fun z => absurd rfl z) (fun _ => ?_)
            exact fin i f (by rw [← hc]; exact (if_neg z).symm) f1 f2
          have z : xin (F 66 i) 12 := by
            have z : xin (F 66 (Int32.toNatClampNeg (nI i))) (12 : Int32).toInt := z
            rw [ei] at z
            exact z
          refine br_n (fun _ => ?_) (fun z => absurd z (by decide))
          refine ⟨vp_in_nI (by omega) (by omega), ?_⟩
          refine ⟨vp_in_nI (by omega) (by omega), ?_⟩
          refine hP _ _ _ _ _ ?_
          rw [nI_1]
          refine ih (i + 1) (upd f (nat (nI i)) (F 66 (nat (nI i)))) (by omega) (by rw [← hc]; exact (if_pos z).symm) (fun j hj => ?_) (fun j hj => ?_)
          · rw [show nat (nI i) = i from ei]
            by_cases ej : j = i
            · rw [ej, pk_us]
            · rw [pk_un ej]; exact f1 j (by omega)
          · rw [show nat (nI i) = i from ei, pk_un (by omega)]
            exact f2 j (by omega)
      refine hP _ _ _ _ _ ?_
      have q := key m 0 (F 6) (by omega) rfl (fun j hj => absurd hj (Nat.not_lt_zero j)) (fun _ _ => rfl)
      rw [← m3] at q
      exact q
    · refine br_c (fun z => absurd z (by decide)) (fun _ => ?_)
      refine xcall (sp_errH F v 2 (by decide) ?_)
      exact pl_H0 R a1 (by rw [es]; exact m0) h _
  · have b4 : below 40 (v 67 1) := I.2.1.2.1.2.2.2
    have es : nat s = 3 := by rw [es0]; decide
    refine xcall (sp_isMissing (fun k => F (67 + k)) (fun k => v (67 + k)) (fun m0 => ?_) (fun m0 => ?_))
    · have m0 : ¬ v 67 2 = 0 := m0
      have u0 : ¬ (hA F v).2.2 5 (nat s) = 0 := by rw [es]; exact m0
      refine br_c (fun _ => ?_) (fun z => absurd rfl z)
      refine xcall (sp_min _ _ ?_)
      have m3 := min_eq b4 b8 (by omega) (by omega)
      obtain ⟨m, em⟩ : ∃ m, m = min (nat (v 67 1)) (nat (v 1 8)) := ⟨_, rfl⟩
      rw [← em] at m3
      have m7 : m ≤ 7 := by have := bel_nat b8 (by omega); omega
      have fin : ∀ (r : Nat) (f : Nat → Int32), r = cntP (F 68) m 0 → (∀ j, j < r → f j = F 68 j) → (∀ j, r ≤ j → f j = F 6 j) → K (some (.int (nI r))) (xfill (va_up F 6 f) v 0 wH0) := by
        intro r f er f1 f2
        have ep : plN s (hA F v) = m := by unfold plN; rw [es, em]; rfl
        exact pl_H R a1 u0 h r f (by rw [ep, er, es]; rfl) (fun j hj => by rw [es]; exact f1 j hj) f2
      have key : ∀ (d i : Nat) (f : Nat → Int32), i + d = m → cntP (F 68) d i = cntP (F 68) m 0 → (∀ j, j < i → f j = F 68 j) → (∀ j, i ≤ j → f j = F 6 j) → xWP pg_H_places K 52 [(0, .ref 0), (1, .int s), (2, .ref 67), (3, .int (nI m)), (4, .int (nI i))] [] (xfill (va_up F 6 f) v 0 wH0) (0, 0) := by
        intro d
        induction d with
        | zero =>
          intro i f hi hc f1 f2
          have hi : i = m := hi
          refine xWP_go 100 [(52, [0, 1, 2, 3, 4])] fun P hP => ?_
          refine br_c (fun _ => ?_) (fun z => ?_)
          · exact fin m f (by rw [← hc, ← hi]; rfl) (fun j hj => f1 j (by omega)) (fun j hj => f2 j (by omega))
          · have z : ¬ nI m ≤ nI i := z
            rw [nI_leI (by omega) (by omega)] at z
            omega
        | succ d ih =>
          intro i f hi hc f1 f2
          have ei : Int32.toNatClampNeg (nI i) = i := nI_clamp (by omega)
          refine xWP_go 100 [(52, [0, 1, 2, 3, 4])] fun P hP => ?_
          refine br_c (fun z => absurd z (nI_ge (by omega) (by omega))) (fun _ => ?_)
          refine ⟨vp_in_nI (by omega) (by omega), ?_⟩
          refine xcall (sp_isBelow _ _ (fun z => ?_) (fun z => ?_))
          · have z : ¬ xin (F 68 i) 12 := by
              intro y
              refine z ?_
              show xin (F 68 (Int32.toNatClampNeg (nI i))) (12 : Int32).toInt
              rw [ei]
              exact y
            refine br_n (fun z => absurd rfl z) (fun _ => ?_)
            exact fin i f (by rw [← hc]; exact (if_neg z).symm) f1 f2
          have z : xin (F 68 i) 12 := by
            have z : xin (F 68 (Int32.toNatClampNeg (nI i))) (12 : Int32).toInt := z
            rw [ei] at z
            exact z
          refine br_n (fun _ => ?_) (fun z => absurd z (by decide))
          refine ⟨vp_in_nI (by omega) (by omega), ?_⟩
          refine ⟨vp_in_nI (by omega) (by omega), ?_⟩
          refine hP _ _ _ _ _ ?_
          rw [nI_1]
          refine ih (i + 1) (upd f (nat (nI i)) (F 68 (nat (nI i)))) (by omega) (by rw [← hc]; exact (if_pos z).symm) (fun j hj => ?_) (fun j hj => ?_)
          · rw [show nat (nI i) = i from ei]
            by_cases ej : j = i
            · rw [ej, pk_us]
            · rw [pk_un ej]; exact f1 j (by omega)
          · rw [show nat (nI i) = i from ei, pk_un (by omega)]
            exact f2 j (by omega)
      refine hP _ _ _ _ _ ?_
      have q := key m 0 (F 6) (by omega) rfl (fun j hj => absurd hj (Nat.not_lt_zero j)) (fun _ _ => rfl)
      rw [← m3] at q
      exact q
    · refine br_c (fun z => absurd z (by decide)) (fun _ => ?_)
      refine xcall (sp_errH F v 2 (by decide) ?_)
      exact pl_H0 R a1 (by rw [es]; exact m0) h _
set_option maxRecDepth 100000 in
theorem MX_places (n : Nat) (σ : xZ) (F v : xS) (R : MR n σ F v) (s : Int32) {K : xKo} (h : mKy n (y_places s σ) (f_places s σ.1) K) : C_M_places [.ref 0, .int s] (xfill F v 0 (wM0 0)) K := by
  have I := R.J
  have S := R.2.2.2
  refine xM_go rfl 200 [(32, [0, 1, 2])] fun P hP => ?_
  refine xcall (sp_isSheet _ (fun a1 => ?_) (fun a1 => ?_))
  · refine br_n (fun z => absurd rfl z) (fun _ => ?_)
    refine xcall (sp_errM F v (-1000000001) 1 (by decide) (by decide) ?_)
    exact R.no h _ (if_neg fun z => a1 z.1) (if_neg a1)
  refine br_n (fun _ => ?_) (fun z => absurd z (by decide))
  obtain ⟨k, hk, rfl, ek⟩ := nI_ofx s (n := 4) a1 (by decide)
  have bs : vp_in (nI k) 4 := vin a1
  have ek : Int32.toNatClampNeg (nI k) = k := ek
  obtain ⟨q, hq, eq⟩ := rI4 (k := k) I (by omega)
  obtain ⟨mc, hm, em⟩ : below 7 (F 1 2) := I.1.1.2.1
  obtain ⟨N, eN⟩ : ∃ N, N = min q mc := ⟨_, rfl⟩
  have ep : plN (nI k) (mA F v) = N := by
    unfold plN
    rw [show nat (nI k) = k from ek, eN]
    show min (nat (F 7 k)) (nat (F 1 2)) = min q mc
    rw [eq, em, show nat (nI q) = q from nI_clamp (by omega), show nat (nI mc) = mc from nI_clamp (by omega)]
  refine ⟨bs, ?_⟩
  refine br_n (fun c0 => ?_) (fun c0 => ?_)
  · have u0 : ¬ (mA F v).2.2 5 (nat (nI k)) = 0 := c0
    have ecn : cntP ((mA F v).2.2 (nat (nI k))) (plN (nI k) (mA F v)) 0 = cntP (fun j => F 8 (40 * k + j)) N 0 := by
      rw [ep, show nat (nI k) = k from ek]
      refine cntP_eq fun j hj => ?_
      show xin (mRs F v k j) 12 ↔ _
      rw [mSh (by omega)]
      exact sgn_cell (S.2.2.2.2 k j (by omega) (by omega))
    have fin : ∀ (r : Nat) (F' : xS), r = cntP (fun j => F 8 (40 * k + j)) N 0 → mR r1 F v F' v → tM (F' 1) σ.1.1 (Xat σ.2.1 (fun j => F 8 (40 * k + j)) r) → K (some (.int (nI r))) (xfill F' v 0 (wM0 0)) := by
      intro r F' er E T'
      refine pl_M R a1 u0 h r F' (er.trans ecn.symm) E (T'.ext rfl (fun w j hw hj => ?_))
      by_cases w0 : w = 0
      · subst w0
        show (if j < r then (mA F v).2.2 (nat (nI k)) j else σ.2.1.1 0 j) = (if j < r then F 8 (40 * k + j) else σ.2.1.1 0 j)
        by_cases l : j < r
        · rw [if_pos l, if_pos l, show nat (nI k) = k from ek]
          show mRs F v k j = _
          rw [mSh (by omega)]
          exact bare_cell (cntP_in (f := fun j => F 8 (40 * k + j)) N 0 j (Nat.zero_le j) (by rw [← er]; exact l))
        · rw [if_neg l, if_neg l]
      · exact (congrFun (if_neg w0) j).trans (congrFun (if_neg w0) j).symm
    have key : ∀ (d i : Nat) (F' : xS), i + d = N → mR r1 F v F' v → cntP (fun j => F 8 (40 * k + j)) d i = cntP (fun j => F 8 (40 * k + j)) N 0 → tM (F' 1) σ.1.1 (Xat σ.2.1 (fun j => F 8 (40 * k + j)) i) → xWP pg_M_places K 32 [(0, .ref 0), (1, .int (nI k)), (2, .int (nI i))] [] (xfill F' v 0 (wM0 0)) (0, 0) := by
      intro d
      induction d with
      | zero =>
        intro i F' hi E hc TT
        have e7 := E.k (k := 7) (by decide)
        have eM := E.2.1 2 (by omega) rfl
        have f0 := fin i F' (by rw [← hc]; rfl) E TT
        refine xWP_go 200 [(32, [0, 1, 2])] fun P hP => ?_
        refine ⟨bs, ?_⟩
        refine br_c (fun _ => f0) (fun z => ?_)
        have z : ¬ F' 7 (Int32.toNatClampNeg (nI k)) ≤ nI i := z
        rw [ek, e7, eq, nI_leI (by omega) (by omega)] at z
        refine xcall (sp_isChildM F' v _ ⟨mc, hm, eM.trans em⟩ (fun a2 => ?_) (fun a2 => ?_))
        · refine br_c (fun _ => f0) (fun z => absurd rfl z)
        · have y := a2.2
          rw [eM, em, nI_toInt (by omega), nI_toInt (by omega)] at y
          omega
      | succ d ih =>
        intro i F' hi E hc TT
        have e7 := E.k (k := 7) (by decide)
        have e8 := E.k (k := 8) (by decide)
        have eM := E.2.1 2 (by omega) rfl
        have i7 : i < 7 := by omega
        have bi : vp_in ((40 : Int32) * nI k + nI i) 160 := by rw [ix40]; exact vp_in_nI (by omega) (by omega)
        have n40 : Int32.toNatClampNeg ((40 : Int32) * nI k + nI i) = 40 * k + i := by rw [ix40]; exact nI_clamp (by omega)
        refine xWP_go 200 [(32, [0, 1, 2])] fun P hP => ?_
        refine ⟨bs, ?_⟩
        refine br_c (fun z => ?_) (fun _ => ?_)
        · have z : F' 7 (Int32.toNatClampNeg (nI k)) ≤ nI i := z
          rw [ek, e7, eq, nI_leI (by omega) (by omega)] at z
          omega
        refine xcall (sp_isChildM F' v _ ⟨mc, hm, eM.trans em⟩ (fun a2 => ?_) (fun a2 => ?_))
        · exact absurd ⟨by rw [nI_toInt (by omega)]; omega, by rw [eM, em, nI_toInt (by omega), nI_toInt (by omega)]; omega⟩ a2
        refine br_c (fun z => absurd z (by decide)) (fun _ => ?_)
        refine ⟨bi, ?_⟩
        refine xcall (sp_isCell _ (fun a3 => ?_) (fun a3 => ?_))
        · have a3 : ¬ xin (F 8 (40 * k + i)) 12 := by
            have a3 : ¬ xin (F' 8 (Int32.toNatClampNeg ((40 : Int32) * nI k + nI i))) 12 := a3
            rw [n40, e8] at a3
            exact a3
          refine br_c (fun _ => ?_) (fun z => absurd rfl z)
          exact fin i F' (by rw [← hc]; exact (if_neg a3).symm) E TT
        have a3 : xin (F 8 (40 * k + i)) 12 := by
          have a3 : xin (F' 8 (Int32.toNatClampNeg ((40 : Int32) * nI k + nI i))) 12 := a3
          rw [n40, e8] at a3
          exact a3
        refine br_c (fun z => absurd z (by decide)) (fun _ => ?_)
        refine ⟨bi, ?_⟩
        refine xcall (sx_gets F' v i 2 i7 (by omega) 2 rfl _ ?_)
        refine hP _ _ _ _ _ ?_
        rw [nI_1]
        have rr := r1_at (i := i) (w := 2) i7 (by omega) (by omega)
        rw [nc5 (by omega) (by omega)] at rr
        refine ih (i + 1) _ (by omega) (E.row rr) (by rw [← hc]; exact (if_pos a3).symm) (TT.up (X' := Xat σ.2.1 (fun j => F 8 (40 * k + j)) (i + 1)) R.c.1.1 R.c.1.2 i7 (by decide) _ rfl (fun w j hw hj => ?_))
        have n40 : F' 8 (Int32.toNatClampNeg ((40 : Int32) * nI k + nI i)) = F 8 (40 * k + i) := by rw [n40, e8]
        rcases (show w = 0 ∨ w = 1 ∨ w = 2 by omega) with e | e | e
        all_goals subst e
        · show (if j < i + 1 then F 8 (40 * k + j) else σ.2.1.1 0 j) = if 0 + 2 = 2 ∧ j = i then F' 8 (Int32.toNatClampNeg ((40 : Int32) * nI k + nI i)) else (if j < i then F 8 (40 * k + j) else σ.2.1.1 0 j)
          by_cases ej : j = i
          · subst ej
            rw [if_pos (Nat.lt_succ_self j), if_pos ⟨rfl, rfl⟩, n40]
          · have r : (if 0 + 2 = 2 ∧ j = i then F' 8 (Int32.toNatClampNeg ((40 : Int32) * nI k + nI i)) else (if j < i then F 8 (40 * k + j) else σ.2.1.1 0 j)) = (if j < i then F 8 (40 * k + j) else σ.2.1.1 0 j) := if_neg (fun z => ej z.2)
            rw [r]
            by_cases l : j < i
            · rw [if_pos l, if_pos (by omega)]
            · rw [if_neg l, if_neg (by omega)]
        · exact (if_neg (fun z => absurd z.1 (by decide))).symm
        · exact (if_neg (fun z => absurd z.1 (by decide))).symm
    refine hP _ _ _ _ _ ?_
    exact key N 0 F (by omega) mR.rf rfl (R.t.ext rfl (fun w j hw hj => by
      rcases (show w = 0 ∨ w = 1 ∨ w = 2 by omega) with e | e | e
      all_goals subst e
      all_goals rfl))
  · have u0 : (mA F v).2.2 5 (nat (nI k)) = 0 := c0
    refine xcall (sp_errM F v (-1000000002) 2 (by decide) (by decide) ?_)
    exact pl_M0 R a1 u0 h _
