/-! ===== the tried side: sheets read and moved ===== -/
theorem min_bel {a b : Int32} {A B : Nat} (ha : below A a) (hb : below B b) (hA : A < 2 ^ 31) (hB : B < 2 ^ 31) : ∃ m, m ≤ A ∧ m ≤ B ∧ (if a ≤ b then a else b) = nI m ∧ m ≤ nat a ∧ m ≤ nat b := by
  obtain ⟨k, hk, rfl⟩ := ha
  obtain ⟨j, hj, rfl⟩ := hb
  rw [show nat (nI k) = k from nI_clamp (by omega), show nat (nI j) = j from nI_clamp (by omega)]
  by_cases h : k ≤ j
  · exact ⟨k, hk, by omega, if_pos ((nI_leI (by omega) (by omega)).mpr h), by omega, h⟩
  · exact ⟨j, by omega, hj, if_neg (fun z => h ((nI_leI (by omega) (by omega)).mp z)), by omega, by omega⟩
set_option maxRecDepth 100000 in
theorem hs_judge (n : Nat) (F v : xS) (I : aIv n (hA F v)) (S : hS v) (s : Int32) {K : xKo} (h : hTw F v (fun s => s) K) : C_H_judge [.ref 0, .int s] (xfill F v 0 wH0) K := by
  have b8 : below 7 (v 1 8) := I.1.1.2.1
  refine xM_go rfl 100 [(52, [0, 1, 2, 3, 4])] fun P hP => ?_
  refine xcall (sp_isBelow _ _ (fun a1 => ?_) (fun a1 => ?_))
  · refine br_n (fun z => absurd rfl z) (fun _ => ?_)
    refine xcall (sp_errH F v 1 (by decide) ?_)
    exact h.err S _ rfl
  refine br_n (fun _ => ?_) (fun z => absurd z (by decide))
  refine ⟨vin a1, ⟨fun es0 => ?_, ⟨fun es0 => ?_, ⟨fun es0 => ?_, ⟨fun es0 => ?_, trivial⟩⟩⟩⟩⟩
  · have b4 : below 40 (v 61 1) := I.2.1.2.1.1
    refine xcall (sp_isMissing (fun k => F (61 + k)) (fun k => v (61 + k)) (fun m0 => ?_) (fun m0 => ?_))
    · refine br_c (fun _ => ?_) (fun z => absurd rfl z)
      refine xcall (sp_min _ _ ?_)
      obtain ⟨m, m1, m2, m3, m4, m5⟩ := min_bel b4 b8 (by omega) (by omega)
      have key : ∀ (d i : Nat), i + d = m → xWP pg_H_judge K 52 [(0, .ref 0), (1, .int s), (2, .ref 61), (3, .int (nI m)), (4, .int (nI i))] [] (xfill F v 0 wH0) (0, 0) := by
        intro d
        induction d with
        | zero =>
          intro i hi
          have hi : i = m := hi
          subst hi
          refine xWP_go 100 [(52, [0, 1, 2, 3, 4])] fun P hP => ?_
          refine br_c (fun _ => ?_) (fun z => absurd (nI_le (Nat.le_refl _) (by omega)) z)
          refine br_n (fun _ => ?_) (fun _ => ?_)
          · exact h.id S rfl
          · exact h.id S rfl
        | succ d ih =>
          intro i hi
          refine xWP_go 100 [(52, [0, 1, 2, 3, 4])] fun P hP => ?_
          refine br_c (fun z => absurd z (nI_ge (by omega) (by omega))) (fun _ => ?_)
          refine ⟨vp_in_nI (by omega) (by omega), ?_⟩
          refine ⟨vp_in_nI (by omega) (by omega), ?_⟩
          refine br_c (fun _ => ?_) (fun _ => ?_)
          · refine hP _ _ _ _ _ ?_
            rw [nI_1]
            exact ih (i + 1) (by omega)
          · exact h.id S rfl
      refine hP _ _ _ _ _ ?_
      have q := key m 0 (by omega)
      rw [← m3] at q
      exact q
    · refine br_c (fun z => absurd z (by decide)) (fun _ => ?_)
      refine xcall (sp_errH F v 2 (by decide) ?_)
      exact h.err S _ rfl
  · have b4 : below 40 (v 63 1) := I.2.1.2.1.2.1
    refine xcall (sp_isMissing (fun k => F (63 + k)) (fun k => v (63 + k)) (fun m0 => ?_) (fun m0 => ?_))
    · refine br_c (fun _ => ?_) (fun z => absurd rfl z)
      refine xcall (sp_min _ _ ?_)
      obtain ⟨m, m1, m2, m3, m4, m5⟩ := min_bel b4 b8 (by omega) (by omega)
      have key : ∀ (d i : Nat), i + d = m → xWP pg_H_judge K 52 [(0, .ref 0), (1, .int s), (2, .ref 63), (3, .int (nI m)), (4, .int (nI i))] [] (xfill F v 0 wH0) (0, 0) := by
        intro d
        induction d with
        | zero =>
          intro i hi
          have hi : i = m := hi
          subst hi
          refine xWP_go 100 [(52, [0, 1, 2, 3, 4])] fun P hP => ?_
          refine br_c (fun _ => ?_) (fun z => absurd (nI_le (Nat.le_refl _) (by omega)) z)
          refine br_n (fun _ => ?_) (fun _ => ?_)
          · exact h.id S rfl
          · exact h.id S rfl
        | succ d ih =>
          intro i hi
          refine xWP_go 100 [(52, [0, 1, 2, 3, 4])] fun P hP => ?_
          refine br_c (fun z => absurd z (nI_ge (by omega) (by omega))) (fun _ => ?_)
          refine ⟨vp_in_nI (by omega) (by omega), ?_⟩
          refine ⟨vp_in_nI (by omega) (by omega), ?_⟩
          refine br_c (fun _ => ?_) (fun _ => ?_)
          · refine hP _ _ _ _ _ ?_
            rw [nI_1]
            exact ih (i + 1) (by omega)
          · exact h.id S rfl
      refine hP _ _ _ _ _ ?_
      have q := key m 0 (by omega)
      rw [← m3] at q
      exact q
    · refine br_c (fun z => absurd z (by decide)) (fun _ => ?_)
      refine xcall (sp_errH F v 2 (by decide) ?_)
      exact h.err S _ rfl
  · have b4 : below 40 (v 65 1) := I.2.1.2.1.2.2.1
    refine xcall (sp_isMissing (fun k => F (65 + k)) (fun k => v (65 + k)) (fun m0 => ?_) (fun m0 => ?_))
    · refine br_c (fun _ => ?_) (fun z => absurd rfl z)
      refine xcall (sp_min _ _ ?_)
      obtain ⟨m, m1, m2, m3, m4, m5⟩ := min_bel b4 b8 (by omega) (by omega)
      have key : ∀ (d i : Nat), i + d = m → xWP pg_H_judge K 52 [(0, .ref 0), (1, .int s), (2, .ref 65), (3, .int (nI m)), (4, .int (nI i))] [] (xfill F v 0 wH0) (0, 0) := by
        intro d
        induction d with
        | zero =>
          intro i hi
          have hi : i = m := hi
          subst hi
          refine xWP_go 100 [(52, [0, 1, 2, 3, 4])] fun P hP => ?_
          refine br_c (fun _ => ?_) (fun z => absurd (nI_le (Nat.le_refl _) (by omega)) z)
          refine br_n (fun _ => ?_) (fun _ => ?_)
          · exact h.id S rfl
          · exact h.id S rfl
        | succ d ih =>
          intro i hi
          refine xWP_go 100 [(52, [0, 1, 2, 3, 4])] fun P hP => ?_
          refine br_c (fun z => absurd z (nI_ge (by omega) (by omega))) (fun _ => ?_)
          refine ⟨vp_in_nI (by omega) (by omega), ?_⟩
          refine ⟨vp_in_nI (by omega) (by omega), ?_⟩
          refine br_c (fun _ => ?_) (fun _ => ?_)
          · refine hP _ _ _ _ _ ?_
            rw [nI_1]
            exact ih (i + 1) (by omega)
          · exact h.id S rfl
      refine hP _ _ _ _ _ ?_
      have q := key m 0 (by omega)
      rw [← m3] at q
      exact q
    · refine br_c (fun z => absurd z (by decide)) (fun _ => ?_)
      refine xcall (sp_errH F v 2 (by decide) ?_)
      exact h.err S _ rfl
  · have b4 : below 40 (v 67 1) := I.2.1.2.1.2.2.2
    refine xcall (sp_isMissing (fun k => F (67 + k)) (fun k => v (67 + k)) (fun m0 => ?_) (fun m0 => ?_))
    · refine br_c (fun _ => ?_) (fun z => absurd rfl z)
      refine xcall (sp_min _ _ ?_)
      obtain ⟨m, m1, m2, m3, m4, m5⟩ := min_bel b4 b8 (by omega) (by omega)
      have key : ∀ (d i : Nat), i + d = m → xWP pg_H_judge K 52 [(0, .ref 0), (1, .int s), (2, .ref 67), (3, .int (nI m)), (4, .int (nI i))] [] (xfill F v 0 wH0) (0, 0) := by
        intro d
        induction d with
        | zero =>
          intro i hi
          have hi : i = m := hi
          subst hi
          refine xWP_go 100 [(52, [0, 1, 2, 3, 4])] fun P hP => ?_
          refine br_c (fun _ => ?_) (fun z => absurd (nI_le (Nat.le_refl _) (by omega)) z)
          refine br_n (fun _ => ?_) (fun _ => ?_)
          · exact h.id S rfl
          · exact h.id S rfl
        | succ d ih =>
          intro i hi
          refine xWP_go 100 [(52, [0, 1, 2, 3, 4])] fun P hP => ?_
          refine br_c (fun z => absurd z (nI_ge (by omega) (by omega))) (fun _ => ?_)
          refine ⟨vp_in_nI (by omega) (by omega), ?_⟩
          refine ⟨vp_in_nI (by omega) (by omega), ?_⟩
          refine br_c (fun _ => ?_) (fun _ => ?_)
          · refine hP _ _ _ _ _ ?_
            rw [nI_1]
            exact ih (i + 1) (by omega)
          · exact h.id S rfl
      refine hP _ _ _ _ _ ?_
      have q := key m 0 (by omega)
      rw [← m3] at q
      exact q
    · refine br_c (fun z => absurd z (by decide)) (fun _ => ?_)
      refine xcall (sp_errH F v 2 (by decide) ?_)
      exact h.err S _ rfl
set_option maxRecDepth 100000 in
theorem hs_places (n : Nat) (F v : xS) (I : aIv n (hA F v)) (S : hS v) (s : Int32) {K : xKo} (h : hTw F v (fun s => s) K) : C_H_places [.ref 0, .int s] (xfill F v 0 wH0) K := by
  have b8 : below 7 (v 1 8) := I.1.1.2.1
  refine xM_go rfl 100 [(52, [0, 1, 2, 3, 4])] fun P hP => ?_
  refine xcall (sp_isBelow _ _ (fun a1 => ?_) (fun a1 => ?_))
  · refine br_n (fun z => absurd rfl z) (fun _ => ?_)
    refine xcall (sp_errH F v 1 (by decide) ?_)
    exact h.err S _ rfl
  refine br_n (fun _ => ?_) (fun z => absurd z (by decide))
  refine ⟨vin a1, ⟨fun es0 => ?_, ⟨fun es0 => ?_, ⟨fun es0 => ?_, ⟨fun es0 => ?_, trivial⟩⟩⟩⟩⟩
  · have b4 : below 40 (v 61 1) := I.2.1.2.1.1
    refine xcall (sp_isMissing (fun k => F (61 + k)) (fun k => v (61 + k)) (fun m0 => ?_) (fun m0 => ?_))
    · refine br_c (fun _ => ?_) (fun z => absurd rfl z)
      refine xcall (sp_min _ _ ?_)
      obtain ⟨m, m1, m2, m3, m4, m5⟩ := min_bel b4 b8 (by omega) (by omega)
      have fin : ∀ (r : Int32) (f : Nat → Int32), K (some (.int r)) (xfill (va_up F 6 f) v 0 wH0) := fun r f => h r (va_up F 6 f) v S ⟨⟨⟨rfl, rfl, rfl, rfl, rfl, rfl⟩, fun _ _ => ⟨rfl, rfl⟩, fun _ _ => ⟨rfl, rfl⟩, fun _ _ => rfl, fun _ _ => rfl⟩, ⟨⟨fun _ _ => rfl, fun _ _ => rfl, fun _ _ => rfl, fun _ _ => rfl⟩, ⟨⟨rfl, rfl, rfl, rfl⟩, rfl, rfl, rfl, rfl⟩, ⟨rfl, rfl⟩, fun _ _ => rfl⟩, fun _ => ⟨⟨rfl, rfl, rfl, rfl, rfl, rfl⟩, fun _ _ => ⟨rfl, rfl⟩, fun _ _ => ⟨rfl, rfl⟩, fun _ _ => rfl, fun _ _ => rfl⟩⟩
      have key : ∀ (d i : Nat) (f : Nat → Int32), i + d = m → xWP pg_H_places K 52 [(0, .ref 0), (1, .int s), (2, .ref 61), (3, .int (nI m)), (4, .int (nI i))] [] (xfill (va_up F 6 f) v 0 wH0) (0, 0) := by
        intro d
        induction d with
        | zero =>
          intro i f hi
          have hi : i = m := hi
          subst hi
          refine xWP_go 100 [(52, [0, 1, 2, 3, 4])] fun P hP => ?_
          refine br_c (fun _ => ?_) (fun z => absurd (nI_le (Nat.le_refl _) (by omega)) z)
          exact fin _ f
        | succ d ih =>
          intro i f hi
          refine xWP_go 100 [(52, [0, 1, 2, 3, 4])] fun P hP => ?_
          refine br_c (fun z => absurd z (nI_ge (by omega) (by omega))) (fun _ => ?_)
          refine ⟨vp_in_nI (by omega) (by omega), ?_⟩
          refine xcall (sp_isBelow _ _ (fun z => ?_) (fun z => ?_))
          · refine br_n (fun z => absurd rfl z) (fun _ => ?_)
            exact fin _ f
          refine br_n (fun _ => ?_) (fun z => absurd z (by decide))
          refine ⟨vp_in_nI (by omega) (by omega), ?_⟩
          refine ⟨vp_in_nI (by omega) (by omega), ?_⟩
          refine hP _ _ _ _ _ ?_
          rw [nI_1]
          exact ih (i + 1) (upd f (nat (nI i)) (F 62 (nat (nI i)))) (by omega)
      refine hP _ _ _ _ _ ?_
      have q := key m 0 (F 6) (by omega)
      rw [← m3] at q
      exact q
    · refine br_c (fun z => absurd z (by decide)) (fun _ => ?_)
      refine xcall (sp_errH F v 2 (by decide) ?_)
      exact h.err S _ rfl
  · have b4 : below 40 (v 63 1) := I.2.1.2.1.2.1
    refine xcall (sp_isMissing (fun k => F (63 + k)) (fun k => v (63 + k)) (fun m0 => ?_) (fun m0 => ?_))
    · refine br_c (fun _ => ?_) (fun z => absurd rfl z)
      refine xcall (sp_min _ _ ?_)
      obtain ⟨m, m1, m2, m3, m4, m5⟩ := min_bel b4 b8 (by omega) (by omega)
      have fin : ∀ (r : Int32) (f : Nat → Int32), K (some (.int r)) (xfill (va_up F 6 f) v 0 wH0) := fun r f => h r (va_up F 6 f) v S ⟨⟨⟨rfl, rfl, rfl, rfl, rfl, rfl⟩, fun _ _ => ⟨rfl, rfl⟩, fun _ _ => ⟨rfl, rfl⟩, fun _ _ => rfl, fun _ _ => rfl⟩, ⟨⟨fun _ _ => rfl, fun _ _ => rfl, fun _ _ => rfl, fun _ _ => rfl⟩, ⟨⟨rfl, rfl, rfl, rfl⟩, rfl, rfl, rfl, rfl⟩, ⟨rfl, rfl⟩, fun _ _ => rfl⟩, fun _ => ⟨⟨rfl, rfl, rfl, rfl, rfl, rfl⟩, fun _ _ => ⟨rfl, rfl⟩, fun _ _ => ⟨rfl, rfl⟩, fun _ _ => rfl, fun _ _ => rfl⟩⟩
      have key : ∀ (d i : Nat) (f : Nat → Int32), i + d = m → xWP pg_H_places K 52 [(0, .ref 0), (1, .int s), (2, .ref 63), (3, .int (nI m)), (4, .int (nI i))] [] (xfill (va_up F 6 f) v 0 wH0) (0, 0) := by
        intro d
        induction d with
        | zero =>
          intro i f hi
          have hi : i = m := hi
          subst hi
          refine xWP_go 100 [(52, [0, 1, 2, 3, 4])] fun P hP => ?_
          refine br_c (fun _ => ?_) (fun z => absurd (nI_le (Nat.le_refl _) (by omega)) z)
          exact fin _ f
        | succ d ih =>
          intro i f hi
          refine xWP_go 100 [(52, [0, 1, 2, 3, 4])] fun P hP => ?_
          refine br_c (fun z => absurd z (nI_ge (by omega) (by omega))) (fun _ => ?_)
          refine ⟨vp_in_nI (by omega) (by omega), ?_⟩
          refine xcall (sp_isBelow _ _ (fun z => ?_) (fun z => ?_))
          · refine br_n (fun z => absurd rfl z) (fun _ => ?_)
            exact fin _ f
          refine br_n (fun _ => ?_) (fun z => absurd z (by decide))
          refine ⟨vp_in_nI (by omega) (by omega), ?_⟩
          refine ⟨vp_in_nI (by omega) (by omega), ?_⟩
          refine hP _ _ _ _ _ ?_
          rw [nI_1]
          exact ih (i + 1) (upd f (nat (nI i)) (F 64 (nat (nI i)))) (by omega)
      refine hP _ _ _ _ _ ?_
      have q := key m 0 (F 6) (by omega)
      rw [← m3] at q
      exact q
    · refine br_c (fun z => absurd z (by decide)) (fun _ => ?_)
      refine xcall (sp_errH F v 2 (by decide) ?_)
      exact h.err S _ rfl
  · have b4 : below 40 (v 65 1) := I.2.1.2.1.2.2.1
    refine xcall (sp_isMissing (fun k => F (65 + k)) (fun k => v (65 + k)) (fun m0 => ?_) (fun m0 => ?_))
    · refine br_c (fun _ => ?_) (fun z => absurd rfl z)
      refine xcall (sp_min _ _ ?_)
      obtain ⟨m, m1, m2, m3, m4, m5⟩ := min_bel b4 b8 (by omega) (by omega)
      have fin : ∀ (r : Int32) (f : Nat → Int32), K (some (.int r)) (xfill (va_up F 6 f) v 0 wH0) := fun r f => h r (va_up F 6 f) v S ⟨⟨⟨rfl, rfl, rfl, rfl, rfl, rfl⟩, fun _ _ => ⟨rfl, rfl⟩, fun _ _ => ⟨rfl, rfl⟩, fun _ _ => rfl, fun _ _ => rfl⟩, ⟨⟨fun _ _ => rfl, fun _ _ => rfl, fun _ _ => rfl, fun _ _ => rfl⟩, ⟨⟨rfl, rfl, rfl, rfl⟩, rfl, rfl, rfl, rfl⟩, ⟨rfl, rfl⟩, fun _ _ => rfl⟩, fun _ => ⟨⟨rfl, rfl, rfl, rfl, rfl, rfl⟩, fun _ _ => ⟨rfl, rfl⟩, fun _ _ => ⟨rfl, rfl⟩, fun _ _ => rfl, fun _ _ => rfl⟩⟩
      have key : ∀ (d i : Nat) (f : Nat → Int32), i + d = m → xWP pg_H_places K 52 [(0, .ref 0), (1, .int s), (2, .ref 65), (3, .int (nI m)), (4, .int (nI i))] [] (xfill (va_up F 6 f) v 0 wH0) (0, 0) := by
        intro d
        induction d with
        | zero =>
          intro i f hi
          have hi : i = m := hi
          subst hi
          refine xWP_go 100 [(52, [0, 1, 2, 3, 4])] fun P hP => ?_
          refine br_c (fun _ => ?_) (fun z => absurd (nI_le (Nat.le_refl _) (by omega)) z)
          exact fin _ f
        | succ d ih =>
          intro i f hi
          refine xWP_go 100 [(52, [0, 1, 2, 3, 4])] fun P hP => ?_
          refine br_c (fun z => absurd z (nI_ge (by omega) (by omega))) (fun _ => ?_)
          refine ⟨vp_in_nI (by omega) (by omega), ?_⟩
          refine xcall (sp_isBelow _ _ (fun z => ?_) (fun z => ?_))
          · refine br_n (fun z => absurd rfl z) (fun _ => ?_)
            exact fin _ f
          refine br_n (fun _ => ?_) (fun z => absurd z (by decide))
          refine ⟨vp_in_nI (by omega) (by omega), ?_⟩
          refine ⟨vp_in_nI (by omega) (by omega), ?_⟩
          refine hP _ _ _ _ _ ?_
          rw [nI_1]
          exact ih (i + 1) (upd f (nat (nI i)) (F 66 (nat (nI i)))) (by omega)
      refine hP _ _ _ _ _ ?_
      have q := key m 0 (F 6) (by omega)
      rw [← m3] at q
      exact q
    · refine br_c (fun z => absurd z (by decide)) (fun _ => ?_)
      refine xcall (sp_errH F v 2 (by decide) ?_)
      exact h.err S _ rfl
  · have b4 : below 40 (v 67 1) := I.2.1.2.1.2.2.2
    refine xcall (sp_isMissing (fun k => F (67 + k)) (fun k => v (67 + k)) (fun m0 => ?_) (fun m0 => ?_))
    · refine br_c (fun _ => ?_) (fun z => absurd rfl z)
      refine xcall (sp_min _ _ ?_)
      obtain ⟨m, m1, m2, m3, m4, m5⟩ := min_bel b4 b8 (by omega) (by omega)
      have fin : ∀ (r : Int32) (f : Nat → Int32), K (some (.int r)) (xfill (va_up F 6 f) v 0 wH0) := fun r f => h r (va_up F 6 f) v S ⟨⟨⟨rfl, rfl, rfl, rfl, rfl, rfl⟩, fun _ _ => ⟨rfl, rfl⟩, fun _ _ => ⟨rfl, rfl⟩, fun _ _ => rfl, fun _ _ => rfl⟩, ⟨⟨fun _ _ => rfl, fun _ _ => rfl, fun _ _ => rfl, fun _ _ => rfl⟩, ⟨⟨rfl, rfl, rfl, rfl⟩, rfl, rfl, rfl, rfl⟩, ⟨rfl, rfl⟩, fun _ _ => rfl⟩, fun _ => ⟨⟨rfl, rfl, rfl, rfl, rfl, rfl⟩, fun _ _ => ⟨rfl, rfl⟩, fun _ _ => ⟨rfl, rfl⟩, fun _ _ => rfl, fun _ _ => rfl⟩⟩
      have key : ∀ (d i : Nat) (f : Nat → Int32), i + d = m → xWP pg_H_places K 52 [(0, .ref 0), (1, .int s), (2, .ref 67), (3, .int (nI m)), (4, .int (nI i))] [] (xfill (va_up F 6 f) v 0 wH0) (0, 0) := by
        intro d
        induction d with
        | zero =>
          intro i f hi
          have hi : i = m := hi
          subst hi
          refine xWP_go 100 [(52, [0, 1, 2, 3, 4])] fun P hP => ?_
          refine br_c (fun _ => ?_) (fun z => absurd (nI_le (Nat.le_refl _) (by omega)) z)
          exact fin _ f
        | succ d ih =>
          intro i f hi
          refine xWP_go 100 [(52, [0, 1, 2, 3, 4])] fun P hP => ?_
          refine br_c (fun z => absurd z (nI_ge (by omega) (by omega))) (fun _ => ?_)
          refine ⟨vp_in_nI (by omega) (by omega), ?_⟩
          refine xcall (sp_isBelow _ _ (fun z => ?_) (fun z => ?_))
          · refine br_n (fun z => absurd rfl z) (fun _ => ?_)
            exact fin _ f
          refine br_n (fun _ => ?_) (fun z => absurd z (by decide))
          refine ⟨vp_in_nI (by omega) (by omega), ?_⟩
          refine ⟨vp_in_nI (by omega) (by omega), ?_⟩
          refine hP _ _ _ _ _ ?_
          rw [nI_1]
          exact ih (i + 1) (upd f (nat (nI i)) (F 68 (nat (nI i)))) (by omega)
      refine hP _ _ _ _ _ ?_
      have q := key m 0 (F 6) (by omega)
      rw [← m3] at q
      exact q
    · refine br_c (fun z => absurd z (by decide)) (fun _ => ?_)
      refine xcall (sp_errH F v 2 (by decide) ?_)
      exact h.err S _ rfl
abbrev runs (i j n a b : Int32) : Prop := (0 ≤ i.toInt ∧ 0 ≤ n.toInt ∧ i.toInt + n.toInt ≤ a.toInt) ∧ 0 ≤ j.toInt ∧ 0 ≤ n.toInt ∧ j.toInt + n.toInt ≤ b.toInt
theorem runs_cpy {i j n a b : Int32} (r1 : 0 ≤ i.toInt ∧ 0 ≤ n.toInt ∧ i.toInt + n.toInt ≤ a.toInt) (r2 : 0 ≤ j.toInt ∧ 0 ≤ n.toInt ∧ j.toInt + n.toInt ≤ b.toInt) (ha : below 40 a) (hb : below 40 b) : ¬ i < 0 ∧ ¬ j < 0 ∧ ¬ n < 0 ∧ nat i + nat n ≤ 40 ∧ nat j + nat n ≤ 40 := by
  obtain ⟨k, hk, rfl⟩ := ha
  obtain ⟨l, hl, rfl⟩ := hb
  rw [nI_toInt (by omega)] at r1 r2
  obtain ⟨i0, hi, rfl, ei⟩ := nI_ofx i (n := 41) ⟨by omega, by omega⟩ (by decide)
  obtain ⟨j0, hj, rfl, ej⟩ := nI_ofx j (n := 41) ⟨by omega, by omega⟩ (by decide)
  obtain ⟨n0, hn, rfl, en⟩ := nI_ofx n (n := 41) ⟨by omega, by omega⟩ (by decide)
  rw [nI_toInt (by omega), nI_toInt (by omega)] at r1 r2
  exact ⟨nI_pos (by omega), nI_pos (by omega), nI_pos (by omega), by omega, by omega⟩
def g_move (s i d j n : Int32) (q : xA) : xA := if (xin s 4 ∧ xin d 4) ∧ ¬ (q.2.2 5 (nat s) = 0 ∨ q.2.2 5 (nat d) = 0) ∧ q.2.2 5 (nat s) = q.2.2 5 (nat d) ∧ runs i j n (q.2.2 4 (nat s)) (q.2.2 4 (nat d)) then (q.1, q.2.1, va_up q.2.2 (nat d) (va_cpy (q.2.2 (nat s)) (q.2.2 (nat d)) (nat i) (nat j) (nat n))) else q
def f_move (s i d j n : Int32) (q : xA) : Int32 := if xin s 4 ∧ xin d 4 then (if q.2.2 5 (nat s) = 0 ∨ q.2.2 5 (nat d) = 0 then -1000000002 else if q.2.2 5 (nat s) = q.2.2 5 (nat d) then (if runs i j n (q.2.2 4 (nat s)) (q.2.2 4 (nat d)) then n else -1000000001) else -1000000005) else -1000000001
set_option maxHeartbeats 4000000 in
set_option maxRecDepth 100000 in
theorem hs_move (n : Nat) (F v : xS) (I : aIv n (hA F v)) (S : hS v) (s i d j n : Int32) {K : xKo} (h : hTo F v (g_move s i d j n) (f_move s i d j n) K) : C_H_move [.ref 0, .int s, .int i, .int d, .int j, .int n] (xfill F v 0 wH0) K := by
  refine xM_go rfl 100 [] fun P hP => ?_
  refine xcall (sp_isBelow _ _ (fun a1 => ?_) (fun a1 => ?_))
  · refine br_c (fun _ => ?_) (fun z => absurd rfl z)
    refine xcall (sp_errH F v 1 (by decide) ?_)
    exact h.err S _ (if_neg fun z => a1 z.1.1) (if_neg fun z => a1 z.1)
  refine br_c (fun z => absurd z (by decide)) (fun _ => ?_)
  refine xcall (sp_isBelow _ _ (fun a2 => ?_) (fun a2 => ?_))
  · refine br_n (fun z => absurd rfl z) (fun _ => ?_)
    refine xcall (sp_errH F v 1 (by decide) ?_)
    exact h.err S _ (if_neg fun z => a2 z.1.2) (if_neg fun z => a2 z.2)
  refine br_n (fun _ => ?_) (fun z => absurd z (by decide))
  refine ⟨vin a1, ⟨fun es0 => ?_, ⟨fun es0 => ?_, ⟨fun es0 => ?_, ⟨fun es0 => ?_, trivial⟩⟩⟩⟩⟩
  · have es : nat s = 0 := by rw [es0]; decide
    have b4 : below 40 (v 61 1) := I.2.1.2.1.1
    refine ⟨vin a2, ⟨fun et0 => ?_, ⟨fun et0 => ?_, ⟨fun et0 => ?_, ⟨fun et0 => ?_, trivial⟩⟩⟩⟩⟩
    · have et : nat d = 0 := by rw [et0]; decide
      have c4 : below 40 (v 61 1) := I.2.1.2.1.1
      refine xcall (sp_isMissing (fun k => F (61 + k)) (fun k => v (61 + k)) (fun m0 => ?_) (fun m0 => ?_))
      · have m0 : ¬ v 61 2 = 0 := m0
        refine br_n (fun z => absurd rfl z) (fun _ => ?_)
        refine xcall (sp_isMissing (fun k => F (61 + k)) (fun k => v (61 + k)) (fun m2 => ?_) (fun m2 => ?_))
        · have m2 : ¬ v 61 2 = 0 := m2
          refine br_c (fun _ => ?_) (fun z => absurd rfl z)
          have u1 : ¬ ((hA F v).2.2 5 (nat s) = 0 ∨ (hA F v).2.2 5 (nat d) = 0) := by
            rw [es, et]
            exact fun z => z.elim m0 m2
          refine br_c (fun m3 => ?_) (fun m3 => ?_)
          · have m3 : v 61 2 = v 61 2 := m3
            have u2 : (hA F v).2.2 5 (nat s) = (hA F v).2.2 5 (nat d) := by
              rw [es, et]
              try exact m3
            refine xcall (sp_hasRun (fun k => F (61 + k)) (fun k => v (61 + k)) i n b4 (fun r1 => ?_) (fun r1 => ?_))
            · refine br_c (fun _ => ?_) (fun z => absurd rfl z)
              have u3 : ¬ runs i j n ((hA F v).2.2 4 (nat s)) ((hA F v).2.2 4 (nat d)) := by
                rw [es, et]
                exact fun z => r1 z.1
              refine xcall (sp_errH F v 1 (by decide) ?_)
              exact h.err S _ (if_neg fun z => u3 z.2.2.2) ((if_pos ⟨a1, a2⟩).trans ((if_neg u1).trans ((if_pos u2).trans (if_neg u3))))
            refine br_c (fun z => absurd z (by decide)) (fun _ => ?_)
            refine xcall (sp_hasRun (fun k => F (61 + k)) (fun k => v (61 + k)) j n c4 (fun r2 => ?_) (fun r2 => ?_))
            · refine br_n (fun z => absurd rfl z) (fun _ => ?_)
              have u3 : ¬ runs i j n ((hA F v).2.2 4 (nat s)) ((hA F v).2.2 4 (nat d)) := by
                rw [es, et]
                exact fun z => r2 z.2
              refine xcall (sp_errH F v 1 (by decide) ?_)
              exact h.err S _ (if_neg fun z => u3 z.2.2.2) ((if_pos ⟨a1, a2⟩).trans ((if_neg u1).trans ((if_pos u2).trans (if_neg u3))))
            refine br_n (fun _ => ?_) (fun z => absurd z (by decide))
            have u3 : runs i j n ((hA F v).2.2 4 (nat s)) ((hA F v).2.2 4 (nat d)) := by
              rw [es, et]
              exact ⟨r1, r2⟩
            refine ⟨runs_cpy r1 r2 b4 c4, ?_⟩
            refine h.ok (F' := va_up F 62 (va_cpy (F 62) (F 62) (nat i) (nat j) (nat n))) (v' := v) S ?_ ((if_pos ⟨a1, a2⟩).trans ((if_neg u1).trans ((if_pos u2).trans (if_pos u3))))
            rw [show g_move s i d j n (hA F v) = _ from if_pos ⟨⟨a1, a2⟩, u1, u2, u3⟩, es, et]
            exact ⟨⟨⟨rfl, rfl, rfl, rfl, rfl, rfl⟩, fun _ _ => ⟨rfl, rfl⟩, fun _ _ => ⟨rfl, rfl⟩, fun _ _ => rfl, fun _ _ => rfl⟩, ⟨⟨fun _ _ => rfl, fun _ _ => rfl, fun _ _ => rfl, fun _ _ => rfl⟩, ⟨⟨rfl, rfl, rfl, rfl⟩, rfl, rfl, rfl, rfl⟩, ⟨rfl, rfl⟩, fun _ _ => rfl⟩, fun _ => ⟨⟨rfl, rfl, rfl, rfl, rfl, rfl⟩, fun _ _ => ⟨rfl, rfl⟩, fun _ _ => ⟨rfl, rfl⟩, fun _ _ => rfl, fun _ _ => rfl⟩⟩
          · have m3 : ¬ v 61 2 = v 61 2 := m3
            have u2 : ¬ (hA F v).2.2 5 (nat s) = (hA F v).2.2 5 (nat d) := by
              rw [es, et]
              exact m3
            refine xcall (sp_errH F v 5 (by decide) ?_)
            exact h.err S _ (if_neg fun z => u2 z.2.2.1) ((if_pos ⟨a1, a2⟩).trans ((if_neg u1).trans (if_neg u2)))
        · have m2 : v 61 2 = 0 := m2
          refine br_c (fun z => absurd z (by decide)) (fun _ => ?_)
          have u1 : (hA F v).2.2 5 (nat s) = 0 ∨ (hA F v).2.2 5 (nat d) = 0 := by
            rw [es, et]
            exact Or.inr m2
          refine xcall (sp_errH F v 2 (by decide) ?_)
          exact h.err S _ (if_neg fun z => z.2.1 u1) ((if_pos ⟨a1, a2⟩).trans (if_pos u1))
      · have m0 : v 61 2 = 0 := m0
        refine br_n (fun _ => ?_) (fun z => absurd z (by decide))
        have u1 : (hA F v).2.2 5 (nat s) = 0 ∨ (hA F v).2.2 5 (nat d) = 0 := by
          rw [es, et]
          exact Or.inl m0
        refine xcall (sp_errH F v 2 (by decide) ?_)
        exact h.err S _ (if_neg fun z => z.2.1 u1) ((if_pos ⟨a1, a2⟩).trans (if_pos u1))
    · have et : nat d = 1 := by rw [et0]; decide
      have c4 : below 40 (v 63 1) := I.2.1.2.1.2.1
      refine xcall (sp_isMissing (fun k => F (61 + k)) (fun k => v (61 + k)) (fun m0 => ?_) (fun m0 => ?_))
      · have m0 : ¬ v 61 2 = 0 := m0
        refine br_n (fun z => absurd rfl z) (fun _ => ?_)
        refine xcall (sp_isMissing (fun k => F (63 + k)) (fun k => v (63 + k)) (fun m2 => ?_) (fun m2 => ?_))
        · have m2 : ¬ v 63 2 = 0 := m2
          refine br_c (fun _ => ?_) (fun z => absurd rfl z)
          have u1 : ¬ ((hA F v).2.2 5 (nat s) = 0 ∨ (hA F v).2.2 5 (nat d) = 0) := by
            rw [es, et]
            exact fun z => z.elim m0 m2
          refine br_c (fun m3 => ?_) (fun m3 => ?_)
          · have m3 : v 61 2 = v 63 2 := m3
            have u2 : (hA F v).2.2 5 (nat s) = (hA F v).2.2 5 (nat d) := by
              rw [es, et]
              try exact m3
            refine xcall (sp_hasRun (fun k => F (61 + k)) (fun k => v (61 + k)) i n b4 (fun r1 => ?_) (fun r1 => ?_))
            · refine br_c (fun _ => ?_) (fun z => absurd rfl z)
              have u3 : ¬ runs i j n ((hA F v).2.2 4 (nat s)) ((hA F v).2.2 4 (nat d)) := by
                rw [es, et]
                exact fun z => r1 z.1
              refine xcall (sp_errH F v 1 (by decide) ?_)
              exact h.err S _ (if_neg fun z => u3 z.2.2.2) ((if_pos ⟨a1, a2⟩).trans ((if_neg u1).trans ((if_pos u2).trans (if_neg u3))))
            refine br_c (fun z => absurd z (by decide)) (fun _ => ?_)
            refine xcall (sp_hasRun (fun k => F (63 + k)) (fun k => v (63 + k)) j n c4 (fun r2 => ?_) (fun r2 => ?_))
            · refine br_n (fun z => absurd rfl z) (fun _ => ?_)
              have u3 : ¬ runs i j n ((hA F v).2.2 4 (nat s)) ((hA F v).2.2 4 (nat d)) := by
                rw [es, et]
                exact fun z => r2 z.2
              refine xcall (sp_errH F v 1 (by decide) ?_)
              exact h.err S _ (if_neg fun z => u3 z.2.2.2) ((if_pos ⟨a1, a2⟩).trans ((if_neg u1).trans ((if_pos u2).trans (if_neg u3))))
            refine br_n (fun _ => ?_) (fun z => absurd z (by decide))
            have u3 : runs i j n ((hA F v).2.2 4 (nat s)) ((hA F v).2.2 4 (nat d)) := by
              rw [es, et]
              exact ⟨r1, r2⟩
            refine ⟨runs_cpy r1 r2 b4 c4, ?_⟩
            refine h.ok (F' := va_up F 64 (va_cpy (F 62) (F 64) (nat i) (nat j) (nat n))) (v' := v) S ?_ ((if_pos ⟨a1, a2⟩).trans ((if_neg u1).trans ((if_pos u2).trans (if_pos u3))))
            rw [show g_move s i d j n (hA F v) = _ from if_pos ⟨⟨a1, a2⟩, u1, u2, u3⟩, es, et]
            exact ⟨⟨⟨rfl, rfl, rfl, rfl, rfl, rfl⟩, fun _ _ => ⟨rfl, rfl⟩, fun _ _ => ⟨rfl, rfl⟩, fun _ _ => rfl, fun _ _ => rfl⟩, ⟨⟨fun _ _ => rfl, fun _ _ => rfl, fun _ _ => rfl, fun _ _ => rfl⟩, ⟨⟨rfl, rfl, rfl, rfl⟩, rfl, rfl, rfl, rfl⟩, ⟨rfl, rfl⟩, fun _ _ => rfl⟩, fun _ => ⟨⟨rfl, rfl, rfl, rfl, rfl, rfl⟩, fun _ _ => ⟨rfl, rfl⟩, fun _ _ => ⟨rfl, rfl⟩, fun _ _ => rfl, fun _ _ => rfl⟩⟩
          · have m3 : ¬ v 61 2 = v 63 2 := m3
            have u2 : ¬ (hA F v).2.2 5 (nat s) = (hA F v).2.2 5 (nat d) := by
              rw [es, et]
              exact m3
            refine xcall (sp_errH F v 5 (by decide) ?_)
            exact h.err S _ (if_neg fun z => u2 z.2.2.1) ((if_pos ⟨a1, a2⟩).trans ((if_neg u1).trans (if_neg u2)))
        · have m2 : v 63 2 = 0 := m2
          refine br_c (fun z => absurd z (by decide)) (fun _ => ?_)
          have u1 : (hA F v).2.2 5 (nat s) = 0 ∨ (hA F v).2.2 5 (nat d) = 0 := by
            rw [es, et]
            exact Or.inr m2
          refine xcall (sp_errH F v 2 (by decide) ?_)
          exact h.err S _ (if_neg fun z => z.2.1 u1) ((if_pos ⟨a1, a2⟩).trans (if_pos u1))
      · have m0 : v 61 2 = 0 := m0
        refine br_n (fun _ => ?_) (fun z => absurd z (by decide))
        have u1 : (hA F v).2.2 5 (nat s) = 0 ∨ (hA F v).2.2 5 (nat d) = 0 := by
          rw [es, et]
          exact Or.inl m0
        refine xcall (sp_errH F v 2 (by decide) ?_)
        exact h.err S _ (if_neg fun z => z.2.1 u1) ((if_pos ⟨a1, a2⟩).trans (if_pos u1))
    · have et : nat d = 2 := by rw [et0]; decide
      have c4 : below 40 (v 65 1) := I.2.1.2.1.2.2.1
      refine xcall (sp_isMissing (fun k => F (61 + k)) (fun k => v (61 + k)) (fun m0 => ?_) (fun m0 => ?_))
      · have m0 : ¬ v 61 2 = 0 := m0
        refine br_n (fun z => absurd rfl z) (fun _ => ?_)
        refine xcall (sp_isMissing (fun k => F (65 + k)) (fun k => v (65 + k)) (fun m2 => ?_) (fun m2 => ?_))
        · have m2 : ¬ v 65 2 = 0 := m2
          refine br_c (fun _ => ?_) (fun z => absurd rfl z)
          have u1 : ¬ ((hA F v).2.2 5 (nat s) = 0 ∨ (hA F v).2.2 5 (nat d) = 0) := by
            rw [es, et]
            exact fun z => z.elim m0 m2
          refine br_c (fun m3 => ?_) (fun m3 => ?_)
          · have m3 : v 61 2 = v 65 2 := m3
            have u2 : (hA F v).2.2 5 (nat s) = (hA F v).2.2 5 (nat d) := by
              rw [es, et]
              try exact m3
            refine xcall (sp_hasRun (fun k => F (61 + k)) (fun k => v (61 + k)) i n b4 (fun r1 => ?_) (fun r1 => ?_))
            · refine br_c (fun _ => ?_) (fun z => absurd rfl z)
              have u3 : ¬ runs i j n ((hA F v).2.2 4 (nat s)) ((hA F v).2.2 4 (nat d)) := by
                rw [es, et]
                exact fun z => r1 z.1
              refine xcall (sp_errH F v 1 (by decide) ?_)
              exact h.err S _ (if_neg fun z => u3 z.2.2.2) ((if_pos ⟨a1, a2⟩).trans ((if_neg u1).trans ((if_pos u2).trans (if_neg u3))))
            refine br_c (fun z => absurd z (by decide)) (fun _ => ?_)
            refine xcall (sp_hasRun (fun k => F (65 + k)) (fun k => v (65 + k)) j n c4 (fun r2 => ?_) (fun r2 => ?_))
            · refine br_n (fun z => absurd rfl z) (fun _ => ?_)
              have u3 : ¬ runs i j n ((hA F v).2.2 4 (nat s)) ((hA F v).2.2 4 (nat d)) := by
                rw [es, et]
                exact fun z => r2 z.2
              refine xcall (sp_errH F v 1 (by decide) ?_)
              exact h.err S _ (if_neg fun z => u3 z.2.2.2) ((if_pos ⟨a1, a2⟩).trans ((if_neg u1).trans ((if_pos u2).trans (if_neg u3))))
            refine br_n (fun _ => ?_) (fun z => absurd z (by decide))
            have u3 : runs i j n ((hA F v).2.2 4 (nat s)) ((hA F v).2.2 4 (nat d)) := by
              rw [es, et]
              exact ⟨r1, r2⟩
            refine ⟨runs_cpy r1 r2 b4 c4, ?_⟩
            refine h.ok (F' := va_up F 66 (va_cpy (F 62) (F 66) (nat i) (nat j) (nat n))) (v' := v) S ?_ ((if_pos ⟨a1, a2⟩).trans ((if_neg u1).trans ((if_pos u2).trans (if_pos u3))))
            rw [show g_move s i d j n (hA F v) = _ from if_pos ⟨⟨a1, a2⟩, u1, u2, u3⟩, es, et]
            exact ⟨⟨⟨rfl, rfl, rfl, rfl, rfl, rfl⟩, fun _ _ => ⟨rfl, rfl⟩, fun _ _ => ⟨rfl, rfl⟩, fun _ _ => rfl, fun _ _ => rfl⟩, ⟨⟨fun _ _ => rfl, fun _ _ => rfl, fun _ _ => rfl, fun _ _ => rfl⟩, ⟨⟨rfl, rfl, rfl, rfl⟩, rfl, rfl, rfl, rfl⟩, ⟨rfl, rfl⟩, fun _ _ => rfl⟩, fun _ => ⟨⟨rfl, rfl, rfl, rfl, rfl, rfl⟩, fun _ _ => ⟨rfl, rfl⟩, fun _ _ => ⟨rfl, rfl⟩, fun _ _ => rfl, fun _ _ => rfl⟩⟩
          · have m3 : ¬ v 61 2 = v 65 2 := m3
            have u2 : ¬ (hA F v).2.2 5 (nat s) = (hA F v).2.2 5 (nat d) := by
              rw [es, et]
              exact m3
            refine xcall (sp_errH F v 5 (by decide) ?_)
            exact h.err S _ (if_neg fun z => u2 z.2.2.1) ((if_pos ⟨a1, a2⟩).trans ((if_neg u1).trans (if_neg u2)))
        · have m2 : v 65 2 = 0 := m2
          refine br_c (fun z => absurd z (by decide)) (fun _ => ?_)
          have u1 : (hA F v).2.2 5 (nat s) = 0 ∨ (hA F v).2.2 5 (nat d) = 0 := by
            rw [es, et]
            exact Or.inr m2
          refine xcall (sp_errH F v 2 (by decide) ?_)
          exact h.err S _ (if_neg fun z => z.2.1 u1) ((if_pos ⟨a1, a2⟩).trans (if_pos u1))
      · have m0 : v 61 2 = 0 := m0
        refine br_n (fun _ => ?_) (fun z => absurd z (by decide))
        have u1 : (hA F v).2.2 5 (nat s) = 0 ∨ (hA F v).2.2 5 (nat d) = 0 := by
          rw [es, et]
          exact Or.inl m0
        refine xcall (sp_errH F v 2 (by decide) ?_)
        exact h.err S _ (if_neg fun z => z.2.1 u1) ((if_pos ⟨a1, a2⟩).trans (if_pos u1))
    · have et : nat d = 3 := by rw [et0]; decide
      have c4 : below 40 (v 67 1) := I.2.1.2.1.2.2.2
      refine xcall (sp_isMissing (fun k => F (61 + k)) (fun k => v (61 + k)) (fun m0 => ?_) (fun m0 => ?_))
      · have m0 : ¬ v 61 2 = 0 := m0
        refine br_n (fun z => absurd rfl z) (fun _ => ?_)
        refine xcall (sp_isMissing (fun k => F (67 + k)) (fun k => v (67 + k)) (fun m2 => ?_) (fun m2 => ?_))
        · have m2 : ¬ v 67 2 = 0 := m2
          refine br_c (fun _ => ?_) (fun z => absurd rfl z)
          have u1 : ¬ ((hA F v).2.2 5 (nat s) = 0 ∨ (hA F v).2.2 5 (nat d) = 0) := by
            rw [es, et]
            exact fun z => z.elim m0 m2
          refine br_c (fun m3 => ?_) (fun m3 => ?_)
          · have m3 : v 61 2 = v 67 2 := m3
            have u2 : (hA F v).2.2 5 (nat s) = (hA F v).2.2 5 (nat d) := by
              rw [es, et]
              try exact m3
            refine xcall (sp_hasRun (fun k => F (61 + k)) (fun k => v (61 + k)) i n b4 (fun r1 => ?_) (fun r1 => ?_))
            · refine br_c (fun _ => ?_) (fun z => absurd rfl z)
              have u3 : ¬ runs i j n ((hA F v).2.2 4 (nat s)) ((hA F v).2.2 4 (nat d)) := by
                rw [es, et]
                exact fun z => r1 z.1
              refine xcall (sp_errH F v 1 (by decide) ?_)
              exact h.err S _ (if_neg fun z => u3 z.2.2.2) ((if_pos ⟨a1, a2⟩).trans ((if_neg u1).trans ((if_pos u2).trans (if_neg u3))))
            refine br_c (fun z => absurd z (by decide)) (fun _ => ?_)
            refine xcall (sp_hasRun (fun k => F (67 + k)) (fun k => v (67 + k)) j n c4 (fun r2 => ?_) (fun r2 => ?_))
            · refine br_n (fun z => absurd rfl z) (fun _ => ?_)
              have u3 : ¬ runs i j n ((hA F v).2.2 4 (nat s)) ((hA F v).2.2 4 (nat d)) := by
                rw [es, et]
                exact fun z => r2 z.2
              refine xcall (sp_errH F v 1 (by decide) ?_)
              exact h.err S _ (if_neg fun z => u3 z.2.2.2) ((if_pos ⟨a1, a2⟩).trans ((if_neg u1).trans ((if_pos u2).trans (if_neg u3))))
            refine br_n (fun _ => ?_) (fun z => absurd z (by decide))
            have u3 : runs i j n ((hA F v).2.2 4 (nat s)) ((hA F v).2.2 4 (nat d)) := by
              rw [es, et]
              exact ⟨r1, r2⟩
            refine ⟨runs_cpy r1 r2 b4 c4, ?_⟩
            refine h.ok (F' := va_up F 68 (va_cpy (F 62) (F 68) (nat i) (nat j) (nat n))) (v' := v) S ?_ ((if_pos ⟨a1, a2⟩).trans ((if_neg u1).trans ((if_pos u2).trans (if_pos u3))))
            rw [show g_move s i d j n (hA F v) = _ from if_pos ⟨⟨a1, a2⟩, u1, u2, u3⟩, es, et]
            exact ⟨⟨⟨rfl, rfl, rfl, rfl, rfl, rfl⟩, fun _ _ => ⟨rfl, rfl⟩, fun _ _ => ⟨rfl, rfl⟩, fun _ _ => rfl, fun _ _ => rfl⟩, ⟨⟨fun _ _ => rfl, fun _ _ => rfl, fun _ _ => rfl, fun _ _ => rfl⟩, ⟨⟨rfl, rfl, rfl, rfl⟩, rfl, rfl, rfl, rfl⟩, ⟨rfl, rfl⟩, fun _ _ => rfl⟩, fun _ => ⟨⟨rfl, rfl, rfl, rfl, rfl, rfl⟩, fun _ _ => ⟨rfl, rfl⟩, fun _ _ => ⟨rfl, rfl⟩, fun _ _ => rfl, fun _ _ => rfl⟩⟩
          · have m3 : ¬ v 61 2 = v 67 2 := m3
            have u2 : ¬ (hA F v).2.2 5 (nat s) = (hA F v).2.2 5 (nat d) := by
              rw [es, et]
              exact m3
            refine xcall (sp_errH F v 5 (by decide) ?_)
            exact h.err S _ (if_neg fun z => u2 z.2.2.1) ((if_pos ⟨a1, a2⟩).trans ((if_neg u1).trans (if_neg u2)))
        · have m2 : v 67 2 = 0 := m2
          refine br_c (fun z => absurd z (by decide)) (fun _ => ?_)
          have u1 : (hA F v).2.2 5 (nat s) = 0 ∨ (hA F v).2.2 5 (nat d) = 0 := by
            rw [es, et]
            exact Or.inr m2
          refine xcall (sp_errH F v 2 (by decide) ?_)
          exact h.err S _ (if_neg fun z => z.2.1 u1) ((if_pos ⟨a1, a2⟩).trans (if_pos u1))
      · have m0 : v 61 2 = 0 := m0
        refine br_n (fun _ => ?_) (fun z => absurd z (by decide))
        have u1 : (hA F v).2.2 5 (nat s) = 0 ∨ (hA F v).2.2 5 (nat d) = 0 := by
          rw [es, et]
          exact Or.inl m0
        refine xcall (sp_errH F v 2 (by decide) ?_)
        exact h.err S _ (if_neg fun z => z.2.1 u1) ((if_pos ⟨a1, a2⟩).trans (if_pos u1))
  · have es : nat s = 1 := by rw [es0]; decide
    have b4 : below 40 (v 63 1) := I.2.1.2.1.2.1
    refine ⟨vin a2, ⟨fun et0 => ?_, ⟨fun et0 => ?_, ⟨fun et0 => ?_, ⟨fun et0 => ?_, trivial⟩⟩⟩⟩⟩
    · have et : nat d = 0 := by rw [et0]; decide
      have c4 : below 40 (v 61 1) := I.2.1.2.1.1
      refine xcall (sp_isMissing (fun k => F (63 + k)) (fun k => v (63 + k)) (fun m0 => ?_) (fun m0 => ?_))
      · have m0 : ¬ v 63 2 = 0 := m0
        refine br_n (fun z => absurd rfl z) (fun _ => ?_)
        refine xcall (sp_isMissing (fun k => F (61 + k)) (fun k => v (61 + k)) (fun m2 => ?_) (fun m2 => ?_))
        · have m2 : ¬ v 61 2 = 0 := m2
          refine br_c (fun _ => ?_) (fun z => absurd rfl z)
          have u1 : ¬ ((hA F v).2.2 5 (nat s) = 0 ∨ (hA F v).2.2 5 (nat d) = 0) := by
            rw [es, et]
            exact fun z => z.elim m0 m2
          refine br_c (fun m3 => ?_) (fun m3 => ?_)
          · have m3 : v 63 2 = v 61 2 := m3
            have u2 : (hA F v).2.2 5 (nat s) = (hA F v).2.2 5 (nat d) := by
              rw [es, et]
              try exact m3
            refine xcall (sp_hasRun (fun k => F (63 + k)) (fun k => v (63 + k)) i n b4 (fun r1 => ?_) (fun r1 => ?_))
            · refine br_c (fun _ => ?_) (fun z => absurd rfl z)
              have u3 : ¬ runs i j n ((hA F v).2.2 4 (nat s)) ((hA F v).2.2 4 (nat d)) := by
                rw [es, et]
                exact fun z => r1 z.1
              refine xcall (sp_errH F v 1 (by decide) ?_)
              exact h.err S _ (if_neg fun z => u3 z.2.2.2) ((if_pos ⟨a1, a2⟩).trans ((if_neg u1).trans ((if_pos u2).trans (if_neg u3))))
            refine br_c (fun z => absurd z (by decide)) (fun _ => ?_)
            refine xcall (sp_hasRun (fun k => F (61 + k)) (fun k => v (61 + k)) j n c4 (fun r2 => ?_) (fun r2 => ?_))
            · refine br_n (fun z => absurd rfl z) (fun _ => ?_)
              have u3 : ¬ runs i j n ((hA F v).2.2 4 (nat s)) ((hA F v).2.2 4 (nat d)) := by
                rw [es, et]
                exact fun z => r2 z.2
              refine xcall (sp_errH F v 1 (by decide) ?_)
              exact h.err S _ (if_neg fun z => u3 z.2.2.2) ((if_pos ⟨a1, a2⟩).trans ((if_neg u1).trans ((if_pos u2).trans (if_neg u3))))
            refine br_n (fun _ => ?_) (fun z => absurd z (by decide))
            have u3 : runs i j n ((hA F v).2.2 4 (nat s)) ((hA F v).2.2 4 (nat d)) := by
              rw [es, et]
              exact ⟨r1, r2⟩
            refine ⟨runs_cpy r1 r2 b4 c4, ?_⟩
            refine h.ok (F' := va_up F 62 (va_cpy (F 64) (F 62) (nat i) (nat j) (nat n))) (v' := v) S ?_ ((if_pos ⟨a1, a2⟩).trans ((if_neg u1).trans ((if_pos u2).trans (if_pos u3))))
            rw [show g_move s i d j n (hA F v) = _ from if_pos ⟨⟨a1, a2⟩, u1, u2, u3⟩, es, et]
            exact ⟨⟨⟨rfl, rfl, rfl, rfl, rfl, rfl⟩, fun _ _ => ⟨rfl, rfl⟩, fun _ _ => ⟨rfl, rfl⟩, fun _ _ => rfl, fun _ _ => rfl⟩, ⟨⟨fun _ _ => rfl, fun _ _ => rfl, fun _ _ => rfl, fun _ _ => rfl⟩, ⟨⟨rfl, rfl, rfl, rfl⟩, rfl, rfl, rfl, rfl⟩, ⟨rfl, rfl⟩, fun _ _ => rfl⟩, fun _ => ⟨⟨rfl, rfl, rfl, rfl, rfl, rfl⟩, fun _ _ => ⟨rfl, rfl⟩, fun _ _ => ⟨rfl, rfl⟩, fun _ _ => rfl, fun _ _ => rfl⟩⟩
          · have m3 : ¬ v 63 2 = v 61 2 := m3
            have u2 : ¬ (hA F v).2.2 5 (nat s) = (hA F v).2.2 5 (nat d) := by
              rw [es, et]
              exact m3
            refine xcall (sp_errH F v 5 (by decide) ?_)
            exact h.err S _ (if_neg fun z => u2 z.2.2.1) ((if_pos ⟨a1, a2⟩).trans ((if_neg u1).trans (if_neg u2)))
        · have m2 : v 61 2 = 0 := m2
          refine br_c (fun z => absurd z (by decide)) (fun _ => ?_)
          have u1 : (hA F v).2.2 5 (nat s) = 0 ∨ (hA F v).2.2 5 (nat d) = 0 := by
            rw [es, et]
            exact Or.inr m2
          refine xcall (sp_errH F v 2 (by decide) ?_)
          exact h.err S _ (if_neg fun z => z.2.1 u1) ((if_pos ⟨a1, a2⟩).trans (if_pos u1))
      · have m0 : v 63 2 = 0 := m0
        refine br_n (fun _ => ?_) (fun z => absurd z (by decide))
        have u1 : (hA F v).2.2 5 (nat s) = 0 ∨ (hA F v).2.2 5 (nat d) = 0 := by
          rw [es, et]
          exact Or.inl m0
        refine xcall (sp_errH F v 2 (by decide) ?_)
        exact h.err S _ (if_neg fun z => z.2.1 u1) ((if_pos ⟨a1, a2⟩).trans (if_pos u1))
    · have et : nat d = 1 := by rw [et0]; decide
      have c4 : below 40 (v 63 1) := I.2.1.2.1.2.1
      refine xcall (sp_isMissing (fun k => F (63 + k)) (fun k => v (63 + k)) (fun m0 => ?_) (fun m0 => ?_))
      · have m0 : ¬ v 63 2 = 0 := m0
        refine br_n (fun z => absurd rfl z) (fun _ => ?_)
        refine xcall (sp_isMissing (fun k => F (63 + k)) (fun k => v (63 + k)) (fun m2 => ?_) (fun m2 => ?_))
        · have m2 : ¬ v 63 2 = 0 := m2
          refine br_c (fun _ => ?_) (fun z => absurd rfl z)
          have u1 : ¬ ((hA F v).2.2 5 (nat s) = 0 ∨ (hA F v).2.2 5 (nat d) = 0) := by
            rw [es, et]
            exact fun z => z.elim m0 m2
          refine br_c (fun m3 => ?_) (fun m3 => ?_)
          · have m3 : v 63 2 = v 63 2 := m3
            have u2 : (hA F v).2.2 5 (nat s) = (hA F v).2.2 5 (nat d) := by
              rw [es, et]
              try exact m3
            refine xcall (sp_hasRun (fun k => F (63 + k)) (fun k => v (63 + k)) i n b4 (fun r1 => ?_) (fun r1 => ?_))
            · refine br_c (fun _ => ?_) (fun z => absurd rfl z)
              have u3 : ¬ runs i j n ((hA F v).2.2 4 (nat s)) ((hA F v).2.2 4 (nat d)) := by
                rw [es, et]
                exact fun z => r1 z.1
              refine xcall (sp_errH F v 1 (by decide) ?_)
              exact h.err S _ (if_neg fun z => u3 z.2.2.2) ((if_pos ⟨a1, a2⟩).trans ((if_neg u1).trans ((if_pos u2).trans (if_neg u3))))
            refine br_c (fun z => absurd z (by decide)) (fun _ => ?_)
            refine xcall (sp_hasRun (fun k => F (63 + k)) (fun k => v (63 + k)) j n c4 (fun r2 => ?_) (fun r2 => ?_))
            · refine br_n (fun z => absurd rfl z) (fun _ => ?_)
              have u3 : ¬ runs i j n ((hA F v).2.2 4 (nat s)) ((hA F v).2.2 4 (nat d)) := by
                rw [es, et]
                exact fun z => r2 z.2
              refine xcall (sp_errH F v 1 (by decide) ?_)
              exact h.err S _ (if_neg fun z => u3 z.2.2.2) ((if_pos ⟨a1, a2⟩).trans ((if_neg u1).trans ((if_pos u2).trans (if_neg u3))))
            refine br_n (fun _ => ?_) (fun z => absurd z (by decide))
            have u3 : runs i j n ((hA F v).2.2 4 (nat s)) ((hA F v).2.2 4 (nat d)) := by
              rw [es, et]
              exact ⟨r1, r2⟩
            refine ⟨runs_cpy r1 r2 b4 c4, ?_⟩
            refine h.ok (F' := va_up F 64 (va_cpy (F 64) (F 64) (nat i) (nat j) (nat n))) (v' := v) S ?_ ((if_pos ⟨a1, a2⟩).trans ((if_neg u1).trans ((if_pos u2).trans (if_pos u3))))
            rw [show g_move s i d j n (hA F v) = _ from if_pos ⟨⟨a1, a2⟩, u1, u2, u3⟩, es, et]
            exact ⟨⟨⟨rfl, rfl, rfl, rfl, rfl, rfl⟩, fun _ _ => ⟨rfl, rfl⟩, fun _ _ => ⟨rfl, rfl⟩, fun _ _ => rfl, fun _ _ => rfl⟩, ⟨⟨fun _ _ => rfl, fun _ _ => rfl, fun _ _ => rfl, fun _ _ => rfl⟩, ⟨⟨rfl, rfl, rfl, rfl⟩, rfl, rfl, rfl, rfl⟩, ⟨rfl, rfl⟩, fun _ _ => rfl⟩, fun _ => ⟨⟨rfl, rfl, rfl, rfl, rfl, rfl⟩, fun _ _ => ⟨rfl, rfl⟩, fun _ _ => ⟨rfl, rfl⟩, fun _ _ => rfl, fun _ _ => rfl⟩⟩
          · have m3 : ¬ v 63 2 = v 63 2 := m3
            have u2 : ¬ (hA F v).2.2 5 (nat s) = (hA F v).2.2 5 (nat d) := by
              rw [es, et]
              exact m3
            refine xcall (sp_errH F v 5 (by decide) ?_)
            exact h.err S _ (if_neg fun z => u2 z.2.2.1) ((if_pos ⟨a1, a2⟩).trans ((if_neg u1).trans (if_neg u2)))
        · have m2 : v 63 2 = 0 := m2
          refine br_c (fun z => absurd z (by decide)) (fun _ => ?_)
          have u1 : (hA F v).2.2 5 (nat s) = 0 ∨ (hA F v).2.2 5 (nat d) = 0 := by
            rw [es, et]
            exact Or.inr m2
          refine xcall (sp_errH F v 2 (by decide) ?_)
          exact h.err S _ (if_neg fun z => z.2.1 u1) ((if_pos ⟨a1, a2⟩).trans (if_pos u1))
      · have m0 : v 63 2 = 0 := m0
        refine br_n (fun _ => ?_) (fun z => absurd z (by decide))
        have u1 : (hA F v).2.2 5 (nat s) = 0 ∨ (hA F v).2.2 5 (nat d) = 0 := by
          rw [es, et]
          exact Or.inl m0
        refine xcall (sp_errH F v 2 (by decide) ?_)
        exact h.err S _ (if_neg fun z => z.2.1 u1) ((if_pos ⟨a1, a2⟩).trans (if_pos u1))
    · have et : nat d = 2 := by rw [et0]; decide
      have c4 : below 40 (v 65 1) := I.2.1.2.1.2.2.1
      refine xcall (sp_isMissing (fun k => F (63 + k)) (fun k => v (63 + k)) (fun m0 => ?_) (fun m0 => ?_))
      · have m0 : ¬ v 63 2 = 0 := m0
        refine br_n (fun z => absurd rfl z) (fun _ => ?_)
        refine xcall (sp_isMissing (fun k => F (65 + k)) (fun k => v (65 + k)) (fun m2 => ?_) (fun m2 => ?_))
        · have m2 : ¬ v 65 2 = 0 := m2
          refine br_c (fun _ => ?_) (fun z => absurd rfl z)
          have u1 : ¬ ((hA F v).2.2 5 (nat s) = 0 ∨ (hA F v).2.2 5 (nat d) = 0) := by
            rw [es, et]
            exact fun z => z.elim m0 m2
          refine br_c (fun m3 => ?_) (fun m3 => ?_)
          · have m3 : v 63 2 = v 65 2 := m3
            have u2 : (hA F v).2.2 5 (nat s) = (hA F v).2.2 5 (nat d) := by
              rw [es, et]
              try exact m3
            refine xcall (sp_hasRun (fun k => F (63 + k)) (fun k => v (63 + k)) i n b4 (fun r1 => ?_) (fun r1 => ?_))
            · refine br_c (fun _ => ?_) (fun z => absurd rfl z)
              have u3 : ¬ runs i j n ((hA F v).2.2 4 (nat s)) ((hA F v).2.2 4 (nat d)) := by
                rw [es, et]
                exact fun z => r1 z.1
              refine xcall (sp_errH F v 1 (by decide) ?_)
              exact h.err S _ (if_neg fun z => u3 z.2.2.2) ((if_pos ⟨a1, a2⟩).trans ((if_neg u1).trans ((if_pos u2).trans (if_neg u3))))
            refine br_c (fun z => absurd z (by decide)) (fun _ => ?_)
            refine xcall (sp_hasRun (fun k => F (65 + k)) (fun k => v (65 + k)) j n c4 (fun r2 => ?_) (fun r2 => ?_))
            · refine br_n (fun z => absurd rfl z) (fun _ => ?_)
              have u3 : ¬ runs i j n ((hA F v).2.2 4 (nat s)) ((hA F v).2.2 4 (nat d)) := by
                rw [es, et]
                exact fun z => r2 z.2
              refine xcall (sp_errH F v 1 (by decide) ?_)
              exact h.err S _ (if_neg fun z => u3 z.2.2.2) ((if_pos ⟨a1, a2⟩).trans ((if_neg u1).trans ((if_pos u2).trans (if_neg u3))))
            refine br_n (fun _ => ?_) (fun z => absurd z (by decide))
            have u3 : runs i j n ((hA F v).2.2 4 (nat s)) ((hA F v).2.2 4 (nat d)) := by
              rw [es, et]
              exact ⟨r1, r2⟩
            refine ⟨runs_cpy r1 r2 b4 c4, ?_⟩
            refine h.ok (F' := va_up F 66 (va_cpy (F 64) (F 66) (nat i) (nat j) (nat n))) (v' := v) S ?_ ((if_pos ⟨a1, a2⟩).trans ((if_neg u1).trans ((if_pos u2).trans (if_pos u3))))
            rw [show g_move s i d j n (hA F v) = _ from if_pos ⟨⟨a1, a2⟩, u1, u2, u3⟩, es, et]
            exact ⟨⟨⟨rfl, rfl, rfl, rfl, rfl, rfl⟩, fun _ _ => ⟨rfl, rfl⟩, fun _ _ => ⟨rfl, rfl⟩, fun _ _ => rfl, fun _ _ => rfl⟩, ⟨⟨fun _ _ => rfl, fun _ _ => rfl, fun _ _ => rfl, fun _ _ => rfl⟩, ⟨⟨rfl, rfl, rfl, rfl⟩, rfl, rfl, rfl, rfl⟩, ⟨rfl, rfl⟩, fun _ _ => rfl⟩, fun _ => ⟨⟨rfl, rfl, rfl, rfl, rfl, rfl⟩, fun _ _ => ⟨rfl, rfl⟩, fun _ _ => ⟨rfl, rfl⟩, fun _ _ => rfl, fun _ _ => rfl⟩⟩
          · have m3 : ¬ v 63 2 = v 65 2 := m3
            have u2 : ¬ (hA F v).2.2 5 (nat s) = (hA F v).2.2 5 (nat d) := by
              rw [es, et]
              exact m3
            refine xcall (sp_errH F v 5 (by decide) ?_)
            exact h.err S _ (if_neg fun z => u2 z.2.2.1) ((if_pos ⟨a1, a2⟩).trans ((if_neg u1).trans (if_neg u2)))
        · have m2 : v 65 2 = 0 := m2
          refine br_c (fun z => absurd z (by decide)) (fun _ => ?_)
          have u1 : (hA F v).2.2 5 (nat s) = 0 ∨ (hA F v).2.2 5 (nat d) = 0 := by
            rw [es, et]
            exact Or.inr m2
          refine xcall (sp_errH F v 2 (by decide) ?_)
          exact h.err S _ (if_neg fun z => z.2.1 u1) ((if_pos ⟨a1, a2⟩).trans (if_pos u1))
      · have m0 : v 63 2 = 0 := m0
        refine br_n (fun _ => ?_) (fun z => absurd z (by decide))
        have u1 : (hA F v).2.2 5 (nat s) = 0 ∨ (hA F v).2.2 5 (nat d) = 0 := by
          rw [es, et]
          exact Or.inl m0
        refine xcall (sp_errH F v 2 (by decide) ?_)
        exact h.err S _ (if_neg fun z => z.2.1 u1) ((if_pos ⟨a1, a2⟩).trans (if_pos u1))
    · have et : nat d = 3 := by rw [et0]; decide
      have c4 : below 40 (v 67 1) := I.2.1.2.1.2.2.2
      refine xcall (sp_isMissing (fun k => F (63 + k)) (fun k => v (63 + k)) (fun m0 => ?_) (fun m0 => ?_))
      · have m0 : ¬ v 63 2 = 0 := m0
        refine br_n (fun z => absurd rfl z) (fun _ => ?_)
        refine xcall (sp_isMissing (fun k => F (67 + k)) (fun k => v (67 + k)) (fun m2 => ?_) (fun m2 => ?_))
        · have m2 : ¬ v 67 2 = 0 := m2
          refine br_c (fun _ => ?_) (fun z => absurd rfl z)
          have u1 : ¬ ((hA F v).2.2 5 (nat s) = 0 ∨ (hA F v).2.2 5 (nat d) = 0) := by
            rw [es, et]
            exact fun z => z.elim m0 m2
          refine br_c (fun m3 => ?_) (fun m3 => ?_)
          · have m3 : v 63 2 = v 67 2 := m3
            have u2 : (hA F v).2.2 5 (nat s) = (hA F v).2.2 5 (nat d) := by
              rw [es, et]
              try exact m3
            refine xcall (sp_hasRun (fun k => F (63 + k)) (fun k => v (63 + k)) i n b4 (fun r1 => ?_) (fun r1 => ?_))
            · refine br_c (fun _ => ?_) (fun z => absurd rfl z)
              have u3 : ¬ runs i j n ((hA F v).2.2 4 (nat s)) ((hA F v).2.2 4 (nat d)) := by
                rw [es, et]
                exact fun z => r1 z.1
              refine xcall (sp_errH F v 1 (by decide) ?_)
              exact h.err S _ (if_neg fun z => u3 z.2.2.2) ((if_pos ⟨a1, a2⟩).trans ((if_neg u1).trans ((if_pos u2).trans (if_neg u3))))
            refine br_c (fun z => absurd z (by decide)) (fun _ => ?_)
            refine xcall (sp_hasRun (fun k => F (67 + k)) (fun k => v (67 + k)) j n c4 (fun r2 => ?_) (fun r2 => ?_))
            · refine br_n (fun z => absurd rfl z) (fun _ => ?_)
              have u3 : ¬ runs i j n ((hA F v).2.2 4 (nat s)) ((hA F v).2.2 4 (nat d)) := by
                rw [es, et]
                exact fun z => r2 z.2
              refine xcall (sp_errH F v 1 (by decide) ?_)
              exact h.err S _ (if_neg fun z => u3 z.2.2.2) ((if_pos ⟨a1, a2⟩).trans ((if_neg u1).trans ((if_pos u2).trans (if_neg u3))))
            refine br_n (fun _ => ?_) (fun z => absurd z (by decide))
            have u3 : runs i j n ((hA F v).2.2 4 (nat s)) ((hA F v).2.2 4 (nat d)) := by
              rw [es, et]
              exact ⟨r1, r2⟩
            refine ⟨runs_cpy r1 r2 b4 c4, ?_⟩
            refine h.ok (F' := va_up F 68 (va_cpy (F 64) (F 68) (nat i) (nat j) (nat n))) (v' := v) S ?_ ((if_pos ⟨a1, a2⟩).trans ((if_neg u1).trans ((if_pos u2).trans (if_pos u3))))
            rw [show g_move s i d j n (hA F v) = _ from if_pos ⟨⟨a1, a2⟩, u1, u2, u3⟩, es, et]
            exact ⟨⟨⟨rfl, rfl, rfl, rfl, rfl, rfl⟩, fun _ _ => ⟨rfl, rfl⟩, fun _ _ => ⟨rfl, rfl⟩, fun _ _ => rfl, fun _ _ => rfl⟩, ⟨⟨fun _ _ => rfl, fun _ _ => rfl, fun _ _ => rfl, fun _ _ => rfl⟩, ⟨⟨rfl, rfl, rfl, rfl⟩, rfl, rfl, rfl, rfl⟩, ⟨rfl, rfl⟩, fun _ _ => rfl⟩, fun _ => ⟨⟨rfl, rfl, rfl, rfl, rfl, rfl⟩, fun _ _ => ⟨rfl, rfl⟩, fun _ _ => ⟨rfl, rfl⟩, fun _ _ => rfl, fun _ _ => rfl⟩⟩
          · have m3 : ¬ v 63 2 = v 67 2 := m3
            have u2 : ¬ (hA F v).2.2 5 (nat s) = (hA F v).2.2 5 (nat d) := by
              rw [es, et]
              exact m3
            refine xcall (sp_errH F v 5 (by decide) ?_)
            exact h.err S _ (if_neg fun z => u2 z.2.2.1) ((if_pos ⟨a1, a2⟩).trans ((if_neg u1).trans (if_neg u2)))
        · have m2 : v 67 2 = 0 := m2
          refine br_c (fun z => absurd z (by decide)) (fun _ => ?_)
          have u1 : (hA F v).2.2 5 (nat s) = 0 ∨ (hA F v).2.2 5 (nat d) = 0 := by
            rw [es, et]
            exact Or.inr m2
          refine xcall (sp_errH F v 2 (by decide) ?_)
          exact h.err S _ (if_neg fun z => z.2.1 u1) ((if_pos ⟨a1, a2⟩).trans (if_pos u1))
      · have m0 : v 63 2 = 0 := m0
        refine br_n (fun _ => ?_) (fun z => absurd z (by decide))
        have u1 : (hA F v).2.2 5 (nat s) = 0 ∨ (hA F v).2.2 5 (nat d) = 0 := by
          rw [es, et]
          exact Or.inl m0
        refine xcall (sp_errH F v 2 (by decide) ?_)
        exact h.err S _ (if_neg fun z => z.2.1 u1) ((if_pos ⟨a1, a2⟩).trans (if_pos u1))
  · have es : nat s = 2 := by rw [es0]; decide
    have b4 : below 40 (v 65 1) := I.2.1.2.1.2.2.1
    refine ⟨vin a2, ⟨fun et0 => ?_, ⟨fun et0 => ?_, ⟨fun et0 => ?_, ⟨fun et0 => ?_, trivial⟩⟩⟩⟩⟩
    · have et : nat d = 0 := by rw [et0]; decide
      have c4 : below 40 (v 61 1) := I.2.1.2.1.1
      refine xcall (sp_isMissing (fun k => F (65 + k)) (fun k => v (65 + k)) (fun m0 => ?_) (fun m0 => ?_))
      · have m0 : ¬ v 65 2 = 0 := m0
        refine br_n (fun z => absurd rfl z) (fun _ => ?_)
        refine xcall (sp_isMissing (fun k => F (61 + k)) (fun k => v (61 + k)) (fun m2 => ?_) (fun m2 => ?_))
        · have m2 : ¬ v 61 2 = 0 := m2
          refine br_c (fun _ => ?_) (fun z => absurd rfl z)
          have u1 : ¬ ((hA F v).2.2 5 (nat s) = 0 ∨ (hA F v).2.2 5 (nat d) = 0) := by
            rw [es, et]
            exact fun z => z.elim m0 m2
          refine br_c (fun m3 => ?_) (fun m3 => ?_)
          · have m3 : v 65 2 = v 61 2 := m3
            have u2 : (hA F v).2.2 5 (nat s) = (hA F v).2.2 5 (nat d) := by
              rw [es, et]
              try exact m3
            refine xcall (sp_hasRun (fun k => F (65 + k)) (fun k => v (65 + k)) i n b4 (fun r1 => ?_) (fun r1 => ?_))
            · refine br_c (fun _ => ?_) (fun z => absurd rfl z)
              have u3 : ¬ runs i j n ((hA F v).2.2 4 (nat s)) ((hA F v).2.2 4 (nat d)) := by
                rw [es, et]
                exact fun z => r1 z.1
              refine xcall (sp_errH F v 1 (by decide) ?_)
              exact h.err S _ (if_neg fun z => u3 z.2.2.2) ((if_pos ⟨a1, a2⟩).trans ((if_neg u1).trans ((if_pos u2).trans (if_neg u3))))
            refine br_c (fun z => absurd z (by decide)) (fun _ => ?_)
            refine xcall (sp_hasRun (fun k => F (61 + k)) (fun k => v (61 + k)) j n c4 (fun r2 => ?_) (fun r2 => ?_))
            · refine br_n (fun z => absurd rfl z) (fun _ => ?_)
              have u3 : ¬ runs i j n ((hA F v).2.2 4 (nat s)) ((hA F v).2.2 4 (nat d)) := by
                rw [es, et]
                exact fun z => r2 z.2
              refine xcall (sp_errH F v 1 (by decide) ?_)
              exact h.err S _ (if_neg fun z => u3 z.2.2.2) ((if_pos ⟨a1, a2⟩).trans ((if_neg u1).trans ((if_pos u2).trans (if_neg u3))))
            refine br_n (fun _ => ?_) (fun z => absurd z (by decide))
            have u3 : runs i j n ((hA F v).2.2 4 (nat s)) ((hA F v).2.2 4 (nat d)) := by
              rw [es, et]
              exact ⟨r1, r2⟩
            refine ⟨runs_cpy r1 r2 b4 c4, ?_⟩
            refine h.ok (F' := va_up F 62 (va_cpy (F 66) (F 62) (nat i) (nat j) (nat n))) (v' := v) S ?_ ((if_pos ⟨a1, a2⟩).trans ((if_neg u1).trans ((if_pos u2).trans (if_pos u3))))
            rw [show g_move s i d j n (hA F v) = _ from if_pos ⟨⟨a1, a2⟩, u1, u2, u3⟩, es, et]
            exact ⟨⟨⟨rfl, rfl, rfl, rfl, rfl, rfl⟩, fun _ _ => ⟨rfl, rfl⟩, fun _ _ => ⟨rfl, rfl⟩, fun _ _ => rfl, fun _ _ => rfl⟩, ⟨⟨fun _ _ => rfl, fun _ _ => rfl, fun _ _ => rfl, fun _ _ => rfl⟩, ⟨⟨rfl, rfl, rfl, rfl⟩, rfl, rfl, rfl, rfl⟩, ⟨rfl, rfl⟩, fun _ _ => rfl⟩, fun _ => ⟨⟨rfl, rfl, rfl, rfl, rfl, rfl⟩, fun _ _ => ⟨rfl, rfl⟩, fun _ _ => ⟨rfl, rfl⟩, fun _ _ => rfl, fun _ _ => rfl⟩⟩
          · have m3 : ¬ v 65 2 = v 61 2 := m3
            have u2 : ¬ (hA F v).2.2 5 (nat s) = (hA F v).2.2 5 (nat d) := by
              rw [es, et]
              exact m3
            refine xcall (sp_errH F v 5 (by decide) ?_)
            exact h.err S _ (if_neg fun z => u2 z.2.2.1) ((if_pos ⟨a1, a2⟩).trans ((if_neg u1).trans (if_neg u2)))
        · have m2 : v 61 2 = 0 := m2
          refine br_c (fun z => absurd z (by decide)) (fun _ => ?_)
          have u1 : (hA F v).2.2 5 (nat s) = 0 ∨ (hA F v).2.2 5 (nat d) = 0 := by
            rw [es, et]
            exact Or.inr m2
          refine xcall (sp_errH F v 2 (by decide) ?_)
          exact h.err S _ (if_neg fun z => z.2.1 u1) ((if_pos ⟨a1, a2⟩).trans (if_pos u1))
      · have m0 : v 65 2 = 0 := m0
        refine br_n (fun _ => ?_) (fun z => absurd z (by decide))
        have u1 : (hA F v).2.2 5 (nat s) = 0 ∨ (hA F v).2.2 5 (nat d) = 0 := by
          rw [es, et]
          exact Or.inl m0
        refine xcall (sp_errH F v 2 (by decide) ?_)
        exact h.err S _ (if_neg fun z => z.2.1 u1) ((if_pos ⟨a1, a2⟩).trans (if_pos u1))
    · have et : nat d = 1 := by rw [et0]; decide
      have c4 : below 40 (v 63 1) := I.2.1.2.1.2.1
      refine xcall (sp_isMissing (fun k => F (65 + k)) (fun k => v (65 + k)) (fun m0 => ?_) (fun m0 => ?_))
      · have m0 : ¬ v 65 2 = 0 := m0
        refine br_n (fun z => absurd rfl z) (fun _ => ?_)
        refine xcall (sp_isMissing (fun k => F (63 + k)) (fun k => v (63 + k)) (fun m2 => ?_) (fun m2 => ?_))
        · have m2 : ¬ v 63 2 = 0 := m2
          refine br_c (fun _ => ?_) (fun z => absurd rfl z)
          have u1 : ¬ ((hA F v).2.2 5 (nat s) = 0 ∨ (hA F v).2.2 5 (nat d) = 0) := by
            rw [es, et]
            exact fun z => z.elim m0 m2
          refine br_c (fun m3 => ?_) (fun m3 => ?_)
          · have m3 : v 65 2 = v 63 2 := m3
            have u2 : (hA F v).2.2 5 (nat s) = (hA F v).2.2 5 (nat d) := by
              rw [es, et]
              try exact m3
            refine xcall (sp_hasRun (fun k => F (65 + k)) (fun k => v (65 + k)) i n b4 (fun r1 => ?_) (fun r1 => ?_))
            · refine br_c (fun _ => ?_) (fun z => absurd rfl z)
              have u3 : ¬ runs i j n ((hA F v).2.2 4 (nat s)) ((hA F v).2.2 4 (nat d)) := by
                rw [es, et]
                exact fun z => r1 z.1
              refine xcall (sp_errH F v 1 (by decide) ?_)
              exact h.err S _ (if_neg fun z => u3 z.2.2.2) ((if_pos ⟨a1, a2⟩).trans ((if_neg u1).trans ((if_pos u2).trans (if_neg u3))))
            refine br_c (fun z => absurd z (by decide)) (fun _ => ?_)
            refine xcall (sp_hasRun (fun k => F (63 + k)) (fun k => v (63 + k)) j n c4 (fun r2 => ?_) (fun r2 => ?_))
            · refine br_n (fun z => absurd rfl z) (fun _ => ?_)
              have u3 : ¬ runs i j n ((hA F v).2.2 4 (nat s)) ((hA F v).2.2 4 (nat d)) := by
                rw [es, et]
                exact fun z => r2 z.2
              refine xcall (sp_errH F v 1 (by decide) ?_)
              exact h.err S _ (if_neg fun z => u3 z.2.2.2) ((if_pos ⟨a1, a2⟩).trans ((if_neg u1).trans ((if_pos u2).trans (if_neg u3))))
            refine br_n (fun _ => ?_) (fun z => absurd z (by decide))
            have u3 : runs i j n ((hA F v).2.2 4 (nat s)) ((hA F v).2.2 4 (nat d)) := by
              rw [es, et]
              exact ⟨r1, r2⟩
            refine ⟨runs_cpy r1 r2 b4 c4, ?_⟩
            refine h.ok (F' := va_up F 64 (va_cpy (F 66) (F 64) (nat i) (nat j) (nat n))) (v' := v) S ?_ ((if_pos ⟨a1, a2⟩).trans ((if_neg u1).trans ((if_pos u2).trans (if_pos u3))))
            rw [show g_move s i d j n (hA F v) = _ from if_pos ⟨⟨a1, a2⟩, u1, u2, u3⟩, es, et]
            exact ⟨⟨⟨rfl, rfl, rfl, rfl, rfl, rfl⟩, fun _ _ => ⟨rfl, rfl⟩, fun _ _ => ⟨rfl, rfl⟩, fun _ _ => rfl, fun _ _ => rfl⟩, ⟨⟨fun _ _ => rfl, fun _ _ => rfl, fun _ _ => rfl, fun _ _ => rfl⟩, ⟨⟨rfl, rfl, rfl, rfl⟩, rfl, rfl, rfl, rfl⟩, ⟨rfl, rfl⟩, fun _ _ => rfl⟩, fun _ => ⟨⟨rfl, rfl, rfl, rfl, rfl, rfl⟩, fun _ _ => ⟨rfl, rfl⟩, fun _ _ => ⟨rfl, rfl⟩, fun _ _ => rfl, fun _ _ => rfl⟩⟩
          · have m3 : ¬ v 65 2 = v 63 2 := m3
            have u2 : ¬ (hA F v).2.2 5 (nat s) = (hA F v).2.2 5 (nat d) := by
              rw [es, et]
              exact m3
            refine xcall (sp_errH F v 5 (by decide) ?_)
            exact h.err S _ (if_neg fun z => u2 z.2.2.1) ((if_pos ⟨a1, a2⟩).trans ((if_neg u1).trans (if_neg u2)))
        · have m2 : v 63 2 = 0 := m2
          refine br_c (fun z => absurd z (by decide)) (fun _ => ?_)
          have u1 : (hA F v).2.2 5 (nat s) = 0 ∨ (hA F v).2.2 5 (nat d) = 0 := by
            rw [es, et]
            exact Or.inr m2
          refine xcall (sp_errH F v 2 (by decide) ?_)
          exact h.err S _ (if_neg fun z => z.2.1 u1) ((if_pos ⟨a1, a2⟩).trans (if_pos u1))
      · have m0 : v 65 2 = 0 := m0
        refine br_n (fun _ => ?_) (fun z => absurd z (by decide))
        have u1 : (hA F v).2.2 5 (nat s) = 0 ∨ (hA F v).2.2 5 (nat d) = 0 := by
          rw [es, et]
          exact Or.inl m0
        refine xcall (sp_errH F v 2 (by decide) ?_)
        exact h.err S _ (if_neg fun z => z.2.1 u1) ((if_pos ⟨a1, a2⟩).trans (if_pos u1))
    · have et : nat d = 2 := by rw [et0]; decide
      have c4 : below 40 (v 65 1) := I.2.1.2.1.2.2.1
      refine xcall (sp_isMissing (fun k => F (65 + k)) (fun k => v (65 + k)) (fun m0 => ?_) (fun m0 => ?_))
      · have m0 : ¬ v 65 2 = 0 := m0
        refine br_n (fun z => absurd rfl z) (fun _ => ?_)
        refine xcall (sp_isMissing (fun k => F (65 + k)) (fun k => v (65 + k)) (fun m2 => ?_) (fun m2 => ?_))
        · have m2 : ¬ v 65 2 = 0 := m2
          refine br_c (fun _ => ?_) (fun z => absurd rfl z)
          have u1 : ¬ ((hA F v).2.2 5 (nat s) = 0 ∨ (hA F v).2.2 5 (nat d) = 0) := by
            rw [es, et]
            exact fun z => z.elim m0 m2
          refine br_c (fun m3 => ?_) (fun m3 => ?_)
          · have m3 : v 65 2 = v 65 2 := m3
            have u2 : (hA F v).2.2 5 (nat s) = (hA F v).2.2 5 (nat d) := by
              rw [es, et]
              try exact m3
            refine xcall (sp_hasRun (fun k => F (65 + k)) (fun k => v (65 + k)) i n b4 (fun r1 => ?_) (fun r1 => ?_))
            · refine br_c (fun _ => ?_) (fun z => absurd rfl z)
              have u3 : ¬ runs i j n ((hA F v).2.2 4 (nat s)) ((hA F v).2.2 4 (nat d)) := by
                rw [es, et]
                exact fun z => r1 z.1
              refine xcall (sp_errH F v 1 (by decide) ?_)
              exact h.err S _ (if_neg fun z => u3 z.2.2.2) ((if_pos ⟨a1, a2⟩).trans ((if_neg u1).trans ((if_pos u2).trans (if_neg u3))))
            refine br_c (fun z => absurd z (by decide)) (fun _ => ?_)
            refine xcall (sp_hasRun (fun k => F (65 + k)) (fun k => v (65 + k)) j n c4 (fun r2 => ?_) (fun r2 => ?_))
            · refine br_n (fun z => absurd rfl z) (fun _ => ?_)
              have u3 : ¬ runs i j n ((hA F v).2.2 4 (nat s)) ((hA F v).2.2 4 (nat d)) := by
                rw [es, et]
                exact fun z => r2 z.2
              refine xcall (sp_errH F v 1 (by decide) ?_)
              exact h.err S _ (if_neg fun z => u3 z.2.2.2) ((if_pos ⟨a1, a2⟩).trans ((if_neg u1).trans ((if_pos u2).trans (if_neg u3))))
            refine br_n (fun _ => ?_) (fun z => absurd z (by decide))
            have u3 : runs i j n ((hA F v).2.2 4 (nat s)) ((hA F v).2.2 4 (nat d)) := by
              rw [es, et]
              exact ⟨r1, r2⟩
            refine ⟨runs_cpy r1 r2 b4 c4, ?_⟩
            refine h.ok (F' := va_up F 66 (va_cpy (F 66) (F 66) (nat i) (nat j) (nat n))) (v' := v) S ?_ ((if_pos ⟨a1, a2⟩).trans ((if_neg u1).trans ((if_pos u2).trans (if_pos u3))))
            rw [show g_move s i d j n (hA F v) = _ from if_pos ⟨⟨a1, a2⟩, u1, u2, u3⟩, es, et]
            exact ⟨⟨⟨rfl, rfl, rfl, rfl, rfl, rfl⟩, fun _ _ => ⟨rfl, rfl⟩, fun _ _ => ⟨rfl, rfl⟩, fun _ _ => rfl, fun _ _ => rfl⟩, ⟨⟨fun _ _ => rfl, fun _ _ => rfl, fun _ _ => rfl, fun _ _ => rfl⟩, ⟨⟨rfl, rfl, rfl, rfl⟩, rfl, rfl, rfl, rfl⟩, ⟨rfl, rfl⟩, fun _ _ => rfl⟩, fun _ => ⟨⟨rfl, rfl, rfl, rfl, rfl, rfl⟩, fun _ _ => ⟨rfl, rfl⟩, fun _ _ => ⟨rfl, rfl⟩, fun _ _ => rfl, fun _ _ => rfl⟩⟩
          · have m3 : ¬ v 65 2 = v 65 2 := m3
            have u2 : ¬ (hA F v).2.2 5 (nat s) = (hA F v).2.2 5 (nat d) := by
              rw [es, et]
              exact m3
            refine xcall (sp_errH F v 5 (by decide) ?_)
            exact h.err S _ (if_neg fun z => u2 z.2.2.1) ((if_pos ⟨a1, a2⟩).trans ((if_neg u1).trans (if_neg u2)))
        · have m2 : v 65 2 = 0 := m2
          refine br_c (fun z => absurd z (by decide)) (fun _ => ?_)
          have u1 : (hA F v).2.2 5 (nat s) = 0 ∨ (hA F v).2.2 5 (nat d) = 0 := by
            rw [es, et]
            exact Or.inr m2
          refine xcall (sp_errH F v 2 (by decide) ?_)
          exact h.err S _ (if_neg fun z => z.2.1 u1) ((if_pos ⟨a1, a2⟩).trans (if_pos u1))
      · have m0 : v 65 2 = 0 := m0
        refine br_n (fun _ => ?_) (fun z => absurd z (by decide))
        have u1 : (hA F v).2.2 5 (nat s) = 0 ∨ (hA F v).2.2 5 (nat d) = 0 := by
          rw [es, et]
          exact Or.inl m0
        refine xcall (sp_errH F v 2 (by decide) ?_)
        exact h.err S _ (if_neg fun z => z.2.1 u1) ((if_pos ⟨a1, a2⟩).trans (if_pos u1))
    · have et : nat d = 3 := by rw [et0]; decide
      have c4 : below 40 (v 67 1) := I.2.1.2.1.2.2.2
      refine xcall (sp_isMissing (fun k => F (65 + k)) (fun k => v (65 + k)) (fun m0 => ?_) (fun m0 => ?_))
      · have m0 : ¬ v 65 2 = 0 := m0
        refine br_n (fun z => absurd rfl z) (fun _ => ?_)
        refine xcall (sp_isMissing (fun k => F (67 + k)) (fun k => v (67 + k)) (fun m2 => ?_) (fun m2 => ?_))
        · have m2 : ¬ v 67 2 = 0 := m2
          refine br_c (fun _ => ?_) (fun z => absurd rfl z)
          have u1 : ¬ ((hA F v).2.2 5 (nat s) = 0 ∨ (hA F v).2.2 5 (nat d) = 0) := by
            rw [es, et]
            exact fun z => z.elim m0 m2
          refine br_c (fun m3 => ?_) (fun m3 => ?_)
          · have m3 : v 65 2 = v 67 2 := m3
            have u2 : (hA F v).2.2 5 (nat s) = (hA F v).2.2 5 (nat d) := by
              rw [es, et]
              try exact m3
            refine xcall (sp_hasRun (fun k => F (65 + k)) (fun k => v (65 + k)) i n b4 (fun r1 => ?_) (fun r1 => ?_))
            · refine br_c (fun _ => ?_) (fun z => absurd rfl z)
              have u3 : ¬ runs i j n ((hA F v).2.2 4 (nat s)) ((hA F v).2.2 4 (nat d)) := by
                rw [es, et]
                exact fun z => r1 z.1
              refine xcall (sp_errH F v 1 (by decide) ?_)
              exact h.err S _ (if_neg fun z => u3 z.2.2.2) ((if_pos ⟨a1, a2⟩).trans ((if_neg u1).trans ((if_pos u2).trans (if_neg u3))))
            refine br_c (fun z => absurd z (by decide)) (fun _ => ?_)
            refine xcall (sp_hasRun (fun k => F (67 + k)) (fun k => v (67 + k)) j n c4 (fun r2 => ?_) (fun r2 => ?_))
            · refine br_n (fun z => absurd rfl z) (fun _ => ?_)
              have u3 : ¬ runs i j n ((hA F v).2.2 4 (nat s)) ((hA F v).2.2 4 (nat d)) := by
                rw [es, et]
                exact fun z => r2 z.2
              refine xcall (sp_errH F v 1 (by decide) ?_)
              exact h.err S _ (if_neg fun z => u3 z.2.2.2) ((if_pos ⟨a1, a2⟩).trans ((if_neg u1).trans ((if_pos u2).trans (if_neg u3))))
            refine br_n (fun _ => ?_) (fun z => absurd z (by decide))
            have u3 : runs i j n ((hA F v).2.2 4 (nat s)) ((hA F v).2.2 4 (nat d)) := by
              rw [es, et]
              exact ⟨r1, r2⟩
            refine ⟨runs_cpy r1 r2 b4 c4, ?_⟩
            refine h.ok (F' := va_up F 68 (va_cpy (F 66) (F 68) (nat i) (nat j) (nat n))) (v' := v) S ?_ ((if_pos ⟨a1, a2⟩).trans ((if_neg u1).trans ((if_pos u2).trans (if_pos u3))))
            rw [show g_move s i d j n (hA F v) = _ from if_pos ⟨⟨a1, a2⟩, u1, u2, u3⟩, es, et]
            exact ⟨⟨⟨rfl, rfl, rfl, rfl, rfl, rfl⟩, fun _ _ => ⟨rfl, rfl⟩, fun _ _ => ⟨rfl, rfl⟩, fun _ _ => rfl, fun _ _ => rfl⟩, ⟨⟨fun _ _ => rfl, fun _ _ => rfl, fun _ _ => rfl, fun _ _ => rfl⟩, ⟨⟨rfl, rfl, rfl, rfl⟩, rfl, rfl, rfl, rfl⟩, ⟨rfl, rfl⟩, fun _ _ => rfl⟩, fun _ => ⟨⟨rfl, rfl, rfl, rfl, rfl, rfl⟩, fun _ _ => ⟨rfl, rfl⟩, fun _ _ => ⟨rfl, rfl⟩, fun _ _ => rfl, fun _ _ => rfl⟩⟩
          · have m3 : ¬ v 65 2 = v 67 2 := m3
            have u2 : ¬ (hA F v).2.2 5 (nat s) = (hA F v).2.2 5 (nat d) := by
              rw [es, et]
              exact m3
            refine xcall (sp_errH F v 5 (by decide) ?_)
            exact h.err S _ (if_neg fun z => u2 z.2.2.1) ((if_pos ⟨a1, a2⟩).trans ((if_neg u1).trans (if_neg u2)))
        · have m2 : v 67 2 = 0 := m2
          refine br_c (fun z => absurd z (by decide)) (fun _ => ?_)
          have u1 : (hA F v).2.2 5 (nat s) = 0 ∨ (hA F v).2.2 5 (nat d) = 0 := by
            rw [es, et]
            exact Or.inr m2
          refine xcall (sp_errH F v 2 (by decide) ?_)
          exact h.err S _ (if_neg fun z => z.2.1 u1) ((if_pos ⟨a1, a2⟩).trans (if_pos u1))
      · have m0 : v 65 2 = 0 := m0
        refine br_n (fun _ => ?_) (fun z => absurd z (by decide))
        have u1 : (hA F v).2.2 5 (nat s) = 0 ∨ (hA F v).2.2 5 (nat d) = 0 := by
          rw [es, et]
          exact Or.inl m0
        refine xcall (sp_errH F v 2 (by decide) ?_)
        exact h.err S _ (if_neg fun z => z.2.1 u1) ((if_pos ⟨a1, a2⟩).trans (if_pos u1))
  · have es : nat s = 3 := by rw [es0]; decide
    have b4 : below 40 (v 67 1) := I.2.1.2.1.2.2.2
    refine ⟨vin a2, ⟨fun et0 => ?_, ⟨fun et0 => ?_, ⟨fun et0 => ?_, ⟨fun et0 => ?_, trivial⟩⟩⟩⟩⟩
    · have et : nat d = 0 := by rw [et0]; decide
      have c4 : below 40 (v 61 1) := I.2.1.2.1.1
      refine xcall (sp_isMissing (fun k => F (67 + k)) (fun k => v (67 + k)) (fun m0 => ?_) (fun m0 => ?_))
      · have m0 : ¬ v 67 2 = 0 := m0
        refine br_n (fun z => absurd rfl z) (fun _ => ?_)
        refine xcall (sp_isMissing (fun k => F (61 + k)) (fun k => v (61 + k)) (fun m2 => ?_) (fun m2 => ?_))
        · have m2 : ¬ v 61 2 = 0 := m2
          refine br_c (fun _ => ?_) (fun z => absurd rfl z)
          have u1 : ¬ ((hA F v).2.2 5 (nat s) = 0 ∨ (hA F v).2.2 5 (nat d) = 0) := by
            rw [es, et]
            exact fun z => z.elim m0 m2
          refine br_c (fun m3 => ?_) (fun m3 => ?_)
          · have m3 : v 67 2 = v 61 2 := m3
            have u2 : (hA F v).2.2 5 (nat s) = (hA F v).2.2 5 (nat d) := by
              rw [es, et]
              try exact m3
            refine xcall (sp_hasRun (fun k => F (67 + k)) (fun k => v (67 + k)) i n b4 (fun r1 => ?_) (fun r1 => ?_))
            · refine br_c (fun _ => ?_) (fun z => absurd rfl z)
              have u3 : ¬ runs i j n ((hA F v).2.2 4 (nat s)) ((hA F v).2.2 4 (nat d)) := by
                rw [es, et]
                exact fun z => r1 z.1
              refine xcall (sp_errH F v 1 (by decide) ?_)
              exact h.err S _ (if_neg fun z => u3 z.2.2.2) ((if_pos ⟨a1, a2⟩).trans ((if_neg u1).trans ((if_pos u2).trans (if_neg u3))))
            refine br_c (fun z => absurd z (by decide)) (fun _ => ?_)
            refine xcall (sp_hasRun (fun k => F (61 + k)) (fun k => v (61 + k)) j n c4 (fun r2 => ?_) (fun r2 => ?_))
            · refine br_n (fun z => absurd rfl z) (fun _ => ?_)
              have u3 : ¬ runs i j n ((hA F v).2.2 4 (nat s)) ((hA F v).2.2 4 (nat d)) := by
                rw [es, et]
                exact fun z => r2 z.2
              refine xcall (sp_errH F v 1 (by decide) ?_)
              exact h.err S _ (if_neg fun z => u3 z.2.2.2) ((if_pos ⟨a1, a2⟩).trans ((if_neg u1).trans ((if_pos u2).trans (if_neg u3))))
            refine br_n (fun _ => ?_) (fun z => absurd z (by decide))
            have u3 : runs i j n ((hA F v).2.2 4 (nat s)) ((hA F v).2.2 4 (nat d)) := by
              rw [es, et]
              exact ⟨r1, r2⟩
            refine ⟨runs_cpy r1 r2 b4 c4, ?_⟩
            refine h.ok (F' := va_up F 62 (va_cpy (F 68) (F 62) (nat i) (nat j) (nat n))) (v' := v) S ?_ ((if_pos ⟨a1, a2⟩).trans ((if_neg u1).trans ((if_pos u2).trans (if_pos u3))))
            rw [show g_move s i d j n (hA F v) = _ from if_pos ⟨⟨a1, a2⟩, u1, u2, u3⟩, es, et]
            exact ⟨⟨⟨rfl, rfl, rfl, rfl, rfl, rfl⟩, fun _ _ => ⟨rfl, rfl⟩, fun _ _ => ⟨rfl, rfl⟩, fun _ _ => rfl, fun _ _ => rfl⟩, ⟨⟨fun _ _ => rfl, fun _ _ => rfl, fun _ _ => rfl, fun _ _ => rfl⟩, ⟨⟨rfl, rfl, rfl, rfl⟩, rfl, rfl, rfl, rfl⟩, ⟨rfl, rfl⟩, fun _ _ => rfl⟩, fun _ => ⟨⟨rfl, rfl, rfl, rfl, rfl, rfl⟩, fun _ _ => ⟨rfl, rfl⟩, fun _ _ => ⟨rfl, rfl⟩, fun _ _ => rfl, fun _ _ => rfl⟩⟩
          · have m3 : ¬ v 67 2 = v 61 2 := m3
            have u2 : ¬ (hA F v).2.2 5 (nat s) = (hA F v).2.2 5 (nat d) := by
              rw [es, et]
              exact m3
            refine xcall (sp_errH F v 5 (by decide) ?_)
            exact h.err S _ (if_neg fun z => u2 z.2.2.1) ((if_pos ⟨a1, a2⟩).trans ((if_neg u1).trans (if_neg u2)))
        · have m2 : v 61 2 = 0 := m2
          refine br_c (fun z => absurd z (by decide)) (fun _ => ?_)
          have u1 : (hA F v).2.2 5 (nat s) = 0 ∨ (hA F v).2.2 5 (nat d) = 0 := by
            rw [es, et]
            exact Or.inr m2
          refine xcall (sp_errH F v 2 (by decide) ?_)
          exact h.err S _ (if_neg fun z => z.2.1 u1) ((if_pos ⟨a1, a2⟩).trans (if_pos u1))
      · have m0 : v 67 2 = 0 := m0
        refine br_n (fun _ => ?_) (fun z => absurd z (by decide))
        have u1 : (hA F v).2.2 5 (nat s) = 0 ∨ (hA F v).2.2 5 (nat d) = 0 := by
          rw [es, et]
          exact Or.inl m0
        refine xcall (sp_errH F v 2 (by decide) ?_)
        exact h.err S _ (if_neg fun z => z.2.1 u1) ((if_pos ⟨a1, a2⟩).trans (if_pos u1))
    · have et : nat d = 1 := by rw [et0]; decide
      have c4 : below 40 (v 63 1) := I.2.1.2.1.2.1
      refine xcall (sp_isMissing (fun k => F (67 + k)) (fun k => v (67 + k)) (fun m0 => ?_) (fun m0 => ?_))
      · have m0 : ¬ v 67 2 = 0 := m0
        refine br_n (fun z => absurd rfl z) (fun _ => ?_)
        refine xcall (sp_isMissing (fun k => F (63 + k)) (fun k => v (63 + k)) (fun m2 => ?_) (fun m2 => ?_))
        · have m2 : ¬ v 63 2 = 0 := m2
          refine br_c (fun _ => ?_) (fun z => absurd rfl z)
          have u1 : ¬ ((hA F v).2.2 5 (nat s) = 0 ∨ (hA F v).2.2 5 (nat d) = 0) := by
            rw [es, et]
            exact fun z => z.elim m0 m2
          refine br_c (fun m3 => ?_) (fun m3 => ?_)
          · have m3 : v 67 2 = v 63 2 := m3
            have u2 : (hA F v).2.2 5 (nat s) = (hA F v).2.2 5 (nat d) := by
              rw [es, et]
              try exact m3
            refine xcall (sp_hasRun (fun k => F (67 + k)) (fun k => v (67 + k)) i n b4 (fun r1 => ?_) (fun r1 => ?_))
            · refine br_c (fun _ => ?_) (fun z => absurd rfl z)
              have u3 : ¬ runs i j n ((hA F v).2.2 4 (nat s)) ((hA F v).2.2 4 (nat d)) := by
                rw [es, et]
                exact fun z => r1 z.1
              refine xcall (sp_errH F v 1 (by decide) ?_)
              exact h.err S _ (if_neg fun z => u3 z.2.2.2) ((if_pos ⟨a1, a2⟩).trans ((if_neg u1).trans ((if_pos u2).trans (if_neg u3))))
            refine br_c (fun z => absurd z (by decide)) (fun _ => ?_)
            refine xcall (sp_hasRun (fun k => F (63 + k)) (fun k => v (63 + k)) j n c4 (fun r2 => ?_) (fun r2 => ?_))
            · refine br_n (fun z => absurd rfl z) (fun _ => ?_)
              have u3 : ¬ runs i j n ((hA F v).2.2 4 (nat s)) ((hA F v).2.2 4 (nat d)) := by
                rw [es, et]
                exact fun z => r2 z.2
              refine xcall (sp_errH F v 1 (by decide) ?_)
              exact h.err S _ (if_neg fun z => u3 z.2.2.2) ((if_pos ⟨a1, a2⟩).trans ((if_neg u1).trans ((if_pos u2).trans (if_neg u3))))
            refine br_n (fun _ => ?_) (fun z => absurd z (by decide))
            have u3 : runs i j n ((hA F v).2.2 4 (nat s)) ((hA F v).2.2 4 (nat d)) := by
              rw [es, et]
              exact ⟨r1, r2⟩
            refine ⟨runs_cpy r1 r2 b4 c4, ?_⟩
            refine h.ok (F' := va_up F 64 (va_cpy (F 68) (F 64) (nat i) (nat j) (nat n))) (v' := v) S ?_ ((if_pos ⟨a1, a2⟩).trans ((if_neg u1).trans ((if_pos u2).trans (if_pos u3))))
            rw [show g_move s i d j n (hA F v) = _ from if_pos ⟨⟨a1, a2⟩, u1, u2, u3⟩, es, et]
            exact ⟨⟨⟨rfl, rfl, rfl, rfl, rfl, rfl⟩, fun _ _ => ⟨rfl, rfl⟩, fun _ _ => ⟨rfl, rfl⟩, fun _ _ => rfl, fun _ _ => rfl⟩, ⟨⟨fun _ _ => rfl, fun _ _ => rfl, fun _ _ => rfl, fun _ _ => rfl⟩, ⟨⟨rfl, rfl, rfl, rfl⟩, rfl, rfl, rfl, rfl⟩, ⟨rfl, rfl⟩, fun _ _ => rfl⟩, fun _ => ⟨⟨rfl, rfl, rfl, rfl, rfl, rfl⟩, fun _ _ => ⟨rfl, rfl⟩, fun _ _ => ⟨rfl, rfl⟩, fun _ _ => rfl, fun _ _ => rfl⟩⟩
          · have m3 : ¬ v 67 2 = v 63 2 := m3
            have u2 : ¬ (hA F v).2.2 5 (nat s) = (hA F v).2.2 5 (nat d) := by
              rw [es, et]
              exact m3
            refine xcall (sp_errH F v 5 (by decide) ?_)
            exact h.err S _ (if_neg fun z => u2 z.2.2.1) ((if_pos ⟨a1, a2⟩).trans ((if_neg u1).trans (if_neg u2)))
        · have m2 : v 63 2 = 0 := m2
          refine br_c (fun z => absurd z (by decide)) (fun _ => ?_)
          have u1 : (hA F v).2.2 5 (nat s) = 0 ∨ (hA F v).2.2 5 (nat d) = 0 := by
            rw [es, et]
            exact Or.inr m2
          refine xcall (sp_errH F v 2 (by decide) ?_)
          exact h.err S _ (if_neg fun z => z.2.1 u1) ((if_pos ⟨a1, a2⟩).trans (if_pos u1))
      · have m0 : v 67 2 = 0 := m0
        refine br_n (fun _ => ?_) (fun z => absurd z (by decide))
        have u1 : (hA F v).2.2 5 (nat s) = 0 ∨ (hA F v).2.2 5 (nat d) = 0 := by
          rw [es, et]
          exact Or.inl m0
        refine xcall (sp_errH F v 2 (by decide) ?_)
        exact h.err S _ (if_neg fun z => z.2.1 u1) ((if_pos ⟨a1, a2⟩).trans (if_pos u1))
    · have et : nat d = 2 := by rw [et0]; decide
      have c4 : below 40 (v 65 1) := I.2.1.2.1.2.2.1
      refine xcall (sp_isMissing (fun k => F (67 + k)) (fun k => v (67 + k)) (fun m0 => ?_) (fun m0 => ?_))
      · have m0 : ¬ v 67 2 = 0 := m0
        refine br_n (fun z => absurd rfl z) (fun _ => ?_)
        refine xcall (sp_isMissing (fun k => F (65 + k)) (fun k => v (65 + k)) (fun m2 => ?_) (fun m2 => ?_))
        · have m2 : ¬ v 65 2 = 0 := m2
          refine br_c (fun _ => ?_) (fun z => absurd rfl z)
          have u1 : ¬ ((hA F v).2.2 5 (nat s) = 0 ∨ (hA F v).2.2 5 (nat d) = 0) := by
            rw [es, et]
            exact fun z => z.elim m0 m2
          refine br_c (fun m3 => ?_) (fun m3 => ?_)
          · have m3 : v 67 2 = v 65 2 := m3
            have u2 : (hA F v).2.2 5 (nat s) = (hA F v).2.2 5 (nat d) := by
              rw [es, et]
              try exact m3
            refine xcall (sp_hasRun (fun k => F (67 + k)) (fun k => v (67 + k)) i n b4 (fun r1 => ?_) (fun r1 => ?_))
            · refine br_c (fun _ => ?_) (fun z => absurd rfl z)
              have u3 : ¬ runs i j n ((hA F v).2.2 4 (nat s)) ((hA F v).2.2 4 (nat d)) := by
                rw [es, et]
                exact fun z => r1 z.1
              refine xcall (sp_errH F v 1 (by decide) ?_)
              exact h.err S _ (if_neg fun z => u3 z.2.2.2) ((if_pos ⟨a1, a2⟩).trans ((if_neg u1).trans ((if_pos u2).trans (if_neg u3))))
            refine br_c (fun z => absurd z (by decide)) (fun _ => ?_)
            refine xcall (sp_hasRun (fun k => F (65 + k)) (fun k => v (65 + k)) j n c4 (fun r2 => ?_) (fun r2 => ?_))
            · refine br_n (fun z => absurd rfl z) (fun _ => ?_)
              have u3 : ¬ runs i j n ((hA F v).2.2 4 (nat s)) ((hA F v).2.2 4 (nat d)) := by
                rw [es, et]
                exact fun z => r2 z.2
              refine xcall (sp_errH F v 1 (by decide) ?_)
              exact h.err S _ (if_neg fun z => u3 z.2.2.2) ((if_pos ⟨a1, a2⟩).trans ((if_neg u1).trans ((if_pos u2).trans (if_neg u3))))
            refine br_n (fun _ => ?_) (fun z => absurd z (by decide))
            have u3 : runs i j n ((hA F v).2.2 4 (nat s)) ((hA F v).2.2 4 (nat d)) := by
              rw [es, et]
              exact ⟨r1, r2⟩
            refine ⟨runs_cpy r1 r2 b4 c4, ?_⟩
            refine h.ok (F' := va_up F 66 (va_cpy (F 68) (F 66) (nat i) (nat j) (nat n))) (v' := v) S ?_ ((if_pos ⟨a1, a2⟩).trans ((if_neg u1).trans ((if_pos u2).trans (if_pos u3))))
            rw [show g_move s i d j n (hA F v) = _ from if_pos ⟨⟨a1, a2⟩, u1, u2, u3⟩, es, et]
            exact ⟨⟨⟨rfl, rfl, rfl, rfl, rfl, rfl⟩, fun _ _ => ⟨rfl, rfl⟩, fun _ _ => ⟨rfl, rfl⟩, fun _ _ => rfl, fun _ _ => rfl⟩, ⟨⟨fun _ _ => rfl, fun _ _ => rfl, fun _ _ => rfl, fun _ _ => rfl⟩, ⟨⟨rfl, rfl, rfl, rfl⟩, rfl, rfl, rfl, rfl⟩, ⟨rfl, rfl⟩, fun _ _ => rfl⟩, fun _ => ⟨⟨rfl, rfl, rfl, rfl, rfl, rfl⟩, fun _ _ => ⟨rfl, rfl⟩, fun _ _ => ⟨rfl, rfl⟩, fun _ _ => rfl, fun _ _ => rfl⟩⟩
          · have m3 : ¬ v 67 2 = v 65 2 := m3
            have u2 : ¬ (hA F v).2.2 5 (nat s) = (hA F v).2.2 5 (nat d) := by
              rw [es, et]
              exact m3
            refine xcall (sp_errH F v 5 (by decide) ?_)
            exact h.err S _ (if_neg fun z => u2 z.2.2.1) ((if_pos ⟨a1, a2⟩).trans ((if_neg u1).trans (if_neg u2)))
        · have m2 : v 65 2 = 0 := m2
          refine br_c (fun z => absurd z (by decide)) (fun _ => ?_)
          have u1 : (hA F v).2.2 5 (nat s) = 0 ∨ (hA F v).2.2 5 (nat d) = 0 := by
            rw [es, et]
            exact Or.inr m2
          refine xcall (sp_errH F v 2 (by decide) ?_)
          exact h.err S _ (if_neg fun z => z.2.1 u1) ((if_pos ⟨a1, a2⟩).trans (if_pos u1))
      · have m0 : v 67 2 = 0 := m0
        refine br_n (fun _ => ?_) (fun z => absurd z (by decide))
        have u1 : (hA F v).2.2 5 (nat s) = 0 ∨ (hA F v).2.2 5 (nat d) = 0 := by
          rw [es, et]
          exact Or.inl m0
        refine xcall (sp_errH F v 2 (by decide) ?_)
        exact h.err S _ (if_neg fun z => z.2.1 u1) ((if_pos ⟨a1, a2⟩).trans (if_pos u1))
    · have et : nat d = 3 := by rw [et0]; decide
      have c4 : below 40 (v 67 1) := I.2.1.2.1.2.2.2
      refine xcall (sp_isMissing (fun k => F (67 + k)) (fun k => v (67 + k)) (fun m0 => ?_) (fun m0 => ?_))
      · have m0 : ¬ v 67 2 = 0 := m0
        refine br_n (fun z => absurd rfl z) (fun _ => ?_)
        refine xcall (sp_isMissing (fun k => F (67 + k)) (fun k => v (67 + k)) (fun m2 => ?_) (fun m2 => ?_))
        · have m2 : ¬ v 67 2 = 0 := m2
          refine br_c (fun _ => ?_) (fun z => absurd rfl z)
          have u1 : ¬ ((hA F v).2.2 5 (nat s) = 0 ∨ (hA F v).2.2 5 (nat d) = 0) := by
            rw [es, et]
            exact fun z => z.elim m0 m2
          refine br_c (fun m3 => ?_) (fun m3 => ?_)
          · have m3 : v 67 2 = v 67 2 := m3
            have u2 : (hA F v).2.2 5 (nat s) = (hA F v).2.2 5 (nat d) := by
              rw [es, et]
              try exact m3
            refine xcall (sp_hasRun (fun k => F (67 + k)) (fun k => v (67 + k)) i n b4 (fun r1 => ?_) (fun r1 => ?_))
            · refine br_c (fun _ => ?_) (fun z => absurd rfl z)
              have u3 : ¬ runs i j n ((hA F v).2.2 4 (nat s)) ((hA F v).2.2 4 (nat d)) := by
                rw [es, et]
                exact fun z => r1 z.1
              refine xcall (sp_errH F v 1 (by decide) ?_)
              exact h.err S _ (if_neg fun z => u3 z.2.2.2) ((if_pos ⟨a1, a2⟩).trans ((if_neg u1).trans ((if_pos u2).trans (if_neg u3))))
            refine br_c (fun z => absurd z (by decide)) (fun _ => ?_)
            refine xcall (sp_hasRun (fun k => F (67 + k)) (fun k => v (67 + k)) j n c4 (fun r2 => ?_) (fun r2 => ?_))
            · refine br_n (fun z => absurd rfl z) (fun _ => ?_)
              have u3 : ¬ runs i j n ((hA F v).2.2 4 (nat s)) ((hA F v).2.2 4 (nat d)) := by
                rw [es, et]
                exact fun z => r2 z.2
              refine xcall (sp_errH F v 1 (by decide) ?_)
              exact h.err S _ (if_neg fun z => u3 z.2.2.2) ((if_pos ⟨a1, a2⟩).trans ((if_neg u1).trans ((if_pos u2).trans (if_neg u3))))
            refine br_n (fun _ => ?_) (fun z => absurd z (by decide))
            have u3 : runs i j n ((hA F v).2.2 4 (nat s)) ((hA F v).2.2 4 (nat d)) := by
              rw [es, et]
              exact ⟨r1, r2⟩
            refine ⟨runs_cpy r1 r2 b4 c4, ?_⟩
            refine h.ok (F' := va_up F 68 (va_cpy (F 68) (F 68) (nat i) (nat j) (nat n))) (v' := v) S ?_ ((if_pos ⟨a1, a2⟩).trans ((if_neg u1).trans ((if_pos u2).trans (if_pos u3))))
            rw [show g_move s i d j n (hA F v) = _ from if_pos ⟨⟨a1, a2⟩, u1, u2, u3⟩, es, et]
            exact ⟨⟨⟨rfl, rfl, rfl, rfl, rfl, rfl⟩, fun _ _ => ⟨rfl, rfl⟩, fun _ _ => ⟨rfl, rfl⟩, fun _ _ => rfl, fun _ _ => rfl⟩, ⟨⟨fun _ _ => rfl, fun _ _ => rfl, fun _ _ => rfl, fun _ _ => rfl⟩, ⟨⟨rfl, rfl, rfl, rfl⟩, rfl, rfl, rfl, rfl⟩, ⟨rfl, rfl⟩, fun _ _ => rfl⟩, fun _ => ⟨⟨rfl, rfl, rfl, rfl, rfl, rfl⟩, fun _ _ => ⟨rfl, rfl⟩, fun _ _ => ⟨rfl, rfl⟩, fun _ _ => rfl, fun _ _ => rfl⟩⟩
          · have m3 : ¬ v 67 2 = v 67 2 := m3
            have u2 : ¬ (hA F v).2.2 5 (nat s) = (hA F v).2.2 5 (nat d) := by
              rw [es, et]
              exact m3
            refine xcall (sp_errH F v 5 (by decide) ?_)
            exact h.err S _ (if_neg fun z => u2 z.2.2.1) ((if_pos ⟨a1, a2⟩).trans ((if_neg u1).trans (if_neg u2)))
        · have m2 : v 67 2 = 0 := m2
          refine br_c (fun z => absurd z (by decide)) (fun _ => ?_)
          have u1 : (hA F v).2.2 5 (nat s) = 0 ∨ (hA F v).2.2 5 (nat d) = 0 := by
            rw [es, et]
            exact Or.inr m2
          refine xcall (sp_errH F v 2 (by decide) ?_)
          exact h.err S _ (if_neg fun z => z.2.1 u1) ((if_pos ⟨a1, a2⟩).trans (if_pos u1))
      · have m0 : v 67 2 = 0 := m0
        refine br_n (fun _ => ?_) (fun z => absurd z (by decide))
        have u1 : (hA F v).2.2 5 (nat s) = 0 ∨ (hA F v).2.2 5 (nat d) = 0 := by
          rw [es, et]
          exact Or.inl m0
        refine xcall (sp_errH F v 2 (by decide) ?_)
        exact h.err S _ (if_neg fun z => z.2.1 u1) ((if_pos ⟨a1, a2⟩).trans (if_pos u1))
