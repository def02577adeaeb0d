/-! ===== the tried side: pace, sight, sums, counts ===== -/
variable {Φ : hRw → Prop}
def paceV (kind m calls it : Int32) : Int32 := if kind = 1 then 1 + (m - m / 2 * 2) else if kind = 2 then 2 else if kind = 3 then (if calls - calls / 2 * 2 = 0 then 1 else 0) else if kind = 4 then 0 else if kind = 5 then (if it = -1 then 3 else 2) else if kind = 6 then (if calls - calls / 2 * 2 = 0 then 1 else 0) + (m - m / 3 * 3) else 1
def farV (kind m : Int32) : Int32 := if kind = 1 then 5 else if kind = 2 then 6 - (m - m / 3 * 3) else if kind = 3 then 2 else if kind = 4 then 5 else if kind = 5 then 7 - (m - m / 3 * 3) else if kind = 6 then 2 else 6
theorem sp_pace (F v : xS) (c : Int32) (hc : vp_in c 7) {K : xKo} (h : K (some (.int (paceV (F 3 (nat c)) (F 4 (nat c)) (v 0 10) (v 0 9)))) (xfill F v 0 (wT0 0))) : C_T_pace [.ref 0, .int c] (xfill F v 0 (wT0 0)) K := by
  unfold paceV at h
  refine xM_go rfl 60 [] fun P hP => ?_
  refine ⟨hc, ?_⟩
  refine ⟨by decide, ?_⟩
  refine br_n (fun b => ?_) (fun b => ?_)
  all_goals
    refine ⟨hc, ?_⟩
    refine ⟨fun a => ?_, fun n1 => ?_⟩
    · have a : F 3 (nat c) = 1 := a
      rw [if_pos a] at h
      exact ⟨by decide, h⟩
    have n1 : ¬ F 3 (nat c) = 1 := n1
    rw [if_neg n1] at h
    refine ⟨fun a => ?_, fun n2 => ?_⟩
    · have a : F 3 (nat c) = 2 := a
      rw [if_pos a] at h; exact h
    have n2 : ¬ F 3 (nat c) = 2 := n2
    rw [if_neg n2] at h
    refine ⟨fun a => ?_, fun n3 => ?_⟩
    · have a : F 3 (nat c) = 3 := a
      rw [if_pos a] at h
      first
        | (have b : v 0 10 - v 0 10 / 2 * 2 = 0 := b
           rw [if_pos b] at h
           exact h)
        | (have b : ¬ v 0 10 - v 0 10 / 2 * 2 = 0 := b
           rw [if_neg b] at h
           exact h)
    have n3 : ¬ F 3 (nat c) = 3 := n3
    rw [if_neg n3] at h
    refine ⟨fun a => ?_, fun n4 => ?_⟩
    · have a : F 3 (nat c) = 4 := a
      rw [if_pos a] at h; exact h
    have n4 : ¬ F 3 (nat c) = 4 := n4
    rw [if_neg n4] at h
    refine ⟨fun a => ?_, fun n5 => ?_⟩
    · have a : F 3 (nat c) = 5 := a
      rw [if_pos a] at h
      refine br_n (fun d => ?_) (fun d => ?_)
      · have d : ¬ v 0 9 = -1 := d
        rw [if_neg d] at h; exact h
      · have d : v 0 9 = -1 := d
        rw [if_pos d] at h; exact h
    have n5 : ¬ F 3 (nat c) = 5 := n5
    rw [if_neg n5] at h
    refine ⟨fun a => ?_, fun n6 => ?_⟩
    · have a : F 3 (nat c) = 6 := a
      rw [if_pos a] at h
      refine ⟨by decide, ?_⟩
      first
        | (have b : v 0 10 - v 0 10 / 2 * 2 = 0 := b
           rw [if_pos b] at h
           exact h)
        | (have b : ¬ v 0 10 - v 0 10 / 2 * 2 = 0 := b
           rw [if_neg b] at h
           exact h)
    have n6 : ¬ F 3 (nat c) = 6 := n6
    rw [if_neg n6] at h
    exact h
theorem sp_far (F v : xS) (c : Int32) (hc : vp_in c 7) {K : xKo} (h : K (some (.int (farV (F 3 (nat c)) (F 4 (nat c))))) (xfill F v 0 (wT0 0))) : C_T_far [.ref 0, .int c] (xfill F v 0 (wT0 0)) K := by
  unfold farV at h
  refine xM_go rfl 60 [] fun P hP => ?_
  refine ⟨hc, ?_⟩
  refine ⟨hc, ?_⟩
  refine ⟨fun a => ?_, fun n1 => ?_⟩
  · have a : F 3 (nat c) = 1 := a
    rw [if_pos a] at h; exact h
  have n1 : ¬ F 3 (nat c) = 1 := n1
  rw [if_neg n1] at h
  refine ⟨fun a => ?_, fun n2 => ?_⟩
  · have a : F 3 (nat c) = 2 := a
    rw [if_pos a] at h
    exact ⟨by decide, h⟩
  have n2 : ¬ F 3 (nat c) = 2 := n2
  rw [if_neg n2] at h
  refine ⟨fun a => ?_, fun n3 => ?_⟩
  · have a : F 3 (nat c) = 3 := a
    rw [if_pos a] at h; exact h
  have n3 : ¬ F 3 (nat c) = 3 := n3
  rw [if_neg n3] at h
  refine ⟨fun a => ?_, fun n4 => ?_⟩
  · have a : F 3 (nat c) = 4 := a
    rw [if_pos a] at h; exact h
  have n4 : ¬ F 3 (nat c) = 4 := n4
  rw [if_neg n4] at h
  refine ⟨fun a => ?_, fun n5 => ?_⟩
  · have a : F 3 (nat c) = 5 := a
    rw [if_pos a] at h
    exact ⟨by decide, h⟩
  have n5 : ¬ F 3 (nat c) = 5 := n5
  rw [if_neg n5] at h
  refine ⟨fun a => ?_, fun n6 => ?_⟩
  · have a : F 3 (nat c) = 6 := a
    rw [if_pos a] at h; exact h
  have n6 : ¬ F 3 (nat c) = 6 := n6
  rw [if_neg n6] at h
  exact h
def sumV (f : Nat → Int32) : Nat → Int32
  | 0 => 0
  | n + 1 => sumV f n + f n
theorem sp_sum6 (F v : xS) (n : Nat) (hn : n ≤ 7) (e : v 0 8 = nI n) {K : xKo} (h : K (some (.int (sumV (F 6) n))) (xfill F v 0 (wT0 0))) : C_T_sum [.ref 0, .ref 6] (xfill F v 0 (wT0 0)) K := by
  have key : ∀ (d i : Nat), i + d = n → xWP pg_T_sum K 4 [(0, .ref 0), (1, .ref 6), (2, .int (sumV (F 6) i)), (3, .int (nI i))] [] (xfill F v 0 (wT0 0)) (0, 0) := by
    intro d
    induction d with
    | zero =>
      intro i hi
      have hi : i = n := hi
      subst hi
      refine xWP_go 100 [(4, [0, 1, 2, 3])] fun P hP => ?_
      refine br_c (fun _ => h) (fun z => absurd (by show v 0 8 ≤ nI i; rw [e]; exact nI_le (Nat.le_refl _) (by omega)) z)
    | succ d ih =>
      intro i hi
      refine xWP_go 100 [(4, [0, 1, 2, 3])] fun P hP => ?_
      refine br_c (fun z => ?_) (fun _ => ?_)
      · have z : v 0 8 ≤ nI i := z
        rw [e] at z
        exact absurd z (nI_ge (by omega) (by omega))
      refine ⟨vp_in_nI (by omega) (by omega), ?_⟩
      refine hP _ _ _ _ _ ?_
      have q := ih (i + 1) (by omega)
      have es : sumV (F 6) (i + 1) = sumV (F 6) i + F 6 (nat (nI i)) := by
        rw [show nat (nI i) = i from nI_clamp (by omega)]
        rfl
      rw [es, ← nI_1] at q
      exact q
  refine xM_go rfl 100 [(4, [0, 1, 2, 3])] fun P hP => ?_
  refine hP _ _ _ _ _ ?_
  exact key n 0 (by omega)
theorem sp_sum7 (F v : xS) (n : Nat) (hn : n ≤ 7) (e : v 0 8 = nI n) {K : xKo} (h : K (some (.int (sumV (F 7) n))) (xfill F v 0 (wT0 0))) : C_T_sum [.ref 0, .ref 7] (xfill F v 0 (wT0 0)) K := by
  have key : ∀ (d i : Nat), i + d = n → xWP pg_T_sum K 4 [(0, .ref 0), (1, .ref 7), (2, .int (sumV (F 7) i)), (3, .int (nI i))] [] (xfill F v 0 (wT0 0)) (0, 0) := by
    intro d
    induction d with
    | zero =>
      intro i hi
      have hi : i = n := hi
      subst hi
      refine xWP_go 100 [(4, [0, 1, 2, 3])] fun P hP => ?_
      refine br_c (fun _ => h) (fun z => absurd (by show v 0 8 ≤ nI i; rw [e]; exact nI_le (Nat.le_refl _) (by omega)) z)
    | succ d ih =>
      intro i hi
      refine xWP_go 100 [(4, [0, 1, 2, 3])] fun P hP => ?_
      refine br_c (fun z => ?_) (fun _ => ?_)
      · have z : v 0 8 ≤ nI i := z
        rw [e] at z
        exact absurd z (nI_ge (by omega) (by omega))
      refine ⟨vp_in_nI (by omega) (by omega), ?_⟩
      refine hP _ _ _ _ _ ?_
      have q := ih (i + 1) (by omega)
      have es : sumV (F 7) (i + 1) = sumV (F 7) i + F 7 (nat (nI i)) := by
        rw [show nat (nI i) = i from nI_clamp (by omega)]
        rfl
      rw [es, ← nI_1] at q
      exact q
  refine xM_go rfl 100 [(4, [0, 1, 2, 3])] fun P hP => ?_
  refine hP _ _ _ _ _ ?_
  exact key n 0 (by omega)
