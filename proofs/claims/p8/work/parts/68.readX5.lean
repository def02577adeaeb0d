/-! ===== the tried side: where a tape is refused, what it becomes ===== -/
abbrev rdU : Type := rdT × Int32 × Bool
def rdA (u : Int32) (tp : Nat → Int32) : Nat → Nat → rdU → Nat × Option rdU
  | 0, i, s => (i, some s)
  | d + 1, i, s => match rdS u (tp i) s.1 s.2.1 s.2.2 with
    | none => (i, none)
    | some s2 => rdA u tp d (i + 1) s2
def rdE (r : rdT) : Option (List Int32) := match r with
  | (c, [], _) => some c
  | _ => none
def rdW (s : rdU) : Option (List Int32) := if s.2.2 then none else rdE (rlL 1 (cnL s.1.1 s.1.2.1 s.1.2.2).1 (cnL s.1.1 s.1.2.1 s.1.2.2).2.2 (cnL s.1.1 s.1.2.1 s.1.2.2).2.1)
def rd0 : rdU := (([], [], 0), 0, true)
/-- the code of a tape, or where it is refused -/
def rdF (u : Int32) (tp : Nat → Int32) (n : Nat) : Option (List Int32) × Nat := match rdA u tp n 0 rd0 with
  | (i, none) => (none, i)
  | (_, some s) => (rdW s, n)
/-- a code laid in the reader's row -/
def cdR (F v : xS) (c : List Int32) : Prop := v 0 1 = nI c.length ∧ c.length ≤ 50 ∧ ∀ i, i < c.length → F 1 i = c.getD i 0
set_option maxRecDepth 100000 in
theorem sx_isWhole (F v : xS) (s : rdU) (R : rdR F v s.1 s.2.1 s.2.2) {K : xKo} (h0 : rdW s = none → ∀ F' v', rI v' → K (some (.int 0)) (xfill F' v' 0 (wR0 0))) (h1 : ∀ c, rdW s = some c → ∀ F' v', rI v' → cdR F' v' c → K (some (.int 1)) (xfill F' v' 0 (wR0 0))) : C_R_isWhole [.ref 0] (xfill F v 0 (wR0 0)) K := by
  obtain ⟨q, dg, w⟩ := s
  have R : rdR F v q dg w := R
  have e6 : v 0 6 = b2i w := R.2.2.2.2
  refine xM_go rfl 100 [] fun P hP => ?_
  refine br_c (fun z => ?_) (fun z => ?_)
  · have z : v 0 6 = 0 := z
    have wf : w = false := by
      rw [e6] at z
      cases w with
      | false => rfl
      | true => exact absurd z (by decide)
    subst wf
    obtain ⟨r4, er4⟩ : ∃ r4, r4 = (rlL 1 (cnL q.1 q.2.1 q.2.2).1 (cnL q.1 q.2.1 q.2.2).2.2 (cnL q.1 q.2.1 q.2.2).2.1) := ⟨_, rfl⟩
    have ew : rdW (q, dg, false) = rdE r4 := by
      rw [er4]
      unfold rdW
      exact if_neg Bool.false_ne_true
    rw [ew] at h0 h1
    refine xcall (sxc_closeNots R (fun F1 v1 R1 => ?_))
    refine xcall (sxc_release R1 1 (fun F2 v2 R2 => ?_))
    have R2 : rdR F2 v2 r4 dg false := by rw [er4]; exact R2
    obtain ⟨c, hl, o⟩ := r4
    cases hl with
    | nil =>
      have e3 : v2 0 3 = 0 := R2.2.1.1
      refine br_n (fun z => absurd e3 z) (fun _ => ?_)
      exact ⟨Or.inr rfl, h1 c rfl F2 v2 (rd_I R2) R2.1⟩
    | cons x r =>
      have T := rd_top R2
      refine br_n (fun _ => ?_) (fun z => absurd (by rw [show v2 0 3 = 0 from z]; decide) T.1)
      exact ⟨Or.inl rfl, h0 rfl F2 v2 (rd_I R2)⟩
  · have z : ¬ v 0 6 = 0 := z
    have wt : w = true := by
      rw [e6] at z
      cases w with
      | false => exact absurd rfl z
      | true => rfl
    subst wt
    have ew : rdW (q, dg, true) = none := by
      unfold rdW
      exact if_pos rfl
    exact ⟨Or.inl rfl, h0 ew F v (rd_I R)⟩
set_option maxRecDepth 100000 in
theorem sx_faultOf (F v : xS) (g : Nat → Int32) (n : Nat) (hn : n ≤ 50) (u : Int32) (hu : u = 0 ∨ u = 1) {K : xKo} (h0 : (rdF u g n).1 = none → ∀ F' v', rI v' → K (some (.int (nI (rdF u g n).2))) (xfill F' v' 0 (wR0 0) ++ [.inl (50, g)])) (h1 : ∀ c, (rdF u g n).1 = some c → ∀ F' v', rI v' → cdR F' v' c → K (some (.int (-1))) (xfill F' v' 0 (wR0 0) ++ [.inl (50, g)])) : C_R_faultOf [.ref 0, .ref 3, .int (nI n), .int u] ((xfill F v 0 (wR0 0)) ++ [.inl (50, g)]) K := by
  have key : ∀ (d i : Nat) (F v : xS) (s : rdU), i + d = n → rdR F v s.1 s.2.1 s.2.2 → rdA u g d i s = rdA u g n 0 rd0 → xWP pg_R_faultOf K 36 [(0, .ref 0), (1, .ref 3), (2, .int (nI n)), (3, .int u), (4, .int (nI n)), (5, .int (nI i))] [] ((xfill F v 0 (wR0 0)) ++ [.inl (50, g)]) (0, 0) := by
    intro d
    induction d with
    | zero =>
      intro i F v s hi R e
      have e : (i, some s) = rdA u g n 0 rd0 := e
      have ef : rdF u g n = (rdW s, n) := by
        unfold rdF
        rw [← e]
      rw [ef] at h0 h1
      refine xWP_go 100 [(36, [0, 1, 2, 3, 4, 5])] fun P hP => ?_
      refine br_c (fun _ => ?_) (fun z => ?_)
      · refine xcall (sx_isWhole F v s R (fun ew F2 v2 J => ?_) (fun c ew F2 v2 J C => ?_))
        · refine br_c (fun _ => h0 ew F2 v2 J) (fun z => absurd rfl z)
        · refine br_c (fun z => absurd z (by decide)) (fun _ => h1 c ew F2 v2 J C)
      · have z : ¬ nI n ≤ nI i := z
        rw [nI_leI (by omega) (by omega)] at z
        omega
    | succ d ih =>
      intro i F v s hi R e
      have e : (match rdS u (g i) s.1 s.2.1 s.2.2 with
        | none => (i, none)
        | some s2 => rdA u g d (i + 1) s2) = rdA u g n 0 rd0 := e
      have ei : nat (nI i) = i := nI_clamp (by omega)
      refine xWP_go 100 [(36, [0, 1, 2, 3, 4, 5])] fun P hP => ?_
      refine br_c (fun z => ?_) (fun _ => ?_)
      · have z : nI n ≤ nI i := z
        rw [nI_leI (by omega) (by omega)] at z
        omega
      refine ⟨vp_in_nI (by omega) (by omega), ?_⟩
      have eg : g (Int32.toNatClampNeg (nI i)) = g i := by rw [show Int32.toNatClampNeg (nI i) = i from ei]
      have gk : ∀ K2 : xKo, rdK K2 (rdS u (g i) s.1 s.2.1 s.2.2) → C_R_goesOn [.ref 0, .int (g (Int32.toNatClampNeg (nI i))), .int u] (xfill F v 0 (wR0 0)) K2 := by
        intro K2 k
        rw [eg]
        exact sx_goesOn F v s.1 s.2.1 s.2.2 R u (g i) hu k
      refine xcall (gk _ ?_)
      cases hs : rdS u (g i) s.1 s.2.1 s.2.2 with
      | none =>
        rw [hs] at e
        have e : (i, none) = rdA u g n 0 rd0 := e
        have ef : rdF u g n = (none, i) := by
          unfold rdF
          rw [← e]
        rw [ef] at h0
        intro F' v' J
        refine br_n (fun z => absurd rfl z) (fun _ => ?_)
        exact h0 rfl F' v' J
      | some s2 =>
        rw [hs] at e
        have e : rdA u g d (i + 1) s2 = rdA u g n 0 rd0 := e
        intro F' v' J
        refine br_n (fun _ => ?_) (fun z => absurd z (by decide))
        refine hP _ _ _ _ _ ?_
        rw [nI_1]
        exact ih (i + 1) F' v' s2 (by omega) J e
  refine xM_go rfl 100 [(36, [0, 1, 2, 3, 4, 5])] fun P hP => ?_
  refine ⟨Or.inr rfl, ?_⟩
  refine xcall (sp_min _ _ ?_)
  rw [show (if nI n ≤ Int32.ofNat 50 then nI n else Int32.ofNat 50) = nI n from if_pos (nI_le hn (by decide))]
  refine hP _ _ _ _ _ ?_
  exact key n 0 F (va_up v 0 (va_up (va_up (va_up (va_up (va_up (v 0) 1 0) 3 0) 4 0) 5 0) 6 1)) rd0 (by omega) ⟨⟨rfl, Nat.zero_le _, fun i hi => absurd hi (Nat.not_lt_zero i)⟩, ⟨rfl, Nat.zero_le _, fun i hi => absurd hi (Nat.not_lt_zero i)⟩, rfl, rfl, rfl⟩ rfl
