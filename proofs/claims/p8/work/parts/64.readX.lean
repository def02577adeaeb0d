/-! ===== the tried side: the reader, exactly ===== -/
def emL (c : List Int32) (x : Int32) : List Int32 := if c.length < 50 then c ++ [x] else c
def hoL (h : List Int32) (x : Int32) : List Int32 := if h.length < 50 then x :: h else h
def rkV (x : Int32) : Int32 := if x = 37 then 5 else if x = 38 then 2 else if x = 42 then 5 else if x = 43 then 4 else if x = 45 then 4 else if x = 47 then 5 else if x = 60 then 3 else if x = 61 then 3 else if x = 62 then 3 else if x = 124 then 1 else 0
/-- what is read, what is held (the top first), what is open -/
abbrev rdT : Type := List Int32 × List Int32 × Int32
def cnL (c : List Int32) : List Int32 → Int32 → rdT
  | [], o => (c, [], o)
  | x :: r, o => if x = 33 then cnL (emL c 20033) r (o - 1) else (c, x :: r, o)
def rlL (k : Int32) (c : List Int32) (o : Int32) : List Int32 → rdT
  | [] => (c, [], o)
  | x :: r => if k ≤ rkV x then rlL k (emL c (20000 + x)) o r else (c, x :: r, o)
def rdR (F v : xS) (q : rdT) (dg : Int32) (w : Bool) : Prop := (v 0 1 = nI q.1.length ∧ q.1.length ≤ 50 ∧ ∀ i, i < q.1.length → F 1 i = q.1.getD i 0) ∧ (v 0 3 = nI q.2.1.length ∧ q.2.1.length ≤ 50 ∧ ∀ i, i < q.2.1.length → F 2 i = q.2.1.reverse.getD i 0) ∧ v 0 4 = q.2.2 ∧ v 0 5 = dg ∧ v 0 6 = b2i w
theorem getD_app {c : List Int32} {x : Int32} {i : Nat} (h : i < c.length) : (c ++ [x]).getD i 0 = c.getD i 0 := by
  rw [List.getD_eq_getElem?_getD, List.getD_eq_getElem?_getD, List.getElem?_append_left h]
theorem getD_last {c : List Int32} {x : Int32} : (c ++ [x]).getD c.length 0 = x := by
  rw [List.getD_eq_getElem?_getD, List.getElem?_append_right (Nat.le_refl _), Nat.sub_self]
  rfl
theorem sx_emit (F v : xS) (q : rdT) (dg : Int32) (w : Bool) (R : rdR F v q dg w) (x : Int32) {K : xKo} (h : ∀ F' v', rdR F' v' (emL q.1 x, q.2) dg w → K none (xfill F' v' 0 (wR0 0))) : C_R_emit [.ref 0, .int x] (xfill F v 0 (wR0 0)) K := by
  obtain ⟨⟨a1, a2, a3⟩, b, d⟩ := R
  refine xM_go rfl 60 [] fun P hP => ?_
  refine br_c (fun a => ?_) (fun a => ?_)
  · have a : nI 50 ≤ v 0 1 := a
    rw [a1, nI_leI (by omega) (by omega)] at a
    refine h F v ?_
    rw [show emL q.1 x = q.1 from if_neg (by omega)]
    exact ⟨⟨a1, a2, a3⟩, b, d⟩
  · have a : ¬ nI 50 ≤ v 0 1 := a
    rw [a1, nI_leI (by omega) (by omega)] at a
    have l : q.1.length < 50 := by omega
    have e1 : nat (v 0 1) = q.1.length := by rw [a1]; exact nI_clamp (by omega)
    refine ⟨by show vp_in (v 0 1) 50; rw [a1]; exact vp_in_nI l (by omega), ?_⟩
    refine h (va_up F 1 (upd (F 1) (nat (v 0 1)) x)) (va_up v 0 (va_up (v 0) 1 (v 0 1 + 1))) ?_
    rw [show emL q.1 x = q.1 ++ [x] from if_pos l]
    refine ⟨⟨?_, ?_, fun i hi => ?_⟩, b, d⟩
    · show v 0 1 + 1 = nI (q.1 ++ [x]).length
      rw [a1, nI_1, List.length_append]
      rfl
    · show (q.1 ++ [x]).length ≤ 50
      rw [List.length_append]
      exact l
    · have hi : i < (q.1 ++ [x]).length := hi
      rw [List.length_append] at hi
      have hi : i < q.1.length + 1 := hi
      show upd (F 1) (nat (v 0 1)) x i = (q.1 ++ [x]).getD i 0
      rw [e1]
      by_cases e : i = q.1.length
      · rw [e, pk_us, getD_last]
      · rw [pk_un e, getD_app (by omega)]
        exact a3 i (by omega)
theorem sx_hold (F v : xS) (q : rdT) (dg : Int32) (w : Bool) (R : rdR F v q dg w) (x : Int32) {K : xKo} (h : ∀ F' v', rdR F' v' (q.1, hoL q.2.1 x, q.2.2) dg w → K none (xfill F' v' 0 (wR0 0))) : C_R_hold [.ref 0, .int x] (xfill F v 0 (wR0 0)) K := by
  obtain ⟨a, ⟨b1, b2, b3⟩, d⟩ := R
  refine xM_go rfl 60 [] fun P hP => ?_
  refine br_c (fun z => ?_) (fun z => ?_)
  · have z : nI 50 ≤ v 0 3 := z
    rw [b1, nI_leI (by omega) (by omega)] at z
    refine h F v ?_
    rw [show hoL q.2.1 x = q.2.1 from if_neg (by omega)]
    exact ⟨a, ⟨b1, b2, b3⟩, d⟩
  · have z : ¬ nI 50 ≤ v 0 3 := z
    rw [b1, nI_leI (by omega) (by omega)] at z
    have l : q.2.1.length < 50 := by omega
    have e1 : nat (v 0 3) = q.2.1.length := by rw [b1]; exact nI_clamp (by omega)
    refine ⟨by show vp_in (v 0 3) 50; rw [b1]; exact vp_in_nI l (by omega), ?_⟩
    refine h (va_up F 2 (upd (F 2) (nat (v 0 3)) x)) (va_up v 0 (va_up (v 0) 3 (v 0 3 + 1))) ?_
    rw [show hoL q.2.1 x = x :: q.2.1 from if_pos l]
    refine ⟨a, ⟨?_, ?_, fun i hi => ?_⟩, d⟩
    · show v 0 3 + 1 = nI (x :: q.2.1).length
      rw [b1, nI_1]
      rfl
    · show q.2.1.length + 1 ≤ 50
      omega
    · have hi : i < q.2.1.length + 1 := hi
      show upd (F 2) (nat (v 0 3)) x i = (x :: q.2.1).reverse.getD i 0
      rw [e1, List.reverse_cons]
      by_cases e : i = q.2.1.length
      · rw [e, pk_us]
        have z := getD_last (c := q.2.1.reverse) (x := x)
        rw [List.length_reverse] at z
        exact z.symm
      · rw [pk_un e, getD_app (by rw [List.length_reverse]; omega)]
        exact b3 i (by omega)
theorem sx_rankOf (x : Int32) {K : xKo} (h : K (some (.int (rkV x))) []) : C_R_rankOf [.int x] [] K := by
  unfold rkV at h
  refine xM_go rfl 60 [] fun P hP => ?_
  refine ⟨fun a => ?_, fun n0 => ?_⟩
  · rw [if_pos a] at h; exact h
  rw [if_neg n0] at h
  refine ⟨fun a => ?_, fun n1 => ?_⟩
  · rw [if_pos a] at h; exact h
  rw [if_neg n1] at h
  refine ⟨fun a => ?_, fun n2 => ?_⟩
  · rw [if_pos a] at h; exact h
  rw [if_neg n2] at h
  refine ⟨fun a => ?_, fun n3 => ?_⟩
  · rw [if_pos a] at h; exact h
  rw [if_neg n3] at h
  refine ⟨fun a => ?_, fun n4 => ?_⟩
  · rw [if_pos a] at h; exact h
  rw [if_neg n4] at h
  refine ⟨fun a => ?_, fun n5 => ?_⟩
  · rw [if_pos a] at h; exact h
  rw [if_neg n5] at h
  refine ⟨fun a => ?_, fun n6 => ?_⟩
  · rw [if_pos a] at h; exact h
  rw [if_neg n6] at h
  refine ⟨fun a => ?_, fun n7 => ?_⟩
  · rw [if_pos a] at h; exact h
  rw [if_neg n7] at h
  refine ⟨fun a => ?_, fun n8 => ?_⟩
  · rw [if_pos a] at h; exact h
  rw [if_neg n8] at h
  refine ⟨fun a => ?_, fun n9 => ?_⟩
  · rw [if_pos a] at h; exact h
  rw [if_neg n9] at h
  exact h
theorem rd_top {F v : xS} {c r : List Int32} {x o dg : Int32} {w : Bool} (R : rdR F v (c, x :: r, o) dg w) : ¬ v 0 3 ≤ 0 ∧ vp_in (v 0 3 - 1) 50 ∧ nat (v 0 3 - 1) = r.length ∧ F 2 (nat (v 0 3 - 1)) = x ∧ v 0 3 - 1 = nI r.length := by
  obtain ⟨-, ⟨b1, b2, b3⟩, -⟩ := R
  have b1 : v 0 3 = nI (r.length + 1) := b1
  have b2 : r.length + 1 ≤ 50 := b2
  have e : v 0 3 - 1 = nI r.length := by rw [b1, nI_pred]
  have n : nat (nI r.length) = r.length := nI_clamp (by omega)
  refine ⟨?_, ?_, ?_, ?_, e⟩
  · rw [b1, show (0 : Int32) = nI 0 from rfl, nI_leI (by omega) (by omega)]
    omega
  · rw [e]; exact vp_in_nI (by omega) (by omega)
  · rw [e]; exact n
  · rw [e, n]
    have z := b3 r.length (by show r.length < r.length + 1; omega)
    have z2 := getD_last (c := r.reverse) (x := x)
    rw [List.length_reverse] at z2
    rw [z]
    show (x :: r).reverse.getD r.length 0 = x
    rw [List.reverse_cons]
    exact z2
theorem rd_pop {F v : xS} {c r : List Int32} {x o dg : Int32} {w : Bool} (R : rdR F v (c, x :: r, o) dg w) (u : Int32) : rdR F (va_up v 0 (va_up (va_up (v 0) 4 u) 3 (v 0 3 - 1))) (c, r, u) dg w := by
  have T := rd_top R
  obtain ⟨a, ⟨b1, b2, b3⟩, d1, d2, d3⟩ := R
  refine ⟨a, ⟨T.2.2.2.2, ?_, fun i hi => ?_⟩, rfl, d2, d3⟩
  · have b2 : r.length + 1 ≤ 50 := b2
    show r.length ≤ 50
    omega
  · have z := b3 i (by show i < r.length + 1; have hi : i < r.length := hi; omega)
    have z : F 2 i = (x :: r).reverse.getD i 0 := z
    rw [List.reverse_cons, getD_app (by rw [List.length_reverse]; exact hi)] at z
    exact z
