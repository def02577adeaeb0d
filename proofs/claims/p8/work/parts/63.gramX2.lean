/-! ===== the reference: what a text gives, exactly (sums, comparisons, brackets) ===== -/
theorem numL_mono {bt : Nat → Int32} : ∀ {d : Nat} {x : Int32} {p : Nat}, p ≤ (numL bt d x p).2 := by
  intro d
  induction d with
  | zero => intro x p; exact Nat.le_refl _
  | succ d ih =>
    intro x p
    unfold numL
    split
    · exact Nat.le_trans (Nat.le_succ p) ih
    · exact Nat.le_refl _
theorem lpG_mono {op : Int32 → Bool} {app : Int32 → Int32 → Int32 → Int32} {bt : Nat → Int32} {f : Nat → gVal} (hf : ∀ p, p ≤ (f p).2.1) : ∀ {m : Nat} {r : gVal}, r.2.1 ≤ (lpG op app bt f m r).2.1 := by
  intro m
  induction m with
  | zero => intro r; exact Nat.le_refl _
  | succ m ih =>
    intro r
    unfold lpG
    split
    · exact Nat.le_trans (Nat.le_trans (Nat.le_succ r.2.1) (hf (r.2.1 + 1))) (ih (r := (app (bt r.2.1) r.1 (f (r.2.1 + 1)).1, (f (r.2.1 + 1)).2)))
    · exact Nat.le_refl _
theorem nmG_mono {u A B C c : Int32} {p : Nat} : p ≤ (nmG u A B C c p).2.1 := by
  unfold nmG
  split
  · exact Nat.le_succ p
  split
  · exact Nat.le_succ p
  split
  · exact Nat.le_succ p
  · exact Nat.le_refl p
theorem grG_mono {u A B C : Int32} {bt : Nat → Int32} : ∀ (n i o p : Nat), p ≤ (grG u A B C bt n i o p).2.1 := by
  intro n
  induction n with
  | zero => intro i o p; simp only [grG]; exact Nat.le_refl p
  | succ n ih =>
    intro i o p
    rcases (show i = 0 ∨ i = 1 ∨ i = 2 ∨ i = 3 ∨ i = 4 ∨ 5 ≤ i by omega) with e | e | e | e | e | e
    · subst e
      simp only [grG]
      unfold facG
      split
      · exact numL_mono
      split
      · split
        · exact Nat.le_refl p
        split
        · exact Nat.le_trans (Nat.le_succ p) (ih 0 (o + 1) (p + 1))
        split
        · have := ih 5 (o + 1) (p + 1)
          show p ≤ (grG u A B C bt n 5 (o + 1) (p + 1)).2.1 + 1
          omega
        · exact Nat.le_trans (Nat.le_succ p) (ih 5 (o + 1) (p + 1))
      · exact nmG_mono
    · subst e
      simp only [grG]
      exact Nat.le_trans (ih 0 o p) (lpG_mono (ih 0 o))
    · subst e
      simp only [grG]
      exact Nat.le_trans (ih 1 o p) (lpG_mono (ih 1 o))
    · subst e
      simp only [grG]
      split
      · exact Nat.le_trans (Nat.le_trans (ih 2 o p) (Nat.le_succ _)) (ih 2 o _)
      · exact ih 2 o p
    · subst e
      simp only [grG]
      exact Nat.le_trans (ih 3 o p) (lpG_mono (ih 3 o))
    · obtain ⟨k, rfl⟩ : ∃ k, i = k + 5 := ⟨i - 5, by omega⟩
      simp only [grG]
      exact Nat.le_trans (ih 4 o p) (lpG_mono (ih 4 o))
abbrev grF (F v : xS) (n i o p : Nat) : gVal := grG (v 0 7) (v 0 11) (v 0 12) (v 0 13) (btM F v) n i o p
theorem gX.gr {F v v' : xS} {q : Nat} {g : Bool} (h : gX v v' q g) (n i o p : Nat) : grF F v' n i o p = grF F v n i o p := by
  show grG (v' 0 7) (v' 0 11) (v' 0 12) (v' 0 13) (btM F v') n i o p = _
  rw [h.bt, h.1 7 (by decide) (by decide), h.1 11 (by decide) (by decide), h.1 12 (by decide) (by decide), h.1 13 (by decide) (by decide)]
theorem gX.o {v v' : xS} {q o : Nat} {g : Bool} (R : gX v v' q g) (e : v 0 10 = nI o) : v' 0 10 = nI o := (R.1 10 (by decide) (by decide)).trans e
theorem gX.self {v v' : xS} {q : Nat} {g : Bool} (R : gX v v' q g) : gX v' v' q g := ⟨fun _ _ _ => rfl, R.2⟩
def gXpec (i n o : Nat) : Prop := ∀ (F v : xS) (K : xKo) (p : Nat), gI v → v 0 10 = nI o → gX v v p true → (∀ v', gX v v' (grF F v n i o p).2.1 (grF F v n i o p).2.2 → K (some (.int (grF F v n i o p).1)) (xfill F v' 0 (wM0 0))) → G_gram n i [.ref 0] (xfill F v 0 (wM0 0)) K
theorem gx_call {i n o : Nat} (hf : gXpec i n o) {F v v' : xS} {K : xKo} {p : Nat} (I : gI v) (e : v 0 10 = nI o) (R : gX v v' p true) (h : ∀ v2, gX v v2 (grF F v n i o p).2.1 (grF F v n i o p).2.2 → K (some (.int (grF F v n i o p).1)) (xfill F v2 0 (wM0 0))) : G_gram n i [.ref 0] (xfill F v' 0 (wM0 0)) K := by
  refine hf F v' K p (R.I I) (R.o e) R.self (fun v2 R2 => ?_)
  have R3 := R.tr R2
  rw [R.gr] at R3 ⊢
  exact h v2 R3
theorem op_ne {op : Int32 → Bool} (h : op (-1) = false) {c : Int32} (z : op c = true) : ¬ c = -1 := fun e => by rw [e, h] at z; exact absurd z (by decide)
set_option maxRecDepth 100000 in
theorem gx_product {n o : Nat} (hf : gXpec 0 n o) : gXpec 1 (n + 1) o := by
  intro F v K p0 I e R0 h
  have eG : G_gram (n + 1) 1 = xM 4 (pg_M_product (G_gram n)) := by simp only [G_gram]
  rw [eG]
  have er : grF F v (n + 1) 1 o p0 = lpG opMul apMul (btM F v) (grF F v n 0 o) 50 (grF F v n 0 o p0) := by
    show grG _ _ _ _ _ (n + 1) 1 o p0 = _
    simp only [grG]
  rw [er] at h
  have key : ∀ (m : Nat) (r : gVal) (v' : xS), gX v v' r.2.1 r.2.2 → 50 ≤ r.2.1 + m → lpG opMul apMul (btM F v) (grF F v n 0 o) m r = lpG opMul apMul (btM F v) (grF F v n 0 o) 50 (grF F v n 0 o p0) → xWP (pg_M_product (G_gram n)) K 5 [(0, .ref 0), (1, .int r.1)] [] (xfill F v' 0 (wM0 0)) (0, 0) := by
    intro m
    induction m using Nat.strongRecOn with
    | ind m ih =>
      intro r v' R hm eq
      obtain ⟨x, p, g⟩ := r
      have R : gX v v' p g := R
      have hm : 50 ≤ p + m := hm
      have I' := R.I I
      have p50 : p ≤ 50 := R.2.2.2
      have stop : (g && opMul (btM F v p)) = false → K (some (.int x)) (xfill F v' 0 (wM0 0)) := by
        intro z
        have e1 : lpG opMul apMul (btM F v) (grF F v n 0 o) m (x, p, g) = (x, p, g) := by
          cases m with
          | zero => rfl
          | succ m =>
            show (if g && opMul (btM F v p) then _ else (x, p, g)) = (x, p, g)
            rw [z]
            exact if_neg (by decide)
        rw [e1] at eq
        rw [← eq] at h
        exact h v' R
      have kJ : g = true → opMul (btM F v p) = true → xWP (pg_M_product (G_gram n)) K 51 [(0, .ref 0), (1, .int x)] [] (xfill F v' 0 (wM0 0)) (0, 0) := by
        intro gt oc
        subst gt
        have p5 : p < 50 := btM_in I (op_ne (by decide) oc)
        obtain ⟨m', em⟩ : ∃ m', m = m' + 1 := ⟨m - 1, by omega⟩
        subst em
        have e2 : lpG opMul apMul (btM F v) (grF F v n 0 o) (m' + 1) (x, p, true) = lpG opMul apMul (btM F v) (grF F v n 0 o) m' (apMul (btM F v p) x (grF F v n 0 o (p + 1)).1, (grF F v n 0 o (p + 1)).2) := by
          show (if true && opMul (btM F v p) then _ else _) = _
          rw [oc]
          rfl
        rw [e2] at eq
        have mono := grG_mono (u := v 0 7) (A := v 0 11) (B := v 0 12) (C := v 0 13) (bt := btM F v) n 0 o (p + 1)
        have nx : ∀ (z : Int32) (v2 : xS), z = apMul (btM F v p) x (grF F v n 0 o (p + 1)).1 → gX v v2 (grF F v n 0 o (p + 1)).2.1 (grF F v n 0 o (p + 1)).2.2 → xWP (pg_M_product (G_gram n)) K 5 [(0, .ref 0), (1, .int z)] [] (xfill F v2 0 (wM0 0)) (0, 0) := by
          intro z v2 ez R2
          rw [ez]
          exact ih m' (by omega) (apMul (btM F v p) x (grF F v n 0 o (p + 1)).1, (grF F v n 0 o (p + 1)).2) v2 R2 (by show 50 ≤ (grG _ _ _ _ _ n 0 o (p + 1)).2.1 + m'; omega) eq
        refine xWP_go 200 [(5, [0, 1])] fun P hP => ?_
        refine xcall (sp_byteAt F v' p I' p50 _ R.2.1 ?_)
        rw [R.bt]
        refine xcall (gx_call hf I e (R.adv p5) (fun v2 R2 => ?_))
        refine br_n (fun c1 => ?_) (fun c1 => ?_)
        · have c1 : ¬ btM F v p = 42 := c1
          refine br_n (fun wz => ?_) (fun wz => ?_)
          · refine br_n (fun c2 => ?_) (fun c2 => ?_)
            · have c2 : ¬ btM F v p = 47 := c2
              refine ⟨wz, ?_⟩
              refine hP _ _ _ _ _ ?_
              refine nx _ v2 ?_ R2
              unfold apMul
              rw [if_neg c1, if_neg wz, if_neg c2]
            · have c2 : btM F v p = 47 := c2
              refine ⟨wz, ?_⟩
              refine hP _ _ _ _ _ ?_
              refine nx _ v2 ?_ R2
              unfold apMul
              rw [if_neg c1, if_neg wz, if_pos c2]
          · skip
            refine hP _ _ _ _ _ ?_
            refine nx _ v2 ?_ R2
            unfold apMul
            rw [if_neg c1, if_pos wz]
        · have c1 : btM F v p = 42 := c1
          refine hP _ _ _ _ _ ?_
          refine nx _ v2 ?_ R2
          unfold apMul
          rw [if_pos c1]
      refine xWP_go 200 [(5, [0, 1]), (51, [0, 1])] fun P hP => ?_
      refine br_c (fun z => ?_) (fun z => ?_)
      · have z : v' 0 14 = 0 := z
        rw [R.2.2.1] at z
        refine stop ?_
        cases g with
        | false => rfl
        | true => exact absurd z (by decide)
      have gt : g = true := by
        have z : ¬ v' 0 14 = 0 := z
        rw [R.2.2.1] at z
        cases g with
        | false => exact absurd rfl z
        | true => rfl
      refine xcall (sp_byteAt F v' p I' p50 _ R.2.1 ?_)
      rw [R.bt]
      refine br_c (fun a => ?_) (fun a0 => ?_)
      · have a : btM F v p = 42 := a
        refine hP _ _ _ _ _ ?_
        exact kJ gt (by rw [a]; rfl)
      have a0 : ¬ btM F v p = 42 := a0
      refine xcall (sp_byteAt F v' p I' p50 _ R.2.1 ?_)
      rw [R.bt]
      refine br_c (fun a => ?_) (fun a1 => ?_)
      · have a : btM F v p = 47 := a
        refine hP _ _ _ _ _ ?_
        exact kJ gt (by rw [a]; rfl)
      have a1 : ¬ btM F v p = 47 := a1
      refine xcall (sp_byteAt F v' p I' p50 _ R.2.1 ?_)
      rw [R.bt]
      refine br_n (fun a2 => ?_) (fun a => ?_)
      · have a2 : ¬ btM F v p = 37 := a2
        refine stop ?_
        unfold opMul
        rw [beq_false_of_ne a0, beq_false_of_ne a1, beq_false_of_ne a2]
        exact Bool.and_false g
      · have a : btM F v p = 37 := a
        refine hP _ _ _ _ _ ?_
        exact kJ gt (by rw [a]; rfl)
  refine xM_go rfl 100 [(5, [0, 1])] fun P hP => ?_
  refine xcall (gx_call hf I e R0 (fun v2 R2 => ?_))
  refine hP _ _ _ _ _ ?_
  exact key 50 (grF F v n 0 o p0) v2 R2 (by omega) rfl
set_option maxRecDepth 100000 in
theorem gx_sum {n o : Nat} (hf : gXpec 1 n o) : gXpec 2 (n + 1) o := by
  intro F v K p0 I e R0 h
  have eG : G_gram (n + 1) 2 = xM 4 (pg_M_sum (G_gram n)) := by simp only [G_gram]
  rw [eG]
  have er : grF F v (n + 1) 2 o p0 = lpG opAdd apAdd (btM F v) (grF F v n 1 o) 50 (grF F v n 1 o p0) := by
    show grG _ _ _ _ _ (n + 1) 2 o p0 = _
    simp only [grG]
  rw [er] at h
  have key : ∀ (m : Nat) (r : gVal) (v' : xS), gX v v' r.2.1 r.2.2 → 50 ≤ r.2.1 + m → lpG opAdd apAdd (btM F v) (grF F v n 1 o) m r = lpG opAdd apAdd (btM F v) (grF F v n 1 o) 50 (grF F v n 1 o p0) → xWP (pg_M_sum (G_gram n)) K 5 [(0, .ref 0), (1, .int r.1)] [] (xfill F v' 0 (wM0 0)) (0, 0) := by
    intro m
    induction m using Nat.strongRecOn with
    | ind m ih =>
      intro r v' R hm eq
      obtain ⟨x, p, g⟩ := r
      have R : gX v v' p g := R
      have hm : 50 ≤ p + m := hm
      have I' := R.I I
      have p50 : p ≤ 50 := R.2.2.2
      have stop : (g && opAdd (btM F v p)) = false → K (some (.int x)) (xfill F v' 0 (wM0 0)) := by
        intro z
        have e1 : lpG opAdd apAdd (btM F v) (grF F v n 1 o) m (x, p, g) = (x, p, g) := by
          cases m with
          | zero => rfl
          | succ m =>
            show (if g && opAdd (btM F v p) then _ else (x, p, g)) = (x, p, g)
            rw [z]
            exact if_neg (by decide)
        rw [e1] at eq
        rw [← eq] at h
        exact h v' R
      have kJ : g = true → opAdd (btM F v p) = true → xWP (pg_M_sum (G_gram n)) K 38 [(0, .ref 0), (1, .int x)] [] (xfill F v' 0 (wM0 0)) (0, 0) := by
        intro gt oc
        subst gt
        have p5 : p < 50 := btM_in I (op_ne (by decide) oc)
        obtain ⟨m', em⟩ : ∃ m', m = m' + 1 := ⟨m - 1, by omega⟩
        subst em
        have e2 : lpG opAdd apAdd (btM F v) (grF F v n 1 o) (m' + 1) (x, p, true) = lpG opAdd apAdd (btM F v) (grF F v n 1 o) m' (apAdd (btM F v p) x (grF F v n 1 o (p + 1)).1, (grF F v n 1 o (p + 1)).2) := by
          show (if true && opAdd (btM F v p) then _ else _) = _
          rw [oc]
          rfl
        rw [e2] at eq
        have mono := grG_mono (u := v 0 7) (A := v 0 11) (B := v 0 12) (C := v 0 13) (bt := btM F v) n 1 o (p + 1)
        have nx : ∀ (z : Int32) (v2 : xS), z = apAdd (btM F v p) x (grF F v n 1 o (p + 1)).1 → gX v v2 (grF F v n 1 o (p + 1)).2.1 (grF F v n 1 o (p + 1)).2.2 → xWP (pg_M_sum (G_gram n)) K 5 [(0, .ref 0), (1, .int z)] [] (xfill F v2 0 (wM0 0)) (0, 0) := by
          intro z v2 ez R2
          rw [ez]
          exact ih m' (by omega) (apAdd (btM F v p) x (grF F v n 1 o (p + 1)).1, (grF F v n 1 o (p + 1)).2) v2 R2 (by show 50 ≤ (grG _ _ _ _ _ n 1 o (p + 1)).2.1 + m'; omega) eq
        refine xWP_go 200 [(5, [0, 1])] fun P hP => ?_
        refine xcall (sp_byteAt F v' p I' p50 _ R.2.1 ?_)
        rw [R.bt]
        refine xcall (gx_call hf I e (R.adv p5) (fun v2 R2 => ?_))
        refine br_n (fun c1 => ?_) (fun c1 => ?_)
        · have c1 : ¬ btM F v p = 43 := c1
          refine hP _ _ _ _ _ ?_
          refine nx _ v2 ?_ R2
          unfold apAdd
          rw [if_neg c1]
        · have c1 : btM F v p = 43 := c1
          refine hP _ _ _ _ _ ?_
          refine nx _ v2 ?_ R2
          unfold apAdd
          rw [if_pos c1]
      refine xWP_go 200 [(5, [0, 1]), (38, [0, 1])] fun P hP => ?_
      refine br_c (fun z => ?_) (fun z => ?_)
      · have z : v' 0 14 = 0 := z
        rw [R.2.2.1] at z
        refine stop ?_
        cases g with
        | false => rfl
        | true => exact absurd z (by decide)
      have gt : g = true := by
        have z : ¬ v' 0 14 = 0 := z
        rw [R.2.2.1] at z
        cases g with
        | false => exact absurd rfl z
        | true => rfl
      refine xcall (sp_byteAt F v' p I' p50 _ R.2.1 ?_)
      rw [R.bt]
      refine br_c (fun a => ?_) (fun a0 => ?_)
      · have a : btM F v p = 43 := a
        refine hP _ _ _ _ _ ?_
        exact kJ gt (by rw [a]; rfl)
      have a0 : ¬ btM F v p = 43 := a0
      refine xcall (sp_byteAt F v' p I' p50 _ R.2.1 ?_)
      rw [R.bt]
      refine br_n (fun a1 => ?_) (fun a => ?_)
      · have a1 : ¬ btM F v p = 45 := a1
        refine stop ?_
        unfold opAdd
        rw [beq_false_of_ne a0, beq_false_of_ne a1]
        exact Bool.and_false g
      · have a : btM F v p = 45 := a
        refine hP _ _ _ _ _ ?_
        exact kJ gt (by rw [a]; rfl)
  refine xM_go rfl 100 [(5, [0, 1])] fun P hP => ?_
  refine xcall (gx_call hf I e R0 (fun v2 R2 => ?_))
  refine hP _ _ _ _ _ ?_
  exact key 50 (grF F v n 1 o p0) v2 R2 (by omega) rfl
set_option maxRecDepth 100000 in
theorem gx_both {n o : Nat} (hf : gXpec 3 n o) : gXpec 4 (n + 1) o := by
  intro F v K p0 I e R0 h
  have eG : G_gram (n + 1) 4 = xM 3 (pg_M_both (G_gram n)) := by simp only [G_gram]
  rw [eG]
  have er : grF F v (n + 1) 4 o p0 = lpG opAnd apAnd (btM F v) (grF F v n 3 o) 50 (grF F v n 3 o p0) := by
    show grG _ _ _ _ _ (n + 1) 4 o p0 = _
    simp only [grG]
  rw [er] at h
  have key : ∀ (m : Nat) (r : gVal) (v' : xS), gX v v' r.2.1 r.2.2 → 50 ≤ r.2.1 + m → lpG opAnd apAnd (btM F v) (grF F v n 3 o) m r = lpG opAnd apAnd (btM F v) (grF F v n 3 o) 50 (grF F v n 3 o p0) → xWP (pg_M_both (G_gram n)) K 5 [(0, .ref 0), (1, .int r.1)] [] (xfill F v' 0 (wM0 0)) (0, 0) := by
    intro m
    induction m using Nat.strongRecOn with
    | ind m ih =>
      intro r v' R hm eq
      obtain ⟨x, p, g⟩ := r
      have R : gX v v' p g := R
      have hm : 50 ≤ p + m := hm
      have I' := R.I I
      have p50 : p ≤ 50 := R.2.2.2
      have stop : (g && opAnd (btM F v p)) = false → K (some (.int x)) (xfill F v' 0 (wM0 0)) := by
        intro z
        have e1 : lpG opAnd apAnd (btM F v) (grF F v n 3 o) m (x, p, g) = (x, p, g) := by
          cases m with
          | zero => rfl
          | succ m =>
            show (if g && opAnd (btM F v p) then _ else (x, p, g)) = (x, p, g)
            rw [z]
            exact if_neg (by decide)
        rw [e1] at eq
        rw [← eq] at h
        exact h v' R
      have kJ : g = true → opAnd (btM F v p) = true → xWP (pg_M_both (G_gram n)) K 25 [(0, .ref 0), (1, .int x)] [] (xfill F v' 0 (wM0 0)) (0, 0) := by
        intro gt oc
        subst gt
        have p5 : p < 50 := btM_in I (op_ne (by decide) oc)
        obtain ⟨m', em⟩ : ∃ m', m = m' + 1 := ⟨m - 1, by omega⟩
        subst em
        have e2 : lpG opAnd apAnd (btM F v) (grF F v n 3 o) (m' + 1) (x, p, true) = lpG opAnd apAnd (btM F v) (grF F v n 3 o) m' (apAnd (btM F v p) x (grF F v n 3 o (p + 1)).1, (grF F v n 3 o (p + 1)).2) := by
          show (if true && opAnd (btM F v p) then _ else _) = _
          rw [oc]
          rfl
        rw [e2] at eq
        have mono := grG_mono (u := v 0 7) (A := v 0 11) (B := v 0 12) (C := v 0 13) (bt := btM F v) n 3 o (p + 1)
        have nx : ∀ (z : Int32) (v2 : xS), z = apAnd (btM F v p) x (grF F v n 3 o (p + 1)).1 → gX v v2 (grF F v n 3 o (p + 1)).2.1 (grF F v n 3 o (p + 1)).2.2 → xWP (pg_M_both (G_gram n)) K 5 [(0, .ref 0), (1, .int z)] [] (xfill F v2 0 (wM0 0)) (0, 0) := by
          intro z v2 ez R2
          rw [ez]
          exact ih m' (by omega) (apAnd (btM F v p) x (grF F v n 3 o (p + 1)).1, (grF F v n 3 o (p + 1)).2) v2 R2 (by show 50 ≤ (grG _ _ _ _ _ n 3 o (p + 1)).2.1 + m'; omega) eq
        refine xWP_go 200 [(5, [0, 1])] fun P hP => ?_
        refine xcall (gx_call hf I e (R.adv p5) (fun v2 R2 => ?_))
        refine br_c (fun c1 => ?_) (fun c1 => ?_)
        · skip
          refine hP _ _ _ _ _ ?_
          refine nx _ v2 ?_ R2
          unfold apAnd
          rw [if_pos c1]
        refine br_c (fun c2 => ?_) (fun c2 => ?_)
        · skip
          refine hP _ _ _ _ _ ?_
          refine nx _ v2 ?_ R2
          unfold apAnd
          rw [if_neg c1, if_pos c2]
        · skip
          refine hP _ _ _ _ _ ?_
          refine nx _ v2 ?_ R2
          unfold apAnd
          rw [if_neg c1, if_neg c2]
      refine xWP_go 200 [(5, [0, 1]), (25, [0, 1])] fun P hP => ?_
      refine br_c (fun z => ?_) (fun z => ?_)
      · have z : v' 0 14 = 0 := z
        rw [R.2.2.1] at z
        refine stop ?_
        cases g with
        | false => rfl
        | true => exact absurd z (by decide)
      have gt : g = true := by
        have z : ¬ v' 0 14 = 0 := z
        rw [R.2.2.1] at z
        cases g with
        | false => exact absurd rfl z
        | true => rfl
      refine xcall (sp_byteAt F v' p I' p50 _ R.2.1 ?_)
      rw [R.bt]
      refine br_n (fun a0 => ?_) (fun a => ?_)
      · have a0 : ¬ btM F v p = 38 := a0
        refine stop ?_
        unfold opAnd
        rw [beq_false_of_ne a0]
        exact Bool.and_false g
      · have a : btM F v p = 38 := a
        refine hP _ _ _ _ _ ?_
        exact kJ gt (by rw [a]; rfl)
  refine xM_go rfl 100 [(5, [0, 1])] fun P hP => ?_
  refine xcall (gx_call hf I e R0 (fun v2 R2 => ?_))
  refine hP _ _ _ _ _ ?_
  exact key 50 (grF F v n 3 o p0) v2 R2 (by omega) rfl
set_option maxRecDepth 100000 in
theorem gx_whole {n o : Nat} (hf : gXpec 4 n o) : gXpec 5 (n + 1) o := by
  intro F v K p0 I e R0 h
  have eG : G_gram (n + 1) 5 = xM 3 (pg_M_whole (G_gram n)) := by simp only [G_gram]
  rw [eG]
  have er : grF F v (n + 1) 5 o p0 = lpG opOr apOr (btM F v) (grF F v n 4 o) 50 (grF F v n 4 o p0) := by
    show grG _ _ _ _ _ (n + 1) 5 o p0 = _
    simp only [grG]
  rw [er] at h
  have key : ∀ (m : Nat) (r : gVal) (v' : xS), gX v v' r.2.1 r.2.2 → 50 ≤ r.2.1 + m → lpG opOr apOr (btM F v) (grF F v n 4 o) m r = lpG opOr apOr (btM F v) (grF F v n 4 o) 50 (grF F v n 4 o p0) → xWP (pg_M_whole (G_gram n)) K 5 [(0, .ref 0), (1, .int r.1)] [] (xfill F v' 0 (wM0 0)) (0, 0) := by
    intro m
    induction m using Nat.strongRecOn with
    | ind m ih =>
      intro r v' R hm eq
      obtain ⟨x, p, g⟩ := r
      have R : gX v v' p g := R
      have hm : 50 ≤ p + m := hm
      have I' := R.I I
      have p50 : p ≤ 50 := R.2.2.2
      have stop : (g && opOr (btM F v p)) = false → K (some (.int x)) (xfill F v' 0 (wM0 0)) := by
        intro z
        have e1 : lpG opOr apOr (btM F v) (grF F v n 4 o) m (x, p, g) = (x, p, g) := by
          cases m with
          | zero => rfl
          | succ m =>
            show (if g && opOr (btM F v p) then _ else (x, p, g)) = (x, p, g)
            rw [z]
            exact if_neg (by decide)
        rw [e1] at eq
        rw [← eq] at h
        exact h v' R
      have kJ : g = true → opOr (btM F v p) = true → xWP (pg_M_whole (G_gram n)) K 25 [(0, .ref 0), (1, .int x)] [] (xfill F v' 0 (wM0 0)) (0, 0) := by
        intro gt oc
        subst gt
        have p5 : p < 50 := btM_in I (op_ne (by decide) oc)
        obtain ⟨m', em⟩ : ∃ m', m = m' + 1 := ⟨m - 1, by omega⟩
        subst em
        have e2 : lpG opOr apOr (btM F v) (grF F v n 4 o) (m' + 1) (x, p, true) = lpG opOr apOr (btM F v) (grF F v n 4 o) m' (apOr (btM F v p) x (grF F v n 4 o (p + 1)).1, (grF F v n 4 o (p + 1)).2) := by
          show (if true && opOr (btM F v p) then _ else _) = _
          rw [oc]
          rfl
        rw [e2] at eq
        have mono := grG_mono (u := v 0 7) (A := v 0 11) (B := v 0 12) (C := v 0 13) (bt := btM F v) n 4 o (p + 1)
        have nx : ∀ (z : Int32) (v2 : xS), z = apOr (btM F v p) x (grF F v n 4 o (p + 1)).1 → gX v v2 (grF F v n 4 o (p + 1)).2.1 (grF F v n 4 o (p + 1)).2.2 → xWP (pg_M_whole (G_gram n)) K 5 [(0, .ref 0), (1, .int z)] [] (xfill F v2 0 (wM0 0)) (0, 0) := by
          intro z v2 ez R2
          rw [ez]
          exact ih m' (by omega) (apOr (btM F v p) x (grF F v n 4 o (p + 1)).1, (grF F v n 4 o (p + 1)).2) v2 R2 (by show 50 ≤ (grG _ _ _ _ _ n 4 o (p + 1)).2.1 + m'; omega) eq
        refine xWP_go 200 [(5, [0, 1])] fun P hP => ?_
        refine xcall (gx_call hf I e (R.adv p5) (fun v2 R2 => ?_))
        refine br_n (fun c1 => ?_) (fun c1 => ?_)
        · skip
          refine hP _ _ _ _ _ ?_
          refine nx _ v2 ?_ R2
          unfold apOr
          rw [if_neg c1]
        refine br_c (fun c2 => ?_) (fun c2 => ?_)
        · skip
          refine hP _ _ _ _ _ ?_
          refine nx _ v2 ?_ R2
          unfold apOr
          rw [if_pos c1, if_pos c2]
        · skip
          refine hP _ _ _ _ _ ?_
          refine nx _ v2 ?_ R2
          unfold apOr
          rw [if_pos c1, if_neg c2]
      refine xWP_go 200 [(5, [0, 1]), (25, [0, 1])] fun P hP => ?_
      refine br_c (fun z => ?_) (fun z => ?_)
      · have z : v' 0 14 = 0 := z
        rw [R.2.2.1] at z
        refine stop ?_
        cases g with
        | false => rfl
        | true => exact absurd z (by decide)
      have gt : g = true := by
        have z : ¬ v' 0 14 = 0 := z
        rw [R.2.2.1] at z
        cases g with
        | false => exact absurd rfl z
        | true => rfl
      refine xcall (sp_byteAt F v' p I' p50 _ R.2.1 ?_)
      rw [R.bt]
      refine br_n (fun a0 => ?_) (fun a => ?_)
      · have a0 : ¬ btM F v p = 124 := a0
        refine stop ?_
        unfold opOr
        rw [beq_false_of_ne a0]
        exact Bool.and_false g
      · have a : btM F v p = 124 := a
        refine hP _ _ _ _ _ ?_
        exact kJ gt (by rw [a]; rfl)
  refine xM_go rfl 100 [(5, [0, 1])] fun P hP => ?_
  refine xcall (gx_call hf I e R0 (fun v2 R2 => ?_))
  refine hP _ _ _ _ _ ?_
  exact key 50 (grF F v n 4 o p0) v2 R2 (by omega) rfl
set_option maxRecDepth 100000 in
theorem gx_compared {n o : Nat} (hf : gXpec 2 n o) : gXpec 3 (n + 1) o := by
  intro F v K p0 I e R0 h
  have eG : G_gram (n + 1) 3 = xM 5 (pg_M_compared (G_gram n)) := by simp only [G_gram]
  rw [eG]
  obtain ⟨r, hr⟩ : ∃ r, r = grF F v n 2 o p0 := ⟨_, rfl⟩
  have er : grF F v (n + 1) 3 o p0 = if r.2.2 && opCmp (btM F v r.2.1) then (apCmp (btM F v r.2.1) r.1 (grF F v n 2 o (r.2.1 + 1)).1, (grF F v n 2 o (r.2.1 + 1)).2) else r := by
    rw [hr]
    show grG _ _ _ _ _ (n + 1) 3 o p0 = _
    simp only [grG]
  rw [er] at h
  have k108 : ∀ (y s w q : Int32) (v' : xS), q = 0 ∨ q = 1 → K (some (.int q)) (xfill F v' 0 (wM0 0)) → xWP (pg_M_compared (G_gram n)) K 108 [(0, .ref 0), (1, .int y), (2, .int s), (3, .int w)] [.int q] (xfill F v' 0 (wM0 0)) (0, 0) := by
    intro y s w q v' hq k
    refine xWP_go 100 [] fun P hP => ?_
    rcases hq with z | z
    · subst z
      exact br_c (fun _ => k) (fun z => absurd rfl z)
    · subst z
      exact br_c (fun z => absurd z (by decide)) (fun _ => k)
  have k45 : ∀ (v' : xS), gX v v' r.2.1 r.2.2 → r.2.2 = true → opCmp (btM F v r.2.1) = true → xWP (pg_M_compared (G_gram n)) K 45 [(0, .ref 0), (1, .int r.1), (2, .int (btM F v r.2.1))] [] (xfill F v' 0 (wM0 0)) (0, 0) := by
    intro v' R gt oc
    rw [gt] at R
    have p5 : r.2.1 < 50 := btM_in I (op_ne (by decide) oc)
    rw [gt, oc] at h
    have h : ∀ v', gX v v' (grF F v n 2 o (r.2.1 + 1)).2.1 (grF F v n 2 o (r.2.1 + 1)).2.2 → K (some (.int (apCmp (btM F v r.2.1) r.1 (grF F v n 2 o (r.2.1 + 1)).1))) (xfill F v' 0 (wM0 0)) := h
    refine xWP_go 200 [(108, [0, 1, 2, 3])] fun P hP => ?_
    refine xcall (gx_call hf I e (R.adv p5) (fun v2 R2 => ?_))
    have fin := h v2 R2
    unfold apCmp at fin
    refine br_n (fun c1 => ?_) (fun c1 => ?_)
    · have c1 : ¬ btM F v r.2.1 = 60 := c1
      rw [if_neg c1] at fin
      refine br_n (fun c2 => ?_) (fun c2 => ?_)
      · have c2 : ¬ btM F v r.2.1 = 61 := c2
        rw [if_neg c2] at fin
        refine br_c (fun c3 => ?_) (fun c3 => ?_)
        · have c3 : r.1 ≤ (grF F v n 2 o (r.2.1 + 1)).1 := c3
          rw [if_pos c3] at fin
          exact hP _ _ _ _ _ (k108 _ _ _ 0 v2 (Or.inl rfl) fin)
        · have c3 : ¬ r.1 ≤ (grF F v n 2 o (r.2.1 + 1)).1 := c3
          rw [if_neg c3] at fin
          exact hP _ _ _ _ _ (k108 _ _ _ 1 v2 (Or.inr rfl) fin)
      · have c2 : btM F v r.2.1 = 61 := c2
        rw [if_pos c2] at fin
        refine br_n (fun c3 => ?_) (fun c3 => ?_)
        · have c3 : ¬ r.1 = (grF F v n 2 o (r.2.1 + 1)).1 := c3
          rw [if_neg c3] at fin
          exact hP _ _ _ _ _ (k108 _ _ _ 0 v2 (Or.inl rfl) fin)
        · have c3 : r.1 = (grF F v n 2 o (r.2.1 + 1)).1 := c3
          rw [if_pos c3] at fin
          exact hP _ _ _ _ _ (k108 _ _ _ 1 v2 (Or.inr rfl) fin)
    · have c1 : btM F v r.2.1 = 60 := c1
      rw [if_pos c1] at fin
      refine br_c (fun c3 => ?_) (fun c3 => ?_)
      · have c3 : (grF F v n 2 o (r.2.1 + 1)).1 ≤ r.1 := c3
        rw [if_pos c3] at fin
        exact hP _ _ _ _ _ (k108 _ _ _ 0 v2 (Or.inl rfl) fin)
      · have c3 : ¬ (grF F v n 2 o (r.2.1 + 1)).1 ≤ r.1 := c3
        rw [if_neg c3] at fin
        exact hP _ _ _ _ _ (k108 _ _ _ 1 v2 (Or.inr rfl) fin)
  have k25 : ∀ (s : Int32) (v' : xS), gX v v' r.2.1 r.2.2 → (r.2.2 = true → s = btM F v r.2.1) → (r.2.2 = false → s = -1) → xWP (pg_M_compared (G_gram n)) K 25 [(0, .ref 0), (1, .int r.1), (2, .int s)] [] (xfill F v' 0 (wM0 0)) (0, 0) := by
    intro s v' R s1 s0
    have yes : opCmp s = true → xWP (pg_M_compared (G_gram n)) K 45 [(0, .ref 0), (1, .int r.1), (2, .int s)] [] (xfill F v' 0 (wM0 0)) (0, 0) := by
      intro oc
      have gt : r.2.2 = true := by
        by_cases z : r.2.2 = true
        · exact z
        · rw [s0 (by simpa using z)] at oc
          exact absurd oc (by decide)
      have es := s1 gt
      subst es
      exact k45 v' R gt oc
    refine xWP_go 200 [(45, [0, 1, 2])] fun P hP => ?_
    refine br_c (fun a => ?_) (fun a0 => ?_)
    · have a : s = 60 := a
      exact hP _ _ _ _ _ (yes (by rw [a]; rfl))
    have a0 : ¬ s = 60 := a0
    refine br_c (fun a => ?_) (fun a1 => ?_)
    · have a : s = 61 := a
      exact hP _ _ _ _ _ (yes (by rw [a]; rfl))
    have a1 : ¬ s = 61 := a1
    refine br_c (fun a => ?_) (fun a2 => ?_)
    · have a : s = 62 := a
      exact hP _ _ _ _ _ (yes (by rw [a]; rfl))
    have a2 : ¬ s = 62 := a2
    have oc : opCmp s = false := by
      unfold opCmp
      rw [beq_false_of_ne a0, beq_false_of_ne a1, beq_false_of_ne a2]
      rfl
    have z : (r.2.2 && opCmp (btM F v r.2.1)) = false := by
      by_cases g : r.2.2 = true
      · rw [← s1 g, oc]; exact Bool.and_false _
      · rw [show r.2.2 = false by simpa using g]; exact Bool.false_and _
    rw [z] at h
    exact h v' R
  refine xM_go rfl 200 [(25, [0, 1, 2])] fun P hP => ?_
  refine xcall (gx_call hf I e R0 (fun v' R => ?_))
  rw [← hr] at R ⊢
  have p50 : r.2.1 ≤ 50 := R.2.2.2
  refine br_c (fun z => ?_) (fun z => ?_)
  · have z : v' 0 14 = 0 := z
    rw [R.2.2.1] at z
    have g0 : r.2.2 = false := by
      by_cases g : r.2.2 = true
      · rw [g] at z; exact absurd z (by decide)
      · simpa using g
    exact hP _ _ _ _ _ (k25 (-1) v' R (fun g => by rw [g0] at g; exact absurd g (by decide)) (fun _ => rfl))
  · have z : ¬ v' 0 14 = 0 := z
    rw [R.2.2.1] at z
    have g1 : r.2.2 = true := by
      by_cases g : r.2.2 = true
      · exact g
      · rw [show r.2.2 = false by simpa using g] at z; exact absurd rfl z
    refine xcall (sp_byteAt F v' r.2.1 (R.I I) p50 _ R.2.1 ?_)
    rw [R.bt]
    exact hP _ _ _ _ _ (k25 _ v' R (fun _ => rfl) (fun g => by rw [g1] at g; exact absurd g (by decide)))
set_option maxRecDepth 100000 in
theorem gx_factor {n o : Nat} (ho : o ≤ 5) (hf : o < 5 → gXpec 0 n (o + 1) ∧ gXpec 5 n (o + 1)) : gXpec 0 (n + 1) o := by
  intro F v K p I e R0 h
  have eG : G_gram (n + 1) 0 = xM 3 (pg_M_factor (G_gram n)) := by simp only [G_gram]
  rw [eG]
  have p50 : p ≤ 50 := R0.2.2.2
  have er : grF F v (n + 1) 0 o p = facG (v 0 7) (v 0 11) (v 0 12) (v 0 13) (btM F v) (grF F v n 0 (o + 1)) (grF F v n 5 (o + 1)) o p := by
    show grG _ _ _ _ _ (n + 1) 0 o p = _
    simp only [grG]
  rw [er] at h
  have k39 : isDg (btM F v p) = false → (btM F v p = 33 ∨ btM F v p = 40) → xWP (pg_M_factor (G_gram n)) K 39 [(0, .ref 0), (1, .int (btM F v p))] [] (xfill F v 0 (wM0 0)) (0, 0) := by
    intro dg hc
    have p5 : p < 50 := btM_in I (fun z => by rw [z] at hc; exact absurd hc (by decide))
    unfold facG at h
    rw [dg, if_neg (by decide), if_pos hc] at h
    refine xWP_go 200 [(89, [0, 1])] fun P hP => ?_
    refine br_n (fun n5 => ?_) (fun z5 => ?_)
    rotate_left
    · have z5 : v 0 10 = nI 5 := z5
      have o5 : o = 5 := by
        have q := congrArg Int32.toInt (e.symm.trans z5)
        rw [nI_toInt (by omega), nI_toInt (by omega)] at q
        omega
      rw [if_pos o5] at h
      refine xcall (sp_fails F v ?_)
      exact h _ R0.off
    have n5 : ¬ v 0 10 = nI 5 := n5
    have o5 : ¬ o = 5 := fun z => n5 (by rw [e, z])
    rw [if_neg o5] at h
    obtain ⟨f0, f5⟩ := hf (by omega)
    obtain ⟨v1, ev1⟩ : ∃ v1, v1 = va_up v 0 (va_up (va_up (v 0) 10 (v 0 10 + 1)) 8 (v 0 8 + 1)) := ⟨_, rfl⟩
    have J3 : ∀ j, ¬ j = 8 → ¬ j = 10 → v1 0 j = v 0 j := by
      intro j n8 n10
      rw [ev1]
      exact (if_neg n8).trans (if_neg n10)
    have J2 : v1 0 10 = nI (o + 1) := by rw [ev1, ← nI_1, ← e]; rfl
    have J4 : gX v1 v1 (p + 1) true := ⟨fun _ _ _ => rfl, by rw [ev1, ← nI_1, ← R0.2.1]; rfl, by rw [J3 14 (by decide) (by decide)]; exact R0.2.2.1, by omega⟩
    have J1 : gI v1 := ⟨by rw [J3 7 (by decide) (by decide)]; exact I.1, ⟨p + 1, by omega, J4.2.1⟩, by rw [J3 9 (by decide) (by decide)]; exact I.2.2⟩
    have eb : btM F v1 = btM F v := by
      funext k
      unfold btM
      rw [J3 7 (by decide) (by decide), J3 9 (by decide) (by decide)]
    have J5 : ∀ i, grF F v1 n i (o + 1) (p + 1) = grF F v n i (o + 1) (p + 1) := by
      intro i
      show grG (v1 0 7) (v1 0 11) (v1 0 12) (v1 0 13) (btM F v1) n i (o + 1) (p + 1) = _
      rw [eb, J3 7 (by decide) (by decide), J3 11 (by decide) (by decide), J3 12 (by decide) (by decide), J3 13 (by decide) (by decide)]
    have bk : ∀ (q : Nat) (g : Bool) (v2 : xS), gX v1 v2 q g → gX v (va_up v2 0 (va_up (v2 0) 10 (v2 0 10 - 1))) q g := by
      intro q g v2 R2
      refine ⟨fun j n8 n14 => ?_, R2.2.1, R2.2.2.1, R2.2.2.2⟩
      show va_up (v2 0) 10 (v2 0 10 - 1) j = v 0 j
      by_cases n10 : j = 10
      · subst n10
        have z : va_up (v2 0) 10 (v2 0 10 - 1) 10 = v2 0 10 - 1 := rfl
        rw [z, R2.o J2, nI_pred, e]
      · exact (if_neg n10).trans ((R2.1 j n8 n14).trans (J3 j n8 n10))
    have not : btM F v p = 33 → ∀ (r : Int32) (q : Nat) (g : Bool) (v2 : xS), grF F v n 0 (o + 1) (p + 1) = (r, q, g) → gX v1 v2 q g → xWP (pg_M_factor (G_gram n)) K 89 [(0, .ref 0), (1, .int (btM F v p))] [.int r] (xfill F v2 0 (wM0 0)) (0, 0) := by
      intro c1 r q g v2 eq R2
      rw [if_pos c1, eq] at h
      have fin := h _ (bk q g v2 R2)
      refine xWP_go 200 [] fun P hP => ?_
      refine br_n (fun z => absurd c1 z) (fun _ => ?_)
      refine br_n (fun z => ?_) (fun z => ?_)
      · have z : ¬ r = 0 := z
        rw [if_neg z] at fin
        exact fin
      · have z : r = 0 := z
        rw [if_pos z] at fin
        exact fin
    have par : ¬ btM F v p = 33 → ∀ (r : Int32) (q : Nat) (g : Bool) (v2 : xS), grF F v n 5 (o + 1) (p + 1) = (r, q, g) → gX v1 v2 q g → xWP (pg_M_factor (G_gram n)) K 89 [(0, .ref 0), (1, .int (btM F v p))] [.int r] (xfill F v2 0 (wM0 0)) (0, 0) := by
      intro c1 r q g v2 eq R2
      rw [if_neg c1, eq] at h
      have R3 := bk q g v2 R2
      refine xWP_go 200 [] fun P hP => ?_
      refine br_n (fun _ => ?_) (fun z => absurd z c1)
      refine br_c (fun z => ?_) (fun z => ?_)
      · have z : v2 0 14 = 0 := z
        rw [R2.2.2.1] at z
        have g0 : g = false := by
          cases g with
          | false => rfl
          | true => exact absurd z (by decide)
        subst g0
        have h : ∀ v', gX v v' q false → K (some (.int 0)) (xfill F v' 0 (wM0 0)) := h
        refine xcall (sp_fails F (va_up v2 0 (va_up (v2 0) 10 (v2 0 10 - 1))) ?_)
        exact h _ R3.off
      · have z : ¬ v2 0 14 = 0 := z
        rw [R2.2.2.1] at z
        have g1 : g = true := by
          cases g with
          | false => exact absurd rfl z
          | true => rfl
        subst g1
        refine xcall (sp_byteAt F (va_up v2 0 (va_up (v2 0) 10 (v2 0 10 - 1))) q (R3.I I) R3.2.2.2 _ R3.2.1 ?_)
        rw [R3.bt]
        refine br_n (fun c2 => ?_) (fun c2 => ?_)
        · have c2 : ¬ btM F v q = 41 := c2
          have h : ∀ v', gX v v' (if (true && btM F v q == 41) then (r, q + 1, true) else (0, q, false)).2.1 (if (true && btM F v q == 41) then (r, q + 1, true) else (0, q, false)).2.2 → K (some (.int (if (true && btM F v q == 41) then (r, q + 1, true) else (0, q, false)).1)) (xfill F v' 0 (wM0 0)) := h
          rw [beq_false_of_ne c2] at h
          have h : ∀ v', gX v v' q false → K (some (.int 0)) (xfill F v' 0 (wM0 0)) := h
          refine xcall (sp_fails F (va_up v2 0 (va_up (v2 0) 10 (v2 0 10 - 1))) ?_)
          exact h _ R3.off
        · have c2 : btM F v q = 41 := c2
          have q5 : q < 50 := btM_in I (fun z => by rw [z] at c2; exact absurd c2 (by decide))
          have h : ∀ v', gX v v' (if (true && btM F v q == 41) then (r, q + 1, true) else (0, q, false)).2.1 (if (true && btM F v q == 41) then (r, q + 1, true) else (0, q, false)).2.2 → K (some (.int (if (true && btM F v q == 41) then (r, q + 1, true) else (0, q, false)).1)) (xfill F v' 0 (wM0 0)) := h
          rw [c2] at h
          have h : ∀ v', gX v v' (q + 1) true → K (some (.int r)) (xfill F v' 0 (wM0 0)) := h
          exact h (A1 (va_up v2 0 (va_up (v2 0) 10 (v2 0 10 - 1)))) (R3.adv q5)
    have cl0 : ∀ K2 : xKo, (∀ v2, gX v1 v2 (grF F v n 0 (o + 1) (p + 1)).2.1 (grF F v n 0 (o + 1) (p + 1)).2.2 → K2 (some (.int (grF F v n 0 (o + 1) (p + 1)).1)) (xfill F v2 0 (wM0 0))) → G_gram n 0 [.ref 0] (xfill F v1 0 (wM0 0)) K2 := fun K2 k => f0 F v1 K2 (p + 1) J1 J2 J4 (fun v2 R2 => by rw [J5] at R2 ⊢; exact k v2 R2)
    have cl5 : ∀ K2 : xKo, (∀ v2, gX v1 v2 (grF F v n 5 (o + 1) (p + 1)).2.1 (grF F v n 5 (o + 1) (p + 1)).2.2 → K2 (some (.int (grF F v n 5 (o + 1) (p + 1)).1)) (xfill F v2 0 (wM0 0))) → G_gram n 5 [.ref 0] (xfill F v1 0 (wM0 0)) K2 := fun K2 k => f5 F v1 K2 (p + 1) J1 J2 J4 (fun v2 R2 => by rw [J5] at R2 ⊢; exact k v2 R2)
    have bk0 := fun c1 v2 R2 => not c1 _ _ _ v2 rfl R2
    have bk5 := fun c1 v2 R2 => par c1 _ _ _ v2 rfl R2
    rw [ev1] at cl0 cl5 bk0 bk5
    refine br_n (fun c1 => ?_) (fun c1 => ?_)
    · refine xcall (cl5 _ (fun v2 R2 => ?_))
      exact hP _ _ _ _ _ (bk5 c1 v2 R2)
    · refine xcall (cl0 _ (fun v2 R2 => ?_))
      exact hP _ _ _ _ _ (bk0 c1 v2 R2)
  refine xM_go rfl 200 [(39, [0, 1])] fun P hP => ?_
  refine xcall (sp_byteAt F v p I p50 _ R0.2.1 ?_)
  refine xcall (sp_isDigit _ (fun dg => ?_) (fun dg => ?_))
  · refine br_c (fun _ => ?_) (fun z => absurd rfl z)
    refine br_c (fun a => ?_) (fun a1 => ?_)
    · exact hP _ _ _ _ _ (k39 dg (Or.inl a))
    have a1 : ¬ btM F v p = 33 := a1
    refine br_c (fun a => ?_) (fun a2 => ?_)
    · exact hP _ _ _ _ _ (k39 dg (Or.inr a))
    have a2 : ¬ btM F v p = 40 := a2
    unfold facG at h
    rw [dg, if_neg (by decide), if_neg (fun z => z.elim a1 a2)] at h
    refine xcall (sp_named F v I v p R0 _ (btM_in I) (fun v' R => ?_))
    exact h v' R
  · refine br_c (fun z => absurd z (by decide)) (fun _ => ?_)
    unfold facG at h
    rw [dg, if_pos rfl] at h
    refine xcall (sp_number F v I v p R0 (fun v' R => ?_))
    exact h v' R
theorem gx_up {n o : Nat} (h : gXpec 0 n o) : gXpec 5 (n + 5) o := gx_whole (gx_both (gx_compared (gx_sum (gx_product h))))
theorem gx_all : ∀ (d o l : Nat), o + d = 5 → gXpec 0 (l + 6 * d + 1) o := by
  intro d
  induction d with
  | zero => exact fun o l e => gx_factor (by omega) (fun z => by omega)
  | succ d ih =>
    intro o l e
    have q1 := ih (o + 1) (l + 5) (by omega)
    have q2 := gx_up (ih (o + 1) l (by omega))
    rw [show l + 6 * d + 1 + 5 = l + 6 * (d + 1) by omega] at q2
    rw [show l + 5 + 6 * d + 1 = l + 6 * (d + 1) by omega] at q1
    exact gx_factor (by omega) (fun _ => ⟨q1, q2⟩)
theorem gx_text60 : gXpec 5 60 0 := gx_up (gx_all 5 0 24 (by omega))
