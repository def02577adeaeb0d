/-! ===== the reference: texts, without their outcome ===== -/
def gI (v : xS) : Prop := (v 0 7 = 0 ∨ v 0 7 = 1) ∧ below 50 (v 0 8) ∧ (v 0 9).toInt ≤ 50
def gR (v v' : xS) : Prop := (∀ j, ¬ j = 8 → ¬ j = 14 → v' 0 j = v 0 j) ∧ below 50 (v' 0 8) ∧ nat (v 0 8) ≤ nat (v' 0 8)
theorem gR.rf {v : xS} (I : gI v) : gR v v := ⟨fun _ _ _ => rfl, I.2.1, Nat.le_refl _⟩
theorem gR.tr {v v' v2 : xS} (h : gR v v') (g : gR v' v2) : gR v v2 := ⟨fun j a b => (g.1 j a b).trans (h.1 j a b), g.2.1, Nat.le_trans h.2.2 g.2.2⟩
theorem gI.of {v v' : xS} (I : gI v) (h : gR v v') : gI v' := ⟨by rw [h.1 7 (by decide) (by decide)]; exact I.1, h.2.1, by rw [h.1 9 (by decide) (by decide)]; exact I.2.2⟩
abbrev A1 (v : xS) : xS := va_up v 0 (va_up (v 0) 8 (v 0 8 + 1))
abbrev A0 (v : xS) : xS := va_up v 0 (va_up (v 0) 14 0)
theorem gI.adv {v : xS} (I : gI v) (a : (v 0 8).toInt < (v 0 9).toInt) : below 50 (v 0 8 + 1) ∧ nat (v 0 8 + 1) = nat (v 0 8) + 1 := by
  obtain ⟨k, hk, e⟩ := I.2.1
  have c := I.2.2
  rw [e, nI_toInt (by omega)] at a
  rw [e, nI_1, show nat (nI (k + 1)) = k + 1 from nI_clamp (by omega), show nat (nI k) = k from nI_clamp (by omega)]
  exact ⟨⟨k + 1, by omega, rfl⟩, rfl⟩
theorem gR.adv {v : xS} (I : gI v) (a : (v 0 8).toInt < (v 0 9).toInt) : gR v (A1 v) := by
  obtain ⟨b, c⟩ := I.adv a
  refine ⟨fun j n8 n14 => ?_, b, ?_⟩
  · show va_up (v 0) 8 _ j = v 0 j
    exact if_neg n8
  · show nat (v 0 8) ≤ nat (v 0 8 + 1)
    omega
theorem gR.off {v : xS} (I : gI v) : gR v (A0 v) := ⟨fun j n8 n14 => if_neg n14, I.2.1, Nat.le_refl _⟩
theorem sw_byteAt (F v : xS) (k : Int32) (I : gI v) (hk : below 50 k) {K : xKo} (h : ∀ r, (¬ r = -1 → k.toInt < (v 0 9).toInt) → K (some (.int r)) (xfill F v 0 (wM0 0))) : C_M_byteAt [.ref 0, .int k] (xfill F v 0 (wM0 0)) K := by
  obtain ⟨q, hq, rfl⟩ := hk
  have eq : (nI q).toInt = q := nI_toInt (by omega)
  have I3 := I.2.2
  refine xM_go rfl 100 [] fun P hP => ?_
  refine br_c (fun _ => ?_) (fun a => ?_)
  · exact h _ (fun z => absurd rfl z)
  · have a : ¬ v 0 9 ≤ nI q := a
    rw [xle] at a
    have b : vp_in (130 + 50 * v 0 7 + nI q) 230 := by
      have hq : q < 50 := by omega
      rcases I.1 with e | e
      · rw [e, show (130 : Int32) + 50 * 0 = nI 130 by decide, nI_add]
        exact vp_in_nI (by omega) (by omega)
      · rw [e, show (130 : Int32) + 50 * 1 = nI 180 by decide, nI_add]
        exact vp_in_nI (by omega) (by omega)
    refine ⟨b, ?_⟩
    exact h _ (fun _ => by omega)
theorem sw_isDigit (c : Int32) {K : xKo} (h0 : K (some (.int 0)) []) (h1 : ¬ c = -1 → K (some (.int 1)) []) : C_M_isDigit [.int c] [] K := by
  refine xM_go rfl 100 [] fun P hP => ?_
  refine xcall (sp_in _ _ _ (fun a => ?_) (fun a => ?_))
  · exact ⟨Or.inl rfl, h0⟩
  · exact ⟨Or.inr rfl, h1 fun z => by rw [z] at a; exact absurd a (by decide)⟩
theorem sp_fails (F v : xS) {K : xKo} (h : K (some (.int 0)) (xfill F (A0 v) 0 (wM0 0))) : C_M_fails [.ref 0] (xfill F v 0 (wM0 0)) K := by
  refine xM_go rfl 100 [] fun P hP => ?_
  refine ⟨Or.inl rfl, ?_⟩
  exact h
set_option maxRecDepth 100000 in
theorem sw_number (F v : xS) (I : gI v) {K : xKo} (h : ∀ r v', gR v v' → K (some (.int r)) (xfill F v' 0 (wM0 0))) : C_M_number [.ref 0] (xfill F v 0 (wM0 0)) K := by
  have key : ∀ (d i : Nat) (x : Int32) (v' : xS), i + d = 4 → gR v v' → xWP pg_M_number K 4 [(0, .ref 0), (1, .int x), (2, .int (nI i))] [] (xfill F v' 0 (wM0 0)) (0, 0) := by
    intro d
    induction d with
    | zero =>
      intro i x v' hi R
      have hi : i = 4 := hi
      subst hi
      refine xWP_go 100 [(4, [0, 1, 2])] fun P hP => ?_
      exact br_c (fun _ => h _ _ R) (fun z => absurd (by decide) z)
    | succ d ih =>
      intro i x v' hi R
      have I' := I.of R
      refine xWP_go 100 [(4, [0, 1, 2])] fun P hP => ?_
      refine br_c (fun z => ?_) (fun _ => ?_)
      · have z : nI 4 ≤ nI i := z
        rw [nI_leI (by omega) (by omega)] at z
        omega
      refine xcall (sw_byteAt F v' _ I' I'.2.1 (fun r hr => ?_))
      refine xcall (sw_isDigit r ?_ (fun hn => ?_))
      · refine br_c (fun _ => h _ _ R) (fun z => absurd rfl z)
      refine br_c (fun z => absurd z (by decide)) (fun _ => ?_)
      refine xcall (sw_byteAt F v' _ I' I'.2.1 (fun r2 _ => ?_))
      refine hP _ _ _ _ _ ?_
      rw [nI_1]
      exact ih (i + 1) _ (A1 v') (by omega) (R.tr (gR.adv I' (hr hn)))
  refine xM_go rfl 100 [(4, [0, 1, 2])] fun P hP => ?_
  refine hP _ _ _ _ _ ?_
  exact key 4 0 0 v (by omega) (gR.rf I)
set_option maxRecDepth 100000 in
theorem sw_named (F v : xS) (I : gI v) (c : Int32) (hc : ¬ c = -1 → (v 0 8).toInt < (v 0 9).toInt) {K : xKo} (h : ∀ r v', gR v v' → K (some (.int r)) (xfill F v' 0 (wM0 0))) : C_M_named [.ref 0, .int c] (xfill F v 0 (wM0 0)) K := by
  have k91 : ¬ c = -1 → ∀ p q s : Int32, xWP pg_M_named K 91 [(0, .ref 0), (1, .int c), (2, .int p), (3, .int q), (4, .int s)] [] (xfill F v 0 (wM0 0)) (0, 0) := by
    intro n p q s
    refine xWP_go 100 [] fun P hP => ?_
    refine br_c (fun _ => ?_) (fun _ => h _ (A1 v) (gR.adv I (hc n)))
    exact br_c (fun _ => h _ (A1 v) (gR.adv I (hc n))) (fun _ => h _ (A1 v) (gR.adv I (hc n)))
  have k73 : ∀ (p q s : Int32), True → (¬ p = 0 → ¬ c = -1) → (¬ q = 0 → ¬ c = -1) → (¬ s = 0 → ¬ c = -1) → xWP pg_M_named K 73 [(0, .ref 0), (1, .int c), (2, .int p), (3, .int q), (4, .int s)] [] (xfill F v 0 (wM0 0)) (0, 0) := by
    intro p q s _ hp hq hs
    refine xWP_go 100 [(91, [0, 1, 2, 3, 4])] fun P hP => ?_
    refine br_n (fun a => ?_) (fun _ => ?_)
    · refine hP _ _ _ _ _ ?_
      exact k91 (hp a) _ _ _
    refine br_n (fun a => ?_) (fun _ => ?_)
    · refine hP _ _ _ _ _ ?_
      exact k91 (hq a) _ _ _
    refine br_n (fun a => ?_) (fun _ => ?_)
    · refine hP _ _ _ _ _ ?_
      exact k91 (hs a) _ _ _
    refine xcall (sp_fails F v ?_)
    exact h _ _ (gR.off I)
  have k48 : ∀ (p : Int32) (q : Int32), True → (¬ p = 0 → ¬ c = -1) → (¬ q = 0 → ¬ c = -1) → xWP pg_M_named K 48 [(0, .ref 0), (1, .int c), (2, .int p), (3, .int q)] [] (xfill F v 0 (wM0 0)) (0, 0) := by
    intro p q _ hp hq
    refine xWP_go 100 [(24, [0, 1, 2]), (48, [0, 1, 2, 3]), (73, [0, 1, 2, 3, 4])] fun P hP => ?_
    refine br_n (fun _ => ?_) (fun _ => ?_)
    all_goals
      refine br_n (fun _ => ?_) (fun a => ?_)
      · refine hP _ _ _ _ _ ?_
        exact k73 p q 0 trivial hp hq (fun z => absurd rfl z)
      · refine hP _ _ _ _ _ ?_
        exact k73 p q 1 trivial hp hq (fun _ z => by rw [z] at a; exact absurd a (by decide))
  have k24 : ∀ (p : Int32), True → (¬ p = 0 → ¬ c = -1) → xWP pg_M_named K 24 [(0, .ref 0), (1, .int c), (2, .int p)] [] (xfill F v 0 (wM0 0)) (0, 0) := by
    intro p _ hp
    refine xWP_go 100 [(24, [0, 1, 2]), (48, [0, 1, 2, 3]), (73, [0, 1, 2, 3, 4])] fun P hP => ?_
    refine br_n (fun _ => ?_) (fun _ => ?_)
    all_goals
      refine br_n (fun _ => ?_) (fun a => ?_)
      · refine hP _ _ _ _ _ ?_
        exact k48 p 0 trivial hp (fun z => absurd rfl z)
      · refine hP _ _ _ _ _ ?_
        exact k48 p 1 trivial hp (fun _ z => by rw [z] at a; exact absurd a (by decide))
  refine xM_go rfl 100 [(24, [0, 1, 2]), (48, [0, 1, 2, 3]), (73, [0, 1, 2, 3, 4])] fun P hP => ?_
  refine br_n (fun _ => ?_) (fun _ => ?_)
  all_goals
    refine br_n (fun _ => ?_) (fun a => ?_)
    · refine hP _ _ _ _ _ ?_
      exact k24 0 trivial (fun z => absurd rfl z)
    · refine hP _ _ _ _ _ ?_
      exact k24 1 trivial (fun _ z => by rw [z] at a; exact absurd a (by decide))
def gSpec (i n o : Nat) : Prop := ∀ (F v : xS) (K : xKo), gI v → v 0 10 = nI o → (∀ r v', gR v v' → K (some (.int r)) (xfill F v' 0 (wM0 0))) → G_gram n i [.ref 0] (xfill F v 0 (wM0 0)) K
theorem gR.o {v v' : xS} {o : Nat} (R : gR v v') (e : v 0 10 = nI o) : v' 0 10 = nI o := (R.1 10 (by decide) (by decide)).trans e
set_option maxRecDepth 100000 in
theorem g_product {n o : Nat} (hf : gSpec 0 n o) : gSpec 1 (n + 1) o := by
  intro F v K I e h
  have eG : G_gram (n + 1) 1 = xM 4 (pg_M_product (G_gram n)) := by simp only [G_gram]
  rw [eG]
  have key : ∀ (m : Nat) (y : Int32) (v' : xS), gR v v' → 50 ≤ nat (v' 0 8) + m → xWP (pg_M_product (G_gram n)) K 5 [(0, .ref 0), (1, .int y)] [] (xfill F v' 0 (wM0 0)) (0, 0) := by
    intro m
    induction m using Nat.strongRecOn with
    | ind m ih =>
      intro y v' R hm
      have I' := I.of R
      have nx : (v' 0 8).toInt < (v' 0 9).toInt → ∀ (y : Int32) (v2 : xS), gR (A1 v') v2 → xWP (pg_M_product (G_gram n)) K 5 [(0, .ref 0), (1, .int y)] [] (xfill F v2 0 (wM0 0)) (0, 0) := by
        intro a y v2 R2
        obtain ⟨b, c⟩ := I'.adv a
        have d : nat (v' 0 8 + 1) ≤ nat (v2 0 8) := R2.2.2
        have b5 := bel_nat b (by omega)
        exact ih (m - 1) (by omega) y v2 ((R.tr (gR.adv I' a)).tr R2) (by omega)
      have I2 : (v' 0 8).toInt < (v' 0 9).toInt → gI (A1 v') := fun a => I'.of (gR.adv I' a)
      have e2 : (v' 0 8).toInt < (v' 0 9).toInt → (A1 v') 0 10 = nI o := fun a => (gR.adv I' a).o (R.o e)
      have kJ : (v' 0 8).toInt < (v' 0 9).toInt → xWP (pg_M_product (G_gram n)) K 51 [(0, .ref 0), (1, .int y)] [] (xfill F v' 0 (wM0 0)) (0, 0) := by
        intro a
        refine xWP_go 200 [(5, [0, 1])] fun P hP => ?_
        refine xcall (sw_byteAt F v' _ I' I'.2.1 (fun r3 _ => ?_))
        refine xcall (hf F (A1 v') _ (I2 a) (e2 a) (fun w v2 R2 => ?_))
        refine br_n (fun _ => ?_) (fun _ => ?_)
        · refine br_n (fun wz => ?_) (fun _ => ?_)
          · refine br_n (fun _ => ?_) (fun _ => ?_)
            · refine ⟨wz, ?_⟩
              refine hP _ _ _ _ _ ?_
              exact nx a _ v2 R2
            · refine ⟨wz, ?_⟩
              refine hP _ _ _ _ _ ?_
              exact nx a _ v2 R2
          · skip
            refine hP _ _ _ _ _ ?_
            exact nx a _ v2 R2
        · skip
          refine hP _ _ _ _ _ ?_
          exact nx a _ v2 R2
      refine xWP_go 200 [(5, [0, 1]), (51, [0, 1])] fun P hP => ?_
      refine br_c (fun _ => h _ _ R) (fun _ => ?_)
      refine xcall (sw_byteAt F v' _ I' I'.2.1 (fun r0 h0 => ?_))
      refine br_c (fun a => ?_) (fun _ => ?_)
      · refine hP _ _ _ _ _ ?_
        exact kJ (h0 (fun z => by rw [z] at a; exact absurd a (by decide)))
      refine xcall (sw_byteAt F v' _ I' I'.2.1 (fun r1 h1 => ?_))
      refine br_c (fun a => ?_) (fun _ => ?_)
      · refine hP _ _ _ _ _ ?_
        exact kJ (h1 (fun z => by rw [z] at a; exact absurd a (by decide)))
      refine xcall (sw_byteAt F v' _ I' I'.2.1 (fun r2 h2 => ?_))
      refine br_n (fun _ => h _ _ R) (fun a => ?_)
      have a := h2 (fun z => by rw [z] at a; exact absurd a (by decide))
      refine hP _ _ _ _ _ ?_
      exact kJ a
  refine xM_go rfl 100 [(5, [0, 1]), (51, [0, 1])] fun P hP => ?_
  refine xcall (hf F v _ I e (fun w v2 R2 => ?_))
  refine hP _ _ _ _ _ ?_
  exact key 50 _ v2 R2 (by omega)
set_option maxRecDepth 100000 in
theorem g_sum {n o : Nat} (hf : gSpec 1 n o) : gSpec 2 (n + 1) o := by
  intro F v K I e h
  have eG : G_gram (n + 1) 2 = xM 4 (pg_M_sum (G_gram n)) := by simp only [G_gram]
  rw [eG]
  have key : ∀ (m : Nat) (y : Int32) (v' : xS), gR v v' → 50 ≤ nat (v' 0 8) + m → xWP (pg_M_sum (G_gram n)) K 5 [(0, .ref 0), (1, .int y)] [] (xfill F v' 0 (wM0 0)) (0, 0) := by
    intro m
    induction m using Nat.strongRecOn with
    | ind m ih =>
      intro y v' R hm
      have I' := I.of R
      have nx : (v' 0 8).toInt < (v' 0 9).toInt → ∀ (y : Int32) (v2 : xS), gR (A1 v') v2 → xWP (pg_M_sum (G_gram n)) K 5 [(0, .ref 0), (1, .int y)] [] (xfill F v2 0 (wM0 0)) (0, 0) := by
        intro a y v2 R2
        obtain ⟨b, c⟩ := I'.adv a
        have d : nat (v' 0 8 + 1) ≤ nat (v2 0 8) := R2.2.2
        have b5 := bel_nat b (by omega)
        exact ih (m - 1) (by omega) y v2 ((R.tr (gR.adv I' a)).tr R2) (by omega)
      have I2 : (v' 0 8).toInt < (v' 0 9).toInt → gI (A1 v') := fun a => I'.of (gR.adv I' a)
      have e2 : (v' 0 8).toInt < (v' 0 9).toInt → (A1 v') 0 10 = nI o := fun a => (gR.adv I' a).o (R.o e)
      have kJ : (v' 0 8).toInt < (v' 0 9).toInt → xWP (pg_M_sum (G_gram n)) K 38 [(0, .ref 0), (1, .int y)] [] (xfill F v' 0 (wM0 0)) (0, 0) := by
        intro a
        refine xWP_go 200 [(5, [0, 1])] fun P hP => ?_
        refine xcall (sw_byteAt F v' _ I' I'.2.1 (fun r3 _ => ?_))
        refine xcall (hf F (A1 v') _ (I2 a) (e2 a) (fun w v2 R2 => ?_))
        refine br_n (fun _ => ?_) (fun _ => ?_)
        · skip
          refine hP _ _ _ _ _ ?_
          exact nx a _ v2 R2
        · skip
          refine hP _ _ _ _ _ ?_
          exact nx a _ v2 R2
      refine xWP_go 200 [(5, [0, 1]), (38, [0, 1])] fun P hP => ?_
      refine br_c (fun _ => h _ _ R) (fun _ => ?_)
      refine xcall (sw_byteAt F v' _ I' I'.2.1 (fun r0 h0 => ?_))
      refine br_c (fun a => ?_) (fun _ => ?_)
      · refine hP _ _ _ _ _ ?_
        exact kJ (h0 (fun z => by rw [z] at a; exact absurd a (by decide)))
      refine xcall (sw_byteAt F v' _ I' I'.2.1 (fun r1 h1 => ?_))
      refine br_n (fun _ => h _ _ R) (fun a => ?_)
      have a := h1 (fun z => by rw [z] at a; exact absurd a (by decide))
      refine hP _ _ _ _ _ ?_
      exact kJ a
  refine xM_go rfl 100 [(5, [0, 1]), (38, [0, 1])] fun P hP => ?_
  refine xcall (hf F v _ I e (fun w v2 R2 => ?_))
  refine hP _ _ _ _ _ ?_
  exact key 50 _ v2 R2 (by omega)
set_option maxRecDepth 100000 in
theorem g_both {n o : Nat} (hf : gSpec 3 n o) : gSpec 4 (n + 1) o := by
  intro F v K I e h
  have eG : G_gram (n + 1) 4 = xM 3 (pg_M_both (G_gram n)) := by simp only [G_gram]
  rw [eG]
  have key : ∀ (m : Nat) (y : Int32) (v' : xS), gR v v' → 50 ≤ nat (v' 0 8) + m → xWP (pg_M_both (G_gram n)) K 5 [(0, .ref 0), (1, .int y)] [] (xfill F v' 0 (wM0 0)) (0, 0) := by
    intro m
    induction m using Nat.strongRecOn with
    | ind m ih =>
      intro y v' R hm
      have I' := I.of R
      have nx : (v' 0 8).toInt < (v' 0 9).toInt → ∀ (y : Int32) (v2 : xS), gR (A1 v') v2 → xWP (pg_M_both (G_gram n)) K 5 [(0, .ref 0), (1, .int y)] [] (xfill F v2 0 (wM0 0)) (0, 0) := by
        intro a y v2 R2
        obtain ⟨b, c⟩ := I'.adv a
        have d : nat (v' 0 8 + 1) ≤ nat (v2 0 8) := R2.2.2
        have b5 := bel_nat b (by omega)
        exact ih (m - 1) (by omega) y v2 ((R.tr (gR.adv I' a)).tr R2) (by omega)
      have I2 : (v' 0 8).toInt < (v' 0 9).toInt → gI (A1 v') := fun a => I'.of (gR.adv I' a)
      have e2 : (v' 0 8).toInt < (v' 0 9).toInt → (A1 v') 0 10 = nI o := fun a => (gR.adv I' a).o (R.o e)
      refine xWP_go 200 [(5, [0, 1])] fun P hP => ?_
      refine br_c (fun _ => h _ _ R) (fun _ => ?_)
      refine xcall (sw_byteAt F v' _ I' I'.2.1 (fun r0 h0 => ?_))
      refine br_n (fun _ => h _ _ R) (fun a => ?_)
      have a := h0 (fun z => by rw [z] at a; exact absurd a (by decide))
      refine xcall (hf F (A1 v') _ (I2 a) (e2 a) (fun w v2 R2 => ?_))
      refine br_c (fun _ => ?_) (fun _ => ?_)
      · skip
        refine hP _ _ _ _ _ ?_
        exact nx a _ v2 R2
      refine br_c (fun _ => ?_) (fun _ => ?_)
      · skip
        refine hP _ _ _ _ _ ?_
        exact nx a _ v2 R2
      · skip
        refine hP _ _ _ _ _ ?_
        exact nx a _ v2 R2
  refine xM_go rfl 100 [(5, [0, 1])] fun P hP => ?_
  refine xcall (hf F v _ I e (fun w v2 R2 => ?_))
  refine hP _ _ _ _ _ ?_
  exact key 50 _ v2 R2 (by omega)
set_option maxRecDepth 100000 in
theorem g_whole {n o : Nat} (hf : gSpec 4 n o) : gSpec 5 (n + 1) o := by
  intro F v K I e h
  have eG : G_gram (n + 1) 5 = xM 3 (pg_M_whole (G_gram n)) := by simp only [G_gram]
  rw [eG]
  have key : ∀ (m : Nat) (y : Int32) (v' : xS), gR v v' → 50 ≤ nat (v' 0 8) + m → xWP (pg_M_whole (G_gram n)) K 5 [(0, .ref 0), (1, .int y)] [] (xfill F v' 0 (wM0 0)) (0, 0) := by
    intro m
    induction m using Nat.strongRecOn with
    | ind m ih =>
      intro y v' R hm
      have I' := I.of R
      have nx : (v' 0 8).toInt < (v' 0 9).toInt → ∀ (y : Int32) (v2 : xS), gR (A1 v') v2 → xWP (pg_M_whole (G_gram n)) K 5 [(0, .ref 0), (1, .int y)] [] (xfill F v2 0 (wM0 0)) (0, 0) := by
        intro a y v2 R2
        obtain ⟨b, c⟩ := I'.adv a
        have d : nat (v' 0 8 + 1) ≤ nat (v2 0 8) := R2.2.2
        have b5 := bel_nat b (by omega)
        exact ih (m - 1) (by omega) y v2 ((R.tr (gR.adv I' a)).tr R2) (by omega)
      have I2 : (v' 0 8).toInt < (v' 0 9).toInt → gI (A1 v') := fun a => I'.of (gR.adv I' a)
      have e2 : (v' 0 8).toInt < (v' 0 9).toInt → (A1 v') 0 10 = nI o := fun a => (gR.adv I' a).o (R.o e)
      refine xWP_go 200 [(5, [0, 1])] fun P hP => ?_
      refine br_c (fun _ => h _ _ R) (fun _ => ?_)
      refine xcall (sw_byteAt F v' _ I' I'.2.1 (fun r0 h0 => ?_))
      refine br_n (fun _ => h _ _ R) (fun a => ?_)
      have a := h0 (fun z => by rw [z] at a; exact absurd a (by decide))
      refine xcall (hf F (A1 v') _ (I2 a) (e2 a) (fun w v2 R2 => ?_))
      refine br_n (fun _ => ?_) (fun _ => ?_)
      · skip
        refine hP _ _ _ _ _ ?_
        exact nx a _ v2 R2
      refine br_c (fun _ => ?_) (fun _ => ?_)
      · skip
        refine hP _ _ _ _ _ ?_
        exact nx a _ v2 R2
      · skip
        refine hP _ _ _ _ _ ?_
        exact nx a _ v2 R2
  refine xM_go rfl 100 [(5, [0, 1])] fun P hP => ?_
  refine xcall (hf F v _ I e (fun w v2 R2 => ?_))
  refine hP _ _ _ _ _ ?_
  exact key 50 _ v2 R2 (by omega)
set_option maxRecDepth 100000 in
theorem g_compared {n o : Nat} (hf : gSpec 2 n o) : gSpec 3 (n + 1) o := by
  intro F v K I e h
  have eG : G_gram (n + 1) 3 = xM 5 (pg_M_compared (G_gram n)) := by simp only [G_gram]
  rw [eG]
  have fin : ∀ (q : Int32) (ls : xL) (v' : xS), gR v v' → True := fun _ _ _ _ => trivial
  have k110 : ∀ (y s w q : Int32) (v' : xS), gR v v' → xWP (pg_M_compared (G_gram n)) K 108 [(0, .ref 0), (1, .int y), (2, .int s), (3, .int w)] [.int q] (xfill F v' 0 (wM0 0)) (0, 0) := by
    intro y s w q v' R
    refine xWP_go 100 [] fun P hP => ?_
    exact br_c (fun _ => h _ _ R) (fun _ => h _ _ R)
  have k45 : ∀ (y s : Int32) (v' : xS), gR v v' → (v' 0 8).toInt < (v' 0 9).toInt → xWP (pg_M_compared (G_gram n)) K 45 [(0, .ref 0), (1, .int y), (2, .int s)] [] (xfill F v' 0 (wM0 0)) (0, 0) := by
    intro y s v' R a
    have I' := I.of R
    have R1 := gR.adv I' a
    refine xWP_go 200 [(108, [0, 1, 2, 3])] fun P hP => ?_
    refine xcall (hf F (A1 v') _ (I'.of R1) (R1.o (R.o e)) (fun w v2 R2 => ?_))
    have go : ∀ q : Int32, xWP (pg_M_compared (G_gram n)) K 108 [(0, .ref 0), (1, .int y), (2, .int s), (3, .int w)] [.int q] (xfill F v2 0 (wM0 0)) (0, 0) := fun q => k110 _ _ _ _ _ ((R.tr R1).tr R2)
    refine br_n (fun _ => ?_) (fun _ => ?_)
    · refine br_n (fun _ => ?_) (fun _ => ?_)
      · refine br_c (fun _ => hP _ _ _ _ _ (go 0)) (fun _ => hP _ _ _ _ _ (go 1))
      · refine br_n (fun _ => hP _ _ _ _ _ (go 0)) (fun _ => hP _ _ _ _ _ (go 1))
    · refine br_c (fun _ => hP _ _ _ _ _ (go 0)) (fun _ => hP _ _ _ _ _ (go 1))
  have k25 : ∀ (y s : Int32) (v' : xS), gR v v' → (¬ s = -1 → (v' 0 8).toInt < (v' 0 9).toInt) → xWP (pg_M_compared (G_gram n)) K 25 [(0, .ref 0), (1, .int y), (2, .int s)] [] (xfill F v' 0 (wM0 0)) (0, 0) := by
    intro y s v' R a
    refine xWP_go 200 [(45, [0, 1, 2])] fun P hP => ?_
    refine br_c (fun b => hP _ _ _ _ _ (k45 _ _ _ R (a (fun z => by rw [z] at b; exact absurd b (by decide))))) (fun _ => ?_)
    refine br_c (fun b => hP _ _ _ _ _ (k45 _ _ _ R (a (fun z => by rw [z] at b; exact absurd b (by decide))))) (fun _ => ?_)
    exact br_c (fun b => hP _ _ _ _ _ (k45 _ _ _ R (a (fun z => by rw [z] at b; exact absurd b (by decide))))) (fun _ => h _ _ R)
  refine xM_go rfl 200 [(25, [0, 1, 2])] fun P hP => ?_
  refine xcall (hf F v _ I e (fun y v' R => ?_))
  have I' := I.of R
  refine br_c (fun _ => ?_) (fun _ => ?_)
  · exact hP _ _ _ _ _ (k25 _ _ _ R (fun z => absurd rfl z))
  · refine xcall (sw_byteAt F v' _ I' I'.2.1 (fun r hr => ?_))
    exact hP _ _ _ _ _ (k25 _ _ _ R hr)
set_option maxRecDepth 100000 in
theorem g_factor {n o : Nat} (ho : o ≤ 5) (hf : o < 5 → gSpec 0 n (o + 1) ∧ gSpec 5 n (o + 1)) : gSpec 0 (n + 1) o := by
  intro F v K I e h
  have eG : G_gram (n + 1) 0 = xM 3 (pg_M_factor (G_gram n)) := by simp only [G_gram]
  rw [eG]
  have k39 : ∀ c : Int32, (¬ c = -1 → (v 0 8).toInt < (v 0 9).toInt) → ¬ c = -1 → xWP (pg_M_factor (G_gram n)) K 39 [(0, .ref 0), (1, .int c)] [] (xfill F v 0 (wM0 0)) (0, 0) := by
    intro c hc nc
    have a := hc nc
    refine xWP_go 200 [(89, [0, 1])] fun P hP => ?_
    refine br_n (fun n5 => ?_) (fun _ => ?_)
    · have n5 : ¬ v 0 10 = nI 5 := n5
      have o5 : o < 5 := by
        by_cases z : o = 5
        · exact absurd (by rw [e, z]) n5
        · omega
      obtain ⟨f0, f5⟩ := hf o5
      have R1 : gR v (A1 v) := gR.adv I a
      obtain ⟨v1, ev1⟩ : ∃ v1, v1 = va_up v 0 (va_up (va_up (v 0) 10 (v 0 10 + 1)) 8 (v 0 8 + 1)) := ⟨_, rfl⟩
      have J1 : gI v1 := by rw [ev1]; exact ⟨I.1, (I.adv a).1, I.2.2⟩
      have J2 : v1 0 10 = nI (o + 1) := by rw [ev1, ← nI_1, ← e]; rfl
      have J3 : ∀ j, ¬ j = 8 → ¬ j = 10 → v1 0 j = v 0 j := by
        intro j n8 n10
        rw [ev1]
        exact (if_neg n8).trans (if_neg n10)
      have J4 : nat (v 0 8) ≤ nat (v1 0 8) := by rw [ev1]; exact R1.2.2
      have bk : ∀ (r : Int32) (v2 : xS), gR v1 v2 → xWP (pg_M_factor (G_gram n)) K 89 [(0, .ref 0), (1, .int c)] [.int r] (xfill F v2 0 (wM0 0)) (0, 0) := by
        intro r v2 R2
        have R3 : gR v (va_up v2 0 (va_up (v2 0) 10 (v2 0 10 - 1))) := by
          refine ⟨fun j n8 n14 => ?_, R2.2.1, Nat.le_trans J4 R2.2.2⟩
          show va_up (v2 0) 10 (v2 0 10 - 1) j = v 0 j
          by_cases n10 : j = 10
          · subst n10
            have q : va_up (v2 0) 10 (v2 0 10 - 1) 10 = v2 0 10 - 1 := rfl
            rw [q, R2.o J2, nI_pred, e]
          · exact (if_neg n10).trans ((R2.1 j n8 n14).trans (J3 j n8 n10))
        have I3 := I.of R3
        refine xWP_go 200 [] fun P hP => ?_
        refine br_n (fun _ => ?_) (fun _ => ?_)
        · refine br_c (fun _ => ?_) (fun _ => ?_)
          · refine xcall (sp_fails F (va_up v2 0 (va_up (v2 0) 10 (v2 0 10 - 1))) ?_)
            exact h _ _ (R3.tr (gR.off I3))
          · refine xcall (sw_byteAt F (va_up v2 0 (va_up (v2 0) 10 (v2 0 10 - 1))) _ I3 I3.2.1 (fun b hb => ?_))
            refine br_n (fun _ => ?_) (fun y => ?_)
            · refine xcall (sp_fails F (va_up v2 0 (va_up (v2 0) 10 (v2 0 10 - 1))) ?_)
              exact h _ _ (R3.tr (gR.off I3))
            · have y2 := hb (fun z => by rw [z] at y; exact absurd y (by decide))
              exact h _ (A1 (va_up v2 0 (va_up (v2 0) 10 (v2 0 10 - 1)))) (R3.tr (gR.adv I3 y2))
        · exact br_n (fun _ => h _ _ R3) (fun _ => h _ _ R3)
      refine br_n (fun _ => ?_) (fun _ => ?_)
      · refine xcall (f5 F (va_up v 0 (va_up (va_up (v 0) 10 (v 0 10 + 1)) 8 (v 0 8 + 1))) _ (by rw [← ev1]; exact J1) (by rw [← ev1]; exact J2) (fun r v2 R2 => ?_))
        exact hP _ _ _ _ _ (bk r v2 (by rw [ev1]; exact R2))
      · refine xcall (f0 F (va_up v 0 (va_up (va_up (v 0) 10 (v 0 10 + 1)) 8 (v 0 8 + 1))) _ (by rw [← ev1]; exact J1) (by rw [← ev1]; exact J2) (fun r v2 R2 => ?_))
        exact hP _ _ _ _ _ (bk r v2 (by rw [ev1]; exact R2))
    · refine xcall (sp_fails F v ?_)
      exact h _ _ (gR.off I)
  refine xM_go rfl 200 [(39, [0, 1])] fun P hP => ?_
  refine xcall (sw_byteAt F v _ I I.2.1 (fun c hc => ?_))
  refine xcall (sw_isDigit c ?_ (fun hn => ?_))
  · refine br_c (fun _ => ?_) (fun z => absurd rfl z)
    refine br_c (fun a => ?_) (fun _ => ?_)
    · exact hP _ _ _ _ _ (k39 c hc (fun z => by rw [z] at a; exact absurd a (by decide)))
    refine br_c (fun a => ?_) (fun _ => ?_)
    · exact hP _ _ _ _ _ (k39 c hc (fun z => by rw [z] at a; exact absurd a (by decide)))
    refine xcall (sw_named F v I c hc (fun r v' R => ?_))
    exact h _ _ R
  · refine br_c (fun z => absurd z (by decide)) (fun _ => ?_)
    refine xcall (sw_number F v I (fun r v' R => ?_))
    exact h _ _ R
theorem g_up {n o : Nat} (h : gSpec 0 n o) : gSpec 5 (n + 5) o := g_whole (g_both (g_compared (g_sum (g_product h))))
theorem g_all : ∀ (d o l : Nat), o + d = 5 → gSpec 0 (l + 6 * d + 1) o := by
  intro d
  induction d with
  | zero => exact fun o l e => g_factor (by omega) (fun z => by omega)
  | succ d ih =>
    intro o l e
    have q1 := ih (o + 1) (l + 5) (by omega)
    have q2 := g_up (ih (o + 1) l (by omega))
    rw [show l + 6 * d + 1 + 5 = l + 6 * (d + 1) by omega] at q2
    rw [show l + 5 + 6 * d + 1 = l + 6 * (d + 1) by omega] at q1
    exact g_factor (by omega) (fun _ => ⟨q1, q2⟩)
theorem g_text60 : gSpec 5 60 0 := g_up (g_all 5 0 24 (by omega))
