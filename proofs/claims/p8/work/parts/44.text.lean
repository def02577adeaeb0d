/-! ===== the tried side: texts read, without their outcome ===== -/
variable {Φ : hRw → Prop}
theorem xgenW {w0 w' : xW} {Q : xW → Prop} {P : xS → xS → Prop} (h : ∀ F v, P F v → Q (xfill F v 0 w0)) (hs : xsame w0 w' = true) (hp : P (xarrs w') (xobjs w')) : Q w' := by
  rw [xsame_fill hs]
  exact h _ _ hp
theorem xM_at {n : Nat} {prog : List xEl} {av : List Value} {w : xW} {K : xKo} (hs : Nat.ble (lg_sl av).length n = true) (h : xWP prog K 0 (lv_args 0 av) [] w (0, 0)) : xM n prog av w K := by
  unfold xM
  rw [hs]
  exact h
def rI (v : xS) : Prop := below 50 (v 0 1) ∧ below 50 (v 0 3)
theorem below.suc {n : Nat} {x : Int32} (h : below 50 x) (z : ¬ nI 50 ≤ x) (hn : n = 50) : vp_in x n ∧ below 50 (x + 1) := by
  obtain ⟨k, hk, rfl⟩ := h
  subst hn
  rw [nI_leI (by omega) (by omega)] at z
  exact ⟨vp_in_nI (by omega) (by omega), k + 1, by omega, nI_1 _⟩
theorem below.pre {x : Int32} (h : below 50 x) (z : ¬ x = 0) : vp_in (x - 1) 50 ∧ below 50 (x - 1) := by
  obtain ⟨k, hk, rfl⟩ := h
  cases k with
  | zero => exact absurd rfl z
  | succ k =>
    rw [nI_pred]
    exact ⟨vp_in_nI (by omega) (by omega), k, by omega, rfl⟩
theorem below.pos {x : Int32} (h : below 50 x) (z : ¬ x ≤ 0) : ¬ x = 0 := fun e => z (by rw [e]; decide)
theorem sw_emit (F v : xS) (I : rI v) (x : Int32) {K : xKo} (h : ∀ F' s, below 50 s → K none (xfill F' (va_up v 0 (va_up (v 0) 1 s)) 0 (wR0 0))) : C_R_emit [.ref 0, .int x] (xfill F v 0 (wR0 0)) K := by
  refine xM_go rfl 60 [] fun P hP => ?_
  refine br_c (fun a => ?_) (fun a => ?_)
  · exact h F (v 0 1) I.1
  · obtain ⟨b1, b2⟩ := I.1.suc (n := 50) a rfl
    refine ⟨b1, ?_⟩
    exact h (va_up F 1 _) _ b2
theorem sw_hold (F v : xS) (I : rI v) (x : Int32) {K : xKo} (h : ∀ F' v', rI v' → K none (xfill F' v' 0 (wR0 0))) : C_R_hold [.ref 0, .int x] (xfill F v 0 (wR0 0)) K := by
  refine xM_go rfl 60 [] fun P hP => ?_
  refine br_c (fun a => ?_) (fun a => ?_)
  · exact h F v I
  · obtain ⟨b1, b2⟩ := I.2.suc (n := 50) a rfl
    refine ⟨b1, ?_⟩
    exact h (va_up F 2 _) (va_up v 0 (va_up (v 0) 3 (v 0 3 + 1))) ⟨I.1, b2⟩
theorem sw_rankOf (x : Int32) {K : xKo} (h : ∀ r, K (some (.int r)) []) : C_R_rankOf [.int x] [] K := by
  refine xM_go rfl 60 [] fun P hP => ?_
  refine ⟨fun _ => h _, fun _ => ?_⟩
  refine ⟨fun _ => h _, fun _ => ?_⟩
  refine ⟨fun _ => h _, fun _ => ?_⟩
  refine ⟨fun _ => h _, fun _ => ?_⟩
  refine ⟨fun _ => h _, fun _ => ?_⟩
  refine ⟨fun _ => h _, fun _ => ?_⟩
  refine ⟨fun _ => h _, fun _ => ?_⟩
  refine ⟨fun _ => h _, fun _ => ?_⟩
  refine ⟨fun _ => h _, fun _ => ?_⟩
  refine ⟨fun _ => h _, fun _ => ?_⟩
  exact h _
set_option maxRecDepth 100000 in
theorem sw_closeNots (F v : xS) (I : rI v) {K : xKo} (h : ∀ F' v', rI v' → K none (xfill F' v' 0 (wR0 0))) : C_R_closeNots [.ref 0] (xfill F v 0 (wR0 0)) K := by
  have key : ∀ (d : Nat) (F v : xS), rI v → v 0 3 = nI d → d ≤ 50 → xWP pg_R_closeNots K 0 [(0, .ref 0)] [] (xfill F v 0 (wR0 0)) (0, 0) := by
    intro d
    induction d with
    | zero =>
      intro F v I e hd
      refine xWP_go 100 [(0, [0])] fun P hP => ?_
      refine br_c (fun _ => h F v I) (fun z => ?_)
      have z : ¬ v 0 3 ≤ 0 := z
      rw [e] at z
      exact absurd (by decide) z
    | succ d ih =>
      intro F v I e hd
      have e1 : v 0 3 - 1 = nI d := by rw [e, nI_pred]
      have b1 : vp_in (v 0 3 - 1) 50 := by rw [e1]; exact vp_in_nI (by omega) (by omega)
      have nx : ∀ (F' : xS) (s u : Int32), below 50 s → xWP pg_R_closeNots K 0 [(0, .ref 0)] [] (xfill F' (va_up v 0 (va_up (va_up (va_up (v 0) 1 s) 4 u) 3 (v 0 3 - 1))) 0 (wR0 0)) (0, 0) := fun F' s u hs => ih F' _ ⟨hs, ⟨d, by omega, e1⟩⟩ e1 (by omega)
      refine xWP_go 100 [(0, [0])] fun P hP => ?_
      refine br_c (fun _ => h F v I) (fun _ => ?_)
      refine ⟨b1, ?_⟩
      refine br_n (fun _ => h F v I) (fun _ => ?_)
      refine xcall (sw_emit F v I _ (fun F' s hs => ?_))
      refine hP _ _ _ _ _ ?_
      exact nx F' s _ hs
  refine xM_at rfl ?_
  obtain ⟨k, hk, e⟩ := id I.2
  exact key k F v I e hk
set_option maxRecDepth 100000 in
theorem sw_release (F v : xS) (I : rI v) (x : Int32) {K : xKo} (h : ∀ F' v', rI v' → K none (xfill F' v' 0 (wR0 0))) : C_R_release [.ref 0, .int x] (xfill F v 0 (wR0 0)) K := by
  have key : ∀ (d : Nat) (F v : xS), rI v → v 0 3 = nI d → d ≤ 50 → xWP pg_R_release K 0 [(0, .ref 0), (1, .int x)] [] (xfill F v 0 (wR0 0)) (0, 0) := by
    intro d
    induction d with
    | zero =>
      intro F v I e hd
      refine xWP_go 100 [(0, [0, 1])] fun P hP => ?_
      refine br_c (fun _ => h F v I) (fun z => ?_)
      have z : ¬ v 0 3 ≤ 0 := z
      rw [e] at z
      exact absurd (by decide) z
    | succ d ih =>
      intro F v I e hd
      have e1 : v 0 3 - 1 = nI d := by rw [e, nI_pred]
      have b1 : vp_in (v 0 3 - 1) 50 := by rw [e1]; exact vp_in_nI (by omega) (by omega)
      have nx : ∀ (F' : xS) (s u : Int32), below 50 s → xWP pg_R_release K 0 [(0, .ref 0), (1, .int x)] [] (xfill F' (va_up v 0 (va_up (va_up (va_up (v 0) 1 s) 4 u) 3 (v 0 3 - 1))) 0 (wR0 0)) (0, 0) := fun F' s u hs => ih F' _ ⟨hs, ⟨d, by omega, e1⟩⟩ e1 (by omega)
      refine xWP_go 100 [(0, [0, 1])] fun P hP => ?_
      refine br_c (fun _ => h F v I) (fun _ => ?_)
      refine ⟨b1, ?_⟩
      refine xcall (sw_rankOf _ (fun r => ?_))
      refine br_c (fun _ => h F v I) (fun _ => ?_)
      refine ⟨b1, ?_⟩
      refine xcall (sw_emit F v I _ (fun F' s hs => ?_))
      refine hP _ _ _ _ _ ?_
      exact nx F' s (v 0 4) hs
  refine xM_at rfl ?_
  obtain ⟨k, hk, e⟩ := id I.2
  exact key k F v I e hk
set_option maxRecDepth 100000 in
theorem sw_readDigit (F v : xS) (I : rI v) (x : Int32) {K : xKo} (h : ∀ r F' v', rI v' → (r = 0 ∨ r = 1) → K (some (.int r)) (xfill F' v' 0 (wR0 0))) : C_R_readDigit [.ref 0, .int x] (xfill F v 0 (wR0 0)) K := by
  refine xM_go rfl 100 [] fun P hP => ?_
  refine br_c (fun _ => ?_) (fun _ => ?_)
  · refine br_c (fun _ => ?_) (fun _ => ?_)
    · exact ⟨Or.inl rfl, xgenP (K := K) (P := fun _ v => rI v) (fun F' v' p => h _ F' v' p (Or.inl rfl)) (by rfl) (by exact I)⟩
    refine br_c (fun _ => ?_) (fun _ => ?_)
    · exact ⟨Or.inl rfl, xgenP (K := K) (P := fun _ v => rI v) (fun F' v' p => h _ F' v' p (Or.inl rfl)) (by rfl) (by exact I)⟩
    refine br_n (fun a => ?_) (fun _ => ?_)
    · obtain ⟨b1, b2⟩ := I.1.pre a
      refine ⟨b1, ?_⟩
      refine ⟨b1, ?_⟩
      exact ⟨Or.inr rfl, xgenP (K := K) (P := fun _ v => rI v) (fun F' v' p => h _ F' v' p (Or.inr rfl)) (by rfl) (by exact I)⟩
    · exact ⟨Or.inl rfl, xgenP (K := K) (P := fun _ v => rI v) (fun F' v' p => h _ F' v' p (Or.inl rfl)) (by rfl) (by exact I)⟩
  · refine xcall (sw_emit F v I _ (fun F' s hs => ?_))
    refine ⟨Or.inl rfl, ?_⟩
    exact ⟨Or.inr rfl, xgenP (K := K) (P := fun _ v => rI v) (fun F' v' p => h _ F' v' p (Or.inr rfl)) (by rfl) (by exact ⟨hs, I.2⟩)⟩
theorem sw_readStart (F v : xS) (I : rI v) (x u : Int32) (hu : u = 0 ∨ u = 1) {K : xKo} (h : ∀ r F' v', rI v' → (r = 0 ∨ r = 1) → K (some (.int r)) (xfill F' v' 0 (wR0 0))) : C_R_readStart [.ref 0, .int x, .int u] (xfill F v 0 (wR0 0)) K := by
  have fin : xWP pg_R_readStart K 42 [(0, .ref 0), (1, .int x), (2, .int u), (3, .int 3)] [] (xfill F v 0 (wR0 0)) (0, 0) := by
    refine xWP_go 100 [] fun P hP => ?_
    refine br_c (fun _ => ?_) (fun _ => ?_)
    · refine br_n (fun _ => ?_) (fun _ => ?_)
      · refine xcall (sw_hold F v I _ (fun F' v' I' => ?_))
        exact ⟨Or.inr rfl, xgenP (K := K) (P := fun _ v => rI v) (fun F' v' p => h _ F' v' p (Or.inr rfl)) (by rfl) (by exact I')⟩
      · exact ⟨Or.inl rfl, xgenP (K := K) (P := fun _ v => rI v) (fun F' v' p => h _ F' v' p (Or.inl rfl)) (by rfl) (by exact I)⟩
    refine br_n (fun _ => ?_) (fun _ => ?_)
    · exact ⟨Or.inl rfl, xgenP (K := K) (P := fun _ v => rI v) (fun F' v' p => h _ F' v' p (Or.inl rfl)) (by rfl) (by exact I)⟩
    · refine br_n (fun _ => ?_) (fun _ => ?_)
      · refine xcall (sw_hold F v I _ (fun F' v' I' => ?_))
        exact ⟨Or.inr rfl, xgenP (K := K) (P := fun _ v => rI v) (fun F' v' p => h _ F' v' p (Or.inr rfl)) (by rfl) (by exact I')⟩
      · exact ⟨Or.inl rfl, xgenP (K := K) (P := fun _ v => rI v) (fun F' v' p => h _ F' v' p (Or.inl rfl)) (by rfl) (by exact I)⟩
  have key : ∀ (d i : Nat), i + d = 3 → xWP pg_R_readStart K 2 [(0, .ref 0), (1, .int x), (2, .int u), (3, .int (nI i))] [] (xfill F v 0 (wR0 0)) (0, 0) := by
    intro d
    induction d with
    | zero =>
      intro i hi
      have hi : i = 3 := hi
      subst hi
      refine xWP_go 100 [(2, [0, 1, 2, 3]), (42, [0, 1, 2, 3])] fun P hP => ?_
      refine br_c (fun _ => ?_) (fun z => absurd (by decide) z)
      refine hP _ _ _ _ _ ?_
      exact fin
    | succ d ih =>
      intro i hi
      refine xWP_go 100 [(2, [0, 1, 2, 3]), (42, [0, 1, 2, 3])] fun P hP => ?_
      refine br_c (fun z => ?_) (fun _ => ?_)
      · have z : nI 3 ≤ nI i := z
        rw [nI_leI (by omega) (by omega)] at z
        omega
      have b : vp_in (3 * u + nI i) 6 := by
        rcases (show i = 0 ∨ i = 1 ∨ i = 2 by omega) with e | e | e
        all_goals subst e
        all_goals rcases hu with e | e
        all_goals subst e
        all_goals exact vin (by decide)
      refine ⟨rfl, b, ?_⟩
      refine br_n (fun _ => ?_) (fun _ => ?_)
      · refine hP _ _ _ _ _ ?_
        rw [nI_1]
        exact ih (i + 1) (by omega)
      · refine xcall (sw_emit F v I _ (fun F' s hs => ?_))
        refine ⟨Or.inl rfl, ?_⟩
        exact ⟨Or.inr rfl, xgenP (K := K) (P := fun _ v => rI v) (fun F' v' p => h _ F' v' p (Or.inr rfl)) (by rfl) (by exact ⟨hs, I.2⟩)⟩
  refine xM_go rfl 100 [(2, [0, 1, 2, 3])] fun P hP => ?_
  refine hP _ _ _ _ _ ?_
  exact key 3 0 (by omega)
theorem sw_closeRound (F v : xS) (I : rI v) {K : xKo} (h : ∀ r F' v', rI v' → (r = 0 ∨ r = 1) → K (some (.int r)) (xfill F' v' 0 (wR0 0))) : C_R_closeRound [.ref 0] (xfill F v 0 (wR0 0)) K := by
  refine xM_go rfl 100 [] fun P hP => ?_
  refine xcall (sw_release F v I _ (fun F' v' I' => ?_))
  refine br_n (fun a => ?_) (fun _ => ?_)
  · obtain ⟨b1, b2⟩ := I'.2.pre a
    exact ⟨Or.inr rfl, xgenP (K := K) (P := fun _ v => rI v) (fun F' v' p => h _ F' v' p (Or.inr rfl)) (by rfl) (by exact ⟨I'.1, b2⟩)⟩
  · exact ⟨Or.inl rfl, xgenP (K := K) (P := fun _ v => rI v) (fun F' v' p => h _ F' v' p (Or.inl rfl)) (by rfl) (by exact I')⟩
theorem sw_isWhole (F v : xS) (I : rI v) {K : xKo} (h : ∀ r F' v', rI v' → (r = 0 ∨ r = 1) → K (some (.int r)) (xfill F' v' 0 (wR0 0))) : C_R_isWhole [.ref 0] (xfill F v 0 (wR0 0)) K := by
  refine xM_go rfl 100 [] fun P hP => ?_
  refine br_c (fun _ => ?_) (fun _ => ?_)
  · refine xcall (sw_closeNots F v I (fun F' v' I' => ?_))
    refine xcall (sw_release F' v' I' _ (fun F2 v2 I2 => ?_))
    refine br_n (fun _ => ?_) (fun _ => ?_)
    · exact ⟨Or.inl rfl, xgenP (K := K) (P := fun _ v => rI v) (fun F' v' p => h _ F' v' p (Or.inl rfl)) (by rfl) (by exact I2)⟩
    · exact ⟨Or.inr rfl, xgenP (K := K) (P := fun _ v => rI v) (fun F' v' p => h _ F' v' p (Or.inr rfl)) (by rfl) (by exact I2)⟩
  · exact ⟨Or.inl rfl, xgenP (K := K) (P := fun _ v => rI v) (fun F' v' p => h _ F' v' p (Or.inl rfl)) (by rfl) (by exact I)⟩
theorem sw_readNext (F v : xS) (I : rI v) (x : Int32) {K : xKo} (h : ∀ r F' v', rI v' → (r = 0 ∨ r = 1) → K (some (.int r)) (xfill F' v' 0 (wR0 0))) : C_R_readNext [.ref 0, .int x] (xfill F v 0 (wR0 0)) K := by
  refine xM_go rfl 100 [] fun P hP => ?_
  refine xcall (sw_closeNots F v I (fun F1 v1 I1 => ?_))
  refine br_n (fun _ => ?_) (fun _ => ?_)
  · refine xcall (sw_rankOf _ (fun r => ?_))
    refine br_c (fun _ => ?_) (fun _ => ?_)
    rotate_left
    · exact ⟨Or.inl rfl, xgenP (K := K) (P := fun _ v => rI v) (fun F' v' p => h _ F' v' p (Or.inl rfl)) (by rfl) (by exact I1)⟩
    refine br_n (fun _ => ?_) (fun _ => ?_)
    · refine xcall (sw_release F1 v1 I1 _ (fun F2 v2 I2 => ?_))
      refine xcall (sw_hold F2 v2 I2 _ (fun F3 v3 I3 => ?_))
      refine ⟨Or.inr rfl, ?_⟩
      exact ⟨Or.inr rfl, xgenP (K := K) (P := fun _ v => rI v) (fun F' v' p => h _ F' v' p (Or.inr rfl)) (by rfl) (by exact I3)⟩
    · refine xcall (sw_release F1 v1 I1 _ (fun F2 v2 I2 => ?_))
      refine br_c (fun _ => ?_) (fun a => ?_)
      · refine xcall (sw_hold F2 v2 I2 _ (fun F3 v3 I3 => ?_))
        refine ⟨Or.inr rfl, ?_⟩
        exact ⟨Or.inr rfl, xgenP (K := K) (P := fun _ v => rI v) (fun F' v' p => h _ F' v' p (Or.inr rfl)) (by rfl) (by exact I3)⟩
      · obtain ⟨b1, b2⟩ := I2.2.pre (I2.2.pos a)
        refine ⟨b1, ?_⟩
        refine xcall (sw_rankOf _ (fun r2 => ?_))
        refine br_n (fun _ => ?_) (fun _ => ?_)
        · refine xcall (sw_hold F2 v2 I2 _ (fun F3 v3 I3 => ?_))
          refine ⟨Or.inr rfl, ?_⟩
          exact ⟨Or.inr rfl, xgenP (K := K) (P := fun _ v => rI v) (fun F' v' p => h _ F' v' p (Or.inr rfl)) (by rfl) (by exact I3)⟩
        · exact ⟨Or.inl rfl, xgenP (K := K) (P := fun _ v => rI v) (fun F' v' p => h _ F' v' p (Or.inl rfl)) (by rfl) (by exact I2)⟩
  · refine xcall (sw_closeRound F1 v1 I1 (fun r F2 v2 I2 hr => ?_))
    exact ⟨hr, h _ F2 v2 I2 hr⟩
theorem sw_goesOn (F v : xS) (I : rI v) (x u : Int32) (hu : u = 0 ∨ u = 1) {K : xKo} (h : ∀ r F' v', rI v' → (r = 0 ∨ r = 1) → K (some (.int r)) (xfill F' v' 0 (wR0 0))) : C_R_goesOn [.ref 0, .int x, .int u] (xfill F v 0 (wR0 0)) K := by
  have I2 : rI (va_up v 0 (va_up (v 0) 5 0)) := I
  refine xM_go rfl 100 [] fun P hP => ?_
  refine br_c (fun _ => ?_) (fun _ => ?_)
  · refine br_c (fun _ => ?_) (fun _ => ?_)
    · refine xcall (sw_readNext F _ I2 x (fun r F2 v2 I2 hr => ?_))
      exact ⟨hr, h _ F2 v2 I2 hr⟩
    · refine xcall (sw_readStart F _ I2 x u hu (fun r F2 v2 I2 hr => ?_))
      exact ⟨hr, h _ F2 v2 I2 hr⟩
  refine br_c (fun _ => ?_) (fun _ => ?_)
  · refine br_c (fun _ => ?_) (fun _ => ?_)
    · refine xcall (sw_readNext F _ I2 x (fun r F2 v2 I2 hr => ?_))
      exact ⟨hr, h _ F2 v2 I2 hr⟩
    · refine xcall (sw_readStart F _ I2 x u hu (fun r F2 v2 I2 hr => ?_))
      exact ⟨hr, h _ F2 v2 I2 hr⟩
  · refine xcall (sw_readDigit F v I _ (fun r F2 v2 I2 hr => ?_))
    exact ⟨hr, h _ F2 v2 I2 hr⟩
set_option maxRecDepth 100000 in
theorem sw_faultOf (F v : xS) (g : Nat → Int32) (b u : Int32) (hb : below 50 b) (hu : u = 0 ∨ u = 1) {K : xKo} (h : ∀ r F' v', rI v' → K (some (.int r)) (xfill F' v' 0 (wR0 0) ++ [.inl (50, g)])) : C_R_faultOf [.ref 0, .ref 3, .int b, .int u] ((xfill F v 0 (wR0 0)) ++ [.inl (50, g)]) K := by
  obtain ⟨n, hn, rfl⟩ := hb
  have key : ∀ (d i : Nat) (F v : xS), i + d = n → rI v → xWP pg_R_faultOf K 36 [(0, .ref 0), (1, .ref 3), (2, .int (nI n)), (3, .int u), (4, .int (nI n)), (5, .int (nI i))] [] ((xfill F v 0 (wR0 0)) ++ [.inl (50, g)]) (0, 0) := by
    intro d
    induction d with
    | zero =>
      intro i F v hi I
      refine xWP_go 100 [(36, [0, 1, 2, 3, 4, 5])] fun P hP => ?_
      refine br_c (fun _ => ?_) (fun z => ?_)
      · refine xcall (sw_isWhole F v I (fun r F2 v2 I2 hr => ?_))
        refine br_c (fun _ => h _ F2 v2 I2) (fun _ => h _ F2 v2 I2)
      · have z : ¬ nI n ≤ nI i := z
        rw [nI_leI (by omega) (by omega)] at z
        omega
    | succ d ih =>
      intro i F v hi I
      refine xWP_go 100 [(36, [0, 1, 2, 3, 4, 5])] fun P hP => ?_
      refine br_c (fun z => ?_) (fun _ => ?_)
      · have z : nI n ≤ nI i := z
        rw [nI_leI (by omega) (by omega)] at z
        omega
      refine ⟨vp_in_nI (by omega) (by omega), ?_⟩
      refine xcall (sw_goesOn F v I _ u hu (fun r F2 v2 I2 hr => ?_))
      refine br_n (fun _ => ?_) (fun _ => ?_)
      · refine hP _ _ _ _ _ ?_
        rw [nI_1]
        exact ih (i + 1) F2 v2 (by omega) I2
      · exact h _ F2 v2 I2
  refine xM_go rfl 100 [(36, [0, 1, 2, 3, 4, 5])] fun P hP => ?_
  refine ⟨Or.inr rfl, ?_⟩
  refine xcall (sp_min _ _ ?_)
  rw [show (if nI n ≤ Int32.ofNat 50 then nI n else Int32.ofNat 50) = nI n from if_pos (nI_le hn (by decide))]
  refine hP _ _ _ _ _ ?_
  exact key n 0 F (va_up v 0 (va_up (va_up (va_up (va_up (va_up (v 0) 1 0) 3 0) 4 0) 5 0) 6 1)) (by omega) ⟨⟨0, by omega, rfl⟩, ⟨0, by omega, rfl⟩⟩
def g_text (u : Int32) (s : xA) : xA := if xin u 2 then (va_up s.1 6 (upd (s.1 6) 4 0), s.2) else s
