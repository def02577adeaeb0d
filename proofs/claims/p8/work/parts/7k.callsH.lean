/-! ===== the tried side: calls and texts, exactly ===== -/
theorem out0.play {s : xS} {X : xXt} (O : out0 s X) {b t : Int32} : out0 (clS s) (ePlay s X b t) := by
  intro j a l
  have a : nat (s 6 1) ≤ j := a
  have q : ∀ k, (ePlay s X b t).1 k j = X.1 k j := fun k => if_neg (by omega)
  rw [q, q]
  exact O j a l
theorem hQ.X2 {F v F' v' : xS} (E : hQ F v F' v') : (hX F' v').2 = (hX F v).2 := by
  show (((F' 24, F' 25, F' 26, v' 19 9), (F' 29, v' 28 1, F' 32, v' 31 1)) : hRw1) = ((F 24, F 25, F 26, v 19 9), (F 29, v 28 1, F 32, v 31 1))
  rw [E.1 24 rfl, E.1 25 rfl, E.1 26 rfl, E.2 19 9 rfl, E.1 29 rfl, E.2 28 1 rfl, E.1 32 rfl, E.2 31 1 rfl]
/-- a call played: the new state -/
theorem HR.play {n : Nat} {σ : xZ} {F v F' v' : xS} {s' : xS} {X' : xXt} (R : HR n σ F v) (E : hQ F v F' v') (T : tH (fun k => F' (1 + k)) (fun k => v' (1 + k)) s' X') (e : (s' 6 0 = σ.1.1 6 0 ∧ s' 6 1 = σ.1.1 6 1 ∧ s' 6 3 = v' 1 11 ∧ s' 6 4 = σ.1.1 6 4 ∧ s' 6 5 = σ.1.1 6 5) ∧ (∀ k, k < 6 → s' k = σ.1.1 k)) (b : below 9999 (s' 6 2)) (Z : cIv s' X' ∧ out0 s' X') : HR (n + 1) ((s', σ.1.2), X', σ.2.2) F' v' := by
  have A := R.2.2.1
  have I := R.1.up
  have e2 : v' 1 10 = s' 6 2 := T.1.2.2.1
  refine ⟨⟨⟨⟨by show below 8 (s' 6 0); rw [e.1.1]; exact I.1.1.1, by show below 7 (s' 6 1); rw [e.1.2.1]; exact I.1.1.2.1, b, by show below 50 (s' 6 4); rw [e.1.2.2.2.1]; exact I.1.1.2.2.2.1, by show below 20 (s' 6 5); rw [e.1.2.2.2.2]; exact I.1.1.2.2.2.2⟩, fun j hj => ?_⟩, I.2⟩, ⟨Z, R.2.1.2⟩, (E.agr rfl rfl).tr ⟨⟨⟨A.1.1.1.trans e.1.1.symm, A.1.1.2.1.trans e.1.2.1.symm, e2, e.1.2.2.1.symm, A.1.1.2.2.2.2.1.trans e.1.2.2.2.1.symm, A.1.1.2.2.2.2.2.trans e.1.2.2.2.2.symm⟩, ?_, ?_, ?_, ?_⟩, A.2⟩, ⟨?_, ?_⟩, ?_, ?_, ⟨T.2.2.2.1, T.1.2.2.2, T.2.2.2.2⟩, ?_⟩
  · have hj : j < nat (s' 6 1) := hj
    rw [e.1.2.1] at hj
    show below 6 (s' 2 j)
    rw [e.2 2 (by decide)]
    exact I.1.2 j hj
  · show ∀ j, j < nat (v 1 2) → F 2 j = s' 0 j ∧ F 3 j = s' 1 j
    rw [e.2 0 (by decide), e.2 1 (by decide)]; exact A.1.2.1
  · show ∀ j, j < nat (v 1 8) → F 4 j = s' 2 j ∧ F 5 j = s' 3 j
    rw [e.2 2 (by decide), e.2 3 (by decide)]; exact A.1.2.2.1
  · show ∀ j, j < nat (v 1 14) → F 16 j = s' 4 j
    rw [e.2 4 (by decide)]; exact A.1.2.2.2.1
  · show ∀ j, j < nat (v 1 16) → F 17 j = s' 5 j
    rw [e.2 5 (by decide)]; exact A.1.2.2.2.2
  · rw [E.2 10 1 rfl]; exact R.2.2.2.1.1
  · rw [E.2 13 1 rfl]; exact R.2.2.2.1.2
  · rw [E.2 28 1 rfl]; exact R.2.2.2.2.1
  · rw [E.2 31 1 rfl]; exact R.2.2.2.2.2.1
  · rw [E.X2]
    exact R.z.2
set_option maxRecDepth 100000 in
theorem HX_call (n : Nat) (σ : xZ) (F v : xS) (R : HR n σ F v) (m s : Int32) {K : xKo} (h : hKy n (y_call m s σ) (z_call m s σ) K) : C_H_call [.ref 0, .int m, .int s] (xfill F v 0 wH0) K := by
  have b9 : below 9999 (v 1 10) := R.J.1.1.2.2.1
  have e10 : v 1 10 = σ.1.1 6 2 := R.n1.2.2.1
  refine xM_go rfl 200 [] fun P hP => ?_
  refine xcall (sp_isBelow _ _ (fun a1 => ?_) (fun a1 => ?_))
  · refine br_c (fun _ => ?_) (fun z => absurd rfl z)
    refine xcall (sp_errH F v 1 (by decide) ?_)
    exact R.no h _ (if_neg fun z => a1 z.1.1) (if_neg fun z => a1 z.1)
  refine br_c (fun z => absurd z (by decide)) (fun _ => ?_)
  refine xcall (sp_isSteps _ (fun a2 => ?_) (fun a2 => ?_))
  · refine br_n (fun z => absurd rfl z) (fun _ => ?_)
    refine xcall (sp_errH F v 1 (by decide) ?_)
    exact R.no h _ (if_neg fun z => a2 z.1.2) (if_neg fun z => a2 z.2)
  refine br_n (fun _ => ?_) (fun z => absurd z (by decide))
  refine br_c (fun a3 => ?_) (fun a3 => ?_)
  · have a4 : nat (v 1 10) < 9999 := (natlt (n := 9999) b9 (by omega) (by omega)).mp a3
    rw [e10] at a4 b9
    unfold y_call z_call at h
    rw [if_pos ⟨⟨a1, a2⟩, a4⟩, if_pos ⟨a1, a2⟩, if_pos a4] at h
    obtain ⟨u, hu, rfl, -⟩ := nI_ofx s (n := 10) a2 (by decide)
    refine xcall (sx_play (fun k => F (1 + k)) (fun k => v (1 + k)) σ.1.1 σ.2.1 R.t R.c m u (by omega) (fun G w E T' => ?_))
    refine h (upS 1 F G) (upS 1 v w) (R.play (hQ.up1 E) T' ⟨⟨rfl, rfl, ?_, rfl, rfl⟩, fun k hk => if_neg (by omega)⟩ (b9.inc a4 (by omega)).1 ⟨R.c.play, R.2.1.1.2.play⟩)
    show σ.1.1 6 3 = w 0 11
    rw [E.2 0 11 rfl]
    exact R.n1.2.2.2.1.symm
  · have a4 : ¬ nat (σ.1.1 6 2) < 9999 := fun z => a3 ((natlt (n := 9999) b9 (by omega) (by omega)).mpr (by rw [e10]; exact z))
    refine xcall (sp_errH F v 3 (by decide) ?_)
    exact R.no h _ (if_neg fun z => a4 z.2) ((if_pos ⟨a1, a2⟩).trans (if_neg a4))
theorem rdA_congr {u : Int32} {y y' : Nat → Int32} : ∀ (d i : Nat) (s : rdU), (∀ k, i ≤ k → k < i + d → y k = y' k) → rdA u y d i s = rdA u y' d i s := by
  intro d
  induction d with
  | zero => intro i s _; rfl
  | succ d ih =>
    intro i s h
    unfold rdA
    rw [h i (Nat.le_refl i) (by omega)]
    cases rdS u (y' i) s.1 s.2.1 s.2.2 with
    | none => rfl
    | some s2 => exact ih (i + 1) s2 (fun k a l => h k (by omega) (by omega))
theorem rdF_congr {u : Int32} {y y' : Nat → Int32} {n : Nat} (h : ∀ k, k < n → y k = y' k) : rdF u y n = rdF u y' n := by
  unfold rdF
  rw [rdA_congr n 0 rd0 (fun k _ l => h k (by omega))]
theorem rdA_le {u : Int32} {y : Nat → Int32} : ∀ (d i : Nat) (s : rdU), (rdA u y d i s).1 ≤ i + d := by
  intro d
  induction d with
  | zero => intro i s; exact Nat.le_refl i
  | succ d ih =>
    intro i s
    unfold rdA
    cases rdS u (y i) s.1 s.2.1 s.2.2 with
    | none => exact Nat.le_add_right i (d + 1)
    | some s2 =>
      have q := ih (i + 1) s2
      show (rdA u y d (i + 1) s2).1 ≤ i + (d + 1)
      omega
theorem rdF_le {u : Int32} {y : Nat → Int32} {n : Nat} : (rdF u y n).2 ≤ n := by
  have q := rdA_le (u := u) (y := y) n 0 rd0
  unfold rdF
  obtain ⟨r, er⟩ : ∃ r, r = rdA u y n 0 rd0 := ⟨_, rfl⟩
  rw [← er] at q ⊢
  obtain ⟨i, s⟩ := r
  cases s with
  | none => have q : i ≤ 0 + n := q; show i ≤ n; omega
  | some s => exact Nat.le_refl n
/-- the code of a text gives what the text gives -/
theorem code_L {u : Int32} {y : Nat → Int32} {n : Nat} (hn : n ≤ 50) {cc : List Int32} {q : Nat} (e : rdF u y n = (some cc, q)) {code : Nat → Int32} (hc : ∀ j, j < cc.length → code j = cc.getD j 0) (l : cc.length ≤ 50) : hLw code (nI cc.length) (nwL u y n) := by
  have pu : ∀ a b c, pushes a b c cc (grG u a b c (bY y n) 60 5 0 0).1 := by
    intro a b c
    have B := both_read (u := u) (y := y) hn a b c
    by_cases g : (grG u a b c (bY y n) 60 5 0 0).2.2 = true ∧ (grG u a b c (bY y n) 60 5 0 0).2.1 = n
    · obtain ⟨c2, e2, p, -⟩ := B.1 g
      rw [e] at e2
      have e3 : cc = c2 := Option.some.inj (Prod.mk.inj e2).1
      rw [e3]
      exact p
    · have z := B.2 g
      rw [e] at z
      exact absurd (Prod.mk.inj z).1 (by intro h; cases h)
  refine ⟨cc.length, l, rfl, fun z => ?_, fun _ a b c S => ?_⟩
  · exact absurd z (by have := (pu 0 0 0).ne l; omega)
  · have p := pu a b c (S, 0) (by show 0 + cc.length ≤ 50; omega)
    have er : evRun a b c code cc.length 0 (S, 0) = evL a b c cc (S, 0) := evRun_L cc 0 (S, 0) (fun j hj => by rw [Nat.zero_add]; exact hc j hj)
    unfold evGives
    rw [er, evPop_ok (k := 0) p.1]
    show clamp1 ((evL a b c cc (S, 0)).1 0) = clamp1 _
    rw [show (evL a b c cc (S, 0)).1 0 = (grG u a b c (bY y n) 60 5 0 0).1 from p.2.1]
set_option maxRecDepth 100000 in
theorem HX_text (n : Nat) (σ : xZ) (F v : xS) (R : HR n σ F v) (u : Int32) {K : xKo} (h : hKy n (y_text u σ) (z_text u σ) K) : C_H_text [.ref 0, .int u] (xfill F v 0 wH0) K := by
  obtain ⟨n0, h0, e0⟩ := R.2.2.2.1.1
  obtain ⟨n1, h1, e1⟩ := R.2.2.2.1.2
  obtain ⟨z1, z2, z3, z4⟩ := R.z.1
  refine xM_go rfl 100 [] fun P hP => ?_
  refine xcall (sp_isBelow _ _ (fun a1 => ?_) (fun a1 => ?_))
  · refine br_n (fun z => absurd rfl z) (fun _ => ?_)
    refine xcall (sp_errH F v 1 (by decide) ?_)
    exact R.no h _ (if_neg a1) (if_neg a1)
  refine br_n (fun _ => ?_) (fun z => absurd z (by decide))
  have a1 : xin u 2 := a1
  have hu : u = 0 ∨ u = 1 := by
    obtain ⟨j, hj, rfl, -⟩ := nI_ofx u (n := 2) a1 (by decide)
    rcases (show j = 0 ∨ j = 1 by omega) with e | e
    all_goals subst e
    · exact Or.inl rfl
    · exact Or.inr rfl
  obtain ⟨nb, hb, eb⟩ : below 50 (v 1 14) := R.J.1.1.2.2.2.1
  have e14 : v 1 14 = σ.1.1 6 4 := R.n1.2.2.2.2.1
  have ebn : nat (σ.1.1 6 4) = nb := by rw [← e14, eb]; exact nI_clamp (by omega)
  have tp : ∀ k, k < nb → F 16 k = σ.1.1 4 k := fun k hk => R.2.2.1.1.2.2.2.1 k (by show k < nat (v 1 14); rw [e14, ebn]; exact hk)
  have er : rdF u (F 16) nb = rdF u (σ.1.1 4) nb := rdF_congr tp
  unfold y_text z_text at h
  rw [if_pos a1, if_pos a1, ebn] at h
  obtain ⟨r, hr⟩ : ∃ r, r = rdF u (σ.1.1 4) nb := ⟨_, rfl⟩
  rw [← hr] at h er
  have A0 := R.2.2.1
  have AG : agr (va_up (hA F v).1 6 (upd ((hA F v).1 6) 4 0), (hA F v).2) (va_up σ.1.1 6 (upd (σ.1.1 6) 4 0), σ.1.2) := by
    have q := pg_text A0 u
    rw [show g_text u (hA F v) = _ from if_pos a1, show g_text u σ.1 = _ from if_pos a1] at q
    exact q
  have IG : aIv (n + 1) (va_up σ.1.1 6 (upd (σ.1.1 6) 4 0), σ.1.2) := by
    have q := (pi_text R.1 u).up
    rw [show g_text u σ.1 = _ from if_pos a1] at q
    exact q
  have ZG : ∀ X' : xXt, X'.1 = σ.2.1.1 → X'.2.1 = σ.2.1.2.1 → zIv ((va_up σ.1.1 6 (upd (σ.1.1 6) 4 0), σ.1.2), X', σ.2.2) := by
    intro X' x1 x2
    obtain ⟨⟨⟨a, b, c, d, e, f⟩, o⟩, k⟩ := R.2.1
    refine ⟨⟨⟨a, b, c, ?_, ?_, ?_⟩, ?_⟩, k⟩
    · show ∀ j, j < nat (σ.1.1 6 1) → below 11 (X'.1 0 j)
      rw [x1]; exact d
    · show ∀ j, j < 7 → below 999 (X'.1 1 j) ∧ below 999 (X'.1 2 j)
      rw [x1]; exact e
    · show X'.2.1 = -1 ∨ ∃ c, c < nat (σ.1.1 6 1) ∧ X'.2.1 = nI c
      rw [x2]; exact f
    · show ∀ j, nat (σ.1.1 6 1) ≤ j → j < 7 → X'.1 1 j = 0 ∧ X'.1 2 j = 0
      rw [x1]; exact o
  have fk : ∀ K2 : xKo, (r.1 = none → ∀ G w, rI w → K2 (some (.int (nI r.2))) (xfill G w 0 (wR0 0) ++ [.inl (50, F 16)])) → (∀ c, r.1 = some c → ∀ G w, rI w → cdR G w c → K2 (some (.int (-1))) (xfill G w 0 (wR0 0) ++ [.inl (50, F 16)])) → C_R_faultOf [.ref 0, .ref 3, .int (v 1 14), .int u] (xfill (fun k => F (55 + k)) (fun k => v (55 + k)) 0 (wR0 0) ++ [.inl (50, F 16)]) K2 := by
    intro K2 k0 k1
    rw [← er] at k0 k1
    rw [eb]
    exact sx_faultOf (fun k => F (55 + k)) (fun k => v (55 + k)) (F 16) nb hb u hu k0 k1
  refine xcall (fk _ (fun en G w RI => ?_) (fun cc ec G w RI CD => ?_))
  · have l50 : r.2 ≤ 50 := by rw [hr]; exact Nat.le_trans rdF_le hb
    refine br_c (fun z => ?_) (fun _ => ?_)
    · have z : nI r.2 = -1 := z
      have q := congrArg Int32.toInt z
      rw [nI_toInt (by omega), show (-1 : Int32).toInt = -1 by decide] at q
      omega
    have ea : txA r = -10 - nI r.2 := by
      obtain ⟨r1, r2⟩ := r
      have en : r1 = none := en
      subst en
      rfl
    have ex : txX u (σ.1.1 4) nb σ.2.1 r = σ.2.1 := by
      obtain ⟨r1, r2⟩ := r
      have en : r1 = none := en
      subst en
      rfl
    rw [ea, ex] at h
    exact xgenP (K := K) (P := fun F' v' => HR (n + 1) ((va_up σ.1.1 6 (upd (σ.1.1 6) 4 0), σ.1.2), σ.2.1, σ.2.2) F' v') (fun F' v' p => h F' v' p) (by rfl) (by exact ⟨IG, ZG _ rfl rfl, (show agr _ (va_up (hA F v).1 6 (upd ((hA F v).1 6) 4 0), (hA F v).2) from ⟨⟨⟨rfl, rfl, rfl, rfl, rfl, rfl⟩, fun _ _ => ⟨rfl, rfl⟩, fun _ _ => ⟨rfl, rfl⟩, fun _ _ => rfl, fun _ _ => rfl⟩, ⟨⟨fun _ _ => rfl, fun _ _ => rfl, fun _ _ => rfl, fun _ _ => rfl⟩, ⟨⟨rfl, rfl, rfl, rfl⟩, rfl, rfl, rfl, rfl⟩, ⟨rfl, rfl⟩, fun _ _ => rfl⟩, fun _ => ⟨⟨rfl, rfl, rfl, rfl, rfl, rfl⟩, fun _ _ => ⟨rfl, rfl⟩, fun _ _ => ⟨rfl, rfl⟩, fun _ _ => rfl, fun _ _ => rfl⟩⟩).tr AG, ⟨⟨n0, h0, e0⟩, ⟨n1, h1, e1⟩⟩, R.2.2.2.2.1, R.2.2.2.2.2.1, ⟨z1, z2, z3, z4⟩, R.z.2⟩)
  · have ea : txA r = 1 := by
      obtain ⟨r1, r2⟩ := r
      have ec : r1 = some cc := ec
      subst ec
      rfl
    have ex : txX u (σ.1.1 4) nb σ.2.1 r = (σ.2.1.1, σ.2.1.2.1, fun k => if k = nat u then nwL u (σ.1.1 4) nb else σ.2.1.2.2 k) := by
      obtain ⟨r1, r2⟩ := r
      have ec : r1 = some cc := ec
      subst ec
      rfl
    rw [ea, ex] at h
    have eF : rdF u (σ.1.1 4) nb = (some cc, r.2) := by rw [← hr, ← ec]
    obtain ⟨cm, cl, cg⟩ := CD
    refine br_c (fun _ => ?_) (fun z => absurd rfl z)
    refine ⟨vin a1, ⟨fun eu => ?_, ⟨fun eu => ?_, trivial⟩⟩⟩
    · have eu : u = 0 := eu
      have nu : nat u = 0 := by rw [eu]; decide
      rw [nu] at h
      refine xcall (sp_adopt (fun k => F (10 + k)) (fun k => v (10 + k)) (G 1) cc.length cl cm ?_)
      have LN : hLw (va_cpy (G 1) (F 11) 0 0 cc.length) (nI cc.length) (nwL u (σ.1.1 4) nb) := code_L hb eF (fun j hj => (cpy0 hj).trans (cg j hj)) cl
      exact xgenP (K := K) (P := fun F' v' => HR (n + 1) ((va_up σ.1.1 6 (upd (σ.1.1 6) 4 0), σ.1.2), (σ.2.1.1, σ.2.1.2.1, fun k => if k = 0 then nwL u (σ.1.1 4) nb else σ.2.1.2.2 k), σ.2.2) F' v') (fun F' v' p => h F' v' p) (by rfl) (by exact ⟨IG, ZG _ rfl rfl, (show agr _ (va_up (hA F v).1 6 (upd ((hA F v).1 6) 4 0), (hA F v).2) from ⟨⟨⟨rfl, rfl, rfl, rfl, rfl, rfl⟩, fun _ _ => ⟨rfl, rfl⟩, fun _ _ => ⟨rfl, rfl⟩, fun _ _ => rfl, fun _ _ => rfl⟩, ⟨⟨fun _ _ => rfl, fun _ _ => rfl, fun _ _ => rfl, fun _ _ => rfl⟩, ⟨⟨rfl, rfl, rfl, rfl⟩, rfl, rfl, rfl, rfl⟩, ⟨rfl, rfl⟩, fun _ _ => rfl⟩, fun _ => ⟨⟨rfl, rfl, rfl, rfl, rfl, rfl⟩, fun _ _ => ⟨rfl, rfl⟩, fun _ _ => ⟨rfl, rfl⟩, fun _ _ => rfl, fun _ _ => rfl⟩⟩).tr AG, ⟨⟨cc.length, cl, rfl⟩, ⟨n1, h1, e1⟩⟩, R.2.2.2.2.1, R.2.2.2.2.2.1, ⟨z1, z2, LN, z4⟩, R.z.2⟩)
    · have eu : u = 1 := eu
      have nu : nat u = 1 := by rw [eu]; decide
      rw [nu] at h
      refine xcall (sp_adopt (fun k => F (13 + k)) (fun k => v (13 + k)) (G 1) cc.length cl cm ?_)
      have LN : hLw (va_cpy (G 1) (F 14) 0 0 cc.length) (nI cc.length) (nwL u (σ.1.1 4) nb) := code_L hb eF (fun j hj => (cpy0 hj).trans (cg j hj)) cl
      exact xgenP (K := K) (P := fun F' v' => HR (n + 1) ((va_up σ.1.1 6 (upd (σ.1.1 6) 4 0), σ.1.2), (σ.2.1.1, σ.2.1.2.1, fun k => if k = 1 then nwL u (σ.1.1 4) nb else σ.2.1.2.2 k), σ.2.2) F' v') (fun F' v' p => h F' v' p) (by rfl) (by exact ⟨IG, ZG _ rfl rfl, (show agr _ (va_up (hA F v).1 6 (upd ((hA F v).1 6) 4 0), (hA F v).2) from ⟨⟨⟨rfl, rfl, rfl, rfl, rfl, rfl⟩, fun _ _ => ⟨rfl, rfl⟩, fun _ _ => ⟨rfl, rfl⟩, fun _ _ => rfl, fun _ _ => rfl⟩, ⟨⟨fun _ _ => rfl, fun _ _ => rfl, fun _ _ => rfl, fun _ _ => rfl⟩, ⟨⟨rfl, rfl, rfl, rfl⟩, rfl, rfl, rfl, rfl⟩, ⟨rfl, rfl⟩, fun _ _ => rfl⟩, fun _ => ⟨⟨rfl, rfl, rfl, rfl, rfl, rfl⟩, fun _ _ => ⟨rfl, rfl⟩, fun _ _ => ⟨rfl, rfl⟩, fun _ _ => rfl, fun _ _ => rfl⟩⟩).tr AG, ⟨⟨n0, h0, e0⟩, ⟨cc.length, cl, rfl⟩⟩, R.2.2.2.2.1, R.2.2.2.2.2.1, ⟨z1, z2, z3, LN⟩, R.z.2⟩)
