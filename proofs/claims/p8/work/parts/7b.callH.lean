/-! ===== the tried side: calls, exactly ===== -/
/-- a code and its size give what L says -/
def hLw (code : Nat → Int32) (z : Int32) (L : xLw) : Prop := ∃ n, n ≤ 50 ∧ z = nI n ∧ (n = 0 → ∀ a b c, L a b c = 1) ∧ (¬ n = 0 → ∀ a b c S, (evGives a b c code n S).1 = L a b c)
def tH (F v : xS) (s : xS) (X : xXt) : Prop := (v 0 2 = s 6 0 ∧ v 0 8 = s 6 1 ∧ v 0 10 = s 6 2 ∧ v 0 9 = X.2.1) ∧ (∀ j, j < nat (s 6 0) → F 1 j = s 0 j ∧ F 2 j = s 1 j) ∧ (∀ j, j < nat (s 6 1) → F 3 j = s 2 j ∧ F 4 j = s 3 j) ∧ (∀ j, j < 7 → F 5 j = X.1 0 j ∧ F 6 j = X.1 1 j ∧ F 7 j = X.1 2 j) ∧ hLw (F 10) (v 9 1) (X.2.2 0) ∧ hLw (F 13) (v 12 1) (X.2.2 1)
theorem tH.e {F v F' v' s : xS} {X : xXt} (T : tH F v s X) (E : tR aE bE F v F' v') : tH F' v' s X := by
  obtain ⟨⟨a1, a2, a3, a4⟩, b, c, d, l0, l1⟩ := T
  refine ⟨⟨(E.2 0 2 rfl).trans a1, (E.2 0 8 rfl).trans a2, (E.2 0 10 rfl).trans a3, (E.2 0 9 rfl).trans a4⟩, ?_, ?_, ?_, ?_, ?_⟩
  · rw [E.1 1 rfl, E.1 2 rfl]; exact b
  · rw [E.1 3 rfl, E.1 4 rfl]; exact c
  · rw [E.1 5 rfl, E.1 6 rfl, E.1 7 rfl]; exact d
  · rw [E.1 10 rfl, E.2 9 1 rfl]; exact l0
  · rw [E.1 13 rfl, E.2 12 1 rfl]; exact l1
def aG (k : Nat) : Bool := k == 11 || k == 14
theorem tR.ge {F v F' v' : xS} (h : tR aG bE F v F' v') : tR aE bE F v F' v' := h.wd (fun k z => by simp only [aG, aE, Bool.or_eq_false_iff] at z ⊢; exact z.1) (fun k j z => z)
theorem nat_nI {n : Nat} (h : n < 2 ^ 31) : Int32.toNatClampNeg (nI n) = n := nI_clamp h
def fmV (a : Int32) : Int32 := if 0 ≤ a ^^^ 12 then a - a / 12 * 12 else if a - a / 12 * 12 = 0 then a - a / 12 * 12 else a - a / 12 * 12 + 12
theorem sx_floorMod (a : Int32) {K : xKo} (h : K (some (.int (fmV a))) []) : C_A_floorMod [.int a, .int 12] [] K := by
  unfold fmV at h
  refine xM_go rfl 40 [] fun P hP => ?_
  refine ⟨by decide, ?_⟩
  refine br_c (fun z => ?_) (fun z => ?_)
  · have z : 0 ≤ a ^^^ 12 := z
    rw [if_pos z] at h
    exact h
  have z : ¬ 0 ≤ a ^^^ 12 := z
  rw [if_neg z] at h
  refine br_c (fun y => ?_) (fun y => ?_)
  · have y : a - a / 12 * 12 = 0 := y
    rw [if_pos y] at h
    exact h
  · have y : ¬ a - a / 12 * 12 = 0 := y
    rw [if_neg y] at h
    exact h
theorem fm_up {a t : Nat} (ha : a < 12) (ht : t < 12) : fmV (nI t - nI a) = nI ((t + 12 - a) % 12) := by
  have q : ∀ (a t : Fin 12), fmV (nI t.val - nI a.val) = nI ((t.val + 12 - a.val) % 12) := by decide +kernel
  exact q ⟨a, ha⟩ ⟨t, ht⟩
theorem fm_add {a w : Nat} (ha : a < 12) (hw : w ≤ 6) : fmV (nI a + nI w) = nI ((a + w) % 12) := by
  have q : ∀ (a : Fin 12) (w : Fin 7), fmV (nI a.val + nI w.val) = nI ((a.val + w.val) % 12) := by decide +kernel
  exact q ⟨a, ha⟩ ⟨w, by omega⟩
theorem fm_sub {a w : Nat} (ha : a < 12) (hw : w ≤ 6) : fmV (nI a - nI w) = nI ((a + 12 - w) % 12) := by
  have q : ∀ (a : Fin 12) (w : Fin 7), fmV (nI a.val - nI w.val) = nI ((a.val + 12 - w.val) % 12) := by decide +kernel
  exact q ⟨a, ha⟩ ⟨w, by omega⟩
def cof (a b : Int32) : Int32 := if (if 0 ≤ a - b then a - b else -(a - b)) ≤ 12 - (if 0 ≤ a - b then a - b else -(a - b)) then (if 0 ≤ a - b then a - b else -(a - b)) else 12 - (if 0 ≤ a - b then a - b else -(a - b))
theorem cof_nI {a b : Nat} (ha : a < 12) (hb : b < 12) : cof (nI a) (nI b) = nI (offN a b) := by
  have q : ∀ (a b : Fin 12), cof (nI a.val) (nI b.val) = nI (offN a.val b.val) := by decide +kernel
  exact q ⟨a, ha⟩ ⟨b, hb⟩
theorem sx_cellsOff (a b : Int32) (x y : Nat) (hx : x < 12) (hy : y < 12) (ea : a = nI x) (eb : b = nI y) {K : xKo} (h : K (some (.int (nI (offN x y)))) []) : C_T_cellsOff [.int a, .int b] [] K := by
  subst ea
  subst eb
  rw [← cof_nI hx hy] at h
  refine xM_go rfl 60 [] fun P hP => ?_
  refine xcall (sp_abs _ ?_)
  refine xcall (sp_min _ _ ?_)
  exact h
theorem b12 {x : Int32} (h : below 11 x) : ∃ k, k < 12 ∧ x = nI k := by
  obtain ⟨k, hk, e⟩ := h
  exact ⟨k, by omega, e⟩
set_option maxRecDepth 100000 in
theorem sx_goalOf (F v s : xS) (X : xXt) (T : tH F v s X) (I : cIv s X) (c : Nat) (hc : c < nat (s 6 1)) (m : Int32) {K : xKo} (h : ∀ F' v', tR aG bE F v F' v' → K (some (.int (eGoal s X c m))) (xfill F' v' 0 (wT0 0))) : C_T_goalOf [.ref 0, .int (nI c), .int m] (xfill F v 0 (wT0 0)) K := by
  obtain ⟨n, hn, en⟩ := I.1.1
  obtain ⟨nc, hnc, enc⟩ := I.1.2
  have enn : nat (s 6 0) = n := by rw [en]; exact nI_clamp (by omega)
  have hc7 : c < 7 := by
    rw [enc, show nat (nI nc) = nc from nI_clamp (by omega)] at hc
    omega
  have ec : Int32.toNatClampNeg (nI c) = c := nI_clamp (by omega)
  have bc : vp_in (nI c) 7 := vp_in_nI hc7 (by omega)
  obtain ⟨x, hx, ex⟩ := b12 (I.2.2.2.1 c hc)
  have key : ∀ (d i : Nat) (g nr : Int32) (F' v' : xS), i + d = n → tR aG bE F v F' v' → (∀ F2 v2, tR aG bE F v F2 v2 → K (some (.int (gLp s X c m d i g nr))) (xfill F2 v2 0 (wT0 0))) → xWP pg_T_goalOf K 14 [(0, .ref 0), (1, .int (nI c)), (2, .int m), (3, .int g), (4, .int nr), (5, .int (nI i))] [] (xfill F' v' 0 (wT0 0)) (0, 0) := by
    intro d
    induction d with
    | zero =>
      intro i g nr F' v' hi E hk
      have e : v' 0 2 = nI n := (E.2 0 2 rfl).trans (T.1.1.trans en)
      have hi : i = n := hi
      subst hi
      refine xWP_go 100 [(14, [0, 1, 2, 3, 4, 5])] fun P hP => ?_
      refine br_c (fun _ => hk _ _ E) (fun z => absurd (by show v' 0 2 ≤ nI i; rw [e]; exact nI_le (Nat.le_refl _) (by omega)) z)
    | succ d ih =>
      intro i g nr F' v' hi E hk
      have e : v' 0 2 = nI n := (E.2 0 2 rfl).trans (T.1.1.trans en)
      have T' := T.e E.ge
      have hi8 : i < nat (s 6 0) := by omega
      have ei : Int32.toNatClampNeg (nI i) = i := nI_clamp (by omega)
      obtain ⟨y, hy, ey⟩ := b12 (I.2.1 i hi8).1
      have e1 : F' 1 (Int32.toNatClampNeg (nI i)) = nI y := by rw [ei, (T'.2.1 i hi8).1]; exact ey
      have e2 : F' 2 (Int32.toNatClampNeg (nI i)) = s 1 i := by rw [ei]; exact (T'.2.1 i hi8).2
      have e4 : F' 4 (Int32.toNatClampNeg (nI c)) = s 3 c := by rw [ec]; exact (T'.2.2.1 c hc).2
      have e5 : F' 5 (Int32.toNatClampNeg (nI c)) = nI x := by rw [ec, (T'.2.2.2.1 c hc7).1]; exact ex
      have eo : off (X.1 0 c) (s 0 i) = nI (offN x y) := by rw [ex, ey]; exact off_nI hx hy
      have eg : gLp s X c m (d + 1) i g nr = if (mk (s 1 i) m ∧ nI (offN x y) < nr) ∧ ¬ X.2.2 0 (nI (offN x y)) m (s 3 c) = 0 then gLp s X c m d (i + 1) (nI i) (nI (offN x y)) else gLp s X c m d (i + 1) g nr := by
        rw [← eo]
        rfl
      rw [eg] at hk
      refine xWP_go 100 [(14, [0, 1, 2, 3, 4, 5])] fun P hP => ?_
      refine br_c (fun z => ?_) (fun _ => ?_)
      · have z : v' 0 2 ≤ nI i := z
        rw [e] at z
        exact absurd z (nI_ge (by omega) (by omega))
      have nx : ∀ (g nr : Int32) (F2 v2 : xS), tR aG bE F' v' F2 v2 → (∀ F3 v3, tR aG bE F v F3 v3 → K (some (.int (gLp s X c m d (i + 1) g nr))) (xfill F3 v3 0 (wT0 0))) → xWP pg_T_goalOf K 14 [(0, .ref 0), (1, .int (nI c)), (2, .int m), (3, .int g), (4, .int nr), (5, .int (nI i + 1))] [] (xfill F2 v2 0 (wT0 0)) (0, 0) := by
        intro g nr F2 v2 E2 hk2
        rw [nI_1]
        exact ih (i + 1) g nr F2 v2 (by omega) (E.tr E2) hk2
      have bi : vp_in (nI i) 8 := vp_in_nI (by omega) (by omega)
      refine ⟨bc, ?_⟩
      refine ⟨bi, ?_⟩
      refine xcall (sx_cellsOff _ _ x y hx hy e5 e1 ?_)
      refine ⟨bi, ?_⟩
      refine xcall (sp_isIn _ _ (fun z1 => ?_) (fun z1 => ?_))
      · have z1 : ¬ mk (F' 2 (Int32.toNatClampNeg (nI i))) m := z1
        rw [e2] at z1
        rw [if_neg (fun z => z1 z.1.1)] at hk
        refine br_c (fun _ => ?_) (fun z => absurd rfl z)
        refine hP _ _ _ _ _ ?_
        exact nx _ _ _ _ tR.rf hk
      have z1 : mk (F' 2 (Int32.toNatClampNeg (nI i))) m := z1
      rw [e2] at z1
      refine br_c (fun z => absurd z (by decide)) (fun _ => ?_)
      refine br_c (fun z2 => ?_) (fun z2 => ?_)
      · have z2 : nr ≤ nI (offN x y) := z2
        rw [if_neg (fun z => by have q := z.1.2; rw [xlt] at q; rw [xle] at z2; omega)] at hk
        refine hP _ _ _ _ _ ?_
        exact nx _ _ _ _ tR.rf hk
      have z2 : ¬ nr ≤ nI (offN x y) := z2
      have z3 : nI (offN x y) < nr := by rw [xlt]; rw [xle] at z2; omega
      refine ⟨vin (by decide), ⟨fun _ => ?_, ⟨fun a => absurd a (by decide), trivial⟩⟩⟩
      refine ⟨bc, ?_⟩
      obtain ⟨n0, h0, e0, w0, w1⟩ := T'.2.2.2.2.1
      refine xcall (sp_gives (fun k => F' (9 + k)) (fun k => v' (9 + k)) (nI (offN x y)) m _ n0 h0 e0 (fun z => ?_) (fun z => ?_))
      · rw [if_pos ⟨⟨z1, z3⟩, by rw [w0 z]; decide⟩] at hk
        refine br_c (fun z => absurd z (by decide)) (fun _ => ?_)
        refine hP _ _ _ _ _ ?_
        exact nx _ _ _ _ tR.rf hk
      · have ew := w1 z (nI (offN x y)) m (s 3 c) (F' 11)
        rw [← e4] at ew
        refine br_c (fun y0 => ?_) (fun y0 => ?_)
        · have y0 : (evGives (nI (offN x y)) m (F' 4 (Int32.toNatClampNeg (nI c))) (F' 10) n0 (F' 11)).1 = 0 := y0
          rw [ew, e4] at y0
          rw [if_neg (fun z => z.2 y0)] at hk
          refine hP _ _ _ _ _ ?_
          exact nx _ _ (va_up F' 11 _) (va_up v' 9 (va_up (v' 9) 3 _)) ((tR.rf.fu rfl).vu rfl) hk
        · have y0 : ¬ (evGives (nI (offN x y)) m (F' 4 (Int32.toNatClampNeg (nI c))) (F' 10) n0 (F' 11)).1 = 0 := y0
          rw [ew, e4] at y0
          rw [if_pos ⟨⟨z1, z3⟩, y0⟩] at hk
          refine hP _ _ _ _ _ ?_
          exact nx _ _ (va_up F' 11 _) (va_up v' 9 (va_up (v' 9) 3 _)) ((tR.rf.fu rfl).vu rfl) hk
  have ef : farV (F 3 (Int32.toNatClampNeg (nI c))) (F 4 (Int32.toNatClampNeg (nI c))) = farV (s 2 c) (s 3 c) := by rw [ec, (T.2.2.1 c hc).1, (T.2.2.1 c hc).2]
  unfold eGoal at h
  rw [enn, ← ef] at h
  refine xM_go rfl 100 [(14, [0, 1, 2, 3, 4, 5])] fun P hP => ?_
  refine xcall (sp_far F v (nI c) bc ?_)
  refine hP _ _ _ _ _ ?_
  exact key n 0 _ _ F v (by omega) tR.rf h
set_option maxRecDepth 100000 in
theorem sx_endOf (F v s : xS) (X : xXt) (T : tH F v s X) (I : cIv s X) (c : Nat) (hc : c < nat (s 6 1)) (m : Int32) (u : Nat) (hu : u < 10) {K : xKo} (h : ∀ F' v', tR aG bE F v F' v' → K (some (.int (eEnd s X m (nI u) c))) (xfill F' v' 0 (wT0 0))) : C_T_endOf [.ref 0, .int (nI c), .int m, .int (nI u)] (xfill F v 0 (wT0 0)) K := by
  obtain ⟨n, hn, en⟩ := I.1.1
  obtain ⟨nc, hnc, enc⟩ := I.1.2
  have enn : nat (s 6 0) = n := by rw [en]; exact nI_clamp (by omega)
  have hc7 : c < 7 := by
    rw [enc, show nat (nI nc) = nc from nI_clamp (by omega)] at hc
    omega
  have ec : Int32.toNatClampNeg (nI c) = c := nI_clamp (by omega)
  have bc : vp_in (nI c) 7 := vp_in_nI hc7 (by omega)
  obtain ⟨x, hx, ex⟩ := b12 (I.2.2.2.1 c hc)
  unfold eEnd at h
  have fin : ∀ (F' v' : xS), tR aG bE F v F' v' → ¬ nI c = X.2.1 → xWP pg_T_endOf K 18 [(0, .ref 0), (1, .int (nI c)), (2, .int m), (3, .int (nI u))] [.int (eGoal s X c m)] (xfill F' v' 0 (wT0 0)) (0, 0) := by
    intro F' v' E nc
    have T' := T.e E.ge
    have e5 : F' 5 (Int32.toNatClampNeg (nI c)) = nI x := by rw [ec, (T'.2.2.2.1 c hc7).1]; exact ex
    refine xWP_go 100 [] fun P hP => ?_
    rcases eGoal_in (s := s) (X := X) (c := c) (b := m) with eg | ⟨k, hk, eg⟩
    · rw [if_pos (Or.inr (by rw [eg]; decide)), ex] at h
      rw [eg]
      refine br_c (fun a => absurd a (by decide)) (fun a => ?_)
      refine ⟨bc, ?_⟩
      have q := h _ _ E
      rw [← e5] at q
      exact q
    · have ek : Int32.toNatClampNeg (nI k) = k := nI_clamp (by omega)
      obtain ⟨y, hy, ey⟩ := b12 (I.2.1 k hk).1
      have e1 : F' 1 (Int32.toNatClampNeg (nI k)) = nI y := by rw [ek, (T'.2.1 k hk).1]; exact ey
      obtain ⟨p, hp, ep⟩ := paceV_le (cs := s 6 2) (it := X.2.1) (I.2.2.1 c hc).1 (I.2.2.1 c hc).2
      have pu : p * u ≤ 27 := Nat.le_trans (Nat.mul_le_mul hp (show u ≤ 9 by omega)) (by decide)
      have eP : paceV (F' 3 (Int32.toNatClampNeg (nI c))) (F' 4 (Int32.toNatClampNeg (nI c))) (v' 0 10) (v' 0 9) = nI p := by
        rw [ec, (T'.2.2.1 c hc).1, (T'.2.2.1 c hc).2, T'.1.2.2.1, T'.1.2.2.2]
        exact ep
      rw [if_neg (fun z => z.elim nc fun z => by rw [eg, xlt, nI_toInt (by omega), show (0 : Int32).toInt = 0 by decide] at z; omega), eg, show nat (nI k) = k from ek, ex, ey, ep, nI_mul, wlk_nI hx hy (by omega)] at h
      rw [eg]
      refine br_c (fun a => ?_) (fun a => absurd (nI_pos' (by omega)) a)
      refine ⟨vp_in_nI (by omega) (by omega), ?_⟩
      refine ⟨bc, ?_⟩
      have q := h _ _ E
      unfold wlkN at q
      obtain ⟨up, eup⟩ : ∃ up, up = (y + 12 - x) % 12 := ⟨_, rfl⟩
      have hup : up < 12 := by rw [eup]; exact Nat.mod_lt _ (by decide)
      have eoff : offN x y = if up ≤ 12 - up then up else 12 - up := by rw [eup]; rfl
      have eup2 : fmV (F' 1 (Int32.toNatClampNeg (nI k)) - F' 5 (Int32.toNatClampNeg (nI c))) = nI up := by rw [e1, e5, eup]; exact fm_up hx hy
      have edn : (12 : Int32) - nI up = nI (12 - up) := by
        have z : nI (12 - up) + nI up = 12 := by rw [nI_add, Nat.sub_add_cancel (by omega)]; rfl
        rw [← z, Int32.add_sub_cancel]
      obtain ⟨w, ew⟩ : ∃ w, w = if offN x y ≤ p * u then offN x y else p * u := ⟨_, rfl⟩
      have hw : w ≤ 6 := by
        have := offN_le (a := x) (b := y)
        rw [ew]
        split <;> omega
      rw [← eup, ← ew] at q
      have fmk : ∀ K2 : xKo, K2 (some (.int (nI up))) [] → C_A_floorMod [.int (F' 1 (Int32.toNatClampNeg (nI k)) - F' 5 (Int32.toNatClampNeg (nI c))), .int 12] [] K2 := by
        intro K2 k2
        rw [← eup2] at k2
        exact sx_floorMod _ k2
      refine xcall (fmk _ ?_)
      have mk1 : ∀ K2 : xKo, K2 (some (.int (nI (offN x y)))) [] → C_A_min [.int (nI up), .int (12 - nI up)] [] K2 := by
        intro K2 k2
        rw [eoff, ← min_nI (by omega) (by omega), ← edn] at k2
        exact sp_min _ _ k2
      refine xcall (mk1 _ ?_)
      have pk : ∀ K2 : xKo, K2 (some (.int (nI p))) (xfill F' v' 0 (wT0 0)) → C_T_pace [.ref 0, .int (nI c)] (xfill F' v' 0 (wT0 0)) K2 := by
        intro K2 k2
        rw [← eP] at k2
        exact sp_pace F' v' (nI c) bc k2
      refine xcall (pk _ ?_)
      have mk2 : ∀ K2 : xKo, K2 (some (.int (nI w))) [] → C_A_min [.int (nI (offN x y)), .int (nI p * nI u)] [] K2 := by
        intro K2 k2
        have := offN_le (a := x) (b := y)
        rw [ew, ← min_nI (by omega) (by omega), ← nI_mul] at k2
        exact sp_min _ _ k2
      refine xcall (mk2 _ ?_)
      refine br_c (fun z => ?_) (fun z => ?_)
      · have z : 12 - nI up < nI up := z
        rw [edn, nI_ltI (by omega) (by omega)] at z
        rw [if_neg (by omega)] at q
        refine ⟨bc, ?_⟩
        have fk : ∀ K2 : xKo, K2 (some (.int (nI ((x + 12 - w) % 12)))) [] → C_A_floorMod [.int (F' 5 (Int32.toNatClampNeg (nI c)) - nI w), .int 12] [] K2 := by
          intro K2 k2
          rw [← fm_sub hx hw] at k2
          rw [e5]
          exact sx_floorMod _ k2
        refine xcall (fk _ ?_)
        exact q
      · have z : ¬ 12 - nI up < nI up := z
        rw [edn, nI_ltI (by omega) (by omega)] at z
        rw [if_pos (by omega)] at q
        refine ⟨bc, ?_⟩
        have fk : ∀ K2 : xKo, K2 (some (.int (nI ((x + w) % 12)))) [] → C_A_floorMod [.int (F' 5 (Int32.toNatClampNeg (nI c)) + nI w), .int 12] [] K2 := by
          intro K2 k2
          rw [← fm_add hx hw] at k2
          rw [e5]
          exact sx_floorMod _ k2
        refine xcall (fk _ ?_)
        exact q
  refine xM_go rfl 100 [(18, [0, 1, 2, 3])] fun P hP => ?_
  refine br_n (fun a => ?_) (fun a => ?_)
  · have a : ¬ nI c = v 0 9 := a
    rw [T.1.2.2.2] at a
    refine xcall (sx_goalOf F v s X T I c hc m (fun F' v' E => ?_))
    refine hP _ _ _ _ _ ?_
    exact fin F' v' E a
  · have a : nI c = v 0 9 := a
    rw [T.1.2.2.2] at a
    rw [if_pos (Or.inl a)] at h
    refine hP _ _ _ _ _ ?_
    refine xWP_go 100 [] fun P hP => ?_
    refine br_c (fun a => absurd a (by decide)) (fun _ => ?_)
    refine ⟨bc, ?_⟩
    have q := h _ _ tR.rf
    rw [← (T.2.2.2.1 c hc7).1] at q
    have e5 : F 5 (Int32.toNatClampNeg (nI c)) = F 5 c := by rw [ec]
    rw [← e5] at q
    exact q
