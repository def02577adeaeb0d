/-! ===== the reference: what a call rests on, exactly ===== -/
/-- a text in a row of numbers gives what L says -/
def mLw (f : Nat → Int32) (u : Nat) (L : xLw) : Prop := (f (6 + u) < 0 ∧ ∀ a b c, L a b c = 1) ∨ ∃ n, n ≤ 50 ∧ f (6 + u) = nI n ∧ ∀ a b c, L a b c = clamp1 (grG (nI u) a b c (bY (fun k => f (130 + 50 * u + k)) n) 60 5 0 0).1
def tM (f : Nat → Int32) (s : xS) (X : xXt) : Prop := (f 3 = s 6 0 ∧ f 2 = s 6 1 ∧ f 0 = s 6 2 ∧ f 8 = X.2.1) ∧ (∀ j, j < nat (s 6 0) → f (9 + 2 * j) = s 0 j ∧ f (9 + 2 * j + 1) = s 1 j) ∧ (∀ j, j < nat (s 6 1) → f (25 + 5 * j + 0) = s 2 j ∧ f (25 + 5 * j + 1) = s 3 j) ∧ (∀ j, j < 7 → f (25 + 5 * j + 2) = X.1 0 j ∧ f (25 + 5 * j + 3) = X.1 1 j ∧ f (25 + 5 * j + 4) = X.1 2 j) ∧ mLw f 0 (X.2.2 0) ∧ mLw f 1 (X.2.2 1)
/-- things taken away have no mark -/
def sm (tk : Int32) (s : xS) : xS := va_up s 1 (fun j => if mk tk (nI j) then 0 else s 1 j)
theorem and1 (x : Int32) : x &&& 1 = 0 ∨ x &&& 1 = 1 := by
  have e : (x &&& 1).toBitVec.toNat = x.toBitVec.toNat % 2 := by
    rw [Int32.toBitVec_and, BitVec.toNat_and]
    exact Nat.and_one_is_mod _
  have l : x.toBitVec.toNat % 2 < 2 := Nat.mod_lt _ (by decide)
  by_cases h : x.toBitVec.toNat % 2 = 0
  · refine Or.inl (Int32.toBitVec_inj.mp (BitVec.eq_of_toNat_eq ?_))
    rw [e, h]
    rfl
  · refine Or.inr (Int32.toBitVec_inj.mp (BitVec.eq_of_toNat_eq ?_))
    rw [e, show x.toBitVec.toNat % 2 = 1 by omega]
    rfl
theorem bY_congr {f g : Nat → Int32} {n : Nat} (h : ∀ k, k < n → f k = g k) : bY f n = bY g n := by
  funext k
  unfold bY
  split
  · rename_i l; exact h k l
  · rfl
theorem mLw.of {f g : Nat → Int32} {u : Nat} {L : xLw} (h : mLw f u L) (hu : u < 2) (e6 : g (6 + u) = f (6 + u)) (et : ∀ k, 130 ≤ k → k < 230 → g k = f k) : mLw g u L := by
  rcases h with ⟨a, b⟩ | ⟨n, hn, e, w⟩
  · exact Or.inl ⟨by rw [e6]; exact a, b⟩
  · refine Or.inr ⟨n, hn, e6.trans e, fun a b c => ?_⟩
    rw [w a b c]
    have q : bY (fun k => g (130 + 50 * u + k)) n = bY (fun k => f (130 + 50 * u + k)) n := bY_congr fun k hk => et _ (by omega) (by omega)
    rw [q]
theorem tM.of {f g : Nat → Int32} {s : xS} {X : xXt} (T : tM f s X) (b3 : below 8 (s 6 0)) (b2 : below 7 (s 6 1)) (e : ∀ j, j < 230 → g j = f j) : tM g s X := by
  obtain ⟨⟨a1, a2, a3, a4⟩, b, c, d, l0, l1⟩ := T
  have h3 := bel_nat b3 (by omega)
  have h2 := bel_nat b2 (by omega)
  refine ⟨⟨(e 3 (by omega)).trans a1, (e 2 (by omega)).trans a2, (e 0 (by omega)).trans a3, (e 8 (by omega)).trans a4⟩, fun j hj => ?_, fun j hj => ?_, fun j hj => ?_, l0.of (by decide) (e 6 (by omega)) (fun k _ l => e k l), l1.of (by decide) (e 7 (by omega)) (fun k _ l => e k l)⟩
  · rw [e _ (by omega), e _ (by omega)]; exact b j hj
  · rw [e _ (by omega), e _ (by omega)]; exact c j hj
  · rw [e _ (by omega), e _ (by omega), e _ (by omega)]; exact d j hj
theorem cIv.sm {s : xS} {X : xXt} (I : cIv s X) (tk : Int32) : cIv (sm tk s) X := by
  obtain ⟨a, c, d, e, f, g⟩ := I
  refine ⟨a, fun j hj => ⟨(c j hj).1, ?_⟩, d, e, f, g⟩
  show below 63 (if mk tk (nI j) then 0 else s 1 j)
  split
  · exact ⟨0, Nat.zero_le _, rfl⟩
  · exact (c j hj).2
theorem sx_its (F v : xS) (c w : Nat) (hc : c < 7) (hw : w < 5) (w' : Int32) (ew : w' = nI w) (x : Int32) (ex : F 1 (25 + 5 * c + w) = x) {K : xKo} (h : K (some (.int x)) (xfill F v 0 (wM0 0))) : C_M_its [.ref 0, .int (nI c), .int w'] (xfill F v 0 (wM0 0)) K := by
  subst ew
  rw [← ex] at h
  have e : nat ((25 : Int32) + 5 * nI c + nI w) = 25 + 5 * c + w := nc5 (by omega) (by omega)
  refine sp_its F v (nI c) (nI w) (vc5 hc hw) ?_
  rw [e]
  exact h
theorem sx_gets (F v : xS) (c w : Nat) (hc : c < 7) (hw : w < 5) (w' : Int32) (ew : w' = nI w) (x : Int32) {K : xKo} (h : K none (xfill (va_up F 1 (upd (F 1) (25 + 5 * c + w) x)) v 0 (wM0 0))) : C_M_gets [.ref 0, .int (nI c), .int w', .int x] (xfill F v 0 (wM0 0)) K := by
  subst ew
  have e : nat ((25 : Int32) + 5 * nI c + nI w) = 25 + 5 * c + w := nc5 (by omega) (by omega)
  refine sp_getsM F v (nI c) (nI w) x (vc5 hc hw) ?_
  rw [e]
  exact h
theorem sx_held (x l m : Int32) {K : xKo} (h : K (some (.int (if x < l then l else if m < x then m else x))) []) : C_M_held [.int x, .int l, .int m] [] K := by
  refine xM_go rfl 60 [] fun P hP => ?_
  refine br_c (fun a => ?_) (fun a => ?_)
  · have a : l ≤ x := a
    rw [if_neg (fun z => by rw [xlt] at z; rw [xle] at a; omega)] at h
    refine br_c (fun b => ?_) (fun b => ?_)
    · have b : x ≤ m := b
      rw [if_neg (fun z => by rw [xlt] at z; rw [xle] at b; omega)] at h
      exact h
    · have b : ¬ x ≤ m := b
      rw [if_pos (by rw [xlt]; rw [xle] at b; omega)] at h
      exact h
  · have a : ¬ l ≤ x := a
    rw [if_pos (by rw [xlt]; rw [xle] at a; omega)] at h
    exact h
theorem held01 (x : Int32) : (if x < 0 then 0 else if 1 < x then 1 else x) = clamp1 x := by
  unfold clamp1
  have z0 : (0 : Int32).toInt = 0 := by decide
  have z1 : (1 : Int32).toInt = 1 := by decide
  by_cases a : x < 0
  · rw [if_pos a]
    have b : ¬ 1 ≤ x := fun z => by rw [xle, z1] at z; rw [xlt, z0] at a; omega
    rw [if_neg b, if_pos (by rw [xle, z0]; rw [xlt, z0] at a; omega)]
  · rw [if_neg a]
    by_cases b : 1 ≤ x
    · have q : (if (1 : Int32) ≤ 0 then (0 : Int32) else 1) = 1 := if_neg (by decide)
      rw [if_pos b, q]
      by_cases c : 1 < x
      · rw [if_pos c]
      · rw [if_neg c]
        refine Int32.toInt_inj.mp ?_
        rw [xle, z1] at b
        rw [xlt, z1] at c
        rw [z1]
        omega
    · rw [if_neg b]
      rw [if_neg (fun z => by rw [xlt, z1] at z; rw [xle, z1] at b; omega)]
      have e : x = 0 := by
        refine Int32.toInt_inj.mp ?_
        rw [xle, z1] at b
        rw [xlt, z0] at a
        rw [z0]
        omega
      rw [e, if_pos (by decide)]
set_option maxRecDepth 100000 in
theorem sx_walks (F v : xS) (y : Nat) (hy : y < 2) (a b c : Int32) (n : Nat) (hn : n ≤ 50) (en : F 1 (6 + y) = nI n) {K : xKo} (h : ∀ v', vR v v' → v' 0 8 = nI (grG (nI y) a b c (bY (fun k => F 1 (130 + 50 * y + k)) n) 60 5 0 0).2.1 → v' 0 14 = b2i ((grG (nI y) a b c (bY (fun k => F 1 (130 + 50 * y + k)) n) 60 5 0 0).2.2 && decide ((grG (nI y) a b c (bY (fun k => F 1 (130 + 50 * y + k)) n) 60 5 0 0).2.1 = n)) → K (some (.int (grG (nI y) a b c (bY (fun k => F 1 (130 + 50 * y + k)) n) 60 5 0 0).1)) (xfill F v' 0 (wM0 0))) : C_M_walks [.ref 0, .int (nI y), .int a, .int b, .int c] (xfill F v 0 (wM0 0)) K := by
  have n6 : Int32.toNatClampNeg (6 + nI y) = 6 + y := by rw [show (6 : Int32) = nI 6 from rfl, nI_add]; exact nI_clamp (by omega)
  have e6 : F 1 (Int32.toNatClampNeg (6 + nI y)) = nI n := by rw [n6]; exact en
  have hi : vp_in (6 + nI y) 230 := by rw [show (6 : Int32) = nI 6 from rfl, nI_add]; exact vp_in_nI (by omega) (by omega)
  have hu : nI y = 0 ∨ nI y = 1 := by
    rcases (show y = 0 ∨ y = 1 by omega) with e | e
    all_goals subst e
    · exact Or.inl rfl
    · exact Or.inr rfl
  obtain ⟨v1, ev1⟩ : ∃ v1, v1 = va_up v 0 (va_up (va_up (va_up (va_up (va_up (va_up (va_up (va_up (v 0) 7 (nI y)) 8 0) 9 (F 1 (Int32.toNatClampNeg (6 + nI y)))) 10 0) 14 1) 11 a) 12 b) 13 c) := ⟨_, rfl⟩
  have f7 : v1 0 7 = nI y := by rw [ev1]; rfl
  have f8 : v1 0 8 = nI 0 := by rw [ev1]; rfl
  have f9 : v1 0 9 = nI n := by rw [ev1]; exact e6
  have f10 : v1 0 10 = nI 0 := by rw [ev1]; rfl
  have f14 : v1 0 14 = b2i true := by rw [ev1]; rfl
  have f11 : v1 0 11 = a := by rw [ev1]; rfl
  have f12 : v1 0 12 = b := by rw [ev1]; rfl
  have f13 : v1 0 13 = c := by rw [ev1]; rfl
  have J1 : gI v1 := ⟨by rw [f7]; exact hu, ⟨0, by omega, f8⟩, by rw [f9, nI_toInt (by omega)]; omega⟩
  have J3 : vR v v1 := by
    intro j
    by_cases hj : 7 ≤ j ∧ j < 15
    · exact Or.inl hj
    · refine Or.inr ?_
      rw [ev1]
      exact (if_neg (by omega)).trans ((if_neg (by omega)).trans ((if_neg (by omega)).trans ((if_neg (by omega)).trans ((if_neg (by omega)).trans ((if_neg (by omega)).trans ((if_neg (by omega)).trans (if_neg (by omega))))))))
  have eb : btM F v1 = bY (fun k => F 1 (130 + 50 * y + k)) n := by
    funext k
    unfold btM bY
    rw [f9, nI_toInt (by omega)]
    by_cases l : k < n
    · rw [if_pos (by omega), if_pos l, f7]
      have z : nat ((130 : Int32) + 50 * nI y + nI k) = 130 + 50 * y + k := by
        rw [show (130 : Int32) = nI 130 from rfl, show (50 : Int32) = nI 50 from rfl, nI_mul, nI_add, nI_add]
        exact nI_clamp (by omega)
      rw [z]
    · rw [if_neg (by omega), if_neg l]
  have eG : grF F v1 60 5 0 0 = grG (nI y) a b c (bY (fun k => F 1 (130 + 50 * y + k)) n) 60 5 0 0 := by
    have q : grF F v1 60 5 0 0 = grG (v1 0 7) (v1 0 11) (v1 0 12) (v1 0 13) (btM F v1) 60 5 0 0 := rfl
    rw [q, f7, f11, f12, f13, eb]
  obtain ⟨R, eR⟩ : ∃ R, R = grG (nI y) a b c (bY (fun k => F 1 (130 + 50 * y + k)) n) 60 5 0 0 := ⟨_, rfl⟩
  rw [← eR] at h eG
  refine xM_go rfl 100 [] fun P hP => ?_
  refine ⟨hi, ?_⟩
  refine ⟨Or.inr rfl, ?_⟩
  have gk : ∀ K2 : xKo, (∀ v', gX v1 v' R.2.1 R.2.2 → K2 (some (.int R.1)) (xfill F v' 0 (wM0 0))) → G_gram 60 5 [.ref 0] (xfill F (va_up v 0 (va_up (va_up (va_up (va_up (va_up (va_up (va_up (va_up (v 0) 7 (nI y)) 8 0) 9 (F 1 (Int32.toNatClampNeg (6 + nI y)))) 10 0) 14 1) 11 a) 12 b) 13 c)) 0 (wM0 0)) K2 := by
    intro K2 k2
    rw [← ev1]
    refine gx_text60 F v1 K2 0 J1 f10 ⟨fun _ _ _ => rfl, f8, f14, Nat.zero_le _⟩ (fun v' G => ?_)
    rw [eG] at G ⊢
    exact k2 v' G
  refine xcall (gk _ (fun v' G => ?_))
  have g14 : v' 0 14 = b2i R.2.2 := G.2.2.1
  have g8 : v' 0 8 = nI R.2.1 := G.2.1
  have g9 : v' 0 9 = nI n := (G.1 9 (by decide) (by decide)).trans f9
  have q50 : R.2.1 ≤ 50 := G.2.2.2
  have go : ∀ g : Int32, g = b2i (R.2.2 && decide (R.2.1 = n)) → K (some (.int R.1)) (xfill F (va_up v' 0 (va_up (v' 0) 14 g)) 0 (wM0 0)) := by
    intro g hg
    refine h _ (fun j => ?_) g8 hg
    by_cases hj : 7 ≤ j ∧ j < 15
    · exact Or.inl hj
    · have e1 : va_up v' 0 (va_up (v' 0) 14 g) 0 j = v' 0 j := if_neg (by omega)
      rw [e1, G.1 j (by omega) (by omega)]
      exact J3 j
  refine br_c (fun z => ?_) (fun z => ?_)
  · have z : v' 0 14 = 0 := z
    rw [g14] at z
    have gf : R.2.2 = false := by
      cases hg : R.2.2 with
      | false => rfl
      | true => rw [hg] at z; exact absurd z (by decide)
    exact ⟨Or.inl rfl, go 0 (by rw [gf]; rfl)⟩
  have z : ¬ v' 0 14 = 0 := z
  rw [g14] at z
  have gt : R.2.2 = true := by
    cases hg : R.2.2 with
    | true => rfl
    | false => rw [hg] at z; exact absurd rfl z
  refine br_n (fun w => ?_) (fun w => ?_)
  · have w : ¬ v' 0 8 = v' 0 9 := w
    rw [g8, g9, nI_eq (by omega) (by omega)] at w
    exact ⟨Or.inl rfl, go 0 (by rw [gt, decide_eq_false w]; rfl)⟩
  · have w : v' 0 8 = v' 0 9 := w
    rw [g8, g9, nI_eq (by omega) (by omega)] at w
    exact ⟨Or.inr rfl, go 1 (by rw [gt, decide_eq_true w]; rfl)⟩
set_option maxRecDepth 100000 in
theorem sx_lawOf (F v : xS) (y : Nat) (hy : y < 2) (u : Int32) (eu : u = nI y) (L : xLw) (M : mLw (F 1) y L) (a b c : Int32) {K : xKo} (h : ∀ v', vR v v' → K (some (.int (L a b c))) (xfill F v' 0 (wM0 0))) : C_M_lawOf [.ref 0, .int u, .int a, .int b, .int c] (xfill F v 0 (wM0 0)) K := by
  subst eu
  have n6 : Int32.toNatClampNeg (6 + nI y) = 6 + y := by rw [show (6 : Int32) = nI 6 from rfl, nI_add]; exact nI_clamp (by omega)
  have hi : vp_in (6 + nI y) 230 := by rw [show (6 : Int32) = nI 6 from rfl, nI_add]; exact vp_in_nI (by omega) (by omega)
  refine xM_go rfl 100 [] fun P hP => ?_
  refine ⟨hi, ?_⟩
  refine br_c (fun z => ?_) (fun z => ?_)
  · have z : 0 ≤ F 1 (Int32.toNatClampNeg (6 + nI y)) := z
    rw [n6] at z
    rcases M with ⟨m, w⟩ | ⟨n, hn, en, w⟩
    · exact absurd m (fun q => by rw [xlt] at q; rw [xle] at z; omega)
    · refine xcall (sx_walks F v y hy a b c n hn en (fun v' E _ _ => ?_))
      refine xcall (sx_held _ 0 1 ?_)
      rw [held01, ← w a b c]
      exact h v' E
  · have z : ¬ 0 ≤ F 1 (Int32.toNatClampNeg (6 + nI y)) := z
    rw [n6] at z
    rcases M with ⟨m, w⟩ | ⟨n, hn, en, w⟩
    · have q := h v (fun _ => Or.inr rfl)
      rw [w a b c] at q
      exact q
    · rw [en] at z
      exact absurd (nI_pos' (by omega)) z
def rm12 (x : Int32) : Int32 := x - x / 12 * 12
theorem rm_up {x y : Nat} (hx : x < 12) (hy : y < 12) : rm12 (nI y - nI x + 12) = nI ((y + 12 - x) % 12) := by
  have q : ∀ (a t : Fin 12), rm12 (nI t.val - nI a.val + 12) = nI ((t.val + 12 - a.val) % 12) := by decide +kernel
  exact q ⟨x, hx⟩ ⟨y, hy⟩
theorem rm_add {x w : Nat} (hx : x < 12) (hw : w ≤ 6) : rm12 (nI x + nI w) = nI ((x + w) % 12) := by
  have q : ∀ (a : Fin 12) (w : Fin 7), rm12 (nI a.val + nI w.val) = nI ((a.val + w.val) % 12) := by decide +kernel
  exact q ⟨x, hx⟩ ⟨w, by omega⟩
theorem rm_sub {x w : Nat} (hx : x < 12) (hw : w ≤ 6) : rm12 (nI x + (12 - nI w)) = nI ((x + 12 - w) % 12) := by
  have q : ∀ (a : Fin 12) (w : Fin 7), rm12 (nI a.val + (12 - nI w.val)) = nI ((a.val + 12 - w.val) % 12) := by decide +kernel
  exact q ⟨x, hx⟩ ⟨w, by omega⟩
theorem sub12 {u : Nat} (h : u < 12) : (12 : Int32) - nI u = nI (12 - u) := by
  have z : nI (12 - u) + nI u = 12 := by rw [nI_add, Nat.sub_add_cancel (by omega)]; rfl
  rw [← z, Int32.add_sub_cancel]
theorem sx_round (a b : Int32) (x y : Nat) (hx : x < 12) (hy : y < 12) (ea : a = nI x) (eb : b = nI y) {K : xKo} (h : K (some (.int (nI (offN x y)))) []) : C_M_round [.int a, .int b] [] K := by
  subst ea
  subst eb
  have r := rm_up hx hy
  have up : (y + 12 - x) % 12 < 12 := Nat.mod_lt _ (by decide)
  have s12 := sub12 up
  unfold offN at h
  refine xM_go rfl 60 [] fun P hP => ?_
  refine ⟨by decide, ?_⟩
  refine br_c (fun z => ?_) (fun z => ?_)
  · have z : 12 - rm12 (nI y - nI x + 12) < rm12 (nI y - nI x + 12) := z
    rw [r, s12, nI_ltI (by omega) (by omega)] at z
    rw [if_neg (by omega), ← s12, ← r] at h
    exact h
  · have z : ¬ 12 - rm12 (nI y - nI x + 12) < rm12 (nI y - nI x + 12) := z
    rw [r, s12, nI_ltI (by omega) (by omega)] at z
    rw [if_pos (by omega), ← r] at h
    exact h
theorem nk2 {i : Nat} (h : i < 1000) : Int32.toNatClampNeg ((9 : Int32) + 2 * nI i) = 9 + 2 * i := nc2 h
theorem nk21 {i : Nat} (h : i < 1000) : Int32.toNatClampNeg ((9 : Int32) + 2 * nI i + 1) = 9 + 2 * i + 1 := nc21 h
theorem sx_isMarked (F v s : xS) (X : xXt) (T : tM (F 1) s X) (i : Nat) (hi : i < 8) (hj : i < nat (s 6 0)) (b : Int32) {K : xKo} (h0 : ¬ mk (sm (v 0 15) s 1 i) b → K (some (.int 0)) (xfill F v 0 (wM0 0))) (h1 : mk (sm (v 0 15) s 1 i) b → K (some (.int 1)) (xfill F v 0 (wM0 0))) : C_M_isMarked [.ref 0, .int (nI i), .int b] (xfill F v 0 (wM0 0)) K := by
  have em : sm (v 0 15) s 1 i = if mk (v 0 15) (nI i) then 0 else s 1 i := rfl
  have e1 : F 1 (Int32.toNatClampNeg ((9 : Int32) + 2 * nI i + 1)) = s 1 i := by rw [nk21 (by omega)]; exact (T.2.1 i hj).2
  rw [em] at h0 h1
  refine xM_go rfl 100 [] fun P hP => ?_
  refine br_n (fun z => ?_) (fun z => ?_)
  · have z : ¬ (v 0 15 >>> (nI i &&& 31)) &&& 1 = 0 := z
    have z1 : mk (v 0 15) (nI i) := (and1 _).resolve_left z
    rw [if_pos z1] at h0
    have n0 : ¬ mk 0 b := by
      have q : (0 : Int32) >>> (b &&& 31) = 0 := Int32.zero_shiftRight
      show ¬ (0 >>> (b &&& 31)) &&& 1 = 1
      rw [q]
      decide
    exact ⟨Or.inl rfl, h0 n0⟩
  have z : (v 0 15 >>> (nI i &&& 31)) &&& 1 = 0 := z
  have z1 : ¬ mk (v 0 15) (nI i) := fun y => by
    have y : (v 0 15 >>> (nI i &&& 31)) &&& 1 = 1 := y
    rw [z] at y
    exact absurd y (by decide)
  rw [if_neg z1] at h0 h1
  refine ⟨vc21 hi, ?_⟩
  refine br_n (fun y => ?_) (fun y => ?_)
  · have y : ¬ mk (F 1 (Int32.toNatClampNeg ((9 : Int32) + 2 * nI i + 1))) b := y
    rw [e1] at y
    exact ⟨Or.inl rfl, h0 y⟩
  · have y : mk (F 1 (Int32.toNatClampNeg ((9 : Int32) + 2 * nI i + 1))) b := y
    rw [e1] at y
    exact ⟨Or.inr rfl, h1 y⟩
theorem sx_farM (F v s : xS) (X : xXt) (T : tM (F 1) s X) (c : Nat) (hc : c < nat (s 6 1)) (hc7 : c < 7) {K : xKo} (h : K (some (.int (farV (s 2 c) (s 3 c)))) (xfill F v 0 (wM0 0))) : C_M_far [.ref 0, .int (nI c)] (xfill F v 0 (wM0 0)) K := by
  unfold farV at h
  refine xM_go rfl 100 [] fun P hP => ?_
  refine xcall (sx_its F v c 1 hc7 (by omega) 1 rfl (s 3 c) (T.2.2.1 c hc).2 ?_)
  refine xcall (sx_its F v c 0 hc7 (by omega) 0 rfl (s 2 c) (T.2.2.1 c hc).1 ?_)
  refine ⟨fun a => ?_, fun n1 => ?_⟩
  · rw [if_pos a] at h; exact h
  rw [if_neg n1] at h
  refine ⟨fun a => ?_, fun n2 => ?_⟩
  · rw [if_pos a] at h; exact ⟨by decide, h⟩
  rw [if_neg n2] at h
  refine ⟨fun a => ?_, fun n3 => ?_⟩
  · rw [if_pos a] at h; exact h
  rw [if_neg n3] at h
  refine ⟨fun a => ?_, fun n4 => ?_⟩
  · rw [if_pos a] at h; exact h
  rw [if_neg n4] at h
  refine ⟨fun a => ?_, fun n5 => ?_⟩
  · rw [if_pos a] at h; exact ⟨by decide, h⟩
  rw [if_neg n5] at h
  refine ⟨fun a => ?_, fun n6 => ?_⟩
  · rw [if_pos a] at h; exact h
  rw [if_neg n6] at h
  exact h
theorem sx_paceM (F v s : xS) (X : xXt) (T : tM (F 1) s X) (hit : X.2.1 < 0 ↔ X.2.1 = -1) (c : Nat) (hc : c < nat (s 6 1)) (hc7 : c < 7) {K : xKo} (h : K (some (.int (paceV (s 2 c) (s 3 c) (s 6 2) X.2.1))) (xfill F v 0 (wM0 0))) : C_M_pace [.ref 0, .int (nI c)] (xfill F v 0 (wM0 0)) K := by
  unfold paceV at h
  have e0 : F 1 (Int32.toNatClampNeg 0) = s 6 2 := T.1.2.2.1
  have e8 : F 1 (Int32.toNatClampNeg 8) = X.2.1 := T.1.2.2.2
  refine xM_go rfl 100 [] fun P hP => ?_
  refine xcall (sx_its F v c 1 hc7 (by omega) 1 rfl (s 3 c) (T.2.2.1 c hc).2 ?_)
  refine ⟨vin (by decide), ?_⟩
  refine ⟨by decide, ?_⟩
  refine br_n (fun b => ?_) (fun b => ?_)
  · have b : ¬ F 1 (Int32.toNatClampNeg 0) - F 1 (Int32.toNatClampNeg 0) / 2 * 2 = 0 := b
    rw [e0] at b
    rw [if_neg b] at h
    refine xcall (sx_its F v c 0 hc7 (by omega) 0 rfl (s 2 c) (T.2.2.1 c hc).1 ?_)
    refine ⟨fun a => ?_, fun n1 => ?_⟩
    · rw [if_pos a] at h; exact ⟨by decide, h⟩
    rw [if_neg n1] at h
    refine ⟨fun a => ?_, fun n2 => ?_⟩
    · rw [if_pos a] at h; exact h
    rw [if_neg n2] at h
    refine ⟨fun a => ?_, fun n3 => ?_⟩
    · rw [if_pos a] at h; exact h
    rw [if_neg n3] at h
    refine ⟨fun a => ?_, fun n4 => ?_⟩
    · rw [if_pos a] at h; exact h
    rw [if_neg n4] at h
    refine ⟨fun a => ?_, fun n5 => ?_⟩
    · rw [if_pos a] at h
      refine ⟨vin (by decide), br_c (fun d => ?_) (fun d => ?_)⟩
      · have d : 0 ≤ F 1 (Int32.toNatClampNeg 8) := d
        rw [e8] at d
        rw [if_neg (fun z => by have q := hit.mpr z; rw [xlt] at q; rw [xle] at d; omega)] at h
        exact h
      · have d : ¬ 0 ≤ F 1 (Int32.toNatClampNeg 8) := d
        rw [e8] at d
        rw [if_pos (hit.mp (by rw [xlt]; rw [xle] at d; omega))] at h
        exact h
    rw [if_neg n5] at h
    refine ⟨fun a => ?_, fun n6 => ?_⟩
    · rw [if_pos a] at h; exact ⟨by decide, h⟩
    rw [if_neg n6] at h
    exact h
  · have b : F 1 (Int32.toNatClampNeg 0) - F 1 (Int32.toNatClampNeg 0) / 2 * 2 = 0 := b
    rw [e0] at b
    rw [if_pos b] at h
    refine xcall (sx_its F v c 0 hc7 (by omega) 0 rfl (s 2 c) (T.2.2.1 c hc).1 ?_)
    refine ⟨fun a => ?_, fun n1 => ?_⟩
    · rw [if_pos a] at h; exact ⟨by decide, h⟩
    rw [if_neg n1] at h
    refine ⟨fun a => ?_, fun n2 => ?_⟩
    · rw [if_pos a] at h; exact h
    rw [if_neg n2] at h
    refine ⟨fun a => ?_, fun n3 => ?_⟩
    · rw [if_pos a] at h; exact h
    rw [if_neg n3] at h
    refine ⟨fun a => ?_, fun n4 => ?_⟩
    · rw [if_pos a] at h; exact h
    rw [if_neg n4] at h
    refine ⟨fun a => ?_, fun n5 => ?_⟩
    · rw [if_pos a] at h
      refine ⟨vin (by decide), br_c (fun d => ?_) (fun d => ?_)⟩
      · have d : 0 ≤ F 1 (Int32.toNatClampNeg 8) := d
        rw [e8] at d
        rw [if_neg (fun z => by have q := hit.mpr z; rw [xlt] at q; rw [xle] at d; omega)] at h
        exact h
      · have d : ¬ 0 ≤ F 1 (Int32.toNatClampNeg 8) := d
        rw [e8] at d
        rw [if_pos (hit.mp (by rw [xlt]; rw [xle] at d; omega))] at h
        exact h
    rw [if_neg n5] at h
    refine ⟨fun a => ?_, fun n6 => ?_⟩
    · rw [if_pos a] at h; exact ⟨by decide, h⟩
    rw [if_neg n6] at h
    exact h
theorem cIv.hit {s : xS} {X : xXt} (I : cIv s X) : X.2.1 < 0 ↔ X.2.1 = -1 := by
  refine ⟨fun a => ?_, fun e => by rw [e]; decide⟩
  rcases I.2.2.2.2.2 with e | ⟨c, hc, e⟩
  · exact e
  · have h2 := bel_nat I.1.2 (by omega)
    rw [e, xlt, nI_toInt (by omega), show (0 : Int32).toInt = 0 by decide] at a
    omega
