/-! ===== games by draws, exactly ===== -/
theorem ushr8 (y : Int32) : ∃ q, q < 2 ^ 24 ∧ ushr y 8 = nI q := by
  have ea : ushr y 8 = (y.toUInt32 >>> 8).toInt32 := by
    unfold ushr
    rw [show (Int32.toUInt32 8 &&& Int32.toUInt32 31) = 8 by decide]
  have l : (y.toUInt32 >>> 8).toNat < 2 ^ 24 := by
    have q : (y.toUInt32 >>> 8).toNat = y.toUInt32.toNat >>> 8 := by
      rw [UInt32.toNat_shiftRight]
      rfl
    have h := y.toUInt32.toNat_lt
    rw [q, Nat.shiftRight_eq_div_pow]
    omega
  refine ⟨(y.toUInt32 >>> 8).toNat, l, ?_⟩
  rw [ea]
  refine xeq.mpr ?_
  rw [nI_toInt (by omega)]
  have l2 : (y.toUInt32 >>> 8).toBitVec.toNat < 2 ^ 24 := l
  show (y.toUInt32 >>> 8).toBitVec.toInt = _
  rw [BitVec.toInt_eq_toNat_of_lt (by omega)]
  rfl
theorem rem_tm (x y : Int32) (h : ¬ y = 0) : (x - x / y * y).toInt = x.toInt.tmod y.toInt := by
  have hy : ¬ y.toInt = 0 := fun z => h (xeq.mpr (by rw [z]; rfl))
  rw [Int32.toInt_sub, Int32.toInt_mul, Int32.toInt_div, Int.bmod_mul_bmod, Int.sub_bmod_bmod, Int.mul_comm, ← Int.tmod_def]
  have l := Int.natAbs_tmod x.toInt y.toInt
  have q : x.toInt.natAbs % y.toInt.natAbs < y.toInt.natAbs := Nat.mod_lt _ (by omega)
  have y1 := y.toInt_lt
  have y2 := y.le_toInt
  refine Int.bmod_eq_of_le ?_ ?_
  · have := Int.natAbs_tmod x.toInt y.toInt; omega
  · omega
theorem rem_nI {q k : Nat} (hq : q < 2 ^ 31) (h0 : 0 < k) (hk : k < 2 ^ 31) : nI q - nI q / nI k * nI k = nI (q % k) := by
  have l : q % k < k := Nat.mod_lt _ h0
  have n0 : ¬ nI k = 0 := nI_ne0 (by omega) hk
  refine xeq.mpr ?_
  rw [rem_tm _ _ n0, nI_toInt hq, nI_toInt hk, nI_toInt (by omega)]
  rfl
def mdV (y k : Int32) : Int32 := ushr y 8 - ushr y 8 / k * k
theorem md_in (y : Int32) {k : Nat} (h0 : 0 < k) (hk : k < 2 ^ 31) : ∃ j, j < k ∧ mdV y (nI k) = nI j := by
  obtain ⟨q, hq, e⟩ := ushr8 y
  refine ⟨q % k, Nat.mod_lt _ h0, ?_⟩
  unfold mdV
  rw [e]
  exact rem_nI (by omega) h0 hk
def lsS (s : xS) (z : Int32) : xS := va_up s 6 (upd (s 6) 3 z)
/-- one drawn game -/
def lz1 (p : xS × xXt) : xS × xXt := (clS (lsS p.1 (zS (zS (p.1 6 3)))), ePlay (lsS p.1 (zS (zS (p.1 6 3)))) p.2 (mdV (zS (p.1 6 3)) 6) (mdV (zS (zS (p.1 6 3))) 5))
def lzc (p : xS × xXt) : Int32 := nI (cnN (lsS p.1 (zS (zS (p.1 6 3)))) p.2 (mdV (zS (p.1 6 3)) 6) (mdV (zS (zS (p.1 6 3))) 5))
def lzG : Nat → xS × xXt → xS × xXt
  | 0, p => p
  | n + 1, p => lz1 (lzG n p)
def lzC : Nat → xS × xXt → Int32
  | 0, _ => 0
  | n + 1, p => lzC n p + lzc (lzG n p)
abbrev lsOk (n : Int32) (σ : xZ) : Prop := (1 ≤ n.toInt ∧ n.toInt ≤ 40) ∧ nat (σ.1.1 6 2) + nat n ≤ 9999
def z_loose (n : Int32) (σ : xZ) : Int32 := if 1 ≤ n.toInt ∧ n.toInt ≤ 40 then (if nat (σ.1.1 6 2) + nat n ≤ 9999 then lzC (nat n) (σ.1.1, σ.2.1) else -1000000003) else -1000000001
def y_loose (n : Int32) (σ : xZ) : xZ := if lsOk n σ then (((lzG (nat n) (σ.1.1, σ.2.1)).1, σ.1.2), (lzG (nat n) (σ.1.1, σ.2.1)).2, σ.2.2) else σ
def lzI (s : xS) (c i : Nat) (p : xS × xXt) : Prop := ((p.1 6 0 = s 6 0 ∧ p.1 6 1 = s 6 1 ∧ p.1 6 4 = s 6 4 ∧ p.1 6 5 = s 6 5) ∧ ∀ k, k < 6 → p.1 k = s k) ∧ (p.1 6 2 = nI (c + i) ∧ p.1 6 3 = zN i (s 6 3)) ∧ cIv p.1 p.2 ∧ out0 p.1 p.2
theorem cIv.ls {s : xS} {X : xXt} (I : cIv s X) (z : Int32) : cIv (lsS s z) X := I
theorem out0.ls {s : xS} {X : xXt} (O : out0 s X) (z : Int32) : out0 (lsS s z) X := O
theorem lzI.go {s : xS} {c i : Nat} {p : xS × xXt} (h : lzI s c i p) : lzI s c (i + 1) (lz1 p) := by
  obtain ⟨⟨⟨a0, a1, a2, a3⟩, b⟩, ⟨d, e⟩, I, O⟩ := h
  refine ⟨⟨⟨a0, a1, a2, a3⟩, fun k hk => ?_⟩, ⟨?_, ?_⟩, (I.ls _).play, (O.ls _).play⟩
  · exact (if_neg (by omega)).trans ((if_neg (by omega)).trans (b k hk))
  · show p.1 6 2 + 1 = nI (c + (i + 1))
    rw [d, nI_1]
    rfl
  · show zS (zS (p.1 6 3)) = zN (i + 1) (s 6 3)
    rw [e]
    rfl
theorem lzI.all {s : xS} {X : xXt} {c : Nat} (e : s 6 2 = nI c) (I : cIv s X) (O : out0 s X) : ∀ i, lzI s c i (lzG i (s, X)) := by
  intro i
  induction i with
  | zero => exact ⟨⟨⟨rfl, rfl, rfl, rfl⟩, fun _ _ => rfl⟩, ⟨e, rfl⟩, I, O⟩
  | succ i ih => exact ih.go
theorem sx_draw (F v : xS) (y : Int32) (hy : y = zS (v 0 11)) {K : xKo} (h : K (some (.int (ushr y 8))) (xfill F (va_up v 0 (va_up (v 0) 11 y)) 0 (wT0 0))) : C_T_draw [.ref 0] (xfill F v 0 (wT0 0)) K := by
  refine xM_go rfl 60 [] fun P hP => ?_
  subst hy
  exact h
theorem sx_drawn (F v : xS) (k y : Int32) (hk : ¬ k = 0) (hy : y = zS (F 1 1)) {K : xKo} (h : K (some (.int (mdV y k))) (xfill (va_up F 1 (upd (F 1) 1 y)) v 0 (wM0 0))) : C_M_drawn [.ref 0, .int k] (xfill F v 0 (wM0 0)) K := by
  refine xM_go rfl 60 [] fun P hP => ?_
  subst hy
  refine ⟨vin (by decide), ?_⟩
  refine ⟨vin (by decide), ?_⟩
  refine ⟨vin (by decide), ?_⟩
  refine ⟨hk, ?_⟩
  exact h
set_option maxRecDepth 100000 in
theorem sx_playE (F v s : xS) (X : xXt) (T : tH F v s X) (I : cIv s X) (m t : Int32) (u : Nat) (hu : u < 10) (et : t = nI u) {K : xKo} (h : ∀ F' v', tR aP bQ F v F' v' → tH F' v' (clS s) (ePlay s X m t) → K (some (.int (eSet s X m t))) (xfill F' v' 0 (wT0 0))) : C_T_play [.ref 0, .int m, .int t] (xfill F v 0 (wT0 0)) K := by
  subst et
  exact sx_play F v s X T I m u hu h
theorem sx_callsE (F v s : xS) (X : xXt) (T : tM (F 1) s X) (I : cIv s X) (b t : Int32) (u : Nat) (hu : u < 10) (et : t = nI u) (tk : v 0 15 = 0) {K : xKo} (h : ∀ F' v', (∀ k, ¬ k = 1 → F' k = F k) → mR r2 F v F' v' → tM (F' 1) (clS s) (ePlay s X b t) → K (some (.int (eSet s X b t))) (xfill F' v' 0 (wM0 0))) : C_M_calls [.ref 0, .int b, .int t] (xfill F v 0 (wM0 0)) K := by
  subst et
  refine sx_calls F v s X T I b u hu (fun F' v' G E T' => ?_)
  rw [tk, sm_0] at T' ⊢
  exact h F' v' G E T'
set_option maxRecDepth 100000 in
theorem HX_loose (n : Nat) (σ : xZ) (F v : xS) (R : HR n σ F v) (x : Int32) {K : xKo} (h : hKy n (y_loose x σ) (z_loose x σ) K) : C_H_loose [.ref 0, .int x] (xfill F v 0 wH0) K := by
  obtain ⟨c, hc, es⟩ : below 9999 (σ.1.1 6 2) := R.1.1.1.2.2.1
  have ec : v 1 10 = nI c := R.n1.2.2.1.trans es
  have ez : v 1 11 = σ.1.1 6 3 := R.n1.2.2.2.1
  have en : nat (σ.1.1 6 2) = c := by rw [es]; exact nI_clamp (by omega)
  refine xM_go rfl 200 [(42, [0, 1, 2, 3])] fun P hP => ?_
  refine br_c (fun a1 => ?_) (fun a1 => ?_)
  · have a1 : x < 1 := a1
    rw [xlt, show (1 : Int32).toInt = 1 by decide] at a1
    refine xcall (sp_errH F v 1 (by decide) ?_)
    exact R.no h _ (if_neg (fun z => by have := z.1.1; omega)) (if_neg (by omega))
  have a1 : ¬ x < 1 := a1
  rw [xlt, show (1 : Int32).toInt = 1 by decide] at a1
  refine br_c (fun a2 => ?_) (fun a2 => ?_)
  rotate_left
  · have a2 : ¬ x ≤ 40 := a2
    rw [xle, show (40 : Int32).toInt = 40 by decide] at a2
    refine xcall (sp_errH F v 1 (by decide) ?_)
    exact R.no h _ (if_neg (fun z => by have := z.1.2; omega)) (if_neg (by omega))
  have a2 : x ≤ 40 := a2
  rw [xle, show (40 : Int32).toInt = 40 by decide] at a2
  obtain ⟨m, hm, rfl, em⟩ := nI_ofx x (n := 41) ⟨by omega, by omega⟩ (by decide)
  have c1 : 1 ≤ (nI m).toInt ∧ (nI m).toInt ≤ 40 := ⟨by omega, a2⟩
  have ess : v 1 10 + nI m = nI (c + m) := by rw [ec, nI_add]
  refine br_c (fun a3 => ?_) (fun a3 => ?_)
  rotate_left
  · have a3 : ¬ v 1 10 + nI m ≤ nI 9999 := a3
    rw [ess, nI_leI (by omega) (by omega)] at a3
    have c2 : ¬ nat (σ.1.1 6 2) + nat (nI m) ≤ 9999 := by omega
    refine xcall (sp_errH F v 3 (by decide) ?_)
    exact R.no h _ (if_neg fun z => c2 z.2) ((if_pos c1).trans (if_neg c2))
  have a3 : v 1 10 + nI m ≤ nI 9999 := a3
  rw [ess, nI_leI (by omega) (by omega)] at a3
  have c2 : nat (σ.1.1 6 2) + nat (nI m) ≤ 9999 := by omega
  unfold y_loose z_loose at h
  rw [if_pos ⟨c1, c2⟩, if_pos c1, if_pos c2, em] at h
  have LI := lzI.all es R.c R.2.1.1.2
  have key : ∀ (d i : Nat) (F' v' : xS), i + d = m → hQ F v F' v' → tH (fun k => F' (1 + k)) (fun k => v' (1 + k)) (lzG i (σ.1.1, σ.2.1)).1 (lzG i (σ.1.1, σ.2.1)).2 → v' 1 11 = (lzG i (σ.1.1, σ.2.1)).1 6 3 → xWP pg_H_loose K 42 [(0, .ref 0), (1, .int (nI m)), (2, .int (lzC i (σ.1.1, σ.2.1))), (3, .int (nI i))] [] (xfill F' v' 0 wH0) (0, 0) := by
    intro d
    induction d with
    | zero =>
      intro i F' v' hi E T e2
      have hi : i = m := hi
      subst hi
      obtain ⟨⟨⟨l0, l1, l2, l3⟩, l4⟩, ⟨l5, l6⟩, lI, lO⟩ := LI i
      refine xWP_go 100 [(42, [0, 1, 2, 3])] fun P hP => ?_
      refine br_c (fun _ => ?_) (fun z => absurd (nI_le (Nat.le_refl _) (by omega)) z)
      refine h F' v' (R.play E T ⟨⟨l0, l1, e2.symm, l2, l3⟩, l4⟩ ⟨c + i, by omega, l5⟩ ⟨lI, lO⟩)
    | succ d ih =>
      intro i F' v' hi E T e2
      obtain ⟨p, ep⟩ : ∃ p, p = lzG i (σ.1.1, σ.2.1) := ⟨_, rfl⟩
      have LIi := LI i
      have nx := ih (i + 1)
      have eG : lzG (i + 1) (σ.1.1, σ.2.1) = lz1 p := by rw [ep]; rfl
      have eC : lzC (i + 1) (σ.1.1, σ.2.1) = lzC i (σ.1.1, σ.2.1) + lzc p := by rw [ep]; rfl
      rw [eG, eC] at nx
      rw [← ep] at T e2 LIi
      obtain ⟨-, -, lI, lO⟩ := LIi
      refine xWP_go 100 [(42, [0, 1, 2, 3])] fun P hP => ?_
      refine br_c (fun z => absurd z (nI_ge (by omega) (by omega))) (fun _ => ?_)
      obtain ⟨y1, hy1⟩ : ∃ y, y = zS (v' 1 11) := ⟨_, rfl⟩
      obtain ⟨y2, hy2⟩ : ∃ y, y = zS y1 := ⟨_, rfl⟩
      have d1 : zS (p.1 6 3) = y1 := by rw [hy1, e2]
      have d2 : zS (zS (p.1 6 3)) = y2 := by rw [d1, hy2]
      have eP : lz1 p = (clS (lsS p.1 y2), ePlay (lsS p.1 y2) p.2 (mdV y1 6) (mdV y2 5)) := by unfold lz1; rw [d2, d1]
      have eQ : lzc p = nI (cnN (lsS p.1 y2) p.2 (mdV y1 6) (mdV y2 5)) := by unfold lzc; rw [d2, d1]
      rw [eP, eQ] at nx
      obtain ⟨u, hu, eu⟩ := md_in y2 (k := 5) (by decide) (by decide)
      have eu : mdV y2 5 = nI u := eu
      refine xcall (sx_draw (fun k => F' (1 + k)) (fun k => v' (1 + k)) y1 hy1 ?_)
      refine ⟨by decide, ?_⟩
      refine xcall (sx_draw (fun k => F' (1 + k)) (va_up (fun k => v' (1 + k)) 0 (va_up (v' 1) 11 y1)) y2 hy2 ?_)
      refine ⟨by decide, ?_⟩
      have E2 : hQ F v F' (va_up v' 1 (va_up (v' 1) 11 y2)) := E.vu rfl
      have T2 : tH (fun k => F' (1 + k)) (fun k => va_up v' 1 (va_up (v' 1) 11 y2) (1 + k)) (lsS p.1 y2) p.2 := T
      have I2 : cIv (lsS p.1 y2) p.2 := lI.ls y2
      refine xcall (sx_playE (fun k => F' (1 + k)) (fun k => va_up v' 1 (va_up (v' 1) 11 y2) (1 + k)) (lsS p.1 y2) p.2 T2 I2 (mdV y1 6) (mdV y2 5) u (by omega) eu (fun G w E3 T3 => ?_))
      refine xcall (sx_bitCount _ (stN (eHad (lsS p.1 y2) p.2 (mdV y1 6) (mdV y2 5)) (nat ((lsS p.1 y2) 6 1))) rfl (by have := st128 I2 (b := mdV y1 6) (t := mdV y2 5); omega) ?_)
      refine hP _ _ _ _ _ ?_
      rw [nI_1]
      refine nx (upS 1 F' G) (upS 1 (va_up v' 1 (va_up (v' 1) 11 y2)) w) (by omega) (E2.tr (hQ.up1 E3)) T3 ?_
      show w 0 11 = y2
      exact E3.2 0 11 rfl
  refine hP _ _ _ _ _ ?_
  exact key m 0 F v (by omega) tR.rf R.t ez
-- the reference
theorem tM.z {f g : Nat → Int32} {s : xS} {X : xXt} (T : tM f s X) (I : cIv s X) (z : Int32) (g0 : ∀ j, j < 230 → ¬ j = 1 → g j = f j) : tM g (lsS s z) X := by
  have c8 := bel_nat I.1.1 (by omega)
  have c7 := bel_nat I.1.2 (by omega)
  obtain ⟨⟨a1, a2, a3, a4⟩, b, d, x, l0, l1⟩ := T
  refine ⟨⟨(g0 3 (by omega) (by omega)).trans a1, (g0 2 (by omega) (by omega)).trans a2, (g0 0 (by omega) (by omega)).trans a3, (g0 8 (by omega) (by omega)).trans a4⟩, fun j hj => ?_, fun j hj => ?_, fun j hj => ?_, ?_, ?_⟩
  · have hj : j < nat (s 6 0) := hj
    rw [g0 (9 + 2 * j) (by omega) (by omega), g0 (9 + 2 * j + 1) (by omega) (by omega)]
    exact b j hj
  · have hj : j < nat (s 6 1) := hj
    rw [g0 (25 + 5 * j + 0) (by omega) (by omega), g0 (25 + 5 * j + 1) (by omega) (by omega)]
    exact d j hj
  · rw [g0 (25 + 5 * j + 2) (by omega) (by omega), g0 (25 + 5 * j + 3) (by omega) (by omega), g0 (25 + 5 * j + 4) (by omega) (by omega)]
    exact x j hj
  · exact l0.of (by decide) (g0 6 (by omega) (by omega)) (fun y a b => g0 y (by omega) (by omega))
  · exact l1.of (by decide) (g0 7 (by omega) (by omega)) (fun y a b => g0 y (by omega) (by omega))
theorem vR.both {v v' v2 : xS} (h : vR v v') (g : vR v' v2) : vR v v2 := fun j => by
  rcases g j with a | a
  · exact Or.inl a
  · rcases h j with b | b
    · exact Or.inl b
    · exact Or.inr (a.trans b)
set_option maxRecDepth 100000 in
theorem MX_loose (n : Nat) (σ : xZ) (F v : xS) (R : MR n σ F v) (x : Int32) {K : xKo} (h : mKy n (y_loose x σ) (z_loose x σ) K) : C_M_loose [.ref 0, .int x] (xfill F v 0 (wM0 0)) K := by
  obtain ⟨c, hc, es⟩ : below 9999 (σ.1.1 6 2) := R.1.1.1.2.2.1
  have ec : F 1 0 = nI c := R.n1.2.2.1.trans es
  have ez : F 1 1 = σ.1.1 6 3 := R.n1.2.2.2.1
  have en : nat (σ.1.1 6 2) = c := by rw [es]; exact nI_clamp (by omega)
  refine xM_go rfl 200 [(42, [0, 1, 2, 3])] fun P hP => ?_
  refine xcall (sp_in _ _ _ (fun a1 => ?_) (fun a1 => ?_))
  · rw [show (1 : Int32).toInt = 1 by decide, show (40 : Int32).toInt = 40 by decide] at a1
    refine br_n (fun z => absurd rfl z) (fun _ => ?_)
    refine xcall (sp_errM F v (-1000000001) 1 (by decide) (by decide) ?_)
    exact R.no h _ (if_neg fun z => a1 z.1) (if_neg a1)
  rw [show (1 : Int32).toInt = 1 by decide, show (40 : Int32).toInt = 40 by decide] at a1
  refine br_n (fun _ => ?_) (fun z => absurd z (by decide))
  obtain ⟨m, hm, rfl, em⟩ := nI_ofx x (n := 41) ⟨by omega, by omega⟩ (by decide)
  have ess : F 1 (Int32.toNatClampNeg 0) + nI m = nI (c + m) := by rw [nq0, ec, nI_add]
  refine ⟨vin (by decide), ?_⟩
  refine br_c (fun a3 => ?_) (fun a3 => ?_)
  rotate_left
  · have a3 : ¬ F 1 (Int32.toNatClampNeg 0) + nI m ≤ nI 9999 := a3
    rw [ess, nI_leI (by omega) (by omega)] at a3
    have c2 : ¬ nat (σ.1.1 6 2) + nat (nI m) ≤ 9999 := by omega
    refine xcall (sp_errM F v (-1000000003) 3 (by decide) (by decide) ?_)
    exact R.no h _ (if_neg fun z => c2 z.2) ((if_pos a1).trans (if_neg c2))
  have a3 : F 1 (Int32.toNatClampNeg 0) + nI m ≤ nI 9999 := a3
  rw [ess, nI_leI (by omega) (by omega)] at a3
  have c2 : nat (σ.1.1 6 2) + nat (nI m) ≤ 9999 := by omega
  unfold y_loose z_loose at h
  rw [if_pos ⟨a1, c2⟩, if_pos a1, if_pos c2, em] at h
  have LI := lzI.all es R.c R.2.1.1.2
  have key : ∀ (d i : Nat) (F' v' : xS), i + d = m → ((∀ k, ¬ k = 1 → F' k = F k) ∧ vR v v' ∧ ∀ j, j < 230 → r2 j = false → ¬ j = 1 → F' 1 j = F 1 j) → tM (F' 1) (lzG i (σ.1.1, σ.2.1)).1 (lzG i (σ.1.1, σ.2.1)).2 → F' 1 1 = (lzG i (σ.1.1, σ.2.1)).1 6 3 → xWP pg_M_loose K 42 [(0, .ref 0), (1, .int (nI m)), (2, .int (lzC i (σ.1.1, σ.2.1))), (3, .int (nI i))] [] (xfill F' v' 0 (wM0 0)) (0, 0) := by
    intro d
    induction d with
    | zero =>
      intro i F' v' hi E T e2
      have hi : i = m := hi
      subst hi
      obtain ⟨⟨⟨l0, l1, l2, l3⟩, l4⟩, ⟨l5, l6⟩, lI, lO⟩ := LI i
      refine xWP_go 100 [(42, [0, 1, 2, 3])] fun P hP => ?_
      refine br_c (fun _ => ?_) (fun z => absurd (nI_le (Nat.le_refl _) (by omega)) z)
      exact h F' v' (R.play (fun k hk => E.1 k hk.1) E.2.1 E.2.2 T ⟨⟨l0, l1, e2.symm, l2, l3⟩, l4⟩ ⟨c + i, by omega, l5⟩ ⟨lI, lO⟩)
    | succ d ih =>
      intro i F' v' hi E T e2
      obtain ⟨p, ep⟩ : ∃ p, p = lzG i (σ.1.1, σ.2.1) := ⟨_, rfl⟩
      have LIi := LI i
      have nx := ih (i + 1)
      have eG : lzG (i + 1) (σ.1.1, σ.2.1) = lz1 p := by rw [ep]; rfl
      have eC : lzC (i + 1) (σ.1.1, σ.2.1) = lzC i (σ.1.1, σ.2.1) + lzc p := by rw [ep]; rfl
      rw [eG, eC] at nx
      rw [← ep] at T e2 LIi
      obtain ⟨-, -, lI, lO⟩ := LIi
      refine xWP_go 100 [(42, [0, 1, 2, 3])] fun P hP => ?_
      refine br_c (fun z => absurd z (nI_ge (by omega) (by omega))) (fun _ => ?_)
      obtain ⟨y1, hy1⟩ : ∃ y, y = zS (F' 1 1) := ⟨_, rfl⟩
      obtain ⟨y2, hy2⟩ : ∃ y, y = zS y1 := ⟨_, rfl⟩
      have d1 : zS (p.1 6 3) = y1 := by rw [hy1, e2]
      have d2 : zS (zS (p.1 6 3)) = y2 := by rw [d1, hy2]
      have eP : lz1 p = (clS (lsS p.1 y2), ePlay (lsS p.1 y2) p.2 (mdV y1 6) (mdV y2 5)) := by unfold lz1; rw [d2, d1]
      have eQ : lzc p = nI (cnN (lsS p.1 y2) p.2 (mdV y1 6) (mdV y2 5)) := by unfold lzc; rw [d2, d1]
      rw [eP, eQ] at nx
      obtain ⟨u, hu, eu⟩ := md_in y2 (k := 5) (by decide) (by decide)
      have eu : mdV y2 5 = nI u := eu
      refine xcall (sx_drawn F' v' 6 y1 (by decide) hy1 ?_)
      refine xcall (sx_drawn (va_up F' 1 (upd (F' 1) 1 y1)) v' 5 y2 (by decide) hy2 ?_)
      have T2 : tM (upd (upd (F' 1) 1 y1) 1 y2) (lsS p.1 y2) p.2 := T.z lI y2 (fun j _ j1 => (pk_un j1).trans (pk_un j1))
      have I2 : cIv (lsS p.1 y2) p.2 := lI.ls y2
      have e15 : v' 0 15 = 0 := (E.2.1.at (j := 15) (by omega)).trans R.tk
      refine xcall (sx_callsE (va_up F' 1 (upd (upd (F' 1) 1 y1) 1 y2)) v' (lsS p.1 y2) p.2 T2 I2 (mdV y1 6) (mdV y2 5) u (by omega) eu e15 (fun F3 v3 G3 E3 T3 => ?_))
      refine xcall (sx_bits _ (stN (eHad (lsS p.1 y2) p.2 (mdV y1 6) (mdV y2 5)) (nat ((lsS p.1 y2) 6 1))) rfl (by have := st128 I2 (b := mdV y1 6) (t := mdV y2 5); omega) ?_)
      refine hP _ _ _ _ _ ?_
      rw [nI_1]
      refine nx F3 v3 (by omega) ⟨fun k hk => (G3 k hk).trans ((if_neg hk).trans (E.1 k hk)), E.2.1.both E3.2.2, fun j hj hr j1 => (E3.2.1 j hj hr).trans ((pk_un j1).trans ((pk_un j1).trans (E.2.2 j hj hr j1)))⟩ T3 ?_
      show F3 1 1 = y2
      refine (E3.2.1 1 (by omega) rfl).trans ?_
      show upd (upd (F' 1) 1 y1) 1 y2 1 = y2
      exact pk_us
  refine hP _ _ _ _ _ ?_
  exact key m 0 F v (by omega) ⟨fun _ _ => rfl, fun _ => Or.inr rfl, fun _ _ _ _ => rfl⟩ R.t ez
