/-! ===== the reference: plain methods on any state ===== -/
variable {Ψ : mRw → Prop}
theorem mTo.err {F v : xS} {g : xA → xA} {f : xA → Int32} {K : xKo} {k : Int32} (h : mTo Ψ F v g f K) (S : mS Ψ F v) (x : Nat → Int32) (eg : g (mA F v) = mA F v) (ef : f (mA F v) = k) : K (some (.int k)) (xfill (va_up F 5 x) v 0 (wM0 0)) := by
  have q := h (va_up F 5 x) v S (by rw [eg]; exact ⟨⟨⟨rfl, rfl, rfl, rfl, rfl, rfl⟩, fun _ _ => ⟨rfl, rfl⟩, fun _ _ => ⟨rfl, rfl⟩, fun _ _ => rfl, fun _ _ => rfl⟩, ⟨⟨fun _ _ => rfl, fun _ _ => rfl, fun _ _ => rfl, fun _ _ => rfl⟩, ⟨⟨rfl, rfl, rfl, rfl⟩, rfl, rfl, rfl, rfl⟩, ⟨rfl, rfl⟩, fun _ _ => rfl⟩, fun _ => ⟨⟨rfl, rfl, rfl, rfl, rfl, rfl⟩, fun _ _ => ⟨rfl, rfl⟩, fun _ _ => ⟨rfl, rfl⟩, fun _ _ => rfl, fun _ _ => rfl⟩⟩)
  rw [ef] at q
  exact q
theorem mTo.id {F v : xS} {g : xA → xA} {f : xA → Int32} {K : xKo} {k : Int32} (h : mTo Ψ F v g f K) (S : mS Ψ F v) (eg : g (mA F v) = mA F v) (ef : f (mA F v) = k) : K (some (.int k)) (xfill F v 0 (wM0 0)) := by
  have q := h F v S (by rw [eg]; exact agr.rf)
  rw [ef] at q
  exact q
theorem mTo.ok {F v F' v' : xS} {g : xA → xA} {f : xA → Int32} {K : xKo} {k : Int32} (h : mTo Ψ F v g f K) (S : mS Ψ F' v') (ea : agr (mA F' v') (g (mA F v))) (ef : f (mA F v) = k) : K (some (.int k)) (xfill F' v' 0 (wM0 0)) := by
  have q := h F' v' S ea
  rw [ef] at q
  exact q
theorem mTw.err {F v : xS} {g : xA → xA} {K : xKo} {k : Int32} (h : mTw Ψ F v g K) (S : mS Ψ F v) (x : Nat → Int32) (eg : g (mA F v) = mA F v) : K (some (.int k)) (xfill (va_up F 5 x) v 0 (wM0 0)) := h k (va_up F 5 x) v S (by rw [eg]; exact ⟨⟨⟨rfl, rfl, rfl, rfl, rfl, rfl⟩, fun _ _ => ⟨rfl, rfl⟩, fun _ _ => ⟨rfl, rfl⟩, fun _ _ => rfl, fun _ _ => rfl⟩, ⟨⟨fun _ _ => rfl, fun _ _ => rfl, fun _ _ => rfl, fun _ _ => rfl⟩, ⟨⟨rfl, rfl, rfl, rfl⟩, rfl, rfl, rfl, rfl⟩, ⟨rfl, rfl⟩, fun _ _ => rfl⟩, fun _ => ⟨⟨rfl, rfl, rfl, rfl, rfl, rfl⟩, fun _ _ => ⟨rfl, rfl⟩, fun _ _ => ⟨rfl, rfl⟩, fun _ _ => rfl, fun _ _ => rfl⟩⟩)
theorem mTw.id {F v : xS} {g : xA → xA} {K : xKo} {k : Int32} (h : mTw Ψ F v g K) (S : mS Ψ F v) (eg : g (mA F v) = mA F v) : K (some (.int k)) (xfill F v 0 (wM0 0)) := h k F v S (by rw [eg]; exact agr.rf)
theorem mX_eq {F : xS} {f : Nat → Int32} (h : ∀ j, exi j = true → f j = F 1 j) : mX (va_up F 1 f) = mX F := by
  have q : (fun j => if exi j then f j else 0) = (fun j => if exi j then F 1 j else 0) := by
    funext j
    cases e : exi j with
    | true => rw [if_pos rfl, if_pos rfl]; exact h j e
    | false => rw [if_neg Bool.false_ne_true, if_neg Bool.false_ne_true]
  show ((fun j => if exi j then f j else 0), (fun j => if exi j then F 2 j else 0)) = mX F
  rw [q]
  rfl
theorem mS.row {F v : xS} {f : Nat → Int32} (S : mS Ψ F v) (h : ∀ j, exi j = true → f j = F 1 j) : mS Ψ (va_up F 1 f) v := ⟨⟨by show (f 6).toInt ≤ 50; rw [h 6 rfl]; exact S.1.1, by show (f 7).toInt ≤ 50; rw [h 7 rfl]; exact S.1.2⟩, ⟨S.2.1.1, by rw [mX_eq h]; exact S.2.1.2⟩, S.2.2⟩
theorem mrow {F v : xS} {f : Nat → Int32} {s : xS} (hs : sAgr (mSt f) s) : agr (mA (va_up F 1 f) v) (s, (mA F v).2) := ⟨hs, ⟨⟨fun _ _ => rfl, fun _ _ => rfl, fun _ _ => rfl, fun _ _ => rfl⟩, ⟨⟨rfl, rfl, rfl, rfl⟩, rfl, rfl, rfl, rfl⟩, ⟨rfl, rfl⟩, fun _ _ => rfl⟩, fun _ => ⟨⟨rfl, rfl, rfl, rfl, rfl, rfl⟩, fun _ _ => ⟨rfl, rfl⟩, fun _ _ => ⟨rfl, rfl⟩, fun _ _ => rfl, fun _ _ => rfl⟩⟩
theorem mR.k {R : Nat → Bool} {F v F' v' : xS} (E : mR R F v F' v') {k : Nat} (h : ¬ k = 1 ∧ ¬ k = 3 ∧ ¬ k = 4 ∧ ¬ k = 5) : F' k = F k := by
  rcases E.1 k with e | e | e | e | e
  · exact absurd e h.1
  · exact absurd e h.2.1
  · exact absurd e h.2.2.1
  · exact absurd e h.2.2.2
  · exact e
theorem mR.v {R : Nat → Bool} {F v F' v' : xS} (E : mR R F v F' v') {j : Nat} (h : ¬ (7 ≤ j ∧ j < 15)) : v' 0 j = v 0 j := (E.2.2 j).elim (fun z => absurd z h) id
def okR (R : Nat → Bool) : Prop := ∀ j, R j = true → j = 0 ∨ j = 1 ∨ r1 j = true
theorem ok_r1 : okR r1 := fun _ z => Or.inr (Or.inr z)
theorem ok_r0 : okR r0 := fun _ z => (Bool.false_ne_true z).elim
theorem xin_ex {N : Nat} {x k : Int32} (b : below N x) (hN : N < 2 ^ 31) (h : xin k x.toInt) : ∃ i, i < N ∧ k = nI i ∧ nat k = i ∧ i < nat x := by
  have lt := xin_nat b hN h
  have le := bel_nat b hN
  obtain ⟨m, hm, rfl⟩ := b
  rw [nI_toInt (by omega)] at h
  obtain ⟨i, hi, e, ei⟩ := nI_ofx k h (by omega)
  exact ⟨i, by omega, e, ei, by omega⟩
theorem ok_r2 : okR r2 := fun j z => by
  simp only [r2, Bool.or_eq_true, beq_iff_eq] at z
  exact z.elim (fun y => Or.inr (Or.inr y)) Or.inl
theorem r1_f {j : Nat} (h : ¬ j = 8) (g : j < 25 ∨ 60 ≤ j ∨ (j - 25) % 5 < 2) : r1 j = false := by
  have q1 : (j == 8) = false := by simpa using h
  unfold r1
  rw [q1, Bool.false_or]
  rcases g with g | g | g
  · have q : Nat.ble 25 j = false := Bool.eq_false_iff.mpr fun z => by have := Nat.le_of_ble_eq_true z; omega
    rw [q]; rfl
  · have q : Nat.blt j 60 = false := Bool.eq_false_iff.mpr fun z => by have := Nat.le_of_ble_eq_true z; omega
    rw [q, Bool.and_false]; rfl
  · have q : Nat.ble 2 ((j - 25) % 5) = false := Bool.eq_false_iff.mpr fun z => by have := Nat.le_of_ble_eq_true z; omega
    rw [q, Bool.and_false]
theorem okR.f {R : Nat → Bool} (o : okR R) {j : Nat} (h : ¬ j = 8 ∧ ¬ j = 0 ∧ ¬ j = 1) (g : j < 25 ∨ 60 ≤ j ∨ (j - 25) % 5 < 2) : R j = false := Bool.eq_false_iff.mpr fun z => by
  rcases o j z with e | e | e
  · exact h.2.1 e
  · exact h.2.2 e
  · rw [r1_f h.1 g] at e; exact absurd e (by decide)
theorem mR.st {R : Nat → Bool} {F v F' v' : xS} (o : okR R) (E : mR R F v F' v') (J : sIv (mSt (F 1))) {a b : Int32} (ha : F' 1 0 = a) (hb : F' 1 1 = b) : sAgr (mSt (F' 1)) (va_up (mSt (F 1)) 6 (upd (upd (mSt (F 1) 6) 2 a) 3 b)) := by
  have g := fun (j : Nat) (l : j < 230) (h : ¬ j = 8 ∧ ¬ j = 0 ∧ ¬ j = 1) (g : j < 25 ∨ 60 ≤ j ∨ (j - 25) % 5 < 2) => E.2.1 j l (o.f h g)
  have e3 := g 3 (by omega) (by omega) (by omega)
  have e2 := g 2 (by omega) (by omega) (by omega)
  have e4 := g 4 (by omega) (by omega) (by omega)
  have e5 := g 5 (by omega) (by omega) (by omega)
  have n3 : nat (F 1 3) ≤ 8 := bel_nat J.1.1 (by omega)
  have n2 : nat (F 1 2) ≤ 7 := bel_nat J.1.2.1 (by omega)
  have n4 : nat (F 1 4) ≤ 50 := bel_nat J.1.2.2.2.1 (by omega)
  have n5 : nat (F 1 5) ≤ 20 := bel_nat J.1.2.2.2.2 (by omega)
  refine ⟨⟨e3, e2, ha, hb, e4, e5⟩, fun j hj => ?_, fun j hj => ?_, fun j hj => ?_, fun j hj => ?_⟩
  · have hj : j < nat (F' 1 3) := hj
    rw [e3] at hj
    exact ⟨g (9 + 2 * j) (by omega) (by omega) (by omega), g (9 + 2 * j + 1) (by omega) (by omega) (by omega)⟩
  · have hj : j < nat (F' 1 2) := hj
    rw [e2] at hj
    exact ⟨g (25 + 5 * j + 0) (by omega) (by omega) (by omega), g (25 + 5 * j + 1) (by omega) (by omega) (by omega)⟩
  · have hj : j < nat (F' 1 4) := hj
    rw [e4] at hj
    exact g (60 + j) (by omega) (by omega) (by omega)
  · have hj : j < nat (F' 1 5) := hj
    rw [e5] at hj
    exact g (110 + j) (by omega) (by omega) (by omega)
theorem mR.agr2 {R : Nat → Bool} {n : Nat} {F v F' v' : xS} (o : okR R) (E : mR R F v F' v') (I : aIv n (mA F v)) {a b : Int32} (ha : F' 1 0 = a) (hb : F' 1 1 = b) : agr (mA F' v') (va_up (mA F v).1 6 (upd (upd ((mA F v).1 6) 2 a) 3 b), (mA F v).2) := by
  refine ⟨E.st o I.1 ha hb, ?_, fun _ => ?_⟩
  · have e6 := E.k (k := 6) (by decide)
    have e7 := E.k (k := 7) (by decide)
    have e8 := E.k (k := 8) (by decide)
    have e10 := E.k (k := 10) (by decide)
    have q : mRs F' v' = mRs F v := by
      unfold mRs
      rw [e6, e7, e8, e10, E.v (j := 5) (by decide), E.v (j := 21) (by decide)]
    show rAgr (mRs F' v') (mRs F v)
    rw [q]
    exact rAgr.rf
  · show sAgr (mSt (F' 2)) (mSt (F 2))
    rw [E.k (k := 2) (by decide)]
    exact sAgr.rf
theorem mR.agr {R : Nat → Bool} {n : Nat} {F v F' v' : xS} (o : okR R) (E : mR R F v F' v') (I : aIv n (mA F v)) (h0 : R 0 = false) (h1 : R 1 = false) : agr (mA F' v') (mA F v) := by
  refine (E.agr2 o I (E.2.1 0 (by omega) h0) (E.2.1 1 (by omega) h1)).tr ⟨⟨⟨rfl, rfl, rfl, rfl, rfl, rfl⟩, fun _ _ => ⟨rfl, rfl⟩, fun _ _ => ⟨rfl, rfl⟩, fun _ _ => rfl, fun _ _ => rfl⟩, ⟨⟨fun _ _ => rfl, fun _ _ => rfl, fun _ _ => rfl, fun _ _ => rfl⟩, ⟨⟨rfl, rfl, rfl, rfl⟩, rfl, rfl, rfl, rfl⟩, ⟨rfl, rfl⟩, fun _ _ => rfl⟩, fun _ => ⟨⟨rfl, rfl, rfl, rfl, rfl, rfl⟩, fun _ _ => ⟨rfl, rfl⟩, fun _ _ => ⟨rfl, rfl⟩, fun _ _ => rfl, fun _ _ => rfl⟩⟩
theorem mR.er {R : Nat → Bool} {F v F' v' : xS} {x : Nat → Int32} (E : mR R F v F' v') : mR R F v (va_up F' 5 x) v' := E.f3 (Or.inr (Or.inr rfl))
theorem mR.c0 {F v F' v' : xS} (E : mR r0 F v F' v') : mR r1 F v F' v' := E.wd (fun _ _ => rfl)
theorem sp_inx (x m : Int32) (n : Int) (hm : m.toInt + 1 = n) {K : xKo} (h0 : ¬ xin x n → K (some (.int 0)) []) (h1 : xin x n → K (some (.int 1)) []) : C_M_in [.int x, .int 0, .int m] [] K := by
  refine sp_in x 0 m (fun a => h0 fun z => ?_) (fun a => h1 ?_)
  · rw [show (0 : Int32).toInt = 0 by decide] at a
    simp only [xin] at z
    omega
  · rw [show (0 : Int32).toInt = 0 by decide] at a
    simp only [xin]
    omega
set_option maxRecDepth 100000 in
theorem sp_addsM (F v : xS) (c m : Int32) (k : Nat) (hk : k < 8) (e : F 1 3 = nI k) {K : xKo} (h : ∀ f : Nat → Int32, (∀ i, ¬ i = 9 + 2 * k → ¬ i = 9 + 2 * k + 1 → ¬ i = 3 → f i = F 1 i) → f (9 + 2 * k) = c → f (9 + 2 * k + 1) = m → f 3 = nI (k + 1) → K none (xfill (va_up F 1 f) v 0 (wM0 0))) : C_M_adds [.ref 0, .int c, .int m] (xfill F v 0 (wM0 0)) K := by
  have e0 : F 1 (Int32.toNatClampNeg 3) = nI k := e
  have n3 : Int32.toNatClampNeg 3 = 3 := by decide
  have n9 : Int32.toNatClampNeg (9 + 2 * nI k) = 9 + 2 * k := nc2 (by omega)
  have n10 : Int32.toNatClampNeg (9 + 2 * nI k + 1) = 9 + 2 * k + 1 := nc21 (by omega)
  have d3 : (3 : Nat) ≠ 9 + 2 * k := by omega
  have d4 : (3 : Nat) ≠ 9 + 2 * k + 1 := by omega
  refine xM_go rfl 60 [] fun P hP => ?_
  refine ⟨vin (by decide), ?_⟩
  refine ⟨by show vp_in (9 + 2 * F 1 (Int32.toNatClampNeg 3)) 230; rw [e0]; exact vc2 hk, ?_⟩
  refine ⟨vin (by decide), ?_⟩
  refine ⟨by show vp_in (9 + 2 * upd (F 1) (9 + 2 * F 1 (Int32.toNatClampNeg 3)).toNatClampNeg c (Int32.toNatClampNeg 3) + 1) 230; rw [e0, n9, n3, pk_un d3, e]; exact vc21 hk, ?_⟩
  refine ⟨vin (by decide), ?_⟩
  refine ⟨vin (by decide), ?_⟩
  have fin := h (upd (upd (upd (F 1) (9 + 2 * k) c) (9 + 2 * k + 1) m) 3 (nI k + 1)) (fun i h1 h2 h3 => ?_) ?_ ?_ ?_
  rotate_left
  · rw [pk_un h3, pk_un h2, pk_un h1]
  · rw [pk_un (by omega), pk_un (by omega), pk_us]
  · rw [pk_un (by omega), pk_us]
  · rw [pk_us, nI_1]
  have q : ∀ f, f = upd (upd (upd (F 1) (9 + 2 * k) c) (9 + 2 * k + 1) m) 3 (nI k + 1) → K none (xfill (va_up F 1 f) v 0 (wM0 0)) := fun f ef => by rw [ef]; exact fin
  refine q (upd (upd (upd (F 1) (9 + 2 * F 1 (Int32.toNatClampNeg 3)).toNatClampNeg c) (9 + 2 * upd (F 1) (9 + 2 * F 1 (Int32.toNatClampNeg 3)).toNatClampNeg c (Int32.toNatClampNeg 3) + 1).toNatClampNeg m) (Int32.toNatClampNeg 3) (upd (upd (F 1) (9 + 2 * F 1 (Int32.toNatClampNeg 3)).toNatClampNeg c) (9 + 2 * upd (F 1) (9 + 2 * F 1 (Int32.toNatClampNeg 3)).toNatClampNeg c (Int32.toNatClampNeg 3) + 1).toNatClampNeg m (Int32.toNatClampNeg 3) + 1)) ?_
  rw [e0, n9, n3, pk_un d3, e, n10, pk_un d4, pk_un d3, e]
set_option maxRecDepth 100000 in
theorem ms_thing (n : Nat) (F v : xS) (I : aIv n (mA F v)) (S : mS Ψ F v) (a b : Int32) {K : xKo} (h : mTo Ψ F v (g_thing a b) (f_thing a b) K) : C_M_thing [.ref 0, .int a, .int b] (xfill F v 0 (wM0 0)) K := by
  have b3 : below 8 (F 1 3) := I.1.1.1
  have b2 : below 7 (F 1 2) := I.1.1.2.1
  have b4 : below 50 (F 1 4) := I.1.1.2.2.2.1
  have b5 : below 20 (F 1 5) := I.1.1.2.2.2.2
  obtain ⟨k, hk, e⟩ := id b3
  have en : nat (F 1 3) = k := by rw [e]; exact nI_clamp (by omega)
  refine xM_go rfl 100 [] fun P hP => ?_
  refine xcall (sp_isCell _ (fun a1 => ?_) (fun a1 => ?_))
  · refine br_c (fun _ => ?_) (fun z => absurd rfl z)
    refine xcall (sp_errM F v (-1000000001) 1 (by decide) (by decide) ?_)
    exact h.err S _ (if_neg fun z => a1 z.1.1) (if_neg fun z => a1 z.1)
  refine br_c (fun z => absurd z (by decide)) (fun _ => ?_)
  refine xcall (sp_inx _ 63 64 (by decide) (fun a2 => ?_) (fun a2 => ?_))
  · refine br_n (fun z => absurd rfl z) (fun _ => ?_)
    refine xcall (sp_errM F v (-1000000001) 1 (by decide) (by decide) ?_)
    exact h.err S _ (if_neg fun z => a2 z.1.2) (if_neg fun z => a2 z.2)
  refine br_n (fun _ => ?_) (fun z => absurd z (by decide))
  refine ⟨vin (by decide), ?_⟩
  refine br_n (fun a3 => ?_) (fun a3 => ?_)
  · have a3 : ¬ F 1 3 = nI 8 := a3
    have k8 : k < 8 := by
      have : ¬ k = 8 := fun z => a3 (by rw [e, z])
      omega
    have c8 : nat (F 1 3) < 8 := by omega
    refine xcall (sp_addsM F v a b k k8 e fun f f1 f2 f3 f4 => ?_)
    refine ⟨vin (by decide), ?_⟩
    have fin : K (some (.int (F 1 3))) (xfill (va_up F 1 f) v 0 (wM0 0)) := by
      refine h.ok (F' := va_up F 1 f) (v' := v) (S.row (fun j hj => by have q := exi_in hj; exact f1 j (by omega) (by omega) (by omega))) ?_ ((if_pos ⟨a1, a2⟩).trans (if_pos c8))
      rw [show g_thing a b (mA F v) = _ from if_pos ⟨⟨a1, a2⟩, c8⟩]
      refine mrow ⟨⟨by show f 3 = F 1 3 + 1; rw [f4, e, nI_1], f1 2 (by omega) (by omega) (by omega), f1 0 (by omega) (by omega) (by omega), f1 1 (by omega) (by omega) (by omega), f1 4 (by omega) (by omega) (by omega), f1 5 (by omega) (by omega) (by omega)⟩, fun j hj => ?_, fun j hj => ?_, fun j hj => ?_, fun j hj => ?_⟩
      · have hj : j < nat (f 3) := hj
        rw [f4, show nat (nI (k + 1)) = k + 1 from nI_clamp (by omega)] at hj
        show f (9 + 2 * j) = upd (mSt (F 1) 0) (nat (F 1 3)) a j ∧ f (9 + 2 * j + 1) = upd (mSt (F 1) 1) (nat (F 1 3)) b j
        rw [en]
        by_cases jk : j = k
        · subst jk
          rw [pk_us, pk_us]
          exact ⟨f2, f3⟩
        · rw [pk_un jk, pk_un jk]
          exact ⟨f1 _ (by omega) (by omega) (by omega), f1 _ (by omega) (by omega) (by omega)⟩
      · have hj : j < nat (f 2) := hj
        rw [f1 2 (by omega) (by omega) (by omega)] at hj
        have := bel_nat b2 (by omega)
        exact ⟨f1 (25 + 5 * j + 0) (by omega) (by omega) (by omega), f1 (25 + 5 * j + 1) (by omega) (by omega) (by omega)⟩
      · exact f1 (60 + j) (by omega) (by omega) (by omega)
      · exact f1 (110 + j) (by omega) (by omega) (by omega)
    have ev : F 1 3 = f (Int32.toNatClampNeg 3) - 1 := by
      show F 1 3 = f 3 - 1
      rw [f4, nI_pred, e]
    rw [ev] at fin
    exact fin
  · have a3 : F 1 3 = nI 8 := a3
    have c8 : ¬ nat (F 1 3) < 8 := by rw [a3]; decide
    refine xcall (sp_errM F v (-1000000004) 4 (by decide) (by decide) ?_)
    exact h.err S _ (if_neg fun z => c8 z.2) ((if_pos ⟨a1, a2⟩).trans (if_neg c8))
set_option maxRecDepth 100000 in
theorem ms_ofThing (n : Nat) (F v : xS) (I : aIv n (mA F v)) (S : mS Ψ F v) (i w : Int32) {K : xKo} (h : mTo Ψ F v (fun s => s) (f_ofThing i w) K) : C_M_ofThing [.ref 0, .int i, .int w] (xfill F v 0 (wM0 0)) K := by
  refine xM_go rfl 100 [] fun P hP => ?_
  refine xcall (sp_isThingM F v _ I.1.1.1 (fun a1 => ?_) (fun a1 => ?_))
  · refine br_c (fun _ => ?_) (fun z => absurd rfl z)
    refine xcall (sp_errM F v (-1000000001) 1 (by decide) (by decide) ?_)
    exact h.err S _ rfl (if_neg fun z => a1 z.1)
  refine br_c (fun z => absurd z (by decide)) (fun _ => ?_)
  refine xcall (sp_inx _ 1 2 (by decide) (fun a2 => ?_) (fun a2 => ?_))
  · refine br_c (fun _ => ?_) (fun z => absurd rfl z)
    refine xcall (sp_errM F v (-1000000001) 1 (by decide) (by decide) ?_)
    exact h.err S _ rfl (if_neg fun z => a2 z.2)
  refine br_c (fun z => absurd z (by decide)) (fun _ => ?_)
  obtain ⟨k, hk, rfl, ek, lt⟩ := xin_ex I.1.1.1 (by omega) a1
  obtain ⟨j, hj, rfl, ej⟩ := nI_ofx w (n := 2) a2 (by decide)
  rcases (show j = 0 ∨ j = 1 by omega) with z | z
  · subst z
    have b0 : vp_in ((9 : Int32) + 2 * nI k + nI 0) 230 := by rw [ix2, nI_add]; exact vp_in_nI (by omega) (by omega)
    refine ⟨b0, ?_⟩
    have q : K (some (.int (F 1 (9 + 2 * k)))) (xfill F v 0 (wM0 0)) := h.id S rfl ((if_pos ⟨a1, a2⟩).trans ((if_pos rfl).trans (by show F 1 (9 + 2 * nat (nI k)) = _; rw [ek])))
    rw [show 9 + 2 * k = nat ((9 : Int32) + 2 * nI k + nI 0) by rw [ix2, nI_add]; exact (nI_clamp (by omega)).symm] at q
    exact q
  · subst z
    have b0 : vp_in ((9 : Int32) + 2 * nI k + nI 1) 230 := by rw [ix2, nI_add]; exact vp_in_nI (by omega) (by omega)
    refine ⟨b0, ?_⟩
    have q : K (some (.int (F 1 (9 + 2 * k + 1)))) (xfill F v 0 (wM0 0)) := h.id S rfl ((if_pos ⟨a1, a2⟩).trans ((if_neg (by decide)).trans (by show F 1 (9 + 2 * nat (nI k) + 1) = _; rw [ek])))
    rw [show 9 + 2 * k + 1 = nat ((9 : Int32) + 2 * nI k + nI 1) by rw [ix2, nI_add]; exact (nI_clamp (by omega)).symm] at q
    exact q
