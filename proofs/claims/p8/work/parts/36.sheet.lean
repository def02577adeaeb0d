/-! ===== the tried side: sheets ===== -/
variable {Φ : hRw → Prop}
theorem sp_fill1 (n : Nat) (hn : n ≤ 1000) (x : Int32) (f : Nat → Int32) {K : xKo} (h : ∀ g, (∀ j, j < n → g j = x) → (∀ j, n ≤ j → g j = f j) → K none [.inl (n, g)]) : C_Y_fill [.ref 0, .int x] [.inl (n, f)] K := by
  refine xM_go rfl 100 [(5, [0, 1, 2, 3])] fun P hP => ?_
  refine hP _ _ _ _ _ ?_
  have key : ∀ (d k : Nat) (g : Nat → Int32), k + d = n → (∀ j, j < k → g j = x) → (∀ j, k ≤ j → g j = f j) → xWP pg_Y_fill K 5 [(0, .ref 0), (1, .int x), (2, .int (nI k)), (3, .int (nI n))] [] [.inl (n, g)] (0, 0) := by
    intro d
    induction d with
    | zero =>
      intro k g hk h1 h2
      have hk : k = n := hk
      subst hk
      refine xWP_go 100 [(5, [0, 1, 2, 3])] fun P hP => ?_
      refine br_c (fun e => ?_) (fun e => absurd (nI_le (Nat.le_refl _) (by omega)) e)
      exact h g h1 h2
    | succ d ih =>
      intro k g hk h1 h2
      have e1 : (nI k).toNatClampNeg = k := nI_clamp (by omega)
      refine xWP_go 100 [(5, [0, 1, 2, 3])] fun P hP => ?_
      refine br_c (fun e => absurd e (nI_ge (by omega) (by omega))) (fun e => ?_)
      refine ⟨vp_in_nI (by omega) (by omega), ?_⟩
      refine hP _ _ _ _ _ ?_
      rw [e1, nI_1]
      refine ih (k + 1) _ (by omega) (fun j hj => ?_) (fun j hj => ?_)
      · by_cases hjk : j = k
        · subst hjk; exact pk_us
        · rw [pk_un hjk]; exact h1 j (by omega)
      · rw [pk_un (by omega)]; exact h2 j (by omega)
  exact key n 0 f (Nat.zero_add n) (fun j hj => absurd hj (Nat.not_lt_zero j)) (fun j _ => rfl)
theorem sp_fill2 (n : Nat) (hn : n ≤ 1000) (x : Int32) (f : Nat → Int32) {K : xKo} (h : ∀ g : Nat → Int32, (∀ j, j < n → g j = x) → K none [.inl (n, g)]) : C_Y_fill [.ref 0, .int x] [.inl (n, f)] K := sp_fill1 n hn x f fun g g1 _ => h g g1
theorem sp_begin (F v : xS) (b n : Int32) {K : xKo} (h : ∀ g : Nat → Int32, (∀ j, j < 40 → g j = 0) → K none (xfill (va_up F 1 g) (va_up v 0 (va_up (va_up (v 0) 2 b) 1 n)) 0 (wS0 0))) : C_S_begin [.ref 0, .int b, .int n] (xfill F v 0 (wS0 0)) K := by
  refine xM_go rfl 60 [] fun P hP => ?_
  refine xcall (sp_fill2 40 (by decide) 0 (F 1) (fun g g1 => ?_))
  exact h g g1
theorem sp_isMissing (F v : xS) {K : xKo} (h0 : ¬ v 0 2 = 0 → K (some (.int 0)) (xfill F v 0 (wS0 0))) (h1 : v 0 2 = 0 → K (some (.int 1)) (xfill F v 0 (wS0 0))) : C_S_isMissing [.ref 0] (xfill F v 0 (wS0 0)) K := by
  refine xM_go rfl 60 [] fun P hP => ?_
  refine br_n (fun e => ?_) (fun e => ?_)
  · exact ⟨Or.inl rfl, h0 e⟩
  · exact ⟨Or.inr rfl, h1 e⟩
theorem sp_write (F v : xS) (i x : Int32) (hi : vp_in i 40) {K : xKo} (h : K none (xfill (va_up F 1 (upd (F 1) (nat i) (bare (v 0 2) x))) v 0 (wS0 0))) : C_S_write [.ref 0, .int i, .int x] (xfill F v 0 (wS0 0)) K := by
  unfold bare at h
  refine xM_go rfl 60 [] fun P hP => ?_
  refine br_n (fun e => ?_) (fun e => ?_)
  · have e : ¬ v 0 2 = 8 := e
    rw [if_neg e] at h
    refine br_n (fun d => ?_) (fun d => ?_)
    · have d : ¬ v 0 2 = 16 := d
      rw [if_neg d] at h
      exact ⟨hi, h⟩
    · have d : v 0 2 = 16 := d
      rw [if_pos d] at h
      exact ⟨hi, h⟩
  · have e : v 0 2 = 8 := e
    rw [if_pos e] at h
    exact ⟨hi, h⟩
theorem sp_hasRun (F v : xS) (i n : Int32) (b : below 40 (v 0 1)) {K : xKo} (h0 : ¬ (0 ≤ i.toInt ∧ 0 ≤ n.toInt ∧ i.toInt + n.toInt ≤ (v 0 1).toInt) → K (some (.int 0)) (xfill F v 0 (wS0 0))) (h1 : 0 ≤ i.toInt ∧ 0 ≤ n.toInt ∧ i.toInt + n.toInt ≤ (v 0 1).toInt → K (some (.int 1)) (xfill F v 0 (wS0 0))) : C_S_hasRun [.ref 0, .int i, .int n] (xfill F v 0 (wS0 0)) K := by
  obtain ⟨k, hk, e⟩ := b
  have ek : (v 0 1).toInt = k := by rw [e]; exact nI_toInt (by omega)
  refine xM_go rfl 60 [] fun P hP => ?_
  refine br_c (fun a1 => ?_) (fun a1 => ?_)
  · exact ⟨Or.inl rfl, h0 fun z => by simp only [xlt, Int32.reduceToInt] at a1; omega⟩
  refine br_c (fun a2 => ?_) (fun a2 => ?_)
  · exact ⟨Or.inl rfl, h0 fun z => by simp only [xlt, Int32.reduceToInt] at a2; omega⟩
  refine br_c (fun a3 => ?_) (fun a3 => ?_)
  · have a3 : v 0 1 < i := a3
    exact ⟨Or.inl rfl, h0 fun z => by rw [xlt] at a3; omega⟩
  have a3 : ¬ v 0 1 < i := a3
  have es : (v 0 1 - i).toInt = k - i.toInt := by
    obtain ⟨j, hj, rfl, -⟩ := nI_ofx i (n := 41) (by simp only [xlt, Int32.reduceToInt] at a1 a3; exact ⟨by omega, by omega⟩) (by decide)
    rw [e, pk_sub_toInt (by omega) (by omega), nI_toInt (by omega)]
  refine br_c (fun a4 => ?_) (fun a4 => ?_)
  · have a4 : v 0 1 - i < n := a4
    exact ⟨Or.inl rfl, h0 fun z => by rw [xlt] at a4; omega⟩
  · have a4 : ¬ v 0 1 - i < n := a4
    exact ⟨Or.inr rfl, h1 (by simp only [xlt, Int32.reduceToInt] at a1 a2 a3 a4; omega)⟩
def okBits (b : Int32) : Prop := b = 0 ∨ b = 8 ∨ b = 16 ∨ b = 32
def g_sheet (s b n : Int32) (q : xA) : xA := if xin s 4 ∧ (b = 0 ∨ ((b = 8 ∨ b = 16 ∨ b = 32) ∧ xin n 41)) then (q.1, q.2.1, va_up (va_up (va_up q.2.2 (nat s) (fun _ => 0)) 4 (upd (q.2.2 4) (nat s) (if b = 0 then 0 else n))) 5 (upd (q.2.2 5) (nat s) b)) else q
def f_sheet (s b n : Int32) (q : xA) : Int32 := if xin s 4 ∧ (b = 0 ∨ b = 8 ∨ b = 16 ∨ b = 32) then (if b = 0 then 1 else if n.toInt < 0 then -1000000003 else if 40 < n.toInt then -1000000001 else 1) else -1000000001
def g_put (s i x : Int32) (q : xA) : xA := if xin s 4 ∧ ¬ q.2.2 5 (nat s) = 0 ∧ xin i (q.2.2 4 (nat s)).toInt then (q.1, q.2.1, va_up q.2.2 (nat s) (upd (q.2.2 (nat s)) (nat i) (bare (q.2.2 5 (nat s)) x))) else q
def f_put (s i x : Int32) (q : xA) : Int32 := if xin s 4 then (if q.2.2 5 (nat s) = 0 then -1000000002 else if xin i (q.2.2 4 (nat s)).toInt then 1 else -1000000001) else -1000000001
set_option maxRecDepth 100000 in
theorem hs_sheet (n : Nat) (F v : xS) (I : aIv n (hA F v)) (S : hS Φ F v) (s b n : Int32) {K : xKo} (h : hTo Φ F v (g_sheet s b n) (f_sheet s b n) K) : C_H_sheet [.ref 0, .int s, .int b, .int n] (xfill F v 0 wH0) K := by
  have go0 : b = 0 → xin s 4 → ∀ (P : Nat → xL → List Value → xW → xB → Prop) , True := fun _ _ _ => trivial
  refine xM_go rfl 100 [(36, [0, 1, 2, 3])] fun P hP => ?_
  have go : xin s 4 → (b = 0 ∨ b = 8 ∨ b = 16 ∨ b = 32) → xWP pg_H_sheet K 36 [(0, .ref 0), (1, .int s), (2, .int b), (3, .int n)] [] (xfill F v 0 wH0) (0, 0) := by
    intro a1 hb
    refine xWP_go 100 [] fun P hP => ?_
    refine br_n (fun b0 => ?_) (fun b0 => ?_)
    · have nb : ¬ b = 0 := b0
      have hb3 : b = 8 ∨ b = 16 ∨ b = 32 := by
        rcases hb with y | y
        · exact absurd y nb
        · exact y
      refine br_c (fun c0 => ?_) (fun c0 => ?_)
      · have c0 : 0 ≤ n := c0
        refine br_c (fun c1 => ?_) (fun c1 => ?_)
        · have c1 : n ≤ 40 := c1
          have hn : xin n 41 := by
            rw [xle] at c0 c1
            exact ⟨c0, by rw [show (40 : Int32).toInt = 40 by decide] at c1; omega⟩
          have ef : f_sheet s b n (hA F v) = 1 := (if_pos ⟨a1, hb⟩).trans ((if_neg nb).trans ((if_neg (by simp only [xin] at hn; omega)).trans (if_neg (by simp only [xin] at hn; omega))))
          have eg : g_sheet s b n (hA F v) = ((hA F v).1, (hA F v).2.1, va_up (va_up (va_up (hA F v).2.2 (nat s) (fun _ => 0)) 4 (upd ((hA F v).2.2 4) (nat s) n)) 5 (upd ((hA F v).2.2 5) (nat s) b)) := (if_pos ⟨a1, Or.inr ⟨hb3, hn⟩⟩).trans (by rw [if_neg nb])
          refine ⟨vin a1, ⟨fun es0 => ?_, ⟨fun es0 => ?_, ⟨fun es0 => ?_, ⟨fun es0 => ?_, trivial⟩⟩⟩⟩⟩
          · have es : nat s = 0 := by rw [es0]; decide
            refine xcall (sp_begin (fun k => F (61 + k)) (fun k => v (61 + k)) b n (fun g hg => ?_))
            refine h.ok (F' := va_up F 62 g) (v' := va_up v 61 (va_up (va_up (v 61) 2 b) 1 n)) S ?_ ef
            rw [eg, es]
            exact ⟨⟨⟨rfl, rfl, rfl, rfl, rfl, rfl⟩, fun _ _ => ⟨rfl, rfl⟩, fun _ _ => ⟨rfl, rfl⟩, fun _ _ => rfl, fun _ _ => rfl⟩, ⟨⟨fun j hj => hg j hj, fun _ _ => rfl, fun _ _ => rfl, fun _ _ => rfl⟩, ⟨⟨rfl, rfl, rfl, rfl⟩, rfl, rfl, rfl, rfl⟩, ⟨rfl, rfl⟩, fun _ _ => rfl⟩, fun _ => ⟨⟨rfl, rfl, rfl, rfl, rfl, rfl⟩, fun _ _ => ⟨rfl, rfl⟩, fun _ _ => ⟨rfl, rfl⟩, fun _ _ => rfl, fun _ _ => rfl⟩⟩
          · have es : nat s = 1 := by rw [es0]; decide
            refine xcall (sp_begin (fun k => F (63 + k)) (fun k => v (63 + k)) b n (fun g hg => ?_))
            refine h.ok (F' := va_up F 64 g) (v' := va_up v 63 (va_up (va_up (v 63) 2 b) 1 n)) S ?_ ef
            rw [eg, es]
            exact ⟨⟨⟨rfl, rfl, rfl, rfl, rfl, rfl⟩, fun _ _ => ⟨rfl, rfl⟩, fun _ _ => ⟨rfl, rfl⟩, fun _ _ => rfl, fun _ _ => rfl⟩, ⟨⟨fun _ _ => rfl, fun j hj => hg j hj, fun _ _ => rfl, fun _ _ => rfl⟩, ⟨⟨rfl, rfl, rfl, rfl⟩, rfl, rfl, rfl, rfl⟩, ⟨rfl, rfl⟩, fun _ _ => rfl⟩, fun _ => ⟨⟨rfl, rfl, rfl, rfl, rfl, rfl⟩, fun _ _ => ⟨rfl, rfl⟩, fun _ _ => ⟨rfl, rfl⟩, fun _ _ => rfl, fun _ _ => rfl⟩⟩
          · have es : nat s = 2 := by rw [es0]; decide
            refine xcall (sp_begin (fun k => F (65 + k)) (fun k => v (65 + k)) b n (fun g hg => ?_))
            refine h.ok (F' := va_up F 66 g) (v' := va_up v 65 (va_up (va_up (v 65) 2 b) 1 n)) S ?_ ef
            rw [eg, es]
            exact ⟨⟨⟨rfl, rfl, rfl, rfl, rfl, rfl⟩, fun _ _ => ⟨rfl, rfl⟩, fun _ _ => ⟨rfl, rfl⟩, fun _ _ => rfl, fun _ _ => rfl⟩, ⟨⟨fun _ _ => rfl, fun _ _ => rfl, fun j hj => hg j hj, fun _ _ => rfl⟩, ⟨⟨rfl, rfl, rfl, rfl⟩, rfl, rfl, rfl, rfl⟩, ⟨rfl, rfl⟩, fun _ _ => rfl⟩, fun _ => ⟨⟨rfl, rfl, rfl, rfl, rfl, rfl⟩, fun _ _ => ⟨rfl, rfl⟩, fun _ _ => ⟨rfl, rfl⟩, fun _ _ => rfl, fun _ _ => rfl⟩⟩
          · have es : nat s = 3 := by rw [es0]; decide
            refine xcall (sp_begin (fun k => F (67 + k)) (fun k => v (67 + k)) b n (fun g hg => ?_))
            refine h.ok (F' := va_up F 68 g) (v' := va_up v 67 (va_up (va_up (v 67) 2 b) 1 n)) S ?_ ef
            rw [eg, es]
            exact ⟨⟨⟨rfl, rfl, rfl, rfl, rfl, rfl⟩, fun _ _ => ⟨rfl, rfl⟩, fun _ _ => ⟨rfl, rfl⟩, fun _ _ => rfl, fun _ _ => rfl⟩, ⟨⟨fun _ _ => rfl, fun _ _ => rfl, fun _ _ => rfl, fun j hj => hg j hj⟩, ⟨⟨rfl, rfl, rfl, rfl⟩, rfl, rfl, rfl, rfl⟩, ⟨rfl, rfl⟩, fun _ _ => rfl⟩, fun _ => ⟨⟨rfl, rfl, rfl, rfl, rfl, rfl⟩, fun _ _ => ⟨rfl, rfl⟩, fun _ _ => ⟨rfl, rfl⟩, fun _ _ => rfl, fun _ _ => rfl⟩⟩
        · have c1 : ¬ n ≤ 40 := c1
          have hn : ¬ xin n 41 := fun z => c1 (by rw [xle, show (40 : Int32).toInt = 40 by decide]; simp only [xin] at z; omega)
          have hn2 : 40 < n.toInt := by
            rw [xle, show (40 : Int32).toInt = 40 by decide] at c1
            omega
          refine xcall (sp_errH F v 1 (by decide) ?_)
          refine h.err S _ (if_neg fun z => ?_) ((if_pos ⟨a1, hb⟩).trans ((if_neg nb).trans ((if_neg (by omega)).trans (if_pos hn2))))
          rcases z.2 with y | y
          · exact nb y
          · exact hn y.2
      · have c0 : ¬ 0 ≤ n := c0
        have hn2 : n.toInt < 0 := by
          rw [xle, show (0 : Int32).toInt = 0 by decide] at c0
          omega
        refine xcall (sp_errH F v 3 (by decide) ?_)
        refine h.err S _ (if_neg fun z => ?_) ((if_pos ⟨a1, hb⟩).trans ((if_neg nb).trans (if_pos hn2)))
        rcases z.2 with y | y
        · exact nb y
        · have y2 := y.2
          simp only [xin] at y2
          omega
    · have b0 : b = 0 := b0
      subst b0
      refine ⟨vin a1, ⟨fun es0 => ?_, ⟨fun es0 => ?_, ⟨fun es0 => ?_, ⟨fun es0 => ?_, trivial⟩⟩⟩⟩⟩
      · have es : nat s = 0 := by rw [es0]; decide
        refine xcall (sp_begin (fun k => F (61 + k)) (fun k => v (61 + k)) 0 0 (fun g hg => ?_))
        refine h.ok (F' := va_up F 62 g) (v' := va_up v 61 (va_up (va_up (v 61) 2 0) 1 0)) S ?_ ((if_pos ⟨a1, hb⟩).trans (if_pos rfl))
        rw [show g_sheet s 0 n (hA F v) = _ from if_pos ⟨a1, Or.inl rfl⟩, es]
        exact ⟨⟨⟨rfl, rfl, rfl, rfl, rfl, rfl⟩, fun _ _ => ⟨rfl, rfl⟩, fun _ _ => ⟨rfl, rfl⟩, fun _ _ => rfl, fun _ _ => rfl⟩, ⟨⟨fun j hj => hg j hj, fun _ _ => rfl, fun _ _ => rfl, fun _ _ => rfl⟩, ⟨⟨rfl, rfl, rfl, rfl⟩, rfl, rfl, rfl, rfl⟩, ⟨rfl, rfl⟩, fun _ _ => rfl⟩, fun _ => ⟨⟨rfl, rfl, rfl, rfl, rfl, rfl⟩, fun _ _ => ⟨rfl, rfl⟩, fun _ _ => ⟨rfl, rfl⟩, fun _ _ => rfl, fun _ _ => rfl⟩⟩
      · have es : nat s = 1 := by rw [es0]; decide
        refine xcall (sp_begin (fun k => F (63 + k)) (fun k => v (63 + k)) 0 0 (fun g hg => ?_))
        refine h.ok (F' := va_up F 64 g) (v' := va_up v 63 (va_up (va_up (v 63) 2 0) 1 0)) S ?_ ((if_pos ⟨a1, hb⟩).trans (if_pos rfl))
        rw [show g_sheet s 0 n (hA F v) = _ from if_pos ⟨a1, Or.inl rfl⟩, es]
        exact ⟨⟨⟨rfl, rfl, rfl, rfl, rfl, rfl⟩, fun _ _ => ⟨rfl, rfl⟩, fun _ _ => ⟨rfl, rfl⟩, fun _ _ => rfl, fun _ _ => rfl⟩, ⟨⟨fun _ _ => rfl, fun j hj => hg j hj, fun _ _ => rfl, fun _ _ => rfl⟩, ⟨⟨rfl, rfl, rfl, rfl⟩, rfl, rfl, rfl, rfl⟩, ⟨rfl, rfl⟩, fun _ _ => rfl⟩, fun _ => ⟨⟨rfl, rfl, rfl, rfl, rfl, rfl⟩, fun _ _ => ⟨rfl, rfl⟩, fun _ _ => ⟨rfl, rfl⟩, fun _ _ => rfl, fun _ _ => rfl⟩⟩
      · have es : nat s = 2 := by rw [es0]; decide
        refine xcall (sp_begin (fun k => F (65 + k)) (fun k => v (65 + k)) 0 0 (fun g hg => ?_))
        refine h.ok (F' := va_up F 66 g) (v' := va_up v 65 (va_up (va_up (v 65) 2 0) 1 0)) S ?_ ((if_pos ⟨a1, hb⟩).trans (if_pos rfl))
        rw [show g_sheet s 0 n (hA F v) = _ from if_pos ⟨a1, Or.inl rfl⟩, es]
        exact ⟨⟨⟨rfl, rfl, rfl, rfl, rfl, rfl⟩, fun _ _ => ⟨rfl, rfl⟩, fun _ _ => ⟨rfl, rfl⟩, fun _ _ => rfl, fun _ _ => rfl⟩, ⟨⟨fun _ _ => rfl, fun _ _ => rfl, fun j hj => hg j hj, fun _ _ => rfl⟩, ⟨⟨rfl, rfl, rfl, rfl⟩, rfl, rfl, rfl, rfl⟩, ⟨rfl, rfl⟩, fun _ _ => rfl⟩, fun _ => ⟨⟨rfl, rfl, rfl, rfl, rfl, rfl⟩, fun _ _ => ⟨rfl, rfl⟩, fun _ _ => ⟨rfl, rfl⟩, fun _ _ => rfl, fun _ _ => rfl⟩⟩
      · have es : nat s = 3 := by rw [es0]; decide
        refine xcall (sp_begin (fun k => F (67 + k)) (fun k => v (67 + k)) 0 0 (fun g hg => ?_))
        refine h.ok (F' := va_up F 68 g) (v' := va_up v 67 (va_up (va_up (v 67) 2 0) 1 0)) S ?_ ((if_pos ⟨a1, hb⟩).trans (if_pos rfl))
        rw [show g_sheet s 0 n (hA F v) = _ from if_pos ⟨a1, Or.inl rfl⟩, es]
        exact ⟨⟨⟨rfl, rfl, rfl, rfl, rfl, rfl⟩, fun _ _ => ⟨rfl, rfl⟩, fun _ _ => ⟨rfl, rfl⟩, fun _ _ => rfl, fun _ _ => rfl⟩, ⟨⟨fun _ _ => rfl, fun _ _ => rfl, fun _ _ => rfl, fun j hj => hg j hj⟩, ⟨⟨rfl, rfl, rfl, rfl⟩, rfl, rfl, rfl, rfl⟩, ⟨rfl, rfl⟩, fun _ _ => rfl⟩, fun _ => ⟨⟨rfl, rfl, rfl, rfl, rfl, rfl⟩, fun _ _ => ⟨rfl, rfl⟩, fun _ _ => ⟨rfl, rfl⟩, fun _ _ => rfl, fun _ _ => rfl⟩⟩
  refine xcall (sp_isBelow _ _ (fun a1 => ?_) (fun a1 => ?_))
  · refine br_c (fun _ => ?_) (fun z => absurd rfl z)
    refine xcall (sp_errH F v 1 (by decide) ?_)
    exact h.err S _ (if_neg fun z => a1 z.1) (if_neg fun z => a1 z.1)
  refine br_c (fun z => absurd z (by decide)) (fun _ => ?_)
  refine br_c (fun b0 => hP _ _ _ _ _ (go a1 (Or.inl b0))) (fun b0 => ?_)
  refine br_c (fun b1 => hP _ _ _ _ _ (go a1 (Or.inr (Or.inl b1)))) (fun b1 => ?_)
  refine br_c (fun b2 => hP _ _ _ _ _ (go a1 (Or.inr (Or.inr (Or.inl b2))))) (fun b2 => ?_)
  refine br_c (fun b3 => hP _ _ _ _ _ (go a1 (Or.inr (Or.inr (Or.inr b3))))) (fun b3 => ?_)
  refine xcall (sp_errH F v 1 (by decide) ?_)
  refine h.err S _ (if_neg fun z => ?_) (if_neg fun z => ?_)
  · rcases z.2 with y | ⟨y | y | y, -⟩
    · exact b0 y
    · exact b1 y
    · exact b2 y
    · exact b3 y
  · rcases z.2 with y | y | y | y
    · exact b0 y
    · exact b1 y
    · exact b2 y
    · exact b3 y
