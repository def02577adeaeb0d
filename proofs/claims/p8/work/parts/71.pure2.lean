/-! ===== states that agree: sheets, voices ===== -/
theorem bare_bare (b x : Int32) : bare b (bare b x) = bare b x := by
  unfold bare
  by_cases h : b = 8
  · rw [if_pos h, if_pos h, Int32.and_assoc]; rfl
  · rw [if_neg h, if_neg h]
    by_cases g : b = 16
    · rw [if_pos g, if_pos g, Int32.and_assoc]; rfl
    · rw [if_neg g, if_neg g]
theorem agr.r3 {s q : xA} {R R2 : xS} (A : agr s q) (h : rAgr R R2) (h6 : R 6 = s.2.2 6) : agr (s.1, s.2.1, R) (q.1, q.2.1, R2) := ⟨A.1, h, fun z => A.2.2 (by rw [← h6]; exact z)⟩
theorem aIv.r3 {n : Nat} {s : xA} {R : xS} (I : aIv n s) (h : rIv n R) (h6 : R 6 = s.2.2 6) : aIv n (s.1, s.2.1, R) := ⟨I.1, h, fun z => I.2.2 (by rw [← h6]; exact z)⟩
theorem pf_sheet {s q : xA} (a b c : Int32) : f_sheet a b c s = f_sheet a b c q := rfl
theorem pg_sheet {s q : xA} (A : agr s q) (a b c : Int32) : agr (g_sheet a b c s) (g_sheet a b c q) := by
  unfold g_sheet
  by_cases z : xin a 4 ∧ (b = 0 ∨ ((b = 8 ∨ b = 16 ∨ b = 32) ∧ xin c 41))
  · rw [if_pos z, if_pos z]
    have l := nat4 z.1
    obtain ⟨h1, h2, h3, h4, h5⟩ := A.2.1.el
    have w : ∀ (f : xS) (x y u : Nat → Int32) (k : Nat), ¬ k = 4 → ¬ k = 5 → va_up (va_up (va_up f (nat a) x) 4 y) 5 u k = va_up f (nat a) x k := fun f x y u k e4 e5 => (if_neg e5).trans (if_neg e4)
    have w2 : ∀ (f : xS) (x y u : Nat → Int32) (k : Nat), 4 ≤ k → ¬ k = 4 → ¬ k = 5 → va_up (va_up (va_up f (nat a) x) 4 y) 5 u k = f k := fun f x y u k e e4 e5 => (if_neg e5).trans ((if_neg e4).trans (if_neg (by omega)))
    refine A.r3 (rAgr.mk3 (fun k j hk hj => ?_) (fun k hk => ?_) (fun k hk => ?_) ?_ (fun j hj => ?_)) (w2 _ _ _ _ 6 (by omega) (by omega) (by omega))
    · rw [w _ _ _ _ _ (by omega) (by omega), w _ _ _ _ _ (by omega) (by omega)]
      by_cases e : k = nat a
      · rw [e, vu_eq, vu_eq]
      · rw [vu_ne e, vu_ne e]; exact h1 k j hk hj
    · show upd (s.2.2 4) (nat a) (if b = 0 then 0 else c) k = upd (q.2.2 4) (nat a) (if b = 0 then 0 else c) k
      exact upS0 (n := 4) h2 k hk
    · show upd (s.2.2 5) (nat a) b k = upd (q.2.2 5) (nat a) b k
      exact upS0 (n := 4) h3 k hk
    · rw [w2 _ _ _ _ 6 (by omega) (by omega) (by omega), w2 _ _ _ _ 6 (by omega) (by omega) (by omega)]; exact h4
    · rw [w2 _ _ _ _ 6 (by omega) (by omega) (by omega)] at hj
      rw [w2 _ _ _ _ 7 (by omega) (by omega) (by omega), w2 _ _ _ _ 7 (by omega) (by omega) (by omega)]
      exact h5 j hj
  · rw [if_neg z, if_neg z]
    exact A
theorem pi_sheet {n : Nat} {s : xA} (I : aIv n s) (a b c : Int32) : aIv n (g_sheet a b c s) := by
  unfold g_sheet
  by_cases z : xin a 4 ∧ (b = 0 ∨ ((b = 8 ∨ b = 16 ∨ b = 32) ∧ xin c 41))
  · rw [if_pos z]
    have l := nat4 z.1
    obtain ⟨h1, h2⟩ := I.2.1.el
    have w : ∀ (f : xS) (x y u : Nat → Int32) (k : Nat), ¬ k = 4 → ¬ k = 5 → va_up (va_up (va_up f (nat a) x) 4 y) 5 u k = va_up f (nat a) x k := fun f x y u k e4 e5 => (if_neg e5).trans (if_neg e4)
    have w6 : va_up (va_up (va_up s.2.2 (nat a) (fun _ => 0)) 4 (upd (s.2.2 4) (nat a) (if b = 0 then 0 else c))) 5 (upd (s.2.2 5) (nat a) b) 6 = s.2.2 6 := (if_neg (by omega)).trans ((if_neg (by omega)).trans (if_neg (by omega)))
    refine I.r3 (rIv.mk3 (by rw [w6]; exact I.2.1.1) (fun k hk => ?_) (fun k j hk hj => ?_)) w6
    · show below 40 (upd (s.2.2 4) (nat a) (if b = 0 then 0 else c) k)
      by_cases e : k = nat a
      · rw [e, pk_us]
        by_cases b0 : b = 0
        · rw [if_pos b0]; exact ⟨0, by omega, rfl⟩
        · rw [if_neg b0]
          obtain ⟨m, hm, em, -⟩ := nI_ofx c (n := 41) (z.2.resolve_left b0).2 (by decide)
          exact ⟨m, by omega, em⟩
      · rw [pk_un e]; exact h1 k hk
    · show bare (upd (s.2.2 5) (nat a) b k) (va_up (va_up (va_up s.2.2 (nat a) (fun _ => 0)) 4 (upd (s.2.2 4) (nat a) (if b = 0 then 0 else c))) 5 (upd (s.2.2 5) (nat a) b) k j) = va_up (va_up (va_up s.2.2 (nat a) (fun _ => 0)) 4 (upd (s.2.2 4) (nat a) (if b = 0 then 0 else c))) 5 (upd (s.2.2 5) (nat a) b) k j
      rw [w _ _ _ _ _ (by omega) (by omega)]
      by_cases e : k = nat a
      · rw [e, vu_eq, bare_0]
      · rw [vu_ne e, pk_un e]; exact h2 k j hk hj
  · rw [if_neg z]
    exact I
theorem pf_put {s q : xA} (A : agr s q) (a i x : Int32) : f_put a i x s = f_put a i x q := by
  unfold f_put
  by_cases z : xin a 4
  · rw [if_pos z, if_pos z, A.2.1.el.2.2.1 _ (nat4 z), A.2.1.el.2.1 _ (nat4 z)]
  · rw [if_neg z, if_neg z]
theorem pg_put {s q : xA} (A : agr s q) (a i x : Int32) : agr (g_put a i x s) (g_put a i x q) := by
  unfold g_put
  by_cases z : xin a 4
  · have l := nat4 z
    obtain ⟨h1, h2, h3, h4, h5⟩ := A.2.1.el
    rw [← h3 _ l, ← h2 _ l]
    by_cases c : xin a 4 ∧ ¬ s.2.2 5 (nat a) = 0 ∧ xin i (s.2.2 4 (nat a)).toInt
    · rw [if_pos c, if_pos c]
      have w : ∀ (f : xS) (x : Nat → Int32) (k : Nat), 4 ≤ k → va_up f (nat a) x k = f k := fun f x k e => if_neg (by omega)
      refine A.r3 (rAgr.mk3 (fun k j hk hj => ?_) (fun k hk => ?_) (fun k hk => ?_) ?_ (fun j hj => ?_)) (w _ _ 6 (by omega))
      · by_cases e : k = nat a
        · rw [e, vu_eq, vu_eq]
          exact upS0 (n := 40) (fun j hj => h1 _ j l hj) j hj
        · rw [vu_ne e, vu_ne e]; exact h1 k j hk hj
      · rw [w _ _ 4 (by omega), w _ _ 4 (by omega)]; exact h2 k hk
      · rw [w _ _ 5 (by omega), w _ _ 5 (by omega)]; exact h3 k hk
      · rw [w _ _ 6 (by omega), w _ _ 6 (by omega)]; exact h4
      · rw [w _ _ 6 (by omega)] at hj
        rw [w _ _ 7 (by omega), w _ _ 7 (by omega)]; exact h5 j hj
    · rw [if_neg c, if_neg c]
      exact A
  · rw [if_neg (fun c => z c.1), if_neg (fun c => z c.1)]
    exact A
theorem pi_put {n : Nat} {s : xA} (I : aIv n s) (a i x : Int32) : aIv n (g_put a i x s) := by
  unfold g_put
  by_cases c : xin a 4 ∧ ¬ s.2.2 5 (nat a) = 0 ∧ xin i (s.2.2 4 (nat a)).toInt
  · rw [if_pos c]
    have l := nat4 c.1
    obtain ⟨h1, h2⟩ := I.2.1.el
    obtain ⟨f, ef⟩ : ∃ f, f = upd (s.2.2 (nat a)) (nat i) (bare (s.2.2 5 (nat a)) x) := ⟨_, rfl⟩
    rw [← ef]
    have w : ∀ k : Nat, 4 ≤ k → va_up s.2.2 (nat a) f k = s.2.2 k := fun k e => if_neg (by omega)
    refine I.r3 (rIv.mk3 (by rw [w 6 (by omega)]; exact I.2.1.1) (fun k hk => ?_) (fun k j hk hj => ?_)) (w 6 (by omega))
    · show below 40 (va_up s.2.2 (nat a) f 4 k)
      rw [w 4 (by omega)]; exact h1 k hk
    · show bare (va_up s.2.2 (nat a) f 5 k) (va_up s.2.2 (nat a) f k j) = va_up s.2.2 (nat a) f k j
      rw [w 5 (by omega)]
      by_cases e : k = nat a
      · rw [e, vu_eq, ef]
        by_cases ji : j = nat i
        · rw [ji, pk_us, bare_bare]
        · rw [pk_un ji]; exact h2 _ j l hj
      · rw [vu_ne e]; exact h2 k j hk hj
  · rw [if_neg c]
    exact I
theorem pf_move {s q : xA} (A : agr s q) (a i d j m : Int32) : f_move a i d j m s = f_move a i d j m q := by
  unfold f_move
  by_cases z : xin a 4 ∧ xin d 4
  · have e := A.2.1.el
    rw [if_pos z, if_pos z, e.2.2.1 _ (nat4 z.1), e.2.2.1 _ (nat4 z.2), e.2.1 _ (nat4 z.1), e.2.1 _ (nat4 z.2)]
  · rw [if_neg z, if_neg z]
theorem runs_in {i j m a b : Int32} (r : runs i j m a b) (ha : below 40 a) (hb : below 40 b) : nat i + nat m ≤ 40 ∧ nat j + nat m ≤ 40 := (runs_cpy r.1 r.2 ha hb).2.2.2
theorem pg_move {n : Nat} {s q : xA} (A : agr s q) (I : aIv n s) (a i d j m : Int32) : agr (g_move a i d j m s) (g_move a i d j m q) := by
  unfold g_move
  by_cases z : xin a 4 ∧ xin d 4
  · obtain ⟨h1, h2, h3, h4, h5⟩ := A.2.1.el
    have l := nat4 z.1
    have l2 := nat4 z.2
    rw [← h3 _ l, ← h3 _ l2, ← h2 _ l, ← h2 _ l2]
    by_cases c : (xin a 4 ∧ xin d 4) ∧ ¬ (s.2.2 5 (nat a) = 0 ∨ s.2.2 5 (nat d) = 0) ∧ s.2.2 5 (nat a) = s.2.2 5 (nat d) ∧ runs i j m (s.2.2 4 (nat a)) (s.2.2 4 (nat d))
    · rw [if_pos c, if_pos c]
      have b4 := I.2.1.el.1
      have rr := runs_in c.2.2.2 (b4 _ l) (b4 _ l2)
      have w : ∀ (f : xS) (x : Nat → Int32) (k : Nat), 4 ≤ k → va_up f (nat d) x k = f k := fun f x k e => if_neg (by omega)
      refine A.r3 (rAgr.mk3 (fun k x hk hx => ?_) (fun k hk => ?_) (fun k hk => ?_) ?_ (fun x hx => ?_)) (w _ _ 6 (by omega))
      · by_cases e : k = nat d
        · rw [e, vu_eq, vu_eq]
          by_cases g : nat j ≤ x ∧ x < nat j + nat m
          · rw [pk_cpy_in g.1 g.2, pk_cpy_in g.1 g.2]
            exact h1 _ _ l (by omega)
          · rw [pk_cpy_out (by omega), pk_cpy_out (by omega)]
            exact h1 _ _ l2 hx
        · rw [vu_ne e, vu_ne e]; exact h1 k x hk hx
      · rw [w _ _ 4 (by omega), w _ _ 4 (by omega)]; exact h2 k hk
      · rw [w _ _ 5 (by omega), w _ _ 5 (by omega)]; exact h3 k hk
      · rw [w _ _ 6 (by omega), w _ _ 6 (by omega)]; exact h4
      · rw [w _ _ 6 (by omega)] at hx
        rw [w _ _ 7 (by omega), w _ _ 7 (by omega)]; exact h5 x hx
    · rw [if_neg c, if_neg c]
      exact A
  · rw [if_neg (fun c => z c.1), if_neg (fun c => z c.1)]
    exact A
theorem pi_move {n : Nat} {s : xA} (I : aIv n s) (a i d j m : Int32) : aIv n (g_move a i d j m s) := by
  unfold g_move
  by_cases c : (xin a 4 ∧ xin d 4) ∧ ¬ (s.2.2 5 (nat a) = 0 ∨ s.2.2 5 (nat d) = 0) ∧ s.2.2 5 (nat a) = s.2.2 5 (nat d) ∧ runs i j m (s.2.2 4 (nat a)) (s.2.2 4 (nat d))
  · rw [if_pos c]
    have l := nat4 c.1.1
    have l2 := nat4 c.1.2
    obtain ⟨h1, h2⟩ := I.2.1.el
    have rr := runs_in c.2.2.2 (h1 _ l) (h1 _ l2)
    obtain ⟨f, ef⟩ : ∃ f, f = va_cpy (s.2.2 (nat a)) (s.2.2 (nat d)) (nat i) (nat j) (nat m) := ⟨_, rfl⟩
    rw [← ef]
    have w : ∀ k : Nat, 4 ≤ k → va_up s.2.2 (nat d) f k = s.2.2 k := fun k e => if_neg (by omega)
    refine I.r3 (rIv.mk3 (by rw [w 6 (by omega)]; exact I.2.1.1) (fun k hk => ?_) (fun k x hk hx => ?_)) (w 6 (by omega))
    · show below 40 (va_up s.2.2 (nat d) f 4 k)
      rw [w 4 (by omega)]; exact h1 k hk
    · show bare (va_up s.2.2 (nat d) f 5 k) (va_up s.2.2 (nat d) f k x) = va_up s.2.2 (nat d) f k x
      rw [w 5 (by omega)]
      by_cases e : k = nat d
      · rw [e, vu_eq, ef]
        by_cases g : nat j ≤ x ∧ x < nat j + nat m
        · rw [pk_cpy_in g.1 g.2, ← c.2.2.1]
          exact h2 _ _ l (by omega)
        · rw [pk_cpy_out (by omega)]
          exact h2 _ _ l2 hx
      · rw [vu_ne e]; exact h2 k x hk hx
  · rw [if_neg c]
    exact I
-- voices: notes laid over two rows that agree
def qAg (p q : xTq) : Prop := p.2 = q.2 ∧ ∀ j, j < p.2 → p.1 j = q.1 j
theorem nt_ag {p q : xTq} (h : qAg p q) (b : Int32) : qAg (nt p b) (nt q b) := by
  unfold nt
  rw [← h.1]
  by_cases c : p.2 < 40
  · rw [if_pos c, if_pos c]
    exact ⟨rfl, upS1 (n := p.2) h.2 (Nat.le_refl _)⟩
  · rw [if_neg c, if_neg c]
    exact h
def vAg (p q : Int32 × xTq) : Prop := p.1 = q.1 ∧ qAg p.2 q.2
theorem shV_ag {p q : xTq} (h : qAg p q) (k : Nat) (n x : Int32) : vAg (shV k n x p) (shV k n x q) := by
  unfold shV
  split
  · exact ⟨rfl, nt_ag (nt_ag h _) _⟩
  · exact ⟨rfl, nt_ag h _⟩
theorem toV_ag {p q : xTq} (h : qAg p q) (k : Nat) (n m x : Int32) : vAg (toV k n m x p) (toV k n m x q) := by
  unfold toV
  split
  · exact ⟨rfl, nt_ag (nt_ag h _) _⟩
  split
  · exact ⟨rfl, nt_ag (nt_ag (nt_ag h _) _) _⟩
  · exact ⟨rfl, nt_ag h _⟩
theorem ru0_ag {p q : xTq} (h : qAg p q) (z : Nat) (n x : Int32) : vAg (ru0 z n x p) (ru0 z n x q) := by
  have a := shV_ag (nt_ag h 11) z n x
  exact ⟨congrArg (· * 2) a.1, a.2⟩
theorem ru2_ag {p q : xTq} (h : qAg p q) (z : Nat) (n m x : Int32) : vAg (ru2 z n m x p) (ru2 z n m x q) := by
  have a := ru0_ag (nt_ag h 30) z n x
  have b := toV_ag a.2 z n m 1
  exact ⟨by show _ - _ = _ - _; rw [a.1, b.1], b.2⟩
theorem ruV_ag {p q : xTq} (h : qAg p q) (z : Nat) (n m : Int32) (k : Nat) (x : Int32) : vAg (ruV z n m k x p) (ruV z n m k x q) := by
  unfold ruV
  split
  · exact ru2_ag h z n m x
  split
  · exact ru2_ag (nt_ag h _) z n m _
  · exact ru0_ag h z n x
theorem te0_ag {p q : xTq} (h : qAg p q) (z : Nat) (n m x : Int32) : vAg (te0 z n m x p) (te0 z n m x q) := by
  have a := ruV_ag (nt_ag h 13) z n m z x
  have b := toV_ag a.2 z n m x
  exact ⟨by show _ ^^^ _ = _ ^^^ _; rw [a.1, b.1], b.2⟩
theorem teV_ag {p q : xTq} (h : qAg p q) (z : Nat) (n m : Int32) (k : Nat) (x : Int32) : vAg (teV z n m k x p) (teV z n m k x q) := by
  unfold teV
  split
  · have a := te0_ag (nt_ag h 50) z n m x
    have b := shV_ag a.2 z n 2
    exact ⟨by show _ - _ = _ - _; rw [a.1, b.1], b.2⟩
  split
  · have a := ruV_ag (nt_ag h 71) z n m z x
    have b := te0_ag a.2 z n m x
    exact ⟨by show _ - _ = _ - _; rw [a.1, b.1], b.2⟩
  · exact te0_ag h z n m x
theorem voV_ag (z : Nat) (n m a x : Int32) (f g : Nat → Int32) : vAg (voV z n m a x f) (voV z n m a x g) := by
  have o : qAg (f, 0) (g, 0) := ⟨rfl, fun j hj => absurd hj (Nat.not_lt_zero j)⟩
  unfold voV
  split
  · exact shV_ag o z n x
  split
  · exact ruV_ag o z n m z x
  split
  · exact toV_ag o z n m x
  · exact teV_ag o z n m z x
theorem pf_voice {n : Nat} {s q : xA} (A : agr s q) (I : aIv n s) (c a x : Int32) : f_voice c a x s = f_voice c a x q := by
  unfold f_voice
  rw [← A.1.1.2.1]
  by_cases z : xin c (s.1 6 1).toInt ∧ xin a 4
  · rw [if_pos z, if_pos z]
    have l := xin_nat I.1.1.2.1 (by omega) z.1
    rw [(A.1.2.2.1 _ l).1, (A.1.2.2.1 _ l).2]
    exact (voV_ag _ _ _ _ _ _ _).1
  · rw [if_neg z, if_neg z]
theorem pg_voice {n : Nat} {s q : xA} (A : agr s q) (I : aIv n s) (c a x : Int32) : agr (g_voice c a x s) (g_voice c a x q) := by
  unfold g_voice
  rw [← A.1.1.2.1]
  by_cases z : xin c (s.1 6 1).toInt ∧ xin a 4
  · rw [if_pos z, if_pos z]
    have l := xin_nat I.1.1.2.1 (by omega) z.1
    rw [(A.1.2.2.1 _ l).1, (A.1.2.2.1 _ l).2]
    have v := voV_ag (nat (q.1 2 (nat c))) c (q.1 3 (nat c)) a x (s.2.2 7) (q.2.2 7)
    have le : (voV (nat (q.1 2 (nat c))) c (q.1 3 (nat c)) a x (s.2.2 7)).2.2 ≤ 40 := voV_le
    refine ⟨A.1, ⟨A.2.1.1, A.2.1.2.1, ⟨A.2.1.2.2.1.1, by show nI _ = nI _; rw [v.2.1]⟩, fun j hj => ?_⟩, A.2.2⟩
    have hj : j < nat (nI (voV (nat (q.1 2 (nat c))) c (q.1 3 (nat c)) a x (s.2.2 7)).2.2) := hj
    rw [show nat (nI (voV (nat (q.1 2 (nat c))) c (q.1 3 (nat c)) a x (s.2.2 7)).2.2) = (voV (nat (q.1 2 (nat c))) c (q.1 3 (nat c)) a x (s.2.2 7)).2.2 from nI_clamp (by omega)] at hj
    exact v.2.2 j hj
  · rw [if_neg z, if_neg z]
    exact A
theorem pi_voice {n : Nat} {s : xA} (I : aIv n s) (c a x : Int32) : aIv n (g_voice c a x s) := by
  unfold g_voice
  by_cases z : xin c (s.1 6 1).toInt ∧ xin a 4
  · rw [if_pos z]
    exact ⟨I.1, ⟨⟨I.2.1.1.1, ⟨_, voV_le, rfl⟩⟩, I.2.1.2⟩, I.2.2⟩
  · rw [if_neg z]
    exact I
