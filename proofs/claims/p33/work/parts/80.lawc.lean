/-! ===== the law on every script ===== -/
abbrev xK1 : xKo := fun r _ => r = some (.int 1)
abbrev xl1 (i : Int32) : xL := [(0, .float 3), (1, .ref 0), (2, .ref 70), (3, .int i)]
def lwI (n : Nat) (w : xW) : Prop := ∃ F v F2 v2, w = xfill F v 0 wH0 ++ xfill F2 v2 0 (wM0 70) ∧ agr (hA F v) (mA F2 v2) ∧ aIv n (hA F v) ∧ hS v ∧ mS F2 v2
theorem lw_ix {L i : Nat} (k : Nat) (h : i + k < L) (hL : L ≤ 3072) : vp_in (nI i + nI k) L := by
  rw [nI_add]
  exact vp_in_nI (by omega) (by omega)
theorem lw_end {L i : Nat} (hL : L ≤ 3072) (hi : i ≤ 3072) : nI L - nI 6 < nI i ↔ L < i + 6 := by
  rw [xlt, Int32.toInt_sub, nI_toInt (by omega), nI_toInt (by omega), nI_toInt (by omega)]
  have e : ((L : Int) - (6 : Nat)).bmod (2 ^ 32) = (L : Int) - 6 := Int.bmod_eq_of_le (by omega) (by omega)
  rw [e]
  omega
theorem xWP_step {prog : List xEl} {K : xKo} {pc : Nat} {ls : xL} {st : List Value} {w : xW} {b : xB} {e e2 : xEl} {r : List xEl} (ks : List Nat) (hs : xseek prog pc = e :: e2 :: r) (h : ∀ P : Nat → xL → List Value → xW → xB → Prop, (∀ pc ls st w b, xWP prog K pc ls st w b → P pc ls st w b) → ∀ go : Option Nat → xL → List Value → xW → xB → Prop, (∀ ls' st' w' b', xkeep ks ls' (fun l => P e2.1 l st' w' b') → go none ls' st' w' b') → e.2.2.2 ls st w b go K) : xWP prog K pc ls st w b := by
  refine xWP_go 1 [(e2.1, ks)] fun P hP => ?_
  rw [hs]
  refine h P hP _ (fun ls' st' w' b' k => ?_)
  have q : xcut e2.1 [(e2.1, ks)] = some ks := by
    unfold xcut
    rw [Nat.beq_refl]
  show (match xcut e2.1 [(e2.1, ks)] with
      | some ks => xkeep ks ls' (fun l => P e2.1 l st' w' b')
      | none => xrun prog [(e2.1, ks)] P K 0 (e2 :: r) ls' st' w' b')
  rw [q]
  exact k
set_option maxRecDepth 100000 in
theorem xwHgen {prog : List xEl} {K : xKo} {pc n : Nat} {C : xPT} {ins : Instr} {ln : Nat} {e2 : xEl} {r : List xEl} {as st st' : List Value} {i : Int32} {F v F2 v2 : xS} {b : xB} (hs : xseek prog pc = (pc, ins, ln, xs_call false 600000 7302250 0 0 (some 5) n C) :: e2 :: r) (hp : ∀ k, xpop n st [] k = k (.ref 0 :: as) st') (hna : xna as = true) (hc : Nat.ble (st'.map fun v => v.category).sum 8 = true) (Q : Int32 → xS → xS → Prop) (hC : ∀ K : xKo, (∀ r F' v', Q r F' v' → K (some (.int r)) (xfill F' v' 0 wH0)) → C (.ref 0 :: as) (xfill F v 0 wH0) K) (h : ∀ r F' v' b', Q r F' v' → xWP prog K e2.1 (xl1 i) (.int r :: st') (xfill F' v' 0 wH0 ++ xfill F2 v2 0 (wM0 70)) b') : xWP prog K pc (xl1 i) st (xfill F v 0 wH0 ++ xfill F2 v2 0 (wM0 70)) b := by
  refine xWP_step [0, 1, 2, 3] hs fun P hP go hgo => ?_
  refine xcall_na (K := K) hp hna hc rfl ?_
  exact fun X e => by subst e; exact hC _ (fun r F' v' q => hgo _ _ _ _ (hP _ _ _ _ _ (h r F' v' _ q)))
set_option maxRecDepth 100000 in
theorem xwMgen {prog : List xEl} {K : xKo} {pc n : Nat} {C : xPT} {ins : Instr} {ln : Nat} {e2 : xEl} {r : List xEl} {as st st' : List Value} {i : Int32} {F v F2 v2 : xS} {b : xB} (hs : xseek prog pc = (pc, ins, ln, xs_call false 600000 7302250 0 0 (some 6) n C) :: e2 :: r) (hp : ∀ k, xpop n st [] k = k (.ref 70 :: as) st') (hna : xna as = true) (hc : Nat.ble (st'.map fun v => v.category).sum 8 = true) (Q : Int32 → xS → xS → Prop) (hC : ∀ K : xKo, (∀ r F' v', Q r F' v' → K (some (.int r)) (xfill F' v' 0 (wM0 0))) → C (.ref 0 :: as) (xfill F2 v2 0 (wM0 0)) K) (h : ∀ r F' v' b', Q r F' v' → xWP prog K e2.1 (xl1 i) (.int r :: st') (xfill F v 0 wH0 ++ xfill F' v' 0 (wM0 70)) b') : xWP prog K pc (xl1 i) st (xfill F v 0 wH0 ++ xfill F2 v2 0 (wM0 70)) b := by
  refine xWP_step [0, 1, 2, 3] hs fun P hP go hgo => ?_
  refine xcall_na (K := K) hp hna hc rfl ?_
  exact fun X e => by subst e; exact hC _ (fun r F' v' q => hgo _ _ _ _ (hP _ _ _ _ _ (h r F' v' _ q)))
theorem lw_bk (L : Nat) (xs : Nat → Int32) {i : Int32} {w : xW} {b : xB} (h : xWP (pg_Z_law L xs) xK1 18 (xl1 (i + 6)) [] w b) : xWP (pg_Z_law L xs) xK1 1575 (xl1 i) [] w b := by
  refine xWP_go 60 [(18, [0, 1, 2, 3])] fun P hP => ?_
  rw [(cp_Z_28 L xs (q := 1575) (Nat.le_of_ble_eq_true rfl))]
  refine hP _ _ _ _ _ ?_
  exact h
theorem xwHii {prog : List xEl} {K : xKo} {pc : Nat} {C : xPT} {ins : Instr} {ln : Nat} {e2 : xEl} {r : List xEl} (x0 : Int32) (x1 : Int32) {i : Int32} {F v F2 v2 : xS} {b : xB} (hs : xseek prog pc = (pc, ins, ln, xs_call false 600000 7302250 0 0 (some 5) 3 C) :: e2 :: r) (Q : Int32 → xS → xS → Prop) (hC : ∀ K : xKo, (∀ r F' v', Q r F' v' → K (some (.int r)) (xfill F' v' 0 wH0)) → C [.ref 0, .int x0, .int x1] (xfill F v 0 wH0) K) (h : ∀ r F' v' b', Q r F' v' → xWP prog K e2.1 (xl1 i) [.int r] (xfill F' v' 0 wH0 ++ xfill F2 v2 0 (wM0 70)) b') : xWP prog K pc (xl1 i) [.int x1, .int x0, .ref 0] (xfill F v 0 wH0 ++ xfill F2 v2 0 (wM0 70)) b :=
  xwHgen (as := [.int x0, .int x1]) (st' := []) hs (fun _ => rfl) rfl rfl Q hC h
theorem xwMii {prog : List xEl} {K : xKo} {pc : Nat} {C : xPT} {ins : Instr} {ln : Nat} {e2 : xEl} {r : List xEl} (x0 : Int32) (x1 : Int32) {i : Int32} {F v F2 v2 : xS} {b : xB} (hs : xseek prog pc = (pc, ins, ln, xs_call false 600000 7302250 0 0 (some 6) 3 C) :: e2 :: r) (Q : Int32 → xS → xS → Prop) (hC : ∀ K : xKo, (∀ r F' v', Q r F' v' → K (some (.int r)) (xfill F' v' 0 (wM0 0))) → C [.ref 0, .int x0, .int x1] (xfill F2 v2 0 (wM0 0)) K) (h : ∀ r F' v' b', Q r F' v' → xWP prog K e2.1 (xl1 i) [.int r] (xfill F v 0 wH0 ++ xfill F' v' 0 (wM0 70)) b') : xWP prog K pc (xl1 i) [.int x1, .int x0, .ref 70] (xfill F v 0 wH0 ++ xfill F2 v2 0 (wM0 70)) b :=
  xwMgen (as := [.int x0, .int x1]) (st' := []) hs (fun _ => rfl) rfl rfl Q hC h
theorem xwHiii {prog : List xEl} {K : xKo} {pc : Nat} {C : xPT} {ins : Instr} {ln : Nat} {e2 : xEl} {r : List xEl} (x0 : Int32) (x1 : Int32) (x2 : Int32) {i : Int32} {F v F2 v2 : xS} {b : xB} (hs : xseek prog pc = (pc, ins, ln, xs_call false 600000 7302250 0 0 (some 5) 4 C) :: e2 :: r) (Q : Int32 → xS → xS → Prop) (hC : ∀ K : xKo, (∀ r F' v', Q r F' v' → K (some (.int r)) (xfill F' v' 0 wH0)) → C [.ref 0, .int x0, .int x1, .int x2] (xfill F v 0 wH0) K) (h : ∀ r F' v' b', Q r F' v' → xWP prog K e2.1 (xl1 i) [.int r] (xfill F' v' 0 wH0 ++ xfill F2 v2 0 (wM0 70)) b') : xWP prog K pc (xl1 i) [.int x2, .int x1, .int x0, .ref 0] (xfill F v 0 wH0 ++ xfill F2 v2 0 (wM0 70)) b :=
  xwHgen (as := [.int x0, .int x1, .int x2]) (st' := []) hs (fun _ => rfl) rfl rfl Q hC h
theorem xwMiii {prog : List xEl} {K : xKo} {pc : Nat} {C : xPT} {ins : Instr} {ln : Nat} {e2 : xEl} {r : List xEl} (x0 : Int32) (x1 : Int32) (x2 : Int32) {i : Int32} {F v F2 v2 : xS} {b : xB} (hs : xseek prog pc = (pc, ins, ln, xs_call false 600000 7302250 0 0 (some 6) 4 C) :: e2 :: r) (Q : Int32 → xS → xS → Prop) (hC : ∀ K : xKo, (∀ r F' v', Q r F' v' → K (some (.int r)) (xfill F' v' 0 (wM0 0))) → C [.ref 0, .int x0, .int x1, .int x2] (xfill F2 v2 0 (wM0 0)) K) (h : ∀ r F' v' b', Q r F' v' → xWP prog K e2.1 (xl1 i) [.int r] (xfill F v 0 wH0 ++ xfill F' v' 0 (wM0 70)) b') : xWP prog K pc (xl1 i) [.int x2, .int x1, .int x0, .ref 70] (xfill F v 0 wH0 ++ xfill F2 v2 0 (wM0 70)) b :=
  xwMgen (as := [.int x0, .int x1, .int x2]) (st' := []) hs (fun _ => rfl) rfl rfl Q hC h
theorem xwHi {prog : List xEl} {K : xKo} {pc : Nat} {C : xPT} {ins : Instr} {ln : Nat} {e2 : xEl} {r : List xEl} (x0 : Int32) {i : Int32} {F v F2 v2 : xS} {b : xB} (hs : xseek prog pc = (pc, ins, ln, xs_call false 600000 7302250 0 0 (some 5) 2 C) :: e2 :: r) (Q : Int32 → xS → xS → Prop) (hC : ∀ K : xKo, (∀ r F' v', Q r F' v' → K (some (.int r)) (xfill F' v' 0 wH0)) → C [.ref 0, .int x0] (xfill F v 0 wH0) K) (h : ∀ r F' v' b', Q r F' v' → xWP prog K e2.1 (xl1 i) [.int r] (xfill F' v' 0 wH0 ++ xfill F2 v2 0 (wM0 70)) b') : xWP prog K pc (xl1 i) [.int x0, .ref 0] (xfill F v 0 wH0 ++ xfill F2 v2 0 (wM0 70)) b :=
  xwHgen (as := [.int x0]) (st' := []) hs (fun _ => rfl) rfl rfl Q hC h
theorem xwMi {prog : List xEl} {K : xKo} {pc : Nat} {C : xPT} {ins : Instr} {ln : Nat} {e2 : xEl} {r : List xEl} (x0 : Int32) {i : Int32} {F v F2 v2 : xS} {b : xB} (hs : xseek prog pc = (pc, ins, ln, xs_call false 600000 7302250 0 0 (some 6) 2 C) :: e2 :: r) (Q : Int32 → xS → xS → Prop) (hC : ∀ K : xKo, (∀ r F' v', Q r F' v' → K (some (.int r)) (xfill F' v' 0 (wM0 0))) → C [.ref 0, .int x0] (xfill F2 v2 0 (wM0 0)) K) (h : ∀ r F' v' b', Q r F' v' → xWP prog K e2.1 (xl1 i) [.int r] (xfill F v 0 wH0 ++ xfill F' v' 0 (wM0 70)) b') : xWP prog K pc (xl1 i) [.int x0, .ref 70] (xfill F v 0 wH0 ++ xfill F2 v2 0 (wM0 70)) b :=
  xwMgen (as := [.int x0]) (st' := []) hs (fun _ => rfl) rfl rfl Q hC h
theorem xwHli {prog : List xEl} {K : xKo} {pc : Nat} {C : xPT} {ins : Instr} {ln : Nat} {e2 : xEl} {r : List xEl} (x0 : Int64) (x1 : Int32) {i : Int32} {F v F2 v2 : xS} {b : xB} (hs : xseek prog pc = (pc, ins, ln, xs_call false 600000 7302250 0 0 (some 5) 3 C) :: e2 :: r) (Q : Int32 → xS → xS → Prop) (hC : ∀ K : xKo, (∀ r F' v', Q r F' v' → K (some (.int r)) (xfill F' v' 0 wH0)) → C [.ref 0, .long x0, .int x1] (xfill F v 0 wH0) K) (h : ∀ r F' v' b', Q r F' v' → xWP prog K e2.1 (xl1 i) [.int r] (xfill F' v' 0 wH0 ++ xfill F2 v2 0 (wM0 70)) b') : xWP prog K pc (xl1 i) [.int x1, .long x0, .ref 0] (xfill F v 0 wH0 ++ xfill F2 v2 0 (wM0 70)) b :=
  xwHgen (as := [.long x0, .int x1]) (st' := []) hs (fun _ => rfl) rfl rfl Q hC h
theorem xwMli {prog : List xEl} {K : xKo} {pc : Nat} {C : xPT} {ins : Instr} {ln : Nat} {e2 : xEl} {r : List xEl} (x0 : Int64) (x1 : Int32) {i : Int32} {F v F2 v2 : xS} {b : xB} (hs : xseek prog pc = (pc, ins, ln, xs_call false 600000 7302250 0 0 (some 6) 3 C) :: e2 :: r) (Q : Int32 → xS → xS → Prop) (hC : ∀ K : xKo, (∀ r F' v', Q r F' v' → K (some (.int r)) (xfill F' v' 0 (wM0 0))) → C [.ref 0, .long x0, .int x1] (xfill F2 v2 0 (wM0 0)) K) (h : ∀ r F' v' b', Q r F' v' → xWP prog K e2.1 (xl1 i) [.int r] (xfill F v 0 wH0 ++ xfill F' v' 0 (wM0 70)) b') : xWP prog K pc (xl1 i) [.int x1, .long x0, .ref 70] (xfill F v 0 wH0 ++ xfill F2 v2 0 (wM0 70)) b :=
  xwMgen (as := [.long x0, .int x1]) (st' := []) hs (fun _ => rfl) rfl rfl Q hC h
theorem xwHiiii {prog : List xEl} {K : xKo} {pc : Nat} {C : xPT} {ins : Instr} {ln : Nat} {e2 : xEl} {r : List xEl} (x0 : Int32) (x1 : Int32) (x2 : Int32) (x3 : Int32) {i : Int32} {F v F2 v2 : xS} {b : xB} (hs : xseek prog pc = (pc, ins, ln, xs_call false 600000 7302250 0 0 (some 5) 5 C) :: e2 :: r) (Q : Int32 → xS → xS → Prop) (hC : ∀ K : xKo, (∀ r F' v', Q r F' v' → K (some (.int r)) (xfill F' v' 0 wH0)) → C [.ref 0, .int x0, .int x1, .int x2, .int x3] (xfill F v 0 wH0) K) (h : ∀ r F' v' b', Q r F' v' → xWP prog K e2.1 (xl1 i) [.int r] (xfill F' v' 0 wH0 ++ xfill F2 v2 0 (wM0 70)) b') : xWP prog K pc (xl1 i) [.int x3, .int x2, .int x1, .int x0, .ref 0] (xfill F v 0 wH0 ++ xfill F2 v2 0 (wM0 70)) b :=
  xwHgen (as := [.int x0, .int x1, .int x2, .int x3]) (st' := []) hs (fun _ => rfl) rfl rfl Q hC h
theorem xwMiiii {prog : List xEl} {K : xKo} {pc : Nat} {C : xPT} {ins : Instr} {ln : Nat} {e2 : xEl} {r : List xEl} (x0 : Int32) (x1 : Int32) (x2 : Int32) (x3 : Int32) {i : Int32} {F v F2 v2 : xS} {b : xB} (hs : xseek prog pc = (pc, ins, ln, xs_call false 600000 7302250 0 0 (some 6) 5 C) :: e2 :: r) (Q : Int32 → xS → xS → Prop) (hC : ∀ K : xKo, (∀ r F' v', Q r F' v' → K (some (.int r)) (xfill F' v' 0 (wM0 0))) → C [.ref 0, .int x0, .int x1, .int x2, .int x3] (xfill F2 v2 0 (wM0 0)) K) (h : ∀ r F' v' b', Q r F' v' → xWP prog K e2.1 (xl1 i) [.int r] (xfill F v 0 wH0 ++ xfill F' v' 0 (wM0 70)) b') : xWP prog K pc (xl1 i) [.int x3, .int x2, .int x1, .int x0, .ref 70] (xfill F v 0 wH0 ++ xfill F2 v2 0 (wM0 70)) b :=
  xwMgen (as := [.int x0, .int x1, .int x2, .int x3]) (st' := []) hs (fun _ => rfl) rfl rfl Q hC h
theorem xwMiii1 {prog : List xEl} {K : xKo} {pc : Nat} {C : xPT} {ins : Instr} {ln : Nat} {e2 : xEl} {r : List xEl} (x0 : Int32) (x1 : Int32) (x2 : Int32) {i : Int32} {y : Int32} {F v F2 v2 : xS} {b : xB} (hs : xseek prog pc = (pc, ins, ln, xs_call false 600000 7302250 0 0 (some 6) 4 C) :: e2 :: r) (Q : Int32 → xS → xS → Prop) (hC : ∀ K : xKo, (∀ r F' v', Q r F' v' → K (some (.int r)) (xfill F' v' 0 (wM0 0))) → C [.ref 0, .int x0, .int x1, .int x2] (xfill F2 v2 0 (wM0 0)) K) (h : ∀ r F' v' b', Q r F' v' → xWP prog K e2.1 (xl1 i) [.int r, .int y] (xfill F v 0 wH0 ++ xfill F' v' 0 (wM0 70)) b') : xWP prog K pc (xl1 i) [.int x2, .int x1, .int x0, .ref 70, .int y] (xfill F v 0 wH0 ++ xfill F2 v2 0 (wM0 70)) b :=
  xwMgen (as := [.int x0, .int x1, .int x2]) (st' := [.int y]) hs (fun _ => rfl) rfl rfl Q hC h
theorem xwHiiiii {prog : List xEl} {K : xKo} {pc : Nat} {C : xPT} {ins : Instr} {ln : Nat} {e2 : xEl} {r : List xEl} (x0 : Int32) (x1 : Int32) (x2 : Int32) (x3 : Int32) (x4 : Int32) {i : Int32} {F v F2 v2 : xS} {b : xB} (hs : xseek prog pc = (pc, ins, ln, xs_call false 600000 7302250 0 0 (some 5) 6 C) :: e2 :: r) (Q : Int32 → xS → xS → Prop) (hC : ∀ K : xKo, (∀ r F' v', Q r F' v' → K (some (.int r)) (xfill F' v' 0 wH0)) → C [.ref 0, .int x0, .int x1, .int x2, .int x3, .int x4] (xfill F v 0 wH0) K) (h : ∀ r F' v' b', Q r F' v' → xWP prog K e2.1 (xl1 i) [.int r] (xfill F' v' 0 wH0 ++ xfill F2 v2 0 (wM0 70)) b') : xWP prog K pc (xl1 i) [.int x4, .int x3, .int x2, .int x1, .int x0, .ref 0] (xfill F v 0 wH0 ++ xfill F2 v2 0 (wM0 70)) b :=
  xwHgen (as := [.int x0, .int x1, .int x2, .int x3, .int x4]) (st' := []) hs (fun _ => rfl) rfl rfl Q hC h
theorem xwMiiiii {prog : List xEl} {K : xKo} {pc : Nat} {C : xPT} {ins : Instr} {ln : Nat} {e2 : xEl} {r : List xEl} (x0 : Int32) (x1 : Int32) (x2 : Int32) (x3 : Int32) (x4 : Int32) {i : Int32} {F v F2 v2 : xS} {b : xB} (hs : xseek prog pc = (pc, ins, ln, xs_call false 600000 7302250 0 0 (some 6) 6 C) :: e2 :: r) (Q : Int32 → xS → xS → Prop) (hC : ∀ K : xKo, (∀ r F' v', Q r F' v' → K (some (.int r)) (xfill F' v' 0 (wM0 0))) → C [.ref 0, .int x0, .int x1, .int x2, .int x3, .int x4] (xfill F2 v2 0 (wM0 0)) K) (h : ∀ r F' v' b', Q r F' v' → xWP prog K e2.1 (xl1 i) [.int r] (xfill F v 0 wH0 ++ xfill F' v' 0 (wM0 70)) b') : xWP prog K pc (xl1 i) [.int x4, .int x3, .int x2, .int x1, .int x0, .ref 70] (xfill F v 0 wH0 ++ xfill F2 v2 0 (wM0 70)) b :=
  xwMgen (as := [.int x0, .int x1, .int x2, .int x3, .int x4]) (st' := []) hs (fun _ => rfl) rfl rfl Q hC h
theorem xwH {prog : List xEl} {K : xKo} {pc : Nat} {C : xPT} {ins : Instr} {ln : Nat} {e2 : xEl} {r : List xEl}  {i : Int32} {F v F2 v2 : xS} {b : xB} (hs : xseek prog pc = (pc, ins, ln, xs_call false 600000 7302250 0 0 (some 5) 1 C) :: e2 :: r) (Q : Int32 → xS → xS → Prop) (hC : ∀ K : xKo, (∀ r F' v', Q r F' v' → K (some (.int r)) (xfill F' v' 0 wH0)) → C [.ref 0] (xfill F v 0 wH0) K) (h : ∀ r F' v' b', Q r F' v' → xWP prog K e2.1 (xl1 i) [.int r] (xfill F' v' 0 wH0 ++ xfill F2 v2 0 (wM0 70)) b') : xWP prog K pc (xl1 i) [.ref 0] (xfill F v 0 wH0 ++ xfill F2 v2 0 (wM0 70)) b :=
  xwHgen (as := []) (st' := []) hs (fun _ => rfl) rfl rfl Q hC h
theorem xwM {prog : List xEl} {K : xKo} {pc : Nat} {C : xPT} {ins : Instr} {ln : Nat} {e2 : xEl} {r : List xEl}  {i : Int32} {F v F2 v2 : xS} {b : xB} (hs : xseek prog pc = (pc, ins, ln, xs_call false 600000 7302250 0 0 (some 6) 1 C) :: e2 :: r) (Q : Int32 → xS → xS → Prop) (hC : ∀ K : xKo, (∀ r F' v', Q r F' v' → K (some (.int r)) (xfill F' v' 0 (wM0 0))) → C [.ref 0] (xfill F2 v2 0 (wM0 0)) K) (h : ∀ r F' v' b', Q r F' v' → xWP prog K e2.1 (xl1 i) [.int r] (xfill F v 0 wH0 ++ xfill F' v' 0 (wM0 70)) b') : xWP prog K pc (xl1 i) [.ref 70] (xfill F v 0 wH0 ++ xfill F2 v2 0 (wM0 70)) b :=
  xwMgen (as := []) (st' := []) hs (fun _ => rfl) rfl rfl Q hC h
set_option maxRecDepth 100000 in
theorem lw_c0 (L : Nat) (hL : L ≤ 3072) (xs : Nat → Int32) (i n : Nat) (hi : i + 6 ≤ L) (hn : n < 1000) (F v F2 v2 : xS) (A : agr (hA F v) (mA F2 v2)) (I : aIv n (hA F v)) (S : hS v) (S2 : mS F2 v2) (b : xB) (hk : ∀ w b, lwI (n + 1) w → xWP (pg_Z_law L xs) xK1 18 (xl1 (nI i + 6)) [] w b) : xWP (pg_Z_law L xs) xK1 212 (xl1 (nI i)) [] (xfill F v 0 wH0 ++ xfill F2 v2 0 (wM0 70)) b := by
  have J : aIv n (mA F2 v2) := I.of A
  refine xWP_go 60 [(223, [0, 1, 2, 3])] fun P hP => ?_
  rw [(cp_Z_0 L xs (q := 212) (Nat.le_of_ble_eq_true rfl))]
  refine ⟨rfl, lw_ix 1 (by omega) hL, ?_⟩
  refine ⟨rfl, lw_ix 2 (by omega) hL, ?_⟩
  refine hP _ _ _ _ _ ?_
  refine xwHii _ _ ((cp_Z_0 L xs (q := 223) (Nat.le_of_ble_eq_true rfl)).trans rfl) (fun r F' v' => r = f_thing _ _ (hA F v) ∧ hS v' ∧ agr (hA F' v') (g_thing _ _ (hA F v))) (fun K k => hs_thing n F v I S _ _ (fun F' v' S' A' => k _ F' v' ⟨rfl, S', A'⟩)) (fun r F' v' b' q => ?_)
  obtain ⟨er, S', A'⟩ := q
  refine xWP_go (pc := 226) 60 [(238, [0, 1, 2, 3])] fun P hP => ?_
  rw [(cp_Z_0 L xs (q := 226) (Nat.le_of_ble_eq_true rfl))]
  refine ⟨rfl, lw_ix 1 (by omega) hL, ?_⟩
  refine ⟨rfl, lw_ix 2 (by omega) hL, ?_⟩
  refine hP _ _ _ _ _ ?_
  refine xwMii _ _ ((cp_Z_1 L xs (q := 238) (Nat.le_of_ble_eq_true rfl)).trans rfl) (fun r F' v' => r = f_thing _ _ (mA F2 v2) ∧ mS F' v' ∧ agr (mA F' v') (g_thing _ _ (mA F2 v2))) (fun K k => ms_thing n F2 v2 J S2 _ _ (fun F' v' S' A' => k _ F' v' ⟨rfl, S', A'⟩)) (fun r3 F3 v3 b3 q => ?_)
  obtain ⟨er3, S3, A3⟩ := q
  refine xWP_go (pc := 241) 60 [(242, [0, 1, 2, 3])] fun P hP => ?_
  rw [(cp_Z_1 L xs (q := 241) (Nat.le_of_ble_eq_true rfl))]
  refine hP _ _ _ _ _ ?_
  refine xWP_goto [0, 1, 2, 3] ((cp_Z_1 L xs (q := 242) (Nat.le_of_ble_eq_true rfl)).trans rfl) ((cp_Z_28 L xs (q := 1575) (Nat.le_of_ble_eq_true rfl)).trans rfl) rfl (fun _ => rfl) (lw_bk L xs ?_)
  exact hk _ _ ⟨F', v', F3, v3, rfl, A'.tr ((pg_thing A I _ _).tr A3.sy), (pi_thing I _ _).up.of A'.sy, S', S3⟩
set_option maxRecDepth 100000 in
theorem lw_c1 (L : Nat) (hL : L ≤ 3072) (xs : Nat → Int32) (i n : Nat) (hi : i + 6 ≤ L) (hn : n < 1000) (F v F2 v2 : xS) (A : agr (hA F v) (mA F2 v2)) (I : aIv n (hA F v)) (S : hS v) (S2 : mS F2 v2) (b : xB) (hk : ∀ w b, lwI (n + 1) w → xWP (pg_Z_law L xs) xK1 18 (xl1 (nI i + 6)) [] w b) : xWP (pg_Z_law L xs) xK1 245 (xl1 (nI i)) [] (xfill F v 0 wH0 ++ xfill F2 v2 0 (wM0 70)) b := by
  have J : aIv n (mA F2 v2) := I.of A
  refine xWP_go 60 [(256, [0, 1, 2, 3])] fun P hP => ?_
  rw [(cp_Z_1 L xs (q := 245) (Nat.le_of_ble_eq_true rfl))]
  refine ⟨rfl, lw_ix 1 (by omega) hL, ?_⟩
  refine ⟨rfl, lw_ix 2 (by omega) hL, ?_⟩
  refine hP _ _ _ _ _ ?_
  refine xwHii _ _ ((cp_Z_1 L xs (q := 256) (Nat.le_of_ble_eq_true rfl)).trans rfl) (fun r F' v' => r = f_ofThing _ _ (hA F v) ∧ hS v' ∧ agr (hA F' v') (hA F v)) (fun K k => hs_ofThing n F v I S _ _ (fun F' v' S' A' => k _ F' v' ⟨rfl, S', A'⟩)) (fun r F' v' b' q => ?_)
  obtain ⟨er, S', A'⟩ := q
  refine xWP_go (pc := 259) 60 [(271, [0, 1, 2, 3])] fun P hP => ?_
  rw [(cp_Z_1 L xs (q := 259) (Nat.le_of_ble_eq_true rfl))]
  refine ⟨rfl, lw_ix 1 (by omega) hL, ?_⟩
  refine ⟨rfl, lw_ix 2 (by omega) hL, ?_⟩
  refine hP _ _ _ _ _ ?_
  refine xwMii _ _ ((cp_Z_1 L xs (q := 271) (Nat.le_of_ble_eq_true rfl)).trans rfl) (fun r F' v' => r = f_ofThing _ _ (mA F2 v2) ∧ mS F' v' ∧ agr (mA F' v') (mA F2 v2)) (fun K k => ms_ofThing n F2 v2 J S2 _ _ (fun F' v' S' A' => k _ F' v' ⟨rfl, S', A'⟩)) (fun r3 F3 v3 b3 q => ?_)
  obtain ⟨er3, S3, A3⟩ := q
  refine xWP_go (pc := 274) 60 [(275, [0, 1, 2, 3])] fun P hP => ?_
  rw [(cp_Z_1 L xs (q := 274) (Nat.le_of_ble_eq_true rfl))]
  refine hP _ _ _ _ _ ?_
  refine xWP_goto [0, 1, 2, 3] ((cp_Z_1 L xs (q := 275) (Nat.le_of_ble_eq_true rfl)).trans rfl) ((cp_Z_28 L xs (q := 1575) (Nat.le_of_ble_eq_true rfl)).trans rfl) rfl (fun _ => rfl) (lw_bk L xs ?_)
  exact hk _ _ ⟨F', v', F3, v3, rfl, A'.tr (A.tr A3.sy), I.up.of A'.sy, S', S3⟩
set_option maxRecDepth 100000 in
theorem lw_c2 (L : Nat) (hL : L ≤ 3072) (xs : Nat → Int32) (i n : Nat) (hi : i + 6 ≤ L) (hn : n < 1000) (F v F2 v2 : xS) (A : agr (hA F v) (mA F2 v2)) (I : aIv n (hA F v)) (S : hS v) (S2 : mS F2 v2) (b : xB) (hk : ∀ w b, lwI (n + 1) w → xWP (pg_Z_law L xs) xK1 18 (xl1 (nI i + 6)) [] w b) : xWP (pg_Z_law L xs) xK1 278 (xl1 (nI i)) [] (xfill F v 0 wH0 ++ xfill F2 v2 0 (wM0 70)) b := by
  have J : aIv n (mA F2 v2) := I.of A
  refine xWP_go 60 [(294, [0, 1, 2, 3])] fun P hP => ?_
  rw [(cp_Z_1 L xs (q := 278) (Nat.le_of_ble_eq_true rfl))]
  refine ⟨rfl, lw_ix 1 (by omega) hL, ?_⟩
  refine ⟨rfl, lw_ix 2 (by omega) hL, ?_⟩
  refine ⟨rfl, lw_ix 3 (by omega) hL, ?_⟩
  refine hP _ _ _ _ _ ?_
  refine xwHiii _ _ _ ((cp_Z_2 L xs (q := 294) (Nat.le_of_ble_eq_true rfl)).trans rfl) (fun r F' v' => r = f_shift _ _ _ (hA F v) ∧ hS v' ∧ agr (hA F' v') (g_shift _ _ _ (hA F v))) (fun K k => hs_shift n F v I S _ _ _ (fun F' v' S' A' => k _ F' v' ⟨rfl, S', A'⟩)) (fun r F' v' b' q => ?_)
  obtain ⟨er, S', A'⟩ := q
  refine xWP_go (pc := 297) 60 [(314, [0, 1, 2, 3])] fun P hP => ?_
  rw [(cp_Z_2 L xs (q := 297) (Nat.le_of_ble_eq_true rfl))]
  refine ⟨rfl, lw_ix 1 (by omega) hL, ?_⟩
  refine ⟨rfl, lw_ix 2 (by omega) hL, ?_⟩
  refine ⟨rfl, lw_ix 3 (by omega) hL, ?_⟩
  refine hP _ _ _ _ _ ?_
  refine xwMiii _ _ _ ((cp_Z_2 L xs (q := 314) (Nat.le_of_ble_eq_true rfl)).trans rfl) (fun r F' v' => r = f_shift _ _ _ (mA F2 v2) ∧ mS F' v' ∧ agr (mA F' v') (g_shift _ _ _ (mA F2 v2))) (fun K k => ms_shift n F2 v2 J S2 _ _ _ (fun F' v' S' A' => k _ F' v' ⟨rfl, S', A'⟩)) (fun r3 F3 v3 b3 q => ?_)
  obtain ⟨er3, S3, A3⟩ := q
  refine xWP_go (pc := 317) 60 [(318, [0, 1, 2, 3])] fun P hP => ?_
  rw [(cp_Z_2 L xs (q := 317) (Nat.le_of_ble_eq_true rfl))]
  refine hP _ _ _ _ _ ?_
  refine xWP_goto [0, 1, 2, 3] ((cp_Z_2 L xs (q := 318) (Nat.le_of_ble_eq_true rfl)).trans rfl) ((cp_Z_28 L xs (q := 1575) (Nat.le_of_ble_eq_true rfl)).trans rfl) rfl (fun _ => rfl) (lw_bk L xs ?_)
  exact hk _ _ ⟨F', v', F3, v3, rfl, A'.tr ((pg_shift A I _ _ _).tr A3.sy), (pi_shift I _ _ _).up.of A'.sy, S', S3⟩
set_option maxRecDepth 100000 in
theorem lw_c3 (L : Nat) (hL : L ≤ 3072) (xs : Nat → Int32) (i n : Nat) (hi : i + 6 ≤ L) (hn : n < 1000) (F v F2 v2 : xS) (A : agr (hA F v) (mA F2 v2)) (I : aIv n (hA F v)) (S : hS v) (S2 : mS F2 v2) (b : xB) (hk : ∀ w b, lwI (n + 1) w → xWP (pg_Z_law L xs) xK1 18 (xl1 (nI i + 6)) [] w b) : xWP (pg_Z_law L xs) xK1 321 (xl1 (nI i)) [] (xfill F v 0 wH0 ++ xfill F2 v2 0 (wM0 70)) b := by
  have J : aIv n (mA F2 v2) := I.of A
  refine xWP_go 60 [(332, [0, 1, 2, 3])] fun P hP => ?_
  rw [(cp_Z_2 L xs (q := 321) (Nat.le_of_ble_eq_true rfl))]
  refine ⟨rfl, lw_ix 1 (by omega) hL, ?_⟩
  refine ⟨rfl, lw_ix 2 (by omega) hL, ?_⟩
  refine hP _ _ _ _ _ ?_
  refine xwHii _ _ ((cp_Z_3 L xs (q := 332) (Nat.le_of_ble_eq_true rfl)).trans rfl) (fun r F' v' => r = f_child _ _ (hA F v) ∧ hS v' ∧ agr (hA F' v') (g_child _ _ (hA F v))) (fun K k => hs_child n F v I S _ _ (fun F' v' S' A' => k _ F' v' ⟨rfl, S', A'⟩)) (fun r F' v' b' q => ?_)
  obtain ⟨er, S', A'⟩ := q
  refine xWP_go (pc := 335) 60 [(347, [0, 1, 2, 3])] fun P hP => ?_
  rw [(cp_Z_3 L xs (q := 335) (Nat.le_of_ble_eq_true rfl))]
  refine ⟨rfl, lw_ix 1 (by omega) hL, ?_⟩
  refine ⟨rfl, lw_ix 2 (by omega) hL, ?_⟩
  refine hP _ _ _ _ _ ?_
  refine xwMii _ _ ((cp_Z_3 L xs (q := 347) (Nat.le_of_ble_eq_true rfl)).trans rfl) (fun r F' v' => r = f_child _ _ (mA F2 v2) ∧ mS F' v' ∧ agr (mA F' v') (g_child _ _ (mA F2 v2))) (fun K k => ms_child n F2 v2 J S2 _ _ (fun F' v' S' A' => k _ F' v' ⟨rfl, S', A'⟩)) (fun r3 F3 v3 b3 q => ?_)
  obtain ⟨er3, S3, A3⟩ := q
  refine xWP_go (pc := 350) 60 [(351, [0, 1, 2, 3])] fun P hP => ?_
  rw [(cp_Z_3 L xs (q := 350) (Nat.le_of_ble_eq_true rfl))]
  refine hP _ _ _ _ _ ?_
  refine xWP_goto [0, 1, 2, 3] ((cp_Z_3 L xs (q := 351) (Nat.le_of_ble_eq_true rfl)).trans rfl) ((cp_Z_28 L xs (q := 1575) (Nat.le_of_ble_eq_true rfl)).trans rfl) rfl (fun _ => rfl) (lw_bk L xs ?_)
  exact hk _ _ ⟨F', v', F3, v3, rfl, A'.tr ((pg_child A I _ _).tr A3.sy), (pi_child I _ _).up.of A'.sy, S', S3⟩
set_option maxRecDepth 100000 in
theorem lw_c4 (L : Nat) (hL : L ≤ 3072) (xs : Nat → Int32) (i n : Nat) (hi : i + 6 ≤ L) (hn : n < 1000) (F v F2 v2 : xS) (A : agr (hA F v) (mA F2 v2)) (I : aIv n (hA F v)) (S : hS v) (S2 : mS F2 v2) (b : xB) (hk : ∀ w b, lwI (n + 1) w → xWP (pg_Z_law L xs) xK1 18 (xl1 (nI i + 6)) [] w b) : xWP (pg_Z_law L xs) xK1 354 (xl1 (nI i)) [] (xfill F v 0 wH0 ++ xfill F2 v2 0 (wM0 70)) b := by
  have J : aIv n (mA F2 v2) := I.of A
  refine xWP_go 60 [(365, [0, 1, 2, 3])] fun P hP => ?_
  rw [(cp_Z_3 L xs (q := 354) (Nat.le_of_ble_eq_true rfl))]
  refine ⟨rfl, lw_ix 1 (by omega) hL, ?_⟩
  refine ⟨rfl, lw_ix 2 (by omega) hL, ?_⟩
  refine hP _ _ _ _ _ ?_
  refine xwHii _ _ ((cp_Z_3 L xs (q := 365) (Nat.le_of_ble_eq_true rfl)).trans rfl) (fun r F' v' => True ∧ hS v' ∧ agr (hA F' v') (hA F v)) (fun K k => hs_ofChild n F v I S _ _ (fun r F' v' S' A' => k _ F' v' ⟨trivial, S', A'⟩)) (fun r F' v' b' q => ?_)
  obtain ⟨er, S', A'⟩ := q
  refine xWP_go (pc := 368) 60 [(380, [0, 1, 2, 3])] fun P hP => ?_
  rw [(cp_Z_3 L xs (q := 368) (Nat.le_of_ble_eq_true rfl))]
  refine ⟨rfl, lw_ix 1 (by omega) hL, ?_⟩
  refine ⟨rfl, lw_ix 2 (by omega) hL, ?_⟩
  refine hP _ _ _ _ _ ?_
  refine xwMii _ _ ((cp_Z_4 L xs (q := 380) (Nat.le_of_ble_eq_true rfl)).trans rfl) (fun r F' v' => True ∧ mS F' v' ∧ agr (mA F' v') (mA F2 v2)) (fun K k => ms_ofChild n F2 v2 J S2 _ _ (fun r F' v' S' A' => k _ F' v' ⟨trivial, S', A'⟩)) (fun r3 F3 v3 b3 q => ?_)
  obtain ⟨er3, S3, A3⟩ := q
  refine xWP_go (pc := 383) 60 [(384, [0, 1, 2, 3])] fun P hP => ?_
  rw [(cp_Z_4 L xs (q := 383) (Nat.le_of_ble_eq_true rfl))]
  refine hP _ _ _ _ _ ?_
  refine xWP_goto [0, 1, 2, 3] ((cp_Z_4 L xs (q := 384) (Nat.le_of_ble_eq_true rfl)).trans rfl) ((cp_Z_28 L xs (q := 1575) (Nat.le_of_ble_eq_true rfl)).trans rfl) rfl (fun _ => rfl) (lw_bk L xs ?_)
  exact hk _ _ ⟨F', v', F3, v3, rfl, A'.tr (A.tr A3.sy), I.up.of A'.sy, S', S3⟩
set_option maxRecDepth 100000 in
theorem lw_c5 (L : Nat) (hL : L ≤ 3072) (xs : Nat → Int32) (i n : Nat) (hi : i + 6 ≤ L) (hn : n < 1000) (F v F2 v2 : xS) (A : agr (hA F v) (mA F2 v2)) (I : aIv n (hA F v)) (S : hS v) (S2 : mS F2 v2) (b : xB) (hk : ∀ w b, lwI (n + 1) w → xWP (pg_Z_law L xs) xK1 18 (xl1 (nI i + 6)) [] w b) : xWP (pg_Z_law L xs) xK1 387 (xl1 (nI i)) [] (xfill F v 0 wH0 ++ xfill F2 v2 0 (wM0 70)) b := by
  have J : aIv n (mA F2 v2) := I.of A
  refine xWP_go 60 [(403, [0, 1, 2, 3])] fun P hP => ?_
  rw [(cp_Z_4 L xs (q := 387) (Nat.le_of_ble_eq_true rfl))]
  refine ⟨rfl, lw_ix 1 (by omega) hL, ?_⟩
  refine ⟨rfl, lw_ix 2 (by omega) hL, ?_⟩
  refine ⟨rfl, lw_ix 3 (by omega) hL, ?_⟩
  refine hP _ _ _ _ _ ?_
  refine xwHiii _ _ _ ((cp_Z_4 L xs (q := 403) (Nat.le_of_ble_eq_true rfl)).trans rfl) (fun r F' v' => True ∧ hS v' ∧ agr (hA F' v') (hA F v)) (fun K k => hs_change n F v I S _ _ _ (fun r F' v' S' A' => k _ F' v' ⟨trivial, S', A'⟩)) (fun r F' v' b' q => ?_)
  obtain ⟨er, S', A'⟩ := q
  refine xWP_go (pc := 406) 60 [(423, [0, 1, 2, 3])] fun P hP => ?_
  rw [(cp_Z_4 L xs (q := 406) (Nat.le_of_ble_eq_true rfl))]
  refine ⟨rfl, lw_ix 1 (by omega) hL, ?_⟩
  refine ⟨rfl, lw_ix 2 (by omega) hL, ?_⟩
  refine ⟨rfl, lw_ix 3 (by omega) hL, ?_⟩
  refine hP _ _ _ _ _ ?_
  refine xwMiii _ _ _ ((cp_Z_5 L xs (q := 423) (Nat.le_of_ble_eq_true rfl)).trans rfl) (fun r F' v' => True ∧ mS F' v' ∧ agr (mA F' v') (mA F2 v2)) (fun K k => ms_change n F2 v2 J S2 _ _ _ (fun r F' v' S' A' => k _ F' v' ⟨trivial, S', A'⟩)) (fun r3 F3 v3 b3 q => ?_)
  obtain ⟨er3, S3, A3⟩ := q
  refine xWP_go (pc := 426) 60 [(427, [0, 1, 2, 3])] fun P hP => ?_
  rw [(cp_Z_5 L xs (q := 426) (Nat.le_of_ble_eq_true rfl))]
  refine hP _ _ _ _ _ ?_
  refine xWP_goto [0, 1, 2, 3] ((cp_Z_5 L xs (q := 427) (Nat.le_of_ble_eq_true rfl)).trans rfl) ((cp_Z_28 L xs (q := 1575) (Nat.le_of_ble_eq_true rfl)).trans rfl) rfl (fun _ => rfl) (lw_bk L xs ?_)
  exact hk _ _ ⟨F', v', F3, v3, rfl, A'.tr (A.tr A3.sy), I.up.of A'.sy, S', S3⟩
set_option maxRecDepth 100000 in
theorem lw_c6 (L : Nat) (hL : L ≤ 3072) (xs : Nat → Int32) (i n : Nat) (hi : i + 6 ≤ L) (hn : n < 1000) (F v F2 v2 : xS) (A : agr (hA F v) (mA F2 v2)) (I : aIv n (hA F v)) (S : hS v) (S2 : mS F2 v2) (b : xB) (hk : ∀ w b, lwI (n + 1) w → xWP (pg_Z_law L xs) xK1 18 (xl1 (nI i + 6)) [] w b) : xWP (pg_Z_law L xs) xK1 430 (xl1 (nI i)) [] (xfill F v 0 wH0 ++ xfill F2 v2 0 (wM0 70)) b := by
  have J : aIv n (mA F2 v2) := I.of A
  refine xWP_go 60 [(436, [0, 1, 2, 3])] fun P hP => ?_
  rw [(cp_Z_5 L xs (q := 430) (Nat.le_of_ble_eq_true rfl))]
  refine ⟨rfl, lw_ix 1 (by omega) hL, ?_⟩
  refine hP _ _ _ _ _ ?_
  refine xwHi _ ((cp_Z_5 L xs (q := 436) (Nat.le_of_ble_eq_true rfl)).trans rfl) (fun r F' v' => True ∧ hS v' ∧ agr (hA F' v') (hA F v)) (fun K k => hs_it n F v I S _ (fun r F' v' S' A' => k _ F' v' ⟨trivial, S', A'⟩)) (fun r F' v' b' q => ?_)
  obtain ⟨er, S', A'⟩ := q
  refine xWP_go (pc := 439) 60 [(446, [0, 1, 2, 3])] fun P hP => ?_
  rw [(cp_Z_5 L xs (q := 439) (Nat.le_of_ble_eq_true rfl))]
  refine ⟨rfl, lw_ix 1 (by omega) hL, ?_⟩
  refine hP _ _ _ _ _ ?_
  refine xwMi _ ((cp_Z_5 L xs (q := 446) (Nat.le_of_ble_eq_true rfl)).trans rfl) (fun r F' v' => True ∧ mS F' v' ∧ agr (mA F' v') (mA F2 v2)) (fun K k => ms_it n F2 v2 J S2 _ (fun r F' v' S' A' => k _ F' v' ⟨trivial, S', A'⟩)) (fun r3 F3 v3 b3 q => ?_)
  obtain ⟨er3, S3, A3⟩ := q
  refine xWP_go (pc := 449) 60 [(450, [0, 1, 2, 3])] fun P hP => ?_
  rw [(cp_Z_5 L xs (q := 449) (Nat.le_of_ble_eq_true rfl))]
  refine hP _ _ _ _ _ ?_
  refine xWP_goto [0, 1, 2, 3] ((cp_Z_5 L xs (q := 450) (Nat.le_of_ble_eq_true rfl)).trans rfl) ((cp_Z_28 L xs (q := 1575) (Nat.le_of_ble_eq_true rfl)).trans rfl) rfl (fun _ => rfl) (lw_bk L xs ?_)
  exact hk _ _ ⟨F', v', F3, v3, rfl, A'.tr (A.tr A3.sy), I.up.of A'.sy, S', S3⟩
set_option maxRecDepth 100000 in
theorem lw_c7 (L : Nat) (hL : L ≤ 3072) (xs : Nat → Int32) (i n : Nat) (hi : i + 6 ≤ L) (hn : n < 1000) (F v F2 v2 : xS) (A : agr (hA F v) (mA F2 v2)) (I : aIv n (hA F v)) (S : hS v) (S2 : mS F2 v2) (b : xB) (hk : ∀ w b, lwI (n + 1) w → xWP (pg_Z_law L xs) xK1 18 (xl1 (nI i + 6)) [] w b) : xWP (pg_Z_law L xs) xK1 453 (xl1 (nI i)) [] (xfill F v 0 wH0 ++ xfill F2 v2 0 (wM0 70)) b := by
  have J : aIv n (mA F2 v2) := I.of A
  refine xWP_go 60 [(464, [0, 1, 2, 3])] fun P hP => ?_
  rw [(cp_Z_5 L xs (q := 453) (Nat.le_of_ble_eq_true rfl))]
  refine ⟨rfl, lw_ix 1 (by omega) hL, ?_⟩
  refine ⟨rfl, lw_ix 2 (by omega) hL, ?_⟩
  refine hP _ _ _ _ _ ?_
  refine xwHii _ _ ((cp_Z_5 L xs (q := 464) (Nat.le_of_ble_eq_true rfl)).trans rfl) (fun r F' v' => r = f_become _ _ (hA F v) ∧ hS v' ∧ agr (hA F' v') (g_become _ _ (hA F v))) (fun K k => hs_become n F v I S _ _ (fun F' v' S' A' => k _ F' v' ⟨rfl, S', A'⟩)) (fun r F' v' b' q => ?_)
  obtain ⟨er, S', A'⟩ := q
  refine xWP_go (pc := 467) 60 [(479, [0, 1, 2, 3])] fun P hP => ?_
  rw [(cp_Z_5 L xs (q := 467) (Nat.le_of_ble_eq_true rfl))]
  refine ⟨rfl, lw_ix 1 (by omega) hL, ?_⟩
  refine ⟨rfl, lw_ix 2 (by omega) hL, ?_⟩
  refine hP _ _ _ _ _ ?_
  refine xwMii _ _ ((cp_Z_6 L xs (q := 479) (Nat.le_of_ble_eq_true rfl)).trans rfl) (fun r F' v' => r = f_become _ _ (mA F2 v2) ∧ mS F' v' ∧ agr (mA F' v') (g_become _ _ (mA F2 v2))) (fun K k => ms_become n F2 v2 J S2 _ _ (fun F' v' S' A' => k _ F' v' ⟨rfl, S', A'⟩)) (fun r3 F3 v3 b3 q => ?_)
  obtain ⟨er3, S3, A3⟩ := q
  refine xWP_go (pc := 482) 60 [(483, [0, 1, 2, 3])] fun P hP => ?_
  rw [(cp_Z_6 L xs (q := 482) (Nat.le_of_ble_eq_true rfl))]
  refine hP _ _ _ _ _ ?_
  refine xWP_goto [0, 1, 2, 3] ((cp_Z_6 L xs (q := 483) (Nat.le_of_ble_eq_true rfl)).trans rfl) ((cp_Z_28 L xs (q := 1575) (Nat.le_of_ble_eq_true rfl)).trans rfl) rfl (fun _ => rfl) (lw_bk L xs ?_)
  exact hk _ _ ⟨F', v', F3, v3, rfl, A'.tr ((pg_become A _ _).tr A3.sy), (pi_become I _ _).up.of A'.sy, S', S3⟩
set_option maxRecDepth 100000 in
theorem lw_c8 (L : Nat) (hL : L ≤ 3072) (xs : Nat → Int32) (i n : Nat) (hi : i + 6 ≤ L) (hn : n < 1000) (F v F2 v2 : xS) (A : agr (hA F v) (mA F2 v2)) (I : aIv n (hA F v)) (S : hS v) (S2 : mS F2 v2) (b : xB) (hk : ∀ w b, lwI (n + 1) w → xWP (pg_Z_law L xs) xK1 18 (xl1 (nI i + 6)) [] w b) : xWP (pg_Z_law L xs) xK1 486 (xl1 (nI i)) [] (xfill F v 0 wH0 ++ xfill F2 v2 0 (wM0 70)) b := by
  have J : aIv n (mA F2 v2) := I.of A
  refine xWP_go 60 [(497, [0, 1, 2, 3])] fun P hP => ?_
  rw [(cp_Z_6 L xs (q := 486) (Nat.le_of_ble_eq_true rfl))]
  refine ⟨rfl, lw_ix 1 (by omega) hL, ?_⟩
  refine ⟨rfl, lw_ix 2 (by omega) hL, ?_⟩
  refine hP _ _ _ _ _ ?_
  refine xwHii _ _ ((cp_Z_6 L xs (q := 497) (Nat.le_of_ble_eq_true rfl)).trans rfl) (fun r F' v' => r = f_as _ _ (hA F v) ∧ hS v' ∧ agr (hA F' v') (hA F v)) (fun K k => hs_as n F v I S _ _ (fun F' v' S' A' => k _ F' v' ⟨rfl, S', A'⟩)) (fun r F' v' b' q => ?_)
  obtain ⟨er, S', A'⟩ := q
  refine xWP_go (pc := 500) 60 [(512, [0, 1, 2, 3])] fun P hP => ?_
  rw [(cp_Z_6 L xs (q := 500) (Nat.le_of_ble_eq_true rfl))]
  refine ⟨rfl, lw_ix 1 (by omega) hL, ?_⟩
  refine ⟨rfl, lw_ix 2 (by omega) hL, ?_⟩
  refine hP _ _ _ _ _ ?_
  refine xwMii _ _ ((cp_Z_6 L xs (q := 512) (Nat.le_of_ble_eq_true rfl)).trans rfl) (fun r F' v' => r = f_as _ _ (mA F2 v2) ∧ mS F' v' ∧ agr (mA F' v') (mA F2 v2)) (fun K k => ms_as n F2 v2 J S2 _ _ (fun F' v' S' A' => k _ F' v' ⟨rfl, S', A'⟩)) (fun r3 F3 v3 b3 q => ?_)
  obtain ⟨er3, S3, A3⟩ := q
  refine xWP_go (pc := 515) 60 [(516, [0, 1, 2, 3])] fun P hP => ?_
  rw [(cp_Z_6 L xs (q := 515) (Nat.le_of_ble_eq_true rfl))]
  refine hP _ _ _ _ _ ?_
  refine xWP_goto [0, 1, 2, 3] ((cp_Z_6 L xs (q := 516) (Nat.le_of_ble_eq_true rfl)).trans rfl) ((cp_Z_28 L xs (q := 1575) (Nat.le_of_ble_eq_true rfl)).trans rfl) rfl (fun _ => rfl) (lw_bk L xs ?_)
  exact hk _ _ ⟨F', v', F3, v3, rfl, A'.tr (A.tr A3.sy), I.up.of A'.sy, S', S3⟩
set_option maxRecDepth 100000 in
theorem lw_c9 (L : Nat) (hL : L ≤ 3072) (xs : Nat → Int32) (i n : Nat) (hi : i + 6 ≤ L) (hn : n < 1000) (F v F2 v2 : xS) (A : agr (hA F v) (mA F2 v2)) (I : aIv n (hA F v)) (S : hS v) (S2 : mS F2 v2) (b : xB) (hk : ∀ w b, lwI (n + 1) w → xWP (pg_Z_law L xs) xK1 18 (xl1 (nI i + 6)) [] w b) : xWP (pg_Z_law L xs) xK1 519 (xl1 (nI i)) [] (xfill F v 0 wH0 ++ xfill F2 v2 0 (wM0 70)) b := by
  have J : aIv n (mA F2 v2) := I.of A
  refine xWP_go 60 [(545, [0, 1, 2, 3])] fun P hP => ?_
  rw [(cp_Z_6 L xs (q := 519) (Nat.le_of_ble_eq_true rfl))]
  refine ⟨rfl, lw_ix 1 (by omega) hL, ?_⟩
  refine ⟨rfl, lw_ix 2 (by omega) hL, ?_⟩
  refine ⟨rfl, lw_ix 3 (by omega) hL, ?_⟩
  refine hP _ _ _ _ _ ?_
  refine xwHli _ _ ((cp_Z_7 L xs (q := 545) (Nat.le_of_ble_eq_true rfl)).trans rfl) (fun r F' v' => r = f_feed _ _ (hA F v) ∧ hS v' ∧ agr (hA F' v') (g_feed _ _ (hA F v))) (fun K k => hs_feed n F v I S _ _ (fun F' v' S' A' => k _ F' v' ⟨rfl, S', A'⟩)) (fun r F' v' b' q => ?_)
  obtain ⟨er, S', A'⟩ := q
  refine xWP_go (pc := 548) 60 [(575, [0, 1, 2, 3])] fun P hP => ?_
  rw [(cp_Z_7 L xs (q := 548) (Nat.le_of_ble_eq_true rfl))]
  refine ⟨rfl, lw_ix 1 (by omega) hL, ?_⟩
  refine ⟨rfl, lw_ix 2 (by omega) hL, ?_⟩
  refine ⟨rfl, lw_ix 3 (by omega) hL, ?_⟩
  refine hP _ _ _ _ _ ?_
  refine xwMli _ _ ((cp_Z_8 L xs (q := 575) (Nat.le_of_ble_eq_true rfl)).trans rfl) (fun r F' v' => r = f_feed _ _ (mA F2 v2) ∧ mS F' v' ∧ agr (mA F' v') (g_feed _ _ (mA F2 v2))) (fun K k => ms_feed n F2 v2 J S2 _ _ (fun F' v' S' A' => k _ F' v' ⟨rfl, S', A'⟩)) (fun r3 F3 v3 b3 q => ?_)
  obtain ⟨er3, S3, A3⟩ := q
  refine xWP_go (pc := 578) 60 [(579, [0, 1, 2, 3])] fun P hP => ?_
  rw [(cp_Z_8 L xs (q := 578) (Nat.le_of_ble_eq_true rfl))]
  refine hP _ _ _ _ _ ?_
  refine xWP_goto [0, 1, 2, 3] ((cp_Z_8 L xs (q := 579) (Nat.le_of_ble_eq_true rfl)).trans rfl) ((cp_Z_28 L xs (q := 1575) (Nat.le_of_ble_eq_true rfl)).trans rfl) rfl (fun _ => rfl) (lw_bk L xs ?_)
  exact hk _ _ ⟨F', v', F3, v3, rfl, A'.tr ((pg_feed A I _ _).tr A3.sy), (pi_feed I _ _).up.of A'.sy, S', S3⟩
set_option maxRecDepth 100000 in
theorem lw_c10 (L : Nat) (hL : L ≤ 3072) (xs : Nat → Int32) (i n : Nat) (hi : i + 6 ≤ L) (hn : n < 1000) (F v F2 v2 : xS) (A : agr (hA F v) (mA F2 v2)) (I : aIv n (hA F v)) (S : hS v) (S2 : mS F2 v2) (b : xB) (hk : ∀ w b, lwI (n + 1) w → xWP (pg_Z_law L xs) xK1 18 (xl1 (nI i + 6)) [] w b) : xWP (pg_Z_law L xs) xK1 582 (xl1 (nI i)) [] (xfill F v 0 wH0 ++ xfill F2 v2 0 (wM0 70)) b := by
  have J : aIv n (mA F2 v2) := I.of A
  refine xWP_go 60 [(588, [0, 1, 2, 3])] fun P hP => ?_
  rw [(cp_Z_8 L xs (q := 582) (Nat.le_of_ble_eq_true rfl))]
  refine ⟨rfl, lw_ix 1 (by omega) hL, ?_⟩
  refine hP _ _ _ _ _ ?_
  refine xwHi _ ((cp_Z_8 L xs (q := 588) (Nat.le_of_ble_eq_true rfl)).trans rfl) (fun r F' v' => True ∧ hS v' ∧ agr (hA F' v') (g_text _ (hA F v))) (fun K k => hs_text n F v I S _ (fun r F' v' S' A' => k _ F' v' ⟨trivial, S', A'⟩)) (fun r F' v' b' q => ?_)
  obtain ⟨er, S', A'⟩ := q
  refine xWP_go (pc := 591) 60 [(598, [0, 1, 2, 3])] fun P hP => ?_
  rw [(cp_Z_8 L xs (q := 591) (Nat.le_of_ble_eq_true rfl))]
  refine ⟨rfl, lw_ix 1 (by omega) hL, ?_⟩
  refine hP _ _ _ _ _ ?_
  refine xwMi _ ((cp_Z_8 L xs (q := 598) (Nat.le_of_ble_eq_true rfl)).trans rfl) (fun r F' v' => True ∧ mS F' v' ∧ agr (mA F' v') (g_text _ (mA F2 v2))) (fun K k => ms_text n F2 v2 J S2 _ (fun r F' v' S' A' => k _ F' v' ⟨trivial, S', A'⟩)) (fun r3 F3 v3 b3 q => ?_)
  obtain ⟨er3, S3, A3⟩ := q
  refine xWP_go (pc := 601) 60 [(602, [0, 1, 2, 3])] fun P hP => ?_
  rw [(cp_Z_8 L xs (q := 601) (Nat.le_of_ble_eq_true rfl))]
  refine hP _ _ _ _ _ ?_
  refine xWP_goto [0, 1, 2, 3] ((cp_Z_8 L xs (q := 602) (Nat.le_of_ble_eq_true rfl)).trans rfl) ((cp_Z_28 L xs (q := 1575) (Nat.le_of_ble_eq_true rfl)).trans rfl) rfl (fun _ => rfl) (lw_bk L xs ?_)
  exact hk _ _ ⟨F', v', F3, v3, rfl, A'.tr ((pg_text A _).tr A3.sy), (pi_text I _).up.of A'.sy, S', S3⟩
set_option maxRecDepth 100000 in
theorem lw_c11 (L : Nat) (hL : L ≤ 3072) (xs : Nat → Int32) (i n : Nat) (hi : i + 6 ≤ L) (hn : n < 1000) (F v F2 v2 : xS) (A : agr (hA F v) (mA F2 v2)) (I : aIv n (hA F v)) (S : hS v) (S2 : mS F2 v2) (b : xB) (hk : ∀ w b, lwI (n + 1) w → xWP (pg_Z_law L xs) xK1 18 (xl1 (nI i + 6)) [] w b) : xWP (pg_Z_law L xs) xK1 605 (xl1 (nI i)) [] (xfill F v 0 wH0 ++ xfill F2 v2 0 (wM0 70)) b := by
  have J : aIv n (mA F2 v2) := I.of A
  refine xWP_go 60 [(626, [0, 1, 2, 3])] fun P hP => ?_
  rw [(cp_Z_8 L xs (q := 605) (Nat.le_of_ble_eq_true rfl))]
  refine ⟨rfl, lw_ix 1 (by omega) hL, ?_⟩
  refine ⟨rfl, lw_ix 2 (by omega) hL, ?_⟩
  refine ⟨rfl, lw_ix 3 (by omega) hL, ?_⟩
  refine ⟨rfl, lw_ix 4 (by omega) hL, ?_⟩
  refine hP _ _ _ _ _ ?_
  refine xwHiiii _ _ _ _ ((cp_Z_9 L xs (q := 626) (Nat.le_of_ble_eq_true rfl)).trans rfl) (fun r F' v' => True ∧ hS v' ∧ agr (hA F' v') (hA F v)) (fun K k => hs_law n F v I S _ _ _ _ (fun r F' v' S' A' => k _ F' v' ⟨trivial, S', A'⟩)) (fun r F' v' b' q => ?_)
  obtain ⟨er, S', A'⟩ := q
  refine xWP_go (pc := 629) 60 [(651, [0, 1, 2, 3])] fun P hP => ?_
  rw [(cp_Z_9 L xs (q := 629) (Nat.le_of_ble_eq_true rfl))]
  refine ⟨rfl, lw_ix 1 (by omega) hL, ?_⟩
  refine ⟨rfl, lw_ix 2 (by omega) hL, ?_⟩
  refine ⟨rfl, lw_ix 3 (by omega) hL, ?_⟩
  refine ⟨rfl, lw_ix 4 (by omega) hL, ?_⟩
  refine hP _ _ _ _ _ ?_
  refine xwMiiii _ _ _ _ ((cp_Z_9 L xs (q := 651) (Nat.le_of_ble_eq_true rfl)).trans rfl) (fun r F' v' => True ∧ mS F' v' ∧ agr (mA F' v') (mA F2 v2)) (fun K k => ms_law n F2 v2 J S2 _ _ _ _ (fun r F' v' S' A' => k _ F' v' ⟨trivial, S', A'⟩)) (fun r3 F3 v3 b3 q => ?_)
  obtain ⟨er3, S3, A3⟩ := q
  refine xWP_go (pc := 654) 60 [(655, [0, 1, 2, 3])] fun P hP => ?_
  rw [(cp_Z_9 L xs (q := 654) (Nat.le_of_ble_eq_true rfl))]
  refine hP _ _ _ _ _ ?_
  refine xWP_goto [0, 1, 2, 3] ((cp_Z_9 L xs (q := 655) (Nat.le_of_ble_eq_true rfl)).trans rfl) ((cp_Z_28 L xs (q := 1575) (Nat.le_of_ble_eq_true rfl)).trans rfl) rfl (fun _ => rfl) (lw_bk L xs ?_)
  exact hk _ _ ⟨F', v', F3, v3, rfl, A'.tr (A.tr A3.sy), I.up.of A'.sy, S', S3⟩
set_option maxRecDepth 100000 in
theorem lw_c12 (L : Nat) (hL : L ≤ 3072) (xs : Nat → Int32) (i n : Nat) (hi : i + 6 ≤ L) (hn : n < 1000) (F v F2 v2 : xS) (A : agr (hA F v) (mA F2 v2)) (I : aIv n (hA F v)) (S : hS v) (S2 : mS F2 v2) (b : xB) (hk : ∀ w b, lwI (n + 1) w → xWP (pg_Z_law L xs) xK1 18 (xl1 (nI i + 6)) [] w b) : xWP (pg_Z_law L xs) xK1 658 (xl1 (nI i)) [] (xfill F v 0 wH0 ++ xfill F2 v2 0 (wM0 70)) b := by
  have J : aIv n (mA F2 v2) := I.of A
  refine xWP_go 60 [(669, [0, 1, 2, 3])] fun P hP => ?_
  rw [(cp_Z_9 L xs (q := 658) (Nat.le_of_ble_eq_true rfl))]
  refine ⟨rfl, lw_ix 1 (by omega) hL, ?_⟩
  refine ⟨rfl, lw_ix 2 (by omega) hL, ?_⟩
  refine hP _ _ _ _ _ ?_
  refine xwHii _ _ ((cp_Z_10 L xs (q := 669) (Nat.le_of_ble_eq_true rfl)).trans rfl) (fun r F' v' => True ∧ hS v' ∧ agr (hA F' v') (g_call _ _ (hA F v))) (fun K k => hs_call n F v I S _ _ (fun r F' v' S' A' => k _ F' v' ⟨trivial, S', A'⟩)) (fun r F' v' b' q => ?_)
  obtain ⟨er, S', A'⟩ := q
  refine xWP_go (pc := 672) 60 [(684, [0, 1, 2, 3])] fun P hP => ?_
  rw [(cp_Z_10 L xs (q := 672) (Nat.le_of_ble_eq_true rfl))]
  refine ⟨rfl, lw_ix 1 (by omega) hL, ?_⟩
  refine ⟨rfl, lw_ix 2 (by omega) hL, ?_⟩
  refine hP _ _ _ _ _ ?_
  refine xwMii _ _ ((cp_Z_10 L xs (q := 684) (Nat.le_of_ble_eq_true rfl)).trans rfl) (fun r F' v' => True ∧ mS F' v' ∧ agr (mA F' v') (g_call _ _ (mA F2 v2))) (fun K k => ms_call n F2 v2 J S2 _ _ (fun r F' v' S' A' => k _ F' v' ⟨trivial, S', A'⟩)) (fun r3 F3 v3 b3 q => ?_)
  obtain ⟨er3, S3, A3⟩ := q
  refine xWP_go (pc := 687) 60 [(688, [0, 1, 2, 3])] fun P hP => ?_
  rw [(cp_Z_10 L xs (q := 687) (Nat.le_of_ble_eq_true rfl))]
  refine hP _ _ _ _ _ ?_
  refine xWP_goto [0, 1, 2, 3] ((cp_Z_10 L xs (q := 688) (Nat.le_of_ble_eq_true rfl)).trans rfl) ((cp_Z_28 L xs (q := 1575) (Nat.le_of_ble_eq_true rfl)).trans rfl) rfl (fun _ => rfl) (lw_bk L xs ?_)
  exact hk _ _ ⟨F', v', F3, v3, rfl, A'.tr ((pg_call A _ _).tr A3.sy), (pi_call I _ _).up.of A'.sy, S', S3⟩
set_option maxRecDepth 100000 in
theorem lw_c13 (L : Nat) (hL : L ≤ 3072) (xs : Nat → Int32) (i n : Nat) (hi : i + 6 ≤ L) (hn : n < 1000) (F v F2 v2 : xS) (A : agr (hA F v) (mA F2 v2)) (I : aIv n (hA F v)) (S : hS v) (S2 : mS F2 v2) (b : xB) (hk : ∀ w b, lwI (n + 1) w → xWP (pg_Z_law L xs) xK1 18 (xl1 (nI i + 6)) [] w b) : xWP (pg_Z_law L xs) xK1 691 (xl1 (nI i)) [] (xfill F v 0 wH0 ++ xfill F2 v2 0 (wM0 70)) b := by
  have J : aIv n (mA F2 v2) := I.of A
  refine xWP_go 60 [(697, [0, 1, 2, 3])] fun P hP => ?_
  rw [(cp_Z_10 L xs (q := 691) (Nat.le_of_ble_eq_true rfl))]
  refine ⟨rfl, lw_ix 1 (by omega) hL, ?_⟩
  refine hP _ _ _ _ _ ?_
  refine xwHi _ ((cp_Z_10 L xs (q := 697) (Nat.le_of_ble_eq_true rfl)).trans rfl) (fun r F' v' => True ∧ hS v' ∧ agr (hA F' v') (g_loose _ (hA F v))) (fun K k => hs_loose n F v I S _ (fun r F' v' S' A' => k _ F' v' ⟨trivial, S', A'⟩)) (fun r F' v' b' q => ?_)
  obtain ⟨er, S', A'⟩ := q
  refine xWP_go (pc := 700) 60 [(707, [0, 1, 2, 3])] fun P hP => ?_
  rw [(cp_Z_10 L xs (q := 700) (Nat.le_of_ble_eq_true rfl))]
  refine ⟨rfl, lw_ix 1 (by omega) hL, ?_⟩
  refine hP _ _ _ _ _ ?_
  refine xwMi _ ((cp_Z_10 L xs (q := 707) (Nat.le_of_ble_eq_true rfl)).trans rfl) (fun r F' v' => True ∧ mS F' v' ∧ agr (mA F' v') (g_loose _ (mA F2 v2))) (fun K k => ms_loose n F2 v2 J S2 _ (fun r F' v' S' A' => k _ F' v' ⟨trivial, S', A'⟩)) (fun r3 F3 v3 b3 q => ?_)
  obtain ⟨er3, S3, A3⟩ := q
  refine xWP_go (pc := 710) 60 [(711, [0, 1, 2, 3])] fun P hP => ?_
  rw [(cp_Z_10 L xs (q := 710) (Nat.le_of_ble_eq_true rfl))]
  refine hP _ _ _ _ _ ?_
  refine xWP_goto [0, 1, 2, 3] ((cp_Z_10 L xs (q := 711) (Nat.le_of_ble_eq_true rfl)).trans rfl) ((cp_Z_28 L xs (q := 1575) (Nat.le_of_ble_eq_true rfl)).trans rfl) rfl (fun _ => rfl) (lw_bk L xs ?_)
  exact hk _ _ ⟨F', v', F3, v3, rfl, A'.tr ((pg_loose A _).tr A3.sy), (pi_loose I _).up.of A'.sy, S', S3⟩
set_option maxRecDepth 100000 in
theorem lw_c14 (L : Nat) (hL : L ≤ 3072) (xs : Nat → Int32) (i n : Nat) (hi : i + 6 ≤ L) (hn : n < 1000) (F v F2 v2 : xS) (A : agr (hA F v) (mA F2 v2)) (I : aIv n (hA F v)) (S : hS v) (S2 : mS F2 v2) (b : xB) (hk : ∀ w b, lwI (n + 1) w → xWP (pg_Z_law L xs) xK1 18 (xl1 (nI i + 6)) [] w b) : xWP (pg_Z_law L xs) xK1 714 (xl1 (nI i)) [] (xfill F v 0 wH0 ++ xfill F2 v2 0 (wM0 70)) b := by
  have J : aIv n (mA F2 v2) := I.of A
  refine xWP_go 60 [(725, [0, 1, 2, 3])] fun P hP => ?_
  rw [(cp_Z_10 L xs (q := 714) (Nat.le_of_ble_eq_true rfl))]
  refine ⟨rfl, lw_ix 1 (by omega) hL, ?_⟩
  refine ⟨rfl, lw_ix 2 (by omega) hL, ?_⟩
  refine hP _ _ _ _ _ ?_
  refine xwHii _ _ ((cp_Z_11 L xs (q := 725) (Nat.le_of_ble_eq_true rfl)).trans rfl) (fun r F' v' => True ∧ hS v' ∧ agr (hA F' v') (hA F v)) (fun K k => hs_hadBy n F v I S _ _ (fun r F' v' S' A' => k _ F' v' ⟨trivial, S', A'⟩)) (fun r F' v' b' q => ?_)
  obtain ⟨er, S', A'⟩ := q
  refine xWP_go (pc := 728) 60 [(740, [0, 1, 2, 3])] fun P hP => ?_
  rw [(cp_Z_11 L xs (q := 728) (Nat.le_of_ble_eq_true rfl))]
  refine ⟨rfl, lw_ix 1 (by omega) hL, ?_⟩
  refine ⟨rfl, lw_ix 2 (by omega) hL, ?_⟩
  refine hP _ _ _ _ _ ?_
  refine xwMii _ _ ((cp_Z_11 L xs (q := 740) (Nat.le_of_ble_eq_true rfl)).trans rfl) (fun r F' v' => True ∧ mS F' v' ∧ agr (mA F' v') (mA F2 v2)) (fun K k => ms_hadBy n F2 v2 J S2 _ _ (fun r F' v' S' A' => k _ F' v' ⟨trivial, S', A'⟩)) (fun r3 F3 v3 b3 q => ?_)
  obtain ⟨er3, S3, A3⟩ := q
  refine xWP_go (pc := 743) 60 [(744, [0, 1, 2, 3])] fun P hP => ?_
  rw [(cp_Z_11 L xs (q := 743) (Nat.le_of_ble_eq_true rfl))]
  refine hP _ _ _ _ _ ?_
  refine xWP_goto [0, 1, 2, 3] ((cp_Z_11 L xs (q := 744) (Nat.le_of_ble_eq_true rfl)).trans rfl) ((cp_Z_28 L xs (q := 1575) (Nat.le_of_ble_eq_true rfl)).trans rfl) rfl (fun _ => rfl) (lw_bk L xs ?_)
  exact hk _ _ ⟨F', v', F3, v3, rfl, A'.tr (A.tr A3.sy), I.up.of A'.sy, S', S3⟩
set_option maxRecDepth 100000 in
theorem lw_c15 (L : Nat) (hL : L ≤ 3072) (xs : Nat → Int32) (i n : Nat) (hi : i + 6 ≤ L) (hn : n < 1000) (F v F2 v2 : xS) (A : agr (hA F v) (mA F2 v2)) (I : aIv n (hA F v)) (S : hS v) (S2 : mS F2 v2) (b : xB) (hk : ∀ w b, lwI (n + 1) w → xWP (pg_Z_law L xs) xK1 18 (xl1 (nI i + 6)) [] w b) : xWP (pg_Z_law L xs) xK1 747 (xl1 (nI i)) [] (xfill F v 0 wH0 ++ xfill F2 v2 0 (wM0 70)) b := by
  have J : aIv n (mA F2 v2) := I.of A
  refine xWP_go 60 [(763, [0, 1, 2, 3])] fun P hP => ?_
  rw [(cp_Z_11 L xs (q := 747) (Nat.le_of_ble_eq_true rfl))]
  refine ⟨rfl, lw_ix 1 (by omega) hL, ?_⟩
  refine ⟨rfl, lw_ix 2 (by omega) hL, ?_⟩
  refine ⟨rfl, lw_ix 3 (by omega) hL, ?_⟩
  refine hP _ _ _ _ _ ?_
  refine xwHiii _ _ _ ((cp_Z_11 L xs (q := 763) (Nat.le_of_ble_eq_true rfl)).trans rfl) (fun r F' v' => True ∧ hS v' ∧ agr (hA F' v') (hA F v)) (fun K k => hs_runsTo n F v I S _ _ _ (fun r F' v' S' A' => k _ F' v' ⟨trivial, S', A'⟩)) (fun r F' v' b' q => ?_)
  obtain ⟨er, S', A'⟩ := q
  refine xWP_go (pc := 766) 60 [(783, [0, 1, 2, 3])] fun P hP => ?_
  rw [(cp_Z_11 L xs (q := 766) (Nat.le_of_ble_eq_true rfl))]
  refine ⟨rfl, lw_ix 1 (by omega) hL, ?_⟩
  refine ⟨rfl, lw_ix 2 (by omega) hL, ?_⟩
  refine ⟨rfl, lw_ix 3 (by omega) hL, ?_⟩
  refine hP _ _ _ _ _ ?_
  refine xwMiii _ _ _ ((cp_Z_12 L xs (q := 783) (Nat.le_of_ble_eq_true rfl)).trans rfl) (fun r F' v' => True ∧ mS F' v' ∧ agr (mA F' v') (mA F2 v2)) (fun K k => ms_runsTo n F2 v2 J S2 _ _ _ (fun r F' v' S' A' => k _ F' v' ⟨trivial, S', A'⟩)) (fun r3 F3 v3 b3 q => ?_)
  obtain ⟨er3, S3, A3⟩ := q
  refine xWP_go (pc := 786) 60 [(787, [0, 1, 2, 3])] fun P hP => ?_
  rw [(cp_Z_12 L xs (q := 786) (Nat.le_of_ble_eq_true rfl))]
  refine hP _ _ _ _ _ ?_
  refine xWP_goto [0, 1, 2, 3] ((cp_Z_12 L xs (q := 787) (Nat.le_of_ble_eq_true rfl)).trans rfl) ((cp_Z_28 L xs (q := 1575) (Nat.le_of_ble_eq_true rfl)).trans rfl) rfl (fun _ => rfl) (lw_bk L xs ?_)
  exact hk _ _ ⟨F', v', F3, v3, rfl, A'.tr (A.tr A3.sy), I.up.of A'.sy, S', S3⟩
set_option maxRecDepth 100000 in
theorem lw_c16 (L : Nat) (hL : L ≤ 3072) (xs : Nat → Int32) (i n : Nat) (hi : i + 6 ≤ L) (hn : n < 1000) (F v F2 v2 : xS) (A : agr (hA F v) (mA F2 v2)) (I : aIv n (hA F v)) (S : hS v) (S2 : mS F2 v2) (b : xB) (hk : ∀ w b, lwI (n + 1) w → xWP (pg_Z_law L xs) xK1 18 (xl1 (nI i + 6)) [] w b) : xWP (pg_Z_law L xs) xK1 790 (xl1 (nI i)) [] (xfill F v 0 wH0 ++ xfill F2 v2 0 (wM0 70)) b := by
  have J : aIv n (mA F2 v2) := I.of A
  refine xWP_go 60 [(801, [0, 1, 2, 3])] fun P hP => ?_
  rw [(cp_Z_12 L xs (q := 790) (Nat.le_of_ble_eq_true rfl))]
  refine ⟨rfl, lw_ix 1 (by omega) hL, ?_⟩
  refine ⟨rfl, lw_ix 2 (by omega) hL, ?_⟩
  refine hP _ _ _ _ _ ?_
  refine xwHii _ _ ((cp_Z_12 L xs (q := 801) (Nat.le_of_ble_eq_true rfl)).trans rfl) (fun r F' v' => True ∧ hS v' ∧ agr (hA F' v') (hA F v)) (fun K k => hs_worst n F v I S _ _ (fun r F' v' S' A' => k _ F' v' ⟨trivial, S', A'⟩)) (fun r F' v' b' q => ?_)
  obtain ⟨er, S', A'⟩ := q
  refine xWP_go (pc := 804) 60 [(816, [0, 1, 2, 3])] fun P hP => ?_
  rw [(cp_Z_12 L xs (q := 804) (Nat.le_of_ble_eq_true rfl))]
  refine ⟨rfl, lw_ix 1 (by omega) hL, ?_⟩
  refine ⟨rfl, lw_ix 2 (by omega) hL, ?_⟩
  refine hP _ _ _ _ _ ?_
  refine xwMii _ _ ((cp_Z_13 L xs (q := 816) (Nat.le_of_ble_eq_true rfl)).trans rfl) (fun r F' v' => True ∧ mS F' v' ∧ agr (mA F' v') (mA F2 v2)) (fun K k => ms_worst n F2 v2 J S2 _ _ (fun r F' v' S' A' => k _ F' v' ⟨trivial, S', A'⟩)) (fun r3 F3 v3 b3 q => ?_)
  obtain ⟨er3, S3, A3⟩ := q
  refine xWP_go (pc := 819) 60 [(820, [0, 1, 2, 3])] fun P hP => ?_
  rw [(cp_Z_13 L xs (q := 819) (Nat.le_of_ble_eq_true rfl))]
  refine hP _ _ _ _ _ ?_
  refine xWP_goto [0, 1, 2, 3] ((cp_Z_13 L xs (q := 820) (Nat.le_of_ble_eq_true rfl)).trans rfl) ((cp_Z_28 L xs (q := 1575) (Nat.le_of_ble_eq_true rfl)).trans rfl) rfl (fun _ => rfl) (lw_bk L xs ?_)
  exact hk _ _ ⟨F', v', F3, v3, rfl, A'.tr (A.tr A3.sy), I.up.of A'.sy, S', S3⟩
set_option maxRecDepth 100000 in
theorem lw_c17 (L : Nat) (hL : L ≤ 3072) (xs : Nat → Int32) (i n : Nat) (hi : i + 6 ≤ L) (hn : n < 1000) (F v F2 v2 : xS) (A : agr (hA F v) (mA F2 v2)) (I : aIv n (hA F v)) (S : hS v) (S2 : mS F2 v2) (b : xB) (hk : ∀ w b, lwI (n + 1) w → xWP (pg_Z_law L xs) xK1 18 (xl1 (nI i + 6)) [] w b) : xWP (pg_Z_law L xs) xK1 823 (xl1 (nI i)) [] (xfill F v 0 wH0 ++ xfill F2 v2 0 (wM0 70)) b := by
  have J : aIv n (mA F2 v2) := I.of A
  refine xWP_go 60 [(834, [0, 1, 2, 3])] fun P hP => ?_
  rw [(cp_Z_13 L xs (q := 823) (Nat.le_of_ble_eq_true rfl))]
  refine ⟨rfl, lw_ix 1 (by omega) hL, ?_⟩
  refine ⟨rfl, lw_ix 2 (by omega) hL, ?_⟩
  refine hP _ _ _ _ _ ?_
  refine xwHii _ _ ((cp_Z_13 L xs (q := 834) (Nat.le_of_ble_eq_true rfl)).trans rfl) (fun r F' v' => True ∧ hS v' ∧ agr (hA F' v') (hA F v)) (fun K k => hs_best n F v I S _ _ (fun r F' v' S' A' => k _ F' v' ⟨trivial, S', A'⟩)) (fun r F' v' b' q => ?_)
  obtain ⟨er, S', A'⟩ := q
  refine xWP_go (pc := 837) 60 [(849, [0, 1, 2, 3])] fun P hP => ?_
  rw [(cp_Z_13 L xs (q := 837) (Nat.le_of_ble_eq_true rfl))]
  refine ⟨rfl, lw_ix 1 (by omega) hL, ?_⟩
  refine ⟨rfl, lw_ix 2 (by omega) hL, ?_⟩
  refine hP _ _ _ _ _ ?_
  refine xwMii _ _ ((cp_Z_13 L xs (q := 849) (Nat.le_of_ble_eq_true rfl)).trans rfl) (fun r F' v' => True ∧ mS F' v' ∧ agr (mA F' v') (mA F2 v2)) (fun K k => ms_best n F2 v2 J S2 _ _ (fun r F' v' S' A' => k _ F' v' ⟨trivial, S', A'⟩)) (fun r3 F3 v3 b3 q => ?_)
  obtain ⟨er3, S3, A3⟩ := q
  refine xWP_go (pc := 852) 60 [(853, [0, 1, 2, 3])] fun P hP => ?_
  rw [(cp_Z_13 L xs (q := 852) (Nat.le_of_ble_eq_true rfl))]
  refine hP _ _ _ _ _ ?_
  refine xWP_goto [0, 1, 2, 3] ((cp_Z_13 L xs (q := 853) (Nat.le_of_ble_eq_true rfl)).trans rfl) ((cp_Z_28 L xs (q := 1575) (Nat.le_of_ble_eq_true rfl)).trans rfl) rfl (fun _ => rfl) (lw_bk L xs ?_)
  exact hk _ _ ⟨F', v', F3, v3, rfl, A'.tr (A.tr A3.sy), I.up.of A'.sy, S', S3⟩
set_option maxRecDepth 100000 in
theorem lw_c18 (L : Nat) (hL : L ≤ 3072) (xs : Nat → Int32) (i n : Nat) (hi : i + 6 ≤ L) (hn : n < 1000) (F v F2 v2 : xS) (A : agr (hA F v) (mA F2 v2)) (I : aIv n (hA F v)) (S : hS v) (S2 : mS F2 v2) (b : xB) (hk : ∀ w b, lwI (n + 1) w → xWP (pg_Z_law L xs) xK1 18 (xl1 (nI i + 6)) [] w b) : xWP (pg_Z_law L xs) xK1 856 (xl1 (nI i)) [] (xfill F v 0 wH0 ++ xfill F2 v2 0 (wM0 70)) b := by
  have J : aIv n (mA F2 v2) := I.of A
  refine xWP_go 60 [(872, [0, 1, 2, 3])] fun P hP => ?_
  rw [(cp_Z_13 L xs (q := 856) (Nat.le_of_ble_eq_true rfl))]
  refine ⟨rfl, lw_ix 1 (by omega) hL, ?_⟩
  refine ⟨rfl, lw_ix 2 (by omega) hL, ?_⟩
  refine ⟨rfl, lw_ix 3 (by omega) hL, ?_⟩
  refine hP _ _ _ _ _ ?_
  refine xwHiii _ _ _ ((cp_Z_14 L xs (q := 872) (Nat.le_of_ble_eq_true rfl)).trans rfl) (fun r F' v' => True ∧ hS v' ∧ agr (hA F' v') (hA F v)) (fun K k => hs_stand n F v I S _ _ _ (fun r F' v' S' A' => k _ F' v' ⟨trivial, S', A'⟩)) (fun r F' v' b' q => ?_)
  obtain ⟨er, S', A'⟩ := q
  refine xWP_go (pc := 875) 60 [(892, [0, 1, 2, 3])] fun P hP => ?_
  rw [(cp_Z_14 L xs (q := 875) (Nat.le_of_ble_eq_true rfl))]
  refine ⟨rfl, lw_ix 1 (by omega) hL, ?_⟩
  refine ⟨rfl, lw_ix 2 (by omega) hL, ?_⟩
  refine ⟨rfl, lw_ix 3 (by omega) hL, ?_⟩
  refine hP _ _ _ _ _ ?_
  refine xwMiii _ _ _ ((cp_Z_14 L xs (q := 892) (Nat.le_of_ble_eq_true rfl)).trans rfl) (fun r F' v' => True ∧ mS F' v' ∧ agr (mA F' v') (mA F2 v2)) (fun K k => ms_stand n F2 v2 J S2 _ _ _ (fun r F' v' S' A' => k _ F' v' ⟨trivial, S', A'⟩)) (fun r3 F3 v3 b3 q => ?_)
  obtain ⟨er3, S3, A3⟩ := q
  refine xWP_go (pc := 895) 60 [(896, [0, 1, 2, 3])] fun P hP => ?_
  rw [(cp_Z_14 L xs (q := 895) (Nat.le_of_ble_eq_true rfl))]
  refine hP _ _ _ _ _ ?_
  refine xWP_goto [0, 1, 2, 3] ((cp_Z_14 L xs (q := 896) (Nat.le_of_ble_eq_true rfl)).trans rfl) ((cp_Z_28 L xs (q := 1575) (Nat.le_of_ble_eq_true rfl)).trans rfl) rfl (fun _ => rfl) (lw_bk L xs ?_)
  exact hk _ _ ⟨F', v', F3, v3, rfl, A'.tr (A.tr A3.sy), I.up.of A'.sy, S', S3⟩
set_option maxRecDepth 100000 in
theorem lw_c19 (L : Nat) (hL : L ≤ 3072) (xs : Nat → Int32) (i n : Nat) (hi : i + 6 ≤ L) (hn : n < 1000) (F v F2 v2 : xS) (A : agr (hA F v) (mA F2 v2)) (I : aIv n (hA F v)) (S : hS v) (S2 : mS F2 v2) (b : xB) (hk : ∀ w b, lwI (n + 1) w → xWP (pg_Z_law L xs) xK1 18 (xl1 (nI i + 6)) [] w b) : xWP (pg_Z_law L xs) xK1 899 (xl1 (nI i)) [] (xfill F v 0 wH0 ++ xfill F2 v2 0 (wM0 70)) b := by
  have J : aIv n (mA F2 v2) := I.of A
  refine xWP_go 60 [(905, [0, 1, 2, 3])] fun P hP => ?_
  rw [(cp_Z_14 L xs (q := 899) (Nat.le_of_ble_eq_true rfl))]
  refine ⟨rfl, lw_ix 1 (by omega) hL, ?_⟩
  refine hP _ _ _ _ _ ?_
  refine xwHi _ ((cp_Z_14 L xs (q := 905) (Nat.le_of_ble_eq_true rfl)).trans rfl) (fun r F' v' => True ∧ hS v' ∧ agr (hA F' v') (hA F v)) (fun K k => hs_steps n F v I S _ (fun r F' v' S' A' => k _ F' v' ⟨trivial, S', A'⟩)) (fun r F' v' b' q => ?_)
  obtain ⟨er, S', A'⟩ := q
  refine xWP_go (pc := 908) 60 [(915, [0, 1, 2, 3])] fun P hP => ?_
  rw [(cp_Z_14 L xs (q := 908) (Nat.le_of_ble_eq_true rfl))]
  refine ⟨rfl, lw_ix 1 (by omega) hL, ?_⟩
  refine hP _ _ _ _ _ ?_
  refine xwMi _ ((cp_Z_15 L xs (q := 915) (Nat.le_of_ble_eq_true rfl)).trans rfl) (fun r F' v' => True ∧ mS F' v' ∧ agr (mA F' v') (mA F2 v2)) (fun K k => ms_steps n F2 v2 J S2 _ (fun r F' v' S' A' => k _ F' v' ⟨trivial, S', A'⟩)) (fun r3 F3 v3 b3 q => ?_)
  obtain ⟨er3, S3, A3⟩ := q
  refine xWP_go (pc := 918) 60 [(919, [0, 1, 2, 3])] fun P hP => ?_
  rw [(cp_Z_15 L xs (q := 918) (Nat.le_of_ble_eq_true rfl))]
  refine hP _ _ _ _ _ ?_
  refine xWP_goto [0, 1, 2, 3] ((cp_Z_15 L xs (q := 919) (Nat.le_of_ble_eq_true rfl)).trans rfl) ((cp_Z_28 L xs (q := 1575) (Nat.le_of_ble_eq_true rfl)).trans rfl) rfl (fun _ => rfl) (lw_bk L xs ?_)
  exact hk _ _ ⟨F', v', F3, v3, rfl, A'.tr (A.tr A3.sy), I.up.of A'.sy, S', S3⟩
set_option maxRecDepth 100000 in
theorem lw_c20 (L : Nat) (hL : L ≤ 3072) (xs : Nat → Int32) (i n : Nat) (hi : i + 6 ≤ L) (hn : n < 1000) (F v F2 v2 : xS) (A : agr (hA F v) (mA F2 v2)) (I : aIv n (hA F v)) (S : hS v) (S2 : mS F2 v2) (b : xB) (hk : ∀ w b, lwI (n + 1) w → xWP (pg_Z_law L xs) xK1 18 (xl1 (nI i + 6)) [] w b) : xWP (pg_Z_law L xs) xK1 922 (xl1 (nI i)) [] (xfill F v 0 wH0 ++ xfill F2 v2 0 (wM0 70)) b := by
  have J : aIv n (mA F2 v2) := I.of A
  refine xWP_go 60 [(938, [0, 1, 2, 3])] fun P hP => ?_
  rw [(cp_Z_15 L xs (q := 922) (Nat.le_of_ble_eq_true rfl))]
  refine ⟨rfl, lw_ix 1 (by omega) hL, ?_⟩
  refine ⟨rfl, lw_ix 2 (by omega) hL, ?_⟩
  refine ⟨rfl, lw_ix 3 (by omega) hL, ?_⟩
  refine hP _ _ _ _ _ ?_
  refine xwHiii _ _ _ ((cp_Z_15 L xs (q := 938) (Nat.le_of_ble_eq_true rfl)).trans rfl) (fun r F' v' => True ∧ hS v' ∧ agr (hA F' v') (hA F v)) (fun K k => hs_take n F v I S _ _ _ (fun r F' v' S' A' => k _ F' v' ⟨trivial, S', A'⟩)) (fun r F' v' b' q => ?_)
  obtain ⟨er, S', A'⟩ := q
  refine xWP_go (pc := 941) 60 [(958, [0, 1, 2, 3])] fun P hP => ?_
  rw [(cp_Z_15 L xs (q := 941) (Nat.le_of_ble_eq_true rfl))]
  refine ⟨rfl, lw_ix 1 (by omega) hL, ?_⟩
  refine ⟨rfl, lw_ix 2 (by omega) hL, ?_⟩
  refine ⟨rfl, lw_ix 3 (by omega) hL, ?_⟩
  refine hP _ _ _ _ _ ?_
  refine xwMiii _ _ _ ((cp_Z_16 L xs (q := 958) (Nat.le_of_ble_eq_true rfl)).trans rfl) (fun r F' v' => True ∧ mS F' v' ∧ agr (mA F' v') (mA F2 v2)) (fun K k => ms_take n F2 v2 J S2 _ _ _ (fun r F' v' S' A' => k _ F' v' ⟨trivial, S', A'⟩)) (fun r3 F3 v3 b3 q => ?_)
  obtain ⟨er3, S3, A3⟩ := q
  refine xWP_go (pc := 961) 60 [(962, [0, 1, 2, 3])] fun P hP => ?_
  rw [(cp_Z_16 L xs (q := 961) (Nat.le_of_ble_eq_true rfl))]
  refine hP _ _ _ _ _ ?_
  refine xWP_goto [0, 1, 2, 3] ((cp_Z_16 L xs (q := 962) (Nat.le_of_ble_eq_true rfl)).trans rfl) ((cp_Z_28 L xs (q := 1575) (Nat.le_of_ble_eq_true rfl)).trans rfl) rfl (fun _ => rfl) (lw_bk L xs ?_)
  exact hk _ _ ⟨F', v', F3, v3, rfl, A'.tr (A.tr A3.sy), I.up.of A'.sy, S', S3⟩
set_option maxRecDepth 100000 in
theorem lw_c21 (L : Nat) (hL : L ≤ 3072) (xs : Nat → Int32) (i n : Nat) (hi : i + 6 ≤ L) (hn : n < 1000) (F v F2 v2 : xS) (A : agr (hA F v) (mA F2 v2)) (I : aIv n (hA F v)) (S : hS v) (S2 : mS F2 v2) (b : xB) (hk : ∀ w b, lwI (n + 1) w → xWP (pg_Z_law L xs) xK1 18 (xl1 (nI i + 6)) [] w b) : xWP (pg_Z_law L xs) xK1 965 (xl1 (nI i)) [] (xfill F v 0 wH0 ++ xfill F2 v2 0 (wM0 70)) b := by
  have J : aIv n (mA F2 v2) := I.of A
  refine xWP_go 60 [(981, [0, 1, 2, 3])] fun P hP => ?_
  rw [(cp_Z_16 L xs (q := 965) (Nat.le_of_ble_eq_true rfl))]
  refine ⟨rfl, lw_ix 1 (by omega) hL, ?_⟩
  refine ⟨rfl, lw_ix 2 (by omega) hL, ?_⟩
  refine ⟨rfl, lw_ix 3 (by omega) hL, ?_⟩
  refine hP _ _ _ _ _ ?_
  refine xwHiii _ _ _ ((cp_Z_16 L xs (q := 981) (Nat.le_of_ble_eq_true rfl)).trans rfl) (fun r F' v' => True ∧ hS v' ∧ agr (hA F' v') (hA F v)) (fun K k => hs_lay n F v I S _ _ _ (fun r F' v' S' A' => k _ F' v' ⟨trivial, S', A'⟩)) (fun r F' v' b' q => ?_)
  obtain ⟨er, S', A'⟩ := q
  refine xWP_go (pc := 984) 60 [(1001, [0, 1, 2, 3])] fun P hP => ?_
  rw [(cp_Z_16 L xs (q := 984) (Nat.le_of_ble_eq_true rfl))]
  refine ⟨rfl, lw_ix 1 (by omega) hL, ?_⟩
  refine ⟨rfl, lw_ix 2 (by omega) hL, ?_⟩
  refine ⟨rfl, lw_ix 3 (by omega) hL, ?_⟩
  refine hP _ _ _ _ _ ?_
  refine xwMiii _ _ _ ((cp_Z_16 L xs (q := 1001) (Nat.le_of_ble_eq_true rfl)).trans rfl) (fun r F' v' => True ∧ mS F' v' ∧ agr (mA F' v') (mA F2 v2)) (fun K k => ms_lay n F2 v2 J S2 _ _ _ (fun r F' v' S' A' => k _ F' v' ⟨trivial, S', A'⟩)) (fun r3 F3 v3 b3 q => ?_)
  obtain ⟨er3, S3, A3⟩ := q
  refine xWP_go (pc := 1004) 60 [(1005, [0, 1, 2, 3])] fun P hP => ?_
  rw [(cp_Z_16 L xs (q := 1004) (Nat.le_of_ble_eq_true rfl))]
  refine hP _ _ _ _ _ ?_
  refine xWP_goto [0, 1, 2, 3] ((cp_Z_16 L xs (q := 1005) (Nat.le_of_ble_eq_true rfl)).trans rfl) ((cp_Z_28 L xs (q := 1575) (Nat.le_of_ble_eq_true rfl)).trans rfl) rfl (fun _ => rfl) (lw_bk L xs ?_)
  exact hk _ _ ⟨F', v', F3, v3, rfl, A'.tr (A.tr A3.sy), I.up.of A'.sy, S', S3⟩
set_option maxRecDepth 100000 in
theorem lw_c22 (L : Nat) (hL : L ≤ 3072) (xs : Nat → Int32) (i n : Nat) (hi : i + 6 ≤ L) (hn : n < 1000) (F v F2 v2 : xS) (A : agr (hA F v) (mA F2 v2)) (I : aIv n (hA F v)) (S : hS v) (S2 : mS F2 v2) (b : xB) (hk : ∀ w b, lwI (n + 1) w → xWP (pg_Z_law L xs) xK1 18 (xl1 (nI i + 6)) [] w b) : xWP (pg_Z_law L xs) xK1 1008 (xl1 (nI i)) [] (xfill F v 0 wH0 ++ xfill F2 v2 0 (wM0 70)) b := by
  have J : aIv n (mA F2 v2) := I.of A
  refine xWP_go 60 [(1019, [0, 1, 2, 3])] fun P hP => ?_
  rw [(cp_Z_17 L xs (q := 1008) (Nat.le_of_ble_eq_true rfl))]
  refine ⟨rfl, lw_ix 1 (by omega) hL, ?_⟩
  refine ⟨rfl, lw_ix 2 (by omega) hL, ?_⟩
  refine hP _ _ _ _ _ ?_
  refine xwHii _ _ ((cp_Z_17 L xs (q := 1019) (Nat.le_of_ble_eq_true rfl)).trans rfl) (fun r F' v' => True ∧ hS v' ∧ agr (hA F' v') (hA F v)) (fun K k => hs_called n F v I S _ _ (fun r F' v' S' A' => k _ F' v' ⟨trivial, S', A'⟩)) (fun r F' v' b' q => ?_)
  obtain ⟨er, S', A'⟩ := q
  refine xWP_go (pc := 1022) 60 [(1034, [0, 1, 2, 3])] fun P hP => ?_
  rw [(cp_Z_17 L xs (q := 1022) (Nat.le_of_ble_eq_true rfl))]
  refine ⟨rfl, lw_ix 1 (by omega) hL, ?_⟩
  refine ⟨rfl, lw_ix 2 (by omega) hL, ?_⟩
  refine hP _ _ _ _ _ ?_
  refine xwMii _ _ ((cp_Z_17 L xs (q := 1034) (Nat.le_of_ble_eq_true rfl)).trans rfl) (fun r F' v' => True ∧ mS F' v' ∧ agr (mA F' v') (mA F2 v2)) (fun K k => ms_called n F2 v2 J S2 _ _ (fun r F' v' S' A' => k _ F' v' ⟨trivial, S', A'⟩)) (fun r3 F3 v3 b3 q => ?_)
  obtain ⟨er3, S3, A3⟩ := q
  refine xWP_go (pc := 1037) 60 [(1038, [0, 1, 2, 3])] fun P hP => ?_
  rw [(cp_Z_17 L xs (q := 1037) (Nat.le_of_ble_eq_true rfl))]
  refine hP _ _ _ _ _ ?_
  refine xWP_goto [0, 1, 2, 3] ((cp_Z_17 L xs (q := 1038) (Nat.le_of_ble_eq_true rfl)).trans rfl) ((cp_Z_28 L xs (q := 1575) (Nat.le_of_ble_eq_true rfl)).trans rfl) rfl (fun _ => rfl) (lw_bk L xs ?_)
  exact hk _ _ ⟨F', v', F3, v3, rfl, A'.tr (A.tr A3.sy), I.up.of A'.sy, S', S3⟩
set_option maxRecDepth 100000 in
theorem lw_c23 (L : Nat) (hL : L ≤ 3072) (xs : Nat → Int32) (i n : Nat) (hi : i + 6 ≤ L) (hn : n < 1000) (F v F2 v2 : xS) (A : agr (hA F v) (mA F2 v2)) (I : aIv n (hA F v)) (S : hS v) (S2 : mS F2 v2) (b : xB) (hk : ∀ w b, lwI (n + 1) w → xWP (pg_Z_law L xs) xK1 18 (xl1 (nI i + 6)) [] w b) : xWP (pg_Z_law L xs) xK1 1041 (xl1 (nI i)) [] (xfill F v 0 wH0 ++ xfill F2 v2 0 (wM0 70)) b := by
  have J : aIv n (mA F2 v2) := I.of A
  refine xWP_go 60 [(1052, [0, 1, 2, 3])] fun P hP => ?_
  rw [(cp_Z_17 L xs (q := 1041) (Nat.le_of_ble_eq_true rfl))]
  refine ⟨rfl, lw_ix 1 (by omega) hL, ?_⟩
  refine ⟨rfl, lw_ix 2 (by omega) hL, ?_⟩
  refine hP _ _ _ _ _ ?_
  refine xwHii _ _ ((cp_Z_17 L xs (q := 1052) (Nat.le_of_ble_eq_true rfl)).trans rfl) (fun r F' v' => True ∧ hS v' ∧ agr (hA F' v') (hA F v)) (fun K k => hs_parts n F v I S _ _ (fun r F' v' S' A' => k _ F' v' ⟨trivial, S', A'⟩)) (fun r F' v' b' q => ?_)
  obtain ⟨er, S', A'⟩ := q
  refine xWP_go (pc := 1055) 60 [(1067, [0, 1, 2, 3])] fun P hP => ?_
  rw [(cp_Z_17 L xs (q := 1055) (Nat.le_of_ble_eq_true rfl))]
  refine ⟨rfl, lw_ix 1 (by omega) hL, ?_⟩
  refine ⟨rfl, lw_ix 2 (by omega) hL, ?_⟩
  refine hP _ _ _ _ _ ?_
  refine xwMii _ _ ((cp_Z_18 L xs (q := 1067) (Nat.le_of_ble_eq_true rfl)).trans rfl) (fun r F' v' => True ∧ mS F' v' ∧ agr (mA F' v') (mA F2 v2)) (fun K k => ms_parts n F2 v2 J S2 _ _ (fun r F' v' S' A' => k _ F' v' ⟨trivial, S', A'⟩)) (fun r3 F3 v3 b3 q => ?_)
  obtain ⟨er3, S3, A3⟩ := q
  refine xWP_go (pc := 1070) 60 [(1071, [0, 1, 2, 3])] fun P hP => ?_
  rw [(cp_Z_18 L xs (q := 1070) (Nat.le_of_ble_eq_true rfl))]
  refine hP _ _ _ _ _ ?_
  refine xWP_goto [0, 1, 2, 3] ((cp_Z_18 L xs (q := 1071) (Nat.le_of_ble_eq_true rfl)).trans rfl) ((cp_Z_28 L xs (q := 1575) (Nat.le_of_ble_eq_true rfl)).trans rfl) rfl (fun _ => rfl) (lw_bk L xs ?_)
  exact hk _ _ ⟨F', v', F3, v3, rfl, A'.tr (A.tr A3.sy), I.up.of A'.sy, S', S3⟩
set_option maxRecDepth 100000 in
theorem lw_c24 (L : Nat) (hL : L ≤ 3072) (xs : Nat → Int32) (i n : Nat) (hi : i + 6 ≤ L) (hn : n < 1000) (F v F2 v2 : xS) (A : agr (hA F v) (mA F2 v2)) (I : aIv n (hA F v)) (S : hS v) (S2 : mS F2 v2) (b : xB) (hk : ∀ w b, lwI (n + 1) w → xWP (pg_Z_law L xs) xK1 18 (xl1 (nI i + 6)) [] w b) : xWP (pg_Z_law L xs) xK1 1074 (xl1 (nI i)) [] (xfill F v 0 wH0 ++ xfill F2 v2 0 (wM0 70)) b := by
  have J : aIv n (mA F2 v2) := I.of A
  refine xWP_go 60 [(1080, [0, 1, 2, 3])] fun P hP => ?_
  rw [(cp_Z_18 L xs (q := 1074) (Nat.le_of_ble_eq_true rfl))]
  refine ⟨rfl, lw_ix 1 (by omega) hL, ?_⟩
  refine hP _ _ _ _ _ ?_
  refine xwHi _ ((cp_Z_18 L xs (q := 1080) (Nat.le_of_ble_eq_true rfl)).trans rfl) (fun r F' v' => True ∧ hS v' ∧ agr (hA F' v') (hA F v)) (fun K k => hs_never n F v I S _ (fun r F' v' S' A' => k _ F' v' ⟨trivial, S', A'⟩)) (fun r F' v' b' q => ?_)
  obtain ⟨er, S', A'⟩ := q
  refine xWP_go (pc := 1083) 60 [(1090, [0, 1, 2, 3])] fun P hP => ?_
  rw [(cp_Z_18 L xs (q := 1083) (Nat.le_of_ble_eq_true rfl))]
  refine ⟨rfl, lw_ix 1 (by omega) hL, ?_⟩
  refine hP _ _ _ _ _ ?_
  refine xwMi _ ((cp_Z_18 L xs (q := 1090) (Nat.le_of_ble_eq_true rfl)).trans rfl) (fun r F' v' => True ∧ mS F' v' ∧ agr (mA F' v') (mA F2 v2)) (fun K k => ms_never n F2 v2 J S2 _ (fun r F' v' S' A' => k _ F' v' ⟨trivial, S', A'⟩)) (fun r3 F3 v3 b3 q => ?_)
  obtain ⟨er3, S3, A3⟩ := q
  refine xWP_go (pc := 1093) 60 [(1094, [0, 1, 2, 3])] fun P hP => ?_
  rw [(cp_Z_18 L xs (q := 1093) (Nat.le_of_ble_eq_true rfl))]
  refine hP _ _ _ _ _ ?_
  refine xWP_goto [0, 1, 2, 3] ((cp_Z_18 L xs (q := 1094) (Nat.le_of_ble_eq_true rfl)).trans rfl) ((cp_Z_28 L xs (q := 1575) (Nat.le_of_ble_eq_true rfl)).trans rfl) rfl (fun _ => rfl) (lw_bk L xs ?_)
  exact hk _ _ ⟨F', v', F3, v3, rfl, A'.tr (A.tr A3.sy), I.up.of A'.sy, S', S3⟩
set_option maxRecDepth 100000 in
theorem lw_c25 (L : Nat) (hL : L ≤ 3072) (xs : Nat → Int32) (i n : Nat) (hi : i + 6 ≤ L) (hn : n < 1000) (F v F2 v2 : xS) (A : agr (hA F v) (mA F2 v2)) (I : aIv n (hA F v)) (S : hS v) (S2 : mS F2 v2) (b : xB) (hk : ∀ w b, lwI (n + 1) w → xWP (pg_Z_law L xs) xK1 18 (xl1 (nI i + 6)) [] w b) : xWP (pg_Z_law L xs) xK1 1097 (xl1 (nI i)) [] (xfill F v 0 wH0 ++ xfill F2 v2 0 (wM0 70)) b := by
  have J : aIv n (mA F2 v2) := I.of A
  refine xWP_go 60 [(1113, [0, 1, 2, 3])] fun P hP => ?_
  rw [(cp_Z_18 L xs (q := 1097) (Nat.le_of_ble_eq_true rfl))]
  refine ⟨rfl, lw_ix 1 (by omega) hL, ?_⟩
  refine ⟨rfl, lw_ix 2 (by omega) hL, ?_⟩
  refine ⟨rfl, lw_ix 3 (by omega) hL, ?_⟩
  refine hP _ _ _ _ _ ?_
  refine xwHiii _ _ _ ((cp_Z_19 L xs (q := 1113) (Nat.le_of_ble_eq_true rfl)).trans rfl) (fun r F' v' => True ∧ hS v' ∧ agr (hA F' v') (hA F v)) (fun K k => hs_series n F v I S _ _ _ (fun r F' v' S' A' => k _ F' v' ⟨trivial, S', A'⟩)) (fun r F' v' b' q => ?_)
  obtain ⟨er, S', A'⟩ := q
  refine xWP_go (pc := 1116) 60 [(1133, [0, 1, 2, 3])] fun P hP => ?_
  rw [(cp_Z_19 L xs (q := 1116) (Nat.le_of_ble_eq_true rfl))]
  refine ⟨rfl, lw_ix 1 (by omega) hL, ?_⟩
  refine ⟨rfl, lw_ix 2 (by omega) hL, ?_⟩
  refine ⟨rfl, lw_ix 3 (by omega) hL, ?_⟩
  refine hP _ _ _ _ _ ?_
  refine xwMiii _ _ _ ((cp_Z_19 L xs (q := 1133) (Nat.le_of_ble_eq_true rfl)).trans rfl) (fun r F' v' => True ∧ mS F' v' ∧ agr (mA F' v') (mA F2 v2)) (fun K k => ms_series n F2 v2 J S2 _ _ _ (fun r F' v' S' A' => k _ F' v' ⟨trivial, S', A'⟩)) (fun r3 F3 v3 b3 q => ?_)
  obtain ⟨er3, S3, A3⟩ := q
  refine xWP_go (pc := 1136) 60 [(1137, [0, 1, 2, 3])] fun P hP => ?_
  rw [(cp_Z_19 L xs (q := 1136) (Nat.le_of_ble_eq_true rfl))]
  refine hP _ _ _ _ _ ?_
  refine xWP_goto [0, 1, 2, 3] ((cp_Z_19 L xs (q := 1137) (Nat.le_of_ble_eq_true rfl)).trans rfl) ((cp_Z_28 L xs (q := 1575) (Nat.le_of_ble_eq_true rfl)).trans rfl) rfl (fun _ => rfl) (lw_bk L xs ?_)
  exact hk _ _ ⟨F', v', F3, v3, rfl, A'.tr (A.tr A3.sy), I.up.of A'.sy, S', S3⟩
set_option maxRecDepth 100000 in
theorem lw_c26 (L : Nat) (hL : L ≤ 3072) (xs : Nat → Int32) (i n : Nat) (hi : i + 6 ≤ L) (hn : n < 1000) (F v F2 v2 : xS) (A : agr (hA F v) (mA F2 v2)) (I : aIv n (hA F v)) (S : hS v) (S2 : mS F2 v2) (b : xB) (hk : ∀ w b, lwI (n + 1) w → xWP (pg_Z_law L xs) xK1 18 (xl1 (nI i + 6)) [] w b) : xWP (pg_Z_law L xs) xK1 1140 (xl1 (nI i)) [] (xfill F v 0 wH0 ++ xfill F2 v2 0 (wM0 70)) b := by
  have J : aIv n (mA F2 v2) := I.of A
  refine xWP_go 60 [(1156, [0, 1, 2, 3])] fun P hP => ?_
  rw [(cp_Z_19 L xs (q := 1140) (Nat.le_of_ble_eq_true rfl))]
  refine ⟨rfl, lw_ix 1 (by omega) hL, ?_⟩
  refine ⟨rfl, lw_ix 2 (by omega) hL, ?_⟩
  refine ⟨rfl, lw_ix 3 (by omega) hL, ?_⟩
  refine hP _ _ _ _ _ ?_
  refine xwHiii _ _ _ ((cp_Z_20 L xs (q := 1156) (Nat.le_of_ble_eq_true rfl)).trans rfl) (fun r F' v' => True ∧ hS v' ∧ agr (hA F' v') (hA F v)) (fun K k => hs_odds n F v I S _ _ _ (fun r F' v' S' A' => k _ F' v' ⟨trivial, S', A'⟩)) (fun r F' v' b' q => ?_)
  obtain ⟨er, S', A'⟩ := q
  refine xWP_go (pc := 1159) 60 [(1176, [0, 1, 2, 3])] fun P hP => ?_
  rw [(cp_Z_20 L xs (q := 1159) (Nat.le_of_ble_eq_true rfl))]
  refine ⟨rfl, lw_ix 1 (by omega) hL, ?_⟩
  refine ⟨rfl, lw_ix 2 (by omega) hL, ?_⟩
  refine ⟨rfl, lw_ix 3 (by omega) hL, ?_⟩
  refine hP _ _ _ _ _ ?_
  refine xwMiii _ _ _ ((cp_Z_20 L xs (q := 1176) (Nat.le_of_ble_eq_true rfl)).trans rfl) (fun r F' v' => True ∧ mS F' v' ∧ agr (mA F' v') (mA F2 v2)) (fun K k => ms_odds n F2 v2 J S2 _ _ _ (fun r F' v' S' A' => k _ F' v' ⟨trivial, S', A'⟩)) (fun r3 F3 v3 b3 q => ?_)
  obtain ⟨er3, S3, A3⟩ := q
  refine xWP_go (pc := 1179) 60 [(1180, [0, 1, 2, 3])] fun P hP => ?_
  rw [(cp_Z_20 L xs (q := 1179) (Nat.le_of_ble_eq_true rfl))]
  refine hP _ _ _ _ _ ?_
  refine xWP_goto [0, 1, 2, 3] ((cp_Z_20 L xs (q := 1180) (Nat.le_of_ble_eq_true rfl)).trans rfl) ((cp_Z_28 L xs (q := 1575) (Nat.le_of_ble_eq_true rfl)).trans rfl) rfl (fun _ => rfl) (lw_bk L xs ?_)
  exact hk _ _ ⟨F', v', F3, v3, rfl, A'.tr (A.tr A3.sy), I.up.of A'.sy, S', S3⟩
set_option maxRecDepth 100000 in
theorem lw_c27 (L : Nat) (hL : L ≤ 3072) (xs : Nat → Int32) (i n : Nat) (hi : i + 6 ≤ L) (hn : n < 1000) (F v F2 v2 : xS) (A : agr (hA F v) (mA F2 v2)) (I : aIv n (hA F v)) (S : hS v) (S2 : mS F2 v2) (b : xB) (hk : ∀ w b, lwI (n + 1) w → xWP (pg_Z_law L xs) xK1 18 (xl1 (nI i + 6)) [] w b) : xWP (pg_Z_law L xs) xK1 1183 (xl1 (nI i)) [] (xfill F v 0 wH0 ++ xfill F2 v2 0 (wM0 70)) b := by
  have J : aIv n (mA F2 v2) := I.of A
  refine xWP_go 60 [(1189, [0, 1, 2, 3])] fun P hP => ?_
  rw [(cp_Z_20 L xs (q := 1183) (Nat.le_of_ble_eq_true rfl))]
  refine ⟨rfl, lw_ix 1 (by omega) hL, ?_⟩
  refine hP _ _ _ _ _ ?_
  refine xwHi _ ((cp_Z_20 L xs (q := 1189) (Nat.le_of_ble_eq_true rfl)).trans rfl) (fun r F' v' => r = f_seed _ (hA F v) ∧ hS v' ∧ agr (hA F' v') (g_seed _ (hA F v))) (fun K k => hs_seed n F v I S _ (fun F' v' S' A' => k _ F' v' ⟨rfl, S', A'⟩)) (fun r F' v' b' q => ?_)
  obtain ⟨er, S', A'⟩ := q
  refine xWP_go (pc := 1192) 60 [(1199, [0, 1, 2, 3])] fun P hP => ?_
  rw [(cp_Z_20 L xs (q := 1192) (Nat.le_of_ble_eq_true rfl))]
  refine ⟨rfl, lw_ix 1 (by omega) hL, ?_⟩
  refine hP _ _ _ _ _ ?_
  refine xwMi _ ((cp_Z_20 L xs (q := 1199) (Nat.le_of_ble_eq_true rfl)).trans rfl) (fun r F' v' => r = f_seed _ (mA F2 v2) ∧ mS F' v' ∧ agr (mA F' v') (g_seed _ (mA F2 v2))) (fun K k => ms_seed n F2 v2 J S2 _ (fun F' v' S' A' => k _ F' v' ⟨rfl, S', A'⟩)) (fun r3 F3 v3 b3 q => ?_)
  obtain ⟨er3, S3, A3⟩ := q
  refine xWP_go (pc := 1202) 60 [(1203, [0, 1, 2, 3])] fun P hP => ?_
  rw [(cp_Z_21 L xs (q := 1202) (Nat.le_of_ble_eq_true rfl))]
  refine hP _ _ _ _ _ ?_
  refine xWP_goto [0, 1, 2, 3] ((cp_Z_21 L xs (q := 1203) (Nat.le_of_ble_eq_true rfl)).trans rfl) ((cp_Z_28 L xs (q := 1575) (Nat.le_of_ble_eq_true rfl)).trans rfl) rfl (fun _ => rfl) (lw_bk L xs ?_)
  exact hk _ _ ⟨F', v', F3, v3, rfl, A'.tr ((pg_seed A _).tr A3.sy), (pi_seed I _).up.of A'.sy, S', S3⟩
set_option maxRecDepth 100000 in
theorem lw_c28 (L : Nat) (hL : L ≤ 3072) (xs : Nat → Int32) (i n : Nat) (hi : i + 6 ≤ L) (hn : n < 1000) (F v F2 v2 : xS) (A : agr (hA F v) (mA F2 v2)) (I : aIv n (hA F v)) (S : hS v) (S2 : mS F2 v2) (b : xB) (hk : ∀ w b, lwI (n + 1) w → xWP (pg_Z_law L xs) xK1 18 (xl1 (nI i + 6)) [] w b) : xWP (pg_Z_law L xs) xK1 1206 (xl1 (nI i)) [] (xfill F v 0 wH0 ++ xfill F2 v2 0 (wM0 70)) b := by
  have J : aIv n (mA F2 v2) := I.of A
  refine xWP_go 60 [(1222, [0, 1, 2, 3])] fun P hP => ?_
  rw [(cp_Z_21 L xs (q := 1206) (Nat.le_of_ble_eq_true rfl))]
  refine ⟨rfl, lw_ix 1 (by omega) hL, ?_⟩
  refine ⟨rfl, lw_ix 2 (by omega) hL, ?_⟩
  refine ⟨rfl, lw_ix 3 (by omega) hL, ?_⟩
  refine hP _ _ _ _ _ ?_
  refine xwHiii _ _ _ ((cp_Z_21 L xs (q := 1222) (Nat.le_of_ble_eq_true rfl)).trans rfl) (fun r F' v' => r = f_voice _ _ _ (hA F v) ∧ hS v' ∧ agr (hA F' v') (g_voice _ _ _ (hA F v))) (fun K k => hs_voice n F v I S _ _ _ (fun F' v' S' A' => k _ F' v' ⟨rfl, S', A'⟩)) (fun r F' v' b' q => ?_)
  obtain ⟨er, S', A'⟩ := q
  refine xWP_go (pc := 1225) 60 [(1242, [0, 1, 2, 3])] fun P hP => ?_
  rw [(cp_Z_21 L xs (q := 1225) (Nat.le_of_ble_eq_true rfl))]
  refine ⟨rfl, lw_ix 1 (by omega) hL, ?_⟩
  refine ⟨rfl, lw_ix 2 (by omega) hL, ?_⟩
  refine ⟨rfl, lw_ix 3 (by omega) hL, ?_⟩
  refine hP _ _ _ _ _ ?_
  refine xwMiii _ _ _ ((cp_Z_21 L xs (q := 1242) (Nat.le_of_ble_eq_true rfl)).trans rfl) (fun r F' v' => r = f_voice _ _ _ (mA F2 v2) ∧ mS F' v' ∧ agr (mA F' v') (g_voice _ _ _ (mA F2 v2))) (fun K k => ms_voice n F2 v2 J S2 _ _ _ (fun F' v' S' A' => k _ F' v' ⟨rfl, S', A'⟩)) (fun r3 F3 v3 b3 q => ?_)
  obtain ⟨er3, S3, A3⟩ := q
  refine xWP_go (pc := 1245) 60 [(1246, [0, 1, 2, 3])] fun P hP => ?_
  rw [(cp_Z_21 L xs (q := 1245) (Nat.le_of_ble_eq_true rfl))]
  refine hP _ _ _ _ _ ?_
  refine xWP_goto [0, 1, 2, 3] ((cp_Z_21 L xs (q := 1246) (Nat.le_of_ble_eq_true rfl)).trans rfl) ((cp_Z_28 L xs (q := 1575) (Nat.le_of_ble_eq_true rfl)).trans rfl) rfl (fun _ => rfl) (lw_bk L xs ?_)
  exact hk _ _ ⟨F', v', F3, v3, rfl, A'.tr ((pg_voice A I _ _ _).tr A3.sy), (pi_voice I _ _ _).up.of A'.sy, S', S3⟩
set_option maxRecDepth 100000 in
theorem lw_c29 (L : Nat) (hL : L ≤ 3072) (xs : Nat → Int32) (i n : Nat) (hi : i + 6 ≤ L) (hn : n < 1000) (F v F2 v2 : xS) (A : agr (hA F v) (mA F2 v2)) (I : aIv n (hA F v)) (S : hS v) (S2 : mS F2 v2) (b : xB) (hk : ∀ w b, lwI (n + 1) w → xWP (pg_Z_law L xs) xK1 18 (xl1 (nI i + 6)) [] w b) : xWP (pg_Z_law L xs) xK1 1249 (xl1 (nI i)) [] (xfill F v 0 wH0 ++ xfill F2 v2 0 (wM0 70)) b := by
  have J : aIv n (mA F2 v2) := I.of A
  refine xWP_go 60 [(1255, [0, 1, 2, 3])] fun P hP => ?_
  rw [(cp_Z_21 L xs (q := 1249) (Nat.le_of_ble_eq_true rfl))]
  refine ⟨rfl, lw_ix 1 (by omega) hL, ?_⟩
  refine hP _ _ _ _ _ ?_
  refine xwHi _ ((cp_Z_22 L xs (q := 1255) (Nat.le_of_ble_eq_true rfl)).trans rfl) (fun r F' v' => r = f_trace _ (hA F v) ∧ hS v' ∧ agr (hA F' v') (hA F v)) (fun K k => hs_trace n F v I S _ (fun F' v' S' A' => k _ F' v' ⟨rfl, S', A'⟩)) (fun r F' v' b' q => ?_)
  obtain ⟨er, S', A'⟩ := q
  refine xWP_go (pc := 1258) 60 [(1265, [0, 1, 2, 3])] fun P hP => ?_
  rw [(cp_Z_22 L xs (q := 1258) (Nat.le_of_ble_eq_true rfl))]
  refine ⟨rfl, lw_ix 1 (by omega) hL, ?_⟩
  refine hP _ _ _ _ _ ?_
  refine xwMi _ ((cp_Z_22 L xs (q := 1265) (Nat.le_of_ble_eq_true rfl)).trans rfl) (fun r F' v' => r = f_trace _ (mA F2 v2) ∧ mS F' v' ∧ agr (mA F' v') (mA F2 v2)) (fun K k => ms_trace n F2 v2 J S2 _ (fun F' v' S' A' => k _ F' v' ⟨rfl, S', A'⟩)) (fun r3 F3 v3 b3 q => ?_)
  obtain ⟨er3, S3, A3⟩ := q
  refine xWP_go (pc := 1268) 60 [(1269, [0, 1, 2, 3])] fun P hP => ?_
  rw [(cp_Z_22 L xs (q := 1268) (Nat.le_of_ble_eq_true rfl))]
  refine hP _ _ _ _ _ ?_
  refine xWP_goto [0, 1, 2, 3] ((cp_Z_22 L xs (q := 1269) (Nat.le_of_ble_eq_true rfl)).trans rfl) ((cp_Z_28 L xs (q := 1575) (Nat.le_of_ble_eq_true rfl)).trans rfl) rfl (fun _ => rfl) (lw_bk L xs ?_)
  exact hk _ _ ⟨F', v', F3, v3, rfl, A'.tr (A.tr A3.sy), I.up.of A'.sy, S', S3⟩
set_option maxRecDepth 100000 in
theorem lw_c30 (L : Nat) (hL : L ≤ 3072) (xs : Nat → Int32) (i n : Nat) (hi : i + 6 ≤ L) (hn : n < 1000) (F v F2 v2 : xS) (A : agr (hA F v) (mA F2 v2)) (I : aIv n (hA F v)) (S : hS v) (S2 : mS F2 v2) (b : xB) (hk : ∀ w b, lwI (n + 1) w → xWP (pg_Z_law L xs) xK1 18 (xl1 (nI i + 6)) [] w b) : xWP (pg_Z_law L xs) xK1 1272 (xl1 (nI i)) [] (xfill F v 0 wH0 ++ xfill F2 v2 0 (wM0 70)) b := by
  have J : aIv n (mA F2 v2) := I.of A
  refine xWP_go 60 [(1288, [0, 1, 2, 3])] fun P hP => ?_
  rw [(cp_Z_22 L xs (q := 1272) (Nat.le_of_ble_eq_true rfl))]
  refine ⟨rfl, lw_ix 1 (by omega) hL, ?_⟩
  refine ⟨rfl, lw_ix 2 (by omega) hL, ?_⟩
  refine ⟨rfl, lw_ix 3 (by omega) hL, ?_⟩
  refine hP _ _ _ _ _ ?_
  refine xwHiii _ _ _ ((cp_Z_22 L xs (q := 1288) (Nat.le_of_ble_eq_true rfl)).trans rfl) (fun r F' v' => r = f_sheet _ _ _ (hA F v) ∧ hS v' ∧ agr (hA F' v') (g_sheet _ _ _ (hA F v))) (fun K k => hs_sheet n F v I S _ _ _ (fun F' v' S' A' => k _ F' v' ⟨rfl, S', A'⟩)) (fun r F' v' b' q => ?_)
  obtain ⟨er, S', A'⟩ := q
  refine xWP_go (pc := 1291) 60 [(1308, [0, 1, 2, 3])] fun P hP => ?_
  rw [(cp_Z_22 L xs (q := 1291) (Nat.le_of_ble_eq_true rfl))]
  refine ⟨rfl, lw_ix 1 (by omega) hL, ?_⟩
  refine ⟨rfl, lw_ix 2 (by omega) hL, ?_⟩
  refine ⟨rfl, lw_ix 3 (by omega) hL, ?_⟩
  refine hP _ _ _ _ _ ?_
  refine xwMiii _ _ _ ((cp_Z_23 L xs (q := 1308) (Nat.le_of_ble_eq_true rfl)).trans rfl) (fun r F' v' => r = f_sheet _ _ _ (mA F2 v2) ∧ mS F' v' ∧ agr (mA F' v') (g_sheet _ _ _ (mA F2 v2))) (fun K k => ms_sheet n F2 v2 J S2 _ _ _ (fun F' v' S' A' => k _ F' v' ⟨rfl, S', A'⟩)) (fun r3 F3 v3 b3 q => ?_)
  obtain ⟨er3, S3, A3⟩ := q
  refine xWP_go (pc := 1311) 60 [(1312, [0, 1, 2, 3])] fun P hP => ?_
  rw [(cp_Z_23 L xs (q := 1311) (Nat.le_of_ble_eq_true rfl))]
  refine hP _ _ _ _ _ ?_
  refine xWP_goto [0, 1, 2, 3] ((cp_Z_23 L xs (q := 1312) (Nat.le_of_ble_eq_true rfl)).trans rfl) ((cp_Z_28 L xs (q := 1575) (Nat.le_of_ble_eq_true rfl)).trans rfl) rfl (fun _ => rfl) (lw_bk L xs ?_)
  exact hk _ _ ⟨F', v', F3, v3, rfl, A'.tr ((pg_sheet A _ _ _).tr A3.sy), (pi_sheet I _ _ _).up.of A'.sy, S', S3⟩
set_option maxRecDepth 100000 in
theorem lw_c31 (L : Nat) (hL : L ≤ 3072) (xs : Nat → Int32) (i n : Nat) (hi : i + 6 ≤ L) (hn : n < 1000) (F v F2 v2 : xS) (A : agr (hA F v) (mA F2 v2)) (I : aIv n (hA F v)) (S : hS v) (S2 : mS F2 v2) (b : xB) (hk : ∀ w b, lwI (n + 1) w → xWP (pg_Z_law L xs) xK1 18 (xl1 (nI i + 6)) [] w b) : xWP (pg_Z_law L xs) xK1 1315 (xl1 (nI i)) [] (xfill F v 0 wH0 ++ xfill F2 v2 0 (wM0 70)) b := by
  have J : aIv n (mA F2 v2) := I.of A
  refine xWP_go 60 [(1331, [0, 1, 2, 3])] fun P hP => ?_
  rw [(cp_Z_23 L xs (q := 1315) (Nat.le_of_ble_eq_true rfl))]
  refine ⟨rfl, lw_ix 1 (by omega) hL, ?_⟩
  refine ⟨rfl, lw_ix 2 (by omega) hL, ?_⟩
  refine ⟨rfl, lw_ix 3 (by omega) hL, ?_⟩
  refine hP _ _ _ _ _ ?_
  refine xwHiii _ _ _ ((cp_Z_23 L xs (q := 1331) (Nat.le_of_ble_eq_true rfl)).trans rfl) (fun r F' v' => r = f_put _ _ _ (hA F v) ∧ hS v' ∧ agr (hA F' v') (g_put _ _ _ (hA F v))) (fun K k => hs_put n F v I S _ _ _ (fun F' v' S' A' => k _ F' v' ⟨rfl, S', A'⟩)) (fun r F' v' b' q => ?_)
  obtain ⟨er, S', A'⟩ := q
  refine xWP_go (pc := 1334) 60 [(1350, [0, 1, 2, 3])] fun P hP => ?_
  rw [(cp_Z_23 L xs (q := 1334) (Nat.le_of_ble_eq_true rfl))]
  refine ⟨rfl, lw_ix 1 (by omega) hL, ?_⟩
  refine ⟨rfl, lw_ix 2 (by omega) hL, ?_⟩
  refine ⟨rfl, lw_ix 3 (by omega) hL, ?_⟩
  refine hP _ _ _ _ _ ?_
  refine xwMiii1 _ _ _ ((cp_Z_24 L xs (q := 1350) (Nat.le_of_ble_eq_true rfl)).trans rfl) (fun r F' v' => r = f_put _ _ _ (mA F2 v2) ∧ mS F' v' ∧ agr (mA F' v') (g_put _ _ _ (mA F2 v2))) (fun K k => ms_put n F2 v2 J S2 _ _ _ (fun F' v' S' A' => k _ F' v' ⟨rfl, S', A'⟩)) (fun r3 F3 v3 b3 q => ?_)
  obtain ⟨er3, S3, A3⟩ := q
  refine xWP_go (pc := 1353) 60 [(18, [0, 1, 2, 3])] fun P hP => ?_
  rw [(cp_Z_24 L xs (q := 1353) (Nat.le_of_ble_eq_true rfl))]
  refine br_c (fun _ => ?_) (fun z => absurd (er.trans ((pf_put A _ _ _).trans er3.symm)) z)
  refine hP _ _ _ _ _ ?_
  exact hk _ _ ⟨F', v', F3, v3, rfl, A'.tr ((pg_put A _ _ _).tr A3.sy), (pi_put I _ _ _).up.of A'.sy, S', S3⟩
set_option maxRecDepth 100000 in
theorem lw_c32 (L : Nat) (hL : L ≤ 3072) (xs : Nat → Int32) (i n : Nat) (hi : i + 6 ≤ L) (hn : n < 1000) (F v F2 v2 : xS) (A : agr (hA F v) (mA F2 v2)) (I : aIv n (hA F v)) (S : hS v) (S2 : mS F2 v2) (b : xB) (hk : ∀ w b, lwI (n + 1) w → xWP (pg_Z_law L xs) xK1 18 (xl1 (nI i + 6)) [] w b) : xWP (pg_Z_law L xs) xK1 1358 (xl1 (nI i)) [] (xfill F v 0 wH0 ++ xfill F2 v2 0 (wM0 70)) b := by
  have J : aIv n (mA F2 v2) := I.of A
  refine xWP_go 60 [(1384, [0, 1, 2, 3])] fun P hP => ?_
  rw [(cp_Z_24 L xs (q := 1358) (Nat.le_of_ble_eq_true rfl))]
  refine ⟨rfl, lw_ix 1 (by omega) hL, ?_⟩
  refine ⟨rfl, lw_ix 2 (by omega) hL, ?_⟩
  refine ⟨rfl, lw_ix 3 (by omega) hL, ?_⟩
  refine ⟨rfl, lw_ix 4 (by omega) hL, ?_⟩
  refine ⟨rfl, lw_ix 5 (by omega) hL, ?_⟩
  refine hP _ _ _ _ _ ?_
  refine xwHiiiii _ _ _ _ _ ((cp_Z_24 L xs (q := 1384) (Nat.le_of_ble_eq_true rfl)).trans rfl) (fun r F' v' => r = f_move _ _ _ _ _ (hA F v) ∧ hS v' ∧ agr (hA F' v') (g_move _ _ _ _ _ (hA F v))) (fun K k => hs_move n F v I S _ _ _ _ _ (fun F' v' S' A' => k _ F' v' ⟨rfl, S', A'⟩)) (fun r F' v' b' q => ?_)
  obtain ⟨er, S', A'⟩ := q
  refine xWP_go (pc := 1387) 60 [(1414, [0, 1, 2, 3])] fun P hP => ?_
  rw [(cp_Z_24 L xs (q := 1387) (Nat.le_of_ble_eq_true rfl))]
  refine ⟨rfl, lw_ix 1 (by omega) hL, ?_⟩
  refine ⟨rfl, lw_ix 2 (by omega) hL, ?_⟩
  refine ⟨rfl, lw_ix 3 (by omega) hL, ?_⟩
  refine ⟨rfl, lw_ix 4 (by omega) hL, ?_⟩
  refine ⟨rfl, lw_ix 5 (by omega) hL, ?_⟩
  refine hP _ _ _ _ _ ?_
  refine xwMiiiii _ _ _ _ _ ((cp_Z_25 L xs (q := 1414) (Nat.le_of_ble_eq_true rfl)).trans rfl) (fun r F' v' => r = f_move _ _ _ _ _ (mA F2 v2) ∧ mS F' v' ∧ agr (mA F' v') (g_move _ _ _ _ _ (mA F2 v2))) (fun K k => ms_move n F2 v2 J S2 _ _ _ _ _ (fun F' v' S' A' => k _ F' v' ⟨rfl, S', A'⟩)) (fun r3 F3 v3 b3 q => ?_)
  obtain ⟨er3, S3, A3⟩ := q
  refine xWP_go (pc := 1417) 60 [(1418, [0, 1, 2, 3])] fun P hP => ?_
  rw [(cp_Z_25 L xs (q := 1417) (Nat.le_of_ble_eq_true rfl))]
  refine hP _ _ _ _ _ ?_
  refine xWP_goto [0, 1, 2, 3] ((cp_Z_25 L xs (q := 1418) (Nat.le_of_ble_eq_true rfl)).trans rfl) ((cp_Z_28 L xs (q := 1575) (Nat.le_of_ble_eq_true rfl)).trans rfl) rfl (fun _ => rfl) (lw_bk L xs ?_)
  exact hk _ _ ⟨F', v', F3, v3, rfl, A'.tr ((pg_move A I _ _ _ _ _).tr A3.sy), (pi_move I _ _ _ _ _).up.of A'.sy, S', S3⟩
set_option maxRecDepth 100000 in
theorem lw_c33 (L : Nat) (hL : L ≤ 3072) (xs : Nat → Int32) (i n : Nat) (hi : i + 6 ≤ L) (hn : n < 1000) (F v F2 v2 : xS) (A : agr (hA F v) (mA F2 v2)) (I : aIv n (hA F v)) (S : hS v) (S2 : mS F2 v2) (b : xB) (hk : ∀ w b, lwI (n + 1) w → xWP (pg_Z_law L xs) xK1 18 (xl1 (nI i + 6)) [] w b) : xWP (pg_Z_law L xs) xK1 1421 (xl1 (nI i)) [] (xfill F v 0 wH0 ++ xfill F2 v2 0 (wM0 70)) b := by
  have J : aIv n (mA F2 v2) := I.of A
  refine xWP_go 60 [(1427, [0, 1, 2, 3])] fun P hP => ?_
  rw [(cp_Z_25 L xs (q := 1421) (Nat.le_of_ble_eq_true rfl))]
  refine ⟨rfl, lw_ix 1 (by omega) hL, ?_⟩
  refine hP _ _ _ _ _ ?_
  refine xwHi _ ((cp_Z_25 L xs (q := 1427) (Nat.le_of_ble_eq_true rfl)).trans rfl) (fun r F' v' => True ∧ hS v' ∧ agr (hA F' v') (hA F v)) (fun K k => hs_places n F v I S _ (fun r F' v' S' A' => k _ F' v' ⟨trivial, S', A'⟩)) (fun r F' v' b' q => ?_)
  obtain ⟨er, S', A'⟩ := q
  refine xWP_go (pc := 1430) 60 [(1437, [0, 1, 2, 3])] fun P hP => ?_
  rw [(cp_Z_25 L xs (q := 1430) (Nat.le_of_ble_eq_true rfl))]
  refine ⟨rfl, lw_ix 1 (by omega) hL, ?_⟩
  refine hP _ _ _ _ _ ?_
  refine xwMi _ ((cp_Z_26 L xs (q := 1437) (Nat.le_of_ble_eq_true rfl)).trans rfl) (fun r F' v' => True ∧ mS F' v' ∧ agr (mA F' v') (mA F2 v2)) (fun K k => ms_places n F2 v2 J S2 _ (fun r F' v' S' A' => k _ F' v' ⟨trivial, S', A'⟩)) (fun r3 F3 v3 b3 q => ?_)
  obtain ⟨er3, S3, A3⟩ := q
  refine xWP_go (pc := 1440) 60 [(1441, [0, 1, 2, 3])] fun P hP => ?_
  rw [(cp_Z_26 L xs (q := 1440) (Nat.le_of_ble_eq_true rfl))]
  refine hP _ _ _ _ _ ?_
  refine xWP_goto [0, 1, 2, 3] ((cp_Z_26 L xs (q := 1441) (Nat.le_of_ble_eq_true rfl)).trans rfl) ((cp_Z_28 L xs (q := 1575) (Nat.le_of_ble_eq_true rfl)).trans rfl) rfl (fun _ => rfl) (lw_bk L xs ?_)
  exact hk _ _ ⟨F', v', F3, v3, rfl, A'.tr (A.tr A3.sy), I.up.of A'.sy, S', S3⟩
set_option maxRecDepth 100000 in
theorem lw_c34 (L : Nat) (hL : L ≤ 3072) (xs : Nat → Int32) (i n : Nat) (hi : i + 6 ≤ L) (hn : n < 1000) (F v F2 v2 : xS) (A : agr (hA F v) (mA F2 v2)) (I : aIv n (hA F v)) (S : hS v) (S2 : mS F2 v2) (b : xB) (hk : ∀ w b, lwI (n + 1) w → xWP (pg_Z_law L xs) xK1 18 (xl1 (nI i + 6)) [] w b) : xWP (pg_Z_law L xs) xK1 1444 (xl1 (nI i)) [] (xfill F v 0 wH0 ++ xfill F2 v2 0 (wM0 70)) b := by
  have J : aIv n (mA F2 v2) := I.of A
  refine xWP_go 60 [(1450, [0, 1, 2, 3])] fun P hP => ?_
  rw [(cp_Z_26 L xs (q := 1444) (Nat.le_of_ble_eq_true rfl))]
  refine ⟨rfl, lw_ix 1 (by omega) hL, ?_⟩
  refine hP _ _ _ _ _ ?_
  refine xwHi _ ((cp_Z_26 L xs (q := 1450) (Nat.le_of_ble_eq_true rfl)).trans rfl) (fun r F' v' => True ∧ hS v' ∧ agr (hA F' v') (hA F v)) (fun K k => hs_judge n F v I S _ (fun r F' v' S' A' => k _ F' v' ⟨trivial, S', A'⟩)) (fun r F' v' b' q => ?_)
  obtain ⟨er, S', A'⟩ := q
  refine xWP_go (pc := 1453) 60 [(1460, [0, 1, 2, 3])] fun P hP => ?_
  rw [(cp_Z_26 L xs (q := 1453) (Nat.le_of_ble_eq_true rfl))]
  refine ⟨rfl, lw_ix 1 (by omega) hL, ?_⟩
  refine hP _ _ _ _ _ ?_
  refine xwMi _ ((cp_Z_26 L xs (q := 1460) (Nat.le_of_ble_eq_true rfl)).trans rfl) (fun r F' v' => True ∧ mS F' v' ∧ agr (mA F' v') (mA F2 v2)) (fun K k => ms_judge n F2 v2 J S2 _ (fun r F' v' S' A' => k _ F' v' ⟨trivial, S', A'⟩)) (fun r3 F3 v3 b3 q => ?_)
  obtain ⟨er3, S3, A3⟩ := q
  refine xWP_go (pc := 1463) 60 [(1464, [0, 1, 2, 3])] fun P hP => ?_
  rw [(cp_Z_26 L xs (q := 1463) (Nat.le_of_ble_eq_true rfl))]
  refine hP _ _ _ _ _ ?_
  refine xWP_goto [0, 1, 2, 3] ((cp_Z_26 L xs (q := 1464) (Nat.le_of_ble_eq_true rfl)).trans rfl) ((cp_Z_28 L xs (q := 1575) (Nat.le_of_ble_eq_true rfl)).trans rfl) rfl (fun _ => rfl) (lw_bk L xs ?_)
  exact hk _ _ ⟨F', v', F3, v3, rfl, A'.tr (A.tr A3.sy), I.up.of A'.sy, S', S3⟩
set_option maxRecDepth 100000 in
theorem lw_c35 (L : Nat) (hL : L ≤ 3072) (xs : Nat → Int32) (i n : Nat) (hi : i + 6 ≤ L) (hn : n < 1000) (F v F2 v2 : xS) (A : agr (hA F v) (mA F2 v2)) (I : aIv n (hA F v)) (S : hS v) (S2 : mS F2 v2) (b : xB) (hk : ∀ w b, lwI (n + 1) w → xWP (pg_Z_law L xs) xK1 18 (xl1 (nI i + 6)) [] w b) : xWP (pg_Z_law L xs) xK1 1467 (xl1 (nI i)) [] (xfill F v 0 wH0 ++ xfill F2 v2 0 (wM0 70)) b := by
  have J : aIv n (mA F2 v2) := I.of A
  refine xWP_go 60 [(1468, [0, 1, 2, 3])] fun P hP => ?_
  rw [(cp_Z_26 L xs (q := 1467) (Nat.le_of_ble_eq_true rfl))]
  refine hP _ _ _ _ _ ?_
  refine xwH ((cp_Z_26 L xs (q := 1468) (Nat.le_of_ble_eq_true rfl)).trans rfl) (fun r F' v' => r = f_image (hA F v) ∧ hS v' ∧ agr (hA F' v') (g_image (hA F v))) (fun K k => hs_image n F v I S (fun F' v' S' A' => k _ F' v' ⟨rfl, S', A'⟩)) (fun r F' v' b' q => ?_)
  obtain ⟨er, S', A'⟩ := q
  refine xWP_go (pc := 1471) 60 [(1473, [0, 1, 2, 3])] fun P hP => ?_
  rw [(cp_Z_26 L xs (q := 1471) (Nat.le_of_ble_eq_true rfl))]
  refine hP _ _ _ _ _ ?_
  refine xwM ((cp_Z_26 L xs (q := 1473) (Nat.le_of_ble_eq_true rfl)).trans rfl) (fun r F' v' => r = f_image (mA F2 v2) ∧ mS F' v' ∧ agr (mA F' v') (g_image (mA F2 v2))) (fun K k => ms_image n F2 v2 J S2 hn (fun F' v' S' A' => k _ F' v' ⟨rfl, S', A'⟩)) (fun r3 F3 v3 b3 q => ?_)
  obtain ⟨er3, S3, A3⟩ := q
  refine xWP_go (pc := 1476) 60 [(1477, [0, 1, 2, 3])] fun P hP => ?_
  rw [(cp_Z_26 L xs (q := 1476) (Nat.le_of_ble_eq_true rfl))]
  refine hP _ _ _ _ _ ?_
  refine xWP_goto [0, 1, 2, 3] ((cp_Z_26 L xs (q := 1477) (Nat.le_of_ble_eq_true rfl)).trans rfl) ((cp_Z_28 L xs (q := 1575) (Nat.le_of_ble_eq_true rfl)).trans rfl) rfl (fun _ => rfl) (lw_bk L xs ?_)
  exact hk _ _ ⟨F', v', F3, v3, rfl, A'.tr ((pg_image A).tr A3.sy), (pi_image I).of A'.sy, S', S3⟩
set_option maxRecDepth 100000 in
theorem lw_c36 (L : Nat) (hL : L ≤ 3072) (xs : Nat → Int32) (i n : Nat) (hi : i + 6 ≤ L) (hn : n < 1000) (F v F2 v2 : xS) (A : agr (hA F v) (mA F2 v2)) (I : aIv n (hA F v)) (S : hS v) (S2 : mS F2 v2) (b : xB) (hk : ∀ w b, lwI (n + 1) w → xWP (pg_Z_law L xs) xK1 18 (xl1 (nI i + 6)) [] w b) : xWP (pg_Z_law L xs) xK1 1480 (xl1 (nI i)) [] (xfill F v 0 wH0 ++ xfill F2 v2 0 (wM0 70)) b := by
  have J : aIv n (mA F2 v2) := I.of A
  refine xWP_go 60 [(1481, [0, 1, 2, 3])] fun P hP => ?_
  rw [(cp_Z_26 L xs (q := 1480) (Nat.le_of_ble_eq_true rfl))]
  refine hP _ _ _ _ _ ?_
  refine xwH ((cp_Z_26 L xs (q := 1481) (Nat.le_of_ble_eq_true rfl)).trans rfl) (fun r F' v' => r = f_restore (hA F v) ∧ hS v' ∧ agr (hA F' v') (g_restore (hA F v))) (fun K k => hs_restore n F v I S (fun F' v' S' A' => k _ F' v' ⟨rfl, S', A'⟩)) (fun r F' v' b' q => ?_)
  obtain ⟨er, S', A'⟩ := q
  refine xWP_go (pc := 1484) 60 [(1486, [0, 1, 2, 3])] fun P hP => ?_
  rw [(cp_Z_26 L xs (q := 1484) (Nat.le_of_ble_eq_true rfl))]
  refine hP _ _ _ _ _ ?_
  refine xwM ((cp_Z_26 L xs (q := 1486) (Nat.le_of_ble_eq_true rfl)).trans rfl) (fun r F' v' => r = f_restore (mA F2 v2) ∧ mS F' v' ∧ agr (mA F' v') (g_restore (mA F2 v2))) (fun K k => ms_restore n F2 v2 J S2 (fun F' v' S' A' => k _ F' v' ⟨rfl, S', A'⟩)) (fun r3 F3 v3 b3 q => ?_)
  obtain ⟨er3, S3, A3⟩ := q
  refine xWP_go (pc := 1489) 60 [(1490, [0, 1, 2, 3])] fun P hP => ?_
  rw [(cp_Z_26 L xs (q := 1489) (Nat.le_of_ble_eq_true rfl))]
  refine hP _ _ _ _ _ ?_
  refine xWP_goto [0, 1, 2, 3] ((cp_Z_26 L xs (q := 1490) (Nat.le_of_ble_eq_true rfl)).trans rfl) ((cp_Z_28 L xs (q := 1575) (Nat.le_of_ble_eq_true rfl)).trans rfl) rfl (fun _ => rfl) (lw_bk L xs ?_)
  exact hk _ _ ⟨F', v', F3, v3, rfl, A'.tr ((pg_restore A).tr A3.sy), (pi_restore I).up.of A'.sy, S', S3⟩
set_option maxRecDepth 100000 in
theorem lw_c37 (L : Nat) (hL : L ≤ 3072) (xs : Nat → Int32) (i n : Nat) (hi : i + 6 ≤ L) (hn : n < 1000) (F v F2 v2 : xS) (A : agr (hA F v) (mA F2 v2)) (I : aIv n (hA F v)) (S : hS v) (S2 : mS F2 v2) (b : xB) (hk : ∀ w b, lwI (n + 1) w → xWP (pg_Z_law L xs) xK1 18 (xl1 (nI i + 6)) [] w b) : xWP (pg_Z_law L xs) xK1 1493 (xl1 (nI i)) [] (xfill F v 0 wH0 ++ xfill F2 v2 0 (wM0 70)) b := by
  have J : aIv n (mA F2 v2) := I.of A
  refine xWP_go 60 [(1499, [0, 1, 2, 3])] fun P hP => ?_
  rw [(cp_Z_26 L xs (q := 1493) (Nat.le_of_ble_eq_true rfl))]
  refine ⟨rfl, lw_ix 1 (by omega) hL, ?_⟩
  refine hP _ _ _ _ _ ?_
  refine xwHi _ ((cp_Z_27 L xs (q := 1499) (Nat.le_of_ble_eq_true rfl)).trans rfl) (fun r F' v' => r = f_tell _ (hA F v) ∧ hS v' ∧ agr (hA F' v') (g_tell _ (hA F v))) (fun K k => hs_tell n F v I S _ (fun F' v' S' A' => k _ F' v' ⟨rfl, S', A'⟩)) (fun r F' v' b' q => ?_)
  obtain ⟨er, S', A'⟩ := q
  refine xWP_go (pc := 1502) 60 [(1509, [0, 1, 2, 3])] fun P hP => ?_
  rw [(cp_Z_27 L xs (q := 1502) (Nat.le_of_ble_eq_true rfl))]
  refine ⟨rfl, lw_ix 1 (by omega) hL, ?_⟩
  refine hP _ _ _ _ _ ?_
  refine xwMi _ ((cp_Z_27 L xs (q := 1509) (Nat.le_of_ble_eq_true rfl)).trans rfl) (fun r F' v' => r = f_tell _ (mA F2 v2) ∧ mS F' v' ∧ agr (mA F' v') (g_tell _ (mA F2 v2))) (fun K k => ms_tell n F2 v2 J S2 _ (fun F' v' S' A' => k _ F' v' ⟨rfl, S', A'⟩)) (fun r3 F3 v3 b3 q => ?_)
  obtain ⟨er3, S3, A3⟩ := q
  refine xWP_go (pc := 1512) 60 [(1513, [0, 1, 2, 3])] fun P hP => ?_
  rw [(cp_Z_27 L xs (q := 1512) (Nat.le_of_ble_eq_true rfl))]
  refine hP _ _ _ _ _ ?_
  refine xWP_goto [0, 1, 2, 3] ((cp_Z_27 L xs (q := 1513) (Nat.le_of_ble_eq_true rfl)).trans rfl) ((cp_Z_28 L xs (q := 1575) (Nat.le_of_ble_eq_true rfl)).trans rfl) rfl (fun _ => rfl) (lw_bk L xs ?_)
  exact hk _ _ ⟨F', v', F3, v3, rfl, A'.tr ((pg_tell A I _).tr A3.sy), (pi_tell I _).up.of A'.sy, S', S3⟩
set_option maxRecDepth 100000 in
theorem lw_c38 (L : Nat) (hL : L ≤ 3072) (xs : Nat → Int32) (i n : Nat) (hi : i + 6 ≤ L) (hn : n < 1000) (F v F2 v2 : xS) (A : agr (hA F v) (mA F2 v2)) (I : aIv n (hA F v)) (S : hS v) (S2 : mS F2 v2) (b : xB) (hk : ∀ w b, lwI (n + 1) w → xWP (pg_Z_law L xs) xK1 18 (xl1 (nI i + 6)) [] w b) : xWP (pg_Z_law L xs) xK1 1516 (xl1 (nI i)) [] (xfill F v 0 wH0 ++ xfill F2 v2 0 (wM0 70)) b := by
  have J : aIv n (mA F2 v2) := I.of A
  refine xWP_go 60 [(1517, [0, 1, 2, 3])] fun P hP => ?_
  rw [(cp_Z_27 L xs (q := 1516) (Nat.le_of_ble_eq_true rfl))]
  refine hP _ _ _ _ _ ?_
  refine xwH ((cp_Z_27 L xs (q := 1517) (Nat.le_of_ble_eq_true rfl)).trans rfl) (fun r F' v' => True ∧ hS v' ∧ agr (hA F' v') (g_check (hA F v))) (fun K k => hs_check n F v I S (fun r F' v' S' A' => k _ F' v' ⟨trivial, S', A'⟩)) (fun r F' v' b' q => ?_)
  obtain ⟨er, S', A'⟩ := q
  refine xWP_go (pc := 1520) 60 [(1522, [0, 1, 2, 3])] fun P hP => ?_
  rw [(cp_Z_27 L xs (q := 1520) (Nat.le_of_ble_eq_true rfl))]
  refine hP _ _ _ _ _ ?_
  refine xwM ((cp_Z_27 L xs (q := 1522) (Nat.le_of_ble_eq_true rfl)).trans rfl) (fun r F' v' => True ∧ mS F' v' ∧ agr (mA F' v') (g_check (mA F2 v2))) (fun K k => ms_check n F2 v2 J S2 (fun r F' v' S' A' => k _ F' v' ⟨trivial, S', A'⟩)) (fun r3 F3 v3 b3 q => ?_)
  obtain ⟨er3, S3, A3⟩ := q
  refine xWP_go (pc := 1525) 60 [(1526, [0, 1, 2, 3])] fun P hP => ?_
  rw [(cp_Z_27 L xs (q := 1525) (Nat.le_of_ble_eq_true rfl))]
  refine hP _ _ _ _ _ ?_
  refine xWP_goto [0, 1, 2, 3] ((cp_Z_27 L xs (q := 1526) (Nat.le_of_ble_eq_true rfl)).trans rfl) ((cp_Z_28 L xs (q := 1575) (Nat.le_of_ble_eq_true rfl)).trans rfl) rfl (fun _ => rfl) (lw_bk L xs ?_)
  exact hk _ _ ⟨F', v', F3, v3, rfl, A'.tr ((pg_check A).tr A3.sy), (pi_check I).up.of A'.sy, S', S3⟩
set_option maxRecDepth 100000 in
theorem lw_c39 (L : Nat) (hL : L ≤ 3072) (xs : Nat → Int32) (i n : Nat) (hi : i + 6 ≤ L) (hn : n < 1000) (F v F2 v2 : xS) (A : agr (hA F v) (mA F2 v2)) (I : aIv n (hA F v)) (S : hS v) (S2 : mS F2 v2) (b : xB) (hk : ∀ w b, lwI (n + 1) w → xWP (pg_Z_law L xs) xK1 18 (xl1 (nI i + 6)) [] w b) : xWP (pg_Z_law L xs) xK1 1529 (xl1 (nI i)) [] (xfill F v 0 wH0 ++ xfill F2 v2 0 (wM0 70)) b := by
  have J : aIv n (mA F2 v2) := I.of A
  refine xWP_go 60 [(1535, [0, 1, 2, 3])] fun P hP => ?_
  rw [(cp_Z_27 L xs (q := 1529) (Nat.le_of_ble_eq_true rfl))]
  refine ⟨rfl, lw_ix 1 (by omega) hL, ?_⟩
  refine hP _ _ _ _ _ ?_
  refine xwHi _ ((cp_Z_27 L xs (q := 1535) (Nat.le_of_ble_eq_true rfl)).trans rfl) (fun r F' v' => True ∧ hS v' ∧ agr (hA F' v') (hA F v)) (fun K k => hs_count n F v I S _ (fun r F' v' S' A' => k _ F' v' ⟨trivial, S', A'⟩)) (fun r F' v' b' q => ?_)
  obtain ⟨er, S', A'⟩ := q
  refine xWP_go (pc := 1538) 60 [(1545, [0, 1, 2, 3])] fun P hP => ?_
  rw [(cp_Z_27 L xs (q := 1538) (Nat.le_of_ble_eq_true rfl))]
  refine ⟨rfl, lw_ix 1 (by omega) hL, ?_⟩
  refine hP _ _ _ _ _ ?_
  refine xwMi _ ((cp_Z_27 L xs (q := 1545) (Nat.le_of_ble_eq_true rfl)).trans rfl) (fun r F' v' => True ∧ mS F' v' ∧ agr (mA F' v') (mA F2 v2)) (fun K k => ms_count n F2 v2 J S2 _ (fun r F' v' S' A' => k _ F' v' ⟨trivial, S', A'⟩)) (fun r3 F3 v3 b3 q => ?_)
  obtain ⟨er3, S3, A3⟩ := q
  refine xWP_go (pc := 1548) 60 [(1549, [0, 1, 2, 3])] fun P hP => ?_
  rw [(cp_Z_27 L xs (q := 1548) (Nat.le_of_ble_eq_true rfl))]
  refine hP _ _ _ _ _ ?_
  refine xWP_goto [0, 1, 2, 3] ((cp_Z_27 L xs (q := 1549) (Nat.le_of_ble_eq_true rfl)).trans rfl) ((cp_Z_28 L xs (q := 1575) (Nat.le_of_ble_eq_true rfl)).trans rfl) rfl (fun _ => rfl) (lw_bk L xs ?_)
  exact hk _ _ ⟨F', v', F3, v3, rfl, A'.tr (A.tr A3.sy), I.up.of A'.sy, S', S3⟩
set_option maxRecDepth 100000 in
theorem lw_c40 (L : Nat) (hL : L ≤ 3072) (xs : Nat → Int32) (i n : Nat) (hi : i + 6 ≤ L) (hn : n < 1000) (F v F2 v2 : xS) (A : agr (hA F v) (mA F2 v2)) (I : aIv n (hA F v)) (S : hS v) (S2 : mS F2 v2) (b : xB) (hk : ∀ w b, lwI (n + 1) w → xWP (pg_Z_law L xs) xK1 18 (xl1 (nI i + 6)) [] w b) : xWP (pg_Z_law L xs) xK1 1552 (xl1 (nI i)) [] (xfill F v 0 wH0 ++ xfill F2 v2 0 (wM0 70)) b := by
  have J : aIv n (mA F2 v2) := I.of A
  refine xWP_go 60 [(1558, [0, 1, 2, 3])] fun P hP => ?_
  rw [(cp_Z_27 L xs (q := 1552) (Nat.le_of_ble_eq_true rfl))]
  refine ⟨rfl, lw_ix 1 (by omega) hL, ?_⟩
  refine hP _ _ _ _ _ ?_
  refine xwHi _ ((cp_Z_28 L xs (q := 1558) (Nat.le_of_ble_eq_true rfl)).trans rfl) (fun r F' v' => True ∧ hS v' ∧ agr (hA F' v') (hA F v)) (fun K k => hs_told n F v I S _ (fun r F' v' S' A' => k _ F' v' ⟨trivial, S', A'⟩)) (fun r F' v' b' q => ?_)
  obtain ⟨er, S', A'⟩ := q
  refine xWP_go (pc := 1561) 60 [(1568, [0, 1, 2, 3])] fun P hP => ?_
  rw [(cp_Z_28 L xs (q := 1561) (Nat.le_of_ble_eq_true rfl))]
  refine ⟨rfl, lw_ix 1 (by omega) hL, ?_⟩
  refine hP _ _ _ _ _ ?_
  refine xwMi _ ((cp_Z_28 L xs (q := 1568) (Nat.le_of_ble_eq_true rfl)).trans rfl) (fun r F' v' => True ∧ mS F' v' ∧ agr (mA F' v') (mA F2 v2)) (fun K k => ms_told n F2 v2 J S2 _ (fun r F' v' S' A' => k _ F' v' ⟨trivial, S', A'⟩)) (fun r3 F3 v3 b3 q => ?_)
  obtain ⟨er3, S3, A3⟩ := q
  refine xWP_go (pc := 1571) 60 [(1572, [0, 1, 2, 3])] fun P hP => ?_
  rw [(cp_Z_28 L xs (q := 1571) (Nat.le_of_ble_eq_true rfl))]
  refine hP _ _ _ _ _ ?_
  refine xWP_goto [0, 1, 2, 3] ((cp_Z_28 L xs (q := 1572) (Nat.le_of_ble_eq_true rfl)).trans rfl) ((cp_Z_28 L xs (q := 1575) (Nat.le_of_ble_eq_true rfl)).trans rfl) rfl (fun _ => rfl) (lw_bk L xs ?_)
  exact hk _ _ ⟨F', v', F3, v3, rfl, A'.tr (A.tr A3.sy), I.up.of A'.sy, S', S3⟩
